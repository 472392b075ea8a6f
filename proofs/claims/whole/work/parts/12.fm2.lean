noncomputable def fX12_isDark (A0 : AH) (o0 : Option Nat) (a1 : Int32) (a2 : Int32) : Option (Int32) :=
  (rcv A0 13 o0).bind fun o0 =>
  (fX12_size A0 ((some o0)) a1).bind fun r1 =>
  jp (fun (x6 : Int32) =>
    (gR A0 13 400 ((some o0))).bind fun v7 =>
    (aI A0 14 v7 a2).bind fun v8 =>
    (gR A0 13 400 ((some o0))).bind fun v9 =>
    (aI A0 14 v9 x6).bind fun v10 =>
    (rmI ((v8 - v10)) 2).bind fun v11 =>
    if v11 = 0 then
      some 1
    else
      some 0) fun K2 =>
    if r1 = 0 then
      K2 0
    else
      (fX12_leftCorner A0 ((some o0)) a1 0).bind fun r3 =>
      (fX12_faceOf A0 ((some o0)) r3).bind fun r4 =>
      K2 r4
set_option maxRecDepth 100000 in
set_option maxHeartbeats 4000000 in
theorem kX12_isDark (l : Launch) {A0 : AH} {o0 : Option Nat} {a1 : Int32} {a2 : Int32} {r : Int32} (h : fX12_isDark A0 o0 a1 a2 = some r) : (∃ a, o0 = some a ∧ Hk A0 a = 13) ∧ Cn l yX12_isDark cX12_isDark 4 (some .boolean) 4 93 0 0 [vR o0, vI a1, vI a2] A0 (some (vI r)) A0 := by
  unfold fX12_isDark at h
  replace h := bnd_e h
  obtain ⟨o1, e1, h⟩ := h
  obtain ⟨rfl, hk0⟩ := rcv_e e1
  refine ⟨⟨o1, rfl, hk0⟩, ?_⟩
  refine Cn.of (pad := 1) (lv0 := [some (vR (some o1)), some (vI a1), some (vI a2), none]) (by decide +kernel) (Nat.le_of_ble_eq_true rfl) rfl ?_
  intro p e s m below meth c base D cy E
  generalize (List.map toV [vR (some o1), vI a1, vI a2]).toArray = ar at E ⊢
  have E : EN p s m ar meth c D cy RX12 cX12_isDark 4 (some .boolean) "isDark" := E
  refine v_aload_n E dX12_isDark_0 rfl ?_
  refine v_iload_n E dX12_isDark_1 rfl ?_
  replace h := bnd_e h
  obtain ⟨r1, er1, h⟩ := h
  refine v_callV (na := 1) (As := [vI a1]) (rest := []) (ci := 12) (q := (RX12, TX12, 20)) E gw12_59 (by decide +kernel) rfl rfl (by decide) (kX12_size l er1).2 (kX12_size l er1).1 rfl rfl dX12_isDark_2 ⟨Nat.le_of_ble_eq_true rfl, Nat.le_of_ble_eq_true rfl⟩ ⟨(Nat.le_of_ble_eq_true rfl), (Nat.le_of_ble_eq_true rfl)⟩ (Nat.le_of_ble_eq_true rfl) ?_
  refine jp_use h (fun K2 eK2 h => ?_)
  have hK2 : ∀ x6 : Int32, K2 x6 = some r → V p l e { frames := 4, cells := 0, slots := 0, locals := 93 } s m ar below meth c (MQ below (Qd base D cy (some (vI r)) A0) ar s 0 0 (fun q => base ≤ q)) base D cy 4 22 [some (vR (some o1)), none, some (vI a2), none] [vI x6] A0 0 0 := by
    intro x6 h
    rw [eK2] at h
    try dsimp only at h
    refine v_istore_n (lv' := [some (vR (some o1)), none, some (vI a2), some (vI x6)]) E dX12_isDark_22 (by decide) rfl ?_
    refine v_aload_n E dX12_isDark_23 rfl ?_
    replace h := bnd_e h
    obtain ⟨v7, ev7, h⟩ := h
    refine g12_39 E ev7 dX12_isDark_24 ?_
    refine v_iload_n E dX12_isDark_27 rfl ?_
    replace h := bnd_e h
    obtain ⟨v8, ev8, h⟩ := h
    refine v_iaload E ev8 dX12_isDark_28 ?_
    refine v_aload_n E dX12_isDark_29 rfl ?_
    replace h := bnd_e h
    obtain ⟨v9, ev9, h⟩ := h
    refine g12_39 E ev9 dX12_isDark_30 ?_
    refine v_iload_n E dX12_isDark_33 rfl ?_
    replace h := bnd_e h
    obtain ⟨v10, ev10, h⟩ := h
    refine v_iaload E ev10 dX12_isDark_34 ?_
    refine v_isub E dX12_isDark_35 ?_
    refine v_iconst (v := 2) E dX12_isDark_36 (by decide) ?_
    replace h := bnd_e h
    obtain ⟨v11, ev11, h⟩ := h
    refine v_irem E ev11 dX12_isDark_37 ?_
    refine v_if_ne (tgt := 45) E dX12_isDark_38 (by decide) (fun c12 => ?_) (fun c12 => ?_)
    · rw [if_neg c12] at h
      refine v_iconst (v := 0) E dX12_isDark_45 (by decide) ?_
      replace h := Option.some.inj h
      subst h
      refine v_widen (k' := 0) (n' := 0) (Nat.le_of_ble_eq_true rfl) (Nat.le_of_ble_eq_true rfl) ?_
      exact v_zret E (Or.inl rfl) dX12_isDark_46
    · rw [if_pos c12] at h
      refine v_iconst (v := 1) E dX12_isDark_41 (by decide) ?_
      refine v_goto (tgt := 46) E dX12_isDark_42 (by decide) ?_
      replace h := Option.some.inj h
      subst h
      refine v_widen (k' := 0) (n' := 0) (Nat.le_of_ble_eq_true rfl) (Nat.le_of_ble_eq_true rfl) ?_
      exact v_zret E (Or.inr rfl) dX12_isDark_46
  refine v_if_ne (tgt := 12) E dX12_isDark_5 (by decide) (fun c5 => ?_) (fun c5 => ?_)
  · rw [if_neg c5] at h
    refine v_aload_n E dX12_isDark_12 rfl ?_
    refine v_aload_n E dX12_isDark_13 rfl ?_
    refine v_iload_n E dX12_isDark_14 rfl ?_
    refine v_iconst (v := 0) E dX12_isDark_15 (by decide) ?_
    replace h := bnd_e h
    obtain ⟨r3, er3, h⟩ := h
    refine v_callV (na := 2) (As := [vI a1, vI 0]) (rest := [vR (some o1)]) (ci := 12) (q := (RX12, TX12, 20)) E gw12_147 (by decide +kernel) rfl rfl (by decide) (kX12_leftCorner l er3).2 (kX12_leftCorner l er3).1 rfl rfl dX12_isDark_16 ⟨Nat.le_of_ble_eq_true rfl, Nat.le_of_ble_eq_true rfl⟩ ⟨(Nat.le_of_ble_eq_true rfl), (Nat.le_of_ble_eq_true rfl)⟩ (Nat.le_of_ble_eq_true rfl) ?_
    replace h := bnd_e h
    obtain ⟨r4, er4, h⟩ := h
    refine v_callV (na := 1) (As := [vI r3]) (rest := []) (ci := 12) (q := (RX12, TX12, 20)) E gw12_165 (by decide +kernel) rfl rfl (by decide) (kX12_faceOf l er4).2 (kX12_faceOf l er4).1 rfl rfl dX12_isDark_19 ⟨Nat.le_of_ble_eq_true rfl, Nat.le_of_ble_eq_true rfl⟩ ⟨(Nat.le_of_ble_eq_true rfl), (Nat.le_of_ble_eq_true rfl)⟩ (Nat.le_of_ble_eq_true rfl) ?_
    refine v_drop (lv' := [some (vR (some o1)), none, some (vI a2), none]) [1] rfl ?_
    exact hK2 r4 h
  · rw [if_pos c5] at h
    refine v_iconst (v := 0) E dX12_isDark_8 (by decide) ?_
    refine v_goto (tgt := 22) E dX12_isDark_9 (by decide) ?_
    refine v_drop (lv' := [some (vR (some o1)), none, some (vI a2), none]) [1] rfl ?_
    exact hK2 0 h
noncomputable def fX12_middle (A0 : AH) (o0 : Option Nat) (a1 : Int32) : Option (Int32) :=
  (rcv A0 13 o0).bind fun o0 =>
  (iter (S := Int32 × Int32) (T := Int32) (fun s1 =>
      if 4 ≤ s1.2 then
        some (.inr s1.1)
      else
        (gR A0 13 400 ((some o0))).bind fun v4 =>
        (fX12_faceOf A0 ((some o0)) (((4 * a1) + s1.2))).bind fun r5 =>
        (aI A0 14 v4 r5).bind fun v6 =>
        some (.inl ((s1.1 + v6), (s1.2 + 1)))) (0, 0)).bind fun t2 =>
  (dvI t2 4).bind fun v8 =>
  some v8
set_option maxRecDepth 100000 in
set_option maxHeartbeats 4000000 in
theorem kX12_middle (l : Launch) {A0 : AH} {o0 : Option Nat} {a1 : Int32} {r : Int32} (h : fX12_middle A0 o0 a1 = some r) : (∃ a, o0 = some a ∧ Hk A0 a = 13) ∧ Cn l yX12_middle cX12_middle 4 (some .int) 1 23 0 0 [vR o0, vI a1] A0 (some (vI r)) A0 := by
  unfold fX12_middle at h
  replace h := bnd_e h
  obtain ⟨o1, e1, h⟩ := h
  obtain ⟨rfl, hk0⟩ := rcv_e e1
  refine ⟨⟨o1, rfl, hk0⟩, ?_⟩
  refine Cn.of (pad := 2) (lv0 := [some (vR (some o1)), some (vI a1), none, none]) (by decide +kernel) (Nat.le_of_ble_eq_true rfl) rfl ?_
  intro p e s m below meth c base D cy E
  generalize (List.map toV [vR (some o1), vI a1]).toArray = ar at E ⊢
  have E : EN p s m ar meth c D cy RX12 cX12_middle 4 (some .int) "middle" := E
  refine v_iconst (v := 0) E dX12_middle_0 (by decide) ?_
  refine v_istore_n (lv' := [some (vR (some o1)), some (vI a1), some (vI 0), none]) E dX12_middle_1 (by decide) rfl ?_
  refine v_iconst (v := 0) E dX12_middle_2 (by decide) ?_
  refine v_istore_n (lv' := [some (vR (some o1)), some (vI a1), some (vI 0), some (vI 0)]) E dX12_middle_3 (by decide) rfl ?_
  replace h := bnd_e h
  obtain ⟨t2, et2, h⟩ := h
  refine iter_V (S := Int32 × Int32) (T := Int32) (Ph := fun s1 => V p l e { frames := 1, cells := 0, slots := 0, locals := 23 } s m ar below meth c (MQ below (Qd base D cy (some (vI r)) A0) ar s 0 0 (fun q => base ≤ q)) base D cy 4 4 [some (vR (some o1)), some (vI a1), some (vI s1.1), some (vI s1.2)] [] A0 0 0) (Pt := fun t2 => V p l e { frames := 1, cells := 0, slots := 0, locals := 23 } s m ar below meth c (MQ below (Qd base D cy (some (vI r)) A0) ar s 0 0 (fun q => base ≤ q)) base D cy 4 32 [none, none, some (vI t2), none] [] A0 0 0) et2 (fun s1 w3 h hx => ?_) ?_
  · try dsimp only at h
    refine v_iload_n E dX12_middle_4 rfl ?_
    refine v_iconst (v := 4) E dX12_middle_5 (by decide) ?_
    refine v_icmp_ge (tgt := 32) E dX12_middle_6 (by decide) (fun c7 => ?_) (fun c7 => ?_)
    · rw [if_pos c7] at h
      refine v_drop (lv' := [none, none, some (vI s1.1), none]) [0, 1, 3] rfl ?_
      replace h := Option.some.inj h
      subst h
      exact hx
    · rw [if_neg c7] at h
      refine v_iload_n E dX12_middle_9 rfl ?_
      refine v_aload_n E dX12_middle_10 rfl ?_
      replace h := bnd_e h
      obtain ⟨v4, ev4, h⟩ := h
      refine g12_39 E ev4 dX12_middle_11 ?_
      refine v_aload_n E dX12_middle_14 rfl ?_
      refine v_iconst (v := 4) E dX12_middle_15 (by decide) ?_
      refine v_iload_n E dX12_middle_16 rfl ?_
      refine v_imul E dX12_middle_17 ?_
      refine v_iload_n E dX12_middle_18 rfl ?_
      refine v_iadd E dX12_middle_19 ?_
      replace h := bnd_e h
      obtain ⟨r5, er5, h⟩ := h
      refine v_callV (na := 1) (As := [vI ((4 * a1) + s1.2)]) (rest := [vR v4, vI s1.1]) (ci := 12) (q := (RX12, TX12, 20)) E gw12_165 (by decide +kernel) rfl rfl (by decide) (kX12_faceOf l er5).2 (kX12_faceOf l er5).1 rfl rfl dX12_middle_20 ⟨Nat.le_of_ble_eq_true rfl, Nat.le_of_ble_eq_true rfl⟩ ⟨(Nat.le_of_ble_eq_true rfl), (Nat.le_of_ble_eq_true rfl)⟩ (Nat.le_of_ble_eq_true rfl) ?_
      replace h := bnd_e h
      obtain ⟨v6, ev6, h⟩ := h
      refine v_iaload E ev6 dX12_middle_23 ?_
      refine v_iadd E dX12_middle_24 ?_
      refine v_istore_n (lv' := [some (vR (some o1)), some (vI a1), some (vI (s1.1 + v6)), some (vI s1.2)]) E dX12_middle_25 (by decide) rfl ?_
      refine v_iinc (v := (s1.2 + 1)) (lv' := [some (vR (some o1)), some (vI a1), some (vI (s1.1 + v6)), some (vI (s1.2 + 1))]) E dX12_middle_26 rfl (by rfl) (by decide) rfl ?_
      refine v_goto (tgt := 4) E dX12_middle_29 (by decide) ?_
      replace h := Option.some.inj h
      subst h
      exact hx
  · refine v_iload_n E dX12_middle_32 rfl ?_
    refine v_iconst (v := 4) E dX12_middle_33 (by decide) ?_
    replace h := bnd_e h
    obtain ⟨v8, ev8, h⟩ := h
    refine v_idiv E ev8 dX12_middle_34 ?_
    replace h := Option.some.inj h
    subst h
    refine v_widen (k' := 0) (n' := 0) (Nat.le_of_ble_eq_true rfl) (Nat.le_of_ble_eq_true rfl) ?_
    exact v_iret E dX12_middle_35
noncomputable def fX12_turns (A0 : AH) (o0 : Option Nat) (a1 : Int32) (a2 : Int32) : Option (Int32) :=
  (rcv A0 13 o0).bind fun o0 =>
  (iter (S := Int32 × Int32) (T := Int32) (fun s1 =>
      (fX12_size A0 ((some o0)) a1).bind fun r4 =>
      if (r4 + 2) ≤ s1.2 then
        some (.inr s1.1)
      else
        (gR A0 13 400 ((some o0))).bind fun v5 =>
        (aI A0 14 v5 s1.2).bind fun v6 =>
        some (.inl ((s1.1 + v6), (s1.2 + 1)))) (0, 0)).bind fun t2 =>
  (iter (S := Int32 × Int32) (T := Int32) (fun s8 =>
      (fX12_size A0 ((some o0)) a1).bind fun r11 =>
      if r11 ≤ s8.2 then
        some (.inr s8.1)
      else
        (fX12_middle A0 ((some o0)) s8.2).bind fun r12 =>
        some (.inl ((s8.1 - r12), (s8.2 + 1)))) (t2, 0)).bind fun t9 =>
  (gR A0 13 400 ((some o0))).bind fun v14 =>
  (aI A0 14 v14 a2).bind fun v15 =>
  some ((t9 - (2 * v15)))
set_option maxRecDepth 100000 in
set_option maxHeartbeats 4000000 in
theorem kX12_turns (l : Launch) {A0 : AH} {o0 : Option Nat} {a1 : Int32} {a2 : Int32} {r : Int32} (h : fX12_turns A0 o0 a1 a2 = some r) : (∃ a, o0 = some a ∧ Hk A0 a = 13) ∧ Cn l yX12_turns cX12_turns 5 (some .int) 2 46 0 0 [vR o0, vI a1, vI a2] A0 (some (vI r)) A0 := by
  unfold fX12_turns at h
  replace h := bnd_e h
  obtain ⟨o1, e1, h⟩ := h
  obtain ⟨rfl, hk0⟩ := rcv_e e1
  refine ⟨⟨o1, rfl, hk0⟩, ?_⟩
  refine Cn.of (pad := 2) (lv0 := [some (vR (some o1)), some (vI a1), some (vI a2), none, none]) (by decide +kernel) (Nat.le_of_ble_eq_true rfl) rfl ?_
  intro p e s m below meth c base D cy E
  generalize (List.map toV [vR (some o1), vI a1, vI a2]).toArray = ar at E ⊢
  have E : EN p s m ar meth c D cy RX12 cX12_turns 5 (some .int) "turns" := E
  refine v_iconst (v := 0) E dX12_turns_0 (by decide) ?_
  refine v_istore_n (lv' := [some (vR (some o1)), some (vI a1), some (vI a2), some (vI 0), none]) E dX12_turns_1 (by decide) rfl ?_
  refine v_iconst (v := 0) E dX12_turns_2 (by decide) ?_
  refine v_istore (lv' := [some (vR (some o1)), some (vI a1), some (vI a2), some (vI 0), some (vI 0)]) E dX12_turns_3 (by decide) rfl ?_
  replace h := bnd_e h
  obtain ⟨t2, et2, h⟩ := h
  refine iter_V (S := Int32 × Int32) (T := Int32) (Ph := fun s1 => V p l e { frames := 2, cells := 0, slots := 0, locals := 46 } s m ar below meth c (MQ below (Qd base D cy (some (vI r)) A0) ar s 0 0 (fun q => base ≤ q)) base D cy 5 5 [some (vR (some o1)), some (vI a1), some (vI a2), some (vI s1.1), some (vI s1.2)] [] A0 0 0) (Pt := fun t2 => V p l e { frames := 2, cells := 0, slots := 0, locals := 46 } s m ar below meth c (MQ below (Qd base D cy (some (vI r)) A0) ar s 0 0 (fun q => base ≤ q)) base D cy 5 33 [some (vR (some o1)), some (vI a1), some (vI a2), some (vI t2), none] [] A0 0 0) et2 (fun s1 w3 h hx => ?_) ?_
  · try dsimp only at h
    refine v_iload E dX12_turns_5 rfl ?_
    refine v_aload_n E dX12_turns_7 rfl ?_
    refine v_iload_n E dX12_turns_8 rfl ?_
    replace h := bnd_e h
    obtain ⟨r4, er4, h⟩ := h
    refine v_callV (na := 1) (As := [vI a1]) (rest := [vI s1.2]) (ci := 12) (q := (RX12, TX12, 20)) E gw12_59 (by decide +kernel) rfl rfl (by decide) (kX12_size l er4).2 (kX12_size l er4).1 rfl rfl dX12_turns_9 ⟨Nat.le_of_ble_eq_true rfl, Nat.le_of_ble_eq_true rfl⟩ ⟨(Nat.le_of_ble_eq_true rfl), (Nat.le_of_ble_eq_true rfl)⟩ (Nat.le_of_ble_eq_true rfl) ?_
    refine v_iconst (v := 2) E dX12_turns_12 (by decide) ?_
    refine v_iadd E dX12_turns_13 ?_
    refine v_icmp_ge (tgt := 33) E dX12_turns_14 (by decide) (fun c7 => ?_) (fun c7 => ?_)
    · rw [if_pos c7] at h
      refine v_drop (lv' := [some (vR (some o1)), some (vI a1), some (vI a2), some (vI s1.1), none]) [4] rfl ?_
      replace h := Option.some.inj h
      subst h
      exact hx
    · rw [if_neg c7] at h
      refine v_iload_n E dX12_turns_17 rfl ?_
      refine v_aload_n E dX12_turns_18 rfl ?_
      replace h := bnd_e h
      obtain ⟨v5, ev5, h⟩ := h
      refine g12_39 E ev5 dX12_turns_19 ?_
      refine v_iload E dX12_turns_22 rfl ?_
      replace h := bnd_e h
      obtain ⟨v6, ev6, h⟩ := h
      refine v_iaload E ev6 dX12_turns_24 ?_
      refine v_iadd E dX12_turns_25 ?_
      refine v_istore_n (lv' := [some (vR (some o1)), some (vI a1), some (vI a2), some (vI (s1.1 + v6)), some (vI s1.2)]) E dX12_turns_26 (by decide) rfl ?_
      refine v_iinc (v := (s1.2 + 1)) (lv' := [some (vR (some o1)), some (vI a1), some (vI a2), some (vI (s1.1 + v6)), some (vI (s1.2 + 1))]) E dX12_turns_27 rfl (by rfl) (by decide) rfl ?_
      refine v_goto (tgt := 5) E dX12_turns_30 (by decide) ?_
      replace h := Option.some.inj h
      subst h
      exact hx
  · refine v_iconst (v := 0) E dX12_turns_33 (by decide) ?_
    refine v_istore (lv' := [some (vR (some o1)), some (vI a1), some (vI a2), some (vI t2), some (vI 0)]) E dX12_turns_34 (by decide) rfl ?_
    replace h := bnd_e h
    obtain ⟨t9, et9, h⟩ := h
    refine iter_V (S := Int32 × Int32) (T := Int32) (Ph := fun s8 => V p l e { frames := 2, cells := 0, slots := 0, locals := 46 } s m ar below meth c (MQ below (Qd base D cy (some (vI r)) A0) ar s 0 0 (fun q => base ≤ q)) base D cy 5 36 [some (vR (some o1)), some (vI a1), some (vI a2), some (vI s8.1), some (vI s8.2)] [] A0 0 0) (Pt := fun t9 => V p l e { frames := 2, cells := 0, slots := 0, locals := 46 } s m ar below meth c (MQ below (Qd base D cy (some (vI r)) A0) ar s 0 0 (fun q => base ≤ q)) base D cy 5 61 [some (vR (some o1)), none, some (vI a2), some (vI t9), none] [] A0 0 0) et9 (fun s8 w10 h hx => ?_) ?_
    · try dsimp only at h
      refine v_iload E dX12_turns_36 rfl ?_
      refine v_aload_n E dX12_turns_38 rfl ?_
      refine v_iload_n E dX12_turns_39 rfl ?_
      replace h := bnd_e h
      obtain ⟨r11, er11, h⟩ := h
      refine v_callV (na := 1) (As := [vI a1]) (rest := [vI s8.2]) (ci := 12) (q := (RX12, TX12, 20)) E gw12_59 (by decide +kernel) rfl rfl (by decide) (kX12_size l er11).2 (kX12_size l er11).1 rfl rfl dX12_turns_40 ⟨Nat.le_of_ble_eq_true rfl, Nat.le_of_ble_eq_true rfl⟩ ⟨(Nat.le_of_ble_eq_true rfl), (Nat.le_of_ble_eq_true rfl)⟩ (Nat.le_of_ble_eq_true rfl) ?_
      refine v_icmp_ge (tgt := 61) E dX12_turns_43 (by decide) (fun c13 => ?_) (fun c13 => ?_)
      · rw [if_pos c13] at h
        refine v_drop (lv' := [some (vR (some o1)), none, some (vI a2), some (vI s8.1), none]) [1, 4] rfl ?_
        replace h := Option.some.inj h
        subst h
        exact hx
      · rw [if_neg c13] at h
        refine v_iload_n E dX12_turns_46 rfl ?_
        refine v_aload_n E dX12_turns_47 rfl ?_
        refine v_iload E dX12_turns_48 rfl ?_
        replace h := bnd_e h
        obtain ⟨r12, er12, h⟩ := h
        refine v_callV (na := 1) (As := [vI s8.2]) (rest := [vI s8.1]) (ci := 12) (q := (RX12, TX12, 20)) E gw12_178 (by decide +kernel) rfl rfl (by decide) (kX12_middle l er12).2 (kX12_middle l er12).1 rfl rfl dX12_turns_50 ⟨Nat.le_of_ble_eq_true rfl, Nat.le_of_ble_eq_true rfl⟩ ⟨(Nat.le_of_ble_eq_true rfl), (Nat.le_of_ble_eq_true rfl)⟩ (Nat.le_of_ble_eq_true rfl) ?_
        refine v_isub E dX12_turns_53 ?_
        refine v_istore_n (lv' := [some (vR (some o1)), some (vI a1), some (vI a2), some (vI (s8.1 - r12)), some (vI s8.2)]) E dX12_turns_54 (by decide) rfl ?_
        refine v_iinc (v := (s8.2 + 1)) (lv' := [some (vR (some o1)), some (vI a1), some (vI a2), some (vI (s8.1 - r12)), some (vI (s8.2 + 1))]) E dX12_turns_55 rfl (by rfl) (by decide) rfl ?_
        refine v_goto (tgt := 36) E dX12_turns_58 (by decide) ?_
        replace h := Option.some.inj h
        subst h
        exact hx
    · refine v_iload_n E dX12_turns_61 rfl ?_
      refine v_iconst (v := 2) E dX12_turns_62 (by decide) ?_
      refine v_aload_n E dX12_turns_63 rfl ?_
      replace h := bnd_e h
      obtain ⟨v14, ev14, h⟩ := h
      refine g12_39 E ev14 dX12_turns_64 ?_
      refine v_iload_n E dX12_turns_67 rfl ?_
      replace h := bnd_e h
      obtain ⟨v15, ev15, h⟩ := h
      refine v_iaload E ev15 dX12_turns_68 ?_
      refine v_imul E dX12_turns_69 ?_
      refine v_isub E dX12_turns_70 ?_
      replace h := Option.some.inj h
      subst h
      refine v_widen (k' := 0) (n' := 0) (Nat.le_of_ble_eq_true rfl) (Nat.le_of_ble_eq_true rfl) ?_
      exact v_iret E dX12_turns_71
noncomputable def fX12_joinedBy (A0 : AH) (o0 : Option Nat) (a1 : Int32) (a2 : Int32) (a3 : Int32) : Option (Int32 × AH) :=
  (rcv A0 13 o0).bind fun o0 =>
  (iter (S := Int32 × Int32 × AH) (T := Int32 × AH) (fun s1 =>
      (fX12_size s1.2.2 ((some o0)) a1).bind fun r4 =>
      if (r4 + 2) ≤ s1.2.1 then
        some (.inr (s1.1, s1.2.2))
      else
        (gR s1.2.2 13 402 ((some o0))).bind fun v5 =>
        (sI s1.2.2 14 v5 s1.2.1 s1.2.1).bind fun A6 =>
        (fX12_isDark A6 ((some o0)) a1 s1.2.1).bind fun r7 =>
        jp1 (α := Int32) (if r7 = a3 then
            1
          else
            0) fun x10 =>
        some (.inl ((s1.1 + x10), (s1.2.1 + 1), A6))) (0, 0, A0)).bind fun t2 =>
  (iter (S := Int32 × Int32 × AH) (T := Int32 × AH) (fun s12 =>
      (fX12_size s12.2.2 ((some o0)) a1).bind fun r15 =>
      if r15 ≤ s12.2.1 then
        some (.inr (s12.1, s12.2.2))
      else
        (fX12_faceOf s12.2.2 ((some o0)) ((4 * s12.2.1))).bind fun r16 =>
        (fX12_isDark s12.2.2 ((some o0)) a1 r16).bind fun r17 =>
        jp1 (α := Int32) (if r17 = a3 then
            0
          else
            1) fun x20 =>
        (gR s12.2.2 13 402 ((some o0))).bind fun v21 =>
          (fX12_faceOf s12.2.2 ((some o0)) (((4 * s12.2.1) + x20))).bind fun r22 =>
          (aI s12.2.2 14 v21 r22).bind fun v23 =>
          (gR s12.2.2 13 402 ((some o0))).bind fun v24 =>
          (fX12_faceOf s12.2.2 ((some o0)) ((((4 * s12.2.1) + x20) + 2))).bind fun r25 =>
          (aI s12.2.2 14 v24 r25).bind fun v26 =>
          (fX12_has s12.2.2 a2 s12.2.1).bind fun r27 =>
          jp (fun (x46 : Int32 × AH) =>
            some (.inl (x46.1, (s12.2.1 + 1), x46.2))) fun K28 =>
            if r27 = 0 then
              K28 (s12.1, s12.2.2)
            else
              if v23 = v26 then
                K28 (s12.1, s12.2.2)
              else
                (iter (S := Int32 × AH) (T := AH) (fun s29 =>
                    (fX12_size s29.2 ((some o0)) a1).bind fun r32 =>
                    if (r32 + 2) ≤ s29.1 then
                      some (.inr s29.2)
                    else
                      (gR s29.2 13 402 ((some o0))).bind fun v33 =>
                      (gR s29.2 13 402 ((some o0))).bind fun v34 =>
                      (aI s29.2 14 v34 s29.1).bind fun v35 =>
                      jp (fun (x40 : Int32) =>
                        (sI s29.2 14 v33 s29.1 x40).bind fun A41 =>
                        some (.inl ((s29.1 + 1), A41))) fun K36 =>
                        if v35 = v26 then
                          K36 v23
                        else
                          (gR s29.2 13 402 ((some o0))).bind fun v37 =>
                          (aI s29.2 14 v37 s29.1).bind fun v38 =>
                          K36 v38) (0, s12.2.2)).bind fun t30 =>
                K28 ((s12.1 + (-1)), t30)) (t2.1, 0, t2.2)).bind fun t13 =>
  some ((t13.1, t13.2))
set_option maxRecDepth 100000 in
set_option maxHeartbeats 4000000 in
theorem kX12_joinedBy (l : Launch) {A0 : AH} {o0 : Option Nat} {a1 : Int32} {a2 : Int32} {a3 : Int32} {r : Int32 × AH} (h : fX12_joinedBy A0 o0 a1 a2 a3 = some r) : (∃ a, o0 = some a ∧ Hk A0 a = 13) ∧ Cn l yX12_joinedBy cX12_joinedBy 10 (some .int) 5 116 0 0 [vR o0, vI a1, vI a2, vI a3] A0 (some (vI r.1)) r.2 := by
  unfold fX12_joinedBy at h
  replace h := bnd_e h
  obtain ⟨o1, e1, h⟩ := h
  obtain ⟨rfl, hk0⟩ := rcv_e e1
  refine ⟨⟨o1, rfl, hk0⟩, ?_⟩
  refine Cn.of (pad := 6) (lv0 := [some (vR (some o1)), some (vI a1), some (vI a2), some (vI a3), none, none, none, none, none, none]) (by decide +kernel) (Nat.le_of_ble_eq_true rfl) rfl ?_
  intro p e s m below meth c base D cy E
  generalize (List.map toV [vR (some o1), vI a1, vI a2, vI a3]).toArray = ar at E ⊢
  have E : EN p s m ar meth c D cy RX12 cX12_joinedBy 10 (some .int) "joinedBy" := E
  refine v_iconst (v := 0) E dX12_joinedBy_0 (by decide) ?_
  refine v_istore (lv' := [some (vR (some o1)), some (vI a1), some (vI a2), some (vI a3), some (vI 0), none, none, none, none, none]) E dX12_joinedBy_1 (by decide) rfl ?_
  refine v_iconst (v := 0) E dX12_joinedBy_3 (by decide) ?_
  refine v_istore (lv' := [some (vR (some o1)), some (vI a1), some (vI a2), some (vI a3), some (vI 0), some (vI 0), none, none, none, none]) E dX12_joinedBy_4 (by decide) rfl ?_
  replace h := bnd_e h
  obtain ⟨t2, et2, h⟩ := h
  refine iter_V (S := Int32 × Int32 × AH) (T := Int32 × AH) (Ph := fun s1 => V p l e { frames := 5, cells := 0, slots := 0, locals := 116 } s m ar below meth c (MQ below (Qd base D cy (some (vI r.1)) r.2) ar s 0 0 (fun q => base ≤ q)) base D cy 10 6 [some (vR (some o1)), some (vI a1), some (vI a2), some (vI a3), some (vI s1.1), some (vI s1.2.1), none, none, none, none] [] s1.2.2 0 0) (Pt := fun t2 => V p l e { frames := 5, cells := 0, slots := 0, locals := 116 } s m ar below meth c (MQ below (Qd base D cy (some (vI r.1)) r.2) ar s 0 0 (fun q => base ≤ q)) base D cy 10 54 [some (vR (some o1)), some (vI a1), some (vI a2), some (vI a3), some (vI t2.1), none, none, none, none, none] [] t2.2 0 0) et2 (fun s1 w3 h hx => ?_) ?_
  · try dsimp only at h
    refine v_iload E dX12_joinedBy_6 rfl ?_
    refine v_aload_n E dX12_joinedBy_8 rfl ?_
    refine v_iload_n E dX12_joinedBy_9 rfl ?_
    replace h := bnd_e h
    obtain ⟨r4, er4, h⟩ := h
    refine v_callV (na := 1) (As := [vI a1]) (rest := [vI s1.2.1]) (ci := 12) (q := (RX12, TX12, 20)) E gw12_59 (by decide +kernel) rfl rfl (by decide) (kX12_size l er4).2 (kX12_size l er4).1 rfl rfl dX12_joinedBy_10 ⟨Nat.le_of_ble_eq_true rfl, Nat.le_of_ble_eq_true rfl⟩ ⟨(Nat.le_of_ble_eq_true rfl), (Nat.le_of_ble_eq_true rfl)⟩ (Nat.le_of_ble_eq_true rfl) ?_
    refine v_iconst (v := 2) E dX12_joinedBy_13 (by decide) ?_
    refine v_iadd E dX12_joinedBy_14 ?_
    refine v_icmp_ge (tgt := 54) E dX12_joinedBy_15 (by decide) (fun c11 => ?_) (fun c11 => ?_)
    · rw [if_pos c11] at h
      refine v_drop (lv' := [some (vR (some o1)), some (vI a1), some (vI a2), some (vI a3), some (vI s1.1), none, none, none, none, none]) [5] rfl ?_
      replace h := Option.some.inj h
      subst h
      exact hx
    · rw [if_neg c11] at h
      refine v_aload_n E dX12_joinedBy_18 rfl ?_
      replace h := bnd_e h
      obtain ⟨v5, ev5, h⟩ := h
      refine g12_45 E ev5 dX12_joinedBy_19 ?_
      refine v_iload E dX12_joinedBy_22 rfl ?_
      refine v_iload E dX12_joinedBy_24 rfl ?_
      replace h := bnd_e h
      obtain ⟨A6, eA6, h⟩ := h
      refine v_iastore E eA6 dX12_joinedBy_26 ?_
      refine v_iload E dX12_joinedBy_27 rfl ?_
      refine v_aload_n E dX12_joinedBy_29 rfl ?_
      refine v_iload_n E dX12_joinedBy_30 rfl ?_
      refine v_iload E dX12_joinedBy_31 rfl ?_
      replace h := bnd_e h
      obtain ⟨r7, er7, h⟩ := h
      refine v_callV (na := 2) (As := [vI a1, vI s1.2.1]) (rest := [vI s1.1]) (ci := 12) (q := (RX12, TX12, 20)) E gw12_181 (by decide +kernel) rfl rfl (by decide) (kX12_isDark l er7).2 (kX12_isDark l er7).1 rfl rfl dX12_joinedBy_33 ⟨Nat.le_of_ble_eq_true rfl, Nat.le_of_ble_eq_true rfl⟩ ⟨(Nat.le_of_ble_eq_true rfl), (Nat.le_of_ble_eq_true rfl)⟩ (Nat.le_of_ble_eq_true rfl) ?_
      refine v_iload_n E dX12_joinedBy_36 rfl ?_
      refine jp1_use h (fun K8 eK8 h => ?_)
      have hK8 : ∀ x10 : Int32, K8 x10 = some w3 → V p l e { frames := 5, cells := 0, slots := 0, locals := 116 } s m ar below meth c (MQ below (Qd base D cy (some (vI r.1)) r.2) ar s 0 0 (fun q => base ≤ q)) base D cy 10 45 [some (vR (some o1)), some (vI a1), some (vI a2), some (vI a3), none, some (vI s1.2.1), none, none, none, none] [vI x10, vI s1.1] A6 0 0 := by
        intro x10 h
        rw [eK8] at h
        try dsimp only at h
        refine v_iadd E dX12_joinedBy_45 ?_
        refine v_istore (lv' := [some (vR (some o1)), some (vI a1), some (vI a2), some (vI a3), some (vI (s1.1 + x10)), some (vI s1.2.1), none, none, none, none]) E dX12_joinedBy_46 (by decide) rfl ?_
        refine v_iinc (v := (s1.2.1 + 1)) (lv' := [some (vR (some o1)), some (vI a1), some (vI a2), some (vI a3), some (vI (s1.1 + x10)), some (vI (s1.2.1 + 1)), none, none, none, none]) E dX12_joinedBy_48 rfl (by rfl) (by decide) rfl ?_
        refine v_goto (tgt := 6) E dX12_joinedBy_51 (by decide) ?_
        replace h := Option.some.inj h
        subst h
        exact hx
      refine v_icmp_ne (tgt := 44) E dX12_joinedBy_37 (by decide) (fun c9 => ?_) (fun c9 => ?_)
      · rw [if_neg c9] at h
        refine v_iconst (v := 0) E dX12_joinedBy_44 (by decide) ?_
        refine v_drop (lv' := [some (vR (some o1)), some (vI a1), some (vI a2), some (vI a3), none, some (vI s1.2.1), none, none, none, none]) [4] rfl ?_
        exact hK8 0 h
      · rw [if_pos c9] at h
        refine v_iconst (v := 1) E dX12_joinedBy_40 (by decide) ?_
        refine v_goto (tgt := 45) E dX12_joinedBy_41 (by decide) ?_
        refine v_drop (lv' := [some (vR (some o1)), some (vI a1), some (vI a2), some (vI a3), none, some (vI s1.2.1), none, none, none, none]) [4] rfl ?_
        exact hK8 1 h
  · refine v_iconst (v := 0) E dX12_joinedBy_54 (by decide) ?_
    refine v_istore (lv' := [some (vR (some o1)), some (vI a1), some (vI a2), some (vI a3), some (vI t2.1), some (vI 0), none, none, none, none]) E dX12_joinedBy_55 (by decide) rfl ?_
    replace h := bnd_e h
    obtain ⟨t13, et13, h⟩ := h
    refine iter_V (S := Int32 × Int32 × AH) (T := Int32 × AH) (Ph := fun s12 => V p l e { frames := 5, cells := 0, slots := 0, locals := 116 } s m ar below meth c (MQ below (Qd base D cy (some (vI r.1)) r.2) ar s 0 0 (fun q => base ≤ q)) base D cy 10 57 [some (vR (some o1)), some (vI a1), some (vI a2), some (vI a3), some (vI s12.1), some (vI s12.2.1), none, none, none, none] [] s12.2.2 0 0) (Pt := fun t13 => V p l e { frames := 5, cells := 0, slots := 0, locals := 116 } s m ar below meth c (MQ below (Qd base D cy (some (vI r.1)) r.2) ar s 0 0 (fun q => base ≤ q)) base D cy 10 206 [none, none, none, none, some (vI t13.1), none, none, none, none, none] [] t13.2 0 0) et13 (fun s12 w14 h hx => ?_) ?_
    · try dsimp only at h
      refine v_iload E dX12_joinedBy_57 rfl ?_
      refine v_aload_n E dX12_joinedBy_59 rfl ?_
      refine v_iload_n E dX12_joinedBy_60 rfl ?_
      replace h := bnd_e h
      obtain ⟨r15, er15, h⟩ := h
      refine v_callV (na := 1) (As := [vI a1]) (rest := [vI s12.2.1]) (ci := 12) (q := (RX12, TX12, 20)) E gw12_59 (by decide +kernel) rfl rfl (by decide) (kX12_size l er15).2 (kX12_size l er15).1 rfl rfl dX12_joinedBy_61 ⟨Nat.le_of_ble_eq_true rfl, Nat.le_of_ble_eq_true rfl⟩ ⟨(Nat.le_of_ble_eq_true rfl), (Nat.le_of_ble_eq_true rfl)⟩ (Nat.le_of_ble_eq_true rfl) ?_
      refine v_icmp_ge (tgt := 206) E dX12_joinedBy_64 (by decide) (fun c47 => ?_) (fun c47 => ?_)
      · rw [if_pos c47] at h
        refine v_drop (lv' := [none, none, none, none, some (vI s12.1), none, none, none, none, none]) [0, 1, 2, 3, 5] rfl ?_
        replace h := Option.some.inj h
        subst h
        exact hx
      · rw [if_neg c47] at h
        refine v_aload_n E dX12_joinedBy_67 rfl ?_
        refine v_iload_n E dX12_joinedBy_68 rfl ?_
        refine v_aload_n E dX12_joinedBy_69 rfl ?_
        refine v_iconst (v := 4) E dX12_joinedBy_70 (by decide) ?_
        refine v_iload E dX12_joinedBy_71 rfl ?_
        refine v_imul E dX12_joinedBy_73 ?_
        replace h := bnd_e h
        obtain ⟨r16, er16, h⟩ := h
        refine v_callV (na := 1) (As := [vI (4 * s12.2.1)]) (rest := [vI a1, vR (some o1)]) (ci := 12) (q := (RX12, TX12, 20)) E gw12_165 (by decide +kernel) rfl rfl (by decide) (kX12_faceOf l er16).2 (kX12_faceOf l er16).1 rfl rfl dX12_joinedBy_74 ⟨Nat.le_of_ble_eq_true rfl, Nat.le_of_ble_eq_true rfl⟩ ⟨(Nat.le_of_ble_eq_true rfl), (Nat.le_of_ble_eq_true rfl)⟩ (Nat.le_of_ble_eq_true rfl) ?_
        replace h := bnd_e h
        obtain ⟨r17, er17, h⟩ := h
        refine v_callV (na := 2) (As := [vI a1, vI r16]) (rest := []) (ci := 12) (q := (RX12, TX12, 20)) E gw12_181 (by decide +kernel) rfl rfl (by decide) (kX12_isDark l er17).2 (kX12_isDark l er17).1 rfl rfl dX12_joinedBy_77 ⟨Nat.le_of_ble_eq_true rfl, Nat.le_of_ble_eq_true rfl⟩ ⟨(Nat.le_of_ble_eq_true rfl), (Nat.le_of_ble_eq_true rfl)⟩ (Nat.le_of_ble_eq_true rfl) ?_
        refine v_iload_n E dX12_joinedBy_80 rfl ?_
        refine jp1_use h (fun K18 eK18 h => ?_)
        have hK18 : ∀ x20 : Int32, K18 x20 = some w14 → V p l e { frames := 5, cells := 0, slots := 0, locals := 116 } s m ar below meth c (MQ below (Qd base D cy (some (vI r.1)) r.2) ar s 0 0 (fun q => base ≤ q)) base D cy 10 89 [some (vR (some o1)), some (vI a1), some (vI a2), some (vI a3), some (vI s12.1), some (vI s12.2.1), none, none, none, none] [vI x20] s12.2.2 0 0 := by
          intro x20 h
          rw [eK18] at h
          try dsimp only at h
          refine v_istore (lv' := [some (vR (some o1)), some (vI a1), some (vI a2), some (vI a3), some (vI s12.1), some (vI s12.2.1), some (vI x20), none, none, none]) E dX12_joinedBy_89 (by decide) rfl ?_
          refine v_aload_n E dX12_joinedBy_91 rfl ?_
          replace h := bnd_e h
          obtain ⟨v21, ev21, h⟩ := h
          refine g12_45 E ev21 dX12_joinedBy_92 ?_
          refine v_aload_n E dX12_joinedBy_95 rfl ?_
          refine v_iconst (v := 4) E dX12_joinedBy_96 (by decide) ?_
          refine v_iload E dX12_joinedBy_97 rfl ?_
          refine v_imul E dX12_joinedBy_99 ?_
          refine v_iload E dX12_joinedBy_100 rfl ?_
          refine v_iadd E dX12_joinedBy_102 ?_
          replace h := bnd_e h
          obtain ⟨r22, er22, h⟩ := h
          refine v_callV (na := 1) (As := [vI ((4 * s12.2.1) + x20)]) (rest := [vR v21]) (ci := 12) (q := (RX12, TX12, 20)) E gw12_165 (by decide +kernel) rfl rfl (by decide) (kX12_faceOf l er22).2 (kX12_faceOf l er22).1 rfl rfl dX12_joinedBy_103 ⟨Nat.le_of_ble_eq_true rfl, Nat.le_of_ble_eq_true rfl⟩ ⟨(Nat.le_of_ble_eq_true rfl), (Nat.le_of_ble_eq_true rfl)⟩ (Nat.le_of_ble_eq_true rfl) ?_
          replace h := bnd_e h
          obtain ⟨v23, ev23, h⟩ := h
          refine v_iaload E ev23 dX12_joinedBy_106 ?_
          refine v_istore (lv' := [some (vR (some o1)), some (vI a1), some (vI a2), some (vI a3), some (vI s12.1), some (vI s12.2.1), some (vI x20), some (vI v23), none, none]) E dX12_joinedBy_107 (by decide) rfl ?_
          refine v_aload_n E dX12_joinedBy_109 rfl ?_
          replace h := bnd_e h
          obtain ⟨v24, ev24, h⟩ := h
          refine g12_45 E ev24 dX12_joinedBy_110 ?_
          refine v_aload_n E dX12_joinedBy_113 rfl ?_
          refine v_iconst (v := 4) E dX12_joinedBy_114 (by decide) ?_
          refine v_iload E dX12_joinedBy_115 rfl ?_
          refine v_imul E dX12_joinedBy_117 ?_
          refine v_iload E dX12_joinedBy_118 rfl ?_
          refine v_iadd E dX12_joinedBy_120 ?_
          refine v_iconst (v := 2) E dX12_joinedBy_121 (by decide) ?_
          refine v_iadd E dX12_joinedBy_122 ?_
          replace h := bnd_e h
          obtain ⟨r25, er25, h⟩ := h
          refine v_callV (na := 1) (As := [vI (((4 * s12.2.1) + x20) + 2)]) (rest := [vR v24]) (ci := 12) (q := (RX12, TX12, 20)) E gw12_165 (by decide +kernel) rfl rfl (by decide) (kX12_faceOf l er25).2 (kX12_faceOf l er25).1 rfl rfl dX12_joinedBy_123 ⟨Nat.le_of_ble_eq_true rfl, Nat.le_of_ble_eq_true rfl⟩ ⟨(Nat.le_of_ble_eq_true rfl), (Nat.le_of_ble_eq_true rfl)⟩ (Nat.le_of_ble_eq_true rfl) ?_
          replace h := bnd_e h
          obtain ⟨v26, ev26, h⟩ := h
          refine v_iaload E ev26 dX12_joinedBy_126 ?_
          refine v_istore (lv' := [some (vR (some o1)), some (vI a1), some (vI a2), some (vI a3), some (vI s12.1), some (vI s12.2.1), some (vI x20), some (vI v23), some (vI v26), none]) E dX12_joinedBy_127 (by decide) rfl ?_
          refine v_iload_n E dX12_joinedBy_129 rfl ?_
          refine v_iload E dX12_joinedBy_130 rfl ?_
          replace h := bnd_e h
          obtain ⟨r27, er27, h⟩ := h
          refine v_callS (na := 2) (As := [vI a2, vI s12.2.1]) (rest := []) E gw12_125 (by decide +kernel) (kX12_has l er27) rfl rfl dX12_joinedBy_132 ⟨Nat.le_of_ble_eq_true rfl, Nat.le_of_ble_eq_true rfl⟩ ⟨(Nat.le_of_ble_eq_true rfl), (Nat.le_of_ble_eq_true rfl)⟩ (Nat.le_of_ble_eq_true rfl) ?_
          refine jp_use h (fun K28 eK28 h => ?_)
          have hK28 : ∀ x46 : Int32 × AH, K28 x46 = some w14 → V p l e { frames := 5, cells := 0, slots := 0, locals := 116 } s m ar below meth c (MQ below (Qd base D cy (some (vI r.1)) r.2) ar s 0 0 (fun q => base ≤ q)) base D cy 10 200 [some (vR (some o1)), some (vI a1), some (vI a2), some (vI a3), some (vI x46.1), some (vI s12.2.1), none, none, none, none] [] x46.2 0 0 := by
            intro x46 h
            rw [eK28] at h
            try dsimp only at h
            refine v_iinc (v := (s12.2.1 + 1)) (lv' := [some (vR (some o1)), some (vI a1), some (vI a2), some (vI a3), some (vI x46.1), some (vI (s12.2.1 + 1)), none, none, none, none]) E dX12_joinedBy_200 rfl (by rfl) (by decide) rfl ?_
            refine v_goto (tgt := 57) E dX12_joinedBy_203 (by decide) ?_
            replace h := Option.some.inj h
            subst h
            exact hx
          refine v_if_eq (tgt := 200) E dX12_joinedBy_135 (by decide) (fun c45 => ?_) (fun c45 => ?_)
          · rw [if_pos c45] at h
            refine v_drop (lv' := [some (vR (some o1)), some (vI a1), some (vI a2), some (vI a3), some (vI s12.1), some (vI s12.2.1), none, none, none, none]) [6, 7, 8] rfl ?_
            exact hK28 (s12.1, s12.2.2) h
          · rw [if_neg c45] at h
            refine v_iload E dX12_joinedBy_138 rfl ?_
            refine v_iload E dX12_joinedBy_140 rfl ?_
            refine v_icmp_eq (tgt := 200) E dX12_joinedBy_142 (by decide) (fun c44 => ?_) (fun c44 => ?_)
            · rw [if_pos c44] at h
              refine v_drop (lv' := [some (vR (some o1)), some (vI a1), some (vI a2), some (vI a3), some (vI s12.1), some (vI s12.2.1), none, none, none, none]) [6, 7, 8] rfl ?_
              exact hK28 (s12.1, s12.2.2) h
            · rw [if_neg c44] at h
              refine v_iinc (v := (s12.1 + (-1))) (lv' := [some (vR (some o1)), some (vI a1), some (vI a2), some (vI a3), some (vI (s12.1 + (-1))), some (vI s12.2.1), some (vI x20), some (vI v23), some (vI v26), none]) E dX12_joinedBy_145 rfl (by rfl) (by decide) rfl ?_
              refine v_iconst (v := 0) E dX12_joinedBy_148 (by decide) ?_
              refine v_istore (lv' := [some (vR (some o1)), some (vI a1), some (vI a2), some (vI a3), some (vI (s12.1 + (-1))), some (vI s12.2.1), some (vI x20), some (vI v23), some (vI v26), some (vI 0)]) E dX12_joinedBy_149 (by decide) rfl ?_
              refine v_drop (lv' := [some (vR (some o1)), some (vI a1), some (vI a2), some (vI a3), some (vI (s12.1 + (-1))), some (vI s12.2.1), none, some (vI v23), some (vI v26), some (vI 0)]) [6] rfl ?_
              replace h := bnd_e h
              obtain ⟨t30, et30, h⟩ := h
              refine iter_V (S := Int32 × AH) (T := AH) (Ph := fun s29 => V p l e { frames := 5, cells := 0, slots := 0, locals := 116 } s m ar below meth c (MQ below (Qd base D cy (some (vI r.1)) r.2) ar s 0 0 (fun q => base ≤ q)) base D cy 10 151 [some (vR (some o1)), some (vI a1), some (vI a2), some (vI a3), some (vI (s12.1 + (-1))), some (vI s12.2.1), none, some (vI v23), some (vI v26), some (vI s29.1)] [] s29.2 0 0) (Pt := fun t30 => V p l e { frames := 5, cells := 0, slots := 0, locals := 116 } s m ar below meth c (MQ below (Qd base D cy (some (vI r.1)) r.2) ar s 0 0 (fun q => base ≤ q)) base D cy 10 200 [some (vR (some o1)), some (vI a1), some (vI a2), some (vI a3), some (vI (s12.1 + (-1))), some (vI s12.2.1), none, none, none, none] [] t30 0 0) et30 (fun s29 w31 h hx => ?_) ?_
              · try dsimp only at h
                refine v_iload E dX12_joinedBy_151 rfl ?_
                refine v_aload_n E dX12_joinedBy_153 rfl ?_
                refine v_iload_n E dX12_joinedBy_154 rfl ?_
                replace h := bnd_e h
                obtain ⟨r32, er32, h⟩ := h
                refine v_callV (na := 1) (As := [vI a1]) (rest := [vI s29.1]) (ci := 12) (q := (RX12, TX12, 20)) E gw12_59 (by decide +kernel) rfl rfl (by decide) (kX12_size l er32).2 (kX12_size l er32).1 rfl rfl dX12_joinedBy_155 ⟨Nat.le_of_ble_eq_true rfl, Nat.le_of_ble_eq_true rfl⟩ ⟨(Nat.le_of_ble_eq_true rfl), (Nat.le_of_ble_eq_true rfl)⟩ (Nat.le_of_ble_eq_true rfl) ?_
                refine v_iconst (v := 2) E dX12_joinedBy_158 (by decide) ?_
                refine v_iadd E dX12_joinedBy_159 ?_
                refine v_icmp_ge (tgt := 200) E dX12_joinedBy_160 (by decide) (fun c42 => ?_) (fun c42 => ?_)
                · rw [if_pos c42] at h
                  refine v_drop (lv' := [some (vR (some o1)), some (vI a1), some (vI a2), some (vI a3), some (vI (s12.1 + (-1))), some (vI s12.2.1), none, none, none, none]) [7, 8, 9] rfl ?_
                  replace h := Option.some.inj h
                  subst h
                  exact hx
                · rw [if_neg c42] at h
                  refine v_aload_n E dX12_joinedBy_163 rfl ?_
                  replace h := bnd_e h
                  obtain ⟨v33, ev33, h⟩ := h
                  refine g12_45 E ev33 dX12_joinedBy_164 ?_
                  refine v_iload E dX12_joinedBy_167 rfl ?_
                  refine v_aload_n E dX12_joinedBy_169 rfl ?_
                  replace h := bnd_e h
                  obtain ⟨v34, ev34, h⟩ := h
                  refine g12_45 E ev34 dX12_joinedBy_170 ?_
                  refine v_iload E dX12_joinedBy_173 rfl ?_
                  replace h := bnd_e h
                  obtain ⟨v35, ev35, h⟩ := h
                  refine v_iaload E ev35 dX12_joinedBy_175 ?_
                  refine v_iload E dX12_joinedBy_176 rfl ?_
                  refine jp_use h (fun K36 eK36 h => ?_)
                  have hK36 : ∀ x40 : Int32, K36 x40 = some w31 → V p l e { frames := 5, cells := 0, slots := 0, locals := 116 } s m ar below meth c (MQ below (Qd base D cy (some (vI r.1)) r.2) ar s 0 0 (fun q => base ≤ q)) base D cy 10 193 [some (vR (some o1)), some (vI a1), some (vI a2), some (vI a3), some (vI (s12.1 + (-1))), some (vI s12.2.1), none, some (vI v23), some (vI v26), some (vI s29.1)] [vI x40, vI s29.1, vR v33] s29.2 0 0 := by
                    intro x40 h
                    rw [eK36] at h
                    try dsimp only at h
                    replace h := bnd_e h
                    obtain ⟨A41, eA41, h⟩ := h
                    refine v_iastore E eA41 dX12_joinedBy_193 ?_
                    refine v_iinc (v := (s29.1 + 1)) (lv' := [some (vR (some o1)), some (vI a1), some (vI a2), some (vI a3), some (vI (s12.1 + (-1))), some (vI s12.2.1), none, some (vI v23), some (vI v26), some (vI (s29.1 + 1))]) E dX12_joinedBy_194 rfl (by rfl) (by decide) rfl ?_
                    refine v_goto (tgt := 151) E dX12_joinedBy_197 (by decide) ?_
                    replace h := Option.some.inj h
                    subst h
                    exact hx
                  refine v_icmp_ne (tgt := 186) E dX12_joinedBy_178 (by decide) (fun c39 => ?_) (fun c39 => ?_)
                  · rw [if_neg c39] at h
                    refine v_aload_n E dX12_joinedBy_186 rfl ?_
                    replace h := bnd_e h
                    obtain ⟨v37, ev37, h⟩ := h
                    refine g12_45 E ev37 dX12_joinedBy_187 ?_
                    refine v_iload E dX12_joinedBy_190 rfl ?_
                    replace h := bnd_e h
                    obtain ⟨v38, ev38, h⟩ := h
                    refine v_iaload E ev38 dX12_joinedBy_192 ?_
                    exact hK36 v38 h
                  · rw [if_pos c39] at h
                    refine v_iload E dX12_joinedBy_181 rfl ?_
                    refine v_goto (tgt := 193) E dX12_joinedBy_183 (by decide) ?_
                    exact hK36 v23 h
              · skip
                exact hK28 ((s12.1 + (-1)), t30) h
        refine v_icmp_ne (tgt := 88) E dX12_joinedBy_81 (by decide) (fun c19 => ?_) (fun c19 => ?_)
        · rw [if_neg c19] at h
          refine v_iconst (v := 1) E dX12_joinedBy_88 (by decide) ?_
          exact hK18 1 h
        · rw [if_pos c19] at h
          refine v_iconst (v := 0) E dX12_joinedBy_84 (by decide) ?_
          refine v_goto (tgt := 89) E dX12_joinedBy_85 (by decide) ?_
          exact hK18 0 h
    · refine v_iload E dX12_joinedBy_206 rfl ?_
      replace h := Option.some.inj h
      subst h
      refine v_widen (k' := 0) (n' := 0) (Nat.le_of_ble_eq_true rfl) (Nat.le_of_ble_eq_true rfl) ?_
      exact v_iret E dX12_joinedBy_208
noncomputable def fX12_trees (A0 : AH) (o0 : Option Nat) (a1 : Int32) (a2 : Int32) : Option (Int32 × AH) :=
  (rcv A0 13 o0).bind fun o0 =>
  (fX12_signsOf A0 ((some o0)) a1).bind fun r1 =>
  (fX12_isPlane A0 ((some o0)) a1 r1).bind fun r2 =>
  if r2.1 = 0 then
    some (((-1), r2.2))
  else
    (fX12_laysIndices r2.2 ((some o0)) a1).bind fun r3 =>
    (fX12_joinedBy r3 ((some o0)) a1 0 a2).bind fun r4 =>
    (iter (S := Int32 × Int32 × AH) (T := Int32 × AH) (fun s5 =>
        (fX12_size s5.2.2 ((some o0)) a1).bind fun r8 =>
        if ((1 : Int32) <<< ((r8 : Int32) &&& 31)) ≤ s5.2.1 then
          some (.inr (s5.1, s5.2.2))
        else
          (fX12_ones s5.2.2 s5.2.1).bind fun r9 =>
          jp (fun (x14 : Int32 × AH) =>
            some (.inl ((s5.1 + x14.1), (s5.2.1 + 1), x14.2))) fun K10 =>
            if r9 = (r4.1 - 1) then
              (fX12_joinedBy s5.2.2 ((some o0)) a1 s5.2.1 a2).bind fun r11 =>
              if r11.1 = 1 then
                K10 (1, r11.2)
              else
                K10 (0, r11.2)
            else
              K10 (0, s5.2.2)) (0, 0, r4.2)).bind fun t6 =>
    some ((t6.1, t6.2))
set_option maxRecDepth 100000 in
set_option maxHeartbeats 4000000 in
theorem kX12_trees (l : Launch) {A0 : AH} {o0 : Option Nat} {a1 : Int32} {a2 : Int32} {r : Int32 × AH} (h : fX12_trees A0 o0 a1 a2 = some r) : (∃ a, o0 = some a ∧ Hk A0 a = 13) ∧ Cn l yX12_trees cX12_trees 6 (some .int) 6 145 0 0 [vR o0, vI a1, vI a2] A0 (some (vI r.1)) r.2 := by
  unfold fX12_trees at h
  replace h := bnd_e h
  obtain ⟨o1, e1, h⟩ := h
  obtain ⟨rfl, hk0⟩ := rcv_e e1
  refine ⟨⟨o1, rfl, hk0⟩, ?_⟩
  refine Cn.of (pad := 3) (lv0 := [some (vR (some o1)), some (vI a1), some (vI a2), none, none, none]) (by decide +kernel) (Nat.le_of_ble_eq_true rfl) rfl ?_
  intro p e s m below meth c base D cy E
  generalize (List.map toV [vR (some o1), vI a1, vI a2]).toArray = ar at E ⊢
  have E : EN p s m ar meth c D cy RX12 cX12_trees 6 (some .int) "trees" := E
  refine v_aload_n E dX12_trees_0 rfl ?_
  refine v_iload_n E dX12_trees_1 rfl ?_
  refine v_aload_n E dX12_trees_2 rfl ?_
  refine v_iload_n E dX12_trees_3 rfl ?_
  replace h := bnd_e h
  obtain ⟨r1, er1, h⟩ := h
  refine v_callV (na := 1) (As := [vI a1]) (rest := [vI a1, vR (some o1)]) (ci := 12) (q := (RX12, TX12, 20)) E gw12_168 (by decide +kernel) rfl rfl (by decide) (kX12_signsOf l er1).2 (kX12_signsOf l er1).1 rfl rfl dX12_trees_4 ⟨Nat.le_of_ble_eq_true rfl, Nat.le_of_ble_eq_true rfl⟩ ⟨(Nat.le_of_ble_eq_true rfl), (Nat.le_of_ble_eq_true rfl)⟩ (Nat.le_of_ble_eq_true rfl) ?_
  replace h := bnd_e h
  obtain ⟨r2, er2, h⟩ := h
  refine v_callV (na := 2) (As := [vI a1, vI r1]) (rest := []) (ci := 12) (q := (RX12, TX12, 20)) E gw12_162 (by decide +kernel) rfl rfl (by decide) (kX12_isPlane l er2).2 (kX12_isPlane l er2).1 rfl rfl dX12_trees_7 ⟨Nat.le_of_ble_eq_true rfl, Nat.le_of_ble_eq_true rfl⟩ ⟨(Nat.le_of_ble_eq_true rfl), (Nat.le_of_ble_eq_true rfl)⟩ (Nat.le_of_ble_eq_true rfl) ?_
  refine v_if_ne (tgt := 15) E dX12_trees_10 (by decide) (fun c17 => ?_) (fun c17 => ?_)
  · rw [if_neg c17] at h
    refine v_aload_n E dX12_trees_15 rfl ?_
    refine v_iload_n E dX12_trees_16 rfl ?_
    replace h := bnd_e h
    obtain ⟨r3, er3, h⟩ := h
    refine v_callV (na := 1) (As := [vI a1]) (rest := []) (ci := 12) (q := (RX12, TX12, 20)) E gw12_184 (by decide +kernel) rfl rfl (by decide) (kX12_laysIndices l er3).2 (kX12_laysIndices l er3).1 rfl rfl dX12_trees_17 ⟨Nat.le_of_ble_eq_true rfl, Nat.le_of_ble_eq_true rfl⟩ ⟨(Nat.le_of_ble_eq_true rfl), (Nat.le_of_ble_eq_true rfl)⟩ (Nat.le_of_ble_eq_true rfl) ?_
    refine v_aload_n E dX12_trees_20 rfl ?_
    refine v_iload_n E dX12_trees_21 rfl ?_
    refine v_iconst (v := 0) E dX12_trees_22 (by decide) ?_
    refine v_iload_n E dX12_trees_23 rfl ?_
    replace h := bnd_e h
    obtain ⟨r4, er4, h⟩ := h
    refine v_callV (na := 3) (As := [vI a1, vI 0, vI a2]) (rest := []) (ci := 12) (q := (RX12, TX12, 20)) E gw12_187 (by decide +kernel) rfl rfl (by decide) (kX12_joinedBy l er4).2 (kX12_joinedBy l er4).1 rfl rfl dX12_trees_24 ⟨Nat.le_of_ble_eq_true rfl, Nat.le_of_ble_eq_true rfl⟩ ⟨(Nat.le_of_ble_eq_true rfl), (Nat.le_of_ble_eq_true rfl)⟩ (Nat.le_of_ble_eq_true rfl) ?_
    refine v_istore_n (lv' := [some (vR (some o1)), some (vI a1), some (vI a2), some (vI r4.1), none, none]) E dX12_trees_27 (by decide) rfl ?_
    refine v_iconst (v := 0) E dX12_trees_28 (by decide) ?_
    refine v_istore (lv' := [some (vR (some o1)), some (vI a1), some (vI a2), some (vI r4.1), some (vI 0), none]) E dX12_trees_29 (by decide) rfl ?_
    refine v_iconst (v := 0) E dX12_trees_31 (by decide) ?_
    refine v_istore (lv' := [some (vR (some o1)), some (vI a1), some (vI a2), some (vI r4.1), some (vI 0), some (vI 0)]) E dX12_trees_32 (by decide) rfl ?_
    replace h := bnd_e h
    obtain ⟨t6, et6, h⟩ := h
    refine iter_V (S := Int32 × Int32 × AH) (T := Int32 × AH) (Ph := fun s5 => V p l e { frames := 6, cells := 0, slots := 0, locals := 145 } s m ar below meth c (MQ below (Qd base D cy (some (vI r.1)) r.2) ar s 0 0 (fun q => base ≤ q)) base D cy 6 34 [some (vR (some o1)), some (vI a1), some (vI a2), some (vI r4.1), some (vI s5.1), some (vI s5.2.1)] [] s5.2.2 0 0) (Pt := fun t6 => V p l e { frames := 6, cells := 0, slots := 0, locals := 145 } s m ar below meth c (MQ below (Qd base D cy (some (vI r.1)) r.2) ar s 0 0 (fun q => base ≤ q)) base D cy 6 85 [none, none, none, none, some (vI t6.1), none] [] t6.2 0 0) et6 (fun s5 w7 h hx => ?_) ?_
    · try dsimp only at h
      refine v_iload E dX12_trees_34 rfl ?_
      refine v_iconst (v := 1) E dX12_trees_36 (by decide) ?_
      refine v_aload_n E dX12_trees_37 rfl ?_
      refine v_iload_n E dX12_trees_38 rfl ?_
      replace h := bnd_e h
      obtain ⟨r8, er8, h⟩ := h
      refine v_callV (na := 1) (As := [vI a1]) (rest := [vI 1, vI s5.2.1]) (ci := 12) (q := (RX12, TX12, 20)) E gw12_59 (by decide +kernel) rfl rfl (by decide) (kX12_size l er8).2 (kX12_size l er8).1 rfl rfl dX12_trees_39 ⟨Nat.le_of_ble_eq_true rfl, Nat.le_of_ble_eq_true rfl⟩ ⟨(Nat.le_of_ble_eq_true rfl), (Nat.le_of_ble_eq_true rfl)⟩ (Nat.le_of_ble_eq_true rfl) ?_
      refine v_ishl E dX12_trees_42 ?_
      refine v_icmp_ge (tgt := 85) E dX12_trees_43 (by decide) (fun c15 => ?_) (fun c15 => ?_)
      · rw [if_pos c15] at h
        refine v_drop (lv' := [none, none, none, none, some (vI s5.1), none]) [0, 1, 2, 3, 5] rfl ?_
        replace h := Option.some.inj h
        subst h
        exact hx
      · rw [if_neg c15] at h
        refine v_iload E dX12_trees_46 rfl ?_
        refine v_iload E dX12_trees_48 rfl ?_
        replace h := bnd_e h
        obtain ⟨r9, er9, h⟩ := h
        refine v_callS (na := 1) (As := [vI s5.2.1]) (rest := [vI s5.1]) E gw12_132 (by decide +kernel) (kX12_ones l er9) rfl rfl dX12_trees_50 ⟨Nat.le_of_ble_eq_true rfl, Nat.le_of_ble_eq_true rfl⟩ ⟨(Nat.le_of_ble_eq_true rfl), (Nat.le_of_ble_eq_true rfl)⟩ (Nat.le_of_ble_eq_true rfl) ?_
        refine v_iload_n E dX12_trees_53 rfl ?_
        refine v_iconst (v := 1) E dX12_trees_54 (by decide) ?_
        refine v_isub E dX12_trees_55 ?_
        refine jp_use h (fun K10 eK10 h => ?_)
        have hK10 : ∀ x14 : Int32 × AH, K10 x14 = some w7 → V p l e { frames := 6, cells := 0, slots := 0, locals := 145 } s m ar below meth c (MQ below (Qd base D cy (some (vI r.1)) r.2) ar s 0 0 (fun q => base ≤ q)) base D cy 6 76 [some (vR (some o1)), some (vI a1), some (vI a2), some (vI r4.1), none, some (vI s5.2.1)] [vI x14.1, vI s5.1] x14.2 0 0 := by
          intro x14 h
          rw [eK10] at h
          try dsimp only at h
          refine v_iadd E dX12_trees_76 ?_
          refine v_istore (lv' := [some (vR (some o1)), some (vI a1), some (vI a2), some (vI r4.1), some (vI (s5.1 + x14.1)), some (vI s5.2.1)]) E dX12_trees_77 (by decide) rfl ?_
          refine v_iinc (v := (s5.2.1 + 1)) (lv' := [some (vR (some o1)), some (vI a1), some (vI a2), some (vI r4.1), some (vI (s5.1 + x14.1)), some (vI (s5.2.1 + 1))]) E dX12_trees_79 rfl (by rfl) (by decide) rfl ?_
          refine v_goto (tgt := 34) E dX12_trees_82 (by decide) ?_
          replace h := Option.some.inj h
          subst h
          exact hx
        refine v_icmp_ne (tgt := 75) E dX12_trees_56 (by decide) (fun c13 => ?_) (fun c13 => ?_)
        · rw [if_neg c13] at h
          refine v_iconst (v := 0) E dX12_trees_75 (by decide) ?_
          refine v_drop (lv' := [some (vR (some o1)), some (vI a1), some (vI a2), some (vI r4.1), none, some (vI s5.2.1)]) [4] rfl ?_
          exact hK10 (0, s5.2.2) h
        · rw [if_pos c13] at h
          refine v_aload_n E dX12_trees_59 rfl ?_
          refine v_iload_n E dX12_trees_60 rfl ?_
          refine v_iload E dX12_trees_61 rfl ?_
          refine v_iload_n E dX12_trees_63 rfl ?_
          replace h := bnd_e h
          obtain ⟨r11, er11, h⟩ := h
          refine v_callV (na := 3) (As := [vI a1, vI s5.2.1, vI a2]) (rest := [vI s5.1]) (ci := 12) (q := (RX12, TX12, 20)) E gw12_187 (by decide +kernel) rfl rfl (by decide) (kX12_joinedBy l er11).2 (kX12_joinedBy l er11).1 rfl rfl dX12_trees_64 ⟨Nat.le_of_ble_eq_true rfl, Nat.le_of_ble_eq_true rfl⟩ ⟨(Nat.le_of_ble_eq_true rfl), (Nat.le_of_ble_eq_true rfl)⟩ (Nat.le_of_ble_eq_true rfl) ?_
          refine v_iconst (v := 1) E dX12_trees_67 (by decide) ?_
          refine v_icmp_ne (tgt := 75) E dX12_trees_68 (by decide) (fun c12 => ?_) (fun c12 => ?_)
          · rw [if_neg c12] at h
            refine v_iconst (v := 0) E dX12_trees_75 (by decide) ?_
            refine v_drop (lv' := [some (vR (some o1)), some (vI a1), some (vI a2), some (vI r4.1), none, some (vI s5.2.1)]) [4] rfl ?_
            exact hK10 (0, r11.2) h
          · rw [if_pos c12] at h
            refine v_iconst (v := 1) E dX12_trees_71 (by decide) ?_
            refine v_goto (tgt := 76) E dX12_trees_72 (by decide) ?_
            refine v_drop (lv' := [some (vR (some o1)), some (vI a1), some (vI a2), some (vI r4.1), none, some (vI s5.2.1)]) [4] rfl ?_
            exact hK10 (1, r11.2) h
    · refine v_iload E dX12_trees_85 rfl ?_
      replace h := Option.some.inj h
      subst h
      refine v_widen (k' := 0) (n' := 0) (Nat.le_of_ble_eq_true rfl) (Nat.le_of_ble_eq_true rfl) ?_
      exact v_iret E dX12_trees_87
  · rw [if_pos c17] at h
    refine v_iconst (v := (-1)) E dX12_trees_13 (by decide) ?_
    replace h := Option.some.inj h
    subst h
    refine v_widen (k' := 0) (n' := 0) (Nat.le_of_ble_eq_true rfl) (Nat.le_of_ble_eq_true rfl) ?_
    exact v_iret E dX12_trees_14
noncomputable def fX12_ringsOf (A0 : AH) (o0 : Option Nat) (a1 : Int32) (a2 : Int32) : Option (Int32 × AH) :=
  (rcv A0 13 o0).bind fun o0 =>
  (fX12_size A0 ((some o0)) a1).bind fun r1 =>
  if (2 * r1) = 0 then
    some ((1, A0))
  else
    (fX12_startsLabels A0 ((some o0)) ((2 * r1))).bind fun r2 =>
    (pZ r2 13 398 ((some o0)) 1).bind fun A3 =>
    (iter (S := AH) (T := AH) (fun s4 =>
        (gI s4 13 398 ((some o0))).bind fun v7 =>
        if v7 = 0 then
          some (.inr s4)
        else
          (pZ s4 13 398 ((some o0)) 0).bind fun A8 =>
          (iter (S := Int32 × AH) (T := AH) (fun s9 =>
              (fX12_size s9.2 ((some o0)) a1).bind fun r12 =>
              if r12 ≤ s9.1 then
                some (.inr s9.2)
              else
                (fX12_place s9.2 ((some o0)) a1 s9.1 0).bind fun r13 =>
                (fX12_place s9.2 ((some o0)) a1 s9.1 1).bind fun r14 =>
                (rmI (((r13 + (2 * r1)) - 1)) ((2 * r1))).bind fun v15 =>
                (fX12_has s9.2 a2 s9.1).bind fun r16 =>
                jp1 (α := Int32) (if r16 = 0 then
                    r14
                  else
                    ((r14 - 1))) fun x19 =>
                (fX12_joins s9.2 ((some o0)) v15 x19).bind fun r20 =>
                  (fX12_has r20 a2 s9.1).bind fun r21 =>
                  jp1 (α := Int32) (if r21 = 0 then
                      ((r14 - 1))
                    else
                      r14) fun x24 =>
                  (fX12_joins r20 ((some o0)) r13 x24).bind fun r25 =>
                    some (.inl ((s9.1 + 1), r25))) (0, A8)).bind fun t10 =>
          some (.inl t10)) A3).bind fun t5 =>
    (fX12_heaps t5 ((some o0)) ((2 * r1))).bind fun r29 =>
    some ((r29, t5))
set_option maxRecDepth 100000 in
set_option maxHeartbeats 4000000 in
theorem kX12_ringsOf (l : Launch) {A0 : AH} {o0 : Option Nat} {a1 : Int32} {a2 : Int32} {r : Int32 × AH} (h : fX12_ringsOf A0 o0 a1 a2 = some r) : (∃ a, o0 = some a ∧ Hk A0 a = 13) ∧ Cn l yX12_ringsOf cX12_ringsOf 9 (some .int) 2 48 0 0 [vR o0, vI a1, vI a2] A0 (some (vI r.1)) r.2 := by
  unfold fX12_ringsOf at h
  replace h := bnd_e h
  obtain ⟨o1, e1, h⟩ := h
  obtain ⟨rfl, hk0⟩ := rcv_e e1
  refine ⟨⟨o1, rfl, hk0⟩, ?_⟩
  refine Cn.of (pad := 6) (lv0 := [some (vR (some o1)), some (vI a1), some (vI a2), none, none, none, none, none, none]) (by decide +kernel) (Nat.le_of_ble_eq_true rfl) rfl ?_
  intro p e s m below meth c base D cy E
  generalize (List.map toV [vR (some o1), vI a1, vI a2]).toArray = ar at E ⊢
  have E : EN p s m ar meth c D cy RX12 cX12_ringsOf 9 (some .int) "ringsOf" := E
  refine v_iconst (v := 2) E dX12_ringsOf_0 (by decide) ?_
  refine v_aload_n E dX12_ringsOf_1 rfl ?_
  refine v_iload_n E dX12_ringsOf_2 rfl ?_
  replace h := bnd_e h
  obtain ⟨r1, er1, h⟩ := h
  refine v_callV (na := 1) (As := [vI a1]) (rest := [vI 2]) (ci := 12) (q := (RX12, TX12, 20)) E gw12_59 (by decide +kernel) rfl rfl (by decide) (kX12_size l er1).2 (kX12_size l er1).1 rfl rfl dX12_ringsOf_3 ⟨Nat.le_of_ble_eq_true rfl, Nat.le_of_ble_eq_true rfl⟩ ⟨(Nat.le_of_ble_eq_true rfl), (Nat.le_of_ble_eq_true rfl)⟩ (Nat.le_of_ble_eq_true rfl) ?_
  refine v_imul E dX12_ringsOf_6 ?_
  refine v_istore_n (lv' := [some (vR (some o1)), some (vI a1), some (vI a2), some (vI (2 * r1)), none, none, none, none, none]) E dX12_ringsOf_7 (by decide) rfl ?_
  refine v_iload_n E dX12_ringsOf_8 rfl ?_
  refine v_if_ne (tgt := 14) E dX12_ringsOf_9 (by decide) (fun c31 => ?_) (fun c31 => ?_)
  · rw [if_neg c31] at h
    refine v_aload_n E dX12_ringsOf_14 rfl ?_
    refine v_iload_n E dX12_ringsOf_15 rfl ?_
    replace h := bnd_e h
    obtain ⟨r2, er2, h⟩ := h
    refine v_callV (na := 1) (As := [vI (2 * r1)]) (rest := []) (ci := 12) (q := (RX12, TX12, 20)) E gw12_116 (by decide +kernel) rfl rfl (by decide) (kX12_startsLabels l er2).2 (kX12_startsLabels l er2).1 rfl rfl dX12_ringsOf_16 ⟨Nat.le_of_ble_eq_true rfl, Nat.le_of_ble_eq_true rfl⟩ ⟨(Nat.le_of_ble_eq_true rfl), (Nat.le_of_ble_eq_true rfl)⟩ (Nat.le_of_ble_eq_true rfl) ?_
    refine v_aload_n E dX12_ringsOf_19 rfl ?_
    refine v_iconst (v := 1) E dX12_ringsOf_20 (by decide) ?_
    replace h := bnd_e h
    obtain ⟨A3, eA3, h⟩ := h
    refine p12_112 E eA3 dX12_ringsOf_21 ?_
    replace h := bnd_e h
    obtain ⟨t5, et5, h⟩ := h
    refine iter_V (S := AH) (T := AH) (Ph := fun s4 => V p l e { frames := 2, cells := 0, slots := 0, locals := 48 } s m ar below meth c (MQ below (Qd base D cy (some (vI r.1)) r.2) ar s 0 0 (fun q => base ≤ q)) base D cy 9 24 [some (vR (some o1)), some (vI a1), some (vI a2), some (vI (2 * r1)), none, none, none, none, none] [] s4 0 0) (Pt := fun t5 => V p l e { frames := 2, cells := 0, slots := 0, locals := 48 } s m ar below meth c (MQ below (Qd base D cy (some (vI r.1)) r.2) ar s 0 0 (fun q => base ≤ q)) base D cy 9 138 [some (vR (some o1)), none, none, some (vI (2 * r1)), none, none, none, none, none] [] t5 0 0) et5 (fun s4 w6 h hx => ?_) ?_
    · try dsimp only at h
      refine v_aload_n E dX12_ringsOf_24 rfl ?_
      replace h := bnd_e h
      obtain ⟨v7, ev7, h⟩ := h
      refine g12_112 E ev7 dX12_ringsOf_25 ?_
      refine v_if_eq (tgt := 138) E dX12_ringsOf_28 (by decide) (fun c28 => ?_) (fun c28 => ?_)
      · rw [if_pos c28] at h
        refine v_drop (lv' := [some (vR (some o1)), none, none, some (vI (2 * r1)), none, none, none, none, none]) [1, 2] rfl ?_
        replace h := Option.some.inj h
        subst h
        exact hx
      · rw [if_neg c28] at h
        refine v_aload_n E dX12_ringsOf_31 rfl ?_
        refine v_iconst (v := 0) E dX12_ringsOf_32 (by decide) ?_
        replace h := bnd_e h
        obtain ⟨A8, eA8, h⟩ := h
        refine p12_112 E eA8 dX12_ringsOf_33 ?_
        refine v_iconst (v := 0) E dX12_ringsOf_36 (by decide) ?_
        refine v_istore (lv' := [some (vR (some o1)), some (vI a1), some (vI a2), some (vI (2 * r1)), some (vI 0), none, none, none, none]) E dX12_ringsOf_37 (by decide) rfl ?_
        replace h := bnd_e h
        obtain ⟨t10, et10, h⟩ := h
        refine iter_V (S := Int32 × AH) (T := AH) (Ph := fun s9 => V p l e { frames := 2, cells := 0, slots := 0, locals := 48 } s m ar below meth c (MQ below (Qd base D cy (some (vI r.1)) r.2) ar s 0 0 (fun q => base ≤ q)) base D cy 9 39 [some (vR (some o1)), some (vI a1), some (vI a2), some (vI (2 * r1)), some (vI s9.1), none, none, none, none] [] s9.2 0 0) (Pt := fun t10 => V p l e { frames := 2, cells := 0, slots := 0, locals := 48 } s m ar below meth c (MQ below (Qd base D cy (some (vI r.1)) r.2) ar s 0 0 (fun q => base ≤ q)) base D cy 9 135 [some (vR (some o1)), some (vI a1), some (vI a2), some (vI (2 * r1)), none, none, none, none, none] [] t10 0 0) et10 (fun s9 w11 h hx => ?_) ?_
        · try dsimp only at h
          refine v_iload E dX12_ringsOf_39 rfl ?_
          refine v_aload_n E dX12_ringsOf_41 rfl ?_
          refine v_iload_n E dX12_ringsOf_42 rfl ?_
          replace h := bnd_e h
          obtain ⟨r12, er12, h⟩ := h
          refine v_callV (na := 1) (As := [vI a1]) (rest := [vI s9.1]) (ci := 12) (q := (RX12, TX12, 20)) E gw12_59 (by decide +kernel) rfl rfl (by decide) (kX12_size l er12).2 (kX12_size l er12).1 rfl rfl dX12_ringsOf_43 ⟨Nat.le_of_ble_eq_true rfl, Nat.le_of_ble_eq_true rfl⟩ ⟨(Nat.le_of_ble_eq_true rfl), (Nat.le_of_ble_eq_true rfl)⟩ (Nat.le_of_ble_eq_true rfl) ?_
          refine v_icmp_ge (tgt := 135) E dX12_ringsOf_46 (by decide) (fun c26 => ?_) (fun c26 => ?_)
          · rw [if_pos c26] at h
            refine v_drop (lv' := [some (vR (some o1)), some (vI a1), some (vI a2), some (vI (2 * r1)), none, none, none, none, none]) [4] rfl ?_
            replace h := Option.some.inj h
            subst h
            exact hx
          · rw [if_neg c26] at h
            refine v_aload_n E dX12_ringsOf_49 rfl ?_
            refine v_iload_n E dX12_ringsOf_50 rfl ?_
            refine v_iload E dX12_ringsOf_51 rfl ?_
            refine v_iconst (v := 0) E dX12_ringsOf_53 (by decide) ?_
            replace h := bnd_e h
            obtain ⟨r13, er13, h⟩ := h
            refine v_callV (na := 3) (As := [vI a1, vI s9.1, vI 0]) (rest := []) (ci := 12) (q := (RX12, TX12, 20)) E gw12_104 (by decide +kernel) rfl rfl (by decide) (kX12_place l er13).2 (kX12_place l er13).1 rfl rfl dX12_ringsOf_54 ⟨Nat.le_of_ble_eq_true rfl, Nat.le_of_ble_eq_true rfl⟩ ⟨(Nat.le_of_ble_eq_true rfl), (Nat.le_of_ble_eq_true rfl)⟩ (Nat.le_of_ble_eq_true rfl) ?_
            refine v_istore (lv' := [some (vR (some o1)), some (vI a1), some (vI a2), some (vI (2 * r1)), some (vI s9.1), some (vI r13), none, none, none]) E dX12_ringsOf_57 (by decide) rfl ?_
            refine v_aload_n E dX12_ringsOf_59 rfl ?_
            refine v_iload_n E dX12_ringsOf_60 rfl ?_
            refine v_iload E dX12_ringsOf_61 rfl ?_
            refine v_iconst (v := 1) E dX12_ringsOf_63 (by decide) ?_
            replace h := bnd_e h
            obtain ⟨r14, er14, h⟩ := h
            refine v_callV (na := 3) (As := [vI a1, vI s9.1, vI 1]) (rest := []) (ci := 12) (q := (RX12, TX12, 20)) E gw12_104 (by decide +kernel) rfl rfl (by decide) (kX12_place l er14).2 (kX12_place l er14).1 rfl rfl dX12_ringsOf_64 ⟨Nat.le_of_ble_eq_true rfl, Nat.le_of_ble_eq_true rfl⟩ ⟨(Nat.le_of_ble_eq_true rfl), (Nat.le_of_ble_eq_true rfl)⟩ (Nat.le_of_ble_eq_true rfl) ?_
            refine v_istore (lv' := [some (vR (some o1)), some (vI a1), some (vI a2), some (vI (2 * r1)), some (vI s9.1), some (vI r13), some (vI r14), none, none]) E dX12_ringsOf_67 (by decide) rfl ?_
            refine v_iload E dX12_ringsOf_69 rfl ?_
            refine v_iload_n E dX12_ringsOf_71 rfl ?_
            refine v_iadd E dX12_ringsOf_72 ?_
            refine v_iconst (v := 1) E dX12_ringsOf_73 (by decide) ?_
            refine v_isub E dX12_ringsOf_74 ?_
            refine v_iload_n E dX12_ringsOf_75 rfl ?_
            replace h := bnd_e h
            obtain ⟨v15, ev15, h⟩ := h
            refine v_irem E ev15 dX12_ringsOf_76 ?_
            refine v_istore (lv' := [some (vR (some o1)), some (vI a1), some (vI a2), some (vI (2 * r1)), some (vI s9.1), some (vI r13), some (vI r14), some (vI v15), none]) E dX12_ringsOf_77 (by decide) rfl ?_
            refine v_iload E dX12_ringsOf_79 rfl ?_
            refine v_iconst (v := 1) E dX12_ringsOf_81 (by decide) ?_
            refine v_isub E dX12_ringsOf_82 ?_
            refine v_istore (lv' := [some (vR (some o1)), some (vI a1), some (vI a2), some (vI (2 * r1)), some (vI s9.1), some (vI r13), some (vI r14), some (vI v15), some (vI (r14 - 1))]) E dX12_ringsOf_83 (by decide) rfl ?_
            refine v_aload_n E dX12_ringsOf_85 rfl ?_
            refine v_iload E dX12_ringsOf_86 rfl ?_
            refine v_iload_n E dX12_ringsOf_88 rfl ?_
            refine v_iload E dX12_ringsOf_89 rfl ?_
            replace h := bnd_e h
            obtain ⟨r16, er16, h⟩ := h
            refine v_callS (na := 2) (As := [vI a2, vI s9.1]) (rest := [vI v15, vR (some o1)]) E gw12_125 (by decide +kernel) (kX12_has l er16) rfl rfl dX12_ringsOf_91 ⟨Nat.le_of_ble_eq_true rfl, Nat.le_of_ble_eq_true rfl⟩ ⟨(Nat.le_of_ble_eq_true rfl), (Nat.le_of_ble_eq_true rfl)⟩ (Nat.le_of_ble_eq_true rfl) ?_
            refine jp1_use h (fun K17 eK17 h => ?_)
            have hK17 : ∀ x19 : Int32, K17 x19 = some w11 → V p l e { frames := 2, cells := 0, slots := 0, locals := 48 } s m ar below meth c (MQ below (Qd base D cy (some (vI r.1)) r.2) ar s 0 0 (fun q => base ≤ q)) base D cy 9 104 [some (vR (some o1)), some (vI a1), some (vI a2), some (vI (2 * r1)), some (vI s9.1), some (vI r13), some (vI r14), none, some (vI (r14 - 1))] [vI x19, vI v15, vR (some o1)] s9.2 0 0 := by
              intro x19 h
              rw [eK17] at h
              try dsimp only at h
              replace h := bnd_e h
              obtain ⟨r20, er20, h⟩ := h
              refine v_callV (na := 2) (As := [vI v15, vI x19]) (rest := []) (ci := 12) (q := (RX12, TX12, 20)) E gw12_119 (by decide +kernel) rfl rfl (by decide) (kX12_joins l er20).2 (kX12_joins l er20).1 rfl rfl dX12_ringsOf_104 ⟨Nat.le_of_ble_eq_true rfl, Nat.le_of_ble_eq_true rfl⟩ ⟨(Nat.le_of_ble_eq_true rfl), (Nat.le_of_ble_eq_true rfl)⟩ (Nat.le_of_ble_eq_true rfl) ?_
              refine v_aload_n E dX12_ringsOf_107 rfl ?_
              refine v_iload E dX12_ringsOf_108 rfl ?_
              refine v_iload_n E dX12_ringsOf_110 rfl ?_
              refine v_iload E dX12_ringsOf_111 rfl ?_
              replace h := bnd_e h
              obtain ⟨r21, er21, h⟩ := h
              refine v_callS (na := 2) (As := [vI a2, vI s9.1]) (rest := [vI r13, vR (some o1)]) E gw12_125 (by decide +kernel) (kX12_has l er21) rfl rfl dX12_ringsOf_113 ⟨Nat.le_of_ble_eq_true rfl, Nat.le_of_ble_eq_true rfl⟩ ⟨(Nat.le_of_ble_eq_true rfl), (Nat.le_of_ble_eq_true rfl)⟩ (Nat.le_of_ble_eq_true rfl) ?_
              refine jp1_use h (fun K22 eK22 h => ?_)
              have hK22 : ∀ x24 : Int32, K22 x24 = some w11 → V p l e { frames := 2, cells := 0, slots := 0, locals := 48 } s m ar below meth c (MQ below (Qd base D cy (some (vI r.1)) r.2) ar s 0 0 (fun q => base ≤ q)) base D cy 9 126 [some (vR (some o1)), some (vI a1), some (vI a2), some (vI (2 * r1)), some (vI s9.1), none, none, none, none] [vI x24, vI r13, vR (some o1)] r20 0 0 := by
                intro x24 h
                rw [eK22] at h
                try dsimp only at h
                replace h := bnd_e h
                obtain ⟨r25, er25, h⟩ := h
                refine v_callV (na := 2) (As := [vI r13, vI x24]) (rest := []) (ci := 12) (q := (RX12, TX12, 20)) E gw12_119 (by decide +kernel) rfl rfl (by decide) (kX12_joins l er25).2 (kX12_joins l er25).1 rfl rfl dX12_ringsOf_126 ⟨Nat.le_of_ble_eq_true rfl, Nat.le_of_ble_eq_true rfl⟩ ⟨(Nat.le_of_ble_eq_true rfl), (Nat.le_of_ble_eq_true rfl)⟩ (Nat.le_of_ble_eq_true rfl) ?_
                refine v_iinc (v := (s9.1 + 1)) (lv' := [some (vR (some o1)), some (vI a1), some (vI a2), some (vI (2 * r1)), some (vI (s9.1 + 1)), none, none, none, none]) E dX12_ringsOf_129 rfl (by rfl) (by decide) rfl ?_
                refine v_goto (tgt := 39) E dX12_ringsOf_132 (by decide) ?_
                replace h := Option.some.inj h
                subst h
                exact hx
              refine v_if_eq (tgt := 124) E dX12_ringsOf_116 (by decide) (fun c23 => ?_) (fun c23 => ?_)
              · rw [if_pos c23] at h
                refine v_iload E dX12_ringsOf_124 rfl ?_
                refine v_drop (lv' := [some (vR (some o1)), some (vI a1), some (vI a2), some (vI (2 * r1)), some (vI s9.1), none, none, none, none]) [5, 6, 8] rfl ?_
                exact hK22 ((r14 - 1)) h
              · rw [if_neg c23] at h
                refine v_iload E dX12_ringsOf_119 rfl ?_
                refine v_goto (tgt := 126) E dX12_ringsOf_121 (by decide) ?_
                refine v_drop (lv' := [some (vR (some o1)), some (vI a1), some (vI a2), some (vI (2 * r1)), some (vI s9.1), none, none, none, none]) [5, 6, 8] rfl ?_
                exact hK22 r14 h
            refine v_if_eq (tgt := 102) E dX12_ringsOf_94 (by decide) (fun c18 => ?_) (fun c18 => ?_)
            · rw [if_pos c18] at h
              refine v_iload E dX12_ringsOf_102 rfl ?_
              refine v_drop (lv' := [some (vR (some o1)), some (vI a1), some (vI a2), some (vI (2 * r1)), some (vI s9.1), some (vI r13), some (vI r14), none, some (vI (r14 - 1))]) [7] rfl ?_
              exact hK17 r14 h
            · rw [if_neg c18] at h
              refine v_iload E dX12_ringsOf_97 rfl ?_
              refine v_goto (tgt := 104) E dX12_ringsOf_99 (by decide) ?_
              refine v_drop (lv' := [some (vR (some o1)), some (vI a1), some (vI a2), some (vI (2 * r1)), some (vI s9.1), some (vI r13), some (vI r14), none, some (vI (r14 - 1))]) [7] rfl ?_
              exact hK17 ((r14 - 1)) h
        · refine v_goto (tgt := 24) E dX12_ringsOf_135 (by decide) ?_
          replace h := Option.some.inj h
          subst h
          exact hx
    · refine v_aload_n E dX12_ringsOf_138 rfl ?_
      refine v_iload_n E dX12_ringsOf_139 rfl ?_
      replace h := bnd_e h
      obtain ⟨r29, er29, h⟩ := h
      refine v_callV (na := 1) (As := [vI (2 * r1)]) (rest := []) (ci := 12) (q := (RX12, TX12, 20)) E gw12_122 (by decide +kernel) rfl rfl (by decide) (kX12_heaps l er29).2 (kX12_heaps l er29).1 rfl rfl dX12_ringsOf_140 ⟨Nat.le_of_ble_eq_true rfl, Nat.le_of_ble_eq_true rfl⟩ ⟨(Nat.le_of_ble_eq_true rfl), (Nat.le_of_ble_eq_true rfl)⟩ (Nat.le_of_ble_eq_true rfl) ?_
      replace h := Option.some.inj h
      subst h
      refine v_widen (k' := 0) (n' := 0) (Nat.le_of_ble_eq_true rfl) (Nat.le_of_ble_eq_true rfl) ?_
      exact v_iret E dX12_ringsOf_143
  · rw [if_pos c31] at h
    refine v_iconst (v := 1) E dX12_ringsOf_12 (by decide) ?_
    replace h := Option.some.inj h
    subst h
    refine v_widen (k' := 0) (n' := 0) (Nat.le_of_ble_eq_true rfl) (Nat.le_of_ble_eq_true rfl) ?_
    exact v_iret E dX12_ringsOf_13
noncomputable def fX12_statesOf (A0 : AH) (o0 : Option Nat) (a1 : Int32) (a2 : Int32) : Option (Int32 × AH) :=
  (rcv A0 13 o0).bind fun o0 =>
  (iter (S := Int32 × Int32 × AH) (T := Int32 × AH) (fun s1 =>
      (fX12_size s1.2.2 ((some o0)) a1).bind fun r4 =>
      if ((1 : Int32) <<< ((r4 : Int32) &&& 31)) ≤ s1.2.1 then
        some (.inr (s1.1, s1.2.2))
      else
        (fX12_ringsOf s1.2.2 ((some o0)) a1 s1.2.1).bind fun r5 =>
        jp1 (α := Int32) (if r5.1 = a2 then
            1
          else
            0) fun x8 =>
        some (.inl ((s1.1 + x8), (s1.2.1 + 1), r5.2))) (0, 0, A0)).bind fun t2 =>
  some ((t2.1, t2.2))
set_option maxRecDepth 100000 in
set_option maxHeartbeats 4000000 in
theorem kX12_statesOf (l : Launch) {A0 : AH} {o0 : Option Nat} {a1 : Int32} {a2 : Int32} {r : Int32 × AH} (h : fX12_statesOf A0 o0 a1 a2 = some r) : (∃ a, o0 = some a ∧ Hk A0 a = 13) ∧ Cn l yX12_statesOf cX12_statesOf 5 (some .int) 3 76 0 0 [vR o0, vI a1, vI a2] A0 (some (vI r.1)) r.2 := by
  unfold fX12_statesOf at h
  replace h := bnd_e h
  obtain ⟨o1, e1, h⟩ := h
  obtain ⟨rfl, hk0⟩ := rcv_e e1
  refine ⟨⟨o1, rfl, hk0⟩, ?_⟩
  refine Cn.of (pad := 2) (lv0 := [some (vR (some o1)), some (vI a1), some (vI a2), none, none]) (by decide +kernel) (Nat.le_of_ble_eq_true rfl) rfl ?_
  intro p e s m below meth c base D cy E
  generalize (List.map toV [vR (some o1), vI a1, vI a2]).toArray = ar at E ⊢
  have E : EN p s m ar meth c D cy RX12 cX12_statesOf 5 (some .int) "statesOf" := E
  refine v_iconst (v := 0) E dX12_statesOf_0 (by decide) ?_
  refine v_istore_n (lv' := [some (vR (some o1)), some (vI a1), some (vI a2), some (vI 0), none]) E dX12_statesOf_1 (by decide) rfl ?_
  refine v_iconst (v := 0) E dX12_statesOf_2 (by decide) ?_
  refine v_istore (lv' := [some (vR (some o1)), some (vI a1), some (vI a2), some (vI 0), some (vI 0)]) E dX12_statesOf_3 (by decide) rfl ?_
  replace h := bnd_e h
  obtain ⟨t2, et2, h⟩ := h
  refine iter_V (S := Int32 × Int32 × AH) (T := Int32 × AH) (Ph := fun s1 => V p l e { frames := 3, cells := 0, slots := 0, locals := 76 } s m ar below meth c (MQ below (Qd base D cy (some (vI r.1)) r.2) ar s 0 0 (fun q => base ≤ q)) base D cy 5 5 [some (vR (some o1)), some (vI a1), some (vI a2), some (vI s1.1), some (vI s1.2.1)] [] s1.2.2 0 0) (Pt := fun t2 => V p l e { frames := 3, cells := 0, slots := 0, locals := 76 } s m ar below meth c (MQ below (Qd base D cy (some (vI r.1)) r.2) ar s 0 0 (fun q => base ≤ q)) base D cy 5 42 [none, none, none, some (vI t2.1), none] [] t2.2 0 0) et2 (fun s1 w3 h hx => ?_) ?_
  · try dsimp only at h
    refine v_iload E dX12_statesOf_5 rfl ?_
    refine v_iconst (v := 1) E dX12_statesOf_7 (by decide) ?_
    refine v_aload_n E dX12_statesOf_8 rfl ?_
    refine v_iload_n E dX12_statesOf_9 rfl ?_
    replace h := bnd_e h
    obtain ⟨r4, er4, h⟩ := h
    refine v_callV (na := 1) (As := [vI a1]) (rest := [vI 1, vI s1.2.1]) (ci := 12) (q := (RX12, TX12, 20)) E gw12_59 (by decide +kernel) rfl rfl (by decide) (kX12_size l er4).2 (kX12_size l er4).1 rfl rfl dX12_statesOf_10 ⟨Nat.le_of_ble_eq_true rfl, Nat.le_of_ble_eq_true rfl⟩ ⟨(Nat.le_of_ble_eq_true rfl), (Nat.le_of_ble_eq_true rfl)⟩ (Nat.le_of_ble_eq_true rfl) ?_
    refine v_ishl E dX12_statesOf_13 ?_
    refine v_icmp_ge (tgt := 42) E dX12_statesOf_14 (by decide) (fun c9 => ?_) (fun c9 => ?_)
    · rw [if_pos c9] at h
      refine v_drop (lv' := [none, none, none, some (vI s1.1), none]) [0, 1, 2, 4] rfl ?_
      replace h := Option.some.inj h
      subst h
      exact hx
    · rw [if_neg c9] at h
      refine v_iload_n E dX12_statesOf_17 rfl ?_
      refine v_aload_n E dX12_statesOf_18 rfl ?_
      refine v_iload_n E dX12_statesOf_19 rfl ?_
      refine v_iload E dX12_statesOf_20 rfl ?_
      replace h := bnd_e h
      obtain ⟨r5, er5, h⟩ := h
      refine v_callV (na := 2) (As := [vI a1, vI s1.2.1]) (rest := [vI s1.1]) (ci := 12) (q := (RX12, TX12, 20)) E gw12_191 (by decide +kernel) rfl rfl (by decide) (kX12_ringsOf l er5).2 (kX12_ringsOf l er5).1 rfl rfl dX12_statesOf_22 ⟨Nat.le_of_ble_eq_true rfl, Nat.le_of_ble_eq_true rfl⟩ ⟨(Nat.le_of_ble_eq_true rfl), (Nat.le_of_ble_eq_true rfl)⟩ (Nat.le_of_ble_eq_true rfl) ?_
      refine v_iload_n E dX12_statesOf_25 rfl ?_
      refine jp1_use h (fun K6 eK6 h => ?_)
      have hK6 : ∀ x8 : Int32, K6 x8 = some w3 → V p l e { frames := 3, cells := 0, slots := 0, locals := 76 } s m ar below meth c (MQ below (Qd base D cy (some (vI r.1)) r.2) ar s 0 0 (fun q => base ≤ q)) base D cy 5 34 [some (vR (some o1)), some (vI a1), some (vI a2), none, some (vI s1.2.1)] [vI x8, vI s1.1] r5.2 0 0 := by
        intro x8 h
        rw [eK6] at h
        try dsimp only at h
        refine v_iadd E dX12_statesOf_34 ?_
        refine v_istore_n (lv' := [some (vR (some o1)), some (vI a1), some (vI a2), some (vI (s1.1 + x8)), some (vI s1.2.1)]) E dX12_statesOf_35 (by decide) rfl ?_
        refine v_iinc (v := (s1.2.1 + 1)) (lv' := [some (vR (some o1)), some (vI a1), some (vI a2), some (vI (s1.1 + x8)), some (vI (s1.2.1 + 1))]) E dX12_statesOf_36 rfl (by rfl) (by decide) rfl ?_
        refine v_goto (tgt := 5) E dX12_statesOf_39 (by decide) ?_
        replace h := Option.some.inj h
        subst h
        exact hx
      refine v_icmp_ne (tgt := 33) E dX12_statesOf_26 (by decide) (fun c7 => ?_) (fun c7 => ?_)
      · rw [if_neg c7] at h
        refine v_iconst (v := 0) E dX12_statesOf_33 (by decide) ?_
        refine v_drop (lv' := [some (vR (some o1)), some (vI a1), some (vI a2), none, some (vI s1.2.1)]) [3] rfl ?_
        exact hK6 0 h
      · rw [if_pos c7] at h
        refine v_iconst (v := 1) E dX12_statesOf_29 (by decide) ?_
        refine v_goto (tgt := 34) E dX12_statesOf_30 (by decide) ?_
        refine v_drop (lv' := [some (vR (some o1)), some (vI a1), some (vI a2), none, some (vI s1.2.1)]) [3] rfl ?_
        exact hK6 1 h
  · refine v_iload_n E dX12_statesOf_42 rfl ?_
    replace h := Option.some.inj h
    subst h
    refine v_widen (k' := 0) (n' := 0) (Nat.le_of_ble_eq_true rfl) (Nat.le_of_ble_eq_true rfl) ?_
    exact v_iret E dX12_statesOf_43
noncomputable def fX12_turned (A0 : AH) (o0 : Option Nat) (a1 : Int32) (a2 : Int32) (a3 : Int32) : Option (AH) :=
  (rcv A0 13 o0).bind fun o0 =>
  (fX12_size A0 ((some o0)) a1).bind fun r1 =>
  (pI A0 13 396 ((some o0)) 0).bind fun A2 =>
  (iter (S := Int32 × AH) (T := AH) (fun s3 =>
      if (2 * r1) ≤ s3.1 then
        some (.inr s3.2)
      else
        jp1 (α := Int32) (if a3 = 0 then
            ((a2 + s3.1))
          else
            (((a2 - s3.1) + (2 * r1)))) fun x8 =>
        (rmI x8 ((2 * r1))).bind fun v9 =>
          (fX12_letterAt s3.2 ((some o0)) a1 v9).bind fun r10 =>
          (fX12_comes s3.2 ((some o0)) r10).bind fun r11 =>
          some (.inl ((s3.1 + 1), r11))) (0, A2)).bind fun t4 =>
  some t4
set_option maxRecDepth 100000 in
set_option maxHeartbeats 4000000 in
theorem kX12_turned (l : Launch) {A0 : AH} {o0 : Option Nat} {a1 : Int32} {a2 : Int32} {a3 : Int32} {r : AH} (h : fX12_turned A0 o0 a1 a2 a3 = some r) : (∃ a, o0 = some a ∧ Hk A0 a = 13) ∧ Cn l yX12_turned cX12_turned 6 none 1 22 0 0 [vR o0, vI a1, vI a2, vI a3] A0 none r := by
  unfold fX12_turned at h
  replace h := bnd_e h
  obtain ⟨o1, e1, h⟩ := h
  obtain ⟨rfl, hk0⟩ := rcv_e e1
  refine ⟨⟨o1, rfl, hk0⟩, ?_⟩
  refine Cn.of (pad := 2) (lv0 := [some (vR (some o1)), some (vI a1), some (vI a2), some (vI a3), none, none]) (by decide +kernel) (Nat.le_of_ble_eq_true rfl) rfl ?_
  intro p e s m below meth c base D cy E
  generalize (List.map toV [vR (some o1), vI a1, vI a2, vI a3]).toArray = ar at E ⊢
  have E : EN p s m ar meth c D cy RX12 cX12_turned 6 none "turned" := E
  refine v_iconst (v := 2) E dX12_turned_0 (by decide) ?_
  refine v_aload_n E dX12_turned_1 rfl ?_
  refine v_iload_n E dX12_turned_2 rfl ?_
  replace h := bnd_e h
  obtain ⟨r1, er1, h⟩ := h
  refine v_callV (na := 1) (As := [vI a1]) (rest := [vI 2]) (ci := 12) (q := (RX12, TX12, 20)) E gw12_59 (by decide +kernel) rfl rfl (by decide) (kX12_size l er1).2 (kX12_size l er1).1 rfl rfl dX12_turned_3 ⟨Nat.le_of_ble_eq_true rfl, Nat.le_of_ble_eq_true rfl⟩ ⟨(Nat.le_of_ble_eq_true rfl), (Nat.le_of_ble_eq_true rfl)⟩ (Nat.le_of_ble_eq_true rfl) ?_
  refine v_imul E dX12_turned_6 ?_
  refine v_istore (lv' := [some (vR (some o1)), some (vI a1), some (vI a2), some (vI a3), some (vI (2 * r1)), none]) E dX12_turned_7 (by decide) rfl ?_
  refine v_aload_n E dX12_turned_9 rfl ?_
  refine v_iconst (v := 0) E dX12_turned_10 (by decide) ?_
  replace h := bnd_e h
  obtain ⟨A2, eA2, h⟩ := h
  refine p12_67 E eA2 dX12_turned_11 ?_
  refine v_iconst (v := 0) E dX12_turned_14 (by decide) ?_
  refine v_istore (lv' := [some (vR (some o1)), some (vI a1), some (vI a2), some (vI a3), some (vI (2 * r1)), some (vI 0)]) E dX12_turned_15 (by decide) rfl ?_
  replace h := bnd_e h
  obtain ⟨t4, et4, h⟩ := h
  refine iter_V (S := Int32 × AH) (T := AH) (Ph := fun s3 => V p l e { frames := 1, cells := 0, slots := 0, locals := 22 } s m ar below meth c (MQ below (Qd base D cy none r) ar s 0 0 (fun q => base ≤ q)) base D cy 6 17 [some (vR (some o1)), some (vI a1), some (vI a2), some (vI a3), some (vI (2 * r1)), some (vI s3.1)] [] s3.2 0 0) (Pt := fun t4 => V p l e { frames := 1, cells := 0, slots := 0, locals := 22 } s m ar below meth c (MQ below (Qd base D cy none r) ar s 0 0 (fun q => base ≤ q)) base D cy 6 60 [none, none, none, none, none, none] [] t4 0 0) et4 (fun s3 w5 h hx => ?_) ?_
  · try dsimp only at h
    refine v_iload E dX12_turned_17 rfl ?_
    refine v_iload E dX12_turned_19 rfl ?_
    refine v_icmp_ge (tgt := 60) E dX12_turned_21 (by decide) (fun c12 => ?_) (fun c12 => ?_)
    · rw [if_pos c12] at h
      refine v_drop (lv' := [none, none, none, none, none, none]) [0, 1, 2, 3, 4, 5] rfl ?_
      replace h := Option.some.inj h
      subst h
      exact hx
    · rw [if_neg c12] at h
      refine v_aload_n E dX12_turned_24 rfl ?_
      refine v_aload_n E dX12_turned_25 rfl ?_
      refine v_iload_n E dX12_turned_26 rfl ?_
      refine v_iload_n E dX12_turned_27 rfl ?_
      refine jp1_use h (fun K6 eK6 h => ?_)
      have hK6 : ∀ x8 : Int32, K6 x8 = some w5 → V p l e { frames := 1, cells := 0, slots := 0, locals := 22 } s m ar below meth c (MQ below (Qd base D cy none r) ar s 0 0 (fun q => base ≤ q)) base D cy 6 45 [some (vR (some o1)), some (vI a1), some (vI a2), some (vI a3), some (vI (2 * r1)), some (vI s3.1)] [vI x8, vI a1, vR (some o1), vR (some o1)] s3.2 0 0 := by
        intro x8 h
        rw [eK6] at h
        try dsimp only at h
        refine v_iload E dX12_turned_45 rfl ?_
        replace h := bnd_e h
        obtain ⟨v9, ev9, h⟩ := h
        refine v_irem E ev9 dX12_turned_47 ?_
        replace h := bnd_e h
        obtain ⟨r10, er10, h⟩ := h
        refine v_callV (na := 2) (As := [vI a1, vI v9]) (rest := [vR (some o1)]) (ci := 12) (q := (RX12, TX12, 20)) E gw12_63 (by decide +kernel) rfl rfl (by decide) (kX12_letterAt l er10).2 (kX12_letterAt l er10).1 rfl rfl dX12_turned_48 ⟨Nat.le_of_ble_eq_true rfl, Nat.le_of_ble_eq_true rfl⟩ ⟨(Nat.le_of_ble_eq_true rfl), (Nat.le_of_ble_eq_true rfl)⟩ (Nat.le_of_ble_eq_true rfl) ?_
        replace h := bnd_e h
        obtain ⟨r11, er11, h⟩ := h
        refine v_callV (na := 1) (As := [vI r10]) (rest := []) (ci := 12) (q := (RX12, TX12, 20)) E gw12_96 (by decide +kernel) rfl rfl (by decide) (kX12_comes l er11).2 (kX12_comes l er11).1 rfl rfl dX12_turned_51 ⟨Nat.le_of_ble_eq_true rfl, Nat.le_of_ble_eq_true rfl⟩ ⟨(Nat.le_of_ble_eq_true rfl), (Nat.le_of_ble_eq_true rfl)⟩ (Nat.le_of_ble_eq_true rfl) ?_
        refine v_iinc (v := (s3.1 + 1)) (lv' := [some (vR (some o1)), some (vI a1), some (vI a2), some (vI a3), some (vI (2 * r1)), some (vI (s3.1 + 1))]) E dX12_turned_54 rfl (by rfl) (by decide) rfl ?_
        refine v_goto (tgt := 17) E dX12_turned_57 (by decide) ?_
        replace h := Option.some.inj h
        subst h
        exact hx
      refine v_if_eq (tgt := 41) E dX12_turned_28 (by decide) (fun c7 => ?_) (fun c7 => ?_)
      · rw [if_pos c7] at h
        refine v_iload_n E dX12_turned_41 rfl ?_
        refine v_iload E dX12_turned_42 rfl ?_
        refine v_iadd E dX12_turned_44 ?_
        exact hK6 ((a2 + s3.1)) h
      · rw [if_neg c7] at h
        refine v_iload_n E dX12_turned_31 rfl ?_
        refine v_iload E dX12_turned_32 rfl ?_
        refine v_isub E dX12_turned_34 ?_
        refine v_iload E dX12_turned_35 rfl ?_
        refine v_iadd E dX12_turned_37 ?_
        refine v_goto (tgt := 45) E dX12_turned_38 (by decide) ?_
        exact hK6 (((a2 - s3.1) + (2 * r1))) h
  · replace h := Option.some.inj h
    subst h
    refine v_widen (k' := 0) (n' := 0) (Nat.le_of_ble_eq_true rfl) (Nat.le_of_ble_eq_true rfl) ?_
    exact v_vret E dX12_turned_60
noncomputable def fX12_codeOfMade (A0 : AH) (o0 : Option Nat) : Option (Int64) :=
  (rcv A0 13 o0).bind fun o0 =>
  (iter (S := Int64 × Int32) (T := Int64) (fun s1 =>
      (gI A0 13 396 ((some o0))).bind fun v4 =>
      if v4 ≤ s1.2 then
        some (.inr s1.1)
      else
        (fX12_numberOf A0 ((some o0)) s1.2).bind fun r5 =>
        some (.inl (((8 * s1.1) + ((r5 : Int32).toInt64)), (s1.2 + 1)))) (0, 0)).bind fun t2 =>
  some t2
set_option maxRecDepth 100000 in
set_option maxHeartbeats 4000000 in
theorem kX12_codeOfMade (l : Launch) {A0 : AH} {o0 : Option Nat} {r : Int64} (h : fX12_codeOfMade A0 o0 = some r) : (∃ a, o0 = some a ∧ Hk A0 a = 13) ∧ Cn l yX12_codeOfMade cX12_codeOfMade 4 (some .long) 1 25 0 0 [vR o0] A0 (some (vJ r)) A0 := by
  unfold fX12_codeOfMade at h
  replace h := bnd_e h
  obtain ⟨o1, e1, h⟩ := h
  obtain ⟨rfl, hk0⟩ := rcv_e e1
  refine ⟨⟨o1, rfl, hk0⟩, ?_⟩
  refine Cn.of (pad := 3) (lv0 := [some (vR (some o1)), none, none, none]) (by decide +kernel) (Nat.le_of_ble_eq_true rfl) rfl ?_
  intro p e s m below meth c base D cy E
  generalize (List.map toV [vR (some o1)]).toArray = ar at E ⊢
  have E : EN p s m ar meth c D cy RX12 cX12_codeOfMade 4 (some .long) "codeOfMade" := E
  refine v_lconst (v := 0) E dX12_codeOfMade_0 (by decide) ?_
  refine v_lstore_n (lv' := [some (vR (some o1)), some (vJ 0), none, none]) E dX12_codeOfMade_1 (by decide) rfl ?_
  refine v_iconst (v := 0) E dX12_codeOfMade_2 (by decide) ?_
  refine v_istore_n (lv' := [some (vR (some o1)), some (vJ 0), none, some (vI 0)]) E dX12_codeOfMade_3 (by decide) rfl ?_
  replace h := bnd_e h
  obtain ⟨t2, et2, h⟩ := h
  refine iter_V (S := Int64 × Int32) (T := Int64) (Ph := fun s1 => V p l e { frames := 1, cells := 0, slots := 0, locals := 25 } s m ar below meth c (MQ below (Qd base D cy (some (vJ r)) A0) ar s 0 0 (fun q => base ≤ q)) base D cy 4 4 [some (vR (some o1)), some (vJ s1.1), none, some (vI s1.2)] [] A0 0 0) (Pt := fun t2 => V p l e { frames := 1, cells := 0, slots := 0, locals := 25 } s m ar below meth c (MQ below (Qd base D cy (some (vJ r)) A0) ar s 0 0 (fun q => base ≤ q)) base D cy 4 31 [none, some (vJ t2), none, none] [] A0 0 0) et2 (fun s1 w3 h hx => ?_) ?_
  · try dsimp only at h
    refine v_iload_n E dX12_codeOfMade_4 rfl ?_
    refine v_aload_n E dX12_codeOfMade_5 rfl ?_
    replace h := bnd_e h
    obtain ⟨v4, ev4, h⟩ := h
    refine g12_67 E ev4 dX12_codeOfMade_6 ?_
    refine v_icmp_ge (tgt := 31) E dX12_codeOfMade_9 (by decide) (fun c6 => ?_) (fun c6 => ?_)
    · rw [if_pos c6] at h
      refine v_drop (lv' := [none, some (vJ s1.1), none, none]) [0, 3] rfl ?_
      replace h := Option.some.inj h
      subst h
      exact hx
    · rw [if_neg c6] at h
      refine v_ldc2 (v := 8) E dX12_codeOfMade_12 q1168 ?_
      refine v_lload_n E dX12_codeOfMade_15 rfl ?_
      refine v_lmul E dX12_codeOfMade_16 ?_
      refine v_aload_n E dX12_codeOfMade_17 rfl ?_
      refine v_iload_n E dX12_codeOfMade_18 rfl ?_
      replace h := bnd_e h
      obtain ⟨r5, er5, h⟩ := h
      refine v_callV (na := 1) (As := [vI s1.2]) (rest := [vJ (8 * s1.1)]) (ci := 12) (q := (RX12, TX12, 20)) E gw12_70 (by decide +kernel) rfl rfl (by decide) (kX12_numberOf l er5).2 (kX12_numberOf l er5).1 rfl rfl dX12_codeOfMade_19 ⟨Nat.le_of_ble_eq_true rfl, Nat.le_of_ble_eq_true rfl⟩ ⟨(Nat.le_of_ble_eq_true rfl), (Nat.le_of_ble_eq_true rfl)⟩ (Nat.le_of_ble_eq_true rfl) ?_
      refine v_i2l E dX12_codeOfMade_22 ?_
      refine v_ladd E dX12_codeOfMade_23 ?_
      refine v_lstore_n (lv' := [some (vR (some o1)), some (vJ ((8 * s1.1) + ((r5 : Int32).toInt64))), none, some (vI s1.2)]) E dX12_codeOfMade_24 (by decide) rfl ?_
      refine v_iinc (v := (s1.2 + 1)) (lv' := [some (vR (some o1)), some (vJ ((8 * s1.1) + ((r5 : Int32).toInt64))), none, some (vI (s1.2 + 1))]) E dX12_codeOfMade_25 rfl (by rfl) (by decide) rfl ?_
      refine v_goto (tgt := 4) E dX12_codeOfMade_28 (by decide) ?_
      replace h := Option.some.inj h
      subst h
      exact hx
  · refine v_lload_n E dX12_codeOfMade_31 rfl ?_
    replace h := Option.some.inj h
    subst h
    refine v_widen (k' := 0) (n' := 0) (Nat.le_of_ble_eq_true rfl) (Nat.le_of_ble_eq_true rfl) ?_
    exact v_lret E dX12_codeOfMade_32
noncomputable def fX12_codeOf (A0 : AH) (o0 : Option Nat) (a1 : Int32) : Option (Int64 × AH) :=
  (rcv A0 13 o0).bind fun o0 =>
  (fX12_size A0 ((some o0)) a1).bind fun r1 =>
  jp1 (α := Int32) (if r1 = 0 then
      1
    else
      0) fun x4 =>
  (pI A0 13 403 ((some o0)) x4).bind fun A5 =>
    (iter (S := Int64 × Int64 × Int32 × AH) (T := Int64 × AH) (fun s6 =>
        (fX12_size s6.2.2.2 ((some o0)) a1).bind fun r9 =>
        if (4 * r9) ≤ s6.2.2.1 then
          some (.inr (s6.1, s6.2.2.2))
        else
          (dvI s6.2.2.1 2).bind fun v10 =>
          (rmI s6.2.2.1 2).bind fun v11 =>
          jp1 (α := Int32) (if v11 = 1 then
              1
            else
              0) fun x14 =>
          (fX12_turned s6.2.2.2 ((some o0)) a1 v10 x14).bind fun r15 =>
            (fX12_codeOfMade r15 ((some o0))).bind fun r16 =>
            jp1 (α := Int64) (if s6.2.2.1 = 0 then
                r16
              else
                s6.2.1) fun x19 =>
            jp (fun (x25 : Int64) =>
                (gI r15 13 403 ((some o0))).bind fun v26 =>
                jp1 (α := Int32) (if (lg_cmp r16 x19) = 0 then
                    1
                  else
                    0) fun x29 =>
                (pI r15 13 403 ((some o0)) ((v26 + x29))).bind fun A30 =>
                  some (.inl (x25, x19, (s6.2.2.1 + 1), A30))) fun K20 =>
                jp (fun (x24 : Unit) =>
                  K20 r16) fun K21 =>
                  if s6.2.2.1 = 0 then
                    K21 ()
                  else
                    if 0 ≤ (lg_cmp r16 s6.1) then
                      K20 s6.1
                    else
                      K21 ()) (0, 0, 0, A5)).bind fun t7 =>
    some ((t7.1, t7.2))
set_option maxRecDepth 100000 in
set_option maxHeartbeats 4000000 in
theorem kX12_codeOf (l : Launch) {A0 : AH} {o0 : Option Nat} {a1 : Int32} {r : Int64 × AH} (h : fX12_codeOf A0 o0 a1 = some r) : (∃ a, o0 = some a ∧ Hk A0 a = 13) ∧ Cn l yX12_codeOf cX12_codeOf 9 (some .long) 2 48 0 0 [vR o0, vI a1] A0 (some (vJ r.1)) r.2 := by
  unfold fX12_codeOf at h
  replace h := bnd_e h
  obtain ⟨o1, e1, h⟩ := h
  obtain ⟨rfl, hk0⟩ := rcv_e e1
  refine ⟨⟨o1, rfl, hk0⟩, ?_⟩
  refine Cn.of (pad := 7) (lv0 := [some (vR (some o1)), some (vI a1), none, none, none, none, none, none, none]) (by decide +kernel) (Nat.le_of_ble_eq_true rfl) rfl ?_
  intro p e s m below meth c base D cy E
  generalize (List.map toV [vR (some o1), vI a1]).toArray = ar at E ⊢
  have E : EN p s m ar meth c D cy RX12 cX12_codeOf 9 (some .long) "codeOf" := E
  refine v_lconst (v := 0) E dX12_codeOf_0 (by decide) ?_
  refine v_lstore_n (lv' := [some (vR (some o1)), some (vI a1), some (vJ 0), none, none, none, none, none, none]) E dX12_codeOf_1 (by decide) rfl ?_
  refine v_aload_n E dX12_codeOf_2 rfl ?_
  refine v_aload_n E dX12_codeOf_3 rfl ?_
  refine v_iload_n E dX12_codeOf_4 rfl ?_
  replace h := bnd_e h
  obtain ⟨r1, er1, h⟩ := h
  refine v_callV (na := 1) (As := [vI a1]) (rest := [vR (some o1)]) (ci := 12) (q := (RX12, TX12, 20)) E gw12_59 (by decide +kernel) rfl rfl (by decide) (kX12_size l er1).2 (kX12_size l er1).1 rfl rfl dX12_codeOf_5 ⟨Nat.le_of_ble_eq_true rfl, Nat.le_of_ble_eq_true rfl⟩ ⟨(Nat.le_of_ble_eq_true rfl), (Nat.le_of_ble_eq_true rfl)⟩ (Nat.le_of_ble_eq_true rfl) ?_
  refine jp1_use h (fun K2 eK2 h => ?_)
  have hK2 : ∀ x4 : Int32, K2 x4 = some r → V p l e { frames := 2, cells := 0, slots := 0, locals := 48 } s m ar below meth c (MQ below (Qd base D cy (some (vJ r.1)) r.2) ar s 0 0 (fun q => base ≤ q)) base D cy 9 16 [some (vR (some o1)), some (vI a1), some (vJ 0), none, none, none, none, none, none] [vI x4, vR (some o1)] A0 0 0 := by
    intro x4 h
    rw [eK2] at h
    try dsimp only at h
    replace h := bnd_e h
    obtain ⟨A5, eA5, h⟩ := h
    refine p12_196 E eA5 dX12_codeOf_16 ?_
    refine v_lconst (v := 0) E dX12_codeOf_19 (by decide) ?_
    refine v_lstore (lv' := [some (vR (some o1)), some (vI a1), some (vJ 0), none, some (vJ 0), none, none, none, none]) E dX12_codeOf_20 (by decide) rfl ?_
    refine v_iconst (v := 0) E dX12_codeOf_22 (by decide) ?_
    refine v_istore (lv' := [some (vR (some o1)), some (vI a1), some (vJ 0), none, some (vJ 0), none, some (vI 0), none, none]) E dX12_codeOf_23 (by decide) rfl ?_
    replace h := bnd_e h
    obtain ⟨t7, et7, h⟩ := h
    refine iter_V (S := Int64 × Int64 × Int32 × AH) (T := Int64 × AH) (Ph := fun s6 => V p l e { frames := 2, cells := 0, slots := 0, locals := 48 } s m ar below meth c (MQ below (Qd base D cy (some (vJ r.1)) r.2) ar s 0 0 (fun q => base ≤ q)) base D cy 9 25 [some (vR (some o1)), some (vI a1), some (vJ s6.1), none, some (vJ s6.2.1), none, some (vI s6.2.2.1), none, none] [] s6.2.2.2 0 0) (Pt := fun t7 => V p l e { frames := 2, cells := 0, slots := 0, locals := 48 } s m ar below meth c (MQ below (Qd base D cy (some (vJ r.1)) r.2) ar s 0 0 (fun q => base ≤ q)) base D cy 9 126 [none, none, some (vJ t7.1), none, none, none, none, none, none] [] t7.2 0 0) et7 (fun s6 w8 h hx => ?_) ?_
    · try dsimp only at h
      refine v_iload E dX12_codeOf_25 rfl ?_
      refine v_iconst (v := 4) E dX12_codeOf_27 (by decide) ?_
      refine v_aload_n E dX12_codeOf_28 rfl ?_
      refine v_iload_n E dX12_codeOf_29 rfl ?_
      replace h := bnd_e h
      obtain ⟨r9, er9, h⟩ := h
      refine v_callV (na := 1) (As := [vI a1]) (rest := [vI 4, vI s6.2.2.1]) (ci := 12) (q := (RX12, TX12, 20)) E gw12_59 (by decide +kernel) rfl rfl (by decide) (kX12_size l er9).2 (kX12_size l er9).1 rfl rfl dX12_codeOf_30 ⟨Nat.le_of_ble_eq_true rfl, Nat.le_of_ble_eq_true rfl⟩ ⟨(Nat.le_of_ble_eq_true rfl), (Nat.le_of_ble_eq_true rfl)⟩ (Nat.le_of_ble_eq_true rfl) ?_
      refine v_imul E dX12_codeOf_33 ?_
      refine v_icmp_ge (tgt := 126) E dX12_codeOf_34 (by decide) (fun c31 => ?_) (fun c31 => ?_)
      · rw [if_pos c31] at h
        refine v_drop (lv' := [none, none, some (vJ s6.1), none, none, none, none, none, none]) [0, 1, 4, 6] rfl ?_
        replace h := Option.some.inj h
        subst h
        exact hx
      · rw [if_neg c31] at h
        refine v_aload_n E dX12_codeOf_37 rfl ?_
        refine v_iload_n E dX12_codeOf_38 rfl ?_
        refine v_iload E dX12_codeOf_39 rfl ?_
        refine v_iconst (v := 2) E dX12_codeOf_41 (by decide) ?_
        replace h := bnd_e h
        obtain ⟨v10, ev10, h⟩ := h
        refine v_idiv E ev10 dX12_codeOf_42 ?_
        refine v_iload E dX12_codeOf_43 rfl ?_
        refine v_iconst (v := 2) E dX12_codeOf_45 (by decide) ?_
        replace h := bnd_e h
        obtain ⟨v11, ev11, h⟩ := h
        refine v_irem E ev11 dX12_codeOf_46 ?_
        refine v_iconst (v := 1) E dX12_codeOf_47 (by decide) ?_
        refine jp1_use h (fun K12 eK12 h => ?_)
        have hK12 : ∀ x14 : Int32, K12 x14 = some w8 → V p l e { frames := 2, cells := 0, slots := 0, locals := 48 } s m ar below meth c (MQ below (Qd base D cy (some (vJ r.1)) r.2) ar s 0 0 (fun q => base ≤ q)) base D cy 9 56 [some (vR (some o1)), some (vI a1), some (vJ s6.1), none, some (vJ s6.2.1), none, some (vI s6.2.2.1), none, none] [vI x14, vI v10, vI a1, vR (some o1)] s6.2.2.2 0 0 := by
          intro x14 h
          rw [eK12] at h
          try dsimp only at h
          replace h := bnd_e h
          obtain ⟨r15, er15, h⟩ := h
          refine v_callV (na := 3) (As := [vI a1, vI v10, vI x14]) (rest := []) (ci := 12) (q := (RX12, TX12, 20)) E gw12_199 (by decide +kernel) rfl rfl (by decide) (kX12_turned l er15).2 (kX12_turned l er15).1 rfl rfl dX12_codeOf_56 ⟨Nat.le_of_ble_eq_true rfl, Nat.le_of_ble_eq_true rfl⟩ ⟨(Nat.le_of_ble_eq_true rfl), (Nat.le_of_ble_eq_true rfl)⟩ (Nat.le_of_ble_eq_true rfl) ?_
          refine v_aload_n E dX12_codeOf_59 rfl ?_
          replace h := bnd_e h
          obtain ⟨r16, er16, h⟩ := h
          refine v_callV (na := 0) (As := []) (rest := []) (ci := 12) (q := (RX12, TX12, 20)) E gw12_203 (by decide +kernel) rfl rfl (by decide) (kX12_codeOfMade l er16).2 (kX12_codeOfMade l er16).1 rfl rfl dX12_codeOf_60 ⟨Nat.le_of_ble_eq_true rfl, Nat.le_of_ble_eq_true rfl⟩ ⟨(Nat.le_of_ble_eq_true rfl), (Nat.le_of_ble_eq_true rfl)⟩ (Nat.le_of_ble_eq_true rfl) ?_
          refine v_lstore (lv' := [some (vR (some o1)), some (vI a1), some (vJ s6.1), none, some (vJ s6.2.1), none, some (vI s6.2.2.1), some (vJ r16), none]) E dX12_codeOf_63 (by decide) rfl ?_
          refine v_iload E dX12_codeOf_65 rfl ?_
          refine jp1_use h (fun K17 eK17 h => ?_)
          have hK17 : ∀ x19 : Int64, K17 x19 = some w8 → V p l e { frames := 2, cells := 0, slots := 0, locals := 48 } s m ar below meth c (MQ below (Qd base D cy (some (vJ r.1)) r.2) ar s 0 0 (fun q => base ≤ q)) base D cy 9 77 [some (vR (some o1)), some (vI a1), some (vJ s6.1), none, none, none, some (vI s6.2.2.1), some (vJ r16), none] [vJ x19] r15 0 0 := by
            intro x19 h
            rw [eK17] at h
            try dsimp only at h
            refine v_lstore (lv' := [some (vR (some o1)), some (vI a1), some (vJ s6.1), none, some (vJ x19), none, some (vI s6.2.2.1), some (vJ r16), none]) E dX12_codeOf_77 (by decide) rfl ?_
            refine v_iload E dX12_codeOf_79 rfl ?_
            refine jp_use h (fun K20 eK20 h => ?_)
            have hK20 : ∀ x25 : Int64, K20 x25 = some w8 → V p l e { frames := 2, cells := 0, slots := 0, locals := 48 } s m ar below meth c (MQ below (Qd base D cy (some (vJ r.1)) r.2) ar s 0 0 (fun q => base ≤ q)) base D cy 9 97 [some (vR (some o1)), some (vI a1), none, none, some (vJ x19), none, some (vI s6.2.2.1), some (vJ r16), none] [vJ x25] r15 0 0 := by
              intro x25 h
              rw [eK20] at h
              try dsimp only at h
              refine v_lstore_n (lv' := [some (vR (some o1)), some (vI a1), some (vJ x25), none, some (vJ x19), none, some (vI s6.2.2.1), some (vJ r16), none]) E dX12_codeOf_97 (by decide) rfl ?_
              refine v_aload_n E dX12_codeOf_98 rfl ?_
              refine v_dup E dX12_codeOf_99 rfl ?_
              replace h := bnd_e h
              obtain ⟨v26, ev26, h⟩ := h
              refine g12_196 E ev26 dX12_codeOf_100 ?_
              refine v_lload E dX12_codeOf_103 rfl ?_
              refine v_lload E dX12_codeOf_105 rfl ?_
              refine v_lcmp E dX12_codeOf_107 ?_
              refine jp1_use h (fun K27 eK27 h => ?_)
              have hK27 : ∀ x29 : Int32, K27 x29 = some w8 → V p l e { frames := 2, cells := 0, slots := 0, locals := 48 } s m ar below meth c (MQ below (Qd base D cy (some (vJ r.1)) r.2) ar s 0 0 (fun q => base ≤ q)) base D cy 9 116 [some (vR (some o1)), some (vI a1), some (vJ x25), none, some (vJ x19), none, some (vI s6.2.2.1), none, none] [vI x29, vI v26, vR (some o1)] r15 0 0 := by
                intro x29 h
                rw [eK27] at h
                try dsimp only at h
                refine v_iadd E dX12_codeOf_116 ?_
                replace h := bnd_e h
                obtain ⟨A30, eA30, h⟩ := h
                refine p12_196 E eA30 dX12_codeOf_117 ?_
                refine v_iinc (v := (s6.2.2.1 + 1)) (lv' := [some (vR (some o1)), some (vI a1), some (vJ x25), none, some (vJ x19), none, some (vI (s6.2.2.1 + 1)), none, none]) E dX12_codeOf_120 rfl (by rfl) (by decide) rfl ?_
                refine v_goto (tgt := 25) E dX12_codeOf_123 (by decide) ?_
                replace h := Option.some.inj h
                subst h
                exact hx
              refine v_if_ne (tgt := 115) E dX12_codeOf_108 (by decide) (fun c28 => ?_) (fun c28 => ?_)
              · rw [if_neg c28] at h
                refine v_iconst (v := 0) E dX12_codeOf_115 (by decide) ?_
                refine v_drop (lv' := [some (vR (some o1)), some (vI a1), some (vJ x25), none, some (vJ x19), none, some (vI s6.2.2.1), none, none]) [7] rfl ?_
                exact hK27 0 h
              · rw [if_pos c28] at h
                refine v_iconst (v := 1) E dX12_codeOf_111 (by decide) ?_
                refine v_goto (tgt := 116) E dX12_codeOf_112 (by decide) ?_
                refine v_drop (lv' := [some (vR (some o1)), some (vI a1), some (vJ x25), none, some (vJ x19), none, some (vI s6.2.2.1), none, none]) [7] rfl ?_
                exact hK27 1 h
            refine jp_use h (fun K21 eK21 h => ?_)
            have hK21 : ∀ x24 : Unit, K21 x24 = some w8 → V p l e { frames := 2, cells := 0, slots := 0, locals := 48 } s m ar below meth c (MQ below (Qd base D cy (some (vJ r.1)) r.2) ar s 0 0 (fun q => base ≤ q)) base D cy 9 91 [some (vR (some o1)), some (vI a1), none, none, some (vJ x19), none, some (vI s6.2.2.1), some (vJ r16), none] [] r15 0 0 := by
              intro x24 h
              rw [eK21] at h
              try dsimp only at h
              refine v_lload E dX12_codeOf_91 rfl ?_
              refine v_goto (tgt := 97) E dX12_codeOf_93 (by decide) ?_
              exact hK20 r16 h
            refine v_if_eq (tgt := 91) E dX12_codeOf_81 (by decide) (fun c23 => ?_) (fun c23 => ?_)
            · rw [if_pos c23] at h
              refine v_drop (lv' := [some (vR (some o1)), some (vI a1), none, none, some (vJ x19), none, some (vI s6.2.2.1), some (vJ r16), none]) [2] rfl ?_
              exact hK21 () h
            · rw [if_neg c23] at h
              refine v_lload E dX12_codeOf_84 rfl ?_
              refine v_lload_n E dX12_codeOf_86 rfl ?_
              refine v_lcmp E dX12_codeOf_87 ?_
              refine v_if_ge (tgt := 96) E dX12_codeOf_88 (by decide) (fun c22 => ?_) (fun c22 => ?_)
              · rw [if_pos c22] at h
                refine v_lload_n E dX12_codeOf_96 rfl ?_
                refine v_drop (lv' := [some (vR (some o1)), some (vI a1), none, none, some (vJ x19), none, some (vI s6.2.2.1), some (vJ r16), none]) [2] rfl ?_
                exact hK20 s6.1 h
              · rw [if_neg c22] at h
                refine v_drop (lv' := [some (vR (some o1)), some (vI a1), none, none, some (vJ x19), none, some (vI s6.2.2.1), some (vJ r16), none]) [2] rfl ?_
                exact hK21 () h
          refine v_if_ne (tgt := 75) E dX12_codeOf_67 (by decide) (fun c18 => ?_) (fun c18 => ?_)
          · rw [if_neg c18] at h
            refine v_lload E dX12_codeOf_75 rfl ?_
            refine v_drop (lv' := [some (vR (some o1)), some (vI a1), some (vJ s6.1), none, none, none, some (vI s6.2.2.1), some (vJ r16), none]) [4] rfl ?_
            exact hK17 s6.2.1 h
          · rw [if_pos c18] at h
            refine v_lload E dX12_codeOf_70 rfl ?_
            refine v_goto (tgt := 77) E dX12_codeOf_72 (by decide) ?_
            refine v_drop (lv' := [some (vR (some o1)), some (vI a1), some (vJ s6.1), none, none, none, some (vI s6.2.2.1), some (vJ r16), none]) [4] rfl ?_
            exact hK17 r16 h
        refine v_icmp_ne (tgt := 55) E dX12_codeOf_48 (by decide) (fun c13 => ?_) (fun c13 => ?_)
        · rw [if_neg c13] at h
          refine v_iconst (v := 0) E dX12_codeOf_55 (by decide) ?_
          exact hK12 0 h
        · rw [if_pos c13] at h
          refine v_iconst (v := 1) E dX12_codeOf_51 (by decide) ?_
          refine v_goto (tgt := 56) E dX12_codeOf_52 (by decide) ?_
          exact hK12 1 h
    · refine v_lload_n E dX12_codeOf_126 rfl ?_
      replace h := Option.some.inj h
      subst h
      refine v_widen (k' := 0) (n' := 0) (Nat.le_of_ble_eq_true rfl) (Nat.le_of_ble_eq_true rfl) ?_
      exact v_lret E dX12_codeOf_127
  refine v_if_ne (tgt := 15) E dX12_codeOf_8 (by decide) (fun c3 => ?_) (fun c3 => ?_)
  · rw [if_neg c3] at h
    refine v_iconst (v := 0) E dX12_codeOf_15 (by decide) ?_
    exact hK2 0 h
  · rw [if_pos c3] at h
    refine v_iconst (v := 1) E dX12_codeOf_11 (by decide) ?_
    refine v_goto (tgt := 16) E dX12_codeOf_12 (by decide) ?_
    exact hK2 1 h
noncomputable def fX12_kinOf (A0 : AH) (o0 : Option Nat) (a1 : Int32) : Option (Int32 × AH) :=
  (rcv A0 13 o0).bind fun o0 =>
  (fX12_codeOf A0 ((some o0)) a1).bind fun r1 =>
  (gI r1.2 13 403 ((some o0))).bind fun v2 =>
  some ((v2, r1.2))
set_option maxRecDepth 100000 in
set_option maxHeartbeats 4000000 in
theorem kX12_kinOf (l : Launch) {A0 : AH} {o0 : Option Nat} {a1 : Int32} {r : Int32 × AH} (h : fX12_kinOf A0 o0 a1 = some r) : (∃ a, o0 = some a ∧ Hk A0 a = 13) ∧ Cn l yX12_kinOf cX12_kinOf 2 (some .int) 3 76 0 0 [vR o0, vI a1] A0 (some (vI r.1)) r.2 := by
  unfold fX12_kinOf at h
  replace h := bnd_e h
  obtain ⟨o1, e1, h⟩ := h
  obtain ⟨rfl, hk0⟩ := rcv_e e1
  refine ⟨⟨o1, rfl, hk0⟩, ?_⟩
  refine Cn.of (pad := 0) (lv0 := [some (vR (some o1)), some (vI a1)]) (by decide +kernel) (Nat.le_of_ble_eq_true rfl) rfl ?_
  intro p e s m below meth c base D cy E
  generalize (List.map toV [vR (some o1), vI a1]).toArray = ar at E ⊢
  have E : EN p s m ar meth c D cy RX12 cX12_kinOf 2 (some .int) "kinOf" := E
  refine v_aload_n E dX12_kinOf_0 rfl ?_
  refine v_iload_n E dX12_kinOf_1 rfl ?_
  replace h := bnd_e h
  obtain ⟨r1, er1, h⟩ := h
  refine v_callV (na := 1) (As := [vI a1]) (rest := []) (ci := 12) (q := (RX12, TX12, 20)) E gw12_207 (by decide +kernel) rfl rfl (by decide) (kX12_codeOf l er1).2 (kX12_codeOf l er1).1 rfl rfl dX12_kinOf_2 ⟨Nat.le_of_ble_eq_true rfl, Nat.le_of_ble_eq_true rfl⟩ ⟨(Nat.le_of_ble_eq_true rfl), (Nat.le_of_ble_eq_true rfl)⟩ (Nat.le_of_ble_eq_true rfl) ?_
  refine v_pop2 E dX12_kinOf_5 rfl ?_
  refine v_aload_n E dX12_kinOf_6 rfl ?_
  replace h := bnd_e h
  obtain ⟨v2, ev2, h⟩ := h
  refine g12_196 E ev2 dX12_kinOf_7 ?_
  replace h := Option.some.inj h
  subst h
  refine v_widen (k' := 0) (n' := 0) (Nat.le_of_ble_eq_true rfl) (Nat.le_of_ble_eq_true rfl) ?_
  exact v_iret E dX12_kinOf_10
noncomputable def fX12_isSame (A0 : AH) (o0 : Option Nat) (a1 : Int32) (a2 : Int32) : Option (Int32 × AH) :=
  (rcv A0 13 o0).bind fun o0 =>
  (fX12_size A0 ((some o0)) a1).bind fun r1 =>
  (fX12_size A0 ((some o0)) a2).bind fun r2 =>
  if r1 = r2 then
    (fX12_codeOf A0 ((some o0)) a1).bind fun r3 =>
    (fX12_codeOf r3.2 ((some o0)) a2).bind fun r4 =>
    if (lg_cmp r3.1 r4.1) = 0 then
      some ((1, r4.2))
    else
      some ((0, r4.2))
  else
    some ((0, A0))
set_option maxRecDepth 100000 in
set_option maxHeartbeats 4000000 in
theorem kX12_isSame (l : Launch) {A0 : AH} {o0 : Option Nat} {a1 : Int32} {a2 : Int32} {r : Int32 × AH} (h : fX12_isSame A0 o0 a1 a2 = some r) : (∃ a, o0 = some a ∧ Hk A0 a = 13) ∧ Cn l yX12_isSame cX12_isSame 3 (some .boolean) 3 76 0 0 [vR o0, vI a1, vI a2] A0 (some (vI r.1)) r.2 := by
  unfold fX12_isSame at h
  replace h := bnd_e h
  obtain ⟨o1, e1, h⟩ := h
  obtain ⟨rfl, hk0⟩ := rcv_e e1
  refine ⟨⟨o1, rfl, hk0⟩, ?_⟩
  refine Cn.of (pad := 0) (lv0 := [some (vR (some o1)), some (vI a1), some (vI a2)]) (by decide +kernel) (Nat.le_of_ble_eq_true rfl) rfl ?_
  intro p e s m below meth c base D cy E
  generalize (List.map toV [vR (some o1), vI a1, vI a2]).toArray = ar at E ⊢
  have E : EN p s m ar meth c D cy RX12 cX12_isSame 3 (some .boolean) "isSame" := E
  refine v_aload_n E dX12_isSame_0 rfl ?_
  refine v_iload_n E dX12_isSame_1 rfl ?_
  replace h := bnd_e h
  obtain ⟨r1, er1, h⟩ := h
  refine v_callV (na := 1) (As := [vI a1]) (rest := []) (ci := 12) (q := (RX12, TX12, 20)) E gw12_59 (by decide +kernel) rfl rfl (by decide) (kX12_size l er1).2 (kX12_size l er1).1 rfl rfl dX12_isSame_2 ⟨Nat.le_of_ble_eq_true rfl, Nat.le_of_ble_eq_true rfl⟩ ⟨(Nat.le_of_ble_eq_true rfl), (Nat.le_of_ble_eq_true rfl)⟩ (Nat.le_of_ble_eq_true rfl) ?_
  refine v_aload_n E dX12_isSame_5 rfl ?_
  refine v_iload_n E dX12_isSame_6 rfl ?_
  replace h := bnd_e h
  obtain ⟨r2, er2, h⟩ := h
  refine v_callV (na := 1) (As := [vI a2]) (rest := [vI r1]) (ci := 12) (q := (RX12, TX12, 20)) E gw12_59 (by decide +kernel) rfl rfl (by decide) (kX12_size l er2).2 (kX12_size l er2).1 rfl rfl dX12_isSame_7 ⟨Nat.le_of_ble_eq_true rfl, Nat.le_of_ble_eq_true rfl⟩ ⟨(Nat.le_of_ble_eq_true rfl), (Nat.le_of_ble_eq_true rfl)⟩ (Nat.le_of_ble_eq_true rfl) ?_
  refine v_icmp_ne (tgt := 31) E dX12_isSame_10 (by decide) (fun c6 => ?_) (fun c6 => ?_)
  · rw [if_neg c6] at h
    refine v_iconst (v := 0) E dX12_isSame_31 (by decide) ?_
    replace h := Option.some.inj h
    subst h
    refine v_widen (k' := 0) (n' := 0) (Nat.le_of_ble_eq_true rfl) (Nat.le_of_ble_eq_true rfl) ?_
    exact v_zret E (Or.inl rfl) dX12_isSame_32
  · rw [if_pos c6] at h
    refine v_aload_n E dX12_isSame_13 rfl ?_
    refine v_iload_n E dX12_isSame_14 rfl ?_
    replace h := bnd_e h
    obtain ⟨r3, er3, h⟩ := h
    refine v_callV (na := 1) (As := [vI a1]) (rest := []) (ci := 12) (q := (RX12, TX12, 20)) E gw12_207 (by decide +kernel) rfl rfl (by decide) (kX12_codeOf l er3).2 (kX12_codeOf l er3).1 rfl rfl dX12_isSame_15 ⟨Nat.le_of_ble_eq_true rfl, Nat.le_of_ble_eq_true rfl⟩ ⟨(Nat.le_of_ble_eq_true rfl), (Nat.le_of_ble_eq_true rfl)⟩ (Nat.le_of_ble_eq_true rfl) ?_
    refine v_aload_n E dX12_isSame_18 rfl ?_
    refine v_iload_n E dX12_isSame_19 rfl ?_
    replace h := bnd_e h
    obtain ⟨r4, er4, h⟩ := h
    refine v_callV (na := 1) (As := [vI a2]) (rest := [vJ r3.1]) (ci := 12) (q := (RX12, TX12, 20)) E gw12_207 (by decide +kernel) rfl rfl (by decide) (kX12_codeOf l er4).2 (kX12_codeOf l er4).1 rfl rfl dX12_isSame_20 ⟨Nat.le_of_ble_eq_true rfl, Nat.le_of_ble_eq_true rfl⟩ ⟨(Nat.le_of_ble_eq_true rfl), (Nat.le_of_ble_eq_true rfl)⟩ (Nat.le_of_ble_eq_true rfl) ?_
    refine v_lcmp E dX12_isSame_23 ?_
    refine v_if_ne (tgt := 31) E dX12_isSame_24 (by decide) (fun c5 => ?_) (fun c5 => ?_)
    · rw [if_neg c5] at h
      refine v_iconst (v := 0) E dX12_isSame_31 (by decide) ?_
      replace h := Option.some.inj h
      subst h
      refine v_widen (k' := 0) (n' := 0) (Nat.le_of_ble_eq_true rfl) (Nat.le_of_ble_eq_true rfl) ?_
      exact v_zret E (Or.inl rfl) dX12_isSame_32
    · rw [if_pos c5] at h
      refine v_iconst (v := 1) E dX12_isSame_27 (by decide) ?_
      refine v_goto (tgt := 32) E dX12_isSame_28 (by decide) ?_
      replace h := Option.some.inj h
      subst h
      refine v_widen (k' := 0) (n' := 0) (Nat.le_of_ble_eq_true rfl) (Nat.le_of_ble_eq_true rfl) ?_
      exact v_zret E (Or.inr rfl) dX12_isSame_32
noncomputable def fX12_unlikeWords (A0 : AH) (o0 : Option Nat) : Option (Int32 × AH) :=
  (rcv A0 13 o0).bind fun o0 =>
  (iter (S := Int32 × Int32 × AH) (T := Int32 × AH) (fun s1 =>
      (gR s1.2.2 13 384 ((some o0))).bind fun v4 =>
      (aI s1.2.2 14 v4 0).bind fun v5 =>
      if v5 ≤ s1.2.1 then
        some (.inr (s1.1, s1.2.2))
      else
        (iter (S := Int32 × Int32 × AH) (T := Int32 × AH) (fun s6 =>
            if s1.2.1 ≤ s6.2.1 then
              some (.inr (s6.1, s6.2.2))
            else
              jp (fun (x13 : Int32 × AH) =>
                some (.inl (x13.1, (s6.2.1 + 1), x13.2))) fun K9 =>
                if s6.1 = 0 then
                  K9 (0, s6.2.2)
                else
                  (fX12_isSame s6.2.2 ((some o0)) s1.2.1 s6.2.1).bind fun r10 =>
                  if r10.1 = 0 then
                    K9 (1, r10.2)
                  else
                    K9 (0, r10.2)) (1, 0, s1.2.2)).bind fun t7 =>
        jp1 (α := Int32) (if t7.1 = 0 then
            0
          else
            1) fun x17 =>
        some (.inl ((s1.1 + x17), (s1.2.1 + 1), t7.2))) (0, 0, A0)).bind fun t2 =>
  some ((t2.1, t2.2))
set_option maxRecDepth 100000 in
set_option maxHeartbeats 4000000 in
theorem kX12_unlikeWords (l : Launch) {A0 : AH} {o0 : Option Nat} {r : Int32 × AH} (h : fX12_unlikeWords A0 o0 = some r) : (∃ a, o0 = some a ∧ Hk A0 a = 13) ∧ Cn l yX12_unlikeWords cX12_unlikeWords 5 (some .int) 4 98 0 0 [vR o0] A0 (some (vI r.1)) r.2 := by
  unfold fX12_unlikeWords at h
  replace h := bnd_e h
  obtain ⟨o1, e1, h⟩ := h
  obtain ⟨rfl, hk0⟩ := rcv_e e1
  refine ⟨⟨o1, rfl, hk0⟩, ?_⟩
  refine Cn.of (pad := 4) (lv0 := [some (vR (some o1)), none, none, none, none]) (by decide +kernel) (Nat.le_of_ble_eq_true rfl) rfl ?_
  intro p e s m below meth c base D cy E
  generalize (List.map toV [vR (some o1)]).toArray = ar at E ⊢
  have E : EN p s m ar meth c D cy RX12 cX12_unlikeWords 5 (some .int) "unlikeWords" := E
  refine v_iconst (v := 0) E dX12_unlikeWords_0 (by decide) ?_
  refine v_istore_n (lv' := [some (vR (some o1)), some (vI 0), none, none, none]) E dX12_unlikeWords_1 (by decide) rfl ?_
  refine v_iconst (v := 0) E dX12_unlikeWords_2 (by decide) ?_
  refine v_istore_n (lv' := [some (vR (some o1)), some (vI 0), some (vI 0), none, none]) E dX12_unlikeWords_3 (by decide) rfl ?_
  replace h := bnd_e h
  obtain ⟨t2, et2, h⟩ := h
  refine iter_V (S := Int32 × Int32 × AH) (T := Int32 × AH) (Ph := fun s1 => V p l e { frames := 4, cells := 0, slots := 0, locals := 98 } s m ar below meth c (MQ below (Qd base D cy (some (vI r.1)) r.2) ar s 0 0 (fun q => base ≤ q)) base D cy 5 4 [some (vR (some o1)), some (vI s1.1), some (vI s1.2.1), none, none] [] s1.2.2 0 0) (Pt := fun t2 => V p l e { frames := 4, cells := 0, slots := 0, locals := 98 } s m ar below meth c (MQ below (Qd base D cy (some (vI r.1)) r.2) ar s 0 0 (fun q => base ≤ q)) base D cy 5 69 [none, some (vI t2.1), none, none, none] [] t2.2 0 0) et2 (fun s1 w3 h hx => ?_) ?_
  · try dsimp only at h
    refine v_iload_n E dX12_unlikeWords_4 rfl ?_
    refine v_aload_n E dX12_unlikeWords_5 rfl ?_
    replace h := bnd_e h
    obtain ⟨v4, ev4, h⟩ := h
    refine g12_7 E ev4 dX12_unlikeWords_6 ?_
    refine v_iconst (v := 0) E dX12_unlikeWords_9 (by decide) ?_
    replace h := bnd_e h
    obtain ⟨v5, ev5, h⟩ := h
    refine v_iaload E ev5 dX12_unlikeWords_10 ?_
    refine v_icmp_ge (tgt := 69) E dX12_unlikeWords_11 (by decide) (fun c19 => ?_) (fun c19 => ?_)
    · rw [if_pos c19] at h
      refine v_drop (lv' := [none, some (vI s1.1), none, none, none]) [0, 2] rfl ?_
      replace h := Option.some.inj h
      subst h
      exact hx
    · rw [if_neg c19] at h
      refine v_iconst (v := 1) E dX12_unlikeWords_14 (by decide) ?_
      refine v_istore_n (lv' := [some (vR (some o1)), some (vI s1.1), some (vI s1.2.1), some (vI 1), none]) E dX12_unlikeWords_15 (by decide) rfl ?_
      refine v_iconst (v := 0) E dX12_unlikeWords_16 (by decide) ?_
      refine v_istore (lv' := [some (vR (some o1)), some (vI s1.1), some (vI s1.2.1), some (vI 1), some (vI 0)]) E dX12_unlikeWords_17 (by decide) rfl ?_
      replace h := bnd_e h
      obtain ⟨t7, et7, h⟩ := h
      refine iter_V (S := Int32 × Int32 × AH) (T := Int32 × AH) (Ph := fun s6 => V p l e { frames := 4, cells := 0, slots := 0, locals := 98 } s m ar below meth c (MQ below (Qd base D cy (some (vI r.1)) r.2) ar s 0 0 (fun q => base ≤ q)) base D cy 5 19 [some (vR (some o1)), some (vI s1.1), some (vI s1.2.1), some (vI s6.1), some (vI s6.2.1)] [] s6.2.2 0 0) (Pt := fun t7 => V p l e { frames := 4, cells := 0, slots := 0, locals := 98 } s m ar below meth c (MQ below (Qd base D cy (some (vI r.1)) r.2) ar s 0 0 (fun q => base ≤ q)) base D cy 5 51 [some (vR (some o1)), some (vI s1.1), some (vI s1.2.1), some (vI t7.1), none] [] t7.2 0 0) et7 (fun s6 w8 h hx => ?_) ?_
      · try dsimp only at h
        refine v_iload E dX12_unlikeWords_19 rfl ?_
        refine v_iload_n E dX12_unlikeWords_21 rfl ?_
        refine v_icmp_ge (tgt := 51) E dX12_unlikeWords_22 (by decide) (fun c14 => ?_) (fun c14 => ?_)
        · rw [if_pos c14] at h
          refine v_drop (lv' := [some (vR (some o1)), some (vI s1.1), some (vI s1.2.1), some (vI s6.1), none]) [4] rfl ?_
          replace h := Option.some.inj h
          subst h
          exact hx
        · rw [if_neg c14] at h
          refine v_iload_n E dX12_unlikeWords_25 rfl ?_
          refine jp_use h (fun K9 eK9 h => ?_)
          have hK9 : ∀ x13 : Int32 × AH, K9 x13 = some w8 → V p l e { frames := 4, cells := 0, slots := 0, locals := 98 } s m ar below meth c (MQ below (Qd base D cy (some (vI r.1)) r.2) ar s 0 0 (fun q => base ≤ q)) base D cy 5 44 [some (vR (some o1)), some (vI s1.1), some (vI s1.2.1), none, some (vI s6.2.1)] [vI x13.1] x13.2 0 0 := by
            intro x13 h
            rw [eK9] at h
            try dsimp only at h
            refine v_istore_n (lv' := [some (vR (some o1)), some (vI s1.1), some (vI s1.2.1), some (vI x13.1), some (vI s6.2.1)]) E dX12_unlikeWords_44 (by decide) rfl ?_
            refine v_iinc (v := (s6.2.1 + 1)) (lv' := [some (vR (some o1)), some (vI s1.1), some (vI s1.2.1), some (vI x13.1), some (vI (s6.2.1 + 1))]) E dX12_unlikeWords_45 rfl (by rfl) (by decide) rfl ?_
            refine v_goto (tgt := 19) E dX12_unlikeWords_48 (by decide) ?_
            replace h := Option.some.inj h
            subst h
            exact hx
          refine v_if_eq (tgt := 43) E dX12_unlikeWords_26 (by decide) (fun c12 => ?_) (fun c12 => ?_)
          · rw [if_pos c12] at h
            refine v_iconst (v := 0) E dX12_unlikeWords_43 (by decide) ?_
            refine v_drop (lv' := [some (vR (some o1)), some (vI s1.1), some (vI s1.2.1), none, some (vI s6.2.1)]) [3] rfl ?_
            exact hK9 (0, s6.2.2) h
          · rw [if_neg c12] at h
            refine v_aload_n E dX12_unlikeWords_29 rfl ?_
            refine v_iload_n E dX12_unlikeWords_30 rfl ?_
            refine v_iload E dX12_unlikeWords_31 rfl ?_
            replace h := bnd_e h
            obtain ⟨r10, er10, h⟩ := h
            refine v_callV (na := 2) (As := [vI s1.2.1, vI s6.2.1]) (rest := []) (ci := 12) (q := (RX12, TX12, 20)) E gw12_211 (by decide +kernel) rfl rfl (by decide) (kX12_isSame l er10).2 (kX12_isSame l er10).1 rfl rfl dX12_unlikeWords_33 ⟨Nat.le_of_ble_eq_true rfl, Nat.le_of_ble_eq_true rfl⟩ ⟨(Nat.le_of_ble_eq_true rfl), (Nat.le_of_ble_eq_true rfl)⟩ (Nat.le_of_ble_eq_true rfl) ?_
            refine v_if_ne (tgt := 43) E dX12_unlikeWords_36 (by decide) (fun c11 => ?_) (fun c11 => ?_)
            · rw [if_neg c11] at h
              refine v_iconst (v := 0) E dX12_unlikeWords_43 (by decide) ?_
              refine v_drop (lv' := [some (vR (some o1)), some (vI s1.1), some (vI s1.2.1), none, some (vI s6.2.1)]) [3] rfl ?_
              exact hK9 (0, r10.2) h
            · rw [if_pos c11] at h
              refine v_iconst (v := 1) E dX12_unlikeWords_39 (by decide) ?_
              refine v_goto (tgt := 44) E dX12_unlikeWords_40 (by decide) ?_
              refine v_drop (lv' := [some (vR (some o1)), some (vI s1.1), some (vI s1.2.1), none, some (vI s6.2.1)]) [3] rfl ?_
              exact hK9 (1, r10.2) h
      · refine v_iload_n E dX12_unlikeWords_51 rfl ?_
        refine v_iload_n E dX12_unlikeWords_52 rfl ?_
        refine jp1_use h (fun K15 eK15 h => ?_)
        have hK15 : ∀ x17 : Int32, K15 x17 = some w3 → V p l e { frames := 4, cells := 0, slots := 0, locals := 98 } s m ar below meth c (MQ below (Qd base D cy (some (vI r.1)) r.2) ar s 0 0 (fun q => base ≤ q)) base D cy 5 61 [some (vR (some o1)), none, some (vI s1.2.1), none, none] [vI x17, vI s1.1] t7.2 0 0 := by
          intro x17 h
          rw [eK15] at h
          try dsimp only at h
          refine v_iadd E dX12_unlikeWords_61 ?_
          refine v_istore_n (lv' := [some (vR (some o1)), some (vI (s1.1 + x17)), some (vI s1.2.1), none, none]) E dX12_unlikeWords_62 (by decide) rfl ?_
          refine v_iinc (v := (s1.2.1 + 1)) (lv' := [some (vR (some o1)), some (vI (s1.1 + x17)), some (vI (s1.2.1 + 1)), none, none]) E dX12_unlikeWords_63 rfl (by rfl) (by decide) rfl ?_
          refine v_goto (tgt := 4) E dX12_unlikeWords_66 (by decide) ?_
          replace h := Option.some.inj h
          subst h
          exact hx
        refine v_if_eq (tgt := 60) E dX12_unlikeWords_53 (by decide) (fun c16 => ?_) (fun c16 => ?_)
        · rw [if_pos c16] at h
          refine v_iconst (v := 0) E dX12_unlikeWords_60 (by decide) ?_
          refine v_drop (lv' := [some (vR (some o1)), none, some (vI s1.2.1), none, none]) [1, 3] rfl ?_
          exact hK15 0 h
        · rw [if_neg c16] at h
          refine v_iconst (v := 1) E dX12_unlikeWords_56 (by decide) ?_
          refine v_goto (tgt := 61) E dX12_unlikeWords_57 (by decide) ?_
          refine v_drop (lv' := [some (vR (some o1)), none, some (vI s1.2.1), none, none]) [1, 3] rfl ?_
          exact hK15 1 h
  · refine v_iload_n E dX12_unlikeWords_69 rfl ?_
    replace h := Option.some.inj h
    subst h
    refine v_widen (k' := 0) (n' := 0) (Nat.le_of_ble_eq_true rfl) (Nat.le_of_ble_eq_true rfl) ?_
    exact v_iret E dX12_unlikeWords_70
noncomputable def fX12_areBeside (A0 : AH) (o0 : Option Nat) (a1 : Int32) (a2 : Int32) (a3 : Int32) : Option (Int32) :=
  (rcv A0 13 o0).bind fun o0 =>
  (fX12_size A0 ((some o0)) a1).bind fun r1 =>
  (rmI ((a2 + 1)) ((2 * r1))).bind fun v2 =>
  if v2 = a3 then
    some 1
  else
    (rmI ((a3 + 1)) ((2 * r1))).bind fun v3 =>
    if v3 = a2 then
      some 1
    else
      some 0
set_option maxRecDepth 100000 in
set_option maxHeartbeats 4000000 in
theorem kX12_areBeside (l : Launch) {A0 : AH} {o0 : Option Nat} {a1 : Int32} {a2 : Int32} {a3 : Int32} {r : Int32} (h : fX12_areBeside A0 o0 a1 a2 a3 = some r) : (∃ a, o0 = some a ∧ Hk A0 a = 13) ∧ Cn l yX12_areBeside cX12_areBeside 5 (some .boolean) 1 21 0 0 [vR o0, vI a1, vI a2, vI a3] A0 (some (vI r)) A0 := by
  unfold fX12_areBeside at h
  replace h := bnd_e h
  obtain ⟨o1, e1, h⟩ := h
  obtain ⟨rfl, hk0⟩ := rcv_e e1
  refine ⟨⟨o1, rfl, hk0⟩, ?_⟩
  refine Cn.of (pad := 1) (lv0 := [some (vR (some o1)), some (vI a1), some (vI a2), some (vI a3), none]) (by decide +kernel) (Nat.le_of_ble_eq_true rfl) rfl ?_
  intro p e s m below meth c base D cy E
  generalize (List.map toV [vR (some o1), vI a1, vI a2, vI a3]).toArray = ar at E ⊢
  have E : EN p s m ar meth c D cy RX12 cX12_areBeside 5 (some .boolean) "areBeside" := E
  refine v_iconst (v := 2) E dX12_areBeside_0 (by decide) ?_
  refine v_aload_n E dX12_areBeside_1 rfl ?_
  refine v_iload_n E dX12_areBeside_2 rfl ?_
  replace h := bnd_e h
  obtain ⟨r1, er1, h⟩ := h
  refine v_callV (na := 1) (As := [vI a1]) (rest := [vI 2]) (ci := 12) (q := (RX12, TX12, 20)) E gw12_59 (by decide +kernel) rfl rfl (by decide) (kX12_size l er1).2 (kX12_size l er1).1 rfl rfl dX12_areBeside_3 ⟨Nat.le_of_ble_eq_true rfl, Nat.le_of_ble_eq_true rfl⟩ ⟨(Nat.le_of_ble_eq_true rfl), (Nat.le_of_ble_eq_true rfl)⟩ (Nat.le_of_ble_eq_true rfl) ?_
  refine v_imul E dX12_areBeside_6 ?_
  refine v_istore (lv' := [some (vR (some o1)), some (vI a1), some (vI a2), some (vI a3), some (vI (2 * r1))]) E dX12_areBeside_7 (by decide) rfl ?_
  refine v_iload_n E dX12_areBeside_9 rfl ?_
  refine v_iconst (v := 1) E dX12_areBeside_10 (by decide) ?_
  refine v_iadd E dX12_areBeside_11 ?_
  refine v_iload E dX12_areBeside_12 rfl ?_
  replace h := bnd_e h
  obtain ⟨v2, ev2, h⟩ := h
  refine v_irem E ev2 dX12_areBeside_14 ?_
  refine v_iload_n E dX12_areBeside_15 rfl ?_
  refine v_icmp_eq (tgt := 29) E dX12_areBeside_16 (by decide) (fun c5 => ?_) (fun c5 => ?_)
  · rw [if_pos c5] at h
    refine v_iconst (v := 1) E dX12_areBeside_29 (by decide) ?_
    refine v_goto (tgt := 34) E dX12_areBeside_30 (by decide) ?_
    replace h := Option.some.inj h
    subst h
    refine v_widen (k' := 0) (n' := 0) (Nat.le_of_ble_eq_true rfl) (Nat.le_of_ble_eq_true rfl) ?_
    exact v_zret E (Or.inr rfl) dX12_areBeside_34
  · rw [if_neg c5] at h
    refine v_iload_n E dX12_areBeside_19 rfl ?_
    refine v_iconst (v := 1) E dX12_areBeside_20 (by decide) ?_
    refine v_iadd E dX12_areBeside_21 ?_
    refine v_iload E dX12_areBeside_22 rfl ?_
    replace h := bnd_e h
    obtain ⟨v3, ev3, h⟩ := h
    refine v_irem E ev3 dX12_areBeside_24 ?_
    refine v_iload_n E dX12_areBeside_25 rfl ?_
    refine v_icmp_ne (tgt := 33) E dX12_areBeside_26 (by decide) (fun c4 => ?_) (fun c4 => ?_)
    · rw [if_neg c4] at h
      refine v_iconst (v := 0) E dX12_areBeside_33 (by decide) ?_
      replace h := Option.some.inj h
      subst h
      refine v_widen (k' := 0) (n' := 0) (Nat.le_of_ble_eq_true rfl) (Nat.le_of_ble_eq_true rfl) ?_
      exact v_zret E (Or.inl rfl) dX12_areBeside_34
    · rw [if_pos c4] at h
      refine v_iconst (v := 1) E dX12_areBeside_29 (by decide) ?_
      refine v_goto (tgt := 34) E dX12_areBeside_30 (by decide) ?_
      replace h := Option.some.inj h
      subst h
      refine v_widen (k' := 0) (n' := 0) (Nat.le_of_ble_eq_true rfl) (Nat.le_of_ble_eq_true rfl) ?_
      exact v_zret E (Or.inr rfl) dX12_areBeside_34
noncomputable def fX12_isLoop (A0 : AH) (o0 : Option Nat) (a1 : Int32) (a2 : Int32) : Option (Int32) :=
  (rcv A0 13 o0).bind fun o0 =>
  (fX12_place A0 ((some o0)) a1 a2 0).bind fun r1 =>
  (fX12_place A0 ((some o0)) a1 a2 1).bind fun r2 =>
  (fX12_areBeside A0 ((some o0)) a1 r1 r2).bind fun r3 =>
  (rz r3).bind fun z4 => some z4
set_option maxRecDepth 100000 in
set_option maxHeartbeats 4000000 in
theorem kX12_isLoop (l : Launch) {A0 : AH} {o0 : Option Nat} {a1 : Int32} {a2 : Int32} {r : Int32} (h : fX12_isLoop A0 o0 a1 a2 = some r) : (∃ a, o0 = some a ∧ Hk A0 a = 13) ∧ Cn l yX12_isLoop cX12_isLoop 3 (some .boolean) 2 48 0 0 [vR o0, vI a1, vI a2] A0 (some (vI r)) A0 := by
  unfold fX12_isLoop at h
  replace h := bnd_e h
  obtain ⟨o1, e1, h⟩ := h
  obtain ⟨rfl, hk0⟩ := rcv_e e1
  refine ⟨⟨o1, rfl, hk0⟩, ?_⟩
  refine Cn.of (pad := 0) (lv0 := [some (vR (some o1)), some (vI a1), some (vI a2)]) (by decide +kernel) (Nat.le_of_ble_eq_true rfl) rfl ?_
  intro p e s m below meth c base D cy E
  generalize (List.map toV [vR (some o1), vI a1, vI a2]).toArray = ar at E ⊢
  have E : EN p s m ar meth c D cy RX12 cX12_isLoop 3 (some .boolean) "isLoop" := E
  refine v_aload_n E dX12_isLoop_0 rfl ?_
  refine v_iload_n E dX12_isLoop_1 rfl ?_
  refine v_aload_n E dX12_isLoop_2 rfl ?_
  refine v_iload_n E dX12_isLoop_3 rfl ?_
  refine v_iload_n E dX12_isLoop_4 rfl ?_
  refine v_iconst (v := 0) E dX12_isLoop_5 (by decide) ?_
  replace h := bnd_e h
  obtain ⟨r1, er1, h⟩ := h
  refine v_callV (na := 3) (As := [vI a1, vI a2, vI 0]) (rest := [vI a1, vR (some o1)]) (ci := 12) (q := (RX12, TX12, 20)) E gw12_104 (by decide +kernel) rfl rfl (by decide) (kX12_place l er1).2 (kX12_place l er1).1 rfl rfl dX12_isLoop_6 ⟨Nat.le_of_ble_eq_true rfl, Nat.le_of_ble_eq_true rfl⟩ ⟨(Nat.le_of_ble_eq_true rfl), (Nat.le_of_ble_eq_true rfl)⟩ (Nat.le_of_ble_eq_true rfl) ?_
  refine v_aload_n E dX12_isLoop_9 rfl ?_
  refine v_iload_n E dX12_isLoop_10 rfl ?_
  refine v_iload_n E dX12_isLoop_11 rfl ?_
  refine v_iconst (v := 1) E dX12_isLoop_12 (by decide) ?_
  replace h := bnd_e h
  obtain ⟨r2, er2, h⟩ := h
  refine v_callV (na := 3) (As := [vI a1, vI a2, vI 1]) (rest := [vI r1, vI a1, vR (some o1)]) (ci := 12) (q := (RX12, TX12, 20)) E gw12_104 (by decide +kernel) rfl rfl (by decide) (kX12_place l er2).2 (kX12_place l er2).1 rfl rfl dX12_isLoop_13 ⟨Nat.le_of_ble_eq_true rfl, Nat.le_of_ble_eq_true rfl⟩ ⟨(Nat.le_of_ble_eq_true rfl), (Nat.le_of_ble_eq_true rfl)⟩ (Nat.le_of_ble_eq_true rfl) ?_
  replace h := bnd_e h
  obtain ⟨r3, er3, h⟩ := h
  refine v_callV (na := 3) (As := [vI a1, vI r1, vI r2]) (rest := []) (ci := 12) (q := (RX12, TX12, 20)) E gw12_214 (by decide +kernel) rfl rfl (by decide) (kX12_areBeside l er3).2 (kX12_areBeside l er3).1 rfl rfl dX12_isLoop_16 ⟨Nat.le_of_ble_eq_true rfl, Nat.le_of_ble_eq_true rfl⟩ ⟨(Nat.le_of_ble_eq_true rfl), (Nat.le_of_ble_eq_true rfl)⟩ (Nat.le_of_ble_eq_true rfl) ?_
  replace h := bnd_e h
  obtain ⟨z4, ez4, h⟩ := h
  obtain ⟨rfl, ez4⟩ := rz_e ez4
  replace h := Option.some.inj h
  subst h
  refine v_widen (k' := 0) (n' := 0) (Nat.le_of_ble_eq_true rfl) (Nat.le_of_ble_eq_true rfl) ?_
  exact v_zret E ez4 dX12_isLoop_19
noncomputable def fX12_loops (A0 : AH) (o0 : Option Nat) (a1 : Int32) : Option (Int32) :=
  (rcv A0 13 o0).bind fun o0 =>
  (iter (S := Int32 × Int32) (T := Int32) (fun s1 =>
      (fX12_size A0 ((some o0)) a1).bind fun r4 =>
      if r4 ≤ s1.2 then
        some (.inr s1.1)
      else
        (fX12_isLoop A0 ((some o0)) a1 s1.2).bind fun r5 =>
        jp1 (α := Int32) (if r5 = 0 then
            0
          else
            (((1 : Int32) <<< ((s1.2 : Int32) &&& 31)))) fun x8 =>
        some (.inl ((s1.1 ||| x8), (s1.2 + 1)))) (0, 0)).bind fun t2 =>
  some t2
set_option maxRecDepth 100000 in
set_option maxHeartbeats 4000000 in
theorem kX12_loops (l : Launch) {A0 : AH} {o0 : Option Nat} {a1 : Int32} {r : Int32} (h : fX12_loops A0 o0 a1 = some r) : (∃ a, o0 = some a ∧ Hk A0 a = 13) ∧ Cn l yX12_loops cX12_loops 4 (some .int) 3 70 0 0 [vR o0, vI a1] A0 (some (vI r)) A0 := by
  unfold fX12_loops at h
  replace h := bnd_e h
  obtain ⟨o1, e1, h⟩ := h
  obtain ⟨rfl, hk0⟩ := rcv_e e1
  refine ⟨⟨o1, rfl, hk0⟩, ?_⟩
  refine Cn.of (pad := 2) (lv0 := [some (vR (some o1)), some (vI a1), none, none]) (by decide +kernel) (Nat.le_of_ble_eq_true rfl) rfl ?_
  intro p e s m below meth c base D cy E
  generalize (List.map toV [vR (some o1), vI a1]).toArray = ar at E ⊢
  have E : EN p s m ar meth c D cy RX12 cX12_loops 4 (some .int) "loops" := E
  refine v_iconst (v := 0) E dX12_loops_0 (by decide) ?_
  refine v_istore_n (lv' := [some (vR (some o1)), some (vI a1), some (vI 0), none]) E dX12_loops_1 (by decide) rfl ?_
  refine v_iconst (v := 0) E dX12_loops_2 (by decide) ?_
  refine v_istore_n (lv' := [some (vR (some o1)), some (vI a1), some (vI 0), some (vI 0)]) E dX12_loops_3 (by decide) rfl ?_
  replace h := bnd_e h
  obtain ⟨t2, et2, h⟩ := h
  refine iter_V (S := Int32 × Int32) (T := Int32) (Ph := fun s1 => V p l e { frames := 3, cells := 0, slots := 0, locals := 70 } s m ar below meth c (MQ below (Qd base D cy (some (vI r)) A0) ar s 0 0 (fun q => base ≤ q)) base D cy 4 4 [some (vR (some o1)), some (vI a1), some (vI s1.1), some (vI s1.2)] [] A0 0 0) (Pt := fun t2 => V p l e { frames := 3, cells := 0, slots := 0, locals := 70 } s m ar below meth c (MQ below (Qd base D cy (some (vI r)) A0) ar s 0 0 (fun q => base ≤ q)) base D cy 4 38 [none, none, some (vI t2), none] [] A0 0 0) et2 (fun s1 w3 h hx => ?_) ?_
  · try dsimp only at h
    refine v_iload_n E dX12_loops_4 rfl ?_
    refine v_aload_n E dX12_loops_5 rfl ?_
    refine v_iload_n E dX12_loops_6 rfl ?_
    replace h := bnd_e h
    obtain ⟨r4, er4, h⟩ := h
    refine v_callV (na := 1) (As := [vI a1]) (rest := [vI s1.2]) (ci := 12) (q := (RX12, TX12, 20)) E gw12_59 (by decide +kernel) rfl rfl (by decide) (kX12_size l er4).2 (kX12_size l er4).1 rfl rfl dX12_loops_7 ⟨Nat.le_of_ble_eq_true rfl, Nat.le_of_ble_eq_true rfl⟩ ⟨(Nat.le_of_ble_eq_true rfl), (Nat.le_of_ble_eq_true rfl)⟩ (Nat.le_of_ble_eq_true rfl) ?_
    refine v_icmp_ge (tgt := 38) E dX12_loops_10 (by decide) (fun c9 => ?_) (fun c9 => ?_)
    · rw [if_pos c9] at h
      refine v_drop (lv' := [none, none, some (vI s1.1), none]) [0, 1, 3] rfl ?_
      replace h := Option.some.inj h
      subst h
      exact hx
    · rw [if_neg c9] at h
      refine v_iload_n E dX12_loops_13 rfl ?_
      refine v_aload_n E dX12_loops_14 rfl ?_
      refine v_iload_n E dX12_loops_15 rfl ?_
      refine v_iload_n E dX12_loops_16 rfl ?_
      replace h := bnd_e h
      obtain ⟨r5, er5, h⟩ := h
      refine v_callV (na := 2) (As := [vI a1, vI s1.2]) (rest := [vI s1.1]) (ci := 12) (q := (RX12, TX12, 20)) E gw12_217 (by decide +kernel) rfl rfl (by decide) (kX12_isLoop l er5).2 (kX12_isLoop l er5).1 rfl rfl dX12_loops_17 ⟨Nat.le_of_ble_eq_true rfl, Nat.le_of_ble_eq_true rfl⟩ ⟨(Nat.le_of_ble_eq_true rfl), (Nat.le_of_ble_eq_true rfl)⟩ (Nat.le_of_ble_eq_true rfl) ?_
      refine jp1_use h (fun K6 eK6 h => ?_)
      have hK6 : ∀ x8 : Int32, K6 x8 = some w3 → V p l e { frames := 3, cells := 0, slots := 0, locals := 70 } s m ar below meth c (MQ below (Qd base D cy (some (vI r)) A0) ar s 0 0 (fun q => base ≤ q)) base D cy 4 30 [some (vR (some o1)), some (vI a1), none, some (vI s1.2)] [vI x8, vI s1.1] A0 0 0 := by
        intro x8 h
        rw [eK6] at h
        try dsimp only at h
        refine v_ior E dX12_loops_30 ?_
        refine v_istore_n (lv' := [some (vR (some o1)), some (vI a1), some (vI (s1.1 ||| x8)), some (vI s1.2)]) E dX12_loops_31 (by decide) rfl ?_
        refine v_iinc (v := (s1.2 + 1)) (lv' := [some (vR (some o1)), some (vI a1), some (vI (s1.1 ||| x8)), some (vI (s1.2 + 1))]) E dX12_loops_32 rfl (by rfl) (by decide) rfl ?_
        refine v_goto (tgt := 4) E dX12_loops_35 (by decide) ?_
        replace h := Option.some.inj h
        subst h
        exact hx
      refine v_if_eq (tgt := 29) E dX12_loops_20 (by decide) (fun c7 => ?_) (fun c7 => ?_)
      · rw [if_pos c7] at h
        refine v_iconst (v := 0) E dX12_loops_29 (by decide) ?_
        refine v_drop (lv' := [some (vR (some o1)), some (vI a1), none, some (vI s1.2)]) [2] rfl ?_
        exact hK6 0 h
      · rw [if_neg c7] at h
        refine v_iconst (v := 1) E dX12_loops_23 (by decide) ?_
        refine v_iload_n E dX12_loops_24 rfl ?_
        refine v_ishl E dX12_loops_25 ?_
        refine v_goto (tgt := 30) E dX12_loops_26 (by decide) ?_
        refine v_drop (lv' := [some (vR (some o1)), some (vI a1), none, some (vI s1.2)]) [2] rfl ?_
        exact hK6 (((1 : Int32) <<< ((s1.2 : Int32) &&& 31))) h
  · refine v_iload_n E dX12_loops_38 rfl ?_
    replace h := Option.some.inj h
    subst h
    refine v_widen (k' := 0) (n' := 0) (Nat.le_of_ble_eq_true rfl) (Nat.le_of_ble_eq_true rfl) ?_
    exact v_iret E dX12_loops_39
noncomputable def fX12_wrong (A0 : AH) (o0 : Option Nat) : Option (Int32 × AH) :=
  (rcv A0 13 o0).bind fun o0 =>
  (iter (S := Int32 × AH) (T := (AH) ⊕ (Int32 × AH)) (fun s1 =>
      (gI s1.2 13 392 ((some o0))).bind fun v4 =>
      if v4 ≤ s1.1 then
        some (.inr (.inl s1.2))
      else
        (gR s1.2 13 393 ((some o0))).bind fun v5 =>
        (aI s1.2 14 v5 s1.1).bind fun v6 =>
        (fX12_isWord s1.2 ((some o0)) v6).bind fun r7 =>
        if r7 = 0 then
          some (.inr (.inr ((s1.1, s1.2))))
        else
          (gR s1.2 13 393 ((some o0))).bind fun v8 =>
          (aI s1.2 14 v8 s1.1).bind fun v9 =>
          (fX12_statesOf s1.2 ((some o0)) v9 1).bind fun r10 =>
          (gR r10.2 13 394 ((some o0))).bind fun v11 =>
          (aI r10.2 14 v11 s1.1).bind fun v12 =>
          if r10.1 = v12 then
            some (.inl ((s1.1 + 1), r10.2))
          else
            some (.inr (.inr ((s1.1, r10.2))))) (0, A0)).bind fun t2 =>
  sm t2 (fun t2 =>
    some (((-1), t2))) (fun r => some r)
set_option maxRecDepth 100000 in
set_option maxHeartbeats 4000000 in
theorem kX12_wrong (l : Launch) {A0 : AH} {o0 : Option Nat} {r : Int32 × AH} (h : fX12_wrong A0 o0 = some r) : (∃ a, o0 = some a ∧ Hk A0 a = 13) ∧ Cn l yX12_wrong cX12_wrong 2 (some .int) 4 100 0 0 [vR o0] A0 (some (vI r.1)) r.2 := by
  unfold fX12_wrong at h
  replace h := bnd_e h
  obtain ⟨o1, e1, h⟩ := h
  obtain ⟨rfl, hk0⟩ := rcv_e e1
  refine ⟨⟨o1, rfl, hk0⟩, ?_⟩
  refine Cn.of (pad := 1) (lv0 := [some (vR (some o1)), none]) (by decide +kernel) (Nat.le_of_ble_eq_true rfl) rfl ?_
  intro p e s m below meth c base D cy E
  generalize (List.map toV [vR (some o1)]).toArray = ar at E ⊢
  have E : EN p s m ar meth c D cy RX12 cX12_wrong 2 (some .int) "wrong" := E
  refine v_iconst (v := 0) E dX12_wrong_0 (by decide) ?_
  refine v_istore_n (lv' := [some (vR (some o1)), some (vI 0)]) E dX12_wrong_1 (by decide) rfl ?_
  replace h := bnd_e h
  obtain ⟨t2, et2, h⟩ := h
  refine iter_V (S := Int32 × AH) (T := (AH) ⊕ (Int32 × AH)) (Ph := fun s1 => V p l e { frames := 4, cells := 0, slots := 0, locals := 100 } s m ar below meth c (MQ below (Qd base D cy (some (vI r.1)) r.2) ar s 0 0 (fun q => base ≤ q)) base D cy 2 2 [some (vR (some o1)), some (vI s1.1)] [] s1.2 0 0) (Pt := itM (fun t2 => V p l e { frames := 4, cells := 0, slots := 0, locals := 100 } s m ar below meth c (MQ below (Qd base D cy (some (vI r.1)) r.2) ar s 0 0 (fun q => base ≤ q)) base D cy 2 51 [none, none] [] t2 0 0) (fun z => z = r)) et2 (fun s1 w3 h hx => ?_) ?_
  · try dsimp only at h
    refine v_iload_n E dX12_wrong_2 rfl ?_
    refine v_aload_n E dX12_wrong_3 rfl ?_
    replace h := bnd_e h
    obtain ⟨v4, ev4, h⟩ := h
    refine g12_220 E ev4 dX12_wrong_4 ?_
    refine v_icmp_ge (tgt := 51) E dX12_wrong_7 (by decide) (fun c15 => ?_) (fun c15 => ?_)
    · rw [if_pos c15] at h
      refine v_drop (lv' := [none, none]) [0, 1] rfl ?_
      replace h := Option.some.inj h
      subst h
      exact hx
    · rw [if_neg c15] at h
      refine v_aload_n E dX12_wrong_10 rfl ?_
      refine v_aload_n E dX12_wrong_11 rfl ?_
      replace h := bnd_e h
      obtain ⟨v5, ev5, h⟩ := h
      refine g12_27 E ev5 dX12_wrong_12 ?_
      refine v_iload_n E dX12_wrong_15 rfl ?_
      replace h := bnd_e h
      obtain ⟨v6, ev6, h⟩ := h
      refine v_iaload E ev6 dX12_wrong_16 ?_
      replace h := bnd_e h
      obtain ⟨r7, er7, h⟩ := h
      refine v_callV (na := 1) (As := [vI v6]) (rest := []) (ci := 12) (q := (RX12, TX12, 20)) E gw12_223 (by decide +kernel) rfl rfl (by decide) (kX12_isWord l er7).2 (kX12_isWord l er7).1 rfl rfl dX12_wrong_17 ⟨Nat.le_of_ble_eq_true rfl, Nat.le_of_ble_eq_true rfl⟩ ⟨(Nat.le_of_ble_eq_true rfl), (Nat.le_of_ble_eq_true rfl)⟩ (Nat.le_of_ble_eq_true rfl) ?_
      refine v_if_eq (tgt := 43) E dX12_wrong_20 (by decide) (fun c14 => ?_) (fun c14 => ?_)
      · rw [if_pos c14] at h
        refine v_iload_n E dX12_wrong_43 rfl ?_
        replace h := Option.some.inj h
        subst h
        have hx : _ = r := hx
        subst hx
        refine v_widen (k' := 0) (n' := 0) (Nat.le_of_ble_eq_true rfl) (Nat.le_of_ble_eq_true rfl) ?_
        exact v_iret E dX12_wrong_44
      · rw [if_neg c14] at h
        refine v_aload_n E dX12_wrong_23 rfl ?_
        refine v_aload_n E dX12_wrong_24 rfl ?_
        replace h := bnd_e h
        obtain ⟨v8, ev8, h⟩ := h
        refine g12_27 E ev8 dX12_wrong_25 ?_
        refine v_iload_n E dX12_wrong_28 rfl ?_
        replace h := bnd_e h
        obtain ⟨v9, ev9, h⟩ := h
        refine v_iaload E ev9 dX12_wrong_29 ?_
        refine v_iconst (v := 1) E dX12_wrong_30 (by decide) ?_
        replace h := bnd_e h
        obtain ⟨r10, er10, h⟩ := h
        refine v_callV (na := 2) (As := [vI v9, vI 1]) (rest := []) (ci := 12) (q := (RX12, TX12, 20)) E gw12_227 (by decide +kernel) rfl rfl (by decide) (kX12_statesOf l er10).2 (kX12_statesOf l er10).1 rfl rfl dX12_wrong_31 ⟨Nat.le_of_ble_eq_true rfl, Nat.le_of_ble_eq_true rfl⟩ ⟨(Nat.le_of_ble_eq_true rfl), (Nat.le_of_ble_eq_true rfl)⟩ (Nat.le_of_ble_eq_true rfl) ?_
        refine v_aload_n E dX12_wrong_34 rfl ?_
        replace h := bnd_e h
        obtain ⟨v11, ev11, h⟩ := h
        refine g12_30 E ev11 dX12_wrong_35 ?_
        refine v_iload_n E dX12_wrong_38 rfl ?_
        replace h := bnd_e h
        obtain ⟨v12, ev12, h⟩ := h
        refine v_iaload E ev12 dX12_wrong_39 ?_
        refine v_icmp_eq (tgt := 45) E dX12_wrong_40 (by decide) (fun c13 => ?_) (fun c13 => ?_)
        · rw [if_pos c13] at h
          refine v_iinc (v := (s1.1 + 1)) (lv' := [some (vR (some o1)), some (vI (s1.1 + 1))]) E dX12_wrong_45 rfl (by rfl) (by decide) rfl ?_
          refine v_goto (tgt := 2) E dX12_wrong_48 (by decide) ?_
          replace h := Option.some.inj h
          subst h
          exact hx
        · rw [if_neg c13] at h
          refine v_iload_n E dX12_wrong_43 rfl ?_
          replace h := Option.some.inj h
          subst h
          have hx : _ = r := hx
          subst hx
          refine v_widen (k' := 0) (n' := 0) (Nat.le_of_ble_eq_true rfl) (Nat.le_of_ble_eq_true rfl) ?_
          exact v_iret E dX12_wrong_44
  · cases t2 with
    | inl t2 =>
      dsimp only [sm] at h
      refine v_iconst (v := (-1)) E dX12_wrong_51 (by decide) ?_
      replace h := Option.some.inj h
      subst h
      refine v_widen (k' := 0) (n' := 0) (Nat.le_of_ble_eq_true rfl) (Nat.le_of_ble_eq_true rfl) ?_
      exact v_iret E dX12_wrong_52
    | inr z =>
      exact Option.some.inj h
noncomputable def fX12_told (A0 : AH) (o0 : Option Nat) (a1 : Int32) : Option (Int32 × AH) :=
  (rcv A0 13 o0).bind fun o0 =>
  if a1 = 0 then
    (gR A0 13 384 ((some o0))).bind fun v2 =>
    (aI A0 14 v2 0).bind fun v3 =>
    some ((v3, A0))
  else if a1 = 1 then
    (fX12_unlikeWords A0 ((some o0))).bind fun r5 =>
    some ((r5.1, r5.2))
  else if a1 = 2 then
    (gI A0 13 390 ((some o0))).bind fun v7 =>
    some ((v7, A0))
  else if a1 = 3 then
    (gI A0 13 392 ((some o0))).bind fun v9 =>
    some ((v9, A0))
  else if a1 = 4 then
    (fX12_wrong A0 ((some o0))).bind fun r11 =>
    some ((r11.1, r11.2))
  else if a1 = 5 then
    (gI A0 13 387 ((some o0))).bind fun v13 =>
    some ((v13, A0))
  else if a1 = 6 then
    (gI A0 13 388 ((some o0))).bind fun v15 =>
    some ((v15, A0))
  else 
    some (((-1000000002), A0))
set_option maxRecDepth 100000 in
set_option maxHeartbeats 4000000 in
theorem kX12_told (l : Launch) {A0 : AH} {o0 : Option Nat} {a1 : Int32} {r : Int32 × AH} (h : fX12_told A0 o0 a1 = some r) : (∃ a, o0 = some a ∧ Hk A0 a = 13) ∧ Cn l yX12_told cX12_told 2 (some .int) 5 122 0 0 [vR o0, vI a1] A0 (some (vI r.1)) r.2 := by
  unfold fX12_told at h
  replace h := bnd_e h
  obtain ⟨o1, e1, h⟩ := h
  obtain ⟨rfl, hk0⟩ := rcv_e e1
  refine ⟨⟨o1, rfl, hk0⟩, ?_⟩
  refine Cn.of (pad := 0) (lv0 := [some (vR (some o1)), some (vI a1)]) (by decide +kernel) (Nat.le_of_ble_eq_true rfl) rfl ?_
  intro p e s m below meth c base D cy E
  generalize (List.map toV [vR (some o1), vI a1]).toArray = ar at E ⊢
  have E : EN p s m ar meth c D cy RX12 cX12_told 2 (some .int) "told" := E
  refine v_iload_n E dX12_told_0 rfl ?_
  refine v_tsw (tgts := [44, 51, 56, 61, 66, 71, 76, 81]) E dX12_told_1 (fun j off hj => ?_) (by decide) (by decide) (by decide) (by decide) (fun j t hj ht => ?_)
  · match j, hj with
    | 0, hj => cases hj; exact ⟨_, rfl, by decide⟩
    | 1, hj => cases hj; exact ⟨_, rfl, by decide⟩
    | 2, hj => cases hj; exact ⟨_, rfl, by decide⟩
    | 3, hj => cases hj; exact ⟨_, rfl, by decide⟩
    | 4, hj => cases hj; exact ⟨_, rfl, by decide⟩
    | 5, hj => cases hj; exact ⟨_, rfl, by decide⟩
    | 6, hj => cases hj; exact ⟨_, rfl, by decide⟩
    | j + 7, hj => simp at hj
  · by_cases c1 : a1 = 0
    · rw [if_pos c1] at h
      rw [c1] at hj
      obtain rfl : j = 0 := hj.symm
      cases ht
      refine v_aload_n E dX12_told_44 rfl ?_
      replace h := bnd_e h
      obtain ⟨v2, ev2, h⟩ := h
      refine g12_7 E ev2 dX12_told_45 ?_
      refine v_iconst (v := 0) E dX12_told_48 (by decide) ?_
      replace h := bnd_e h
      obtain ⟨v3, ev3, h⟩ := h
      refine v_iaload E ev3 dX12_told_49 ?_
      replace h := Option.some.inj h
      subst h
      refine v_widen (k' := 0) (n' := 0) (Nat.le_of_ble_eq_true rfl) (Nat.le_of_ble_eq_true rfl) ?_
      exact v_iret E dX12_told_50
    rw [if_neg c1] at h
    by_cases c4 : a1 = 1
    · rw [if_pos c4] at h
      rw [c4] at hj
      obtain rfl : j = 1 := hj.symm
      cases ht
      refine v_aload_n E dX12_told_51 rfl ?_
      replace h := bnd_e h
      obtain ⟨r5, er5, h⟩ := h
      refine v_callV (na := 0) (As := []) (rest := []) (ci := 12) (q := (RX12, TX12, 20)) E gw12_230 (by decide +kernel) rfl rfl (by decide) (kX12_unlikeWords l er5).2 (kX12_unlikeWords l er5).1 rfl rfl dX12_told_52 ⟨Nat.le_of_ble_eq_true rfl, Nat.le_of_ble_eq_true rfl⟩ ⟨(Nat.le_of_ble_eq_true rfl), (Nat.le_of_ble_eq_true rfl)⟩ (Nat.le_of_ble_eq_true rfl) ?_
      replace h := Option.some.inj h
      subst h
      refine v_widen (k' := 0) (n' := 0) (Nat.le_of_ble_eq_true rfl) (Nat.le_of_ble_eq_true rfl) ?_
      exact v_iret E dX12_told_55
    rw [if_neg c4] at h
    by_cases c6 : a1 = 2
    · rw [if_pos c6] at h
      rw [c6] at hj
      obtain rfl : j = 2 := hj.symm
      cases ht
      refine v_aload_n E dX12_told_56 rfl ?_
      replace h := bnd_e h
      obtain ⟨v7, ev7, h⟩ := h
      refine g12_79 E ev7 dX12_told_57 ?_
      replace h := Option.some.inj h
      subst h
      refine v_widen (k' := 0) (n' := 0) (Nat.le_of_ble_eq_true rfl) (Nat.le_of_ble_eq_true rfl) ?_
      exact v_iret E dX12_told_60
    rw [if_neg c6] at h
    by_cases c8 : a1 = 3
    · rw [if_pos c8] at h
      rw [c8] at hj
      obtain rfl : j = 3 := hj.symm
      cases ht
      refine v_aload_n E dX12_told_61 rfl ?_
      replace h := bnd_e h
      obtain ⟨v9, ev9, h⟩ := h
      refine g12_220 E ev9 dX12_told_62 ?_
      replace h := Option.some.inj h
      subst h
      refine v_widen (k' := 0) (n' := 0) (Nat.le_of_ble_eq_true rfl) (Nat.le_of_ble_eq_true rfl) ?_
      exact v_iret E dX12_told_65
    rw [if_neg c8] at h
    by_cases c10 : a1 = 4
    · rw [if_pos c10] at h
      rw [c10] at hj
      obtain rfl : j = 4 := hj.symm
      cases ht
      refine v_aload_n E dX12_told_66 rfl ?_
      replace h := bnd_e h
      obtain ⟨r11, er11, h⟩ := h
      refine v_callV (na := 0) (As := []) (rest := []) (ci := 12) (q := (RX12, TX12, 20)) E gw12_233 (by decide +kernel) rfl rfl (by decide) (kX12_wrong l er11).2 (kX12_wrong l er11).1 rfl rfl dX12_told_67 ⟨Nat.le_of_ble_eq_true rfl, Nat.le_of_ble_eq_true rfl⟩ ⟨(Nat.le_of_ble_eq_true rfl), (Nat.le_of_ble_eq_true rfl)⟩ (Nat.le_of_ble_eq_true rfl) ?_
      replace h := Option.some.inj h
      subst h
      refine v_widen (k' := 0) (n' := 0) (Nat.le_of_ble_eq_true rfl) (Nat.le_of_ble_eq_true rfl) ?_
      exact v_iret E dX12_told_70
    rw [if_neg c10] at h
    by_cases c12 : a1 = 5
    · rw [if_pos c12] at h
      rw [c12] at hj
      obtain rfl : j = 5 := hj.symm
      cases ht
      refine v_aload_n E dX12_told_71 rfl ?_
      replace h := bnd_e h
      obtain ⟨v13, ev13, h⟩ := h
      refine g12_48 E ev13 dX12_told_72 ?_
      replace h := Option.some.inj h
      subst h
      refine v_widen (k' := 0) (n' := 0) (Nat.le_of_ble_eq_true rfl) (Nat.le_of_ble_eq_true rfl) ?_
      exact v_iret E dX12_told_75
    rw [if_neg c12] at h
    by_cases c14 : a1 = 6
    · rw [if_pos c14] at h
      rw [c14] at hj
      obtain rfl : j = 6 := hj.symm
      cases ht
      refine v_aload_n E dX12_told_76 rfl ?_
      replace h := bnd_e h
      obtain ⟨v15, ev15, h⟩ := h
      refine g12_236 E ev15 dX12_told_77 ?_
      replace h := Option.some.inj h
      subst h
      refine v_widen (k' := 0) (n' := 0) (Nat.le_of_ble_eq_true rfl) (Nat.le_of_ble_eq_true rfl) ?_
      exact v_iret E dX12_told_80
    rw [if_neg c14] at h
    have hd : t = 81 := by
      match j, hj, ht with
      | 0, hj, ht => exact absurd (Int32.toInt_inj.mp ((swi_val hj (by decide)).trans (by decide : (0 : Int) + ((0 : Nat) : Int) = (0 : Int32).toInt))) c1
      | 1, hj, ht => exact absurd (Int32.toInt_inj.mp ((swi_val hj (by decide)).trans (by decide : (0 : Int) + ((1 : Nat) : Int) = (1 : Int32).toInt))) c4
      | 2, hj, ht => exact absurd (Int32.toInt_inj.mp ((swi_val hj (by decide)).trans (by decide : (0 : Int) + ((2 : Nat) : Int) = (2 : Int32).toInt))) c6
      | 3, hj, ht => exact absurd (Int32.toInt_inj.mp ((swi_val hj (by decide)).trans (by decide : (0 : Int) + ((3 : Nat) : Int) = (3 : Int32).toInt))) c8
      | 4, hj, ht => exact absurd (Int32.toInt_inj.mp ((swi_val hj (by decide)).trans (by decide : (0 : Int) + ((4 : Nat) : Int) = (4 : Int32).toInt))) c10
      | 5, hj, ht => exact absurd (Int32.toInt_inj.mp ((swi_val hj (by decide)).trans (by decide : (0 : Int) + ((5 : Nat) : Int) = (5 : Int32).toInt))) c12
      | 6, hj, ht => exact absurd (Int32.toInt_inj.mp ((swi_val hj (by decide)).trans (by decide : (0 : Int) + ((6 : Nat) : Int) = (6 : Int32).toInt))) c14
      | 7, hj, ht => cases ht; rfl
      | j + 8, hj, ht => simp at ht
    subst hd
    refine v_ldc (v := (-1000000002)) E dX12_told_81 q1092 ?_
    replace h := Option.some.inj h
    subst h
    refine v_widen (k' := 0) (n' := 0) (Nat.le_of_ble_eq_true rfl) (Nat.le_of_ble_eq_true rfl) ?_
    exact v_iret E dX12_told_83
noncomputable def fX12_ofFaces (A0 : AH) (o0 : Option Nat) (a1 : Int32) (a2 : Int32) : Option (Int32 × AH) :=
  (rcv A0 13 o0).bind fun o0 =>
  jp (fun (x19 : Unit) =>
    (fX12_facesOfSize A0 ((some o0)) a1 ((a2 - 11))).bind fun r20 =>
    some ((r20.1, r20.2))) fun K1 =>
    if a2 = 4 then
      (fX12_signsOf A0 ((some o0)) a1).bind fun r3 =>
      (fX12_laysFaces A0 ((some o0)) a1 r3).bind fun r4 =>
      some ((r4.1, r4.2))
    else if a2 = 5 then
      (fX12_size A0 ((some o0)) a1).bind fun r6 =>
      (fX12_signsOf A0 ((some o0)) a1).bind fun r7 =>
      (fX12_laysFaces A0 ((some o0)) a1 r7).bind fun r8 =>
      (dvI (((r6 + 2) - r8.1)) 2).bind fun v9 =>
      some ((v9, r8.2))
    else if a2 = 6 then
      (fX12_drawn A0 ((some o0)) a1).bind fun r11 =>
      some ((r11.1, r11.2))
    else if a2 = 7 then
      (fX12_drawings A0 ((some o0)) a1).bind fun r13 =>
      some ((r13.1, r13.2))
    else if a2 = 9 then
      (fX12_trees A0 ((some o0)) a1 1).bind fun r16 =>
      some ((r16.1, r16.2))
    else if a2 = 10 then
      (fX12_trees A0 ((some o0)) a1 0).bind fun r18 =>
      some ((r18.1, r18.2))
    else 
      K1 ()
set_option maxRecDepth 100000 in
set_option maxHeartbeats 4000000 in
theorem kX12_ofFaces (l : Launch) {A0 : AH} {o0 : Option Nat} {a1 : Int32} {a2 : Int32} {r : Int32 × AH} (h : fX12_ofFaces A0 o0 a1 a2 = some r) : (∃ a, o0 = some a ∧ Hk A0 a = 13) ∧ Cn l yX12_ofFaces cX12_ofFaces 3 (some .int) 7 170 0 0 [vR o0, vI a1, vI a2] A0 (some (vI r.1)) r.2 := by
  unfold fX12_ofFaces at h
  replace h := bnd_e h
  obtain ⟨o1, e1, h⟩ := h
  obtain ⟨rfl, hk0⟩ := rcv_e e1
  refine ⟨⟨o1, rfl, hk0⟩, ?_⟩
  refine Cn.of (pad := 0) (lv0 := [some (vR (some o1)), some (vI a1), some (vI a2)]) (by decide +kernel) (Nat.le_of_ble_eq_true rfl) rfl ?_
  intro p e s m below meth c base D cy E
  generalize (List.map toV [vR (some o1), vI a1, vI a2]).toArray = ar at E ⊢
  have E : EN p s m ar meth c D cy RX12 cX12_ofFaces 3 (some .int) "ofFaces" := E
  refine v_iload_n E dX12_ofFaces_0 rfl ?_
  refine jp_use h (fun K1 eK1 h => ?_)
  have hK1 : ∀ x19 : Unit, K1 x19 = some r → V p l e { frames := 7, cells := 0, slots := 0, locals := 170 } s m ar below meth c (MQ below (Qd base D cy (some (vI r.1)) r.2) ar s 0 0 (fun q => base ≤ q)) base D cy 3 102 [some (vR (some o1)), some (vI a1), some (vI a2)] [] A0 0 0 := by
    intro x19 h
    rw [eK1] at h
    try dsimp only at h
    refine v_aload_n E dX12_ofFaces_102 rfl ?_
    refine v_iload_n E dX12_ofFaces_103 rfl ?_
    refine v_iload_n E dX12_ofFaces_104 rfl ?_
    refine v_bipush (v := 11) E dX12_ofFaces_105 (by decide) ?_
    refine v_isub E dX12_ofFaces_107 ?_
    replace h := bnd_e h
    obtain ⟨r20, er20, h⟩ := h
    refine v_callV (na := 2) (As := [vI a1, vI (a2 - 11)]) (rest := []) (ci := 12) (q := (RX12, TX12, 20)) E gw12_249 (by decide +kernel) rfl rfl (by decide) (kX12_facesOfSize l er20).2 (kX12_facesOfSize l er20).1 rfl rfl dX12_ofFaces_108 ⟨Nat.le_of_ble_eq_true rfl, Nat.le_of_ble_eq_true rfl⟩ ⟨(Nat.le_of_ble_eq_true rfl), (Nat.le_of_ble_eq_true rfl)⟩ (Nat.le_of_ble_eq_true rfl) ?_
    replace h := Option.some.inj h
    subst h
    refine v_widen (k' := 0) (n' := 0) (Nat.le_of_ble_eq_true rfl) (Nat.le_of_ble_eq_true rfl) ?_
    exact v_iret E dX12_ofFaces_111
  refine v_tsw (tgts := [44, 55, 76, 82, 102, 88, 95, 102]) E dX12_ofFaces_1 (fun j off hj => ?_) (by decide) (by decide) (by decide) (by decide) (fun j t hj ht => ?_)
  · match j, hj with
    | 0, hj => cases hj; exact ⟨_, rfl, by decide⟩
    | 1, hj => cases hj; exact ⟨_, rfl, by decide⟩
    | 2, hj => cases hj; exact ⟨_, rfl, by decide⟩
    | 3, hj => cases hj; exact ⟨_, rfl, by decide⟩
    | 4, hj => cases hj; exact ⟨_, rfl, by decide⟩
    | 5, hj => cases hj; exact ⟨_, rfl, by decide⟩
    | 6, hj => cases hj; exact ⟨_, rfl, by decide⟩
    | j + 7, hj => simp at hj
  · by_cases c2 : a2 = 4
    · rw [if_pos c2] at h
      rw [c2] at hj
      obtain rfl : j = 0 := hj.symm
      cases ht
      refine v_aload_n E dX12_ofFaces_44 rfl ?_
      refine v_iload_n E dX12_ofFaces_45 rfl ?_
      refine v_aload_n E dX12_ofFaces_46 rfl ?_
      refine v_iload_n E dX12_ofFaces_47 rfl ?_
      replace h := bnd_e h
      obtain ⟨r3, er3, h⟩ := h
      refine v_callV (na := 1) (As := [vI a1]) (rest := [vI a1, vR (some o1)]) (ci := 12) (q := (RX12, TX12, 20)) E gw12_168 (by decide +kernel) rfl rfl (by decide) (kX12_signsOf l er3).2 (kX12_signsOf l er3).1 rfl rfl dX12_ofFaces_48 ⟨Nat.le_of_ble_eq_true rfl, Nat.le_of_ble_eq_true rfl⟩ ⟨(Nat.le_of_ble_eq_true rfl), (Nat.le_of_ble_eq_true rfl)⟩ (Nat.le_of_ble_eq_true rfl) ?_
      replace h := bnd_e h
      obtain ⟨r4, er4, h⟩ := h
      refine v_callV (na := 2) (As := [vI a1, vI r3]) (rest := []) (ci := 12) (q := (RX12, TX12, 20)) E gw12_159 (by decide +kernel) rfl rfl (by decide) (kX12_laysFaces l er4).2 (kX12_laysFaces l er4).1 rfl rfl dX12_ofFaces_51 ⟨Nat.le_of_ble_eq_true rfl, Nat.le_of_ble_eq_true rfl⟩ ⟨(Nat.le_of_ble_eq_true rfl), (Nat.le_of_ble_eq_true rfl)⟩ (Nat.le_of_ble_eq_true rfl) ?_
      replace h := Option.some.inj h
      subst h
      refine v_widen (k' := 0) (n' := 0) (Nat.le_of_ble_eq_true rfl) (Nat.le_of_ble_eq_true rfl) ?_
      exact v_iret E dX12_ofFaces_54
    rw [if_neg c2] at h
    by_cases c5 : a2 = 5
    · rw [if_pos c5] at h
      rw [c5] at hj
      obtain rfl : j = 1 := hj.symm
      cases ht
      refine v_aload_n E dX12_ofFaces_55 rfl ?_
      refine v_iload_n E dX12_ofFaces_56 rfl ?_
      replace h := bnd_e h
      obtain ⟨r6, er6, h⟩ := h
      refine v_callV (na := 1) (As := [vI a1]) (rest := []) (ci := 12) (q := (RX12, TX12, 20)) E gw12_59 (by decide +kernel) rfl rfl (by decide) (kX12_size l er6).2 (kX12_size l er6).1 rfl rfl dX12_ofFaces_57 ⟨Nat.le_of_ble_eq_true rfl, Nat.le_of_ble_eq_true rfl⟩ ⟨(Nat.le_of_ble_eq_true rfl), (Nat.le_of_ble_eq_true rfl)⟩ (Nat.le_of_ble_eq_true rfl) ?_
      refine v_iconst (v := 2) E dX12_ofFaces_60 (by decide) ?_
      refine v_iadd E dX12_ofFaces_61 ?_
      refine v_aload_n E dX12_ofFaces_62 rfl ?_
      refine v_iload_n E dX12_ofFaces_63 rfl ?_
      refine v_aload_n E dX12_ofFaces_64 rfl ?_
      refine v_iload_n E dX12_ofFaces_65 rfl ?_
      replace h := bnd_e h
      obtain ⟨r7, er7, h⟩ := h
      refine v_callV (na := 1) (As := [vI a1]) (rest := [vI a1, vR (some o1), vI (r6 + 2)]) (ci := 12) (q := (RX12, TX12, 20)) E gw12_168 (by decide +kernel) rfl rfl (by decide) (kX12_signsOf l er7).2 (kX12_signsOf l er7).1 rfl rfl dX12_ofFaces_66 ⟨Nat.le_of_ble_eq_true rfl, Nat.le_of_ble_eq_true rfl⟩ ⟨(Nat.le_of_ble_eq_true rfl), (Nat.le_of_ble_eq_true rfl)⟩ (Nat.le_of_ble_eq_true rfl) ?_
      replace h := bnd_e h
      obtain ⟨r8, er8, h⟩ := h
      refine v_callV (na := 2) (As := [vI a1, vI r7]) (rest := [vI (r6 + 2)]) (ci := 12) (q := (RX12, TX12, 20)) E gw12_159 (by decide +kernel) rfl rfl (by decide) (kX12_laysFaces l er8).2 (kX12_laysFaces l er8).1 rfl rfl dX12_ofFaces_69 ⟨Nat.le_of_ble_eq_true rfl, Nat.le_of_ble_eq_true rfl⟩ ⟨(Nat.le_of_ble_eq_true rfl), (Nat.le_of_ble_eq_true rfl)⟩ (Nat.le_of_ble_eq_true rfl) ?_
      refine v_isub E dX12_ofFaces_72 ?_
      refine v_iconst (v := 2) E dX12_ofFaces_73 (by decide) ?_
      replace h := bnd_e h
      obtain ⟨v9, ev9, h⟩ := h
      refine v_idiv E ev9 dX12_ofFaces_74 ?_
      replace h := Option.some.inj h
      subst h
      refine v_widen (k' := 0) (n' := 0) (Nat.le_of_ble_eq_true rfl) (Nat.le_of_ble_eq_true rfl) ?_
      exact v_iret E dX12_ofFaces_75
    rw [if_neg c5] at h
    by_cases c10 : a2 = 6
    · rw [if_pos c10] at h
      rw [c10] at hj
      obtain rfl : j = 2 := hj.symm
      cases ht
      refine v_aload_n E dX12_ofFaces_76 rfl ?_
      refine v_iload_n E dX12_ofFaces_77 rfl ?_
      replace h := bnd_e h
      obtain ⟨r11, er11, h⟩ := h
      refine v_callV (na := 1) (As := [vI a1]) (rest := []) (ci := 12) (q := (RX12, TX12, 20)) E gw12_239 (by decide +kernel) rfl rfl (by decide) (kX12_drawn l er11).2 (kX12_drawn l er11).1 rfl rfl dX12_ofFaces_78 ⟨Nat.le_of_ble_eq_true rfl, Nat.le_of_ble_eq_true rfl⟩ ⟨(Nat.le_of_ble_eq_true rfl), (Nat.le_of_ble_eq_true rfl)⟩ (Nat.le_of_ble_eq_true rfl) ?_
      replace h := Option.some.inj h
      subst h
      refine v_widen (k' := 0) (n' := 0) (Nat.le_of_ble_eq_true rfl) (Nat.le_of_ble_eq_true rfl) ?_
      exact v_iret E dX12_ofFaces_81
    rw [if_neg c10] at h
    by_cases c12 : a2 = 7
    · rw [if_pos c12] at h
      rw [c12] at hj
      obtain rfl : j = 3 := hj.symm
      cases ht
      refine v_aload_n E dX12_ofFaces_82 rfl ?_
      refine v_iload_n E dX12_ofFaces_83 rfl ?_
      replace h := bnd_e h
      obtain ⟨r13, er13, h⟩ := h
      refine v_callV (na := 1) (As := [vI a1]) (rest := []) (ci := 12) (q := (RX12, TX12, 20)) E gw12_242 (by decide +kernel) rfl rfl (by decide) (kX12_drawings l er13).2 (kX12_drawings l er13).1 rfl rfl dX12_ofFaces_84 ⟨Nat.le_of_ble_eq_true rfl, Nat.le_of_ble_eq_true rfl⟩ ⟨(Nat.le_of_ble_eq_true rfl), (Nat.le_of_ble_eq_true rfl)⟩ (Nat.le_of_ble_eq_true rfl) ?_
      replace h := Option.some.inj h
      subst h
      refine v_widen (k' := 0) (n' := 0) (Nat.le_of_ble_eq_true rfl) (Nat.le_of_ble_eq_true rfl) ?_
      exact v_iret E dX12_ofFaces_87
    rw [if_neg c12] at h
    by_cases c15 : a2 = 9
    · rw [if_pos c15] at h
      rw [c15] at hj
      obtain rfl : j = 5 := hj.symm
      cases ht
      refine v_aload_n E dX12_ofFaces_88 rfl ?_
      refine v_iload_n E dX12_ofFaces_89 rfl ?_
      refine v_iconst (v := 1) E dX12_ofFaces_90 (by decide) ?_
      replace h := bnd_e h
      obtain ⟨r16, er16, h⟩ := h
      refine v_callV (na := 2) (As := [vI a1, vI 1]) (rest := []) (ci := 12) (q := (RX12, TX12, 20)) E gw12_245 (by decide +kernel) rfl rfl (by decide) (kX12_trees l er16).2 (kX12_trees l er16).1 rfl rfl dX12_ofFaces_91 ⟨Nat.le_of_ble_eq_true rfl, Nat.le_of_ble_eq_true rfl⟩ ⟨(Nat.le_of_ble_eq_true rfl), (Nat.le_of_ble_eq_true rfl)⟩ (Nat.le_of_ble_eq_true rfl) ?_
      replace h := Option.some.inj h
      subst h
      refine v_widen (k' := 0) (n' := 0) (Nat.le_of_ble_eq_true rfl) (Nat.le_of_ble_eq_true rfl) ?_
      exact v_iret E dX12_ofFaces_94
    rw [if_neg c15] at h
    by_cases c17 : a2 = 10
    · rw [if_pos c17] at h
      rw [c17] at hj
      obtain rfl : j = 6 := hj.symm
      cases ht
      refine v_aload_n E dX12_ofFaces_95 rfl ?_
      refine v_iload_n E dX12_ofFaces_96 rfl ?_
      refine v_iconst (v := 0) E dX12_ofFaces_97 (by decide) ?_
      replace h := bnd_e h
      obtain ⟨r18, er18, h⟩ := h
      refine v_callV (na := 2) (As := [vI a1, vI 0]) (rest := []) (ci := 12) (q := (RX12, TX12, 20)) E gw12_245 (by decide +kernel) rfl rfl (by decide) (kX12_trees l er18).2 (kX12_trees l er18).1 rfl rfl dX12_ofFaces_98 ⟨Nat.le_of_ble_eq_true rfl, Nat.le_of_ble_eq_true rfl⟩ ⟨(Nat.le_of_ble_eq_true rfl), (Nat.le_of_ble_eq_true rfl)⟩ (Nat.le_of_ble_eq_true rfl) ?_
      replace h := Option.some.inj h
      subst h
      refine v_widen (k' := 0) (n' := 0) (Nat.le_of_ble_eq_true rfl) (Nat.le_of_ble_eq_true rfl) ?_
      exact v_iret E dX12_ofFaces_101
    rw [if_neg c17] at h
    have hd : t = 102 := by
      match j, hj, ht with
      | 0, hj, ht => exact absurd (Int32.toInt_inj.mp ((swi_val hj (by decide)).trans (by decide : (4 : Int) + ((0 : Nat) : Int) = (4 : Int32).toInt))) c2
      | 1, hj, ht => exact absurd (Int32.toInt_inj.mp ((swi_val hj (by decide)).trans (by decide : (4 : Int) + ((1 : Nat) : Int) = (5 : Int32).toInt))) c5
      | 2, hj, ht => exact absurd (Int32.toInt_inj.mp ((swi_val hj (by decide)).trans (by decide : (4 : Int) + ((2 : Nat) : Int) = (6 : Int32).toInt))) c10
      | 3, hj, ht => exact absurd (Int32.toInt_inj.mp ((swi_val hj (by decide)).trans (by decide : (4 : Int) + ((3 : Nat) : Int) = (7 : Int32).toInt))) c12
      | 4, hj, ht => cases ht; rfl
      | 5, hj, ht => exact absurd (Int32.toInt_inj.mp ((swi_val hj (by decide)).trans (by decide : (4 : Int) + ((5 : Nat) : Int) = (9 : Int32).toInt))) c15
      | 6, hj, ht => exact absurd (Int32.toInt_inj.mp ((swi_val hj (by decide)).trans (by decide : (4 : Int) + ((6 : Nat) : Int) = (10 : Int32).toInt))) c17
      | 7, hj, ht => cases ht; rfl
      | j + 8, hj, ht => simp at ht
    subst hd
    exact hK1 () h
noncomputable def fX12_word (A0 : AH) (o0 : Option Nat) (a1 : Int32) (a2 : Int32) : Option (Int32 × AH) :=
  (rcv A0 13 o0).bind fun o0 =>
  (fX12_isWord A0 ((some o0)) a1).bind fun r1 =>
  if r1 = 0 then
    some (((-1000000001), A0))
  else
    jp (fun (x23 : Unit) =>
      (fX12_in A0 (((a2 : Int32).toInt64)) 4 14).bind fun r24 =>
      if r24 = 0 then
        some (((-1000000002), A0))
      else
        (fX12_ofFaces A0 ((some o0)) a1 a2).bind fun r25 =>
        some ((r25.1, r25.2))) fun K2 =>
      if a2 = 0 then
        (fX12_size A0 ((some o0)) a1).bind fun r4 =>
        some ((r4, A0))
      else if a2 = 1 then
        (fX12_parts A0 ((some o0)) a1).bind fun r6 =>
        some ((r6.1, r6.2))
      else if a2 = 2 then
        (fX12_broken A0 ((some o0)) a1).bind fun r8 =>
        some ((r8, A0))
      else if a2 = 3 then
        (fX12_signsOf A0 ((some o0)) a1).bind fun r10 =>
        some ((r10, A0))
      else if a2 = 8 then
        (fX12_ringsOf A0 ((some o0)) a1 0).bind fun r16 =>
        some ((r16.1, r16.2))
      else if a2 = 11 then
        (fX12_kinOf A0 ((some o0)) a1).bind fun r20 =>
        some ((r20.1, r20.2))
      else if a2 = 12 then
        (fX12_loops A0 ((some o0)) a1).bind fun r22 =>
        some ((r22, A0))
      else 
        K2 ()
set_option maxRecDepth 100000 in
set_option maxHeartbeats 4000000 in
theorem kX12_word (l : Launch) {A0 : AH} {o0 : Option Nat} {a1 : Int32} {a2 : Int32} {r : Int32 × AH} (h : fX12_word A0 o0 a1 a2 = some r) : (∃ a, o0 = some a ∧ Hk A0 a = 13) ∧ Cn l yX12_word cX12_word 3 (some .int) 8 192 0 0 [vR o0, vI a1, vI a2] A0 (some (vI r.1)) r.2 := by
  unfold fX12_word at h
  replace h := bnd_e h
  obtain ⟨o1, e1, h⟩ := h
  obtain ⟨rfl, hk0⟩ := rcv_e e1
  refine ⟨⟨o1, rfl, hk0⟩, ?_⟩
  refine Cn.of (pad := 0) (lv0 := [some (vR (some o1)), some (vI a1), some (vI a2)]) (by decide +kernel) (Nat.le_of_ble_eq_true rfl) rfl ?_
  intro p e s m below meth c base D cy E
  generalize (List.map toV [vR (some o1), vI a1, vI a2]).toArray = ar at E ⊢
  have E : EN p s m ar meth c D cy RX12 cX12_word 3 (some .int) "word" := E
  refine v_aload_n E dX12_word_0 rfl ?_
  refine v_iload_n E dX12_word_1 rfl ?_
  replace h := bnd_e h
  obtain ⟨r1, er1, h⟩ := h
  refine v_callV (na := 1) (As := [vI a1]) (rest := []) (ci := 12) (q := (RX12, TX12, 20)) E gw12_223 (by decide +kernel) rfl rfl (by decide) (kX12_isWord l er1).2 (kX12_isWord l er1).1 rfl rfl dX12_word_2 ⟨Nat.le_of_ble_eq_true rfl, Nat.le_of_ble_eq_true rfl⟩ ⟨(Nat.le_of_ble_eq_true rfl), (Nat.le_of_ble_eq_true rfl)⟩ (Nat.le_of_ble_eq_true rfl) ?_
  refine v_if_ne (tgt := 11) E dX12_word_5 (by decide) (fun c27 => ?_) (fun c27 => ?_)
  · rw [if_neg c27] at h
    refine v_iload_n E dX12_word_11 rfl ?_
    refine jp_use h (fun K2 eK2 h => ?_)
    have hK2 : ∀ x23 : Unit, K2 x23 = some r → V p l e { frames := 8, cells := 0, slots := 0, locals := 192 } s m ar below meth c (MQ below (Qd base D cy (some (vI r.1)) r.2) ar s 0 0 (fun q => base ≤ q)) base D cy 3 123 [some (vR (some o1)), some (vI a1), some (vI a2)] [] A0 0 0 := by
      intro x23 h
      rw [eK2] at h
      try dsimp only at h
      refine v_iload_n E dX12_word_123 rfl ?_
      refine v_i2l E dX12_word_124 ?_
      refine v_ldc2 (v := 4) E dX12_word_125 q1252 ?_
      refine v_ldc2 (v := 14) E dX12_word_128 q1253 ?_
      replace h := bnd_e h
      obtain ⟨r24, er24, h⟩ := h
      refine v_callS (na := 3) (As := [vJ ((a2 : Int32).toInt64), vJ 4, vJ 14]) (rest := []) E gw12_55 (by decide +kernel) (kX12_in l er24) rfl rfl dX12_word_131 ⟨Nat.le_of_ble_eq_true rfl, Nat.le_of_ble_eq_true rfl⟩ ⟨(Nat.le_of_ble_eq_true rfl), (Nat.le_of_ble_eq_true rfl)⟩ (Nat.le_of_ble_eq_true rfl) ?_
      refine v_if_eq (tgt := 146) E dX12_word_134 (by decide) (fun c26 => ?_) (fun c26 => ?_)
      · rw [if_pos c26] at h
        refine v_ldc (v := (-1000000002)) E dX12_word_146 q1092 ?_
        replace h := Option.some.inj h
        subst h
        refine v_widen (k' := 0) (n' := 0) (Nat.le_of_ble_eq_true rfl) (Nat.le_of_ble_eq_true rfl) ?_
        exact v_iret E dX12_word_148
      · rw [if_neg c26] at h
        refine v_aload_n E dX12_word_137 rfl ?_
        refine v_iload_n E dX12_word_138 rfl ?_
        refine v_iload_n E dX12_word_139 rfl ?_
        replace h := bnd_e h
        obtain ⟨r25, er25, h⟩ := h
        refine v_callV (na := 2) (As := [vI a1, vI a2]) (rest := []) (ci := 12) (q := (RX12, TX12, 20)) E gw12_269 (by decide +kernel) rfl rfl (by decide) (kX12_ofFaces l er25).2 (kX12_ofFaces l er25).1 rfl rfl dX12_word_140 ⟨Nat.le_of_ble_eq_true rfl, Nat.le_of_ble_eq_true rfl⟩ ⟨(Nat.le_of_ble_eq_true rfl), (Nat.le_of_ble_eq_true rfl)⟩ (Nat.le_of_ble_eq_true rfl) ?_
        refine v_goto (tgt := 148) E dX12_word_143 (by decide) ?_
        replace h := Option.some.inj h
        subst h
        refine v_widen (k' := 0) (n' := 0) (Nat.le_of_ble_eq_true rfl) (Nat.le_of_ble_eq_true rfl) ?_
        exact v_iret E dX12_word_148
    refine v_tsw (tgts := [80, 86, 92, 98, 123, 123, 123, 123, 104, 123, 123, 111, 117, 123]) E dX12_word_12 (fun j off hj => ?_) (by decide) (by decide) (by decide) (by decide) (fun j t hj ht => ?_)
    · match j, hj with
      | 0, hj => cases hj; exact ⟨_, rfl, by decide⟩
      | 1, hj => cases hj; exact ⟨_, rfl, by decide⟩
      | 2, hj => cases hj; exact ⟨_, rfl, by decide⟩
      | 3, hj => cases hj; exact ⟨_, rfl, by decide⟩
      | 4, hj => cases hj; exact ⟨_, rfl, by decide⟩
      | 5, hj => cases hj; exact ⟨_, rfl, by decide⟩
      | 6, hj => cases hj; exact ⟨_, rfl, by decide⟩
      | 7, hj => cases hj; exact ⟨_, rfl, by decide⟩
      | 8, hj => cases hj; exact ⟨_, rfl, by decide⟩
      | 9, hj => cases hj; exact ⟨_, rfl, by decide⟩
      | 10, hj => cases hj; exact ⟨_, rfl, by decide⟩
      | 11, hj => cases hj; exact ⟨_, rfl, by decide⟩
      | 12, hj => cases hj; exact ⟨_, rfl, by decide⟩
      | j + 13, hj => simp at hj
    · by_cases c3 : a2 = 0
      · rw [if_pos c3] at h
        rw [c3] at hj
        obtain rfl : j = 0 := hj.symm
        cases ht
        refine v_aload_n E dX12_word_80 rfl ?_
        refine v_iload_n E dX12_word_81 rfl ?_
        replace h := bnd_e h
        obtain ⟨r4, er4, h⟩ := h
        refine v_callV (na := 1) (As := [vI a1]) (rest := []) (ci := 12) (q := (RX12, TX12, 20)) E gw12_59 (by decide +kernel) rfl rfl (by decide) (kX12_size l er4).2 (kX12_size l er4).1 rfl rfl dX12_word_82 ⟨Nat.le_of_ble_eq_true rfl, Nat.le_of_ble_eq_true rfl⟩ ⟨(Nat.le_of_ble_eq_true rfl), (Nat.le_of_ble_eq_true rfl)⟩ (Nat.le_of_ble_eq_true rfl) ?_
        replace h := Option.some.inj h
        subst h
        refine v_widen (k' := 0) (n' := 0) (Nat.le_of_ble_eq_true rfl) (Nat.le_of_ble_eq_true rfl) ?_
        exact v_iret E dX12_word_85
      rw [if_neg c3] at h
      by_cases c5 : a2 = 1
      · rw [if_pos c5] at h
        rw [c5] at hj
        obtain rfl : j = 1 := hj.symm
        cases ht
        refine v_aload_n E dX12_word_86 rfl ?_
        refine v_iload_n E dX12_word_87 rfl ?_
        replace h := bnd_e h
        obtain ⟨r6, er6, h⟩ := h
        refine v_callV (na := 1) (As := [vI a1]) (rest := []) (ci := 12) (q := (RX12, TX12, 20)) E gw12_253 (by decide +kernel) rfl rfl (by decide) (kX12_parts l er6).2 (kX12_parts l er6).1 rfl rfl dX12_word_88 ⟨Nat.le_of_ble_eq_true rfl, Nat.le_of_ble_eq_true rfl⟩ ⟨(Nat.le_of_ble_eq_true rfl), (Nat.le_of_ble_eq_true rfl)⟩ (Nat.le_of_ble_eq_true rfl) ?_
        replace h := Option.some.inj h
        subst h
        refine v_widen (k' := 0) (n' := 0) (Nat.le_of_ble_eq_true rfl) (Nat.le_of_ble_eq_true rfl) ?_
        exact v_iret E dX12_word_91
      rw [if_neg c5] at h
      by_cases c7 : a2 = 2
      · rw [if_pos c7] at h
        rw [c7] at hj
        obtain rfl : j = 2 := hj.symm
        cases ht
        refine v_aload_n E dX12_word_92 rfl ?_
        refine v_iload_n E dX12_word_93 rfl ?_
        replace h := bnd_e h
        obtain ⟨r8, er8, h⟩ := h
        refine v_callV (na := 1) (As := [vI a1]) (rest := []) (ci := 12) (q := (RX12, TX12, 20)) E gw12_256 (by decide +kernel) rfl rfl (by decide) (kX12_broken l er8).2 (kX12_broken l er8).1 rfl rfl dX12_word_94 ⟨Nat.le_of_ble_eq_true rfl, Nat.le_of_ble_eq_true rfl⟩ ⟨(Nat.le_of_ble_eq_true rfl), (Nat.le_of_ble_eq_true rfl)⟩ (Nat.le_of_ble_eq_true rfl) ?_
        replace h := Option.some.inj h
        subst h
        refine v_widen (k' := 0) (n' := 0) (Nat.le_of_ble_eq_true rfl) (Nat.le_of_ble_eq_true rfl) ?_
        exact v_iret E dX12_word_97
      rw [if_neg c7] at h
      by_cases c9 : a2 = 3
      · rw [if_pos c9] at h
        rw [c9] at hj
        obtain rfl : j = 3 := hj.symm
        cases ht
        refine v_aload_n E dX12_word_98 rfl ?_
        refine v_iload_n E dX12_word_99 rfl ?_
        replace h := bnd_e h
        obtain ⟨r10, er10, h⟩ := h
        refine v_callV (na := 1) (As := [vI a1]) (rest := []) (ci := 12) (q := (RX12, TX12, 20)) E gw12_168 (by decide +kernel) rfl rfl (by decide) (kX12_signsOf l er10).2 (kX12_signsOf l er10).1 rfl rfl dX12_word_100 ⟨Nat.le_of_ble_eq_true rfl, Nat.le_of_ble_eq_true rfl⟩ ⟨(Nat.le_of_ble_eq_true rfl), (Nat.le_of_ble_eq_true rfl)⟩ (Nat.le_of_ble_eq_true rfl) ?_
        replace h := Option.some.inj h
        subst h
        refine v_widen (k' := 0) (n' := 0) (Nat.le_of_ble_eq_true rfl) (Nat.le_of_ble_eq_true rfl) ?_
        exact v_iret E dX12_word_103
      rw [if_neg c9] at h
      by_cases c15 : a2 = 8
      · rw [if_pos c15] at h
        rw [c15] at hj
        obtain rfl : j = 8 := hj.symm
        cases ht
        refine v_aload_n E dX12_word_104 rfl ?_
        refine v_iload_n E dX12_word_105 rfl ?_
        refine v_iconst (v := 0) E dX12_word_106 (by decide) ?_
        replace h := bnd_e h
        obtain ⟨r16, er16, h⟩ := h
        refine v_callV (na := 2) (As := [vI a1, vI 0]) (rest := []) (ci := 12) (q := (RX12, TX12, 20)) E gw12_191 (by decide +kernel) rfl rfl (by decide) (kX12_ringsOf l er16).2 (kX12_ringsOf l er16).1 rfl rfl dX12_word_107 ⟨Nat.le_of_ble_eq_true rfl, Nat.le_of_ble_eq_true rfl⟩ ⟨(Nat.le_of_ble_eq_true rfl), (Nat.le_of_ble_eq_true rfl)⟩ (Nat.le_of_ble_eq_true rfl) ?_
        replace h := Option.some.inj h
        subst h
        refine v_widen (k' := 0) (n' := 0) (Nat.le_of_ble_eq_true rfl) (Nat.le_of_ble_eq_true rfl) ?_
        exact v_iret E dX12_word_110
      rw [if_neg c15] at h
      by_cases c19 : a2 = 11
      · rw [if_pos c19] at h
        rw [c19] at hj
        obtain rfl : j = 11 := hj.symm
        cases ht
        refine v_aload_n E dX12_word_111 rfl ?_
        refine v_iload_n E dX12_word_112 rfl ?_
        replace h := bnd_e h
        obtain ⟨r20, er20, h⟩ := h
        refine v_callV (na := 1) (As := [vI a1]) (rest := []) (ci := 12) (q := (RX12, TX12, 20)) E gw12_259 (by decide +kernel) rfl rfl (by decide) (kX12_kinOf l er20).2 (kX12_kinOf l er20).1 rfl rfl dX12_word_113 ⟨Nat.le_of_ble_eq_true rfl, Nat.le_of_ble_eq_true rfl⟩ ⟨(Nat.le_of_ble_eq_true rfl), (Nat.le_of_ble_eq_true rfl)⟩ (Nat.le_of_ble_eq_true rfl) ?_
        replace h := Option.some.inj h
        subst h
        refine v_widen (k' := 0) (n' := 0) (Nat.le_of_ble_eq_true rfl) (Nat.le_of_ble_eq_true rfl) ?_
        exact v_iret E dX12_word_116
      rw [if_neg c19] at h
      by_cases c21 : a2 = 12
      · rw [if_pos c21] at h
        rw [c21] at hj
        obtain rfl : j = 12 := hj.symm
        cases ht
        refine v_aload_n E dX12_word_117 rfl ?_
        refine v_iload_n E dX12_word_118 rfl ?_
        replace h := bnd_e h
        obtain ⟨r22, er22, h⟩ := h
        refine v_callV (na := 1) (As := [vI a1]) (rest := []) (ci := 12) (q := (RX12, TX12, 20)) E gw12_262 (by decide +kernel) rfl rfl (by decide) (kX12_loops l er22).2 (kX12_loops l er22).1 rfl rfl dX12_word_119 ⟨Nat.le_of_ble_eq_true rfl, Nat.le_of_ble_eq_true rfl⟩ ⟨(Nat.le_of_ble_eq_true rfl), (Nat.le_of_ble_eq_true rfl)⟩ (Nat.le_of_ble_eq_true rfl) ?_
        replace h := Option.some.inj h
        subst h
        refine v_widen (k' := 0) (n' := 0) (Nat.le_of_ble_eq_true rfl) (Nat.le_of_ble_eq_true rfl) ?_
        exact v_iret E dX12_word_122
      rw [if_neg c21] at h
      have hd : t = 123 := by
        match j, hj, ht with
        | 0, hj, ht => exact absurd (Int32.toInt_inj.mp ((swi_val hj (by decide)).trans (by decide : (0 : Int) + ((0 : Nat) : Int) = (0 : Int32).toInt))) c3
        | 1, hj, ht => exact absurd (Int32.toInt_inj.mp ((swi_val hj (by decide)).trans (by decide : (0 : Int) + ((1 : Nat) : Int) = (1 : Int32).toInt))) c5
        | 2, hj, ht => exact absurd (Int32.toInt_inj.mp ((swi_val hj (by decide)).trans (by decide : (0 : Int) + ((2 : Nat) : Int) = (2 : Int32).toInt))) c7
        | 3, hj, ht => exact absurd (Int32.toInt_inj.mp ((swi_val hj (by decide)).trans (by decide : (0 : Int) + ((3 : Nat) : Int) = (3 : Int32).toInt))) c9
        | 4, hj, ht => cases ht; rfl
        | 5, hj, ht => cases ht; rfl
        | 6, hj, ht => cases ht; rfl
        | 7, hj, ht => cases ht; rfl
        | 8, hj, ht => exact absurd (Int32.toInt_inj.mp ((swi_val hj (by decide)).trans (by decide : (0 : Int) + ((8 : Nat) : Int) = (8 : Int32).toInt))) c15
        | 9, hj, ht => cases ht; rfl
        | 10, hj, ht => cases ht; rfl
        | 11, hj, ht => exact absurd (Int32.toInt_inj.mp ((swi_val hj (by decide)).trans (by decide : (0 : Int) + ((11 : Nat) : Int) = (11 : Int32).toInt))) c19
        | 12, hj, ht => exact absurd (Int32.toInt_inj.mp ((swi_val hj (by decide)).trans (by decide : (0 : Int) + ((12 : Nat) : Int) = (12 : Int32).toInt))) c21
        | 13, hj, ht => cases ht; rfl
        | j + 14, hj, ht => simp at ht
      subst hd
      exact hK2 () h
  · rw [if_pos c27] at h
    refine v_ldc (v := (-1000000001)) E dX12_word_8 q1208 ?_
    replace h := Option.some.inj h
    subst h
    refine v_widen (k' := 0) (n' := 0) (Nat.le_of_ble_eq_true rfl) (Nat.le_of_ble_eq_true rfl) ?_
    exact v_iret E dX12_word_10
noncomputable def fX12_code (A0 : AH) (o0 : Option Nat) (a1 : Int32) : Option (Int64 × AH) :=
  (rcv A0 13 o0).bind fun o0 =>
  (fX12_isWord A0 ((some o0)) a1).bind fun r1 =>
  if r1 = 0 then
    some (((-1000000001), A0))
  else
    (fX12_codeOf A0 ((some o0)) a1).bind fun r2 =>
    some ((r2.1, r2.2))
set_option maxRecDepth 100000 in
set_option maxHeartbeats 4000000 in
theorem kX12_code (l : Launch) {A0 : AH} {o0 : Option Nat} {a1 : Int32} {r : Int64 × AH} (h : fX12_code A0 o0 a1 = some r) : (∃ a, o0 = some a ∧ Hk A0 a = 13) ∧ Cn l yX12_code cX12_code 2 (some .long) 3 76 0 0 [vR o0, vI a1] A0 (some (vJ r.1)) r.2 := by
  unfold fX12_code at h
  replace h := bnd_e h
  obtain ⟨o1, e1, h⟩ := h
  obtain ⟨rfl, hk0⟩ := rcv_e e1
  refine ⟨⟨o1, rfl, hk0⟩, ?_⟩
  refine Cn.of (pad := 0) (lv0 := [some (vR (some o1)), some (vI a1)]) (by decide +kernel) (Nat.le_of_ble_eq_true rfl) rfl ?_
  intro p e s m below meth c base D cy E
  generalize (List.map toV [vR (some o1), vI a1]).toArray = ar at E ⊢
  have E : EN p s m ar meth c D cy RX12 cX12_code 2 (some .long) "code" := E
  refine v_aload_n E dX12_code_0 rfl ?_
  refine v_iload_n E dX12_code_1 rfl ?_
  replace h := bnd_e h
  obtain ⟨r1, er1, h⟩ := h
  refine v_callV (na := 1) (As := [vI a1]) (rest := []) (ci := 12) (q := (RX12, TX12, 20)) E gw12_223 (by decide +kernel) rfl rfl (by decide) (kX12_isWord l er1).2 (kX12_isWord l er1).1 rfl rfl dX12_code_2 ⟨Nat.le_of_ble_eq_true rfl, Nat.le_of_ble_eq_true rfl⟩ ⟨(Nat.le_of_ble_eq_true rfl), (Nat.le_of_ble_eq_true rfl)⟩ (Nat.le_of_ble_eq_true rfl) ?_
  refine v_if_eq (tgt := 16) E dX12_code_5 (by decide) (fun c3 => ?_) (fun c3 => ?_)
  · rw [if_pos c3] at h
    refine v_ldc2 (v := (-1000000001)) E dX12_code_16 q1334 ?_
    replace h := Option.some.inj h
    subst h
    refine v_widen (k' := 0) (n' := 0) (Nat.le_of_ble_eq_true rfl) (Nat.le_of_ble_eq_true rfl) ?_
    exact v_lret E dX12_code_19
  · rw [if_neg c3] at h
    refine v_aload_n E dX12_code_8 rfl ?_
    refine v_iload_n E dX12_code_9 rfl ?_
    replace h := bnd_e h
    obtain ⟨r2, er2, h⟩ := h
    refine v_callV (na := 1) (As := [vI a1]) (rest := []) (ci := 12) (q := (RX12, TX12, 20)) E gw12_207 (by decide +kernel) rfl rfl (by decide) (kX12_codeOf l er2).2 (kX12_codeOf l er2).1 rfl rfl dX12_code_10 ⟨Nat.le_of_ble_eq_true rfl, Nat.le_of_ble_eq_true rfl⟩ ⟨(Nat.le_of_ble_eq_true rfl), (Nat.le_of_ble_eq_true rfl)⟩ (Nat.le_of_ble_eq_true rfl) ?_
    refine v_goto (tgt := 19) E dX12_code_13 (by decide) ?_
    replace h := Option.some.inj h
    subst h
    refine v_widen (k' := 0) (n' := 0) (Nat.le_of_ble_eq_true rfl) (Nat.le_of_ble_eq_true rfl) ?_
    exact v_lret E dX12_code_19
noncomputable def fX12_at (A0 : AH) (o0 : Option Nat) (a1 : Int32) (a2 : Int32) : Option (Int32) :=
  (rcv A0 13 o0).bind fun o0 =>
  (fX12_isWord A0 ((some o0)) a1).bind fun r1 =>
  if r1 = 0 then
    some ((-1000000001))
  else
    (fX12_size A0 ((some o0)) a1).bind fun r2 =>
    (fX12_in A0 (((a2 : Int32).toInt64)) 0 (((((2 * r2) - 1) : Int32).toInt64))).bind fun r3 =>
    if r3 = 0 then
      some ((-1))
    else
      (fX12_letterAt A0 ((some o0)) a1 a2).bind fun r4 =>
      some r4
set_option maxRecDepth 100000 in
set_option maxHeartbeats 4000000 in
theorem kX12_at (l : Launch) {A0 : AH} {o0 : Option Nat} {a1 : Int32} {a2 : Int32} {r : Int32} (h : fX12_at A0 o0 a1 a2 = some r) : (∃ a, o0 = some a ∧ Hk A0 a = 13) ∧ Cn l yX12_at cX12_at 3 (some .int) 2 46 0 0 [vR o0, vI a1, vI a2] A0 (some (vI r)) A0 := by
  unfold fX12_at at h
  replace h := bnd_e h
  obtain ⟨o1, e1, h⟩ := h
  obtain ⟨rfl, hk0⟩ := rcv_e e1
  refine ⟨⟨o1, rfl, hk0⟩, ?_⟩
  refine Cn.of (pad := 0) (lv0 := [some (vR (some o1)), some (vI a1), some (vI a2)]) (by decide +kernel) (Nat.le_of_ble_eq_true rfl) rfl ?_
  intro p e s m below meth c base D cy E
  generalize (List.map toV [vR (some o1), vI a1, vI a2]).toArray = ar at E ⊢
  have E : EN p s m ar meth c D cy RX12 cX12_at 3 (some .int) "at" := E
  refine v_aload_n E dX12_at_0 rfl ?_
  refine v_iload_n E dX12_at_1 rfl ?_
  replace h := bnd_e h
  obtain ⟨r1, er1, h⟩ := h
  refine v_callV (na := 1) (As := [vI a1]) (rest := []) (ci := 12) (q := (RX12, TX12, 20)) E gw12_223 (by decide +kernel) rfl rfl (by decide) (kX12_isWord l er1).2 (kX12_isWord l er1).1 rfl rfl dX12_at_2 ⟨Nat.le_of_ble_eq_true rfl, Nat.le_of_ble_eq_true rfl⟩ ⟨(Nat.le_of_ble_eq_true rfl), (Nat.le_of_ble_eq_true rfl)⟩ (Nat.le_of_ble_eq_true rfl) ?_
  refine v_if_ne (tgt := 11) E dX12_at_5 (by decide) (fun c6 => ?_) (fun c6 => ?_)
  · rw [if_neg c6] at h
    refine v_iload_n E dX12_at_11 rfl ?_
    refine v_i2l E dX12_at_12 ?_
    refine v_lconst (v := 0) E dX12_at_13 (by decide) ?_
    refine v_iconst (v := 2) E dX12_at_14 (by decide) ?_
    refine v_aload_n E dX12_at_15 rfl ?_
    refine v_iload_n E dX12_at_16 rfl ?_
    replace h := bnd_e h
    obtain ⟨r2, er2, h⟩ := h
    refine v_callV (na := 1) (As := [vI a1]) (rest := [vI 2, vJ 0, vJ ((a2 : Int32).toInt64)]) (ci := 12) (q := (RX12, TX12, 20)) E gw12_59 (by decide +kernel) rfl rfl (by decide) (kX12_size l er2).2 (kX12_size l er2).1 rfl rfl dX12_at_17 ⟨Nat.le_of_ble_eq_true rfl, Nat.le_of_ble_eq_true rfl⟩ ⟨(Nat.le_of_ble_eq_true rfl), (Nat.le_of_ble_eq_true rfl)⟩ (Nat.le_of_ble_eq_true rfl) ?_
    refine v_imul E dX12_at_20 ?_
    refine v_iconst (v := 1) E dX12_at_21 (by decide) ?_
    refine v_isub E dX12_at_22 ?_
    refine v_i2l E dX12_at_23 ?_
    replace h := bnd_e h
    obtain ⟨r3, er3, h⟩ := h
    refine v_callS (na := 3) (As := [vJ ((a2 : Int32).toInt64), vJ 0, vJ ((((2 * r2) - 1) : Int32).toInt64)]) (rest := []) E gw12_55 (by decide +kernel) (kX12_in l er3) rfl rfl dX12_at_24 ⟨Nat.le_of_ble_eq_true rfl, Nat.le_of_ble_eq_true rfl⟩ ⟨(Nat.le_of_ble_eq_true rfl), (Nat.le_of_ble_eq_true rfl)⟩ (Nat.le_of_ble_eq_true rfl) ?_
    refine v_if_eq (tgt := 39) E dX12_at_27 (by decide) (fun c5 => ?_) (fun c5 => ?_)
    · rw [if_pos c5] at h
      refine v_iconst (v := (-1)) E dX12_at_39 (by decide) ?_
      replace h := Option.some.inj h
      subst h
      refine v_widen (k' := 0) (n' := 0) (Nat.le_of_ble_eq_true rfl) (Nat.le_of_ble_eq_true rfl) ?_
      exact v_iret E dX12_at_40
    · rw [if_neg c5] at h
      refine v_aload_n E dX12_at_30 rfl ?_
      refine v_iload_n E dX12_at_31 rfl ?_
      refine v_iload_n E dX12_at_32 rfl ?_
      replace h := bnd_e h
      obtain ⟨r4, er4, h⟩ := h
      refine v_callV (na := 2) (As := [vI a1, vI a2]) (rest := []) (ci := 12) (q := (RX12, TX12, 20)) E gw12_63 (by decide +kernel) rfl rfl (by decide) (kX12_letterAt l er4).2 (kX12_letterAt l er4).1 rfl rfl dX12_at_33 ⟨Nat.le_of_ble_eq_true rfl, Nat.le_of_ble_eq_true rfl⟩ ⟨(Nat.le_of_ble_eq_true rfl), (Nat.le_of_ble_eq_true rfl)⟩ (Nat.le_of_ble_eq_true rfl) ?_
      refine v_goto (tgt := 40) E dX12_at_36 (by decide) ?_
      replace h := Option.some.inj h
      subst h
      refine v_widen (k' := 0) (n' := 0) (Nat.le_of_ble_eq_true rfl) (Nat.le_of_ble_eq_true rfl) ?_
      exact v_iret E dX12_at_40
  · rw [if_pos c6] at h
    refine v_ldc (v := (-1000000001)) E dX12_at_8 q1208 ?_
    replace h := Option.some.inj h
    subst h
    refine v_widen (k' := 0) (n' := 0) (Nat.le_of_ble_eq_true rfl) (Nat.le_of_ble_eq_true rfl) ?_
    exact v_iret E dX12_at_10
noncomputable def fX12_letter (A0 : AH) (o0 : Option Nat) (a1 : Int32) (a2 : Int32) (a3 : Int32) : Option (Int32 × AH) :=
  (rcv A0 13 o0).bind fun o0 =>
  (fX12_isWord A0 ((some o0)) a1).bind fun r1 =>
  if r1 = 0 then
    some (((-1000000001), A0))
  else
    (fX12_isLetter A0 ((some o0)) a1 a2).bind fun r2 =>
    if r2 = 0 then
      some (((-1000000001), A0))
    else
      (fX12_in A0 (((a3 : Int32).toInt64)) 0 7).bind fun r3 =>
      if r3 = 0 then
        some (((-1000000002), A0))
      else
        if 3 ≤ a3 then
          (fX12_signsOf A0 ((some o0)) a1).bind fun r4 =>
          (fX12_isPlane A0 ((some o0)) a1 r4).bind fun r5 =>
          if 7 ≤ a3 then
            (fX12_laysIndices r5.2 ((some o0)) a1).bind fun r6 =>
            if r5.1 = 0 then
              some (((-1), r6))
            else
              (fX12_middle r6 ((some o0)) a2).bind fun r7 =>
              some (((r7 + 100), r6))
          else
            (fX12_faceOf r5.2 ((some o0)) ((((4 * a2) + a3) - 3))).bind fun r9 =>
            some ((r9, r5.2))
        else
          if a3 = 2 then
            (fX12_betweenSet A0 ((some o0)) a1 a2).bind fun r12 =>
            some ((r12, A0))
          else
            (fX12_place A0 ((some o0)) a1 a2 a3).bind fun r11 =>
            some ((r11, A0))
set_option maxRecDepth 100000 in
set_option maxHeartbeats 4000000 in
theorem kX12_letter (l : Launch) {A0 : AH} {o0 : Option Nat} {a1 : Int32} {a2 : Int32} {a3 : Int32} {r : Int32 × AH} (h : fX12_letter A0 o0 a1 a2 a3 = some r) : (∃ a, o0 = some a ∧ Hk A0 a = 13) ∧ Cn l yX12_letter cX12_letter 5 (some .int) 6 142 0 0 [vR o0, vI a1, vI a2, vI a3] A0 (some (vI r.1)) r.2 := by
  unfold fX12_letter at h
  replace h := bnd_e h
  obtain ⟨o1, e1, h⟩ := h
  obtain ⟨rfl, hk0⟩ := rcv_e e1
  refine ⟨⟨o1, rfl, hk0⟩, ?_⟩
  refine Cn.of (pad := 1) (lv0 := [some (vR (some o1)), some (vI a1), some (vI a2), some (vI a3), none]) (by decide +kernel) (Nat.le_of_ble_eq_true rfl) rfl ?_
  intro p e s m below meth c base D cy E
  generalize (List.map toV [vR (some o1), vI a1, vI a2, vI a3]).toArray = ar at E ⊢
  have E : EN p s m ar meth c D cy RX12 cX12_letter 5 (some .int) "letter" := E
  refine v_aload_n E dX12_letter_0 rfl ?_
  refine v_iload_n E dX12_letter_1 rfl ?_
  replace h := bnd_e h
  obtain ⟨r1, er1, h⟩ := h
  refine v_callV (na := 1) (As := [vI a1]) (rest := []) (ci := 12) (q := (RX12, TX12, 20)) E gw12_223 (by decide +kernel) rfl rfl (by decide) (kX12_isWord l er1).2 (kX12_isWord l er1).1 rfl rfl dX12_letter_2 ⟨Nat.le_of_ble_eq_true rfl, Nat.le_of_ble_eq_true rfl⟩ ⟨(Nat.le_of_ble_eq_true rfl), (Nat.le_of_ble_eq_true rfl)⟩ (Nat.le_of_ble_eq_true rfl) ?_
  refine v_if_eq (tgt := 17) E dX12_letter_5 (by decide) (fun c17 => ?_) (fun c17 => ?_)
  · rw [if_pos c17] at h
    refine v_ldc (v := (-1000000001)) E dX12_letter_17 q1208 ?_
    replace h := Option.some.inj h
    subst h
    refine v_widen (k' := 0) (n' := 0) (Nat.le_of_ble_eq_true rfl) (Nat.le_of_ble_eq_true rfl) ?_
    exact v_iret E dX12_letter_19
  · rw [if_neg c17] at h
    refine v_aload_n E dX12_letter_8 rfl ?_
    refine v_iload_n E dX12_letter_9 rfl ?_
    refine v_iload_n E dX12_letter_10 rfl ?_
    replace h := bnd_e h
    obtain ⟨r2, er2, h⟩ := h
    refine v_callV (na := 2) (As := [vI a1, vI a2]) (rest := []) (ci := 12) (q := (RX12, TX12, 20)) E gw12_274 (by decide +kernel) rfl rfl (by decide) (kX12_isLetter l er2).2 (kX12_isLetter l er2).1 rfl rfl dX12_letter_11 ⟨Nat.le_of_ble_eq_true rfl, Nat.le_of_ble_eq_true rfl⟩ ⟨(Nat.le_of_ble_eq_true rfl), (Nat.le_of_ble_eq_true rfl)⟩ (Nat.le_of_ble_eq_true rfl) ?_
    refine v_if_ne (tgt := 20) E dX12_letter_14 (by decide) (fun c16 => ?_) (fun c16 => ?_)
    · rw [if_neg c16] at h
      refine v_iload_n E dX12_letter_20 rfl ?_
      refine v_i2l E dX12_letter_21 ?_
      refine v_lconst (v := 0) E dX12_letter_22 (by decide) ?_
      refine v_ldc2 (v := 7) E dX12_letter_23 q1347 ?_
      replace h := bnd_e h
      obtain ⟨r3, er3, h⟩ := h
      refine v_callS (na := 3) (As := [vJ ((a3 : Int32).toInt64), vJ 0, vJ 7]) (rest := []) E gw12_55 (by decide +kernel) (kX12_in l er3) rfl rfl dX12_letter_26 ⟨Nat.le_of_ble_eq_true rfl, Nat.le_of_ble_eq_true rfl⟩ ⟨(Nat.le_of_ble_eq_true rfl), (Nat.le_of_ble_eq_true rfl)⟩ (Nat.le_of_ble_eq_true rfl) ?_
      refine v_if_ne (tgt := 35) E dX12_letter_29 (by decide) (fun c15 => ?_) (fun c15 => ?_)
      · rw [if_neg c15] at h
        refine v_iload_n E dX12_letter_35 rfl ?_
        refine v_iconst (v := 3) E dX12_letter_36 (by decide) ?_
        refine v_icmp_ge (tgt := 62) E dX12_letter_37 (by decide) (fun c14 => ?_) (fun c14 => ?_)
        · rw [if_pos c14] at h
          refine v_aload_n E dX12_letter_62 rfl ?_
          refine v_iload_n E dX12_letter_63 rfl ?_
          refine v_aload_n E dX12_letter_64 rfl ?_
          refine v_iload_n E dX12_letter_65 rfl ?_
          replace h := bnd_e h
          obtain ⟨r4, er4, h⟩ := h
          refine v_callV (na := 1) (As := [vI a1]) (rest := [vI a1, vR (some o1)]) (ci := 12) (q := (RX12, TX12, 20)) E gw12_168 (by decide +kernel) rfl rfl (by decide) (kX12_signsOf l er4).2 (kX12_signsOf l er4).1 rfl rfl dX12_letter_66 ⟨Nat.le_of_ble_eq_true rfl, Nat.le_of_ble_eq_true rfl⟩ ⟨(Nat.le_of_ble_eq_true rfl), (Nat.le_of_ble_eq_true rfl)⟩ (Nat.le_of_ble_eq_true rfl) ?_
          replace h := bnd_e h
          obtain ⟨r5, er5, h⟩ := h
          refine v_callV (na := 2) (As := [vI a1, vI r4]) (rest := []) (ci := 12) (q := (RX12, TX12, 20)) E gw12_162 (by decide +kernel) rfl rfl (by decide) (kX12_isPlane l er5).2 (kX12_isPlane l er5).1 rfl rfl dX12_letter_69 ⟨Nat.le_of_ble_eq_true rfl, Nat.le_of_ble_eq_true rfl⟩ ⟨(Nat.le_of_ble_eq_true rfl), (Nat.le_of_ble_eq_true rfl)⟩ (Nat.le_of_ble_eq_true rfl) ?_
          refine v_istore (lv' := [some (vR (some o1)), some (vI a1), some (vI a2), some (vI a3), some (vI r5.1)]) E dX12_letter_72 (by decide) rfl ?_
          refine v_iload_n E dX12_letter_74 rfl ?_
          refine v_bipush (v := 7) E dX12_letter_75 (by decide) ?_
          refine v_icmp_ge (tgt := 92) E dX12_letter_77 (by decide) (fun c10 => ?_) (fun c10 => ?_)
          · rw [if_pos c10] at h
            refine v_aload_n E dX12_letter_92 rfl ?_
            refine v_iload_n E dX12_letter_93 rfl ?_
            replace h := bnd_e h
            obtain ⟨r6, er6, h⟩ := h
            refine v_callV (na := 1) (As := [vI a1]) (rest := []) (ci := 12) (q := (RX12, TX12, 20)) E gw12_184 (by decide +kernel) rfl rfl (by decide) (kX12_laysIndices l er6).2 (kX12_laysIndices l er6).1 rfl rfl dX12_letter_94 ⟨Nat.le_of_ble_eq_true rfl, Nat.le_of_ble_eq_true rfl⟩ ⟨(Nat.le_of_ble_eq_true rfl), (Nat.le_of_ble_eq_true rfl)⟩ (Nat.le_of_ble_eq_true rfl) ?_
            refine v_iload E dX12_letter_97 rfl ?_
            refine v_if_eq (tgt := 113) E dX12_letter_99 (by decide) (fun c8 => ?_) (fun c8 => ?_)
            · rw [if_pos c8] at h
              refine v_iconst (v := (-1)) E dX12_letter_113 (by decide) ?_
              replace h := Option.some.inj h
              subst h
              refine v_widen (k' := 0) (n' := 0) (Nat.le_of_ble_eq_true rfl) (Nat.le_of_ble_eq_true rfl) ?_
              exact v_iret E dX12_letter_114
            · rw [if_neg c8] at h
              refine v_aload_n E dX12_letter_102 rfl ?_
              refine v_iload_n E dX12_letter_103 rfl ?_
              replace h := bnd_e h
              obtain ⟨r7, er7, h⟩ := h
              refine v_callV (na := 1) (As := [vI a2]) (rest := []) (ci := 12) (q := (RX12, TX12, 20)) E gw12_178 (by decide +kernel) rfl rfl (by decide) (kX12_middle l er7).2 (kX12_middle l er7).1 rfl rfl dX12_letter_104 ⟨Nat.le_of_ble_eq_true rfl, Nat.le_of_ble_eq_true rfl⟩ ⟨(Nat.le_of_ble_eq_true rfl), (Nat.le_of_ble_eq_true rfl)⟩ (Nat.le_of_ble_eq_true rfl) ?_
              refine v_bipush (v := 100) E dX12_letter_107 (by decide) ?_
              refine v_iadd E dX12_letter_109 ?_
              refine v_goto (tgt := 114) E dX12_letter_110 (by decide) ?_
              replace h := Option.some.inj h
              subst h
              refine v_widen (k' := 0) (n' := 0) (Nat.le_of_ble_eq_true rfl) (Nat.le_of_ble_eq_true rfl) ?_
              exact v_iret E dX12_letter_114
          · rw [if_neg c10] at h
            refine v_aload_n E dX12_letter_80 rfl ?_
            refine v_iconst (v := 4) E dX12_letter_81 (by decide) ?_
            refine v_iload_n E dX12_letter_82 rfl ?_
            refine v_imul E dX12_letter_83 ?_
            refine v_iload_n E dX12_letter_84 rfl ?_
            refine v_iadd E dX12_letter_85 ?_
            refine v_iconst (v := 3) E dX12_letter_86 (by decide) ?_
            refine v_isub E dX12_letter_87 ?_
            replace h := bnd_e h
            obtain ⟨r9, er9, h⟩ := h
            refine v_callV (na := 1) (As := [vI (((4 * a2) + a3) - 3)]) (rest := []) (ci := 12) (q := (RX12, TX12, 20)) E gw12_165 (by decide +kernel) rfl rfl (by decide) (kX12_faceOf l er9).2 (kX12_faceOf l er9).1 rfl rfl dX12_letter_88 ⟨Nat.le_of_ble_eq_true rfl, Nat.le_of_ble_eq_true rfl⟩ ⟨(Nat.le_of_ble_eq_true rfl), (Nat.le_of_ble_eq_true rfl)⟩ (Nat.le_of_ble_eq_true rfl) ?_
            replace h := Option.some.inj h
            subst h
            refine v_widen (k' := 0) (n' := 0) (Nat.le_of_ble_eq_true rfl) (Nat.le_of_ble_eq_true rfl) ?_
            exact v_iret E dX12_letter_91
        · rw [if_neg c14] at h
          refine v_iload_n E dX12_letter_40 rfl ?_
          refine v_iconst (v := 2) E dX12_letter_41 (by decide) ?_
          refine v_icmp_ne (tgt := 54) E dX12_letter_42 (by decide) (fun c13 => ?_) (fun c13 => ?_)
          · rw [if_neg c13] at h
            refine v_aload_n E dX12_letter_54 rfl ?_
            refine v_iload_n E dX12_letter_55 rfl ?_
            refine v_iload_n E dX12_letter_56 rfl ?_
            refine v_iload_n E dX12_letter_57 rfl ?_
            replace h := bnd_e h
            obtain ⟨r11, er11, h⟩ := h
            refine v_callV (na := 3) (As := [vI a1, vI a2, vI a3]) (rest := []) (ci := 12) (q := (RX12, TX12, 20)) E gw12_104 (by decide +kernel) rfl rfl (by decide) (kX12_place l er11).2 (kX12_place l er11).1 rfl rfl dX12_letter_58 ⟨Nat.le_of_ble_eq_true rfl, Nat.le_of_ble_eq_true rfl⟩ ⟨(Nat.le_of_ble_eq_true rfl), (Nat.le_of_ble_eq_true rfl)⟩ (Nat.le_of_ble_eq_true rfl) ?_
            replace h := Option.some.inj h
            subst h
            refine v_widen (k' := 0) (n' := 0) (Nat.le_of_ble_eq_true rfl) (Nat.le_of_ble_eq_true rfl) ?_
            exact v_iret E dX12_letter_61
          · rw [if_pos c13] at h
            refine v_aload_n E dX12_letter_45 rfl ?_
            refine v_iload_n E dX12_letter_46 rfl ?_
            refine v_iload_n E dX12_letter_47 rfl ?_
            replace h := bnd_e h
            obtain ⟨r12, er12, h⟩ := h
            refine v_callV (na := 2) (As := [vI a1, vI a2]) (rest := []) (ci := 12) (q := (RX12, TX12, 20)) E gw12_129 (by decide +kernel) rfl rfl (by decide) (kX12_betweenSet l er12).2 (kX12_betweenSet l er12).1 rfl rfl dX12_letter_48 ⟨Nat.le_of_ble_eq_true rfl, Nat.le_of_ble_eq_true rfl⟩ ⟨(Nat.le_of_ble_eq_true rfl), (Nat.le_of_ble_eq_true rfl)⟩ (Nat.le_of_ble_eq_true rfl) ?_
            refine v_goto (tgt := 61) E dX12_letter_51 (by decide) ?_
            replace h := Option.some.inj h
            subst h
            refine v_widen (k' := 0) (n' := 0) (Nat.le_of_ble_eq_true rfl) (Nat.le_of_ble_eq_true rfl) ?_
            exact v_iret E dX12_letter_61
      · rw [if_pos c15] at h
        refine v_ldc (v := (-1000000002)) E dX12_letter_32 q1092 ?_
        replace h := Option.some.inj h
        subst h
        refine v_widen (k' := 0) (n' := 0) (Nat.le_of_ble_eq_true rfl) (Nat.le_of_ble_eq_true rfl) ?_
        exact v_iret E dX12_letter_34
    · rw [if_pos c16] at h
      refine v_ldc (v := (-1000000001)) E dX12_letter_17 q1208 ?_
      replace h := Option.some.inj h
      subst h
      refine v_widen (k' := 0) (n' := 0) (Nat.le_of_ble_eq_true rfl) (Nat.le_of_ble_eq_true rfl) ?_
      exact v_iret E dX12_letter_19
noncomputable def fX12_face (A0 : AH) (o0 : Option Nat) (a1 : Int32) (a2 : Int32) (a3 : Int32) : Option (Int32 × AH) :=
  (rcv A0 13 o0).bind fun o0 =>
  (fX12_isWord A0 ((some o0)) a1).bind fun r1 =>
  if r1 = 0 then
    some (((-1000000001), A0))
  else
    (fX12_signsOf A0 ((some o0)) a1).bind fun r2 =>
    (fX12_laysFaces A0 ((some o0)) a1 r2).bind fun r3 =>
    (fX12_in r3.2 (((a2 : Int32).toInt64)) 0 ((((r3.1 - 1) : Int32).toInt64))).bind fun r4 =>
    if r4 = 0 then
      some (((-1000000001), r3.2))
    else
      (fX12_in r3.2 (((a3 : Int32).toInt64)) 0 3).bind fun r5 =>
      if r5 = 0 then
        some (((-1000000002), r3.2))
      else
        if a3 = 0 then
          (fX12_sizeOfFace r3.2 ((some o0)) a1 a2).bind fun r17 =>
          some ((r17, r3.2))
        else
          (fX12_signsOf r3.2 ((some o0)) a1).bind fun r6 =>
          (fX12_isPlane r3.2 ((some o0)) a1 r6).bind fun r7 =>
          if r7.1 = 0 then
            some (((-1), r7.2))
          else
            (fX12_laysIndices r7.2 ((some o0)) a1).bind fun r8 =>
            if a3 = 1 then
              (fX12_isDark r8 ((some o0)) a1 a2).bind fun r13 =>
              if r13 = 0 then
                some ((0, r8))
              else
                some ((1, r8))
            else
              if a3 = 2 then
                (gR r8 13 400 ((some o0))).bind fun v10 =>
                (aI r8 14 v10 a2).bind fun v11 =>
                some (((v11 + 100), r8))
              else
                (fX12_turns r8 ((some o0)) a1 a2).bind fun r9 =>
                some (((r9 + 100), r8))
set_option maxRecDepth 100000 in
set_option maxHeartbeats 4000000 in
theorem kX12_face (l : Launch) {A0 : AH} {o0 : Option Nat} {a1 : Int32} {a2 : Int32} {a3 : Int32} {r : Int32 × AH} (h : fX12_face A0 o0 a1 a2 a3 = some r) : (∃ a, o0 = some a ∧ Hk A0 a = 13) ∧ Cn l yX12_face cX12_face 4 (some .int) 6 142 0 0 [vR o0, vI a1, vI a2, vI a3] A0 (some (vI r.1)) r.2 := by
  unfold fX12_face at h
  replace h := bnd_e h
  obtain ⟨o1, e1, h⟩ := h
  obtain ⟨rfl, hk0⟩ := rcv_e e1
  refine ⟨⟨o1, rfl, hk0⟩, ?_⟩
  refine Cn.of (pad := 0) (lv0 := [some (vR (some o1)), some (vI a1), some (vI a2), some (vI a3)]) (by decide +kernel) (Nat.le_of_ble_eq_true rfl) rfl ?_
  intro p e s m below meth c base D cy E
  generalize (List.map toV [vR (some o1), vI a1, vI a2, vI a3]).toArray = ar at E ⊢
  have E : EN p s m ar meth c D cy RX12 cX12_face 4 (some .int) "face" := E
  refine v_aload_n E dX12_face_0 rfl ?_
  refine v_iload_n E dX12_face_1 rfl ?_
  replace h := bnd_e h
  obtain ⟨r1, er1, h⟩ := h
  refine v_callV (na := 1) (As := [vI a1]) (rest := []) (ci := 12) (q := (RX12, TX12, 20)) E gw12_223 (by decide +kernel) rfl rfl (by decide) (kX12_isWord l er1).2 (kX12_isWord l er1).1 rfl rfl dX12_face_2 ⟨Nat.le_of_ble_eq_true rfl, Nat.le_of_ble_eq_true rfl⟩ ⟨(Nat.le_of_ble_eq_true rfl), (Nat.le_of_ble_eq_true rfl)⟩ (Nat.le_of_ble_eq_true rfl) ?_
  refine v_if_eq (tgt := 30) E dX12_face_5 (by decide) (fun c21 => ?_) (fun c21 => ?_)
  · rw [if_pos c21] at h
    refine v_ldc (v := (-1000000001)) E dX12_face_30 q1208 ?_
    replace h := Option.some.inj h
    subst h
    refine v_widen (k' := 0) (n' := 0) (Nat.le_of_ble_eq_true rfl) (Nat.le_of_ble_eq_true rfl) ?_
    exact v_iret E dX12_face_32
  · rw [if_neg c21] at h
    refine v_iload_n E dX12_face_8 rfl ?_
    refine v_i2l E dX12_face_9 ?_
    refine v_lconst (v := 0) E dX12_face_10 (by decide) ?_
    refine v_aload_n E dX12_face_11 rfl ?_
    refine v_iload_n E dX12_face_12 rfl ?_
    refine v_aload_n E dX12_face_13 rfl ?_
    refine v_iload_n E dX12_face_14 rfl ?_
    replace h := bnd_e h
    obtain ⟨r2, er2, h⟩ := h
    refine v_callV (na := 1) (As := [vI a1]) (rest := [vI a1, vR (some o1), vJ 0, vJ ((a2 : Int32).toInt64)]) (ci := 12) (q := (RX12, TX12, 20)) E gw12_168 (by decide +kernel) rfl rfl (by decide) (kX12_signsOf l er2).2 (kX12_signsOf l er2).1 rfl rfl dX12_face_15 ⟨Nat.le_of_ble_eq_true rfl, Nat.le_of_ble_eq_true rfl⟩ ⟨(Nat.le_of_ble_eq_true rfl), (Nat.le_of_ble_eq_true rfl)⟩ (Nat.le_of_ble_eq_true rfl) ?_
    replace h := bnd_e h
    obtain ⟨r3, er3, h⟩ := h
    refine v_callV (na := 2) (As := [vI a1, vI r2]) (rest := [vJ 0, vJ ((a2 : Int32).toInt64)]) (ci := 12) (q := (RX12, TX12, 20)) E gw12_159 (by decide +kernel) rfl rfl (by decide) (kX12_laysFaces l er3).2 (kX12_laysFaces l er3).1 rfl rfl dX12_face_18 ⟨Nat.le_of_ble_eq_true rfl, Nat.le_of_ble_eq_true rfl⟩ ⟨(Nat.le_of_ble_eq_true rfl), (Nat.le_of_ble_eq_true rfl)⟩ (Nat.le_of_ble_eq_true rfl) ?_
    refine v_iconst (v := 1) E dX12_face_21 (by decide) ?_
    refine v_isub E dX12_face_22 ?_
    refine v_i2l E dX12_face_23 ?_
    replace h := bnd_e h
    obtain ⟨r4, er4, h⟩ := h
    refine v_callS (na := 3) (As := [vJ ((a2 : Int32).toInt64), vJ 0, vJ (((r3.1 - 1) : Int32).toInt64)]) (rest := []) E gw12_55 (by decide +kernel) (kX12_in l er4) rfl rfl dX12_face_24 ⟨Nat.le_of_ble_eq_true rfl, Nat.le_of_ble_eq_true rfl⟩ ⟨(Nat.le_of_ble_eq_true rfl), (Nat.le_of_ble_eq_true rfl)⟩ (Nat.le_of_ble_eq_true rfl) ?_
    refine v_if_ne (tgt := 33) E dX12_face_27 (by decide) (fun c20 => ?_) (fun c20 => ?_)
    · rw [if_neg c20] at h
      refine v_iload_n E dX12_face_33 rfl ?_
      refine v_i2l E dX12_face_34 ?_
      refine v_lconst (v := 0) E dX12_face_35 (by decide) ?_
      refine v_ldc2 (v := 3) E dX12_face_36 q1356 ?_
      replace h := bnd_e h
      obtain ⟨r5, er5, h⟩ := h
      refine v_callS (na := 3) (As := [vJ ((a3 : Int32).toInt64), vJ 0, vJ 3]) (rest := []) E gw12_55 (by decide +kernel) (kX12_in l er5) rfl rfl dX12_face_39 ⟨Nat.le_of_ble_eq_true rfl, Nat.le_of_ble_eq_true rfl⟩ ⟨(Nat.le_of_ble_eq_true rfl), (Nat.le_of_ble_eq_true rfl)⟩ (Nat.le_of_ble_eq_true rfl) ?_
      refine v_if_ne (tgt := 48) E dX12_face_42 (by decide) (fun c19 => ?_) (fun c19 => ?_)
      · rw [if_neg c19] at h
        refine v_iload_n E dX12_face_48 rfl ?_
        refine v_if_ne (tgt := 59) E dX12_face_49 (by decide) (fun c18 => ?_) (fun c18 => ?_)
        · rw [if_neg c18] at h
          refine v_aload_n E dX12_face_59 rfl ?_
          refine v_iload_n E dX12_face_60 rfl ?_
          refine v_aload_n E dX12_face_61 rfl ?_
          refine v_iload_n E dX12_face_62 rfl ?_
          replace h := bnd_e h
          obtain ⟨r6, er6, h⟩ := h
          refine v_callV (na := 1) (As := [vI a1]) (rest := [vI a1, vR (some o1)]) (ci := 12) (q := (RX12, TX12, 20)) E gw12_168 (by decide +kernel) rfl rfl (by decide) (kX12_signsOf l er6).2 (kX12_signsOf l er6).1 rfl rfl dX12_face_63 ⟨Nat.le_of_ble_eq_true rfl, Nat.le_of_ble_eq_true rfl⟩ ⟨(Nat.le_of_ble_eq_true rfl), (Nat.le_of_ble_eq_true rfl)⟩ (Nat.le_of_ble_eq_true rfl) ?_
          replace h := bnd_e h
          obtain ⟨r7, er7, h⟩ := h
          refine v_callV (na := 2) (As := [vI a1, vI r6]) (rest := []) (ci := 12) (q := (RX12, TX12, 20)) E gw12_162 (by decide +kernel) rfl rfl (by decide) (kX12_isPlane l er7).2 (kX12_isPlane l er7).1 rfl rfl dX12_face_66 ⟨Nat.le_of_ble_eq_true rfl, Nat.le_of_ble_eq_true rfl⟩ ⟨(Nat.le_of_ble_eq_true rfl), (Nat.le_of_ble_eq_true rfl)⟩ (Nat.le_of_ble_eq_true rfl) ?_
          refine v_if_ne (tgt := 74) E dX12_face_69 (by decide) (fun c16 => ?_) (fun c16 => ?_)
          · rw [if_neg c16] at h
            refine v_aload_n E dX12_face_74 rfl ?_
            refine v_iload_n E dX12_face_75 rfl ?_
            replace h := bnd_e h
            obtain ⟨r8, er8, h⟩ := h
            refine v_callV (na := 1) (As := [vI a1]) (rest := []) (ci := 12) (q := (RX12, TX12, 20)) E gw12_184 (by decide +kernel) rfl rfl (by decide) (kX12_laysIndices l er8).2 (kX12_laysIndices l er8).1 rfl rfl dX12_face_76 ⟨Nat.le_of_ble_eq_true rfl, Nat.le_of_ble_eq_true rfl⟩ ⟨(Nat.le_of_ble_eq_true rfl), (Nat.le_of_ble_eq_true rfl)⟩ (Nat.le_of_ble_eq_true rfl) ?_
            refine v_iload_n E dX12_face_79 rfl ?_
            refine v_iconst (v := 1) E dX12_face_80 (by decide) ?_
            refine v_icmp_ne (tgt := 101) E dX12_face_81 (by decide) (fun c15 => ?_) (fun c15 => ?_)
            · rw [if_neg c15] at h
              refine v_iload_n E dX12_face_101 rfl ?_
              refine v_iconst (v := 2) E dX12_face_102 (by decide) ?_
              refine v_icmp_ne (tgt := 118) E dX12_face_103 (by decide) (fun c12 => ?_) (fun c12 => ?_)
              · rw [if_neg c12] at h
                refine v_aload_n E dX12_face_118 rfl ?_
                refine v_iload_n E dX12_face_119 rfl ?_
                refine v_iload_n E dX12_face_120 rfl ?_
                replace h := bnd_e h
                obtain ⟨r9, er9, h⟩ := h
                refine v_callV (na := 2) (As := [vI a1, vI a2]) (rest := []) (ci := 12) (q := (RX12, TX12, 20)) E gw12_281 (by decide +kernel) rfl rfl (by decide) (kX12_turns l er9).2 (kX12_turns l er9).1 rfl rfl dX12_face_121 ⟨Nat.le_of_ble_eq_true rfl, Nat.le_of_ble_eq_true rfl⟩ ⟨(Nat.le_of_ble_eq_true rfl), (Nat.le_of_ble_eq_true rfl)⟩ (Nat.le_of_ble_eq_true rfl) ?_
                refine v_bipush (v := 100) E dX12_face_124 (by decide) ?_
                refine v_iadd E dX12_face_126 ?_
                replace h := Option.some.inj h
                subst h
                refine v_widen (k' := 0) (n' := 0) (Nat.le_of_ble_eq_true rfl) (Nat.le_of_ble_eq_true rfl) ?_
                exact v_iret E dX12_face_127
              · rw [if_pos c12] at h
                refine v_aload_n E dX12_face_106 rfl ?_
                replace h := bnd_e h
                obtain ⟨v10, ev10, h⟩ := h
                refine g12_39 E ev10 dX12_face_107 ?_
                refine v_iload_n E dX12_face_110 rfl ?_
                replace h := bnd_e h
                obtain ⟨v11, ev11, h⟩ := h
                refine v_iaload E ev11 dX12_face_111 ?_
                refine v_bipush (v := 100) E dX12_face_112 (by decide) ?_
                refine v_iadd E dX12_face_114 ?_
                refine v_goto (tgt := 127) E dX12_face_115 (by decide) ?_
                replace h := Option.some.inj h
                subst h
                refine v_widen (k' := 0) (n' := 0) (Nat.le_of_ble_eq_true rfl) (Nat.le_of_ble_eq_true rfl) ?_
                exact v_iret E dX12_face_127
            · rw [if_pos c15] at h
              refine v_aload_n E dX12_face_84 rfl ?_
              refine v_iload_n E dX12_face_85 rfl ?_
              refine v_iload_n E dX12_face_86 rfl ?_
              replace h := bnd_e h
              obtain ⟨r13, er13, h⟩ := h
              refine v_callV (na := 2) (As := [vI a1, vI a2]) (rest := []) (ci := 12) (q := (RX12, TX12, 20)) E gw12_181 (by decide +kernel) rfl rfl (by decide) (kX12_isDark l er13).2 (kX12_isDark l er13).1 rfl rfl dX12_face_87 ⟨Nat.le_of_ble_eq_true rfl, Nat.le_of_ble_eq_true rfl⟩ ⟨(Nat.le_of_ble_eq_true rfl), (Nat.le_of_ble_eq_true rfl)⟩ (Nat.le_of_ble_eq_true rfl) ?_
              refine v_if_eq (tgt := 97) E dX12_face_90 (by decide) (fun c14 => ?_) (fun c14 => ?_)
              · rw [if_pos c14] at h
                refine v_iconst (v := 0) E dX12_face_97 (by decide) ?_
                refine v_goto (tgt := 127) E dX12_face_98 (by decide) ?_
                replace h := Option.some.inj h
                subst h
                refine v_widen (k' := 0) (n' := 0) (Nat.le_of_ble_eq_true rfl) (Nat.le_of_ble_eq_true rfl) ?_
                exact v_iret E dX12_face_127
              · rw [if_neg c14] at h
                refine v_iconst (v := 1) E dX12_face_93 (by decide) ?_
                refine v_goto (tgt := 127) E dX12_face_94 (by decide) ?_
                replace h := Option.some.inj h
                subst h
                refine v_widen (k' := 0) (n' := 0) (Nat.le_of_ble_eq_true rfl) (Nat.le_of_ble_eq_true rfl) ?_
                exact v_iret E dX12_face_127
          · rw [if_pos c16] at h
            refine v_iconst (v := (-1)) E dX12_face_72 (by decide) ?_
            replace h := Option.some.inj h
            subst h
            refine v_widen (k' := 0) (n' := 0) (Nat.le_of_ble_eq_true rfl) (Nat.le_of_ble_eq_true rfl) ?_
            exact v_iret E dX12_face_73
        · rw [if_pos c18] at h
          refine v_aload_n E dX12_face_52 rfl ?_
          refine v_iload_n E dX12_face_53 rfl ?_
          refine v_iload_n E dX12_face_54 rfl ?_
          replace h := bnd_e h
          obtain ⟨r17, er17, h⟩ := h
          refine v_callV (na := 2) (As := [vI a1, vI a2]) (rest := []) (ci := 12) (q := (RX12, TX12, 20)) E gw12_171 (by decide +kernel) rfl rfl (by decide) (kX12_sizeOfFace l er17).2 (kX12_sizeOfFace l er17).1 rfl rfl dX12_face_55 ⟨Nat.le_of_ble_eq_true rfl, Nat.le_of_ble_eq_true rfl⟩ ⟨(Nat.le_of_ble_eq_true rfl), (Nat.le_of_ble_eq_true rfl)⟩ (Nat.le_of_ble_eq_true rfl) ?_
          replace h := Option.some.inj h
          subst h
          refine v_widen (k' := 0) (n' := 0) (Nat.le_of_ble_eq_true rfl) (Nat.le_of_ble_eq_true rfl) ?_
          exact v_iret E dX12_face_58
      · rw [if_pos c19] at h
        refine v_ldc (v := (-1000000002)) E dX12_face_45 q1092 ?_
        replace h := Option.some.inj h
        subst h
        refine v_widen (k' := 0) (n' := 0) (Nat.le_of_ble_eq_true rfl) (Nat.le_of_ble_eq_true rfl) ?_
        exact v_iret E dX12_face_47
    · rw [if_pos c20] at h
      refine v_ldc (v := (-1000000001)) E dX12_face_30 q1208 ?_
      replace h := Option.some.inj h
      subst h
      refine v_widen (k' := 0) (n' := 0) (Nat.le_of_ble_eq_true rfl) (Nat.le_of_ble_eq_true rfl) ?_
      exact v_iret E dX12_face_32
noncomputable def fX12_isSet (A0 : AH) (o0 : Option Nat) (a1 : Int32) (a2 : Int32) : Option (Int32) :=
  (rcv A0 13 o0).bind fun o0 =>
  (fX12_isWord A0 ((some o0)) a1).bind fun r1 =>
  if r1 = 0 then
    some 0
  else
    (fX12_size A0 ((some o0)) a1).bind fun r2 =>
    (fX12_in A0 (((a2 : Int32).toInt64)) 0 ((((((1 : Int32) <<< ((r2 : Int32) &&& 31)) - 1) : Int32).toInt64))).bind fun r3 =>
    if r3 = 0 then
      some 0
    else
      some 1
set_option maxRecDepth 100000 in
set_option maxHeartbeats 4000000 in
theorem kX12_isSet (l : Launch) {A0 : AH} {o0 : Option Nat} {a1 : Int32} {a2 : Int32} {r : Int32} (h : fX12_isSet A0 o0 a1 a2 = some r) : (∃ a, o0 = some a ∧ Hk A0 a = 13) ∧ Cn l yX12_isSet cX12_isSet 3 (some .boolean) 2 46 0 0 [vR o0, vI a1, vI a2] A0 (some (vI r)) A0 := by
  unfold fX12_isSet at h
  replace h := bnd_e h
  obtain ⟨o1, e1, h⟩ := h
  obtain ⟨rfl, hk0⟩ := rcv_e e1
  refine ⟨⟨o1, rfl, hk0⟩, ?_⟩
  refine Cn.of (pad := 0) (lv0 := [some (vR (some o1)), some (vI a1), some (vI a2)]) (by decide +kernel) (Nat.le_of_ble_eq_true rfl) rfl ?_
  intro p e s m below meth c base D cy E
  generalize (List.map toV [vR (some o1), vI a1, vI a2]).toArray = ar at E ⊢
  have E : EN p s m ar meth c D cy RX12 cX12_isSet 3 (some .boolean) "isSet" := E
  refine v_aload_n E dX12_isSet_0 rfl ?_
  refine v_iload_n E dX12_isSet_1 rfl ?_
  replace h := bnd_e h
  obtain ⟨r1, er1, h⟩ := h
  refine v_callV (na := 1) (As := [vI a1]) (rest := []) (ci := 12) (q := (RX12, TX12, 20)) E gw12_223 (by decide +kernel) rfl rfl (by decide) (kX12_isWord l er1).2 (kX12_isWord l er1).1 rfl rfl dX12_isSet_2 ⟨Nat.le_of_ble_eq_true rfl, Nat.le_of_ble_eq_true rfl⟩ ⟨(Nat.le_of_ble_eq_true rfl), (Nat.le_of_ble_eq_true rfl)⟩ (Nat.le_of_ble_eq_true rfl) ?_
  refine v_if_eq (tgt := 31) E dX12_isSet_5 (by decide) (fun c5 => ?_) (fun c5 => ?_)
  · rw [if_pos c5] at h
    refine v_iconst (v := 0) E dX12_isSet_31 (by decide) ?_
    replace h := Option.some.inj h
    subst h
    refine v_widen (k' := 0) (n' := 0) (Nat.le_of_ble_eq_true rfl) (Nat.le_of_ble_eq_true rfl) ?_
    exact v_zret E (Or.inl rfl) dX12_isSet_32
  · rw [if_neg c5] at h
    refine v_iload_n E dX12_isSet_8 rfl ?_
    refine v_i2l E dX12_isSet_9 ?_
    refine v_lconst (v := 0) E dX12_isSet_10 (by decide) ?_
    refine v_iconst (v := 1) E dX12_isSet_11 (by decide) ?_
    refine v_aload_n E dX12_isSet_12 rfl ?_
    refine v_iload_n E dX12_isSet_13 rfl ?_
    replace h := bnd_e h
    obtain ⟨r2, er2, h⟩ := h
    refine v_callV (na := 1) (As := [vI a1]) (rest := [vI 1, vJ 0, vJ ((a2 : Int32).toInt64)]) (ci := 12) (q := (RX12, TX12, 20)) E gw12_59 (by decide +kernel) rfl rfl (by decide) (kX12_size l er2).2 (kX12_size l er2).1 rfl rfl dX12_isSet_14 ⟨Nat.le_of_ble_eq_true rfl, Nat.le_of_ble_eq_true rfl⟩ ⟨(Nat.le_of_ble_eq_true rfl), (Nat.le_of_ble_eq_true rfl)⟩ (Nat.le_of_ble_eq_true rfl) ?_
    refine v_ishl E dX12_isSet_17 ?_
    refine v_iconst (v := 1) E dX12_isSet_18 (by decide) ?_
    refine v_isub E dX12_isSet_19 ?_
    refine v_i2l E dX12_isSet_20 ?_
    replace h := bnd_e h
    obtain ⟨r3, er3, h⟩ := h
    refine v_callS (na := 3) (As := [vJ ((a2 : Int32).toInt64), vJ 0, vJ (((((1 : Int32) <<< ((r2 : Int32) &&& 31)) - 1) : Int32).toInt64)]) (rest := []) E gw12_55 (by decide +kernel) (kX12_in l er3) rfl rfl dX12_isSet_21 ⟨Nat.le_of_ble_eq_true rfl, Nat.le_of_ble_eq_true rfl⟩ ⟨(Nat.le_of_ble_eq_true rfl), (Nat.le_of_ble_eq_true rfl)⟩ (Nat.le_of_ble_eq_true rfl) ?_
    refine v_if_eq (tgt := 31) E dX12_isSet_24 (by decide) (fun c4 => ?_) (fun c4 => ?_)
    · rw [if_pos c4] at h
      refine v_iconst (v := 0) E dX12_isSet_31 (by decide) ?_
      replace h := Option.some.inj h
      subst h
      refine v_widen (k' := 0) (n' := 0) (Nat.le_of_ble_eq_true rfl) (Nat.le_of_ble_eq_true rfl) ?_
      exact v_zret E (Or.inl rfl) dX12_isSet_32
    · rw [if_neg c4] at h
      refine v_iconst (v := 1) E dX12_isSet_27 (by decide) ?_
      refine v_goto (tgt := 32) E dX12_isSet_28 (by decide) ?_
      replace h := Option.some.inj h
      subst h
      refine v_widen (k' := 0) (n' := 0) (Nat.le_of_ble_eq_true rfl) (Nat.le_of_ble_eq_true rfl) ?_
      exact v_zret E (Or.inr rfl) dX12_isSet_32
noncomputable def fX12_rings (A0 : AH) (o0 : Option Nat) (a1 : Int32) (a2 : Int32) : Option (Int32 × AH) :=
  (rcv A0 13 o0).bind fun o0 =>
  (fX12_isSet A0 ((some o0)) a1 a2).bind fun r1 =>
  if r1 = 0 then
    some (((-1000000001), A0))
  else
    (fX12_ringsOf A0 ((some o0)) a1 a2).bind fun r2 =>
    some ((r2.1, r2.2))
set_option maxRecDepth 100000 in
set_option maxHeartbeats 4000000 in
theorem kX12_rings (l : Launch) {A0 : AH} {o0 : Option Nat} {a1 : Int32} {a2 : Int32} {r : Int32 × AH} (h : fX12_rings A0 o0 a1 a2 = some r) : (∃ a, o0 = some a ∧ Hk A0 a = 13) ∧ Cn l yX12_rings cX12_rings 3 (some .int) 3 76 0 0 [vR o0, vI a1, vI a2] A0 (some (vI r.1)) r.2 := by
  unfold fX12_rings at h
  replace h := bnd_e h
  obtain ⟨o1, e1, h⟩ := h
  obtain ⟨rfl, hk0⟩ := rcv_e e1
  refine ⟨⟨o1, rfl, hk0⟩, ?_⟩
  refine Cn.of (pad := 0) (lv0 := [some (vR (some o1)), some (vI a1), some (vI a2)]) (by decide +kernel) (Nat.le_of_ble_eq_true rfl) rfl ?_
  intro p e s m below meth c base D cy E
  generalize (List.map toV [vR (some o1), vI a1, vI a2]).toArray = ar at E ⊢
  have E : EN p s m ar meth c D cy RX12 cX12_rings 3 (some .int) "rings" := E
  refine v_aload_n E dX12_rings_0 rfl ?_
  refine v_iload_n E dX12_rings_1 rfl ?_
  refine v_iload_n E dX12_rings_2 rfl ?_
  replace h := bnd_e h
  obtain ⟨r1, er1, h⟩ := h
  refine v_callV (na := 2) (As := [vI a1, vI a2]) (rest := []) (ci := 12) (q := (RX12, TX12, 20)) E gw12_284 (by decide +kernel) rfl rfl (by decide) (kX12_isSet l er1).2 (kX12_isSet l er1).1 rfl rfl dX12_rings_3 ⟨Nat.le_of_ble_eq_true rfl, Nat.le_of_ble_eq_true rfl⟩ ⟨(Nat.le_of_ble_eq_true rfl), (Nat.le_of_ble_eq_true rfl)⟩ (Nat.le_of_ble_eq_true rfl) ?_
  refine v_if_eq (tgt := 18) E dX12_rings_6 (by decide) (fun c3 => ?_) (fun c3 => ?_)
  · rw [if_pos c3] at h
    refine v_ldc (v := (-1000000001)) E dX12_rings_18 q1208 ?_
    replace h := Option.some.inj h
    subst h
    refine v_widen (k' := 0) (n' := 0) (Nat.le_of_ble_eq_true rfl) (Nat.le_of_ble_eq_true rfl) ?_
    exact v_iret E dX12_rings_20
  · rw [if_neg c3] at h
    refine v_aload_n E dX12_rings_9 rfl ?_
    refine v_iload_n E dX12_rings_10 rfl ?_
    refine v_iload_n E dX12_rings_11 rfl ?_
    replace h := bnd_e h
    obtain ⟨r2, er2, h⟩ := h
    refine v_callV (na := 2) (As := [vI a1, vI a2]) (rest := []) (ci := 12) (q := (RX12, TX12, 20)) E gw12_191 (by decide +kernel) rfl rfl (by decide) (kX12_ringsOf l er2).2 (kX12_ringsOf l er2).1 rfl rfl dX12_rings_12 ⟨Nat.le_of_ble_eq_true rfl, Nat.le_of_ble_eq_true rfl⟩ ⟨(Nat.le_of_ble_eq_true rfl), (Nat.le_of_ble_eq_true rfl)⟩ (Nat.le_of_ble_eq_true rfl) ?_
    refine v_goto (tgt := 20) E dX12_rings_15 (by decide) ?_
    replace h := Option.some.inj h
    subst h
    refine v_widen (k' := 0) (n' := 0) (Nat.le_of_ble_eq_true rfl) (Nat.le_of_ble_eq_true rfl) ?_
    exact v_iret E dX12_rings_20
noncomputable def fX12_states (A0 : AH) (o0 : Option Nat) (a1 : Int32) (a2 : Int32) : Option (Int32 × AH) :=
  (rcv A0 13 o0).bind fun o0 =>
  (fX12_isWord A0 ((some o0)) a1).bind fun r1 =>
  if r1 = 0 then
    some (((-1000000001), A0))
  else
    (fX12_in A0 (((a2 : Int32).toInt64)) 1 9).bind fun r2 =>
    if r2 = 0 then
      some (((-1000000002), A0))
    else
      (fX12_statesOf A0 ((some o0)) a1 a2).bind fun r3 =>
      some ((r3.1, r3.2))
set_option maxRecDepth 100000 in
set_option maxHeartbeats 4000000 in
theorem kX12_states (l : Launch) {A0 : AH} {o0 : Option Nat} {a1 : Int32} {a2 : Int32} {r : Int32 × AH} (h : fX12_states A0 o0 a1 a2 = some r) : (∃ a, o0 = some a ∧ Hk A0 a = 13) ∧ Cn l yX12_states cX12_states 3 (some .int) 4 100 0 0 [vR o0, vI a1, vI a2] A0 (some (vI r.1)) r.2 := by
  unfold fX12_states at h
  replace h := bnd_e h
  obtain ⟨o1, e1, h⟩ := h
  obtain ⟨rfl, hk0⟩ := rcv_e e1
  refine ⟨⟨o1, rfl, hk0⟩, ?_⟩
  refine Cn.of (pad := 0) (lv0 := [some (vR (some o1)), some (vI a1), some (vI a2)]) (by decide +kernel) (Nat.le_of_ble_eq_true rfl) rfl ?_
  intro p e s m below meth c base D cy E
  generalize (List.map toV [vR (some o1), vI a1, vI a2]).toArray = ar at E ⊢
  have E : EN p s m ar meth c D cy RX12 cX12_states 3 (some .int) "states" := E
  refine v_aload_n E dX12_states_0 rfl ?_
  refine v_iload_n E dX12_states_1 rfl ?_
  replace h := bnd_e h
  obtain ⟨r1, er1, h⟩ := h
  refine v_callV (na := 1) (As := [vI a1]) (rest := []) (ci := 12) (q := (RX12, TX12, 20)) E gw12_223 (by decide +kernel) rfl rfl (by decide) (kX12_isWord l er1).2 (kX12_isWord l er1).1 rfl rfl dX12_states_2 ⟨Nat.le_of_ble_eq_true rfl, Nat.le_of_ble_eq_true rfl⟩ ⟨(Nat.le_of_ble_eq_true rfl), (Nat.le_of_ble_eq_true rfl)⟩ (Nat.le_of_ble_eq_true rfl) ?_
  refine v_if_ne (tgt := 13) E dX12_states_5 (by decide) (fun c5 => ?_) (fun c5 => ?_)
  · rw [if_neg c5] at h
    refine v_iload_n E dX12_states_13 rfl ?_
    refine v_i2l E dX12_states_14 ?_
    refine v_lconst (v := 1) E dX12_states_15 (by decide) ?_
    refine v_ldc2 (v := 9) E dX12_states_16 q1373 ?_
    replace h := bnd_e h
    obtain ⟨r2, er2, h⟩ := h
    refine v_callS (na := 3) (As := [vJ ((a2 : Int32).toInt64), vJ 1, vJ 9]) (rest := []) E gw12_55 (by decide +kernel) (kX12_in l er2) rfl rfl dX12_states_19 ⟨Nat.le_of_ble_eq_true rfl, Nat.le_of_ble_eq_true rfl⟩ ⟨(Nat.le_of_ble_eq_true rfl), (Nat.le_of_ble_eq_true rfl)⟩ (Nat.le_of_ble_eq_true rfl) ?_
    refine v_if_eq (tgt := 34) E dX12_states_22 (by decide) (fun c4 => ?_) (fun c4 => ?_)
    · rw [if_pos c4] at h
      refine v_ldc (v := (-1000000002)) E dX12_states_34 q1092 ?_
      replace h := Option.some.inj h
      subst h
      refine v_widen (k' := 0) (n' := 0) (Nat.le_of_ble_eq_true rfl) (Nat.le_of_ble_eq_true rfl) ?_
      exact v_iret E dX12_states_36
    · rw [if_neg c4] at h
      refine v_aload_n E dX12_states_25 rfl ?_
      refine v_iload_n E dX12_states_26 rfl ?_
      refine v_iload_n E dX12_states_27 rfl ?_
      replace h := bnd_e h
      obtain ⟨r3, er3, h⟩ := h
      refine v_callV (na := 2) (As := [vI a1, vI a2]) (rest := []) (ci := 12) (q := (RX12, TX12, 20)) E gw12_227 (by decide +kernel) rfl rfl (by decide) (kX12_statesOf l er3).2 (kX12_statesOf l er3).1 rfl rfl dX12_states_28 ⟨Nat.le_of_ble_eq_true rfl, Nat.le_of_ble_eq_true rfl⟩ ⟨(Nat.le_of_ble_eq_true rfl), (Nat.le_of_ble_eq_true rfl)⟩ (Nat.le_of_ble_eq_true rfl) ?_
      refine v_goto (tgt := 36) E dX12_states_31 (by decide) ?_
      replace h := Option.some.inj h
      subst h
      refine v_widen (k' := 0) (n' := 0) (Nat.le_of_ble_eq_true rfl) (Nat.le_of_ble_eq_true rfl) ?_
      exact v_iret E dX12_states_36
  · rw [if_pos c5] at h
    refine v_ldc (v := (-1000000001)) E dX12_states_8 q1208 ?_
    refine v_goto (tgt := 36) E dX12_states_10 (by decide) ?_
    replace h := Option.some.inj h
    subst h
    refine v_widen (k' := 0) (n' := 0) (Nat.le_of_ble_eq_true rfl) (Nat.le_of_ble_eq_true rfl) ?_
    exact v_iret E dX12_states_36
noncomputable def fX12_same (A0 : AH) (o0 : Option Nat) (a1 : Int32) (a2 : Int32) : Option (Int32 × AH) :=
  (rcv A0 13 o0).bind fun o0 =>
  (fX12_isWord A0 ((some o0)) a1).bind fun r1 =>
  if r1 = 0 then
    some (((-1000000001), A0))
  else
    (fX12_isWord A0 ((some o0)) a2).bind fun r2 =>
    if r2 = 0 then
      some (((-1000000001), A0))
    else
      (fX12_isSame A0 ((some o0)) a1 a2).bind fun r3 =>
      if r3.1 = 0 then
        some ((0, r3.2))
      else
        some ((1, r3.2))
set_option maxRecDepth 100000 in
set_option maxHeartbeats 4000000 in
theorem kX12_same (l : Launch) {A0 : AH} {o0 : Option Nat} {a1 : Int32} {a2 : Int32} {r : Int32 × AH} (h : fX12_same A0 o0 a1 a2 = some r) : (∃ a, o0 = some a ∧ Hk A0 a = 13) ∧ Cn l yX12_same cX12_same 3 (some .int) 4 98 0 0 [vR o0, vI a1, vI a2] A0 (some (vI r.1)) r.2 := by
  unfold fX12_same at h
  replace h := bnd_e h
  obtain ⟨o1, e1, h⟩ := h
  obtain ⟨rfl, hk0⟩ := rcv_e e1
  refine ⟨⟨o1, rfl, hk0⟩, ?_⟩
  refine Cn.of (pad := 0) (lv0 := [some (vR (some o1)), some (vI a1), some (vI a2)]) (by decide +kernel) (Nat.le_of_ble_eq_true rfl) rfl ?_
  intro p e s m below meth c base D cy E
  generalize (List.map toV [vR (some o1), vI a1, vI a2]).toArray = ar at E ⊢
  have E : EN p s m ar meth c D cy RX12 cX12_same 3 (some .int) "same" := E
  refine v_aload_n E dX12_same_0 rfl ?_
  refine v_iload_n E dX12_same_1 rfl ?_
  replace h := bnd_e h
  obtain ⟨r1, er1, h⟩ := h
  refine v_callV (na := 1) (As := [vI a1]) (rest := []) (ci := 12) (q := (RX12, TX12, 20)) E gw12_223 (by decide +kernel) rfl rfl (by decide) (kX12_isWord l er1).2 (kX12_isWord l er1).1 rfl rfl dX12_same_2 ⟨Nat.le_of_ble_eq_true rfl, Nat.le_of_ble_eq_true rfl⟩ ⟨(Nat.le_of_ble_eq_true rfl), (Nat.le_of_ble_eq_true rfl)⟩ (Nat.le_of_ble_eq_true rfl) ?_
  refine v_if_eq (tgt := 16) E dX12_same_5 (by decide) (fun c6 => ?_) (fun c6 => ?_)
  · rw [if_pos c6] at h
    refine v_ldc (v := (-1000000001)) E dX12_same_16 q1208 ?_
    refine v_goto (tgt := 35) E dX12_same_18 (by decide) ?_
    replace h := Option.some.inj h
    subst h
    refine v_widen (k' := 0) (n' := 0) (Nat.le_of_ble_eq_true rfl) (Nat.le_of_ble_eq_true rfl) ?_
    exact v_iret E dX12_same_35
  · rw [if_neg c6] at h
    refine v_aload_n E dX12_same_8 rfl ?_
    refine v_iload_n E dX12_same_9 rfl ?_
    replace h := bnd_e h
    obtain ⟨r2, er2, h⟩ := h
    refine v_callV (na := 1) (As := [vI a2]) (rest := []) (ci := 12) (q := (RX12, TX12, 20)) E gw12_223 (by decide +kernel) rfl rfl (by decide) (kX12_isWord l er2).2 (kX12_isWord l er2).1 rfl rfl dX12_same_10 ⟨Nat.le_of_ble_eq_true rfl, Nat.le_of_ble_eq_true rfl⟩ ⟨(Nat.le_of_ble_eq_true rfl), (Nat.le_of_ble_eq_true rfl)⟩ (Nat.le_of_ble_eq_true rfl) ?_
    refine v_if_ne (tgt := 21) E dX12_same_13 (by decide) (fun c5 => ?_) (fun c5 => ?_)
    · rw [if_neg c5] at h
      refine v_aload_n E dX12_same_21 rfl ?_
      refine v_iload_n E dX12_same_22 rfl ?_
      refine v_iload_n E dX12_same_23 rfl ?_
      replace h := bnd_e h
      obtain ⟨r3, er3, h⟩ := h
      refine v_callV (na := 2) (As := [vI a1, vI a2]) (rest := []) (ci := 12) (q := (RX12, TX12, 20)) E gw12_211 (by decide +kernel) rfl rfl (by decide) (kX12_isSame l er3).2 (kX12_isSame l er3).1 rfl rfl dX12_same_24 ⟨Nat.le_of_ble_eq_true rfl, Nat.le_of_ble_eq_true rfl⟩ ⟨(Nat.le_of_ble_eq_true rfl), (Nat.le_of_ble_eq_true rfl)⟩ (Nat.le_of_ble_eq_true rfl) ?_
      refine v_if_eq (tgt := 34) E dX12_same_27 (by decide) (fun c4 => ?_) (fun c4 => ?_)
      · rw [if_pos c4] at h
        refine v_iconst (v := 0) E dX12_same_34 (by decide) ?_
        replace h := Option.some.inj h
        subst h
        refine v_widen (k' := 0) (n' := 0) (Nat.le_of_ble_eq_true rfl) (Nat.le_of_ble_eq_true rfl) ?_
        exact v_iret E dX12_same_35
      · rw [if_neg c4] at h
        refine v_iconst (v := 1) E dX12_same_30 (by decide) ?_
        refine v_goto (tgt := 35) E dX12_same_31 (by decide) ?_
        replace h := Option.some.inj h
        subst h
        refine v_widen (k' := 0) (n' := 0) (Nat.le_of_ble_eq_true rfl) (Nat.le_of_ble_eq_true rfl) ?_
        exact v_iret E dX12_same_35
    · rw [if_pos c5] at h
      refine v_ldc (v := (-1000000001)) E dX12_same_16 q1208 ?_
      refine v_goto (tgt := 35) E dX12_same_18 (by decide) ?_
      replace h := Option.some.inj h
      subst h
      refine v_widen (k' := 0) (n' := 0) (Nat.le_of_ble_eq_true rfl) (Nat.le_of_ble_eq_true rfl) ?_
      exact v_iret E dX12_same_35
noncomputable def fX12_signs (A0 : AH) (o0 : Option Nat) (a1 : Int32) (a2 : Int32) : Option (Int32 × AH) :=
  (rcv A0 13 o0).bind fun o0 =>
  (fX12_isSet A0 ((some o0)) a1 a2).bind fun r1 =>
  if r1 = 0 then
    some (((-1000000001), A0))
  else
    (fX12_minds A0 ((some o0))).bind fun r2 =>
    (gR r2 13 384 ((some o0))).bind fun v3 =>
    (sI r2 14 v3 (((1 + (18 * a1)) + 1)) a2).bind fun A4 =>
    (fX12_laysFaces A4 ((some o0)) a1 a2).bind fun r5 =>
    some ((r5.1, r5.2))
set_option maxRecDepth 100000 in
set_option maxHeartbeats 4000000 in
theorem kX12_signs (l : Launch) {A0 : AH} {o0 : Option Nat} {a1 : Int32} {a2 : Int32} {r : Int32 × AH} (h : fX12_signs A0 o0 a1 a2 = some r) : (∃ a, o0 = some a ∧ Hk A0 a = 13) ∧ Cn l yX12_signs cX12_signs 3 (some .int) 5 117 0 0 [vR o0, vI a1, vI a2] A0 (some (vI r.1)) r.2 := by
  unfold fX12_signs at h
  replace h := bnd_e h
  obtain ⟨o1, e1, h⟩ := h
  obtain ⟨rfl, hk0⟩ := rcv_e e1
  refine ⟨⟨o1, rfl, hk0⟩, ?_⟩
  refine Cn.of (pad := 0) (lv0 := [some (vR (some o1)), some (vI a1), some (vI a2)]) (by decide +kernel) (Nat.le_of_ble_eq_true rfl) rfl ?_
  intro p e s m below meth c base D cy E
  generalize (List.map toV [vR (some o1), vI a1, vI a2]).toArray = ar at E ⊢
  have E : EN p s m ar meth c D cy RX12 cX12_signs 3 (some .int) "signs" := E
  refine v_aload_n E dX12_signs_0 rfl ?_
  refine v_iload_n E dX12_signs_1 rfl ?_
  refine v_iload_n E dX12_signs_2 rfl ?_
  replace h := bnd_e h
  obtain ⟨r1, er1, h⟩ := h
  refine v_callV (na := 2) (As := [vI a1, vI a2]) (rest := []) (ci := 12) (q := (RX12, TX12, 20)) E gw12_284 (by decide +kernel) rfl rfl (by decide) (kX12_isSet l er1).2 (kX12_isSet l er1).1 rfl rfl dX12_signs_3 ⟨Nat.le_of_ble_eq_true rfl, Nat.le_of_ble_eq_true rfl⟩ ⟨(Nat.le_of_ble_eq_true rfl), (Nat.le_of_ble_eq_true rfl)⟩ (Nat.le_of_ble_eq_true rfl) ?_
  refine v_if_ne (tgt := 12) E dX12_signs_6 (by decide) (fun c6 => ?_) (fun c6 => ?_)
  · rw [if_neg c6] at h
    refine v_aload_n E dX12_signs_12 rfl ?_
    replace h := bnd_e h
    obtain ⟨r2, er2, h⟩ := h
    refine v_callV (na := 0) (As := []) (rest := []) (ci := 12) (q := (RX12, TX12, 20)) E gw12_93 (by decide +kernel) rfl rfl (by decide) (kX12_minds l er2).2 (kX12_minds l er2).1 rfl rfl dX12_signs_13 ⟨Nat.le_of_ble_eq_true rfl, Nat.le_of_ble_eq_true rfl⟩ ⟨(Nat.le_of_ble_eq_true rfl), (Nat.le_of_ble_eq_true rfl)⟩ (Nat.le_of_ble_eq_true rfl) ?_
    refine v_aload_n E dX12_signs_16 rfl ?_
    replace h := bnd_e h
    obtain ⟨v3, ev3, h⟩ := h
    refine g12_7 E ev3 dX12_signs_17 ?_
    refine v_iconst (v := 1) E dX12_signs_20 (by decide) ?_
    refine v_bipush (v := 18) E dX12_signs_21 (by decide) ?_
    refine v_iload_n E dX12_signs_23 rfl ?_
    refine v_imul E dX12_signs_24 ?_
    refine v_iadd E dX12_signs_25 ?_
    refine v_iconst (v := 1) E dX12_signs_26 (by decide) ?_
    refine v_iadd E dX12_signs_27 ?_
    refine v_iload_n E dX12_signs_28 rfl ?_
    replace h := bnd_e h
    obtain ⟨A4, eA4, h⟩ := h
    refine v_iastore E eA4 dX12_signs_29 ?_
    refine v_aload_n E dX12_signs_30 rfl ?_
    refine v_iload_n E dX12_signs_31 rfl ?_
    refine v_iload_n E dX12_signs_32 rfl ?_
    replace h := bnd_e h
    obtain ⟨r5, er5, h⟩ := h
    refine v_callV (na := 2) (As := [vI a1, vI a2]) (rest := []) (ci := 12) (q := (RX12, TX12, 20)) E gw12_159 (by decide +kernel) rfl rfl (by decide) (kX12_laysFaces l er5).2 (kX12_laysFaces l er5).1 rfl rfl dX12_signs_33 ⟨Nat.le_of_ble_eq_true rfl, Nat.le_of_ble_eq_true rfl⟩ ⟨(Nat.le_of_ble_eq_true rfl), (Nat.le_of_ble_eq_true rfl)⟩ (Nat.le_of_ble_eq_true rfl) ?_
    replace h := Option.some.inj h
    subst h
    refine v_widen (k' := 0) (n' := 0) (Nat.le_of_ble_eq_true rfl) (Nat.le_of_ble_eq_true rfl) ?_
    exact v_iret E dX12_signs_36
  · rw [if_pos c6] at h
    refine v_ldc (v := (-1000000001)) E dX12_signs_9 q1208 ?_
    replace h := Option.some.inj h
    subst h
    refine v_widen (k' := 0) (n' := 0) (Nat.le_of_ble_eq_true rfl) (Nat.le_of_ble_eq_true rfl) ?_
    exact v_iret E dX12_signs_11
noncomputable def fX12_draw (A0 : AH) (o0 : Option Nat) (a1 : Int32) : Option (Int32 × AH) :=
  (rcv A0 13 o0).bind fun o0 =>
  (fX12_isWord A0 ((some o0)) a1).bind fun r1 =>
  if r1 = 0 then
    some (((-1000000001), A0))
  else
    (fX12_drawn A0 ((some o0)) a1).bind fun r2 =>
    if r2.1 = (-1) then
      some (((-1000000003), r2.2))
    else
      (fX12_minds r2.2 ((some o0))).bind fun r3 =>
      (gR r3 13 384 ((some o0))).bind fun v4 =>
      (sI r3 14 v4 (((1 + (18 * a1)) + 1)) r2.1).bind fun A5 =>
      some ((r2.1, A5))
set_option maxRecDepth 100000 in
set_option maxHeartbeats 4000000 in
theorem kX12_draw (l : Launch) {A0 : AH} {o0 : Option Nat} {a1 : Int32} {r : Int32 × AH} (h : fX12_draw A0 o0 a1 = some r) : (∃ a, o0 = some a ∧ Hk A0 a = 13) ∧ Cn l yX12_draw cX12_draw 3 (some .int) 7 161 0 0 [vR o0, vI a1] A0 (some (vI r.1)) r.2 := by
  unfold fX12_draw at h
  replace h := bnd_e h
  obtain ⟨o1, e1, h⟩ := h
  obtain ⟨rfl, hk0⟩ := rcv_e e1
  refine ⟨⟨o1, rfl, hk0⟩, ?_⟩
  refine Cn.of (pad := 1) (lv0 := [some (vR (some o1)), some (vI a1), none]) (by decide +kernel) (Nat.le_of_ble_eq_true rfl) rfl ?_
  intro p e s m below meth c base D cy E
  generalize (List.map toV [vR (some o1), vI a1]).toArray = ar at E ⊢
  have E : EN p s m ar meth c D cy RX12 cX12_draw 3 (some .int) "draw" := E
  refine v_aload_n E dX12_draw_0 rfl ?_
  refine v_iload_n E dX12_draw_1 rfl ?_
  replace h := bnd_e h
  obtain ⟨r1, er1, h⟩ := h
  refine v_callV (na := 1) (As := [vI a1]) (rest := []) (ci := 12) (q := (RX12, TX12, 20)) E gw12_223 (by decide +kernel) rfl rfl (by decide) (kX12_isWord l er1).2 (kX12_isWord l er1).1 rfl rfl dX12_draw_2 ⟨Nat.le_of_ble_eq_true rfl, Nat.le_of_ble_eq_true rfl⟩ ⟨(Nat.le_of_ble_eq_true rfl), (Nat.le_of_ble_eq_true rfl)⟩ (Nat.le_of_ble_eq_true rfl) ?_
  refine v_if_ne (tgt := 11) E dX12_draw_5 (by decide) (fun c7 => ?_) (fun c7 => ?_)
  · rw [if_neg c7] at h
    refine v_aload_n E dX12_draw_11 rfl ?_
    refine v_iload_n E dX12_draw_12 rfl ?_
    replace h := bnd_e h
    obtain ⟨r2, er2, h⟩ := h
    refine v_callV (na := 1) (As := [vI a1]) (rest := []) (ci := 12) (q := (RX12, TX12, 20)) E gw12_239 (by decide +kernel) rfl rfl (by decide) (kX12_drawn l er2).2 (kX12_drawn l er2).1 rfl rfl dX12_draw_13 ⟨Nat.le_of_ble_eq_true rfl, Nat.le_of_ble_eq_true rfl⟩ ⟨(Nat.le_of_ble_eq_true rfl), (Nat.le_of_ble_eq_true rfl)⟩ (Nat.le_of_ble_eq_true rfl) ?_
    refine v_istore_n (lv' := [some (vR (some o1)), some (vI a1), some (vI r2.1)]) E dX12_draw_16 (by decide) rfl ?_
    refine v_iload_n E dX12_draw_17 rfl ?_
    refine v_iconst (v := (-1)) E dX12_draw_18 (by decide) ?_
    refine v_icmp_ne (tgt := 26) E dX12_draw_19 (by decide) (fun c6 => ?_) (fun c6 => ?_)
    · rw [if_neg c6] at h
      refine v_aload_n E dX12_draw_26 rfl ?_
      replace h := bnd_e h
      obtain ⟨r3, er3, h⟩ := h
      refine v_callV (na := 0) (As := []) (rest := []) (ci := 12) (q := (RX12, TX12, 20)) E gw12_93 (by decide +kernel) rfl rfl (by decide) (kX12_minds l er3).2 (kX12_minds l er3).1 rfl rfl dX12_draw_27 ⟨Nat.le_of_ble_eq_true rfl, Nat.le_of_ble_eq_true rfl⟩ ⟨(Nat.le_of_ble_eq_true rfl), (Nat.le_of_ble_eq_true rfl)⟩ (Nat.le_of_ble_eq_true rfl) ?_
      refine v_aload_n E dX12_draw_30 rfl ?_
      replace h := bnd_e h
      obtain ⟨v4, ev4, h⟩ := h
      refine g12_7 E ev4 dX12_draw_31 ?_
      refine v_iconst (v := 1) E dX12_draw_34 (by decide) ?_
      refine v_bipush (v := 18) E dX12_draw_35 (by decide) ?_
      refine v_iload_n E dX12_draw_37 rfl ?_
      refine v_imul E dX12_draw_38 ?_
      refine v_iadd E dX12_draw_39 ?_
      refine v_iconst (v := 1) E dX12_draw_40 (by decide) ?_
      refine v_iadd E dX12_draw_41 ?_
      refine v_iload_n E dX12_draw_42 rfl ?_
      replace h := bnd_e h
      obtain ⟨A5, eA5, h⟩ := h
      refine v_iastore E eA5 dX12_draw_43 ?_
      refine v_iload_n E dX12_draw_44 rfl ?_
      replace h := Option.some.inj h
      subst h
      refine v_widen (k' := 0) (n' := 0) (Nat.le_of_ble_eq_true rfl) (Nat.le_of_ble_eq_true rfl) ?_
      exact v_iret E dX12_draw_45
    · rw [if_pos c6] at h
      refine v_ldcw (v := (-1000000003)) E dX12_draw_22 q1386 ?_
      replace h := Option.some.inj h
      subst h
      refine v_widen (k' := 0) (n' := 0) (Nat.le_of_ble_eq_true rfl) (Nat.le_of_ble_eq_true rfl) ?_
      exact v_iret E dX12_draw_25
  · rw [if_pos c7] at h
    refine v_ldc (v := (-1000000001)) E dX12_draw_8 q1208 ?_
    replace h := Option.some.inj h
    subst h
    refine v_widen (k' := 0) (n' := 0) (Nat.le_of_ble_eq_true rfl) (Nat.le_of_ble_eq_true rfl) ?_
    exact v_iret E dX12_draw_10
noncomputable def fX12_turn (A0 : AH) (o0 : Option Nat) (a1 : Int32) (a2 : Int32) (a3 : Int32) : Option (Int32 × AH) :=
  (rcv A0 13 o0).bind fun o0 =>
  (fX12_isWord A0 ((some o0)) a1).bind fun r1 =>
  if r1 = 0 then
    some (((-1000000001), A0))
  else
    (fX12_size A0 ((some o0)) a1).bind fun r2 =>
    (fX12_in A0 (((a2 : Int32).toInt64)) 0 (((((2 * r2) - 1) : Int32).toInt64))).bind fun r3 =>
    if r3 = 0 then
      some (((-1000000001), A0))
    else
      (fX12_minds A0 ((some o0))).bind fun r4 =>
      (fX12_turned r4 ((some o0)) a1 a2 a3).bind fun r5 =>
      (fX12_lays r5 ((some o0)) a1).bind fun r6 =>
      (fX12_kinOf r6.2 ((some o0)) a1).bind fun r7 =>
      some ((r7.1, r7.2))
set_option maxRecDepth 100000 in
set_option maxHeartbeats 4000000 in
theorem kX12_turn (l : Launch) {A0 : AH} {o0 : Option Nat} {a1 : Int32} {a2 : Int32} {a3 : Int32} {r : Int32 × AH} (h : fX12_turn A0 o0 a1 a2 a3 = some r) : (∃ a, o0 = some a ∧ Hk A0 a = 13) ∧ Cn l yX12_turn cX12_turn 4 (some .int) 4 97 0 0 [vR o0, vI a1, vI a2, vI a3] A0 (some (vI r.1)) r.2 := by
  unfold fX12_turn at h
  replace h := bnd_e h
  obtain ⟨o1, e1, h⟩ := h
  obtain ⟨rfl, hk0⟩ := rcv_e e1
  refine ⟨⟨o1, rfl, hk0⟩, ?_⟩
  refine Cn.of (pad := 0) (lv0 := [some (vR (some o1)), some (vI a1), some (vI a2), some (vI a3)]) (by decide +kernel) (Nat.le_of_ble_eq_true rfl) rfl ?_
  intro p e s m below meth c base D cy E
  generalize (List.map toV [vR (some o1), vI a1, vI a2, vI a3]).toArray = ar at E ⊢
  have E : EN p s m ar meth c D cy RX12 cX12_turn 4 (some .int) "turn" := E
  refine v_aload_n E dX12_turn_0 rfl ?_
  refine v_iload_n E dX12_turn_1 rfl ?_
  replace h := bnd_e h
  obtain ⟨r1, er1, h⟩ := h
  refine v_callV (na := 1) (As := [vI a1]) (rest := []) (ci := 12) (q := (RX12, TX12, 20)) E gw12_223 (by decide +kernel) rfl rfl (by decide) (kX12_isWord l er1).2 (kX12_isWord l er1).1 rfl rfl dX12_turn_2 ⟨Nat.le_of_ble_eq_true rfl, Nat.le_of_ble_eq_true rfl⟩ ⟨(Nat.le_of_ble_eq_true rfl), (Nat.le_of_ble_eq_true rfl)⟩ (Nat.le_of_ble_eq_true rfl) ?_
  refine v_if_eq (tgt := 27) E dX12_turn_5 (by decide) (fun c9 => ?_) (fun c9 => ?_)
  · rw [if_pos c9] at h
    refine v_ldc (v := (-1000000001)) E dX12_turn_27 q1208 ?_
    replace h := Option.some.inj h
    subst h
    refine v_widen (k' := 0) (n' := 0) (Nat.le_of_ble_eq_true rfl) (Nat.le_of_ble_eq_true rfl) ?_
    exact v_iret E dX12_turn_29
  · rw [if_neg c9] at h
    refine v_iload_n E dX12_turn_8 rfl ?_
    refine v_i2l E dX12_turn_9 ?_
    refine v_lconst (v := 0) E dX12_turn_10 (by decide) ?_
    refine v_iconst (v := 2) E dX12_turn_11 (by decide) ?_
    refine v_aload_n E dX12_turn_12 rfl ?_
    refine v_iload_n E dX12_turn_13 rfl ?_
    replace h := bnd_e h
    obtain ⟨r2, er2, h⟩ := h
    refine v_callV (na := 1) (As := [vI a1]) (rest := [vI 2, vJ 0, vJ ((a2 : Int32).toInt64)]) (ci := 12) (q := (RX12, TX12, 20)) E gw12_59 (by decide +kernel) rfl rfl (by decide) (kX12_size l er2).2 (kX12_size l er2).1 rfl rfl dX12_turn_14 ⟨Nat.le_of_ble_eq_true rfl, Nat.le_of_ble_eq_true rfl⟩ ⟨(Nat.le_of_ble_eq_true rfl), (Nat.le_of_ble_eq_true rfl)⟩ (Nat.le_of_ble_eq_true rfl) ?_
    refine v_imul E dX12_turn_17 ?_
    refine v_iconst (v := 1) E dX12_turn_18 (by decide) ?_
    refine v_isub E dX12_turn_19 ?_
    refine v_i2l E dX12_turn_20 ?_
    replace h := bnd_e h
    obtain ⟨r3, er3, h⟩ := h
    refine v_callS (na := 3) (As := [vJ ((a2 : Int32).toInt64), vJ 0, vJ ((((2 * r2) - 1) : Int32).toInt64)]) (rest := []) E gw12_55 (by decide +kernel) (kX12_in l er3) rfl rfl dX12_turn_21 ⟨Nat.le_of_ble_eq_true rfl, Nat.le_of_ble_eq_true rfl⟩ ⟨(Nat.le_of_ble_eq_true rfl), (Nat.le_of_ble_eq_true rfl)⟩ (Nat.le_of_ble_eq_true rfl) ?_
    refine v_if_ne (tgt := 30) E dX12_turn_24 (by decide) (fun c8 => ?_) (fun c8 => ?_)
    · rw [if_neg c8] at h
      refine v_aload_n E dX12_turn_30 rfl ?_
      replace h := bnd_e h
      obtain ⟨r4, er4, h⟩ := h
      refine v_callV (na := 0) (As := []) (rest := []) (ci := 12) (q := (RX12, TX12, 20)) E gw12_93 (by decide +kernel) rfl rfl (by decide) (kX12_minds l er4).2 (kX12_minds l er4).1 rfl rfl dX12_turn_31 ⟨Nat.le_of_ble_eq_true rfl, Nat.le_of_ble_eq_true rfl⟩ ⟨(Nat.le_of_ble_eq_true rfl), (Nat.le_of_ble_eq_true rfl)⟩ (Nat.le_of_ble_eq_true rfl) ?_
      refine v_aload_n E dX12_turn_34 rfl ?_
      refine v_iload_n E dX12_turn_35 rfl ?_
      refine v_iload_n E dX12_turn_36 rfl ?_
      refine v_iload_n E dX12_turn_37 rfl ?_
      replace h := bnd_e h
      obtain ⟨r5, er5, h⟩ := h
      refine v_callV (na := 3) (As := [vI a1, vI a2, vI a3]) (rest := []) (ci := 12) (q := (RX12, TX12, 20)) E gw12_199 (by decide +kernel) rfl rfl (by decide) (kX12_turned l er5).2 (kX12_turned l er5).1 rfl rfl dX12_turn_38 ⟨Nat.le_of_ble_eq_true rfl, Nat.le_of_ble_eq_true rfl⟩ ⟨(Nat.le_of_ble_eq_true rfl), (Nat.le_of_ble_eq_true rfl)⟩ (Nat.le_of_ble_eq_true rfl) ?_
      refine v_aload_n E dX12_turn_41 rfl ?_
      refine v_iload_n E dX12_turn_42 rfl ?_
      replace h := bnd_e h
      obtain ⟨r6, er6, h⟩ := h
      refine v_callV (na := 1) (As := [vI a1]) (rest := []) (ci := 12) (q := (RX12, TX12, 20)) E gw12_73 (by decide +kernel) rfl rfl (by decide) (kX12_lays l er6).2 (kX12_lays l er6).1 rfl rfl dX12_turn_43 ⟨Nat.le_of_ble_eq_true rfl, Nat.le_of_ble_eq_true rfl⟩ ⟨(Nat.le_of_ble_eq_true rfl), (Nat.le_of_ble_eq_true rfl)⟩ (Nat.le_of_ble_eq_true rfl) ?_
      refine v_pop E dX12_turn_46 rfl ?_
      refine v_aload_n E dX12_turn_47 rfl ?_
      refine v_iload_n E dX12_turn_48 rfl ?_
      replace h := bnd_e h
      obtain ⟨r7, er7, h⟩ := h
      refine v_callV (na := 1) (As := [vI a1]) (rest := []) (ci := 12) (q := (RX12, TX12, 20)) E gw12_259 (by decide +kernel) rfl rfl (by decide) (kX12_kinOf l er7).2 (kX12_kinOf l er7).1 rfl rfl dX12_turn_49 ⟨Nat.le_of_ble_eq_true rfl, Nat.le_of_ble_eq_true rfl⟩ ⟨(Nat.le_of_ble_eq_true rfl), (Nat.le_of_ble_eq_true rfl)⟩ (Nat.le_of_ble_eq_true rfl) ?_
      replace h := Option.some.inj h
      subst h
      refine v_widen (k' := 0) (n' := 0) (Nat.le_of_ble_eq_true rfl) (Nat.le_of_ble_eq_true rfl) ?_
      exact v_iret E dX12_turn_52
    · rw [if_pos c8] at h
      refine v_ldc (v := (-1000000001)) E dX12_turn_27 q1208 ?_
      replace h := Option.some.inj h
      subst h
      refine v_widen (k' := 0) (n' := 0) (Nat.le_of_ble_eq_true rfl) (Nat.le_of_ble_eq_true rfl) ?_
      exact v_iret E dX12_turn_29
noncomputable def fX12_twist (A0 : AH) (o0 : Option Nat) (a1 : Int32) (a2 : Int32) : Option (Int32 × AH) :=
  (rcv A0 13 o0).bind fun o0 =>
  (fX12_isWord A0 ((some o0)) a1).bind fun r1 =>
  if r1 = 0 then
    some (((-1000000001), A0))
  else
    (fX12_isStep A0 ((some o0)) a1 a2).bind fun r2 =>
    if r2 = 0 then
      some (((-1000000001), A0))
    else
      (fX12_size A0 ((some o0)) a1).bind fun r3 =>
      if r3 = 8 then
        some (((-1000000004), A0))
      else
        (fX12_minds A0 ((some o0))).bind fun r4 =>
        (fX12_size r4 ((some o0)) a1).bind fun r5 =>
        (pI r4 13 396 ((some o0)) 0).bind fun A6 =>
        (iter (S := Int32 × AH) (T := AH) (fun s7 =>
            jp (fun (x13 : Unit) =>
              jp (fun (x18 : AH) =>
                jp (fun (x23 : AH) =>
                  some (.inl ((s7.1 + 1), x23))) fun K19 =>
                  if s7.1 = a2 then
                    (fX12_comes x18 ((some o0)) 10).bind fun r20 =>
                    (fX12_comes r20 ((some o0)) 10).bind fun r21 =>
                    K19 r21
                  else
                    K19 x18) fun K14 =>
                if (2 * r5) ≤ s7.1 then
                  K14 s7.2
                else
                  (fX12_letterAt s7.2 ((some o0)) a1 s7.1).bind fun r15 =>
                  (fX12_comes s7.2 ((some o0)) r15).bind fun r16 =>
                  K14 r16) fun K10 =>
              if s7.1 < (2 * r5) then
                K10 ()
              else
                if s7.1 = 0 then
                  K10 ()
                else
                  some (.inr s7.2)) (0, A6)).bind fun t8 =>
        (fX12_lays t8 ((some o0)) a1).bind fun r24 =>
        some ((r24.1, r24.2))
set_option maxRecDepth 100000 in
set_option maxHeartbeats 4000000 in
theorem kX12_twist (l : Launch) {A0 : AH} {o0 : Option Nat} {a1 : Int32} {a2 : Int32} {r : Int32 × AH} (h : fX12_twist A0 o0 a1 a2 = some r) : (∃ a, o0 = some a ∧ Hk A0 a = 13) ∧ Cn l yX12_twist cX12_twist 5 (some .int) 2 47 0 0 [vR o0, vI a1, vI a2] A0 (some (vI r.1)) r.2 := by
  unfold fX12_twist at h
  replace h := bnd_e h
  obtain ⟨o1, e1, h⟩ := h
  obtain ⟨rfl, hk0⟩ := rcv_e e1
  refine ⟨⟨o1, rfl, hk0⟩, ?_⟩
  refine Cn.of (pad := 2) (lv0 := [some (vR (some o1)), some (vI a1), some (vI a2), none, none]) (by decide +kernel) (Nat.le_of_ble_eq_true rfl) rfl ?_
  intro p e s m below meth c base D cy E
  generalize (List.map toV [vR (some o1), vI a1, vI a2]).toArray = ar at E ⊢
  have E : EN p s m ar meth c D cy RX12 cX12_twist 5 (some .int) "twist" := E
  refine v_aload_n E dX12_twist_0 rfl ?_
  refine v_iload_n E dX12_twist_1 rfl ?_
  replace h := bnd_e h
  obtain ⟨r1, er1, h⟩ := h
  refine v_callV (na := 1) (As := [vI a1]) (rest := []) (ci := 12) (q := (RX12, TX12, 20)) E gw12_223 (by decide +kernel) rfl rfl (by decide) (kX12_isWord l er1).2 (kX12_isWord l er1).1 rfl rfl dX12_twist_2 ⟨Nat.le_of_ble_eq_true rfl, Nat.le_of_ble_eq_true rfl⟩ ⟨(Nat.le_of_ble_eq_true rfl), (Nat.le_of_ble_eq_true rfl)⟩ (Nat.le_of_ble_eq_true rfl) ?_
  refine v_if_eq (tgt := 17) E dX12_twist_5 (by decide) (fun c28 => ?_) (fun c28 => ?_)
  · rw [if_pos c28] at h
    refine v_ldc (v := (-1000000001)) E dX12_twist_17 q1208 ?_
    replace h := Option.some.inj h
    subst h
    refine v_widen (k' := 0) (n' := 0) (Nat.le_of_ble_eq_true rfl) (Nat.le_of_ble_eq_true rfl) ?_
    exact v_iret E dX12_twist_19
  · rw [if_neg c28] at h
    refine v_aload_n E dX12_twist_8 rfl ?_
    refine v_iload_n E dX12_twist_9 rfl ?_
    refine v_iload_n E dX12_twist_10 rfl ?_
    replace h := bnd_e h
    obtain ⟨r2, er2, h⟩ := h
    refine v_callV (na := 2) (As := [vI a1, vI a2]) (rest := []) (ci := 12) (q := (RX12, TX12, 20)) E gw12_290 (by decide +kernel) rfl rfl (by decide) (kX12_isStep l er2).2 (kX12_isStep l er2).1 rfl rfl dX12_twist_11 ⟨Nat.le_of_ble_eq_true rfl, Nat.le_of_ble_eq_true rfl⟩ ⟨(Nat.le_of_ble_eq_true rfl), (Nat.le_of_ble_eq_true rfl)⟩ (Nat.le_of_ble_eq_true rfl) ?_
    refine v_if_ne (tgt := 20) E dX12_twist_14 (by decide) (fun c27 => ?_) (fun c27 => ?_)
    · rw [if_neg c27] at h
      refine v_aload_n E dX12_twist_20 rfl ?_
      refine v_iload_n E dX12_twist_21 rfl ?_
      replace h := bnd_e h
      obtain ⟨r3, er3, h⟩ := h
      refine v_callV (na := 1) (As := [vI a1]) (rest := []) (ci := 12) (q := (RX12, TX12, 20)) E gw12_59 (by decide +kernel) rfl rfl (by decide) (kX12_size l er3).2 (kX12_size l er3).1 rfl rfl dX12_twist_22 ⟨Nat.le_of_ble_eq_true rfl, Nat.le_of_ble_eq_true rfl⟩ ⟨(Nat.le_of_ble_eq_true rfl), (Nat.le_of_ble_eq_true rfl)⟩ (Nat.le_of_ble_eq_true rfl) ?_
      refine v_bipush (v := 8) E dX12_twist_25 (by decide) ?_
      refine v_icmp_ne (tgt := 33) E dX12_twist_27 (by decide) (fun c26 => ?_) (fun c26 => ?_)
      · rw [if_neg c26] at h
        refine v_aload_n E dX12_twist_33 rfl ?_
        replace h := bnd_e h
        obtain ⟨r4, er4, h⟩ := h
        refine v_callV (na := 0) (As := []) (rest := []) (ci := 12) (q := (RX12, TX12, 20)) E gw12_93 (by decide +kernel) rfl rfl (by decide) (kX12_minds l er4).2 (kX12_minds l er4).1 rfl rfl dX12_twist_34 ⟨Nat.le_of_ble_eq_true rfl, Nat.le_of_ble_eq_true rfl⟩ ⟨(Nat.le_of_ble_eq_true rfl), (Nat.le_of_ble_eq_true rfl)⟩ (Nat.le_of_ble_eq_true rfl) ?_
        refine v_iconst (v := 2) E dX12_twist_37 (by decide) ?_
        refine v_aload_n E dX12_twist_38 rfl ?_
        refine v_iload_n E dX12_twist_39 rfl ?_
        replace h := bnd_e h
        obtain ⟨r5, er5, h⟩ := h
        refine v_callV (na := 1) (As := [vI a1]) (rest := [vI 2]) (ci := 12) (q := (RX12, TX12, 20)) E gw12_59 (by decide +kernel) rfl rfl (by decide) (kX12_size l er5).2 (kX12_size l er5).1 rfl rfl dX12_twist_40 ⟨Nat.le_of_ble_eq_true rfl, Nat.le_of_ble_eq_true rfl⟩ ⟨(Nat.le_of_ble_eq_true rfl), (Nat.le_of_ble_eq_true rfl)⟩ (Nat.le_of_ble_eq_true rfl) ?_
        refine v_imul E dX12_twist_43 ?_
        refine v_istore_n (lv' := [some (vR (some o1)), some (vI a1), some (vI a2), some (vI (2 * r5)), none]) E dX12_twist_44 (by decide) rfl ?_
        refine v_aload_n E dX12_twist_45 rfl ?_
        refine v_iconst (v := 0) E dX12_twist_46 (by decide) ?_
        replace h := bnd_e h
        obtain ⟨A6, eA6, h⟩ := h
        refine p12_67 E eA6 dX12_twist_47 ?_
        refine v_iconst (v := 0) E dX12_twist_50 (by decide) ?_
        refine v_istore (lv' := [some (vR (some o1)), some (vI a1), some (vI a2), some (vI (2 * r5)), some (vI 0)]) E dX12_twist_51 (by decide) rfl ?_
        replace h := bnd_e h
        obtain ⟨t8, et8, h⟩ := h
        refine iter_V (S := Int32 × AH) (T := AH) (Ph := fun s7 => V p l e { frames := 2, cells := 0, slots := 0, locals := 47 } s m ar below meth c (MQ below (Qd base D cy (some (vI r.1)) r.2) ar s 0 0 (fun q => base ≤ q)) base D cy 5 53 [some (vR (some o1)), some (vI a1), some (vI a2), some (vI (2 * r5)), some (vI s7.1)] [] s7.2 0 0) (Pt := fun t8 => V p l e { frames := 2, cells := 0, slots := 0, locals := 47 } s m ar below meth c (MQ below (Qd base D cy (some (vI r.1)) r.2) ar s 0 0 (fun q => base ≤ q)) base D cy 5 105 [some (vR (some o1)), some (vI a1), none, none, none] [] t8 0 0) et8 (fun s7 w9 h hx => ?_) ?_
        · try dsimp only at h
          refine v_iload E dX12_twist_53 rfl ?_
          refine v_iload_n E dX12_twist_55 rfl ?_
          refine jp_use h (fun K10 eK10 h => ?_)
          have hK10 : ∀ x13 : Unit, K10 x13 = some w9 → V p l e { frames := 2, cells := 0, slots := 0, locals := 47 } s m ar below meth c (MQ below (Qd base D cy (some (vI r.1)) r.2) ar s 0 0 (fun q => base ≤ q)) base D cy 5 64 [some (vR (some o1)), some (vI a1), some (vI a2), some (vI (2 * r5)), some (vI s7.1)] [] s7.2 0 0 := by
            intro x13 h
            rw [eK10] at h
            try dsimp only at h
            refine v_iload E dX12_twist_64 rfl ?_
            refine v_iload_n E dX12_twist_66 rfl ?_
            refine jp_use h (fun K14 eK14 h => ?_)
            have hK14 : ∀ x18 : AH, K14 x18 = some w9 → V p l e { frames := 2, cells := 0, slots := 0, locals := 47 } s m ar below meth c (MQ below (Qd base D cy (some (vI r.1)) r.2) ar s 0 0 (fun q => base ≤ q)) base D cy 5 81 [some (vR (some o1)), some (vI a1), some (vI a2), some (vI (2 * r5)), some (vI s7.1)] [] x18 0 0 := by
              intro x18 h
              rw [eK14] at h
              try dsimp only at h
              refine v_iload E dX12_twist_81 rfl ?_
              refine v_iload_n E dX12_twist_83 rfl ?_
              refine jp_use h (fun K19 eK19 h => ?_)
              have hK19 : ∀ x23 : AH, K19 x23 = some w9 → V p l e { frames := 2, cells := 0, slots := 0, locals := 47 } s m ar below meth c (MQ below (Qd base D cy (some (vI r.1)) r.2) ar s 0 0 (fun q => base ≤ q)) base D cy 5 99 [some (vR (some o1)), some (vI a1), some (vI a2), some (vI (2 * r5)), some (vI s7.1)] [] x23 0 0 := by
                intro x23 h
                rw [eK19] at h
                try dsimp only at h
                refine v_iinc (v := (s7.1 + 1)) (lv' := [some (vR (some o1)), some (vI a1), some (vI a2), some (vI (2 * r5)), some (vI (s7.1 + 1))]) E dX12_twist_99 rfl (by rfl) (by decide) rfl ?_
                refine v_goto (tgt := 53) E dX12_twist_102 (by decide) ?_
                replace h := Option.some.inj h
                subst h
                exact hx
              refine v_icmp_ne (tgt := 99) E dX12_twist_84 (by decide) (fun c22 => ?_) (fun c22 => ?_)
              · rw [if_neg c22] at h
                exact hK19 x18 h
              · rw [if_pos c22] at h
                refine v_aload_n E dX12_twist_87 rfl ?_
                refine v_bipush (v := 10) E dX12_twist_88 (by decide) ?_
                replace h := bnd_e h
                obtain ⟨r20, er20, h⟩ := h
                refine v_callV (na := 1) (As := [vI 10]) (rest := []) (ci := 12) (q := (RX12, TX12, 20)) E gw12_96 (by decide +kernel) rfl rfl (by decide) (kX12_comes l er20).2 (kX12_comes l er20).1 rfl rfl dX12_twist_90 ⟨Nat.le_of_ble_eq_true rfl, Nat.le_of_ble_eq_true rfl⟩ ⟨(Nat.le_of_ble_eq_true rfl), (Nat.le_of_ble_eq_true rfl)⟩ (Nat.le_of_ble_eq_true rfl) ?_
                refine v_aload_n E dX12_twist_93 rfl ?_
                refine v_bipush (v := 10) E dX12_twist_94 (by decide) ?_
                replace h := bnd_e h
                obtain ⟨r21, er21, h⟩ := h
                refine v_callV (na := 1) (As := [vI 10]) (rest := []) (ci := 12) (q := (RX12, TX12, 20)) E gw12_96 (by decide +kernel) rfl rfl (by decide) (kX12_comes l er21).2 (kX12_comes l er21).1 rfl rfl dX12_twist_96 ⟨Nat.le_of_ble_eq_true rfl, Nat.le_of_ble_eq_true rfl⟩ ⟨(Nat.le_of_ble_eq_true rfl), (Nat.le_of_ble_eq_true rfl)⟩ (Nat.le_of_ble_eq_true rfl) ?_
                exact hK19 r21 h
            refine v_icmp_ge (tgt := 81) E dX12_twist_67 (by decide) (fun c17 => ?_) (fun c17 => ?_)
            · rw [if_pos c17] at h
              exact hK14 s7.2 h
            · rw [if_neg c17] at h
              refine v_aload_n E dX12_twist_70 rfl ?_
              refine v_aload_n E dX12_twist_71 rfl ?_
              refine v_iload_n E dX12_twist_72 rfl ?_
              refine v_iload E dX12_twist_73 rfl ?_
              replace h := bnd_e h
              obtain ⟨r15, er15, h⟩ := h
              refine v_callV (na := 2) (As := [vI a1, vI s7.1]) (rest := [vR (some o1)]) (ci := 12) (q := (RX12, TX12, 20)) E gw12_63 (by decide +kernel) rfl rfl (by decide) (kX12_letterAt l er15).2 (kX12_letterAt l er15).1 rfl rfl dX12_twist_75 ⟨Nat.le_of_ble_eq_true rfl, Nat.le_of_ble_eq_true rfl⟩ ⟨(Nat.le_of_ble_eq_true rfl), (Nat.le_of_ble_eq_true rfl)⟩ (Nat.le_of_ble_eq_true rfl) ?_
              replace h := bnd_e h
              obtain ⟨r16, er16, h⟩ := h
              refine v_callV (na := 1) (As := [vI r15]) (rest := []) (ci := 12) (q := (RX12, TX12, 20)) E gw12_96 (by decide +kernel) rfl rfl (by decide) (kX12_comes l er16).2 (kX12_comes l er16).1 rfl rfl dX12_twist_78 ⟨Nat.le_of_ble_eq_true rfl, Nat.le_of_ble_eq_true rfl⟩ ⟨(Nat.le_of_ble_eq_true rfl), (Nat.le_of_ble_eq_true rfl)⟩ (Nat.le_of_ble_eq_true rfl) ?_
              exact hK14 r16 h
          refine v_icmp_lt (tgt := 64) E dX12_twist_56 (by decide) (fun c12 => ?_) (fun c12 => ?_)
          · rw [if_pos c12] at h
            exact hK10 () h
          · rw [if_neg c12] at h
            refine v_iload E dX12_twist_59 rfl ?_
            refine v_if_ne (tgt := 105) E dX12_twist_61 (by decide) (fun c11 => ?_) (fun c11 => ?_)
            · rw [if_neg c11] at h
              refine v_drop (lv' := [some (vR (some o1)), some (vI a1), none, none, none]) [2, 3, 4] rfl ?_
              replace h := Option.some.inj h
              subst h
              exact hx
            · rw [if_pos c11] at h
              exact hK10 () h
        · refine v_aload_n E dX12_twist_105 rfl ?_
          refine v_iload_n E dX12_twist_106 rfl ?_
          replace h := bnd_e h
          obtain ⟨r24, er24, h⟩ := h
          refine v_callV (na := 1) (As := [vI a1]) (rest := []) (ci := 12) (q := (RX12, TX12, 20)) E gw12_73 (by decide +kernel) rfl rfl (by decide) (kX12_lays l er24).2 (kX12_lays l er24).1 rfl rfl dX12_twist_107 ⟨Nat.le_of_ble_eq_true rfl, Nat.le_of_ble_eq_true rfl⟩ ⟨(Nat.le_of_ble_eq_true rfl), (Nat.le_of_ble_eq_true rfl)⟩ (Nat.le_of_ble_eq_true rfl) ?_
          replace h := Option.some.inj h
          subst h
          refine v_widen (k' := 0) (n' := 0) (Nat.le_of_ble_eq_true rfl) (Nat.le_of_ble_eq_true rfl) ?_
          exact v_iret E dX12_twist_110
      · rw [if_pos c26] at h
        refine v_ldc (v := (-1000000004)) E dX12_twist_30 q1093 ?_
        replace h := Option.some.inj h
        subst h
        refine v_widen (k' := 0) (n' := 0) (Nat.le_of_ble_eq_true rfl) (Nat.le_of_ble_eq_true rfl) ?_
        exact v_iret E dX12_twist_32
    · rw [if_pos c27] at h
      refine v_ldc (v := (-1000000001)) E dX12_twist_17 q1208 ?_
      replace h := Option.some.inj h
      subst h
      refine v_widen (k' := 0) (n' := 0) (Nat.le_of_ble_eq_true rfl) (Nat.le_of_ble_eq_true rfl) ?_
      exact v_iret E dX12_twist_19
noncomputable def fX12_without (A0 : AH) (o0 : Option Nat) (a1 : Int32) (a2 : Int32) (a3 : Int32) : Option (Int32 × AH) :=
  (rcv A0 13 o0).bind fun o0 =>
  (pI A0 13 396 ((some o0)) 0).bind fun A1 =>
  (iter (S := Int32 × AH) (T := AH) (fun s2 =>
      (fX12_size s2.2 ((some o0)) a1).bind fun r5 =>
      if (2 * r5) ≤ s2.1 then
        some (.inr s2.2)
      else
        (fX12_letterAt s2.2 ((some o0)) a1 s2.1).bind fun r6 =>
        jp (fun (x13 : AH) =>
          some (.inl ((s2.1 + 1), x13))) fun K7 =>
          if r6 = a2 then
            K7 s2.2
          else
            (fX12_letterAt s2.2 ((some o0)) a1 s2.1).bind fun r8 =>
            if r8 = a3 then
              K7 s2.2
            else
              (fX12_letterAt s2.2 ((some o0)) a1 s2.1).bind fun r9 =>
              (fX12_comes s2.2 ((some o0)) r9).bind fun r10 =>
              K7 r10) (0, A1)).bind fun t3 =>
  (fX12_lays t3 ((some o0)) a1).bind fun r15 =>
  some ((r15.1, r15.2))
set_option maxRecDepth 100000 in
set_option maxHeartbeats 4000000 in
theorem kX12_without (l : Launch) {A0 : AH} {o0 : Option Nat} {a1 : Int32} {a2 : Int32} {a3 : Int32} {r : Int32 × AH} (h : fX12_without A0 o0 a1 a2 a3 = some r) : (∃ a, o0 = some a ∧ Hk A0 a = 13) ∧ Cn l yX12_without cX12_without 5 (some .int) 2 47 0 0 [vR o0, vI a1, vI a2, vI a3] A0 (some (vI r.1)) r.2 := by
  unfold fX12_without at h
  replace h := bnd_e h
  obtain ⟨o1, e1, h⟩ := h
  obtain ⟨rfl, hk0⟩ := rcv_e e1
  refine ⟨⟨o1, rfl, hk0⟩, ?_⟩
  refine Cn.of (pad := 1) (lv0 := [some (vR (some o1)), some (vI a1), some (vI a2), some (vI a3), none]) (by decide +kernel) (Nat.le_of_ble_eq_true rfl) rfl ?_
  intro p e s m below meth c base D cy E
  generalize (List.map toV [vR (some o1), vI a1, vI a2, vI a3]).toArray = ar at E ⊢
  have E : EN p s m ar meth c D cy RX12 cX12_without 5 (some .int) "without" := E
  refine v_aload_n E dX12_without_0 rfl ?_
  refine v_iconst (v := 0) E dX12_without_1 (by decide) ?_
  replace h := bnd_e h
  obtain ⟨A1, eA1, h⟩ := h
  refine p12_67 E eA1 dX12_without_2 ?_
  refine v_iconst (v := 0) E dX12_without_5 (by decide) ?_
  refine v_istore (lv' := [some (vR (some o1)), some (vI a1), some (vI a2), some (vI a3), some (vI 0)]) E dX12_without_6 (by decide) rfl ?_
  replace h := bnd_e h
  obtain ⟨t3, et3, h⟩ := h
  refine iter_V (S := Int32 × AH) (T := AH) (Ph := fun s2 => V p l e { frames := 2, cells := 0, slots := 0, locals := 47 } s m ar below meth c (MQ below (Qd base D cy (some (vI r.1)) r.2) ar s 0 0 (fun q => base ≤ q)) base D cy 5 8 [some (vR (some o1)), some (vI a1), some (vI a2), some (vI a3), some (vI s2.1)] [] s2.2 0 0) (Pt := fun t3 => V p l e { frames := 2, cells := 0, slots := 0, locals := 47 } s m ar below meth c (MQ below (Qd base D cy (some (vI r.1)) r.2) ar s 0 0 (fun q => base ≤ q)) base D cy 5 59 [some (vR (some o1)), some (vI a1), none, none, none] [] t3 0 0) et3 (fun s2 w4 h hx => ?_) ?_
  · try dsimp only at h
    refine v_iload E dX12_without_8 rfl ?_
    refine v_iconst (v := 2) E dX12_without_10 (by decide) ?_
    refine v_aload_n E dX12_without_11 rfl ?_
    refine v_iload_n E dX12_without_12 rfl ?_
    replace h := bnd_e h
    obtain ⟨r5, er5, h⟩ := h
    refine v_callV (na := 1) (As := [vI a1]) (rest := [vI 2, vI s2.1]) (ci := 12) (q := (RX12, TX12, 20)) E gw12_59 (by decide +kernel) rfl rfl (by decide) (kX12_size l er5).2 (kX12_size l er5).1 rfl rfl dX12_without_13 ⟨Nat.le_of_ble_eq_true rfl, Nat.le_of_ble_eq_true rfl⟩ ⟨(Nat.le_of_ble_eq_true rfl), (Nat.le_of_ble_eq_true rfl)⟩ (Nat.le_of_ble_eq_true rfl) ?_
    refine v_imul E dX12_without_16 ?_
    refine v_icmp_ge (tgt := 59) E dX12_without_17 (by decide) (fun c14 => ?_) (fun c14 => ?_)
    · rw [if_pos c14] at h
      refine v_drop (lv' := [some (vR (some o1)), some (vI a1), none, none, none]) [2, 3, 4] rfl ?_
      replace h := Option.some.inj h
      subst h
      exact hx
    · rw [if_neg c14] at h
      refine v_aload_n E dX12_without_20 rfl ?_
      refine v_iload_n E dX12_without_21 rfl ?_
      refine v_iload E dX12_without_22 rfl ?_
      replace h := bnd_e h
      obtain ⟨r6, er6, h⟩ := h
      refine v_callV (na := 2) (As := [vI a1, vI s2.1]) (rest := []) (ci := 12) (q := (RX12, TX12, 20)) E gw12_63 (by decide +kernel) rfl rfl (by decide) (kX12_letterAt l er6).2 (kX12_letterAt l er6).1 rfl rfl dX12_without_24 ⟨Nat.le_of_ble_eq_true rfl, Nat.le_of_ble_eq_true rfl⟩ ⟨(Nat.le_of_ble_eq_true rfl), (Nat.le_of_ble_eq_true rfl)⟩ (Nat.le_of_ble_eq_true rfl) ?_
      refine v_iload_n E dX12_without_27 rfl ?_
      refine jp_use h (fun K7 eK7 h => ?_)
      have hK7 : ∀ x13 : AH, K7 x13 = some w4 → V p l e { frames := 2, cells := 0, slots := 0, locals := 47 } s m ar below meth c (MQ below (Qd base D cy (some (vI r.1)) r.2) ar s 0 0 (fun q => base ≤ q)) base D cy 5 53 [some (vR (some o1)), some (vI a1), some (vI a2), some (vI a3), some (vI s2.1)] [] x13 0 0 := by
        intro x13 h
        rw [eK7] at h
        try dsimp only at h
        refine v_iinc (v := (s2.1 + 1)) (lv' := [some (vR (some o1)), some (vI a1), some (vI a2), some (vI a3), some (vI (s2.1 + 1))]) E dX12_without_53 rfl (by rfl) (by decide) rfl ?_
        refine v_goto (tgt := 8) E dX12_without_56 (by decide) ?_
        replace h := Option.some.inj h
        subst h
        exact hx
      refine v_icmp_eq (tgt := 53) E dX12_without_28 (by decide) (fun c12 => ?_) (fun c12 => ?_)
      · rw [if_pos c12] at h
        exact hK7 s2.2 h
      · rw [if_neg c12] at h
        refine v_aload_n E dX12_without_31 rfl ?_
        refine v_iload_n E dX12_without_32 rfl ?_
        refine v_iload E dX12_without_33 rfl ?_
        replace h := bnd_e h
        obtain ⟨r8, er8, h⟩ := h
        refine v_callV (na := 2) (As := [vI a1, vI s2.1]) (rest := []) (ci := 12) (q := (RX12, TX12, 20)) E gw12_63 (by decide +kernel) rfl rfl (by decide) (kX12_letterAt l er8).2 (kX12_letterAt l er8).1 rfl rfl dX12_without_35 ⟨Nat.le_of_ble_eq_true rfl, Nat.le_of_ble_eq_true rfl⟩ ⟨(Nat.le_of_ble_eq_true rfl), (Nat.le_of_ble_eq_true rfl)⟩ (Nat.le_of_ble_eq_true rfl) ?_
        refine v_iload_n E dX12_without_38 rfl ?_
        refine v_icmp_eq (tgt := 53) E dX12_without_39 (by decide) (fun c11 => ?_) (fun c11 => ?_)
        · rw [if_pos c11] at h
          exact hK7 s2.2 h
        · rw [if_neg c11] at h
          refine v_aload_n E dX12_without_42 rfl ?_
          refine v_aload_n E dX12_without_43 rfl ?_
          refine v_iload_n E dX12_without_44 rfl ?_
          refine v_iload E dX12_without_45 rfl ?_
          replace h := bnd_e h
          obtain ⟨r9, er9, h⟩ := h
          refine v_callV (na := 2) (As := [vI a1, vI s2.1]) (rest := [vR (some o1)]) (ci := 12) (q := (RX12, TX12, 20)) E gw12_63 (by decide +kernel) rfl rfl (by decide) (kX12_letterAt l er9).2 (kX12_letterAt l er9).1 rfl rfl dX12_without_47 ⟨Nat.le_of_ble_eq_true rfl, Nat.le_of_ble_eq_true rfl⟩ ⟨(Nat.le_of_ble_eq_true rfl), (Nat.le_of_ble_eq_true rfl)⟩ (Nat.le_of_ble_eq_true rfl) ?_
          replace h := bnd_e h
          obtain ⟨r10, er10, h⟩ := h
          refine v_callV (na := 1) (As := [vI r9]) (rest := []) (ci := 12) (q := (RX12, TX12, 20)) E gw12_96 (by decide +kernel) rfl rfl (by decide) (kX12_comes l er10).2 (kX12_comes l er10).1 rfl rfl dX12_without_50 ⟨Nat.le_of_ble_eq_true rfl, Nat.le_of_ble_eq_true rfl⟩ ⟨(Nat.le_of_ble_eq_true rfl), (Nat.le_of_ble_eq_true rfl)⟩ (Nat.le_of_ble_eq_true rfl) ?_
          exact hK7 r10 h
  · refine v_aload_n E dX12_without_59 rfl ?_
    refine v_iload_n E dX12_without_60 rfl ?_
    replace h := bnd_e h
    obtain ⟨r15, er15, h⟩ := h
    refine v_callV (na := 1) (As := [vI a1]) (rest := []) (ci := 12) (q := (RX12, TX12, 20)) E gw12_73 (by decide +kernel) rfl rfl (by decide) (kX12_lays l er15).2 (kX12_lays l er15).1 rfl rfl dX12_without_61 ⟨Nat.le_of_ble_eq_true rfl, Nat.le_of_ble_eq_true rfl⟩ ⟨(Nat.le_of_ble_eq_true rfl), (Nat.le_of_ble_eq_true rfl)⟩ (Nat.le_of_ble_eq_true rfl) ?_
    replace h := Option.some.inj h
    subst h
    refine v_widen (k' := 0) (n' := 0) (Nat.le_of_ble_eq_true rfl) (Nat.le_of_ble_eq_true rfl) ?_
    exact v_iret E dX12_without_64
noncomputable def fX12_untwist (A0 : AH) (o0 : Option Nat) (a1 : Int32) (a2 : Int32) : Option (Int32 × AH) :=
  (rcv A0 13 o0).bind fun o0 =>
  (fX12_isWord A0 ((some o0)) a1).bind fun r1 =>
  if r1 = 0 then
    some (((-1000000001), A0))
  else
    (fX12_isLetter A0 ((some o0)) a1 a2).bind fun r2 =>
    if r2 = 0 then
      some (((-1000000001), A0))
    else
      (fX12_isLoop A0 ((some o0)) a1 a2).bind fun r3 =>
      if r3 = 0 then
        some (((-1000000003), A0))
      else
        (fX12_minds A0 ((some o0))).bind fun r4 =>
        (fX12_without r4 ((some o0)) a1 a2 a2).bind fun r5 =>
        some ((r5.1, r5.2))
set_option maxRecDepth 100000 in
set_option maxHeartbeats 4000000 in
theorem kX12_untwist (l : Launch) {A0 : AH} {o0 : Option Nat} {a1 : Int32} {a2 : Int32} {r : Int32 × AH} (h : fX12_untwist A0 o0 a1 a2 = some r) : (∃ a, o0 = some a ∧ Hk A0 a = 13) ∧ Cn l yX12_untwist cX12_untwist 3 (some .int) 3 71 0 0 [vR o0, vI a1, vI a2] A0 (some (vI r.1)) r.2 := by
  unfold fX12_untwist at h
  replace h := bnd_e h
  obtain ⟨o1, e1, h⟩ := h
  obtain ⟨rfl, hk0⟩ := rcv_e e1
  refine ⟨⟨o1, rfl, hk0⟩, ?_⟩
  refine Cn.of (pad := 0) (lv0 := [some (vR (some o1)), some (vI a1), some (vI a2)]) (by decide +kernel) (Nat.le_of_ble_eq_true rfl) rfl ?_
  intro p e s m below meth c base D cy E
  generalize (List.map toV [vR (some o1), vI a1, vI a2]).toArray = ar at E ⊢
  have E : EN p s m ar meth c D cy RX12 cX12_untwist 3 (some .int) "untwist" := E
  refine v_aload_n E dX12_untwist_0 rfl ?_
  refine v_iload_n E dX12_untwist_1 rfl ?_
  replace h := bnd_e h
  obtain ⟨r1, er1, h⟩ := h
  refine v_callV (na := 1) (As := [vI a1]) (rest := []) (ci := 12) (q := (RX12, TX12, 20)) E gw12_223 (by decide +kernel) rfl rfl (by decide) (kX12_isWord l er1).2 (kX12_isWord l er1).1 rfl rfl dX12_untwist_2 ⟨Nat.le_of_ble_eq_true rfl, Nat.le_of_ble_eq_true rfl⟩ ⟨(Nat.le_of_ble_eq_true rfl), (Nat.le_of_ble_eq_true rfl)⟩ (Nat.le_of_ble_eq_true rfl) ?_
  refine v_if_eq (tgt := 17) E dX12_untwist_5 (by decide) (fun c8 => ?_) (fun c8 => ?_)
  · rw [if_pos c8] at h
    refine v_ldc (v := (-1000000001)) E dX12_untwist_17 q1208 ?_
    replace h := Option.some.inj h
    subst h
    refine v_widen (k' := 0) (n' := 0) (Nat.le_of_ble_eq_true rfl) (Nat.le_of_ble_eq_true rfl) ?_
    exact v_iret E dX12_untwist_19
  · rw [if_neg c8] at h
    refine v_aload_n E dX12_untwist_8 rfl ?_
    refine v_iload_n E dX12_untwist_9 rfl ?_
    refine v_iload_n E dX12_untwist_10 rfl ?_
    replace h := bnd_e h
    obtain ⟨r2, er2, h⟩ := h
    refine v_callV (na := 2) (As := [vI a1, vI a2]) (rest := []) (ci := 12) (q := (RX12, TX12, 20)) E gw12_274 (by decide +kernel) rfl rfl (by decide) (kX12_isLetter l er2).2 (kX12_isLetter l er2).1 rfl rfl dX12_untwist_11 ⟨Nat.le_of_ble_eq_true rfl, Nat.le_of_ble_eq_true rfl⟩ ⟨(Nat.le_of_ble_eq_true rfl), (Nat.le_of_ble_eq_true rfl)⟩ (Nat.le_of_ble_eq_true rfl) ?_
    refine v_if_ne (tgt := 20) E dX12_untwist_14 (by decide) (fun c7 => ?_) (fun c7 => ?_)
    · rw [if_neg c7] at h
      refine v_aload_n E dX12_untwist_20 rfl ?_
      refine v_iload_n E dX12_untwist_21 rfl ?_
      refine v_iload_n E dX12_untwist_22 rfl ?_
      replace h := bnd_e h
      obtain ⟨r3, er3, h⟩ := h
      refine v_callV (na := 2) (As := [vI a1, vI a2]) (rest := []) (ci := 12) (q := (RX12, TX12, 20)) E gw12_217 (by decide +kernel) rfl rfl (by decide) (kX12_isLoop l er3).2 (kX12_isLoop l er3).1 rfl rfl dX12_untwist_23 ⟨Nat.le_of_ble_eq_true rfl, Nat.le_of_ble_eq_true rfl⟩ ⟨(Nat.le_of_ble_eq_true rfl), (Nat.le_of_ble_eq_true rfl)⟩ (Nat.le_of_ble_eq_true rfl) ?_
      refine v_if_ne (tgt := 33) E dX12_untwist_26 (by decide) (fun c6 => ?_) (fun c6 => ?_)
      · rw [if_neg c6] at h
        refine v_aload_n E dX12_untwist_33 rfl ?_
        replace h := bnd_e h
        obtain ⟨r4, er4, h⟩ := h
        refine v_callV (na := 0) (As := []) (rest := []) (ci := 12) (q := (RX12, TX12, 20)) E gw12_93 (by decide +kernel) rfl rfl (by decide) (kX12_minds l er4).2 (kX12_minds l er4).1 rfl rfl dX12_untwist_34 ⟨Nat.le_of_ble_eq_true rfl, Nat.le_of_ble_eq_true rfl⟩ ⟨(Nat.le_of_ble_eq_true rfl), (Nat.le_of_ble_eq_true rfl)⟩ (Nat.le_of_ble_eq_true rfl) ?_
        refine v_aload_n E dX12_untwist_37 rfl ?_
        refine v_iload_n E dX12_untwist_38 rfl ?_
        refine v_iload_n E dX12_untwist_39 rfl ?_
        refine v_iload_n E dX12_untwist_40 rfl ?_
        replace h := bnd_e h
        obtain ⟨r5, er5, h⟩ := h
        refine v_callV (na := 3) (As := [vI a1, vI a2, vI a2]) (rest := []) (ci := 12) (q := (RX12, TX12, 20)) E gw12_293 (by decide +kernel) rfl rfl (by decide) (kX12_without l er5).2 (kX12_without l er5).1 rfl rfl dX12_untwist_41 ⟨Nat.le_of_ble_eq_true rfl, Nat.le_of_ble_eq_true rfl⟩ ⟨(Nat.le_of_ble_eq_true rfl), (Nat.le_of_ble_eq_true rfl)⟩ (Nat.le_of_ble_eq_true rfl) ?_
        replace h := Option.some.inj h
        subst h
        refine v_widen (k' := 0) (n' := 0) (Nat.le_of_ble_eq_true rfl) (Nat.le_of_ble_eq_true rfl) ?_
        exact v_iret E dX12_untwist_44
      · rw [if_pos c6] at h
        refine v_ldcw (v := (-1000000003)) E dX12_untwist_29 q1386 ?_
        replace h := Option.some.inj h
        subst h
        refine v_widen (k' := 0) (n' := 0) (Nat.le_of_ble_eq_true rfl) (Nat.le_of_ble_eq_true rfl) ?_
        exact v_iret E dX12_untwist_32
    · rw [if_pos c7] at h
      refine v_ldc (v := (-1000000001)) E dX12_untwist_17 q1208 ?_
      replace h := Option.some.inj h
      subst h
      refine v_widen (k' := 0) (n' := 0) (Nat.le_of_ble_eq_true rfl) (Nat.le_of_ble_eq_true rfl) ?_
      exact v_iret E dX12_untwist_19
noncomputable def fX12_poke (A0 : AH) (o0 : Option Nat) (a1 : Int32) (a2 : Int32) (a3 : Int32) (a4 : Int32) : Option (Int32 × AH) :=
  (rcv A0 13 o0).bind fun o0 =>
  (fX12_isWord A0 ((some o0)) a1).bind fun r1 =>
  if r1 = 0 then
    some (((-1000000001), A0))
  else
    (fX12_isStep A0 ((some o0)) a1 a2).bind fun r2 =>
    if r2 = 0 then
      some (((-1000000001), A0))
    else
      (fX12_isStep A0 ((some o0)) a1 a3).bind fun r3 =>
      if r3 = 0 then
        some (((-1000000001), A0))
      else
        if a2 = a3 then
          some (((-1000000001), A0))
        else
          (fX12_in A0 (((a4 : Int32).toInt64)) 0 1).bind fun r4 =>
          if r4 = 0 then
            some (((-1000000002), A0))
          else
            (fX12_size A0 ((some o0)) a1).bind fun r5 =>
            if (r5 + 2) ≤ 8 then
              (fX12_minds A0 ((some o0))).bind fun r6 =>
              (pI r6 13 396 ((some o0)) 0).bind fun A7 =>
              (iter (S := Int32 × AH) (T := AH) (fun s8 =>
                  (fX12_size s8.2 ((some o0)) a1).bind fun r11 =>
                  if (2 * r11) ≤ s8.1 then
                    some (.inr s8.2)
                  else
                    (fX12_letterAt s8.2 ((some o0)) a1 s8.1).bind fun r12 =>
                    (fX12_comes s8.2 ((some o0)) r12).bind fun r13 =>
                    jp (fun (x31 : AH) =>
                      some (.inl ((s8.1 + 1), x31))) fun K14 =>
                      jp (fun (x18 : Unit) =>
                        jp1 (α := Int32) (if s8.1 = a3 then
                            if a4 = 1 then
                              1
                            else
                              0
                          else
                            0) fun x22 =>
                        jp1 (α := Int32) (if x22 = 0 then
                              10
                            else
                              11) fun x25 =>
                          (fX12_comes r13 ((some o0)) x25).bind fun r26 =>
                            jp1 (α := Int32) (if x22 = 0 then
                                11
                              else
                                10) fun x29 =>
                            (fX12_comes r26 ((some o0)) x29).bind fun r30 =>
                              K14 r30) fun K15 =>
                        if s8.1 = a2 then
                          K15 ()
                        else
                          if s8.1 = a3 then
                            K15 ()
                          else
                            K14 r13) (0, A7)).bind fun t9 =>
              (fX12_lays t9 ((some o0)) a1).bind fun r33 =>
              some ((r33.1, r33.2))
            else
              some (((-1000000004), A0))
set_option maxRecDepth 100000 in
set_option maxHeartbeats 4000000 in
theorem kX12_poke (l : Launch) {A0 : AH} {o0 : Option Nat} {a1 : Int32} {a2 : Int32} {a3 : Int32} {a4 : Int32} {r : Int32 × AH} (h : fX12_poke A0 o0 a1 a2 a3 a4 = some r) : (∃ a, o0 = some a ∧ Hk A0 a = 13) ∧ Cn l yX12_poke cX12_poke 7 (some .int) 2 47 0 0 [vR o0, vI a1, vI a2, vI a3, vI a4] A0 (some (vI r.1)) r.2 := by
  unfold fX12_poke at h
  replace h := bnd_e h
  obtain ⟨o1, e1, h⟩ := h
  obtain ⟨rfl, hk0⟩ := rcv_e e1
  refine ⟨⟨o1, rfl, hk0⟩, ?_⟩
  refine Cn.of (pad := 2) (lv0 := [some (vR (some o1)), some (vI a1), some (vI a2), some (vI a3), some (vI a4), none, none]) (by decide +kernel) (Nat.le_of_ble_eq_true rfl) rfl ?_
  intro p e s m below meth c base D cy E
  generalize (List.map toV [vR (some o1), vI a1, vI a2, vI a3, vI a4]).toArray = ar at E ⊢
  have E : EN p s m ar meth c D cy RX12 cX12_poke 7 (some .int) "poke" := E
  refine v_aload_n E dX12_poke_0 rfl ?_
  refine v_iload_n E dX12_poke_1 rfl ?_
  replace h := bnd_e h
  obtain ⟨r1, er1, h⟩ := h
  refine v_callV (na := 1) (As := [vI a1]) (rest := []) (ci := 12) (q := (RX12, TX12, 20)) E gw12_223 (by decide +kernel) rfl rfl (by decide) (kX12_isWord l er1).2 (kX12_isWord l er1).1 rfl rfl dX12_poke_2 ⟨Nat.le_of_ble_eq_true rfl, Nat.le_of_ble_eq_true rfl⟩ ⟨(Nat.le_of_ble_eq_true rfl), (Nat.le_of_ble_eq_true rfl)⟩ (Nat.le_of_ble_eq_true rfl) ?_
  refine v_if_eq (tgt := 31) E dX12_poke_5 (by decide) (fun c40 => ?_) (fun c40 => ?_)
  · rw [if_pos c40] at h
    refine v_ldc (v := (-1000000001)) E dX12_poke_31 q1208 ?_
    replace h := Option.some.inj h
    subst h
    refine v_widen (k' := 0) (n' := 0) (Nat.le_of_ble_eq_true rfl) (Nat.le_of_ble_eq_true rfl) ?_
    exact v_iret E dX12_poke_33
  · rw [if_neg c40] at h
    refine v_aload_n E dX12_poke_8 rfl ?_
    refine v_iload_n E dX12_poke_9 rfl ?_
    refine v_iload_n E dX12_poke_10 rfl ?_
    replace h := bnd_e h
    obtain ⟨r2, er2, h⟩ := h
    refine v_callV (na := 2) (As := [vI a1, vI a2]) (rest := []) (ci := 12) (q := (RX12, TX12, 20)) E gw12_290 (by decide +kernel) rfl rfl (by decide) (kX12_isStep l er2).2 (kX12_isStep l er2).1 rfl rfl dX12_poke_11 ⟨Nat.le_of_ble_eq_true rfl, Nat.le_of_ble_eq_true rfl⟩ ⟨(Nat.le_of_ble_eq_true rfl), (Nat.le_of_ble_eq_true rfl)⟩ (Nat.le_of_ble_eq_true rfl) ?_
    refine v_if_eq (tgt := 31) E dX12_poke_14 (by decide) (fun c39 => ?_) (fun c39 => ?_)
    · rw [if_pos c39] at h
      refine v_ldc (v := (-1000000001)) E dX12_poke_31 q1208 ?_
      replace h := Option.some.inj h
      subst h
      refine v_widen (k' := 0) (n' := 0) (Nat.le_of_ble_eq_true rfl) (Nat.le_of_ble_eq_true rfl) ?_
      exact v_iret E dX12_poke_33
    · rw [if_neg c39] at h
      refine v_aload_n E dX12_poke_17 rfl ?_
      refine v_iload_n E dX12_poke_18 rfl ?_
      refine v_iload_n E dX12_poke_19 rfl ?_
      replace h := bnd_e h
      obtain ⟨r3, er3, h⟩ := h
      refine v_callV (na := 2) (As := [vI a1, vI a3]) (rest := []) (ci := 12) (q := (RX12, TX12, 20)) E gw12_290 (by decide +kernel) rfl rfl (by decide) (kX12_isStep l er3).2 (kX12_isStep l er3).1 rfl rfl dX12_poke_20 ⟨Nat.le_of_ble_eq_true rfl, Nat.le_of_ble_eq_true rfl⟩ ⟨(Nat.le_of_ble_eq_true rfl), (Nat.le_of_ble_eq_true rfl)⟩ (Nat.le_of_ble_eq_true rfl) ?_
      refine v_if_eq (tgt := 31) E dX12_poke_23 (by decide) (fun c38 => ?_) (fun c38 => ?_)
      · rw [if_pos c38] at h
        refine v_ldc (v := (-1000000001)) E dX12_poke_31 q1208 ?_
        replace h := Option.some.inj h
        subst h
        refine v_widen (k' := 0) (n' := 0) (Nat.le_of_ble_eq_true rfl) (Nat.le_of_ble_eq_true rfl) ?_
        exact v_iret E dX12_poke_33
      · rw [if_neg c38] at h
        refine v_iload_n E dX12_poke_26 rfl ?_
        refine v_iload_n E dX12_poke_27 rfl ?_
        refine v_icmp_ne (tgt := 34) E dX12_poke_28 (by decide) (fun c37 => ?_) (fun c37 => ?_)
        · rw [if_neg c37] at h
          refine v_iload E dX12_poke_34 rfl ?_
          refine v_i2l E dX12_poke_36 ?_
          refine v_lconst (v := 0) E dX12_poke_37 (by decide) ?_
          refine v_lconst (v := 1) E dX12_poke_38 (by decide) ?_
          replace h := bnd_e h
          obtain ⟨r4, er4, h⟩ := h
          refine v_callS (na := 3) (As := [vJ ((a4 : Int32).toInt64), vJ 0, vJ 1]) (rest := []) E gw12_55 (by decide +kernel) (kX12_in l er4) rfl rfl dX12_poke_39 ⟨Nat.le_of_ble_eq_true rfl, Nat.le_of_ble_eq_true rfl⟩ ⟨(Nat.le_of_ble_eq_true rfl), (Nat.le_of_ble_eq_true rfl)⟩ (Nat.le_of_ble_eq_true rfl) ?_
          refine v_if_ne (tgt := 48) E dX12_poke_42 (by decide) (fun c36 => ?_) (fun c36 => ?_)
          · rw [if_neg c36] at h
            refine v_aload_n E dX12_poke_48 rfl ?_
            refine v_iload_n E dX12_poke_49 rfl ?_
            replace h := bnd_e h
            obtain ⟨r5, er5, h⟩ := h
            refine v_callV (na := 1) (As := [vI a1]) (rest := []) (ci := 12) (q := (RX12, TX12, 20)) E gw12_59 (by decide +kernel) rfl rfl (by decide) (kX12_size l er5).2 (kX12_size l er5).1 rfl rfl dX12_poke_50 ⟨Nat.le_of_ble_eq_true rfl, Nat.le_of_ble_eq_true rfl⟩ ⟨(Nat.le_of_ble_eq_true rfl), (Nat.le_of_ble_eq_true rfl)⟩ (Nat.le_of_ble_eq_true rfl) ?_
            refine v_iconst (v := 2) E dX12_poke_53 (by decide) ?_
            refine v_iadd E dX12_poke_54 ?_
            refine v_bipush (v := 8) E dX12_poke_55 (by decide) ?_
            refine v_icmp_le (tgt := 63) E dX12_poke_57 (by decide) (fun c35 => ?_) (fun c35 => ?_)
            · rw [if_pos c35] at h
              refine v_aload_n E dX12_poke_63 rfl ?_
              replace h := bnd_e h
              obtain ⟨r6, er6, h⟩ := h
              refine v_callV (na := 0) (As := []) (rest := []) (ci := 12) (q := (RX12, TX12, 20)) E gw12_93 (by decide +kernel) rfl rfl (by decide) (kX12_minds l er6).2 (kX12_minds l er6).1 rfl rfl dX12_poke_64 ⟨Nat.le_of_ble_eq_true rfl, Nat.le_of_ble_eq_true rfl⟩ ⟨(Nat.le_of_ble_eq_true rfl), (Nat.le_of_ble_eq_true rfl)⟩ (Nat.le_of_ble_eq_true rfl) ?_
              refine v_aload_n E dX12_poke_67 rfl ?_
              refine v_iconst (v := 0) E dX12_poke_68 (by decide) ?_
              replace h := bnd_e h
              obtain ⟨A7, eA7, h⟩ := h
              refine p12_67 E eA7 dX12_poke_69 ?_
              refine v_iconst (v := 0) E dX12_poke_72 (by decide) ?_
              refine v_istore (lv' := [some (vR (some o1)), some (vI a1), some (vI a2), some (vI a3), some (vI a4), some (vI 0), none]) E dX12_poke_73 (by decide) rfl ?_
              replace h := bnd_e h
              obtain ⟨t9, et9, h⟩ := h
              refine iter_V (S := Int32 × AH) (T := AH) (Ph := fun s8 => V p l e { frames := 2, cells := 0, slots := 0, locals := 47 } s m ar below meth c (MQ below (Qd base D cy (some (vI r.1)) r.2) ar s 0 0 (fun q => base ≤ q)) base D cy 7 75 [some (vR (some o1)), some (vI a1), some (vI a2), some (vI a3), some (vI a4), some (vI s8.1), none] [] s8.2 0 0) (Pt := fun t9 => V p l e { frames := 2, cells := 0, slots := 0, locals := 47 } s m ar below meth c (MQ below (Qd base D cy (some (vI r.1)) r.2) ar s 0 0 (fun q => base ≤ q)) base D cy 7 167 [some (vR (some o1)), some (vI a1), none, none, none, none, none] [] t9 0 0) et9 (fun s8 w10 h hx => ?_) ?_
              · try dsimp only at h
                refine v_iload E dX12_poke_75 rfl ?_
                refine v_iconst (v := 2) E dX12_poke_77 (by decide) ?_
                refine v_aload_n E dX12_poke_78 rfl ?_
                refine v_iload_n E dX12_poke_79 rfl ?_
                replace h := bnd_e h
                obtain ⟨r11, er11, h⟩ := h
                refine v_callV (na := 1) (As := [vI a1]) (rest := [vI 2, vI s8.1]) (ci := 12) (q := (RX12, TX12, 20)) E gw12_59 (by decide +kernel) rfl rfl (by decide) (kX12_size l er11).2 (kX12_size l er11).1 rfl rfl dX12_poke_80 ⟨Nat.le_of_ble_eq_true rfl, Nat.le_of_ble_eq_true rfl⟩ ⟨(Nat.le_of_ble_eq_true rfl), (Nat.le_of_ble_eq_true rfl)⟩ (Nat.le_of_ble_eq_true rfl) ?_
                refine v_imul E dX12_poke_83 ?_
                refine v_icmp_ge (tgt := 167) E dX12_poke_84 (by decide) (fun c32 => ?_) (fun c32 => ?_)
                · rw [if_pos c32] at h
                  refine v_drop (lv' := [some (vR (some o1)), some (vI a1), none, none, none, none, none]) [2, 3, 4, 5] rfl ?_
                  replace h := Option.some.inj h
                  subst h
                  exact hx
                · rw [if_neg c32] at h
                  refine v_aload_n E dX12_poke_87 rfl ?_
                  refine v_aload_n E dX12_poke_88 rfl ?_
                  refine v_iload_n E dX12_poke_89 rfl ?_
                  refine v_iload E dX12_poke_90 rfl ?_
                  replace h := bnd_e h
                  obtain ⟨r12, er12, h⟩ := h
                  refine v_callV (na := 2) (As := [vI a1, vI s8.1]) (rest := [vR (some o1)]) (ci := 12) (q := (RX12, TX12, 20)) E gw12_63 (by decide +kernel) rfl rfl (by decide) (kX12_letterAt l er12).2 (kX12_letterAt l er12).1 rfl rfl dX12_poke_92 ⟨Nat.le_of_ble_eq_true rfl, Nat.le_of_ble_eq_true rfl⟩ ⟨(Nat.le_of_ble_eq_true rfl), (Nat.le_of_ble_eq_true rfl)⟩ (Nat.le_of_ble_eq_true rfl) ?_
                  replace h := bnd_e h
                  obtain ⟨r13, er13, h⟩ := h
                  refine v_callV (na := 1) (As := [vI r12]) (rest := []) (ci := 12) (q := (RX12, TX12, 20)) E gw12_96 (by decide +kernel) rfl rfl (by decide) (kX12_comes l er13).2 (kX12_comes l er13).1 rfl rfl dX12_poke_95 ⟨Nat.le_of_ble_eq_true rfl, Nat.le_of_ble_eq_true rfl⟩ ⟨(Nat.le_of_ble_eq_true rfl), (Nat.le_of_ble_eq_true rfl)⟩ (Nat.le_of_ble_eq_true rfl) ?_
                  refine v_iload E dX12_poke_98 rfl ?_
                  refine v_iload_n E dX12_poke_100 rfl ?_
                  refine jp_use h (fun K14 eK14 h => ?_)
                  have hK14 : ∀ x31 : AH, K14 x31 = some w10 → V p l e { frames := 2, cells := 0, slots := 0, locals := 47 } s m ar below meth c (MQ below (Qd base D cy (some (vI r.1)) r.2) ar s 0 0 (fun q => base ≤ q)) base D cy 7 161 [some (vR (some o1)), some (vI a1), some (vI a2), some (vI a3), some (vI a4), some (vI s8.1), none] [] x31 0 0 := by
                    intro x31 h
                    rw [eK14] at h
                    try dsimp only at h
                    refine v_iinc (v := (s8.1 + 1)) (lv' := [some (vR (some o1)), some (vI a1), some (vI a2), some (vI a3), some (vI a4), some (vI (s8.1 + 1)), none]) E dX12_poke_161 rfl (by rfl) (by decide) rfl ?_
                    refine v_goto (tgt := 75) E dX12_poke_164 (by decide) ?_
                    replace h := Option.some.inj h
                    subst h
                    exact hx
                  refine jp_use h (fun K15 eK15 h => ?_)
                  have hK15 : ∀ x18 : Unit, K15 x18 = some w10 → V p l e { frames := 2, cells := 0, slots := 0, locals := 47 } s m ar below meth c (MQ below (Qd base D cy (some (vI r.1)) r.2) ar s 0 0 (fun q => base ≤ q)) base D cy 7 110 [some (vR (some o1)), some (vI a1), some (vI a2), some (vI a3), some (vI a4), some (vI s8.1), none] [] r13 0 0 := by
                    intro x18 h
                    rw [eK15] at h
                    try dsimp only at h
                    refine v_iload E dX12_poke_110 rfl ?_
                    refine v_iload_n E dX12_poke_112 rfl ?_
                    refine jp1_use h (fun K19 eK19 h => ?_)
                    have hK19 : ∀ x22 : Int32, K19 x22 = some w10 → V p l e { frames := 2, cells := 0, slots := 0, locals := 47 } s m ar below meth c (MQ below (Qd base D cy (some (vI r.1)) r.2) ar s 0 0 (fun q => base ≤ q)) base D cy 7 127 [some (vR (some o1)), some (vI a1), some (vI a2), some (vI a3), some (vI a4), some (vI s8.1), none] [vI x22] r13 0 0 := by
                      intro x22 h
                      rw [eK19] at h
                      try dsimp only at h
                      refine v_istore (lv' := [some (vR (some o1)), some (vI a1), some (vI a2), some (vI a3), some (vI a4), some (vI s8.1), some (vI x22)]) E dX12_poke_127 (by decide) rfl ?_
                      refine v_aload_n E dX12_poke_129 rfl ?_
                      refine v_iload E dX12_poke_130 rfl ?_
                      refine jp1_use h (fun K23 eK23 h => ?_)
                      have hK23 : ∀ x25 : Int32, K23 x25 = some w10 → V p l e { frames := 2, cells := 0, slots := 0, locals := 47 } s m ar below meth c (MQ below (Qd base D cy (some (vI r.1)) r.2) ar s 0 0 (fun q => base ≤ q)) base D cy 7 142 [some (vR (some o1)), some (vI a1), some (vI a2), some (vI a3), some (vI a4), some (vI s8.1), some (vI x22)] [vI x25, vR (some o1)] r13 0 0 := by
                        intro x25 h
                        rw [eK23] at h
                        try dsimp only at h
                        replace h := bnd_e h
                        obtain ⟨r26, er26, h⟩ := h
                        refine v_callV (na := 1) (As := [vI x25]) (rest := []) (ci := 12) (q := (RX12, TX12, 20)) E gw12_96 (by decide +kernel) rfl rfl (by decide) (kX12_comes l er26).2 (kX12_comes l er26).1 rfl rfl dX12_poke_142 ⟨Nat.le_of_ble_eq_true rfl, Nat.le_of_ble_eq_true rfl⟩ ⟨(Nat.le_of_ble_eq_true rfl), (Nat.le_of_ble_eq_true rfl)⟩ (Nat.le_of_ble_eq_true rfl) ?_
                        refine v_aload_n E dX12_poke_145 rfl ?_
                        refine v_iload E dX12_poke_146 rfl ?_
                        refine jp1_use h (fun K27 eK27 h => ?_)
                        have hK27 : ∀ x29 : Int32, K27 x29 = some w10 → V p l e { frames := 2, cells := 0, slots := 0, locals := 47 } s m ar below meth c (MQ below (Qd base D cy (some (vI r.1)) r.2) ar s 0 0 (fun q => base ≤ q)) base D cy 7 158 [some (vR (some o1)), some (vI a1), some (vI a2), some (vI a3), some (vI a4), some (vI s8.1), none] [vI x29, vR (some o1)] r26 0 0 := by
                          intro x29 h
                          rw [eK27] at h
                          try dsimp only at h
                          replace h := bnd_e h
                          obtain ⟨r30, er30, h⟩ := h
                          refine v_callV (na := 1) (As := [vI x29]) (rest := []) (ci := 12) (q := (RX12, TX12, 20)) E gw12_96 (by decide +kernel) rfl rfl (by decide) (kX12_comes l er30).2 (kX12_comes l er30).1 rfl rfl dX12_poke_158 ⟨Nat.le_of_ble_eq_true rfl, Nat.le_of_ble_eq_true rfl⟩ ⟨(Nat.le_of_ble_eq_true rfl), (Nat.le_of_ble_eq_true rfl)⟩ (Nat.le_of_ble_eq_true rfl) ?_
                          exact hK14 r30 h
                        refine v_if_eq (tgt := 156) E dX12_poke_148 (by decide) (fun c28 => ?_) (fun c28 => ?_)
                        · rw [if_pos c28] at h
                          refine v_bipush (v := 11) E dX12_poke_156 (by decide) ?_
                          refine v_drop (lv' := [some (vR (some o1)), some (vI a1), some (vI a2), some (vI a3), some (vI a4), some (vI s8.1), none]) [6] rfl ?_
                          exact hK27 11 h
                        · rw [if_neg c28] at h
                          refine v_bipush (v := 10) E dX12_poke_151 (by decide) ?_
                          refine v_goto (tgt := 158) E dX12_poke_153 (by decide) ?_
                          refine v_drop (lv' := [some (vR (some o1)), some (vI a1), some (vI a2), some (vI a3), some (vI a4), some (vI s8.1), none]) [6] rfl ?_
                          exact hK27 10 h
                      refine v_if_eq (tgt := 140) E dX12_poke_132 (by decide) (fun c24 => ?_) (fun c24 => ?_)
                      · rw [if_pos c24] at h
                        refine v_bipush (v := 10) E dX12_poke_140 (by decide) ?_
                        exact hK23 10 h
                      · rw [if_neg c24] at h
                        refine v_bipush (v := 11) E dX12_poke_135 (by decide) ?_
                        refine v_goto (tgt := 142) E dX12_poke_137 (by decide) ?_
                        exact hK23 11 h
                    refine v_icmp_ne (tgt := 126) E dX12_poke_113 (by decide) (fun c21 => ?_) (fun c21 => ?_)
                    · rw [if_neg c21] at h
                      refine v_iconst (v := 0) E dX12_poke_126 (by decide) ?_
                      exact hK19 0 h
                    · rw [if_pos c21] at h
                      refine v_iload E dX12_poke_116 rfl ?_
                      refine v_iconst (v := 1) E dX12_poke_118 (by decide) ?_
                      refine v_icmp_ne (tgt := 126) E dX12_poke_119 (by decide) (fun c20 => ?_) (fun c20 => ?_)
                      · rw [if_neg c20] at h
                        refine v_iconst (v := 0) E dX12_poke_126 (by decide) ?_
                        exact hK19 0 h
                      · rw [if_pos c20] at h
                        refine v_iconst (v := 1) E dX12_poke_122 (by decide) ?_
                        refine v_goto (tgt := 127) E dX12_poke_123 (by decide) ?_
                        exact hK19 1 h
                  refine v_icmp_eq (tgt := 110) E dX12_poke_101 (by decide) (fun c17 => ?_) (fun c17 => ?_)
                  · rw [if_pos c17] at h
                    exact hK15 () h
                  · rw [if_neg c17] at h
                    refine v_iload E dX12_poke_104 rfl ?_
                    refine v_iload_n E dX12_poke_106 rfl ?_
                    refine v_icmp_ne (tgt := 161) E dX12_poke_107 (by decide) (fun c16 => ?_) (fun c16 => ?_)
                    · rw [if_neg c16] at h
                      exact hK14 r13 h
                    · rw [if_pos c16] at h
                      exact hK15 () h
              · refine v_aload_n E dX12_poke_167 rfl ?_
                refine v_iload_n E dX12_poke_168 rfl ?_
                replace h := bnd_e h
                obtain ⟨r33, er33, h⟩ := h
                refine v_callV (na := 1) (As := [vI a1]) (rest := []) (ci := 12) (q := (RX12, TX12, 20)) E gw12_73 (by decide +kernel) rfl rfl (by decide) (kX12_lays l er33).2 (kX12_lays l er33).1 rfl rfl dX12_poke_169 ⟨Nat.le_of_ble_eq_true rfl, Nat.le_of_ble_eq_true rfl⟩ ⟨(Nat.le_of_ble_eq_true rfl), (Nat.le_of_ble_eq_true rfl)⟩ (Nat.le_of_ble_eq_true rfl) ?_
                replace h := Option.some.inj h
                subst h
                refine v_widen (k' := 0) (n' := 0) (Nat.le_of_ble_eq_true rfl) (Nat.le_of_ble_eq_true rfl) ?_
                exact v_iret E dX12_poke_172
            · rw [if_neg c35] at h
              refine v_ldc (v := (-1000000004)) E dX12_poke_60 q1093 ?_
              replace h := Option.some.inj h
              subst h
              refine v_widen (k' := 0) (n' := 0) (Nat.le_of_ble_eq_true rfl) (Nat.le_of_ble_eq_true rfl) ?_
              exact v_iret E dX12_poke_62
          · rw [if_pos c36] at h
            refine v_ldc (v := (-1000000002)) E dX12_poke_45 q1092 ?_
            replace h := Option.some.inj h
            subst h
            refine v_widen (k' := 0) (n' := 0) (Nat.le_of_ble_eq_true rfl) (Nat.le_of_ble_eq_true rfl) ?_
            exact v_iret E dX12_poke_47
        · rw [if_pos c37] at h
          refine v_ldc (v := (-1000000001)) E dX12_poke_31 q1208 ?_
          replace h := Option.some.inj h
          subst h
          refine v_widen (k' := 0) (n' := 0) (Nat.le_of_ble_eq_true rfl) (Nat.le_of_ble_eq_true rfl) ?_
          exact v_iret E dX12_poke_33
noncomputable def fX12_unpoke (A0 : AH) (o0 : Option Nat) (a1 : Int32) (a2 : Int32) (a3 : Int32) : Option (Int32 × AH) :=
  (rcv A0 13 o0).bind fun o0 =>
  (fX12_isWord A0 ((some o0)) a1).bind fun r1 =>
  if r1 = 0 then
    some (((-1000000001), A0))
  else
    (fX12_isLetter A0 ((some o0)) a1 a2).bind fun r2 =>
    if r2 = 0 then
      some (((-1000000001), A0))
    else
      (fX12_isLetter A0 ((some o0)) a1 a3).bind fun r3 =>
      if r3 = 0 then
        some (((-1000000001), A0))
      else
        if a2 = a3 then
          some (((-1000000001), A0))
        else
          (fX12_place A0 ((some o0)) a1 a2 0).bind fun r4 =>
          (fX12_place A0 ((some o0)) a1 a2 1).bind fun r5 =>
          (fX12_place A0 ((some o0)) a1 a3 0).bind fun r6 =>
          (fX12_place A0 ((some o0)) a1 a3 1).bind fun r7 =>
          (fX12_areBeside A0 ((some o0)) a1 r4 r6).bind fun r8 =>
          jp (fun (x19 : Int32) =>
            if x19 = 0 then
              some (((-1000000003), A0))
            else
              (fX12_minds A0 ((some o0))).bind fun r20 =>
              (fX12_without r20 ((some o0)) a1 a2 a3).bind fun r21 =>
              some ((r21.1, r21.2))) fun K9 =>
            jp (fun (x14 : Unit) =>
              (fX12_areBeside A0 ((some o0)) a1 r4 r7).bind fun r15 =>
              if r15 = 0 then
                K9 0
              else
                (fX12_areBeside A0 ((some o0)) a1 r5 r6).bind fun r16 =>
                if r16 = 0 then
                  K9 0
                else
                  K9 1) fun K10 =>
              if r8 = 0 then
                K10 ()
              else
                (fX12_areBeside A0 ((some o0)) a1 r5 r7).bind fun r11 =>
                if r11 = 0 then
                  K10 ()
                else
                  K9 1
set_option maxRecDepth 100000 in
set_option maxHeartbeats 4000000 in
theorem kX12_unpoke (l : Launch) {A0 : AH} {o0 : Option Nat} {a1 : Int32} {a2 : Int32} {a3 : Int32} {r : Int32 × AH} (h : fX12_unpoke A0 o0 a1 a2 a3 = some r) : (∃ a, o0 = some a ∧ Hk A0 a = 13) ∧ Cn l yX12_unpoke cX12_unpoke 9 (some .int) 3 71 0 0 [vR o0, vI a1, vI a2, vI a3] A0 (some (vI r.1)) r.2 := by
  unfold fX12_unpoke at h
  replace h := bnd_e h
  obtain ⟨o1, e1, h⟩ := h
  obtain ⟨rfl, hk0⟩ := rcv_e e1
  refine ⟨⟨o1, rfl, hk0⟩, ?_⟩
  refine Cn.of (pad := 5) (lv0 := [some (vR (some o1)), some (vI a1), some (vI a2), some (vI a3), none, none, none, none, none]) (by decide +kernel) (Nat.le_of_ble_eq_true rfl) rfl ?_
  intro p e s m below meth c base D cy E
  generalize (List.map toV [vR (some o1), vI a1, vI a2, vI a3]).toArray = ar at E ⊢
  have E : EN p s m ar meth c D cy RX12 cX12_unpoke 9 (some .int) "unpoke" := E
  refine v_aload_n E dX12_unpoke_0 rfl ?_
  refine v_iload_n E dX12_unpoke_1 rfl ?_
  replace h := bnd_e h
  obtain ⟨r1, er1, h⟩ := h
  refine v_callV (na := 1) (As := [vI a1]) (rest := []) (ci := 12) (q := (RX12, TX12, 20)) E gw12_223 (by decide +kernel) rfl rfl (by decide) (kX12_isWord l er1).2 (kX12_isWord l er1).1 rfl rfl dX12_unpoke_2 ⟨Nat.le_of_ble_eq_true rfl, Nat.le_of_ble_eq_true rfl⟩ ⟨(Nat.le_of_ble_eq_true rfl), (Nat.le_of_ble_eq_true rfl)⟩ (Nat.le_of_ble_eq_true rfl) ?_
  refine v_if_eq (tgt := 31) E dX12_unpoke_5 (by decide) (fun c26 => ?_) (fun c26 => ?_)
  · rw [if_pos c26] at h
    refine v_ldc (v := (-1000000001)) E dX12_unpoke_31 q1208 ?_
    replace h := Option.some.inj h
    subst h
    refine v_widen (k' := 0) (n' := 0) (Nat.le_of_ble_eq_true rfl) (Nat.le_of_ble_eq_true rfl) ?_
    exact v_iret E dX12_unpoke_33
  · rw [if_neg c26] at h
    refine v_aload_n E dX12_unpoke_8 rfl ?_
    refine v_iload_n E dX12_unpoke_9 rfl ?_
    refine v_iload_n E dX12_unpoke_10 rfl ?_
    replace h := bnd_e h
    obtain ⟨r2, er2, h⟩ := h
    refine v_callV (na := 2) (As := [vI a1, vI a2]) (rest := []) (ci := 12) (q := (RX12, TX12, 20)) E gw12_274 (by decide +kernel) rfl rfl (by decide) (kX12_isLetter l er2).2 (kX12_isLetter l er2).1 rfl rfl dX12_unpoke_11 ⟨Nat.le_of_ble_eq_true rfl, Nat.le_of_ble_eq_true rfl⟩ ⟨(Nat.le_of_ble_eq_true rfl), (Nat.le_of_ble_eq_true rfl)⟩ (Nat.le_of_ble_eq_true rfl) ?_
    refine v_if_eq (tgt := 31) E dX12_unpoke_14 (by decide) (fun c25 => ?_) (fun c25 => ?_)
    · rw [if_pos c25] at h
      refine v_ldc (v := (-1000000001)) E dX12_unpoke_31 q1208 ?_
      replace h := Option.some.inj h
      subst h
      refine v_widen (k' := 0) (n' := 0) (Nat.le_of_ble_eq_true rfl) (Nat.le_of_ble_eq_true rfl) ?_
      exact v_iret E dX12_unpoke_33
    · rw [if_neg c25] at h
      refine v_aload_n E dX12_unpoke_17 rfl ?_
      refine v_iload_n E dX12_unpoke_18 rfl ?_
      refine v_iload_n E dX12_unpoke_19 rfl ?_
      replace h := bnd_e h
      obtain ⟨r3, er3, h⟩ := h
      refine v_callV (na := 2) (As := [vI a1, vI a3]) (rest := []) (ci := 12) (q := (RX12, TX12, 20)) E gw12_274 (by decide +kernel) rfl rfl (by decide) (kX12_isLetter l er3).2 (kX12_isLetter l er3).1 rfl rfl dX12_unpoke_20 ⟨Nat.le_of_ble_eq_true rfl, Nat.le_of_ble_eq_true rfl⟩ ⟨(Nat.le_of_ble_eq_true rfl), (Nat.le_of_ble_eq_true rfl)⟩ (Nat.le_of_ble_eq_true rfl) ?_
      refine v_if_eq (tgt := 31) E dX12_unpoke_23 (by decide) (fun c24 => ?_) (fun c24 => ?_)
      · rw [if_pos c24] at h
        refine v_ldc (v := (-1000000001)) E dX12_unpoke_31 q1208 ?_
        replace h := Option.some.inj h
        subst h
        refine v_widen (k' := 0) (n' := 0) (Nat.le_of_ble_eq_true rfl) (Nat.le_of_ble_eq_true rfl) ?_
        exact v_iret E dX12_unpoke_33
      · rw [if_neg c24] at h
        refine v_iload_n E dX12_unpoke_26 rfl ?_
        refine v_iload_n E dX12_unpoke_27 rfl ?_
        refine v_icmp_ne (tgt := 34) E dX12_unpoke_28 (by decide) (fun c23 => ?_) (fun c23 => ?_)
        · rw [if_neg c23] at h
          refine v_aload_n E dX12_unpoke_34 rfl ?_
          refine v_iload_n E dX12_unpoke_35 rfl ?_
          refine v_iload_n E dX12_unpoke_36 rfl ?_
          refine v_iconst (v := 0) E dX12_unpoke_37 (by decide) ?_
          replace h := bnd_e h
          obtain ⟨r4, er4, h⟩ := h
          refine v_callV (na := 3) (As := [vI a1, vI a2, vI 0]) (rest := []) (ci := 12) (q := (RX12, TX12, 20)) E gw12_104 (by decide +kernel) rfl rfl (by decide) (kX12_place l er4).2 (kX12_place l er4).1 rfl rfl dX12_unpoke_38 ⟨Nat.le_of_ble_eq_true rfl, Nat.le_of_ble_eq_true rfl⟩ ⟨(Nat.le_of_ble_eq_true rfl), (Nat.le_of_ble_eq_true rfl)⟩ (Nat.le_of_ble_eq_true rfl) ?_
          refine v_istore (lv' := [some (vR (some o1)), some (vI a1), some (vI a2), some (vI a3), some (vI r4), none, none, none, none]) E dX12_unpoke_41 (by decide) rfl ?_
          refine v_aload_n E dX12_unpoke_43 rfl ?_
          refine v_iload_n E dX12_unpoke_44 rfl ?_
          refine v_iload_n E dX12_unpoke_45 rfl ?_
          refine v_iconst (v := 1) E dX12_unpoke_46 (by decide) ?_
          replace h := bnd_e h
          obtain ⟨r5, er5, h⟩ := h
          refine v_callV (na := 3) (As := [vI a1, vI a2, vI 1]) (rest := []) (ci := 12) (q := (RX12, TX12, 20)) E gw12_104 (by decide +kernel) rfl rfl (by decide) (kX12_place l er5).2 (kX12_place l er5).1 rfl rfl dX12_unpoke_47 ⟨Nat.le_of_ble_eq_true rfl, Nat.le_of_ble_eq_true rfl⟩ ⟨(Nat.le_of_ble_eq_true rfl), (Nat.le_of_ble_eq_true rfl)⟩ (Nat.le_of_ble_eq_true rfl) ?_
          refine v_istore (lv' := [some (vR (some o1)), some (vI a1), some (vI a2), some (vI a3), some (vI r4), some (vI r5), none, none, none]) E dX12_unpoke_50 (by decide) rfl ?_
          refine v_aload_n E dX12_unpoke_52 rfl ?_
          refine v_iload_n E dX12_unpoke_53 rfl ?_
          refine v_iload_n E dX12_unpoke_54 rfl ?_
          refine v_iconst (v := 0) E dX12_unpoke_55 (by decide) ?_
          replace h := bnd_e h
          obtain ⟨r6, er6, h⟩ := h
          refine v_callV (na := 3) (As := [vI a1, vI a3, vI 0]) (rest := []) (ci := 12) (q := (RX12, TX12, 20)) E gw12_104 (by decide +kernel) rfl rfl (by decide) (kX12_place l er6).2 (kX12_place l er6).1 rfl rfl dX12_unpoke_56 ⟨Nat.le_of_ble_eq_true rfl, Nat.le_of_ble_eq_true rfl⟩ ⟨(Nat.le_of_ble_eq_true rfl), (Nat.le_of_ble_eq_true rfl)⟩ (Nat.le_of_ble_eq_true rfl) ?_
          refine v_istore (lv' := [some (vR (some o1)), some (vI a1), some (vI a2), some (vI a3), some (vI r4), some (vI r5), some (vI r6), none, none]) E dX12_unpoke_59 (by decide) rfl ?_
          refine v_aload_n E dX12_unpoke_61 rfl ?_
          refine v_iload_n E dX12_unpoke_62 rfl ?_
          refine v_iload_n E dX12_unpoke_63 rfl ?_
          refine v_iconst (v := 1) E dX12_unpoke_64 (by decide) ?_
          replace h := bnd_e h
          obtain ⟨r7, er7, h⟩ := h
          refine v_callV (na := 3) (As := [vI a1, vI a3, vI 1]) (rest := []) (ci := 12) (q := (RX12, TX12, 20)) E gw12_104 (by decide +kernel) rfl rfl (by decide) (kX12_place l er7).2 (kX12_place l er7).1 rfl rfl dX12_unpoke_65 ⟨Nat.le_of_ble_eq_true rfl, Nat.le_of_ble_eq_true rfl⟩ ⟨(Nat.le_of_ble_eq_true rfl), (Nat.le_of_ble_eq_true rfl)⟩ (Nat.le_of_ble_eq_true rfl) ?_
          refine v_istore (lv' := [some (vR (some o1)), some (vI a1), some (vI a2), some (vI a3), some (vI r4), some (vI r5), some (vI r6), some (vI r7), none]) E dX12_unpoke_68 (by decide) rfl ?_
          refine v_aload_n E dX12_unpoke_70 rfl ?_
          refine v_iload_n E dX12_unpoke_71 rfl ?_
          refine v_iload E dX12_unpoke_72 rfl ?_
          refine v_iload E dX12_unpoke_74 rfl ?_
          replace h := bnd_e h
          obtain ⟨r8, er8, h⟩ := h
          refine v_callV (na := 3) (As := [vI a1, vI r4, vI r6]) (rest := []) (ci := 12) (q := (RX12, TX12, 20)) E gw12_214 (by decide +kernel) rfl rfl (by decide) (kX12_areBeside l er8).2 (kX12_areBeside l er8).1 rfl rfl dX12_unpoke_76 ⟨Nat.le_of_ble_eq_true rfl, Nat.le_of_ble_eq_true rfl⟩ ⟨(Nat.le_of_ble_eq_true rfl), (Nat.le_of_ble_eq_true rfl)⟩ (Nat.le_of_ble_eq_true rfl) ?_
          refine jp_use h (fun K9 eK9 h => ?_)
          have hK9 : ∀ x19 : Int32, K9 x19 = some r → V p l e { frames := 3, cells := 0, slots := 0, locals := 71 } s m ar below meth c (MQ below (Qd base D cy (some (vI r.1)) r.2) ar s 0 0 (fun q => base ≤ q)) base D cy 9 123 [some (vR (some o1)), some (vI a1), some (vI a2), some (vI a3), none, none, none, none, none] [vI x19] A0 0 0 := by
            intro x19 h
            rw [eK9] at h
            try dsimp only at h
            refine v_istore (lv' := [some (vR (some o1)), some (vI a1), some (vI a2), some (vI a3), none, none, none, none, some (vI x19)]) E dX12_unpoke_123 (by decide) rfl ?_
            refine v_iload E dX12_unpoke_125 rfl ?_
            refine v_if_ne (tgt := 134) E dX12_unpoke_127 (by decide) (fun c22 => ?_) (fun c22 => ?_)
            · rw [if_neg c22] at h
              refine v_aload_n E dX12_unpoke_134 rfl ?_
              replace h := bnd_e h
              obtain ⟨r20, er20, h⟩ := h
              refine v_callV (na := 0) (As := []) (rest := []) (ci := 12) (q := (RX12, TX12, 20)) E gw12_93 (by decide +kernel) rfl rfl (by decide) (kX12_minds l er20).2 (kX12_minds l er20).1 rfl rfl dX12_unpoke_135 ⟨Nat.le_of_ble_eq_true rfl, Nat.le_of_ble_eq_true rfl⟩ ⟨(Nat.le_of_ble_eq_true rfl), (Nat.le_of_ble_eq_true rfl)⟩ (Nat.le_of_ble_eq_true rfl) ?_
              refine v_aload_n E dX12_unpoke_138 rfl ?_
              refine v_iload_n E dX12_unpoke_139 rfl ?_
              refine v_iload_n E dX12_unpoke_140 rfl ?_
              refine v_iload_n E dX12_unpoke_141 rfl ?_
              replace h := bnd_e h
              obtain ⟨r21, er21, h⟩ := h
              refine v_callV (na := 3) (As := [vI a1, vI a2, vI a3]) (rest := []) (ci := 12) (q := (RX12, TX12, 20)) E gw12_293 (by decide +kernel) rfl rfl (by decide) (kX12_without l er21).2 (kX12_without l er21).1 rfl rfl dX12_unpoke_142 ⟨Nat.le_of_ble_eq_true rfl, Nat.le_of_ble_eq_true rfl⟩ ⟨(Nat.le_of_ble_eq_true rfl), (Nat.le_of_ble_eq_true rfl)⟩ (Nat.le_of_ble_eq_true rfl) ?_
              replace h := Option.some.inj h
              subst h
              refine v_widen (k' := 0) (n' := 0) (Nat.le_of_ble_eq_true rfl) (Nat.le_of_ble_eq_true rfl) ?_
              exact v_iret E dX12_unpoke_145
            · rw [if_pos c22] at h
              refine v_ldcw (v := (-1000000003)) E dX12_unpoke_130 q1386 ?_
              replace h := Option.some.inj h
              subst h
              refine v_widen (k' := 0) (n' := 0) (Nat.le_of_ble_eq_true rfl) (Nat.le_of_ble_eq_true rfl) ?_
              exact v_iret E dX12_unpoke_133
          refine jp_use h (fun K10 eK10 h => ?_)
          have hK10 : ∀ x14 : Unit, K10 x14 = some r → V p l e { frames := 3, cells := 0, slots := 0, locals := 71 } s m ar below meth c (MQ below (Qd base D cy (some (vI r.1)) r.2) ar s 0 0 (fun q => base ≤ q)) base D cy 9 94 [some (vR (some o1)), some (vI a1), some (vI a2), some (vI a3), some (vI r4), some (vI r5), some (vI r6), some (vI r7), none] [] A0 0 0 := by
            intro x14 h
            rw [eK10] at h
            try dsimp only at h
            refine v_aload_n E dX12_unpoke_94 rfl ?_
            refine v_iload_n E dX12_unpoke_95 rfl ?_
            refine v_iload E dX12_unpoke_96 rfl ?_
            refine v_iload E dX12_unpoke_98 rfl ?_
            replace h := bnd_e h
            obtain ⟨r15, er15, h⟩ := h
            refine v_callV (na := 3) (As := [vI a1, vI r4, vI r7]) (rest := []) (ci := 12) (q := (RX12, TX12, 20)) E gw12_214 (by decide +kernel) rfl rfl (by decide) (kX12_areBeside l er15).2 (kX12_areBeside l er15).1 rfl rfl dX12_unpoke_100 ⟨Nat.le_of_ble_eq_true rfl, Nat.le_of_ble_eq_true rfl⟩ ⟨(Nat.le_of_ble_eq_true rfl), (Nat.le_of_ble_eq_true rfl)⟩ (Nat.le_of_ble_eq_true rfl) ?_
            refine v_if_eq (tgt := 122) E dX12_unpoke_103 (by decide) (fun c18 => ?_) (fun c18 => ?_)
            · rw [if_pos c18] at h
              refine v_iconst (v := 0) E dX12_unpoke_122 (by decide) ?_
              refine v_drop (lv' := [some (vR (some o1)), some (vI a1), some (vI a2), some (vI a3), none, none, none, none, none]) [4, 5, 6, 7] rfl ?_
              exact hK9 0 h
            · rw [if_neg c18] at h
              refine v_aload_n E dX12_unpoke_106 rfl ?_
              refine v_iload_n E dX12_unpoke_107 rfl ?_
              refine v_iload E dX12_unpoke_108 rfl ?_
              refine v_iload E dX12_unpoke_110 rfl ?_
              replace h := bnd_e h
              obtain ⟨r16, er16, h⟩ := h
              refine v_callV (na := 3) (As := [vI a1, vI r5, vI r6]) (rest := []) (ci := 12) (q := (RX12, TX12, 20)) E gw12_214 (by decide +kernel) rfl rfl (by decide) (kX12_areBeside l er16).2 (kX12_areBeside l er16).1 rfl rfl dX12_unpoke_112 ⟨Nat.le_of_ble_eq_true rfl, Nat.le_of_ble_eq_true rfl⟩ ⟨(Nat.le_of_ble_eq_true rfl), (Nat.le_of_ble_eq_true rfl)⟩ (Nat.le_of_ble_eq_true rfl) ?_
              refine v_if_eq (tgt := 122) E dX12_unpoke_115 (by decide) (fun c17 => ?_) (fun c17 => ?_)
              · rw [if_pos c17] at h
                refine v_iconst (v := 0) E dX12_unpoke_122 (by decide) ?_
                refine v_drop (lv' := [some (vR (some o1)), some (vI a1), some (vI a2), some (vI a3), none, none, none, none, none]) [4, 5, 6, 7] rfl ?_
                exact hK9 0 h
              · rw [if_neg c17] at h
                refine v_iconst (v := 1) E dX12_unpoke_118 (by decide) ?_
                refine v_goto (tgt := 123) E dX12_unpoke_119 (by decide) ?_
                refine v_drop (lv' := [some (vR (some o1)), some (vI a1), some (vI a2), some (vI a3), none, none, none, none, none]) [4, 5, 6, 7] rfl ?_
                exact hK9 1 h
          refine v_if_eq (tgt := 94) E dX12_unpoke_79 (by decide) (fun c13 => ?_) (fun c13 => ?_)
          · rw [if_pos c13] at h
            exact hK10 () h
          · rw [if_neg c13] at h
            refine v_aload_n E dX12_unpoke_82 rfl ?_
            refine v_iload_n E dX12_unpoke_83 rfl ?_
            refine v_iload E dX12_unpoke_84 rfl ?_
            refine v_iload E dX12_unpoke_86 rfl ?_
            replace h := bnd_e h
            obtain ⟨r11, er11, h⟩ := h
            refine v_callV (na := 3) (As := [vI a1, vI r5, vI r7]) (rest := []) (ci := 12) (q := (RX12, TX12, 20)) E gw12_214 (by decide +kernel) rfl rfl (by decide) (kX12_areBeside l er11).2 (kX12_areBeside l er11).1 rfl rfl dX12_unpoke_88 ⟨Nat.le_of_ble_eq_true rfl, Nat.le_of_ble_eq_true rfl⟩ ⟨(Nat.le_of_ble_eq_true rfl), (Nat.le_of_ble_eq_true rfl)⟩ (Nat.le_of_ble_eq_true rfl) ?_
            refine v_if_ne (tgt := 118) E dX12_unpoke_91 (by decide) (fun c12 => ?_) (fun c12 => ?_)
            · rw [if_neg c12] at h
              refine v_iconst (v := 1) E dX12_unpoke_118 (by decide) ?_
              refine v_goto (tgt := 123) E dX12_unpoke_119 (by decide) ?_
              refine v_drop (lv' := [some (vR (some o1)), some (vI a1), some (vI a2), some (vI a3), none, none, none, none, none]) [4, 5, 6, 7] rfl ?_
              exact hK9 1 h
            · rw [if_pos c12] at h
              exact hK10 () h
        · rw [if_pos c23] at h
          refine v_ldc (v := (-1000000001)) E dX12_unpoke_31 q1208 ?_
          replace h := Option.some.inj h
          subst h
          refine v_widen (k' := 0) (n' := 0) (Nat.le_of_ble_eq_true rfl) (Nat.le_of_ble_eq_true rfl) ?_
          exact v_iret E dX12_unpoke_33
noncomputable def fX12_swaps (A0 : AH) (o0 : Option Nat) (a1 : Int32) (a2 : Int32) (a3 : Int32) : Option (AH) :=
  (rcv A0 13 o0).bind fun o0 =>
  (gR A0 13 384 ((some o0))).bind fun v1 =>
  (aI A0 14 v1 ((((1 + (18 * a1)) + 2) + a2))).bind fun v2 =>
  (gR A0 13 384 ((some o0))).bind fun v3 =>
  (gR A0 13 384 ((some o0))).bind fun v4 =>
  (aI A0 14 v4 ((((1 + (18 * a1)) + 2) + a3))).bind fun v5 =>
  (sI A0 14 v3 ((((1 + (18 * a1)) + 2) + a2)) v5).bind fun A6 =>
  (gR A6 13 384 ((some o0))).bind fun v7 =>
  (sI A6 14 v7 ((((1 + (18 * a1)) + 2) + a3)) v2).bind fun A8 =>
  some A8
set_option maxRecDepth 100000 in
set_option maxHeartbeats 4000000 in
theorem kX12_swaps (l : Launch) {A0 : AH} {o0 : Option Nat} {a1 : Int32} {a2 : Int32} {a3 : Int32} {r : AH} (h : fX12_swaps A0 o0 a1 a2 a3 = some r) : (∃ a, o0 = some a ∧ Hk A0 a = 13) ∧ Cn l yX12_swaps cX12_swaps 6 none 0 0 0 0 [vR o0, vI a1, vI a2, vI a3] A0 none r := by
  unfold fX12_swaps at h
  replace h := bnd_e h
  obtain ⟨o1, e1, h⟩ := h
  obtain ⟨rfl, hk0⟩ := rcv_e e1
  refine ⟨⟨o1, rfl, hk0⟩, ?_⟩
  refine Cn.of (pad := 2) (lv0 := [some (vR (some o1)), some (vI a1), some (vI a2), some (vI a3), none, none]) (by decide +kernel) (Nat.le_of_ble_eq_true rfl) rfl ?_
  intro p e s m below meth c base D cy E
  generalize (List.map toV [vR (some o1), vI a1, vI a2, vI a3]).toArray = ar at E ⊢
  have E : EN p s m ar meth c D cy RX12 cX12_swaps 6 none "swaps" := E
  refine v_iconst (v := 1) E dX12_swaps_0 (by decide) ?_
  refine v_bipush (v := 18) E dX12_swaps_1 (by decide) ?_
  refine v_iload_n E dX12_swaps_3 rfl ?_
  refine v_imul E dX12_swaps_4 ?_
  refine v_iadd E dX12_swaps_5 ?_
  refine v_iconst (v := 2) E dX12_swaps_6 (by decide) ?_
  refine v_iadd E dX12_swaps_7 ?_
  refine v_istore (lv' := [some (vR (some o1)), some (vI a1), some (vI a2), some (vI a3), some (vI ((1 + (18 * a1)) + 2)), none]) E dX12_swaps_8 (by decide) rfl ?_
  refine v_aload_n E dX12_swaps_10 rfl ?_
  replace h := bnd_e h
  obtain ⟨v1, ev1, h⟩ := h
  refine g12_7 E ev1 dX12_swaps_11 ?_
  refine v_iload E dX12_swaps_14 rfl ?_
  refine v_iload_n E dX12_swaps_16 rfl ?_
  refine v_iadd E dX12_swaps_17 ?_
  replace h := bnd_e h
  obtain ⟨v2, ev2, h⟩ := h
  refine v_iaload E ev2 dX12_swaps_18 ?_
  refine v_istore (lv' := [some (vR (some o1)), some (vI a1), some (vI a2), some (vI a3), some (vI ((1 + (18 * a1)) + 2)), some (vI v2)]) E dX12_swaps_19 (by decide) rfl ?_
  refine v_aload_n E dX12_swaps_21 rfl ?_
  replace h := bnd_e h
  obtain ⟨v3, ev3, h⟩ := h
  refine g12_7 E ev3 dX12_swaps_22 ?_
  refine v_iload E dX12_swaps_25 rfl ?_
  refine v_iload_n E dX12_swaps_27 rfl ?_
  refine v_iadd E dX12_swaps_28 ?_
  refine v_aload_n E dX12_swaps_29 rfl ?_
  replace h := bnd_e h
  obtain ⟨v4, ev4, h⟩ := h
  refine g12_7 E ev4 dX12_swaps_30 ?_
  refine v_iload E dX12_swaps_33 rfl ?_
  refine v_iload_n E dX12_swaps_35 rfl ?_
  refine v_iadd E dX12_swaps_36 ?_
  replace h := bnd_e h
  obtain ⟨v5, ev5, h⟩ := h
  refine v_iaload E ev5 dX12_swaps_37 ?_
  replace h := bnd_e h
  obtain ⟨A6, eA6, h⟩ := h
  refine v_iastore E eA6 dX12_swaps_38 ?_
  refine v_aload_n E dX12_swaps_39 rfl ?_
  replace h := bnd_e h
  obtain ⟨v7, ev7, h⟩ := h
  refine g12_7 E ev7 dX12_swaps_40 ?_
  refine v_iload E dX12_swaps_43 rfl ?_
  refine v_iload_n E dX12_swaps_45 rfl ?_
  refine v_iadd E dX12_swaps_46 ?_
  refine v_iload E dX12_swaps_47 rfl ?_
  replace h := bnd_e h
  obtain ⟨A8, eA8, h⟩ := h
  refine v_iastore E eA8 dX12_swaps_49 ?_
  replace h := Option.some.inj h
  subst h
  refine v_widen (k' := 0) (n' := 0) (Nat.le_of_ble_eq_true rfl) (Nat.le_of_ble_eq_true rfl) ?_
  exact v_vret E dX12_swaps_50
noncomputable def fX12_slide (A0 : AH) (o0 : Option Nat) (a1 : Int32) (a2 : Int32) (a3 : Int32) (a4 : Int32) : Option (Int32 × AH) :=
  (rcv A0 13 o0).bind fun o0 =>
  (fX12_isWord A0 ((some o0)) a1).bind fun r1 =>
  if r1 = 0 then
    some (((-1000000001), A0))
  else
    (fX12_isLetter A0 ((some o0)) a1 a2).bind fun r2 =>
    if r2 = 0 then
      some (((-1000000001), A0))
    else
      (fX12_isLetter A0 ((some o0)) a1 a3).bind fun r3 =>
      if r3 = 0 then
        some (((-1000000001), A0))
      else
        (fX12_isLetter A0 ((some o0)) a1 a4).bind fun r4 =>
        if r4 = 0 then
          some (((-1000000001), A0))
        else
          if a2 = a3 then
            some (((-1000000001), A0))
          else
            if a2 = a4 then
              some (((-1000000001), A0))
            else
              if a3 = a4 then
                some (((-1000000001), A0))
              else
                (iter (S := Int32 × AH) (T := (AH) ⊕ (Int32 × AH)) (fun s5 =>
                    if 8 ≤ s5.1 then
                      some (.inr (.inl s5.2))
                    else
                      (dvI s5.1 4).bind fun v8 =>
                      (dvI s5.1 2).bind fun v9 =>
                      (rmI v9 2).bind fun v10 =>
                      (rmI s5.1 2).bind fun v11 =>
                      (fX12_place s5.2 ((some o0)) a1 a2 v8).bind fun r12 =>
                      (fX12_place s5.2 ((some o0)) a1 a3 v10).bind fun r13 =>
                      (fX12_place s5.2 ((some o0)) a1 a3 ((1 - v10))).bind fun r14 =>
                      (fX12_place s5.2 ((some o0)) a1 a4 v11).bind fun r15 =>
                      (fX12_place s5.2 ((some o0)) a1 a4 ((1 - v11))).bind fun r16 =>
                      (fX12_place s5.2 ((some o0)) a1 a2 ((1 - v8))).bind fun r17 =>
                      (fX12_areBeside s5.2 ((some o0)) a1 r12 r13).bind fun r18 =>
                      jp (fun (x31 : Unit) =>
                        some (.inl ((s5.1 + 1), s5.2))) fun K19 =>
                        if r18 = 0 then
                          K19 ()
                        else
                          (fX12_areBeside s5.2 ((some o0)) a1 r14 r15).bind fun r20 =>
                          if r20 = 0 then
                            K19 ()
                          else
                            (fX12_areBeside s5.2 ((some o0)) a1 r16 r17).bind fun r21 =>
                            if r21 = 0 then
                              K19 ()
                            else
                              (fX12_minds s5.2 ((some o0))).bind fun r22 =>
                              (fX12_swaps r22 ((some o0)) a1 r12 r13).bind fun r23 =>
                              (fX12_swaps r23 ((some o0)) a1 r14 r15).bind fun r24 =>
                              (fX12_swaps r24 ((some o0)) a1 r16 r17).bind fun r25 =>
                              (fX12_turned r25 ((some o0)) a1 0 0).bind fun r26 =>
                              (fX12_lays r26 ((some o0)) a1).bind fun r27 =>
                              some (.inr (.inr ((s5.1, r27.2))))) (0, A0)).bind fun t6 =>
                sm t6 (fun t6 =>
                  some (((-1000000003), t6))) (fun r => some r)
set_option maxRecDepth 100000 in
set_option maxHeartbeats 4000000 in
theorem kX12_slide (l : Launch) {A0 : AH} {o0 : Option Nat} {a1 : Int32} {a2 : Int32} {a3 : Int32} {a4 : Int32} {r : Int32 × AH} (h : fX12_slide A0 o0 a1 a2 a3 a4 = some r) : (∃ a, o0 = some a ∧ Hk A0 a = 13) ∧ Cn l yX12_slide cX12_slide 15 (some .int) 2 48 0 0 [vR o0, vI a1, vI a2, vI a3, vI a4] A0 (some (vI r.1)) r.2 := by
  unfold fX12_slide at h
  replace h := bnd_e h
  obtain ⟨o1, e1, h⟩ := h
  obtain ⟨rfl, hk0⟩ := rcv_e e1
  refine ⟨⟨o1, rfl, hk0⟩, ?_⟩
  refine Cn.of (pad := 10) (lv0 := [some (vR (some o1)), some (vI a1), some (vI a2), some (vI a3), some (vI a4), none, none, none, none, none, none, none, none, none, none]) (by decide +kernel) (Nat.le_of_ble_eq_true rfl) rfl ?_
  intro p e s m below meth c base D cy E
  generalize (List.map toV [vR (some o1), vI a1, vI a2, vI a3, vI a4]).toArray = ar at E ⊢
  have E : EN p s m ar meth c D cy RX12 cX12_slide 15 (some .int) "slide" := E
  refine v_aload_n E dX12_slide_0 rfl ?_
  refine v_iload_n E dX12_slide_1 rfl ?_
  replace h := bnd_e h
  obtain ⟨r1, er1, h⟩ := h
  refine v_callV (na := 1) (As := [vI a1]) (rest := []) (ci := 12) (q := (RX12, TX12, 20)) E gw12_223 (by decide +kernel) rfl rfl (by decide) (kX12_isWord l er1).2 (kX12_isWord l er1).1 rfl rfl dX12_slide_2 ⟨Nat.le_of_ble_eq_true rfl, Nat.le_of_ble_eq_true rfl⟩ ⟨(Nat.le_of_ble_eq_true rfl), (Nat.le_of_ble_eq_true rfl)⟩ (Nat.le_of_ble_eq_true rfl) ?_
  refine v_if_eq (tgt := 53) E dX12_slide_5 (by decide) (fun c40 => ?_) (fun c40 => ?_)
  · rw [if_pos c40] at h
    refine v_ldc (v := (-1000000001)) E dX12_slide_53 q1208 ?_
    replace h := Option.some.inj h
    subst h
    refine v_widen (k' := 0) (n' := 0) (Nat.le_of_ble_eq_true rfl) (Nat.le_of_ble_eq_true rfl) ?_
    exact v_iret E dX12_slide_55
  · rw [if_neg c40] at h
    refine v_aload_n E dX12_slide_8 rfl ?_
    refine v_iload_n E dX12_slide_9 rfl ?_
    refine v_iload_n E dX12_slide_10 rfl ?_
    replace h := bnd_e h
    obtain ⟨r2, er2, h⟩ := h
    refine v_callV (na := 2) (As := [vI a1, vI a2]) (rest := []) (ci := 12) (q := (RX12, TX12, 20)) E gw12_274 (by decide +kernel) rfl rfl (by decide) (kX12_isLetter l er2).2 (kX12_isLetter l er2).1 rfl rfl dX12_slide_11 ⟨Nat.le_of_ble_eq_true rfl, Nat.le_of_ble_eq_true rfl⟩ ⟨(Nat.le_of_ble_eq_true rfl), (Nat.le_of_ble_eq_true rfl)⟩ (Nat.le_of_ble_eq_true rfl) ?_
    refine v_if_eq (tgt := 53) E dX12_slide_14 (by decide) (fun c39 => ?_) (fun c39 => ?_)
    · rw [if_pos c39] at h
      refine v_ldc (v := (-1000000001)) E dX12_slide_53 q1208 ?_
      replace h := Option.some.inj h
      subst h
      refine v_widen (k' := 0) (n' := 0) (Nat.le_of_ble_eq_true rfl) (Nat.le_of_ble_eq_true rfl) ?_
      exact v_iret E dX12_slide_55
    · rw [if_neg c39] at h
      refine v_aload_n E dX12_slide_17 rfl ?_
      refine v_iload_n E dX12_slide_18 rfl ?_
      refine v_iload_n E dX12_slide_19 rfl ?_
      replace h := bnd_e h
      obtain ⟨r3, er3, h⟩ := h
      refine v_callV (na := 2) (As := [vI a1, vI a3]) (rest := []) (ci := 12) (q := (RX12, TX12, 20)) E gw12_274 (by decide +kernel) rfl rfl (by decide) (kX12_isLetter l er3).2 (kX12_isLetter l er3).1 rfl rfl dX12_slide_20 ⟨Nat.le_of_ble_eq_true rfl, Nat.le_of_ble_eq_true rfl⟩ ⟨(Nat.le_of_ble_eq_true rfl), (Nat.le_of_ble_eq_true rfl)⟩ (Nat.le_of_ble_eq_true rfl) ?_
      refine v_if_eq (tgt := 53) E dX12_slide_23 (by decide) (fun c38 => ?_) (fun c38 => ?_)
      · rw [if_pos c38] at h
        refine v_ldc (v := (-1000000001)) E dX12_slide_53 q1208 ?_
        replace h := Option.some.inj h
        subst h
        refine v_widen (k' := 0) (n' := 0) (Nat.le_of_ble_eq_true rfl) (Nat.le_of_ble_eq_true rfl) ?_
        exact v_iret E dX12_slide_55
      · rw [if_neg c38] at h
        refine v_aload_n E dX12_slide_26 rfl ?_
        refine v_iload_n E dX12_slide_27 rfl ?_
        refine v_iload E dX12_slide_28 rfl ?_
        replace h := bnd_e h
        obtain ⟨r4, er4, h⟩ := h
        refine v_callV (na := 2) (As := [vI a1, vI a4]) (rest := []) (ci := 12) (q := (RX12, TX12, 20)) E gw12_274 (by decide +kernel) rfl rfl (by decide) (kX12_isLetter l er4).2 (kX12_isLetter l er4).1 rfl rfl dX12_slide_30 ⟨Nat.le_of_ble_eq_true rfl, Nat.le_of_ble_eq_true rfl⟩ ⟨(Nat.le_of_ble_eq_true rfl), (Nat.le_of_ble_eq_true rfl)⟩ (Nat.le_of_ble_eq_true rfl) ?_
        refine v_if_eq (tgt := 53) E dX12_slide_33 (by decide) (fun c37 => ?_) (fun c37 => ?_)
        · rw [if_pos c37] at h
          refine v_ldc (v := (-1000000001)) E dX12_slide_53 q1208 ?_
          replace h := Option.some.inj h
          subst h
          refine v_widen (k' := 0) (n' := 0) (Nat.le_of_ble_eq_true rfl) (Nat.le_of_ble_eq_true rfl) ?_
          exact v_iret E dX12_slide_55
        · rw [if_neg c37] at h
          refine v_iload_n E dX12_slide_36 rfl ?_
          refine v_iload_n E dX12_slide_37 rfl ?_
          refine v_icmp_eq (tgt := 53) E dX12_slide_38 (by decide) (fun c36 => ?_) (fun c36 => ?_)
          · rw [if_pos c36] at h
            refine v_ldc (v := (-1000000001)) E dX12_slide_53 q1208 ?_
            replace h := Option.some.inj h
            subst h
            refine v_widen (k' := 0) (n' := 0) (Nat.le_of_ble_eq_true rfl) (Nat.le_of_ble_eq_true rfl) ?_
            exact v_iret E dX12_slide_55
          · rw [if_neg c36] at h
            refine v_iload_n E dX12_slide_41 rfl ?_
            refine v_iload E dX12_slide_42 rfl ?_
            refine v_icmp_eq (tgt := 53) E dX12_slide_44 (by decide) (fun c35 => ?_) (fun c35 => ?_)
            · rw [if_pos c35] at h
              refine v_ldc (v := (-1000000001)) E dX12_slide_53 q1208 ?_
              replace h := Option.some.inj h
              subst h
              refine v_widen (k' := 0) (n' := 0) (Nat.le_of_ble_eq_true rfl) (Nat.le_of_ble_eq_true rfl) ?_
              exact v_iret E dX12_slide_55
            · rw [if_neg c35] at h
              refine v_iload_n E dX12_slide_47 rfl ?_
              refine v_iload E dX12_slide_48 rfl ?_
              refine v_icmp_ne (tgt := 56) E dX12_slide_50 (by decide) (fun c34 => ?_) (fun c34 => ?_)
              · rw [if_neg c34] at h
                refine v_iconst (v := 0) E dX12_slide_56 (by decide) ?_
                refine v_istore (lv' := [some (vR (some o1)), some (vI a1), some (vI a2), some (vI a3), some (vI a4), some (vI 0), none, none, none, none, none, none, none, none, none]) E dX12_slide_57 (by decide) rfl ?_
                replace h := bnd_e h
                obtain ⟨t6, et6, h⟩ := h
                refine iter_V (S := Int32 × AH) (T := (AH) ⊕ (Int32 × AH)) (Ph := fun s5 => V p l e { frames := 2, cells := 0, slots := 0, locals := 48 } s m ar below meth c (MQ below (Qd base D cy (some (vI r.1)) r.2) ar s 0 0 (fun q => base ≤ q)) base D cy 15 59 [some (vR (some o1)), some (vI a1), some (vI a2), some (vI a3), some (vI a4), some (vI s5.1), none, none, none, none, none, none, none, none, none] [] s5.2 0 0) (Pt := itM (fun t6 => V p l e { frames := 2, cells := 0, slots := 0, locals := 48 } s m ar below meth c (MQ below (Qd base D cy (some (vI r.1)) r.2) ar s 0 0 (fun q => base ≤ q)) base D cy 15 243 [none, none, none, none, none, none, none, none, none, none, none, none, none, none, none] [] t6 0 0) (fun z => z = r)) et6 (fun s5 w7 h hx => ?_) ?_
                · try dsimp only at h
                  refine v_iload E dX12_slide_59 rfl ?_
                  refine v_bipush (v := 8) E dX12_slide_61 (by decide) ?_
                  refine v_icmp_ge (tgt := 243) E dX12_slide_63 (by decide) (fun c32 => ?_) (fun c32 => ?_)
                  · rw [if_pos c32] at h
                    refine v_drop (lv' := [none, none, none, none, none, none, none, none, none, none, none, none, none, none, none]) [0, 1, 2, 3, 4, 5] rfl ?_
                    replace h := Option.some.inj h
                    subst h
                    exact hx
                  · rw [if_neg c32] at h
                    refine v_iload E dX12_slide_66 rfl ?_
                    refine v_iconst (v := 4) E dX12_slide_68 (by decide) ?_
                    replace h := bnd_e h
                    obtain ⟨v8, ev8, h⟩ := h
                    refine v_idiv E ev8 dX12_slide_69 ?_
                    refine v_istore (lv' := [some (vR (some o1)), some (vI a1), some (vI a2), some (vI a3), some (vI a4), some (vI s5.1), some (vI v8), none, none, none, none, none, none, none, none]) E dX12_slide_70 (by decide) rfl ?_
                    refine v_iload E dX12_slide_72 rfl ?_
                    refine v_iconst (v := 2) E dX12_slide_74 (by decide) ?_
                    replace h := bnd_e h
                    obtain ⟨v9, ev9, h⟩ := h
                    refine v_idiv E ev9 dX12_slide_75 ?_
                    refine v_iconst (v := 2) E dX12_slide_76 (by decide) ?_
                    replace h := bnd_e h
                    obtain ⟨v10, ev10, h⟩ := h
                    refine v_irem E ev10 dX12_slide_77 ?_
                    refine v_istore (lv' := [some (vR (some o1)), some (vI a1), some (vI a2), some (vI a3), some (vI a4), some (vI s5.1), some (vI v8), some (vI v10), none, none, none, none, none, none, none]) E dX12_slide_78 (by decide) rfl ?_
                    refine v_iload E dX12_slide_80 rfl ?_
                    refine v_iconst (v := 2) E dX12_slide_82 (by decide) ?_
                    replace h := bnd_e h
                    obtain ⟨v11, ev11, h⟩ := h
                    refine v_irem E ev11 dX12_slide_83 ?_
                    refine v_istore (lv' := [some (vR (some o1)), some (vI a1), some (vI a2), some (vI a3), some (vI a4), some (vI s5.1), some (vI v8), some (vI v10), some (vI v11), none, none, none, none, none, none]) E dX12_slide_84 (by decide) rfl ?_
                    refine v_aload_n E dX12_slide_86 rfl ?_
                    refine v_iload_n E dX12_slide_87 rfl ?_
                    refine v_iload_n E dX12_slide_88 rfl ?_
                    refine v_iload E dX12_slide_89 rfl ?_
                    replace h := bnd_e h
                    obtain ⟨r12, er12, h⟩ := h
                    refine v_callV (na := 3) (As := [vI a1, vI a2, vI v8]) (rest := []) (ci := 12) (q := (RX12, TX12, 20)) E gw12_104 (by decide +kernel) rfl rfl (by decide) (kX12_place l er12).2 (kX12_place l er12).1 rfl rfl dX12_slide_91 ⟨Nat.le_of_ble_eq_true rfl, Nat.le_of_ble_eq_true rfl⟩ ⟨(Nat.le_of_ble_eq_true rfl), (Nat.le_of_ble_eq_true rfl)⟩ (Nat.le_of_ble_eq_true rfl) ?_
                    refine v_istore (lv' := [some (vR (some o1)), some (vI a1), some (vI a2), some (vI a3), some (vI a4), some (vI s5.1), some (vI v8), some (vI v10), some (vI v11), some (vI r12), none, none, none, none, none]) E dX12_slide_94 (by decide) rfl ?_
                    refine v_aload_n E dX12_slide_96 rfl ?_
                    refine v_iload_n E dX12_slide_97 rfl ?_
                    refine v_iload_n E dX12_slide_98 rfl ?_
                    refine v_iload E dX12_slide_99 rfl ?_
                    replace h := bnd_e h
                    obtain ⟨r13, er13, h⟩ := h
                    refine v_callV (na := 3) (As := [vI a1, vI a3, vI v10]) (rest := []) (ci := 12) (q := (RX12, TX12, 20)) E gw12_104 (by decide +kernel) rfl rfl (by decide) (kX12_place l er13).2 (kX12_place l er13).1 rfl rfl dX12_slide_101 ⟨Nat.le_of_ble_eq_true rfl, Nat.le_of_ble_eq_true rfl⟩ ⟨(Nat.le_of_ble_eq_true rfl), (Nat.le_of_ble_eq_true rfl)⟩ (Nat.le_of_ble_eq_true rfl) ?_
                    refine v_istore (lv' := [some (vR (some o1)), some (vI a1), some (vI a2), some (vI a3), some (vI a4), some (vI s5.1), some (vI v8), some (vI v10), some (vI v11), some (vI r12), some (vI r13), none, none, none, none]) E dX12_slide_104 (by decide) rfl ?_
                    refine v_aload_n E dX12_slide_106 rfl ?_
                    refine v_iload_n E dX12_slide_107 rfl ?_
                    refine v_iload_n E dX12_slide_108 rfl ?_
                    refine v_iconst (v := 1) E dX12_slide_109 (by decide) ?_
                    refine v_iload E dX12_slide_110 rfl ?_
                    refine v_isub E dX12_slide_112 ?_
                    replace h := bnd_e h
                    obtain ⟨r14, er14, h⟩ := h
                    refine v_callV (na := 3) (As := [vI a1, vI a3, vI (1 - v10)]) (rest := []) (ci := 12) (q := (RX12, TX12, 20)) E gw12_104 (by decide +kernel) rfl rfl (by decide) (kX12_place l er14).2 (kX12_place l er14).1 rfl rfl dX12_slide_113 ⟨Nat.le_of_ble_eq_true rfl, Nat.le_of_ble_eq_true rfl⟩ ⟨(Nat.le_of_ble_eq_true rfl), (Nat.le_of_ble_eq_true rfl)⟩ (Nat.le_of_ble_eq_true rfl) ?_
                    refine v_istore (lv' := [some (vR (some o1)), some (vI a1), some (vI a2), some (vI a3), some (vI a4), some (vI s5.1), some (vI v8), some (vI v10), some (vI v11), some (vI r12), some (vI r13), some (vI r14), none, none, none]) E dX12_slide_116 (by decide) rfl ?_
                    refine v_aload_n E dX12_slide_118 rfl ?_
                    refine v_iload_n E dX12_slide_119 rfl ?_
                    refine v_iload E dX12_slide_120 rfl ?_
                    refine v_iload E dX12_slide_122 rfl ?_
                    replace h := bnd_e h
                    obtain ⟨r15, er15, h⟩ := h
                    refine v_callV (na := 3) (As := [vI a1, vI a4, vI v11]) (rest := []) (ci := 12) (q := (RX12, TX12, 20)) E gw12_104 (by decide +kernel) rfl rfl (by decide) (kX12_place l er15).2 (kX12_place l er15).1 rfl rfl dX12_slide_124 ⟨Nat.le_of_ble_eq_true rfl, Nat.le_of_ble_eq_true rfl⟩ ⟨(Nat.le_of_ble_eq_true rfl), (Nat.le_of_ble_eq_true rfl)⟩ (Nat.le_of_ble_eq_true rfl) ?_
                    refine v_istore (lv' := [some (vR (some o1)), some (vI a1), some (vI a2), some (vI a3), some (vI a4), some (vI s5.1), some (vI v8), some (vI v10), some (vI v11), some (vI r12), some (vI r13), some (vI r14), some (vI r15), none, none]) E dX12_slide_127 (by decide) rfl ?_
                    refine v_aload_n E dX12_slide_129 rfl ?_
                    refine v_iload_n E dX12_slide_130 rfl ?_
                    refine v_iload E dX12_slide_131 rfl ?_
                    refine v_iconst (v := 1) E dX12_slide_133 (by decide) ?_
                    refine v_iload E dX12_slide_134 rfl ?_
                    refine v_isub E dX12_slide_136 ?_
                    replace h := bnd_e h
                    obtain ⟨r16, er16, h⟩ := h
                    refine v_callV (na := 3) (As := [vI a1, vI a4, vI (1 - v11)]) (rest := []) (ci := 12) (q := (RX12, TX12, 20)) E gw12_104 (by decide +kernel) rfl rfl (by decide) (kX12_place l er16).2 (kX12_place l er16).1 rfl rfl dX12_slide_137 ⟨Nat.le_of_ble_eq_true rfl, Nat.le_of_ble_eq_true rfl⟩ ⟨(Nat.le_of_ble_eq_true rfl), (Nat.le_of_ble_eq_true rfl)⟩ (Nat.le_of_ble_eq_true rfl) ?_
                    refine v_istore (lv' := [some (vR (some o1)), some (vI a1), some (vI a2), some (vI a3), some (vI a4), some (vI s5.1), some (vI v8), some (vI v10), some (vI v11), some (vI r12), some (vI r13), some (vI r14), some (vI r15), some (vI r16), none]) E dX12_slide_140 (by decide) rfl ?_
                    refine v_aload_n E dX12_slide_142 rfl ?_
                    refine v_iload_n E dX12_slide_143 rfl ?_
                    refine v_iload_n E dX12_slide_144 rfl ?_
                    refine v_iconst (v := 1) E dX12_slide_145 (by decide) ?_
                    refine v_iload E dX12_slide_146 rfl ?_
                    refine v_isub E dX12_slide_148 ?_
                    replace h := bnd_e h
                    obtain ⟨r17, er17, h⟩ := h
                    refine v_callV (na := 3) (As := [vI a1, vI a2, vI (1 - v8)]) (rest := []) (ci := 12) (q := (RX12, TX12, 20)) E gw12_104 (by decide +kernel) rfl rfl (by decide) (kX12_place l er17).2 (kX12_place l er17).1 rfl rfl dX12_slide_149 ⟨Nat.le_of_ble_eq_true rfl, Nat.le_of_ble_eq_true rfl⟩ ⟨(Nat.le_of_ble_eq_true rfl), (Nat.le_of_ble_eq_true rfl)⟩ (Nat.le_of_ble_eq_true rfl) ?_
                    refine v_istore (lv' := [some (vR (some o1)), some (vI a1), some (vI a2), some (vI a3), some (vI a4), some (vI s5.1), some (vI v8), some (vI v10), some (vI v11), some (vI r12), some (vI r13), some (vI r14), some (vI r15), some (vI r16), some (vI r17)]) E dX12_slide_152 (by decide) rfl ?_
                    refine v_aload_n E dX12_slide_154 rfl ?_
                    refine v_iload_n E dX12_slide_155 rfl ?_
                    refine v_iload E dX12_slide_156 rfl ?_
                    refine v_iload E dX12_slide_158 rfl ?_
                    replace h := bnd_e h
                    obtain ⟨r18, er18, h⟩ := h
                    refine v_callV (na := 3) (As := [vI a1, vI r12, vI r13]) (rest := []) (ci := 12) (q := (RX12, TX12, 20)) E gw12_214 (by decide +kernel) rfl rfl (by decide) (kX12_areBeside l er18).2 (kX12_areBeside l er18).1 rfl rfl dX12_slide_160 ⟨Nat.le_of_ble_eq_true rfl, Nat.le_of_ble_eq_true rfl⟩ ⟨(Nat.le_of_ble_eq_true rfl), (Nat.le_of_ble_eq_true rfl)⟩ (Nat.le_of_ble_eq_true rfl) ?_
                    refine jp_use h (fun K19 eK19 h => ?_)
                    have hK19 : ∀ x31 : Unit, K19 x31 = some w7 → V p l e { frames := 2, cells := 0, slots := 0, locals := 48 } s m ar below meth c (MQ below (Qd base D cy (some (vI r.1)) r.2) ar s 0 0 (fun q => base ≤ q)) base D cy 15 237 [some (vR (some o1)), some (vI a1), some (vI a2), some (vI a3), some (vI a4), some (vI s5.1), none, none, none, none, none, none, none, none, none] [] s5.2 0 0 := by
                      intro x31 h
                      rw [eK19] at h
                      try dsimp only at h
                      refine v_iinc (v := (s5.1 + 1)) (lv' := [some (vR (some o1)), some (vI a1), some (vI a2), some (vI a3), some (vI a4), some (vI (s5.1 + 1)), none, none, none, none, none, none, none, none, none]) E dX12_slide_237 rfl (by rfl) (by decide) rfl ?_
                      refine v_goto (tgt := 59) E dX12_slide_240 (by decide) ?_
                      replace h := Option.some.inj h
                      subst h
                      exact hx
                    refine v_if_eq (tgt := 237) E dX12_slide_163 (by decide) (fun c30 => ?_) (fun c30 => ?_)
                    · rw [if_pos c30] at h
                      refine v_drop (lv' := [some (vR (some o1)), some (vI a1), some (vI a2), some (vI a3), some (vI a4), some (vI s5.1), none, none, none, none, none, none, none, none, none]) [6, 7, 8, 9, 10, 11, 12, 13, 14] rfl ?_
                      exact hK19 () h
                    · rw [if_neg c30] at h
                      refine v_aload_n E dX12_slide_166 rfl ?_
                      refine v_iload_n E dX12_slide_167 rfl ?_
                      refine v_iload E dX12_slide_168 rfl ?_
                      refine v_iload E dX12_slide_170 rfl ?_
                      replace h := bnd_e h
                      obtain ⟨r20, er20, h⟩ := h
                      refine v_callV (na := 3) (As := [vI a1, vI r14, vI r15]) (rest := []) (ci := 12) (q := (RX12, TX12, 20)) E gw12_214 (by decide +kernel) rfl rfl (by decide) (kX12_areBeside l er20).2 (kX12_areBeside l er20).1 rfl rfl dX12_slide_172 ⟨Nat.le_of_ble_eq_true rfl, Nat.le_of_ble_eq_true rfl⟩ ⟨(Nat.le_of_ble_eq_true rfl), (Nat.le_of_ble_eq_true rfl)⟩ (Nat.le_of_ble_eq_true rfl) ?_
                      refine v_if_eq (tgt := 237) E dX12_slide_175 (by decide) (fun c29 => ?_) (fun c29 => ?_)
                      · rw [if_pos c29] at h
                        refine v_drop (lv' := [some (vR (some o1)), some (vI a1), some (vI a2), some (vI a3), some (vI a4), some (vI s5.1), none, none, none, none, none, none, none, none, none]) [6, 7, 8, 9, 10, 11, 12, 13, 14] rfl ?_
                        exact hK19 () h
                      · rw [if_neg c29] at h
                        refine v_aload_n E dX12_slide_178 rfl ?_
                        refine v_iload_n E dX12_slide_179 rfl ?_
                        refine v_iload E dX12_slide_180 rfl ?_
                        refine v_iload E dX12_slide_182 rfl ?_
                        replace h := bnd_e h
                        obtain ⟨r21, er21, h⟩ := h
                        refine v_callV (na := 3) (As := [vI a1, vI r16, vI r17]) (rest := []) (ci := 12) (q := (RX12, TX12, 20)) E gw12_214 (by decide +kernel) rfl rfl (by decide) (kX12_areBeside l er21).2 (kX12_areBeside l er21).1 rfl rfl dX12_slide_184 ⟨Nat.le_of_ble_eq_true rfl, Nat.le_of_ble_eq_true rfl⟩ ⟨(Nat.le_of_ble_eq_true rfl), (Nat.le_of_ble_eq_true rfl)⟩ (Nat.le_of_ble_eq_true rfl) ?_
                        refine v_if_eq (tgt := 237) E dX12_slide_187 (by decide) (fun c28 => ?_) (fun c28 => ?_)
                        · rw [if_pos c28] at h
                          refine v_drop (lv' := [some (vR (some o1)), some (vI a1), some (vI a2), some (vI a3), some (vI a4), some (vI s5.1), none, none, none, none, none, none, none, none, none]) [6, 7, 8, 9, 10, 11, 12, 13, 14] rfl ?_
                          exact hK19 () h
                        · rw [if_neg c28] at h
                          refine v_aload_n E dX12_slide_190 rfl ?_
                          replace h := bnd_e h
                          obtain ⟨r22, er22, h⟩ := h
                          refine v_callV (na := 0) (As := []) (rest := []) (ci := 12) (q := (RX12, TX12, 20)) E gw12_93 (by decide +kernel) rfl rfl (by decide) (kX12_minds l er22).2 (kX12_minds l er22).1 rfl rfl dX12_slide_191 ⟨Nat.le_of_ble_eq_true rfl, Nat.le_of_ble_eq_true rfl⟩ ⟨(Nat.le_of_ble_eq_true rfl), (Nat.le_of_ble_eq_true rfl)⟩ (Nat.le_of_ble_eq_true rfl) ?_
                          refine v_aload_n E dX12_slide_194 rfl ?_
                          refine v_iload_n E dX12_slide_195 rfl ?_
                          refine v_iload E dX12_slide_196 rfl ?_
                          refine v_iload E dX12_slide_198 rfl ?_
                          replace h := bnd_e h
                          obtain ⟨r23, er23, h⟩ := h
                          refine v_callV (na := 3) (As := [vI a1, vI r12, vI r13]) (rest := []) (ci := 12) (q := (RX12, TX12, 20)) E gw12_296 (by decide +kernel) rfl rfl (by decide) (kX12_swaps l er23).2 (kX12_swaps l er23).1 rfl rfl dX12_slide_200 ⟨Nat.le_of_ble_eq_true rfl, Nat.le_of_ble_eq_true rfl⟩ ⟨(Nat.le_of_ble_eq_true rfl), (Nat.le_of_ble_eq_true rfl)⟩ (Nat.le_of_ble_eq_true rfl) ?_
                          refine v_aload_n E dX12_slide_203 rfl ?_
                          refine v_iload_n E dX12_slide_204 rfl ?_
                          refine v_iload E dX12_slide_205 rfl ?_
                          refine v_iload E dX12_slide_207 rfl ?_
                          replace h := bnd_e h
                          obtain ⟨r24, er24, h⟩ := h
                          refine v_callV (na := 3) (As := [vI a1, vI r14, vI r15]) (rest := []) (ci := 12) (q := (RX12, TX12, 20)) E gw12_296 (by decide +kernel) rfl rfl (by decide) (kX12_swaps l er24).2 (kX12_swaps l er24).1 rfl rfl dX12_slide_209 ⟨Nat.le_of_ble_eq_true rfl, Nat.le_of_ble_eq_true rfl⟩ ⟨(Nat.le_of_ble_eq_true rfl), (Nat.le_of_ble_eq_true rfl)⟩ (Nat.le_of_ble_eq_true rfl) ?_
                          refine v_aload_n E dX12_slide_212 rfl ?_
                          refine v_iload_n E dX12_slide_213 rfl ?_
                          refine v_iload E dX12_slide_214 rfl ?_
                          refine v_iload E dX12_slide_216 rfl ?_
                          replace h := bnd_e h
                          obtain ⟨r25, er25, h⟩ := h
                          refine v_callV (na := 3) (As := [vI a1, vI r16, vI r17]) (rest := []) (ci := 12) (q := (RX12, TX12, 20)) E gw12_296 (by decide +kernel) rfl rfl (by decide) (kX12_swaps l er25).2 (kX12_swaps l er25).1 rfl rfl dX12_slide_218 ⟨Nat.le_of_ble_eq_true rfl, Nat.le_of_ble_eq_true rfl⟩ ⟨(Nat.le_of_ble_eq_true rfl), (Nat.le_of_ble_eq_true rfl)⟩ (Nat.le_of_ble_eq_true rfl) ?_
                          refine v_aload_n E dX12_slide_221 rfl ?_
                          refine v_iload_n E dX12_slide_222 rfl ?_
                          refine v_iconst (v := 0) E dX12_slide_223 (by decide) ?_
                          refine v_iconst (v := 0) E dX12_slide_224 (by decide) ?_
                          replace h := bnd_e h
                          obtain ⟨r26, er26, h⟩ := h
                          refine v_callV (na := 3) (As := [vI a1, vI 0, vI 0]) (rest := []) (ci := 12) (q := (RX12, TX12, 20)) E gw12_199 (by decide +kernel) rfl rfl (by decide) (kX12_turned l er26).2 (kX12_turned l er26).1 rfl rfl dX12_slide_225 ⟨Nat.le_of_ble_eq_true rfl, Nat.le_of_ble_eq_true rfl⟩ ⟨(Nat.le_of_ble_eq_true rfl), (Nat.le_of_ble_eq_true rfl)⟩ (Nat.le_of_ble_eq_true rfl) ?_
                          refine v_aload_n E dX12_slide_228 rfl ?_
                          refine v_iload_n E dX12_slide_229 rfl ?_
                          replace h := bnd_e h
                          obtain ⟨r27, er27, h⟩ := h
                          refine v_callV (na := 1) (As := [vI a1]) (rest := []) (ci := 12) (q := (RX12, TX12, 20)) E gw12_73 (by decide +kernel) rfl rfl (by decide) (kX12_lays l er27).2 (kX12_lays l er27).1 rfl rfl dX12_slide_230 ⟨Nat.le_of_ble_eq_true rfl, Nat.le_of_ble_eq_true rfl⟩ ⟨(Nat.le_of_ble_eq_true rfl), (Nat.le_of_ble_eq_true rfl)⟩ (Nat.le_of_ble_eq_true rfl) ?_
                          refine v_pop E dX12_slide_233 rfl ?_
                          refine v_iload E dX12_slide_234 rfl ?_
                          replace h := Option.some.inj h
                          subst h
                          have hx : _ = r := hx
                          subst hx
                          refine v_widen (k' := 0) (n' := 0) (Nat.le_of_ble_eq_true rfl) (Nat.le_of_ble_eq_true rfl) ?_
                          exact v_iret E dX12_slide_236
                · cases t6 with
                  | inl t6 =>
                    dsimp only [sm] at h
                    refine v_ldcw (v := (-1000000003)) E dX12_slide_243 q1386 ?_
                    replace h := Option.some.inj h
                    subst h
                    refine v_widen (k' := 0) (n' := 0) (Nat.le_of_ble_eq_true rfl) (Nat.le_of_ble_eq_true rfl) ?_
                    exact v_iret E dX12_slide_246
                  | inr z =>
                    exact Option.some.inj h
              · rw [if_pos c34] at h
                refine v_ldc (v := (-1000000001)) E dX12_slide_53 q1208 ?_
                replace h := Option.some.inj h
                subst h
                refine v_widen (k' := 0) (n' := 0) (Nat.le_of_ble_eq_true rfl) (Nat.le_of_ble_eq_true rfl) ?_
                exact v_iret E dX12_slide_55
noncomputable def fX12_smooth (A0 : AH) (o0 : Option Nat) (a1 : Int32) (a2 : Int32) : Option (Int32 × AH) :=
  (rcv A0 13 o0).bind fun o0 =>
  (fX12_isWord A0 ((some o0)) a1).bind fun r1 =>
  if r1 = 0 then
    some (((-1000000001), A0))
  else
    (fX12_isLetter A0 ((some o0)) a1 a2).bind fun r2 =>
    if r2 = 0 then
      some (((-1000000001), A0))
    else
      (fX12_minds A0 ((some o0))).bind fun r3 =>
      (fX12_place r3 ((some o0)) a1 a2 0).bind fun r4 =>
      (fX12_place r3 ((some o0)) a1 a2 1).bind fun r5 =>
      (pI r3 13 396 ((some o0)) 0).bind fun A6 =>
      (iter (S := Int32 × AH) (T := AH) (fun s7 =>
          (fX12_size s7.2 ((some o0)) a1).bind fun r10 =>
          if (2 * r10) ≤ s7.1 then
            some (.inr s7.2)
          else
            jp (fun (x20 : AH) =>
              some (.inl ((s7.1 + 1), x20))) fun K11 =>
              if s7.1 = r4 then
                K11 s7.2
              else
                if s7.1 = r5 then
                  K11 s7.2
                else
                  (fX12_in s7.2 (((s7.1 : Int32).toInt64)) (((r4 : Int32).toInt64)) (((r5 : Int32).toInt64))).bind fun r12 =>
                  jp1 (α := Int32) (if r12 = 0 then
                      s7.1
                    else
                      (((r4 + r5) - s7.1))) fun x15 =>
                  (fX12_letterAt s7.2 ((some o0)) a1 x15).bind fun r16 =>
                    (fX12_comes s7.2 ((some o0)) r16).bind fun r17 =>
                    K11 r17) (0, A6)).bind fun t8 =>
      (fX12_lays t8 ((some o0)) a1).bind fun r22 =>
      some ((r22.1, r22.2))
set_option maxRecDepth 100000 in
set_option maxHeartbeats 4000000 in
theorem kX12_smooth (l : Launch) {A0 : AH} {o0 : Option Nat} {a1 : Int32} {a2 : Int32} {r : Int32 × AH} (h : fX12_smooth A0 o0 a1 a2 = some r) : (∃ a, o0 = some a ∧ Hk A0 a = 13) ∧ Cn l yX12_smooth cX12_smooth 6 (some .int) 2 48 0 0 [vR o0, vI a1, vI a2] A0 (some (vI r.1)) r.2 := by
  unfold fX12_smooth at h
  replace h := bnd_e h
  obtain ⟨o1, e1, h⟩ := h
  obtain ⟨rfl, hk0⟩ := rcv_e e1
  refine ⟨⟨o1, rfl, hk0⟩, ?_⟩
  refine Cn.of (pad := 3) (lv0 := [some (vR (some o1)), some (vI a1), some (vI a2), none, none, none]) (by decide +kernel) (Nat.le_of_ble_eq_true rfl) rfl ?_
  intro p e s m below meth c base D cy E
  generalize (List.map toV [vR (some o1), vI a1, vI a2]).toArray = ar at E ⊢
  have E : EN p s m ar meth c D cy RX12 cX12_smooth 6 (some .int) "smooth" := E
  refine v_aload_n E dX12_smooth_0 rfl ?_
  refine v_iload_n E dX12_smooth_1 rfl ?_
  replace h := bnd_e h
  obtain ⟨r1, er1, h⟩ := h
  refine v_callV (na := 1) (As := [vI a1]) (rest := []) (ci := 12) (q := (RX12, TX12, 20)) E gw12_223 (by decide +kernel) rfl rfl (by decide) (kX12_isWord l er1).2 (kX12_isWord l er1).1 rfl rfl dX12_smooth_2 ⟨Nat.le_of_ble_eq_true rfl, Nat.le_of_ble_eq_true rfl⟩ ⟨(Nat.le_of_ble_eq_true rfl), (Nat.le_of_ble_eq_true rfl)⟩ (Nat.le_of_ble_eq_true rfl) ?_
  refine v_if_eq (tgt := 17) E dX12_smooth_5 (by decide) (fun c25 => ?_) (fun c25 => ?_)
  · rw [if_pos c25] at h
    refine v_ldc (v := (-1000000001)) E dX12_smooth_17 q1208 ?_
    replace h := Option.some.inj h
    subst h
    refine v_widen (k' := 0) (n' := 0) (Nat.le_of_ble_eq_true rfl) (Nat.le_of_ble_eq_true rfl) ?_
    exact v_iret E dX12_smooth_19
  · rw [if_neg c25] at h
    refine v_aload_n E dX12_smooth_8 rfl ?_
    refine v_iload_n E dX12_smooth_9 rfl ?_
    refine v_iload_n E dX12_smooth_10 rfl ?_
    replace h := bnd_e h
    obtain ⟨r2, er2, h⟩ := h
    refine v_callV (na := 2) (As := [vI a1, vI a2]) (rest := []) (ci := 12) (q := (RX12, TX12, 20)) E gw12_274 (by decide +kernel) rfl rfl (by decide) (kX12_isLetter l er2).2 (kX12_isLetter l er2).1 rfl rfl dX12_smooth_11 ⟨Nat.le_of_ble_eq_true rfl, Nat.le_of_ble_eq_true rfl⟩ ⟨(Nat.le_of_ble_eq_true rfl), (Nat.le_of_ble_eq_true rfl)⟩ (Nat.le_of_ble_eq_true rfl) ?_
    refine v_if_ne (tgt := 20) E dX12_smooth_14 (by decide) (fun c24 => ?_) (fun c24 => ?_)
    · rw [if_neg c24] at h
      refine v_aload_n E dX12_smooth_20 rfl ?_
      replace h := bnd_e h
      obtain ⟨r3, er3, h⟩ := h
      refine v_callV (na := 0) (As := []) (rest := []) (ci := 12) (q := (RX12, TX12, 20)) E gw12_93 (by decide +kernel) rfl rfl (by decide) (kX12_minds l er3).2 (kX12_minds l er3).1 rfl rfl dX12_smooth_21 ⟨Nat.le_of_ble_eq_true rfl, Nat.le_of_ble_eq_true rfl⟩ ⟨(Nat.le_of_ble_eq_true rfl), (Nat.le_of_ble_eq_true rfl)⟩ (Nat.le_of_ble_eq_true rfl) ?_
      refine v_aload_n E dX12_smooth_24 rfl ?_
      refine v_iload_n E dX12_smooth_25 rfl ?_
      refine v_iload_n E dX12_smooth_26 rfl ?_
      refine v_iconst (v := 0) E dX12_smooth_27 (by decide) ?_
      replace h := bnd_e h
      obtain ⟨r4, er4, h⟩ := h
      refine v_callV (na := 3) (As := [vI a1, vI a2, vI 0]) (rest := []) (ci := 12) (q := (RX12, TX12, 20)) E gw12_104 (by decide +kernel) rfl rfl (by decide) (kX12_place l er4).2 (kX12_place l er4).1 rfl rfl dX12_smooth_28 ⟨Nat.le_of_ble_eq_true rfl, Nat.le_of_ble_eq_true rfl⟩ ⟨(Nat.le_of_ble_eq_true rfl), (Nat.le_of_ble_eq_true rfl)⟩ (Nat.le_of_ble_eq_true rfl) ?_
      refine v_istore_n (lv' := [some (vR (some o1)), some (vI a1), some (vI a2), some (vI r4), none, none]) E dX12_smooth_31 (by decide) rfl ?_
      refine v_aload_n E dX12_smooth_32 rfl ?_
      refine v_iload_n E dX12_smooth_33 rfl ?_
      refine v_iload_n E dX12_smooth_34 rfl ?_
      refine v_iconst (v := 1) E dX12_smooth_35 (by decide) ?_
      replace h := bnd_e h
      obtain ⟨r5, er5, h⟩ := h
      refine v_callV (na := 3) (As := [vI a1, vI a2, vI 1]) (rest := []) (ci := 12) (q := (RX12, TX12, 20)) E gw12_104 (by decide +kernel) rfl rfl (by decide) (kX12_place l er5).2 (kX12_place l er5).1 rfl rfl dX12_smooth_36 ⟨Nat.le_of_ble_eq_true rfl, Nat.le_of_ble_eq_true rfl⟩ ⟨(Nat.le_of_ble_eq_true rfl), (Nat.le_of_ble_eq_true rfl)⟩ (Nat.le_of_ble_eq_true rfl) ?_
      refine v_istore (lv' := [some (vR (some o1)), some (vI a1), some (vI a2), some (vI r4), some (vI r5), none]) E dX12_smooth_39 (by decide) rfl ?_
      refine v_aload_n E dX12_smooth_41 rfl ?_
      refine v_iconst (v := 0) E dX12_smooth_42 (by decide) ?_
      replace h := bnd_e h
      obtain ⟨A6, eA6, h⟩ := h
      refine p12_67 E eA6 dX12_smooth_43 ?_
      refine v_iconst (v := 0) E dX12_smooth_46 (by decide) ?_
      refine v_istore (lv' := [some (vR (some o1)), some (vI a1), some (vI a2), some (vI r4), some (vI r5), some (vI 0)]) E dX12_smooth_47 (by decide) rfl ?_
      refine v_drop (lv' := [some (vR (some o1)), some (vI a1), none, some (vI r4), some (vI r5), some (vI 0)]) [2] rfl ?_
      replace h := bnd_e h
      obtain ⟨t8, et8, h⟩ := h
      refine iter_V (S := Int32 × AH) (T := AH) (Ph := fun s7 => V p l e { frames := 2, cells := 0, slots := 0, locals := 48 } s m ar below meth c (MQ below (Qd base D cy (some (vI r.1)) r.2) ar s 0 0 (fun q => base ≤ q)) base D cy 6 49 [some (vR (some o1)), some (vI a1), none, some (vI r4), some (vI r5), some (vI s7.1)] [] s7.2 0 0) (Pt := fun t8 => V p l e { frames := 2, cells := 0, slots := 0, locals := 48 } s m ar below meth c (MQ below (Qd base D cy (some (vI r.1)) r.2) ar s 0 0 (fun q => base ≤ q)) base D cy 6 115 [some (vR (some o1)), some (vI a1), none, none, none, none] [] t8 0 0) et8 (fun s7 w9 h hx => ?_) ?_
      · try dsimp only at h
        refine v_iload E dX12_smooth_49 rfl ?_
        refine v_iconst (v := 2) E dX12_smooth_51 (by decide) ?_
        refine v_aload_n E dX12_smooth_52 rfl ?_
        refine v_iload_n E dX12_smooth_53 rfl ?_
        replace h := bnd_e h
        obtain ⟨r10, er10, h⟩ := h
        refine v_callV (na := 1) (As := [vI a1]) (rest := [vI 2, vI s7.1]) (ci := 12) (q := (RX12, TX12, 20)) E gw12_59 (by decide +kernel) rfl rfl (by decide) (kX12_size l er10).2 (kX12_size l er10).1 rfl rfl dX12_smooth_54 ⟨Nat.le_of_ble_eq_true rfl, Nat.le_of_ble_eq_true rfl⟩ ⟨(Nat.le_of_ble_eq_true rfl), (Nat.le_of_ble_eq_true rfl)⟩ (Nat.le_of_ble_eq_true rfl) ?_
        refine v_imul E dX12_smooth_57 ?_
        refine v_icmp_ge (tgt := 115) E dX12_smooth_58 (by decide) (fun c21 => ?_) (fun c21 => ?_)
        · rw [if_pos c21] at h
          refine v_drop (lv' := [some (vR (some o1)), some (vI a1), none, none, none, none]) [3, 4, 5] rfl ?_
          replace h := Option.some.inj h
          subst h
          exact hx
        · rw [if_neg c21] at h
          refine v_iload E dX12_smooth_61 rfl ?_
          refine v_iload_n E dX12_smooth_63 rfl ?_
          refine jp_use h (fun K11 eK11 h => ?_)
          have hK11 : ∀ x20 : AH, K11 x20 = some w9 → V p l e { frames := 2, cells := 0, slots := 0, locals := 48 } s m ar below meth c (MQ below (Qd base D cy (some (vI r.1)) r.2) ar s 0 0 (fun q => base ≤ q)) base D cy 6 109 [some (vR (some o1)), some (vI a1), none, some (vI r4), some (vI r5), some (vI s7.1)] [] x20 0 0 := by
            intro x20 h
            rw [eK11] at h
            try dsimp only at h
            refine v_iinc (v := (s7.1 + 1)) (lv' := [some (vR (some o1)), some (vI a1), none, some (vI r4), some (vI r5), some (vI (s7.1 + 1))]) E dX12_smooth_109 rfl (by rfl) (by decide) rfl ?_
            refine v_goto (tgt := 49) E dX12_smooth_112 (by decide) ?_
            replace h := Option.some.inj h
            subst h
            exact hx
          refine v_icmp_eq (tgt := 109) E dX12_smooth_64 (by decide) (fun c19 => ?_) (fun c19 => ?_)
          · rw [if_pos c19] at h
            exact hK11 s7.2 h
          · rw [if_neg c19] at h
            refine v_iload E dX12_smooth_67 rfl ?_
            refine v_iload E dX12_smooth_69 rfl ?_
            refine v_icmp_eq (tgt := 109) E dX12_smooth_71 (by decide) (fun c18 => ?_) (fun c18 => ?_)
            · rw [if_pos c18] at h
              exact hK11 s7.2 h
            · rw [if_neg c18] at h
              refine v_aload_n E dX12_smooth_74 rfl ?_
              refine v_aload_n E dX12_smooth_75 rfl ?_
              refine v_iload_n E dX12_smooth_76 rfl ?_
              refine v_iload E dX12_smooth_77 rfl ?_
              refine v_i2l E dX12_smooth_79 ?_
              refine v_iload_n E dX12_smooth_80 rfl ?_
              refine v_i2l E dX12_smooth_81 ?_
              refine v_iload E dX12_smooth_82 rfl ?_
              refine v_i2l E dX12_smooth_84 ?_
              replace h := bnd_e h
              obtain ⟨r12, er12, h⟩ := h
              refine v_callS (na := 3) (As := [vJ ((s7.1 : Int32).toInt64), vJ ((r4 : Int32).toInt64), vJ ((r5 : Int32).toInt64)]) (rest := [vI a1, vR (some o1), vR (some o1)]) E gw12_55 (by decide +kernel) (kX12_in l er12) rfl rfl dX12_smooth_85 ⟨Nat.le_of_ble_eq_true rfl, Nat.le_of_ble_eq_true rfl⟩ ⟨(Nat.le_of_ble_eq_true rfl), (Nat.le_of_ble_eq_true rfl)⟩ (Nat.le_of_ble_eq_true rfl) ?_
              refine jp1_use h (fun K13 eK13 h => ?_)
              have hK13 : ∀ x15 : Int32, K13 x15 = some w9 → V p l e { frames := 2, cells := 0, slots := 0, locals := 48 } s m ar below meth c (MQ below (Qd base D cy (some (vI r.1)) r.2) ar s 0 0 (fun q => base ≤ q)) base D cy 6 103 [some (vR (some o1)), some (vI a1), none, some (vI r4), some (vI r5), some (vI s7.1)] [vI x15, vI a1, vR (some o1), vR (some o1)] s7.2 0 0 := by
                intro x15 h
                rw [eK13] at h
                try dsimp only at h
                replace h := bnd_e h
                obtain ⟨r16, er16, h⟩ := h
                refine v_callV (na := 2) (As := [vI a1, vI x15]) (rest := [vR (some o1)]) (ci := 12) (q := (RX12, TX12, 20)) E gw12_63 (by decide +kernel) rfl rfl (by decide) (kX12_letterAt l er16).2 (kX12_letterAt l er16).1 rfl rfl dX12_smooth_103 ⟨Nat.le_of_ble_eq_true rfl, Nat.le_of_ble_eq_true rfl⟩ ⟨(Nat.le_of_ble_eq_true rfl), (Nat.le_of_ble_eq_true rfl)⟩ (Nat.le_of_ble_eq_true rfl) ?_
                replace h := bnd_e h
                obtain ⟨r17, er17, h⟩ := h
                refine v_callV (na := 1) (As := [vI r16]) (rest := []) (ci := 12) (q := (RX12, TX12, 20)) E gw12_96 (by decide +kernel) rfl rfl (by decide) (kX12_comes l er17).2 (kX12_comes l er17).1 rfl rfl dX12_smooth_106 ⟨Nat.le_of_ble_eq_true rfl, Nat.le_of_ble_eq_true rfl⟩ ⟨(Nat.le_of_ble_eq_true rfl), (Nat.le_of_ble_eq_true rfl)⟩ (Nat.le_of_ble_eq_true rfl) ?_
                exact hK11 r17 h
              refine v_if_eq (tgt := 101) E dX12_smooth_88 (by decide) (fun c14 => ?_) (fun c14 => ?_)
              · rw [if_pos c14] at h
                refine v_iload E dX12_smooth_101 rfl ?_
                exact hK13 s7.1 h
              · rw [if_neg c14] at h
                refine v_iload_n E dX12_smooth_91 rfl ?_
                refine v_iload E dX12_smooth_92 rfl ?_
                refine v_iadd E dX12_smooth_94 ?_
                refine v_iload E dX12_smooth_95 rfl ?_
                refine v_isub E dX12_smooth_97 ?_
                refine v_goto (tgt := 103) E dX12_smooth_98 (by decide) ?_
                exact hK13 (((r4 + r5) - s7.1)) h
      · refine v_aload_n E dX12_smooth_115 rfl ?_
        refine v_iload_n E dX12_smooth_116 rfl ?_
        replace h := bnd_e h
        obtain ⟨r22, er22, h⟩ := h
        refine v_callV (na := 1) (As := [vI a1]) (rest := []) (ci := 12) (q := (RX12, TX12, 20)) E gw12_73 (by decide +kernel) rfl rfl (by decide) (kX12_lays l er22).2 (kX12_lays l er22).1 rfl rfl dX12_smooth_117 ⟨Nat.le_of_ble_eq_true rfl, Nat.le_of_ble_eq_true rfl⟩ ⟨(Nat.le_of_ble_eq_true rfl), (Nat.le_of_ble_eq_true rfl)⟩ (Nat.le_of_ble_eq_true rfl) ?_
        replace h := Option.some.inj h
        subst h
        refine v_widen (k' := 0) (n' := 0) (Nat.le_of_ble_eq_true rfl) (Nat.le_of_ble_eq_true rfl) ?_
        exact v_iret E dX12_smooth_120
    · rw [if_pos c24] at h
      refine v_ldc (v := (-1000000001)) E dX12_smooth_17 q1208 ?_
      replace h := Option.some.inj h
      subst h
      refine v_widen (k' := 0) (n' := 0) (Nat.le_of_ble_eq_true rfl) (Nat.le_of_ble_eq_true rfl) ?_
      exact v_iret E dX12_smooth_19
noncomputable def fX12_sum (A0 : AH) (o0 : Option Nat) (a1 : Int32) (a2 : Int32) : Option (Int32 × AH) :=
  (rcv A0 13 o0).bind fun o0 =>
  (fX12_isWord A0 ((some o0)) a1).bind fun r1 =>
  if r1 = 0 then
    some (((-1000000001), A0))
  else
    (fX12_isWord A0 ((some o0)) a2).bind fun r2 =>
    if r2 = 0 then
      some (((-1000000001), A0))
    else
      (fX12_size A0 ((some o0)) a1).bind fun r3 =>
      (fX12_size A0 ((some o0)) a2).bind fun r4 =>
      if 8 < (r3 + r4) then
        some (((-1000000004), A0))
      else
        (gR A0 13 384 ((some o0))).bind fun v5 =>
        (aI A0 14 v5 0).bind fun v6 =>
        if v6 = 6 then
          some (((-1000000004), A0))
        else
          (fX12_minds A0 ((some o0))).bind fun r7 =>
          (pI r7 13 396 ((some o0)) 0).bind fun A8 =>
          (iter (S := Int32 × AH) (T := AH) (fun s9 =>
              (fX12_size s9.2 ((some o0)) a1).bind fun r12 =>
              if (2 * r12) ≤ s9.1 then
                some (.inr s9.2)
              else
                (fX12_letterAt s9.2 ((some o0)) a1 s9.1).bind fun r13 =>
                (fX12_comes s9.2 ((some o0)) r13).bind fun r14 =>
                some (.inl ((s9.1 + 1), r14))) (0, A8)).bind fun t10 =>
          (iter (S := Int32 × AH) (T := AH) (fun s16 =>
              (fX12_size s16.2 ((some o0)) a2).bind fun r19 =>
              if (2 * r19) ≤ s16.1 then
                some (.inr s16.2)
              else
                (fX12_letterAt s16.2 ((some o0)) a2 s16.1).bind fun r20 =>
                (fX12_comes s16.2 ((some o0)) ((20 + r20))).bind fun r21 =>
                some (.inl ((s16.1 + 1), r21))) (0, t10)).bind fun t17 =>
          (fX12_laysMore t17 ((some o0))).bind fun r23 =>
          some ((r23.1, r23.2))
set_option maxRecDepth 100000 in
set_option maxHeartbeats 4000000 in
theorem kX12_sum (l : Launch) {A0 : AH} {o0 : Option Nat} {a1 : Int32} {a2 : Int32} {r : Int32 × AH} (h : fX12_sum A0 o0 a1 a2 = some r) : (∃ a, o0 = some a ∧ Hk A0 a = 13) ∧ Cn l yX12_sum cX12_sum 4 (some .int) 3 67 0 0 [vR o0, vI a1, vI a2] A0 (some (vI r.1)) r.2 := by
  unfold fX12_sum at h
  replace h := bnd_e h
  obtain ⟨o1, e1, h⟩ := h
  obtain ⟨rfl, hk0⟩ := rcv_e e1
  refine ⟨⟨o1, rfl, hk0⟩, ?_⟩
  refine Cn.of (pad := 1) (lv0 := [some (vR (some o1)), some (vI a1), some (vI a2), none]) (by decide +kernel) (Nat.le_of_ble_eq_true rfl) rfl ?_
  intro p e s m below meth c base D cy E
  generalize (List.map toV [vR (some o1), vI a1, vI a2]).toArray = ar at E ⊢
  have E : EN p s m ar meth c D cy RX12 cX12_sum 4 (some .int) "sum" := E
  refine v_aload_n E dX12_sum_0 rfl ?_
  refine v_iload_n E dX12_sum_1 rfl ?_
  replace h := bnd_e h
  obtain ⟨r1, er1, h⟩ := h
  refine v_callV (na := 1) (As := [vI a1]) (rest := []) (ci := 12) (q := (RX12, TX12, 20)) E gw12_223 (by decide +kernel) rfl rfl (by decide) (kX12_isWord l er1).2 (kX12_isWord l er1).1 rfl rfl dX12_sum_2 ⟨Nat.le_of_ble_eq_true rfl, Nat.le_of_ble_eq_true rfl⟩ ⟨(Nat.le_of_ble_eq_true rfl), (Nat.le_of_ble_eq_true rfl)⟩ (Nat.le_of_ble_eq_true rfl) ?_
  refine v_if_eq (tgt := 16) E dX12_sum_5 (by decide) (fun c29 => ?_) (fun c29 => ?_)
  · rw [if_pos c29] at h
    refine v_ldc (v := (-1000000001)) E dX12_sum_16 q1208 ?_
    replace h := Option.some.inj h
    subst h
    refine v_widen (k' := 0) (n' := 0) (Nat.le_of_ble_eq_true rfl) (Nat.le_of_ble_eq_true rfl) ?_
    exact v_iret E dX12_sum_18
  · rw [if_neg c29] at h
    refine v_aload_n E dX12_sum_8 rfl ?_
    refine v_iload_n E dX12_sum_9 rfl ?_
    replace h := bnd_e h
    obtain ⟨r2, er2, h⟩ := h
    refine v_callV (na := 1) (As := [vI a2]) (rest := []) (ci := 12) (q := (RX12, TX12, 20)) E gw12_223 (by decide +kernel) rfl rfl (by decide) (kX12_isWord l er2).2 (kX12_isWord l er2).1 rfl rfl dX12_sum_10 ⟨Nat.le_of_ble_eq_true rfl, Nat.le_of_ble_eq_true rfl⟩ ⟨(Nat.le_of_ble_eq_true rfl), (Nat.le_of_ble_eq_true rfl)⟩ (Nat.le_of_ble_eq_true rfl) ?_
    refine v_if_ne (tgt := 19) E dX12_sum_13 (by decide) (fun c28 => ?_) (fun c28 => ?_)
    · rw [if_neg c28] at h
      refine v_aload_n E dX12_sum_19 rfl ?_
      refine v_iload_n E dX12_sum_20 rfl ?_
      replace h := bnd_e h
      obtain ⟨r3, er3, h⟩ := h
      refine v_callV (na := 1) (As := [vI a1]) (rest := []) (ci := 12) (q := (RX12, TX12, 20)) E gw12_59 (by decide +kernel) rfl rfl (by decide) (kX12_size l er3).2 (kX12_size l er3).1 rfl rfl dX12_sum_21 ⟨Nat.le_of_ble_eq_true rfl, Nat.le_of_ble_eq_true rfl⟩ ⟨(Nat.le_of_ble_eq_true rfl), (Nat.le_of_ble_eq_true rfl)⟩ (Nat.le_of_ble_eq_true rfl) ?_
      refine v_aload_n E dX12_sum_24 rfl ?_
      refine v_iload_n E dX12_sum_25 rfl ?_
      replace h := bnd_e h
      obtain ⟨r4, er4, h⟩ := h
      refine v_callV (na := 1) (As := [vI a2]) (rest := [vI r3]) (ci := 12) (q := (RX12, TX12, 20)) E gw12_59 (by decide +kernel) rfl rfl (by decide) (kX12_size l er4).2 (kX12_size l er4).1 rfl rfl dX12_sum_26 ⟨Nat.le_of_ble_eq_true rfl, Nat.le_of_ble_eq_true rfl⟩ ⟨(Nat.le_of_ble_eq_true rfl), (Nat.le_of_ble_eq_true rfl)⟩ (Nat.le_of_ble_eq_true rfl) ?_
      refine v_iadd E dX12_sum_29 ?_
      refine v_bipush (v := 8) E dX12_sum_30 (by decide) ?_
      refine v_icmp_gt (tgt := 46) E dX12_sum_32 (by decide) (fun c27 => ?_) (fun c27 => ?_)
      · rw [if_pos c27] at h
        refine v_ldc (v := (-1000000004)) E dX12_sum_46 q1093 ?_
        replace h := Option.some.inj h
        subst h
        refine v_widen (k' := 0) (n' := 0) (Nat.le_of_ble_eq_true rfl) (Nat.le_of_ble_eq_true rfl) ?_
        exact v_iret E dX12_sum_48
      · rw [if_neg c27] at h
        refine v_aload_n E dX12_sum_35 rfl ?_
        replace h := bnd_e h
        obtain ⟨v5, ev5, h⟩ := h
        refine g12_7 E ev5 dX12_sum_36 ?_
        refine v_iconst (v := 0) E dX12_sum_39 (by decide) ?_
        replace h := bnd_e h
        obtain ⟨v6, ev6, h⟩ := h
        refine v_iaload E ev6 dX12_sum_40 ?_
        refine v_bipush (v := 6) E dX12_sum_41 (by decide) ?_
        refine v_icmp_ne (tgt := 49) E dX12_sum_43 (by decide) (fun c26 => ?_) (fun c26 => ?_)
        · rw [if_neg c26] at h
          refine v_aload_n E dX12_sum_49 rfl ?_
          replace h := bnd_e h
          obtain ⟨r7, er7, h⟩ := h
          refine v_callV (na := 0) (As := []) (rest := []) (ci := 12) (q := (RX12, TX12, 20)) E gw12_93 (by decide +kernel) rfl rfl (by decide) (kX12_minds l er7).2 (kX12_minds l er7).1 rfl rfl dX12_sum_50 ⟨Nat.le_of_ble_eq_true rfl, Nat.le_of_ble_eq_true rfl⟩ ⟨(Nat.le_of_ble_eq_true rfl), (Nat.le_of_ble_eq_true rfl)⟩ (Nat.le_of_ble_eq_true rfl) ?_
          refine v_aload_n E dX12_sum_53 rfl ?_
          refine v_iconst (v := 0) E dX12_sum_54 (by decide) ?_
          replace h := bnd_e h
          obtain ⟨A8, eA8, h⟩ := h
          refine p12_67 E eA8 dX12_sum_55 ?_
          refine v_iconst (v := 0) E dX12_sum_58 (by decide) ?_
          refine v_istore_n (lv' := [some (vR (some o1)), some (vI a1), some (vI a2), some (vI 0)]) E dX12_sum_59 (by decide) rfl ?_
          replace h := bnd_e h
          obtain ⟨t10, et10, h⟩ := h
          refine iter_V (S := Int32 × AH) (T := AH) (Ph := fun s9 => V p l e { frames := 3, cells := 0, slots := 0, locals := 67 } s m ar below meth c (MQ below (Qd base D cy (some (vI r.1)) r.2) ar s 0 0 (fun q => base ≤ q)) base D cy 4 60 [some (vR (some o1)), some (vI a1), some (vI a2), some (vI s9.1)] [] s9.2 0 0) (Pt := fun t10 => V p l e { frames := 3, cells := 0, slots := 0, locals := 67 } s m ar below meth c (MQ below (Qd base D cy (some (vI r.1)) r.2) ar s 0 0 (fun q => base ≤ q)) base D cy 4 87 [some (vR (some o1)), none, some (vI a2), none] [] t10 0 0) et10 (fun s9 w11 h hx => ?_) ?_
          · try dsimp only at h
            refine v_iload_n E dX12_sum_60 rfl ?_
            refine v_iconst (v := 2) E dX12_sum_61 (by decide) ?_
            refine v_aload_n E dX12_sum_62 rfl ?_
            refine v_iload_n E dX12_sum_63 rfl ?_
            replace h := bnd_e h
            obtain ⟨r12, er12, h⟩ := h
            refine v_callV (na := 1) (As := [vI a1]) (rest := [vI 2, vI s9.1]) (ci := 12) (q := (RX12, TX12, 20)) E gw12_59 (by decide +kernel) rfl rfl (by decide) (kX12_size l er12).2 (kX12_size l er12).1 rfl rfl dX12_sum_64 ⟨Nat.le_of_ble_eq_true rfl, Nat.le_of_ble_eq_true rfl⟩ ⟨(Nat.le_of_ble_eq_true rfl), (Nat.le_of_ble_eq_true rfl)⟩ (Nat.le_of_ble_eq_true rfl) ?_
            refine v_imul E dX12_sum_67 ?_
            refine v_icmp_ge (tgt := 87) E dX12_sum_68 (by decide) (fun c15 => ?_) (fun c15 => ?_)
            · rw [if_pos c15] at h
              refine v_drop (lv' := [some (vR (some o1)), none, some (vI a2), none]) [1, 3] rfl ?_
              replace h := Option.some.inj h
              subst h
              exact hx
            · rw [if_neg c15] at h
              refine v_aload_n E dX12_sum_71 rfl ?_
              refine v_aload_n E dX12_sum_72 rfl ?_
              refine v_iload_n E dX12_sum_73 rfl ?_
              refine v_iload_n E dX12_sum_74 rfl ?_
              replace h := bnd_e h
              obtain ⟨r13, er13, h⟩ := h
              refine v_callV (na := 2) (As := [vI a1, vI s9.1]) (rest := [vR (some o1)]) (ci := 12) (q := (RX12, TX12, 20)) E gw12_63 (by decide +kernel) rfl rfl (by decide) (kX12_letterAt l er13).2 (kX12_letterAt l er13).1 rfl rfl dX12_sum_75 ⟨Nat.le_of_ble_eq_true rfl, Nat.le_of_ble_eq_true rfl⟩ ⟨(Nat.le_of_ble_eq_true rfl), (Nat.le_of_ble_eq_true rfl)⟩ (Nat.le_of_ble_eq_true rfl) ?_
              replace h := bnd_e h
              obtain ⟨r14, er14, h⟩ := h
              refine v_callV (na := 1) (As := [vI r13]) (rest := []) (ci := 12) (q := (RX12, TX12, 20)) E gw12_96 (by decide +kernel) rfl rfl (by decide) (kX12_comes l er14).2 (kX12_comes l er14).1 rfl rfl dX12_sum_78 ⟨Nat.le_of_ble_eq_true rfl, Nat.le_of_ble_eq_true rfl⟩ ⟨(Nat.le_of_ble_eq_true rfl), (Nat.le_of_ble_eq_true rfl)⟩ (Nat.le_of_ble_eq_true rfl) ?_
              refine v_iinc (v := (s9.1 + 1)) (lv' := [some (vR (some o1)), some (vI a1), some (vI a2), some (vI (s9.1 + 1))]) E dX12_sum_81 rfl (by rfl) (by decide) rfl ?_
              refine v_goto (tgt := 60) E dX12_sum_84 (by decide) ?_
              replace h := Option.some.inj h
              subst h
              exact hx
          · refine v_iconst (v := 0) E dX12_sum_87 (by decide) ?_
            refine v_istore_n (lv' := [some (vR (some o1)), none, some (vI a2), some (vI 0)]) E dX12_sum_88 (by decide) rfl ?_
            replace h := bnd_e h
            obtain ⟨t17, et17, h⟩ := h
            refine iter_V (S := Int32 × AH) (T := AH) (Ph := fun s16 => V p l e { frames := 3, cells := 0, slots := 0, locals := 67 } s m ar below meth c (MQ below (Qd base D cy (some (vI r.1)) r.2) ar s 0 0 (fun q => base ≤ q)) base D cy 4 89 [some (vR (some o1)), none, some (vI a2), some (vI s16.1)] [] s16.2 0 0) (Pt := fun t17 => V p l e { frames := 3, cells := 0, slots := 0, locals := 67 } s m ar below meth c (MQ below (Qd base D cy (some (vI r.1)) r.2) ar s 0 0 (fun q => base ≤ q)) base D cy 4 119 [some (vR (some o1)), none, none, none] [] t17 0 0) et17 (fun s16 w18 h hx => ?_) ?_
            · try dsimp only at h
              refine v_iload_n E dX12_sum_89 rfl ?_
              refine v_iconst (v := 2) E dX12_sum_90 (by decide) ?_
              refine v_aload_n E dX12_sum_91 rfl ?_
              refine v_iload_n E dX12_sum_92 rfl ?_
              replace h := bnd_e h
              obtain ⟨r19, er19, h⟩ := h
              refine v_callV (na := 1) (As := [vI a2]) (rest := [vI 2, vI s16.1]) (ci := 12) (q := (RX12, TX12, 20)) E gw12_59 (by decide +kernel) rfl rfl (by decide) (kX12_size l er19).2 (kX12_size l er19).1 rfl rfl dX12_sum_93 ⟨Nat.le_of_ble_eq_true rfl, Nat.le_of_ble_eq_true rfl⟩ ⟨(Nat.le_of_ble_eq_true rfl), (Nat.le_of_ble_eq_true rfl)⟩ (Nat.le_of_ble_eq_true rfl) ?_
              refine v_imul E dX12_sum_96 ?_
              refine v_icmp_ge (tgt := 119) E dX12_sum_97 (by decide) (fun c22 => ?_) (fun c22 => ?_)
              · rw [if_pos c22] at h
                refine v_drop (lv' := [some (vR (some o1)), none, none, none]) [2, 3] rfl ?_
                replace h := Option.some.inj h
                subst h
                exact hx
              · rw [if_neg c22] at h
                refine v_aload_n E dX12_sum_100 rfl ?_
                refine v_bipush (v := 20) E dX12_sum_101 (by decide) ?_
                refine v_aload_n E dX12_sum_103 rfl ?_
                refine v_iload_n E dX12_sum_104 rfl ?_
                refine v_iload_n E dX12_sum_105 rfl ?_
                replace h := bnd_e h
                obtain ⟨r20, er20, h⟩ := h
                refine v_callV (na := 2) (As := [vI a2, vI s16.1]) (rest := [vI 20, vR (some o1)]) (ci := 12) (q := (RX12, TX12, 20)) E gw12_63 (by decide +kernel) rfl rfl (by decide) (kX12_letterAt l er20).2 (kX12_letterAt l er20).1 rfl rfl dX12_sum_106 ⟨Nat.le_of_ble_eq_true rfl, Nat.le_of_ble_eq_true rfl⟩ ⟨(Nat.le_of_ble_eq_true rfl), (Nat.le_of_ble_eq_true rfl)⟩ (Nat.le_of_ble_eq_true rfl) ?_
                refine v_iadd E dX12_sum_109 ?_
                replace h := bnd_e h
                obtain ⟨r21, er21, h⟩ := h
                refine v_callV (na := 1) (As := [vI (20 + r20)]) (rest := []) (ci := 12) (q := (RX12, TX12, 20)) E gw12_96 (by decide +kernel) rfl rfl (by decide) (kX12_comes l er21).2 (kX12_comes l er21).1 rfl rfl dX12_sum_110 ⟨Nat.le_of_ble_eq_true rfl, Nat.le_of_ble_eq_true rfl⟩ ⟨(Nat.le_of_ble_eq_true rfl), (Nat.le_of_ble_eq_true rfl)⟩ (Nat.le_of_ble_eq_true rfl) ?_
                refine v_iinc (v := (s16.1 + 1)) (lv' := [some (vR (some o1)), none, some (vI a2), some (vI (s16.1 + 1))]) E dX12_sum_113 rfl (by rfl) (by decide) rfl ?_
                refine v_goto (tgt := 89) E dX12_sum_116 (by decide) ?_
                replace h := Option.some.inj h
                subst h
                exact hx
            · refine v_aload_n E dX12_sum_119 rfl ?_
              replace h := bnd_e h
              obtain ⟨r23, er23, h⟩ := h
              refine v_callV (na := 0) (As := []) (rest := []) (ci := 12) (q := (RX12, TX12, 20)) E gw12_100 (by decide +kernel) rfl rfl (by decide) (kX12_laysMore l er23).2 (kX12_laysMore l er23).1 rfl rfl dX12_sum_120 ⟨Nat.le_of_ble_eq_true rfl, Nat.le_of_ble_eq_true rfl⟩ ⟨(Nat.le_of_ble_eq_true rfl), (Nat.le_of_ble_eq_true rfl)⟩ (Nat.le_of_ble_eq_true rfl) ?_
              replace h := Option.some.inj h
              subst h
              refine v_widen (k' := 0) (n' := 0) (Nat.le_of_ble_eq_true rfl) (Nat.le_of_ble_eq_true rfl) ?_
              exact v_iret E dX12_sum_123
        · rw [if_pos c26] at h
          refine v_ldc (v := (-1000000004)) E dX12_sum_46 q1093 ?_
          replace h := Option.some.inj h
          subst h
          refine v_widen (k' := 0) (n' := 0) (Nat.le_of_ble_eq_true rfl) (Nat.le_of_ble_eq_true rfl) ?_
          exact v_iret E dX12_sum_48
    · rw [if_pos c28] at h
      refine v_ldc (v := (-1000000001)) E dX12_sum_16 q1208 ?_
      replace h := Option.some.inj h
      subst h
      refine v_widen (k' := 0) (n' := 0) (Nat.le_of_ble_eq_true rfl) (Nat.le_of_ble_eq_true rfl) ?_
      exact v_iret E dX12_sum_18
noncomputable def fX12_take (A0 : AH) (o0 : Option Nat) (a1 : Int32) : Option (Int32 × AH) :=
  (rcv A0 13 o0).bind fun o0 =>
  (fX12_isWord A0 ((some o0)) a1).bind fun r1 =>
  if r1 = 0 then
    some (((-1000000001), A0))
  else
    (fX12_minds A0 ((some o0))).bind fun r2 =>
    (gR r2 13 384 ((some o0))).bind fun v3 =>
    (aI r2 14 v3 0).bind fun v4 =>
    (sI r2 14 v3 0 ((v4 - 1))).bind fun A5 =>
    (iter (S := Int32 × AH) (T := AH) (fun s6 =>
        (gR s6.2 13 384 ((some o0))).bind fun v9 =>
        (aI s6.2 14 v9 0).bind fun v10 =>
        if (18 * v10) ≤ s6.1 then
          some (.inr s6.2)
        else
          (gR s6.2 13 384 ((some o0))).bind fun v11 =>
          (gR s6.2 13 384 ((some o0))).bind fun v12 =>
          (aI s6.2 14 v12 ((19 + s6.1))).bind fun v13 =>
          (sI s6.2 14 v11 ((1 + s6.1)) v13).bind fun A14 =>
          some (.inl ((s6.1 + 1), A14))) ((18 * a1), A5)).bind fun t7 =>
    (gR t7 13 384 ((some o0))).bind fun v16 =>
    (aI t7 14 v16 0).bind fun v17 =>
    some ((v17, t7))
set_option maxRecDepth 100000 in
set_option maxHeartbeats 4000000 in
theorem kX12_take (l : Launch) {A0 : AH} {o0 : Option Nat} {a1 : Int32} {r : Int32 × AH} (h : fX12_take A0 o0 a1 = some r) : (∃ a, o0 = some a ∧ Hk A0 a = 13) ∧ Cn l yX12_take cX12_take 3 (some .int) 2 46 0 0 [vR o0, vI a1] A0 (some (vI r.1)) r.2 := by
  unfold fX12_take at h
  replace h := bnd_e h
  obtain ⟨o1, e1, h⟩ := h
  obtain ⟨rfl, hk0⟩ := rcv_e e1
  refine ⟨⟨o1, rfl, hk0⟩, ?_⟩
  refine Cn.of (pad := 1) (lv0 := [some (vR (some o1)), some (vI a1), none]) (by decide +kernel) (Nat.le_of_ble_eq_true rfl) rfl ?_
  intro p e s m below meth c base D cy E
  generalize (List.map toV [vR (some o1), vI a1]).toArray = ar at E ⊢
  have E : EN p s m ar meth c D cy RX12 cX12_take 3 (some .int) "take" := E
  refine v_aload_n E dX12_take_0 rfl ?_
  refine v_iload_n E dX12_take_1 rfl ?_
  replace h := bnd_e h
  obtain ⟨r1, er1, h⟩ := h
  refine v_callV (na := 1) (As := [vI a1]) (rest := []) (ci := 12) (q := (RX12, TX12, 20)) E gw12_223 (by decide +kernel) rfl rfl (by decide) (kX12_isWord l er1).2 (kX12_isWord l er1).1 rfl rfl dX12_take_2 ⟨Nat.le_of_ble_eq_true rfl, Nat.le_of_ble_eq_true rfl⟩ ⟨(Nat.le_of_ble_eq_true rfl), (Nat.le_of_ble_eq_true rfl)⟩ (Nat.le_of_ble_eq_true rfl) ?_
  refine v_if_ne (tgt := 11) E dX12_take_5 (by decide) (fun c19 => ?_) (fun c19 => ?_)
  · rw [if_neg c19] at h
    refine v_aload_n E dX12_take_11 rfl ?_
    replace h := bnd_e h
    obtain ⟨r2, er2, h⟩ := h
    refine v_callV (na := 0) (As := []) (rest := []) (ci := 12) (q := (RX12, TX12, 20)) E gw12_93 (by decide +kernel) rfl rfl (by decide) (kX12_minds l er2).2 (kX12_minds l er2).1 rfl rfl dX12_take_12 ⟨Nat.le_of_ble_eq_true rfl, Nat.le_of_ble_eq_true rfl⟩ ⟨(Nat.le_of_ble_eq_true rfl), (Nat.le_of_ble_eq_true rfl)⟩ (Nat.le_of_ble_eq_true rfl) ?_
    refine v_aload_n E dX12_take_15 rfl ?_
    replace h := bnd_e h
    obtain ⟨v3, ev3, h⟩ := h
    refine g12_7 E ev3 dX12_take_16 ?_
    refine v_iconst (v := 0) E dX12_take_19 (by decide) ?_
    refine v_dup2 E dX12_take_20 rfl rfl ?_
    replace h := bnd_e h
    obtain ⟨v4, ev4, h⟩ := h
    refine v_iaload E ev4 dX12_take_21 ?_
    refine v_iconst (v := 1) E dX12_take_22 (by decide) ?_
    refine v_isub E dX12_take_23 ?_
    replace h := bnd_e h
    obtain ⟨A5, eA5, h⟩ := h
    refine v_iastore E eA5 dX12_take_24 ?_
    refine v_bipush (v := 18) E dX12_take_25 (by decide) ?_
    refine v_iload_n E dX12_take_27 rfl ?_
    refine v_imul E dX12_take_28 ?_
    refine v_istore_n (lv' := [some (vR (some o1)), some (vI a1), some (vI (18 * a1))]) E dX12_take_29 (by decide) rfl ?_
    refine v_drop (lv' := [some (vR (some o1)), none, some (vI (18 * a1))]) [1] rfl ?_
    replace h := bnd_e h
    obtain ⟨t7, et7, h⟩ := h
    refine iter_V (S := Int32 × AH) (T := AH) (Ph := fun s6 => V p l e { frames := 2, cells := 0, slots := 0, locals := 46 } s m ar below meth c (MQ below (Qd base D cy (some (vI r.1)) r.2) ar s 0 0 (fun q => base ≤ q)) base D cy 3 30 [some (vR (some o1)), none, some (vI s6.1)] [] s6.2 0 0) (Pt := fun t7 => V p l e { frames := 2, cells := 0, slots := 0, locals := 46 } s m ar below meth c (MQ below (Qd base D cy (some (vI r.1)) r.2) ar s 0 0 (fun q => base ≤ q)) base D cy 3 66 [some (vR (some o1)), none, none] [] t7 0 0) et7 (fun s6 w8 h hx => ?_) ?_
    · try dsimp only at h
      refine v_iload_n E dX12_take_30 rfl ?_
      refine v_bipush (v := 18) E dX12_take_31 (by decide) ?_
      refine v_aload_n E dX12_take_33 rfl ?_
      replace h := bnd_e h
      obtain ⟨v9, ev9, h⟩ := h
      refine g12_7 E ev9 dX12_take_34 ?_
      refine v_iconst (v := 0) E dX12_take_37 (by decide) ?_
      replace h := bnd_e h
      obtain ⟨v10, ev10, h⟩ := h
      refine v_iaload E ev10 dX12_take_38 ?_
      refine v_imul E dX12_take_39 ?_
      refine v_icmp_ge (tgt := 66) E dX12_take_40 (by decide) (fun c15 => ?_) (fun c15 => ?_)
      · rw [if_pos c15] at h
        refine v_drop (lv' := [some (vR (some o1)), none, none]) [2] rfl ?_
        replace h := Option.some.inj h
        subst h
        exact hx
      · rw [if_neg c15] at h
        refine v_aload_n E dX12_take_43 rfl ?_
        replace h := bnd_e h
        obtain ⟨v11, ev11, h⟩ := h
        refine g12_7 E ev11 dX12_take_44 ?_
        refine v_iconst (v := 1) E dX12_take_47 (by decide) ?_
        refine v_iload_n E dX12_take_48 rfl ?_
        refine v_iadd E dX12_take_49 ?_
        refine v_aload_n E dX12_take_50 rfl ?_
        replace h := bnd_e h
        obtain ⟨v12, ev12, h⟩ := h
        refine g12_7 E ev12 dX12_take_51 ?_
        refine v_bipush (v := 19) E dX12_take_54 (by decide) ?_
        refine v_iload_n E dX12_take_56 rfl ?_
        refine v_iadd E dX12_take_57 ?_
        replace h := bnd_e h
        obtain ⟨v13, ev13, h⟩ := h
        refine v_iaload E ev13 dX12_take_58 ?_
        replace h := bnd_e h
        obtain ⟨A14, eA14, h⟩ := h
        refine v_iastore E eA14 dX12_take_59 ?_
        refine v_iinc (v := (s6.1 + 1)) (lv' := [some (vR (some o1)), none, some (vI (s6.1 + 1))]) E dX12_take_60 rfl (by rfl) (by decide) rfl ?_
        refine v_goto (tgt := 30) E dX12_take_63 (by decide) ?_
        replace h := Option.some.inj h
        subst h
        exact hx
    · refine v_aload_n E dX12_take_66 rfl ?_
      replace h := bnd_e h
      obtain ⟨v16, ev16, h⟩ := h
      refine g12_7 E ev16 dX12_take_67 ?_
      refine v_iconst (v := 0) E dX12_take_70 (by decide) ?_
      replace h := bnd_e h
      obtain ⟨v17, ev17, h⟩ := h
      refine v_iaload E ev17 dX12_take_71 ?_
      replace h := Option.some.inj h
      subst h
      refine v_widen (k' := 0) (n' := 0) (Nat.le_of_ble_eq_true rfl) (Nat.le_of_ble_eq_true rfl) ?_
      exact v_iret E dX12_take_72
  · rw [if_pos c19] at h
    refine v_ldc (v := (-1000000001)) E dX12_take_8 q1208 ?_
    replace h := Option.some.inj h
    subst h
    refine v_widen (k' := 0) (n' := 0) (Nat.le_of_ble_eq_true rfl) (Nat.le_of_ble_eq_true rfl) ?_
    exact v_iret E dX12_take_10
noncomputable def fX12_draws (A0 : AH) (o0 : Option Nat) (a1 : Int32) : Option (Int32 × AH) :=
  (rcv A0 13 o0).bind fun o0 =>
  (gI A0 13 388 ((some o0))).bind fun v1 =>
  (rmJ (((((v1 : Int32).toInt64) * 1103515245) + 12345)) 2147483648).bind fun v2 =>
  (pI A0 13 388 ((some o0)) (((v2 : Int64).toInt32))).bind fun A3 =>
  (gI A3 13 388 ((some o0))).bind fun v4 =>
  (dvI v4 65536).bind fun v5 =>
  (rmI v5 a1).bind fun v6 =>
  some ((v6, A3))
set_option maxRecDepth 100000 in
set_option maxHeartbeats 4000000 in
theorem kX12_draws (l : Launch) {A0 : AH} {o0 : Option Nat} {a1 : Int32} {r : Int32 × AH} (h : fX12_draws A0 o0 a1 = some r) : (∃ a, o0 = some a ∧ Hk A0 a = 13) ∧ Cn l yX12_draws cX12_draws 2 (some .int) 0 0 0 0 [vR o0, vI a1] A0 (some (vI r.1)) r.2 := by
  unfold fX12_draws at h
  replace h := bnd_e h
  obtain ⟨o1, e1, h⟩ := h
  obtain ⟨rfl, hk0⟩ := rcv_e e1
  refine ⟨⟨o1, rfl, hk0⟩, ?_⟩
  refine Cn.of (pad := 0) (lv0 := [some (vR (some o1)), some (vI a1)]) (by decide +kernel) (Nat.le_of_ble_eq_true rfl) rfl ?_
  intro p e s m below meth c base D cy E
  generalize (List.map toV [vR (some o1), vI a1]).toArray = ar at E ⊢
  have E : EN p s m ar meth c D cy RX12 cX12_draws 2 (some .int) "draws" := E
  refine v_aload_n E dX12_draws_0 rfl ?_
  refine v_aload_n E dX12_draws_1 rfl ?_
  replace h := bnd_e h
  obtain ⟨v1, ev1, h⟩ := h
  refine g12_236 E ev1 dX12_draws_2 ?_
  refine v_i2l E dX12_draws_5 ?_
  refine v_ldc2 (v := 1103515245) E dX12_draws_6 q1448 ?_
  refine v_lmul E dX12_draws_9 ?_
  refine v_ldc2 (v := 12345) E dX12_draws_10 q1449 ?_
  refine v_ladd E dX12_draws_13 ?_
  refine v_ldc2 (v := 2147483648) E dX12_draws_14 q1450 ?_
  replace h := bnd_e h
  obtain ⟨v2, ev2, h⟩ := h
  refine v_lrem E ev2 dX12_draws_17 ?_
  refine v_l2i E dX12_draws_18 ?_
  replace h := bnd_e h
  obtain ⟨A3, eA3, h⟩ := h
  refine p12_236 E eA3 dX12_draws_19 ?_
  refine v_aload_n E dX12_draws_22 rfl ?_
  replace h := bnd_e h
  obtain ⟨v4, ev4, h⟩ := h
  refine g12_236 E ev4 dX12_draws_23 ?_
  refine v_ldcw (v := 65536) E dX12_draws_26 q1451 ?_
  replace h := bnd_e h
  obtain ⟨v5, ev5, h⟩ := h
  refine v_idiv E ev5 dX12_draws_29 ?_
  refine v_iload_n E dX12_draws_30 rfl ?_
  replace h := bnd_e h
  obtain ⟨v6, ev6, h⟩ := h
  refine v_irem E ev6 dX12_draws_31 ?_
  replace h := Option.some.inj h
  subst h
  refine v_widen (k' := 0) (n' := 0) (Nat.le_of_ble_eq_true rfl) (Nat.le_of_ble_eq_true rfl) ?_
  exact v_iret E dX12_draws_32
noncomputable def fX12_drawsRow (A0 : AH) (o0 : Option Nat) : Option (AH) :=
  (rcv A0 13 o0).bind fun o0 =>
  (fX12_draws A0 ((some o0)) 7).bind fun r1 =>
  (iter (S := Int32 × AH) (T := AH) (fun s2 =>
      if (2 * (r1.1 + 2)) ≤ s2.1 then
        some (.inr s2.2)
      else
        (gR s2.2 13 395 ((some o0))).bind fun v5 =>
        (sI s2.2 14 v5 s2.1 ((-1))).bind fun A6 =>
        some (.inl ((s2.1 + 1), A6))) (0, r1.2)).bind fun t3 =>
  (iter (S := Int32 × AH) (T := AH) (fun s8 =>
      if (2 * (r1.1 + 2)) ≤ s8.1 then
        some (.inr s8.2)
      else
        (fX12_draws s8.2 ((some o0)) (((2 * (r1.1 + 2)) - s8.1))).bind fun r11 =>
        (iter (S := Int32 × Int32) (T := Int32) (fun s12 =>
            (gR r11.2 13 395 ((some o0))).bind fun v15 =>
            (aI r11.2 14 v15 s12.2).bind fun v16 =>
            jp (fun (x20 : Unit) =>
              (gR r11.2 13 395 ((some o0))).bind fun v21 =>
              (aI r11.2 14 v21 s12.2).bind fun v22 =>
              jp1 (α := Int32) (if v22 = (-1) then
                  1
                else
                  0) fun x25 =>
              some (.inl ((s12.1 - x25), (s12.2 + 1)))) fun K17 =>
              if v16 = (-1) then
                if s12.1 ≤ 0 then
                  some (.inr s12.2)
                else
                  K17 ()
              else
                K17 ()) (r11.1, 0)).bind fun t13 =>
        (gR r11.2 13 395 ((some o0))).bind fun v26 =>
        (dvI s8.1 2).bind fun v27 =>
        (sI r11.2 14 v26 t13 v27).bind fun A28 =>
        some (.inl ((s8.1 + 1), A28))) (0, t3)).bind fun t9 =>
  (pI t9 13 396 ((some o0)) ((2 * (r1.1 + 2)))).bind fun A31 =>
  some A31
set_option maxRecDepth 100000 in
set_option maxHeartbeats 4000000 in
theorem kX12_drawsRow (l : Launch) {A0 : AH} {o0 : Option Nat} {r : AH} (h : fX12_drawsRow A0 o0 = some r) : (∃ a, o0 = some a ∧ Hk A0 a = 13) ∧ Cn l yX12_drawsRow cX12_drawsRow 5 none 1 21 0 0 [vR o0] A0 none r := by
  unfold fX12_drawsRow at h
  replace h := bnd_e h
  obtain ⟨o1, e1, h⟩ := h
  obtain ⟨rfl, hk0⟩ := rcv_e e1
  refine ⟨⟨o1, rfl, hk0⟩, ?_⟩
  refine Cn.of (pad := 4) (lv0 := [some (vR (some o1)), none, none, none, none]) (by decide +kernel) (Nat.le_of_ble_eq_true rfl) rfl ?_
  intro p e s m below meth c base D cy E
  generalize (List.map toV [vR (some o1)]).toArray = ar at E ⊢
  have E : EN p s m ar meth c D cy RX12 cX12_drawsRow 5 none "drawsRow" := E
  refine v_iconst (v := 2) E dX12_drawsRow_0 (by decide) ?_
  refine v_aload_n E dX12_drawsRow_1 rfl ?_
  refine v_bipush (v := 7) E dX12_drawsRow_2 (by decide) ?_
  replace h := bnd_e h
  obtain ⟨r1, er1, h⟩ := h
  refine v_callV (na := 1) (As := [vI 7]) (rest := [vI 2]) (ci := 12) (q := (RX12, TX12, 20)) E gw12_306 (by decide +kernel) rfl rfl (by decide) (kX12_draws l er1).2 (kX12_draws l er1).1 rfl rfl dX12_drawsRow_4 ⟨Nat.le_of_ble_eq_true rfl, Nat.le_of_ble_eq_true rfl⟩ ⟨(Nat.le_of_ble_eq_true rfl), (Nat.le_of_ble_eq_true rfl)⟩ (Nat.le_of_ble_eq_true rfl) ?_
  refine v_iconst (v := 2) E dX12_drawsRow_7 (by decide) ?_
  refine v_iadd E dX12_drawsRow_8 ?_
  refine v_imul E dX12_drawsRow_9 ?_
  refine v_istore_n (lv' := [some (vR (some o1)), some (vI (2 * (r1.1 + 2))), none, none, none]) E dX12_drawsRow_10 (by decide) rfl ?_
  refine v_iconst (v := 0) E dX12_drawsRow_11 (by decide) ?_
  refine v_istore_n (lv' := [some (vR (some o1)), some (vI (2 * (r1.1 + 2))), some (vI 0), none, none]) E dX12_drawsRow_12 (by decide) rfl ?_
  replace h := bnd_e h
  obtain ⟨t3, et3, h⟩ := h
  refine iter_V (S := Int32 × AH) (T := AH) (Ph := fun s2 => V p l e { frames := 1, cells := 0, slots := 0, locals := 21 } s m ar below meth c (MQ below (Qd base D cy none r) ar s 0 0 (fun q => base ≤ q)) base D cy 5 13 [some (vR (some o1)), some (vI (2 * (r1.1 + 2))), some (vI s2.1), none, none] [] s2.2 0 0) (Pt := fun t3 => V p l e { frames := 1, cells := 0, slots := 0, locals := 21 } s m ar below meth c (MQ below (Qd base D cy none r) ar s 0 0 (fun q => base ≤ q)) base D cy 5 31 [some (vR (some o1)), some (vI (2 * (r1.1 + 2))), none, none, none] [] t3 0 0) et3 (fun s2 w4 h hx => ?_) ?_
  · try dsimp only at h
    refine v_iload_n E dX12_drawsRow_13 rfl ?_
    refine v_iload_n E dX12_drawsRow_14 rfl ?_
    refine v_icmp_ge (tgt := 31) E dX12_drawsRow_15 (by decide) (fun c7 => ?_) (fun c7 => ?_)
    · rw [if_pos c7] at h
      refine v_drop (lv' := [some (vR (some o1)), some (vI (2 * (r1.1 + 2))), none, none, none]) [2] rfl ?_
      replace h := Option.some.inj h
      subst h
      exact hx
    · rw [if_neg c7] at h
      refine v_aload_n E dX12_drawsRow_18 rfl ?_
      replace h := bnd_e h
      obtain ⟨v5, ev5, h⟩ := h
      refine g12_33 E ev5 dX12_drawsRow_19 ?_
      refine v_iload_n E dX12_drawsRow_22 rfl ?_
      refine v_iconst (v := (-1)) E dX12_drawsRow_23 (by decide) ?_
      replace h := bnd_e h
      obtain ⟨A6, eA6, h⟩ := h
      refine v_iastore E eA6 dX12_drawsRow_24 ?_
      refine v_iinc (v := (s2.1 + 1)) (lv' := [some (vR (some o1)), some (vI (2 * (r1.1 + 2))), some (vI (s2.1 + 1)), none, none]) E dX12_drawsRow_25 rfl (by rfl) (by decide) rfl ?_
      refine v_goto (tgt := 13) E dX12_drawsRow_28 (by decide) ?_
      replace h := Option.some.inj h
      subst h
      exact hx
  · refine v_iconst (v := 0) E dX12_drawsRow_31 (by decide) ?_
    refine v_istore_n (lv' := [some (vR (some o1)), some (vI (2 * (r1.1 + 2))), some (vI 0), none, none]) E dX12_drawsRow_32 (by decide) rfl ?_
    replace h := bnd_e h
    obtain ⟨t9, et9, h⟩ := h
    refine iter_V (S := Int32 × AH) (T := AH) (Ph := fun s8 => V p l e { frames := 1, cells := 0, slots := 0, locals := 21 } s m ar below meth c (MQ below (Qd base D cy none r) ar s 0 0 (fun q => base ≤ q)) base D cy 5 33 [some (vR (some o1)), some (vI (2 * (r1.1 + 2))), some (vI s8.1), none, none] [] s8.2 0 0) (Pt := fun t9 => V p l e { frames := 1, cells := 0, slots := 0, locals := 21 } s m ar below meth c (MQ below (Qd base D cy none r) ar s 0 0 (fun q => base ≤ q)) base D cy 5 105 [some (vR (some o1)), some (vI (2 * (r1.1 + 2))), none, none, none] [] t9 0 0) et9 (fun s8 w10 h hx => ?_) ?_
    · try dsimp only at h
      refine v_iload_n E dX12_drawsRow_33 rfl ?_
      refine v_iload_n E dX12_drawsRow_34 rfl ?_
      refine v_icmp_ge (tgt := 105) E dX12_drawsRow_35 (by decide) (fun c30 => ?_) (fun c30 => ?_)
      · rw [if_pos c30] at h
        refine v_drop (lv' := [some (vR (some o1)), some (vI (2 * (r1.1 + 2))), none, none, none]) [2] rfl ?_
        replace h := Option.some.inj h
        subst h
        exact hx
      · rw [if_neg c30] at h
        refine v_aload_n E dX12_drawsRow_38 rfl ?_
        refine v_iload_n E dX12_drawsRow_39 rfl ?_
        refine v_iload_n E dX12_drawsRow_40 rfl ?_
        refine v_isub E dX12_drawsRow_41 ?_
        replace h := bnd_e h
        obtain ⟨r11, er11, h⟩ := h
        refine v_callV (na := 1) (As := [vI ((2 * (r1.1 + 2)) - s8.1)]) (rest := []) (ci := 12) (q := (RX12, TX12, 20)) E gw12_306 (by decide +kernel) rfl rfl (by decide) (kX12_draws l er11).2 (kX12_draws l er11).1 rfl rfl dX12_drawsRow_42 ⟨Nat.le_of_ble_eq_true rfl, Nat.le_of_ble_eq_true rfl⟩ ⟨(Nat.le_of_ble_eq_true rfl), (Nat.le_of_ble_eq_true rfl)⟩ (Nat.le_of_ble_eq_true rfl) ?_
        refine v_istore_n (lv' := [some (vR (some o1)), some (vI (2 * (r1.1 + 2))), some (vI s8.1), some (vI r11.1), none]) E dX12_drawsRow_45 (by decide) rfl ?_
        refine v_iconst (v := 0) E dX12_drawsRow_46 (by decide) ?_
        refine v_istore (lv' := [some (vR (some o1)), some (vI (2 * (r1.1 + 2))), some (vI s8.1), some (vI r11.1), some (vI 0)]) E dX12_drawsRow_47 (by decide) rfl ?_
        replace h := bnd_e h
        obtain ⟨t13, et13, h⟩ := h
        refine iter_V (S := Int32 × Int32) (T := Int32) (Ph := fun s12 => V p l e { frames := 1, cells := 0, slots := 0, locals := 21 } s m ar below meth c (MQ below (Qd base D cy none r) ar s 0 0 (fun q => base ≤ q)) base D cy 5 49 [some (vR (some o1)), some (vI (2 * (r1.1 + 2))), some (vI s8.1), some (vI s12.1), some (vI s12.2)] [] r11.2 0 0) (Pt := fun t13 => V p l e { frames := 1, cells := 0, slots := 0, locals := 21 } s m ar below meth c (MQ below (Qd base D cy none r) ar s 0 0 (fun q => base ≤ q)) base D cy 5 89 [some (vR (some o1)), some (vI (2 * (r1.1 + 2))), some (vI s8.1), none, some (vI t13)] [] r11.2 0 0) et13 (fun s12 w14 h hx => ?_) ?_
        · try dsimp only at h
          refine v_aload_n E dX12_drawsRow_49 rfl ?_
          replace h := bnd_e h
          obtain ⟨v15, ev15, h⟩ := h
          refine g12_33 E ev15 dX12_drawsRow_50 ?_
          refine v_iload E dX12_drawsRow_53 rfl ?_
          replace h := bnd_e h
          obtain ⟨v16, ev16, h⟩ := h
          refine v_iaload E ev16 dX12_drawsRow_55 ?_
          refine v_iconst (v := (-1)) E dX12_drawsRow_56 (by decide) ?_
          refine jp_use h (fun K17 eK17 h => ?_)
          have hK17 : ∀ x20 : Unit, K17 x20 = some w14 → V p l e { frames := 1, cells := 0, slots := 0, locals := 21 } s m ar below meth c (MQ below (Qd base D cy none r) ar s 0 0 (fun q => base ≤ q)) base D cy 5 64 [some (vR (some o1)), some (vI (2 * (r1.1 + 2))), some (vI s8.1), some (vI s12.1), some (vI s12.2)] [] r11.2 0 0 := by
            intro x20 h
            rw [eK17] at h
            try dsimp only at h
            refine v_iload_n E dX12_drawsRow_64 rfl ?_
            refine v_aload_n E dX12_drawsRow_65 rfl ?_
            replace h := bnd_e h
            obtain ⟨v21, ev21, h⟩ := h
            refine g12_33 E ev21 dX12_drawsRow_66 ?_
            refine v_iload E dX12_drawsRow_69 rfl ?_
            replace h := bnd_e h
            obtain ⟨v22, ev22, h⟩ := h
            refine v_iaload E ev22 dX12_drawsRow_71 ?_
            refine v_iconst (v := (-1)) E dX12_drawsRow_72 (by decide) ?_
            refine jp1_use h (fun K23 eK23 h => ?_)
            have hK23 : ∀ x25 : Int32, K23 x25 = some w14 → V p l e { frames := 1, cells := 0, slots := 0, locals := 21 } s m ar below meth c (MQ below (Qd base D cy none r) ar s 0 0 (fun q => base ≤ q)) base D cy 5 81 [some (vR (some o1)), some (vI (2 * (r1.1 + 2))), some (vI s8.1), none, some (vI s12.2)] [vI x25, vI s12.1] r11.2 0 0 := by
              intro x25 h
              rw [eK23] at h
              try dsimp only at h
              refine v_isub E dX12_drawsRow_81 ?_
              refine v_istore_n (lv' := [some (vR (some o1)), some (vI (2 * (r1.1 + 2))), some (vI s8.1), some (vI (s12.1 - x25)), some (vI s12.2)]) E dX12_drawsRow_82 (by decide) rfl ?_
              refine v_iinc (v := (s12.2 + 1)) (lv' := [some (vR (some o1)), some (vI (2 * (r1.1 + 2))), some (vI s8.1), some (vI (s12.1 - x25)), some (vI (s12.2 + 1))]) E dX12_drawsRow_83 rfl (by rfl) (by decide) rfl ?_
              refine v_goto (tgt := 49) E dX12_drawsRow_86 (by decide) ?_
              replace h := Option.some.inj h
              subst h
              exact hx
            refine v_icmp_ne (tgt := 80) E dX12_drawsRow_73 (by decide) (fun c24 => ?_) (fun c24 => ?_)
            · rw [if_neg c24] at h
              refine v_iconst (v := 0) E dX12_drawsRow_80 (by decide) ?_
              refine v_drop (lv' := [some (vR (some o1)), some (vI (2 * (r1.1 + 2))), some (vI s8.1), none, some (vI s12.2)]) [3] rfl ?_
              exact hK23 0 h
            · rw [if_pos c24] at h
              refine v_iconst (v := 1) E dX12_drawsRow_76 (by decide) ?_
              refine v_goto (tgt := 81) E dX12_drawsRow_77 (by decide) ?_
              refine v_drop (lv' := [some (vR (some o1)), some (vI (2 * (r1.1 + 2))), some (vI s8.1), none, some (vI s12.2)]) [3] rfl ?_
              exact hK23 1 h
          refine v_icmp_ne (tgt := 64) E dX12_drawsRow_57 (by decide) (fun c19 => ?_) (fun c19 => ?_)
          · rw [if_neg c19] at h
            exact hK17 () h
          · rw [if_pos c19] at h
            refine v_iload_n E dX12_drawsRow_60 rfl ?_
            refine v_if_le (tgt := 89) E dX12_drawsRow_61 (by decide) (fun c18 => ?_) (fun c18 => ?_)
            · rw [if_pos c18] at h
              refine v_drop (lv' := [some (vR (some o1)), some (vI (2 * (r1.1 + 2))), some (vI s8.1), none, some (vI s12.2)]) [3] rfl ?_
              replace h := Option.some.inj h
              subst h
              exact hx
            · rw [if_neg c18] at h
              exact hK17 () h
        · refine v_aload_n E dX12_drawsRow_89 rfl ?_
          replace h := bnd_e h
          obtain ⟨v26, ev26, h⟩ := h
          refine g12_33 E ev26 dX12_drawsRow_90 ?_
          refine v_iload E dX12_drawsRow_93 rfl ?_
          refine v_iload_n E dX12_drawsRow_95 rfl ?_
          refine v_iconst (v := 2) E dX12_drawsRow_96 (by decide) ?_
          replace h := bnd_e h
          obtain ⟨v27, ev27, h⟩ := h
          refine v_idiv E ev27 dX12_drawsRow_97 ?_
          replace h := bnd_e h
          obtain ⟨A28, eA28, h⟩ := h
          refine v_iastore E eA28 dX12_drawsRow_98 ?_
          refine v_iinc (v := (s8.1 + 1)) (lv' := [some (vR (some o1)), some (vI (2 * (r1.1 + 2))), some (vI (s8.1 + 1)), none, some (vI t13)]) E dX12_drawsRow_99 rfl (by rfl) (by decide) rfl ?_
          refine v_goto (tgt := 33) E dX12_drawsRow_102 (by decide) ?_
          refine v_drop (lv' := [some (vR (some o1)), some (vI (2 * (r1.1 + 2))), some (vI (s8.1 + 1)), none, none]) [4] rfl ?_
          replace h := Option.some.inj h
          subst h
          exact hx
    · refine v_aload_n E dX12_drawsRow_105 rfl ?_
      refine v_iload_n E dX12_drawsRow_106 rfl ?_
      replace h := bnd_e h
      obtain ⟨A31, eA31, h⟩ := h
      refine p12_67 E eA31 dX12_drawsRow_107 ?_
      replace h := Option.some.inj h
      subst h
      refine v_widen (k' := 0) (n' := 0) (Nat.le_of_ble_eq_true rfl) (Nat.le_of_ble_eq_true rfl) ?_
      exact v_vret E dX12_drawsRow_110
noncomputable def fX12_drift (A0 : AH) (o0 : Option Nat) (a1 : Int32) : Option (Int32 × AH) :=
  (rcv A0 13 o0).bind fun o0 =>
  (fX12_in A0 (((a1 : Int32).toInt64)) 1 6).bind fun r1 =>
  if r1 = 0 then
    some (((-1000000002), A0))
  else
    (iter (S := Int32 × AH) (T := AH) (fun s2 =>
        if a1 ≤ s2.1 then
          some (.inr s2.2)
        else
          (gR s2.2 13 384 ((some o0))).bind fun v5 =>
          (aI s2.2 14 v5 0).bind fun v6 =>
          if 6 ≤ v6 then
            some (.inr s2.2)
          else
            (fX12_minds s2.2 ((some o0))).bind fun r7 =>
            (fX12_drawsRow r7 ((some o0))).bind fun r8 =>
            (fX12_laysMore r8 ((some o0))).bind fun r9 =>
            some (.inl ((s2.1 + 1), r9.2))) (0, A0)).bind fun t3 =>
    (gR t3 13 384 ((some o0))).bind fun v12 =>
    (aI t3 14 v12 0).bind fun v13 =>
    some ((v13, t3))
set_option maxRecDepth 100000 in
set_option maxHeartbeats 4000000 in
theorem kX12_drift (l : Launch) {A0 : AH} {o0 : Option Nat} {a1 : Int32} {r : Int32 × AH} (h : fX12_drift A0 o0 a1 = some r) : (∃ a, o0 = some a ∧ Hk A0 a = 13) ∧ Cn l yX12_drift cX12_drift 3 (some .int) 3 67 0 0 [vR o0, vI a1] A0 (some (vI r.1)) r.2 := by
  unfold fX12_drift at h
  replace h := bnd_e h
  obtain ⟨o1, e1, h⟩ := h
  obtain ⟨rfl, hk0⟩ := rcv_e e1
  refine ⟨⟨o1, rfl, hk0⟩, ?_⟩
  refine Cn.of (pad := 1) (lv0 := [some (vR (some o1)), some (vI a1), none]) (by decide +kernel) (Nat.le_of_ble_eq_true rfl) rfl ?_
  intro p e s m below meth c base D cy E
  generalize (List.map toV [vR (some o1), vI a1]).toArray = ar at E ⊢
  have E : EN p s m ar meth c D cy RX12 cX12_drift 3 (some .int) "drift" := E
  refine v_iload_n E dX12_drift_0 rfl ?_
  refine v_i2l E dX12_drift_1 ?_
  refine v_lconst (v := 1) E dX12_drift_2 (by decide) ?_
  refine v_ldc2 (v := 6) E dX12_drift_3 q1439 ?_
  replace h := bnd_e h
  obtain ⟨r1, er1, h⟩ := h
  refine v_callS (na := 3) (As := [vJ ((a1 : Int32).toInt64), vJ 1, vJ 6]) (rest := []) E gw12_55 (by decide +kernel) (kX12_in l er1) rfl rfl dX12_drift_6 ⟨Nat.le_of_ble_eq_true rfl, Nat.le_of_ble_eq_true rfl⟩ ⟨(Nat.le_of_ble_eq_true rfl), (Nat.le_of_ble_eq_true rfl)⟩ (Nat.le_of_ble_eq_true rfl) ?_
  refine v_if_ne (tgt := 15) E dX12_drift_9 (by decide) (fun c15 => ?_) (fun c15 => ?_)
  · rw [if_neg c15] at h
    refine v_iconst (v := 0) E dX12_drift_15 (by decide) ?_
    refine v_istore_n (lv' := [some (vR (some o1)), some (vI a1), some (vI 0)]) E dX12_drift_16 (by decide) rfl ?_
    replace h := bnd_e h
    obtain ⟨t3, et3, h⟩ := h
    refine iter_V (S := Int32 × AH) (T := AH) (Ph := fun s2 => V p l e { frames := 3, cells := 0, slots := 0, locals := 67 } s m ar below meth c (MQ below (Qd base D cy (some (vI r.1)) r.2) ar s 0 0 (fun q => base ≤ q)) base D cy 3 17 [some (vR (some o1)), some (vI a1), some (vI s2.1)] [] s2.2 0 0) (Pt := fun t3 => V p l e { frames := 3, cells := 0, slots := 0, locals := 67 } s m ar below meth c (MQ below (Qd base D cy (some (vI r.1)) r.2) ar s 0 0 (fun q => base ≤ q)) base D cy 3 52 [some (vR (some o1)), none, none] [] t3 0 0) et3 (fun s2 w4 h hx => ?_) ?_
    · try dsimp only at h
      refine v_iload_n E dX12_drift_17 rfl ?_
      refine v_iload_n E dX12_drift_18 rfl ?_
      refine v_icmp_ge (tgt := 52) E dX12_drift_19 (by decide) (fun c11 => ?_) (fun c11 => ?_)
      · rw [if_pos c11] at h
        refine v_drop (lv' := [some (vR (some o1)), none, none]) [1, 2] rfl ?_
        replace h := Option.some.inj h
        subst h
        exact hx
      · rw [if_neg c11] at h
        refine v_aload_n E dX12_drift_22 rfl ?_
        replace h := bnd_e h
        obtain ⟨v5, ev5, h⟩ := h
        refine g12_7 E ev5 dX12_drift_23 ?_
        refine v_iconst (v := 0) E dX12_drift_26 (by decide) ?_
        replace h := bnd_e h
        obtain ⟨v6, ev6, h⟩ := h
        refine v_iaload E ev6 dX12_drift_27 ?_
        refine v_bipush (v := 6) E dX12_drift_28 (by decide) ?_
        refine v_icmp_ge (tgt := 52) E dX12_drift_30 (by decide) (fun c10 => ?_) (fun c10 => ?_)
        · rw [if_pos c10] at h
          refine v_drop (lv' := [some (vR (some o1)), none, none]) [1, 2] rfl ?_
          replace h := Option.some.inj h
          subst h
          exact hx
        · rw [if_neg c10] at h
          refine v_aload_n E dX12_drift_33 rfl ?_
          replace h := bnd_e h
          obtain ⟨r7, er7, h⟩ := h
          refine v_callV (na := 0) (As := []) (rest := []) (ci := 12) (q := (RX12, TX12, 20)) E gw12_93 (by decide +kernel) rfl rfl (by decide) (kX12_minds l er7).2 (kX12_minds l er7).1 rfl rfl dX12_drift_34 ⟨Nat.le_of_ble_eq_true rfl, Nat.le_of_ble_eq_true rfl⟩ ⟨(Nat.le_of_ble_eq_true rfl), (Nat.le_of_ble_eq_true rfl)⟩ (Nat.le_of_ble_eq_true rfl) ?_
          refine v_aload_n E dX12_drift_37 rfl ?_
          replace h := bnd_e h
          obtain ⟨r8, er8, h⟩ := h
          refine v_callV (na := 0) (As := []) (rest := []) (ci := 12) (q := (RX12, TX12, 20)) E gw12_311 (by decide +kernel) rfl rfl (by decide) (kX12_drawsRow l er8).2 (kX12_drawsRow l er8).1 rfl rfl dX12_drift_38 ⟨Nat.le_of_ble_eq_true rfl, Nat.le_of_ble_eq_true rfl⟩ ⟨(Nat.le_of_ble_eq_true rfl), (Nat.le_of_ble_eq_true rfl)⟩ (Nat.le_of_ble_eq_true rfl) ?_
          refine v_aload_n E dX12_drift_41 rfl ?_
          replace h := bnd_e h
          obtain ⟨r9, er9, h⟩ := h
          refine v_callV (na := 0) (As := []) (rest := []) (ci := 12) (q := (RX12, TX12, 20)) E gw12_100 (by decide +kernel) rfl rfl (by decide) (kX12_laysMore l er9).2 (kX12_laysMore l er9).1 rfl rfl dX12_drift_42 ⟨Nat.le_of_ble_eq_true rfl, Nat.le_of_ble_eq_true rfl⟩ ⟨(Nat.le_of_ble_eq_true rfl), (Nat.le_of_ble_eq_true rfl)⟩ (Nat.le_of_ble_eq_true rfl) ?_
          refine v_pop E dX12_drift_45 rfl ?_
          refine v_iinc (v := (s2.1 + 1)) (lv' := [some (vR (some o1)), some (vI a1), some (vI (s2.1 + 1))]) E dX12_drift_46 rfl (by rfl) (by decide) rfl ?_
          refine v_goto (tgt := 17) E dX12_drift_49 (by decide) ?_
          replace h := Option.some.inj h
          subst h
          exact hx
    · refine v_aload_n E dX12_drift_52 rfl ?_
      replace h := bnd_e h
      obtain ⟨v12, ev12, h⟩ := h
      refine g12_7 E ev12 dX12_drift_53 ?_
      refine v_iconst (v := 0) E dX12_drift_56 (by decide) ?_
      replace h := bnd_e h
      obtain ⟨v13, ev13, h⟩ := h
      refine v_iaload E ev13 dX12_drift_57 ?_
      replace h := Option.some.inj h
      subst h
      refine v_widen (k' := 0) (n' := 0) (Nat.le_of_ble_eq_true rfl) (Nat.le_of_ble_eq_true rfl) ?_
      exact v_iret E dX12_drift_58
  · rw [if_pos c15] at h
    refine v_ldc (v := (-1000000002)) E dX12_drift_12 q1092 ?_
    replace h := Option.some.inj h
    subst h
    refine v_widen (k' := 0) (n' := 0) (Nat.le_of_ble_eq_true rfl) (Nat.le_of_ble_eq_true rfl) ?_
    exact v_iret E dX12_drift_14
noncomputable def fX12_undo (A0 : AH) (o0 : Option Nat) (a1 : Int32) : Option (Int32 × AH) :=
  (rcv A0 13 o0).bind fun o0 =>
  (fX12_in A0 (((a1 : Int32).toInt64)) 1 16).bind fun r1 =>
  if r1 = 0 then
    some (((-1000000002), A0))
  else
    (gI A0 13 387 ((some o0))).bind fun v2 =>
    if a1 ≤ v2 then
      (gI A0 13 387 ((some o0))).bind fun v3 =>
      (pI A0 13 387 ((some o0)) ((v3 - a1))).bind fun A4 =>
      (gI A4 13 387 ((some o0))).bind fun v5 =>
      (fX12_copy A4 ((some o0)) ((327 + (109 * v5))) 0).bind fun r6 =>
      (gR r6 13 384 ((some o0))).bind fun v7 =>
      (aI r6 14 v7 0).bind fun v8 =>
      some ((v8, r6))
    else
      some (((-1000000003), A0))
set_option maxRecDepth 100000 in
set_option maxHeartbeats 4000000 in
theorem kX12_undo (l : Launch) {A0 : AH} {o0 : Option Nat} {a1 : Int32} {r : Int32 × AH} (h : fX12_undo A0 o0 a1 = some r) : (∃ a, o0 = some a ∧ Hk A0 a = 13) ∧ Cn l yX12_undo cX12_undo 2 (some .int) 1 25 0 0 [vR o0, vI a1] A0 (some (vI r.1)) r.2 := by
  unfold fX12_undo at h
  replace h := bnd_e h
  obtain ⟨o1, e1, h⟩ := h
  obtain ⟨rfl, hk0⟩ := rcv_e e1
  refine ⟨⟨o1, rfl, hk0⟩, ?_⟩
  refine Cn.of (pad := 0) (lv0 := [some (vR (some o1)), some (vI a1)]) (by decide +kernel) (Nat.le_of_ble_eq_true rfl) rfl ?_
  intro p e s m below meth c base D cy E
  generalize (List.map toV [vR (some o1), vI a1]).toArray = ar at E ⊢
  have E : EN p s m ar meth c D cy RX12 cX12_undo 2 (some .int) "undo" := E
  refine v_iload_n E dX12_undo_0 rfl ?_
  refine v_i2l E dX12_undo_1 ?_
  refine v_lconst (v := 1) E dX12_undo_2 (by decide) ?_
  refine v_ldc2 (v := 16) E dX12_undo_3 q1456 ?_
  replace h := bnd_e h
  obtain ⟨r1, er1, h⟩ := h
  refine v_callS (na := 3) (As := [vJ ((a1 : Int32).toInt64), vJ 1, vJ 16]) (rest := []) E gw12_55 (by decide +kernel) (kX12_in l er1) rfl rfl dX12_undo_6 ⟨Nat.le_of_ble_eq_true rfl, Nat.le_of_ble_eq_true rfl⟩ ⟨(Nat.le_of_ble_eq_true rfl), (Nat.le_of_ble_eq_true rfl)⟩ (Nat.le_of_ble_eq_true rfl) ?_
  refine v_if_ne (tgt := 15) E dX12_undo_9 (by decide) (fun c10 => ?_) (fun c10 => ?_)
  · rw [if_neg c10] at h
    refine v_iload_n E dX12_undo_15 rfl ?_
    refine v_aload_n E dX12_undo_16 rfl ?_
    replace h := bnd_e h
    obtain ⟨v2, ev2, h⟩ := h
    refine g12_48 E ev2 dX12_undo_17 ?_
    refine v_icmp_le (tgt := 27) E dX12_undo_20 (by decide) (fun c9 => ?_) (fun c9 => ?_)
    · rw [if_pos c9] at h
      refine v_aload_n E dX12_undo_27 rfl ?_
      refine v_dup E dX12_undo_28 rfl ?_
      replace h := bnd_e h
      obtain ⟨v3, ev3, h⟩ := h
      refine g12_48 E ev3 dX12_undo_29 ?_
      refine v_iload_n E dX12_undo_32 rfl ?_
      refine v_isub E dX12_undo_33 ?_
      replace h := bnd_e h
      obtain ⟨A4, eA4, h⟩ := h
      refine p12_48 E eA4 dX12_undo_34 ?_
      refine v_aload_n E dX12_undo_37 rfl ?_
      refine v_sipush (v := 327) E dX12_undo_38 (by decide) ?_
      refine v_bipush (v := 109) E dX12_undo_41 (by decide) ?_
      refine v_aload_n E dX12_undo_43 rfl ?_
      replace h := bnd_e h
      obtain ⟨v5, ev5, h⟩ := h
      refine g12_48 E ev5 dX12_undo_44 ?_
      refine v_imul E dX12_undo_47 ?_
      refine v_iadd E dX12_undo_48 ?_
      refine v_iconst (v := 0) E dX12_undo_49 (by decide) ?_
      replace h := bnd_e h
      obtain ⟨r6, er6, h⟩ := h
      refine v_callV (na := 2) (As := [vI (327 + (109 * v5)), vI 0]) (rest := []) (ci := 12) (q := (RX12, TX12, 20)) E gw12_51 (by decide +kernel) rfl rfl (by decide) (kX12_copy l er6).2 (kX12_copy l er6).1 rfl rfl dX12_undo_50 ⟨Nat.le_of_ble_eq_true rfl, Nat.le_of_ble_eq_true rfl⟩ ⟨(Nat.le_of_ble_eq_true rfl), (Nat.le_of_ble_eq_true rfl)⟩ (Nat.le_of_ble_eq_true rfl) ?_
      refine v_aload_n E dX12_undo_53 rfl ?_
      replace h := bnd_e h
      obtain ⟨v7, ev7, h⟩ := h
      refine g12_7 E ev7 dX12_undo_54 ?_
      refine v_iconst (v := 0) E dX12_undo_57 (by decide) ?_
      replace h := bnd_e h
      obtain ⟨v8, ev8, h⟩ := h
      refine v_iaload E ev8 dX12_undo_58 ?_
      replace h := Option.some.inj h
      subst h
      refine v_widen (k' := 0) (n' := 0) (Nat.le_of_ble_eq_true rfl) (Nat.le_of_ble_eq_true rfl) ?_
      exact v_iret E dX12_undo_59
    · rw [if_neg c9] at h
      refine v_ldcw (v := (-1000000003)) E dX12_undo_23 q1386 ?_
      replace h := Option.some.inj h
      subst h
      refine v_widen (k' := 0) (n' := 0) (Nat.le_of_ble_eq_true rfl) (Nat.le_of_ble_eq_true rfl) ?_
      exact v_iret E dX12_undo_26
  · rw [if_pos c10] at h
    refine v_ldc (v := (-1000000002)) E dX12_undo_12 q1092 ?_
    replace h := Option.some.inj h
    subst h
    refine v_widen (k' := 0) (n' := 0) (Nat.le_of_ble_eq_true rfl) (Nat.le_of_ble_eq_true rfl) ?_
    exact v_iret E dX12_undo_14
noncomputable def fX12_write (A0 : AH) (o0 : Option Nat) (a1 : Int32) (a2 : Int32) : Option (Int32 × AH) :=
  (rcv A0 13 o0).bind fun o0 =>
  (fX12_isWord A0 ((some o0)) a1).bind fun r1 =>
  if r1 = 0 then
    some (((-1000000001), A0))
  else
    (gI A0 13 392 ((some o0))).bind fun v2 =>
    if v2 = 20 then
      some (((-1000000004), A0))
    else
      (gR A0 13 393 ((some o0))).bind fun v3 =>
      (gI A0 13 392 ((some o0))).bind fun v4 =>
      (sI A0 14 v3 v4 a1).bind fun A5 =>
      (gR A5 13 394 ((some o0))).bind fun v6 =>
      (gI A5 13 392 ((some o0))).bind fun v7 =>
      (sI A5 14 v6 v7 a2).bind fun A8 =>
      (gI A8 13 392 ((some o0))).bind fun v9 =>
      (pI A8 13 392 ((some o0)) ((v9 + 1))).bind fun A10 =>
      (gI A10 13 392 ((some o0))).bind fun v11 =>
      some ((v11, A10))
set_option maxRecDepth 100000 in
set_option maxHeartbeats 4000000 in
theorem kX12_write (l : Launch) {A0 : AH} {o0 : Option Nat} {a1 : Int32} {a2 : Int32} {r : Int32 × AH} (h : fX12_write A0 o0 a1 a2 = some r) : (∃ a, o0 = some a ∧ Hk A0 a = 13) ∧ Cn l yX12_write cX12_write 3 (some .int) 2 46 0 0 [vR o0, vI a1, vI a2] A0 (some (vI r.1)) r.2 := by
  unfold fX12_write at h
  replace h := bnd_e h
  obtain ⟨o1, e1, h⟩ := h
  obtain ⟨rfl, hk0⟩ := rcv_e e1
  refine ⟨⟨o1, rfl, hk0⟩, ?_⟩
  refine Cn.of (pad := 0) (lv0 := [some (vR (some o1)), some (vI a1), some (vI a2)]) (by decide +kernel) (Nat.le_of_ble_eq_true rfl) rfl ?_
  intro p e s m below meth c base D cy E
  generalize (List.map toV [vR (some o1), vI a1, vI a2]).toArray = ar at E ⊢
  have E : EN p s m ar meth c D cy RX12 cX12_write 3 (some .int) "write" := E
  refine v_aload_n E dX12_write_0 rfl ?_
  refine v_iload_n E dX12_write_1 rfl ?_
  replace h := bnd_e h
  obtain ⟨r1, er1, h⟩ := h
  refine v_callV (na := 1) (As := [vI a1]) (rest := []) (ci := 12) (q := (RX12, TX12, 20)) E gw12_223 (by decide +kernel) rfl rfl (by decide) (kX12_isWord l er1).2 (kX12_isWord l er1).1 rfl rfl dX12_write_2 ⟨Nat.le_of_ble_eq_true rfl, Nat.le_of_ble_eq_true rfl⟩ ⟨(Nat.le_of_ble_eq_true rfl), (Nat.le_of_ble_eq_true rfl)⟩ (Nat.le_of_ble_eq_true rfl) ?_
  refine v_if_ne (tgt := 11) E dX12_write_5 (by decide) (fun c13 => ?_) (fun c13 => ?_)
  · rw [if_neg c13] at h
    refine v_aload_n E dX12_write_11 rfl ?_
    replace h := bnd_e h
    obtain ⟨v2, ev2, h⟩ := h
    refine g12_220 E ev2 dX12_write_12 ?_
    refine v_bipush (v := 20) E dX12_write_15 (by decide) ?_
    refine v_icmp_ne (tgt := 23) E dX12_write_17 (by decide) (fun c12 => ?_) (fun c12 => ?_)
    · rw [if_neg c12] at h
      refine v_aload_n E dX12_write_23 rfl ?_
      replace h := bnd_e h
      obtain ⟨v3, ev3, h⟩ := h
      refine g12_27 E ev3 dX12_write_24 ?_
      refine v_aload_n E dX12_write_27 rfl ?_
      replace h := bnd_e h
      obtain ⟨v4, ev4, h⟩ := h
      refine g12_220 E ev4 dX12_write_28 ?_
      refine v_iload_n E dX12_write_31 rfl ?_
      replace h := bnd_e h
      obtain ⟨A5, eA5, h⟩ := h
      refine v_iastore E eA5 dX12_write_32 ?_
      refine v_aload_n E dX12_write_33 rfl ?_
      replace h := bnd_e h
      obtain ⟨v6, ev6, h⟩ := h
      refine g12_30 E ev6 dX12_write_34 ?_
      refine v_aload_n E dX12_write_37 rfl ?_
      replace h := bnd_e h
      obtain ⟨v7, ev7, h⟩ := h
      refine g12_220 E ev7 dX12_write_38 ?_
      refine v_iload_n E dX12_write_41 rfl ?_
      replace h := bnd_e h
      obtain ⟨A8, eA8, h⟩ := h
      refine v_iastore E eA8 dX12_write_42 ?_
      refine v_aload_n E dX12_write_43 rfl ?_
      refine v_dup E dX12_write_44 rfl ?_
      replace h := bnd_e h
      obtain ⟨v9, ev9, h⟩ := h
      refine g12_220 E ev9 dX12_write_45 ?_
      refine v_iconst (v := 1) E dX12_write_48 (by decide) ?_
      refine v_iadd E dX12_write_49 ?_
      replace h := bnd_e h
      obtain ⟨A10, eA10, h⟩ := h
      refine p12_220 E eA10 dX12_write_50 ?_
      refine v_aload_n E dX12_write_53 rfl ?_
      replace h := bnd_e h
      obtain ⟨v11, ev11, h⟩ := h
      refine g12_220 E ev11 dX12_write_54 ?_
      replace h := Option.some.inj h
      subst h
      refine v_widen (k' := 0) (n' := 0) (Nat.le_of_ble_eq_true rfl) (Nat.le_of_ble_eq_true rfl) ?_
      exact v_iret E dX12_write_57
    · rw [if_pos c12] at h
      refine v_ldc (v := (-1000000004)) E dX12_write_20 q1093 ?_
      replace h := Option.some.inj h
      subst h
      refine v_widen (k' := 0) (n' := 0) (Nat.le_of_ble_eq_true rfl) (Nat.le_of_ble_eq_true rfl) ?_
      exact v_iret E dX12_write_22
  · rw [if_pos c13] at h
    refine v_ldc (v := (-1000000001)) E dX12_write_8 q1208 ?_
    replace h := Option.some.inj h
    subst h
    refine v_widen (k' := 0) (n' := 0) (Nat.le_of_ble_eq_true rfl) (Nat.le_of_ble_eq_true rfl) ?_
    exact v_iret E dX12_write_10
noncomputable def fX12_tear (A0 : AH) (o0 : Option Nat) : Option (Int32 × AH) :=
  (rcv A0 13 o0).bind fun o0 =>
  (gI A0 13 392 ((some o0))).bind fun v1 =>
  (pI A0 13 392 ((some o0)) 0).bind fun A2 =>
  some ((v1, A2))
set_option maxRecDepth 100000 in
set_option maxHeartbeats 4000000 in
theorem kX12_tear (l : Launch) {A0 : AH} {o0 : Option Nat} {r : Int32 × AH} (h : fX12_tear A0 o0 = some r) : (∃ a, o0 = some a ∧ Hk A0 a = 13) ∧ Cn l yX12_tear cX12_tear 2 (some .int) 0 0 0 0 [vR o0] A0 (some (vI r.1)) r.2 := by
  unfold fX12_tear at h
  replace h := bnd_e h
  obtain ⟨o1, e1, h⟩ := h
  obtain ⟨rfl, hk0⟩ := rcv_e e1
  refine ⟨⟨o1, rfl, hk0⟩, ?_⟩
  refine Cn.of (pad := 1) (lv0 := [some (vR (some o1)), none]) (by decide +kernel) (Nat.le_of_ble_eq_true rfl) rfl ?_
  intro p e s m below meth c base D cy E
  generalize (List.map toV [vR (some o1)]).toArray = ar at E ⊢
  have E : EN p s m ar meth c D cy RX12 cX12_tear 2 (some .int) "tear" := E
  refine v_aload_n E dX12_tear_0 rfl ?_
  replace h := bnd_e h
  obtain ⟨v1, ev1, h⟩ := h
  refine g12_220 E ev1 dX12_tear_1 ?_
  refine v_istore_n (lv' := [some (vR (some o1)), some (vI v1)]) E dX12_tear_4 (by decide) rfl ?_
  refine v_aload_n E dX12_tear_5 rfl ?_
  refine v_iconst (v := 0) E dX12_tear_6 (by decide) ?_
  replace h := bnd_e h
  obtain ⟨A2, eA2, h⟩ := h
  refine p12_220 E eA2 dX12_tear_7 ?_
  refine v_iload_n E dX12_tear_10 rfl ?_
  replace h := Option.some.inj h
  subst h
  refine v_widen (k' := 0) (n' := 0) (Nat.le_of_ble_eq_true rfl) (Nat.le_of_ble_eq_true rfl) ?_
  exact v_iret E dX12_tear_11
noncomputable def fX12_seed (A0 : AH) (o0 : Option Nat) (a1 : Int32) : Option (Int32 × AH) :=
  (rcv A0 13 o0).bind fun o0 =>
  if 0 ≤ a1 then
    (gI A0 13 388 ((some o0))).bind fun v1 =>
    (pI A0 13 388 ((some o0)) a1).bind fun A2 =>
    some ((v1, A2))
  else
    some (((-1000000002), A0))
set_option maxRecDepth 100000 in
set_option maxHeartbeats 4000000 in
theorem kX12_seed (l : Launch) {A0 : AH} {o0 : Option Nat} {a1 : Int32} {r : Int32 × AH} (h : fX12_seed A0 o0 a1 = some r) : (∃ a, o0 = some a ∧ Hk A0 a = 13) ∧ Cn l yX12_seed cX12_seed 3 (some .int) 0 0 0 0 [vR o0, vI a1] A0 (some (vI r.1)) r.2 := by
  unfold fX12_seed at h
  replace h := bnd_e h
  obtain ⟨o1, e1, h⟩ := h
  obtain ⟨rfl, hk0⟩ := rcv_e e1
  refine ⟨⟨o1, rfl, hk0⟩, ?_⟩
  refine Cn.of (pad := 1) (lv0 := [some (vR (some o1)), some (vI a1), none]) (by decide +kernel) (Nat.le_of_ble_eq_true rfl) rfl ?_
  intro p e s m below meth c base D cy E
  generalize (List.map toV [vR (some o1), vI a1]).toArray = ar at E ⊢
  have E : EN p s m ar meth c D cy RX12 cX12_seed 3 (some .int) "seed" := E
  refine v_iload_n E dX12_seed_0 rfl ?_
  refine v_if_ge (tgt := 7) E dX12_seed_1 (by decide) (fun c3 => ?_) (fun c3 => ?_)
  · rw [if_pos c3] at h
    refine v_aload_n E dX12_seed_7 rfl ?_
    replace h := bnd_e h
    obtain ⟨v1, ev1, h⟩ := h
    refine g12_236 E ev1 dX12_seed_8 ?_
    refine v_istore_n (lv' := [some (vR (some o1)), some (vI a1), some (vI v1)]) E dX12_seed_11 (by decide) rfl ?_
    refine v_aload_n E dX12_seed_12 rfl ?_
    refine v_iload_n E dX12_seed_13 rfl ?_
    replace h := bnd_e h
    obtain ⟨A2, eA2, h⟩ := h
    refine p12_236 E eA2 dX12_seed_14 ?_
    refine v_iload_n E dX12_seed_17 rfl ?_
    replace h := Option.some.inj h
    subst h
    refine v_widen (k' := 0) (n' := 0) (Nat.le_of_ble_eq_true rfl) (Nat.le_of_ble_eq_true rfl) ?_
    exact v_iret E dX12_seed_18
  · rw [if_neg c3] at h
    refine v_ldc (v := (-1000000002)) E dX12_seed_4 q1092 ?_
    replace h := Option.some.inj h
    subst h
    refine v_widen (k' := 0) (n' := 0) (Nat.le_of_ble_eq_true rfl) (Nat.le_of_ble_eq_true rfl) ?_
    exact v_iret E dX12_seed_6
noncomputable def fX12_keep (A0 : AH) (o0 : Option Nat) (a1 : Int32) : Option (Int32 × AH) :=
  (rcv A0 13 o0).bind fun o0 =>
  (fX12_in A0 (((a1 : Int32).toInt64)) 0 1).bind fun r1 =>
  if r1 = 0 then
    some (((-1000000001), A0))
  else
    (fX12_copy A0 ((some o0)) 0 ((109 + (109 * a1)))).bind fun r2 =>
    (gR r2 13 385 ((some o0))).bind fun v3 =>
    (gI r2 13 388 ((some o0))).bind fun v4 =>
    (sI r2 14 v3 a1 v4).bind fun A5 =>
    (gR A5 13 386 ((some o0))).bind fun v6 =>
    (sZ A5 15 v6 a1 1).bind fun A7 =>
    (pI A7 13 387 ((some o0)) 0).bind fun A8 =>
    some ((1, A8))
set_option maxRecDepth 100000 in
set_option maxHeartbeats 4000000 in
theorem kX12_keep (l : Launch) {A0 : AH} {o0 : Option Nat} {a1 : Int32} {r : Int32 × AH} (h : fX12_keep A0 o0 a1 = some r) : (∃ a, o0 = some a ∧ Hk A0 a = 13) ∧ Cn l yX12_keep cX12_keep 2 (some .int) 1 25 0 0 [vR o0, vI a1] A0 (some (vI r.1)) r.2 := by
  unfold fX12_keep at h
  replace h := bnd_e h
  obtain ⟨o1, e1, h⟩ := h
  obtain ⟨rfl, hk0⟩ := rcv_e e1
  refine ⟨⟨o1, rfl, hk0⟩, ?_⟩
  refine Cn.of (pad := 0) (lv0 := [some (vR (some o1)), some (vI a1)]) (by decide +kernel) (Nat.le_of_ble_eq_true rfl) rfl ?_
  intro p e s m below meth c base D cy E
  generalize (List.map toV [vR (some o1), vI a1]).toArray = ar at E ⊢
  have E : EN p s m ar meth c D cy RX12 cX12_keep 2 (some .int) "keep" := E
  refine v_iload_n E dX12_keep_0 rfl ?_
  refine v_i2l E dX12_keep_1 ?_
  refine v_lconst (v := 0) E dX12_keep_2 (by decide) ?_
  refine v_lconst (v := 1) E dX12_keep_3 (by decide) ?_
  replace h := bnd_e h
  obtain ⟨r1, er1, h⟩ := h
  refine v_callS (na := 3) (As := [vJ ((a1 : Int32).toInt64), vJ 0, vJ 1]) (rest := []) E gw12_55 (by decide +kernel) (kX12_in l er1) rfl rfl dX12_keep_4 ⟨Nat.le_of_ble_eq_true rfl, Nat.le_of_ble_eq_true rfl⟩ ⟨(Nat.le_of_ble_eq_true rfl), (Nat.le_of_ble_eq_true rfl)⟩ (Nat.le_of_ble_eq_true rfl) ?_
  refine v_if_ne (tgt := 13) E dX12_keep_7 (by decide) (fun c9 => ?_) (fun c9 => ?_)
  · rw [if_neg c9] at h
    refine v_aload_n E dX12_keep_13 rfl ?_
    refine v_iconst (v := 0) E dX12_keep_14 (by decide) ?_
    refine v_bipush (v := 109) E dX12_keep_15 (by decide) ?_
    refine v_bipush (v := 109) E dX12_keep_17 (by decide) ?_
    refine v_iload_n E dX12_keep_19 rfl ?_
    refine v_imul E dX12_keep_20 ?_
    refine v_iadd E dX12_keep_21 ?_
    replace h := bnd_e h
    obtain ⟨r2, er2, h⟩ := h
    refine v_callV (na := 2) (As := [vI 0, vI (109 + (109 * a1))]) (rest := []) (ci := 12) (q := (RX12, TX12, 20)) E gw12_51 (by decide +kernel) rfl rfl (by decide) (kX12_copy l er2).2 (kX12_copy l er2).1 rfl rfl dX12_keep_22 ⟨Nat.le_of_ble_eq_true rfl, Nat.le_of_ble_eq_true rfl⟩ ⟨(Nat.le_of_ble_eq_true rfl), (Nat.le_of_ble_eq_true rfl)⟩ (Nat.le_of_ble_eq_true rfl) ?_
    refine v_aload_n E dX12_keep_25 rfl ?_
    replace h := bnd_e h
    obtain ⟨v3, ev3, h⟩ := h
    refine g12_13 E ev3 dX12_keep_26 ?_
    refine v_iload_n E dX12_keep_29 rfl ?_
    refine v_aload_n E dX12_keep_30 rfl ?_
    replace h := bnd_e h
    obtain ⟨v4, ev4, h⟩ := h
    refine g12_236 E ev4 dX12_keep_31 ?_
    replace h := bnd_e h
    obtain ⟨A5, eA5, h⟩ := h
    refine v_iastore E eA5 dX12_keep_34 ?_
    refine v_aload_n E dX12_keep_35 rfl ?_
    replace h := bnd_e h
    obtain ⟨v6, ev6, h⟩ := h
    refine g12_16 E ev6 dX12_keep_36 ?_
    refine v_iload_n E dX12_keep_39 rfl ?_
    refine v_iconst (v := 1) E dX12_keep_40 (by decide) ?_
    replace h := bnd_e h
    obtain ⟨A7, eA7, h⟩ := h
    refine v_bastore E eA7 dX12_keep_41 ?_
    refine v_aload_n E dX12_keep_42 rfl ?_
    refine v_iconst (v := 0) E dX12_keep_43 (by decide) ?_
    replace h := bnd_e h
    obtain ⟨A8, eA8, h⟩ := h
    refine p12_48 E eA8 dX12_keep_44 ?_
    refine v_iconst (v := 1) E dX12_keep_47 (by decide) ?_
    replace h := Option.some.inj h
    subst h
    refine v_widen (k' := 0) (n' := 0) (Nat.le_of_ble_eq_true rfl) (Nat.le_of_ble_eq_true rfl) ?_
    exact v_iret E dX12_keep_48
  · rw [if_pos c9] at h
    refine v_ldc (v := (-1000000001)) E dX12_keep_10 q1208 ?_
    replace h := Option.some.inj h
    subst h
    refine v_widen (k' := 0) (n' := 0) (Nat.le_of_ble_eq_true rfl) (Nat.le_of_ble_eq_true rfl) ?_
    exact v_iret E dX12_keep_12
noncomputable def fX12_goBack (A0 : AH) (o0 : Option Nat) (a1 : Int32) : Option (Int32 × AH) :=
  (rcv A0 13 o0).bind fun o0 =>
  (fX12_in A0 (((a1 : Int32).toInt64)) 0 1).bind fun r1 =>
  if r1 = 0 then
    some (((-1000000001), A0))
  else
    (gR A0 13 386 ((some o0))).bind fun v2 =>
    (aI A0 15 v2 a1).bind fun v3 =>
    if v3 = 0 then
      some (((-1000000003), A0))
    else
      (fX12_copy A0 ((some o0)) ((109 + (109 * a1))) 0).bind fun r4 =>
      (gR r4 13 385 ((some o0))).bind fun v5 =>
      (aI r4 14 v5 a1).bind fun v6 =>
      (pI r4 13 388 ((some o0)) v6).bind fun A7 =>
      (pI A7 13 387 ((some o0)) 0).bind fun A8 =>
      some ((1, A8))
set_option maxRecDepth 100000 in
set_option maxHeartbeats 4000000 in
theorem kX12_goBack (l : Launch) {A0 : AH} {o0 : Option Nat} {a1 : Int32} {r : Int32 × AH} (h : fX12_goBack A0 o0 a1 = some r) : (∃ a, o0 = some a ∧ Hk A0 a = 13) ∧ Cn l yX12_goBack cX12_goBack 2 (some .int) 1 25 0 0 [vR o0, vI a1] A0 (some (vI r.1)) r.2 := by
  unfold fX12_goBack at h
  replace h := bnd_e h
  obtain ⟨o1, e1, h⟩ := h
  obtain ⟨rfl, hk0⟩ := rcv_e e1
  refine ⟨⟨o1, rfl, hk0⟩, ?_⟩
  refine Cn.of (pad := 0) (lv0 := [some (vR (some o1)), some (vI a1)]) (by decide +kernel) (Nat.le_of_ble_eq_true rfl) rfl ?_
  intro p e s m below meth c base D cy E
  generalize (List.map toV [vR (some o1), vI a1]).toArray = ar at E ⊢
  have E : EN p s m ar meth c D cy RX12 cX12_goBack 2 (some .int) "goBack" := E
  refine v_iload_n E dX12_goBack_0 rfl ?_
  refine v_i2l E dX12_goBack_1 ?_
  refine v_lconst (v := 0) E dX12_goBack_2 (by decide) ?_
  refine v_lconst (v := 1) E dX12_goBack_3 (by decide) ?_
  replace h := bnd_e h
  obtain ⟨r1, er1, h⟩ := h
  refine v_callS (na := 3) (As := [vJ ((a1 : Int32).toInt64), vJ 0, vJ 1]) (rest := []) E gw12_55 (by decide +kernel) (kX12_in l er1) rfl rfl dX12_goBack_4 ⟨Nat.le_of_ble_eq_true rfl, Nat.le_of_ble_eq_true rfl⟩ ⟨(Nat.le_of_ble_eq_true rfl), (Nat.le_of_ble_eq_true rfl)⟩ (Nat.le_of_ble_eq_true rfl) ?_
  refine v_if_ne (tgt := 13) E dX12_goBack_7 (by decide) (fun c10 => ?_) (fun c10 => ?_)
  · rw [if_neg c10] at h
    refine v_aload_n E dX12_goBack_13 rfl ?_
    replace h := bnd_e h
    obtain ⟨v2, ev2, h⟩ := h
    refine g12_16 E ev2 dX12_goBack_14 ?_
    refine v_iload_n E dX12_goBack_17 rfl ?_
    replace h := bnd_e h
    obtain ⟨v3, ev3, h⟩ := h
    refine v_baload E ev3 dX12_goBack_18 ?_
    refine v_if_ne (tgt := 26) E dX12_goBack_19 (by decide) (fun c9 => ?_) (fun c9 => ?_)
    · rw [if_neg c9] at h
      refine v_aload_n E dX12_goBack_26 rfl ?_
      refine v_bipush (v := 109) E dX12_goBack_27 (by decide) ?_
      refine v_bipush (v := 109) E dX12_goBack_29 (by decide) ?_
      refine v_iload_n E dX12_goBack_31 rfl ?_
      refine v_imul E dX12_goBack_32 ?_
      refine v_iadd E dX12_goBack_33 ?_
      refine v_iconst (v := 0) E dX12_goBack_34 (by decide) ?_
      replace h := bnd_e h
      obtain ⟨r4, er4, h⟩ := h
      refine v_callV (na := 2) (As := [vI (109 + (109 * a1)), vI 0]) (rest := []) (ci := 12) (q := (RX12, TX12, 20)) E gw12_51 (by decide +kernel) rfl rfl (by decide) (kX12_copy l er4).2 (kX12_copy l er4).1 rfl rfl dX12_goBack_35 ⟨Nat.le_of_ble_eq_true rfl, Nat.le_of_ble_eq_true rfl⟩ ⟨(Nat.le_of_ble_eq_true rfl), (Nat.le_of_ble_eq_true rfl)⟩ (Nat.le_of_ble_eq_true rfl) ?_
      refine v_aload_n E dX12_goBack_38 rfl ?_
      refine v_aload_n E dX12_goBack_39 rfl ?_
      replace h := bnd_e h
      obtain ⟨v5, ev5, h⟩ := h
      refine g12_13 E ev5 dX12_goBack_40 ?_
      refine v_iload_n E dX12_goBack_43 rfl ?_
      replace h := bnd_e h
      obtain ⟨v6, ev6, h⟩ := h
      refine v_iaload E ev6 dX12_goBack_44 ?_
      replace h := bnd_e h
      obtain ⟨A7, eA7, h⟩ := h
      refine p12_236 E eA7 dX12_goBack_45 ?_
      refine v_aload_n E dX12_goBack_48 rfl ?_
      refine v_iconst (v := 0) E dX12_goBack_49 (by decide) ?_
      replace h := bnd_e h
      obtain ⟨A8, eA8, h⟩ := h
      refine p12_48 E eA8 dX12_goBack_50 ?_
      refine v_iconst (v := 1) E dX12_goBack_53 (by decide) ?_
      replace h := Option.some.inj h
      subst h
      refine v_widen (k' := 0) (n' := 0) (Nat.le_of_ble_eq_true rfl) (Nat.le_of_ble_eq_true rfl) ?_
      exact v_iret E dX12_goBack_54
    · rw [if_pos c9] at h
      refine v_ldcw (v := (-1000000003)) E dX12_goBack_22 q1386 ?_
      replace h := Option.some.inj h
      subst h
      refine v_widen (k' := 0) (n' := 0) (Nat.le_of_ble_eq_true rfl) (Nat.le_of_ble_eq_true rfl) ?_
      exact v_iret E dX12_goBack_25
  · rw [if_pos c10] at h
    refine v_ldc (v := (-1000000001)) E dX12_goBack_10 q1208 ?_
    replace h := Option.some.inj h
    subst h
    refine v_widen (k' := 0) (n' := 0) (Nat.le_of_ble_eq_true rfl) (Nat.le_of_ble_eq_true rfl) ?_
    exact v_iret E dX12_goBack_12
