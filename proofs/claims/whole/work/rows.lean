section
-- ===== PART A: goes FIRST, ahead of the names: the tables' words, and 'selects' of the private methods out of them =====
/-- a private method of a class that the tables say can be made, by its rows of tables_1 -/
def lw_okq (q : MethodName × Nat) : Prop := (q.1.cls ≠ "java/lang/invoke/MethodHandle" ∧ q.1.cls ≠ "java/lang/invoke/VarHandle") ∧ Cond.instantiable q.1.cls q.2 ∈ tables_1 ∧ Cond.privateMethod q.1 ∈ tables_1 ∧ Cond.instanceMethod q.1 ∈ tables_1
theorem lw_p0 : lw_okq (⟨"OneStrokes$Text", "countOf", "(II)I"⟩, 3) := ⟨⟨by decide +kernel, by decide +kernel⟩, List.mem_of_getElem? (i := 40) (by decide +kernel), List.mem_of_getElem? (i := 200) (by decide +kernel), List.mem_of_getElem? (i := 201) (by decide +kernel)⟩
theorem lw_p1 : lw_okq (⟨"OneStrokes", "comesAsWord", "()I"⟩, 8) := ⟨⟨by decide +kernel, by decide +kernel⟩, List.mem_of_getElem? (i := 17) (by decide +kernel), List.mem_of_getElem? (i := 223) (by decide +kernel), List.mem_of_getElem? (i := 224) (by decide +kernel)⟩
theorem lw_p2 : lw_okq (⟨"OneStrokes$Row", "standsOnceBetween", "(II)Z"⟩, 14) := ⟨⟨by decide +kernel, by decide +kernel⟩, List.mem_of_getElem? (i := 249) (by decide +kernel), List.mem_of_getElem? (i := 263) (by decide +kernel), List.mem_of_getElem? (i := 264) (by decide +kernel)⟩
theorem lw_p3 : lw_okq (⟨"OneStrokes$Shelf", "hasLikeAhead", "(I)Z"⟩, 2) := ⟨⟨by decide +kernel, by decide +kernel⟩, List.mem_of_getElem? (i := 25) (by decide +kernel), List.mem_of_getElem? (i := 346) (by decide +kernel), List.mem_of_getElem? (i := 347) (by decide +kernel)⟩
theorem lw_p4 : lw_okq (⟨"OneStrokes$Row", "tryTurns", "()V"⟩, 14) := ⟨⟨by decide +kernel, by decide +kernel⟩, List.mem_of_getElem? (i := 249) (by decide +kernel), List.mem_of_getElem? (i := 358) (by decide +kernel), List.mem_of_getElem? (i := 359) (by decide +kernel)⟩
theorem lw_p5 : lw_okq (⟨"OneStrokes$Row", "codeFrom", "(IZ[I)J"⟩, 14) := ⟨⟨by decide +kernel, by decide +kernel⟩, List.mem_of_getElem? (i := 249) (by decide +kernel), List.mem_of_getElem? (i := 362) (by decide +kernel), List.mem_of_getElem? (i := 363) (by decide +kernel)⟩
theorem lw_p6 : lw_okq (⟨"OneStrokes$Row", "eachIsBetweenEvenly", "()Z"⟩, 14) := ⟨⟨by decide +kernel, by decide +kernel⟩, List.mem_of_getElem? (i := 249) (by decide +kernel), List.mem_of_getElem? (i := 446) (by decide +kernel), List.mem_of_getElem? (i := 447) (by decide +kernel)⟩
theorem lw_p7 : lw_okq (⟨"OneStrokes$Row", "eachTwoApartShareEvenly", "()Z"⟩, 14) := ⟨⟨by decide +kernel, by decide +kernel⟩, List.mem_of_getElem? (i := 249) (by decide +kernel), List.mem_of_getElem? (i := 459) (by decide +kernel), List.mem_of_getElem? (i := 460) (by decide +kernel)⟩
theorem lw_p8 : lw_okq (⟨"OneStrokes$Row", "sharedBetween", "(II)I"⟩, 14) := ⟨⟨by decide +kernel, by decide +kernel⟩, List.mem_of_getElem? (i := 249) (by decide +kernel), List.mem_of_getElem? (i := 463) (by decide +kernel), List.mem_of_getElem? (i := 464) (by decide +kernel)⟩
theorem lw_p9 : lw_okq (⟨"OneStrokes$Row", "sidesCanBeChosen", "(LOneStrokes$Heaps;)Z"⟩, 14) := ⟨⟨by decide +kernel, by decide +kernel⟩, List.mem_of_getElem? (i := 249) (by decide +kernel), List.mem_of_getElem? (i := 475) (by decide +kernel), List.mem_of_getElem? (i := 476) (by decide +kernel)⟩
theorem lw_p10 : lw_okq (⟨"OneStrokes$Faces", "numberCorners", "(LOneStrokes$Heaps;)V"⟩, 8) := ⟨⟨by decide +kernel, by decide +kernel⟩, List.mem_of_getElem? (i := 488) (by decide +kernel), List.mem_of_getElem? (i := 530) (by decide +kernel), List.mem_of_getElem? (i := 531) (by decide +kernel)⟩
theorem lw_p11 : lw_okq (⟨"OneStrokes$Faces", "findSidesOfSteps", "(I)V"⟩, 8) := ⟨⟨by decide +kernel, by decide +kernel⟩, List.mem_of_getElem? (i := 488) (by decide +kernel), List.mem_of_getElem? (i := 535) (by decide +kernel), List.mem_of_getElem? (i := 536) (by decide +kernel)⟩
theorem lw_p12 : lw_okq (⟨"OneStrokes$Faces", "findIndexes", "()V"⟩, 8) := ⟨⟨by decide +kernel, by decide +kernel⟩, List.mem_of_getElem? (i := 488) (by decide +kernel), List.mem_of_getElem? (i := 543) (by decide +kernel), List.mem_of_getElem? (i := 544) (by decide +kernel)⟩
theorem lw_p13 : lw_okq (⟨"OneStrokes$Row", "trySigns", "(LOneStrokes$Heaps;)V"⟩, 14) := ⟨⟨by decide +kernel, by decide +kernel⟩, List.mem_of_getElem? (i := 249) (by decide +kernel), List.mem_of_getElem? (i := 585) (by decide +kernel), List.mem_of_getElem? (i := 586) (by decide +kernel)⟩
theorem lw_p14 : lw_okq (⟨"OneStrokes$Faces", "countOfKind", "(Z)I"⟩, 8) := ⟨⟨by decide +kernel, by decide +kernel⟩, List.mem_of_getElem? (i := 488) (by decide +kernel), List.mem_of_getElem? (i := 599) (by decide +kernel), List.mem_of_getElem? (i := 600) (by decide +kernel)⟩
theorem lw_p15 : lw_okq (⟨"OneStrokes$Faces", "heapsJoinedBy", "(IZLOneStrokes$Heaps;)I"⟩, 8) := ⟨⟨by decide +kernel, by decide +kernel⟩, List.mem_of_getElem? (i := 488) (by decide +kernel), List.mem_of_getElem? (i := 617) (by decide +kernel), List.mem_of_getElem? (i := 618) (by decide +kernel)⟩
def lw_privs_1 : List (MethodName × Nat) := [(⟨"OneStrokes$Text", "countOf", "(II)I"⟩, 3), (⟨"OneStrokes", "comesAsWord", "()I"⟩, 8), (⟨"OneStrokes$Row", "standsOnceBetween", "(II)Z"⟩, 14), (⟨"OneStrokes$Shelf", "hasLikeAhead", "(I)Z"⟩, 2), (⟨"OneStrokes$Row", "tryTurns", "()V"⟩, 14), (⟨"OneStrokes$Row", "codeFrom", "(IZ[I)J"⟩, 14), (⟨"OneStrokes$Row", "eachIsBetweenEvenly", "()Z"⟩, 14), (⟨"OneStrokes$Row", "eachTwoApartShareEvenly", "()Z"⟩, 14), (⟨"OneStrokes$Row", "sharedBetween", "(II)I"⟩, 14), (⟨"OneStrokes$Row", "sidesCanBeChosen", "(LOneStrokes$Heaps;)Z"⟩, 14), (⟨"OneStrokes$Faces", "numberCorners", "(LOneStrokes$Heaps;)V"⟩, 8), (⟨"OneStrokes$Faces", "findSidesOfSteps", "(I)V"⟩, 8), (⟨"OneStrokes$Faces", "findIndexes", "()V"⟩, 8), (⟨"OneStrokes$Row", "trySigns", "(LOneStrokes$Heaps;)V"⟩, 14), (⟨"OneStrokes$Faces", "countOfKind", "(Z)I"⟩, 8), (⟨"OneStrokes$Faces", "heapsJoinedBy", "(IZLOneStrokes$Heaps;)I"⟩, 8)]
theorem lw_r1 : ∀ q ∈ lw_privs_1, lw_okq q := List.forall_mem_cons.mpr ⟨lw_p0, List.forall_mem_cons.mpr ⟨lw_p1, List.forall_mem_cons.mpr ⟨lw_p2, List.forall_mem_cons.mpr ⟨lw_p3, List.forall_mem_cons.mpr ⟨lw_p4, List.forall_mem_cons.mpr ⟨lw_p5, List.forall_mem_cons.mpr ⟨lw_p6, List.forall_mem_cons.mpr ⟨lw_p7, List.forall_mem_cons.mpr ⟨lw_p8, List.forall_mem_cons.mpr ⟨lw_p9, List.forall_mem_cons.mpr ⟨lw_p10, List.forall_mem_cons.mpr ⟨lw_p11, List.forall_mem_cons.mpr ⟨lw_p12, List.forall_mem_cons.mpr ⟨lw_p13, List.forall_mem_cons.mpr ⟨lw_p14, List.forall_mem_cons.mpr ⟨lw_p15, fun _ h => absurd h List.not_mem_nil⟩⟩⟩⟩⟩⟩⟩⟩⟩⟩⟩⟩⟩⟩⟩⟩
theorem lw_p16 : lw_okq (⟨"OneStrokes$Row", "areBeside", "(II)Z"⟩, 14) := ⟨⟨by decide +kernel, by decide +kernel⟩, List.mem_of_getElem? (i := 249) (by decide +kernel), List.mem_of_getElem? (i := 637) (by decide +kernel), List.mem_of_getElem? (i := 638) (by decide +kernel)⟩
theorem lw_p17 : lw_okq (⟨"OneStrokes", "becomes", "(ILOneStrokes$Word;)V"⟩, 8) := ⟨⟨by decide +kernel, by decide +kernel⟩, List.mem_of_getElem? (i := 17) (by decide +kernel), List.mem_of_getElem? (i := 713) (by decide +kernel), List.mem_of_getElem? (i := 714) (by decide +kernel)⟩
theorem lw_p18 : lw_okq (⟨"OneStrokes", "becomesDraft", "(I)LOneStrokes$Row;"⟩, 8) := ⟨⟨by decide +kernel, by decide +kernel⟩, List.mem_of_getElem? (i := 17) (by decide +kernel), List.mem_of_getElem? (i := 741) (by decide +kernel), List.mem_of_getElem? (i := 742) (by decide +kernel)⟩
theorem lw_p19 : lw_okq (⟨"OneStrokes$Draft", "putTwo", "(II)V"⟩, 2) := ⟨⟨by decide +kernel, by decide +kernel⟩, List.mem_of_getElem? (i := 120) (by decide +kernel), List.mem_of_getElem? (i := 759) (by decide +kernel), List.mem_of_getElem? (i := 760) (by decide +kernel)⟩
theorem lw_p20 : lw_okq (⟨"OneStrokes$Draft", "putPlaces", "(LOneStrokes$Row;II)V"⟩, 2) := ⟨⟨by decide +kernel, by decide +kernel⟩, List.mem_of_getElem? (i := 120) (by decide +kernel), List.mem_of_getElem? (i := 805) (by decide +kernel), List.mem_of_getElem? (i := 806) (by decide +kernel)⟩
theorem lw_p21 : lw_okq (⟨"OneStrokes$Draft", "swap", "(II)V"⟩, 2) := ⟨⟨by decide +kernel, by decide +kernel⟩, List.mem_of_getElem? (i := 120) (by decide +kernel), List.mem_of_getElem? (i := 810) (by decide +kernel), List.mem_of_getElem? (i := 811) (by decide +kernel)⟩
theorem lw_p22 : lw_okq (⟨"OneStrokes$Draws", "below", "(I)I"⟩, 1) := ⟨⟨by decide +kernel, by decide +kernel⟩, List.mem_of_getElem? (i := 110) (by decide +kernel), List.mem_of_getElem? (i := 846) (by decide +kernel), List.mem_of_getElem? (i := 847) (by decide +kernel)⟩
theorem lw_p23 : lw_okq (⟨"OneStrokesModel", "faultAt", "(I)I"⟩, 20) := ⟨⟨by decide +kernel, by decide +kernel⟩, List.mem_of_getElem? (i := 929) (by decide +kernel), List.mem_of_getElem? (i := 1010) (by decide +kernel), List.mem_of_getElem? (i := 1011) (by decide +kernel)⟩
theorem lw_p24 : lw_okq (⟨"OneStrokesModel", "timesAhead", "(I)I"⟩, 20) := ⟨⟨by decide +kernel, by decide +kernel⟩, List.mem_of_getElem? (i := 929) (by decide +kernel), List.mem_of_getElem? (i := 1016) (by decide +kernel), List.mem_of_getElem? (i := 1017) (by decide +kernel)⟩
theorem lw_p25 : lw_okq (⟨"OneStrokesModel", "minds", "()V"⟩, 20) := ⟨⟨by decide +kernel, by decide +kernel⟩, List.mem_of_getElem? (i := 929) (by decide +kernel), List.mem_of_getElem? (i := 1020) (by decide +kernel), List.mem_of_getElem? (i := 1021) (by decide +kernel)⟩
theorem lw_p26 : lw_okq (⟨"OneStrokesModel", "copy", "(II)V"⟩, 20) := ⟨⟨by decide +kernel, by decide +kernel⟩, List.mem_of_getElem? (i := 929) (by decide +kernel), List.mem_of_getElem? (i := 1024) (by decide +kernel), List.mem_of_getElem? (i := 1025) (by decide +kernel)⟩
theorem lw_p27 : lw_okq (⟨"OneStrokesModel", "comes", "(I)V"⟩, 20) := ⟨⟨by decide +kernel, by decide +kernel⟩, List.mem_of_getElem? (i := 929) (by decide +kernel), List.mem_of_getElem? (i := 1028) (by decide +kernel), List.mem_of_getElem? (i := 1029) (by decide +kernel)⟩
theorem lw_p28 : lw_okq (⟨"OneStrokesModel", "laysMore", "()I"⟩, 20) := ⟨⟨by decide +kernel, by decide +kernel⟩, List.mem_of_getElem? (i := 929) (by decide +kernel), List.mem_of_getElem? (i := 1032) (by decide +kernel), List.mem_of_getElem? (i := 1033) (by decide +kernel)⟩
theorem lw_p29 : lw_okq (⟨"OneStrokesModel", "lays", "(I)I"⟩, 20) := ⟨⟨by decide +kernel, by decide +kernel⟩, List.mem_of_getElem? (i := 929) (by decide +kernel), List.mem_of_getElem? (i := 1036) (by decide +kernel), List.mem_of_getElem? (i := 1037) (by decide +kernel)⟩
theorem lw_p30 : lw_okq (⟨"OneStrokesModel", "numberOf", "(I)I"⟩, 20) := ⟨⟨by decide +kernel, by decide +kernel⟩, List.mem_of_getElem? (i := 929) (by decide +kernel), List.mem_of_getElem? (i := 1040) (by decide +kernel), List.mem_of_getElem? (i := 1041) (by decide +kernel)⟩
theorem lw_p31 : lw_okq (⟨"OneStrokesModel", "unlikeWords", "()I"⟩, 20) := ⟨⟨by decide +kernel, by decide +kernel⟩, List.mem_of_getElem? (i := 929) (by decide +kernel), List.mem_of_getElem? (i := 1052) (by decide +kernel), List.mem_of_getElem? (i := 1053) (by decide +kernel)⟩
def lw_privs_2 : List (MethodName × Nat) := [(⟨"OneStrokes$Row", "areBeside", "(II)Z"⟩, 14), (⟨"OneStrokes", "becomes", "(ILOneStrokes$Word;)V"⟩, 8), (⟨"OneStrokes", "becomesDraft", "(I)LOneStrokes$Row;"⟩, 8), (⟨"OneStrokes$Draft", "putTwo", "(II)V"⟩, 2), (⟨"OneStrokes$Draft", "putPlaces", "(LOneStrokes$Row;II)V"⟩, 2), (⟨"OneStrokes$Draft", "swap", "(II)V"⟩, 2), (⟨"OneStrokes$Draws", "below", "(I)I"⟩, 1), (⟨"OneStrokesModel", "faultAt", "(I)I"⟩, 20), (⟨"OneStrokesModel", "timesAhead", "(I)I"⟩, 20), (⟨"OneStrokesModel", "minds", "()V"⟩, 20), (⟨"OneStrokesModel", "copy", "(II)V"⟩, 20), (⟨"OneStrokesModel", "comes", "(I)V"⟩, 20), (⟨"OneStrokesModel", "laysMore", "()I"⟩, 20), (⟨"OneStrokesModel", "lays", "(I)I"⟩, 20), (⟨"OneStrokesModel", "numberOf", "(I)I"⟩, 20), (⟨"OneStrokesModel", "unlikeWords", "()I"⟩, 20)]
theorem lw_r2 : ∀ q ∈ lw_privs_2, lw_okq q := List.forall_mem_cons.mpr ⟨lw_p16, List.forall_mem_cons.mpr ⟨lw_p17, List.forall_mem_cons.mpr ⟨lw_p18, List.forall_mem_cons.mpr ⟨lw_p19, List.forall_mem_cons.mpr ⟨lw_p20, List.forall_mem_cons.mpr ⟨lw_p21, List.forall_mem_cons.mpr ⟨lw_p22, List.forall_mem_cons.mpr ⟨lw_p23, List.forall_mem_cons.mpr ⟨lw_p24, List.forall_mem_cons.mpr ⟨lw_p25, List.forall_mem_cons.mpr ⟨lw_p26, List.forall_mem_cons.mpr ⟨lw_p27, List.forall_mem_cons.mpr ⟨lw_p28, List.forall_mem_cons.mpr ⟨lw_p29, List.forall_mem_cons.mpr ⟨lw_p30, List.forall_mem_cons.mpr ⟨lw_p31, fun _ h => absurd h List.not_mem_nil⟩⟩⟩⟩⟩⟩⟩⟩⟩⟩⟩⟩⟩⟩⟩⟩
theorem lw_p32 : lw_okq (⟨"OneStrokesModel", "isSame", "(II)Z"⟩, 20) := ⟨⟨by decide +kernel, by decide +kernel⟩, List.mem_of_getElem? (i := 929) (by decide +kernel), List.mem_of_getElem? (i := 1056) (by decide +kernel), List.mem_of_getElem? (i := 1057) (by decide +kernel)⟩
theorem lw_p33 : lw_okq (⟨"OneStrokesModel", "size", "(I)I"⟩, 20) := ⟨⟨by decide +kernel, by decide +kernel⟩, List.mem_of_getElem? (i := 929) (by decide +kernel), List.mem_of_getElem? (i := 1060) (by decide +kernel), List.mem_of_getElem? (i := 1061) (by decide +kernel)⟩
theorem lw_p34 : lw_okq (⟨"OneStrokesModel", "codeOf", "(I)J"⟩, 20) := ⟨⟨by decide +kernel, by decide +kernel⟩, List.mem_of_getElem? (i := 929) (by decide +kernel), List.mem_of_getElem? (i := 1064) (by decide +kernel), List.mem_of_getElem? (i := 1065) (by decide +kernel)⟩
theorem lw_p35 : lw_okq (⟨"OneStrokesModel", "turned", "(IIZ)V"⟩, 20) := ⟨⟨by decide +kernel, by decide +kernel⟩, List.mem_of_getElem? (i := 929) (by decide +kernel), List.mem_of_getElem? (i := 1068) (by decide +kernel), List.mem_of_getElem? (i := 1069) (by decide +kernel)⟩
theorem lw_p36 : lw_okq (⟨"OneStrokesModel", "letterAt", "(II)I"⟩, 20) := ⟨⟨by decide +kernel, by decide +kernel⟩, List.mem_of_getElem? (i := 929) (by decide +kernel), List.mem_of_getElem? (i := 1072) (by decide +kernel), List.mem_of_getElem? (i := 1073) (by decide +kernel)⟩
theorem lw_p37 : lw_okq (⟨"OneStrokesModel", "codeOfMade", "()J"⟩, 20) := ⟨⟨by decide +kernel, by decide +kernel⟩, List.mem_of_getElem? (i := 929) (by decide +kernel), List.mem_of_getElem? (i := 1076) (by decide +kernel), List.mem_of_getElem? (i := 1077) (by decide +kernel)⟩
theorem lw_p38 : lw_okq (⟨"OneStrokesModel", "wrong", "()I"⟩, 20) := ⟨⟨by decide +kernel, by decide +kernel⟩, List.mem_of_getElem? (i := 929) (by decide +kernel), List.mem_of_getElem? (i := 1081) (by decide +kernel), List.mem_of_getElem? (i := 1082) (by decide +kernel)⟩
theorem lw_p39 : lw_okq (⟨"OneStrokesModel", "isWord", "(I)Z"⟩, 20) := ⟨⟨by decide +kernel, by decide +kernel⟩, List.mem_of_getElem? (i := 929) (by decide +kernel), List.mem_of_getElem? (i := 1085) (by decide +kernel), List.mem_of_getElem? (i := 1086) (by decide +kernel)⟩
theorem lw_p40 : lw_okq (⟨"OneStrokesModel", "statesOf", "(II)I"⟩, 20) := ⟨⟨by decide +kernel, by decide +kernel⟩, List.mem_of_getElem? (i := 929) (by decide +kernel), List.mem_of_getElem? (i := 1089) (by decide +kernel), List.mem_of_getElem? (i := 1090) (by decide +kernel)⟩
theorem lw_p41 : lw_okq (⟨"OneStrokesModel", "ringsOf", "(II)I"⟩, 20) := ⟨⟨by decide +kernel, by decide +kernel⟩, List.mem_of_getElem? (i := 929) (by decide +kernel), List.mem_of_getElem? (i := 1093) (by decide +kernel), List.mem_of_getElem? (i := 1094) (by decide +kernel)⟩
theorem lw_p42 : lw_okq (⟨"OneStrokesModel", "startsLabels", "(I)V"⟩, 20) := ⟨⟨by decide +kernel, by decide +kernel⟩, List.mem_of_getElem? (i := 929) (by decide +kernel), List.mem_of_getElem? (i := 1097) (by decide +kernel), List.mem_of_getElem? (i := 1098) (by decide +kernel)⟩
theorem lw_p43 : lw_okq (⟨"OneStrokesModel", "place", "(III)I"⟩, 20) := ⟨⟨by decide +kernel, by decide +kernel⟩, List.mem_of_getElem? (i := 929) (by decide +kernel), List.mem_of_getElem? (i := 1101) (by decide +kernel), List.mem_of_getElem? (i := 1102) (by decide +kernel)⟩
theorem lw_p44 : lw_okq (⟨"OneStrokesModel", "joins", "(II)V"⟩, 20) := ⟨⟨by decide +kernel, by decide +kernel⟩, List.mem_of_getElem? (i := 929) (by decide +kernel), List.mem_of_getElem? (i := 1108) (by decide +kernel), List.mem_of_getElem? (i := 1109) (by decide +kernel)⟩
theorem lw_p45 : lw_okq (⟨"OneStrokesModel", "heaps", "(I)I"⟩, 20) := ⟨⟨by decide +kernel, by decide +kernel⟩, List.mem_of_getElem? (i := 929) (by decide +kernel), List.mem_of_getElem? (i := 1112) (by decide +kernel), List.mem_of_getElem? (i := 1113) (by decide +kernel)⟩
theorem lw_p46 : lw_okq (⟨"OneStrokesModel", "parts", "(I)I"⟩, 20) := ⟨⟨by decide +kernel, by decide +kernel⟩, List.mem_of_getElem? (i := 929) (by decide +kernel), List.mem_of_getElem? (i := 1121) (by decide +kernel), List.mem_of_getElem? (i := 1122) (by decide +kernel)⟩
theorem lw_p47 : lw_okq (⟨"OneStrokesModel", "isBetween", "(III)Z"⟩, 20) := ⟨⟨by decide +kernel, by decide +kernel⟩, List.mem_of_getElem? (i := 929) (by decide +kernel), List.mem_of_getElem? (i := 1125) (by decide +kernel), List.mem_of_getElem? (i := 1126) (by decide +kernel)⟩
def lw_privs_3 : List (MethodName × Nat) := [(⟨"OneStrokesModel", "isSame", "(II)Z"⟩, 20), (⟨"OneStrokesModel", "size", "(I)I"⟩, 20), (⟨"OneStrokesModel", "codeOf", "(I)J"⟩, 20), (⟨"OneStrokesModel", "turned", "(IIZ)V"⟩, 20), (⟨"OneStrokesModel", "letterAt", "(II)I"⟩, 20), (⟨"OneStrokesModel", "codeOfMade", "()J"⟩, 20), (⟨"OneStrokesModel", "wrong", "()I"⟩, 20), (⟨"OneStrokesModel", "isWord", "(I)Z"⟩, 20), (⟨"OneStrokesModel", "statesOf", "(II)I"⟩, 20), (⟨"OneStrokesModel", "ringsOf", "(II)I"⟩, 20), (⟨"OneStrokesModel", "startsLabels", "(I)V"⟩, 20), (⟨"OneStrokesModel", "place", "(III)I"⟩, 20), (⟨"OneStrokesModel", "joins", "(II)V"⟩, 20), (⟨"OneStrokesModel", "heaps", "(I)I"⟩, 20), (⟨"OneStrokesModel", "parts", "(I)I"⟩, 20), (⟨"OneStrokesModel", "isBetween", "(III)Z"⟩, 20)]
theorem lw_r3 : ∀ q ∈ lw_privs_3, lw_okq q := List.forall_mem_cons.mpr ⟨lw_p32, List.forall_mem_cons.mpr ⟨lw_p33, List.forall_mem_cons.mpr ⟨lw_p34, List.forall_mem_cons.mpr ⟨lw_p35, List.forall_mem_cons.mpr ⟨lw_p36, List.forall_mem_cons.mpr ⟨lw_p37, List.forall_mem_cons.mpr ⟨lw_p38, List.forall_mem_cons.mpr ⟨lw_p39, List.forall_mem_cons.mpr ⟨lw_p40, List.forall_mem_cons.mpr ⟨lw_p41, List.forall_mem_cons.mpr ⟨lw_p42, List.forall_mem_cons.mpr ⟨lw_p43, List.forall_mem_cons.mpr ⟨lw_p44, List.forall_mem_cons.mpr ⟨lw_p45, List.forall_mem_cons.mpr ⟨lw_p46, List.forall_mem_cons.mpr ⟨lw_p47, fun _ h => absurd h List.not_mem_nil⟩⟩⟩⟩⟩⟩⟩⟩⟩⟩⟩⟩⟩⟩⟩⟩
theorem lw_p48 : lw_okq (⟨"OneStrokesModel", "broken", "(I)I"⟩, 20) := ⟨⟨by decide +kernel, by decide +kernel⟩, List.mem_of_getElem? (i := 929) (by decide +kernel), List.mem_of_getElem? (i := 1129) (by decide +kernel), List.mem_of_getElem? (i := 1130) (by decide +kernel)⟩
theorem lw_p49 : lw_okq (⟨"OneStrokesModel", "betweenSet", "(II)I"⟩, 20) := ⟨⟨by decide +kernel, by decide +kernel⟩, List.mem_of_getElem? (i := 929) (by decide +kernel), List.mem_of_getElem? (i := 1133) (by decide +kernel), List.mem_of_getElem? (i := 1134) (by decide +kernel)⟩
theorem lw_p50 : lw_okq (⟨"OneStrokesModel", "areSides", "(II)Z"⟩, 20) := ⟨⟨by decide +kernel, by decide +kernel⟩, List.mem_of_getElem? (i := 929) (by decide +kernel), List.mem_of_getElem? (i := 1140) (by decide +kernel), List.mem_of_getElem? (i := 1141) (by decide +kernel)⟩
theorem lw_p51 : lw_okq (⟨"OneStrokesModel", "signsOf", "(I)I"⟩, 20) := ⟨⟨by decide +kernel, by decide +kernel⟩, List.mem_of_getElem? (i := 929) (by decide +kernel), List.mem_of_getElem? (i := 1144) (by decide +kernel), List.mem_of_getElem? (i := 1145) (by decide +kernel)⟩
theorem lw_p52 : lw_okq (⟨"OneStrokesModel", "kinOf", "(I)I"⟩, 20) := ⟨⟨by decide +kernel, by decide +kernel⟩, List.mem_of_getElem? (i := 929) (by decide +kernel), List.mem_of_getElem? (i := 1148) (by decide +kernel), List.mem_of_getElem? (i := 1149) (by decide +kernel)⟩
theorem lw_p53 : lw_okq (⟨"OneStrokesModel", "loops", "(I)I"⟩, 20) := ⟨⟨by decide +kernel, by decide +kernel⟩, List.mem_of_getElem? (i := 929) (by decide +kernel), List.mem_of_getElem? (i := 1152) (by decide +kernel), List.mem_of_getElem? (i := 1153) (by decide +kernel)⟩
theorem lw_p54 : lw_okq (⟨"OneStrokesModel", "isLoop", "(II)Z"⟩, 20) := ⟨⟨by decide +kernel, by decide +kernel⟩, List.mem_of_getElem? (i := 929) (by decide +kernel), List.mem_of_getElem? (i := 1156) (by decide +kernel), List.mem_of_getElem? (i := 1157) (by decide +kernel)⟩
theorem lw_p55 : lw_okq (⟨"OneStrokesModel", "areBeside", "(III)Z"⟩, 20) := ⟨⟨by decide +kernel, by decide +kernel⟩, List.mem_of_getElem? (i := 929) (by decide +kernel), List.mem_of_getElem? (i := 1160) (by decide +kernel), List.mem_of_getElem? (i := 1161) (by decide +kernel)⟩
theorem lw_p56 : lw_okq (⟨"OneStrokesModel", "ofFaces", "(II)I"⟩, 20) := ⟨⟨by decide +kernel, by decide +kernel⟩, List.mem_of_getElem? (i := 929) (by decide +kernel), List.mem_of_getElem? (i := 1166) (by decide +kernel), List.mem_of_getElem? (i := 1167) (by decide +kernel)⟩
theorem lw_p57 : lw_okq (⟨"OneStrokesModel", "laysFaces", "(II)I"⟩, 20) := ⟨⟨by decide +kernel, by decide +kernel⟩, List.mem_of_getElem? (i := 929) (by decide +kernel), List.mem_of_getElem? (i := 1170) (by decide +kernel), List.mem_of_getElem? (i := 1171) (by decide +kernel)⟩
theorem lw_p58 : lw_okq (⟨"OneStrokesModel", "leftCorner", "(II)I"⟩, 20) := ⟨⟨by decide +kernel, by decide +kernel⟩, List.mem_of_getElem? (i := 929) (by decide +kernel), List.mem_of_getElem? (i := 1174) (by decide +kernel), List.mem_of_getElem? (i := 1175) (by decide +kernel)⟩
theorem lw_p59 : lw_okq (⟨"OneStrokesModel", "leavesAs", "(II)I"⟩, 20) := ⟨⟨by decide +kernel, by decide +kernel⟩, List.mem_of_getElem? (i := 929) (by decide +kernel), List.mem_of_getElem? (i := 1178) (by decide +kernel), List.mem_of_getElem? (i := 1179) (by decide +kernel)⟩
theorem lw_p60 : lw_okq (⟨"OneStrokesModel", "leftFar", "(II)I"⟩, 20) := ⟨⟨by decide +kernel, by decide +kernel⟩, List.mem_of_getElem? (i := 929) (by decide +kernel), List.mem_of_getElem? (i := 1182) (by decide +kernel), List.mem_of_getElem? (i := 1183) (by decide +kernel)⟩
theorem lw_p61 : lw_okq (⟨"OneStrokesModel", "comesAs", "(II)I"⟩, 20) := ⟨⟨by decide +kernel, by decide +kernel⟩, List.mem_of_getElem? (i := 929) (by decide +kernel), List.mem_of_getElem? (i := 1186) (by decide +kernel), List.mem_of_getElem? (i := 1187) (by decide +kernel)⟩
theorem lw_p62 : lw_okq (⟨"OneStrokesModel", "rightCorner", "(II)I"⟩, 20) := ⟨⟨by decide +kernel, by decide +kernel⟩, List.mem_of_getElem? (i := 929) (by decide +kernel), List.mem_of_getElem? (i := 1190) (by decide +kernel), List.mem_of_getElem? (i := 1191) (by decide +kernel)⟩
theorem lw_p63 : lw_okq (⟨"OneStrokesModel", "rightFar", "(II)I"⟩, 20) := ⟨⟨by decide +kernel, by decide +kernel⟩, List.mem_of_getElem? (i := 929) (by decide +kernel), List.mem_of_getElem? (i := 1194) (by decide +kernel), List.mem_of_getElem? (i := 1195) (by decide +kernel)⟩
def lw_privs_4 : List (MethodName × Nat) := [(⟨"OneStrokesModel", "broken", "(I)I"⟩, 20), (⟨"OneStrokesModel", "betweenSet", "(II)I"⟩, 20), (⟨"OneStrokesModel", "areSides", "(II)Z"⟩, 20), (⟨"OneStrokesModel", "signsOf", "(I)I"⟩, 20), (⟨"OneStrokesModel", "kinOf", "(I)I"⟩, 20), (⟨"OneStrokesModel", "loops", "(I)I"⟩, 20), (⟨"OneStrokesModel", "isLoop", "(II)Z"⟩, 20), (⟨"OneStrokesModel", "areBeside", "(III)Z"⟩, 20), (⟨"OneStrokesModel", "ofFaces", "(II)I"⟩, 20), (⟨"OneStrokesModel", "laysFaces", "(II)I"⟩, 20), (⟨"OneStrokesModel", "leftCorner", "(II)I"⟩, 20), (⟨"OneStrokesModel", "leavesAs", "(II)I"⟩, 20), (⟨"OneStrokesModel", "leftFar", "(II)I"⟩, 20), (⟨"OneStrokesModel", "comesAs", "(II)I"⟩, 20), (⟨"OneStrokesModel", "rightCorner", "(II)I"⟩, 20), (⟨"OneStrokesModel", "rightFar", "(II)I"⟩, 20)]
theorem lw_r4 : ∀ q ∈ lw_privs_4, lw_okq q := List.forall_mem_cons.mpr ⟨lw_p48, List.forall_mem_cons.mpr ⟨lw_p49, List.forall_mem_cons.mpr ⟨lw_p50, List.forall_mem_cons.mpr ⟨lw_p51, List.forall_mem_cons.mpr ⟨lw_p52, List.forall_mem_cons.mpr ⟨lw_p53, List.forall_mem_cons.mpr ⟨lw_p54, List.forall_mem_cons.mpr ⟨lw_p55, List.forall_mem_cons.mpr ⟨lw_p56, List.forall_mem_cons.mpr ⟨lw_p57, List.forall_mem_cons.mpr ⟨lw_p58, List.forall_mem_cons.mpr ⟨lw_p59, List.forall_mem_cons.mpr ⟨lw_p60, List.forall_mem_cons.mpr ⟨lw_p61, List.forall_mem_cons.mpr ⟨lw_p62, List.forall_mem_cons.mpr ⟨lw_p63, fun _ h => absurd h List.not_mem_nil⟩⟩⟩⟩⟩⟩⟩⟩⟩⟩⟩⟩⟩⟩⟩⟩
theorem lw_p64 : lw_okq (⟨"OneStrokesModel", "drawn", "(I)I"⟩, 20) := ⟨⟨by decide +kernel, by decide +kernel⟩, List.mem_of_getElem? (i := 929) (by decide +kernel), List.mem_of_getElem? (i := 1198) (by decide +kernel), List.mem_of_getElem? (i := 1199) (by decide +kernel)⟩
theorem lw_p65 : lw_okq (⟨"OneStrokesModel", "isPlane", "(II)Z"⟩, 20) := ⟨⟨by decide +kernel, by decide +kernel⟩, List.mem_of_getElem? (i := 929) (by decide +kernel), List.mem_of_getElem? (i := 1202) (by decide +kernel), List.mem_of_getElem? (i := 1203) (by decide +kernel)⟩
theorem lw_p66 : lw_okq (⟨"OneStrokesModel", "drawings", "(I)I"⟩, 20) := ⟨⟨by decide +kernel, by decide +kernel⟩, List.mem_of_getElem? (i := 929) (by decide +kernel), List.mem_of_getElem? (i := 1206) (by decide +kernel), List.mem_of_getElem? (i := 1207) (by decide +kernel)⟩
theorem lw_p67 : lw_okq (⟨"OneStrokesModel", "trees", "(IZ)I"⟩, 20) := ⟨⟨by decide +kernel, by decide +kernel⟩, List.mem_of_getElem? (i := 929) (by decide +kernel), List.mem_of_getElem? (i := 1210) (by decide +kernel), List.mem_of_getElem? (i := 1211) (by decide +kernel)⟩
theorem lw_p68 : lw_okq (⟨"OneStrokesModel", "laysIndices", "(I)V"⟩, 20) := ⟨⟨by decide +kernel, by decide +kernel⟩, List.mem_of_getElem? (i := 929) (by decide +kernel), List.mem_of_getElem? (i := 1214) (by decide +kernel), List.mem_of_getElem? (i := 1215) (by decide +kernel)⟩
theorem lw_p69 : lw_okq (⟨"OneStrokesModel", "faceOf", "(I)I"⟩, 20) := ⟨⟨by decide +kernel, by decide +kernel⟩, List.mem_of_getElem? (i := 929) (by decide +kernel), List.mem_of_getElem? (i := 1218) (by decide +kernel), List.mem_of_getElem? (i := 1219) (by decide +kernel)⟩
theorem lw_p70 : lw_okq (⟨"OneStrokesModel", "tellsIndex", "(III)V"⟩, 20) := ⟨⟨by decide +kernel, by decide +kernel⟩, List.mem_of_getElem? (i := 929) (by decide +kernel), List.mem_of_getElem? (i := 1222) (by decide +kernel), List.mem_of_getElem? (i := 1223) (by decide +kernel)⟩
theorem lw_p71 : lw_okq (⟨"OneStrokesModel", "joinedBy", "(IIZ)I"⟩, 20) := ⟨⟨by decide +kernel, by decide +kernel⟩, List.mem_of_getElem? (i := 929) (by decide +kernel), List.mem_of_getElem? (i := 1226) (by decide +kernel), List.mem_of_getElem? (i := 1227) (by decide +kernel)⟩
theorem lw_p72 : lw_okq (⟨"OneStrokesModel", "isDark", "(II)Z"⟩, 20) := ⟨⟨by decide +kernel, by decide +kernel⟩, List.mem_of_getElem? (i := 929) (by decide +kernel), List.mem_of_getElem? (i := 1230) (by decide +kernel), List.mem_of_getElem? (i := 1231) (by decide +kernel)⟩
theorem lw_p73 : lw_okq (⟨"OneStrokesModel", "facesOfSize", "(II)I"⟩, 20) := ⟨⟨by decide +kernel, by decide +kernel⟩, List.mem_of_getElem? (i := 929) (by decide +kernel), List.mem_of_getElem? (i := 1234) (by decide +kernel), List.mem_of_getElem? (i := 1235) (by decide +kernel)⟩
theorem lw_p74 : lw_okq (⟨"OneStrokesModel", "sizeOfFace", "(II)I"⟩, 20) := ⟨⟨by decide +kernel, by decide +kernel⟩, List.mem_of_getElem? (i := 929) (by decide +kernel), List.mem_of_getElem? (i := 1238) (by decide +kernel), List.mem_of_getElem? (i := 1239) (by decide +kernel)⟩
theorem lw_p75 : lw_okq (⟨"OneStrokesModel", "isLetter", "(II)Z"⟩, 20) := ⟨⟨by decide +kernel, by decide +kernel⟩, List.mem_of_getElem? (i := 929) (by decide +kernel), List.mem_of_getElem? (i := 1255) (by decide +kernel), List.mem_of_getElem? (i := 1256) (by decide +kernel)⟩
theorem lw_p76 : lw_okq (⟨"OneStrokesModel", "middle", "(I)I"⟩, 20) := ⟨⟨by decide +kernel, by decide +kernel⟩, List.mem_of_getElem? (i := 929) (by decide +kernel), List.mem_of_getElem? (i := 1260) (by decide +kernel), List.mem_of_getElem? (i := 1261) (by decide +kernel)⟩
theorem lw_p77 : lw_okq (⟨"OneStrokesModel", "turns", "(II)I"⟩, 20) := ⟨⟨by decide +kernel, by decide +kernel⟩, List.mem_of_getElem? (i := 929) (by decide +kernel), List.mem_of_getElem? (i := 1269) (by decide +kernel), List.mem_of_getElem? (i := 1270) (by decide +kernel)⟩
theorem lw_p78 : lw_okq (⟨"OneStrokesModel", "isSet", "(II)Z"⟩, 20) := ⟨⟨by decide +kernel, by decide +kernel⟩, List.mem_of_getElem? (i := 929) (by decide +kernel), List.mem_of_getElem? (i := 1277) (by decide +kernel), List.mem_of_getElem? (i := 1278) (by decide +kernel)⟩
theorem lw_p79 : lw_okq (⟨"OneStrokesModel", "isStep", "(II)Z"⟩, 20) := ⟨⟨by decide +kernel, by decide +kernel⟩, List.mem_of_getElem? (i := 929) (by decide +kernel), List.mem_of_getElem? (i := 1307) (by decide +kernel), List.mem_of_getElem? (i := 1308) (by decide +kernel)⟩
def lw_privs_5 : List (MethodName × Nat) := [(⟨"OneStrokesModel", "drawn", "(I)I"⟩, 20), (⟨"OneStrokesModel", "isPlane", "(II)Z"⟩, 20), (⟨"OneStrokesModel", "drawings", "(I)I"⟩, 20), (⟨"OneStrokesModel", "trees", "(IZ)I"⟩, 20), (⟨"OneStrokesModel", "laysIndices", "(I)V"⟩, 20), (⟨"OneStrokesModel", "faceOf", "(I)I"⟩, 20), (⟨"OneStrokesModel", "tellsIndex", "(III)V"⟩, 20), (⟨"OneStrokesModel", "joinedBy", "(IIZ)I"⟩, 20), (⟨"OneStrokesModel", "isDark", "(II)Z"⟩, 20), (⟨"OneStrokesModel", "facesOfSize", "(II)I"⟩, 20), (⟨"OneStrokesModel", "sizeOfFace", "(II)I"⟩, 20), (⟨"OneStrokesModel", "isLetter", "(II)Z"⟩, 20), (⟨"OneStrokesModel", "middle", "(I)I"⟩, 20), (⟨"OneStrokesModel", "turns", "(II)I"⟩, 20), (⟨"OneStrokesModel", "isSet", "(II)Z"⟩, 20), (⟨"OneStrokesModel", "isStep", "(II)Z"⟩, 20)]
theorem lw_r5 : ∀ q ∈ lw_privs_5, lw_okq q := List.forall_mem_cons.mpr ⟨lw_p64, List.forall_mem_cons.mpr ⟨lw_p65, List.forall_mem_cons.mpr ⟨lw_p66, List.forall_mem_cons.mpr ⟨lw_p67, List.forall_mem_cons.mpr ⟨lw_p68, List.forall_mem_cons.mpr ⟨lw_p69, List.forall_mem_cons.mpr ⟨lw_p70, List.forall_mem_cons.mpr ⟨lw_p71, List.forall_mem_cons.mpr ⟨lw_p72, List.forall_mem_cons.mpr ⟨lw_p73, List.forall_mem_cons.mpr ⟨lw_p74, List.forall_mem_cons.mpr ⟨lw_p75, List.forall_mem_cons.mpr ⟨lw_p76, List.forall_mem_cons.mpr ⟨lw_p77, List.forall_mem_cons.mpr ⟨lw_p78, List.forall_mem_cons.mpr ⟨lw_p79, fun _ h => absurd h List.not_mem_nil⟩⟩⟩⟩⟩⟩⟩⟩⟩⟩⟩⟩⟩⟩⟩⟩
theorem lw_p80 : lw_okq (⟨"OneStrokesModel", "without", "(III)I"⟩, 20) := ⟨⟨by decide +kernel, by decide +kernel⟩, List.mem_of_getElem? (i := 929) (by decide +kernel), List.mem_of_getElem? (i := 1315) (by decide +kernel), List.mem_of_getElem? (i := 1316) (by decide +kernel)⟩
theorem lw_p81 : lw_okq (⟨"OneStrokesModel", "swaps", "(III)V"⟩, 20) := ⟨⟨by decide +kernel, by decide +kernel⟩, List.mem_of_getElem? (i := 929) (by decide +kernel), List.mem_of_getElem? (i := 1331) (by decide +kernel), List.mem_of_getElem? (i := 1332) (by decide +kernel)⟩
theorem lw_p82 : lw_okq (⟨"OneStrokesModel", "drawsRow", "()V"⟩, 20) := ⟨⟨by decide +kernel, by decide +kernel⟩, List.mem_of_getElem? (i := 929) (by decide +kernel), List.mem_of_getElem? (i := 1352) (by decide +kernel), List.mem_of_getElem? (i := 1353) (by decide +kernel)⟩
theorem lw_p83 : lw_okq (⟨"OneStrokesModel", "draws", "(I)I"⟩, 20) := ⟨⟨by decide +kernel, by decide +kernel⟩, List.mem_of_getElem? (i := 929) (by decide +kernel), List.mem_of_getElem? (i := 1356) (by decide +kernel), List.mem_of_getElem? (i := 1357) (by decide +kernel)⟩
def lw_privs_6 : List (MethodName × Nat) := [(⟨"OneStrokesModel", "without", "(III)I"⟩, 20), (⟨"OneStrokesModel", "swaps", "(III)V"⟩, 20), (⟨"OneStrokesModel", "drawsRow", "()V"⟩, 20), (⟨"OneStrokesModel", "draws", "(I)I"⟩, 20)]
theorem lw_r6 : ∀ q ∈ lw_privs_6, lw_okq q := List.forall_mem_cons.mpr ⟨lw_p80, List.forall_mem_cons.mpr ⟨lw_p81, List.forall_mem_cons.mpr ⟨lw_p82, List.forall_mem_cons.mpr ⟨lw_p83, fun _ h => absurd h List.not_mem_nil⟩⟩⟩⟩
def lw_privs : List (MethodName × Nat) := lw_privs_1 ++ (lw_privs_2 ++ (lw_privs_3 ++ (lw_privs_4 ++ (lw_privs_5 ++ (lw_privs_6)))))
def lw_tbl : List Cond := k2_sels lw_privs ++ tables_1
theorem lw_privs_ok : ∀ q ∈ lw_privs, lw_okq q := by
  show ∀ q ∈ lw_privs_1 ++ (lw_privs_2 ++ (lw_privs_3 ++ (lw_privs_4 ++ (lw_privs_5 ++ (lw_privs_6))))), lw_okq q
  exact List.forall_mem_append.mpr ⟨lw_r1, List.forall_mem_append.mpr ⟨lw_r2, List.forall_mem_append.mpr ⟨lw_r3, List.forall_mem_append.mpr ⟨lw_r4, List.forall_mem_append.mpr ⟨lw_r5, lw_r6⟩⟩⟩⟩⟩
end
section
def RX0 : String := "OneStrokes$Book"
def TX0 : u_T := fun k => match k with
  | 0 => ("OneStrokes$Book", "words", "[I", true)
  | 1 => ("OneStrokes$Book", "counts", "[I", true)
  | _ => ("OneStrokes$Book", "count", "I", false)
def tyX0 : Nat → FieldType := fun k => match k with
  | 0 => .array .int
  | 1 => .array .int
  | _ => .int
abbrev wsX00 : List Cond := u_ws RX0 TX0 3
theorem nmX0 : ∀ a, a < 3 → ∀ b, b < 3 → a ≠ b → (TX0 a).2.1 ≠ (TX0 b).2.1 := by decide +kernel
theorem tyX0_ok : ∀ k, k < 3 → parseFieldDescriptor (TX0 k).2.2.1 = some (tyX0 k) := by decide +kernel
abbrev cX0_init : ByteArray := prog_2_method_1_code
def yX0_init : MethodName := ⟨RX0, "<init>", "()V"⟩
abbrev cX0_put : ByteArray := prog_2_method_2_code
def yX0_put : MethodName := ⟨RX0, "put", "(II)Z"⟩
abbrev cX0_count : ByteArray := prog_2_method_3_code
def yX0_count : MethodName := ⟨RX0, "count", "()I"⟩
abbrev cX0_clear : ByteArray := prog_2_method_4_code
def yX0_clear : MethodName := ⟨RX0, "clear", "()I"⟩
abbrev cX0_firstWrong : ByteArray := prog_2_method_5_code
def yX0_firstWrong : MethodName := ⟨RX0, "firstWrong", "(LOneStrokes$Shelf;LOneStrokes$Heaps;)I"⟩
def RX1 : String := "OneStrokes$Draft"
def TX1 : u_T := fun k => match k with
  | 0 => ("OneStrokes$Draft", "letters", "[I", true)
  | _ => ("OneStrokes$Draft", "length", "I", false)
def tyX1 : Nat → FieldType := fun k => match k with
  | 0 => .array .int
  | _ => .int
abbrev wsX10 : List Cond := u_ws RX1 TX1 2
theorem nmX1 : ∀ a, a < 2 → ∀ b, b < 2 → a ≠ b → (TX1 a).2.1 ≠ (TX1 b).2.1 := by decide +kernel
theorem tyX1_ok : ∀ k, k < 2 → parseFieldDescriptor (TX1 k).2.2.1 = some (tyX1 k) := by decide +kernel
abbrev cX1_init : ByteArray := prog_3_method_1_code
def yX1_init : MethodName := ⟨RX1, "<init>", "()V"⟩
abbrev cX1_clear : ByteArray := prog_3_method_2_code
def yX1_clear : MethodName := ⟨RX1, "clear", "()V"⟩
abbrev cX1_put : ByteArray := prog_3_method_3_code
def yX1_put : MethodName := ⟨RX1, "put", "(I)V"⟩
abbrev cX1_length : ByteArray := prog_3_method_4_code
def yX1_length : MethodName := ⟨RX1, "length", "()I"⟩
abbrev cX1_earlierTwin : ByteArray := prog_3_method_5_code
def yX1_earlierTwin : MethodName := ⟨RX1, "earlierTwin", "(I)I"⟩
abbrev cX1_makeEmptyPlaces : ByteArray := prog_3_method_6_code
def yX1_makeEmptyPlaces : MethodName := ⟨RX1, "makeEmptyPlaces", "(I)V"⟩
abbrev cX1_putInEmpty : ByteArray := prog_3_method_7_code
def yX1_putInEmpty : MethodName := ⟨RX1, "putInEmpty", "(II)V"⟩
abbrev cX1_writeTurned : ByteArray := prog_3_method_8_code
def yX1_writeTurned : MethodName := ⟨RX1, "writeTurned", "(LOneStrokes$Row;IZ)V"⟩
abbrev cX1_writeWithLoop : ByteArray := prog_3_method_9_code
def yX1_writeWithLoop : MethodName := ⟨RX1, "writeWithLoop", "(LOneStrokes$Row;I)V"⟩
abbrev cX1_writeWithPoke : ByteArray := prog_3_method_10_code
def yX1_writeWithPoke : MethodName := ⟨RX1, "writeWithPoke", "(LOneStrokes$Row;III)V"⟩
abbrev cX1_putTwo : ByteArray := prog_3_method_11_code
def yX1_putTwo : MethodName := ⟨RX1, "putTwo", "(II)V"⟩
abbrev cX1_writeWithout : ByteArray := prog_3_method_12_code
def yX1_writeWithout : MethodName := ⟨RX1, "writeWithout", "(LOneStrokes$Row;I)V"⟩
abbrev cX1_writeSlid : ByteArray := prog_3_method_13_code
def yX1_writeSlid : MethodName := ⟨RX1, "writeSlid", "(LOneStrokes$Row;IIII)V"⟩
abbrev cX1_swap : ByteArray := prog_3_method_14_code
def yX1_swap : MethodName := ⟨RX1, "swap", "(II)V"⟩
abbrev cX1_writeSmoothed : ByteArray := prog_3_method_15_code
def yX1_writeSmoothed : MethodName := ⟨RX1, "writeSmoothed", "(LOneStrokes$Row;I)V"⟩
abbrev cX1_putPlaces : ByteArray := prog_3_method_16_code
def yX1_putPlaces : MethodName := ⟨RX1, "putPlaces", "(LOneStrokes$Row;II)V"⟩
abbrev cX1_writeSum : ByteArray := prog_3_method_17_code
def yX1_writeSum : MethodName := ⟨RX1, "writeSum", "(LOneStrokes$Row;LOneStrokes$Row;)V"⟩
def RX2 : String := "OneStrokes$Draws"
def TX2 : u_T := fun k => match k with
  | _ => ("OneStrokes$Draws", "current", "I", false)
def tyX2 : Nat → FieldType := fun k => match k with
  | _ => .int
abbrev wsX20 : List Cond := u_ws RX2 TX2 1
theorem nmX2 : ∀ a, a < 1 → ∀ b, b < 1 → a ≠ b → (TX2 a).2.1 ≠ (TX2 b).2.1 := by decide +kernel
theorem tyX2_ok : ∀ k, k < 1 → parseFieldDescriptor (TX2 k).2.2.1 = some (tyX2 k) := by decide +kernel
abbrev cX2_init : ByteArray := prog_4_method_1_code
def yX2_init : MethodName := ⟨RX2, "<init>", "()V"⟩
abbrev cX2_current : ByteArray := prog_4_method_2_code
def yX2_current : MethodName := ⟨RX2, "current", "()I"⟩
abbrev cX2_restart : ByteArray := prog_4_method_3_code
def yX2_restart : MethodName := ⟨RX2, "restart", "(I)V"⟩
abbrev cX2_below : ByteArray := prog_4_method_4_code
def yX2_below : MethodName := ⟨RX2, "below", "(I)I"⟩
abbrev cX2_writeRow : ByteArray := prog_4_method_5_code
def yX2_writeRow : MethodName := ⟨RX2, "writeRow", "(LOneStrokes$Draft;)V"⟩
def RX3 : String := "OneStrokes$Faces"
def TX3 : u_T := fun k => match k with
  | 0 => ("OneStrokes$Faces", "row", "LOneStrokes$Row;", true)
  | 1 => ("OneStrokes$Faces", "count", "I", true)
  | 2 => ("OneStrokes$Faces", "faceOfCorner", "[I", true)
  | 3 => ("OneStrokes$Faces", "sizes", "[I", true)
  | 4 => ("OneStrokes$Faces", "leftOfStep", "[I", true)
  | 5 => ("OneStrokes$Faces", "rightOfStep", "[I", true)
  | 6 => ("OneStrokes$Faces", "indexes", "[I", true)
  | _ => ("OneStrokes$Faces", "plane", "Z", true)
def tyX3 : Nat → FieldType := fun k => match k with
  | 0 => .object "OneStrokes$Row"
  | 1 => .int
  | 2 => .array .int
  | 3 => .array .int
  | 4 => .array .int
  | 5 => .array .int
  | 6 => .array .int
  | _ => .boolean
abbrev wsX30 : List Cond := u_ws RX3 TX3 8
theorem nmX3 : ∀ a, a < 8 → ∀ b, b < 8 → a ≠ b → (TX3 a).2.1 ≠ (TX3 b).2.1 := by decide +kernel
theorem tyX3_ok : ∀ k, k < 8 → parseFieldDescriptor (TX3 k).2.2.1 = some (tyX3 k) := by decide +kernel
abbrev cX3_init : ByteArray := prog_5_method_1_code
def yX3_init : MethodName := ⟨RX3, "<init>", "(LOneStrokes$Row;ILOneStrokes$Heaps;)V"⟩
abbrev cX3_countIn : ByteArray := prog_5_method_2_code
def yX3_countIn : MethodName := ⟨RX3, "countIn", "(LOneStrokes$Row;ILOneStrokes$Heaps;)I"⟩
abbrev cX3_endLeaving : ByteArray := prog_5_method_3_code
def yX3_endLeaving : MethodName := ⟨RX3, "endLeaving", "(LOneStrokes$Row;II)I"⟩
abbrev cX3_corner : ByteArray := prog_5_method_4_code
def yX3_corner : MethodName := ⟨RX3, "corner", "(II)I"⟩
abbrev cX3_numberCorners : ByteArray := prog_5_method_5_code
def yX3_numberCorners : MethodName := ⟨RX3, "numberCorners", "(LOneStrokes$Heaps;)V"⟩
abbrev cX3_findSidesOfSteps : ByteArray := prog_5_method_6_code
def yX3_findSidesOfSteps : MethodName := ⟨RX3, "findSidesOfSteps", "(I)V"⟩
abbrev cX3_findIndexes : ByteArray := prog_5_method_7_code
def yX3_findIndexes : MethodName := ⟨RX3, "findIndexes", "()V"⟩
abbrev cX3_count : ByteArray := prog_5_method_8_code
def yX3_count : MethodName := ⟨RX3, "count", "()I"⟩
abbrev cX3_handles : ByteArray := prog_5_method_9_code
def yX3_handles : MethodName := ⟨RX3, "handles", "()I"⟩
abbrev cX3_isPlane : ByteArray := prog_5_method_10_code
def yX3_isPlane : MethodName := ⟨RX3, "isPlane", "()Z"⟩
abbrev cX3_hasFace : ByteArray := prog_5_method_11_code
def yX3_hasFace : MethodName := ⟨RX3, "hasFace", "(I)Z"⟩
abbrev cX3_faceOf : ByteArray := prog_5_method_12_code
def yX3_faceOf : MethodName := ⟨RX3, "faceOf", "(II)I"⟩
abbrev cX3_sizeOf : ByteArray := prog_5_method_13_code
def yX3_sizeOf : MethodName := ⟨RX3, "sizeOf", "(I)I"⟩
abbrev cX3_countOfSize : ByteArray := prog_5_method_14_code
def yX3_countOfSize : MethodName := ⟨RX3, "countOfSize", "(I)I"⟩
abbrev cX3_indexOf : ByteArray := prog_5_method_15_code
def yX3_indexOf : MethodName := ⟨RX3, "indexOf", "(I)I"⟩
abbrev cX3_isDark : ByteArray := prog_5_method_16_code
def yX3_isDark : MethodName := ⟨RX3, "isDark", "(I)Z"⟩
abbrev cX3_middle : ByteArray := prog_5_method_17_code
def yX3_middle : MethodName := ⟨RX3, "middle", "(I)I"⟩
abbrev cX3_turnsAround : ByteArray := prog_5_method_18_code
def yX3_turnsAround : MethodName := ⟨RX3, "turnsAround", "(I)I"⟩
abbrev cX3_trees : ByteArray := prog_5_method_19_code
def yX3_trees : MethodName := ⟨RX3, "trees", "(ZLOneStrokes$Heaps;)I"⟩
abbrev cX3_countOfKind : ByteArray := prog_5_method_20_code
def yX3_countOfKind : MethodName := ⟨RX3, "countOfKind", "(Z)I"⟩
abbrev cX3_heapsJoinedBy : ByteArray := prog_5_method_21_code
def yX3_heapsJoinedBy : MethodName := ⟨RX3, "heapsJoinedBy", "(IZLOneStrokes$Heaps;)I"⟩
def RX4 : String := "OneStrokes$Heaps"
def TX4 : u_T := fun k => match k with
  | 0 => ("OneStrokes$Heaps", "above", "[I", true)
  | 1 => ("OneStrokes$Heaps", "things", "I", false)
  | _ => ("OneStrokes$Heaps", "heapCount", "I", false)
def tyX4 : Nat → FieldType := fun k => match k with
  | 0 => .array .int
  | 1 => .int
  | _ => .int
abbrev wsX40 : List Cond := u_ws RX4 TX4 3
theorem nmX4 : ∀ a, a < 3 → ∀ b, b < 3 → a ≠ b → (TX4 a).2.1 ≠ (TX4 b).2.1 := by decide +kernel
theorem tyX4_ok : ∀ k, k < 3 → parseFieldDescriptor (TX4 k).2.2.1 = some (tyX4 k) := by decide +kernel
abbrev cX4_init : ByteArray := prog_6_method_1_code
def yX4_init : MethodName := ⟨RX4, "<init>", "()V"⟩
abbrev cX4_scatter : ByteArray := prog_6_method_2_code
def yX4_scatter : MethodName := ⟨RX4, "scatter", "(I)V"⟩
abbrev cX4_leastWith : ByteArray := prog_6_method_3_code
def yX4_leastWith : MethodName := ⟨RX4, "leastWith", "(I)I"⟩
abbrev cX4_join : ByteArray := prog_6_method_4_code
def yX4_join : MethodName := ⟨RX4, "join", "(II)V"⟩
abbrev cX4_count : ByteArray := prog_6_method_5_code
def yX4_count : MethodName := ⟨RX4, "count", "()I"⟩
def RX5 : String := "OneStrokes$History"
def TX5 : u_T := fun k => match k with
  | 0 => ("OneStrokes$History", "shelves", "[LOneStrokes$Shelf;", true)
  | 1 => ("OneStrokes$History", "latest", "I", false)
  | _ => ("OneStrokes$History", "count", "I", false)
def tyX5 : Nat → FieldType := fun k => match k with
  | 0 => .array (.object "OneStrokes$Shelf")
  | 1 => .int
  | _ => .int
abbrev wsX50 : List Cond := u_ws RX5 TX5 3
theorem nmX5 : ∀ a, a < 3 → ∀ b, b < 3 → a ≠ b → (TX5 a).2.1 ≠ (TX5 b).2.1 := by decide +kernel
theorem tyX5_ok : ∀ k, k < 3 → parseFieldDescriptor (TX5 k).2.2.1 = some (tyX5 k) := by decide +kernel
abbrev cX5_init : ByteArray := prog_7_method_1_code
def yX5_init : MethodName := ⟨RX5, "<init>", "()V"⟩
abbrev cX5_remember : ByteArray := prog_7_method_2_code
def yX5_remember : MethodName := ⟨RX5, "remember", "(LOneStrokes$Shelf;)V"⟩
abbrev cX5_restore : ByteArray := prog_7_method_3_code
def yX5_restore : MethodName := ⟨RX5, "restore", "(ILOneStrokes$Shelf;)Z"⟩
abbrev cX5_count : ByteArray := prog_7_method_4_code
def yX5_count : MethodName := ⟨RX5, "count", "()I"⟩
abbrev cX5_clear : ByteArray := prog_7_method_5_code
def yX5_clear : MethodName := ⟨RX5, "clear", "()V"⟩
def RX6 : String := "OneStrokes$Image"
def TX6 : u_T := fun k => match k with
  | 0 => ("OneStrokes$Image", "shelf", "LOneStrokes$Shelf;", true)
  | 1 => ("OneStrokes$Image", "seedThen", "I", false)
  | _ => ("OneStrokes$Image", "kept", "Z", false)
def tyX6 : Nat → FieldType := fun k => match k with
  | 0 => .object "OneStrokes$Shelf"
  | 1 => .int
  | _ => .boolean
abbrev wsX60 : List Cond := u_ws RX6 TX6 3
theorem nmX6 : ∀ a, a < 3 → ∀ b, b < 3 → a ≠ b → (TX6 a).2.1 ≠ (TX6 b).2.1 := by decide +kernel
theorem tyX6_ok : ∀ k, k < 3 → parseFieldDescriptor (TX6 k).2.2.1 = some (tyX6 k) := by decide +kernel
abbrev cX6_init : ByteArray := prog_8_method_1_code
def yX6_init : MethodName := ⟨RX6, "<init>", "()V"⟩
abbrev cX6_store : ByteArray := prog_8_method_2_code
def yX6_store : MethodName := ⟨RX6, "store", "(LOneStrokes$Shelf;I)V"⟩
abbrev cX6_isKept : ByteArray := prog_8_method_3_code
def yX6_isKept : MethodName := ⟨RX6, "isKept", "()Z"⟩
abbrev cX6_shelf : ByteArray := prog_8_method_4_code
def yX6_shelf : MethodName := ⟨RX6, "shelf", "()LOneStrokes$Shelf;"⟩
abbrev cX6_seedThen : ByteArray := prog_8_method_5_code
def yX6_seedThen : MethodName := ⟨RX6, "seedThen", "()I"⟩
def RX7 : String := "OneStrokes$Row"
def TX7 : u_T := fun k => match k with
  | 0 => ("OneStrokes$Row", "letterCount", "I", true)
  | 1 => ("OneStrokes$Row", "placeCount", "I", true)
  | 2 => ("OneStrokes$Row", "letterAt", "[I", true)
  | 3 => ("OneStrokes$Row", "firstPlace", "[I", true)
  | 4 => ("OneStrokes$Row", "laterPlace", "[I", true)
  | 5 => ("OneStrokes$Row", "betweenSets", "[I", true)
  | 6 => ("OneStrokes$Row", "turnsTried", "Z", false)
  | 7 => ("OneStrokes$Row", "leastCode", "J", false)
  | 8 => ("OneStrokes$Row", "kin", "I", false)
  | 9 => ("OneStrokes$Row", "signsTried", "Z", false)
  | 10 => ("OneStrokes$Row", "drawnSigns", "I", false)
  | 11 => ("OneStrokes$Row", "drawings", "I", false)
  | 12 => ("OneStrokes$Row", "ringsCounted", "Z", false)
  | _ => ("OneStrokes$Row", "setsByRings", "[I", true)
def tyX7 : Nat → FieldType := fun k => match k with
  | 0 => .int
  | 1 => .int
  | 2 => .array .int
  | 3 => .array .int
  | 4 => .array .int
  | 5 => .array .int
  | 6 => .boolean
  | 7 => .long
  | 8 => .int
  | 9 => .boolean
  | 10 => .int
  | 11 => .int
  | 12 => .boolean
  | _ => .array .int
abbrev wsX70 : List Cond := u_ws RX7 TX7 14
theorem nmX7 : ∀ a, a < 14 → ∀ b, b < 14 → a ≠ b → (TX7 a).2.1 ≠ (TX7 b).2.1 := by decide +kernel
theorem tyX7_ok : ∀ k, k < 14 → parseFieldDescriptor (TX7 k).2.2.1 = some (tyX7 k) := by decide +kernel
abbrev cX7_init : ByteArray := prog_9_method_1_code
def yX7_init : MethodName := ⟨RX7, "<init>", "(LOneStrokes$Draft;)V"⟩
abbrev cX7_standsOnceBetween : ByteArray := prog_9_method_2_code
def yX7_standsOnceBetween : MethodName := ⟨RX7, "standsOnceBetween", "(II)Z"⟩
abbrev cX7_letterCount : ByteArray := prog_9_method_3_code
def yX7_letterCount : MethodName := ⟨RX7, "letterCount", "()I"⟩
abbrev cX7_placeCount : ByteArray := prog_9_method_4_code
def yX7_placeCount : MethodName := ⟨RX7, "placeCount", "()I"⟩
abbrev cX7_hasLetter : ByteArray := prog_9_method_5_code
def yX7_hasLetter : MethodName := ⟨RX7, "hasLetter", "(I)Z"⟩
abbrev cX7_hasThree : ByteArray := prog_9_method_6_code
def yX7_hasThree : MethodName := ⟨RX7, "hasThree", "(III)Z"⟩
abbrev cX7_hasLetters : ByteArray := prog_9_method_7_code
def yX7_hasLetters : MethodName := ⟨RX7, "hasLetters", "(I)Z"⟩
abbrev cX7_hasPlace : ByteArray := prog_9_method_8_code
def yX7_hasPlace : MethodName := ⟨RX7, "hasPlace", "(I)Z"⟩
abbrev cX7_stepCount : ByteArray := prog_9_method_9_code
def yX7_stepCount : MethodName := ⟨RX7, "stepCount", "()I"⟩
abbrev cX7_hasStep : ByteArray := prog_9_method_10_code
def yX7_hasStep : MethodName := ⟨RX7, "hasStep", "(I)Z"⟩
abbrev cX7_letterOn : ByteArray := prog_9_method_11_code
def yX7_letterOn : MethodName := ⟨RX7, "letterOn", "(I)I"⟩
abbrev cX7_placeOf : ByteArray := prog_9_method_12_code
def yX7_placeOf : MethodName := ⟨RX7, "placeOf", "(II)I"⟩
abbrev cX7_isFirstOfLetter : ByteArray := prog_9_method_13_code
def yX7_isFirstOfLetter : MethodName := ⟨RX7, "isFirstOfLetter", "(I)Z"⟩
abbrev cX7_placeBehind : ByteArray := prog_9_method_14_code
def yX7_placeBehind : MethodName := ⟨RX7, "placeBehind", "(I)I"⟩
abbrev cX7_placeAhead : ByteArray := prog_9_method_15_code
def yX7_placeAhead : MethodName := ⟨RX7, "placeAhead", "(I)I"⟩
abbrev cX7_areBeside : ByteArray := prog_9_method_16_code
def yX7_areBeside : MethodName := ⟨RX7, "areBeside", "(II)Z"⟩
abbrev cX7_betweenSet : ByteArray := prog_9_method_17_code
def yX7_betweenSet : MethodName := ⟨RX7, "betweenSet", "(I)I"⟩
abbrev cX7_sharedBetween : ByteArray := prog_9_method_18_code
def yX7_sharedBetween : MethodName := ⟨RX7, "sharedBetween", "(II)I"⟩
abbrev cX7_parts : ByteArray := prog_9_method_19_code
def yX7_parts : MethodName := ⟨RX7, "parts", "(LOneStrokes$Heaps;)I"⟩
abbrev cX7_brokenLaw : ByteArray := prog_9_method_20_code
def yX7_brokenLaw : MethodName := ⟨RX7, "brokenLaw", "(LOneStrokes$Heaps;)I"⟩
abbrev cX7_eachIsBetweenEvenly : ByteArray := prog_9_method_21_code
def yX7_eachIsBetweenEvenly : MethodName := ⟨RX7, "eachIsBetweenEvenly", "()Z"⟩
abbrev cX7_eachTwoApartShareEvenly : ByteArray := prog_9_method_22_code
def yX7_eachTwoApartShareEvenly : MethodName := ⟨RX7, "eachTwoApartShareEvenly", "()Z"⟩
abbrev cX7_sidesCanBeChosen : ByteArray := prog_9_method_23_code
def yX7_sidesCanBeChosen : MethodName := ⟨RX7, "sidesCanBeChosen", "(LOneStrokes$Heaps;)Z"⟩
abbrev cX7_leastCode : ByteArray := prog_9_method_24_code
def yX7_leastCode : MethodName := ⟨RX7, "leastCode", "()J"⟩
abbrev cX7_kin : ByteArray := prog_9_method_25_code
def yX7_kin : MethodName := ⟨RX7, "kin", "()I"⟩
abbrev cX7_isLike : ByteArray := prog_9_method_26_code
def yX7_isLike : MethodName := ⟨RX7, "isLike", "(LOneStrokes$Row;)Z"⟩
abbrev cX7_tryTurns : ByteArray := prog_9_method_27_code
def yX7_tryTurns : MethodName := ⟨RX7, "tryTurns", "()V"⟩
abbrev cX7_codeFrom : ByteArray := prog_9_method_28_code
def yX7_codeFrom : MethodName := ⟨RX7, "codeFrom", "(IZ[I)J"⟩
abbrev cX7_drawnSigns : ByteArray := prog_9_method_29_code
def yX7_drawnSigns : MethodName := ⟨RX7, "drawnSigns", "(LOneStrokes$Heaps;)I"⟩
abbrev cX7_drawings : ByteArray := prog_9_method_30_code
def yX7_drawings : MethodName := ⟨RX7, "drawings", "(LOneStrokes$Heaps;)I"⟩
abbrev cX7_trySigns : ByteArray := prog_9_method_31_code
def yX7_trySigns : MethodName := ⟨RX7, "trySigns", "(LOneStrokes$Heaps;)V"⟩
abbrev cX7_ringsOf : ByteArray := prog_9_method_32_code
def yX7_ringsOf : MethodName := ⟨RX7, "ringsOf", "(ILOneStrokes$Heaps;)I"⟩
abbrev cX7_setsWithRings : ByteArray := prog_9_method_33_code
def yX7_setsWithRings : MethodName := ⟨RX7, "setsWithRings", "(ILOneStrokes$Heaps;)I"⟩
abbrev cX7_isLoop : ByteArray := prog_9_method_34_code
def yX7_isLoop : MethodName := ⟨RX7, "isLoop", "(I)Z"⟩
abbrev cX7_loops : ByteArray := prog_9_method_35_code
def yX7_loops : MethodName := ⟨RX7, "loops", "()I"⟩
abbrev cX7_isPoke : ByteArray := prog_9_method_36_code
def yX7_isPoke : MethodName := ⟨RX7, "isPoke", "(II)Z"⟩
abbrev cX7_slideChoice : ByteArray := prog_9_method_37_code
def yX7_slideChoice : MethodName := ⟨RX7, "slideChoice", "(III)I"⟩
def RX8 : String := "OneStrokes$Shelf"
def TX8 : u_T := fun k => match k with
  | 0 => ("OneStrokes$Shelf", "words", "[LOneStrokes$Word;", true)
  | _ => ("OneStrokes$Shelf", "count", "I", false)
def tyX8 : Nat → FieldType := fun k => match k with
  | 0 => .array (.object "OneStrokes$Word")
  | _ => .int
abbrev wsX80 : List Cond := u_ws RX8 TX8 2
theorem nmX8 : ∀ a, a < 2 → ∀ b, b < 2 → a ≠ b → (TX8 a).2.1 ≠ (TX8 b).2.1 := by decide +kernel
theorem tyX8_ok : ∀ k, k < 2 → parseFieldDescriptor (TX8 k).2.2.1 = some (tyX8 k) := by decide +kernel
abbrev cX8_init : ByteArray := prog_10_method_1_code
def yX8_init : MethodName := ⟨RX8, "<init>", "()V"⟩
abbrev cX8_count : ByteArray := prog_10_method_2_code
def yX8_count : MethodName := ⟨RX8, "count", "()I"⟩
abbrev cX8_isFull : ByteArray := prog_10_method_3_code
def yX8_isFull : MethodName := ⟨RX8, "isFull", "()Z"⟩
abbrev cX8_get : ByteArray := prog_10_method_4_code
def yX8_get : MethodName := ⟨RX8, "get", "(I)LOneStrokes$Word;"⟩
abbrev cX8_add : ByteArray := prog_10_method_5_code
def yX8_add : MethodName := ⟨RX8, "add", "(LOneStrokes$Word;)V"⟩
abbrev cX8_replace : ByteArray := prog_10_method_6_code
def yX8_replace : MethodName := ⟨RX8, "replace", "(ILOneStrokes$Word;)V"⟩
abbrev cX8_remove : ByteArray := prog_10_method_7_code
def yX8_remove : MethodName := ⟨RX8, "remove", "(I)V"⟩
abbrev cX8_copyFrom : ByteArray := prog_10_method_8_code
def yX8_copyFrom : MethodName := ⟨RX8, "copyFrom", "(LOneStrokes$Shelf;)V"⟩
abbrev cX8_unlike : ByteArray := prog_10_method_9_code
def yX8_unlike : MethodName := ⟨RX8, "unlike", "()I"⟩
abbrev cX8_hasLikeAhead : ByteArray := prog_10_method_10_code
def yX8_hasLikeAhead : MethodName := ⟨RX8, "hasLikeAhead", "(I)Z"⟩
def RX9 : String := "OneStrokes$Text"
def TX9 : u_T := fun k => match k with
  | 0 => ("OneStrokes$Text", "letters", "[I", true)
  | 1 => ("OneStrokes$Text", "length", "I", false)
  | _ => ("OneStrokes$Text", "faultPlace", "I", false)
def tyX9 : Nat → FieldType := fun k => match k with
  | 0 => .array .int
  | 1 => .int
  | _ => .int
abbrev wsX90 : List Cond := u_ws RX9 TX9 3
theorem nmX9 : ∀ a, a < 3 → ∀ b, b < 3 → a ≠ b → (TX9 a).2.1 ≠ (TX9 b).2.1 := by decide +kernel
theorem tyX9_ok : ∀ k, k < 3 → parseFieldDescriptor (TX9 k).2.2.1 = some (tyX9 k) := by decide +kernel
abbrev cX9_init : ByteArray := prog_11_method_1_code
def yX9_init : MethodName := ⟨RX9, "<init>", "()V"⟩
abbrev cX9_put : ByteArray := prog_11_method_2_code
def yX9_put : MethodName := ⟨RX9, "put", "(I)Z"⟩
abbrev cX9_length : ByteArray := prog_11_method_3_code
def yX9_length : MethodName := ⟨RX9, "length", "()I"⟩
abbrev cX9_faultPlace : ByteArray := prog_11_method_4_code
def yX9_faultPlace : MethodName := ⟨RX9, "faultPlace", "()I"⟩
abbrev cX9_clear : ByteArray := prog_11_method_5_code
def yX9_clear : MethodName := ⟨RX9, "clear", "()V"⟩
abbrev cX9_copyTo : ByteArray := prog_11_method_6_code
def yX9_copyTo : MethodName := ⟨RX9, "copyTo", "(LOneStrokes$Draft;)V"⟩
abbrev cX9_judge : ByteArray := prog_11_method_7_code
def yX9_judge : MethodName := ⟨RX9, "judge", "()I"⟩
abbrev cX9_faultOfLetter : ByteArray := prog_11_method_8_code
def yX9_faultOfLetter : MethodName := ⟨RX9, "faultOfLetter", "(III)I"⟩
abbrev cX9_countOf : ByteArray := prog_11_method_9_code
def yX9_countOf : MethodName := ⟨RX9, "countOf", "(II)I"⟩
def RX10 : String := "OneStrokes$Word"
def TX10 : u_T := fun k => match k with
  | 0 => ("OneStrokes$Word", "row", "LOneStrokes$Row;", true)
  | 1 => ("OneStrokes$Word", "signSet", "I", true)
  | _ => ("OneStrokes$Word", "faces", "LOneStrokes$Faces;", false)
def tyX10 : Nat → FieldType := fun k => match k with
  | 0 => .object "OneStrokes$Row"
  | 1 => .int
  | _ => .object "OneStrokes$Faces"
abbrev wsX100 : List Cond := u_ws RX10 TX10 3
theorem nmX10 : ∀ a, a < 3 → ∀ b, b < 3 → a ≠ b → (TX10 a).2.1 ≠ (TX10 b).2.1 := by decide +kernel
theorem tyX10_ok : ∀ k, k < 3 → parseFieldDescriptor (TX10 k).2.2.1 = some (tyX10 k) := by decide +kernel
abbrev cX10_init : ByteArray := prog_12_method_1_code
def yX10_init : MethodName := ⟨RX10, "<init>", "(LOneStrokes$Row;I)V"⟩
abbrev cX10_row : ByteArray := prog_12_method_2_code
def yX10_row : MethodName := ⟨RX10, "row", "()LOneStrokes$Row;"⟩
abbrev cX10_signSet : ByteArray := prog_12_method_3_code
def yX10_signSet : MethodName := ⟨RX10, "signSet", "()I"⟩
abbrev cX10_faces : ByteArray := prog_12_method_4_code
def yX10_faces : MethodName := ⟨RX10, "faces", "(LOneStrokes$Heaps;)LOneStrokes$Faces;"⟩
def RX11 : String := "OneStrokes"
def TX11 : u_T := fun k => match k with
  | 0 => ("OneStrokes", "shelf", "LOneStrokes$Shelf;", true)
  | 1 => ("OneStrokes", "text", "LOneStrokes$Text;", true)
  | 2 => ("OneStrokes", "book", "LOneStrokes$Book;", true)
  | 3 => ("OneStrokes", "history", "LOneStrokes$History;", true)
  | 4 => ("OneStrokes", "images", "[LOneStrokes$Image;", true)
  | 5 => ("OneStrokes", "draws", "LOneStrokes$Draws;", true)
  | 6 => ("OneStrokes", "draft", "LOneStrokes$Draft;", true)
  | _ => ("OneStrokes", "heaps", "LOneStrokes$Heaps;", true)
def tyX11 : Nat → FieldType := fun k => match k with
  | 0 => .object "OneStrokes$Shelf"
  | 1 => .object "OneStrokes$Text"
  | 2 => .object "OneStrokes$Book"
  | 3 => .object "OneStrokes$History"
  | 4 => .array (.object "OneStrokes$Image")
  | 5 => .object "OneStrokes$Draws"
  | 6 => .object "OneStrokes$Draft"
  | _ => .object "OneStrokes$Heaps"
abbrev wsX110 : List Cond := u_ws RX11 TX11 8
theorem nmX11 : ∀ a, a < 8 → ∀ b, b < 8 → a ≠ b → (TX11 a).2.1 ≠ (TX11 b).2.1 := by decide +kernel
theorem tyX11_ok : ∀ k, k < 8 → parseFieldDescriptor (TX11 k).2.2.1 = some (tyX11 k) := by decide +kernel
abbrev cX11_init : ByteArray := prog_1_method_1_code
def yX11_init : MethodName := ⟨RX11, "<init>", "()V"⟩
abbrev cX11_feed : ByteArray := prog_1_method_2_code
def yX11_feed : MethodName := ⟨RX11, "feed", "(I)I"⟩
abbrev cX11_tell : ByteArray := prog_1_method_3_code
def yX11_tell : MethodName := ⟨RX11, "tell", "()I"⟩
abbrev cX11_fault : ByteArray := prog_1_method_4_code
def yX11_fault : MethodName := ⟨RX11, "fault", "()I"⟩
abbrev cX11_told : ByteArray := prog_1_method_5_code
def yX11_told : MethodName := ⟨RX11, "told", "(I)I"⟩
abbrev cX11_word : ByteArray := prog_1_method_6_code
def yX11_word : MethodName := ⟨RX11, "word", "(II)I"⟩
abbrev cX11_code : ByteArray := prog_1_method_7_code
def yX11_code : MethodName := ⟨RX11, "code", "(I)J"⟩
abbrev cX11_at : ByteArray := prog_1_method_8_code
def yX11_at : MethodName := ⟨RX11, "at", "(II)I"⟩
abbrev cX11_letter : ByteArray := prog_1_method_9_code
def yX11_letter : MethodName := ⟨RX11, "letter", "(III)I"⟩
abbrev cX11_face : ByteArray := prog_1_method_10_code
def yX11_face : MethodName := ⟨RX11, "face", "(III)I"⟩
abbrev cX11_rings : ByteArray := prog_1_method_11_code
def yX11_rings : MethodName := ⟨RX11, "rings", "(II)I"⟩
abbrev cX11_states : ByteArray := prog_1_method_12_code
def yX11_states : MethodName := ⟨RX11, "states", "(II)I"⟩
abbrev cX11_same : ByteArray := prog_1_method_13_code
def yX11_same : MethodName := ⟨RX11, "same", "(II)I"⟩
abbrev cX11_signs : ByteArray := prog_1_method_14_code
def yX11_signs : MethodName := ⟨RX11, "signs", "(II)I"⟩
abbrev cX11_draw : ByteArray := prog_1_method_15_code
def yX11_draw : MethodName := ⟨RX11, "draw", "(I)I"⟩
abbrev cX11_turn : ByteArray := prog_1_method_16_code
def yX11_turn : MethodName := ⟨RX11, "turn", "(IIZ)I"⟩
abbrev cX11_twist : ByteArray := prog_1_method_17_code
def yX11_twist : MethodName := ⟨RX11, "twist", "(II)I"⟩
abbrev cX11_untwist : ByteArray := prog_1_method_18_code
def yX11_untwist : MethodName := ⟨RX11, "untwist", "(II)I"⟩
abbrev cX11_poke : ByteArray := prog_1_method_19_code
def yX11_poke : MethodName := ⟨RX11, "poke", "(IIII)I"⟩
abbrev cX11_unpoke : ByteArray := prog_1_method_20_code
def yX11_unpoke : MethodName := ⟨RX11, "unpoke", "(III)I"⟩
abbrev cX11_slide : ByteArray := prog_1_method_21_code
def yX11_slide : MethodName := ⟨RX11, "slide", "(IIII)I"⟩
abbrev cX11_smooth : ByteArray := prog_1_method_22_code
def yX11_smooth : MethodName := ⟨RX11, "smooth", "(II)I"⟩
abbrev cX11_sum : ByteArray := prog_1_method_23_code
def yX11_sum : MethodName := ⟨RX11, "sum", "(II)I"⟩
abbrev cX11_take : ByteArray := prog_1_method_24_code
def yX11_take : MethodName := ⟨RX11, "take", "(I)I"⟩
abbrev cX11_drift : ByteArray := prog_1_method_25_code
def yX11_drift : MethodName := ⟨RX11, "drift", "(I)I"⟩
abbrev cX11_undo : ByteArray := prog_1_method_26_code
def yX11_undo : MethodName := ⟨RX11, "undo", "(I)I"⟩
abbrev cX11_write : ByteArray := prog_1_method_27_code
def yX11_write : MethodName := ⟨RX11, "write", "(II)I"⟩
abbrev cX11_tear : ByteArray := prog_1_method_28_code
def yX11_tear : MethodName := ⟨RX11, "tear", "()I"⟩
abbrev cX11_seed : ByteArray := prog_1_method_29_code
def yX11_seed : MethodName := ⟨RX11, "seed", "(I)I"⟩
abbrev cX11_keep : ByteArray := prog_1_method_30_code
def yX11_keep : MethodName := ⟨RX11, "keep", "(I)I"⟩
abbrev cX11_goBack : ByteArray := prog_1_method_31_code
def yX11_goBack : MethodName := ⟨RX11, "goBack", "(I)I"⟩
abbrev cX11_comesAsWord : ByteArray := prog_1_method_32_code
def yX11_comesAsWord : MethodName := ⟨RX11, "comesAsWord", "()I"⟩
abbrev cX11_becomesDraft : ByteArray := prog_1_method_33_code
def yX11_becomesDraft : MethodName := ⟨RX11, "becomesDraft", "(I)LOneStrokes$Row;"⟩
abbrev cX11_becomes : ByteArray := prog_1_method_34_code
def yX11_becomes : MethodName := ⟨RX11, "becomes", "(ILOneStrokes$Word;)V"⟩
abbrev cX11_isIn : ByteArray := prog_1_method_35_code
def yX11_isIn : MethodName := ⟨RX11, "isIn", "(II)Z"⟩
abbrev cX11_isEven : ByteArray := prog_1_method_36_code
def yX11_isEven : MethodName := ⟨RX11, "isEven", "(I)Z"⟩
def RX12 : String := "OneStrokesModel"
def TX12 : u_T := fun k => match k with
  | 0 => ("OneStrokesModel", "w", "[I", true)
  | 1 => ("OneStrokesModel", "imageSeed", "[I", true)
  | 2 => ("OneStrokesModel", "isKept", "[Z", true)
  | 3 => ("OneStrokesModel", "undos", "I", false)
  | 4 => ("OneStrokesModel", "seed", "I", false)
  | 5 => ("OneStrokesModel", "text", "[I", true)
  | 6 => ("OneStrokesModel", "letters", "I", false)
  | 7 => ("OneStrokesModel", "latestFault", "I", false)
  | 8 => ("OneStrokesModel", "entries", "I", false)
  | 9 => ("OneStrokesModel", "bookWord", "[I", true)
  | 10 => ("OneStrokesModel", "bookMany", "[I", true)
  | 11 => ("OneStrokesModel", "made", "[I", true)
  | 12 => ("OneStrokesModel", "madeMany", "I", false)
  | 13 => ("OneStrokesModel", "label", "[I", true)
  | 14 => ("OneStrokesModel", "moves", "Z", false)
  | 15 => ("OneStrokesModel", "signs", "I", false)
  | 16 => ("OneStrokesModel", "index", "[I", true)
  | 17 => ("OneStrokesModel", "isIndexed", "[Z", true)
  | 18 => ("OneStrokesModel", "heap", "[I", true)
  | _ => ("OneStrokesModel", "kin", "I", false)
def tyX12 : Nat → FieldType := fun k => match k with
  | 0 => .array .int
  | 1 => .array .int
  | 2 => .array .boolean
  | 3 => .int
  | 4 => .int
  | 5 => .array .int
  | 6 => .int
  | 7 => .int
  | 8 => .int
  | 9 => .array .int
  | 10 => .array .int
  | 11 => .array .int
  | 12 => .int
  | 13 => .array .int
  | 14 => .boolean
  | 15 => .int
  | 16 => .array .int
  | 17 => .array .boolean
  | 18 => .array .int
  | _ => .int
abbrev wsX120 : List Cond := u_ws RX12 TX12 20
theorem nmX12 : ∀ a, a < 20 → ∀ b, b < 20 → a ≠ b → (TX12 a).2.1 ≠ (TX12 b).2.1 := by decide +kernel
theorem tyX12_ok : ∀ k, k < 20 → parseFieldDescriptor (TX12 k).2.2.1 = some (tyX12 k) := by decide +kernel
abbrev cX12_init : ByteArray := prog_14_method_1_code
def yX12_init : MethodName := ⟨RX12, "<init>", "()V"⟩
abbrev cX12_in : ByteArray := prog_14_method_3_code
def yX12_in : MethodName := ⟨RX12, "in", "(JJJ)Z"⟩
abbrev cX12_has : ByteArray := prog_14_method_4_code
def yX12_has : MethodName := ⟨RX12, "has", "(II)Z"⟩
abbrev cX12_ones : ByteArray := prog_14_method_5_code
def yX12_ones : MethodName := ⟨RX12, "ones", "(I)I"⟩
abbrev cX12_copy : ByteArray := prog_14_method_6_code
def yX12_copy : MethodName := ⟨RX12, "copy", "(II)V"⟩
abbrev cX12_minds : ByteArray := prog_14_method_7_code
def yX12_minds : MethodName := ⟨RX12, "minds", "()V"⟩
abbrev cX12_isWord : ByteArray := prog_14_method_8_code
def yX12_isWord : MethodName := ⟨RX12, "isWord", "(I)Z"⟩
abbrev cX12_size : ByteArray := prog_14_method_9_code
def yX12_size : MethodName := ⟨RX12, "size", "(I)I"⟩
abbrev cX12_signsOf : ByteArray := prog_14_method_10_code
def yX12_signsOf : MethodName := ⟨RX12, "signsOf", "(I)I"⟩
abbrev cX12_letterAt : ByteArray := prog_14_method_11_code
def yX12_letterAt : MethodName := ⟨RX12, "letterAt", "(II)I"⟩
abbrev cX12_isLetter : ByteArray := prog_14_method_12_code
def yX12_isLetter : MethodName := ⟨RX12, "isLetter", "(II)Z"⟩
abbrev cX12_isStep : ByteArray := prog_14_method_13_code
def yX12_isStep : MethodName := ⟨RX12, "isStep", "(II)Z"⟩
abbrev cX12_place : ByteArray := prog_14_method_14_code
def yX12_place : MethodName := ⟨RX12, "place", "(III)I"⟩
abbrev cX12_comes : ByteArray := prog_14_method_15_code
def yX12_comes : MethodName := ⟨RX12, "comes", "(I)V"⟩
abbrev cX12_numberOf : ByteArray := prog_14_method_16_code
def yX12_numberOf : MethodName := ⟨RX12, "numberOf", "(I)I"⟩
abbrev cX12_lays : ByteArray := prog_14_method_17_code
def yX12_lays : MethodName := ⟨RX12, "lays", "(I)I"⟩
abbrev cX12_laysMore : ByteArray := prog_14_method_18_code
def yX12_laysMore : MethodName := ⟨RX12, "laysMore", "()I"⟩
abbrev cX12_feed : ByteArray := prog_14_method_19_code
def yX12_feed : MethodName := ⟨RX12, "feed", "(I)I"⟩
abbrev cX12_timesAhead : ByteArray := prog_14_method_20_code
def yX12_timesAhead : MethodName := ⟨RX12, "timesAhead", "(I)I"⟩
abbrev cX12_faultAt : ByteArray := prog_14_method_21_code
def yX12_faultAt : MethodName := ⟨RX12, "faultAt", "(I)I"⟩
abbrev cX12_tell : ByteArray := prog_14_method_22_code
def yX12_tell : MethodName := ⟨RX12, "tell", "()I"⟩
abbrev cX12_fault : ByteArray := prog_14_method_23_code
def yX12_fault : MethodName := ⟨RX12, "fault", "()I"⟩
abbrev cX12_isBetween : ByteArray := prog_14_method_24_code
def yX12_isBetween : MethodName := ⟨RX12, "isBetween", "(III)Z"⟩
abbrev cX12_betweenSet : ByteArray := prog_14_method_25_code
def yX12_betweenSet : MethodName := ⟨RX12, "betweenSet", "(II)I"⟩
abbrev cX12_joins : ByteArray := prog_14_method_26_code
def yX12_joins : MethodName := ⟨RX12, "joins", "(II)V"⟩
abbrev cX12_startsLabels : ByteArray := prog_14_method_27_code
def yX12_startsLabels : MethodName := ⟨RX12, "startsLabels", "(I)V"⟩
abbrev cX12_heaps : ByteArray := prog_14_method_28_code
def yX12_heaps : MethodName := ⟨RX12, "heaps", "(I)I"⟩
abbrev cX12_parts : ByteArray := prog_14_method_29_code
def yX12_parts : MethodName := ⟨RX12, "parts", "(I)I"⟩
abbrev cX12_areSides : ByteArray := prog_14_method_30_code
def yX12_areSides : MethodName := ⟨RX12, "areSides", "(II)Z"⟩
abbrev cX12_broken : ByteArray := prog_14_method_31_code
def yX12_broken : MethodName := ⟨RX12, "broken", "(I)I"⟩
abbrev cX12_leavesAs : ByteArray := prog_14_method_32_code
def yX12_leavesAs : MethodName := ⟨RX12, "leavesAs", "(II)I"⟩
abbrev cX12_comesAs : ByteArray := prog_14_method_33_code
def yX12_comesAs : MethodName := ⟨RX12, "comesAs", "(II)I"⟩
abbrev cX12_leftCorner : ByteArray := prog_14_method_34_code
def yX12_leftCorner : MethodName := ⟨RX12, "leftCorner", "(II)I"⟩
abbrev cX12_rightCorner : ByteArray := prog_14_method_35_code
def yX12_rightCorner : MethodName := ⟨RX12, "rightCorner", "(II)I"⟩
abbrev cX12_leftFar : ByteArray := prog_14_method_36_code
def yX12_leftFar : MethodName := ⟨RX12, "leftFar", "(II)I"⟩
abbrev cX12_rightFar : ByteArray := prog_14_method_37_code
def yX12_rightFar : MethodName := ⟨RX12, "rightFar", "(II)I"⟩
abbrev cX12_laysFaces : ByteArray := prog_14_method_38_code
def yX12_laysFaces : MethodName := ⟨RX12, "laysFaces", "(II)I"⟩
abbrev cX12_isPlane : ByteArray := prog_14_method_39_code
def yX12_isPlane : MethodName := ⟨RX12, "isPlane", "(II)Z"⟩
abbrev cX12_drawn : ByteArray := prog_14_method_40_code
def yX12_drawn : MethodName := ⟨RX12, "drawn", "(I)I"⟩
abbrev cX12_drawings : ByteArray := prog_14_method_41_code
def yX12_drawings : MethodName := ⟨RX12, "drawings", "(I)I"⟩
abbrev cX12_faceOf : ByteArray := prog_14_method_42_code
def yX12_faceOf : MethodName := ⟨RX12, "faceOf", "(I)I"⟩
abbrev cX12_sizeOfFace : ByteArray := prog_14_method_43_code
def yX12_sizeOfFace : MethodName := ⟨RX12, "sizeOfFace", "(II)I"⟩
abbrev cX12_facesOfSize : ByteArray := prog_14_method_44_code
def yX12_facesOfSize : MethodName := ⟨RX12, "facesOfSize", "(II)I"⟩
abbrev cX12_tellsIndex : ByteArray := prog_14_method_45_code
def yX12_tellsIndex : MethodName := ⟨RX12, "tellsIndex", "(III)V"⟩
abbrev cX12_laysIndices : ByteArray := prog_14_method_46_code
def yX12_laysIndices : MethodName := ⟨RX12, "laysIndices", "(I)V"⟩
abbrev cX12_isDark : ByteArray := prog_14_method_47_code
def yX12_isDark : MethodName := ⟨RX12, "isDark", "(II)Z"⟩
abbrev cX12_middle : ByteArray := prog_14_method_48_code
def yX12_middle : MethodName := ⟨RX12, "middle", "(I)I"⟩
abbrev cX12_turns : ByteArray := prog_14_method_49_code
def yX12_turns : MethodName := ⟨RX12, "turns", "(II)I"⟩
abbrev cX12_joinedBy : ByteArray := prog_14_method_50_code
def yX12_joinedBy : MethodName := ⟨RX12, "joinedBy", "(IIZ)I"⟩
abbrev cX12_trees : ByteArray := prog_14_method_51_code
def yX12_trees : MethodName := ⟨RX12, "trees", "(IZ)I"⟩
abbrev cX12_ringsOf : ByteArray := prog_14_method_52_code
def yX12_ringsOf : MethodName := ⟨RX12, "ringsOf", "(II)I"⟩
abbrev cX12_statesOf : ByteArray := prog_14_method_53_code
def yX12_statesOf : MethodName := ⟨RX12, "statesOf", "(II)I"⟩
abbrev cX12_turned : ByteArray := prog_14_method_54_code
def yX12_turned : MethodName := ⟨RX12, "turned", "(IIZ)V"⟩
abbrev cX12_codeOfMade : ByteArray := prog_14_method_55_code
def yX12_codeOfMade : MethodName := ⟨RX12, "codeOfMade", "()J"⟩
abbrev cX12_codeOf : ByteArray := prog_14_method_56_code
def yX12_codeOf : MethodName := ⟨RX12, "codeOf", "(I)J"⟩
abbrev cX12_kinOf : ByteArray := prog_14_method_57_code
def yX12_kinOf : MethodName := ⟨RX12, "kinOf", "(I)I"⟩
abbrev cX12_isSame : ByteArray := prog_14_method_58_code
def yX12_isSame : MethodName := ⟨RX12, "isSame", "(II)Z"⟩
abbrev cX12_unlikeWords : ByteArray := prog_14_method_59_code
def yX12_unlikeWords : MethodName := ⟨RX12, "unlikeWords", "()I"⟩
abbrev cX12_areBeside : ByteArray := prog_14_method_60_code
def yX12_areBeside : MethodName := ⟨RX12, "areBeside", "(III)Z"⟩
abbrev cX12_isLoop : ByteArray := prog_14_method_61_code
def yX12_isLoop : MethodName := ⟨RX12, "isLoop", "(II)Z"⟩
abbrev cX12_loops : ByteArray := prog_14_method_62_code
def yX12_loops : MethodName := ⟨RX12, "loops", "(I)I"⟩
abbrev cX12_wrong : ByteArray := prog_14_method_63_code
def yX12_wrong : MethodName := ⟨RX12, "wrong", "()I"⟩
abbrev cX12_told : ByteArray := prog_14_method_64_code
def yX12_told : MethodName := ⟨RX12, "told", "(I)I"⟩
abbrev cX12_ofFaces : ByteArray := prog_14_method_65_code
def yX12_ofFaces : MethodName := ⟨RX12, "ofFaces", "(II)I"⟩
abbrev cX12_word : ByteArray := prog_14_method_66_code
def yX12_word : MethodName := ⟨RX12, "word", "(II)I"⟩
abbrev cX12_code : ByteArray := prog_14_method_67_code
def yX12_code : MethodName := ⟨RX12, "code", "(I)J"⟩
abbrev cX12_at : ByteArray := prog_14_method_68_code
def yX12_at : MethodName := ⟨RX12, "at", "(II)I"⟩
abbrev cX12_letter : ByteArray := prog_14_method_69_code
def yX12_letter : MethodName := ⟨RX12, "letter", "(III)I"⟩
abbrev cX12_face : ByteArray := prog_14_method_70_code
def yX12_face : MethodName := ⟨RX12, "face", "(III)I"⟩
abbrev cX12_isSet : ByteArray := prog_14_method_71_code
def yX12_isSet : MethodName := ⟨RX12, "isSet", "(II)Z"⟩
abbrev cX12_rings : ByteArray := prog_14_method_72_code
def yX12_rings : MethodName := ⟨RX12, "rings", "(II)I"⟩
abbrev cX12_states : ByteArray := prog_14_method_73_code
def yX12_states : MethodName := ⟨RX12, "states", "(II)I"⟩
abbrev cX12_same : ByteArray := prog_14_method_74_code
def yX12_same : MethodName := ⟨RX12, "same", "(II)I"⟩
abbrev cX12_signs : ByteArray := prog_14_method_75_code
def yX12_signs : MethodName := ⟨RX12, "signs", "(II)I"⟩
abbrev cX12_draw : ByteArray := prog_14_method_76_code
def yX12_draw : MethodName := ⟨RX12, "draw", "(I)I"⟩
abbrev cX12_turn : ByteArray := prog_14_method_77_code
def yX12_turn : MethodName := ⟨RX12, "turn", "(IIZ)I"⟩
abbrev cX12_twist : ByteArray := prog_14_method_78_code
def yX12_twist : MethodName := ⟨RX12, "twist", "(II)I"⟩
abbrev cX12_without : ByteArray := prog_14_method_79_code
def yX12_without : MethodName := ⟨RX12, "without", "(III)I"⟩
abbrev cX12_untwist : ByteArray := prog_14_method_80_code
def yX12_untwist : MethodName := ⟨RX12, "untwist", "(II)I"⟩
abbrev cX12_poke : ByteArray := prog_14_method_81_code
def yX12_poke : MethodName := ⟨RX12, "poke", "(IIII)I"⟩
abbrev cX12_unpoke : ByteArray := prog_14_method_82_code
def yX12_unpoke : MethodName := ⟨RX12, "unpoke", "(III)I"⟩
abbrev cX12_swaps : ByteArray := prog_14_method_83_code
def yX12_swaps : MethodName := ⟨RX12, "swaps", "(III)V"⟩
abbrev cX12_slide : ByteArray := prog_14_method_84_code
def yX12_slide : MethodName := ⟨RX12, "slide", "(IIII)I"⟩
abbrev cX12_smooth : ByteArray := prog_14_method_85_code
def yX12_smooth : MethodName := ⟨RX12, "smooth", "(II)I"⟩
abbrev cX12_sum : ByteArray := prog_14_method_86_code
def yX12_sum : MethodName := ⟨RX12, "sum", "(II)I"⟩
abbrev cX12_take : ByteArray := prog_14_method_87_code
def yX12_take : MethodName := ⟨RX12, "take", "(I)I"⟩
abbrev cX12_draws : ByteArray := prog_14_method_88_code
def yX12_draws : MethodName := ⟨RX12, "draws", "(I)I"⟩
abbrev cX12_drawsRow : ByteArray := prog_14_method_89_code
def yX12_drawsRow : MethodName := ⟨RX12, "drawsRow", "()V"⟩
abbrev cX12_drift : ByteArray := prog_14_method_90_code
def yX12_drift : MethodName := ⟨RX12, "drift", "(I)I"⟩
abbrev cX12_undo : ByteArray := prog_14_method_91_code
def yX12_undo : MethodName := ⟨RX12, "undo", "(I)I"⟩
abbrev cX12_write : ByteArray := prog_14_method_92_code
def yX12_write : MethodName := ⟨RX12, "write", "(II)I"⟩
abbrev cX12_tear : ByteArray := prog_14_method_93_code
def yX12_tear : MethodName := ⟨RX12, "tear", "()I"⟩
abbrev cX12_seed : ByteArray := prog_14_method_94_code
def yX12_seed : MethodName := ⟨RX12, "seed", "(I)I"⟩
abbrev cX12_keep : ByteArray := prog_14_method_95_code
def yX12_keep : MethodName := ⟨RX12, "keep", "(I)I"⟩
abbrev cX12_goBack : ByteArray := prog_14_method_96_code
def yX12_goBack : MethodName := ⟨RX12, "goBack", "(I)I"⟩
def RJ6 : String := "java/lang/Integer"
abbrev cJ6_bitCount_0f7a4 : ByteArray := prog_15_method_49_code
def yJ6_bitCount_0f7a4 : MethodName := ⟨RJ6, "bitCount", "(I)I"⟩
def RJ9 : String := "java/lang/Math"
abbrev cJ9_floorMod_7cf53 : ByteArray := prog_16_method_50_code
def yJ9_floorMod_7cf53 : MethodName := ⟨RJ9, "floorMod", "(II)I"⟩
abbrev cJ9_max_7cf53 : ByteArray := prog_16_method_65_code
def yJ9_max_7cf53 : MethodName := ⟨RJ9, "max", "(II)I"⟩
abbrev cJ9_min_7cf53 : ByteArray := prog_16_method_69_code
def yJ9_min_7cf53 : MethodName := ⟨RJ9, "min", "(II)I"⟩
abbrev cJ9_min_f86c9 : ByteArray := prog_16_method_70_code
def yJ9_min_f86c9 : MethodName := ⟨RJ9, "min", "(JJ)J"⟩
def RL : String := "OneStrokesLaw"
abbrev cL_law : ByteArray := code
def yL_law : MethodName := ⟨RL, "law", "([I)Z"⟩
abbrev vwCl : List vw_C := [(RX0, TX0, 3), (RX1, TX1, 2), (RX2, TX2, 1), (RX3, TX3, 8), (RX4, TX4, 3), (RX5, TX5, 3), (RX6, TX6, 3), (RX7, TX7, 14), (RX8, TX8, 2), (RX9, TX9, 3), (RX10, TX10, 3), (RX11, TX11, 8), (RX12, TX12, 20)]
theorem inX0 : ∀ w ∈ u_ws RX0 TX0 3, w ∈ lw_tbl := by decide +kernel
theorem inX1 : ∀ w ∈ u_ws RX1 TX1 2, w ∈ lw_tbl := by decide +kernel
theorem inX2 : ∀ w ∈ u_ws RX2 TX2 1, w ∈ lw_tbl := by decide +kernel
theorem inX3 : ∀ w ∈ u_ws RX3 TX3 8, w ∈ lw_tbl := by decide +kernel
theorem inX4 : ∀ w ∈ u_ws RX4 TX4 3, w ∈ lw_tbl := by decide +kernel
theorem inX5 : ∀ w ∈ u_ws RX5 TX5 3, w ∈ lw_tbl := by decide +kernel
theorem inX6 : ∀ w ∈ u_ws RX6 TX6 3, w ∈ lw_tbl := by decide +kernel
theorem inX7 : ∀ w ∈ u_ws RX7 TX7 14, w ∈ lw_tbl := by decide +kernel
theorem inX8 : ∀ w ∈ u_ws RX8 TX8 2, w ∈ lw_tbl := by decide +kernel
theorem inX9 : ∀ w ∈ u_ws RX9 TX9 3, w ∈ lw_tbl := by decide +kernel
theorem inX10 : ∀ w ∈ u_ws RX10 TX10 3, w ∈ lw_tbl := by decide +kernel
theorem inX11 : ∀ w ∈ u_ws RX11 TX11 8, w ∈ lw_tbl := by decide +kernel
theorem inX12 : ∀ w ∈ u_ws RX12 TX12 20, w ∈ lw_tbl := by decide +kernel
end
section
theorem dX0_init_0 : decode cX0_init 0 = .ok (.aload_n 0, 1) := by decide +kernel
theorem dX0_init_1 : decode cX0_init 1 = .ok (.invokespecial 3, 3) := by decide +kernel
theorem dX0_init_4 : decode cX0_init 4 = .ok (.aload_n 0, 1) := by decide +kernel
theorem dX0_init_5 : decode cX0_init 5 = .ok (.bipush 20, 2) := by decide +kernel
theorem dX0_init_7 : decode cX0_init 7 = .ok (.newarray .int, 2) := by decide +kernel
theorem dX0_init_9 : decode cX0_init 9 = .ok (.putfield 9, 3) := by decide +kernel
theorem dX0_init_12 : decode cX0_init 12 = .ok (.aload_n 0, 1) := by decide +kernel
theorem dX0_init_13 : decode cX0_init 13 = .ok (.bipush 20, 2) := by decide +kernel
theorem dX0_init_15 : decode cX0_init 15 = .ok (.newarray .int, 2) := by decide +kernel
theorem dX0_init_17 : decode cX0_init 17 = .ok (.putfield 15, 3) := by decide +kernel
theorem dX0_init_20 : decode cX0_init 20 = .ok (.aload_n 0, 1) := by decide +kernel
theorem dX0_init_21 : decode cX0_init 21 = .ok (.iconst 0, 1) := by decide +kernel
theorem dX0_init_22 : decode cX0_init 22 = .ok (.putfield 18, 3) := by decide +kernel
theorem dX0_init_25 : decode cX0_init 25 = .ok (.return_, 1) := by decide +kernel
theorem dX0_put_0 : decode cX0_put 0 = .ok (.aload_n 0, 1) := by decide +kernel
theorem dX0_put_1 : decode cX0_put 1 = .ok (.getfield 18, 3) := by decide +kernel
theorem dX0_put_4 : decode cX0_put 4 = .ok (.bipush 20, 2) := by decide +kernel
theorem dX0_put_6 : decode cX0_put 6 = .ok (.if_icmp .lt 5, 3) := by decide +kernel
theorem dX0_put_9 : decode cX0_put 9 = .ok (.iconst 0, 1) := by decide +kernel
theorem dX0_put_10 : decode cX0_put 10 = .ok (.ireturn, 1) := by decide +kernel
theorem dX0_put_11 : decode cX0_put 11 = .ok (.aload_n 0, 1) := by decide +kernel
theorem dX0_put_12 : decode cX0_put 12 = .ok (.getfield 9, 3) := by decide +kernel
theorem dX0_put_15 : decode cX0_put 15 = .ok (.aload_n 0, 1) := by decide +kernel
theorem dX0_put_16 : decode cX0_put 16 = .ok (.getfield 18, 3) := by decide +kernel
theorem dX0_put_19 : decode cX0_put 19 = .ok (.iload_n 1, 1) := by decide +kernel
theorem dX0_put_20 : decode cX0_put 20 = .ok (.iastore, 1) := by decide +kernel
theorem dX0_put_21 : decode cX0_put 21 = .ok (.aload_n 0, 1) := by decide +kernel
theorem dX0_put_22 : decode cX0_put 22 = .ok (.getfield 15, 3) := by decide +kernel
theorem dX0_put_25 : decode cX0_put 25 = .ok (.aload_n 0, 1) := by decide +kernel
theorem dX0_put_26 : decode cX0_put 26 = .ok (.getfield 18, 3) := by decide +kernel
theorem dX0_put_29 : decode cX0_put 29 = .ok (.iload_n 2, 1) := by decide +kernel
theorem dX0_put_30 : decode cX0_put 30 = .ok (.iastore, 1) := by decide +kernel
theorem dX0_put_31 : decode cX0_put 31 = .ok (.aload_n 0, 1) := by decide +kernel
theorem dX0_put_32 : decode cX0_put 32 = .ok (.dup, 1) := by decide +kernel
theorem dX0_put_33 : decode cX0_put 33 = .ok (.getfield 18, 3) := by decide +kernel
theorem dX0_put_36 : decode cX0_put 36 = .ok (.iconst 1, 1) := by decide +kernel
theorem dX0_put_37 : decode cX0_put 37 = .ok (.iadd, 1) := by decide +kernel
theorem dX0_put_38 : decode cX0_put 38 = .ok (.putfield 18, 3) := by decide +kernel
theorem dX0_put_41 : decode cX0_put 41 = .ok (.iconst 1, 1) := by decide +kernel
theorem dX0_put_42 : decode cX0_put 42 = .ok (.ireturn, 1) := by decide +kernel
theorem dX0_count_0 : decode cX0_count 0 = .ok (.aload_n 0, 1) := by decide +kernel
theorem dX0_count_1 : decode cX0_count 1 = .ok (.getfield 18, 3) := by decide +kernel
theorem dX0_count_4 : decode cX0_count 4 = .ok (.ireturn, 1) := by decide +kernel
theorem dX0_clear_0 : decode cX0_clear 0 = .ok (.aload_n 0, 1) := by decide +kernel
theorem dX0_clear_1 : decode cX0_clear 1 = .ok (.getfield 18, 3) := by decide +kernel
theorem dX0_clear_4 : decode cX0_clear 4 = .ok (.istore_n 1, 1) := by decide +kernel
theorem dX0_clear_5 : decode cX0_clear 5 = .ok (.aload_n 0, 1) := by decide +kernel
theorem dX0_clear_6 : decode cX0_clear 6 = .ok (.iconst 0, 1) := by decide +kernel
theorem dX0_clear_7 : decode cX0_clear 7 = .ok (.putfield 18, 3) := by decide +kernel
theorem dX0_clear_10 : decode cX0_clear 10 = .ok (.iload_n 1, 1) := by decide +kernel
theorem dX0_clear_11 : decode cX0_clear 11 = .ok (.ireturn, 1) := by decide +kernel
theorem dX0_firstWrong_0 : decode cX0_firstWrong 0 = .ok (.iconst 0, 1) := by decide +kernel
theorem dX0_firstWrong_1 : decode cX0_firstWrong 1 = .ok (.istore_n 3, 1) := by decide +kernel
theorem dX0_firstWrong_2 : decode cX0_firstWrong 2 = .ok (.iload_n 3, 1) := by decide +kernel
theorem dX0_firstWrong_3 : decode cX0_firstWrong 3 = .ok (.aload_n 0, 1) := by decide +kernel
theorem dX0_firstWrong_4 : decode cX0_firstWrong 4 = .ok (.getfield 18, 3) := by decide +kernel
theorem dX0_firstWrong_7 : decode cX0_firstWrong 7 = .ok (.if_icmp .ge 47, 3) := by decide +kernel
theorem dX0_firstWrong_10 : decode cX0_firstWrong 10 = .ok (.aload_n 1, 1) := by decide +kernel
theorem dX0_firstWrong_11 : decode cX0_firstWrong 11 = .ok (.aload_n 0, 1) := by decide +kernel
theorem dX0_firstWrong_12 : decode cX0_firstWrong 12 = .ok (.getfield 9, 3) := by decide +kernel
theorem dX0_firstWrong_15 : decode cX0_firstWrong 15 = .ok (.iload_n 3, 1) := by decide +kernel
theorem dX0_firstWrong_16 : decode cX0_firstWrong 16 = .ok (.iaload, 1) := by decide +kernel
theorem dX0_firstWrong_17 : decode cX0_firstWrong 17 = .ok (.invokevirtual 22, 3) := by decide +kernel
theorem dX0_firstWrong_20 : decode cX0_firstWrong 20 = .ok (.astore 4, 2) := by decide +kernel
theorem dX0_firstWrong_22 : decode cX0_firstWrong 22 = .ok (.aload 4, 2) := by decide +kernel
theorem dX0_firstWrong_24 : decode cX0_firstWrong 24 = .ok (.ifnull 22, 3) := by decide +kernel
theorem dX0_firstWrong_27 : decode cX0_firstWrong 27 = .ok (.aload 4, 2) := by decide +kernel
theorem dX0_firstWrong_29 : decode cX0_firstWrong 29 = .ok (.invokevirtual 28, 3) := by decide +kernel
theorem dX0_firstWrong_32 : decode cX0_firstWrong 32 = .ok (.iconst 1, 1) := by decide +kernel
theorem dX0_firstWrong_33 : decode cX0_firstWrong 33 = .ok (.aload_n 2, 1) := by decide +kernel
theorem dX0_firstWrong_34 : decode cX0_firstWrong 34 = .ok (.invokevirtual 34, 3) := by decide +kernel
theorem dX0_firstWrong_37 : decode cX0_firstWrong 37 = .ok (.aload_n 0, 1) := by decide +kernel
theorem dX0_firstWrong_38 : decode cX0_firstWrong 38 = .ok (.getfield 15, 3) := by decide +kernel
theorem dX0_firstWrong_41 : decode cX0_firstWrong 41 = .ok (.iload_n 3, 1) := by decide +kernel
theorem dX0_firstWrong_42 : decode cX0_firstWrong 42 = .ok (.iaload, 1) := by decide +kernel
theorem dX0_firstWrong_43 : decode cX0_firstWrong 43 = .ok (.if_icmp .eq 5, 3) := by decide +kernel
theorem dX0_firstWrong_46 : decode cX0_firstWrong 46 = .ok (.iload_n 3, 1) := by decide +kernel
theorem dX0_firstWrong_47 : decode cX0_firstWrong 47 = .ok (.ireturn, 1) := by decide +kernel
theorem dX0_firstWrong_48 : decode cX0_firstWrong 48 = .ok (.iinc 3 1, 3) := by decide +kernel
theorem dX0_firstWrong_51 : decode cX0_firstWrong 51 = .ok (.goto (-49), 3) := by decide +kernel
theorem dX0_firstWrong_54 : decode cX0_firstWrong 54 = .ok (.iconst (-1), 1) := by decide +kernel
theorem dX0_firstWrong_55 : decode cX0_firstWrong 55 = .ok (.ireturn, 1) := by decide +kernel
theorem dX1_init_0 : decode cX1_init 0 = .ok (.aload_n 0, 1) := by decide +kernel
theorem dX1_init_1 : decode cX1_init 1 = .ok (.invokespecial 3, 3) := by decide +kernel
theorem dX1_init_4 : decode cX1_init 4 = .ok (.aload_n 0, 1) := by decide +kernel
theorem dX1_init_5 : decode cX1_init 5 = .ok (.bipush 16, 2) := by decide +kernel
theorem dX1_init_7 : decode cX1_init 7 = .ok (.newarray .int, 2) := by decide +kernel
theorem dX1_init_9 : decode cX1_init 9 = .ok (.putfield 9, 3) := by decide +kernel
theorem dX1_init_12 : decode cX1_init 12 = .ok (.aload_n 0, 1) := by decide +kernel
theorem dX1_init_13 : decode cX1_init 13 = .ok (.iconst 0, 1) := by decide +kernel
theorem dX1_init_14 : decode cX1_init 14 = .ok (.putfield 15, 3) := by decide +kernel
theorem dX1_init_17 : decode cX1_init 17 = .ok (.return_, 1) := by decide +kernel
theorem dX1_clear_0 : decode cX1_clear 0 = .ok (.aload_n 0, 1) := by decide +kernel
theorem dX1_clear_1 : decode cX1_clear 1 = .ok (.iconst 0, 1) := by decide +kernel
theorem dX1_clear_2 : decode cX1_clear 2 = .ok (.putfield 15, 3) := by decide +kernel
theorem dX1_clear_5 : decode cX1_clear 5 = .ok (.return_, 1) := by decide +kernel
theorem dX1_put_0 : decode cX1_put 0 = .ok (.aload_n 0, 1) := by decide +kernel
theorem dX1_put_1 : decode cX1_put 1 = .ok (.getfield 15, 3) := by decide +kernel
theorem dX1_put_4 : decode cX1_put 4 = .ok (.aload_n 0, 1) := by decide +kernel
theorem dX1_put_5 : decode cX1_put 5 = .ok (.getfield 9, 3) := by decide +kernel
theorem dX1_put_8 : decode cX1_put 8 = .ok (.arraylength, 1) := by decide +kernel
theorem dX1_put_9 : decode cX1_put 9 = .ok (.if_icmp .ge 23, 3) := by decide +kernel
theorem dX1_put_12 : decode cX1_put 12 = .ok (.aload_n 0, 1) := by decide +kernel
theorem dX1_put_13 : decode cX1_put 13 = .ok (.getfield 9, 3) := by decide +kernel
theorem dX1_put_16 : decode cX1_put 16 = .ok (.aload_n 0, 1) := by decide +kernel
theorem dX1_put_17 : decode cX1_put 17 = .ok (.getfield 15, 3) := by decide +kernel
theorem dX1_put_20 : decode cX1_put 20 = .ok (.iload_n 1, 1) := by decide +kernel
theorem dX1_put_21 : decode cX1_put 21 = .ok (.iastore, 1) := by decide +kernel
theorem dX1_put_22 : decode cX1_put 22 = .ok (.aload_n 0, 1) := by decide +kernel
theorem dX1_put_23 : decode cX1_put 23 = .ok (.dup, 1) := by decide +kernel
theorem dX1_put_24 : decode cX1_put 24 = .ok (.getfield 15, 3) := by decide +kernel
theorem dX1_put_27 : decode cX1_put 27 = .ok (.iconst 1, 1) := by decide +kernel
theorem dX1_put_28 : decode cX1_put 28 = .ok (.iadd, 1) := by decide +kernel
theorem dX1_put_29 : decode cX1_put 29 = .ok (.putfield 15, 3) := by decide +kernel
theorem dX1_put_32 : decode cX1_put 32 = .ok (.return_, 1) := by decide +kernel
theorem dX1_length_0 : decode cX1_length 0 = .ok (.aload_n 0, 1) := by decide +kernel
theorem dX1_length_1 : decode cX1_length 1 = .ok (.getfield 15, 3) := by decide +kernel
theorem dX1_length_4 : decode cX1_length 4 = .ok (.ireturn, 1) := by decide +kernel
theorem dX1_earlierTwin_0 : decode cX1_earlierTwin 0 = .ok (.iload_n 1, 1) := by decide +kernel
theorem dX1_earlierTwin_1 : decode cX1_earlierTwin 1 = .ok (.aload_n 0, 1) := by decide +kernel
theorem dX1_earlierTwin_2 : decode cX1_earlierTwin 2 = .ok (.getfield 15, 3) := by decide +kernel
theorem dX1_earlierTwin_5 : decode cX1_earlierTwin 5 = .ok (.if_icmp .lt 5, 3) := by decide +kernel
theorem dX1_earlierTwin_8 : decode cX1_earlierTwin 8 = .ok (.iconst (-1), 1) := by decide +kernel
theorem dX1_earlierTwin_9 : decode cX1_earlierTwin 9 = .ok (.ireturn, 1) := by decide +kernel
theorem dX1_earlierTwin_10 : decode cX1_earlierTwin 10 = .ok (.iconst 0, 1) := by decide +kernel
theorem dX1_earlierTwin_11 : decode cX1_earlierTwin 11 = .ok (.istore_n 2, 1) := by decide +kernel
theorem dX1_earlierTwin_12 : decode cX1_earlierTwin 12 = .ok (.iload_n 2, 1) := by decide +kernel
theorem dX1_earlierTwin_13 : decode cX1_earlierTwin 13 = .ok (.iload_n 1, 1) := by decide +kernel
theorem dX1_earlierTwin_14 : decode cX1_earlierTwin 14 = .ok (.if_icmp .ge 26, 3) := by decide +kernel
theorem dX1_earlierTwin_17 : decode cX1_earlierTwin 17 = .ok (.aload_n 0, 1) := by decide +kernel
theorem dX1_earlierTwin_18 : decode cX1_earlierTwin 18 = .ok (.getfield 9, 3) := by decide +kernel
theorem dX1_earlierTwin_21 : decode cX1_earlierTwin 21 = .ok (.iload_n 2, 1) := by decide +kernel
theorem dX1_earlierTwin_22 : decode cX1_earlierTwin 22 = .ok (.iaload, 1) := by decide +kernel
theorem dX1_earlierTwin_23 : decode cX1_earlierTwin 23 = .ok (.aload_n 0, 1) := by decide +kernel
theorem dX1_earlierTwin_24 : decode cX1_earlierTwin 24 = .ok (.getfield 9, 3) := by decide +kernel
theorem dX1_earlierTwin_27 : decode cX1_earlierTwin 27 = .ok (.iload_n 1, 1) := by decide +kernel
theorem dX1_earlierTwin_28 : decode cX1_earlierTwin 28 = .ok (.iaload, 1) := by decide +kernel
theorem dX1_earlierTwin_29 : decode cX1_earlierTwin 29 = .ok (.if_icmp .ne 5, 3) := by decide +kernel
theorem dX1_earlierTwin_32 : decode cX1_earlierTwin 32 = .ok (.iload_n 2, 1) := by decide +kernel
theorem dX1_earlierTwin_33 : decode cX1_earlierTwin 33 = .ok (.ireturn, 1) := by decide +kernel
theorem dX1_earlierTwin_34 : decode cX1_earlierTwin 34 = .ok (.iinc 2 1, 3) := by decide +kernel
theorem dX1_earlierTwin_37 : decode cX1_earlierTwin 37 = .ok (.goto (-25), 3) := by decide +kernel
theorem dX1_earlierTwin_40 : decode cX1_earlierTwin 40 = .ok (.iconst (-1), 1) := by decide +kernel
theorem dX1_earlierTwin_41 : decode cX1_earlierTwin 41 = .ok (.ireturn, 1) := by decide +kernel
theorem dX1_makeEmptyPlaces_0 : decode cX1_makeEmptyPlaces 0 = .ok (.aload_n 0, 1) := by decide +kernel
theorem dX1_makeEmptyPlaces_1 : decode cX1_makeEmptyPlaces 1 = .ok (.iconst 0, 1) := by decide +kernel
theorem dX1_makeEmptyPlaces_2 : decode cX1_makeEmptyPlaces 2 = .ok (.iload_n 1, 1) := by decide +kernel
theorem dX1_makeEmptyPlaces_3 : decode cX1_makeEmptyPlaces 3 = .ok (.aload_n 0, 1) := by decide +kernel
theorem dX1_makeEmptyPlaces_4 : decode cX1_makeEmptyPlaces 4 = .ok (.getfield 9, 3) := by decide +kernel
theorem dX1_makeEmptyPlaces_7 : decode cX1_makeEmptyPlaces 7 = .ok (.arraylength, 1) := by decide +kernel
theorem dX1_makeEmptyPlaces_8 : decode cX1_makeEmptyPlaces 8 = .ok (.invokestatic 19, 3) := by decide +kernel
theorem dX1_makeEmptyPlaces_11 : decode cX1_makeEmptyPlaces 11 = .ok (.invokestatic 25, 3) := by decide +kernel
theorem dX1_makeEmptyPlaces_14 : decode cX1_makeEmptyPlaces 14 = .ok (.putfield 15, 3) := by decide +kernel
theorem dX1_makeEmptyPlaces_17 : decode cX1_makeEmptyPlaces 17 = .ok (.iconst 0, 1) := by decide +kernel
theorem dX1_makeEmptyPlaces_18 : decode cX1_makeEmptyPlaces 18 = .ok (.istore_n 2, 1) := by decide +kernel
theorem dX1_makeEmptyPlaces_19 : decode cX1_makeEmptyPlaces 19 = .ok (.iload_n 2, 1) := by decide +kernel
theorem dX1_makeEmptyPlaces_20 : decode cX1_makeEmptyPlaces 20 = .ok (.aload_n 0, 1) := by decide +kernel
theorem dX1_makeEmptyPlaces_21 : decode cX1_makeEmptyPlaces 21 = .ok (.getfield 15, 3) := by decide +kernel
theorem dX1_makeEmptyPlaces_24 : decode cX1_makeEmptyPlaces 24 = .ok (.if_icmp .ge 16, 3) := by decide +kernel
theorem dX1_makeEmptyPlaces_27 : decode cX1_makeEmptyPlaces 27 = .ok (.aload_n 0, 1) := by decide +kernel
theorem dX1_makeEmptyPlaces_28 : decode cX1_makeEmptyPlaces 28 = .ok (.getfield 9, 3) := by decide +kernel
theorem dX1_makeEmptyPlaces_31 : decode cX1_makeEmptyPlaces 31 = .ok (.iload_n 2, 1) := by decide +kernel
theorem dX1_makeEmptyPlaces_32 : decode cX1_makeEmptyPlaces 32 = .ok (.iconst (-1), 1) := by decide +kernel
theorem dX1_makeEmptyPlaces_33 : decode cX1_makeEmptyPlaces 33 = .ok (.iastore, 1) := by decide +kernel
theorem dX1_makeEmptyPlaces_34 : decode cX1_makeEmptyPlaces 34 = .ok (.iinc 2 1, 3) := by decide +kernel
theorem dX1_makeEmptyPlaces_37 : decode cX1_makeEmptyPlaces 37 = .ok (.goto (-18), 3) := by decide +kernel
theorem dX1_makeEmptyPlaces_40 : decode cX1_makeEmptyPlaces 40 = .ok (.return_, 1) := by decide +kernel
theorem dX1_putInEmpty_0 : decode cX1_putInEmpty 0 = .ok (.iload_n 1, 1) := by decide +kernel
theorem dX1_putInEmpty_1 : decode cX1_putInEmpty 1 = .ok (.istore_n 3, 1) := by decide +kernel
theorem dX1_putInEmpty_2 : decode cX1_putInEmpty 2 = .ok (.iconst 0, 1) := by decide +kernel
theorem dX1_putInEmpty_3 : decode cX1_putInEmpty 3 = .ok (.istore 4, 2) := by decide +kernel
theorem dX1_putInEmpty_5 : decode cX1_putInEmpty 5 = .ok (.iload 4, 2) := by decide +kernel
theorem dX1_putInEmpty_7 : decode cX1_putInEmpty 7 = .ok (.aload_n 0, 1) := by decide +kernel
theorem dX1_putInEmpty_8 : decode cX1_putInEmpty 8 = .ok (.getfield 15, 3) := by decide +kernel
theorem dX1_putInEmpty_11 : decode cX1_putInEmpty 11 = .ok (.if_icmp .ge 36, 3) := by decide +kernel
theorem dX1_putInEmpty_14 : decode cX1_putInEmpty 14 = .ok (.aload_n 0, 1) := by decide +kernel
theorem dX1_putInEmpty_15 : decode cX1_putInEmpty 15 = .ok (.getfield 9, 3) := by decide +kernel
theorem dX1_putInEmpty_18 : decode cX1_putInEmpty 18 = .ok (.iload 4, 2) := by decide +kernel
theorem dX1_putInEmpty_20 : decode cX1_putInEmpty 20 = .ok (.iaload, 1) := by decide +kernel
theorem dX1_putInEmpty_21 : decode cX1_putInEmpty 21 = .ok (.iconst (-1), 1) := by decide +kernel
theorem dX1_putInEmpty_22 : decode cX1_putInEmpty 22 = .ok (.if_icmp .ne 19, 3) := by decide +kernel
theorem dX1_putInEmpty_25 : decode cX1_putInEmpty 25 = .ok (.iload_n 3, 1) := by decide +kernel
theorem dX1_putInEmpty_26 : decode cX1_putInEmpty 26 = .ok (.ifCond .ne 12, 3) := by decide +kernel
theorem dX1_putInEmpty_29 : decode cX1_putInEmpty 29 = .ok (.aload_n 0, 1) := by decide +kernel
theorem dX1_putInEmpty_30 : decode cX1_putInEmpty 30 = .ok (.getfield 9, 3) := by decide +kernel
theorem dX1_putInEmpty_33 : decode cX1_putInEmpty 33 = .ok (.iload 4, 2) := by decide +kernel
theorem dX1_putInEmpty_35 : decode cX1_putInEmpty 35 = .ok (.iload_n 2, 1) := by decide +kernel
theorem dX1_putInEmpty_36 : decode cX1_putInEmpty 36 = .ok (.iastore, 1) := by decide +kernel
theorem dX1_putInEmpty_37 : decode cX1_putInEmpty 37 = .ok (.return_, 1) := by decide +kernel
theorem dX1_putInEmpty_38 : decode cX1_putInEmpty 38 = .ok (.iinc 3 (-1), 3) := by decide +kernel
theorem dX1_putInEmpty_41 : decode cX1_putInEmpty 41 = .ok (.iinc 4 1, 3) := by decide +kernel
theorem dX1_putInEmpty_44 : decode cX1_putInEmpty 44 = .ok (.goto (-39), 3) := by decide +kernel
theorem dX1_putInEmpty_47 : decode cX1_putInEmpty 47 = .ok (.return_, 1) := by decide +kernel
theorem dX1_writeTurned_0 : decode cX1_writeTurned 0 = .ok (.aload_n 0, 1) := by decide +kernel
theorem dX1_writeTurned_1 : decode cX1_writeTurned 1 = .ok (.invokevirtual 28, 3) := by decide +kernel
theorem dX1_writeTurned_4 : decode cX1_writeTurned 4 = .ok (.iload_n 2, 1) := by decide +kernel
theorem dX1_writeTurned_5 : decode cX1_writeTurned 5 = .ok (.istore 4, 2) := by decide +kernel
theorem dX1_writeTurned_7 : decode cX1_writeTurned 7 = .ok (.iconst 0, 1) := by decide +kernel
theorem dX1_writeTurned_8 : decode cX1_writeTurned 8 = .ok (.istore 5, 2) := by decide +kernel
theorem dX1_writeTurned_10 : decode cX1_writeTurned 10 = .ok (.iload 5, 2) := by decide +kernel
theorem dX1_writeTurned_12 : decode cX1_writeTurned 12 = .ok (.aload_n 1, 1) := by decide +kernel
theorem dX1_writeTurned_13 : decode cX1_writeTurned 13 = .ok (.invokevirtual 31, 3) := by decide +kernel
theorem dX1_writeTurned_16 : decode cX1_writeTurned 16 = .ok (.if_icmp .ge 40, 3) := by decide +kernel
theorem dX1_writeTurned_19 : decode cX1_writeTurned 19 = .ok (.aload_n 0, 1) := by decide +kernel
theorem dX1_writeTurned_20 : decode cX1_writeTurned 20 = .ok (.aload_n 1, 1) := by decide +kernel
theorem dX1_writeTurned_21 : decode cX1_writeTurned 21 = .ok (.iload 4, 2) := by decide +kernel
theorem dX1_writeTurned_23 : decode cX1_writeTurned 23 = .ok (.invokevirtual 37, 3) := by decide +kernel
theorem dX1_writeTurned_26 : decode cX1_writeTurned 26 = .ok (.invokevirtual 41, 3) := by decide +kernel
theorem dX1_writeTurned_29 : decode cX1_writeTurned 29 = .ok (.iload_n 3, 1) := by decide +kernel
theorem dX1_writeTurned_30 : decode cX1_writeTurned 30 = .ok (.ifCond .eq 12, 3) := by decide +kernel
theorem dX1_writeTurned_33 : decode cX1_writeTurned 33 = .ok (.aload_n 1, 1) := by decide +kernel
theorem dX1_writeTurned_34 : decode cX1_writeTurned 34 = .ok (.iload 4, 2) := by decide +kernel
theorem dX1_writeTurned_36 : decode cX1_writeTurned 36 = .ok (.invokevirtual 45, 3) := by decide +kernel
theorem dX1_writeTurned_39 : decode cX1_writeTurned 39 = .ok (.goto 9, 3) := by decide +kernel
theorem dX1_writeTurned_42 : decode cX1_writeTurned 42 = .ok (.aload_n 1, 1) := by decide +kernel
theorem dX1_writeTurned_43 : decode cX1_writeTurned 43 = .ok (.iload 4, 2) := by decide +kernel
theorem dX1_writeTurned_45 : decode cX1_writeTurned 45 = .ok (.invokevirtual 48, 3) := by decide +kernel
theorem dX1_writeTurned_48 : decode cX1_writeTurned 48 = .ok (.istore 4, 2) := by decide +kernel
theorem dX1_writeTurned_50 : decode cX1_writeTurned 50 = .ok (.iinc 5 1, 3) := by decide +kernel
theorem dX1_writeTurned_53 : decode cX1_writeTurned 53 = .ok (.goto (-43), 3) := by decide +kernel
theorem dX1_writeTurned_56 : decode cX1_writeTurned 56 = .ok (.return_, 1) := by decide +kernel
theorem dX1_writeWithLoop_0 : decode cX1_writeWithLoop 0 = .ok (.aload_n 0, 1) := by decide +kernel
theorem dX1_writeWithLoop_1 : decode cX1_writeWithLoop 1 = .ok (.invokevirtual 28, 3) := by decide +kernel
theorem dX1_writeWithLoop_4 : decode cX1_writeWithLoop 4 = .ok (.aload_n 1, 1) := by decide +kernel
theorem dX1_writeWithLoop_5 : decode cX1_writeWithLoop 5 = .ok (.invokevirtual 51, 3) := by decide +kernel
theorem dX1_writeWithLoop_8 : decode cX1_writeWithLoop 8 = .ok (.istore_n 3, 1) := by decide +kernel
theorem dX1_writeWithLoop_9 : decode cX1_writeWithLoop 9 = .ok (.aload_n 1, 1) := by decide +kernel
theorem dX1_writeWithLoop_10 : decode cX1_writeWithLoop 10 = .ok (.invokevirtual 31, 3) := by decide +kernel
theorem dX1_writeWithLoop_13 : decode cX1_writeWithLoop 13 = .ok (.ifCond .ne 9, 3) := by decide +kernel
theorem dX1_writeWithLoop_16 : decode cX1_writeWithLoop 16 = .ok (.aload_n 0, 1) := by decide +kernel
theorem dX1_writeWithLoop_17 : decode cX1_writeWithLoop 17 = .ok (.iload_n 3, 1) := by decide +kernel
theorem dX1_writeWithLoop_18 : decode cX1_writeWithLoop 18 = .ok (.iload_n 3, 1) := by decide +kernel
theorem dX1_writeWithLoop_19 : decode cX1_writeWithLoop 19 = .ok (.invokevirtual 54, 3) := by decide +kernel
theorem dX1_writeWithLoop_22 : decode cX1_writeWithLoop 22 = .ok (.iconst 0, 1) := by decide +kernel
theorem dX1_writeWithLoop_23 : decode cX1_writeWithLoop 23 = .ok (.istore 4, 2) := by decide +kernel
theorem dX1_writeWithLoop_25 : decode cX1_writeWithLoop 25 = .ok (.iload 4, 2) := by decide +kernel
theorem dX1_writeWithLoop_27 : decode cX1_writeWithLoop 27 = .ok (.aload_n 1, 1) := by decide +kernel
theorem dX1_writeWithLoop_28 : decode cX1_writeWithLoop 28 = .ok (.invokevirtual 31, 3) := by decide +kernel
theorem dX1_writeWithLoop_31 : decode cX1_writeWithLoop 31 = .ok (.if_icmp .ge 31, 3) := by decide +kernel
theorem dX1_writeWithLoop_34 : decode cX1_writeWithLoop 34 = .ok (.aload_n 0, 1) := by decide +kernel
theorem dX1_writeWithLoop_35 : decode cX1_writeWithLoop 35 = .ok (.aload_n 1, 1) := by decide +kernel
theorem dX1_writeWithLoop_36 : decode cX1_writeWithLoop 36 = .ok (.iload 4, 2) := by decide +kernel
theorem dX1_writeWithLoop_38 : decode cX1_writeWithLoop 38 = .ok (.invokevirtual 37, 3) := by decide +kernel
theorem dX1_writeWithLoop_41 : decode cX1_writeWithLoop 41 = .ok (.invokevirtual 41, 3) := by decide +kernel
theorem dX1_writeWithLoop_44 : decode cX1_writeWithLoop 44 = .ok (.iload 4, 2) := by decide +kernel
theorem dX1_writeWithLoop_46 : decode cX1_writeWithLoop 46 = .ok (.iload_n 2, 1) := by decide +kernel
theorem dX1_writeWithLoop_47 : decode cX1_writeWithLoop 47 = .ok (.if_icmp .ne 9, 3) := by decide +kernel
theorem dX1_writeWithLoop_50 : decode cX1_writeWithLoop 50 = .ok (.aload_n 0, 1) := by decide +kernel
theorem dX1_writeWithLoop_51 : decode cX1_writeWithLoop 51 = .ok (.iload_n 3, 1) := by decide +kernel
theorem dX1_writeWithLoop_52 : decode cX1_writeWithLoop 52 = .ok (.iload_n 3, 1) := by decide +kernel
theorem dX1_writeWithLoop_53 : decode cX1_writeWithLoop 53 = .ok (.invokevirtual 54, 3) := by decide +kernel
theorem dX1_writeWithLoop_56 : decode cX1_writeWithLoop 56 = .ok (.iinc 4 1, 3) := by decide +kernel
theorem dX1_writeWithLoop_59 : decode cX1_writeWithLoop 59 = .ok (.goto (-34), 3) := by decide +kernel
theorem dX1_writeWithLoop_62 : decode cX1_writeWithLoop 62 = .ok (.return_, 1) := by decide +kernel
theorem dX1_writeWithPoke_0 : decode cX1_writeWithPoke 0 = .ok (.aload_n 0, 1) := by decide +kernel
theorem dX1_writeWithPoke_1 : decode cX1_writeWithPoke 1 = .ok (.invokevirtual 28, 3) := by decide +kernel
theorem dX1_writeWithPoke_4 : decode cX1_writeWithPoke 4 = .ok (.aload_n 1, 1) := by decide +kernel
theorem dX1_writeWithPoke_5 : decode cX1_writeWithPoke 5 = .ok (.invokevirtual 51, 3) := by decide +kernel
theorem dX1_writeWithPoke_8 : decode cX1_writeWithPoke 8 = .ok (.istore 5, 2) := by decide +kernel
theorem dX1_writeWithPoke_10 : decode cX1_writeWithPoke 10 = .ok (.iload 5, 2) := by decide +kernel
theorem dX1_writeWithPoke_12 : decode cX1_writeWithPoke 12 = .ok (.iconst 1, 1) := by decide +kernel
theorem dX1_writeWithPoke_13 : decode cX1_writeWithPoke 13 = .ok (.iadd, 1) := by decide +kernel
theorem dX1_writeWithPoke_14 : decode cX1_writeWithPoke 14 = .ok (.istore 6, 2) := by decide +kernel
theorem dX1_writeWithPoke_16 : decode cX1_writeWithPoke 16 = .ok (.iconst 0, 1) := by decide +kernel
theorem dX1_writeWithPoke_17 : decode cX1_writeWithPoke 17 = .ok (.istore 7, 2) := by decide +kernel
theorem dX1_writeWithPoke_19 : decode cX1_writeWithPoke 19 = .ok (.iload 7, 2) := by decide +kernel
theorem dX1_writeWithPoke_21 : decode cX1_writeWithPoke 21 = .ok (.aload_n 1, 1) := by decide +kernel
theorem dX1_writeWithPoke_22 : decode cX1_writeWithPoke 22 = .ok (.invokevirtual 31, 3) := by decide +kernel
theorem dX1_writeWithPoke_25 : decode cX1_writeWithPoke 25 = .ok (.if_icmp .ge 61, 3) := by decide +kernel
theorem dX1_writeWithPoke_28 : decode cX1_writeWithPoke 28 = .ok (.aload_n 0, 1) := by decide +kernel
theorem dX1_writeWithPoke_29 : decode cX1_writeWithPoke 29 = .ok (.aload_n 1, 1) := by decide +kernel
theorem dX1_writeWithPoke_30 : decode cX1_writeWithPoke 30 = .ok (.iload 7, 2) := by decide +kernel
theorem dX1_writeWithPoke_32 : decode cX1_writeWithPoke 32 = .ok (.invokevirtual 37, 3) := by decide +kernel
theorem dX1_writeWithPoke_35 : decode cX1_writeWithPoke 35 = .ok (.invokevirtual 41, 3) := by decide +kernel
theorem dX1_writeWithPoke_38 : decode cX1_writeWithPoke 38 = .ok (.iload 7, 2) := by decide +kernel
theorem dX1_writeWithPoke_40 : decode cX1_writeWithPoke 40 = .ok (.iload_n 2, 1) := by decide +kernel
theorem dX1_writeWithPoke_41 : decode cX1_writeWithPoke 41 = .ok (.if_icmp .eq 14, 3) := by decide +kernel
theorem dX1_writeWithPoke_44 : decode cX1_writeWithPoke 44 = .ok (.iload 7, 2) := by decide +kernel
theorem dX1_writeWithPoke_46 : decode cX1_writeWithPoke 46 = .ok (.iload_n 3, 1) := by decide +kernel
theorem dX1_writeWithPoke_47 : decode cX1_writeWithPoke 47 = .ok (.if_icmp .ne 19, 3) := by decide +kernel
theorem dX1_writeWithPoke_50 : decode cX1_writeWithPoke 50 = .ok (.iload 4, 2) := by decide +kernel
theorem dX1_writeWithPoke_52 : decode cX1_writeWithPoke 52 = .ok (.ifCond .ne 14, 3) := by decide +kernel
theorem dX1_writeWithPoke_55 : decode cX1_writeWithPoke 55 = .ok (.aload_n 0, 1) := by decide +kernel
theorem dX1_writeWithPoke_56 : decode cX1_writeWithPoke 56 = .ok (.iload 5, 2) := by decide +kernel
theorem dX1_writeWithPoke_58 : decode cX1_writeWithPoke 58 = .ok (.iload 6, 2) := by decide +kernel
theorem dX1_writeWithPoke_60 : decode cX1_writeWithPoke 60 = .ok (.invokevirtual 54, 3) := by decide +kernel
theorem dX1_writeWithPoke_63 : decode cX1_writeWithPoke 63 = .ok (.goto 17, 3) := by decide +kernel
theorem dX1_writeWithPoke_66 : decode cX1_writeWithPoke 66 = .ok (.iload 7, 2) := by decide +kernel
theorem dX1_writeWithPoke_68 : decode cX1_writeWithPoke 68 = .ok (.iload_n 3, 1) := by decide +kernel
theorem dX1_writeWithPoke_69 : decode cX1_writeWithPoke 69 = .ok (.if_icmp .ne 11, 3) := by decide +kernel
theorem dX1_writeWithPoke_72 : decode cX1_writeWithPoke 72 = .ok (.aload_n 0, 1) := by decide +kernel
theorem dX1_writeWithPoke_73 : decode cX1_writeWithPoke 73 = .ok (.iload 6, 2) := by decide +kernel
theorem dX1_writeWithPoke_75 : decode cX1_writeWithPoke 75 = .ok (.iload 5, 2) := by decide +kernel
theorem dX1_writeWithPoke_77 : decode cX1_writeWithPoke 77 = .ok (.invokevirtual 54, 3) := by decide +kernel
theorem dX1_writeWithPoke_80 : decode cX1_writeWithPoke 80 = .ok (.iinc 7 1, 3) := by decide +kernel
theorem dX1_writeWithPoke_83 : decode cX1_writeWithPoke 83 = .ok (.goto (-64), 3) := by decide +kernel
theorem dX1_writeWithPoke_86 : decode cX1_writeWithPoke 86 = .ok (.return_, 1) := by decide +kernel
theorem dX1_putTwo_0 : decode cX1_putTwo 0 = .ok (.aload_n 0, 1) := by decide +kernel
theorem dX1_putTwo_1 : decode cX1_putTwo 1 = .ok (.iload_n 1, 1) := by decide +kernel
theorem dX1_putTwo_2 : decode cX1_putTwo 2 = .ok (.invokevirtual 41, 3) := by decide +kernel
theorem dX1_putTwo_5 : decode cX1_putTwo 5 = .ok (.aload_n 0, 1) := by decide +kernel
theorem dX1_putTwo_6 : decode cX1_putTwo 6 = .ok (.iload_n 2, 1) := by decide +kernel
theorem dX1_putTwo_7 : decode cX1_putTwo 7 = .ok (.invokevirtual 41, 3) := by decide +kernel
theorem dX1_putTwo_10 : decode cX1_putTwo 10 = .ok (.return_, 1) := by decide +kernel
theorem dX1_writeWithout_0 : decode cX1_writeWithout 0 = .ok (.aload_n 0, 1) := by decide +kernel
theorem dX1_writeWithout_1 : decode cX1_writeWithout 1 = .ok (.invokevirtual 28, 3) := by decide +kernel
theorem dX1_writeWithout_4 : decode cX1_writeWithout 4 = .ok (.iconst 0, 1) := by decide +kernel
theorem dX1_writeWithout_5 : decode cX1_writeWithout 5 = .ok (.istore_n 3, 1) := by decide +kernel
theorem dX1_writeWithout_6 : decode cX1_writeWithout 6 = .ok (.iload_n 3, 1) := by decide +kernel
theorem dX1_writeWithout_7 : decode cX1_writeWithout 7 = .ok (.aload_n 1, 1) := by decide +kernel
theorem dX1_writeWithout_8 : decode cX1_writeWithout 8 = .ok (.invokevirtual 31, 3) := by decide +kernel
theorem dX1_writeWithout_11 : decode cX1_writeWithout 11 = .ok (.if_icmp .ge 30, 3) := by decide +kernel
theorem dX1_writeWithout_14 : decode cX1_writeWithout 14 = .ok (.iload_n 2, 1) := by decide +kernel
theorem dX1_writeWithout_15 : decode cX1_writeWithout 15 = .ok (.aload_n 1, 1) := by decide +kernel
theorem dX1_writeWithout_16 : decode cX1_writeWithout 16 = .ok (.iload_n 3, 1) := by decide +kernel
theorem dX1_writeWithout_17 : decode cX1_writeWithout 17 = .ok (.invokevirtual 37, 3) := by decide +kernel
theorem dX1_writeWithout_20 : decode cX1_writeWithout 20 = .ok (.invokestatic 58, 3) := by decide +kernel
theorem dX1_writeWithout_23 : decode cX1_writeWithout 23 = .ok (.ifCond .ne 12, 3) := by decide +kernel
theorem dX1_writeWithout_26 : decode cX1_writeWithout 26 = .ok (.aload_n 0, 1) := by decide +kernel
theorem dX1_writeWithout_27 : decode cX1_writeWithout 27 = .ok (.aload_n 1, 1) := by decide +kernel
theorem dX1_writeWithout_28 : decode cX1_writeWithout 28 = .ok (.iload_n 3, 1) := by decide +kernel
theorem dX1_writeWithout_29 : decode cX1_writeWithout 29 = .ok (.invokevirtual 37, 3) := by decide +kernel
theorem dX1_writeWithout_32 : decode cX1_writeWithout 32 = .ok (.invokevirtual 41, 3) := by decide +kernel
theorem dX1_writeWithout_35 : decode cX1_writeWithout 35 = .ok (.iinc 3 1, 3) := by decide +kernel
theorem dX1_writeWithout_38 : decode cX1_writeWithout 38 = .ok (.goto (-32), 3) := by decide +kernel
theorem dX1_writeWithout_41 : decode cX1_writeWithout 41 = .ok (.return_, 1) := by decide +kernel
theorem dX1_writeSlid_0 : decode cX1_writeSlid 0 = .ok (.aload_n 0, 1) := by decide +kernel
theorem dX1_writeSlid_1 : decode cX1_writeSlid 1 = .ok (.invokevirtual 28, 3) := by decide +kernel
theorem dX1_writeSlid_4 : decode cX1_writeSlid 4 = .ok (.aload_n 0, 1) := by decide +kernel
theorem dX1_writeSlid_5 : decode cX1_writeSlid 5 = .ok (.aload_n 1, 1) := by decide +kernel
theorem dX1_writeSlid_6 : decode cX1_writeSlid 6 = .ok (.iconst 0, 1) := by decide +kernel
theorem dX1_writeSlid_7 : decode cX1_writeSlid 7 = .ok (.aload_n 1, 1) := by decide +kernel
theorem dX1_writeSlid_8 : decode cX1_writeSlid 8 = .ok (.invokevirtual 31, 3) := by decide +kernel
theorem dX1_writeSlid_11 : decode cX1_writeSlid 11 = .ok (.invokevirtual 62, 3) := by decide +kernel
theorem dX1_writeSlid_14 : decode cX1_writeSlid 14 = .ok (.iload 5, 2) := by decide +kernel
theorem dX1_writeSlid_16 : decode cX1_writeSlid 16 = .ok (.iconst 2, 1) := by decide +kernel
theorem dX1_writeSlid_17 : decode cX1_writeSlid 17 = .ok (.ishr, 1) := by decide +kernel
theorem dX1_writeSlid_18 : decode cX1_writeSlid 18 = .ok (.iconst 1, 1) := by decide +kernel
theorem dX1_writeSlid_19 : decode cX1_writeSlid 19 = .ok (.iand, 1) := by decide +kernel
theorem dX1_writeSlid_20 : decode cX1_writeSlid 20 = .ok (.istore 6, 2) := by decide +kernel
theorem dX1_writeSlid_22 : decode cX1_writeSlid 22 = .ok (.iload 5, 2) := by decide +kernel
theorem dX1_writeSlid_24 : decode cX1_writeSlid 24 = .ok (.iconst 1, 1) := by decide +kernel
theorem dX1_writeSlid_25 : decode cX1_writeSlid 25 = .ok (.ishr, 1) := by decide +kernel
theorem dX1_writeSlid_26 : decode cX1_writeSlid 26 = .ok (.iconst 1, 1) := by decide +kernel
theorem dX1_writeSlid_27 : decode cX1_writeSlid 27 = .ok (.iand, 1) := by decide +kernel
theorem dX1_writeSlid_28 : decode cX1_writeSlid 28 = .ok (.istore 7, 2) := by decide +kernel
theorem dX1_writeSlid_30 : decode cX1_writeSlid 30 = .ok (.iload 5, 2) := by decide +kernel
theorem dX1_writeSlid_32 : decode cX1_writeSlid 32 = .ok (.iconst 1, 1) := by decide +kernel
theorem dX1_writeSlid_33 : decode cX1_writeSlid 33 = .ok (.iand, 1) := by decide +kernel
theorem dX1_writeSlid_34 : decode cX1_writeSlid 34 = .ok (.istore 8, 2) := by decide +kernel
theorem dX1_writeSlid_36 : decode cX1_writeSlid 36 = .ok (.aload_n 0, 1) := by decide +kernel
theorem dX1_writeSlid_37 : decode cX1_writeSlid 37 = .ok (.aload_n 1, 1) := by decide +kernel
theorem dX1_writeSlid_38 : decode cX1_writeSlid 38 = .ok (.iload_n 2, 1) := by decide +kernel
theorem dX1_writeSlid_39 : decode cX1_writeSlid 39 = .ok (.iload 6, 2) := by decide +kernel
theorem dX1_writeSlid_41 : decode cX1_writeSlid 41 = .ok (.invokevirtual 66, 3) := by decide +kernel
theorem dX1_writeSlid_44 : decode cX1_writeSlid 44 = .ok (.aload_n 1, 1) := by decide +kernel
theorem dX1_writeSlid_45 : decode cX1_writeSlid 45 = .ok (.iload_n 3, 1) := by decide +kernel
theorem dX1_writeSlid_46 : decode cX1_writeSlid 46 = .ok (.iload 7, 2) := by decide +kernel
theorem dX1_writeSlid_48 : decode cX1_writeSlid 48 = .ok (.invokevirtual 66, 3) := by decide +kernel
theorem dX1_writeSlid_51 : decode cX1_writeSlid 51 = .ok (.invokevirtual 69, 3) := by decide +kernel
theorem dX1_writeSlid_54 : decode cX1_writeSlid 54 = .ok (.aload_n 0, 1) := by decide +kernel
theorem dX1_writeSlid_55 : decode cX1_writeSlid 55 = .ok (.aload_n 1, 1) := by decide +kernel
theorem dX1_writeSlid_56 : decode cX1_writeSlid 56 = .ok (.iload_n 3, 1) := by decide +kernel
theorem dX1_writeSlid_57 : decode cX1_writeSlid 57 = .ok (.iconst 1, 1) := by decide +kernel
theorem dX1_writeSlid_58 : decode cX1_writeSlid 58 = .ok (.iload 7, 2) := by decide +kernel
theorem dX1_writeSlid_60 : decode cX1_writeSlid 60 = .ok (.isub, 1) := by decide +kernel
theorem dX1_writeSlid_61 : decode cX1_writeSlid 61 = .ok (.invokevirtual 66, 3) := by decide +kernel
theorem dX1_writeSlid_64 : decode cX1_writeSlid 64 = .ok (.aload_n 1, 1) := by decide +kernel
theorem dX1_writeSlid_65 : decode cX1_writeSlid 65 = .ok (.iload 4, 2) := by decide +kernel
theorem dX1_writeSlid_67 : decode cX1_writeSlid 67 = .ok (.iload 8, 2) := by decide +kernel
theorem dX1_writeSlid_69 : decode cX1_writeSlid 69 = .ok (.invokevirtual 66, 3) := by decide +kernel
theorem dX1_writeSlid_72 : decode cX1_writeSlid 72 = .ok (.invokevirtual 69, 3) := by decide +kernel
theorem dX1_writeSlid_75 : decode cX1_writeSlid 75 = .ok (.aload_n 0, 1) := by decide +kernel
theorem dX1_writeSlid_76 : decode cX1_writeSlid 76 = .ok (.aload_n 1, 1) := by decide +kernel
theorem dX1_writeSlid_77 : decode cX1_writeSlid 77 = .ok (.iload 4, 2) := by decide +kernel
theorem dX1_writeSlid_79 : decode cX1_writeSlid 79 = .ok (.iconst 1, 1) := by decide +kernel
theorem dX1_writeSlid_80 : decode cX1_writeSlid 80 = .ok (.iload 8, 2) := by decide +kernel
theorem dX1_writeSlid_82 : decode cX1_writeSlid 82 = .ok (.isub, 1) := by decide +kernel
theorem dX1_writeSlid_83 : decode cX1_writeSlid 83 = .ok (.invokevirtual 66, 3) := by decide +kernel
theorem dX1_writeSlid_86 : decode cX1_writeSlid 86 = .ok (.aload_n 1, 1) := by decide +kernel
theorem dX1_writeSlid_87 : decode cX1_writeSlid 87 = .ok (.iload_n 2, 1) := by decide +kernel
theorem dX1_writeSlid_88 : decode cX1_writeSlid 88 = .ok (.iconst 1, 1) := by decide +kernel
theorem dX1_writeSlid_89 : decode cX1_writeSlid 89 = .ok (.iload 6, 2) := by decide +kernel
theorem dX1_writeSlid_91 : decode cX1_writeSlid 91 = .ok (.isub, 1) := by decide +kernel
theorem dX1_writeSlid_92 : decode cX1_writeSlid 92 = .ok (.invokevirtual 66, 3) := by decide +kernel
theorem dX1_writeSlid_95 : decode cX1_writeSlid 95 = .ok (.invokevirtual 69, 3) := by decide +kernel
theorem dX1_writeSlid_98 : decode cX1_writeSlid 98 = .ok (.return_, 1) := by decide +kernel
theorem dX1_swap_0 : decode cX1_swap 0 = .ok (.iload_n 1, 1) := by decide +kernel
theorem dX1_swap_1 : decode cX1_swap 1 = .ok (.ifCond .lt 49, 3) := by decide +kernel
theorem dX1_swap_4 : decode cX1_swap 4 = .ok (.iload_n 1, 1) := by decide +kernel
theorem dX1_swap_5 : decode cX1_swap 5 = .ok (.aload_n 0, 1) := by decide +kernel
theorem dX1_swap_6 : decode cX1_swap 6 = .ok (.getfield 15, 3) := by decide +kernel
theorem dX1_swap_9 : decode cX1_swap 9 = .ok (.if_icmp .ge 41, 3) := by decide +kernel
theorem dX1_swap_12 : decode cX1_swap 12 = .ok (.iload_n 2, 1) := by decide +kernel
theorem dX1_swap_13 : decode cX1_swap 13 = .ok (.ifCond .lt 37, 3) := by decide +kernel
theorem dX1_swap_16 : decode cX1_swap 16 = .ok (.iload_n 2, 1) := by decide +kernel
theorem dX1_swap_17 : decode cX1_swap 17 = .ok (.aload_n 0, 1) := by decide +kernel
theorem dX1_swap_18 : decode cX1_swap 18 = .ok (.getfield 15, 3) := by decide +kernel
theorem dX1_swap_21 : decode cX1_swap 21 = .ok (.if_icmp .ge 29, 3) := by decide +kernel
theorem dX1_swap_24 : decode cX1_swap 24 = .ok (.aload_n 0, 1) := by decide +kernel
theorem dX1_swap_25 : decode cX1_swap 25 = .ok (.getfield 9, 3) := by decide +kernel
theorem dX1_swap_28 : decode cX1_swap 28 = .ok (.iload_n 1, 1) := by decide +kernel
theorem dX1_swap_29 : decode cX1_swap 29 = .ok (.iaload, 1) := by decide +kernel
theorem dX1_swap_30 : decode cX1_swap 30 = .ok (.istore_n 3, 1) := by decide +kernel
theorem dX1_swap_31 : decode cX1_swap 31 = .ok (.aload_n 0, 1) := by decide +kernel
theorem dX1_swap_32 : decode cX1_swap 32 = .ok (.getfield 9, 3) := by decide +kernel
theorem dX1_swap_35 : decode cX1_swap 35 = .ok (.iload_n 1, 1) := by decide +kernel
theorem dX1_swap_36 : decode cX1_swap 36 = .ok (.aload_n 0, 1) := by decide +kernel
theorem dX1_swap_37 : decode cX1_swap 37 = .ok (.getfield 9, 3) := by decide +kernel
theorem dX1_swap_40 : decode cX1_swap 40 = .ok (.iload_n 2, 1) := by decide +kernel
theorem dX1_swap_41 : decode cX1_swap 41 = .ok (.iaload, 1) := by decide +kernel
theorem dX1_swap_42 : decode cX1_swap 42 = .ok (.iastore, 1) := by decide +kernel
theorem dX1_swap_43 : decode cX1_swap 43 = .ok (.aload_n 0, 1) := by decide +kernel
theorem dX1_swap_44 : decode cX1_swap 44 = .ok (.getfield 9, 3) := by decide +kernel
theorem dX1_swap_47 : decode cX1_swap 47 = .ok (.iload_n 2, 1) := by decide +kernel
theorem dX1_swap_48 : decode cX1_swap 48 = .ok (.iload_n 3, 1) := by decide +kernel
theorem dX1_swap_49 : decode cX1_swap 49 = .ok (.iastore, 1) := by decide +kernel
theorem dX1_swap_50 : decode cX1_swap 50 = .ok (.return_, 1) := by decide +kernel
theorem dX1_writeSmoothed_0 : decode cX1_writeSmoothed 0 = .ok (.aload_n 1, 1) := by decide +kernel
theorem dX1_writeSmoothed_1 : decode cX1_writeSmoothed 1 = .ok (.iload_n 2, 1) := by decide +kernel
theorem dX1_writeSmoothed_2 : decode cX1_writeSmoothed 2 = .ok (.iconst 0, 1) := by decide +kernel
theorem dX1_writeSmoothed_3 : decode cX1_writeSmoothed 3 = .ok (.invokevirtual 66, 3) := by decide +kernel
theorem dX1_writeSmoothed_6 : decode cX1_writeSmoothed 6 = .ok (.istore_n 3, 1) := by decide +kernel
theorem dX1_writeSmoothed_7 : decode cX1_writeSmoothed 7 = .ok (.aload_n 1, 1) := by decide +kernel
theorem dX1_writeSmoothed_8 : decode cX1_writeSmoothed 8 = .ok (.iload_n 2, 1) := by decide +kernel
theorem dX1_writeSmoothed_9 : decode cX1_writeSmoothed 9 = .ok (.iconst 1, 1) := by decide +kernel
theorem dX1_writeSmoothed_10 : decode cX1_writeSmoothed 10 = .ok (.invokevirtual 66, 3) := by decide +kernel
theorem dX1_writeSmoothed_13 : decode cX1_writeSmoothed 13 = .ok (.istore 4, 2) := by decide +kernel
theorem dX1_writeSmoothed_15 : decode cX1_writeSmoothed 15 = .ok (.aload_n 0, 1) := by decide +kernel
theorem dX1_writeSmoothed_16 : decode cX1_writeSmoothed 16 = .ok (.invokevirtual 28, 3) := by decide +kernel
theorem dX1_writeSmoothed_19 : decode cX1_writeSmoothed 19 = .ok (.aload_n 0, 1) := by decide +kernel
theorem dX1_writeSmoothed_20 : decode cX1_writeSmoothed 20 = .ok (.aload_n 1, 1) := by decide +kernel
theorem dX1_writeSmoothed_21 : decode cX1_writeSmoothed 21 = .ok (.iconst 0, 1) := by decide +kernel
theorem dX1_writeSmoothed_22 : decode cX1_writeSmoothed 22 = .ok (.iload_n 3, 1) := by decide +kernel
theorem dX1_writeSmoothed_23 : decode cX1_writeSmoothed 23 = .ok (.invokevirtual 62, 3) := by decide +kernel
theorem dX1_writeSmoothed_26 : decode cX1_writeSmoothed 26 = .ok (.iload 4, 2) := by decide +kernel
theorem dX1_writeSmoothed_28 : decode cX1_writeSmoothed 28 = .ok (.iconst 1, 1) := by decide +kernel
theorem dX1_writeSmoothed_29 : decode cX1_writeSmoothed 29 = .ok (.isub, 1) := by decide +kernel
theorem dX1_writeSmoothed_30 : decode cX1_writeSmoothed 30 = .ok (.istore 5, 2) := by decide +kernel
theorem dX1_writeSmoothed_32 : decode cX1_writeSmoothed 32 = .ok (.iload 5, 2) := by decide +kernel
theorem dX1_writeSmoothed_34 : decode cX1_writeSmoothed 34 = .ok (.iload_n 3, 1) := by decide +kernel
theorem dX1_writeSmoothed_35 : decode cX1_writeSmoothed 35 = .ok (.if_icmp .le 19, 3) := by decide +kernel
theorem dX1_writeSmoothed_38 : decode cX1_writeSmoothed 38 = .ok (.aload_n 0, 1) := by decide +kernel
theorem dX1_writeSmoothed_39 : decode cX1_writeSmoothed 39 = .ok (.aload_n 1, 1) := by decide +kernel
theorem dX1_writeSmoothed_40 : decode cX1_writeSmoothed 40 = .ok (.iload 5, 2) := by decide +kernel
theorem dX1_writeSmoothed_42 : decode cX1_writeSmoothed 42 = .ok (.invokevirtual 37, 3) := by decide +kernel
theorem dX1_writeSmoothed_45 : decode cX1_writeSmoothed 45 = .ok (.invokevirtual 41, 3) := by decide +kernel
theorem dX1_writeSmoothed_48 : decode cX1_writeSmoothed 48 = .ok (.iinc 5 (-1), 3) := by decide +kernel
theorem dX1_writeSmoothed_51 : decode cX1_writeSmoothed 51 = .ok (.goto (-19), 3) := by decide +kernel
theorem dX1_writeSmoothed_54 : decode cX1_writeSmoothed 54 = .ok (.aload_n 0, 1) := by decide +kernel
theorem dX1_writeSmoothed_55 : decode cX1_writeSmoothed 55 = .ok (.aload_n 1, 1) := by decide +kernel
theorem dX1_writeSmoothed_56 : decode cX1_writeSmoothed 56 = .ok (.iload 4, 2) := by decide +kernel
theorem dX1_writeSmoothed_58 : decode cX1_writeSmoothed 58 = .ok (.iconst 1, 1) := by decide +kernel
theorem dX1_writeSmoothed_59 : decode cX1_writeSmoothed 59 = .ok (.iadd, 1) := by decide +kernel
theorem dX1_writeSmoothed_60 : decode cX1_writeSmoothed 60 = .ok (.aload_n 1, 1) := by decide +kernel
theorem dX1_writeSmoothed_61 : decode cX1_writeSmoothed 61 = .ok (.invokevirtual 31, 3) := by decide +kernel
theorem dX1_writeSmoothed_64 : decode cX1_writeSmoothed 64 = .ok (.invokevirtual 62, 3) := by decide +kernel
theorem dX1_writeSmoothed_67 : decode cX1_writeSmoothed 67 = .ok (.return_, 1) := by decide +kernel
theorem dX1_putPlaces_0 : decode cX1_putPlaces 0 = .ok (.iload_n 2, 1) := by decide +kernel
theorem dX1_putPlaces_1 : decode cX1_putPlaces 1 = .ok (.istore 4, 2) := by decide +kernel
theorem dX1_putPlaces_3 : decode cX1_putPlaces 3 = .ok (.iload 4, 2) := by decide +kernel
theorem dX1_putPlaces_5 : decode cX1_putPlaces 5 = .ok (.iload_n 3, 1) := by decide +kernel
theorem dX1_putPlaces_6 : decode cX1_putPlaces 6 = .ok (.if_icmp .ge 19, 3) := by decide +kernel
theorem dX1_putPlaces_9 : decode cX1_putPlaces 9 = .ok (.aload_n 0, 1) := by decide +kernel
theorem dX1_putPlaces_10 : decode cX1_putPlaces 10 = .ok (.aload_n 1, 1) := by decide +kernel
theorem dX1_putPlaces_11 : decode cX1_putPlaces 11 = .ok (.iload 4, 2) := by decide +kernel
theorem dX1_putPlaces_13 : decode cX1_putPlaces 13 = .ok (.invokevirtual 37, 3) := by decide +kernel
theorem dX1_putPlaces_16 : decode cX1_putPlaces 16 = .ok (.invokevirtual 41, 3) := by decide +kernel
theorem dX1_putPlaces_19 : decode cX1_putPlaces 19 = .ok (.iinc 4 1, 3) := by decide +kernel
theorem dX1_putPlaces_22 : decode cX1_putPlaces 22 = .ok (.goto (-19), 3) := by decide +kernel
theorem dX1_putPlaces_25 : decode cX1_putPlaces 25 = .ok (.return_, 1) := by decide +kernel
theorem dX1_writeSum_0 : decode cX1_writeSum 0 = .ok (.aload_n 0, 1) := by decide +kernel
theorem dX1_writeSum_1 : decode cX1_writeSum 1 = .ok (.invokevirtual 28, 3) := by decide +kernel
theorem dX1_writeSum_4 : decode cX1_writeSum 4 = .ok (.aload_n 0, 1) := by decide +kernel
theorem dX1_writeSum_5 : decode cX1_writeSum 5 = .ok (.aload_n 1, 1) := by decide +kernel
theorem dX1_writeSum_6 : decode cX1_writeSum 6 = .ok (.iconst 0, 1) := by decide +kernel
theorem dX1_writeSum_7 : decode cX1_writeSum 7 = .ok (.aload_n 1, 1) := by decide +kernel
theorem dX1_writeSum_8 : decode cX1_writeSum 8 = .ok (.invokevirtual 31, 3) := by decide +kernel
theorem dX1_writeSum_11 : decode cX1_writeSum 11 = .ok (.invokevirtual 62, 3) := by decide +kernel
theorem dX1_writeSum_14 : decode cX1_writeSum 14 = .ok (.iconst 0, 1) := by decide +kernel
theorem dX1_writeSum_15 : decode cX1_writeSum 15 = .ok (.istore_n 3, 1) := by decide +kernel
theorem dX1_writeSum_16 : decode cX1_writeSum 16 = .ok (.iload_n 3, 1) := by decide +kernel
theorem dX1_writeSum_17 : decode cX1_writeSum 17 = .ok (.aload_n 2, 1) := by decide +kernel
theorem dX1_writeSum_18 : decode cX1_writeSum 18 = .ok (.invokevirtual 31, 3) := by decide +kernel
theorem dX1_writeSum_21 : decode cX1_writeSum 21 = .ok (.if_icmp .ge 21, 3) := by decide +kernel
theorem dX1_writeSum_24 : decode cX1_writeSum 24 = .ok (.aload_n 0, 1) := by decide +kernel
theorem dX1_writeSum_25 : decode cX1_writeSum 25 = .ok (.aload_n 2, 1) := by decide +kernel
theorem dX1_writeSum_26 : decode cX1_writeSum 26 = .ok (.iload_n 3, 1) := by decide +kernel
theorem dX1_writeSum_27 : decode cX1_writeSum 27 = .ok (.invokevirtual 37, 3) := by decide +kernel
theorem dX1_writeSum_30 : decode cX1_writeSum 30 = .ok (.bipush 8, 2) := by decide +kernel
theorem dX1_writeSum_32 : decode cX1_writeSum 32 = .ok (.iadd, 1) := by decide +kernel
theorem dX1_writeSum_33 : decode cX1_writeSum 33 = .ok (.invokevirtual 41, 3) := by decide +kernel
theorem dX1_writeSum_36 : decode cX1_writeSum 36 = .ok (.iinc 3 1, 3) := by decide +kernel
theorem dX1_writeSum_39 : decode cX1_writeSum 39 = .ok (.goto (-23), 3) := by decide +kernel
theorem dX1_writeSum_42 : decode cX1_writeSum 42 = .ok (.return_, 1) := by decide +kernel
theorem dX2_init_0 : decode cX2_init 0 = .ok (.aload_n 0, 1) := by decide +kernel
theorem dX2_init_1 : decode cX2_init 1 = .ok (.invokespecial 1, 3) := by decide +kernel
theorem dX2_init_4 : decode cX2_init 4 = .ok (.aload_n 0, 1) := by decide +kernel
theorem dX2_init_5 : decode cX2_init 5 = .ok (.iconst 0, 1) := by decide +kernel
theorem dX2_init_6 : decode cX2_init 6 = .ok (.putfield 7, 3) := by decide +kernel
theorem dX2_init_9 : decode cX2_init 9 = .ok (.return_, 1) := by decide +kernel
theorem dX2_current_0 : decode cX2_current 0 = .ok (.aload_n 0, 1) := by decide +kernel
theorem dX2_current_1 : decode cX2_current 1 = .ok (.getfield 7, 3) := by decide +kernel
theorem dX2_current_4 : decode cX2_current 4 = .ok (.ireturn, 1) := by decide +kernel
theorem dX2_restart_0 : decode cX2_restart 0 = .ok (.aload_n 0, 1) := by decide +kernel
theorem dX2_restart_1 : decode cX2_restart 1 = .ok (.iload_n 1, 1) := by decide +kernel
theorem dX2_restart_2 : decode cX2_restart 2 = .ok (.putfield 7, 3) := by decide +kernel
theorem dX2_restart_5 : decode cX2_restart 5 = .ok (.return_, 1) := by decide +kernel
theorem dX2_below_0 : decode cX2_below 0 = .ok (.aload_n 0, 1) := by decide +kernel
theorem dX2_below_1 : decode cX2_below 1 = .ok (.aload_n 0, 1) := by decide +kernel
theorem dX2_below_2 : decode cX2_below 2 = .ok (.getfield 7, 3) := by decide +kernel
theorem dX2_below_5 : decode cX2_below 5 = .ok (.i2l, 1) := by decide +kernel
theorem dX2_below_6 : decode cX2_below 6 = .ok (.ldc2_w 13, 3) := by decide +kernel
theorem dX2_below_9 : decode cX2_below 9 = .ok (.lmul, 1) := by decide +kernel
theorem dX2_below_10 : decode cX2_below 10 = .ok (.ldc2_w 15, 3) := by decide +kernel
theorem dX2_below_13 : decode cX2_below 13 = .ok (.ladd, 1) := by decide +kernel
theorem dX2_below_14 : decode cX2_below 14 = .ok (.ldc2_w 17, 3) := by decide +kernel
theorem dX2_below_17 : decode cX2_below 17 = .ok (.land, 1) := by decide +kernel
theorem dX2_below_18 : decode cX2_below 18 = .ok (.l2i, 1) := by decide +kernel
theorem dX2_below_19 : decode cX2_below 19 = .ok (.putfield 7, 3) := by decide +kernel
theorem dX2_below_22 : decode cX2_below 22 = .ok (.iload_n 1, 1) := by decide +kernel
theorem dX2_below_23 : decode cX2_below 23 = .ok (.ifCond .le 15, 3) := by decide +kernel
theorem dX2_below_26 : decode cX2_below 26 = .ok (.aload_n 0, 1) := by decide +kernel
theorem dX2_below_27 : decode cX2_below 27 = .ok (.getfield 7, 3) := by decide +kernel
theorem dX2_below_30 : decode cX2_below 30 = .ok (.ldc 19, 2) := by decide +kernel
theorem dX2_below_32 : decode cX2_below 32 = .ok (.idiv, 1) := by decide +kernel
theorem dX2_below_33 : decode cX2_below 33 = .ok (.iload_n 1, 1) := by decide +kernel
theorem dX2_below_34 : decode cX2_below 34 = .ok (.irem, 1) := by decide +kernel
theorem dX2_below_35 : decode cX2_below 35 = .ok (.goto 4, 3) := by decide +kernel
theorem dX2_below_38 : decode cX2_below 38 = .ok (.iconst 0, 1) := by decide +kernel
theorem dX2_below_39 : decode cX2_below 39 = .ok (.ireturn, 1) := by decide +kernel
theorem dX2_writeRow_0 : decode cX2_writeRow 0 = .ok (.aload_n 0, 1) := by decide +kernel
theorem dX2_writeRow_1 : decode cX2_writeRow 1 = .ok (.bipush 7, 2) := by decide +kernel
theorem dX2_writeRow_3 : decode cX2_writeRow 3 = .ok (.invokevirtual 20, 3) := by decide +kernel
theorem dX2_writeRow_6 : decode cX2_writeRow 6 = .ok (.iconst 2, 1) := by decide +kernel
theorem dX2_writeRow_7 : decode cX2_writeRow 7 = .ok (.iadd, 1) := by decide +kernel
theorem dX2_writeRow_8 : decode cX2_writeRow 8 = .ok (.istore_n 2, 1) := by decide +kernel
theorem dX2_writeRow_9 : decode cX2_writeRow 9 = .ok (.aload_n 1, 1) := by decide +kernel
theorem dX2_writeRow_10 : decode cX2_writeRow 10 = .ok (.iconst 2, 1) := by decide +kernel
theorem dX2_writeRow_11 : decode cX2_writeRow 11 = .ok (.iload_n 2, 1) := by decide +kernel
theorem dX2_writeRow_12 : decode cX2_writeRow 12 = .ok (.imul, 1) := by decide +kernel
theorem dX2_writeRow_13 : decode cX2_writeRow 13 = .ok (.invokevirtual 24, 3) := by decide +kernel
theorem dX2_writeRow_16 : decode cX2_writeRow 16 = .ok (.iconst 0, 1) := by decide +kernel
theorem dX2_writeRow_17 : decode cX2_writeRow 17 = .ok (.istore_n 3, 1) := by decide +kernel
theorem dX2_writeRow_18 : decode cX2_writeRow 18 = .ok (.iload_n 3, 1) := by decide +kernel
theorem dX2_writeRow_19 : decode cX2_writeRow 19 = .ok (.iconst 2, 1) := by decide +kernel
theorem dX2_writeRow_20 : decode cX2_writeRow 20 = .ok (.iload_n 2, 1) := by decide +kernel
theorem dX2_writeRow_21 : decode cX2_writeRow 21 = .ok (.imul, 1) := by decide +kernel
theorem dX2_writeRow_22 : decode cX2_writeRow 22 = .ok (.if_icmp .ge 25, 3) := by decide +kernel
theorem dX2_writeRow_25 : decode cX2_writeRow 25 = .ok (.aload_n 1, 1) := by decide +kernel
theorem dX2_writeRow_26 : decode cX2_writeRow 26 = .ok (.aload_n 0, 1) := by decide +kernel
theorem dX2_writeRow_27 : decode cX2_writeRow 27 = .ok (.iconst 2, 1) := by decide +kernel
theorem dX2_writeRow_28 : decode cX2_writeRow 28 = .ok (.iload_n 2, 1) := by decide +kernel
theorem dX2_writeRow_29 : decode cX2_writeRow 29 = .ok (.imul, 1) := by decide +kernel
theorem dX2_writeRow_30 : decode cX2_writeRow 30 = .ok (.iload_n 3, 1) := by decide +kernel
theorem dX2_writeRow_31 : decode cX2_writeRow 31 = .ok (.isub, 1) := by decide +kernel
theorem dX2_writeRow_32 : decode cX2_writeRow 32 = .ok (.invokevirtual 20, 3) := by decide +kernel
theorem dX2_writeRow_35 : decode cX2_writeRow 35 = .ok (.iload_n 3, 1) := by decide +kernel
theorem dX2_writeRow_36 : decode cX2_writeRow 36 = .ok (.iconst 2, 1) := by decide +kernel
theorem dX2_writeRow_37 : decode cX2_writeRow 37 = .ok (.idiv, 1) := by decide +kernel
theorem dX2_writeRow_38 : decode cX2_writeRow 38 = .ok (.invokevirtual 30, 3) := by decide +kernel
theorem dX2_writeRow_41 : decode cX2_writeRow 41 = .ok (.iinc 3 1, 3) := by decide +kernel
theorem dX2_writeRow_44 : decode cX2_writeRow 44 = .ok (.goto (-26), 3) := by decide +kernel
theorem dX2_writeRow_47 : decode cX2_writeRow 47 = .ok (.return_, 1) := by decide +kernel
theorem dX3_init_0 : decode cX3_init 0 = .ok (.aload_n 0, 1) := by decide +kernel
theorem dX3_init_1 : decode cX3_init 1 = .ok (.invokespecial 3, 3) := by decide +kernel
theorem dX3_init_4 : decode cX3_init 4 = .ok (.aload_n 0, 1) := by decide +kernel
theorem dX3_init_5 : decode cX3_init 5 = .ok (.aload_n 1, 1) := by decide +kernel
theorem dX3_init_6 : decode cX3_init 6 = .ok (.putfield 9, 3) := by decide +kernel
theorem dX3_init_9 : decode cX3_init 9 = .ok (.aload_n 0, 1) := by decide +kernel
theorem dX3_init_10 : decode cX3_init 10 = .ok (.aload_n 1, 1) := by decide +kernel
theorem dX3_init_11 : decode cX3_init 11 = .ok (.iload_n 2, 1) := by decide +kernel
theorem dX3_init_12 : decode cX3_init 12 = .ok (.aload_n 3, 1) := by decide +kernel
theorem dX3_init_13 : decode cX3_init 13 = .ok (.invokestatic 15, 3) := by decide +kernel
theorem dX3_init_16 : decode cX3_init 16 = .ok (.putfield 19, 3) := by decide +kernel
theorem dX3_init_19 : decode cX3_init 19 = .ok (.aload_n 0, 1) := by decide +kernel
theorem dX3_init_20 : decode cX3_init 20 = .ok (.iconst 4, 1) := by decide +kernel
theorem dX3_init_21 : decode cX3_init 21 = .ok (.aload_n 1, 1) := by decide +kernel
theorem dX3_init_22 : decode cX3_init 22 = .ok (.invokevirtual 23, 3) := by decide +kernel
theorem dX3_init_25 : decode cX3_init 25 = .ok (.imul, 1) := by decide +kernel
theorem dX3_init_26 : decode cX3_init 26 = .ok (.newarray .int, 2) := by decide +kernel
theorem dX3_init_28 : decode cX3_init 28 = .ok (.putfield 29, 3) := by decide +kernel
theorem dX3_init_31 : decode cX3_init 31 = .ok (.aload_n 0, 1) := by decide +kernel
theorem dX3_init_32 : decode cX3_init 32 = .ok (.aload_n 0, 1) := by decide +kernel
theorem dX3_init_33 : decode cX3_init 33 = .ok (.getfield 19, 3) := by decide +kernel
theorem dX3_init_36 : decode cX3_init 36 = .ok (.newarray .int, 2) := by decide +kernel
theorem dX3_init_38 : decode cX3_init 38 = .ok (.putfield 33, 3) := by decide +kernel
theorem dX3_init_41 : decode cX3_init 41 = .ok (.aload_n 0, 1) := by decide +kernel
theorem dX3_init_42 : decode cX3_init 42 = .ok (.aload_n 1, 1) := by decide +kernel
theorem dX3_init_43 : decode cX3_init 43 = .ok (.invokevirtual 36, 3) := by decide +kernel
theorem dX3_init_46 : decode cX3_init 46 = .ok (.newarray .int, 2) := by decide +kernel
theorem dX3_init_48 : decode cX3_init 48 = .ok (.putfield 39, 3) := by decide +kernel
theorem dX3_init_51 : decode cX3_init 51 = .ok (.aload_n 0, 1) := by decide +kernel
theorem dX3_init_52 : decode cX3_init 52 = .ok (.aload_n 1, 1) := by decide +kernel
theorem dX3_init_53 : decode cX3_init 53 = .ok (.invokevirtual 36, 3) := by decide +kernel
theorem dX3_init_56 : decode cX3_init 56 = .ok (.newarray .int, 2) := by decide +kernel
theorem dX3_init_58 : decode cX3_init 58 = .ok (.putfield 42, 3) := by decide +kernel
theorem dX3_init_61 : decode cX3_init 61 = .ok (.aload_n 0, 1) := by decide +kernel
theorem dX3_init_62 : decode cX3_init 62 = .ok (.aload_n 0, 1) := by decide +kernel
theorem dX3_init_63 : decode cX3_init 63 = .ok (.getfield 19, 3) := by decide +kernel
theorem dX3_init_66 : decode cX3_init 66 = .ok (.newarray .int, 2) := by decide +kernel
theorem dX3_init_68 : decode cX3_init 68 = .ok (.putfield 45, 3) := by decide +kernel
theorem dX3_init_71 : decode cX3_init 71 = .ok (.aload_n 0, 1) := by decide +kernel
theorem dX3_init_72 : decode cX3_init 72 = .ok (.aload_n 0, 1) := by decide +kernel
theorem dX3_init_73 : decode cX3_init 73 = .ok (.getfield 19, 3) := by decide +kernel
theorem dX3_init_76 : decode cX3_init 76 = .ok (.aload_n 1, 1) := by decide +kernel
theorem dX3_init_77 : decode cX3_init 77 = .ok (.invokevirtual 23, 3) := by decide +kernel
theorem dX3_init_80 : decode cX3_init 80 = .ok (.iconst 2, 1) := by decide +kernel
theorem dX3_init_81 : decode cX3_init 81 = .ok (.iadd, 1) := by decide +kernel
theorem dX3_init_82 : decode cX3_init 82 = .ok (.if_icmp .ne 7, 3) := by decide +kernel
theorem dX3_init_85 : decode cX3_init 85 = .ok (.iconst 1, 1) := by decide +kernel
theorem dX3_init_86 : decode cX3_init 86 = .ok (.goto 4, 3) := by decide +kernel
theorem dX3_init_89 : decode cX3_init 89 = .ok (.iconst 0, 1) := by decide +kernel
theorem dX3_init_90 : decode cX3_init 90 = .ok (.putfield 48, 3) := by decide +kernel
theorem dX3_init_93 : decode cX3_init 93 = .ok (.aload_n 0, 1) := by decide +kernel
theorem dX3_init_94 : decode cX3_init 94 = .ok (.aload_n 3, 1) := by decide +kernel
theorem dX3_init_95 : decode cX3_init 95 = .ok (.invokevirtual 52, 3) := by decide +kernel
theorem dX3_init_98 : decode cX3_init 98 = .ok (.aload_n 0, 1) := by decide +kernel
theorem dX3_init_99 : decode cX3_init 99 = .ok (.iload_n 2, 1) := by decide +kernel
theorem dX3_init_100 : decode cX3_init 100 = .ok (.invokevirtual 56, 3) := by decide +kernel
theorem dX3_init_103 : decode cX3_init 103 = .ok (.aload_n 0, 1) := by decide +kernel
theorem dX3_init_104 : decode cX3_init 104 = .ok (.getfield 48, 3) := by decide +kernel
theorem dX3_init_107 : decode cX3_init 107 = .ok (.ifCond .eq 7, 3) := by decide +kernel
theorem dX3_init_110 : decode cX3_init 110 = .ok (.aload_n 0, 1) := by decide +kernel
theorem dX3_init_111 : decode cX3_init 111 = .ok (.invokevirtual 60, 3) := by decide +kernel
theorem dX3_init_114 : decode cX3_init 114 = .ok (.return_, 1) := by decide +kernel
theorem dX3_countIn_0 : decode cX3_countIn 0 = .ok (.aload_n 2, 1) := by decide +kernel
theorem dX3_countIn_1 : decode cX3_countIn 1 = .ok (.iconst 4, 1) := by decide +kernel
theorem dX3_countIn_2 : decode cX3_countIn 2 = .ok (.aload_n 0, 1) := by decide +kernel
theorem dX3_countIn_3 : decode cX3_countIn 3 = .ok (.invokevirtual 23, 3) := by decide +kernel
theorem dX3_countIn_6 : decode cX3_countIn 6 = .ok (.imul, 1) := by decide +kernel
theorem dX3_countIn_7 : decode cX3_countIn 7 = .ok (.invokevirtual 63, 3) := by decide +kernel
theorem dX3_countIn_10 : decode cX3_countIn 10 = .ok (.iconst 0, 1) := by decide +kernel
theorem dX3_countIn_11 : decode cX3_countIn 11 = .ok (.istore_n 3, 1) := by decide +kernel
theorem dX3_countIn_12 : decode cX3_countIn 12 = .ok (.iload_n 3, 1) := by decide +kernel
theorem dX3_countIn_13 : decode cX3_countIn 13 = .ok (.aload_n 0, 1) := by decide +kernel
theorem dX3_countIn_14 : decode cX3_countIn 14 = .ok (.invokevirtual 68, 3) := by decide +kernel
theorem dX3_countIn_17 : decode cX3_countIn 17 = .ok (.if_icmp .ge 89, 3) := by decide +kernel
theorem dX3_countIn_20 : decode cX3_countIn 20 = .ok (.aload_n 0, 1) := by decide +kernel
theorem dX3_countIn_21 : decode cX3_countIn 21 = .ok (.iload_n 3, 1) := by decide +kernel
theorem dX3_countIn_22 : decode cX3_countIn 22 = .ok (.invokevirtual 71, 3) := by decide +kernel
theorem dX3_countIn_25 : decode cX3_countIn 25 = .ok (.istore 4, 2) := by decide +kernel
theorem dX3_countIn_27 : decode cX3_countIn 27 = .ok (.aload_n 0, 1) := by decide +kernel
theorem dX3_countIn_28 : decode cX3_countIn 28 = .ok (.iload_n 3, 1) := by decide +kernel
theorem dX3_countIn_29 : decode cX3_countIn 29 = .ok (.iload_n 1, 1) := by decide +kernel
theorem dX3_countIn_30 : decode cX3_countIn 30 = .ok (.invokestatic 75, 3) := by decide +kernel
theorem dX3_countIn_33 : decode cX3_countIn 33 = .ok (.istore 5, 2) := by decide +kernel
theorem dX3_countIn_35 : decode cX3_countIn 35 = .ok (.aload_n 0, 1) := by decide +kernel
theorem dX3_countIn_36 : decode cX3_countIn 36 = .ok (.iload 4, 2) := by decide +kernel
theorem dX3_countIn_38 : decode cX3_countIn 38 = .ok (.iload_n 1, 1) := by decide +kernel
theorem dX3_countIn_39 : decode cX3_countIn 39 = .ok (.invokestatic 75, 3) := by decide +kernel
theorem dX3_countIn_42 : decode cX3_countIn 42 = .ok (.iconst 2, 1) := by decide +kernel
theorem dX3_countIn_43 : decode cX3_countIn 43 = .ok (.iadd, 1) := by decide +kernel
theorem dX3_countIn_44 : decode cX3_countIn 44 = .ok (.istore 6, 2) := by decide +kernel
theorem dX3_countIn_46 : decode cX3_countIn 46 = .ok (.aload_n 2, 1) := by decide +kernel
theorem dX3_countIn_47 : decode cX3_countIn 47 = .ok (.aload_n 0, 1) := by decide +kernel
theorem dX3_countIn_48 : decode cX3_countIn 48 = .ok (.iload_n 3, 1) := by decide +kernel
theorem dX3_countIn_49 : decode cX3_countIn 49 = .ok (.invokevirtual 79, 3) := by decide +kernel
theorem dX3_countIn_52 : decode cX3_countIn 52 = .ok (.iload 5, 2) := by decide +kernel
theorem dX3_countIn_54 : decode cX3_countIn 54 = .ok (.invokestatic 82, 3) := by decide +kernel
theorem dX3_countIn_57 : decode cX3_countIn 57 = .ok (.aload_n 0, 1) := by decide +kernel
theorem dX3_countIn_58 : decode cX3_countIn 58 = .ok (.iload 4, 2) := by decide +kernel
theorem dX3_countIn_60 : decode cX3_countIn 60 = .ok (.invokevirtual 79, 3) := by decide +kernel
theorem dX3_countIn_63 : decode cX3_countIn 63 = .ok (.iload 6, 2) := by decide +kernel
theorem dX3_countIn_65 : decode cX3_countIn 65 = .ok (.iconst 1, 1) := by decide +kernel
theorem dX3_countIn_66 : decode cX3_countIn 66 = .ok (.isub, 1) := by decide +kernel
theorem dX3_countIn_67 : decode cX3_countIn 67 = .ok (.invokestatic 82, 3) := by decide +kernel
theorem dX3_countIn_70 : decode cX3_countIn 70 = .ok (.invokevirtual 86, 3) := by decide +kernel
theorem dX3_countIn_73 : decode cX3_countIn 73 = .ok (.aload_n 2, 1) := by decide +kernel
theorem dX3_countIn_74 : decode cX3_countIn 74 = .ok (.aload_n 0, 1) := by decide +kernel
theorem dX3_countIn_75 : decode cX3_countIn 75 = .ok (.iload_n 3, 1) := by decide +kernel
theorem dX3_countIn_76 : decode cX3_countIn 76 = .ok (.invokevirtual 79, 3) := by decide +kernel
theorem dX3_countIn_79 : decode cX3_countIn 79 = .ok (.iload 5, 2) := by decide +kernel
theorem dX3_countIn_81 : decode cX3_countIn 81 = .ok (.iconst 1, 1) := by decide +kernel
theorem dX3_countIn_82 : decode cX3_countIn 82 = .ok (.isub, 1) := by decide +kernel
theorem dX3_countIn_83 : decode cX3_countIn 83 = .ok (.invokestatic 82, 3) := by decide +kernel
theorem dX3_countIn_86 : decode cX3_countIn 86 = .ok (.aload_n 0, 1) := by decide +kernel
theorem dX3_countIn_87 : decode cX3_countIn 87 = .ok (.iload 4, 2) := by decide +kernel
theorem dX3_countIn_89 : decode cX3_countIn 89 = .ok (.invokevirtual 79, 3) := by decide +kernel
theorem dX3_countIn_92 : decode cX3_countIn 92 = .ok (.iload 6, 2) := by decide +kernel
theorem dX3_countIn_94 : decode cX3_countIn 94 = .ok (.invokestatic 82, 3) := by decide +kernel
theorem dX3_countIn_97 : decode cX3_countIn 97 = .ok (.invokevirtual 86, 3) := by decide +kernel
theorem dX3_countIn_100 : decode cX3_countIn 100 = .ok (.iinc 3 1, 3) := by decide +kernel
theorem dX3_countIn_103 : decode cX3_countIn 103 = .ok (.goto (-91), 3) := by decide +kernel
theorem dX3_countIn_106 : decode cX3_countIn 106 = .ok (.aload_n 0, 1) := by decide +kernel
theorem dX3_countIn_107 : decode cX3_countIn 107 = .ok (.invokevirtual 23, 3) := by decide +kernel
theorem dX3_countIn_110 : decode cX3_countIn 110 = .ok (.ifCond .ne 7, 3) := by decide +kernel
theorem dX3_countIn_113 : decode cX3_countIn 113 = .ok (.iconst 2, 1) := by decide +kernel
theorem dX3_countIn_114 : decode cX3_countIn 114 = .ok (.goto 7, 3) := by decide +kernel
theorem dX3_countIn_117 : decode cX3_countIn 117 = .ok (.aload_n 2, 1) := by decide +kernel
theorem dX3_countIn_118 : decode cX3_countIn 118 = .ok (.invokevirtual 90, 3) := by decide +kernel
theorem dX3_countIn_121 : decode cX3_countIn 121 = .ok (.ireturn, 1) := by decide +kernel
theorem dX3_endLeaving_0 : decode cX3_endLeaving 0 = .ok (.aload_n 0, 1) := by decide +kernel
theorem dX3_endLeaving_1 : decode cX3_endLeaving 1 = .ok (.iload_n 1, 1) := by decide +kernel
theorem dX3_endLeaving_2 : decode cX3_endLeaving 2 = .ok (.invokevirtual 92, 3) := by decide +kernel
theorem dX3_endLeaving_5 : decode cX3_endLeaving 5 = .ok (.ifCond .eq 5, 3) := by decide +kernel
theorem dX3_endLeaving_8 : decode cX3_endLeaving 8 = .ok (.iconst 0, 1) := by decide +kernel
theorem dX3_endLeaving_9 : decode cX3_endLeaving 9 = .ok (.ireturn, 1) := by decide +kernel
theorem dX3_endLeaving_10 : decode cX3_endLeaving 10 = .ok (.iload_n 2, 1) := by decide +kernel
theorem dX3_endLeaving_11 : decode cX3_endLeaving 11 = .ok (.aload_n 0, 1) := by decide +kernel
theorem dX3_endLeaving_12 : decode cX3_endLeaving 12 = .ok (.iload_n 1, 1) := by decide +kernel
theorem dX3_endLeaving_13 : decode cX3_endLeaving 13 = .ok (.invokevirtual 79, 3) := by decide +kernel
theorem dX3_endLeaving_16 : decode cX3_endLeaving 16 = .ok (.invokestatic 96, 3) := by decide +kernel
theorem dX3_endLeaving_19 : decode cX3_endLeaving 19 = .ok (.ifCond .eq 7, 3) := by decide +kernel
theorem dX3_endLeaving_22 : decode cX3_endLeaving 22 = .ok (.iconst 3, 1) := by decide +kernel
theorem dX3_endLeaving_23 : decode cX3_endLeaving 23 = .ok (.goto 4, 3) := by decide +kernel
theorem dX3_endLeaving_26 : decode cX3_endLeaving 26 = .ok (.iconst 1, 1) := by decide +kernel
theorem dX3_endLeaving_27 : decode cX3_endLeaving 27 = .ok (.ireturn, 1) := by decide +kernel
theorem dX3_corner_0 : decode cX3_corner 0 = .ok (.iconst 4, 1) := by decide +kernel
theorem dX3_corner_1 : decode cX3_corner 1 = .ok (.iload_n 0, 1) := by decide +kernel
theorem dX3_corner_2 : decode cX3_corner 2 = .ok (.imul, 1) := by decide +kernel
theorem dX3_corner_3 : decode cX3_corner 3 = .ok (.iload_n 1, 1) := by decide +kernel
theorem dX3_corner_4 : decode cX3_corner 4 = .ok (.iconst 3, 1) := by decide +kernel
theorem dX3_corner_5 : decode cX3_corner 5 = .ok (.iand, 1) := by decide +kernel
theorem dX3_corner_6 : decode cX3_corner 6 = .ok (.iadd, 1) := by decide +kernel
theorem dX3_corner_7 : decode cX3_corner 7 = .ok (.ireturn, 1) := by decide +kernel
theorem dX3_numberCorners_0 : decode cX3_numberCorners 0 = .ok (.iconst 0, 1) := by decide +kernel
theorem dX3_numberCorners_1 : decode cX3_numberCorners 1 = .ok (.istore_n 2, 1) := by decide +kernel
theorem dX3_numberCorners_2 : decode cX3_numberCorners 2 = .ok (.iconst 0, 1) := by decide +kernel
theorem dX3_numberCorners_3 : decode cX3_numberCorners 3 = .ok (.istore_n 3, 1) := by decide +kernel
theorem dX3_numberCorners_4 : decode cX3_numberCorners 4 = .ok (.iload_n 3, 1) := by decide +kernel
theorem dX3_numberCorners_5 : decode cX3_numberCorners 5 = .ok (.aload_n 0, 1) := by decide +kernel
theorem dX3_numberCorners_6 : decode cX3_numberCorners 6 = .ok (.getfield 29, 3) := by decide +kernel
theorem dX3_numberCorners_9 : decode cX3_numberCorners 9 = .ok (.arraylength, 1) := by decide +kernel
theorem dX3_numberCorners_10 : decode cX3_numberCorners 10 = .ok (.if_icmp .ge 81, 3) := by decide +kernel
theorem dX3_numberCorners_13 : decode cX3_numberCorners 13 = .ok (.aload_n 1, 1) := by decide +kernel
theorem dX3_numberCorners_14 : decode cX3_numberCorners 14 = .ok (.iload_n 3, 1) := by decide +kernel
theorem dX3_numberCorners_15 : decode cX3_numberCorners 15 = .ok (.invokevirtual 100, 3) := by decide +kernel
theorem dX3_numberCorners_18 : decode cX3_numberCorners 18 = .ok (.istore 4, 2) := by decide +kernel
theorem dX3_numberCorners_20 : decode cX3_numberCorners 20 = .ok (.iload 4, 2) := by decide +kernel
theorem dX3_numberCorners_22 : decode cX3_numberCorners 22 = .ok (.ifCond .lt 25, 3) := by decide +kernel
theorem dX3_numberCorners_25 : decode cX3_numberCorners 25 = .ok (.iload 4, 2) := by decide +kernel
theorem dX3_numberCorners_27 : decode cX3_numberCorners 27 = .ok (.iload_n 3, 1) := by decide +kernel
theorem dX3_numberCorners_28 : decode cX3_numberCorners 28 = .ok (.if_icmp .ge 19, 3) := by decide +kernel
theorem dX3_numberCorners_31 : decode cX3_numberCorners 31 = .ok (.aload_n 0, 1) := by decide +kernel
theorem dX3_numberCorners_32 : decode cX3_numberCorners 32 = .ok (.getfield 29, 3) := by decide +kernel
theorem dX3_numberCorners_35 : decode cX3_numberCorners 35 = .ok (.iload_n 3, 1) := by decide +kernel
theorem dX3_numberCorners_36 : decode cX3_numberCorners 36 = .ok (.aload_n 0, 1) := by decide +kernel
theorem dX3_numberCorners_37 : decode cX3_numberCorners 37 = .ok (.getfield 29, 3) := by decide +kernel
theorem dX3_numberCorners_40 : decode cX3_numberCorners 40 = .ok (.iload 4, 2) := by decide +kernel
theorem dX3_numberCorners_42 : decode cX3_numberCorners 42 = .ok (.iaload, 1) := by decide +kernel
theorem dX3_numberCorners_43 : decode cX3_numberCorners 43 = .ok (.iastore, 1) := by decide +kernel
theorem dX3_numberCorners_44 : decode cX3_numberCorners 44 = .ok (.goto 13, 3) := by decide +kernel
theorem dX3_numberCorners_47 : decode cX3_numberCorners 47 = .ok (.aload_n 0, 1) := by decide +kernel
theorem dX3_numberCorners_48 : decode cX3_numberCorners 48 = .ok (.getfield 29, 3) := by decide +kernel
theorem dX3_numberCorners_51 : decode cX3_numberCorners 51 = .ok (.iload_n 3, 1) := by decide +kernel
theorem dX3_numberCorners_52 : decode cX3_numberCorners 52 = .ok (.iload_n 2, 1) := by decide +kernel
theorem dX3_numberCorners_53 : decode cX3_numberCorners 53 = .ok (.iastore, 1) := by decide +kernel
theorem dX3_numberCorners_54 : decode cX3_numberCorners 54 = .ok (.iinc 2 1, 3) := by decide +kernel
theorem dX3_numberCorners_57 : decode cX3_numberCorners 57 = .ok (.aload_n 0, 1) := by decide +kernel
theorem dX3_numberCorners_58 : decode cX3_numberCorners 58 = .ok (.getfield 29, 3) := by decide +kernel
theorem dX3_numberCorners_61 : decode cX3_numberCorners 61 = .ok (.iload_n 3, 1) := by decide +kernel
theorem dX3_numberCorners_62 : decode cX3_numberCorners 62 = .ok (.iaload, 1) := by decide +kernel
theorem dX3_numberCorners_63 : decode cX3_numberCorners 63 = .ok (.aload_n 0, 1) := by decide +kernel
theorem dX3_numberCorners_64 : decode cX3_numberCorners 64 = .ok (.getfield 19, 3) := by decide +kernel
theorem dX3_numberCorners_67 : decode cX3_numberCorners 67 = .ok (.if_icmp .ge 18, 3) := by decide +kernel
theorem dX3_numberCorners_70 : decode cX3_numberCorners 70 = .ok (.aload_n 0, 1) := by decide +kernel
theorem dX3_numberCorners_71 : decode cX3_numberCorners 71 = .ok (.getfield 33, 3) := by decide +kernel
theorem dX3_numberCorners_74 : decode cX3_numberCorners 74 = .ok (.aload_n 0, 1) := by decide +kernel
theorem dX3_numberCorners_75 : decode cX3_numberCorners 75 = .ok (.getfield 29, 3) := by decide +kernel
theorem dX3_numberCorners_78 : decode cX3_numberCorners 78 = .ok (.iload_n 3, 1) := by decide +kernel
theorem dX3_numberCorners_79 : decode cX3_numberCorners 79 = .ok (.iaload, 1) := by decide +kernel
theorem dX3_numberCorners_80 : decode cX3_numberCorners 80 = .ok (.dup2, 1) := by decide +kernel
theorem dX3_numberCorners_81 : decode cX3_numberCorners 81 = .ok (.iaload, 1) := by decide +kernel
theorem dX3_numberCorners_82 : decode cX3_numberCorners 82 = .ok (.iconst 1, 1) := by decide +kernel
theorem dX3_numberCorners_83 : decode cX3_numberCorners 83 = .ok (.iadd, 1) := by decide +kernel
theorem dX3_numberCorners_84 : decode cX3_numberCorners 84 = .ok (.iastore, 1) := by decide +kernel
theorem dX3_numberCorners_85 : decode cX3_numberCorners 85 = .ok (.iinc 3 1, 3) := by decide +kernel
theorem dX3_numberCorners_88 : decode cX3_numberCorners 88 = .ok (.goto (-84), 3) := by decide +kernel
theorem dX3_numberCorners_91 : decode cX3_numberCorners 91 = .ok (.return_, 1) := by decide +kernel
theorem dX3_findSidesOfSteps_0 : decode cX3_findSidesOfSteps 0 = .ok (.aload_n 0, 1) := by decide +kernel
theorem dX3_findSidesOfSteps_1 : decode cX3_findSidesOfSteps 1 = .ok (.getfield 9, 3) := by decide +kernel
theorem dX3_findSidesOfSteps_4 : decode cX3_findSidesOfSteps 4 = .ok (.invokevirtual 23, 3) := by decide +kernel
theorem dX3_findSidesOfSteps_7 : decode cX3_findSidesOfSteps 7 = .ok (.ifCond .ne 10, 3) := by decide +kernel
theorem dX3_findSidesOfSteps_10 : decode cX3_findSidesOfSteps 10 = .ok (.aload_n 0, 1) := by decide +kernel
theorem dX3_findSidesOfSteps_11 : decode cX3_findSidesOfSteps 11 = .ok (.getfield 42, 3) := by decide +kernel
theorem dX3_findSidesOfSteps_14 : decode cX3_findSidesOfSteps 14 = .ok (.iconst 0, 1) := by decide +kernel
theorem dX3_findSidesOfSteps_15 : decode cX3_findSidesOfSteps 15 = .ok (.iconst 1, 1) := by decide +kernel
theorem dX3_findSidesOfSteps_16 : decode cX3_findSidesOfSteps 16 = .ok (.iastore, 1) := by decide +kernel
theorem dX3_findSidesOfSteps_17 : decode cX3_findSidesOfSteps 17 = .ok (.iconst 0, 1) := by decide +kernel
theorem dX3_findSidesOfSteps_18 : decode cX3_findSidesOfSteps 18 = .ok (.istore_n 2, 1) := by decide +kernel
theorem dX3_findSidesOfSteps_19 : decode cX3_findSidesOfSteps 19 = .ok (.iload_n 2, 1) := by decide +kernel
theorem dX3_findSidesOfSteps_20 : decode cX3_findSidesOfSteps 20 = .ok (.aload_n 0, 1) := by decide +kernel
theorem dX3_findSidesOfSteps_21 : decode cX3_findSidesOfSteps 21 = .ok (.getfield 9, 3) := by decide +kernel
theorem dX3_findSidesOfSteps_24 : decode cX3_findSidesOfSteps 24 = .ok (.invokevirtual 68, 3) := by decide +kernel
theorem dX3_findSidesOfSteps_27 : decode cX3_findSidesOfSteps 27 = .ok (.if_icmp .ge 59, 3) := by decide +kernel
theorem dX3_findSidesOfSteps_30 : decode cX3_findSidesOfSteps 30 = .ok (.aload_n 0, 1) := by decide +kernel
theorem dX3_findSidesOfSteps_31 : decode cX3_findSidesOfSteps 31 = .ok (.getfield 9, 3) := by decide +kernel
theorem dX3_findSidesOfSteps_34 : decode cX3_findSidesOfSteps 34 = .ok (.iload_n 2, 1) := by decide +kernel
theorem dX3_findSidesOfSteps_35 : decode cX3_findSidesOfSteps 35 = .ok (.iload_n 1, 1) := by decide +kernel
theorem dX3_findSidesOfSteps_36 : decode cX3_findSidesOfSteps 36 = .ok (.invokestatic 75, 3) := by decide +kernel
theorem dX3_findSidesOfSteps_39 : decode cX3_findSidesOfSteps 39 = .ok (.istore_n 3, 1) := by decide +kernel
theorem dX3_findSidesOfSteps_40 : decode cX3_findSidesOfSteps 40 = .ok (.aload_n 0, 1) := by decide +kernel
theorem dX3_findSidesOfSteps_41 : decode cX3_findSidesOfSteps 41 = .ok (.getfield 39, 3) := by decide +kernel
theorem dX3_findSidesOfSteps_44 : decode cX3_findSidesOfSteps 44 = .ok (.iload_n 2, 1) := by decide +kernel
theorem dX3_findSidesOfSteps_45 : decode cX3_findSidesOfSteps 45 = .ok (.aload_n 0, 1) := by decide +kernel
theorem dX3_findSidesOfSteps_46 : decode cX3_findSidesOfSteps 46 = .ok (.aload_n 0, 1) := by decide +kernel
theorem dX3_findSidesOfSteps_47 : decode cX3_findSidesOfSteps 47 = .ok (.getfield 9, 3) := by decide +kernel
theorem dX3_findSidesOfSteps_50 : decode cX3_findSidesOfSteps 50 = .ok (.iload_n 2, 1) := by decide +kernel
theorem dX3_findSidesOfSteps_51 : decode cX3_findSidesOfSteps 51 = .ok (.invokevirtual 79, 3) := by decide +kernel
theorem dX3_findSidesOfSteps_54 : decode cX3_findSidesOfSteps 54 = .ok (.iload_n 3, 1) := by decide +kernel
theorem dX3_findSidesOfSteps_55 : decode cX3_findSidesOfSteps 55 = .ok (.invokevirtual 103, 3) := by decide +kernel
theorem dX3_findSidesOfSteps_58 : decode cX3_findSidesOfSteps 58 = .ok (.iastore, 1) := by decide +kernel
theorem dX3_findSidesOfSteps_59 : decode cX3_findSidesOfSteps 59 = .ok (.aload_n 0, 1) := by decide +kernel
theorem dX3_findSidesOfSteps_60 : decode cX3_findSidesOfSteps 60 = .ok (.getfield 42, 3) := by decide +kernel
theorem dX3_findSidesOfSteps_63 : decode cX3_findSidesOfSteps 63 = .ok (.iload_n 2, 1) := by decide +kernel
theorem dX3_findSidesOfSteps_64 : decode cX3_findSidesOfSteps 64 = .ok (.aload_n 0, 1) := by decide +kernel
theorem dX3_findSidesOfSteps_65 : decode cX3_findSidesOfSteps 65 = .ok (.aload_n 0, 1) := by decide +kernel
theorem dX3_findSidesOfSteps_66 : decode cX3_findSidesOfSteps 66 = .ok (.getfield 9, 3) := by decide +kernel
theorem dX3_findSidesOfSteps_69 : decode cX3_findSidesOfSteps 69 = .ok (.iload_n 2, 1) := by decide +kernel
theorem dX3_findSidesOfSteps_70 : decode cX3_findSidesOfSteps 70 = .ok (.invokevirtual 79, 3) := by decide +kernel
theorem dX3_findSidesOfSteps_73 : decode cX3_findSidesOfSteps 73 = .ok (.iload_n 3, 1) := by decide +kernel
theorem dX3_findSidesOfSteps_74 : decode cX3_findSidesOfSteps 74 = .ok (.iconst 1, 1) := by decide +kernel
theorem dX3_findSidesOfSteps_75 : decode cX3_findSidesOfSteps 75 = .ok (.isub, 1) := by decide +kernel
theorem dX3_findSidesOfSteps_76 : decode cX3_findSidesOfSteps 76 = .ok (.invokevirtual 103, 3) := by decide +kernel
theorem dX3_findSidesOfSteps_79 : decode cX3_findSidesOfSteps 79 = .ok (.iastore, 1) := by decide +kernel
theorem dX3_findSidesOfSteps_80 : decode cX3_findSidesOfSteps 80 = .ok (.iinc 2 1, 3) := by decide +kernel
theorem dX3_findSidesOfSteps_83 : decode cX3_findSidesOfSteps 83 = .ok (.goto (-64), 3) := by decide +kernel
theorem dX3_findSidesOfSteps_86 : decode cX3_findSidesOfSteps 86 = .ok (.return_, 1) := by decide +kernel
theorem dX3_findIndexes_0 : decode cX3_findIndexes 0 = .ok (.aload_n 0, 1) := by decide +kernel
theorem dX3_findIndexes_1 : decode cX3_findIndexes 1 = .ok (.getfield 19, 3) := by decide +kernel
theorem dX3_findIndexes_4 : decode cX3_findIndexes 4 = .ok (.newarray .boolean, 2) := by decide +kernel
theorem dX3_findIndexes_6 : decode cX3_findIndexes 6 = .ok (.astore_n 1, 1) := by decide +kernel
theorem dX3_findIndexes_7 : decode cX3_findIndexes 7 = .ok (.aload_n 1, 1) := by decide +kernel
theorem dX3_findIndexes_8 : decode cX3_findIndexes 8 = .ok (.iconst 0, 1) := by decide +kernel
theorem dX3_findIndexes_9 : decode cX3_findIndexes 9 = .ok (.iconst 1, 1) := by decide +kernel
theorem dX3_findIndexes_10 : decode cX3_findIndexes 10 = .ok (.bastore, 1) := by decide +kernel
theorem dX3_findIndexes_11 : decode cX3_findIndexes 11 = .ok (.iconst 0, 1) := by decide +kernel
theorem dX3_findIndexes_12 : decode cX3_findIndexes 12 = .ok (.istore_n 2, 1) := by decide +kernel
theorem dX3_findIndexes_13 : decode cX3_findIndexes 13 = .ok (.iload_n 2, 1) := by decide +kernel
theorem dX3_findIndexes_14 : decode cX3_findIndexes 14 = .ok (.aload_n 0, 1) := by decide +kernel
theorem dX3_findIndexes_15 : decode cX3_findIndexes 15 = .ok (.getfield 19, 3) := by decide +kernel
theorem dX3_findIndexes_18 : decode cX3_findIndexes 18 = .ok (.if_icmp .ge 115, 3) := by decide +kernel
theorem dX3_findIndexes_21 : decode cX3_findIndexes 21 = .ok (.iconst 0, 1) := by decide +kernel
theorem dX3_findIndexes_22 : decode cX3_findIndexes 22 = .ok (.istore_n 3, 1) := by decide +kernel
theorem dX3_findIndexes_23 : decode cX3_findIndexes 23 = .ok (.iload_n 3, 1) := by decide +kernel
theorem dX3_findIndexes_24 : decode cX3_findIndexes 24 = .ok (.aload_n 0, 1) := by decide +kernel
theorem dX3_findIndexes_25 : decode cX3_findIndexes 25 = .ok (.getfield 39, 3) := by decide +kernel
theorem dX3_findIndexes_28 : decode cX3_findIndexes 28 = .ok (.arraylength, 1) := by decide +kernel
theorem dX3_findIndexes_29 : decode cX3_findIndexes 29 = .ok (.if_icmp .ge 98, 3) := by decide +kernel
theorem dX3_findIndexes_32 : decode cX3_findIndexes 32 = .ok (.aload_n 0, 1) := by decide +kernel
theorem dX3_findIndexes_33 : decode cX3_findIndexes 33 = .ok (.getfield 39, 3) := by decide +kernel
theorem dX3_findIndexes_36 : decode cX3_findIndexes 36 = .ok (.iload_n 3, 1) := by decide +kernel
theorem dX3_findIndexes_37 : decode cX3_findIndexes 37 = .ok (.iaload, 1) := by decide +kernel
theorem dX3_findIndexes_38 : decode cX3_findIndexes 38 = .ok (.istore 4, 2) := by decide +kernel
theorem dX3_findIndexes_40 : decode cX3_findIndexes 40 = .ok (.aload_n 0, 1) := by decide +kernel
theorem dX3_findIndexes_41 : decode cX3_findIndexes 41 = .ok (.getfield 42, 3) := by decide +kernel
theorem dX3_findIndexes_44 : decode cX3_findIndexes 44 = .ok (.iload_n 3, 1) := by decide +kernel
theorem dX3_findIndexes_45 : decode cX3_findIndexes 45 = .ok (.iaload, 1) := by decide +kernel
theorem dX3_findIndexes_46 : decode cX3_findIndexes 46 = .ok (.istore 5, 2) := by decide +kernel
theorem dX3_findIndexes_48 : decode cX3_findIndexes 48 = .ok (.aload_n 1, 1) := by decide +kernel
theorem dX3_findIndexes_49 : decode cX3_findIndexes 49 = .ok (.iload 4, 2) := by decide +kernel
theorem dX3_findIndexes_51 : decode cX3_findIndexes 51 = .ok (.baload, 1) := by decide +kernel
theorem dX3_findIndexes_52 : decode cX3_findIndexes 52 = .ok (.ifCond .eq 34, 3) := by decide +kernel
theorem dX3_findIndexes_55 : decode cX3_findIndexes 55 = .ok (.aload_n 1, 1) := by decide +kernel
theorem dX3_findIndexes_56 : decode cX3_findIndexes 56 = .ok (.iload 5, 2) := by decide +kernel
theorem dX3_findIndexes_58 : decode cX3_findIndexes 58 = .ok (.baload, 1) := by decide +kernel
theorem dX3_findIndexes_59 : decode cX3_findIndexes 59 = .ok (.ifCond .ne 27, 3) := by decide +kernel
theorem dX3_findIndexes_62 : decode cX3_findIndexes 62 = .ok (.aload_n 0, 1) := by decide +kernel
theorem dX3_findIndexes_63 : decode cX3_findIndexes 63 = .ok (.getfield 45, 3) := by decide +kernel
theorem dX3_findIndexes_66 : decode cX3_findIndexes 66 = .ok (.iload 5, 2) := by decide +kernel
theorem dX3_findIndexes_68 : decode cX3_findIndexes 68 = .ok (.aload_n 0, 1) := by decide +kernel
theorem dX3_findIndexes_69 : decode cX3_findIndexes 69 = .ok (.getfield 45, 3) := by decide +kernel
theorem dX3_findIndexes_72 : decode cX3_findIndexes 72 = .ok (.iload 4, 2) := by decide +kernel
theorem dX3_findIndexes_74 : decode cX3_findIndexes 74 = .ok (.iaload, 1) := by decide +kernel
theorem dX3_findIndexes_75 : decode cX3_findIndexes 75 = .ok (.iconst 1, 1) := by decide +kernel
theorem dX3_findIndexes_76 : decode cX3_findIndexes 76 = .ok (.isub, 1) := by decide +kernel
theorem dX3_findIndexes_77 : decode cX3_findIndexes 77 = .ok (.iastore, 1) := by decide +kernel
theorem dX3_findIndexes_78 : decode cX3_findIndexes 78 = .ok (.aload_n 1, 1) := by decide +kernel
theorem dX3_findIndexes_79 : decode cX3_findIndexes 79 = .ok (.iload 5, 2) := by decide +kernel
theorem dX3_findIndexes_81 : decode cX3_findIndexes 81 = .ok (.iconst 1, 1) := by decide +kernel
theorem dX3_findIndexes_82 : decode cX3_findIndexes 82 = .ok (.bastore, 1) := by decide +kernel
theorem dX3_findIndexes_83 : decode cX3_findIndexes 83 = .ok (.goto 38, 3) := by decide +kernel
theorem dX3_findIndexes_86 : decode cX3_findIndexes 86 = .ok (.aload_n 1, 1) := by decide +kernel
theorem dX3_findIndexes_87 : decode cX3_findIndexes 87 = .ok (.iload 5, 2) := by decide +kernel
theorem dX3_findIndexes_89 : decode cX3_findIndexes 89 = .ok (.baload, 1) := by decide +kernel
theorem dX3_findIndexes_90 : decode cX3_findIndexes 90 = .ok (.ifCond .eq 31, 3) := by decide +kernel
theorem dX3_findIndexes_93 : decode cX3_findIndexes 93 = .ok (.aload_n 1, 1) := by decide +kernel
theorem dX3_findIndexes_94 : decode cX3_findIndexes 94 = .ok (.iload 4, 2) := by decide +kernel
theorem dX3_findIndexes_96 : decode cX3_findIndexes 96 = .ok (.baload, 1) := by decide +kernel
theorem dX3_findIndexes_97 : decode cX3_findIndexes 97 = .ok (.ifCond .ne 24, 3) := by decide +kernel
theorem dX3_findIndexes_100 : decode cX3_findIndexes 100 = .ok (.aload_n 0, 1) := by decide +kernel
theorem dX3_findIndexes_101 : decode cX3_findIndexes 101 = .ok (.getfield 45, 3) := by decide +kernel
theorem dX3_findIndexes_104 : decode cX3_findIndexes 104 = .ok (.iload 4, 2) := by decide +kernel
theorem dX3_findIndexes_106 : decode cX3_findIndexes 106 = .ok (.aload_n 0, 1) := by decide +kernel
theorem dX3_findIndexes_107 : decode cX3_findIndexes 107 = .ok (.getfield 45, 3) := by decide +kernel
theorem dX3_findIndexes_110 : decode cX3_findIndexes 110 = .ok (.iload 5, 2) := by decide +kernel
theorem dX3_findIndexes_112 : decode cX3_findIndexes 112 = .ok (.iaload, 1) := by decide +kernel
theorem dX3_findIndexes_113 : decode cX3_findIndexes 113 = .ok (.iconst 1, 1) := by decide +kernel
theorem dX3_findIndexes_114 : decode cX3_findIndexes 114 = .ok (.iadd, 1) := by decide +kernel
theorem dX3_findIndexes_115 : decode cX3_findIndexes 115 = .ok (.iastore, 1) := by decide +kernel
theorem dX3_findIndexes_116 : decode cX3_findIndexes 116 = .ok (.aload_n 1, 1) := by decide +kernel
theorem dX3_findIndexes_117 : decode cX3_findIndexes 117 = .ok (.iload 4, 2) := by decide +kernel
theorem dX3_findIndexes_119 : decode cX3_findIndexes 119 = .ok (.iconst 1, 1) := by decide +kernel
theorem dX3_findIndexes_120 : decode cX3_findIndexes 120 = .ok (.bastore, 1) := by decide +kernel
theorem dX3_findIndexes_121 : decode cX3_findIndexes 121 = .ok (.iinc 3 1, 3) := by decide +kernel
theorem dX3_findIndexes_124 : decode cX3_findIndexes 124 = .ok (.goto (-101), 3) := by decide +kernel
theorem dX3_findIndexes_127 : decode cX3_findIndexes 127 = .ok (.iinc 2 1, 3) := by decide +kernel
theorem dX3_findIndexes_130 : decode cX3_findIndexes 130 = .ok (.goto (-117), 3) := by decide +kernel
theorem dX3_findIndexes_133 : decode cX3_findIndexes 133 = .ok (.return_, 1) := by decide +kernel
theorem dX3_count_0 : decode cX3_count 0 = .ok (.aload_n 0, 1) := by decide +kernel
theorem dX3_count_1 : decode cX3_count 1 = .ok (.getfield 19, 3) := by decide +kernel
theorem dX3_count_4 : decode cX3_count 4 = .ok (.ireturn, 1) := by decide +kernel
theorem dX3_handles_0 : decode cX3_handles 0 = .ok (.aload_n 0, 1) := by decide +kernel
theorem dX3_handles_1 : decode cX3_handles 1 = .ok (.getfield 9, 3) := by decide +kernel
theorem dX3_handles_4 : decode cX3_handles 4 = .ok (.invokevirtual 23, 3) := by decide +kernel
theorem dX3_handles_7 : decode cX3_handles 7 = .ok (.iconst 2, 1) := by decide +kernel
theorem dX3_handles_8 : decode cX3_handles 8 = .ok (.iadd, 1) := by decide +kernel
theorem dX3_handles_9 : decode cX3_handles 9 = .ok (.aload_n 0, 1) := by decide +kernel
theorem dX3_handles_10 : decode cX3_handles 10 = .ok (.getfield 19, 3) := by decide +kernel
theorem dX3_handles_13 : decode cX3_handles 13 = .ok (.isub, 1) := by decide +kernel
theorem dX3_handles_14 : decode cX3_handles 14 = .ok (.iconst 2, 1) := by decide +kernel
theorem dX3_handles_15 : decode cX3_handles 15 = .ok (.idiv, 1) := by decide +kernel
theorem dX3_handles_16 : decode cX3_handles 16 = .ok (.ireturn, 1) := by decide +kernel
theorem dX3_isPlane_0 : decode cX3_isPlane 0 = .ok (.aload_n 0, 1) := by decide +kernel
theorem dX3_isPlane_1 : decode cX3_isPlane 1 = .ok (.getfield 48, 3) := by decide +kernel
theorem dX3_isPlane_4 : decode cX3_isPlane 4 = .ok (.ireturn, 1) := by decide +kernel
theorem dX3_hasFace_0 : decode cX3_hasFace 0 = .ok (.iload_n 1, 1) := by decide +kernel
theorem dX3_hasFace_1 : decode cX3_hasFace 1 = .ok (.ifCond .lt 15, 3) := by decide +kernel
theorem dX3_hasFace_4 : decode cX3_hasFace 4 = .ok (.iload_n 1, 1) := by decide +kernel
theorem dX3_hasFace_5 : decode cX3_hasFace 5 = .ok (.aload_n 0, 1) := by decide +kernel
theorem dX3_hasFace_6 : decode cX3_hasFace 6 = .ok (.getfield 19, 3) := by decide +kernel
theorem dX3_hasFace_9 : decode cX3_hasFace 9 = .ok (.if_icmp .ge 7, 3) := by decide +kernel
theorem dX3_hasFace_12 : decode cX3_hasFace 12 = .ok (.iconst 1, 1) := by decide +kernel
theorem dX3_hasFace_13 : decode cX3_hasFace 13 = .ok (.goto 4, 3) := by decide +kernel
theorem dX3_hasFace_16 : decode cX3_hasFace 16 = .ok (.iconst 0, 1) := by decide +kernel
theorem dX3_hasFace_17 : decode cX3_hasFace 17 = .ok (.ireturn, 1) := by decide +kernel
theorem dX3_faceOf_0 : decode cX3_faceOf 0 = .ok (.iload_n 1, 1) := by decide +kernel
theorem dX3_faceOf_1 : decode cX3_faceOf 1 = .ok (.iload_n 2, 1) := by decide +kernel
theorem dX3_faceOf_2 : decode cX3_faceOf 2 = .ok (.invokestatic 82, 3) := by decide +kernel
theorem dX3_faceOf_5 : decode cX3_faceOf 5 = .ok (.istore_n 3, 1) := by decide +kernel
theorem dX3_faceOf_6 : decode cX3_faceOf 6 = .ok (.iload_n 3, 1) := by decide +kernel
theorem dX3_faceOf_7 : decode cX3_faceOf 7 = .ok (.ifCond .lt 21, 3) := by decide +kernel
theorem dX3_faceOf_10 : decode cX3_faceOf 10 = .ok (.iload_n 3, 1) := by decide +kernel
theorem dX3_faceOf_11 : decode cX3_faceOf 11 = .ok (.aload_n 0, 1) := by decide +kernel
theorem dX3_faceOf_12 : decode cX3_faceOf 12 = .ok (.getfield 29, 3) := by decide +kernel
theorem dX3_faceOf_15 : decode cX3_faceOf 15 = .ok (.arraylength, 1) := by decide +kernel
theorem dX3_faceOf_16 : decode cX3_faceOf 16 = .ok (.if_icmp .ge 12, 3) := by decide +kernel
theorem dX3_faceOf_19 : decode cX3_faceOf 19 = .ok (.aload_n 0, 1) := by decide +kernel
theorem dX3_faceOf_20 : decode cX3_faceOf 20 = .ok (.getfield 29, 3) := by decide +kernel
theorem dX3_faceOf_23 : decode cX3_faceOf 23 = .ok (.iload_n 3, 1) := by decide +kernel
theorem dX3_faceOf_24 : decode cX3_faceOf 24 = .ok (.iaload, 1) := by decide +kernel
theorem dX3_faceOf_25 : decode cX3_faceOf 25 = .ok (.goto 4, 3) := by decide +kernel
theorem dX3_faceOf_28 : decode cX3_faceOf 28 = .ok (.iconst 0, 1) := by decide +kernel
theorem dX3_faceOf_29 : decode cX3_faceOf 29 = .ok (.ireturn, 1) := by decide +kernel
theorem dX3_sizeOf_0 : decode cX3_sizeOf 0 = .ok (.aload_n 0, 1) := by decide +kernel
theorem dX3_sizeOf_1 : decode cX3_sizeOf 1 = .ok (.iload_n 1, 1) := by decide +kernel
theorem dX3_sizeOf_2 : decode cX3_sizeOf 2 = .ok (.invokevirtual 106, 3) := by decide +kernel
theorem dX3_sizeOf_5 : decode cX3_sizeOf 5 = .ok (.ifCond .eq 12, 3) := by decide +kernel
theorem dX3_sizeOf_8 : decode cX3_sizeOf 8 = .ok (.aload_n 0, 1) := by decide +kernel
theorem dX3_sizeOf_9 : decode cX3_sizeOf 9 = .ok (.getfield 33, 3) := by decide +kernel
theorem dX3_sizeOf_12 : decode cX3_sizeOf 12 = .ok (.iload_n 1, 1) := by decide +kernel
theorem dX3_sizeOf_13 : decode cX3_sizeOf 13 = .ok (.iaload, 1) := by decide +kernel
theorem dX3_sizeOf_14 : decode cX3_sizeOf 14 = .ok (.goto 4, 3) := by decide +kernel
theorem dX3_sizeOf_17 : decode cX3_sizeOf 17 = .ok (.iconst 0, 1) := by decide +kernel
theorem dX3_sizeOf_18 : decode cX3_sizeOf 18 = .ok (.ireturn, 1) := by decide +kernel
theorem dX3_countOfSize_0 : decode cX3_countOfSize 0 = .ok (.iconst 0, 1) := by decide +kernel
theorem dX3_countOfSize_1 : decode cX3_countOfSize 1 = .ok (.istore_n 2, 1) := by decide +kernel
theorem dX3_countOfSize_2 : decode cX3_countOfSize 2 = .ok (.iconst 0, 1) := by decide +kernel
theorem dX3_countOfSize_3 : decode cX3_countOfSize 3 = .ok (.istore_n 3, 1) := by decide +kernel
theorem dX3_countOfSize_4 : decode cX3_countOfSize 4 = .ok (.iload_n 3, 1) := by decide +kernel
theorem dX3_countOfSize_5 : decode cX3_countOfSize 5 = .ok (.aload_n 0, 1) := by decide +kernel
theorem dX3_countOfSize_6 : decode cX3_countOfSize 6 = .ok (.getfield 19, 3) := by decide +kernel
theorem dX3_countOfSize_9 : decode cX3_countOfSize 9 = .ok (.if_icmp .ge 22, 3) := by decide +kernel
theorem dX3_countOfSize_12 : decode cX3_countOfSize 12 = .ok (.aload_n 0, 1) := by decide +kernel
theorem dX3_countOfSize_13 : decode cX3_countOfSize 13 = .ok (.getfield 33, 3) := by decide +kernel
theorem dX3_countOfSize_16 : decode cX3_countOfSize 16 = .ok (.iload_n 3, 1) := by decide +kernel
theorem dX3_countOfSize_17 : decode cX3_countOfSize 17 = .ok (.iaload, 1) := by decide +kernel
theorem dX3_countOfSize_18 : decode cX3_countOfSize 18 = .ok (.iload_n 1, 1) := by decide +kernel
theorem dX3_countOfSize_19 : decode cX3_countOfSize 19 = .ok (.if_icmp .ne 6, 3) := by decide +kernel
theorem dX3_countOfSize_22 : decode cX3_countOfSize 22 = .ok (.iinc 2 1, 3) := by decide +kernel
theorem dX3_countOfSize_25 : decode cX3_countOfSize 25 = .ok (.iinc 3 1, 3) := by decide +kernel
theorem dX3_countOfSize_28 : decode cX3_countOfSize 28 = .ok (.goto (-24), 3) := by decide +kernel
theorem dX3_countOfSize_31 : decode cX3_countOfSize 31 = .ok (.iload_n 2, 1) := by decide +kernel
theorem dX3_countOfSize_32 : decode cX3_countOfSize 32 = .ok (.ireturn, 1) := by decide +kernel
theorem dX3_indexOf_0 : decode cX3_indexOf 0 = .ok (.aload_n 0, 1) := by decide +kernel
theorem dX3_indexOf_1 : decode cX3_indexOf 1 = .ok (.iload_n 1, 1) := by decide +kernel
theorem dX3_indexOf_2 : decode cX3_indexOf 2 = .ok (.invokevirtual 106, 3) := by decide +kernel
theorem dX3_indexOf_5 : decode cX3_indexOf 5 = .ok (.ifCond .eq 12, 3) := by decide +kernel
theorem dX3_indexOf_8 : decode cX3_indexOf 8 = .ok (.aload_n 0, 1) := by decide +kernel
theorem dX3_indexOf_9 : decode cX3_indexOf 9 = .ok (.getfield 45, 3) := by decide +kernel
theorem dX3_indexOf_12 : decode cX3_indexOf 12 = .ok (.iload_n 1, 1) := by decide +kernel
theorem dX3_indexOf_13 : decode cX3_indexOf 13 = .ok (.iaload, 1) := by decide +kernel
theorem dX3_indexOf_14 : decode cX3_indexOf 14 = .ok (.goto 4, 3) := by decide +kernel
theorem dX3_indexOf_17 : decode cX3_indexOf 17 = .ok (.iconst 0, 1) := by decide +kernel
theorem dX3_indexOf_18 : decode cX3_indexOf 18 = .ok (.ireturn, 1) := by decide +kernel
theorem dX3_isDark_0 : decode cX3_isDark 0 = .ok (.aload_n 0, 1) := by decide +kernel
theorem dX3_isDark_1 : decode cX3_isDark 1 = .ok (.iload_n 1, 1) := by decide +kernel
theorem dX3_isDark_2 : decode cX3_isDark 2 = .ok (.invokevirtual 109, 3) := by decide +kernel
theorem dX3_isDark_5 : decode cX3_isDark 5 = .ok (.aload_n 0, 1) := by decide +kernel
theorem dX3_isDark_6 : decode cX3_isDark 6 = .ok (.aload_n 0, 1) := by decide +kernel
theorem dX3_isDark_7 : decode cX3_isDark 7 = .ok (.getfield 39, 3) := by decide +kernel
theorem dX3_isDark_10 : decode cX3_isDark 10 = .ok (.iconst 0, 1) := by decide +kernel
theorem dX3_isDark_11 : decode cX3_isDark 11 = .ok (.iaload, 1) := by decide +kernel
theorem dX3_isDark_12 : decode cX3_isDark 12 = .ok (.invokevirtual 109, 3) := by decide +kernel
theorem dX3_isDark_15 : decode cX3_isDark 15 = .ok (.isub, 1) := by decide +kernel
theorem dX3_isDark_16 : decode cX3_isDark 16 = .ok (.invokestatic 112, 3) := by decide +kernel
theorem dX3_isDark_19 : decode cX3_isDark 19 = .ok (.ireturn, 1) := by decide +kernel
theorem dX3_middle_0 : decode cX3_middle 0 = .ok (.iconst 0, 1) := by decide +kernel
theorem dX3_middle_1 : decode cX3_middle 1 = .ok (.istore_n 2, 1) := by decide +kernel
theorem dX3_middle_2 : decode cX3_middle 2 = .ok (.iconst 0, 1) := by decide +kernel
theorem dX3_middle_3 : decode cX3_middle 3 = .ok (.istore_n 3, 1) := by decide +kernel
theorem dX3_middle_4 : decode cX3_middle 4 = .ok (.iload_n 3, 1) := by decide +kernel
theorem dX3_middle_5 : decode cX3_middle 5 = .ok (.iconst 4, 1) := by decide +kernel
theorem dX3_middle_6 : decode cX3_middle 6 = .ok (.if_icmp .ge 22, 3) := by decide +kernel
theorem dX3_middle_9 : decode cX3_middle 9 = .ok (.iload_n 2, 1) := by decide +kernel
theorem dX3_middle_10 : decode cX3_middle 10 = .ok (.aload_n 0, 1) := by decide +kernel
theorem dX3_middle_11 : decode cX3_middle 11 = .ok (.aload_n 0, 1) := by decide +kernel
theorem dX3_middle_12 : decode cX3_middle 12 = .ok (.iload_n 1, 1) := by decide +kernel
theorem dX3_middle_13 : decode cX3_middle 13 = .ok (.iload_n 3, 1) := by decide +kernel
theorem dX3_middle_14 : decode cX3_middle 14 = .ok (.invokevirtual 103, 3) := by decide +kernel
theorem dX3_middle_17 : decode cX3_middle 17 = .ok (.invokevirtual 109, 3) := by decide +kernel
theorem dX3_middle_20 : decode cX3_middle 20 = .ok (.iadd, 1) := by decide +kernel
theorem dX3_middle_21 : decode cX3_middle 21 = .ok (.istore_n 2, 1) := by decide +kernel
theorem dX3_middle_22 : decode cX3_middle 22 = .ok (.iinc 3 1, 3) := by decide +kernel
theorem dX3_middle_25 : decode cX3_middle 25 = .ok (.goto (-21), 3) := by decide +kernel
theorem dX3_middle_28 : decode cX3_middle 28 = .ok (.iload_n 2, 1) := by decide +kernel
theorem dX3_middle_29 : decode cX3_middle 29 = .ok (.iconst 4, 1) := by decide +kernel
theorem dX3_middle_30 : decode cX3_middle 30 = .ok (.idiv, 1) := by decide +kernel
theorem dX3_middle_31 : decode cX3_middle 31 = .ok (.ireturn, 1) := by decide +kernel
theorem dX3_turnsAround_0 : decode cX3_turnsAround 0 = .ok (.bipush (-2), 2) := by decide +kernel
theorem dX3_turnsAround_2 : decode cX3_turnsAround 2 = .ok (.aload_n 0, 1) := by decide +kernel
theorem dX3_turnsAround_3 : decode cX3_turnsAround 3 = .ok (.iload_n 1, 1) := by decide +kernel
theorem dX3_turnsAround_4 : decode cX3_turnsAround 4 = .ok (.invokevirtual 109, 3) := by decide +kernel
theorem dX3_turnsAround_7 : decode cX3_turnsAround 7 = .ok (.imul, 1) := by decide +kernel
theorem dX3_turnsAround_8 : decode cX3_turnsAround 8 = .ok (.istore_n 2, 1) := by decide +kernel
theorem dX3_turnsAround_9 : decode cX3_turnsAround 9 = .ok (.iconst 0, 1) := by decide +kernel
theorem dX3_turnsAround_10 : decode cX3_turnsAround 10 = .ok (.istore_n 3, 1) := by decide +kernel
theorem dX3_turnsAround_11 : decode cX3_turnsAround 11 = .ok (.iload_n 3, 1) := by decide +kernel
theorem dX3_turnsAround_12 : decode cX3_turnsAround 12 = .ok (.aload_n 0, 1) := by decide +kernel
theorem dX3_turnsAround_13 : decode cX3_turnsAround 13 = .ok (.getfield 19, 3) := by decide +kernel
theorem dX3_turnsAround_16 : decode cX3_turnsAround 16 = .ok (.if_icmp .ge 18, 3) := by decide +kernel
theorem dX3_turnsAround_19 : decode cX3_turnsAround 19 = .ok (.iload_n 2, 1) := by decide +kernel
theorem dX3_turnsAround_20 : decode cX3_turnsAround 20 = .ok (.aload_n 0, 1) := by decide +kernel
theorem dX3_turnsAround_21 : decode cX3_turnsAround 21 = .ok (.getfield 45, 3) := by decide +kernel
theorem dX3_turnsAround_24 : decode cX3_turnsAround 24 = .ok (.iload_n 3, 1) := by decide +kernel
theorem dX3_turnsAround_25 : decode cX3_turnsAround 25 = .ok (.iaload, 1) := by decide +kernel
theorem dX3_turnsAround_26 : decode cX3_turnsAround 26 = .ok (.iadd, 1) := by decide +kernel
theorem dX3_turnsAround_27 : decode cX3_turnsAround 27 = .ok (.istore_n 2, 1) := by decide +kernel
theorem dX3_turnsAround_28 : decode cX3_turnsAround 28 = .ok (.iinc 3 1, 3) := by decide +kernel
theorem dX3_turnsAround_31 : decode cX3_turnsAround 31 = .ok (.goto (-20), 3) := by decide +kernel
theorem dX3_turnsAround_34 : decode cX3_turnsAround 34 = .ok (.iconst 0, 1) := by decide +kernel
theorem dX3_turnsAround_35 : decode cX3_turnsAround 35 = .ok (.istore_n 3, 1) := by decide +kernel
theorem dX3_turnsAround_36 : decode cX3_turnsAround 36 = .ok (.iload_n 3, 1) := by decide +kernel
theorem dX3_turnsAround_37 : decode cX3_turnsAround 37 = .ok (.aload_n 0, 1) := by decide +kernel
theorem dX3_turnsAround_38 : decode cX3_turnsAround 38 = .ok (.getfield 9, 3) := by decide +kernel
theorem dX3_turnsAround_41 : decode cX3_turnsAround 41 = .ok (.invokevirtual 23, 3) := by decide +kernel
theorem dX3_turnsAround_44 : decode cX3_turnsAround 44 = .ok (.if_icmp .ge 17, 3) := by decide +kernel
theorem dX3_turnsAround_47 : decode cX3_turnsAround 47 = .ok (.iload_n 2, 1) := by decide +kernel
theorem dX3_turnsAround_48 : decode cX3_turnsAround 48 = .ok (.aload_n 0, 1) := by decide +kernel
theorem dX3_turnsAround_49 : decode cX3_turnsAround 49 = .ok (.iload_n 3, 1) := by decide +kernel
theorem dX3_turnsAround_50 : decode cX3_turnsAround 50 = .ok (.invokevirtual 115, 3) := by decide +kernel
theorem dX3_turnsAround_53 : decode cX3_turnsAround 53 = .ok (.isub, 1) := by decide +kernel
theorem dX3_turnsAround_54 : decode cX3_turnsAround 54 = .ok (.istore_n 2, 1) := by decide +kernel
theorem dX3_turnsAround_55 : decode cX3_turnsAround 55 = .ok (.iinc 3 1, 3) := by decide +kernel
theorem dX3_turnsAround_58 : decode cX3_turnsAround 58 = .ok (.goto (-22), 3) := by decide +kernel
theorem dX3_turnsAround_61 : decode cX3_turnsAround 61 = .ok (.iload_n 2, 1) := by decide +kernel
theorem dX3_turnsAround_62 : decode cX3_turnsAround 62 = .ok (.ireturn, 1) := by decide +kernel
theorem dX3_trees_0 : decode cX3_trees 0 = .ok (.aload_n 0, 1) := by decide +kernel
theorem dX3_trees_1 : decode cX3_trees 1 = .ok (.getfield 48, 3) := by decide +kernel
theorem dX3_trees_4 : decode cX3_trees 4 = .ok (.ifCond .ne 5, 3) := by decide +kernel
theorem dX3_trees_7 : decode cX3_trees 7 = .ok (.iconst (-1), 1) := by decide +kernel
theorem dX3_trees_8 : decode cX3_trees 8 = .ok (.ireturn, 1) := by decide +kernel
theorem dX3_trees_9 : decode cX3_trees 9 = .ok (.aload_n 0, 1) := by decide +kernel
theorem dX3_trees_10 : decode cX3_trees 10 = .ok (.iload_n 1, 1) := by decide +kernel
theorem dX3_trees_11 : decode cX3_trees 11 = .ok (.invokevirtual 118, 3) := by decide +kernel
theorem dX3_trees_14 : decode cX3_trees 14 = .ok (.iconst 1, 1) := by decide +kernel
theorem dX3_trees_15 : decode cX3_trees 15 = .ok (.isub, 1) := by decide +kernel
theorem dX3_trees_16 : decode cX3_trees 16 = .ok (.istore_n 3, 1) := by decide +kernel
theorem dX3_trees_17 : decode cX3_trees 17 = .ok (.iconst 0, 1) := by decide +kernel
theorem dX3_trees_18 : decode cX3_trees 18 = .ok (.istore 4, 2) := by decide +kernel
theorem dX3_trees_20 : decode cX3_trees 20 = .ok (.iconst 0, 1) := by decide +kernel
theorem dX3_trees_21 : decode cX3_trees 21 = .ok (.istore 5, 2) := by decide +kernel
theorem dX3_trees_23 : decode cX3_trees 23 = .ok (.iload 5, 2) := by decide +kernel
theorem dX3_trees_25 : decode cX3_trees 25 = .ok (.iconst 1, 1) := by decide +kernel
theorem dX3_trees_26 : decode cX3_trees 26 = .ok (.aload_n 0, 1) := by decide +kernel
theorem dX3_trees_27 : decode cX3_trees 27 = .ok (.getfield 9, 3) := by decide +kernel
theorem dX3_trees_30 : decode cX3_trees 30 = .ok (.invokevirtual 23, 3) := by decide +kernel
theorem dX3_trees_33 : decode cX3_trees 33 = .ok (.ishl, 1) := by decide +kernel
theorem dX3_trees_34 : decode cX3_trees 34 = .ok (.if_icmp .ge 38, 3) := by decide +kernel
theorem dX3_trees_37 : decode cX3_trees 37 = .ok (.iload 5, 2) := by decide +kernel
theorem dX3_trees_39 : decode cX3_trees 39 = .ok (.invokestatic 122, 3) := by decide +kernel
theorem dX3_trees_42 : decode cX3_trees 42 = .ok (.iload_n 3, 1) := by decide +kernel
theorem dX3_trees_43 : decode cX3_trees 43 = .ok (.if_icmp .ne 23, 3) := by decide +kernel
theorem dX3_trees_46 : decode cX3_trees 46 = .ok (.aload_n 0, 1) := by decide +kernel
theorem dX3_trees_47 : decode cX3_trees 47 = .ok (.iload 5, 2) := by decide +kernel
theorem dX3_trees_49 : decode cX3_trees 49 = .ok (.iload_n 1, 1) := by decide +kernel
theorem dX3_trees_50 : decode cX3_trees 50 = .ok (.aload_n 2, 1) := by decide +kernel
theorem dX3_trees_51 : decode cX3_trees 51 = .ok (.invokevirtual 127, 3) := by decide +kernel
theorem dX3_trees_54 : decode cX3_trees 54 = .ok (.aload_n 0, 1) := by decide +kernel
theorem dX3_trees_55 : decode cX3_trees 55 = .ok (.getfield 19, 3) := by decide +kernel
theorem dX3_trees_58 : decode cX3_trees 58 = .ok (.iload_n 3, 1) := by decide +kernel
theorem dX3_trees_59 : decode cX3_trees 59 = .ok (.isub, 1) := by decide +kernel
theorem dX3_trees_60 : decode cX3_trees 60 = .ok (.if_icmp .ne 6, 3) := by decide +kernel
theorem dX3_trees_63 : decode cX3_trees 63 = .ok (.iinc 4 1, 3) := by decide +kernel
theorem dX3_trees_66 : decode cX3_trees 66 = .ok (.iinc 5 1, 3) := by decide +kernel
theorem dX3_trees_69 : decode cX3_trees 69 = .ok (.goto (-46), 3) := by decide +kernel
theorem dX3_trees_72 : decode cX3_trees 72 = .ok (.iload 4, 2) := by decide +kernel
theorem dX3_trees_74 : decode cX3_trees 74 = .ok (.ireturn, 1) := by decide +kernel
theorem dX3_countOfKind_0 : decode cX3_countOfKind 0 = .ok (.iconst 0, 1) := by decide +kernel
theorem dX3_countOfKind_1 : decode cX3_countOfKind 1 = .ok (.istore_n 2, 1) := by decide +kernel
theorem dX3_countOfKind_2 : decode cX3_countOfKind 2 = .ok (.iconst 0, 1) := by decide +kernel
theorem dX3_countOfKind_3 : decode cX3_countOfKind 3 = .ok (.istore_n 3, 1) := by decide +kernel
theorem dX3_countOfKind_4 : decode cX3_countOfKind 4 = .ok (.iload_n 3, 1) := by decide +kernel
theorem dX3_countOfKind_5 : decode cX3_countOfKind 5 = .ok (.aload_n 0, 1) := by decide +kernel
theorem dX3_countOfKind_6 : decode cX3_countOfKind 6 = .ok (.getfield 19, 3) := by decide +kernel
theorem dX3_countOfKind_9 : decode cX3_countOfKind 9 = .ok (.if_icmp .ge 21, 3) := by decide +kernel
theorem dX3_countOfKind_12 : decode cX3_countOfKind 12 = .ok (.aload_n 0, 1) := by decide +kernel
theorem dX3_countOfKind_13 : decode cX3_countOfKind 13 = .ok (.iload_n 3, 1) := by decide +kernel
theorem dX3_countOfKind_14 : decode cX3_countOfKind 14 = .ok (.invokevirtual 131, 3) := by decide +kernel
theorem dX3_countOfKind_17 : decode cX3_countOfKind 17 = .ok (.iload_n 1, 1) := by decide +kernel
theorem dX3_countOfKind_18 : decode cX3_countOfKind 18 = .ok (.if_icmp .ne 6, 3) := by decide +kernel
theorem dX3_countOfKind_21 : decode cX3_countOfKind 21 = .ok (.iinc 2 1, 3) := by decide +kernel
theorem dX3_countOfKind_24 : decode cX3_countOfKind 24 = .ok (.iinc 3 1, 3) := by decide +kernel
theorem dX3_countOfKind_27 : decode cX3_countOfKind 27 = .ok (.goto (-23), 3) := by decide +kernel
theorem dX3_countOfKind_30 : decode cX3_countOfKind 30 = .ok (.iload_n 2, 1) := by decide +kernel
theorem dX3_countOfKind_31 : decode cX3_countOfKind 31 = .ok (.ireturn, 1) := by decide +kernel
theorem dX3_heapsJoinedBy_0 : decode cX3_heapsJoinedBy 0 = .ok (.aload_n 3, 1) := by decide +kernel
theorem dX3_heapsJoinedBy_1 : decode cX3_heapsJoinedBy 1 = .ok (.aload_n 0, 1) := by decide +kernel
theorem dX3_heapsJoinedBy_2 : decode cX3_heapsJoinedBy 2 = .ok (.getfield 19, 3) := by decide +kernel
theorem dX3_heapsJoinedBy_5 : decode cX3_heapsJoinedBy 5 = .ok (.invokevirtual 63, 3) := by decide +kernel
theorem dX3_heapsJoinedBy_8 : decode cX3_heapsJoinedBy 8 = .ok (.iconst 0, 1) := by decide +kernel
theorem dX3_heapsJoinedBy_9 : decode cX3_heapsJoinedBy 9 = .ok (.istore 4, 2) := by decide +kernel
theorem dX3_heapsJoinedBy_11 : decode cX3_heapsJoinedBy 11 = .ok (.iload 4, 2) := by decide +kernel
theorem dX3_heapsJoinedBy_13 : decode cX3_heapsJoinedBy 13 = .ok (.aload_n 0, 1) := by decide +kernel
theorem dX3_heapsJoinedBy_14 : decode cX3_heapsJoinedBy 14 = .ok (.getfield 9, 3) := by decide +kernel
theorem dX3_heapsJoinedBy_17 : decode cX3_heapsJoinedBy 17 = .ok (.invokevirtual 23, 3) := by decide +kernel
theorem dX3_heapsJoinedBy_20 : decode cX3_heapsJoinedBy 20 = .ok (.if_icmp .ge 62, 3) := by decide +kernel
theorem dX3_heapsJoinedBy_23 : decode cX3_heapsJoinedBy 23 = .ok (.iload_n 1, 1) := by decide +kernel
theorem dX3_heapsJoinedBy_24 : decode cX3_heapsJoinedBy 24 = .ok (.iload 4, 2) := by decide +kernel
theorem dX3_heapsJoinedBy_26 : decode cX3_heapsJoinedBy 26 = .ok (.invokestatic 96, 3) := by decide +kernel
theorem dX3_heapsJoinedBy_29 : decode cX3_heapsJoinedBy 29 = .ok (.ifCond .eq 47, 3) := by decide +kernel
theorem dX3_heapsJoinedBy_32 : decode cX3_heapsJoinedBy 32 = .ok (.aload_n 0, 1) := by decide +kernel
theorem dX3_heapsJoinedBy_33 : decode cX3_heapsJoinedBy 33 = .ok (.aload_n 0, 1) := by decide +kernel
theorem dX3_heapsJoinedBy_34 : decode cX3_heapsJoinedBy 34 = .ok (.iload 4, 2) := by decide +kernel
theorem dX3_heapsJoinedBy_36 : decode cX3_heapsJoinedBy 36 = .ok (.iconst 0, 1) := by decide +kernel
theorem dX3_heapsJoinedBy_37 : decode cX3_heapsJoinedBy 37 = .ok (.invokevirtual 103, 3) := by decide +kernel
theorem dX3_heapsJoinedBy_40 : decode cX3_heapsJoinedBy 40 = .ok (.invokevirtual 131, 3) := by decide +kernel
theorem dX3_heapsJoinedBy_43 : decode cX3_heapsJoinedBy 43 = .ok (.iload_n 2, 1) := by decide +kernel
theorem dX3_heapsJoinedBy_44 : decode cX3_heapsJoinedBy 44 = .ok (.if_icmp .ne 7, 3) := by decide +kernel
theorem dX3_heapsJoinedBy_47 : decode cX3_heapsJoinedBy 47 = .ok (.iconst 0, 1) := by decide +kernel
theorem dX3_heapsJoinedBy_48 : decode cX3_heapsJoinedBy 48 = .ok (.goto 4, 3) := by decide +kernel
theorem dX3_heapsJoinedBy_51 : decode cX3_heapsJoinedBy 51 = .ok (.iconst 1, 1) := by decide +kernel
theorem dX3_heapsJoinedBy_52 : decode cX3_heapsJoinedBy 52 = .ok (.istore 5, 2) := by decide +kernel
theorem dX3_heapsJoinedBy_54 : decode cX3_heapsJoinedBy 54 = .ok (.aload_n 3, 1) := by decide +kernel
theorem dX3_heapsJoinedBy_55 : decode cX3_heapsJoinedBy 55 = .ok (.aload_n 0, 1) := by decide +kernel
theorem dX3_heapsJoinedBy_56 : decode cX3_heapsJoinedBy 56 = .ok (.iload 4, 2) := by decide +kernel
theorem dX3_heapsJoinedBy_58 : decode cX3_heapsJoinedBy 58 = .ok (.iload 5, 2) := by decide +kernel
theorem dX3_heapsJoinedBy_60 : decode cX3_heapsJoinedBy 60 = .ok (.invokevirtual 103, 3) := by decide +kernel
theorem dX3_heapsJoinedBy_63 : decode cX3_heapsJoinedBy 63 = .ok (.aload_n 0, 1) := by decide +kernel
theorem dX3_heapsJoinedBy_64 : decode cX3_heapsJoinedBy 64 = .ok (.iload 4, 2) := by decide +kernel
theorem dX3_heapsJoinedBy_66 : decode cX3_heapsJoinedBy 66 = .ok (.iload 5, 2) := by decide +kernel
theorem dX3_heapsJoinedBy_68 : decode cX3_heapsJoinedBy 68 = .ok (.iconst 2, 1) := by decide +kernel
theorem dX3_heapsJoinedBy_69 : decode cX3_heapsJoinedBy 69 = .ok (.iadd, 1) := by decide +kernel
theorem dX3_heapsJoinedBy_70 : decode cX3_heapsJoinedBy 70 = .ok (.invokevirtual 103, 3) := by decide +kernel
theorem dX3_heapsJoinedBy_73 : decode cX3_heapsJoinedBy 73 = .ok (.invokevirtual 86, 3) := by decide +kernel
theorem dX3_heapsJoinedBy_76 : decode cX3_heapsJoinedBy 76 = .ok (.iinc 4 1, 3) := by decide +kernel
theorem dX3_heapsJoinedBy_79 : decode cX3_heapsJoinedBy 79 = .ok (.goto (-68), 3) := by decide +kernel
theorem dX3_heapsJoinedBy_82 : decode cX3_heapsJoinedBy 82 = .ok (.aload_n 3, 1) := by decide +kernel
theorem dX3_heapsJoinedBy_83 : decode cX3_heapsJoinedBy 83 = .ok (.invokevirtual 90, 3) := by decide +kernel
theorem dX3_heapsJoinedBy_86 : decode cX3_heapsJoinedBy 86 = .ok (.ireturn, 1) := by decide +kernel
theorem dX4_init_0 : decode cX4_init 0 = .ok (.aload_n 0, 1) := by decide +kernel
theorem dX4_init_1 : decode cX4_init 1 = .ok (.invokespecial 3, 3) := by decide +kernel
theorem dX4_init_4 : decode cX4_init 4 = .ok (.aload_n 0, 1) := by decide +kernel
theorem dX4_init_5 : decode cX4_init 5 = .ok (.bipush 32, 2) := by decide +kernel
theorem dX4_init_7 : decode cX4_init 7 = .ok (.newarray .int, 2) := by decide +kernel
theorem dX4_init_9 : decode cX4_init 9 = .ok (.putfield 9, 3) := by decide +kernel
theorem dX4_init_12 : decode cX4_init 12 = .ok (.aload_n 0, 1) := by decide +kernel
theorem dX4_init_13 : decode cX4_init 13 = .ok (.iconst 0, 1) := by decide +kernel
theorem dX4_init_14 : decode cX4_init 14 = .ok (.putfield 15, 3) := by decide +kernel
theorem dX4_init_17 : decode cX4_init 17 = .ok (.aload_n 0, 1) := by decide +kernel
theorem dX4_init_18 : decode cX4_init 18 = .ok (.iconst 0, 1) := by decide +kernel
theorem dX4_init_19 : decode cX4_init 19 = .ok (.putfield 19, 3) := by decide +kernel
theorem dX4_init_22 : decode cX4_init 22 = .ok (.return_, 1) := by decide +kernel
theorem dX4_scatter_0 : decode cX4_scatter 0 = .ok (.aload_n 0, 1) := by decide +kernel
theorem dX4_scatter_1 : decode cX4_scatter 1 = .ok (.iconst 0, 1) := by decide +kernel
theorem dX4_scatter_2 : decode cX4_scatter 2 = .ok (.iload_n 1, 1) := by decide +kernel
theorem dX4_scatter_3 : decode cX4_scatter 3 = .ok (.aload_n 0, 1) := by decide +kernel
theorem dX4_scatter_4 : decode cX4_scatter 4 = .ok (.getfield 9, 3) := by decide +kernel
theorem dX4_scatter_7 : decode cX4_scatter 7 = .ok (.arraylength, 1) := by decide +kernel
theorem dX4_scatter_8 : decode cX4_scatter 8 = .ok (.invokestatic 22, 3) := by decide +kernel
theorem dX4_scatter_11 : decode cX4_scatter 11 = .ok (.invokestatic 28, 3) := by decide +kernel
theorem dX4_scatter_14 : decode cX4_scatter 14 = .ok (.putfield 15, 3) := by decide +kernel
theorem dX4_scatter_17 : decode cX4_scatter 17 = .ok (.aload_n 0, 1) := by decide +kernel
theorem dX4_scatter_18 : decode cX4_scatter 18 = .ok (.aload_n 0, 1) := by decide +kernel
theorem dX4_scatter_19 : decode cX4_scatter 19 = .ok (.getfield 15, 3) := by decide +kernel
theorem dX4_scatter_22 : decode cX4_scatter 22 = .ok (.putfield 19, 3) := by decide +kernel
theorem dX4_scatter_25 : decode cX4_scatter 25 = .ok (.iconst 0, 1) := by decide +kernel
theorem dX4_scatter_26 : decode cX4_scatter 26 = .ok (.istore_n 2, 1) := by decide +kernel
theorem dX4_scatter_27 : decode cX4_scatter 27 = .ok (.iload_n 2, 1) := by decide +kernel
theorem dX4_scatter_28 : decode cX4_scatter 28 = .ok (.aload_n 0, 1) := by decide +kernel
theorem dX4_scatter_29 : decode cX4_scatter 29 = .ok (.getfield 15, 3) := by decide +kernel
theorem dX4_scatter_32 : decode cX4_scatter 32 = .ok (.if_icmp .ge 16, 3) := by decide +kernel
theorem dX4_scatter_35 : decode cX4_scatter 35 = .ok (.aload_n 0, 1) := by decide +kernel
theorem dX4_scatter_36 : decode cX4_scatter 36 = .ok (.getfield 9, 3) := by decide +kernel
theorem dX4_scatter_39 : decode cX4_scatter 39 = .ok (.iload_n 2, 1) := by decide +kernel
theorem dX4_scatter_40 : decode cX4_scatter 40 = .ok (.iload_n 2, 1) := by decide +kernel
theorem dX4_scatter_41 : decode cX4_scatter 41 = .ok (.iastore, 1) := by decide +kernel
theorem dX4_scatter_42 : decode cX4_scatter 42 = .ok (.iinc 2 1, 3) := by decide +kernel
theorem dX4_scatter_45 : decode cX4_scatter 45 = .ok (.goto (-18), 3) := by decide +kernel
theorem dX4_scatter_48 : decode cX4_scatter 48 = .ok (.return_, 1) := by decide +kernel
theorem dX4_leastWith_0 : decode cX4_leastWith 0 = .ok (.iload_n 1, 1) := by decide +kernel
theorem dX4_leastWith_1 : decode cX4_leastWith 1 = .ok (.ifCond .lt 11, 3) := by decide +kernel
theorem dX4_leastWith_4 : decode cX4_leastWith 4 = .ok (.iload_n 1, 1) := by decide +kernel
theorem dX4_leastWith_5 : decode cX4_leastWith 5 = .ok (.aload_n 0, 1) := by decide +kernel
theorem dX4_leastWith_6 : decode cX4_leastWith 6 = .ok (.getfield 15, 3) := by decide +kernel
theorem dX4_leastWith_9 : decode cX4_leastWith 9 = .ok (.if_icmp .lt 5, 3) := by decide +kernel
theorem dX4_leastWith_12 : decode cX4_leastWith 12 = .ok (.iconst (-1), 1) := by decide +kernel
theorem dX4_leastWith_13 : decode cX4_leastWith 13 = .ok (.ireturn, 1) := by decide +kernel
theorem dX4_leastWith_14 : decode cX4_leastWith 14 = .ok (.iload_n 1, 1) := by decide +kernel
theorem dX4_leastWith_15 : decode cX4_leastWith 15 = .ok (.istore_n 2, 1) := by decide +kernel
theorem dX4_leastWith_16 : decode cX4_leastWith 16 = .ok (.iconst 0, 1) := by decide +kernel
theorem dX4_leastWith_17 : decode cX4_leastWith 17 = .ok (.istore_n 3, 1) := by decide +kernel
theorem dX4_leastWith_18 : decode cX4_leastWith 18 = .ok (.iload_n 3, 1) := by decide +kernel
theorem dX4_leastWith_19 : decode cX4_leastWith 19 = .ok (.aload_n 0, 1) := by decide +kernel
theorem dX4_leastWith_20 : decode cX4_leastWith 20 = .ok (.getfield 15, 3) := by decide +kernel
theorem dX4_leastWith_23 : decode cX4_leastWith 23 = .ok (.if_icmp .ge 26, 3) := by decide +kernel
theorem dX4_leastWith_26 : decode cX4_leastWith 26 = .ok (.aload_n 0, 1) := by decide +kernel
theorem dX4_leastWith_27 : decode cX4_leastWith 27 = .ok (.getfield 9, 3) := by decide +kernel
theorem dX4_leastWith_30 : decode cX4_leastWith 30 = .ok (.iload_n 2, 1) := by decide +kernel
theorem dX4_leastWith_31 : decode cX4_leastWith 31 = .ok (.iaload, 1) := by decide +kernel
theorem dX4_leastWith_32 : decode cX4_leastWith 32 = .ok (.iload_n 2, 1) := by decide +kernel
theorem dX4_leastWith_33 : decode cX4_leastWith 33 = .ok (.if_icmp .eq 16, 3) := by decide +kernel
theorem dX4_leastWith_36 : decode cX4_leastWith 36 = .ok (.aload_n 0, 1) := by decide +kernel
theorem dX4_leastWith_37 : decode cX4_leastWith 37 = .ok (.getfield 9, 3) := by decide +kernel
theorem dX4_leastWith_40 : decode cX4_leastWith 40 = .ok (.iload_n 2, 1) := by decide +kernel
theorem dX4_leastWith_41 : decode cX4_leastWith 41 = .ok (.iaload, 1) := by decide +kernel
theorem dX4_leastWith_42 : decode cX4_leastWith 42 = .ok (.istore_n 2, 1) := by decide +kernel
theorem dX4_leastWith_43 : decode cX4_leastWith 43 = .ok (.iinc 3 1, 3) := by decide +kernel
theorem dX4_leastWith_46 : decode cX4_leastWith 46 = .ok (.goto (-28), 3) := by decide +kernel
theorem dX4_leastWith_49 : decode cX4_leastWith 49 = .ok (.iload_n 2, 1) := by decide +kernel
theorem dX4_leastWith_50 : decode cX4_leastWith 50 = .ok (.ireturn, 1) := by decide +kernel
theorem dX4_join_0 : decode cX4_join 0 = .ok (.aload_n 0, 1) := by decide +kernel
theorem dX4_join_1 : decode cX4_join 1 = .ok (.iload_n 1, 1) := by decide +kernel
theorem dX4_join_2 : decode cX4_join 2 = .ok (.invokevirtual 31, 3) := by decide +kernel
theorem dX4_join_5 : decode cX4_join 5 = .ok (.istore_n 3, 1) := by decide +kernel
theorem dX4_join_6 : decode cX4_join 6 = .ok (.aload_n 0, 1) := by decide +kernel
theorem dX4_join_7 : decode cX4_join 7 = .ok (.iload_n 2, 1) := by decide +kernel
theorem dX4_join_8 : decode cX4_join 8 = .ok (.invokevirtual 31, 3) := by decide +kernel
theorem dX4_join_11 : decode cX4_join 11 = .ok (.istore 4, 2) := by decide +kernel
theorem dX4_join_13 : decode cX4_join 13 = .ok (.iload_n 3, 1) := by decide +kernel
theorem dX4_join_14 : decode cX4_join 14 = .ok (.iconst (-1), 1) := by decide +kernel
theorem dX4_join_15 : decode cX4_join 15 = .ok (.if_icmp .eq 42, 3) := by decide +kernel
theorem dX4_join_18 : decode cX4_join 18 = .ok (.iload 4, 2) := by decide +kernel
theorem dX4_join_20 : decode cX4_join 20 = .ok (.iconst (-1), 1) := by decide +kernel
theorem dX4_join_21 : decode cX4_join 21 = .ok (.if_icmp .eq 36, 3) := by decide +kernel
theorem dX4_join_24 : decode cX4_join 24 = .ok (.iload_n 3, 1) := by decide +kernel
theorem dX4_join_25 : decode cX4_join 25 = .ok (.iload 4, 2) := by decide +kernel
theorem dX4_join_27 : decode cX4_join 27 = .ok (.if_icmp .eq 30, 3) := by decide +kernel
theorem dX4_join_30 : decode cX4_join 30 = .ok (.aload_n 0, 1) := by decide +kernel
theorem dX4_join_31 : decode cX4_join 31 = .ok (.getfield 9, 3) := by decide +kernel
theorem dX4_join_34 : decode cX4_join 34 = .ok (.iload_n 3, 1) := by decide +kernel
theorem dX4_join_35 : decode cX4_join 35 = .ok (.iload 4, 2) := by decide +kernel
theorem dX4_join_37 : decode cX4_join 37 = .ok (.invokestatic 28, 3) := by decide +kernel
theorem dX4_join_40 : decode cX4_join 40 = .ok (.iload_n 3, 1) := by decide +kernel
theorem dX4_join_41 : decode cX4_join 41 = .ok (.iload 4, 2) := by decide +kernel
theorem dX4_join_43 : decode cX4_join 43 = .ok (.invokestatic 22, 3) := by decide +kernel
theorem dX4_join_46 : decode cX4_join 46 = .ok (.iastore, 1) := by decide +kernel
theorem dX4_join_47 : decode cX4_join 47 = .ok (.aload_n 0, 1) := by decide +kernel
theorem dX4_join_48 : decode cX4_join 48 = .ok (.dup, 1) := by decide +kernel
theorem dX4_join_49 : decode cX4_join 49 = .ok (.getfield 19, 3) := by decide +kernel
theorem dX4_join_52 : decode cX4_join 52 = .ok (.iconst 1, 1) := by decide +kernel
theorem dX4_join_53 : decode cX4_join 53 = .ok (.isub, 1) := by decide +kernel
theorem dX4_join_54 : decode cX4_join 54 = .ok (.putfield 19, 3) := by decide +kernel
theorem dX4_join_57 : decode cX4_join 57 = .ok (.return_, 1) := by decide +kernel
theorem dX4_count_0 : decode cX4_count 0 = .ok (.aload_n 0, 1) := by decide +kernel
theorem dX4_count_1 : decode cX4_count 1 = .ok (.getfield 19, 3) := by decide +kernel
theorem dX4_count_4 : decode cX4_count 4 = .ok (.ireturn, 1) := by decide +kernel
theorem dX5_init_0 : decode cX5_init 0 = .ok (.aload_n 0, 1) := by decide +kernel
theorem dX5_init_1 : decode cX5_init 1 = .ok (.invokespecial 3, 3) := by decide +kernel
theorem dX5_init_4 : decode cX5_init 4 = .ok (.aload_n 0, 1) := by decide +kernel
theorem dX5_init_5 : decode cX5_init 5 = .ok (.bipush 16, 2) := by decide +kernel
theorem dX5_init_7 : decode cX5_init 7 = .ok (.anewarray 9, 3) := by decide +kernel
theorem dX5_init_10 : decode cX5_init 10 = .ok (.putfield 11, 3) := by decide +kernel
theorem dX5_init_13 : decode cX5_init 13 = .ok (.aload_n 0, 1) := by decide +kernel
theorem dX5_init_14 : decode cX5_init 14 = .ok (.iconst 0, 1) := by decide +kernel
theorem dX5_init_15 : decode cX5_init 15 = .ok (.putfield 17, 3) := by decide +kernel
theorem dX5_init_18 : decode cX5_init 18 = .ok (.aload_n 0, 1) := by decide +kernel
theorem dX5_init_19 : decode cX5_init 19 = .ok (.iconst 0, 1) := by decide +kernel
theorem dX5_init_20 : decode cX5_init 20 = .ok (.putfield 21, 3) := by decide +kernel
theorem dX5_init_23 : decode cX5_init 23 = .ok (.return_, 1) := by decide +kernel
theorem dX5_remember_0 : decode cX5_remember 0 = .ok (.aload_n 0, 1) := by decide +kernel
theorem dX5_remember_1 : decode cX5_remember 1 = .ok (.aload_n 0, 1) := by decide +kernel
theorem dX5_remember_2 : decode cX5_remember 2 = .ok (.getfield 17, 3) := by decide +kernel
theorem dX5_remember_5 : decode cX5_remember 5 = .ok (.iconst 1, 1) := by decide +kernel
theorem dX5_remember_6 : decode cX5_remember 6 = .ok (.iadd, 1) := by decide +kernel
theorem dX5_remember_7 : decode cX5_remember 7 = .ok (.bipush 16, 2) := by decide +kernel
theorem dX5_remember_9 : decode cX5_remember 9 = .ok (.irem, 1) := by decide +kernel
theorem dX5_remember_10 : decode cX5_remember 10 = .ok (.putfield 17, 3) := by decide +kernel
theorem dX5_remember_13 : decode cX5_remember 13 = .ok (.aload_n 0, 1) := by decide +kernel
theorem dX5_remember_14 : decode cX5_remember 14 = .ok (.getfield 11, 3) := by decide +kernel
theorem dX5_remember_17 : decode cX5_remember 17 = .ok (.aload_n 0, 1) := by decide +kernel
theorem dX5_remember_18 : decode cX5_remember 18 = .ok (.getfield 17, 3) := by decide +kernel
theorem dX5_remember_21 : decode cX5_remember 21 = .ok (.aaload, 1) := by decide +kernel
theorem dX5_remember_22 : decode cX5_remember 22 = .ok (.ifnonnull 19, 3) := by decide +kernel
theorem dX5_remember_25 : decode cX5_remember 25 = .ok (.aload_n 0, 1) := by decide +kernel
theorem dX5_remember_26 : decode cX5_remember 26 = .ok (.getfield 11, 3) := by decide +kernel
theorem dX5_remember_29 : decode cX5_remember 29 = .ok (.aload_n 0, 1) := by decide +kernel
theorem dX5_remember_30 : decode cX5_remember 30 = .ok (.getfield 17, 3) := by decide +kernel
theorem dX5_remember_33 : decode cX5_remember 33 = .ok (.new 9, 3) := by decide +kernel
theorem dX5_remember_36 : decode cX5_remember 36 = .ok (.dup, 1) := by decide +kernel
theorem dX5_remember_37 : decode cX5_remember 37 = .ok (.invokespecial 24, 3) := by decide +kernel
theorem dX5_remember_40 : decode cX5_remember 40 = .ok (.aastore, 1) := by decide +kernel
theorem dX5_remember_41 : decode cX5_remember 41 = .ok (.aload_n 0, 1) := by decide +kernel
theorem dX5_remember_42 : decode cX5_remember 42 = .ok (.getfield 11, 3) := by decide +kernel
theorem dX5_remember_45 : decode cX5_remember 45 = .ok (.aload_n 0, 1) := by decide +kernel
theorem dX5_remember_46 : decode cX5_remember 46 = .ok (.getfield 17, 3) := by decide +kernel
theorem dX5_remember_49 : decode cX5_remember 49 = .ok (.aaload, 1) := by decide +kernel
theorem dX5_remember_50 : decode cX5_remember 50 = .ok (.aload_n 1, 1) := by decide +kernel
theorem dX5_remember_51 : decode cX5_remember 51 = .ok (.invokevirtual 25, 3) := by decide +kernel
theorem dX5_remember_54 : decode cX5_remember 54 = .ok (.aload_n 0, 1) := by decide +kernel
theorem dX5_remember_55 : decode cX5_remember 55 = .ok (.aload_n 0, 1) := by decide +kernel
theorem dX5_remember_56 : decode cX5_remember 56 = .ok (.getfield 21, 3) := by decide +kernel
theorem dX5_remember_59 : decode cX5_remember 59 = .ok (.iconst 1, 1) := by decide +kernel
theorem dX5_remember_60 : decode cX5_remember 60 = .ok (.iadd, 1) := by decide +kernel
theorem dX5_remember_61 : decode cX5_remember 61 = .ok (.bipush 16, 2) := by decide +kernel
theorem dX5_remember_63 : decode cX5_remember 63 = .ok (.invokestatic 29, 3) := by decide +kernel
theorem dX5_remember_66 : decode cX5_remember 66 = .ok (.putfield 21, 3) := by decide +kernel
theorem dX5_remember_69 : decode cX5_remember 69 = .ok (.return_, 1) := by decide +kernel
theorem dX5_restore_0 : decode cX5_restore 0 = .ok (.iload_n 1, 1) := by decide +kernel
theorem dX5_restore_1 : decode cX5_restore 1 = .ok (.iconst 1, 1) := by decide +kernel
theorem dX5_restore_2 : decode cX5_restore 2 = .ok (.if_icmp .lt 11, 3) := by decide +kernel
theorem dX5_restore_5 : decode cX5_restore 5 = .ok (.iload_n 1, 1) := by decide +kernel
theorem dX5_restore_6 : decode cX5_restore 6 = .ok (.aload_n 0, 1) := by decide +kernel
theorem dX5_restore_7 : decode cX5_restore 7 = .ok (.getfield 21, 3) := by decide +kernel
theorem dX5_restore_10 : decode cX5_restore 10 = .ok (.if_icmp .le 5, 3) := by decide +kernel
theorem dX5_restore_13 : decode cX5_restore 13 = .ok (.iconst 0, 1) := by decide +kernel
theorem dX5_restore_14 : decode cX5_restore 14 = .ok (.ireturn, 1) := by decide +kernel
theorem dX5_restore_15 : decode cX5_restore 15 = .ok (.aload_n 0, 1) := by decide +kernel
theorem dX5_restore_16 : decode cX5_restore 16 = .ok (.getfield 11, 3) := by decide +kernel
theorem dX5_restore_19 : decode cX5_restore 19 = .ok (.aload_n 0, 1) := by decide +kernel
theorem dX5_restore_20 : decode cX5_restore 20 = .ok (.getfield 17, 3) := by decide +kernel
theorem dX5_restore_23 : decode cX5_restore 23 = .ok (.iload_n 1, 1) := by decide +kernel
theorem dX5_restore_24 : decode cX5_restore 24 = .ok (.isub, 1) := by decide +kernel
theorem dX5_restore_25 : decode cX5_restore 25 = .ok (.iconst 1, 1) := by decide +kernel
theorem dX5_restore_26 : decode cX5_restore 26 = .ok (.iadd, 1) := by decide +kernel
theorem dX5_restore_27 : decode cX5_restore 27 = .ok (.bipush 16, 2) := by decide +kernel
theorem dX5_restore_29 : decode cX5_restore 29 = .ok (.invokestatic 35, 3) := by decide +kernel
theorem dX5_restore_32 : decode cX5_restore 32 = .ok (.aaload, 1) := by decide +kernel
theorem dX5_restore_33 : decode cX5_restore 33 = .ok (.astore_n 3, 1) := by decide +kernel
theorem dX5_restore_34 : decode cX5_restore 34 = .ok (.aload_n 3, 1) := by decide +kernel
theorem dX5_restore_35 : decode cX5_restore 35 = .ok (.ifnonnull 5, 3) := by decide +kernel
theorem dX5_restore_38 : decode cX5_restore 38 = .ok (.iconst 0, 1) := by decide +kernel
theorem dX5_restore_39 : decode cX5_restore 39 = .ok (.ireturn, 1) := by decide +kernel
theorem dX5_restore_40 : decode cX5_restore 40 = .ok (.aload_n 2, 1) := by decide +kernel
theorem dX5_restore_41 : decode cX5_restore 41 = .ok (.aload_n 3, 1) := by decide +kernel
theorem dX5_restore_42 : decode cX5_restore 42 = .ok (.invokevirtual 25, 3) := by decide +kernel
theorem dX5_restore_45 : decode cX5_restore 45 = .ok (.aload_n 0, 1) := by decide +kernel
theorem dX5_restore_46 : decode cX5_restore 46 = .ok (.aload_n 0, 1) := by decide +kernel
theorem dX5_restore_47 : decode cX5_restore 47 = .ok (.getfield 17, 3) := by decide +kernel
theorem dX5_restore_50 : decode cX5_restore 50 = .ok (.iload_n 1, 1) := by decide +kernel
theorem dX5_restore_51 : decode cX5_restore 51 = .ok (.isub, 1) := by decide +kernel
theorem dX5_restore_52 : decode cX5_restore 52 = .ok (.bipush 16, 2) := by decide +kernel
theorem dX5_restore_54 : decode cX5_restore 54 = .ok (.invokestatic 35, 3) := by decide +kernel
theorem dX5_restore_57 : decode cX5_restore 57 = .ok (.putfield 17, 3) := by decide +kernel
theorem dX5_restore_60 : decode cX5_restore 60 = .ok (.aload_n 0, 1) := by decide +kernel
theorem dX5_restore_61 : decode cX5_restore 61 = .ok (.dup, 1) := by decide +kernel
theorem dX5_restore_62 : decode cX5_restore 62 = .ok (.getfield 21, 3) := by decide +kernel
theorem dX5_restore_65 : decode cX5_restore 65 = .ok (.iload_n 1, 1) := by decide +kernel
theorem dX5_restore_66 : decode cX5_restore 66 = .ok (.isub, 1) := by decide +kernel
theorem dX5_restore_67 : decode cX5_restore 67 = .ok (.putfield 21, 3) := by decide +kernel
theorem dX5_restore_70 : decode cX5_restore 70 = .ok (.iconst 1, 1) := by decide +kernel
theorem dX5_restore_71 : decode cX5_restore 71 = .ok (.ireturn, 1) := by decide +kernel
theorem dX5_count_0 : decode cX5_count 0 = .ok (.aload_n 0, 1) := by decide +kernel
theorem dX5_count_1 : decode cX5_count 1 = .ok (.getfield 21, 3) := by decide +kernel
theorem dX5_count_4 : decode cX5_count 4 = .ok (.ireturn, 1) := by decide +kernel
theorem dX5_clear_0 : decode cX5_clear 0 = .ok (.aload_n 0, 1) := by decide +kernel
theorem dX5_clear_1 : decode cX5_clear 1 = .ok (.iconst 0, 1) := by decide +kernel
theorem dX5_clear_2 : decode cX5_clear 2 = .ok (.putfield 21, 3) := by decide +kernel
theorem dX5_clear_5 : decode cX5_clear 5 = .ok (.return_, 1) := by decide +kernel
theorem dX6_init_0 : decode cX6_init 0 = .ok (.aload_n 0, 1) := by decide +kernel
theorem dX6_init_1 : decode cX6_init 1 = .ok (.invokespecial 1, 3) := by decide +kernel
theorem dX6_init_4 : decode cX6_init 4 = .ok (.aload_n 0, 1) := by decide +kernel
theorem dX6_init_5 : decode cX6_init 5 = .ok (.new 7, 3) := by decide +kernel
theorem dX6_init_8 : decode cX6_init 8 = .ok (.dup, 1) := by decide +kernel
theorem dX6_init_9 : decode cX6_init 9 = .ok (.invokespecial 9, 3) := by decide +kernel
theorem dX6_init_12 : decode cX6_init 12 = .ok (.putfield 10, 3) := by decide +kernel
theorem dX6_init_15 : decode cX6_init 15 = .ok (.aload_n 0, 1) := by decide +kernel
theorem dX6_init_16 : decode cX6_init 16 = .ok (.iconst 0, 1) := by decide +kernel
theorem dX6_init_17 : decode cX6_init 17 = .ok (.putfield 16, 3) := by decide +kernel
theorem dX6_init_20 : decode cX6_init 20 = .ok (.aload_n 0, 1) := by decide +kernel
theorem dX6_init_21 : decode cX6_init 21 = .ok (.iconst 0, 1) := by decide +kernel
theorem dX6_init_22 : decode cX6_init 22 = .ok (.putfield 20, 3) := by decide +kernel
theorem dX6_init_25 : decode cX6_init 25 = .ok (.return_, 1) := by decide +kernel
theorem dX6_store_0 : decode cX6_store 0 = .ok (.aload_n 0, 1) := by decide +kernel
theorem dX6_store_1 : decode cX6_store 1 = .ok (.getfield 10, 3) := by decide +kernel
theorem dX6_store_4 : decode cX6_store 4 = .ok (.aload_n 1, 1) := by decide +kernel
theorem dX6_store_5 : decode cX6_store 5 = .ok (.invokevirtual 24, 3) := by decide +kernel
theorem dX6_store_8 : decode cX6_store 8 = .ok (.aload_n 0, 1) := by decide +kernel
theorem dX6_store_9 : decode cX6_store 9 = .ok (.iload_n 2, 1) := by decide +kernel
theorem dX6_store_10 : decode cX6_store 10 = .ok (.putfield 16, 3) := by decide +kernel
theorem dX6_store_13 : decode cX6_store 13 = .ok (.aload_n 0, 1) := by decide +kernel
theorem dX6_store_14 : decode cX6_store 14 = .ok (.iconst 1, 1) := by decide +kernel
theorem dX6_store_15 : decode cX6_store 15 = .ok (.putfield 20, 3) := by decide +kernel
theorem dX6_store_18 : decode cX6_store 18 = .ok (.return_, 1) := by decide +kernel
theorem dX6_isKept_0 : decode cX6_isKept 0 = .ok (.aload_n 0, 1) := by decide +kernel
theorem dX6_isKept_1 : decode cX6_isKept 1 = .ok (.getfield 20, 3) := by decide +kernel
theorem dX6_isKept_4 : decode cX6_isKept 4 = .ok (.ireturn, 1) := by decide +kernel
theorem dX6_shelf_0 : decode cX6_shelf 0 = .ok (.aload_n 0, 1) := by decide +kernel
theorem dX6_shelf_1 : decode cX6_shelf 1 = .ok (.getfield 10, 3) := by decide +kernel
theorem dX6_shelf_4 : decode cX6_shelf 4 = .ok (.areturn, 1) := by decide +kernel
theorem dX6_seedThen_0 : decode cX6_seedThen 0 = .ok (.aload_n 0, 1) := by decide +kernel
theorem dX6_seedThen_1 : decode cX6_seedThen 1 = .ok (.getfield 16, 3) := by decide +kernel
theorem dX6_seedThen_4 : decode cX6_seedThen 4 = .ok (.ireturn, 1) := by decide +kernel
theorem dX7_init_0 : decode cX7_init 0 = .ok (.aload_n 0, 1) := by decide +kernel
theorem dX7_init_1 : decode cX7_init 1 = .ok (.invokespecial 3, 3) := by decide +kernel
theorem dX7_init_4 : decode cX7_init 4 = .ok (.aload_n 0, 1) := by decide +kernel
theorem dX7_init_5 : decode cX7_init 5 = .ok (.iconst 0, 1) := by decide +kernel
theorem dX7_init_6 : decode cX7_init 6 = .ok (.putfield 9, 3) := by decide +kernel
theorem dX7_init_9 : decode cX7_init 9 = .ok (.aload_n 0, 1) := by decide +kernel
theorem dX7_init_10 : decode cX7_init 10 = .ok (.lconst 0, 1) := by decide +kernel
theorem dX7_init_11 : decode cX7_init 11 = .ok (.putfield 15, 3) := by decide +kernel
theorem dX7_init_14 : decode cX7_init 14 = .ok (.aload_n 0, 1) := by decide +kernel
theorem dX7_init_15 : decode cX7_init 15 = .ok (.iconst 1, 1) := by decide +kernel
theorem dX7_init_16 : decode cX7_init 16 = .ok (.putfield 19, 3) := by decide +kernel
theorem dX7_init_19 : decode cX7_init 19 = .ok (.aload_n 0, 1) := by decide +kernel
theorem dX7_init_20 : decode cX7_init 20 = .ok (.iconst 0, 1) := by decide +kernel
theorem dX7_init_21 : decode cX7_init 21 = .ok (.putfield 23, 3) := by decide +kernel
theorem dX7_init_24 : decode cX7_init 24 = .ok (.aload_n 0, 1) := by decide +kernel
theorem dX7_init_25 : decode cX7_init 25 = .ok (.iconst (-1), 1) := by decide +kernel
theorem dX7_init_26 : decode cX7_init 26 = .ok (.putfield 26, 3) := by decide +kernel
theorem dX7_init_29 : decode cX7_init 29 = .ok (.aload_n 0, 1) := by decide +kernel
theorem dX7_init_30 : decode cX7_init 30 = .ok (.iconst 0, 1) := by decide +kernel
theorem dX7_init_31 : decode cX7_init 31 = .ok (.putfield 29, 3) := by decide +kernel
theorem dX7_init_34 : decode cX7_init 34 = .ok (.aload_n 0, 1) := by decide +kernel
theorem dX7_init_35 : decode cX7_init 35 = .ok (.iconst 0, 1) := by decide +kernel
theorem dX7_init_36 : decode cX7_init 36 = .ok (.putfield 32, 3) := by decide +kernel
theorem dX7_init_39 : decode cX7_init 39 = .ok (.aload_n 0, 1) := by decide +kernel
theorem dX7_init_40 : decode cX7_init 40 = .ok (.bipush 10, 2) := by decide +kernel
theorem dX7_init_42 : decode cX7_init 42 = .ok (.newarray .int, 2) := by decide +kernel
theorem dX7_init_44 : decode cX7_init 44 = .ok (.putfield 35, 3) := by decide +kernel
theorem dX7_init_47 : decode cX7_init 47 = .ok (.aload_n 0, 1) := by decide +kernel
theorem dX7_init_48 : decode cX7_init 48 = .ok (.aload_n 1, 1) := by decide +kernel
theorem dX7_init_49 : decode cX7_init 49 = .ok (.invokevirtual 39, 3) := by decide +kernel
theorem dX7_init_52 : decode cX7_init 52 = .ok (.iconst 2, 1) := by decide +kernel
theorem dX7_init_53 : decode cX7_init 53 = .ok (.idiv, 1) := by decide +kernel
theorem dX7_init_54 : decode cX7_init 54 = .ok (.putfield 45, 3) := by decide +kernel
theorem dX7_init_57 : decode cX7_init 57 = .ok (.aload_n 0, 1) := by decide +kernel
theorem dX7_init_58 : decode cX7_init 58 = .ok (.iconst 2, 1) := by decide +kernel
theorem dX7_init_59 : decode cX7_init 59 = .ok (.aload_n 0, 1) := by decide +kernel
theorem dX7_init_60 : decode cX7_init 60 = .ok (.getfield 45, 3) := by decide +kernel
theorem dX7_init_63 : decode cX7_init 63 = .ok (.imul, 1) := by decide +kernel
theorem dX7_init_64 : decode cX7_init 64 = .ok (.putfield 48, 3) := by decide +kernel
theorem dX7_init_67 : decode cX7_init 67 = .ok (.aload_n 0, 1) := by decide +kernel
theorem dX7_init_68 : decode cX7_init 68 = .ok (.aload_n 0, 1) := by decide +kernel
theorem dX7_init_69 : decode cX7_init 69 = .ok (.getfield 48, 3) := by decide +kernel
theorem dX7_init_72 : decode cX7_init 72 = .ok (.newarray .int, 2) := by decide +kernel
theorem dX7_init_74 : decode cX7_init 74 = .ok (.putfield 51, 3) := by decide +kernel
theorem dX7_init_77 : decode cX7_init 77 = .ok (.aload_n 0, 1) := by decide +kernel
theorem dX7_init_78 : decode cX7_init 78 = .ok (.aload_n 0, 1) := by decide +kernel
theorem dX7_init_79 : decode cX7_init 79 = .ok (.getfield 45, 3) := by decide +kernel
theorem dX7_init_82 : decode cX7_init 82 = .ok (.newarray .int, 2) := by decide +kernel
theorem dX7_init_84 : decode cX7_init 84 = .ok (.putfield 54, 3) := by decide +kernel
theorem dX7_init_87 : decode cX7_init 87 = .ok (.aload_n 0, 1) := by decide +kernel
theorem dX7_init_88 : decode cX7_init 88 = .ok (.aload_n 0, 1) := by decide +kernel
theorem dX7_init_89 : decode cX7_init 89 = .ok (.getfield 45, 3) := by decide +kernel
theorem dX7_init_92 : decode cX7_init 92 = .ok (.newarray .int, 2) := by decide +kernel
theorem dX7_init_94 : decode cX7_init 94 = .ok (.putfield 57, 3) := by decide +kernel
theorem dX7_init_97 : decode cX7_init 97 = .ok (.aload_n 0, 1) := by decide +kernel
theorem dX7_init_98 : decode cX7_init 98 = .ok (.aload_n 0, 1) := by decide +kernel
theorem dX7_init_99 : decode cX7_init 99 = .ok (.getfield 45, 3) := by decide +kernel
theorem dX7_init_102 : decode cX7_init 102 = .ok (.newarray .int, 2) := by decide +kernel
theorem dX7_init_104 : decode cX7_init 104 = .ok (.putfield 60, 3) := by decide +kernel
theorem dX7_init_107 : decode cX7_init 107 = .ok (.iconst 0, 1) := by decide +kernel
theorem dX7_init_108 : decode cX7_init 108 = .ok (.istore_n 2, 1) := by decide +kernel
theorem dX7_init_109 : decode cX7_init 109 = .ok (.iconst 0, 1) := by decide +kernel
theorem dX7_init_110 : decode cX7_init 110 = .ok (.istore_n 3, 1) := by decide +kernel
theorem dX7_init_111 : decode cX7_init 111 = .ok (.iload_n 3, 1) := by decide +kernel
theorem dX7_init_112 : decode cX7_init 112 = .ok (.aload_n 0, 1) := by decide +kernel
theorem dX7_init_113 : decode cX7_init 113 = .ok (.getfield 48, 3) := by decide +kernel
theorem dX7_init_116 : decode cX7_init 116 = .ok (.if_icmp .ge 75, 3) := by decide +kernel
theorem dX7_init_119 : decode cX7_init 119 = .ok (.aload_n 1, 1) := by decide +kernel
theorem dX7_init_120 : decode cX7_init 120 = .ok (.iload_n 3, 1) := by decide +kernel
theorem dX7_init_121 : decode cX7_init 121 = .ok (.invokevirtual 63, 3) := by decide +kernel
theorem dX7_init_124 : decode cX7_init 124 = .ok (.istore 4, 2) := by decide +kernel
theorem dX7_init_126 : decode cX7_init 126 = .ok (.iload 4, 2) := by decide +kernel
theorem dX7_init_128 : decode cX7_init 128 = .ok (.iconst (-1), 1) := by decide +kernel
theorem dX7_init_129 : decode cX7_init 129 = .ok (.if_icmp .eq 31, 3) := by decide +kernel
theorem dX7_init_132 : decode cX7_init 132 = .ok (.aload_n 0, 1) := by decide +kernel
theorem dX7_init_133 : decode cX7_init 133 = .ok (.getfield 51, 3) := by decide +kernel
theorem dX7_init_136 : decode cX7_init 136 = .ok (.iload_n 3, 1) := by decide +kernel
theorem dX7_init_137 : decode cX7_init 137 = .ok (.aload_n 0, 1) := by decide +kernel
theorem dX7_init_138 : decode cX7_init 138 = .ok (.getfield 51, 3) := by decide +kernel
theorem dX7_init_141 : decode cX7_init 141 = .ok (.iload 4, 2) := by decide +kernel
theorem dX7_init_143 : decode cX7_init 143 = .ok (.iaload, 1) := by decide +kernel
theorem dX7_init_144 : decode cX7_init 144 = .ok (.iastore, 1) := by decide +kernel
theorem dX7_init_145 : decode cX7_init 145 = .ok (.aload_n 0, 1) := by decide +kernel
theorem dX7_init_146 : decode cX7_init 146 = .ok (.getfield 57, 3) := by decide +kernel
theorem dX7_init_149 : decode cX7_init 149 = .ok (.aload_n 0, 1) := by decide +kernel
theorem dX7_init_150 : decode cX7_init 150 = .ok (.getfield 51, 3) := by decide +kernel
theorem dX7_init_153 : decode cX7_init 153 = .ok (.iload_n 3, 1) := by decide +kernel
theorem dX7_init_154 : decode cX7_init 154 = .ok (.iaload, 1) := by decide +kernel
theorem dX7_init_155 : decode cX7_init 155 = .ok (.iload_n 3, 1) := by decide +kernel
theorem dX7_init_156 : decode cX7_init 156 = .ok (.iastore, 1) := by decide +kernel
theorem dX7_init_157 : decode cX7_init 157 = .ok (.goto 28, 3) := by decide +kernel
theorem dX7_init_160 : decode cX7_init 160 = .ok (.iload_n 2, 1) := by decide +kernel
theorem dX7_init_161 : decode cX7_init 161 = .ok (.aload_n 0, 1) := by decide +kernel
theorem dX7_init_162 : decode cX7_init 162 = .ok (.getfield 45, 3) := by decide +kernel
theorem dX7_init_165 : decode cX7_init 165 = .ok (.if_icmp .ge 20, 3) := by decide +kernel
theorem dX7_init_168 : decode cX7_init 168 = .ok (.aload_n 0, 1) := by decide +kernel
theorem dX7_init_169 : decode cX7_init 169 = .ok (.getfield 51, 3) := by decide +kernel
theorem dX7_init_172 : decode cX7_init 172 = .ok (.iload_n 3, 1) := by decide +kernel
theorem dX7_init_173 : decode cX7_init 173 = .ok (.iload_n 2, 1) := by decide +kernel
theorem dX7_init_174 : decode cX7_init 174 = .ok (.iastore, 1) := by decide +kernel
theorem dX7_init_175 : decode cX7_init 175 = .ok (.aload_n 0, 1) := by decide +kernel
theorem dX7_init_176 : decode cX7_init 176 = .ok (.getfield 54, 3) := by decide +kernel
theorem dX7_init_179 : decode cX7_init 179 = .ok (.iload_n 2, 1) := by decide +kernel
theorem dX7_init_180 : decode cX7_init 180 = .ok (.iload_n 3, 1) := by decide +kernel
theorem dX7_init_181 : decode cX7_init 181 = .ok (.iastore, 1) := by decide +kernel
theorem dX7_init_182 : decode cX7_init 182 = .ok (.iinc 2 1, 3) := by decide +kernel
theorem dX7_init_185 : decode cX7_init 185 = .ok (.iinc 3 1, 3) := by decide +kernel
theorem dX7_init_188 : decode cX7_init 188 = .ok (.goto (-77), 3) := by decide +kernel
theorem dX7_init_191 : decode cX7_init 191 = .ok (.iconst 0, 1) := by decide +kernel
theorem dX7_init_192 : decode cX7_init 192 = .ok (.istore_n 3, 1) := by decide +kernel
theorem dX7_init_193 : decode cX7_init 193 = .ok (.iload_n 3, 1) := by decide +kernel
theorem dX7_init_194 : decode cX7_init 194 = .ok (.aload_n 0, 1) := by decide +kernel
theorem dX7_init_195 : decode cX7_init 195 = .ok (.getfield 45, 3) := by decide +kernel
theorem dX7_init_198 : decode cX7_init 198 = .ok (.if_icmp .ge 50, 3) := by decide +kernel
theorem dX7_init_201 : decode cX7_init 201 = .ok (.iconst 0, 1) := by decide +kernel
theorem dX7_init_202 : decode cX7_init 202 = .ok (.istore 4, 2) := by decide +kernel
theorem dX7_init_204 : decode cX7_init 204 = .ok (.iload 4, 2) := by decide +kernel
theorem dX7_init_206 : decode cX7_init 206 = .ok (.aload_n 0, 1) := by decide +kernel
theorem dX7_init_207 : decode cX7_init 207 = .ok (.getfield 45, 3) := by decide +kernel
theorem dX7_init_210 : decode cX7_init 210 = .ok (.if_icmp .ge 32, 3) := by decide +kernel
theorem dX7_init_213 : decode cX7_init 213 = .ok (.aload_n 0, 1) := by decide +kernel
theorem dX7_init_214 : decode cX7_init 214 = .ok (.iload_n 3, 1) := by decide +kernel
theorem dX7_init_215 : decode cX7_init 215 = .ok (.iload 4, 2) := by decide +kernel
theorem dX7_init_217 : decode cX7_init 217 = .ok (.invokevirtual 67, 3) := by decide +kernel
theorem dX7_init_220 : decode cX7_init 220 = .ok (.ifCond .eq 16, 3) := by decide +kernel
theorem dX7_init_223 : decode cX7_init 223 = .ok (.aload_n 0, 1) := by decide +kernel
theorem dX7_init_224 : decode cX7_init 224 = .ok (.getfield 60, 3) := by decide +kernel
theorem dX7_init_227 : decode cX7_init 227 = .ok (.iload_n 3, 1) := by decide +kernel
theorem dX7_init_228 : decode cX7_init 228 = .ok (.dup2, 1) := by decide +kernel
theorem dX7_init_229 : decode cX7_init 229 = .ok (.iaload, 1) := by decide +kernel
theorem dX7_init_230 : decode cX7_init 230 = .ok (.iconst 1, 1) := by decide +kernel
theorem dX7_init_231 : decode cX7_init 231 = .ok (.iload 4, 2) := by decide +kernel
theorem dX7_init_233 : decode cX7_init 233 = .ok (.ishl, 1) := by decide +kernel
theorem dX7_init_234 : decode cX7_init 234 = .ok (.ior, 1) := by decide +kernel
theorem dX7_init_235 : decode cX7_init 235 = .ok (.iastore, 1) := by decide +kernel
theorem dX7_init_236 : decode cX7_init 236 = .ok (.iinc 4 1, 3) := by decide +kernel
theorem dX7_init_239 : decode cX7_init 239 = .ok (.goto (-35), 3) := by decide +kernel
theorem dX7_init_242 : decode cX7_init 242 = .ok (.iinc 3 1, 3) := by decide +kernel
theorem dX7_init_245 : decode cX7_init 245 = .ok (.goto (-52), 3) := by decide +kernel
theorem dX7_init_248 : decode cX7_init 248 = .ok (.return_, 1) := by decide +kernel
theorem dX7_standsOnceBetween_0 : decode cX7_standsOnceBetween 0 = .ok (.aload_n 0, 1) := by decide +kernel
theorem dX7_standsOnceBetween_1 : decode cX7_standsOnceBetween 1 = .ok (.getfield 54, 3) := by decide +kernel
theorem dX7_standsOnceBetween_4 : decode cX7_standsOnceBetween 4 = .ok (.iload_n 1, 1) := by decide +kernel
theorem dX7_standsOnceBetween_5 : decode cX7_standsOnceBetween 5 = .ok (.iaload, 1) := by decide +kernel
theorem dX7_standsOnceBetween_6 : decode cX7_standsOnceBetween 6 = .ok (.aload_n 0, 1) := by decide +kernel
theorem dX7_standsOnceBetween_7 : decode cX7_standsOnceBetween 7 = .ok (.getfield 54, 3) := by decide +kernel
theorem dX7_standsOnceBetween_10 : decode cX7_standsOnceBetween 10 = .ok (.iload_n 2, 1) := by decide +kernel
theorem dX7_standsOnceBetween_11 : decode cX7_standsOnceBetween 11 = .ok (.iaload, 1) := by decide +kernel
theorem dX7_standsOnceBetween_12 : decode cX7_standsOnceBetween 12 = .ok (.if_icmp .ge 22, 3) := by decide +kernel
theorem dX7_standsOnceBetween_15 : decode cX7_standsOnceBetween 15 = .ok (.aload_n 0, 1) := by decide +kernel
theorem dX7_standsOnceBetween_16 : decode cX7_standsOnceBetween 16 = .ok (.getfield 54, 3) := by decide +kernel
theorem dX7_standsOnceBetween_19 : decode cX7_standsOnceBetween 19 = .ok (.iload_n 2, 1) := by decide +kernel
theorem dX7_standsOnceBetween_20 : decode cX7_standsOnceBetween 20 = .ok (.iaload, 1) := by decide +kernel
theorem dX7_standsOnceBetween_21 : decode cX7_standsOnceBetween 21 = .ok (.aload_n 0, 1) := by decide +kernel
theorem dX7_standsOnceBetween_22 : decode cX7_standsOnceBetween 22 = .ok (.getfield 57, 3) := by decide +kernel
theorem dX7_standsOnceBetween_25 : decode cX7_standsOnceBetween 25 = .ok (.iload_n 1, 1) := by decide +kernel
theorem dX7_standsOnceBetween_26 : decode cX7_standsOnceBetween 26 = .ok (.iaload, 1) := by decide +kernel
theorem dX7_standsOnceBetween_27 : decode cX7_standsOnceBetween 27 = .ok (.if_icmp .ge 7, 3) := by decide +kernel
theorem dX7_standsOnceBetween_30 : decode cX7_standsOnceBetween 30 = .ok (.iconst 1, 1) := by decide +kernel
theorem dX7_standsOnceBetween_31 : decode cX7_standsOnceBetween 31 = .ok (.goto 4, 3) := by decide +kernel
theorem dX7_standsOnceBetween_34 : decode cX7_standsOnceBetween 34 = .ok (.iconst 0, 1) := by decide +kernel
theorem dX7_standsOnceBetween_35 : decode cX7_standsOnceBetween 35 = .ok (.istore_n 3, 1) := by decide +kernel
theorem dX7_standsOnceBetween_36 : decode cX7_standsOnceBetween 36 = .ok (.aload_n 0, 1) := by decide +kernel
theorem dX7_standsOnceBetween_37 : decode cX7_standsOnceBetween 37 = .ok (.getfield 54, 3) := by decide +kernel
theorem dX7_standsOnceBetween_40 : decode cX7_standsOnceBetween 40 = .ok (.iload_n 1, 1) := by decide +kernel
theorem dX7_standsOnceBetween_41 : decode cX7_standsOnceBetween 41 = .ok (.iaload, 1) := by decide +kernel
theorem dX7_standsOnceBetween_42 : decode cX7_standsOnceBetween 42 = .ok (.aload_n 0, 1) := by decide +kernel
theorem dX7_standsOnceBetween_43 : decode cX7_standsOnceBetween 43 = .ok (.getfield 57, 3) := by decide +kernel
theorem dX7_standsOnceBetween_46 : decode cX7_standsOnceBetween 46 = .ok (.iload_n 2, 1) := by decide +kernel
theorem dX7_standsOnceBetween_47 : decode cX7_standsOnceBetween 47 = .ok (.iaload, 1) := by decide +kernel
theorem dX7_standsOnceBetween_48 : decode cX7_standsOnceBetween 48 = .ok (.if_icmp .ge 22, 3) := by decide +kernel
theorem dX7_standsOnceBetween_51 : decode cX7_standsOnceBetween 51 = .ok (.aload_n 0, 1) := by decide +kernel
theorem dX7_standsOnceBetween_52 : decode cX7_standsOnceBetween 52 = .ok (.getfield 57, 3) := by decide +kernel
theorem dX7_standsOnceBetween_55 : decode cX7_standsOnceBetween 55 = .ok (.iload_n 2, 1) := by decide +kernel
theorem dX7_standsOnceBetween_56 : decode cX7_standsOnceBetween 56 = .ok (.iaload, 1) := by decide +kernel
theorem dX7_standsOnceBetween_57 : decode cX7_standsOnceBetween 57 = .ok (.aload_n 0, 1) := by decide +kernel
theorem dX7_standsOnceBetween_58 : decode cX7_standsOnceBetween 58 = .ok (.getfield 57, 3) := by decide +kernel
theorem dX7_standsOnceBetween_61 : decode cX7_standsOnceBetween 61 = .ok (.iload_n 1, 1) := by decide +kernel
theorem dX7_standsOnceBetween_62 : decode cX7_standsOnceBetween 62 = .ok (.iaload, 1) := by decide +kernel
theorem dX7_standsOnceBetween_63 : decode cX7_standsOnceBetween 63 = .ok (.if_icmp .ge 7, 3) := by decide +kernel
theorem dX7_standsOnceBetween_66 : decode cX7_standsOnceBetween 66 = .ok (.iconst 1, 1) := by decide +kernel
theorem dX7_standsOnceBetween_67 : decode cX7_standsOnceBetween 67 = .ok (.goto 4, 3) := by decide +kernel
theorem dX7_standsOnceBetween_70 : decode cX7_standsOnceBetween 70 = .ok (.iconst 0, 1) := by decide +kernel
theorem dX7_standsOnceBetween_71 : decode cX7_standsOnceBetween 71 = .ok (.istore 4, 2) := by decide +kernel
theorem dX7_standsOnceBetween_73 : decode cX7_standsOnceBetween 73 = .ok (.iload_n 3, 1) := by decide +kernel
theorem dX7_standsOnceBetween_74 : decode cX7_standsOnceBetween 74 = .ok (.iload 4, 2) := by decide +kernel
theorem dX7_standsOnceBetween_76 : decode cX7_standsOnceBetween 76 = .ok (.if_icmp .eq 7, 3) := by decide +kernel
theorem dX7_standsOnceBetween_79 : decode cX7_standsOnceBetween 79 = .ok (.iconst 1, 1) := by decide +kernel
theorem dX7_standsOnceBetween_80 : decode cX7_standsOnceBetween 80 = .ok (.goto 4, 3) := by decide +kernel
theorem dX7_standsOnceBetween_83 : decode cX7_standsOnceBetween 83 = .ok (.iconst 0, 1) := by decide +kernel
theorem dX7_standsOnceBetween_84 : decode cX7_standsOnceBetween 84 = .ok (.ireturn, 1) := by decide +kernel
theorem dX7_letterCount_0 : decode cX7_letterCount 0 = .ok (.aload_n 0, 1) := by decide +kernel
theorem dX7_letterCount_1 : decode cX7_letterCount 1 = .ok (.getfield 45, 3) := by decide +kernel
theorem dX7_letterCount_4 : decode cX7_letterCount 4 = .ok (.ireturn, 1) := by decide +kernel
theorem dX7_placeCount_0 : decode cX7_placeCount 0 = .ok (.aload_n 0, 1) := by decide +kernel
theorem dX7_placeCount_1 : decode cX7_placeCount 1 = .ok (.getfield 48, 3) := by decide +kernel
theorem dX7_placeCount_4 : decode cX7_placeCount 4 = .ok (.ireturn, 1) := by decide +kernel
theorem dX7_hasLetter_0 : decode cX7_hasLetter 0 = .ok (.iload_n 1, 1) := by decide +kernel
theorem dX7_hasLetter_1 : decode cX7_hasLetter 1 = .ok (.ifCond .lt 15, 3) := by decide +kernel
theorem dX7_hasLetter_4 : decode cX7_hasLetter 4 = .ok (.iload_n 1, 1) := by decide +kernel
theorem dX7_hasLetter_5 : decode cX7_hasLetter 5 = .ok (.aload_n 0, 1) := by decide +kernel
theorem dX7_hasLetter_6 : decode cX7_hasLetter 6 = .ok (.getfield 45, 3) := by decide +kernel
theorem dX7_hasLetter_9 : decode cX7_hasLetter 9 = .ok (.if_icmp .ge 7, 3) := by decide +kernel
theorem dX7_hasLetter_12 : decode cX7_hasLetter 12 = .ok (.iconst 1, 1) := by decide +kernel
theorem dX7_hasLetter_13 : decode cX7_hasLetter 13 = .ok (.goto 4, 3) := by decide +kernel
theorem dX7_hasLetter_16 : decode cX7_hasLetter 16 = .ok (.iconst 0, 1) := by decide +kernel
theorem dX7_hasLetter_17 : decode cX7_hasLetter 17 = .ok (.ireturn, 1) := by decide +kernel
theorem dX7_hasThree_0 : decode cX7_hasThree 0 = .ok (.aload_n 0, 1) := by decide +kernel
theorem dX7_hasThree_1 : decode cX7_hasThree 1 = .ok (.iload_n 1, 1) := by decide +kernel
theorem dX7_hasThree_2 : decode cX7_hasThree 2 = .ok (.invokevirtual 71, 3) := by decide +kernel
theorem dX7_hasThree_5 : decode cX7_hasThree 5 = .ok (.ifCond .eq 38, 3) := by decide +kernel
theorem dX7_hasThree_8 : decode cX7_hasThree 8 = .ok (.aload_n 0, 1) := by decide +kernel
theorem dX7_hasThree_9 : decode cX7_hasThree 9 = .ok (.iload_n 2, 1) := by decide +kernel
theorem dX7_hasThree_10 : decode cX7_hasThree 10 = .ok (.invokevirtual 71, 3) := by decide +kernel
theorem dX7_hasThree_13 : decode cX7_hasThree 13 = .ok (.ifCond .eq 30, 3) := by decide +kernel
theorem dX7_hasThree_16 : decode cX7_hasThree 16 = .ok (.aload_n 0, 1) := by decide +kernel
theorem dX7_hasThree_17 : decode cX7_hasThree 17 = .ok (.iload_n 3, 1) := by decide +kernel
theorem dX7_hasThree_18 : decode cX7_hasThree 18 = .ok (.invokevirtual 71, 3) := by decide +kernel
theorem dX7_hasThree_21 : decode cX7_hasThree 21 = .ok (.ifCond .eq 22, 3) := by decide +kernel
theorem dX7_hasThree_24 : decode cX7_hasThree 24 = .ok (.iload_n 1, 1) := by decide +kernel
theorem dX7_hasThree_25 : decode cX7_hasThree 25 = .ok (.iload_n 2, 1) := by decide +kernel
theorem dX7_hasThree_26 : decode cX7_hasThree 26 = .ok (.if_icmp .eq 17, 3) := by decide +kernel
theorem dX7_hasThree_29 : decode cX7_hasThree 29 = .ok (.iload_n 2, 1) := by decide +kernel
theorem dX7_hasThree_30 : decode cX7_hasThree 30 = .ok (.iload_n 3, 1) := by decide +kernel
theorem dX7_hasThree_31 : decode cX7_hasThree 31 = .ok (.if_icmp .eq 12, 3) := by decide +kernel
theorem dX7_hasThree_34 : decode cX7_hasThree 34 = .ok (.iload_n 3, 1) := by decide +kernel
theorem dX7_hasThree_35 : decode cX7_hasThree 35 = .ok (.iload_n 1, 1) := by decide +kernel
theorem dX7_hasThree_36 : decode cX7_hasThree 36 = .ok (.if_icmp .eq 7, 3) := by decide +kernel
theorem dX7_hasThree_39 : decode cX7_hasThree 39 = .ok (.iconst 1, 1) := by decide +kernel
theorem dX7_hasThree_40 : decode cX7_hasThree 40 = .ok (.goto 4, 3) := by decide +kernel
theorem dX7_hasThree_43 : decode cX7_hasThree 43 = .ok (.iconst 0, 1) := by decide +kernel
theorem dX7_hasThree_44 : decode cX7_hasThree 44 = .ok (.ireturn, 1) := by decide +kernel
theorem dX7_hasLetters_0 : decode cX7_hasLetters 0 = .ok (.iload_n 1, 1) := by decide +kernel
theorem dX7_hasLetters_1 : decode cX7_hasLetters 1 = .ok (.ifCond .lt 17, 3) := by decide +kernel
theorem dX7_hasLetters_4 : decode cX7_hasLetters 4 = .ok (.iload_n 1, 1) := by decide +kernel
theorem dX7_hasLetters_5 : decode cX7_hasLetters 5 = .ok (.iconst 1, 1) := by decide +kernel
theorem dX7_hasLetters_6 : decode cX7_hasLetters 6 = .ok (.aload_n 0, 1) := by decide +kernel
theorem dX7_hasLetters_7 : decode cX7_hasLetters 7 = .ok (.getfield 45, 3) := by decide +kernel
theorem dX7_hasLetters_10 : decode cX7_hasLetters 10 = .ok (.ishl, 1) := by decide +kernel
theorem dX7_hasLetters_11 : decode cX7_hasLetters 11 = .ok (.if_icmp .ge 7, 3) := by decide +kernel
theorem dX7_hasLetters_14 : decode cX7_hasLetters 14 = .ok (.iconst 1, 1) := by decide +kernel
theorem dX7_hasLetters_15 : decode cX7_hasLetters 15 = .ok (.goto 4, 3) := by decide +kernel
theorem dX7_hasLetters_18 : decode cX7_hasLetters 18 = .ok (.iconst 0, 1) := by decide +kernel
theorem dX7_hasLetters_19 : decode cX7_hasLetters 19 = .ok (.ireturn, 1) := by decide +kernel
theorem dX7_hasPlace_0 : decode cX7_hasPlace 0 = .ok (.iload_n 1, 1) := by decide +kernel
theorem dX7_hasPlace_1 : decode cX7_hasPlace 1 = .ok (.ifCond .lt 15, 3) := by decide +kernel
theorem dX7_hasPlace_4 : decode cX7_hasPlace 4 = .ok (.iload_n 1, 1) := by decide +kernel
theorem dX7_hasPlace_5 : decode cX7_hasPlace 5 = .ok (.aload_n 0, 1) := by decide +kernel
theorem dX7_hasPlace_6 : decode cX7_hasPlace 6 = .ok (.getfield 48, 3) := by decide +kernel
theorem dX7_hasPlace_9 : decode cX7_hasPlace 9 = .ok (.if_icmp .ge 7, 3) := by decide +kernel
theorem dX7_hasPlace_12 : decode cX7_hasPlace 12 = .ok (.iconst 1, 1) := by decide +kernel
theorem dX7_hasPlace_13 : decode cX7_hasPlace 13 = .ok (.goto 4, 3) := by decide +kernel
theorem dX7_hasPlace_16 : decode cX7_hasPlace 16 = .ok (.iconst 0, 1) := by decide +kernel
theorem dX7_hasPlace_17 : decode cX7_hasPlace 17 = .ok (.ireturn, 1) := by decide +kernel
theorem dX7_stepCount_0 : decode cX7_stepCount 0 = .ok (.iconst 1, 1) := by decide +kernel
theorem dX7_stepCount_1 : decode cX7_stepCount 1 = .ok (.aload_n 0, 1) := by decide +kernel
theorem dX7_stepCount_2 : decode cX7_stepCount 2 = .ok (.getfield 48, 3) := by decide +kernel
theorem dX7_stepCount_5 : decode cX7_stepCount 5 = .ok (.invokestatic 75, 3) := by decide +kernel
theorem dX7_stepCount_8 : decode cX7_stepCount 8 = .ok (.ireturn, 1) := by decide +kernel
theorem dX7_hasStep_0 : decode cX7_hasStep 0 = .ok (.iload_n 1, 1) := by decide +kernel
theorem dX7_hasStep_1 : decode cX7_hasStep 1 = .ok (.ifCond .lt 15, 3) := by decide +kernel
theorem dX7_hasStep_4 : decode cX7_hasStep 4 = .ok (.iload_n 1, 1) := by decide +kernel
theorem dX7_hasStep_5 : decode cX7_hasStep 5 = .ok (.aload_n 0, 1) := by decide +kernel
theorem dX7_hasStep_6 : decode cX7_hasStep 6 = .ok (.invokevirtual 81, 3) := by decide +kernel
theorem dX7_hasStep_9 : decode cX7_hasStep 9 = .ok (.if_icmp .ge 7, 3) := by decide +kernel
theorem dX7_hasStep_12 : decode cX7_hasStep 12 = .ok (.iconst 1, 1) := by decide +kernel
theorem dX7_hasStep_13 : decode cX7_hasStep 13 = .ok (.goto 4, 3) := by decide +kernel
theorem dX7_hasStep_16 : decode cX7_hasStep 16 = .ok (.iconst 0, 1) := by decide +kernel
theorem dX7_hasStep_17 : decode cX7_hasStep 17 = .ok (.ireturn, 1) := by decide +kernel
theorem dX7_letterOn_0 : decode cX7_letterOn 0 = .ok (.aload_n 0, 1) := by decide +kernel
theorem dX7_letterOn_1 : decode cX7_letterOn 1 = .ok (.iload_n 1, 1) := by decide +kernel
theorem dX7_letterOn_2 : decode cX7_letterOn 2 = .ok (.invokevirtual 84, 3) := by decide +kernel
theorem dX7_letterOn_5 : decode cX7_letterOn 5 = .ok (.ifCond .eq 12, 3) := by decide +kernel
theorem dX7_letterOn_8 : decode cX7_letterOn 8 = .ok (.aload_n 0, 1) := by decide +kernel
theorem dX7_letterOn_9 : decode cX7_letterOn 9 = .ok (.getfield 51, 3) := by decide +kernel
theorem dX7_letterOn_12 : decode cX7_letterOn 12 = .ok (.iload_n 1, 1) := by decide +kernel
theorem dX7_letterOn_13 : decode cX7_letterOn 13 = .ok (.iaload, 1) := by decide +kernel
theorem dX7_letterOn_14 : decode cX7_letterOn 14 = .ok (.goto 4, 3) := by decide +kernel
theorem dX7_letterOn_17 : decode cX7_letterOn 17 = .ok (.iconst (-1), 1) := by decide +kernel
theorem dX7_letterOn_18 : decode cX7_letterOn 18 = .ok (.ireturn, 1) := by decide +kernel
theorem dX7_placeOf_0 : decode cX7_placeOf 0 = .ok (.aload_n 0, 1) := by decide +kernel
theorem dX7_placeOf_1 : decode cX7_placeOf 1 = .ok (.iload_n 1, 1) := by decide +kernel
theorem dX7_placeOf_2 : decode cX7_placeOf 2 = .ok (.invokevirtual 71, 3) := by decide +kernel
theorem dX7_placeOf_5 : decode cX7_placeOf 5 = .ok (.ifCond .ne 5, 3) := by decide +kernel
theorem dX7_placeOf_8 : decode cX7_placeOf 8 = .ok (.iconst (-1), 1) := by decide +kernel
theorem dX7_placeOf_9 : decode cX7_placeOf 9 = .ok (.ireturn, 1) := by decide +kernel
theorem dX7_placeOf_10 : decode cX7_placeOf 10 = .ok (.iload_n 2, 1) := by decide +kernel
theorem dX7_placeOf_11 : decode cX7_placeOf 11 = .ok (.ifCond .ne 12, 3) := by decide +kernel
theorem dX7_placeOf_14 : decode cX7_placeOf 14 = .ok (.aload_n 0, 1) := by decide +kernel
theorem dX7_placeOf_15 : decode cX7_placeOf 15 = .ok (.getfield 54, 3) := by decide +kernel
theorem dX7_placeOf_18 : decode cX7_placeOf 18 = .ok (.iload_n 1, 1) := by decide +kernel
theorem dX7_placeOf_19 : decode cX7_placeOf 19 = .ok (.iaload, 1) := by decide +kernel
theorem dX7_placeOf_20 : decode cX7_placeOf 20 = .ok (.goto 9, 3) := by decide +kernel
theorem dX7_placeOf_23 : decode cX7_placeOf 23 = .ok (.aload_n 0, 1) := by decide +kernel
theorem dX7_placeOf_24 : decode cX7_placeOf 24 = .ok (.getfield 57, 3) := by decide +kernel
theorem dX7_placeOf_27 : decode cX7_placeOf 27 = .ok (.iload_n 1, 1) := by decide +kernel
theorem dX7_placeOf_28 : decode cX7_placeOf 28 = .ok (.iaload, 1) := by decide +kernel
theorem dX7_placeOf_29 : decode cX7_placeOf 29 = .ok (.ireturn, 1) := by decide +kernel
theorem dX7_isFirstOfLetter_0 : decode cX7_isFirstOfLetter 0 = .ok (.aload_n 0, 1) := by decide +kernel
theorem dX7_isFirstOfLetter_1 : decode cX7_isFirstOfLetter 1 = .ok (.iload_n 1, 1) := by decide +kernel
theorem dX7_isFirstOfLetter_2 : decode cX7_isFirstOfLetter 2 = .ok (.invokevirtual 84, 3) := by decide +kernel
theorem dX7_isFirstOfLetter_5 : decode cX7_isFirstOfLetter 5 = .ok (.ifCond .eq 22, 3) := by decide +kernel
theorem dX7_isFirstOfLetter_8 : decode cX7_isFirstOfLetter 8 = .ok (.aload_n 0, 1) := by decide +kernel
theorem dX7_isFirstOfLetter_9 : decode cX7_isFirstOfLetter 9 = .ok (.getfield 54, 3) := by decide +kernel
theorem dX7_isFirstOfLetter_12 : decode cX7_isFirstOfLetter 12 = .ok (.aload_n 0, 1) := by decide +kernel
theorem dX7_isFirstOfLetter_13 : decode cX7_isFirstOfLetter 13 = .ok (.getfield 51, 3) := by decide +kernel
theorem dX7_isFirstOfLetter_16 : decode cX7_isFirstOfLetter 16 = .ok (.iload_n 1, 1) := by decide +kernel
theorem dX7_isFirstOfLetter_17 : decode cX7_isFirstOfLetter 17 = .ok (.iaload, 1) := by decide +kernel
theorem dX7_isFirstOfLetter_18 : decode cX7_isFirstOfLetter 18 = .ok (.iaload, 1) := by decide +kernel
theorem dX7_isFirstOfLetter_19 : decode cX7_isFirstOfLetter 19 = .ok (.iload_n 1, 1) := by decide +kernel
theorem dX7_isFirstOfLetter_20 : decode cX7_isFirstOfLetter 20 = .ok (.if_icmp .ne 7, 3) := by decide +kernel
theorem dX7_isFirstOfLetter_23 : decode cX7_isFirstOfLetter 23 = .ok (.iconst 1, 1) := by decide +kernel
theorem dX7_isFirstOfLetter_24 : decode cX7_isFirstOfLetter 24 = .ok (.goto 4, 3) := by decide +kernel
theorem dX7_isFirstOfLetter_27 : decode cX7_isFirstOfLetter 27 = .ok (.iconst 0, 1) := by decide +kernel
theorem dX7_isFirstOfLetter_28 : decode cX7_isFirstOfLetter 28 = .ok (.ireturn, 1) := by decide +kernel
theorem dX7_placeBehind_0 : decode cX7_placeBehind 0 = .ok (.iload_n 1, 1) := by decide +kernel
theorem dX7_placeBehind_1 : decode cX7_placeBehind 1 = .ok (.iconst 1, 1) := by decide +kernel
theorem dX7_placeBehind_2 : decode cX7_placeBehind 2 = .ok (.iadd, 1) := by decide +kernel
theorem dX7_placeBehind_3 : decode cX7_placeBehind 3 = .ok (.aload_n 0, 1) := by decide +kernel
theorem dX7_placeBehind_4 : decode cX7_placeBehind 4 = .ok (.getfield 48, 3) := by decide +kernel
theorem dX7_placeBehind_7 : decode cX7_placeBehind 7 = .ok (.if_icmp .ge 9, 3) := by decide +kernel
theorem dX7_placeBehind_10 : decode cX7_placeBehind 10 = .ok (.iload_n 1, 1) := by decide +kernel
theorem dX7_placeBehind_11 : decode cX7_placeBehind 11 = .ok (.iconst 1, 1) := by decide +kernel
theorem dX7_placeBehind_12 : decode cX7_placeBehind 12 = .ok (.iadd, 1) := by decide +kernel
theorem dX7_placeBehind_13 : decode cX7_placeBehind 13 = .ok (.goto 4, 3) := by decide +kernel
theorem dX7_placeBehind_16 : decode cX7_placeBehind 16 = .ok (.iconst 0, 1) := by decide +kernel
theorem dX7_placeBehind_17 : decode cX7_placeBehind 17 = .ok (.ireturn, 1) := by decide +kernel
theorem dX7_placeAhead_0 : decode cX7_placeAhead 0 = .ok (.iload_n 1, 1) := by decide +kernel
theorem dX7_placeAhead_1 : decode cX7_placeAhead 1 = .ok (.ifCond .le 9, 3) := by decide +kernel
theorem dX7_placeAhead_4 : decode cX7_placeAhead 4 = .ok (.iload_n 1, 1) := by decide +kernel
theorem dX7_placeAhead_5 : decode cX7_placeAhead 5 = .ok (.iconst 1, 1) := by decide +kernel
theorem dX7_placeAhead_6 : decode cX7_placeAhead 6 = .ok (.isub, 1) := by decide +kernel
theorem dX7_placeAhead_7 : decode cX7_placeAhead 7 = .ok (.goto 9, 3) := by decide +kernel
theorem dX7_placeAhead_10 : decode cX7_placeAhead 10 = .ok (.aload_n 0, 1) := by decide +kernel
theorem dX7_placeAhead_11 : decode cX7_placeAhead 11 = .ok (.getfield 48, 3) := by decide +kernel
theorem dX7_placeAhead_14 : decode cX7_placeAhead 14 = .ok (.iconst 1, 1) := by decide +kernel
theorem dX7_placeAhead_15 : decode cX7_placeAhead 15 = .ok (.isub, 1) := by decide +kernel
theorem dX7_placeAhead_16 : decode cX7_placeAhead 16 = .ok (.ireturn, 1) := by decide +kernel
theorem dX7_areBeside_0 : decode cX7_areBeside 0 = .ok (.aload_n 0, 1) := by decide +kernel
theorem dX7_areBeside_1 : decode cX7_areBeside 1 = .ok (.iload_n 1, 1) := by decide +kernel
theorem dX7_areBeside_2 : decode cX7_areBeside 2 = .ok (.invokevirtual 87, 3) := by decide +kernel
theorem dX7_areBeside_5 : decode cX7_areBeside 5 = .ok (.iload_n 2, 1) := by decide +kernel
theorem dX7_areBeside_6 : decode cX7_areBeside 6 = .ok (.if_icmp .eq 12, 3) := by decide +kernel
theorem dX7_areBeside_9 : decode cX7_areBeside 9 = .ok (.aload_n 0, 1) := by decide +kernel
theorem dX7_areBeside_10 : decode cX7_areBeside 10 = .ok (.iload_n 2, 1) := by decide +kernel
theorem dX7_areBeside_11 : decode cX7_areBeside 11 = .ok (.invokevirtual 87, 3) := by decide +kernel
theorem dX7_areBeside_14 : decode cX7_areBeside 14 = .ok (.iload_n 1, 1) := by decide +kernel
theorem dX7_areBeside_15 : decode cX7_areBeside 15 = .ok (.if_icmp .ne 7, 3) := by decide +kernel
theorem dX7_areBeside_18 : decode cX7_areBeside 18 = .ok (.iconst 1, 1) := by decide +kernel
theorem dX7_areBeside_19 : decode cX7_areBeside 19 = .ok (.goto 4, 3) := by decide +kernel
theorem dX7_areBeside_22 : decode cX7_areBeside 22 = .ok (.iconst 0, 1) := by decide +kernel
theorem dX7_areBeside_23 : decode cX7_areBeside 23 = .ok (.ireturn, 1) := by decide +kernel
theorem dX7_betweenSet_0 : decode cX7_betweenSet 0 = .ok (.aload_n 0, 1) := by decide +kernel
theorem dX7_betweenSet_1 : decode cX7_betweenSet 1 = .ok (.iload_n 1, 1) := by decide +kernel
theorem dX7_betweenSet_2 : decode cX7_betweenSet 2 = .ok (.invokevirtual 71, 3) := by decide +kernel
theorem dX7_betweenSet_5 : decode cX7_betweenSet 5 = .ok (.ifCond .eq 12, 3) := by decide +kernel
theorem dX7_betweenSet_8 : decode cX7_betweenSet 8 = .ok (.aload_n 0, 1) := by decide +kernel
theorem dX7_betweenSet_9 : decode cX7_betweenSet 9 = .ok (.getfield 60, 3) := by decide +kernel
theorem dX7_betweenSet_12 : decode cX7_betweenSet 12 = .ok (.iload_n 1, 1) := by decide +kernel
theorem dX7_betweenSet_13 : decode cX7_betweenSet 13 = .ok (.iaload, 1) := by decide +kernel
theorem dX7_betweenSet_14 : decode cX7_betweenSet 14 = .ok (.goto 4, 3) := by decide +kernel
theorem dX7_betweenSet_17 : decode cX7_betweenSet 17 = .ok (.iconst 0, 1) := by decide +kernel
theorem dX7_betweenSet_18 : decode cX7_betweenSet 18 = .ok (.ireturn, 1) := by decide +kernel
theorem dX7_sharedBetween_0 : decode cX7_sharedBetween 0 = .ok (.aload_n 0, 1) := by decide +kernel
theorem dX7_sharedBetween_1 : decode cX7_sharedBetween 1 = .ok (.iload_n 1, 1) := by decide +kernel
theorem dX7_sharedBetween_2 : decode cX7_sharedBetween 2 = .ok (.invokevirtual 90, 3) := by decide +kernel
theorem dX7_sharedBetween_5 : decode cX7_sharedBetween 5 = .ok (.aload_n 0, 1) := by decide +kernel
theorem dX7_sharedBetween_6 : decode cX7_sharedBetween 6 = .ok (.iload_n 2, 1) := by decide +kernel
theorem dX7_sharedBetween_7 : decode cX7_sharedBetween 7 = .ok (.invokevirtual 90, 3) := by decide +kernel
theorem dX7_sharedBetween_10 : decode cX7_sharedBetween 10 = .ok (.iand, 1) := by decide +kernel
theorem dX7_sharedBetween_11 : decode cX7_sharedBetween 11 = .ok (.invokestatic 93, 3) := by decide +kernel
theorem dX7_sharedBetween_14 : decode cX7_sharedBetween 14 = .ok (.ireturn, 1) := by decide +kernel
theorem dX7_parts_0 : decode cX7_parts 0 = .ok (.aload_n 1, 1) := by decide +kernel
theorem dX7_parts_1 : decode cX7_parts 1 = .ok (.aload_n 0, 1) := by decide +kernel
theorem dX7_parts_2 : decode cX7_parts 2 = .ok (.getfield 45, 3) := by decide +kernel
theorem dX7_parts_5 : decode cX7_parts 5 = .ok (.invokevirtual 98, 3) := by decide +kernel
theorem dX7_parts_8 : decode cX7_parts 8 = .ok (.iconst 0, 1) := by decide +kernel
theorem dX7_parts_9 : decode cX7_parts 9 = .ok (.istore_n 2, 1) := by decide +kernel
theorem dX7_parts_10 : decode cX7_parts 10 = .ok (.iload_n 2, 1) := by decide +kernel
theorem dX7_parts_11 : decode cX7_parts 11 = .ok (.aload_n 0, 1) := by decide +kernel
theorem dX7_parts_12 : decode cX7_parts 12 = .ok (.getfield 45, 3) := by decide +kernel
theorem dX7_parts_15 : decode cX7_parts 15 = .ok (.if_icmp .ge 41, 3) := by decide +kernel
theorem dX7_parts_18 : decode cX7_parts 18 = .ok (.iconst 0, 1) := by decide +kernel
theorem dX7_parts_19 : decode cX7_parts 19 = .ok (.istore_n 3, 1) := by decide +kernel
theorem dX7_parts_20 : decode cX7_parts 20 = .ok (.iload_n 3, 1) := by decide +kernel
theorem dX7_parts_21 : decode cX7_parts 21 = .ok (.iload_n 2, 1) := by decide +kernel
theorem dX7_parts_22 : decode cX7_parts 22 = .ok (.if_icmp .ge 28, 3) := by decide +kernel
theorem dX7_parts_25 : decode cX7_parts 25 = .ok (.aload_n 0, 1) := by decide +kernel
theorem dX7_parts_26 : decode cX7_parts 26 = .ok (.getfield 60, 3) := by decide +kernel
theorem dX7_parts_29 : decode cX7_parts 29 = .ok (.iload_n 2, 1) := by decide +kernel
theorem dX7_parts_30 : decode cX7_parts 30 = .ok (.iaload, 1) := by decide +kernel
theorem dX7_parts_31 : decode cX7_parts 31 = .ok (.iload_n 3, 1) := by decide +kernel
theorem dX7_parts_32 : decode cX7_parts 32 = .ok (.invokestatic 104, 3) := by decide +kernel
theorem dX7_parts_35 : decode cX7_parts 35 = .ok (.ifCond .eq 9, 3) := by decide +kernel
theorem dX7_parts_38 : decode cX7_parts 38 = .ok (.aload_n 1, 1) := by decide +kernel
theorem dX7_parts_39 : decode cX7_parts 39 = .ok (.iload_n 2, 1) := by decide +kernel
theorem dX7_parts_40 : decode cX7_parts 40 = .ok (.iload_n 3, 1) := by decide +kernel
theorem dX7_parts_41 : decode cX7_parts 41 = .ok (.invokevirtual 107, 3) := by decide +kernel
theorem dX7_parts_44 : decode cX7_parts 44 = .ok (.iinc 3 1, 3) := by decide +kernel
theorem dX7_parts_47 : decode cX7_parts 47 = .ok (.goto (-27), 3) := by decide +kernel
theorem dX7_parts_50 : decode cX7_parts 50 = .ok (.iinc 2 1, 3) := by decide +kernel
theorem dX7_parts_53 : decode cX7_parts 53 = .ok (.goto (-43), 3) := by decide +kernel
theorem dX7_parts_56 : decode cX7_parts 56 = .ok (.aload_n 1, 1) := by decide +kernel
theorem dX7_parts_57 : decode cX7_parts 57 = .ok (.invokevirtual 111, 3) := by decide +kernel
theorem dX7_parts_60 : decode cX7_parts 60 = .ok (.ireturn, 1) := by decide +kernel
theorem dX7_brokenLaw_0 : decode cX7_brokenLaw 0 = .ok (.aload_n 0, 1) := by decide +kernel
theorem dX7_brokenLaw_1 : decode cX7_brokenLaw 1 = .ok (.invokevirtual 114, 3) := by decide +kernel
theorem dX7_brokenLaw_4 : decode cX7_brokenLaw 4 = .ok (.ifCond .ne 5, 3) := by decide +kernel
theorem dX7_brokenLaw_7 : decode cX7_brokenLaw 7 = .ok (.iconst 1, 1) := by decide +kernel
theorem dX7_brokenLaw_8 : decode cX7_brokenLaw 8 = .ok (.ireturn, 1) := by decide +kernel
theorem dX7_brokenLaw_9 : decode cX7_brokenLaw 9 = .ok (.aload_n 0, 1) := by decide +kernel
theorem dX7_brokenLaw_10 : decode cX7_brokenLaw 10 = .ok (.invokevirtual 118, 3) := by decide +kernel
theorem dX7_brokenLaw_13 : decode cX7_brokenLaw 13 = .ok (.ifCond .ne 5, 3) := by decide +kernel
theorem dX7_brokenLaw_16 : decode cX7_brokenLaw 16 = .ok (.iconst 2, 1) := by decide +kernel
theorem dX7_brokenLaw_17 : decode cX7_brokenLaw 17 = .ok (.ireturn, 1) := by decide +kernel
theorem dX7_brokenLaw_18 : decode cX7_brokenLaw 18 = .ok (.aload_n 0, 1) := by decide +kernel
theorem dX7_brokenLaw_19 : decode cX7_brokenLaw 19 = .ok (.aload_n 1, 1) := by decide +kernel
theorem dX7_brokenLaw_20 : decode cX7_brokenLaw 20 = .ok (.invokevirtual 121, 3) := by decide +kernel
theorem dX7_brokenLaw_23 : decode cX7_brokenLaw 23 = .ok (.ifCond .eq 7, 3) := by decide +kernel
theorem dX7_brokenLaw_26 : decode cX7_brokenLaw 26 = .ok (.iconst 0, 1) := by decide +kernel
theorem dX7_brokenLaw_27 : decode cX7_brokenLaw 27 = .ok (.goto 4, 3) := by decide +kernel
theorem dX7_brokenLaw_30 : decode cX7_brokenLaw 30 = .ok (.iconst 3, 1) := by decide +kernel
theorem dX7_brokenLaw_31 : decode cX7_brokenLaw 31 = .ok (.ireturn, 1) := by decide +kernel
theorem dX7_eachIsBetweenEvenly_0 : decode cX7_eachIsBetweenEvenly 0 = .ok (.iconst 0, 1) := by decide +kernel
theorem dX7_eachIsBetweenEvenly_1 : decode cX7_eachIsBetweenEvenly 1 = .ok (.istore_n 1, 1) := by decide +kernel
theorem dX7_eachIsBetweenEvenly_2 : decode cX7_eachIsBetweenEvenly 2 = .ok (.iload_n 1, 1) := by decide +kernel
theorem dX7_eachIsBetweenEvenly_3 : decode cX7_eachIsBetweenEvenly 3 = .ok (.aload_n 0, 1) := by decide +kernel
theorem dX7_eachIsBetweenEvenly_4 : decode cX7_eachIsBetweenEvenly 4 = .ok (.getfield 45, 3) := by decide +kernel
theorem dX7_eachIsBetweenEvenly_7 : decode cX7_eachIsBetweenEvenly 7 = .ok (.if_icmp .ge 26, 3) := by decide +kernel
theorem dX7_eachIsBetweenEvenly_10 : decode cX7_eachIsBetweenEvenly 10 = .ok (.aload_n 0, 1) := by decide +kernel
theorem dX7_eachIsBetweenEvenly_11 : decode cX7_eachIsBetweenEvenly 11 = .ok (.getfield 60, 3) := by decide +kernel
theorem dX7_eachIsBetweenEvenly_14 : decode cX7_eachIsBetweenEvenly 14 = .ok (.iload_n 1, 1) := by decide +kernel
theorem dX7_eachIsBetweenEvenly_15 : decode cX7_eachIsBetweenEvenly 15 = .ok (.iaload, 1) := by decide +kernel
theorem dX7_eachIsBetweenEvenly_16 : decode cX7_eachIsBetweenEvenly 16 = .ok (.invokestatic 93, 3) := by decide +kernel
theorem dX7_eachIsBetweenEvenly_19 : decode cX7_eachIsBetweenEvenly 19 = .ok (.invokestatic 125, 3) := by decide +kernel
theorem dX7_eachIsBetweenEvenly_22 : decode cX7_eachIsBetweenEvenly 22 = .ok (.ifCond .ne 5, 3) := by decide +kernel
theorem dX7_eachIsBetweenEvenly_25 : decode cX7_eachIsBetweenEvenly 25 = .ok (.iconst 0, 1) := by decide +kernel
theorem dX7_eachIsBetweenEvenly_26 : decode cX7_eachIsBetweenEvenly 26 = .ok (.ireturn, 1) := by decide +kernel
theorem dX7_eachIsBetweenEvenly_27 : decode cX7_eachIsBetweenEvenly 27 = .ok (.iinc 1 1, 3) := by decide +kernel
theorem dX7_eachIsBetweenEvenly_30 : decode cX7_eachIsBetweenEvenly 30 = .ok (.goto (-28), 3) := by decide +kernel
theorem dX7_eachIsBetweenEvenly_33 : decode cX7_eachIsBetweenEvenly 33 = .ok (.iconst 1, 1) := by decide +kernel
theorem dX7_eachIsBetweenEvenly_34 : decode cX7_eachIsBetweenEvenly 34 = .ok (.ireturn, 1) := by decide +kernel
theorem dX7_eachTwoApartShareEvenly_0 : decode cX7_eachTwoApartShareEvenly 0 = .ok (.iconst 0, 1) := by decide +kernel
theorem dX7_eachTwoApartShareEvenly_1 : decode cX7_eachTwoApartShareEvenly 1 = .ok (.istore_n 1, 1) := by decide +kernel
theorem dX7_eachTwoApartShareEvenly_2 : decode cX7_eachTwoApartShareEvenly 2 = .ok (.iload_n 1, 1) := by decide +kernel
theorem dX7_eachTwoApartShareEvenly_3 : decode cX7_eachTwoApartShareEvenly 3 = .ok (.aload_n 0, 1) := by decide +kernel
theorem dX7_eachTwoApartShareEvenly_4 : decode cX7_eachTwoApartShareEvenly 4 = .ok (.getfield 45, 3) := by decide +kernel
theorem dX7_eachTwoApartShareEvenly_7 : decode cX7_eachTwoApartShareEvenly 7 = .ok (.if_icmp .ge 49, 3) := by decide +kernel
theorem dX7_eachTwoApartShareEvenly_10 : decode cX7_eachTwoApartShareEvenly 10 = .ok (.iconst 0, 1) := by decide +kernel
theorem dX7_eachTwoApartShareEvenly_11 : decode cX7_eachTwoApartShareEvenly 11 = .ok (.istore_n 2, 1) := by decide +kernel
theorem dX7_eachTwoApartShareEvenly_12 : decode cX7_eachTwoApartShareEvenly 12 = .ok (.iload_n 2, 1) := by decide +kernel
theorem dX7_eachTwoApartShareEvenly_13 : decode cX7_eachTwoApartShareEvenly 13 = .ok (.iload_n 1, 1) := by decide +kernel
theorem dX7_eachTwoApartShareEvenly_14 : decode cX7_eachTwoApartShareEvenly 14 = .ok (.if_icmp .ge 36, 3) := by decide +kernel
theorem dX7_eachTwoApartShareEvenly_17 : decode cX7_eachTwoApartShareEvenly 17 = .ok (.aload_n 0, 1) := by decide +kernel
theorem dX7_eachTwoApartShareEvenly_18 : decode cX7_eachTwoApartShareEvenly 18 = .ok (.getfield 60, 3) := by decide +kernel
theorem dX7_eachTwoApartShareEvenly_21 : decode cX7_eachTwoApartShareEvenly 21 = .ok (.iload_n 1, 1) := by decide +kernel
theorem dX7_eachTwoApartShareEvenly_22 : decode cX7_eachTwoApartShareEvenly 22 = .ok (.iaload, 1) := by decide +kernel
theorem dX7_eachTwoApartShareEvenly_23 : decode cX7_eachTwoApartShareEvenly 23 = .ok (.iload_n 2, 1) := by decide +kernel
theorem dX7_eachTwoApartShareEvenly_24 : decode cX7_eachTwoApartShareEvenly 24 = .ok (.invokestatic 104, 3) := by decide +kernel
theorem dX7_eachTwoApartShareEvenly_27 : decode cX7_eachTwoApartShareEvenly 27 = .ok (.ifCond .ne 17, 3) := by decide +kernel
theorem dX7_eachTwoApartShareEvenly_30 : decode cX7_eachTwoApartShareEvenly 30 = .ok (.aload_n 0, 1) := by decide +kernel
theorem dX7_eachTwoApartShareEvenly_31 : decode cX7_eachTwoApartShareEvenly 31 = .ok (.iload_n 1, 1) := by decide +kernel
theorem dX7_eachTwoApartShareEvenly_32 : decode cX7_eachTwoApartShareEvenly 32 = .ok (.iload_n 2, 1) := by decide +kernel
theorem dX7_eachTwoApartShareEvenly_33 : decode cX7_eachTwoApartShareEvenly 33 = .ok (.invokevirtual 128, 3) := by decide +kernel
theorem dX7_eachTwoApartShareEvenly_36 : decode cX7_eachTwoApartShareEvenly 36 = .ok (.invokestatic 125, 3) := by decide +kernel
theorem dX7_eachTwoApartShareEvenly_39 : decode cX7_eachTwoApartShareEvenly 39 = .ok (.ifCond .ne 5, 3) := by decide +kernel
theorem dX7_eachTwoApartShareEvenly_42 : decode cX7_eachTwoApartShareEvenly 42 = .ok (.iconst 0, 1) := by decide +kernel
theorem dX7_eachTwoApartShareEvenly_43 : decode cX7_eachTwoApartShareEvenly 43 = .ok (.ireturn, 1) := by decide +kernel
theorem dX7_eachTwoApartShareEvenly_44 : decode cX7_eachTwoApartShareEvenly 44 = .ok (.iinc 2 1, 3) := by decide +kernel
theorem dX7_eachTwoApartShareEvenly_47 : decode cX7_eachTwoApartShareEvenly 47 = .ok (.goto (-35), 3) := by decide +kernel
theorem dX7_eachTwoApartShareEvenly_50 : decode cX7_eachTwoApartShareEvenly 50 = .ok (.iinc 1 1, 3) := by decide +kernel
theorem dX7_eachTwoApartShareEvenly_53 : decode cX7_eachTwoApartShareEvenly 53 = .ok (.goto (-51), 3) := by decide +kernel
theorem dX7_eachTwoApartShareEvenly_56 : decode cX7_eachTwoApartShareEvenly 56 = .ok (.iconst 1, 1) := by decide +kernel
theorem dX7_eachTwoApartShareEvenly_57 : decode cX7_eachTwoApartShareEvenly 57 = .ok (.ireturn, 1) := by decide +kernel
theorem dX7_sidesCanBeChosen_0 : decode cX7_sidesCanBeChosen 0 = .ok (.aload_n 1, 1) := by decide +kernel
theorem dX7_sidesCanBeChosen_1 : decode cX7_sidesCanBeChosen 1 = .ok (.iconst 2, 1) := by decide +kernel
theorem dX7_sidesCanBeChosen_2 : decode cX7_sidesCanBeChosen 2 = .ok (.aload_n 0, 1) := by decide +kernel
theorem dX7_sidesCanBeChosen_3 : decode cX7_sidesCanBeChosen 3 = .ok (.getfield 45, 3) := by decide +kernel
theorem dX7_sidesCanBeChosen_6 : decode cX7_sidesCanBeChosen 6 = .ok (.imul, 1) := by decide +kernel
theorem dX7_sidesCanBeChosen_7 : decode cX7_sidesCanBeChosen 7 = .ok (.invokevirtual 98, 3) := by decide +kernel
theorem dX7_sidesCanBeChosen_10 : decode cX7_sidesCanBeChosen 10 = .ok (.iconst 0, 1) := by decide +kernel
theorem dX7_sidesCanBeChosen_11 : decode cX7_sidesCanBeChosen 11 = .ok (.istore_n 2, 1) := by decide +kernel
theorem dX7_sidesCanBeChosen_12 : decode cX7_sidesCanBeChosen 12 = .ok (.iload_n 2, 1) := by decide +kernel
theorem dX7_sidesCanBeChosen_13 : decode cX7_sidesCanBeChosen 13 = .ok (.aload_n 0, 1) := by decide +kernel
theorem dX7_sidesCanBeChosen_14 : decode cX7_sidesCanBeChosen 14 = .ok (.getfield 45, 3) := by decide +kernel
theorem dX7_sidesCanBeChosen_17 : decode cX7_sidesCanBeChosen 17 = .ok (.if_icmp .ge 94, 3) := by decide +kernel
theorem dX7_sidesCanBeChosen_20 : decode cX7_sidesCanBeChosen 20 = .ok (.iconst 0, 1) := by decide +kernel
theorem dX7_sidesCanBeChosen_21 : decode cX7_sidesCanBeChosen 21 = .ok (.istore_n 3, 1) := by decide +kernel
theorem dX7_sidesCanBeChosen_22 : decode cX7_sidesCanBeChosen 22 = .ok (.iload_n 3, 1) := by decide +kernel
theorem dX7_sidesCanBeChosen_23 : decode cX7_sidesCanBeChosen 23 = .ok (.iload_n 2, 1) := by decide +kernel
theorem dX7_sidesCanBeChosen_24 : decode cX7_sidesCanBeChosen 24 = .ok (.if_icmp .ge 81, 3) := by decide +kernel
theorem dX7_sidesCanBeChosen_27 : decode cX7_sidesCanBeChosen 27 = .ok (.aload_n 0, 1) := by decide +kernel
theorem dX7_sidesCanBeChosen_28 : decode cX7_sidesCanBeChosen 28 = .ok (.getfield 60, 3) := by decide +kernel
theorem dX7_sidesCanBeChosen_31 : decode cX7_sidesCanBeChosen 31 = .ok (.iload_n 2, 1) := by decide +kernel
theorem dX7_sidesCanBeChosen_32 : decode cX7_sidesCanBeChosen 32 = .ok (.iaload, 1) := by decide +kernel
theorem dX7_sidesCanBeChosen_33 : decode cX7_sidesCanBeChosen 33 = .ok (.iload_n 3, 1) := by decide +kernel
theorem dX7_sidesCanBeChosen_34 : decode cX7_sidesCanBeChosen 34 = .ok (.invokestatic 104, 3) := by decide +kernel
theorem dX7_sidesCanBeChosen_37 : decode cX7_sidesCanBeChosen 37 = .ok (.ifCond .eq 62, 3) := by decide +kernel
theorem dX7_sidesCanBeChosen_40 : decode cX7_sidesCanBeChosen 40 = .ok (.aload_n 0, 1) := by decide +kernel
theorem dX7_sidesCanBeChosen_41 : decode cX7_sidesCanBeChosen 41 = .ok (.iload_n 2, 1) := by decide +kernel
theorem dX7_sidesCanBeChosen_42 : decode cX7_sidesCanBeChosen 42 = .ok (.iload_n 3, 1) := by decide +kernel
theorem dX7_sidesCanBeChosen_43 : decode cX7_sidesCanBeChosen 43 = .ok (.invokevirtual 128, 3) := by decide +kernel
theorem dX7_sidesCanBeChosen_46 : decode cX7_sidesCanBeChosen 46 = .ok (.invokestatic 125, 3) := by decide +kernel
theorem dX7_sidesCanBeChosen_49 : decode cX7_sidesCanBeChosen 49 = .ok (.istore 4, 2) := by decide +kernel
theorem dX7_sidesCanBeChosen_51 : decode cX7_sidesCanBeChosen 51 = .ok (.aload_n 1, 1) := by decide +kernel
theorem dX7_sidesCanBeChosen_52 : decode cX7_sidesCanBeChosen 52 = .ok (.iconst 2, 1) := by decide +kernel
theorem dX7_sidesCanBeChosen_53 : decode cX7_sidesCanBeChosen 53 = .ok (.iload_n 2, 1) := by decide +kernel
theorem dX7_sidesCanBeChosen_54 : decode cX7_sidesCanBeChosen 54 = .ok (.imul, 1) := by decide +kernel
theorem dX7_sidesCanBeChosen_55 : decode cX7_sidesCanBeChosen 55 = .ok (.iload 4, 2) := by decide +kernel
theorem dX7_sidesCanBeChosen_57 : decode cX7_sidesCanBeChosen 57 = .ok (.ifCond .eq 11, 3) := by decide +kernel
theorem dX7_sidesCanBeChosen_60 : decode cX7_sidesCanBeChosen 60 = .ok (.iconst 2, 1) := by decide +kernel
theorem dX7_sidesCanBeChosen_61 : decode cX7_sidesCanBeChosen 61 = .ok (.iload_n 3, 1) := by decide +kernel
theorem dX7_sidesCanBeChosen_62 : decode cX7_sidesCanBeChosen 62 = .ok (.imul, 1) := by decide +kernel
theorem dX7_sidesCanBeChosen_63 : decode cX7_sidesCanBeChosen 63 = .ok (.iconst 1, 1) := by decide +kernel
theorem dX7_sidesCanBeChosen_64 : decode cX7_sidesCanBeChosen 64 = .ok (.iadd, 1) := by decide +kernel
theorem dX7_sidesCanBeChosen_65 : decode cX7_sidesCanBeChosen 65 = .ok (.goto 6, 3) := by decide +kernel
theorem dX7_sidesCanBeChosen_68 : decode cX7_sidesCanBeChosen 68 = .ok (.iconst 2, 1) := by decide +kernel
theorem dX7_sidesCanBeChosen_69 : decode cX7_sidesCanBeChosen 69 = .ok (.iload_n 3, 1) := by decide +kernel
theorem dX7_sidesCanBeChosen_70 : decode cX7_sidesCanBeChosen 70 = .ok (.imul, 1) := by decide +kernel
theorem dX7_sidesCanBeChosen_71 : decode cX7_sidesCanBeChosen 71 = .ok (.invokevirtual 107, 3) := by decide +kernel
theorem dX7_sidesCanBeChosen_74 : decode cX7_sidesCanBeChosen 74 = .ok (.aload_n 1, 1) := by decide +kernel
theorem dX7_sidesCanBeChosen_75 : decode cX7_sidesCanBeChosen 75 = .ok (.iconst 2, 1) := by decide +kernel
theorem dX7_sidesCanBeChosen_76 : decode cX7_sidesCanBeChosen 76 = .ok (.iload_n 2, 1) := by decide +kernel
theorem dX7_sidesCanBeChosen_77 : decode cX7_sidesCanBeChosen 77 = .ok (.imul, 1) := by decide +kernel
theorem dX7_sidesCanBeChosen_78 : decode cX7_sidesCanBeChosen 78 = .ok (.iconst 1, 1) := by decide +kernel
theorem dX7_sidesCanBeChosen_79 : decode cX7_sidesCanBeChosen 79 = .ok (.iadd, 1) := by decide +kernel
theorem dX7_sidesCanBeChosen_80 : decode cX7_sidesCanBeChosen 80 = .ok (.iload 4, 2) := by decide +kernel
theorem dX7_sidesCanBeChosen_82 : decode cX7_sidesCanBeChosen 82 = .ok (.ifCond .eq 9, 3) := by decide +kernel
theorem dX7_sidesCanBeChosen_85 : decode cX7_sidesCanBeChosen 85 = .ok (.iconst 2, 1) := by decide +kernel
theorem dX7_sidesCanBeChosen_86 : decode cX7_sidesCanBeChosen 86 = .ok (.iload_n 3, 1) := by decide +kernel
theorem dX7_sidesCanBeChosen_87 : decode cX7_sidesCanBeChosen 87 = .ok (.imul, 1) := by decide +kernel
theorem dX7_sidesCanBeChosen_88 : decode cX7_sidesCanBeChosen 88 = .ok (.goto 8, 3) := by decide +kernel
theorem dX7_sidesCanBeChosen_91 : decode cX7_sidesCanBeChosen 91 = .ok (.iconst 2, 1) := by decide +kernel
theorem dX7_sidesCanBeChosen_92 : decode cX7_sidesCanBeChosen 92 = .ok (.iload_n 3, 1) := by decide +kernel
theorem dX7_sidesCanBeChosen_93 : decode cX7_sidesCanBeChosen 93 = .ok (.imul, 1) := by decide +kernel
theorem dX7_sidesCanBeChosen_94 : decode cX7_sidesCanBeChosen 94 = .ok (.iconst 1, 1) := by decide +kernel
theorem dX7_sidesCanBeChosen_95 : decode cX7_sidesCanBeChosen 95 = .ok (.iadd, 1) := by decide +kernel
theorem dX7_sidesCanBeChosen_96 : decode cX7_sidesCanBeChosen 96 = .ok (.invokevirtual 107, 3) := by decide +kernel
theorem dX7_sidesCanBeChosen_99 : decode cX7_sidesCanBeChosen 99 = .ok (.iinc 3 1, 3) := by decide +kernel
theorem dX7_sidesCanBeChosen_102 : decode cX7_sidesCanBeChosen 102 = .ok (.goto (-80), 3) := by decide +kernel
theorem dX7_sidesCanBeChosen_105 : decode cX7_sidesCanBeChosen 105 = .ok (.iinc 2 1, 3) := by decide +kernel
theorem dX7_sidesCanBeChosen_108 : decode cX7_sidesCanBeChosen 108 = .ok (.goto (-96), 3) := by decide +kernel
theorem dX7_sidesCanBeChosen_111 : decode cX7_sidesCanBeChosen 111 = .ok (.iconst 0, 1) := by decide +kernel
theorem dX7_sidesCanBeChosen_112 : decode cX7_sidesCanBeChosen 112 = .ok (.istore_n 2, 1) := by decide +kernel
theorem dX7_sidesCanBeChosen_113 : decode cX7_sidesCanBeChosen 113 = .ok (.iload_n 2, 1) := by decide +kernel
theorem dX7_sidesCanBeChosen_114 : decode cX7_sidesCanBeChosen 114 = .ok (.aload_n 0, 1) := by decide +kernel
theorem dX7_sidesCanBeChosen_115 : decode cX7_sidesCanBeChosen 115 = .ok (.getfield 45, 3) := by decide +kernel
theorem dX7_sidesCanBeChosen_118 : decode cX7_sidesCanBeChosen 118 = .ok (.if_icmp .ge 30, 3) := by decide +kernel
theorem dX7_sidesCanBeChosen_121 : decode cX7_sidesCanBeChosen 121 = .ok (.aload_n 1, 1) := by decide +kernel
theorem dX7_sidesCanBeChosen_122 : decode cX7_sidesCanBeChosen 122 = .ok (.iconst 2, 1) := by decide +kernel
theorem dX7_sidesCanBeChosen_123 : decode cX7_sidesCanBeChosen 123 = .ok (.iload_n 2, 1) := by decide +kernel
theorem dX7_sidesCanBeChosen_124 : decode cX7_sidesCanBeChosen 124 = .ok (.imul, 1) := by decide +kernel
theorem dX7_sidesCanBeChosen_125 : decode cX7_sidesCanBeChosen 125 = .ok (.invokevirtual 131, 3) := by decide +kernel
theorem dX7_sidesCanBeChosen_128 : decode cX7_sidesCanBeChosen 128 = .ok (.aload_n 1, 1) := by decide +kernel
theorem dX7_sidesCanBeChosen_129 : decode cX7_sidesCanBeChosen 129 = .ok (.iconst 2, 1) := by decide +kernel
theorem dX7_sidesCanBeChosen_130 : decode cX7_sidesCanBeChosen 130 = .ok (.iload_n 2, 1) := by decide +kernel
theorem dX7_sidesCanBeChosen_131 : decode cX7_sidesCanBeChosen 131 = .ok (.imul, 1) := by decide +kernel
theorem dX7_sidesCanBeChosen_132 : decode cX7_sidesCanBeChosen 132 = .ok (.iconst 1, 1) := by decide +kernel
theorem dX7_sidesCanBeChosen_133 : decode cX7_sidesCanBeChosen 133 = .ok (.iadd, 1) := by decide +kernel
theorem dX7_sidesCanBeChosen_134 : decode cX7_sidesCanBeChosen 134 = .ok (.invokevirtual 131, 3) := by decide +kernel
theorem dX7_sidesCanBeChosen_137 : decode cX7_sidesCanBeChosen 137 = .ok (.if_icmp .ne 5, 3) := by decide +kernel
theorem dX7_sidesCanBeChosen_140 : decode cX7_sidesCanBeChosen 140 = .ok (.iconst 0, 1) := by decide +kernel
theorem dX7_sidesCanBeChosen_141 : decode cX7_sidesCanBeChosen 141 = .ok (.ireturn, 1) := by decide +kernel
theorem dX7_sidesCanBeChosen_142 : decode cX7_sidesCanBeChosen 142 = .ok (.iinc 2 1, 3) := by decide +kernel
theorem dX7_sidesCanBeChosen_145 : decode cX7_sidesCanBeChosen 145 = .ok (.goto (-32), 3) := by decide +kernel
theorem dX7_sidesCanBeChosen_148 : decode cX7_sidesCanBeChosen 148 = .ok (.iconst 1, 1) := by decide +kernel
theorem dX7_sidesCanBeChosen_149 : decode cX7_sidesCanBeChosen 149 = .ok (.ireturn, 1) := by decide +kernel
theorem dX7_leastCode_0 : decode cX7_leastCode 0 = .ok (.aload_n 0, 1) := by decide +kernel
theorem dX7_leastCode_1 : decode cX7_leastCode 1 = .ok (.invokevirtual 134, 3) := by decide +kernel
theorem dX7_leastCode_4 : decode cX7_leastCode 4 = .ok (.aload_n 0, 1) := by decide +kernel
theorem dX7_leastCode_5 : decode cX7_leastCode 5 = .ok (.getfield 15, 3) := by decide +kernel
theorem dX7_leastCode_8 : decode cX7_leastCode 8 = .ok (.lreturn, 1) := by decide +kernel
theorem dX7_kin_0 : decode cX7_kin 0 = .ok (.aload_n 0, 1) := by decide +kernel
theorem dX7_kin_1 : decode cX7_kin 1 = .ok (.invokevirtual 134, 3) := by decide +kernel
theorem dX7_kin_4 : decode cX7_kin 4 = .ok (.aload_n 0, 1) := by decide +kernel
theorem dX7_kin_5 : decode cX7_kin 5 = .ok (.getfield 19, 3) := by decide +kernel
theorem dX7_kin_8 : decode cX7_kin 8 = .ok (.ireturn, 1) := by decide +kernel
theorem dX7_isLike_0 : decode cX7_isLike 0 = .ok (.aload_n 0, 1) := by decide +kernel
theorem dX7_isLike_1 : decode cX7_isLike 1 = .ok (.invokevirtual 134, 3) := by decide +kernel
theorem dX7_isLike_4 : decode cX7_isLike 4 = .ok (.aload_n 1, 1) := by decide +kernel
theorem dX7_isLike_5 : decode cX7_isLike 5 = .ok (.invokevirtual 134, 3) := by decide +kernel
theorem dX7_isLike_8 : decode cX7_isLike 8 = .ok (.aload_n 0, 1) := by decide +kernel
theorem dX7_isLike_9 : decode cX7_isLike 9 = .ok (.getfield 45, 3) := by decide +kernel
theorem dX7_isLike_12 : decode cX7_isLike 12 = .ok (.aload_n 1, 1) := by decide +kernel
theorem dX7_isLike_13 : decode cX7_isLike 13 = .ok (.getfield 45, 3) := by decide +kernel
theorem dX7_isLike_16 : decode cX7_isLike 16 = .ok (.if_icmp .ne 19, 3) := by decide +kernel
theorem dX7_isLike_19 : decode cX7_isLike 19 = .ok (.aload_n 0, 1) := by decide +kernel
theorem dX7_isLike_20 : decode cX7_isLike 20 = .ok (.getfield 15, 3) := by decide +kernel
theorem dX7_isLike_23 : decode cX7_isLike 23 = .ok (.aload_n 1, 1) := by decide +kernel
theorem dX7_isLike_24 : decode cX7_isLike 24 = .ok (.getfield 15, 3) := by decide +kernel
theorem dX7_isLike_27 : decode cX7_isLike 27 = .ok (.lcmp, 1) := by decide +kernel
theorem dX7_isLike_28 : decode cX7_isLike 28 = .ok (.ifCond .ne 7, 3) := by decide +kernel
theorem dX7_isLike_31 : decode cX7_isLike 31 = .ok (.iconst 1, 1) := by decide +kernel
theorem dX7_isLike_32 : decode cX7_isLike 32 = .ok (.goto 4, 3) := by decide +kernel
theorem dX7_isLike_35 : decode cX7_isLike 35 = .ok (.iconst 0, 1) := by decide +kernel
theorem dX7_isLike_36 : decode cX7_isLike 36 = .ok (.ireturn, 1) := by decide +kernel
theorem dX7_tryTurns_0 : decode cX7_tryTurns 0 = .ok (.aload_n 0, 1) := by decide +kernel
theorem dX7_tryTurns_1 : decode cX7_tryTurns 1 = .ok (.getfield 9, 3) := by decide +kernel
theorem dX7_tryTurns_4 : decode cX7_tryTurns 4 = .ok (.ifCond .ne 10, 3) := by decide +kernel
theorem dX7_tryTurns_7 : decode cX7_tryTurns 7 = .ok (.aload_n 0, 1) := by decide +kernel
theorem dX7_tryTurns_8 : decode cX7_tryTurns 8 = .ok (.getfield 48, 3) := by decide +kernel
theorem dX7_tryTurns_11 : decode cX7_tryTurns 11 = .ok (.ifCond .ne 4, 3) := by decide +kernel
theorem dX7_tryTurns_14 : decode cX7_tryTurns 14 = .ok (.return_, 1) := by decide +kernel
theorem dX7_tryTurns_15 : decode cX7_tryTurns 15 = .ok (.aload_n 0, 1) := by decide +kernel
theorem dX7_tryTurns_16 : decode cX7_tryTurns 16 = .ok (.getfield 45, 3) := by decide +kernel
theorem dX7_tryTurns_19 : decode cX7_tryTurns 19 = .ok (.newarray .int, 2) := by decide +kernel
theorem dX7_tryTurns_21 : decode cX7_tryTurns 21 = .ok (.astore_n 1, 1) := by decide +kernel
theorem dX7_tryTurns_22 : decode cX7_tryTurns 22 = .ok (.aload_n 0, 1) := by decide +kernel
theorem dX7_tryTurns_23 : decode cX7_tryTurns 23 = .ok (.iconst 0, 1) := by decide +kernel
theorem dX7_tryTurns_24 : decode cX7_tryTurns 24 = .ok (.iconst 0, 1) := by decide +kernel
theorem dX7_tryTurns_25 : decode cX7_tryTurns 25 = .ok (.aload_n 1, 1) := by decide +kernel
theorem dX7_tryTurns_26 : decode cX7_tryTurns 26 = .ok (.invokevirtual 137, 3) := by decide +kernel
theorem dX7_tryTurns_29 : decode cX7_tryTurns 29 = .ok (.lstore_n 2, 1) := by decide +kernel
theorem dX7_tryTurns_30 : decode cX7_tryTurns 30 = .ok (.aload_n 0, 1) := by decide +kernel
theorem dX7_tryTurns_31 : decode cX7_tryTurns 31 = .ok (.lload_n 2, 1) := by decide +kernel
theorem dX7_tryTurns_32 : decode cX7_tryTurns 32 = .ok (.putfield 15, 3) := by decide +kernel
theorem dX7_tryTurns_35 : decode cX7_tryTurns 35 = .ok (.aload_n 0, 1) := by decide +kernel
theorem dX7_tryTurns_36 : decode cX7_tryTurns 36 = .ok (.iconst 0, 1) := by decide +kernel
theorem dX7_tryTurns_37 : decode cX7_tryTurns 37 = .ok (.putfield 19, 3) := by decide +kernel
theorem dX7_tryTurns_40 : decode cX7_tryTurns 40 = .ok (.iconst 0, 1) := by decide +kernel
theorem dX7_tryTurns_41 : decode cX7_tryTurns 41 = .ok (.istore 4, 2) := by decide +kernel
theorem dX7_tryTurns_43 : decode cX7_tryTurns 43 = .ok (.iload 4, 2) := by decide +kernel
theorem dX7_tryTurns_45 : decode cX7_tryTurns 45 = .ok (.aload_n 0, 1) := by decide +kernel
theorem dX7_tryTurns_46 : decode cX7_tryTurns 46 = .ok (.getfield 48, 3) := by decide +kernel
theorem dX7_tryTurns_49 : decode cX7_tryTurns 49 = .ok (.if_icmp .ge 74, 3) := by decide +kernel
theorem dX7_tryTurns_52 : decode cX7_tryTurns 52 = .ok (.iconst 0, 1) := by decide +kernel
theorem dX7_tryTurns_53 : decode cX7_tryTurns 53 = .ok (.istore 5, 2) := by decide +kernel
theorem dX7_tryTurns_55 : decode cX7_tryTurns 55 = .ok (.iload 5, 2) := by decide +kernel
theorem dX7_tryTurns_57 : decode cX7_tryTurns 57 = .ok (.iconst 2, 1) := by decide +kernel
theorem dX7_tryTurns_58 : decode cX7_tryTurns 58 = .ok (.if_icmp .ge 59, 3) := by decide +kernel
theorem dX7_tryTurns_61 : decode cX7_tryTurns 61 = .ok (.aload_n 0, 1) := by decide +kernel
theorem dX7_tryTurns_62 : decode cX7_tryTurns 62 = .ok (.iload 4, 2) := by decide +kernel
theorem dX7_tryTurns_64 : decode cX7_tryTurns 64 = .ok (.iload 5, 2) := by decide +kernel
theorem dX7_tryTurns_66 : decode cX7_tryTurns 66 = .ok (.iconst 1, 1) := by decide +kernel
theorem dX7_tryTurns_67 : decode cX7_tryTurns 67 = .ok (.if_icmp .ne 7, 3) := by decide +kernel
theorem dX7_tryTurns_70 : decode cX7_tryTurns 70 = .ok (.iconst 1, 1) := by decide +kernel
theorem dX7_tryTurns_71 : decode cX7_tryTurns 71 = .ok (.goto 4, 3) := by decide +kernel
theorem dX7_tryTurns_74 : decode cX7_tryTurns 74 = .ok (.iconst 0, 1) := by decide +kernel
theorem dX7_tryTurns_75 : decode cX7_tryTurns 75 = .ok (.aload_n 1, 1) := by decide +kernel
theorem dX7_tryTurns_76 : decode cX7_tryTurns 76 = .ok (.invokevirtual 137, 3) := by decide +kernel
theorem dX7_tryTurns_79 : decode cX7_tryTurns 79 = .ok (.lstore 6, 2) := by decide +kernel
theorem dX7_tryTurns_81 : decode cX7_tryTurns 81 = .ok (.aload_n 0, 1) := by decide +kernel
theorem dX7_tryTurns_82 : decode cX7_tryTurns 82 = .ok (.aload_n 0, 1) := by decide +kernel
theorem dX7_tryTurns_83 : decode cX7_tryTurns 83 = .ok (.getfield 15, 3) := by decide +kernel
theorem dX7_tryTurns_86 : decode cX7_tryTurns 86 = .ok (.lload 6, 2) := by decide +kernel
theorem dX7_tryTurns_88 : decode cX7_tryTurns 88 = .ok (.invokestatic 141, 3) := by decide +kernel
theorem dX7_tryTurns_91 : decode cX7_tryTurns 91 = .ok (.putfield 15, 3) := by decide +kernel
theorem dX7_tryTurns_94 : decode cX7_tryTurns 94 = .ok (.lload 6, 2) := by decide +kernel
theorem dX7_tryTurns_96 : decode cX7_tryTurns 96 = .ok (.lload_n 2, 1) := by decide +kernel
theorem dX7_tryTurns_97 : decode cX7_tryTurns 97 = .ok (.lcmp, 1) := by decide +kernel
theorem dX7_tryTurns_98 : decode cX7_tryTurns 98 = .ok (.ifCond .ne 13, 3) := by decide +kernel
theorem dX7_tryTurns_101 : decode cX7_tryTurns 101 = .ok (.aload_n 0, 1) := by decide +kernel
theorem dX7_tryTurns_102 : decode cX7_tryTurns 102 = .ok (.dup, 1) := by decide +kernel
theorem dX7_tryTurns_103 : decode cX7_tryTurns 103 = .ok (.getfield 19, 3) := by decide +kernel
theorem dX7_tryTurns_106 : decode cX7_tryTurns 106 = .ok (.iconst 1, 1) := by decide +kernel
theorem dX7_tryTurns_107 : decode cX7_tryTurns 107 = .ok (.iadd, 1) := by decide +kernel
theorem dX7_tryTurns_108 : decode cX7_tryTurns 108 = .ok (.putfield 19, 3) := by decide +kernel
theorem dX7_tryTurns_111 : decode cX7_tryTurns 111 = .ok (.iinc 5 1, 3) := by decide +kernel
theorem dX7_tryTurns_114 : decode cX7_tryTurns 114 = .ok (.goto (-59), 3) := by decide +kernel
theorem dX7_tryTurns_117 : decode cX7_tryTurns 117 = .ok (.iinc 4 1, 3) := by decide +kernel
theorem dX7_tryTurns_120 : decode cX7_tryTurns 120 = .ok (.goto (-77), 3) := by decide +kernel
theorem dX7_tryTurns_123 : decode cX7_tryTurns 123 = .ok (.aload_n 0, 1) := by decide +kernel
theorem dX7_tryTurns_124 : decode cX7_tryTurns 124 = .ok (.iconst 1, 1) := by decide +kernel
theorem dX7_tryTurns_125 : decode cX7_tryTurns 125 = .ok (.putfield 9, 3) := by decide +kernel
theorem dX7_tryTurns_128 : decode cX7_tryTurns 128 = .ok (.return_, 1) := by decide +kernel
theorem dX7_codeFrom_0 : decode cX7_codeFrom 0 = .ok (.iconst 0, 1) := by decide +kernel
theorem dX7_codeFrom_1 : decode cX7_codeFrom 1 = .ok (.istore 4, 2) := by decide +kernel
theorem dX7_codeFrom_3 : decode cX7_codeFrom 3 = .ok (.iload 4, 2) := by decide +kernel
theorem dX7_codeFrom_5 : decode cX7_codeFrom 5 = .ok (.aload_n 0, 1) := by decide +kernel
theorem dX7_codeFrom_6 : decode cX7_codeFrom 6 = .ok (.getfield 45, 3) := by decide +kernel
theorem dX7_codeFrom_9 : decode cX7_codeFrom 9 = .ok (.if_icmp .ge 14, 3) := by decide +kernel
theorem dX7_codeFrom_12 : decode cX7_codeFrom 12 = .ok (.aload_n 3, 1) := by decide +kernel
theorem dX7_codeFrom_13 : decode cX7_codeFrom 13 = .ok (.iload 4, 2) := by decide +kernel
theorem dX7_codeFrom_15 : decode cX7_codeFrom 15 = .ok (.iconst (-1), 1) := by decide +kernel
theorem dX7_codeFrom_16 : decode cX7_codeFrom 16 = .ok (.iastore, 1) := by decide +kernel
theorem dX7_codeFrom_17 : decode cX7_codeFrom 17 = .ok (.iinc 4 1, 3) := by decide +kernel
theorem dX7_codeFrom_20 : decode cX7_codeFrom 20 = .ok (.goto (-17), 3) := by decide +kernel
theorem dX7_codeFrom_23 : decode cX7_codeFrom 23 = .ok (.iconst 0, 1) := by decide +kernel
theorem dX7_codeFrom_24 : decode cX7_codeFrom 24 = .ok (.istore 4, 2) := by decide +kernel
theorem dX7_codeFrom_26 : decode cX7_codeFrom 26 = .ok (.iload_n 1, 1) := by decide +kernel
theorem dX7_codeFrom_27 : decode cX7_codeFrom 27 = .ok (.istore 5, 2) := by decide +kernel
theorem dX7_codeFrom_29 : decode cX7_codeFrom 29 = .ok (.lconst 0, 1) := by decide +kernel
theorem dX7_codeFrom_30 : decode cX7_codeFrom 30 = .ok (.lstore 6, 2) := by decide +kernel
theorem dX7_codeFrom_32 : decode cX7_codeFrom 32 = .ok (.iconst 0, 1) := by decide +kernel
theorem dX7_codeFrom_33 : decode cX7_codeFrom 33 = .ok (.istore 8, 2) := by decide +kernel
theorem dX7_codeFrom_35 : decode cX7_codeFrom 35 = .ok (.iload 8, 2) := by decide +kernel
theorem dX7_codeFrom_37 : decode cX7_codeFrom 37 = .ok (.aload_n 0, 1) := by decide +kernel
theorem dX7_codeFrom_38 : decode cX7_codeFrom 38 = .ok (.getfield 48, 3) := by decide +kernel
theorem dX7_codeFrom_41 : decode cX7_codeFrom 41 = .ok (.if_icmp .ge 70, 3) := by decide +kernel
theorem dX7_codeFrom_44 : decode cX7_codeFrom 44 = .ok (.aload_n 0, 1) := by decide +kernel
theorem dX7_codeFrom_45 : decode cX7_codeFrom 45 = .ok (.getfield 51, 3) := by decide +kernel
theorem dX7_codeFrom_48 : decode cX7_codeFrom 48 = .ok (.iload 5, 2) := by decide +kernel
theorem dX7_codeFrom_50 : decode cX7_codeFrom 50 = .ok (.iaload, 1) := by decide +kernel
theorem dX7_codeFrom_51 : decode cX7_codeFrom 51 = .ok (.istore 9, 2) := by decide +kernel
theorem dX7_codeFrom_53 : decode cX7_codeFrom 53 = .ok (.aload_n 3, 1) := by decide +kernel
theorem dX7_codeFrom_54 : decode cX7_codeFrom 54 = .ok (.iload 9, 2) := by decide +kernel
theorem dX7_codeFrom_56 : decode cX7_codeFrom 56 = .ok (.iaload, 1) := by decide +kernel
theorem dX7_codeFrom_57 : decode cX7_codeFrom 57 = .ok (.iconst (-1), 1) := by decide +kernel
theorem dX7_codeFrom_58 : decode cX7_codeFrom 58 = .ok (.if_icmp .ne 12, 3) := by decide +kernel
theorem dX7_codeFrom_61 : decode cX7_codeFrom 61 = .ok (.aload_n 3, 1) := by decide +kernel
theorem dX7_codeFrom_62 : decode cX7_codeFrom 62 = .ok (.iload 9, 2) := by decide +kernel
theorem dX7_codeFrom_64 : decode cX7_codeFrom 64 = .ok (.iload 4, 2) := by decide +kernel
theorem dX7_codeFrom_66 : decode cX7_codeFrom 66 = .ok (.iastore, 1) := by decide +kernel
theorem dX7_codeFrom_67 : decode cX7_codeFrom 67 = .ok (.iinc 4 1, 3) := by decide +kernel
theorem dX7_codeFrom_70 : decode cX7_codeFrom 70 = .ok (.lload 6, 2) := by decide +kernel
theorem dX7_codeFrom_72 : decode cX7_codeFrom 72 = .ok (.ldc2_w 145, 3) := by decide +kernel
theorem dX7_codeFrom_75 : decode cX7_codeFrom 75 = .ok (.lmul, 1) := by decide +kernel
theorem dX7_codeFrom_76 : decode cX7_codeFrom 76 = .ok (.aload_n 3, 1) := by decide +kernel
theorem dX7_codeFrom_77 : decode cX7_codeFrom 77 = .ok (.iload 9, 2) := by decide +kernel
theorem dX7_codeFrom_79 : decode cX7_codeFrom 79 = .ok (.iaload, 1) := by decide +kernel
theorem dX7_codeFrom_80 : decode cX7_codeFrom 80 = .ok (.i2l, 1) := by decide +kernel
theorem dX7_codeFrom_81 : decode cX7_codeFrom 81 = .ok (.ladd, 1) := by decide +kernel
theorem dX7_codeFrom_82 : decode cX7_codeFrom 82 = .ok (.lstore 6, 2) := by decide +kernel
theorem dX7_codeFrom_84 : decode cX7_codeFrom 84 = .ok (.iload_n 2, 1) := by decide +kernel
theorem dX7_codeFrom_85 : decode cX7_codeFrom 85 = .ok (.ifCond .eq 12, 3) := by decide +kernel
theorem dX7_codeFrom_88 : decode cX7_codeFrom 88 = .ok (.aload_n 0, 1) := by decide +kernel
theorem dX7_codeFrom_89 : decode cX7_codeFrom 89 = .ok (.iload 5, 2) := by decide +kernel
theorem dX7_codeFrom_91 : decode cX7_codeFrom 91 = .ok (.invokevirtual 147, 3) := by decide +kernel
theorem dX7_codeFrom_94 : decode cX7_codeFrom 94 = .ok (.goto 9, 3) := by decide +kernel
theorem dX7_codeFrom_97 : decode cX7_codeFrom 97 = .ok (.aload_n 0, 1) := by decide +kernel
theorem dX7_codeFrom_98 : decode cX7_codeFrom 98 = .ok (.iload 5, 2) := by decide +kernel
theorem dX7_codeFrom_100 : decode cX7_codeFrom 100 = .ok (.invokevirtual 87, 3) := by decide +kernel
theorem dX7_codeFrom_103 : decode cX7_codeFrom 103 = .ok (.istore 5, 2) := by decide +kernel
theorem dX7_codeFrom_105 : decode cX7_codeFrom 105 = .ok (.iinc 8 1, 3) := by decide +kernel
theorem dX7_codeFrom_108 : decode cX7_codeFrom 108 = .ok (.goto (-73), 3) := by decide +kernel
theorem dX7_codeFrom_111 : decode cX7_codeFrom 111 = .ok (.lload 6, 2) := by decide +kernel
theorem dX7_codeFrom_113 : decode cX7_codeFrom 113 = .ok (.lreturn, 1) := by decide +kernel
theorem dX7_drawnSigns_0 : decode cX7_drawnSigns 0 = .ok (.aload_n 0, 1) := by decide +kernel
theorem dX7_drawnSigns_1 : decode cX7_drawnSigns 1 = .ok (.aload_n 1, 1) := by decide +kernel
theorem dX7_drawnSigns_2 : decode cX7_drawnSigns 2 = .ok (.invokevirtual 150, 3) := by decide +kernel
theorem dX7_drawnSigns_5 : decode cX7_drawnSigns 5 = .ok (.aload_n 0, 1) := by decide +kernel
theorem dX7_drawnSigns_6 : decode cX7_drawnSigns 6 = .ok (.getfield 26, 3) := by decide +kernel
theorem dX7_drawnSigns_9 : decode cX7_drawnSigns 9 = .ok (.ireturn, 1) := by decide +kernel
theorem dX7_drawings_0 : decode cX7_drawings 0 = .ok (.aload_n 0, 1) := by decide +kernel
theorem dX7_drawings_1 : decode cX7_drawings 1 = .ok (.aload_n 1, 1) := by decide +kernel
theorem dX7_drawings_2 : decode cX7_drawings 2 = .ok (.invokevirtual 150, 3) := by decide +kernel
theorem dX7_drawings_5 : decode cX7_drawings 5 = .ok (.aload_n 0, 1) := by decide +kernel
theorem dX7_drawings_6 : decode cX7_drawings 6 = .ok (.getfield 29, 3) := by decide +kernel
theorem dX7_drawings_9 : decode cX7_drawings 9 = .ok (.ireturn, 1) := by decide +kernel
theorem dX7_trySigns_0 : decode cX7_trySigns 0 = .ok (.aload_n 0, 1) := by decide +kernel
theorem dX7_trySigns_1 : decode cX7_trySigns 1 = .ok (.getfield 23, 3) := by decide +kernel
theorem dX7_trySigns_4 : decode cX7_trySigns 4 = .ok (.ifCond .eq 4, 3) := by decide +kernel
theorem dX7_trySigns_7 : decode cX7_trySigns 7 = .ok (.return_, 1) := by decide +kernel
theorem dX7_trySigns_8 : decode cX7_trySigns 8 = .ok (.iconst 0, 1) := by decide +kernel
theorem dX7_trySigns_9 : decode cX7_trySigns 9 = .ok (.istore_n 2, 1) := by decide +kernel
theorem dX7_trySigns_10 : decode cX7_trySigns 10 = .ok (.iload_n 2, 1) := by decide +kernel
theorem dX7_trySigns_11 : decode cX7_trySigns 11 = .ok (.iconst 1, 1) := by decide +kernel
theorem dX7_trySigns_12 : decode cX7_trySigns 12 = .ok (.aload_n 0, 1) := by decide +kernel
theorem dX7_trySigns_13 : decode cX7_trySigns 13 = .ok (.getfield 45, 3) := by decide +kernel
theorem dX7_trySigns_16 : decode cX7_trySigns 16 = .ok (.ishl, 1) := by decide +kernel
theorem dX7_trySigns_17 : decode cX7_trySigns 17 = .ok (.if_icmp .ge 46, 3) := by decide +kernel
theorem dX7_trySigns_20 : decode cX7_trySigns 20 = .ok (.aload_n 0, 1) := by decide +kernel
theorem dX7_trySigns_21 : decode cX7_trySigns 21 = .ok (.iload_n 2, 1) := by decide +kernel
theorem dX7_trySigns_22 : decode cX7_trySigns 22 = .ok (.aload_n 1, 1) := by decide +kernel
theorem dX7_trySigns_23 : decode cX7_trySigns 23 = .ok (.invokestatic 154, 3) := by decide +kernel
theorem dX7_trySigns_26 : decode cX7_trySigns 26 = .ok (.aload_n 0, 1) := by decide +kernel
theorem dX7_trySigns_27 : decode cX7_trySigns 27 = .ok (.getfield 45, 3) := by decide +kernel
theorem dX7_trySigns_30 : decode cX7_trySigns 30 = .ok (.iconst 2, 1) := by decide +kernel
theorem dX7_trySigns_31 : decode cX7_trySigns 31 = .ok (.iadd, 1) := by decide +kernel
theorem dX7_trySigns_32 : decode cX7_trySigns 32 = .ok (.if_icmp .ne 25, 3) := by decide +kernel
theorem dX7_trySigns_35 : decode cX7_trySigns 35 = .ok (.aload_n 0, 1) := by decide +kernel
theorem dX7_trySigns_36 : decode cX7_trySigns 36 = .ok (.getfield 29, 3) := by decide +kernel
theorem dX7_trySigns_39 : decode cX7_trySigns 39 = .ok (.ifCond .ne 8, 3) := by decide +kernel
theorem dX7_trySigns_42 : decode cX7_trySigns 42 = .ok (.aload_n 0, 1) := by decide +kernel
theorem dX7_trySigns_43 : decode cX7_trySigns 43 = .ok (.iload_n 2, 1) := by decide +kernel
theorem dX7_trySigns_44 : decode cX7_trySigns 44 = .ok (.putfield 26, 3) := by decide +kernel
theorem dX7_trySigns_47 : decode cX7_trySigns 47 = .ok (.aload_n 0, 1) := by decide +kernel
theorem dX7_trySigns_48 : decode cX7_trySigns 48 = .ok (.dup, 1) := by decide +kernel
theorem dX7_trySigns_49 : decode cX7_trySigns 49 = .ok (.getfield 29, 3) := by decide +kernel
theorem dX7_trySigns_52 : decode cX7_trySigns 52 = .ok (.iconst 1, 1) := by decide +kernel
theorem dX7_trySigns_53 : decode cX7_trySigns 53 = .ok (.iadd, 1) := by decide +kernel
theorem dX7_trySigns_54 : decode cX7_trySigns 54 = .ok (.putfield 29, 3) := by decide +kernel
theorem dX7_trySigns_57 : decode cX7_trySigns 57 = .ok (.iinc 2 1, 3) := by decide +kernel
theorem dX7_trySigns_60 : decode cX7_trySigns 60 = .ok (.goto (-50), 3) := by decide +kernel
theorem dX7_trySigns_63 : decode cX7_trySigns 63 = .ok (.aload_n 0, 1) := by decide +kernel
theorem dX7_trySigns_64 : decode cX7_trySigns 64 = .ok (.iconst 1, 1) := by decide +kernel
theorem dX7_trySigns_65 : decode cX7_trySigns 65 = .ok (.putfield 23, 3) := by decide +kernel
theorem dX7_trySigns_68 : decode cX7_trySigns 68 = .ok (.return_, 1) := by decide +kernel
theorem dX7_ringsOf_0 : decode cX7_ringsOf 0 = .ok (.aload_n 0, 1) := by decide +kernel
theorem dX7_ringsOf_1 : decode cX7_ringsOf 1 = .ok (.getfield 45, 3) := by decide +kernel
theorem dX7_ringsOf_4 : decode cX7_ringsOf 4 = .ok (.ifCond .ne 5, 3) := by decide +kernel
theorem dX7_ringsOf_7 : decode cX7_ringsOf 7 = .ok (.iconst 1, 1) := by decide +kernel
theorem dX7_ringsOf_8 : decode cX7_ringsOf 8 = .ok (.ireturn, 1) := by decide +kernel
theorem dX7_ringsOf_9 : decode cX7_ringsOf 9 = .ok (.aload_n 2, 1) := by decide +kernel
theorem dX7_ringsOf_10 : decode cX7_ringsOf 10 = .ok (.aload_n 0, 1) := by decide +kernel
theorem dX7_ringsOf_11 : decode cX7_ringsOf 11 = .ok (.getfield 48, 3) := by decide +kernel
theorem dX7_ringsOf_14 : decode cX7_ringsOf 14 = .ok (.invokevirtual 98, 3) := by decide +kernel
theorem dX7_ringsOf_17 : decode cX7_ringsOf 17 = .ok (.iconst 0, 1) := by decide +kernel
theorem dX7_ringsOf_18 : decode cX7_ringsOf 18 = .ok (.istore_n 3, 1) := by decide +kernel
theorem dX7_ringsOf_19 : decode cX7_ringsOf 19 = .ok (.iload_n 3, 1) := by decide +kernel
theorem dX7_ringsOf_20 : decode cX7_ringsOf 20 = .ok (.aload_n 0, 1) := by decide +kernel
theorem dX7_ringsOf_21 : decode cX7_ringsOf 21 = .ok (.getfield 45, 3) := by decide +kernel
theorem dX7_ringsOf_24 : decode cX7_ringsOf 24 = .ok (.if_icmp .ge 84, 3) := by decide +kernel
theorem dX7_ringsOf_27 : decode cX7_ringsOf 27 = .ok (.aload_n 0, 1) := by decide +kernel
theorem dX7_ringsOf_28 : decode cX7_ringsOf 28 = .ok (.getfield 54, 3) := by decide +kernel
theorem dX7_ringsOf_31 : decode cX7_ringsOf 31 = .ok (.iload_n 3, 1) := by decide +kernel
theorem dX7_ringsOf_32 : decode cX7_ringsOf 32 = .ok (.iaload, 1) := by decide +kernel
theorem dX7_ringsOf_33 : decode cX7_ringsOf 33 = .ok (.istore 4, 2) := by decide +kernel
theorem dX7_ringsOf_35 : decode cX7_ringsOf 35 = .ok (.aload_n 0, 1) := by decide +kernel
theorem dX7_ringsOf_36 : decode cX7_ringsOf 36 = .ok (.getfield 57, 3) := by decide +kernel
theorem dX7_ringsOf_39 : decode cX7_ringsOf 39 = .ok (.iload_n 3, 1) := by decide +kernel
theorem dX7_ringsOf_40 : decode cX7_ringsOf 40 = .ok (.iaload, 1) := by decide +kernel
theorem dX7_ringsOf_41 : decode cX7_ringsOf 41 = .ok (.istore 5, 2) := by decide +kernel
theorem dX7_ringsOf_43 : decode cX7_ringsOf 43 = .ok (.aload_n 0, 1) := by decide +kernel
theorem dX7_ringsOf_44 : decode cX7_ringsOf 44 = .ok (.iload 4, 2) := by decide +kernel
theorem dX7_ringsOf_46 : decode cX7_ringsOf 46 = .ok (.invokevirtual 147, 3) := by decide +kernel
theorem dX7_ringsOf_49 : decode cX7_ringsOf 49 = .ok (.istore 6, 2) := by decide +kernel
theorem dX7_ringsOf_51 : decode cX7_ringsOf 51 = .ok (.aload_n 0, 1) := by decide +kernel
theorem dX7_ringsOf_52 : decode cX7_ringsOf 52 = .ok (.iload 5, 2) := by decide +kernel
theorem dX7_ringsOf_54 : decode cX7_ringsOf 54 = .ok (.invokevirtual 147, 3) := by decide +kernel
theorem dX7_ringsOf_57 : decode cX7_ringsOf 57 = .ok (.istore 7, 2) := by decide +kernel
theorem dX7_ringsOf_59 : decode cX7_ringsOf 59 = .ok (.iload_n 1, 1) := by decide +kernel
theorem dX7_ringsOf_60 : decode cX7_ringsOf 60 = .ok (.iload_n 3, 1) := by decide +kernel
theorem dX7_ringsOf_61 : decode cX7_ringsOf 61 = .ok (.invokestatic 104, 3) := by decide +kernel
theorem dX7_ringsOf_64 : decode cX7_ringsOf 64 = .ok (.istore 8, 2) := by decide +kernel
theorem dX7_ringsOf_66 : decode cX7_ringsOf 66 = .ok (.aload_n 2, 1) := by decide +kernel
theorem dX7_ringsOf_67 : decode cX7_ringsOf 67 = .ok (.iload 6, 2) := by decide +kernel
theorem dX7_ringsOf_69 : decode cX7_ringsOf 69 = .ok (.iload 8, 2) := by decide +kernel
theorem dX7_ringsOf_71 : decode cX7_ringsOf 71 = .ok (.ifCond .eq 8, 3) := by decide +kernel
theorem dX7_ringsOf_74 : decode cX7_ringsOf 74 = .ok (.iload 7, 2) := by decide +kernel
theorem dX7_ringsOf_76 : decode cX7_ringsOf 76 = .ok (.goto 5, 3) := by decide +kernel
theorem dX7_ringsOf_79 : decode cX7_ringsOf 79 = .ok (.iload 5, 2) := by decide +kernel
theorem dX7_ringsOf_81 : decode cX7_ringsOf 81 = .ok (.invokevirtual 107, 3) := by decide +kernel
theorem dX7_ringsOf_84 : decode cX7_ringsOf 84 = .ok (.aload_n 2, 1) := by decide +kernel
theorem dX7_ringsOf_85 : decode cX7_ringsOf 85 = .ok (.iload 4, 2) := by decide +kernel
theorem dX7_ringsOf_87 : decode cX7_ringsOf 87 = .ok (.iload 8, 2) := by decide +kernel
theorem dX7_ringsOf_89 : decode cX7_ringsOf 89 = .ok (.ifCond .eq 8, 3) := by decide +kernel
theorem dX7_ringsOf_92 : decode cX7_ringsOf 92 = .ok (.iload 5, 2) := by decide +kernel
theorem dX7_ringsOf_94 : decode cX7_ringsOf 94 = .ok (.goto 5, 3) := by decide +kernel
theorem dX7_ringsOf_97 : decode cX7_ringsOf 97 = .ok (.iload 7, 2) := by decide +kernel
theorem dX7_ringsOf_99 : decode cX7_ringsOf 99 = .ok (.invokevirtual 107, 3) := by decide +kernel
theorem dX7_ringsOf_102 : decode cX7_ringsOf 102 = .ok (.iinc 3 1, 3) := by decide +kernel
theorem dX7_ringsOf_105 : decode cX7_ringsOf 105 = .ok (.goto (-86), 3) := by decide +kernel
theorem dX7_ringsOf_108 : decode cX7_ringsOf 108 = .ok (.aload_n 2, 1) := by decide +kernel
theorem dX7_ringsOf_109 : decode cX7_ringsOf 109 = .ok (.invokevirtual 111, 3) := by decide +kernel
theorem dX7_ringsOf_112 : decode cX7_ringsOf 112 = .ok (.ireturn, 1) := by decide +kernel
theorem dX7_setsWithRings_0 : decode cX7_setsWithRings 0 = .ok (.aload_n 0, 1) := by decide +kernel
theorem dX7_setsWithRings_1 : decode cX7_setsWithRings 1 = .ok (.getfield 32, 3) := by decide +kernel
theorem dX7_setsWithRings_4 : decode cX7_setsWithRings 4 = .ok (.ifCond .ne 60, 3) := by decide +kernel
theorem dX7_setsWithRings_7 : decode cX7_setsWithRings 7 = .ok (.iconst 0, 1) := by decide +kernel
theorem dX7_setsWithRings_8 : decode cX7_setsWithRings 8 = .ok (.istore_n 3, 1) := by decide +kernel
theorem dX7_setsWithRings_9 : decode cX7_setsWithRings 9 = .ok (.iload_n 3, 1) := by decide +kernel
theorem dX7_setsWithRings_10 : decode cX7_setsWithRings 10 = .ok (.iconst 1, 1) := by decide +kernel
theorem dX7_setsWithRings_11 : decode cX7_setsWithRings 11 = .ok (.aload_n 0, 1) := by decide +kernel
theorem dX7_setsWithRings_12 : decode cX7_setsWithRings 12 = .ok (.getfield 45, 3) := by decide +kernel
theorem dX7_setsWithRings_15 : decode cX7_setsWithRings 15 = .ok (.ishl, 1) := by decide +kernel
theorem dX7_setsWithRings_16 : decode cX7_setsWithRings 16 = .ok (.if_icmp .ge 43, 3) := by decide +kernel
theorem dX7_setsWithRings_19 : decode cX7_setsWithRings 19 = .ok (.aload_n 0, 1) := by decide +kernel
theorem dX7_setsWithRings_20 : decode cX7_setsWithRings 20 = .ok (.iload_n 3, 1) := by decide +kernel
theorem dX7_setsWithRings_21 : decode cX7_setsWithRings 21 = .ok (.aload_n 2, 1) := by decide +kernel
theorem dX7_setsWithRings_22 : decode cX7_setsWithRings 22 = .ok (.invokevirtual 160, 3) := by decide +kernel
theorem dX7_setsWithRings_25 : decode cX7_setsWithRings 25 = .ok (.istore 4, 2) := by decide +kernel
theorem dX7_setsWithRings_27 : decode cX7_setsWithRings 27 = .ok (.iload 4, 2) := by decide +kernel
theorem dX7_setsWithRings_29 : decode cX7_setsWithRings 29 = .ok (.ifCond .lt 24, 3) := by decide +kernel
theorem dX7_setsWithRings_32 : decode cX7_setsWithRings 32 = .ok (.iload 4, 2) := by decide +kernel
theorem dX7_setsWithRings_34 : decode cX7_setsWithRings 34 = .ok (.aload_n 0, 1) := by decide +kernel
theorem dX7_setsWithRings_35 : decode cX7_setsWithRings 35 = .ok (.getfield 35, 3) := by decide +kernel
theorem dX7_setsWithRings_38 : decode cX7_setsWithRings 38 = .ok (.arraylength, 1) := by decide +kernel
theorem dX7_setsWithRings_39 : decode cX7_setsWithRings 39 = .ok (.if_icmp .ge 14, 3) := by decide +kernel
theorem dX7_setsWithRings_42 : decode cX7_setsWithRings 42 = .ok (.aload_n 0, 1) := by decide +kernel
theorem dX7_setsWithRings_43 : decode cX7_setsWithRings 43 = .ok (.getfield 35, 3) := by decide +kernel
theorem dX7_setsWithRings_46 : decode cX7_setsWithRings 46 = .ok (.iload 4, 2) := by decide +kernel
theorem dX7_setsWithRings_48 : decode cX7_setsWithRings 48 = .ok (.dup2, 1) := by decide +kernel
theorem dX7_setsWithRings_49 : decode cX7_setsWithRings 49 = .ok (.iaload, 1) := by decide +kernel
theorem dX7_setsWithRings_50 : decode cX7_setsWithRings 50 = .ok (.iconst 1, 1) := by decide +kernel
theorem dX7_setsWithRings_51 : decode cX7_setsWithRings 51 = .ok (.iadd, 1) := by decide +kernel
theorem dX7_setsWithRings_52 : decode cX7_setsWithRings 52 = .ok (.iastore, 1) := by decide +kernel
theorem dX7_setsWithRings_53 : decode cX7_setsWithRings 53 = .ok (.iinc 3 1, 3) := by decide +kernel
theorem dX7_setsWithRings_56 : decode cX7_setsWithRings 56 = .ok (.goto (-47), 3) := by decide +kernel
theorem dX7_setsWithRings_59 : decode cX7_setsWithRings 59 = .ok (.aload_n 0, 1) := by decide +kernel
theorem dX7_setsWithRings_60 : decode cX7_setsWithRings 60 = .ok (.iconst 1, 1) := by decide +kernel
theorem dX7_setsWithRings_61 : decode cX7_setsWithRings 61 = .ok (.putfield 32, 3) := by decide +kernel
theorem dX7_setsWithRings_64 : decode cX7_setsWithRings 64 = .ok (.iload_n 1, 1) := by decide +kernel
theorem dX7_setsWithRings_65 : decode cX7_setsWithRings 65 = .ok (.ifCond .lt 21, 3) := by decide +kernel
theorem dX7_setsWithRings_68 : decode cX7_setsWithRings 68 = .ok (.iload_n 1, 1) := by decide +kernel
theorem dX7_setsWithRings_69 : decode cX7_setsWithRings 69 = .ok (.aload_n 0, 1) := by decide +kernel
theorem dX7_setsWithRings_70 : decode cX7_setsWithRings 70 = .ok (.getfield 35, 3) := by decide +kernel
theorem dX7_setsWithRings_73 : decode cX7_setsWithRings 73 = .ok (.arraylength, 1) := by decide +kernel
theorem dX7_setsWithRings_74 : decode cX7_setsWithRings 74 = .ok (.if_icmp .ge 12, 3) := by decide +kernel
theorem dX7_setsWithRings_77 : decode cX7_setsWithRings 77 = .ok (.aload_n 0, 1) := by decide +kernel
theorem dX7_setsWithRings_78 : decode cX7_setsWithRings 78 = .ok (.getfield 35, 3) := by decide +kernel
theorem dX7_setsWithRings_81 : decode cX7_setsWithRings 81 = .ok (.iload_n 1, 1) := by decide +kernel
theorem dX7_setsWithRings_82 : decode cX7_setsWithRings 82 = .ok (.iaload, 1) := by decide +kernel
theorem dX7_setsWithRings_83 : decode cX7_setsWithRings 83 = .ok (.goto 4, 3) := by decide +kernel
theorem dX7_setsWithRings_86 : decode cX7_setsWithRings 86 = .ok (.iconst 0, 1) := by decide +kernel
theorem dX7_setsWithRings_87 : decode cX7_setsWithRings 87 = .ok (.ireturn, 1) := by decide +kernel
theorem dX7_isLoop_0 : decode cX7_isLoop 0 = .ok (.aload_n 0, 1) := by decide +kernel
theorem dX7_isLoop_1 : decode cX7_isLoop 1 = .ok (.aload_n 0, 1) := by decide +kernel
theorem dX7_isLoop_2 : decode cX7_isLoop 2 = .ok (.iload_n 1, 1) := by decide +kernel
theorem dX7_isLoop_3 : decode cX7_isLoop 3 = .ok (.iconst 0, 1) := by decide +kernel
theorem dX7_isLoop_4 : decode cX7_isLoop 4 = .ok (.invokevirtual 164, 3) := by decide +kernel
theorem dX7_isLoop_7 : decode cX7_isLoop 7 = .ok (.aload_n 0, 1) := by decide +kernel
theorem dX7_isLoop_8 : decode cX7_isLoop 8 = .ok (.iload_n 1, 1) := by decide +kernel
theorem dX7_isLoop_9 : decode cX7_isLoop 9 = .ok (.iconst 1, 1) := by decide +kernel
theorem dX7_isLoop_10 : decode cX7_isLoop 10 = .ok (.invokevirtual 164, 3) := by decide +kernel
theorem dX7_isLoop_13 : decode cX7_isLoop 13 = .ok (.invokevirtual 167, 3) := by decide +kernel
theorem dX7_isLoop_16 : decode cX7_isLoop 16 = .ok (.ireturn, 1) := by decide +kernel
theorem dX7_loops_0 : decode cX7_loops 0 = .ok (.iconst 0, 1) := by decide +kernel
theorem dX7_loops_1 : decode cX7_loops 1 = .ok (.istore_n 1, 1) := by decide +kernel
theorem dX7_loops_2 : decode cX7_loops 2 = .ok (.iconst 0, 1) := by decide +kernel
theorem dX7_loops_3 : decode cX7_loops 3 = .ok (.istore_n 2, 1) := by decide +kernel
theorem dX7_loops_4 : decode cX7_loops 4 = .ok (.iload_n 2, 1) := by decide +kernel
theorem dX7_loops_5 : decode cX7_loops 5 = .ok (.aload_n 0, 1) := by decide +kernel
theorem dX7_loops_6 : decode cX7_loops 6 = .ok (.getfield 45, 3) := by decide +kernel
theorem dX7_loops_9 : decode cX7_loops 9 = .ok (.if_icmp .ge 23, 3) := by decide +kernel
theorem dX7_loops_12 : decode cX7_loops 12 = .ok (.aload_n 0, 1) := by decide +kernel
theorem dX7_loops_13 : decode cX7_loops 13 = .ok (.iload_n 2, 1) := by decide +kernel
theorem dX7_loops_14 : decode cX7_loops 14 = .ok (.invokevirtual 170, 3) := by decide +kernel
theorem dX7_loops_17 : decode cX7_loops 17 = .ok (.ifCond .eq 9, 3) := by decide +kernel
theorem dX7_loops_20 : decode cX7_loops 20 = .ok (.iload_n 1, 1) := by decide +kernel
theorem dX7_loops_21 : decode cX7_loops 21 = .ok (.iconst 1, 1) := by decide +kernel
theorem dX7_loops_22 : decode cX7_loops 22 = .ok (.iload_n 2, 1) := by decide +kernel
theorem dX7_loops_23 : decode cX7_loops 23 = .ok (.ishl, 1) := by decide +kernel
theorem dX7_loops_24 : decode cX7_loops 24 = .ok (.ior, 1) := by decide +kernel
theorem dX7_loops_25 : decode cX7_loops 25 = .ok (.istore_n 1, 1) := by decide +kernel
theorem dX7_loops_26 : decode cX7_loops 26 = .ok (.iinc 2 1, 3) := by decide +kernel
theorem dX7_loops_29 : decode cX7_loops 29 = .ok (.goto (-25), 3) := by decide +kernel
theorem dX7_loops_32 : decode cX7_loops 32 = .ok (.iload_n 1, 1) := by decide +kernel
theorem dX7_loops_33 : decode cX7_loops 33 = .ok (.ireturn, 1) := by decide +kernel
theorem dX7_isPoke_0 : decode cX7_isPoke 0 = .ok (.iconst 0, 1) := by decide +kernel
theorem dX7_isPoke_1 : decode cX7_isPoke 1 = .ok (.istore_n 3, 1) := by decide +kernel
theorem dX7_isPoke_2 : decode cX7_isPoke 2 = .ok (.iload_n 3, 1) := by decide +kernel
theorem dX7_isPoke_3 : decode cX7_isPoke 3 = .ok (.iconst 2, 1) := by decide +kernel
theorem dX7_isPoke_4 : decode cX7_isPoke 4 = .ok (.if_icmp .ge 51, 3) := by decide +kernel
theorem dX7_isPoke_7 : decode cX7_isPoke 7 = .ok (.aload_n 0, 1) := by decide +kernel
theorem dX7_isPoke_8 : decode cX7_isPoke 8 = .ok (.aload_n 0, 1) := by decide +kernel
theorem dX7_isPoke_9 : decode cX7_isPoke 9 = .ok (.iload_n 1, 1) := by decide +kernel
theorem dX7_isPoke_10 : decode cX7_isPoke 10 = .ok (.iconst 0, 1) := by decide +kernel
theorem dX7_isPoke_11 : decode cX7_isPoke 11 = .ok (.invokevirtual 164, 3) := by decide +kernel
theorem dX7_isPoke_14 : decode cX7_isPoke 14 = .ok (.aload_n 0, 1) := by decide +kernel
theorem dX7_isPoke_15 : decode cX7_isPoke 15 = .ok (.iload_n 2, 1) := by decide +kernel
theorem dX7_isPoke_16 : decode cX7_isPoke 16 = .ok (.iload_n 3, 1) := by decide +kernel
theorem dX7_isPoke_17 : decode cX7_isPoke 17 = .ok (.invokevirtual 164, 3) := by decide +kernel
theorem dX7_isPoke_20 : decode cX7_isPoke 20 = .ok (.invokevirtual 167, 3) := by decide +kernel
theorem dX7_isPoke_23 : decode cX7_isPoke 23 = .ok (.ifCond .eq 26, 3) := by decide +kernel
theorem dX7_isPoke_26 : decode cX7_isPoke 26 = .ok (.aload_n 0, 1) := by decide +kernel
theorem dX7_isPoke_27 : decode cX7_isPoke 27 = .ok (.aload_n 0, 1) := by decide +kernel
theorem dX7_isPoke_28 : decode cX7_isPoke 28 = .ok (.iload_n 1, 1) := by decide +kernel
theorem dX7_isPoke_29 : decode cX7_isPoke 29 = .ok (.iconst 1, 1) := by decide +kernel
theorem dX7_isPoke_30 : decode cX7_isPoke 30 = .ok (.invokevirtual 164, 3) := by decide +kernel
theorem dX7_isPoke_33 : decode cX7_isPoke 33 = .ok (.aload_n 0, 1) := by decide +kernel
theorem dX7_isPoke_34 : decode cX7_isPoke 34 = .ok (.iload_n 2, 1) := by decide +kernel
theorem dX7_isPoke_35 : decode cX7_isPoke 35 = .ok (.iconst 1, 1) := by decide +kernel
theorem dX7_isPoke_36 : decode cX7_isPoke 36 = .ok (.iload_n 3, 1) := by decide +kernel
theorem dX7_isPoke_37 : decode cX7_isPoke 37 = .ok (.isub, 1) := by decide +kernel
theorem dX7_isPoke_38 : decode cX7_isPoke 38 = .ok (.invokevirtual 164, 3) := by decide +kernel
theorem dX7_isPoke_41 : decode cX7_isPoke 41 = .ok (.invokevirtual 167, 3) := by decide +kernel
theorem dX7_isPoke_44 : decode cX7_isPoke 44 = .ok (.ifCond .eq 5, 3) := by decide +kernel
theorem dX7_isPoke_47 : decode cX7_isPoke 47 = .ok (.iconst 1, 1) := by decide +kernel
theorem dX7_isPoke_48 : decode cX7_isPoke 48 = .ok (.ireturn, 1) := by decide +kernel
theorem dX7_isPoke_49 : decode cX7_isPoke 49 = .ok (.iinc 3 1, 3) := by decide +kernel
theorem dX7_isPoke_52 : decode cX7_isPoke 52 = .ok (.goto (-50), 3) := by decide +kernel
theorem dX7_isPoke_55 : decode cX7_isPoke 55 = .ok (.iconst 0, 1) := by decide +kernel
theorem dX7_isPoke_56 : decode cX7_isPoke 56 = .ok (.ireturn, 1) := by decide +kernel
theorem dX7_slideChoice_0 : decode cX7_slideChoice 0 = .ok (.iconst 0, 1) := by decide +kernel
theorem dX7_slideChoice_1 : decode cX7_slideChoice 1 = .ok (.istore 4, 2) := by decide +kernel
theorem dX7_slideChoice_3 : decode cX7_slideChoice 3 = .ok (.iload 4, 2) := by decide +kernel
theorem dX7_slideChoice_5 : decode cX7_slideChoice 5 = .ok (.bipush 8, 2) := by decide +kernel
theorem dX7_slideChoice_7 : decode cX7_slideChoice 7 = .ok (.if_icmp .ge 103, 3) := by decide +kernel
theorem dX7_slideChoice_10 : decode cX7_slideChoice 10 = .ok (.iload 4, 2) := by decide +kernel
theorem dX7_slideChoice_12 : decode cX7_slideChoice 12 = .ok (.iconst 2, 1) := by decide +kernel
theorem dX7_slideChoice_13 : decode cX7_slideChoice 13 = .ok (.ishr, 1) := by decide +kernel
theorem dX7_slideChoice_14 : decode cX7_slideChoice 14 = .ok (.iconst 1, 1) := by decide +kernel
theorem dX7_slideChoice_15 : decode cX7_slideChoice 15 = .ok (.iand, 1) := by decide +kernel
theorem dX7_slideChoice_16 : decode cX7_slideChoice 16 = .ok (.istore 5, 2) := by decide +kernel
theorem dX7_slideChoice_18 : decode cX7_slideChoice 18 = .ok (.iload 4, 2) := by decide +kernel
theorem dX7_slideChoice_20 : decode cX7_slideChoice 20 = .ok (.iconst 1, 1) := by decide +kernel
theorem dX7_slideChoice_21 : decode cX7_slideChoice 21 = .ok (.ishr, 1) := by decide +kernel
theorem dX7_slideChoice_22 : decode cX7_slideChoice 22 = .ok (.iconst 1, 1) := by decide +kernel
theorem dX7_slideChoice_23 : decode cX7_slideChoice 23 = .ok (.iand, 1) := by decide +kernel
theorem dX7_slideChoice_24 : decode cX7_slideChoice 24 = .ok (.istore 6, 2) := by decide +kernel
theorem dX7_slideChoice_26 : decode cX7_slideChoice 26 = .ok (.iload 4, 2) := by decide +kernel
theorem dX7_slideChoice_28 : decode cX7_slideChoice 28 = .ok (.iconst 1, 1) := by decide +kernel
theorem dX7_slideChoice_29 : decode cX7_slideChoice 29 = .ok (.iand, 1) := by decide +kernel
theorem dX7_slideChoice_30 : decode cX7_slideChoice 30 = .ok (.istore 7, 2) := by decide +kernel
theorem dX7_slideChoice_32 : decode cX7_slideChoice 32 = .ok (.aload_n 0, 1) := by decide +kernel
theorem dX7_slideChoice_33 : decode cX7_slideChoice 33 = .ok (.aload_n 0, 1) := by decide +kernel
theorem dX7_slideChoice_34 : decode cX7_slideChoice 34 = .ok (.iload_n 1, 1) := by decide +kernel
theorem dX7_slideChoice_35 : decode cX7_slideChoice 35 = .ok (.iload 5, 2) := by decide +kernel
theorem dX7_slideChoice_37 : decode cX7_slideChoice 37 = .ok (.invokevirtual 164, 3) := by decide +kernel
theorem dX7_slideChoice_40 : decode cX7_slideChoice 40 = .ok (.aload_n 0, 1) := by decide +kernel
theorem dX7_slideChoice_41 : decode cX7_slideChoice 41 = .ok (.iload_n 2, 1) := by decide +kernel
theorem dX7_slideChoice_42 : decode cX7_slideChoice 42 = .ok (.iload 6, 2) := by decide +kernel
theorem dX7_slideChoice_44 : decode cX7_slideChoice 44 = .ok (.invokevirtual 164, 3) := by decide +kernel
theorem dX7_slideChoice_47 : decode cX7_slideChoice 47 = .ok (.invokevirtual 167, 3) := by decide +kernel
theorem dX7_slideChoice_50 : decode cX7_slideChoice 50 = .ok (.ifCond .eq 54, 3) := by decide +kernel
theorem dX7_slideChoice_53 : decode cX7_slideChoice 53 = .ok (.aload_n 0, 1) := by decide +kernel
theorem dX7_slideChoice_54 : decode cX7_slideChoice 54 = .ok (.aload_n 0, 1) := by decide +kernel
theorem dX7_slideChoice_55 : decode cX7_slideChoice 55 = .ok (.iload_n 2, 1) := by decide +kernel
theorem dX7_slideChoice_56 : decode cX7_slideChoice 56 = .ok (.iconst 1, 1) := by decide +kernel
theorem dX7_slideChoice_57 : decode cX7_slideChoice 57 = .ok (.iload 6, 2) := by decide +kernel
theorem dX7_slideChoice_59 : decode cX7_slideChoice 59 = .ok (.isub, 1) := by decide +kernel
theorem dX7_slideChoice_60 : decode cX7_slideChoice 60 = .ok (.invokevirtual 164, 3) := by decide +kernel
theorem dX7_slideChoice_63 : decode cX7_slideChoice 63 = .ok (.aload_n 0, 1) := by decide +kernel
theorem dX7_slideChoice_64 : decode cX7_slideChoice 64 = .ok (.iload_n 3, 1) := by decide +kernel
theorem dX7_slideChoice_65 : decode cX7_slideChoice 65 = .ok (.iload 7, 2) := by decide +kernel
theorem dX7_slideChoice_67 : decode cX7_slideChoice 67 = .ok (.invokevirtual 164, 3) := by decide +kernel
theorem dX7_slideChoice_70 : decode cX7_slideChoice 70 = .ok (.invokevirtual 167, 3) := by decide +kernel
theorem dX7_slideChoice_73 : decode cX7_slideChoice 73 = .ok (.ifCond .eq 31, 3) := by decide +kernel
theorem dX7_slideChoice_76 : decode cX7_slideChoice 76 = .ok (.aload_n 0, 1) := by decide +kernel
theorem dX7_slideChoice_77 : decode cX7_slideChoice 77 = .ok (.aload_n 0, 1) := by decide +kernel
theorem dX7_slideChoice_78 : decode cX7_slideChoice 78 = .ok (.iload_n 3, 1) := by decide +kernel
theorem dX7_slideChoice_79 : decode cX7_slideChoice 79 = .ok (.iconst 1, 1) := by decide +kernel
theorem dX7_slideChoice_80 : decode cX7_slideChoice 80 = .ok (.iload 7, 2) := by decide +kernel
theorem dX7_slideChoice_82 : decode cX7_slideChoice 82 = .ok (.isub, 1) := by decide +kernel
theorem dX7_slideChoice_83 : decode cX7_slideChoice 83 = .ok (.invokevirtual 164, 3) := by decide +kernel
theorem dX7_slideChoice_86 : decode cX7_slideChoice 86 = .ok (.aload_n 0, 1) := by decide +kernel
theorem dX7_slideChoice_87 : decode cX7_slideChoice 87 = .ok (.iload_n 1, 1) := by decide +kernel
theorem dX7_slideChoice_88 : decode cX7_slideChoice 88 = .ok (.iconst 1, 1) := by decide +kernel
theorem dX7_slideChoice_89 : decode cX7_slideChoice 89 = .ok (.iload 5, 2) := by decide +kernel
theorem dX7_slideChoice_91 : decode cX7_slideChoice 91 = .ok (.isub, 1) := by decide +kernel
theorem dX7_slideChoice_92 : decode cX7_slideChoice 92 = .ok (.invokevirtual 164, 3) := by decide +kernel
theorem dX7_slideChoice_95 : decode cX7_slideChoice 95 = .ok (.invokevirtual 167, 3) := by decide +kernel
theorem dX7_slideChoice_98 : decode cX7_slideChoice 98 = .ok (.ifCond .eq 6, 3) := by decide +kernel
theorem dX7_slideChoice_101 : decode cX7_slideChoice 101 = .ok (.iload 4, 2) := by decide +kernel
theorem dX7_slideChoice_103 : decode cX7_slideChoice 103 = .ok (.ireturn, 1) := by decide +kernel
theorem dX7_slideChoice_104 : decode cX7_slideChoice 104 = .ok (.iinc 4 1, 3) := by decide +kernel
theorem dX7_slideChoice_107 : decode cX7_slideChoice 107 = .ok (.goto (-104), 3) := by decide +kernel
theorem dX7_slideChoice_110 : decode cX7_slideChoice 110 = .ok (.iconst (-1), 1) := by decide +kernel
theorem dX7_slideChoice_111 : decode cX7_slideChoice 111 = .ok (.ireturn, 1) := by decide +kernel
theorem dX8_init_0 : decode cX8_init 0 = .ok (.aload_n 0, 1) := by decide +kernel
theorem dX8_init_1 : decode cX8_init 1 = .ok (.invokespecial 3, 3) := by decide +kernel
theorem dX8_init_4 : decode cX8_init 4 = .ok (.aload_n 0, 1) := by decide +kernel
theorem dX8_init_5 : decode cX8_init 5 = .ok (.bipush 6, 2) := by decide +kernel
theorem dX8_init_7 : decode cX8_init 7 = .ok (.anewarray 9, 3) := by decide +kernel
theorem dX8_init_10 : decode cX8_init 10 = .ok (.putfield 11, 3) := by decide +kernel
theorem dX8_init_13 : decode cX8_init 13 = .ok (.aload_n 0, 1) := by decide +kernel
theorem dX8_init_14 : decode cX8_init 14 = .ok (.iconst 0, 1) := by decide +kernel
theorem dX8_init_15 : decode cX8_init 15 = .ok (.putfield 17, 3) := by decide +kernel
theorem dX8_init_18 : decode cX8_init 18 = .ok (.return_, 1) := by decide +kernel
theorem dX8_count_0 : decode cX8_count 0 = .ok (.aload_n 0, 1) := by decide +kernel
theorem dX8_count_1 : decode cX8_count 1 = .ok (.getfield 17, 3) := by decide +kernel
theorem dX8_count_4 : decode cX8_count 4 = .ok (.ireturn, 1) := by decide +kernel
theorem dX8_isFull_0 : decode cX8_isFull 0 = .ok (.aload_n 0, 1) := by decide +kernel
theorem dX8_isFull_1 : decode cX8_isFull 1 = .ok (.getfield 17, 3) := by decide +kernel
theorem dX8_isFull_4 : decode cX8_isFull 4 = .ok (.aload_n 0, 1) := by decide +kernel
theorem dX8_isFull_5 : decode cX8_isFull 5 = .ok (.getfield 11, 3) := by decide +kernel
theorem dX8_isFull_8 : decode cX8_isFull 8 = .ok (.arraylength, 1) := by decide +kernel
theorem dX8_isFull_9 : decode cX8_isFull 9 = .ok (.if_icmp .lt 7, 3) := by decide +kernel
theorem dX8_isFull_12 : decode cX8_isFull 12 = .ok (.iconst 1, 1) := by decide +kernel
theorem dX8_isFull_13 : decode cX8_isFull 13 = .ok (.goto 4, 3) := by decide +kernel
theorem dX8_isFull_16 : decode cX8_isFull 16 = .ok (.iconst 0, 1) := by decide +kernel
theorem dX8_isFull_17 : decode cX8_isFull 17 = .ok (.ireturn, 1) := by decide +kernel
theorem dX8_get_0 : decode cX8_get 0 = .ok (.iload_n 1, 1) := by decide +kernel
theorem dX8_get_1 : decode cX8_get 1 = .ok (.ifCond .lt 29, 3) := by decide +kernel
theorem dX8_get_4 : decode cX8_get 4 = .ok (.iload_n 1, 1) := by decide +kernel
theorem dX8_get_5 : decode cX8_get 5 = .ok (.aload_n 0, 1) := by decide +kernel
theorem dX8_get_6 : decode cX8_get 6 = .ok (.getfield 17, 3) := by decide +kernel
theorem dX8_get_9 : decode cX8_get 9 = .ok (.if_icmp .ge 21, 3) := by decide +kernel
theorem dX8_get_12 : decode cX8_get 12 = .ok (.iload_n 1, 1) := by decide +kernel
theorem dX8_get_13 : decode cX8_get 13 = .ok (.aload_n 0, 1) := by decide +kernel
theorem dX8_get_14 : decode cX8_get 14 = .ok (.getfield 11, 3) := by decide +kernel
theorem dX8_get_17 : decode cX8_get 17 = .ok (.arraylength, 1) := by decide +kernel
theorem dX8_get_18 : decode cX8_get 18 = .ok (.if_icmp .ge 12, 3) := by decide +kernel
theorem dX8_get_21 : decode cX8_get 21 = .ok (.aload_n 0, 1) := by decide +kernel
theorem dX8_get_22 : decode cX8_get 22 = .ok (.getfield 11, 3) := by decide +kernel
theorem dX8_get_25 : decode cX8_get 25 = .ok (.iload_n 1, 1) := by decide +kernel
theorem dX8_get_26 : decode cX8_get 26 = .ok (.aaload, 1) := by decide +kernel
theorem dX8_get_27 : decode cX8_get 27 = .ok (.goto 4, 3) := by decide +kernel
theorem dX8_get_30 : decode cX8_get 30 = .ok (.aconst_null, 1) := by decide +kernel
theorem dX8_get_31 : decode cX8_get 31 = .ok (.areturn, 1) := by decide +kernel
theorem dX8_add_0 : decode cX8_add 0 = .ok (.aload_n 0, 1) := by decide +kernel
theorem dX8_add_1 : decode cX8_add 1 = .ok (.invokevirtual 21, 3) := by decide +kernel
theorem dX8_add_4 : decode cX8_add 4 = .ok (.ifCond .ne 23, 3) := by decide +kernel
theorem dX8_add_7 : decode cX8_add 7 = .ok (.aload_n 0, 1) := by decide +kernel
theorem dX8_add_8 : decode cX8_add 8 = .ok (.getfield 11, 3) := by decide +kernel
theorem dX8_add_11 : decode cX8_add 11 = .ok (.aload_n 0, 1) := by decide +kernel
theorem dX8_add_12 : decode cX8_add 12 = .ok (.getfield 17, 3) := by decide +kernel
theorem dX8_add_15 : decode cX8_add 15 = .ok (.aload_n 1, 1) := by decide +kernel
theorem dX8_add_16 : decode cX8_add 16 = .ok (.aastore, 1) := by decide +kernel
theorem dX8_add_17 : decode cX8_add 17 = .ok (.aload_n 0, 1) := by decide +kernel
theorem dX8_add_18 : decode cX8_add 18 = .ok (.dup, 1) := by decide +kernel
theorem dX8_add_19 : decode cX8_add 19 = .ok (.getfield 17, 3) := by decide +kernel
theorem dX8_add_22 : decode cX8_add 22 = .ok (.iconst 1, 1) := by decide +kernel
theorem dX8_add_23 : decode cX8_add 23 = .ok (.iadd, 1) := by decide +kernel
theorem dX8_add_24 : decode cX8_add 24 = .ok (.putfield 17, 3) := by decide +kernel
theorem dX8_add_27 : decode cX8_add 27 = .ok (.return_, 1) := by decide +kernel
theorem dX8_replace_0 : decode cX8_replace 0 = .ok (.iload_n 1, 1) := by decide +kernel
theorem dX8_replace_1 : decode cX8_replace 1 = .ok (.ifCond .lt 18, 3) := by decide +kernel
theorem dX8_replace_4 : decode cX8_replace 4 = .ok (.iload_n 1, 1) := by decide +kernel
theorem dX8_replace_5 : decode cX8_replace 5 = .ok (.aload_n 0, 1) := by decide +kernel
theorem dX8_replace_6 : decode cX8_replace 6 = .ok (.getfield 17, 3) := by decide +kernel
theorem dX8_replace_9 : decode cX8_replace 9 = .ok (.if_icmp .ge 10, 3) := by decide +kernel
theorem dX8_replace_12 : decode cX8_replace 12 = .ok (.aload_n 0, 1) := by decide +kernel
theorem dX8_replace_13 : decode cX8_replace 13 = .ok (.getfield 11, 3) := by decide +kernel
theorem dX8_replace_16 : decode cX8_replace 16 = .ok (.iload_n 1, 1) := by decide +kernel
theorem dX8_replace_17 : decode cX8_replace 17 = .ok (.aload_n 2, 1) := by decide +kernel
theorem dX8_replace_18 : decode cX8_replace 18 = .ok (.aastore, 1) := by decide +kernel
theorem dX8_replace_19 : decode cX8_replace 19 = .ok (.return_, 1) := by decide +kernel
theorem dX8_remove_0 : decode cX8_remove 0 = .ok (.iload_n 1, 1) := by decide +kernel
theorem dX8_remove_1 : decode cX8_remove 1 = .ok (.ifCond .lt 53, 3) := by decide +kernel
theorem dX8_remove_4 : decode cX8_remove 4 = .ok (.iload_n 1, 1) := by decide +kernel
theorem dX8_remove_5 : decode cX8_remove 5 = .ok (.aload_n 0, 1) := by decide +kernel
theorem dX8_remove_6 : decode cX8_remove 6 = .ok (.getfield 17, 3) := by decide +kernel
theorem dX8_remove_9 : decode cX8_remove 9 = .ok (.if_icmp .ge 45, 3) := by decide +kernel
theorem dX8_remove_12 : decode cX8_remove 12 = .ok (.iload_n 1, 1) := by decide +kernel
theorem dX8_remove_13 : decode cX8_remove 13 = .ok (.istore_n 2, 1) := by decide +kernel
theorem dX8_remove_14 : decode cX8_remove 14 = .ok (.iload_n 2, 1) := by decide +kernel
theorem dX8_remove_15 : decode cX8_remove 15 = .ok (.iconst 1, 1) := by decide +kernel
theorem dX8_remove_16 : decode cX8_remove 16 = .ok (.iadd, 1) := by decide +kernel
theorem dX8_remove_17 : decode cX8_remove 17 = .ok (.aload_n 0, 1) := by decide +kernel
theorem dX8_remove_18 : decode cX8_remove 18 = .ok (.getfield 17, 3) := by decide +kernel
theorem dX8_remove_21 : decode cX8_remove 21 = .ok (.if_icmp .ge 23, 3) := by decide +kernel
theorem dX8_remove_24 : decode cX8_remove 24 = .ok (.aload_n 0, 1) := by decide +kernel
theorem dX8_remove_25 : decode cX8_remove 25 = .ok (.getfield 11, 3) := by decide +kernel
theorem dX8_remove_28 : decode cX8_remove 28 = .ok (.iload_n 2, 1) := by decide +kernel
theorem dX8_remove_29 : decode cX8_remove 29 = .ok (.aload_n 0, 1) := by decide +kernel
theorem dX8_remove_30 : decode cX8_remove 30 = .ok (.getfield 11, 3) := by decide +kernel
theorem dX8_remove_33 : decode cX8_remove 33 = .ok (.iload_n 2, 1) := by decide +kernel
theorem dX8_remove_34 : decode cX8_remove 34 = .ok (.iconst 1, 1) := by decide +kernel
theorem dX8_remove_35 : decode cX8_remove 35 = .ok (.iadd, 1) := by decide +kernel
theorem dX8_remove_36 : decode cX8_remove 36 = .ok (.aaload, 1) := by decide +kernel
theorem dX8_remove_37 : decode cX8_remove 37 = .ok (.aastore, 1) := by decide +kernel
theorem dX8_remove_38 : decode cX8_remove 38 = .ok (.iinc 2 1, 3) := by decide +kernel
theorem dX8_remove_41 : decode cX8_remove 41 = .ok (.goto (-27), 3) := by decide +kernel
theorem dX8_remove_44 : decode cX8_remove 44 = .ok (.aload_n 0, 1) := by decide +kernel
theorem dX8_remove_45 : decode cX8_remove 45 = .ok (.dup, 1) := by decide +kernel
theorem dX8_remove_46 : decode cX8_remove 46 = .ok (.getfield 17, 3) := by decide +kernel
theorem dX8_remove_49 : decode cX8_remove 49 = .ok (.iconst 1, 1) := by decide +kernel
theorem dX8_remove_50 : decode cX8_remove 50 = .ok (.isub, 1) := by decide +kernel
theorem dX8_remove_51 : decode cX8_remove 51 = .ok (.putfield 17, 3) := by decide +kernel
theorem dX8_remove_54 : decode cX8_remove 54 = .ok (.return_, 1) := by decide +kernel
theorem dX8_copyFrom_0 : decode cX8_copyFrom 0 = .ok (.aload_n 0, 1) := by decide +kernel
theorem dX8_copyFrom_1 : decode cX8_copyFrom 1 = .ok (.aload_n 1, 1) := by decide +kernel
theorem dX8_copyFrom_2 : decode cX8_copyFrom 2 = .ok (.invokevirtual 25, 3) := by decide +kernel
theorem dX8_copyFrom_5 : decode cX8_copyFrom 5 = .ok (.putfield 17, 3) := by decide +kernel
theorem dX8_copyFrom_8 : decode cX8_copyFrom 8 = .ok (.iconst 0, 1) := by decide +kernel
theorem dX8_copyFrom_9 : decode cX8_copyFrom 9 = .ok (.istore_n 2, 1) := by decide +kernel
theorem dX8_copyFrom_10 : decode cX8_copyFrom 10 = .ok (.iload_n 2, 1) := by decide +kernel
theorem dX8_copyFrom_11 : decode cX8_copyFrom 11 = .ok (.aload_n 0, 1) := by decide +kernel
theorem dX8_copyFrom_12 : decode cX8_copyFrom 12 = .ok (.getfield 17, 3) := by decide +kernel
theorem dX8_copyFrom_15 : decode cX8_copyFrom 15 = .ok (.if_icmp .ge 20, 3) := by decide +kernel
theorem dX8_copyFrom_18 : decode cX8_copyFrom 18 = .ok (.aload_n 0, 1) := by decide +kernel
theorem dX8_copyFrom_19 : decode cX8_copyFrom 19 = .ok (.getfield 11, 3) := by decide +kernel
theorem dX8_copyFrom_22 : decode cX8_copyFrom 22 = .ok (.iload_n 2, 1) := by decide +kernel
theorem dX8_copyFrom_23 : decode cX8_copyFrom 23 = .ok (.aload_n 1, 1) := by decide +kernel
theorem dX8_copyFrom_24 : decode cX8_copyFrom 24 = .ok (.iload_n 2, 1) := by decide +kernel
theorem dX8_copyFrom_25 : decode cX8_copyFrom 25 = .ok (.invokevirtual 28, 3) := by decide +kernel
theorem dX8_copyFrom_28 : decode cX8_copyFrom 28 = .ok (.aastore, 1) := by decide +kernel
theorem dX8_copyFrom_29 : decode cX8_copyFrom 29 = .ok (.iinc 2 1, 3) := by decide +kernel
theorem dX8_copyFrom_32 : decode cX8_copyFrom 32 = .ok (.goto (-22), 3) := by decide +kernel
theorem dX8_copyFrom_35 : decode cX8_copyFrom 35 = .ok (.return_, 1) := by decide +kernel
theorem dX8_unlike_0 : decode cX8_unlike 0 = .ok (.iconst 0, 1) := by decide +kernel
theorem dX8_unlike_1 : decode cX8_unlike 1 = .ok (.istore_n 1, 1) := by decide +kernel
theorem dX8_unlike_2 : decode cX8_unlike 2 = .ok (.iconst 0, 1) := by decide +kernel
theorem dX8_unlike_3 : decode cX8_unlike 3 = .ok (.istore_n 2, 1) := by decide +kernel
theorem dX8_unlike_4 : decode cX8_unlike 4 = .ok (.iload_n 2, 1) := by decide +kernel
theorem dX8_unlike_5 : decode cX8_unlike 5 = .ok (.aload_n 0, 1) := by decide +kernel
theorem dX8_unlike_6 : decode cX8_unlike 6 = .ok (.getfield 17, 3) := by decide +kernel
theorem dX8_unlike_9 : decode cX8_unlike 9 = .ok (.if_icmp .ge 20, 3) := by decide +kernel
theorem dX8_unlike_12 : decode cX8_unlike 12 = .ok (.aload_n 0, 1) := by decide +kernel
theorem dX8_unlike_13 : decode cX8_unlike 13 = .ok (.iload_n 2, 1) := by decide +kernel
theorem dX8_unlike_14 : decode cX8_unlike 14 = .ok (.invokevirtual 32, 3) := by decide +kernel
theorem dX8_unlike_17 : decode cX8_unlike 17 = .ok (.ifCond .ne 6, 3) := by decide +kernel
theorem dX8_unlike_20 : decode cX8_unlike 20 = .ok (.iinc 1 1, 3) := by decide +kernel
theorem dX8_unlike_23 : decode cX8_unlike 23 = .ok (.iinc 2 1, 3) := by decide +kernel
theorem dX8_unlike_26 : decode cX8_unlike 26 = .ok (.goto (-22), 3) := by decide +kernel
theorem dX8_unlike_29 : decode cX8_unlike 29 = .ok (.iload_n 1, 1) := by decide +kernel
theorem dX8_unlike_30 : decode cX8_unlike 30 = .ok (.ireturn, 1) := by decide +kernel
theorem dX8_hasLikeAhead_0 : decode cX8_hasLikeAhead 0 = .ok (.aload_n 0, 1) := by decide +kernel
theorem dX8_hasLikeAhead_1 : decode cX8_hasLikeAhead 1 = .ok (.iload_n 1, 1) := by decide +kernel
theorem dX8_hasLikeAhead_2 : decode cX8_hasLikeAhead 2 = .ok (.invokevirtual 28, 3) := by decide +kernel
theorem dX8_hasLikeAhead_5 : decode cX8_hasLikeAhead 5 = .ok (.astore_n 2, 1) := by decide +kernel
theorem dX8_hasLikeAhead_6 : decode cX8_hasLikeAhead 6 = .ok (.iconst 0, 1) := by decide +kernel
theorem dX8_hasLikeAhead_7 : decode cX8_hasLikeAhead 7 = .ok (.istore_n 3, 1) := by decide +kernel
theorem dX8_hasLikeAhead_8 : decode cX8_hasLikeAhead 8 = .ok (.iload_n 3, 1) := by decide +kernel
theorem dX8_hasLikeAhead_9 : decode cX8_hasLikeAhead 9 = .ok (.iload_n 1, 1) := by decide +kernel
theorem dX8_hasLikeAhead_10 : decode cX8_hasLikeAhead 10 = .ok (.if_icmp .ge 42, 3) := by decide +kernel
theorem dX8_hasLikeAhead_13 : decode cX8_hasLikeAhead 13 = .ok (.aload_n 0, 1) := by decide +kernel
theorem dX8_hasLikeAhead_14 : decode cX8_hasLikeAhead 14 = .ok (.iload_n 3, 1) := by decide +kernel
theorem dX8_hasLikeAhead_15 : decode cX8_hasLikeAhead 15 = .ok (.invokevirtual 28, 3) := by decide +kernel
theorem dX8_hasLikeAhead_18 : decode cX8_hasLikeAhead 18 = .ok (.astore 4, 2) := by decide +kernel
theorem dX8_hasLikeAhead_20 : decode cX8_hasLikeAhead 20 = .ok (.aload_n 2, 1) := by decide +kernel
theorem dX8_hasLikeAhead_21 : decode cX8_hasLikeAhead 21 = .ok (.ifnull 25, 3) := by decide +kernel
theorem dX8_hasLikeAhead_24 : decode cX8_hasLikeAhead 24 = .ok (.aload 4, 2) := by decide +kernel
theorem dX8_hasLikeAhead_26 : decode cX8_hasLikeAhead 26 = .ok (.ifnull 20, 3) := by decide +kernel
theorem dX8_hasLikeAhead_29 : decode cX8_hasLikeAhead 29 = .ok (.aload_n 2, 1) := by decide +kernel
theorem dX8_hasLikeAhead_30 : decode cX8_hasLikeAhead 30 = .ok (.invokevirtual 36, 3) := by decide +kernel
theorem dX8_hasLikeAhead_33 : decode cX8_hasLikeAhead 33 = .ok (.aload 4, 2) := by decide +kernel
theorem dX8_hasLikeAhead_35 : decode cX8_hasLikeAhead 35 = .ok (.invokevirtual 36, 3) := by decide +kernel
theorem dX8_hasLikeAhead_38 : decode cX8_hasLikeAhead 38 = .ok (.invokevirtual 40, 3) := by decide +kernel
theorem dX8_hasLikeAhead_41 : decode cX8_hasLikeAhead 41 = .ok (.ifCond .eq 5, 3) := by decide +kernel
theorem dX8_hasLikeAhead_44 : decode cX8_hasLikeAhead 44 = .ok (.iconst 1, 1) := by decide +kernel
theorem dX8_hasLikeAhead_45 : decode cX8_hasLikeAhead 45 = .ok (.ireturn, 1) := by decide +kernel
theorem dX8_hasLikeAhead_46 : decode cX8_hasLikeAhead 46 = .ok (.iinc 3 1, 3) := by decide +kernel
theorem dX8_hasLikeAhead_49 : decode cX8_hasLikeAhead 49 = .ok (.goto (-41), 3) := by decide +kernel
theorem dX8_hasLikeAhead_52 : decode cX8_hasLikeAhead 52 = .ok (.iconst 0, 1) := by decide +kernel
theorem dX8_hasLikeAhead_53 : decode cX8_hasLikeAhead 53 = .ok (.ireturn, 1) := by decide +kernel
theorem dX9_init_0 : decode cX9_init 0 = .ok (.aload_n 0, 1) := by decide +kernel
theorem dX9_init_1 : decode cX9_init 1 = .ok (.invokespecial 3, 3) := by decide +kernel
theorem dX9_init_4 : decode cX9_init 4 = .ok (.aload_n 0, 1) := by decide +kernel
theorem dX9_init_5 : decode cX9_init 5 = .ok (.bipush 20, 2) := by decide +kernel
theorem dX9_init_7 : decode cX9_init 7 = .ok (.newarray .int, 2) := by decide +kernel
theorem dX9_init_9 : decode cX9_init 9 = .ok (.putfield 9, 3) := by decide +kernel
theorem dX9_init_12 : decode cX9_init 12 = .ok (.aload_n 0, 1) := by decide +kernel
theorem dX9_init_13 : decode cX9_init 13 = .ok (.iconst 0, 1) := by decide +kernel
theorem dX9_init_14 : decode cX9_init 14 = .ok (.putfield 15, 3) := by decide +kernel
theorem dX9_init_17 : decode cX9_init 17 = .ok (.aload_n 0, 1) := by decide +kernel
theorem dX9_init_18 : decode cX9_init 18 = .ok (.iconst (-1), 1) := by decide +kernel
theorem dX9_init_19 : decode cX9_init 19 = .ok (.putfield 19, 3) := by decide +kernel
theorem dX9_init_22 : decode cX9_init 22 = .ok (.return_, 1) := by decide +kernel
theorem dX9_put_0 : decode cX9_put 0 = .ok (.aload_n 0, 1) := by decide +kernel
theorem dX9_put_1 : decode cX9_put 1 = .ok (.getfield 15, 3) := by decide +kernel
theorem dX9_put_4 : decode cX9_put 4 = .ok (.aload_n 0, 1) := by decide +kernel
theorem dX9_put_5 : decode cX9_put 5 = .ok (.getfield 9, 3) := by decide +kernel
theorem dX9_put_8 : decode cX9_put 8 = .ok (.arraylength, 1) := by decide +kernel
theorem dX9_put_9 : decode cX9_put 9 = .ok (.if_icmp .lt 5, 3) := by decide +kernel
theorem dX9_put_12 : decode cX9_put 12 = .ok (.iconst 0, 1) := by decide +kernel
theorem dX9_put_13 : decode cX9_put 13 = .ok (.ireturn, 1) := by decide +kernel
theorem dX9_put_14 : decode cX9_put 14 = .ok (.aload_n 0, 1) := by decide +kernel
theorem dX9_put_15 : decode cX9_put 15 = .ok (.getfield 9, 3) := by decide +kernel
theorem dX9_put_18 : decode cX9_put 18 = .ok (.aload_n 0, 1) := by decide +kernel
theorem dX9_put_19 : decode cX9_put 19 = .ok (.getfield 15, 3) := by decide +kernel
theorem dX9_put_22 : decode cX9_put 22 = .ok (.iload_n 1, 1) := by decide +kernel
theorem dX9_put_23 : decode cX9_put 23 = .ok (.iastore, 1) := by decide +kernel
theorem dX9_put_24 : decode cX9_put 24 = .ok (.aload_n 0, 1) := by decide +kernel
theorem dX9_put_25 : decode cX9_put 25 = .ok (.dup, 1) := by decide +kernel
theorem dX9_put_26 : decode cX9_put 26 = .ok (.getfield 15, 3) := by decide +kernel
theorem dX9_put_29 : decode cX9_put 29 = .ok (.iconst 1, 1) := by decide +kernel
theorem dX9_put_30 : decode cX9_put 30 = .ok (.iadd, 1) := by decide +kernel
theorem dX9_put_31 : decode cX9_put 31 = .ok (.putfield 15, 3) := by decide +kernel
theorem dX9_put_34 : decode cX9_put 34 = .ok (.iconst 1, 1) := by decide +kernel
theorem dX9_put_35 : decode cX9_put 35 = .ok (.ireturn, 1) := by decide +kernel
theorem dX9_length_0 : decode cX9_length 0 = .ok (.aload_n 0, 1) := by decide +kernel
theorem dX9_length_1 : decode cX9_length 1 = .ok (.getfield 15, 3) := by decide +kernel
theorem dX9_length_4 : decode cX9_length 4 = .ok (.ireturn, 1) := by decide +kernel
theorem dX9_faultPlace_0 : decode cX9_faultPlace 0 = .ok (.aload_n 0, 1) := by decide +kernel
theorem dX9_faultPlace_1 : decode cX9_faultPlace 1 = .ok (.getfield 19, 3) := by decide +kernel
theorem dX9_faultPlace_4 : decode cX9_faultPlace 4 = .ok (.ireturn, 1) := by decide +kernel
theorem dX9_clear_0 : decode cX9_clear 0 = .ok (.aload_n 0, 1) := by decide +kernel
theorem dX9_clear_1 : decode cX9_clear 1 = .ok (.iconst 0, 1) := by decide +kernel
theorem dX9_clear_2 : decode cX9_clear 2 = .ok (.putfield 15, 3) := by decide +kernel
theorem dX9_clear_5 : decode cX9_clear 5 = .ok (.return_, 1) := by decide +kernel
theorem dX9_copyTo_0 : decode cX9_copyTo 0 = .ok (.aload_n 1, 1) := by decide +kernel
theorem dX9_copyTo_1 : decode cX9_copyTo 1 = .ok (.invokevirtual 22, 3) := by decide +kernel
theorem dX9_copyTo_4 : decode cX9_copyTo 4 = .ok (.iconst 0, 1) := by decide +kernel
theorem dX9_copyTo_5 : decode cX9_copyTo 5 = .ok (.istore_n 2, 1) := by decide +kernel
theorem dX9_copyTo_6 : decode cX9_copyTo 6 = .ok (.iload_n 2, 1) := by decide +kernel
theorem dX9_copyTo_7 : decode cX9_copyTo 7 = .ok (.aload_n 0, 1) := by decide +kernel
theorem dX9_copyTo_8 : decode cX9_copyTo 8 = .ok (.getfield 15, 3) := by decide +kernel
theorem dX9_copyTo_11 : decode cX9_copyTo 11 = .ok (.if_icmp .ge 19, 3) := by decide +kernel
theorem dX9_copyTo_14 : decode cX9_copyTo 14 = .ok (.aload_n 1, 1) := by decide +kernel
theorem dX9_copyTo_15 : decode cX9_copyTo 15 = .ok (.aload_n 0, 1) := by decide +kernel
theorem dX9_copyTo_16 : decode cX9_copyTo 16 = .ok (.getfield 9, 3) := by decide +kernel
theorem dX9_copyTo_19 : decode cX9_copyTo 19 = .ok (.iload_n 2, 1) := by decide +kernel
theorem dX9_copyTo_20 : decode cX9_copyTo 20 = .ok (.iaload, 1) := by decide +kernel
theorem dX9_copyTo_21 : decode cX9_copyTo 21 = .ok (.invokevirtual 27, 3) := by decide +kernel
theorem dX9_copyTo_24 : decode cX9_copyTo 24 = .ok (.iinc 2 1, 3) := by decide +kernel
theorem dX9_copyTo_27 : decode cX9_copyTo 27 = .ok (.goto (-21), 3) := by decide +kernel
theorem dX9_copyTo_30 : decode cX9_copyTo 30 = .ok (.return_, 1) := by decide +kernel
theorem dX9_judge_0 : decode cX9_judge 0 = .ok (.iconst 0, 1) := by decide +kernel
theorem dX9_judge_1 : decode cX9_judge 1 = .ok (.istore_n 1, 1) := by decide +kernel
theorem dX9_judge_2 : decode cX9_judge 2 = .ok (.iconst 0, 1) := by decide +kernel
theorem dX9_judge_3 : decode cX9_judge 3 = .ok (.istore_n 2, 1) := by decide +kernel
theorem dX9_judge_4 : decode cX9_judge 4 = .ok (.iload_n 2, 1) := by decide +kernel
theorem dX9_judge_5 : decode cX9_judge 5 = .ok (.aload_n 0, 1) := by decide +kernel
theorem dX9_judge_6 : decode cX9_judge 6 = .ok (.getfield 15, 3) := by decide +kernel
theorem dX9_judge_9 : decode cX9_judge 9 = .ok (.if_icmp .ge 54, 3) := by decide +kernel
theorem dX9_judge_12 : decode cX9_judge 12 = .ok (.aload_n 0, 1) := by decide +kernel
theorem dX9_judge_13 : decode cX9_judge 13 = .ok (.aload_n 0, 1) := by decide +kernel
theorem dX9_judge_14 : decode cX9_judge 14 = .ok (.getfield 9, 3) := by decide +kernel
theorem dX9_judge_17 : decode cX9_judge 17 = .ok (.iload_n 2, 1) := by decide +kernel
theorem dX9_judge_18 : decode cX9_judge 18 = .ok (.iaload, 1) := by decide +kernel
theorem dX9_judge_19 : decode cX9_judge 19 = .ok (.iload_n 2, 1) := by decide +kernel
theorem dX9_judge_20 : decode cX9_judge 20 = .ok (.invokevirtual 31, 3) := by decide +kernel
theorem dX9_judge_23 : decode cX9_judge 23 = .ok (.istore_n 3, 1) := by decide +kernel
theorem dX9_judge_24 : decode cX9_judge 24 = .ok (.iload_n 3, 1) := by decide +kernel
theorem dX9_judge_25 : decode cX9_judge 25 = .ok (.ifCond .ne 6, 3) := by decide +kernel
theorem dX9_judge_28 : decode cX9_judge 28 = .ok (.iinc 1 1, 3) := by decide +kernel
theorem dX9_judge_31 : decode cX9_judge 31 = .ok (.aload_n 0, 1) := by decide +kernel
theorem dX9_judge_32 : decode cX9_judge 32 = .ok (.getfield 9, 3) := by decide +kernel
theorem dX9_judge_35 : decode cX9_judge 35 = .ok (.iload_n 2, 1) := by decide +kernel
theorem dX9_judge_36 : decode cX9_judge 36 = .ok (.iaload, 1) := by decide +kernel
theorem dX9_judge_37 : decode cX9_judge 37 = .ok (.iload_n 3, 1) := by decide +kernel
theorem dX9_judge_38 : decode cX9_judge 38 = .ok (.iload_n 1, 1) := by decide +kernel
theorem dX9_judge_39 : decode cX9_judge 39 = .ok (.invokestatic 35, 3) := by decide +kernel
theorem dX9_judge_42 : decode cX9_judge 42 = .ok (.istore 4, 2) := by decide +kernel
theorem dX9_judge_44 : decode cX9_judge 44 = .ok (.iload 4, 2) := by decide +kernel
theorem dX9_judge_46 : decode cX9_judge 46 = .ok (.ifCond .eq 11, 3) := by decide +kernel
theorem dX9_judge_49 : decode cX9_judge 49 = .ok (.aload_n 0, 1) := by decide +kernel
theorem dX9_judge_50 : decode cX9_judge 50 = .ok (.iload_n 2, 1) := by decide +kernel
theorem dX9_judge_51 : decode cX9_judge 51 = .ok (.putfield 19, 3) := by decide +kernel
theorem dX9_judge_54 : decode cX9_judge 54 = .ok (.iload 4, 2) := by decide +kernel
theorem dX9_judge_56 : decode cX9_judge 56 = .ok (.ireturn, 1) := by decide +kernel
theorem dX9_judge_57 : decode cX9_judge 57 = .ok (.iinc 2 1, 3) := by decide +kernel
theorem dX9_judge_60 : decode cX9_judge 60 = .ok (.goto (-56), 3) := by decide +kernel
theorem dX9_judge_63 : decode cX9_judge 63 = .ok (.iconst 2, 1) := by decide +kernel
theorem dX9_judge_64 : decode cX9_judge 64 = .ok (.iload_n 1, 1) := by decide +kernel
theorem dX9_judge_65 : decode cX9_judge 65 = .ok (.imul, 1) := by decide +kernel
theorem dX9_judge_66 : decode cX9_judge 66 = .ok (.aload_n 0, 1) := by decide +kernel
theorem dX9_judge_67 : decode cX9_judge 67 = .ok (.getfield 15, 3) := by decide +kernel
theorem dX9_judge_70 : decode cX9_judge 70 = .ok (.if_icmp .ne 7, 3) := by decide +kernel
theorem dX9_judge_73 : decode cX9_judge 73 = .ok (.iconst 1, 1) := by decide +kernel
theorem dX9_judge_74 : decode cX9_judge 74 = .ok (.goto 4, 3) := by decide +kernel
theorem dX9_judge_77 : decode cX9_judge 77 = .ok (.iconst 0, 1) := by decide +kernel
theorem dX9_judge_78 : decode cX9_judge 78 = .ok (.istore_n 2, 1) := by decide +kernel
theorem dX9_judge_79 : decode cX9_judge 79 = .ok (.aload_n 0, 1) := by decide +kernel
theorem dX9_judge_80 : decode cX9_judge 80 = .ok (.iload_n 2, 1) := by decide +kernel
theorem dX9_judge_81 : decode cX9_judge 81 = .ok (.ifCond .eq 7, 3) := by decide +kernel
theorem dX9_judge_84 : decode cX9_judge 84 = .ok (.iconst (-1), 1) := by decide +kernel
theorem dX9_judge_85 : decode cX9_judge 85 = .ok (.goto 7, 3) := by decide +kernel
theorem dX9_judge_88 : decode cX9_judge 88 = .ok (.aload_n 0, 1) := by decide +kernel
theorem dX9_judge_89 : decode cX9_judge 89 = .ok (.getfield 15, 3) := by decide +kernel
theorem dX9_judge_92 : decode cX9_judge 92 = .ok (.putfield 19, 3) := by decide +kernel
theorem dX9_judge_95 : decode cX9_judge 95 = .ok (.iload_n 2, 1) := by decide +kernel
theorem dX9_judge_96 : decode cX9_judge 96 = .ok (.ifCond .eq 7, 3) := by decide +kernel
theorem dX9_judge_99 : decode cX9_judge 99 = .ok (.iconst 0, 1) := by decide +kernel
theorem dX9_judge_100 : decode cX9_judge 100 = .ok (.goto 4, 3) := by decide +kernel
theorem dX9_judge_103 : decode cX9_judge 103 = .ok (.iconst 4, 1) := by decide +kernel
theorem dX9_judge_104 : decode cX9_judge 104 = .ok (.ireturn, 1) := by decide +kernel
theorem dX9_faultOfLetter_0 : decode cX9_faultOfLetter 0 = .ok (.iload_n 0, 1) := by decide +kernel
theorem dX9_faultOfLetter_1 : decode cX9_faultOfLetter 1 = .ok (.bipush 97, 2) := by decide +kernel
theorem dX9_faultOfLetter_3 : decode cX9_faultOfLetter 3 = .ok (.if_icmp .lt 9, 3) := by decide +kernel
theorem dX9_faultOfLetter_6 : decode cX9_faultOfLetter 6 = .ok (.iload_n 0, 1) := by decide +kernel
theorem dX9_faultOfLetter_7 : decode cX9_faultOfLetter 7 = .ok (.bipush 122, 2) := by decide +kernel
theorem dX9_faultOfLetter_9 : decode cX9_faultOfLetter 9 = .ok (.if_icmp .le 5, 3) := by decide +kernel
theorem dX9_faultOfLetter_12 : decode cX9_faultOfLetter 12 = .ok (.iconst 1, 1) := by decide +kernel
theorem dX9_faultOfLetter_13 : decode cX9_faultOfLetter 13 = .ok (.ireturn, 1) := by decide +kernel
theorem dX9_faultOfLetter_14 : decode cX9_faultOfLetter 14 = .ok (.iload_n 1, 1) := by decide +kernel
theorem dX9_faultOfLetter_15 : decode cX9_faultOfLetter 15 = .ok (.iconst 2, 1) := by decide +kernel
theorem dX9_faultOfLetter_16 : decode cX9_faultOfLetter 16 = .ok (.if_icmp .ne 5, 3) := by decide +kernel
theorem dX9_faultOfLetter_19 : decode cX9_faultOfLetter 19 = .ok (.iconst 2, 1) := by decide +kernel
theorem dX9_faultOfLetter_20 : decode cX9_faultOfLetter 20 = .ok (.ireturn, 1) := by decide +kernel
theorem dX9_faultOfLetter_21 : decode cX9_faultOfLetter 21 = .ok (.iload_n 2, 1) := by decide +kernel
theorem dX9_faultOfLetter_22 : decode cX9_faultOfLetter 22 = .ok (.bipush 8, 2) := by decide +kernel
theorem dX9_faultOfLetter_24 : decode cX9_faultOfLetter 24 = .ok (.if_icmp .le 7, 3) := by decide +kernel
theorem dX9_faultOfLetter_27 : decode cX9_faultOfLetter 27 = .ok (.iconst 3, 1) := by decide +kernel
theorem dX9_faultOfLetter_28 : decode cX9_faultOfLetter 28 = .ok (.goto 4, 3) := by decide +kernel
theorem dX9_faultOfLetter_31 : decode cX9_faultOfLetter 31 = .ok (.iconst 0, 1) := by decide +kernel
theorem dX9_faultOfLetter_32 : decode cX9_faultOfLetter 32 = .ok (.ireturn, 1) := by decide +kernel
theorem dX9_countOf_0 : decode cX9_countOf 0 = .ok (.iconst 0, 1) := by decide +kernel
theorem dX9_countOf_1 : decode cX9_countOf 1 = .ok (.istore_n 3, 1) := by decide +kernel
theorem dX9_countOf_2 : decode cX9_countOf 2 = .ok (.iconst 0, 1) := by decide +kernel
theorem dX9_countOf_3 : decode cX9_countOf 3 = .ok (.istore 4, 2) := by decide +kernel
theorem dX9_countOf_5 : decode cX9_countOf 5 = .ok (.iload 4, 2) := by decide +kernel
theorem dX9_countOf_7 : decode cX9_countOf 7 = .ok (.iload_n 2, 1) := by decide +kernel
theorem dX9_countOf_8 : decode cX9_countOf 8 = .ok (.if_icmp .ge 23, 3) := by decide +kernel
theorem dX9_countOf_11 : decode cX9_countOf 11 = .ok (.aload_n 0, 1) := by decide +kernel
theorem dX9_countOf_12 : decode cX9_countOf 12 = .ok (.getfield 9, 3) := by decide +kernel
theorem dX9_countOf_15 : decode cX9_countOf 15 = .ok (.iload 4, 2) := by decide +kernel
theorem dX9_countOf_17 : decode cX9_countOf 17 = .ok (.iaload, 1) := by decide +kernel
theorem dX9_countOf_18 : decode cX9_countOf 18 = .ok (.iload_n 1, 1) := by decide +kernel
theorem dX9_countOf_19 : decode cX9_countOf 19 = .ok (.if_icmp .ne 6, 3) := by decide +kernel
theorem dX9_countOf_22 : decode cX9_countOf 22 = .ok (.iinc 3 1, 3) := by decide +kernel
theorem dX9_countOf_25 : decode cX9_countOf 25 = .ok (.iinc 4 1, 3) := by decide +kernel
theorem dX9_countOf_28 : decode cX9_countOf 28 = .ok (.goto (-23), 3) := by decide +kernel
theorem dX9_countOf_31 : decode cX9_countOf 31 = .ok (.iload_n 3, 1) := by decide +kernel
theorem dX9_countOf_32 : decode cX9_countOf 32 = .ok (.ireturn, 1) := by decide +kernel
theorem dX10_init_0 : decode cX10_init 0 = .ok (.aload_n 0, 1) := by decide +kernel
theorem dX10_init_1 : decode cX10_init 1 = .ok (.invokespecial 1, 3) := by decide +kernel
theorem dX10_init_4 : decode cX10_init 4 = .ok (.aload_n 0, 1) := by decide +kernel
theorem dX10_init_5 : decode cX10_init 5 = .ok (.aconst_null, 1) := by decide +kernel
theorem dX10_init_6 : decode cX10_init 6 = .ok (.putfield 7, 3) := by decide +kernel
theorem dX10_init_9 : decode cX10_init 9 = .ok (.aload_n 0, 1) := by decide +kernel
theorem dX10_init_10 : decode cX10_init 10 = .ok (.aload_n 1, 1) := by decide +kernel
theorem dX10_init_11 : decode cX10_init 11 = .ok (.putfield 13, 3) := by decide +kernel
theorem dX10_init_14 : decode cX10_init 14 = .ok (.aload_n 0, 1) := by decide +kernel
theorem dX10_init_15 : decode cX10_init 15 = .ok (.iload_n 2, 1) := by decide +kernel
theorem dX10_init_16 : decode cX10_init 16 = .ok (.putfield 17, 3) := by decide +kernel
theorem dX10_init_19 : decode cX10_init 19 = .ok (.return_, 1) := by decide +kernel
theorem dX10_row_0 : decode cX10_row 0 = .ok (.aload_n 0, 1) := by decide +kernel
theorem dX10_row_1 : decode cX10_row 1 = .ok (.getfield 13, 3) := by decide +kernel
theorem dX10_row_4 : decode cX10_row 4 = .ok (.areturn, 1) := by decide +kernel
theorem dX10_signSet_0 : decode cX10_signSet 0 = .ok (.aload_n 0, 1) := by decide +kernel
theorem dX10_signSet_1 : decode cX10_signSet 1 = .ok (.getfield 17, 3) := by decide +kernel
theorem dX10_signSet_4 : decode cX10_signSet 4 = .ok (.ireturn, 1) := by decide +kernel
theorem dX10_faces_0 : decode cX10_faces 0 = .ok (.aload_n 0, 1) := by decide +kernel
theorem dX10_faces_1 : decode cX10_faces 1 = .ok (.getfield 7, 3) := by decide +kernel
theorem dX10_faces_4 : decode cX10_faces 4 = .ok (.ifnonnull 23, 3) := by decide +kernel
theorem dX10_faces_7 : decode cX10_faces 7 = .ok (.aload_n 0, 1) := by decide +kernel
theorem dX10_faces_8 : decode cX10_faces 8 = .ok (.new 21, 3) := by decide +kernel
theorem dX10_faces_11 : decode cX10_faces 11 = .ok (.dup, 1) := by decide +kernel
theorem dX10_faces_12 : decode cX10_faces 12 = .ok (.aload_n 0, 1) := by decide +kernel
theorem dX10_faces_13 : decode cX10_faces 13 = .ok (.getfield 13, 3) := by decide +kernel
theorem dX10_faces_16 : decode cX10_faces 16 = .ok (.aload_n 0, 1) := by decide +kernel
theorem dX10_faces_17 : decode cX10_faces 17 = .ok (.getfield 17, 3) := by decide +kernel
theorem dX10_faces_20 : decode cX10_faces 20 = .ok (.aload_n 1, 1) := by decide +kernel
theorem dX10_faces_21 : decode cX10_faces 21 = .ok (.invokespecial 23, 3) := by decide +kernel
theorem dX10_faces_24 : decode cX10_faces 24 = .ok (.putfield 7, 3) := by decide +kernel
theorem dX10_faces_27 : decode cX10_faces 27 = .ok (.aload_n 0, 1) := by decide +kernel
theorem dX10_faces_28 : decode cX10_faces 28 = .ok (.getfield 7, 3) := by decide +kernel
theorem dX10_faces_31 : decode cX10_faces 31 = .ok (.areturn, 1) := by decide +kernel
theorem dX11_init_0 : decode cX11_init 0 = .ok (.aload_n 0, 1) := by decide +kernel
theorem dX11_init_1 : decode cX11_init 1 = .ok (.invokespecial 1, 3) := by decide +kernel
theorem dX11_init_4 : decode cX11_init 4 = .ok (.aload_n 0, 1) := by decide +kernel
theorem dX11_init_5 : decode cX11_init 5 = .ok (.new 7, 3) := by decide +kernel
theorem dX11_init_8 : decode cX11_init 8 = .ok (.dup, 1) := by decide +kernel
theorem dX11_init_9 : decode cX11_init 9 = .ok (.invokespecial 9, 3) := by decide +kernel
theorem dX11_init_12 : decode cX11_init 12 = .ok (.putfield 10, 3) := by decide +kernel
theorem dX11_init_15 : decode cX11_init 15 = .ok (.aload_n 0, 1) := by decide +kernel
theorem dX11_init_16 : decode cX11_init 16 = .ok (.new 16, 3) := by decide +kernel
theorem dX11_init_19 : decode cX11_init 19 = .ok (.dup, 1) := by decide +kernel
theorem dX11_init_20 : decode cX11_init 20 = .ok (.invokespecial 18, 3) := by decide +kernel
theorem dX11_init_23 : decode cX11_init 23 = .ok (.putfield 19, 3) := by decide +kernel
theorem dX11_init_26 : decode cX11_init 26 = .ok (.aload_n 0, 1) := by decide +kernel
theorem dX11_init_27 : decode cX11_init 27 = .ok (.new 23, 3) := by decide +kernel
theorem dX11_init_30 : decode cX11_init 30 = .ok (.dup, 1) := by decide +kernel
theorem dX11_init_31 : decode cX11_init 31 = .ok (.invokespecial 25, 3) := by decide +kernel
theorem dX11_init_34 : decode cX11_init 34 = .ok (.putfield 26, 3) := by decide +kernel
theorem dX11_init_37 : decode cX11_init 37 = .ok (.aload_n 0, 1) := by decide +kernel
theorem dX11_init_38 : decode cX11_init 38 = .ok (.new 30, 3) := by decide +kernel
theorem dX11_init_41 : decode cX11_init 41 = .ok (.dup, 1) := by decide +kernel
theorem dX11_init_42 : decode cX11_init 42 = .ok (.invokespecial 32, 3) := by decide +kernel
theorem dX11_init_45 : decode cX11_init 45 = .ok (.putfield 33, 3) := by decide +kernel
theorem dX11_init_48 : decode cX11_init 48 = .ok (.aload_n 0, 1) := by decide +kernel
theorem dX11_init_49 : decode cX11_init 49 = .ok (.iconst 2, 1) := by decide +kernel
theorem dX11_init_50 : decode cX11_init 50 = .ok (.anewarray 37, 3) := by decide +kernel
theorem dX11_init_53 : decode cX11_init 53 = .ok (.dup, 1) := by decide +kernel
theorem dX11_init_54 : decode cX11_init 54 = .ok (.iconst 0, 1) := by decide +kernel
theorem dX11_init_55 : decode cX11_init 55 = .ok (.new 37, 3) := by decide +kernel
theorem dX11_init_58 : decode cX11_init 58 = .ok (.dup, 1) := by decide +kernel
theorem dX11_init_59 : decode cX11_init 59 = .ok (.invokespecial 39, 3) := by decide +kernel
theorem dX11_init_62 : decode cX11_init 62 = .ok (.aastore, 1) := by decide +kernel
theorem dX11_init_63 : decode cX11_init 63 = .ok (.dup, 1) := by decide +kernel
theorem dX11_init_64 : decode cX11_init 64 = .ok (.iconst 1, 1) := by decide +kernel
theorem dX11_init_65 : decode cX11_init 65 = .ok (.new 37, 3) := by decide +kernel
theorem dX11_init_68 : decode cX11_init 68 = .ok (.dup, 1) := by decide +kernel
theorem dX11_init_69 : decode cX11_init 69 = .ok (.invokespecial 39, 3) := by decide +kernel
theorem dX11_init_72 : decode cX11_init 72 = .ok (.aastore, 1) := by decide +kernel
theorem dX11_init_73 : decode cX11_init 73 = .ok (.putfield 40, 3) := by decide +kernel
theorem dX11_init_76 : decode cX11_init 76 = .ok (.aload_n 0, 1) := by decide +kernel
theorem dX11_init_77 : decode cX11_init 77 = .ok (.new 44, 3) := by decide +kernel
theorem dX11_init_80 : decode cX11_init 80 = .ok (.dup, 1) := by decide +kernel
theorem dX11_init_81 : decode cX11_init 81 = .ok (.invokespecial 46, 3) := by decide +kernel
theorem dX11_init_84 : decode cX11_init 84 = .ok (.putfield 47, 3) := by decide +kernel
theorem dX11_init_87 : decode cX11_init 87 = .ok (.aload_n 0, 1) := by decide +kernel
theorem dX11_init_88 : decode cX11_init 88 = .ok (.new 51, 3) := by decide +kernel
theorem dX11_init_91 : decode cX11_init 91 = .ok (.dup, 1) := by decide +kernel
theorem dX11_init_92 : decode cX11_init 92 = .ok (.invokespecial 53, 3) := by decide +kernel
theorem dX11_init_95 : decode cX11_init 95 = .ok (.putfield 54, 3) := by decide +kernel
theorem dX11_init_98 : decode cX11_init 98 = .ok (.aload_n 0, 1) := by decide +kernel
theorem dX11_init_99 : decode cX11_init 99 = .ok (.new 58, 3) := by decide +kernel
theorem dX11_init_102 : decode cX11_init 102 = .ok (.dup, 1) := by decide +kernel
theorem dX11_init_103 : decode cX11_init 103 = .ok (.invokespecial 60, 3) := by decide +kernel
theorem dX11_init_106 : decode cX11_init 106 = .ok (.putfield 61, 3) := by decide +kernel
theorem dX11_init_109 : decode cX11_init 109 = .ok (.return_, 1) := by decide +kernel
theorem dX11_feed_0 : decode cX11_feed 0 = .ok (.iload_n 1, 1) := by decide +kernel
theorem dX11_feed_1 : decode cX11_feed 1 = .ok (.ifCond .lt 10, 3) := by decide +kernel
theorem dX11_feed_4 : decode cX11_feed 4 = .ok (.iload_n 1, 1) := by decide +kernel
theorem dX11_feed_5 : decode cX11_feed 5 = .ok (.sipush 255, 3) := by decide +kernel
theorem dX11_feed_8 : decode cX11_feed 8 = .ok (.if_icmp .le 6, 3) := by decide +kernel
theorem dX11_feed_11 : decode cX11_feed 11 = .ok (.ldc 65, 2) := by decide +kernel
theorem dX11_feed_13 : decode cX11_feed 13 = .ok (.ireturn, 1) := by decide +kernel
theorem dX11_feed_14 : decode cX11_feed 14 = .ok (.aload_n 0, 1) := by decide +kernel
theorem dX11_feed_15 : decode cX11_feed 15 = .ok (.getfield 19, 3) := by decide +kernel
theorem dX11_feed_18 : decode cX11_feed 18 = .ok (.iload_n 1, 1) := by decide +kernel
theorem dX11_feed_19 : decode cX11_feed 19 = .ok (.invokevirtual 66, 3) := by decide +kernel
theorem dX11_feed_22 : decode cX11_feed 22 = .ok (.ifCond .eq 13, 3) := by decide +kernel
theorem dX11_feed_25 : decode cX11_feed 25 = .ok (.aload_n 0, 1) := by decide +kernel
theorem dX11_feed_26 : decode cX11_feed 26 = .ok (.getfield 19, 3) := by decide +kernel
theorem dX11_feed_29 : decode cX11_feed 29 = .ok (.invokevirtual 70, 3) := by decide +kernel
theorem dX11_feed_32 : decode cX11_feed 32 = .ok (.goto 5, 3) := by decide +kernel
theorem dX11_feed_35 : decode cX11_feed 35 = .ok (.ldc 74, 2) := by decide +kernel
theorem dX11_feed_37 : decode cX11_feed 37 = .ok (.ireturn, 1) := by decide +kernel
theorem dX11_tell_0 : decode cX11_tell 0 = .ok (.aload_n 0, 1) := by decide +kernel
theorem dX11_tell_1 : decode cX11_tell 1 = .ok (.getfield 10, 3) := by decide +kernel
theorem dX11_tell_4 : decode cX11_tell 4 = .ok (.invokevirtual 75, 3) := by decide +kernel
theorem dX11_tell_7 : decode cX11_tell 7 = .ok (.ifCond .eq 6, 3) := by decide +kernel
theorem dX11_tell_10 : decode cX11_tell 10 = .ok (.ldc 74, 2) := by decide +kernel
theorem dX11_tell_12 : decode cX11_tell 12 = .ok (.ireturn, 1) := by decide +kernel
theorem dX11_tell_13 : decode cX11_tell 13 = .ok (.aload_n 0, 1) := by decide +kernel
theorem dX11_tell_14 : decode cX11_tell 14 = .ok (.getfield 19, 3) := by decide +kernel
theorem dX11_tell_17 : decode cX11_tell 17 = .ok (.invokevirtual 79, 3) := by decide +kernel
theorem dX11_tell_20 : decode cX11_tell 20 = .ok (.istore_n 1, 1) := by decide +kernel
theorem dX11_tell_21 : decode cX11_tell 21 = .ok (.iload_n 1, 1) := by decide +kernel
theorem dX11_tell_22 : decode cX11_tell 22 = .ok (.ifCond .ne 14, 3) := by decide +kernel
theorem dX11_tell_25 : decode cX11_tell 25 = .ok (.aload_n 0, 1) := by decide +kernel
theorem dX11_tell_26 : decode cX11_tell 26 = .ok (.getfield 19, 3) := by decide +kernel
theorem dX11_tell_29 : decode cX11_tell 29 = .ok (.aload_n 0, 1) := by decide +kernel
theorem dX11_tell_30 : decode cX11_tell 30 = .ok (.getfield 54, 3) := by decide +kernel
theorem dX11_tell_33 : decode cX11_tell 33 = .ok (.invokevirtual 82, 3) := by decide +kernel
theorem dX11_tell_36 : decode cX11_tell 36 = .ok (.aload_n 0, 1) := by decide +kernel
theorem dX11_tell_37 : decode cX11_tell 37 = .ok (.getfield 19, 3) := by decide +kernel
theorem dX11_tell_40 : decode cX11_tell 40 = .ok (.invokevirtual 86, 3) := by decide +kernel
theorem dX11_tell_43 : decode cX11_tell 43 = .ok (.iload_n 1, 1) := by decide +kernel
theorem dX11_tell_44 : decode cX11_tell 44 = .ok (.ifCond .ne 10, 3) := by decide +kernel
theorem dX11_tell_47 : decode cX11_tell 47 = .ok (.aload_n 0, 1) := by decide +kernel
theorem dX11_tell_48 : decode cX11_tell 48 = .ok (.invokevirtual 89, 3) := by decide +kernel
theorem dX11_tell_51 : decode cX11_tell 51 = .ok (.goto 7, 3) := by decide +kernel
theorem dX11_tell_54 : decode cX11_tell 54 = .ok (.bipush (-10), 2) := by decide +kernel
theorem dX11_tell_56 : decode cX11_tell 56 = .ok (.iload_n 1, 1) := by decide +kernel
theorem dX11_tell_57 : decode cX11_tell 57 = .ok (.isub, 1) := by decide +kernel
theorem dX11_tell_58 : decode cX11_tell 58 = .ok (.ireturn, 1) := by decide +kernel
theorem dX11_fault_0 : decode cX11_fault 0 = .ok (.aload_n 0, 1) := by decide +kernel
theorem dX11_fault_1 : decode cX11_fault 1 = .ok (.getfield 19, 3) := by decide +kernel
theorem dX11_fault_4 : decode cX11_fault 4 = .ok (.invokevirtual 92, 3) := by decide +kernel
theorem dX11_fault_7 : decode cX11_fault 7 = .ok (.ireturn, 1) := by decide +kernel
theorem dX11_told_0 : decode cX11_told 0 = .ok (.iload_n 1, 1) := by decide +kernel
theorem dX11_told_1 : decode cX11_told 1 = .ok (.tableswitch 107 0 6 #[43, 51, 59, 67, 75, 91, 99], 43) := by decide +kernel
theorem dX11_told_44 : decode cX11_told 44 = .ok (.aload_n 0, 1) := by decide +kernel
theorem dX11_told_45 : decode cX11_told 45 = .ok (.getfield 10, 3) := by decide +kernel
theorem dX11_told_48 : decode cX11_told 48 = .ok (.invokevirtual 95, 3) := by decide +kernel
theorem dX11_told_51 : decode cX11_told 51 = .ok (.ireturn, 1) := by decide +kernel
theorem dX11_told_52 : decode cX11_told 52 = .ok (.aload_n 0, 1) := by decide +kernel
theorem dX11_told_53 : decode cX11_told 53 = .ok (.getfield 10, 3) := by decide +kernel
theorem dX11_told_56 : decode cX11_told 56 = .ok (.invokevirtual 98, 3) := by decide +kernel
theorem dX11_told_59 : decode cX11_told 59 = .ok (.ireturn, 1) := by decide +kernel
theorem dX11_told_60 : decode cX11_told 60 = .ok (.aload_n 0, 1) := by decide +kernel
theorem dX11_told_61 : decode cX11_told 61 = .ok (.getfield 19, 3) := by decide +kernel
theorem dX11_told_64 : decode cX11_told 64 = .ok (.invokevirtual 70, 3) := by decide +kernel
theorem dX11_told_67 : decode cX11_told 67 = .ok (.ireturn, 1) := by decide +kernel
theorem dX11_told_68 : decode cX11_told 68 = .ok (.aload_n 0, 1) := by decide +kernel
theorem dX11_told_69 : decode cX11_told 69 = .ok (.getfield 26, 3) := by decide +kernel
theorem dX11_told_72 : decode cX11_told 72 = .ok (.invokevirtual 101, 3) := by decide +kernel
theorem dX11_told_75 : decode cX11_told 75 = .ok (.ireturn, 1) := by decide +kernel
theorem dX11_told_76 : decode cX11_told 76 = .ok (.aload_n 0, 1) := by decide +kernel
theorem dX11_told_77 : decode cX11_told 77 = .ok (.getfield 26, 3) := by decide +kernel
theorem dX11_told_80 : decode cX11_told 80 = .ok (.aload_n 0, 1) := by decide +kernel
theorem dX11_told_81 : decode cX11_told 81 = .ok (.getfield 10, 3) := by decide +kernel
theorem dX11_told_84 : decode cX11_told 84 = .ok (.aload_n 0, 1) := by decide +kernel
theorem dX11_told_85 : decode cX11_told 85 = .ok (.getfield 61, 3) := by decide +kernel
theorem dX11_told_88 : decode cX11_told 88 = .ok (.invokevirtual 102, 3) := by decide +kernel
theorem dX11_told_91 : decode cX11_told 91 = .ok (.ireturn, 1) := by decide +kernel
theorem dX11_told_92 : decode cX11_told 92 = .ok (.aload_n 0, 1) := by decide +kernel
theorem dX11_told_93 : decode cX11_told 93 = .ok (.getfield 33, 3) := by decide +kernel
theorem dX11_told_96 : decode cX11_told 96 = .ok (.invokevirtual 106, 3) := by decide +kernel
theorem dX11_told_99 : decode cX11_told 99 = .ok (.ireturn, 1) := by decide +kernel
theorem dX11_told_100 : decode cX11_told 100 = .ok (.aload_n 0, 1) := by decide +kernel
theorem dX11_told_101 : decode cX11_told 101 = .ok (.getfield 47, 3) := by decide +kernel
theorem dX11_told_104 : decode cX11_told 104 = .ok (.invokevirtual 107, 3) := by decide +kernel
theorem dX11_told_107 : decode cX11_told 107 = .ok (.ireturn, 1) := by decide +kernel
theorem dX11_told_108 : decode cX11_told 108 = .ok (.ldc 65, 2) := by decide +kernel
theorem dX11_told_110 : decode cX11_told 110 = .ok (.ireturn, 1) := by decide +kernel
theorem dX11_word_0 : decode cX11_word 0 = .ok (.aload_n 0, 1) := by decide +kernel
theorem dX11_word_1 : decode cX11_word 1 = .ok (.getfield 10, 3) := by decide +kernel
theorem dX11_word_4 : decode cX11_word 4 = .ok (.iload_n 1, 1) := by decide +kernel
theorem dX11_word_5 : decode cX11_word 5 = .ok (.invokevirtual 110, 3) := by decide +kernel
theorem dX11_word_8 : decode cX11_word 8 = .ok (.astore_n 3, 1) := by decide +kernel
theorem dX11_word_9 : decode cX11_word 9 = .ok (.aload_n 3, 1) := by decide +kernel
theorem dX11_word_10 : decode cX11_word 10 = .ok (.ifnonnull 6, 3) := by decide +kernel
theorem dX11_word_13 : decode cX11_word 13 = .ok (.ldc 114, 2) := by decide +kernel
theorem dX11_word_15 : decode cX11_word 15 = .ok (.ireturn, 1) := by decide +kernel
theorem dX11_word_16 : decode cX11_word 16 = .ok (.aload_n 3, 1) := by decide +kernel
theorem dX11_word_17 : decode cX11_word 17 = .ok (.invokevirtual 115, 3) := by decide +kernel
theorem dX11_word_20 : decode cX11_word 20 = .ok (.astore 4, 2) := by decide +kernel
theorem dX11_word_22 : decode cX11_word 22 = .ok (.iload_n 2, 1) := by decide +kernel
theorem dX11_word_23 : decode cX11_word 23 = .ok (.tableswitch 231 0 14 #[73, 79, 89, 99, 104, 116, 128, 138, 148, 159, 176, 193, 199, 205, 218], 73) := by decide +kernel
theorem dX11_word_96 : decode cX11_word 96 = .ok (.aload 4, 2) := by decide +kernel
theorem dX11_word_98 : decode cX11_word 98 = .ok (.invokevirtual 121, 3) := by decide +kernel
theorem dX11_word_101 : decode cX11_word 101 = .ok (.ireturn, 1) := by decide +kernel
theorem dX11_word_102 : decode cX11_word 102 = .ok (.aload 4, 2) := by decide +kernel
theorem dX11_word_104 : decode cX11_word 104 = .ok (.aload_n 0, 1) := by decide +kernel
theorem dX11_word_105 : decode cX11_word 105 = .ok (.getfield 61, 3) := by decide +kernel
theorem dX11_word_108 : decode cX11_word 108 = .ok (.invokevirtual 126, 3) := by decide +kernel
theorem dX11_word_111 : decode cX11_word 111 = .ok (.ireturn, 1) := by decide +kernel
theorem dX11_word_112 : decode cX11_word 112 = .ok (.aload 4, 2) := by decide +kernel
theorem dX11_word_114 : decode cX11_word 114 = .ok (.aload_n 0, 1) := by decide +kernel
theorem dX11_word_115 : decode cX11_word 115 = .ok (.getfield 61, 3) := by decide +kernel
theorem dX11_word_118 : decode cX11_word 118 = .ok (.invokevirtual 130, 3) := by decide +kernel
theorem dX11_word_121 : decode cX11_word 121 = .ok (.ireturn, 1) := by decide +kernel
theorem dX11_word_122 : decode cX11_word 122 = .ok (.aload_n 3, 1) := by decide +kernel
theorem dX11_word_123 : decode cX11_word 123 = .ok (.invokevirtual 133, 3) := by decide +kernel
theorem dX11_word_126 : decode cX11_word 126 = .ok (.ireturn, 1) := by decide +kernel
theorem dX11_word_127 : decode cX11_word 127 = .ok (.aload_n 3, 1) := by decide +kernel
theorem dX11_word_128 : decode cX11_word 128 = .ok (.aload_n 0, 1) := by decide +kernel
theorem dX11_word_129 : decode cX11_word 129 = .ok (.getfield 61, 3) := by decide +kernel
theorem dX11_word_132 : decode cX11_word 132 = .ok (.invokevirtual 136, 3) := by decide +kernel
theorem dX11_word_135 : decode cX11_word 135 = .ok (.invokevirtual 140, 3) := by decide +kernel
theorem dX11_word_138 : decode cX11_word 138 = .ok (.ireturn, 1) := by decide +kernel
theorem dX11_word_139 : decode cX11_word 139 = .ok (.aload_n 3, 1) := by decide +kernel
theorem dX11_word_140 : decode cX11_word 140 = .ok (.aload_n 0, 1) := by decide +kernel
theorem dX11_word_141 : decode cX11_word 141 = .ok (.getfield 61, 3) := by decide +kernel
theorem dX11_word_144 : decode cX11_word 144 = .ok (.invokevirtual 136, 3) := by decide +kernel
theorem dX11_word_147 : decode cX11_word 147 = .ok (.invokevirtual 143, 3) := by decide +kernel
theorem dX11_word_150 : decode cX11_word 150 = .ok (.ireturn, 1) := by decide +kernel
theorem dX11_word_151 : decode cX11_word 151 = .ok (.aload 4, 2) := by decide +kernel
theorem dX11_word_153 : decode cX11_word 153 = .ok (.aload_n 0, 1) := by decide +kernel
theorem dX11_word_154 : decode cX11_word 154 = .ok (.getfield 61, 3) := by decide +kernel
theorem dX11_word_157 : decode cX11_word 157 = .ok (.invokevirtual 146, 3) := by decide +kernel
theorem dX11_word_160 : decode cX11_word 160 = .ok (.ireturn, 1) := by decide +kernel
theorem dX11_word_161 : decode cX11_word 161 = .ok (.aload 4, 2) := by decide +kernel
theorem dX11_word_163 : decode cX11_word 163 = .ok (.aload_n 0, 1) := by decide +kernel
theorem dX11_word_164 : decode cX11_word 164 = .ok (.getfield 61, 3) := by decide +kernel
theorem dX11_word_167 : decode cX11_word 167 = .ok (.invokevirtual 149, 3) := by decide +kernel
theorem dX11_word_170 : decode cX11_word 170 = .ok (.ireturn, 1) := by decide +kernel
theorem dX11_word_171 : decode cX11_word 171 = .ok (.aload 4, 2) := by decide +kernel
theorem dX11_word_173 : decode cX11_word 173 = .ok (.iconst 0, 1) := by decide +kernel
theorem dX11_word_174 : decode cX11_word 174 = .ok (.aload_n 0, 1) := by decide +kernel
theorem dX11_word_175 : decode cX11_word 175 = .ok (.getfield 61, 3) := by decide +kernel
theorem dX11_word_178 : decode cX11_word 178 = .ok (.invokevirtual 152, 3) := by decide +kernel
theorem dX11_word_181 : decode cX11_word 181 = .ok (.ireturn, 1) := by decide +kernel
theorem dX11_word_182 : decode cX11_word 182 = .ok (.aload_n 3, 1) := by decide +kernel
theorem dX11_word_183 : decode cX11_word 183 = .ok (.aload_n 0, 1) := by decide +kernel
theorem dX11_word_184 : decode cX11_word 184 = .ok (.getfield 61, 3) := by decide +kernel
theorem dX11_word_187 : decode cX11_word 187 = .ok (.invokevirtual 136, 3) := by decide +kernel
theorem dX11_word_190 : decode cX11_word 190 = .ok (.iconst 1, 1) := by decide +kernel
theorem dX11_word_191 : decode cX11_word 191 = .ok (.aload_n 0, 1) := by decide +kernel
theorem dX11_word_192 : decode cX11_word 192 = .ok (.getfield 61, 3) := by decide +kernel
theorem dX11_word_195 : decode cX11_word 195 = .ok (.invokevirtual 156, 3) := by decide +kernel
theorem dX11_word_198 : decode cX11_word 198 = .ok (.ireturn, 1) := by decide +kernel
theorem dX11_word_199 : decode cX11_word 199 = .ok (.aload_n 3, 1) := by decide +kernel
theorem dX11_word_200 : decode cX11_word 200 = .ok (.aload_n 0, 1) := by decide +kernel
theorem dX11_word_201 : decode cX11_word 201 = .ok (.getfield 61, 3) := by decide +kernel
theorem dX11_word_204 : decode cX11_word 204 = .ok (.invokevirtual 136, 3) := by decide +kernel
theorem dX11_word_207 : decode cX11_word 207 = .ok (.iconst 0, 1) := by decide +kernel
theorem dX11_word_208 : decode cX11_word 208 = .ok (.aload_n 0, 1) := by decide +kernel
theorem dX11_word_209 : decode cX11_word 209 = .ok (.getfield 61, 3) := by decide +kernel
theorem dX11_word_212 : decode cX11_word 212 = .ok (.invokevirtual 156, 3) := by decide +kernel
theorem dX11_word_215 : decode cX11_word 215 = .ok (.ireturn, 1) := by decide +kernel
theorem dX11_word_216 : decode cX11_word 216 = .ok (.aload 4, 2) := by decide +kernel
theorem dX11_word_218 : decode cX11_word 218 = .ok (.invokevirtual 160, 3) := by decide +kernel
theorem dX11_word_221 : decode cX11_word 221 = .ok (.ireturn, 1) := by decide +kernel
theorem dX11_word_222 : decode cX11_word 222 = .ok (.aload 4, 2) := by decide +kernel
theorem dX11_word_224 : decode cX11_word 224 = .ok (.invokevirtual 163, 3) := by decide +kernel
theorem dX11_word_227 : decode cX11_word 227 = .ok (.ireturn, 1) := by decide +kernel
theorem dX11_word_228 : decode cX11_word 228 = .ok (.aload_n 3, 1) := by decide +kernel
theorem dX11_word_229 : decode cX11_word 229 = .ok (.aload_n 0, 1) := by decide +kernel
theorem dX11_word_230 : decode cX11_word 230 = .ok (.getfield 61, 3) := by decide +kernel
theorem dX11_word_233 : decode cX11_word 233 = .ok (.invokevirtual 136, 3) := by decide +kernel
theorem dX11_word_236 : decode cX11_word 236 = .ok (.iconst 2, 1) := by decide +kernel
theorem dX11_word_237 : decode cX11_word 237 = .ok (.invokevirtual 166, 3) := by decide +kernel
theorem dX11_word_240 : decode cX11_word 240 = .ok (.ireturn, 1) := by decide +kernel
theorem dX11_word_241 : decode cX11_word 241 = .ok (.aload_n 3, 1) := by decide +kernel
theorem dX11_word_242 : decode cX11_word 242 = .ok (.aload_n 0, 1) := by decide +kernel
theorem dX11_word_243 : decode cX11_word 243 = .ok (.getfield 61, 3) := by decide +kernel
theorem dX11_word_246 : decode cX11_word 246 = .ok (.invokevirtual 136, 3) := by decide +kernel
theorem dX11_word_249 : decode cX11_word 249 = .ok (.iconst 3, 1) := by decide +kernel
theorem dX11_word_250 : decode cX11_word 250 = .ok (.invokevirtual 166, 3) := by decide +kernel
theorem dX11_word_253 : decode cX11_word 253 = .ok (.ireturn, 1) := by decide +kernel
theorem dX11_word_254 : decode cX11_word 254 = .ok (.ldc 65, 2) := by decide +kernel
theorem dX11_word_256 : decode cX11_word 256 = .ok (.ireturn, 1) := by decide +kernel
theorem dX11_code_0 : decode cX11_code 0 = .ok (.aload_n 0, 1) := by decide +kernel
theorem dX11_code_1 : decode cX11_code 1 = .ok (.getfield 10, 3) := by decide +kernel
theorem dX11_code_4 : decode cX11_code 4 = .ok (.iload_n 1, 1) := by decide +kernel
theorem dX11_code_5 : decode cX11_code 5 = .ok (.invokevirtual 110, 3) := by decide +kernel
theorem dX11_code_8 : decode cX11_code 8 = .ok (.astore_n 2, 1) := by decide +kernel
theorem dX11_code_9 : decode cX11_code 9 = .ok (.aload_n 2, 1) := by decide +kernel
theorem dX11_code_10 : decode cX11_code 10 = .ok (.ifnonnull 9, 3) := by decide +kernel
theorem dX11_code_13 : decode cX11_code 13 = .ok (.ldc2_w 170, 3) := by decide +kernel
theorem dX11_code_16 : decode cX11_code 16 = .ok (.goto 10, 3) := by decide +kernel
theorem dX11_code_19 : decode cX11_code 19 = .ok (.aload_n 2, 1) := by decide +kernel
theorem dX11_code_20 : decode cX11_code 20 = .ok (.invokevirtual 115, 3) := by decide +kernel
theorem dX11_code_23 : decode cX11_code 23 = .ok (.invokevirtual 172, 3) := by decide +kernel
theorem dX11_code_26 : decode cX11_code 26 = .ok (.lreturn, 1) := by decide +kernel
theorem dX11_at_0 : decode cX11_at 0 = .ok (.aload_n 0, 1) := by decide +kernel
theorem dX11_at_1 : decode cX11_at 1 = .ok (.getfield 10, 3) := by decide +kernel
theorem dX11_at_4 : decode cX11_at 4 = .ok (.iload_n 1, 1) := by decide +kernel
theorem dX11_at_5 : decode cX11_at 5 = .ok (.invokevirtual 110, 3) := by decide +kernel
theorem dX11_at_8 : decode cX11_at 8 = .ok (.astore_n 3, 1) := by decide +kernel
theorem dX11_at_9 : decode cX11_at 9 = .ok (.aload_n 3, 1) := by decide +kernel
theorem dX11_at_10 : decode cX11_at 10 = .ok (.ifnonnull 8, 3) := by decide +kernel
theorem dX11_at_13 : decode cX11_at 13 = .ok (.ldc 114, 2) := by decide +kernel
theorem dX11_at_15 : decode cX11_at 15 = .ok (.goto 11, 3) := by decide +kernel
theorem dX11_at_18 : decode cX11_at 18 = .ok (.aload_n 3, 1) := by decide +kernel
theorem dX11_at_19 : decode cX11_at 19 = .ok (.invokevirtual 115, 3) := by decide +kernel
theorem dX11_at_22 : decode cX11_at 22 = .ok (.iload_n 2, 1) := by decide +kernel
theorem dX11_at_23 : decode cX11_at 23 = .ok (.invokevirtual 176, 3) := by decide +kernel
theorem dX11_at_26 : decode cX11_at 26 = .ok (.ireturn, 1) := by decide +kernel
theorem dX11_letter_0 : decode cX11_letter 0 = .ok (.aload_n 0, 1) := by decide +kernel
theorem dX11_letter_1 : decode cX11_letter 1 = .ok (.getfield 10, 3) := by decide +kernel
theorem dX11_letter_4 : decode cX11_letter 4 = .ok (.iload_n 1, 1) := by decide +kernel
theorem dX11_letter_5 : decode cX11_letter 5 = .ok (.invokevirtual 110, 3) := by decide +kernel
theorem dX11_letter_8 : decode cX11_letter 8 = .ok (.astore 4, 2) := by decide +kernel
theorem dX11_letter_10 : decode cX11_letter 10 = .ok (.aload 4, 2) := by decide +kernel
theorem dX11_letter_12 : decode cX11_letter 12 = .ok (.ifnull 15, 3) := by decide +kernel
theorem dX11_letter_15 : decode cX11_letter 15 = .ok (.aload 4, 2) := by decide +kernel
theorem dX11_letter_17 : decode cX11_letter 17 = .ok (.invokevirtual 115, 3) := by decide +kernel
theorem dX11_letter_20 : decode cX11_letter 20 = .ok (.iload_n 2, 1) := by decide +kernel
theorem dX11_letter_21 : decode cX11_letter 21 = .ok (.invokevirtual 179, 3) := by decide +kernel
theorem dX11_letter_24 : decode cX11_letter 24 = .ok (.ifCond .ne 6, 3) := by decide +kernel
theorem dX11_letter_27 : decode cX11_letter 27 = .ok (.ldc 114, 2) := by decide +kernel
theorem dX11_letter_29 : decode cX11_letter 29 = .ok (.ireturn, 1) := by decide +kernel
theorem dX11_letter_30 : decode cX11_letter 30 = .ok (.iload_n 3, 1) := by decide +kernel
theorem dX11_letter_31 : decode cX11_letter 31 = .ok (.tableswitch 130 0 7 #[45, 56, 67, 77, 77, 77, 77, 94], 45) := by decide +kernel
theorem dX11_letter_76 : decode cX11_letter 76 = .ok (.aload 4, 2) := by decide +kernel
theorem dX11_letter_78 : decode cX11_letter 78 = .ok (.invokevirtual 115, 3) := by decide +kernel
theorem dX11_letter_81 : decode cX11_letter 81 = .ok (.iload_n 2, 1) := by decide +kernel
theorem dX11_letter_82 : decode cX11_letter 82 = .ok (.iconst 0, 1) := by decide +kernel
theorem dX11_letter_83 : decode cX11_letter 83 = .ok (.invokevirtual 182, 3) := by decide +kernel
theorem dX11_letter_86 : decode cX11_letter 86 = .ok (.ireturn, 1) := by decide +kernel
theorem dX11_letter_87 : decode cX11_letter 87 = .ok (.aload 4, 2) := by decide +kernel
theorem dX11_letter_89 : decode cX11_letter 89 = .ok (.invokevirtual 115, 3) := by decide +kernel
theorem dX11_letter_92 : decode cX11_letter 92 = .ok (.iload_n 2, 1) := by decide +kernel
theorem dX11_letter_93 : decode cX11_letter 93 = .ok (.iconst 1, 1) := by decide +kernel
theorem dX11_letter_94 : decode cX11_letter 94 = .ok (.invokevirtual 182, 3) := by decide +kernel
theorem dX11_letter_97 : decode cX11_letter 97 = .ok (.ireturn, 1) := by decide +kernel
theorem dX11_letter_98 : decode cX11_letter 98 = .ok (.aload 4, 2) := by decide +kernel
theorem dX11_letter_100 : decode cX11_letter 100 = .ok (.invokevirtual 115, 3) := by decide +kernel
theorem dX11_letter_103 : decode cX11_letter 103 = .ok (.iload_n 2, 1) := by decide +kernel
theorem dX11_letter_104 : decode cX11_letter 104 = .ok (.invokevirtual 186, 3) := by decide +kernel
theorem dX11_letter_107 : decode cX11_letter 107 = .ok (.ireturn, 1) := by decide +kernel
theorem dX11_letter_108 : decode cX11_letter 108 = .ok (.aload 4, 2) := by decide +kernel
theorem dX11_letter_110 : decode cX11_letter 110 = .ok (.aload_n 0, 1) := by decide +kernel
theorem dX11_letter_111 : decode cX11_letter 111 = .ok (.getfield 61, 3) := by decide +kernel
theorem dX11_letter_114 : decode cX11_letter 114 = .ok (.invokevirtual 136, 3) := by decide +kernel
theorem dX11_letter_117 : decode cX11_letter 117 = .ok (.iload_n 2, 1) := by decide +kernel
theorem dX11_letter_118 : decode cX11_letter 118 = .ok (.iload_n 3, 1) := by decide +kernel
theorem dX11_letter_119 : decode cX11_letter 119 = .ok (.iconst 3, 1) := by decide +kernel
theorem dX11_letter_120 : decode cX11_letter 120 = .ok (.isub, 1) := by decide +kernel
theorem dX11_letter_121 : decode cX11_letter 121 = .ok (.invokevirtual 189, 3) := by decide +kernel
theorem dX11_letter_124 : decode cX11_letter 124 = .ok (.ireturn, 1) := by decide +kernel
theorem dX11_letter_125 : decode cX11_letter 125 = .ok (.aload 4, 2) := by decide +kernel
theorem dX11_letter_127 : decode cX11_letter 127 = .ok (.aload_n 0, 1) := by decide +kernel
theorem dX11_letter_128 : decode cX11_letter 128 = .ok (.getfield 61, 3) := by decide +kernel
theorem dX11_letter_131 : decode cX11_letter 131 = .ok (.invokevirtual 136, 3) := by decide +kernel
theorem dX11_letter_134 : decode cX11_letter 134 = .ok (.invokevirtual 192, 3) := by decide +kernel
theorem dX11_letter_137 : decode cX11_letter 137 = .ok (.ifCond .eq 22, 3) := by decide +kernel
theorem dX11_letter_140 : decode cX11_letter 140 = .ok (.aload 4, 2) := by decide +kernel
theorem dX11_letter_142 : decode cX11_letter 142 = .ok (.aload_n 0, 1) := by decide +kernel
theorem dX11_letter_143 : decode cX11_letter 143 = .ok (.getfield 61, 3) := by decide +kernel
theorem dX11_letter_146 : decode cX11_letter 146 = .ok (.invokevirtual 136, 3) := by decide +kernel
theorem dX11_letter_149 : decode cX11_letter 149 = .ok (.iload_n 2, 1) := by decide +kernel
theorem dX11_letter_150 : decode cX11_letter 150 = .ok (.invokevirtual 195, 3) := by decide +kernel
theorem dX11_letter_153 : decode cX11_letter 153 = .ok (.bipush 100, 2) := by decide +kernel
theorem dX11_letter_155 : decode cX11_letter 155 = .ok (.iadd, 1) := by decide +kernel
theorem dX11_letter_156 : decode cX11_letter 156 = .ok (.goto 4, 3) := by decide +kernel
theorem dX11_letter_159 : decode cX11_letter 159 = .ok (.iconst (-1), 1) := by decide +kernel
theorem dX11_letter_160 : decode cX11_letter 160 = .ok (.ireturn, 1) := by decide +kernel
theorem dX11_letter_161 : decode cX11_letter 161 = .ok (.ldc 65, 2) := by decide +kernel
theorem dX11_letter_163 : decode cX11_letter 163 = .ok (.ireturn, 1) := by decide +kernel
theorem dX11_face_0 : decode cX11_face 0 = .ok (.aload_n 0, 1) := by decide +kernel
theorem dX11_face_1 : decode cX11_face 1 = .ok (.getfield 10, 3) := by decide +kernel
theorem dX11_face_4 : decode cX11_face 4 = .ok (.iload_n 1, 1) := by decide +kernel
theorem dX11_face_5 : decode cX11_face 5 = .ok (.invokevirtual 110, 3) := by decide +kernel
theorem dX11_face_8 : decode cX11_face 8 = .ok (.astore 4, 2) := by decide +kernel
theorem dX11_face_10 : decode cX11_face 10 = .ok (.aload 4, 2) := by decide +kernel
theorem dX11_face_12 : decode cX11_face 12 = .ok (.ifnull 19, 3) := by decide +kernel
theorem dX11_face_15 : decode cX11_face 15 = .ok (.aload 4, 2) := by decide +kernel
theorem dX11_face_17 : decode cX11_face 17 = .ok (.aload_n 0, 1) := by decide +kernel
theorem dX11_face_18 : decode cX11_face 18 = .ok (.getfield 61, 3) := by decide +kernel
theorem dX11_face_21 : decode cX11_face 21 = .ok (.invokevirtual 136, 3) := by decide +kernel
theorem dX11_face_24 : decode cX11_face 24 = .ok (.iload_n 2, 1) := by decide +kernel
theorem dX11_face_25 : decode cX11_face 25 = .ok (.invokevirtual 198, 3) := by decide +kernel
theorem dX11_face_28 : decode cX11_face 28 = .ok (.ifCond .ne 6, 3) := by decide +kernel
theorem dX11_face_31 : decode cX11_face 31 = .ok (.ldc 114, 2) := by decide +kernel
theorem dX11_face_33 : decode cX11_face 33 = .ok (.ireturn, 1) := by decide +kernel
theorem dX11_face_34 : decode cX11_face 34 = .ok (.iload_n 3, 1) := by decide +kernel
theorem dX11_face_35 : decode cX11_face 35 = .ok (.ifCond .lt 8, 3) := by decide +kernel
theorem dX11_face_38 : decode cX11_face 38 = .ok (.iload_n 3, 1) := by decide +kernel
theorem dX11_face_39 : decode cX11_face 39 = .ok (.iconst 3, 1) := by decide +kernel
theorem dX11_face_40 : decode cX11_face 40 = .ok (.if_icmp .le 6, 3) := by decide +kernel
theorem dX11_face_43 : decode cX11_face 43 = .ok (.ldc 65, 2) := by decide +kernel
theorem dX11_face_45 : decode cX11_face 45 = .ok (.ireturn, 1) := by decide +kernel
theorem dX11_face_46 : decode cX11_face 46 = .ok (.aload 4, 2) := by decide +kernel
theorem dX11_face_48 : decode cX11_face 48 = .ok (.aload_n 0, 1) := by decide +kernel
theorem dX11_face_49 : decode cX11_face 49 = .ok (.getfield 61, 3) := by decide +kernel
theorem dX11_face_52 : decode cX11_face 52 = .ok (.invokevirtual 136, 3) := by decide +kernel
theorem dX11_face_55 : decode cX11_face 55 = .ok (.astore 5, 2) := by decide +kernel
theorem dX11_face_57 : decode cX11_face 57 = .ok (.iload_n 3, 1) := by decide +kernel
theorem dX11_face_58 : decode cX11_face 58 = .ok (.ifCond .ne 10, 3) := by decide +kernel
theorem dX11_face_61 : decode cX11_face 61 = .ok (.aload 5, 2) := by decide +kernel
theorem dX11_face_63 : decode cX11_face 63 = .ok (.iload_n 2, 1) := by decide +kernel
theorem dX11_face_64 : decode cX11_face 64 = .ok (.invokevirtual 201, 3) := by decide +kernel
theorem dX11_face_67 : decode cX11_face 67 = .ok (.ireturn, 1) := by decide +kernel
theorem dX11_face_68 : decode cX11_face 68 = .ok (.aload 5, 2) := by decide +kernel
theorem dX11_face_70 : decode cX11_face 70 = .ok (.invokevirtual 192, 3) := by decide +kernel
theorem dX11_face_73 : decode cX11_face 73 = .ok (.ifCond .ne 5, 3) := by decide +kernel
theorem dX11_face_76 : decode cX11_face 76 = .ok (.iconst (-1), 1) := by decide +kernel
theorem dX11_face_77 : decode cX11_face 77 = .ok (.ireturn, 1) := by decide +kernel
theorem dX11_face_78 : decode cX11_face 78 = .ok (.iload_n 3, 1) := by decide +kernel
theorem dX11_face_79 : decode cX11_face 79 = .ok (.iconst 1, 1) := by decide +kernel
theorem dX11_face_80 : decode cX11_face 80 = .ok (.if_icmp .ne 18, 3) := by decide +kernel
theorem dX11_face_83 : decode cX11_face 83 = .ok (.aload 5, 2) := by decide +kernel
theorem dX11_face_85 : decode cX11_face 85 = .ok (.iload_n 2, 1) := by decide +kernel
theorem dX11_face_86 : decode cX11_face 86 = .ok (.invokevirtual 204, 3) := by decide +kernel
theorem dX11_face_89 : decode cX11_face 89 = .ok (.ifCond .eq 7, 3) := by decide +kernel
theorem dX11_face_92 : decode cX11_face 92 = .ok (.iconst 1, 1) := by decide +kernel
theorem dX11_face_93 : decode cX11_face 93 = .ok (.goto 4, 3) := by decide +kernel
theorem dX11_face_96 : decode cX11_face 96 = .ok (.iconst 0, 1) := by decide +kernel
theorem dX11_face_97 : decode cX11_face 97 = .ok (.ireturn, 1) := by decide +kernel
theorem dX11_face_98 : decode cX11_face 98 = .ok (.iload_n 3, 1) := by decide +kernel
theorem dX11_face_99 : decode cX11_face 99 = .ok (.iconst 2, 1) := by decide +kernel
theorem dX11_face_100 : decode cX11_face 100 = .ok (.if_icmp .ne 12, 3) := by decide +kernel
theorem dX11_face_103 : decode cX11_face 103 = .ok (.aload 5, 2) := by decide +kernel
theorem dX11_face_105 : decode cX11_face 105 = .ok (.iload_n 2, 1) := by decide +kernel
theorem dX11_face_106 : decode cX11_face 106 = .ok (.invokevirtual 207, 3) := by decide +kernel
theorem dX11_face_109 : decode cX11_face 109 = .ok (.goto 9, 3) := by decide +kernel
theorem dX11_face_112 : decode cX11_face 112 = .ok (.aload 5, 2) := by decide +kernel
theorem dX11_face_114 : decode cX11_face 114 = .ok (.iload_n 2, 1) := by decide +kernel
theorem dX11_face_115 : decode cX11_face 115 = .ok (.invokevirtual 210, 3) := by decide +kernel
theorem dX11_face_118 : decode cX11_face 118 = .ok (.bipush 100, 2) := by decide +kernel
theorem dX11_face_120 : decode cX11_face 120 = .ok (.iadd, 1) := by decide +kernel
theorem dX11_face_121 : decode cX11_face 121 = .ok (.ireturn, 1) := by decide +kernel
theorem dX11_rings_0 : decode cX11_rings 0 = .ok (.aload_n 0, 1) := by decide +kernel
theorem dX11_rings_1 : decode cX11_rings 1 = .ok (.getfield 10, 3) := by decide +kernel
theorem dX11_rings_4 : decode cX11_rings 4 = .ok (.iload_n 1, 1) := by decide +kernel
theorem dX11_rings_5 : decode cX11_rings 5 = .ok (.invokevirtual 110, 3) := by decide +kernel
theorem dX11_rings_8 : decode cX11_rings 8 = .ok (.astore_n 3, 1) := by decide +kernel
theorem dX11_rings_9 : decode cX11_rings 9 = .ok (.aload_n 3, 1) := by decide +kernel
theorem dX11_rings_10 : decode cX11_rings 10 = .ok (.ifnull 14, 3) := by decide +kernel
theorem dX11_rings_13 : decode cX11_rings 13 = .ok (.aload_n 3, 1) := by decide +kernel
theorem dX11_rings_14 : decode cX11_rings 14 = .ok (.invokevirtual 115, 3) := by decide +kernel
theorem dX11_rings_17 : decode cX11_rings 17 = .ok (.iload_n 2, 1) := by decide +kernel
theorem dX11_rings_18 : decode cX11_rings 18 = .ok (.invokevirtual 213, 3) := by decide +kernel
theorem dX11_rings_21 : decode cX11_rings 21 = .ok (.ifCond .ne 6, 3) := by decide +kernel
theorem dX11_rings_24 : decode cX11_rings 24 = .ok (.ldc 114, 2) := by decide +kernel
theorem dX11_rings_26 : decode cX11_rings 26 = .ok (.ireturn, 1) := by decide +kernel
theorem dX11_rings_27 : decode cX11_rings 27 = .ok (.aload_n 3, 1) := by decide +kernel
theorem dX11_rings_28 : decode cX11_rings 28 = .ok (.invokevirtual 115, 3) := by decide +kernel
theorem dX11_rings_31 : decode cX11_rings 31 = .ok (.iload_n 2, 1) := by decide +kernel
theorem dX11_rings_32 : decode cX11_rings 32 = .ok (.aload_n 0, 1) := by decide +kernel
theorem dX11_rings_33 : decode cX11_rings 33 = .ok (.getfield 61, 3) := by decide +kernel
theorem dX11_rings_36 : decode cX11_rings 36 = .ok (.invokevirtual 152, 3) := by decide +kernel
theorem dX11_rings_39 : decode cX11_rings 39 = .ok (.ireturn, 1) := by decide +kernel
theorem dX11_states_0 : decode cX11_states 0 = .ok (.aload_n 0, 1) := by decide +kernel
theorem dX11_states_1 : decode cX11_states 1 = .ok (.getfield 10, 3) := by decide +kernel
theorem dX11_states_4 : decode cX11_states 4 = .ok (.iload_n 1, 1) := by decide +kernel
theorem dX11_states_5 : decode cX11_states 5 = .ok (.invokevirtual 110, 3) := by decide +kernel
theorem dX11_states_8 : decode cX11_states 8 = .ok (.astore_n 3, 1) := by decide +kernel
theorem dX11_states_9 : decode cX11_states 9 = .ok (.aload_n 3, 1) := by decide +kernel
theorem dX11_states_10 : decode cX11_states 10 = .ok (.ifnonnull 6, 3) := by decide +kernel
theorem dX11_states_13 : decode cX11_states 13 = .ok (.ldc 114, 2) := by decide +kernel
theorem dX11_states_15 : decode cX11_states 15 = .ok (.ireturn, 1) := by decide +kernel
theorem dX11_states_16 : decode cX11_states 16 = .ok (.iload_n 2, 1) := by decide +kernel
theorem dX11_states_17 : decode cX11_states 17 = .ok (.iconst 1, 1) := by decide +kernel
theorem dX11_states_18 : decode cX11_states 18 = .ok (.if_icmp .lt 9, 3) := by decide +kernel
theorem dX11_states_21 : decode cX11_states 21 = .ok (.iload_n 2, 1) := by decide +kernel
theorem dX11_states_22 : decode cX11_states 22 = .ok (.bipush 9, 2) := by decide +kernel
theorem dX11_states_24 : decode cX11_states 24 = .ok (.if_icmp .le 6, 3) := by decide +kernel
theorem dX11_states_27 : decode cX11_states 27 = .ok (.ldc 65, 2) := by decide +kernel
theorem dX11_states_29 : decode cX11_states 29 = .ok (.ireturn, 1) := by decide +kernel
theorem dX11_states_30 : decode cX11_states 30 = .ok (.aload_n 3, 1) := by decide +kernel
theorem dX11_states_31 : decode cX11_states 31 = .ok (.invokevirtual 115, 3) := by decide +kernel
theorem dX11_states_34 : decode cX11_states 34 = .ok (.iload_n 2, 1) := by decide +kernel
theorem dX11_states_35 : decode cX11_states 35 = .ok (.aload_n 0, 1) := by decide +kernel
theorem dX11_states_36 : decode cX11_states 36 = .ok (.getfield 61, 3) := by decide +kernel
theorem dX11_states_39 : decode cX11_states 39 = .ok (.invokevirtual 216, 3) := by decide +kernel
theorem dX11_states_42 : decode cX11_states 42 = .ok (.ireturn, 1) := by decide +kernel
theorem dX11_same_0 : decode cX11_same 0 = .ok (.aload_n 0, 1) := by decide +kernel
theorem dX11_same_1 : decode cX11_same 1 = .ok (.getfield 10, 3) := by decide +kernel
theorem dX11_same_4 : decode cX11_same 4 = .ok (.iload_n 1, 1) := by decide +kernel
theorem dX11_same_5 : decode cX11_same 5 = .ok (.invokevirtual 110, 3) := by decide +kernel
theorem dX11_same_8 : decode cX11_same 8 = .ok (.astore_n 3, 1) := by decide +kernel
theorem dX11_same_9 : decode cX11_same 9 = .ok (.aload_n 0, 1) := by decide +kernel
theorem dX11_same_10 : decode cX11_same 10 = .ok (.getfield 10, 3) := by decide +kernel
theorem dX11_same_13 : decode cX11_same 13 = .ok (.iload_n 2, 1) := by decide +kernel
theorem dX11_same_14 : decode cX11_same 14 = .ok (.invokevirtual 110, 3) := by decide +kernel
theorem dX11_same_17 : decode cX11_same 17 = .ok (.astore 4, 2) := by decide +kernel
theorem dX11_same_19 : decode cX11_same 19 = .ok (.aload_n 3, 1) := by decide +kernel
theorem dX11_same_20 : decode cX11_same 20 = .ok (.ifnull 8, 3) := by decide +kernel
theorem dX11_same_23 : decode cX11_same 23 = .ok (.aload 4, 2) := by decide +kernel
theorem dX11_same_25 : decode cX11_same 25 = .ok (.ifnonnull 6, 3) := by decide +kernel
theorem dX11_same_28 : decode cX11_same 28 = .ok (.ldc 114, 2) := by decide +kernel
theorem dX11_same_30 : decode cX11_same 30 = .ok (.ireturn, 1) := by decide +kernel
theorem dX11_same_31 : decode cX11_same 31 = .ok (.aload_n 3, 1) := by decide +kernel
theorem dX11_same_32 : decode cX11_same 32 = .ok (.invokevirtual 115, 3) := by decide +kernel
theorem dX11_same_35 : decode cX11_same 35 = .ok (.aload 4, 2) := by decide +kernel
theorem dX11_same_37 : decode cX11_same 37 = .ok (.invokevirtual 115, 3) := by decide +kernel
theorem dX11_same_40 : decode cX11_same 40 = .ok (.invokevirtual 219, 3) := by decide +kernel
theorem dX11_same_43 : decode cX11_same 43 = .ok (.ifCond .eq 7, 3) := by decide +kernel
theorem dX11_same_46 : decode cX11_same 46 = .ok (.iconst 1, 1) := by decide +kernel
theorem dX11_same_47 : decode cX11_same 47 = .ok (.goto 4, 3) := by decide +kernel
theorem dX11_same_50 : decode cX11_same 50 = .ok (.iconst 0, 1) := by decide +kernel
theorem dX11_same_51 : decode cX11_same 51 = .ok (.ireturn, 1) := by decide +kernel
theorem dX11_signs_0 : decode cX11_signs 0 = .ok (.aload_n 0, 1) := by decide +kernel
theorem dX11_signs_1 : decode cX11_signs 1 = .ok (.getfield 10, 3) := by decide +kernel
theorem dX11_signs_4 : decode cX11_signs 4 = .ok (.iload_n 1, 1) := by decide +kernel
theorem dX11_signs_5 : decode cX11_signs 5 = .ok (.invokevirtual 110, 3) := by decide +kernel
theorem dX11_signs_8 : decode cX11_signs 8 = .ok (.astore_n 3, 1) := by decide +kernel
theorem dX11_signs_9 : decode cX11_signs 9 = .ok (.aload_n 3, 1) := by decide +kernel
theorem dX11_signs_10 : decode cX11_signs 10 = .ok (.ifnull 14, 3) := by decide +kernel
theorem dX11_signs_13 : decode cX11_signs 13 = .ok (.aload_n 3, 1) := by decide +kernel
theorem dX11_signs_14 : decode cX11_signs 14 = .ok (.invokevirtual 115, 3) := by decide +kernel
theorem dX11_signs_17 : decode cX11_signs 17 = .ok (.iload_n 2, 1) := by decide +kernel
theorem dX11_signs_18 : decode cX11_signs 18 = .ok (.invokevirtual 213, 3) := by decide +kernel
theorem dX11_signs_21 : decode cX11_signs 21 = .ok (.ifCond .ne 6, 3) := by decide +kernel
theorem dX11_signs_24 : decode cX11_signs 24 = .ok (.ldc 114, 2) := by decide +kernel
theorem dX11_signs_26 : decode cX11_signs 26 = .ok (.ireturn, 1) := by decide +kernel
theorem dX11_signs_27 : decode cX11_signs 27 = .ok (.new 116, 3) := by decide +kernel
theorem dX11_signs_30 : decode cX11_signs 30 = .ok (.dup, 1) := by decide +kernel
theorem dX11_signs_31 : decode cX11_signs 31 = .ok (.aload_n 3, 1) := by decide +kernel
theorem dX11_signs_32 : decode cX11_signs 32 = .ok (.invokevirtual 115, 3) := by decide +kernel
theorem dX11_signs_35 : decode cX11_signs 35 = .ok (.iload_n 2, 1) := by decide +kernel
theorem dX11_signs_36 : decode cX11_signs 36 = .ok (.invokespecial 223, 3) := by decide +kernel
theorem dX11_signs_39 : decode cX11_signs 39 = .ok (.astore 4, 2) := by decide +kernel
theorem dX11_signs_41 : decode cX11_signs 41 = .ok (.aload_n 0, 1) := by decide +kernel
theorem dX11_signs_42 : decode cX11_signs 42 = .ok (.iload_n 1, 1) := by decide +kernel
theorem dX11_signs_43 : decode cX11_signs 43 = .ok (.aload 4, 2) := by decide +kernel
theorem dX11_signs_45 : decode cX11_signs 45 = .ok (.invokevirtual 226, 3) := by decide +kernel
theorem dX11_signs_48 : decode cX11_signs 48 = .ok (.aload 4, 2) := by decide +kernel
theorem dX11_signs_50 : decode cX11_signs 50 = .ok (.aload_n 0, 1) := by decide +kernel
theorem dX11_signs_51 : decode cX11_signs 51 = .ok (.getfield 61, 3) := by decide +kernel
theorem dX11_signs_54 : decode cX11_signs 54 = .ok (.invokevirtual 136, 3) := by decide +kernel
theorem dX11_signs_57 : decode cX11_signs 57 = .ok (.invokevirtual 140, 3) := by decide +kernel
theorem dX11_signs_60 : decode cX11_signs 60 = .ok (.ireturn, 1) := by decide +kernel
theorem dX11_draw_0 : decode cX11_draw 0 = .ok (.aload_n 0, 1) := by decide +kernel
theorem dX11_draw_1 : decode cX11_draw 1 = .ok (.getfield 10, 3) := by decide +kernel
theorem dX11_draw_4 : decode cX11_draw 4 = .ok (.iload_n 1, 1) := by decide +kernel
theorem dX11_draw_5 : decode cX11_draw 5 = .ok (.invokevirtual 110, 3) := by decide +kernel
theorem dX11_draw_8 : decode cX11_draw 8 = .ok (.astore_n 2, 1) := by decide +kernel
theorem dX11_draw_9 : decode cX11_draw 9 = .ok (.aload_n 2, 1) := by decide +kernel
theorem dX11_draw_10 : decode cX11_draw 10 = .ok (.ifnonnull 6, 3) := by decide +kernel
theorem dX11_draw_13 : decode cX11_draw 13 = .ok (.ldc 114, 2) := by decide +kernel
theorem dX11_draw_15 : decode cX11_draw 15 = .ok (.ireturn, 1) := by decide +kernel
theorem dX11_draw_16 : decode cX11_draw 16 = .ok (.aload_n 2, 1) := by decide +kernel
theorem dX11_draw_17 : decode cX11_draw 17 = .ok (.invokevirtual 115, 3) := by decide +kernel
theorem dX11_draw_20 : decode cX11_draw 20 = .ok (.aload_n 0, 1) := by decide +kernel
theorem dX11_draw_21 : decode cX11_draw 21 = .ok (.getfield 61, 3) := by decide +kernel
theorem dX11_draw_24 : decode cX11_draw 24 = .ok (.invokevirtual 146, 3) := by decide +kernel
theorem dX11_draw_27 : decode cX11_draw 27 = .ok (.istore_n 3, 1) := by decide +kernel
theorem dX11_draw_28 : decode cX11_draw 28 = .ok (.iload_n 3, 1) := by decide +kernel
theorem dX11_draw_29 : decode cX11_draw 29 = .ok (.iconst (-1), 1) := by decide +kernel
theorem dX11_draw_30 : decode cX11_draw 30 = .ok (.if_icmp .ne 6, 3) := by decide +kernel
theorem dX11_draw_33 : decode cX11_draw 33 = .ok (.ldc 230, 2) := by decide +kernel
theorem dX11_draw_35 : decode cX11_draw 35 = .ok (.ireturn, 1) := by decide +kernel
theorem dX11_draw_36 : decode cX11_draw 36 = .ok (.aload_n 0, 1) := by decide +kernel
theorem dX11_draw_37 : decode cX11_draw 37 = .ok (.iload_n 1, 1) := by decide +kernel
theorem dX11_draw_38 : decode cX11_draw 38 = .ok (.new 116, 3) := by decide +kernel
theorem dX11_draw_41 : decode cX11_draw 41 = .ok (.dup, 1) := by decide +kernel
theorem dX11_draw_42 : decode cX11_draw 42 = .ok (.aload_n 2, 1) := by decide +kernel
theorem dX11_draw_43 : decode cX11_draw 43 = .ok (.invokevirtual 115, 3) := by decide +kernel
theorem dX11_draw_46 : decode cX11_draw 46 = .ok (.iload_n 3, 1) := by decide +kernel
theorem dX11_draw_47 : decode cX11_draw 47 = .ok (.invokespecial 223, 3) := by decide +kernel
theorem dX11_draw_50 : decode cX11_draw 50 = .ok (.invokevirtual 226, 3) := by decide +kernel
theorem dX11_draw_53 : decode cX11_draw 53 = .ok (.iload_n 3, 1) := by decide +kernel
theorem dX11_draw_54 : decode cX11_draw 54 = .ok (.ireturn, 1) := by decide +kernel
theorem dX11_turn_0 : decode cX11_turn 0 = .ok (.aload_n 0, 1) := by decide +kernel
theorem dX11_turn_1 : decode cX11_turn 1 = .ok (.getfield 10, 3) := by decide +kernel
theorem dX11_turn_4 : decode cX11_turn 4 = .ok (.iload_n 1, 1) := by decide +kernel
theorem dX11_turn_5 : decode cX11_turn 5 = .ok (.invokevirtual 110, 3) := by decide +kernel
theorem dX11_turn_8 : decode cX11_turn 8 = .ok (.astore 4, 2) := by decide +kernel
theorem dX11_turn_10 : decode cX11_turn 10 = .ok (.aload 4, 2) := by decide +kernel
theorem dX11_turn_12 : decode cX11_turn 12 = .ok (.ifnull 15, 3) := by decide +kernel
theorem dX11_turn_15 : decode cX11_turn 15 = .ok (.aload 4, 2) := by decide +kernel
theorem dX11_turn_17 : decode cX11_turn 17 = .ok (.invokevirtual 115, 3) := by decide +kernel
theorem dX11_turn_20 : decode cX11_turn 20 = .ok (.iload_n 2, 1) := by decide +kernel
theorem dX11_turn_21 : decode cX11_turn 21 = .ok (.invokevirtual 231, 3) := by decide +kernel
theorem dX11_turn_24 : decode cX11_turn 24 = .ok (.ifCond .ne 6, 3) := by decide +kernel
theorem dX11_turn_27 : decode cX11_turn 27 = .ok (.ldc 114, 2) := by decide +kernel
theorem dX11_turn_29 : decode cX11_turn 29 = .ok (.ireturn, 1) := by decide +kernel
theorem dX11_turn_30 : decode cX11_turn 30 = .ok (.aload_n 0, 1) := by decide +kernel
theorem dX11_turn_31 : decode cX11_turn 31 = .ok (.getfield 54, 3) := by decide +kernel
theorem dX11_turn_34 : decode cX11_turn 34 = .ok (.aload 4, 2) := by decide +kernel
theorem dX11_turn_36 : decode cX11_turn 36 = .ok (.invokevirtual 115, 3) := by decide +kernel
theorem dX11_turn_39 : decode cX11_turn 39 = .ok (.iload_n 2, 1) := by decide +kernel
theorem dX11_turn_40 : decode cX11_turn 40 = .ok (.iload_n 3, 1) := by decide +kernel
theorem dX11_turn_41 : decode cX11_turn 41 = .ok (.invokevirtual 234, 3) := by decide +kernel
theorem dX11_turn_44 : decode cX11_turn 44 = .ok (.aload_n 0, 1) := by decide +kernel
theorem dX11_turn_45 : decode cX11_turn 45 = .ok (.iload_n 1, 1) := by decide +kernel
theorem dX11_turn_46 : decode cX11_turn 46 = .ok (.invokevirtual 238, 3) := by decide +kernel
theorem dX11_turn_49 : decode cX11_turn 49 = .ok (.invokevirtual 160, 3) := by decide +kernel
theorem dX11_turn_52 : decode cX11_turn 52 = .ok (.ireturn, 1) := by decide +kernel
theorem dX11_twist_0 : decode cX11_twist 0 = .ok (.aload_n 0, 1) := by decide +kernel
theorem dX11_twist_1 : decode cX11_twist 1 = .ok (.getfield 10, 3) := by decide +kernel
theorem dX11_twist_4 : decode cX11_twist 4 = .ok (.iload_n 1, 1) := by decide +kernel
theorem dX11_twist_5 : decode cX11_twist 5 = .ok (.invokevirtual 110, 3) := by decide +kernel
theorem dX11_twist_8 : decode cX11_twist 8 = .ok (.astore_n 3, 1) := by decide +kernel
theorem dX11_twist_9 : decode cX11_twist 9 = .ok (.aload_n 3, 1) := by decide +kernel
theorem dX11_twist_10 : decode cX11_twist 10 = .ok (.ifnull 14, 3) := by decide +kernel
theorem dX11_twist_13 : decode cX11_twist 13 = .ok (.aload_n 3, 1) := by decide +kernel
theorem dX11_twist_14 : decode cX11_twist 14 = .ok (.invokevirtual 115, 3) := by decide +kernel
theorem dX11_twist_17 : decode cX11_twist 17 = .ok (.iload_n 2, 1) := by decide +kernel
theorem dX11_twist_18 : decode cX11_twist 18 = .ok (.invokevirtual 242, 3) := by decide +kernel
theorem dX11_twist_21 : decode cX11_twist 21 = .ok (.ifCond .ne 6, 3) := by decide +kernel
theorem dX11_twist_24 : decode cX11_twist 24 = .ok (.ldc 114, 2) := by decide +kernel
theorem dX11_twist_26 : decode cX11_twist 26 = .ok (.ireturn, 1) := by decide +kernel
theorem dX11_twist_27 : decode cX11_twist 27 = .ok (.aload_n 3, 1) := by decide +kernel
theorem dX11_twist_28 : decode cX11_twist 28 = .ok (.invokevirtual 115, 3) := by decide +kernel
theorem dX11_twist_31 : decode cX11_twist 31 = .ok (.invokevirtual 121, 3) := by decide +kernel
theorem dX11_twist_34 : decode cX11_twist 34 = .ok (.iconst 1, 1) := by decide +kernel
theorem dX11_twist_35 : decode cX11_twist 35 = .ok (.iadd, 1) := by decide +kernel
theorem dX11_twist_36 : decode cX11_twist 36 = .ok (.bipush 8, 2) := by decide +kernel
theorem dX11_twist_38 : decode cX11_twist 38 = .ok (.if_icmp .le 6, 3) := by decide +kernel
theorem dX11_twist_41 : decode cX11_twist 41 = .ok (.ldc 74, 2) := by decide +kernel
theorem dX11_twist_43 : decode cX11_twist 43 = .ok (.ireturn, 1) := by decide +kernel
theorem dX11_twist_44 : decode cX11_twist 44 = .ok (.aload_n 0, 1) := by decide +kernel
theorem dX11_twist_45 : decode cX11_twist 45 = .ok (.getfield 54, 3) := by decide +kernel
theorem dX11_twist_48 : decode cX11_twist 48 = .ok (.aload_n 3, 1) := by decide +kernel
theorem dX11_twist_49 : decode cX11_twist 49 = .ok (.invokevirtual 115, 3) := by decide +kernel
theorem dX11_twist_52 : decode cX11_twist 52 = .ok (.iload_n 2, 1) := by decide +kernel
theorem dX11_twist_53 : decode cX11_twist 53 = .ok (.invokevirtual 245, 3) := by decide +kernel
theorem dX11_twist_56 : decode cX11_twist 56 = .ok (.aload_n 0, 1) := by decide +kernel
theorem dX11_twist_57 : decode cX11_twist 57 = .ok (.iload_n 1, 1) := by decide +kernel
theorem dX11_twist_58 : decode cX11_twist 58 = .ok (.invokevirtual 238, 3) := by decide +kernel
theorem dX11_twist_61 : decode cX11_twist 61 = .ok (.invokevirtual 121, 3) := by decide +kernel
theorem dX11_twist_64 : decode cX11_twist 64 = .ok (.ireturn, 1) := by decide +kernel
theorem dX11_untwist_0 : decode cX11_untwist 0 = .ok (.aload_n 0, 1) := by decide +kernel
theorem dX11_untwist_1 : decode cX11_untwist 1 = .ok (.getfield 10, 3) := by decide +kernel
theorem dX11_untwist_4 : decode cX11_untwist 4 = .ok (.iload_n 1, 1) := by decide +kernel
theorem dX11_untwist_5 : decode cX11_untwist 5 = .ok (.invokevirtual 110, 3) := by decide +kernel
theorem dX11_untwist_8 : decode cX11_untwist 8 = .ok (.astore_n 3, 1) := by decide +kernel
theorem dX11_untwist_9 : decode cX11_untwist 9 = .ok (.aload_n 3, 1) := by decide +kernel
theorem dX11_untwist_10 : decode cX11_untwist 10 = .ok (.ifnull 14, 3) := by decide +kernel
theorem dX11_untwist_13 : decode cX11_untwist 13 = .ok (.aload_n 3, 1) := by decide +kernel
theorem dX11_untwist_14 : decode cX11_untwist 14 = .ok (.invokevirtual 115, 3) := by decide +kernel
theorem dX11_untwist_17 : decode cX11_untwist 17 = .ok (.iload_n 2, 1) := by decide +kernel
theorem dX11_untwist_18 : decode cX11_untwist 18 = .ok (.invokevirtual 179, 3) := by decide +kernel
theorem dX11_untwist_21 : decode cX11_untwist 21 = .ok (.ifCond .ne 6, 3) := by decide +kernel
theorem dX11_untwist_24 : decode cX11_untwist 24 = .ok (.ldc 114, 2) := by decide +kernel
theorem dX11_untwist_26 : decode cX11_untwist 26 = .ok (.ireturn, 1) := by decide +kernel
theorem dX11_untwist_27 : decode cX11_untwist 27 = .ok (.aload_n 3, 1) := by decide +kernel
theorem dX11_untwist_28 : decode cX11_untwist 28 = .ok (.invokevirtual 115, 3) := by decide +kernel
theorem dX11_untwist_31 : decode cX11_untwist 31 = .ok (.iload_n 2, 1) := by decide +kernel
theorem dX11_untwist_32 : decode cX11_untwist 32 = .ok (.invokevirtual 248, 3) := by decide +kernel
theorem dX11_untwist_35 : decode cX11_untwist 35 = .ok (.ifCond .ne 6, 3) := by decide +kernel
theorem dX11_untwist_38 : decode cX11_untwist 38 = .ok (.ldc 230, 2) := by decide +kernel
theorem dX11_untwist_40 : decode cX11_untwist 40 = .ok (.ireturn, 1) := by decide +kernel
theorem dX11_untwist_41 : decode cX11_untwist 41 = .ok (.aload_n 0, 1) := by decide +kernel
theorem dX11_untwist_42 : decode cX11_untwist 42 = .ok (.getfield 54, 3) := by decide +kernel
theorem dX11_untwist_45 : decode cX11_untwist 45 = .ok (.aload_n 3, 1) := by decide +kernel
theorem dX11_untwist_46 : decode cX11_untwist 46 = .ok (.invokevirtual 115, 3) := by decide +kernel
theorem dX11_untwist_49 : decode cX11_untwist 49 = .ok (.iconst 1, 1) := by decide +kernel
theorem dX11_untwist_50 : decode cX11_untwist 50 = .ok (.iload_n 2, 1) := by decide +kernel
theorem dX11_untwist_51 : decode cX11_untwist 51 = .ok (.ishl, 1) := by decide +kernel
theorem dX11_untwist_52 : decode cX11_untwist 52 = .ok (.invokevirtual 251, 3) := by decide +kernel
theorem dX11_untwist_55 : decode cX11_untwist 55 = .ok (.aload_n 0, 1) := by decide +kernel
theorem dX11_untwist_56 : decode cX11_untwist 56 = .ok (.iload_n 1, 1) := by decide +kernel
theorem dX11_untwist_57 : decode cX11_untwist 57 = .ok (.invokevirtual 238, 3) := by decide +kernel
theorem dX11_untwist_60 : decode cX11_untwist 60 = .ok (.invokevirtual 121, 3) := by decide +kernel
theorem dX11_untwist_63 : decode cX11_untwist 63 = .ok (.ireturn, 1) := by decide +kernel
theorem dX11_poke_0 : decode cX11_poke 0 = .ok (.aload_n 0, 1) := by decide +kernel
theorem dX11_poke_1 : decode cX11_poke 1 = .ok (.getfield 10, 3) := by decide +kernel
theorem dX11_poke_4 : decode cX11_poke 4 = .ok (.iload_n 1, 1) := by decide +kernel
theorem dX11_poke_5 : decode cX11_poke 5 = .ok (.invokevirtual 110, 3) := by decide +kernel
theorem dX11_poke_8 : decode cX11_poke 8 = .ok (.astore 5, 2) := by decide +kernel
theorem dX11_poke_10 : decode cX11_poke 10 = .ok (.aload 5, 2) := by decide +kernel
theorem dX11_poke_12 : decode cX11_poke 12 = .ok (.ifnull 32, 3) := by decide +kernel
theorem dX11_poke_15 : decode cX11_poke 15 = .ok (.aload 5, 2) := by decide +kernel
theorem dX11_poke_17 : decode cX11_poke 17 = .ok (.invokevirtual 115, 3) := by decide +kernel
theorem dX11_poke_20 : decode cX11_poke 20 = .ok (.iload_n 2, 1) := by decide +kernel
theorem dX11_poke_21 : decode cX11_poke 21 = .ok (.invokevirtual 242, 3) := by decide +kernel
theorem dX11_poke_24 : decode cX11_poke 24 = .ok (.ifCond .eq 20, 3) := by decide +kernel
theorem dX11_poke_27 : decode cX11_poke 27 = .ok (.aload 5, 2) := by decide +kernel
theorem dX11_poke_29 : decode cX11_poke 29 = .ok (.invokevirtual 115, 3) := by decide +kernel
theorem dX11_poke_32 : decode cX11_poke 32 = .ok (.iload_n 3, 1) := by decide +kernel
theorem dX11_poke_33 : decode cX11_poke 33 = .ok (.invokevirtual 242, 3) := by decide +kernel
theorem dX11_poke_36 : decode cX11_poke 36 = .ok (.ifCond .eq 8, 3) := by decide +kernel
theorem dX11_poke_39 : decode cX11_poke 39 = .ok (.iload_n 2, 1) := by decide +kernel
theorem dX11_poke_40 : decode cX11_poke 40 = .ok (.iload_n 3, 1) := by decide +kernel
theorem dX11_poke_41 : decode cX11_poke 41 = .ok (.if_icmp .ne 6, 3) := by decide +kernel
theorem dX11_poke_44 : decode cX11_poke 44 = .ok (.ldc 114, 2) := by decide +kernel
theorem dX11_poke_46 : decode cX11_poke 46 = .ok (.ireturn, 1) := by decide +kernel
theorem dX11_poke_47 : decode cX11_poke 47 = .ok (.iload 4, 2) := by decide +kernel
theorem dX11_poke_49 : decode cX11_poke 49 = .ok (.ifCond .lt 9, 3) := by decide +kernel
theorem dX11_poke_52 : decode cX11_poke 52 = .ok (.iload 4, 2) := by decide +kernel
theorem dX11_poke_54 : decode cX11_poke 54 = .ok (.iconst 1, 1) := by decide +kernel
theorem dX11_poke_55 : decode cX11_poke 55 = .ok (.if_icmp .le 6, 3) := by decide +kernel
theorem dX11_poke_58 : decode cX11_poke 58 = .ok (.ldc 65, 2) := by decide +kernel
theorem dX11_poke_60 : decode cX11_poke 60 = .ok (.ireturn, 1) := by decide +kernel
theorem dX11_poke_61 : decode cX11_poke 61 = .ok (.aload 5, 2) := by decide +kernel
theorem dX11_poke_63 : decode cX11_poke 63 = .ok (.invokevirtual 115, 3) := by decide +kernel
theorem dX11_poke_66 : decode cX11_poke 66 = .ok (.invokevirtual 121, 3) := by decide +kernel
theorem dX11_poke_69 : decode cX11_poke 69 = .ok (.iconst 2, 1) := by decide +kernel
theorem dX11_poke_70 : decode cX11_poke 70 = .ok (.iadd, 1) := by decide +kernel
theorem dX11_poke_71 : decode cX11_poke 71 = .ok (.bipush 8, 2) := by decide +kernel
theorem dX11_poke_73 : decode cX11_poke 73 = .ok (.if_icmp .le 6, 3) := by decide +kernel
theorem dX11_poke_76 : decode cX11_poke 76 = .ok (.ldc 74, 2) := by decide +kernel
theorem dX11_poke_78 : decode cX11_poke 78 = .ok (.ireturn, 1) := by decide +kernel
theorem dX11_poke_79 : decode cX11_poke 79 = .ok (.aload_n 0, 1) := by decide +kernel
theorem dX11_poke_80 : decode cX11_poke 80 = .ok (.getfield 54, 3) := by decide +kernel
theorem dX11_poke_83 : decode cX11_poke 83 = .ok (.aload 5, 2) := by decide +kernel
theorem dX11_poke_85 : decode cX11_poke 85 = .ok (.invokevirtual 115, 3) := by decide +kernel
theorem dX11_poke_88 : decode cX11_poke 88 = .ok (.iload_n 2, 1) := by decide +kernel
theorem dX11_poke_89 : decode cX11_poke 89 = .ok (.iload_n 3, 1) := by decide +kernel
theorem dX11_poke_90 : decode cX11_poke 90 = .ok (.iload 4, 2) := by decide +kernel
theorem dX11_poke_92 : decode cX11_poke 92 = .ok (.invokevirtual 254, 3) := by decide +kernel
theorem dX11_poke_95 : decode cX11_poke 95 = .ok (.aload_n 0, 1) := by decide +kernel
theorem dX11_poke_96 : decode cX11_poke 96 = .ok (.iload_n 1, 1) := by decide +kernel
theorem dX11_poke_97 : decode cX11_poke 97 = .ok (.invokevirtual 238, 3) := by decide +kernel
theorem dX11_poke_100 : decode cX11_poke 100 = .ok (.invokevirtual 121, 3) := by decide +kernel
theorem dX11_poke_103 : decode cX11_poke 103 = .ok (.ireturn, 1) := by decide +kernel
theorem dX11_unpoke_0 : decode cX11_unpoke 0 = .ok (.aload_n 0, 1) := by decide +kernel
theorem dX11_unpoke_1 : decode cX11_unpoke 1 = .ok (.getfield 10, 3) := by decide +kernel
theorem dX11_unpoke_4 : decode cX11_unpoke 4 = .ok (.iload_n 1, 1) := by decide +kernel
theorem dX11_unpoke_5 : decode cX11_unpoke 5 = .ok (.invokevirtual 110, 3) := by decide +kernel
theorem dX11_unpoke_8 : decode cX11_unpoke 8 = .ok (.astore 4, 2) := by decide +kernel
theorem dX11_unpoke_10 : decode cX11_unpoke 10 = .ok (.aload 4, 2) := by decide +kernel
theorem dX11_unpoke_12 : decode cX11_unpoke 12 = .ok (.ifnull 32, 3) := by decide +kernel
theorem dX11_unpoke_15 : decode cX11_unpoke 15 = .ok (.aload 4, 2) := by decide +kernel
theorem dX11_unpoke_17 : decode cX11_unpoke 17 = .ok (.invokevirtual 115, 3) := by decide +kernel
theorem dX11_unpoke_20 : decode cX11_unpoke 20 = .ok (.iload_n 2, 1) := by decide +kernel
theorem dX11_unpoke_21 : decode cX11_unpoke 21 = .ok (.invokevirtual 179, 3) := by decide +kernel
theorem dX11_unpoke_24 : decode cX11_unpoke 24 = .ok (.ifCond .eq 20, 3) := by decide +kernel
theorem dX11_unpoke_27 : decode cX11_unpoke 27 = .ok (.aload 4, 2) := by decide +kernel
theorem dX11_unpoke_29 : decode cX11_unpoke 29 = .ok (.invokevirtual 115, 3) := by decide +kernel
theorem dX11_unpoke_32 : decode cX11_unpoke 32 = .ok (.iload_n 3, 1) := by decide +kernel
theorem dX11_unpoke_33 : decode cX11_unpoke 33 = .ok (.invokevirtual 179, 3) := by decide +kernel
theorem dX11_unpoke_36 : decode cX11_unpoke 36 = .ok (.ifCond .eq 8, 3) := by decide +kernel
theorem dX11_unpoke_39 : decode cX11_unpoke 39 = .ok (.iload_n 2, 1) := by decide +kernel
theorem dX11_unpoke_40 : decode cX11_unpoke 40 = .ok (.iload_n 3, 1) := by decide +kernel
theorem dX11_unpoke_41 : decode cX11_unpoke 41 = .ok (.if_icmp .ne 6, 3) := by decide +kernel
theorem dX11_unpoke_44 : decode cX11_unpoke 44 = .ok (.ldc 114, 2) := by decide +kernel
theorem dX11_unpoke_46 : decode cX11_unpoke 46 = .ok (.ireturn, 1) := by decide +kernel
theorem dX11_unpoke_47 : decode cX11_unpoke 47 = .ok (.aload 4, 2) := by decide +kernel
theorem dX11_unpoke_49 : decode cX11_unpoke 49 = .ok (.invokevirtual 115, 3) := by decide +kernel
theorem dX11_unpoke_52 : decode cX11_unpoke 52 = .ok (.iload_n 2, 1) := by decide +kernel
theorem dX11_unpoke_53 : decode cX11_unpoke 53 = .ok (.iload_n 3, 1) := by decide +kernel
theorem dX11_unpoke_54 : decode cX11_unpoke 54 = .ok (.invokevirtual 258, 3) := by decide +kernel
theorem dX11_unpoke_57 : decode cX11_unpoke 57 = .ok (.ifCond .ne 6, 3) := by decide +kernel
theorem dX11_unpoke_60 : decode cX11_unpoke 60 = .ok (.ldc 230, 2) := by decide +kernel
theorem dX11_unpoke_62 : decode cX11_unpoke 62 = .ok (.ireturn, 1) := by decide +kernel
theorem dX11_unpoke_63 : decode cX11_unpoke 63 = .ok (.aload_n 0, 1) := by decide +kernel
theorem dX11_unpoke_64 : decode cX11_unpoke 64 = .ok (.getfield 54, 3) := by decide +kernel
theorem dX11_unpoke_67 : decode cX11_unpoke 67 = .ok (.aload 4, 2) := by decide +kernel
theorem dX11_unpoke_69 : decode cX11_unpoke 69 = .ok (.invokevirtual 115, 3) := by decide +kernel
theorem dX11_unpoke_72 : decode cX11_unpoke 72 = .ok (.iconst 1, 1) := by decide +kernel
theorem dX11_unpoke_73 : decode cX11_unpoke 73 = .ok (.iload_n 2, 1) := by decide +kernel
theorem dX11_unpoke_74 : decode cX11_unpoke 74 = .ok (.ishl, 1) := by decide +kernel
theorem dX11_unpoke_75 : decode cX11_unpoke 75 = .ok (.iconst 1, 1) := by decide +kernel
theorem dX11_unpoke_76 : decode cX11_unpoke 76 = .ok (.iload_n 3, 1) := by decide +kernel
theorem dX11_unpoke_77 : decode cX11_unpoke 77 = .ok (.ishl, 1) := by decide +kernel
theorem dX11_unpoke_78 : decode cX11_unpoke 78 = .ok (.ior, 1) := by decide +kernel
theorem dX11_unpoke_79 : decode cX11_unpoke 79 = .ok (.invokevirtual 251, 3) := by decide +kernel
theorem dX11_unpoke_82 : decode cX11_unpoke 82 = .ok (.aload_n 0, 1) := by decide +kernel
theorem dX11_unpoke_83 : decode cX11_unpoke 83 = .ok (.iload_n 1, 1) := by decide +kernel
theorem dX11_unpoke_84 : decode cX11_unpoke 84 = .ok (.invokevirtual 238, 3) := by decide +kernel
theorem dX11_unpoke_87 : decode cX11_unpoke 87 = .ok (.invokevirtual 121, 3) := by decide +kernel
theorem dX11_unpoke_90 : decode cX11_unpoke 90 = .ok (.ireturn, 1) := by decide +kernel
theorem dX11_slide_0 : decode cX11_slide 0 = .ok (.aload_n 0, 1) := by decide +kernel
theorem dX11_slide_1 : decode cX11_slide 1 = .ok (.getfield 10, 3) := by decide +kernel
theorem dX11_slide_4 : decode cX11_slide 4 = .ok (.iload_n 1, 1) := by decide +kernel
theorem dX11_slide_5 : decode cX11_slide 5 = .ok (.invokevirtual 110, 3) := by decide +kernel
theorem dX11_slide_8 : decode cX11_slide 8 = .ok (.astore 5, 2) := by decide +kernel
theorem dX11_slide_10 : decode cX11_slide 10 = .ok (.aload 5, 2) := by decide +kernel
theorem dX11_slide_12 : decode cX11_slide 12 = .ok (.ifnull 18, 3) := by decide +kernel
theorem dX11_slide_15 : decode cX11_slide 15 = .ok (.aload 5, 2) := by decide +kernel
theorem dX11_slide_17 : decode cX11_slide 17 = .ok (.invokevirtual 115, 3) := by decide +kernel
theorem dX11_slide_20 : decode cX11_slide 20 = .ok (.iload_n 2, 1) := by decide +kernel
theorem dX11_slide_21 : decode cX11_slide 21 = .ok (.iload_n 3, 1) := by decide +kernel
theorem dX11_slide_22 : decode cX11_slide 22 = .ok (.iload 4, 2) := by decide +kernel
theorem dX11_slide_24 : decode cX11_slide 24 = .ok (.invokevirtual 262, 3) := by decide +kernel
theorem dX11_slide_27 : decode cX11_slide 27 = .ok (.ifCond .ne 6, 3) := by decide +kernel
theorem dX11_slide_30 : decode cX11_slide 30 = .ok (.ldc 114, 2) := by decide +kernel
theorem dX11_slide_32 : decode cX11_slide 32 = .ok (.ireturn, 1) := by decide +kernel
theorem dX11_slide_33 : decode cX11_slide 33 = .ok (.aload 5, 2) := by decide +kernel
theorem dX11_slide_35 : decode cX11_slide 35 = .ok (.invokevirtual 115, 3) := by decide +kernel
theorem dX11_slide_38 : decode cX11_slide 38 = .ok (.iload_n 2, 1) := by decide +kernel
theorem dX11_slide_39 : decode cX11_slide 39 = .ok (.iload_n 3, 1) := by decide +kernel
theorem dX11_slide_40 : decode cX11_slide 40 = .ok (.iload 4, 2) := by decide +kernel
theorem dX11_slide_42 : decode cX11_slide 42 = .ok (.invokevirtual 266, 3) := by decide +kernel
theorem dX11_slide_45 : decode cX11_slide 45 = .ok (.istore 6, 2) := by decide +kernel
theorem dX11_slide_47 : decode cX11_slide 47 = .ok (.iload 6, 2) := by decide +kernel
theorem dX11_slide_49 : decode cX11_slide 49 = .ok (.iconst (-1), 1) := by decide +kernel
theorem dX11_slide_50 : decode cX11_slide 50 = .ok (.if_icmp .ne 6, 3) := by decide +kernel
theorem dX11_slide_53 : decode cX11_slide 53 = .ok (.ldc 230, 2) := by decide +kernel
theorem dX11_slide_55 : decode cX11_slide 55 = .ok (.ireturn, 1) := by decide +kernel
theorem dX11_slide_56 : decode cX11_slide 56 = .ok (.aload_n 0, 1) := by decide +kernel
theorem dX11_slide_57 : decode cX11_slide 57 = .ok (.getfield 54, 3) := by decide +kernel
theorem dX11_slide_60 : decode cX11_slide 60 = .ok (.aload 5, 2) := by decide +kernel
theorem dX11_slide_62 : decode cX11_slide 62 = .ok (.invokevirtual 115, 3) := by decide +kernel
theorem dX11_slide_65 : decode cX11_slide 65 = .ok (.iload_n 2, 1) := by decide +kernel
theorem dX11_slide_66 : decode cX11_slide 66 = .ok (.iload_n 3, 1) := by decide +kernel
theorem dX11_slide_67 : decode cX11_slide 67 = .ok (.iload 4, 2) := by decide +kernel
theorem dX11_slide_69 : decode cX11_slide 69 = .ok (.iload 6, 2) := by decide +kernel
theorem dX11_slide_71 : decode cX11_slide 71 = .ok (.invokevirtual 270, 3) := by decide +kernel
theorem dX11_slide_74 : decode cX11_slide 74 = .ok (.aload_n 0, 1) := by decide +kernel
theorem dX11_slide_75 : decode cX11_slide 75 = .ok (.iload_n 1, 1) := by decide +kernel
theorem dX11_slide_76 : decode cX11_slide 76 = .ok (.invokevirtual 238, 3) := by decide +kernel
theorem dX11_slide_79 : decode cX11_slide 79 = .ok (.pop, 1) := by decide +kernel
theorem dX11_slide_80 : decode cX11_slide 80 = .ok (.iload 6, 2) := by decide +kernel
theorem dX11_slide_82 : decode cX11_slide 82 = .ok (.ireturn, 1) := by decide +kernel
theorem dX11_smooth_0 : decode cX11_smooth 0 = .ok (.aload_n 0, 1) := by decide +kernel
theorem dX11_smooth_1 : decode cX11_smooth 1 = .ok (.getfield 10, 3) := by decide +kernel
theorem dX11_smooth_4 : decode cX11_smooth 4 = .ok (.iload_n 1, 1) := by decide +kernel
theorem dX11_smooth_5 : decode cX11_smooth 5 = .ok (.invokevirtual 110, 3) := by decide +kernel
theorem dX11_smooth_8 : decode cX11_smooth 8 = .ok (.astore_n 3, 1) := by decide +kernel
theorem dX11_smooth_9 : decode cX11_smooth 9 = .ok (.aload_n 3, 1) := by decide +kernel
theorem dX11_smooth_10 : decode cX11_smooth 10 = .ok (.ifnull 14, 3) := by decide +kernel
theorem dX11_smooth_13 : decode cX11_smooth 13 = .ok (.aload_n 3, 1) := by decide +kernel
theorem dX11_smooth_14 : decode cX11_smooth 14 = .ok (.invokevirtual 115, 3) := by decide +kernel
theorem dX11_smooth_17 : decode cX11_smooth 17 = .ok (.iload_n 2, 1) := by decide +kernel
theorem dX11_smooth_18 : decode cX11_smooth 18 = .ok (.invokevirtual 179, 3) := by decide +kernel
theorem dX11_smooth_21 : decode cX11_smooth 21 = .ok (.ifCond .ne 6, 3) := by decide +kernel
theorem dX11_smooth_24 : decode cX11_smooth 24 = .ok (.ldc 114, 2) := by decide +kernel
theorem dX11_smooth_26 : decode cX11_smooth 26 = .ok (.ireturn, 1) := by decide +kernel
theorem dX11_smooth_27 : decode cX11_smooth 27 = .ok (.aload_n 0, 1) := by decide +kernel
theorem dX11_smooth_28 : decode cX11_smooth 28 = .ok (.getfield 54, 3) := by decide +kernel
theorem dX11_smooth_31 : decode cX11_smooth 31 = .ok (.aload_n 3, 1) := by decide +kernel
theorem dX11_smooth_32 : decode cX11_smooth 32 = .ok (.invokevirtual 115, 3) := by decide +kernel
theorem dX11_smooth_35 : decode cX11_smooth 35 = .ok (.iload_n 2, 1) := by decide +kernel
theorem dX11_smooth_36 : decode cX11_smooth 36 = .ok (.invokevirtual 274, 3) := by decide +kernel
theorem dX11_smooth_39 : decode cX11_smooth 39 = .ok (.aload_n 0, 1) := by decide +kernel
theorem dX11_smooth_40 : decode cX11_smooth 40 = .ok (.iload_n 1, 1) := by decide +kernel
theorem dX11_smooth_41 : decode cX11_smooth 41 = .ok (.invokevirtual 238, 3) := by decide +kernel
theorem dX11_smooth_44 : decode cX11_smooth 44 = .ok (.invokevirtual 121, 3) := by decide +kernel
theorem dX11_smooth_47 : decode cX11_smooth 47 = .ok (.ireturn, 1) := by decide +kernel
theorem dX11_sum_0 : decode cX11_sum 0 = .ok (.aload_n 0, 1) := by decide +kernel
theorem dX11_sum_1 : decode cX11_sum 1 = .ok (.getfield 10, 3) := by decide +kernel
theorem dX11_sum_4 : decode cX11_sum 4 = .ok (.iload_n 1, 1) := by decide +kernel
theorem dX11_sum_5 : decode cX11_sum 5 = .ok (.invokevirtual 110, 3) := by decide +kernel
theorem dX11_sum_8 : decode cX11_sum 8 = .ok (.astore_n 3, 1) := by decide +kernel
theorem dX11_sum_9 : decode cX11_sum 9 = .ok (.aload_n 0, 1) := by decide +kernel
theorem dX11_sum_10 : decode cX11_sum 10 = .ok (.getfield 10, 3) := by decide +kernel
theorem dX11_sum_13 : decode cX11_sum 13 = .ok (.iload_n 2, 1) := by decide +kernel
theorem dX11_sum_14 : decode cX11_sum 14 = .ok (.invokevirtual 110, 3) := by decide +kernel
theorem dX11_sum_17 : decode cX11_sum 17 = .ok (.astore 4, 2) := by decide +kernel
theorem dX11_sum_19 : decode cX11_sum 19 = .ok (.aload_n 3, 1) := by decide +kernel
theorem dX11_sum_20 : decode cX11_sum 20 = .ok (.ifnull 8, 3) := by decide +kernel
theorem dX11_sum_23 : decode cX11_sum 23 = .ok (.aload 4, 2) := by decide +kernel
theorem dX11_sum_25 : decode cX11_sum 25 = .ok (.ifnonnull 6, 3) := by decide +kernel
theorem dX11_sum_28 : decode cX11_sum 28 = .ok (.ldc 114, 2) := by decide +kernel
theorem dX11_sum_30 : decode cX11_sum 30 = .ok (.ireturn, 1) := by decide +kernel
theorem dX11_sum_31 : decode cX11_sum 31 = .ok (.aload_n 0, 1) := by decide +kernel
theorem dX11_sum_32 : decode cX11_sum 32 = .ok (.getfield 10, 3) := by decide +kernel
theorem dX11_sum_35 : decode cX11_sum 35 = .ok (.invokevirtual 75, 3) := by decide +kernel
theorem dX11_sum_38 : decode cX11_sum 38 = .ok (.ifCond .ne 24, 3) := by decide +kernel
theorem dX11_sum_41 : decode cX11_sum 41 = .ok (.aload_n 3, 1) := by decide +kernel
theorem dX11_sum_42 : decode cX11_sum 42 = .ok (.invokevirtual 115, 3) := by decide +kernel
theorem dX11_sum_45 : decode cX11_sum 45 = .ok (.invokevirtual 121, 3) := by decide +kernel
theorem dX11_sum_48 : decode cX11_sum 48 = .ok (.aload 4, 2) := by decide +kernel
theorem dX11_sum_50 : decode cX11_sum 50 = .ok (.invokevirtual 115, 3) := by decide +kernel
theorem dX11_sum_53 : decode cX11_sum 53 = .ok (.invokevirtual 121, 3) := by decide +kernel
theorem dX11_sum_56 : decode cX11_sum 56 = .ok (.iadd, 1) := by decide +kernel
theorem dX11_sum_57 : decode cX11_sum 57 = .ok (.bipush 8, 2) := by decide +kernel
theorem dX11_sum_59 : decode cX11_sum 59 = .ok (.if_icmp .le 6, 3) := by decide +kernel
theorem dX11_sum_62 : decode cX11_sum 62 = .ok (.ldc 74, 2) := by decide +kernel
theorem dX11_sum_64 : decode cX11_sum 64 = .ok (.ireturn, 1) := by decide +kernel
theorem dX11_sum_65 : decode cX11_sum 65 = .ok (.aload_n 0, 1) := by decide +kernel
theorem dX11_sum_66 : decode cX11_sum 66 = .ok (.getfield 54, 3) := by decide +kernel
theorem dX11_sum_69 : decode cX11_sum 69 = .ok (.aload_n 3, 1) := by decide +kernel
theorem dX11_sum_70 : decode cX11_sum 70 = .ok (.invokevirtual 115, 3) := by decide +kernel
theorem dX11_sum_73 : decode cX11_sum 73 = .ok (.aload 4, 2) := by decide +kernel
theorem dX11_sum_75 : decode cX11_sum 75 = .ok (.invokevirtual 115, 3) := by decide +kernel
theorem dX11_sum_78 : decode cX11_sum 78 = .ok (.invokevirtual 277, 3) := by decide +kernel
theorem dX11_sum_81 : decode cX11_sum 81 = .ok (.aload_n 0, 1) := by decide +kernel
theorem dX11_sum_82 : decode cX11_sum 82 = .ok (.invokevirtual 89, 3) := by decide +kernel
theorem dX11_sum_85 : decode cX11_sum 85 = .ok (.ireturn, 1) := by decide +kernel
theorem dX11_take_0 : decode cX11_take 0 = .ok (.aload_n 0, 1) := by decide +kernel
theorem dX11_take_1 : decode cX11_take 1 = .ok (.getfield 10, 3) := by decide +kernel
theorem dX11_take_4 : decode cX11_take 4 = .ok (.iload_n 1, 1) := by decide +kernel
theorem dX11_take_5 : decode cX11_take 5 = .ok (.invokevirtual 110, 3) := by decide +kernel
theorem dX11_take_8 : decode cX11_take 8 = .ok (.ifnonnull 6, 3) := by decide +kernel
theorem dX11_take_11 : decode cX11_take 11 = .ok (.ldc 114, 2) := by decide +kernel
theorem dX11_take_13 : decode cX11_take 13 = .ok (.ireturn, 1) := by decide +kernel
theorem dX11_take_14 : decode cX11_take 14 = .ok (.aload_n 0, 1) := by decide +kernel
theorem dX11_take_15 : decode cX11_take 15 = .ok (.getfield 33, 3) := by decide +kernel
theorem dX11_take_18 : decode cX11_take 18 = .ok (.aload_n 0, 1) := by decide +kernel
theorem dX11_take_19 : decode cX11_take 19 = .ok (.getfield 10, 3) := by decide +kernel
theorem dX11_take_22 : decode cX11_take 22 = .ok (.invokevirtual 281, 3) := by decide +kernel
theorem dX11_take_25 : decode cX11_take 25 = .ok (.aload_n 0, 1) := by decide +kernel
theorem dX11_take_26 : decode cX11_take 26 = .ok (.getfield 10, 3) := by decide +kernel
theorem dX11_take_29 : decode cX11_take 29 = .ok (.iload_n 1, 1) := by decide +kernel
theorem dX11_take_30 : decode cX11_take 30 = .ok (.invokevirtual 285, 3) := by decide +kernel
theorem dX11_take_33 : decode cX11_take 33 = .ok (.aload_n 0, 1) := by decide +kernel
theorem dX11_take_34 : decode cX11_take 34 = .ok (.getfield 10, 3) := by decide +kernel
theorem dX11_take_37 : decode cX11_take 37 = .ok (.invokevirtual 95, 3) := by decide +kernel
theorem dX11_take_40 : decode cX11_take 40 = .ok (.ireturn, 1) := by decide +kernel
theorem dX11_drift_0 : decode cX11_drift 0 = .ok (.iload_n 1, 1) := by decide +kernel
theorem dX11_drift_1 : decode cX11_drift 1 = .ok (.iconst 1, 1) := by decide +kernel
theorem dX11_drift_2 : decode cX11_drift 2 = .ok (.if_icmp .lt 9, 3) := by decide +kernel
theorem dX11_drift_5 : decode cX11_drift 5 = .ok (.iload_n 1, 1) := by decide +kernel
theorem dX11_drift_6 : decode cX11_drift 6 = .ok (.bipush 6, 2) := by decide +kernel
theorem dX11_drift_8 : decode cX11_drift 8 = .ok (.if_icmp .le 6, 3) := by decide +kernel
theorem dX11_drift_11 : decode cX11_drift 11 = .ok (.ldc 65, 2) := by decide +kernel
theorem dX11_drift_13 : decode cX11_drift 13 = .ok (.ireturn, 1) := by decide +kernel
theorem dX11_drift_14 : decode cX11_drift 14 = .ok (.iconst 0, 1) := by decide +kernel
theorem dX11_drift_15 : decode cX11_drift 15 = .ok (.istore_n 2, 1) := by decide +kernel
theorem dX11_drift_16 : decode cX11_drift 16 = .ok (.iload_n 2, 1) := by decide +kernel
theorem dX11_drift_17 : decode cX11_drift 17 = .ok (.iload_n 1, 1) := by decide +kernel
theorem dX11_drift_18 : decode cX11_drift 18 = .ok (.if_icmp .ge 35, 3) := by decide +kernel
theorem dX11_drift_21 : decode cX11_drift 21 = .ok (.aload_n 0, 1) := by decide +kernel
theorem dX11_drift_22 : decode cX11_drift 22 = .ok (.getfield 10, 3) := by decide +kernel
theorem dX11_drift_25 : decode cX11_drift 25 = .ok (.invokevirtual 75, 3) := by decide +kernel
theorem dX11_drift_28 : decode cX11_drift 28 = .ok (.ifCond .ne 25, 3) := by decide +kernel
theorem dX11_drift_31 : decode cX11_drift 31 = .ok (.aload_n 0, 1) := by decide +kernel
theorem dX11_drift_32 : decode cX11_drift 32 = .ok (.getfield 47, 3) := by decide +kernel
theorem dX11_drift_35 : decode cX11_drift 35 = .ok (.aload_n 0, 1) := by decide +kernel
theorem dX11_drift_36 : decode cX11_drift 36 = .ok (.getfield 54, 3) := by decide +kernel
theorem dX11_drift_39 : decode cX11_drift 39 = .ok (.invokevirtual 289, 3) := by decide +kernel
theorem dX11_drift_42 : decode cX11_drift 42 = .ok (.aload_n 0, 1) := by decide +kernel
theorem dX11_drift_43 : decode cX11_drift 43 = .ok (.invokevirtual 89, 3) := by decide +kernel
theorem dX11_drift_46 : decode cX11_drift 46 = .ok (.pop, 1) := by decide +kernel
theorem dX11_drift_47 : decode cX11_drift 47 = .ok (.iinc 2 1, 3) := by decide +kernel
theorem dX11_drift_50 : decode cX11_drift 50 = .ok (.goto (-34), 3) := by decide +kernel
theorem dX11_drift_53 : decode cX11_drift 53 = .ok (.aload_n 0, 1) := by decide +kernel
theorem dX11_drift_54 : decode cX11_drift 54 = .ok (.getfield 10, 3) := by decide +kernel
theorem dX11_drift_57 : decode cX11_drift 57 = .ok (.invokevirtual 95, 3) := by decide +kernel
theorem dX11_drift_60 : decode cX11_drift 60 = .ok (.ireturn, 1) := by decide +kernel
theorem dX11_undo_0 : decode cX11_undo 0 = .ok (.iload_n 1, 1) := by decide +kernel
theorem dX11_undo_1 : decode cX11_undo 1 = .ok (.iconst 1, 1) := by decide +kernel
theorem dX11_undo_2 : decode cX11_undo 2 = .ok (.if_icmp .lt 9, 3) := by decide +kernel
theorem dX11_undo_5 : decode cX11_undo 5 = .ok (.iload_n 1, 1) := by decide +kernel
theorem dX11_undo_6 : decode cX11_undo 6 = .ok (.bipush 16, 2) := by decide +kernel
theorem dX11_undo_8 : decode cX11_undo 8 = .ok (.if_icmp .le 6, 3) := by decide +kernel
theorem dX11_undo_11 : decode cX11_undo 11 = .ok (.ldc 65, 2) := by decide +kernel
theorem dX11_undo_13 : decode cX11_undo 13 = .ok (.ireturn, 1) := by decide +kernel
theorem dX11_undo_14 : decode cX11_undo 14 = .ok (.aload_n 0, 1) := by decide +kernel
theorem dX11_undo_15 : decode cX11_undo 15 = .ok (.getfield 33, 3) := by decide +kernel
theorem dX11_undo_18 : decode cX11_undo 18 = .ok (.iload_n 1, 1) := by decide +kernel
theorem dX11_undo_19 : decode cX11_undo 19 = .ok (.aload_n 0, 1) := by decide +kernel
theorem dX11_undo_20 : decode cX11_undo 20 = .ok (.getfield 10, 3) := by decide +kernel
theorem dX11_undo_23 : decode cX11_undo 23 = .ok (.invokevirtual 292, 3) := by decide +kernel
theorem dX11_undo_26 : decode cX11_undo 26 = .ok (.ifCond .eq 13, 3) := by decide +kernel
theorem dX11_undo_29 : decode cX11_undo 29 = .ok (.aload_n 0, 1) := by decide +kernel
theorem dX11_undo_30 : decode cX11_undo 30 = .ok (.getfield 10, 3) := by decide +kernel
theorem dX11_undo_33 : decode cX11_undo 33 = .ok (.invokevirtual 95, 3) := by decide +kernel
theorem dX11_undo_36 : decode cX11_undo 36 = .ok (.goto 5, 3) := by decide +kernel
theorem dX11_undo_39 : decode cX11_undo 39 = .ok (.ldc 230, 2) := by decide +kernel
theorem dX11_undo_41 : decode cX11_undo 41 = .ok (.ireturn, 1) := by decide +kernel
theorem dX11_write_0 : decode cX11_write 0 = .ok (.aload_n 0, 1) := by decide +kernel
theorem dX11_write_1 : decode cX11_write 1 = .ok (.getfield 10, 3) := by decide +kernel
theorem dX11_write_4 : decode cX11_write 4 = .ok (.iload_n 1, 1) := by decide +kernel
theorem dX11_write_5 : decode cX11_write 5 = .ok (.invokevirtual 110, 3) := by decide +kernel
theorem dX11_write_8 : decode cX11_write 8 = .ok (.ifnonnull 6, 3) := by decide +kernel
theorem dX11_write_11 : decode cX11_write 11 = .ok (.ldc 114, 2) := by decide +kernel
theorem dX11_write_13 : decode cX11_write 13 = .ok (.ireturn, 1) := by decide +kernel
theorem dX11_write_14 : decode cX11_write 14 = .ok (.aload_n 0, 1) := by decide +kernel
theorem dX11_write_15 : decode cX11_write 15 = .ok (.getfield 26, 3) := by decide +kernel
theorem dX11_write_18 : decode cX11_write 18 = .ok (.iload_n 1, 1) := by decide +kernel
theorem dX11_write_19 : decode cX11_write 19 = .ok (.iload_n 2, 1) := by decide +kernel
theorem dX11_write_20 : decode cX11_write 20 = .ok (.invokevirtual 296, 3) := by decide +kernel
theorem dX11_write_23 : decode cX11_write 23 = .ok (.ifCond .eq 13, 3) := by decide +kernel
theorem dX11_write_26 : decode cX11_write 26 = .ok (.aload_n 0, 1) := by decide +kernel
theorem dX11_write_27 : decode cX11_write 27 = .ok (.getfield 26, 3) := by decide +kernel
theorem dX11_write_30 : decode cX11_write 30 = .ok (.invokevirtual 101, 3) := by decide +kernel
theorem dX11_write_33 : decode cX11_write 33 = .ok (.goto 5, 3) := by decide +kernel
theorem dX11_write_36 : decode cX11_write 36 = .ok (.ldc 74, 2) := by decide +kernel
theorem dX11_write_38 : decode cX11_write 38 = .ok (.ireturn, 1) := by decide +kernel
theorem dX11_tear_0 : decode cX11_tear 0 = .ok (.aload_n 0, 1) := by decide +kernel
theorem dX11_tear_1 : decode cX11_tear 1 = .ok (.getfield 26, 3) := by decide +kernel
theorem dX11_tear_4 : decode cX11_tear 4 = .ok (.invokevirtual 298, 3) := by decide +kernel
theorem dX11_tear_7 : decode cX11_tear 7 = .ok (.ireturn, 1) := by decide +kernel
theorem dX11_seed_0 : decode cX11_seed 0 = .ok (.iload_n 1, 1) := by decide +kernel
theorem dX11_seed_1 : decode cX11_seed 1 = .ok (.ifCond .ge 6, 3) := by decide +kernel
theorem dX11_seed_4 : decode cX11_seed 4 = .ok (.ldc 65, 2) := by decide +kernel
theorem dX11_seed_6 : decode cX11_seed 6 = .ok (.ireturn, 1) := by decide +kernel
theorem dX11_seed_7 : decode cX11_seed 7 = .ok (.aload_n 0, 1) := by decide +kernel
theorem dX11_seed_8 : decode cX11_seed 8 = .ok (.getfield 47, 3) := by decide +kernel
theorem dX11_seed_11 : decode cX11_seed 11 = .ok (.invokevirtual 107, 3) := by decide +kernel
theorem dX11_seed_14 : decode cX11_seed 14 = .ok (.istore_n 2, 1) := by decide +kernel
theorem dX11_seed_15 : decode cX11_seed 15 = .ok (.aload_n 0, 1) := by decide +kernel
theorem dX11_seed_16 : decode cX11_seed 16 = .ok (.getfield 47, 3) := by decide +kernel
theorem dX11_seed_19 : decode cX11_seed 19 = .ok (.iload_n 1, 1) := by decide +kernel
theorem dX11_seed_20 : decode cX11_seed 20 = .ok (.invokevirtual 300, 3) := by decide +kernel
theorem dX11_seed_23 : decode cX11_seed 23 = .ok (.iload_n 2, 1) := by decide +kernel
theorem dX11_seed_24 : decode cX11_seed 24 = .ok (.ireturn, 1) := by decide +kernel
theorem dX11_keep_0 : decode cX11_keep 0 = .ok (.iload_n 1, 1) := by decide +kernel
theorem dX11_keep_1 : decode cX11_keep 1 = .ok (.ifCond .lt 8, 3) := by decide +kernel
theorem dX11_keep_4 : decode cX11_keep 4 = .ok (.iload_n 1, 1) := by decide +kernel
theorem dX11_keep_5 : decode cX11_keep 5 = .ok (.iconst 2, 1) := by decide +kernel
theorem dX11_keep_6 : decode cX11_keep 6 = .ok (.if_icmp .lt 6, 3) := by decide +kernel
theorem dX11_keep_9 : decode cX11_keep 9 = .ok (.ldc 114, 2) := by decide +kernel
theorem dX11_keep_11 : decode cX11_keep 11 = .ok (.ireturn, 1) := by decide +kernel
theorem dX11_keep_12 : decode cX11_keep 12 = .ok (.aload_n 0, 1) := by decide +kernel
theorem dX11_keep_13 : decode cX11_keep 13 = .ok (.getfield 40, 3) := by decide +kernel
theorem dX11_keep_16 : decode cX11_keep 16 = .ok (.iload_n 1, 1) := by decide +kernel
theorem dX11_keep_17 : decode cX11_keep 17 = .ok (.aaload, 1) := by decide +kernel
theorem dX11_keep_18 : decode cX11_keep 18 = .ok (.aload_n 0, 1) := by decide +kernel
theorem dX11_keep_19 : decode cX11_keep 19 = .ok (.getfield 10, 3) := by decide +kernel
theorem dX11_keep_22 : decode cX11_keep 22 = .ok (.aload_n 0, 1) := by decide +kernel
theorem dX11_keep_23 : decode cX11_keep 23 = .ok (.getfield 47, 3) := by decide +kernel
theorem dX11_keep_26 : decode cX11_keep 26 = .ok (.invokevirtual 107, 3) := by decide +kernel
theorem dX11_keep_29 : decode cX11_keep 29 = .ok (.invokevirtual 303, 3) := by decide +kernel
theorem dX11_keep_32 : decode cX11_keep 32 = .ok (.aload_n 0, 1) := by decide +kernel
theorem dX11_keep_33 : decode cX11_keep 33 = .ok (.getfield 33, 3) := by decide +kernel
theorem dX11_keep_36 : decode cX11_keep 36 = .ok (.invokevirtual 307, 3) := by decide +kernel
theorem dX11_keep_39 : decode cX11_keep 39 = .ok (.iconst 1, 1) := by decide +kernel
theorem dX11_keep_40 : decode cX11_keep 40 = .ok (.ireturn, 1) := by decide +kernel
theorem dX11_goBack_0 : decode cX11_goBack 0 = .ok (.iload_n 1, 1) := by decide +kernel
theorem dX11_goBack_1 : decode cX11_goBack 1 = .ok (.ifCond .lt 8, 3) := by decide +kernel
theorem dX11_goBack_4 : decode cX11_goBack 4 = .ok (.iload_n 1, 1) := by decide +kernel
theorem dX11_goBack_5 : decode cX11_goBack 5 = .ok (.iconst 2, 1) := by decide +kernel
theorem dX11_goBack_6 : decode cX11_goBack 6 = .ok (.if_icmp .lt 6, 3) := by decide +kernel
theorem dX11_goBack_9 : decode cX11_goBack 9 = .ok (.ldc 114, 2) := by decide +kernel
theorem dX11_goBack_11 : decode cX11_goBack 11 = .ok (.ireturn, 1) := by decide +kernel
theorem dX11_goBack_12 : decode cX11_goBack 12 = .ok (.aload_n 0, 1) := by decide +kernel
theorem dX11_goBack_13 : decode cX11_goBack 13 = .ok (.getfield 40, 3) := by decide +kernel
theorem dX11_goBack_16 : decode cX11_goBack 16 = .ok (.iload_n 1, 1) := by decide +kernel
theorem dX11_goBack_17 : decode cX11_goBack 17 = .ok (.aaload, 1) := by decide +kernel
theorem dX11_goBack_18 : decode cX11_goBack 18 = .ok (.invokevirtual 308, 3) := by decide +kernel
theorem dX11_goBack_21 : decode cX11_goBack 21 = .ok (.ifCond .ne 6, 3) := by decide +kernel
theorem dX11_goBack_24 : decode cX11_goBack 24 = .ok (.ldc 230, 2) := by decide +kernel
theorem dX11_goBack_26 : decode cX11_goBack 26 = .ok (.ireturn, 1) := by decide +kernel
theorem dX11_goBack_27 : decode cX11_goBack 27 = .ok (.aload_n 0, 1) := by decide +kernel
theorem dX11_goBack_28 : decode cX11_goBack 28 = .ok (.getfield 10, 3) := by decide +kernel
theorem dX11_goBack_31 : decode cX11_goBack 31 = .ok (.aload_n 0, 1) := by decide +kernel
theorem dX11_goBack_32 : decode cX11_goBack 32 = .ok (.getfield 40, 3) := by decide +kernel
theorem dX11_goBack_35 : decode cX11_goBack 35 = .ok (.iload_n 1, 1) := by decide +kernel
theorem dX11_goBack_36 : decode cX11_goBack 36 = .ok (.aaload, 1) := by decide +kernel
theorem dX11_goBack_37 : decode cX11_goBack 37 = .ok (.invokevirtual 311, 3) := by decide +kernel
theorem dX11_goBack_40 : decode cX11_goBack 40 = .ok (.invokevirtual 314, 3) := by decide +kernel
theorem dX11_goBack_43 : decode cX11_goBack 43 = .ok (.aload_n 0, 1) := by decide +kernel
theorem dX11_goBack_44 : decode cX11_goBack 44 = .ok (.getfield 47, 3) := by decide +kernel
theorem dX11_goBack_47 : decode cX11_goBack 47 = .ok (.aload_n 0, 1) := by decide +kernel
theorem dX11_goBack_48 : decode cX11_goBack 48 = .ok (.getfield 40, 3) := by decide +kernel
theorem dX11_goBack_51 : decode cX11_goBack 51 = .ok (.iload_n 1, 1) := by decide +kernel
theorem dX11_goBack_52 : decode cX11_goBack 52 = .ok (.aaload, 1) := by decide +kernel
theorem dX11_goBack_53 : decode cX11_goBack 53 = .ok (.invokevirtual 317, 3) := by decide +kernel
theorem dX11_goBack_56 : decode cX11_goBack 56 = .ok (.invokevirtual 300, 3) := by decide +kernel
theorem dX11_goBack_59 : decode cX11_goBack 59 = .ok (.aload_n 0, 1) := by decide +kernel
theorem dX11_goBack_60 : decode cX11_goBack 60 = .ok (.getfield 33, 3) := by decide +kernel
theorem dX11_goBack_63 : decode cX11_goBack 63 = .ok (.invokevirtual 307, 3) := by decide +kernel
theorem dX11_goBack_66 : decode cX11_goBack 66 = .ok (.iconst 1, 1) := by decide +kernel
theorem dX11_goBack_67 : decode cX11_goBack 67 = .ok (.ireturn, 1) := by decide +kernel
theorem dX11_comesAsWord_0 : decode cX11_comesAsWord 0 = .ok (.aload_n 0, 1) := by decide +kernel
theorem dX11_comesAsWord_1 : decode cX11_comesAsWord 1 = .ok (.getfield 33, 3) := by decide +kernel
theorem dX11_comesAsWord_4 : decode cX11_comesAsWord 4 = .ok (.aload_n 0, 1) := by decide +kernel
theorem dX11_comesAsWord_5 : decode cX11_comesAsWord 5 = .ok (.getfield 10, 3) := by decide +kernel
theorem dX11_comesAsWord_8 : decode cX11_comesAsWord 8 = .ok (.invokevirtual 281, 3) := by decide +kernel
theorem dX11_comesAsWord_11 : decode cX11_comesAsWord 11 = .ok (.aload_n 0, 1) := by decide +kernel
theorem dX11_comesAsWord_12 : decode cX11_comesAsWord 12 = .ok (.getfield 10, 3) := by decide +kernel
theorem dX11_comesAsWord_15 : decode cX11_comesAsWord 15 = .ok (.new 116, 3) := by decide +kernel
theorem dX11_comesAsWord_18 : decode cX11_comesAsWord 18 = .ok (.dup, 1) := by decide +kernel
theorem dX11_comesAsWord_19 : decode cX11_comesAsWord 19 = .ok (.new 122, 3) := by decide +kernel
theorem dX11_comesAsWord_22 : decode cX11_comesAsWord 22 = .ok (.dup, 1) := by decide +kernel
theorem dX11_comesAsWord_23 : decode cX11_comesAsWord 23 = .ok (.aload_n 0, 1) := by decide +kernel
theorem dX11_comesAsWord_24 : decode cX11_comesAsWord 24 = .ok (.getfield 54, 3) := by decide +kernel
theorem dX11_comesAsWord_27 : decode cX11_comesAsWord 27 = .ok (.invokespecial 320, 3) := by decide +kernel
theorem dX11_comesAsWord_30 : decode cX11_comesAsWord 30 = .ok (.iconst 0, 1) := by decide +kernel
theorem dX11_comesAsWord_31 : decode cX11_comesAsWord 31 = .ok (.invokespecial 223, 3) := by decide +kernel
theorem dX11_comesAsWord_34 : decode cX11_comesAsWord 34 = .ok (.invokevirtual 322, 3) := by decide +kernel
theorem dX11_comesAsWord_37 : decode cX11_comesAsWord 37 = .ok (.aload_n 0, 1) := by decide +kernel
theorem dX11_comesAsWord_38 : decode cX11_comesAsWord 38 = .ok (.getfield 10, 3) := by decide +kernel
theorem dX11_comesAsWord_41 : decode cX11_comesAsWord 41 = .ok (.invokevirtual 95, 3) := by decide +kernel
theorem dX11_comesAsWord_44 : decode cX11_comesAsWord 44 = .ok (.iconst 1, 1) := by decide +kernel
theorem dX11_comesAsWord_45 : decode cX11_comesAsWord 45 = .ok (.isub, 1) := by decide +kernel
theorem dX11_comesAsWord_46 : decode cX11_comesAsWord 46 = .ok (.ireturn, 1) := by decide +kernel
theorem dX11_becomesDraft_0 : decode cX11_becomesDraft 0 = .ok (.new 122, 3) := by decide +kernel
theorem dX11_becomesDraft_3 : decode cX11_becomesDraft 3 = .ok (.dup, 1) := by decide +kernel
theorem dX11_becomesDraft_4 : decode cX11_becomesDraft 4 = .ok (.aload_n 0, 1) := by decide +kernel
theorem dX11_becomesDraft_5 : decode cX11_becomesDraft 5 = .ok (.getfield 54, 3) := by decide +kernel
theorem dX11_becomesDraft_8 : decode cX11_becomesDraft 8 = .ok (.invokespecial 320, 3) := by decide +kernel
theorem dX11_becomesDraft_11 : decode cX11_becomesDraft 11 = .ok (.astore_n 2, 1) := by decide +kernel
theorem dX11_becomesDraft_12 : decode cX11_becomesDraft 12 = .ok (.aload_n 0, 1) := by decide +kernel
theorem dX11_becomesDraft_13 : decode cX11_becomesDraft 13 = .ok (.iload_n 1, 1) := by decide +kernel
theorem dX11_becomesDraft_14 : decode cX11_becomesDraft 14 = .ok (.new 116, 3) := by decide +kernel
theorem dX11_becomesDraft_17 : decode cX11_becomesDraft 17 = .ok (.dup, 1) := by decide +kernel
theorem dX11_becomesDraft_18 : decode cX11_becomesDraft 18 = .ok (.aload_n 2, 1) := by decide +kernel
theorem dX11_becomesDraft_19 : decode cX11_becomesDraft 19 = .ok (.iconst 0, 1) := by decide +kernel
theorem dX11_becomesDraft_20 : decode cX11_becomesDraft 20 = .ok (.invokespecial 223, 3) := by decide +kernel
theorem dX11_becomesDraft_23 : decode cX11_becomesDraft 23 = .ok (.invokevirtual 226, 3) := by decide +kernel
theorem dX11_becomesDraft_26 : decode cX11_becomesDraft 26 = .ok (.aload_n 2, 1) := by decide +kernel
theorem dX11_becomesDraft_27 : decode cX11_becomesDraft 27 = .ok (.areturn, 1) := by decide +kernel
theorem dX11_becomes_0 : decode cX11_becomes 0 = .ok (.aload_n 0, 1) := by decide +kernel
theorem dX11_becomes_1 : decode cX11_becomes 1 = .ok (.getfield 33, 3) := by decide +kernel
theorem dX11_becomes_4 : decode cX11_becomes 4 = .ok (.aload_n 0, 1) := by decide +kernel
theorem dX11_becomes_5 : decode cX11_becomes 5 = .ok (.getfield 10, 3) := by decide +kernel
theorem dX11_becomes_8 : decode cX11_becomes 8 = .ok (.invokevirtual 281, 3) := by decide +kernel
theorem dX11_becomes_11 : decode cX11_becomes 11 = .ok (.aload_n 0, 1) := by decide +kernel
theorem dX11_becomes_12 : decode cX11_becomes 12 = .ok (.getfield 10, 3) := by decide +kernel
theorem dX11_becomes_15 : decode cX11_becomes 15 = .ok (.iload_n 1, 1) := by decide +kernel
theorem dX11_becomes_16 : decode cX11_becomes 16 = .ok (.aload_n 2, 1) := by decide +kernel
theorem dX11_becomes_17 : decode cX11_becomes 17 = .ok (.invokevirtual 326, 3) := by decide +kernel
theorem dX11_becomes_20 : decode cX11_becomes 20 = .ok (.return_, 1) := by decide +kernel
theorem dX11_isIn_0 : decode cX11_isIn 0 = .ok (.iload_n 0, 1) := by decide +kernel
theorem dX11_isIn_1 : decode cX11_isIn 1 = .ok (.iload_n 1, 1) := by decide +kernel
theorem dX11_isIn_2 : decode cX11_isIn 2 = .ok (.ishr, 1) := by decide +kernel
theorem dX11_isIn_3 : decode cX11_isIn 3 = .ok (.iconst 1, 1) := by decide +kernel
theorem dX11_isIn_4 : decode cX11_isIn 4 = .ok (.iand, 1) := by decide +kernel
theorem dX11_isIn_5 : decode cX11_isIn 5 = .ok (.iconst 1, 1) := by decide +kernel
theorem dX11_isIn_6 : decode cX11_isIn 6 = .ok (.if_icmp .ne 7, 3) := by decide +kernel
theorem dX11_isIn_9 : decode cX11_isIn 9 = .ok (.iconst 1, 1) := by decide +kernel
theorem dX11_isIn_10 : decode cX11_isIn 10 = .ok (.goto 4, 3) := by decide +kernel
theorem dX11_isIn_13 : decode cX11_isIn 13 = .ok (.iconst 0, 1) := by decide +kernel
theorem dX11_isIn_14 : decode cX11_isIn 14 = .ok (.ireturn, 1) := by decide +kernel
theorem dX11_isEven_0 : decode cX11_isEven 0 = .ok (.iload_n 0, 1) := by decide +kernel
theorem dX11_isEven_1 : decode cX11_isEven 1 = .ok (.iconst 1, 1) := by decide +kernel
theorem dX11_isEven_2 : decode cX11_isEven 2 = .ok (.iand, 1) := by decide +kernel
theorem dX11_isEven_3 : decode cX11_isEven 3 = .ok (.ifCond .ne 7, 3) := by decide +kernel
theorem dX11_isEven_6 : decode cX11_isEven 6 = .ok (.iconst 1, 1) := by decide +kernel
theorem dX11_isEven_7 : decode cX11_isEven 7 = .ok (.goto 4, 3) := by decide +kernel
theorem dX11_isEven_10 : decode cX11_isEven 10 = .ok (.iconst 0, 1) := by decide +kernel
theorem dX11_isEven_11 : decode cX11_isEven 11 = .ok (.ireturn, 1) := by decide +kernel
theorem dX12_init_0 : decode cX12_init 0 = .ok (.aload_n 0, 1) := by decide +kernel
theorem dX12_init_1 : decode cX12_init 1 = .ok (.invokespecial 1, 3) := by decide +kernel
theorem dX12_init_4 : decode cX12_init 4 = .ok (.aload_n 0, 1) := by decide +kernel
theorem dX12_init_5 : decode cX12_init 5 = .ok (.sipush 2071, 3) := by decide +kernel
theorem dX12_init_8 : decode cX12_init 8 = .ok (.newarray .int, 2) := by decide +kernel
theorem dX12_init_10 : decode cX12_init 10 = .ok (.putfield 7, 3) := by decide +kernel
theorem dX12_init_13 : decode cX12_init 13 = .ok (.aload_n 0, 1) := by decide +kernel
theorem dX12_init_14 : decode cX12_init 14 = .ok (.iconst 2, 1) := by decide +kernel
theorem dX12_init_15 : decode cX12_init 15 = .ok (.newarray .int, 2) := by decide +kernel
theorem dX12_init_17 : decode cX12_init 17 = .ok (.putfield 13, 3) := by decide +kernel
theorem dX12_init_20 : decode cX12_init 20 = .ok (.aload_n 0, 1) := by decide +kernel
theorem dX12_init_21 : decode cX12_init 21 = .ok (.iconst 2, 1) := by decide +kernel
theorem dX12_init_22 : decode cX12_init 22 = .ok (.newarray .boolean, 2) := by decide +kernel
theorem dX12_init_24 : decode cX12_init 24 = .ok (.putfield 16, 3) := by decide +kernel
theorem dX12_init_27 : decode cX12_init 27 = .ok (.aload_n 0, 1) := by decide +kernel
theorem dX12_init_28 : decode cX12_init 28 = .ok (.bipush 20, 2) := by decide +kernel
theorem dX12_init_30 : decode cX12_init 30 = .ok (.newarray .int, 2) := by decide +kernel
theorem dX12_init_32 : decode cX12_init 32 = .ok (.putfield 20, 3) := by decide +kernel
theorem dX12_init_35 : decode cX12_init 35 = .ok (.aload_n 0, 1) := by decide +kernel
theorem dX12_init_36 : decode cX12_init 36 = .ok (.iconst (-1), 1) := by decide +kernel
theorem dX12_init_37 : decode cX12_init 37 = .ok (.putfield 23, 3) := by decide +kernel
theorem dX12_init_40 : decode cX12_init 40 = .ok (.aload_n 0, 1) := by decide +kernel
theorem dX12_init_41 : decode cX12_init 41 = .ok (.bipush 20, 2) := by decide +kernel
theorem dX12_init_43 : decode cX12_init 43 = .ok (.newarray .int, 2) := by decide +kernel
theorem dX12_init_45 : decode cX12_init 45 = .ok (.putfield 27, 3) := by decide +kernel
theorem dX12_init_48 : decode cX12_init 48 = .ok (.aload_n 0, 1) := by decide +kernel
theorem dX12_init_49 : decode cX12_init 49 = .ok (.bipush 20, 2) := by decide +kernel
theorem dX12_init_51 : decode cX12_init 51 = .ok (.newarray .int, 2) := by decide +kernel
theorem dX12_init_53 : decode cX12_init 53 = .ok (.putfield 30, 3) := by decide +kernel
theorem dX12_init_56 : decode cX12_init 56 = .ok (.aload_n 0, 1) := by decide +kernel
theorem dX12_init_57 : decode cX12_init 57 = .ok (.bipush 32, 2) := by decide +kernel
theorem dX12_init_59 : decode cX12_init 59 = .ok (.newarray .int, 2) := by decide +kernel
theorem dX12_init_61 : decode cX12_init 61 = .ok (.putfield 33, 3) := by decide +kernel
theorem dX12_init_64 : decode cX12_init 64 = .ok (.aload_n 0, 1) := by decide +kernel
theorem dX12_init_65 : decode cX12_init 65 = .ok (.bipush 32, 2) := by decide +kernel
theorem dX12_init_67 : decode cX12_init 67 = .ok (.newarray .int, 2) := by decide +kernel
theorem dX12_init_69 : decode cX12_init 69 = .ok (.putfield 36, 3) := by decide +kernel
theorem dX12_init_72 : decode cX12_init 72 = .ok (.aload_n 0, 1) := by decide +kernel
theorem dX12_init_73 : decode cX12_init 73 = .ok (.bipush 10, 2) := by decide +kernel
theorem dX12_init_75 : decode cX12_init 75 = .ok (.newarray .int, 2) := by decide +kernel
theorem dX12_init_77 : decode cX12_init 77 = .ok (.putfield 39, 3) := by decide +kernel
theorem dX12_init_80 : decode cX12_init 80 = .ok (.aload_n 0, 1) := by decide +kernel
theorem dX12_init_81 : decode cX12_init 81 = .ok (.bipush 10, 2) := by decide +kernel
theorem dX12_init_83 : decode cX12_init 83 = .ok (.newarray .boolean, 2) := by decide +kernel
theorem dX12_init_85 : decode cX12_init 85 = .ok (.putfield 42, 3) := by decide +kernel
theorem dX12_init_88 : decode cX12_init 88 = .ok (.aload_n 0, 1) := by decide +kernel
theorem dX12_init_89 : decode cX12_init 89 = .ok (.bipush 10, 2) := by decide +kernel
theorem dX12_init_91 : decode cX12_init 91 = .ok (.newarray .int, 2) := by decide +kernel
theorem dX12_init_93 : decode cX12_init 93 = .ok (.putfield 45, 3) := by decide +kernel
theorem dX12_init_96 : decode cX12_init 96 = .ok (.return_, 1) := by decide +kernel
theorem dX12_in_0 : decode cX12_in 0 = .ok (.lload_n 0, 1) := by decide +kernel
theorem dX12_in_1 : decode cX12_in 1 = .ok (.lload_n 2, 1) := by decide +kernel
theorem dX12_in_2 : decode cX12_in 2 = .ok (.lcmp, 1) := by decide +kernel
theorem dX12_in_3 : decode cX12_in 3 = .ok (.ifCond .lt 14, 3) := by decide +kernel
theorem dX12_in_6 : decode cX12_in 6 = .ok (.lload_n 0, 1) := by decide +kernel
theorem dX12_in_7 : decode cX12_in 7 = .ok (.lload 4, 2) := by decide +kernel
theorem dX12_in_9 : decode cX12_in 9 = .ok (.lcmp, 1) := by decide +kernel
theorem dX12_in_10 : decode cX12_in 10 = .ok (.ifCond .gt 7, 3) := by decide +kernel
theorem dX12_in_13 : decode cX12_in 13 = .ok (.iconst 1, 1) := by decide +kernel
theorem dX12_in_14 : decode cX12_in 14 = .ok (.goto 4, 3) := by decide +kernel
theorem dX12_in_17 : decode cX12_in 17 = .ok (.iconst 0, 1) := by decide +kernel
theorem dX12_in_18 : decode cX12_in 18 = .ok (.ireturn, 1) := by decide +kernel
theorem dX12_has_0 : decode cX12_has 0 = .ok (.iload_n 0, 1) := by decide +kernel
theorem dX12_has_1 : decode cX12_has 1 = .ok (.iload_n 1, 1) := by decide +kernel
theorem dX12_has_2 : decode cX12_has 2 = .ok (.ishr, 1) := by decide +kernel
theorem dX12_has_3 : decode cX12_has 3 = .ok (.iconst 1, 1) := by decide +kernel
theorem dX12_has_4 : decode cX12_has 4 = .ok (.iand, 1) := by decide +kernel
theorem dX12_has_5 : decode cX12_has 5 = .ok (.iconst 1, 1) := by decide +kernel
theorem dX12_has_6 : decode cX12_has 6 = .ok (.if_icmp .ne 7, 3) := by decide +kernel
theorem dX12_has_9 : decode cX12_has 9 = .ok (.iconst 1, 1) := by decide +kernel
theorem dX12_has_10 : decode cX12_has 10 = .ok (.goto 4, 3) := by decide +kernel
theorem dX12_has_13 : decode cX12_has 13 = .ok (.iconst 0, 1) := by decide +kernel
theorem dX12_has_14 : decode cX12_has 14 = .ok (.ireturn, 1) := by decide +kernel
theorem dX12_ones_0 : decode cX12_ones 0 = .ok (.iconst 0, 1) := by decide +kernel
theorem dX12_ones_1 : decode cX12_ones 1 = .ok (.istore_n 1, 1) := by decide +kernel
theorem dX12_ones_2 : decode cX12_ones 2 = .ok (.iconst 0, 1) := by decide +kernel
theorem dX12_ones_3 : decode cX12_ones 3 = .ok (.istore_n 2, 1) := by decide +kernel
theorem dX12_ones_4 : decode cX12_ones 4 = .ok (.iload_n 2, 1) := by decide +kernel
theorem dX12_ones_5 : decode cX12_ones 5 = .ok (.bipush 16, 2) := by decide +kernel
theorem dX12_ones_7 : decode cX12_ones 7 = .ok (.if_icmp .ge 17, 3) := by decide +kernel
theorem dX12_ones_10 : decode cX12_ones 10 = .ok (.iload_n 1, 1) := by decide +kernel
theorem dX12_ones_11 : decode cX12_ones 11 = .ok (.iload_n 0, 1) := by decide +kernel
theorem dX12_ones_12 : decode cX12_ones 12 = .ok (.iload_n 2, 1) := by decide +kernel
theorem dX12_ones_13 : decode cX12_ones 13 = .ok (.ishr, 1) := by decide +kernel
theorem dX12_ones_14 : decode cX12_ones 14 = .ok (.iconst 1, 1) := by decide +kernel
theorem dX12_ones_15 : decode cX12_ones 15 = .ok (.iand, 1) := by decide +kernel
theorem dX12_ones_16 : decode cX12_ones 16 = .ok (.iadd, 1) := by decide +kernel
theorem dX12_ones_17 : decode cX12_ones 17 = .ok (.istore_n 1, 1) := by decide +kernel
theorem dX12_ones_18 : decode cX12_ones 18 = .ok (.iinc 2 1, 3) := by decide +kernel
theorem dX12_ones_21 : decode cX12_ones 21 = .ok (.goto (-17), 3) := by decide +kernel
theorem dX12_ones_24 : decode cX12_ones 24 = .ok (.iload_n 1, 1) := by decide +kernel
theorem dX12_ones_25 : decode cX12_ones 25 = .ok (.ireturn, 1) := by decide +kernel
theorem dX12_copy_0 : decode cX12_copy 0 = .ok (.iconst 0, 1) := by decide +kernel
theorem dX12_copy_1 : decode cX12_copy 1 = .ok (.istore_n 3, 1) := by decide +kernel
theorem dX12_copy_2 : decode cX12_copy 2 = .ok (.iload_n 3, 1) := by decide +kernel
theorem dX12_copy_3 : decode cX12_copy 3 = .ok (.bipush 109, 2) := by decide +kernel
theorem dX12_copy_5 : decode cX12_copy 5 = .ok (.if_icmp .ge 25, 3) := by decide +kernel
theorem dX12_copy_8 : decode cX12_copy 8 = .ok (.aload_n 0, 1) := by decide +kernel
theorem dX12_copy_9 : decode cX12_copy 9 = .ok (.getfield 7, 3) := by decide +kernel
theorem dX12_copy_12 : decode cX12_copy 12 = .ok (.iload_n 2, 1) := by decide +kernel
theorem dX12_copy_13 : decode cX12_copy 13 = .ok (.iload_n 3, 1) := by decide +kernel
theorem dX12_copy_14 : decode cX12_copy 14 = .ok (.iadd, 1) := by decide +kernel
theorem dX12_copy_15 : decode cX12_copy 15 = .ok (.aload_n 0, 1) := by decide +kernel
theorem dX12_copy_16 : decode cX12_copy 16 = .ok (.getfield 7, 3) := by decide +kernel
theorem dX12_copy_19 : decode cX12_copy 19 = .ok (.iload_n 1, 1) := by decide +kernel
theorem dX12_copy_20 : decode cX12_copy 20 = .ok (.iload_n 3, 1) := by decide +kernel
theorem dX12_copy_21 : decode cX12_copy 21 = .ok (.iadd, 1) := by decide +kernel
theorem dX12_copy_22 : decode cX12_copy 22 = .ok (.iaload, 1) := by decide +kernel
theorem dX12_copy_23 : decode cX12_copy 23 = .ok (.iastore, 1) := by decide +kernel
theorem dX12_copy_24 : decode cX12_copy 24 = .ok (.iinc 3 1, 3) := by decide +kernel
theorem dX12_copy_27 : decode cX12_copy 27 = .ok (.goto (-25), 3) := by decide +kernel
theorem dX12_copy_30 : decode cX12_copy 30 = .ok (.return_, 1) := by decide +kernel
theorem dX12_minds_0 : decode cX12_minds 0 = .ok (.aload_n 0, 1) := by decide +kernel
theorem dX12_minds_1 : decode cX12_minds 1 = .ok (.getfield 48, 3) := by decide +kernel
theorem dX12_minds_4 : decode cX12_minds 4 = .ok (.bipush 16, 2) := by decide +kernel
theorem dX12_minds_6 : decode cX12_minds 6 = .ok (.if_icmp .ne 48, 3) := by decide +kernel
theorem dX12_minds_9 : decode cX12_minds 9 = .ok (.iconst 0, 1) := by decide +kernel
theorem dX12_minds_10 : decode cX12_minds 10 = .ok (.istore_n 1, 1) := by decide +kernel
theorem dX12_minds_11 : decode cX12_minds 11 = .ok (.iload_n 1, 1) := by decide +kernel
theorem dX12_minds_12 : decode cX12_minds 12 = .ok (.sipush 1635, 3) := by decide +kernel
theorem dX12_minds_15 : decode cX12_minds 15 = .ok (.if_icmp .ge 29, 3) := by decide +kernel
theorem dX12_minds_18 : decode cX12_minds 18 = .ok (.aload_n 0, 1) := by decide +kernel
theorem dX12_minds_19 : decode cX12_minds 19 = .ok (.getfield 7, 3) := by decide +kernel
theorem dX12_minds_22 : decode cX12_minds 22 = .ok (.sipush 327, 3) := by decide +kernel
theorem dX12_minds_25 : decode cX12_minds 25 = .ok (.iload_n 1, 1) := by decide +kernel
theorem dX12_minds_26 : decode cX12_minds 26 = .ok (.iadd, 1) := by decide +kernel
theorem dX12_minds_27 : decode cX12_minds 27 = .ok (.aload_n 0, 1) := by decide +kernel
theorem dX12_minds_28 : decode cX12_minds 28 = .ok (.getfield 7, 3) := by decide +kernel
theorem dX12_minds_31 : decode cX12_minds 31 = .ok (.sipush 436, 3) := by decide +kernel
theorem dX12_minds_34 : decode cX12_minds 34 = .ok (.iload_n 1, 1) := by decide +kernel
theorem dX12_minds_35 : decode cX12_minds 35 = .ok (.iadd, 1) := by decide +kernel
theorem dX12_minds_36 : decode cX12_minds 36 = .ok (.iaload, 1) := by decide +kernel
theorem dX12_minds_37 : decode cX12_minds 37 = .ok (.iastore, 1) := by decide +kernel
theorem dX12_minds_38 : decode cX12_minds 38 = .ok (.iinc 1 1, 3) := by decide +kernel
theorem dX12_minds_41 : decode cX12_minds 41 = .ok (.goto (-30), 3) := by decide +kernel
theorem dX12_minds_44 : decode cX12_minds 44 = .ok (.aload_n 0, 1) := by decide +kernel
theorem dX12_minds_45 : decode cX12_minds 45 = .ok (.dup, 1) := by decide +kernel
theorem dX12_minds_46 : decode cX12_minds 46 = .ok (.getfield 48, 3) := by decide +kernel
theorem dX12_minds_49 : decode cX12_minds 49 = .ok (.iconst 1, 1) := by decide +kernel
theorem dX12_minds_50 : decode cX12_minds 50 = .ok (.isub, 1) := by decide +kernel
theorem dX12_minds_51 : decode cX12_minds 51 = .ok (.putfield 48, 3) := by decide +kernel
theorem dX12_minds_54 : decode cX12_minds 54 = .ok (.aload_n 0, 1) := by decide +kernel
theorem dX12_minds_55 : decode cX12_minds 55 = .ok (.iconst 0, 1) := by decide +kernel
theorem dX12_minds_56 : decode cX12_minds 56 = .ok (.sipush 327, 3) := by decide +kernel
theorem dX12_minds_59 : decode cX12_minds 59 = .ok (.bipush 109, 2) := by decide +kernel
theorem dX12_minds_61 : decode cX12_minds 61 = .ok (.aload_n 0, 1) := by decide +kernel
theorem dX12_minds_62 : decode cX12_minds 62 = .ok (.getfield 48, 3) := by decide +kernel
theorem dX12_minds_65 : decode cX12_minds 65 = .ok (.imul, 1) := by decide +kernel
theorem dX12_minds_66 : decode cX12_minds 66 = .ok (.iadd, 1) := by decide +kernel
theorem dX12_minds_67 : decode cX12_minds 67 = .ok (.invokevirtual 51, 3) := by decide +kernel
theorem dX12_minds_70 : decode cX12_minds 70 = .ok (.aload_n 0, 1) := by decide +kernel
theorem dX12_minds_71 : decode cX12_minds 71 = .ok (.dup, 1) := by decide +kernel
theorem dX12_minds_72 : decode cX12_minds 72 = .ok (.getfield 48, 3) := by decide +kernel
theorem dX12_minds_75 : decode cX12_minds 75 = .ok (.iconst 1, 1) := by decide +kernel
theorem dX12_minds_76 : decode cX12_minds 76 = .ok (.iadd, 1) := by decide +kernel
theorem dX12_minds_77 : decode cX12_minds 77 = .ok (.putfield 48, 3) := by decide +kernel
theorem dX12_minds_80 : decode cX12_minds 80 = .ok (.return_, 1) := by decide +kernel
theorem dX12_isWord_0 : decode cX12_isWord 0 = .ok (.iload_n 1, 1) := by decide +kernel
theorem dX12_isWord_1 : decode cX12_isWord 1 = .ok (.i2l, 1) := by decide +kernel
theorem dX12_isWord_2 : decode cX12_isWord 2 = .ok (.lconst 0, 1) := by decide +kernel
theorem dX12_isWord_3 : decode cX12_isWord 3 = .ok (.aload_n 0, 1) := by decide +kernel
theorem dX12_isWord_4 : decode cX12_isWord 4 = .ok (.getfield 7, 3) := by decide +kernel
theorem dX12_isWord_7 : decode cX12_isWord 7 = .ok (.iconst 0, 1) := by decide +kernel
theorem dX12_isWord_8 : decode cX12_isWord 8 = .ok (.iaload, 1) := by decide +kernel
theorem dX12_isWord_9 : decode cX12_isWord 9 = .ok (.iconst 1, 1) := by decide +kernel
theorem dX12_isWord_10 : decode cX12_isWord 10 = .ok (.isub, 1) := by decide +kernel
theorem dX12_isWord_11 : decode cX12_isWord 11 = .ok (.i2l, 1) := by decide +kernel
theorem dX12_isWord_12 : decode cX12_isWord 12 = .ok (.invokestatic 55, 3) := by decide +kernel
theorem dX12_isWord_15 : decode cX12_isWord 15 = .ok (.ireturn, 1) := by decide +kernel
theorem dX12_size_0 : decode cX12_size 0 = .ok (.aload_n 0, 1) := by decide +kernel
theorem dX12_size_1 : decode cX12_size 1 = .ok (.getfield 7, 3) := by decide +kernel
theorem dX12_size_4 : decode cX12_size 4 = .ok (.iconst 1, 1) := by decide +kernel
theorem dX12_size_5 : decode cX12_size 5 = .ok (.bipush 18, 2) := by decide +kernel
theorem dX12_size_7 : decode cX12_size 7 = .ok (.iload_n 1, 1) := by decide +kernel
theorem dX12_size_8 : decode cX12_size 8 = .ok (.imul, 1) := by decide +kernel
theorem dX12_size_9 : decode cX12_size 9 = .ok (.iadd, 1) := by decide +kernel
theorem dX12_size_10 : decode cX12_size 10 = .ok (.iaload, 1) := by decide +kernel
theorem dX12_size_11 : decode cX12_size 11 = .ok (.ireturn, 1) := by decide +kernel
theorem dX12_signsOf_0 : decode cX12_signsOf 0 = .ok (.aload_n 0, 1) := by decide +kernel
theorem dX12_signsOf_1 : decode cX12_signsOf 1 = .ok (.getfield 7, 3) := by decide +kernel
theorem dX12_signsOf_4 : decode cX12_signsOf 4 = .ok (.iconst 1, 1) := by decide +kernel
theorem dX12_signsOf_5 : decode cX12_signsOf 5 = .ok (.bipush 18, 2) := by decide +kernel
theorem dX12_signsOf_7 : decode cX12_signsOf 7 = .ok (.iload_n 1, 1) := by decide +kernel
theorem dX12_signsOf_8 : decode cX12_signsOf 8 = .ok (.imul, 1) := by decide +kernel
theorem dX12_signsOf_9 : decode cX12_signsOf 9 = .ok (.iadd, 1) := by decide +kernel
theorem dX12_signsOf_10 : decode cX12_signsOf 10 = .ok (.iconst 1, 1) := by decide +kernel
theorem dX12_signsOf_11 : decode cX12_signsOf 11 = .ok (.iadd, 1) := by decide +kernel
theorem dX12_signsOf_12 : decode cX12_signsOf 12 = .ok (.iaload, 1) := by decide +kernel
theorem dX12_signsOf_13 : decode cX12_signsOf 13 = .ok (.ireturn, 1) := by decide +kernel
theorem dX12_letterAt_0 : decode cX12_letterAt 0 = .ok (.aload_n 0, 1) := by decide +kernel
theorem dX12_letterAt_1 : decode cX12_letterAt 1 = .ok (.getfield 7, 3) := by decide +kernel
theorem dX12_letterAt_4 : decode cX12_letterAt 4 = .ok (.iconst 1, 1) := by decide +kernel
theorem dX12_letterAt_5 : decode cX12_letterAt 5 = .ok (.bipush 18, 2) := by decide +kernel
theorem dX12_letterAt_7 : decode cX12_letterAt 7 = .ok (.iload_n 1, 1) := by decide +kernel
theorem dX12_letterAt_8 : decode cX12_letterAt 8 = .ok (.imul, 1) := by decide +kernel
theorem dX12_letterAt_9 : decode cX12_letterAt 9 = .ok (.iadd, 1) := by decide +kernel
theorem dX12_letterAt_10 : decode cX12_letterAt 10 = .ok (.iconst 2, 1) := by decide +kernel
theorem dX12_letterAt_11 : decode cX12_letterAt 11 = .ok (.iadd, 1) := by decide +kernel
theorem dX12_letterAt_12 : decode cX12_letterAt 12 = .ok (.iload_n 2, 1) := by decide +kernel
theorem dX12_letterAt_13 : decode cX12_letterAt 13 = .ok (.iadd, 1) := by decide +kernel
theorem dX12_letterAt_14 : decode cX12_letterAt 14 = .ok (.iaload, 1) := by decide +kernel
theorem dX12_letterAt_15 : decode cX12_letterAt 15 = .ok (.ireturn, 1) := by decide +kernel
theorem dX12_isLetter_0 : decode cX12_isLetter 0 = .ok (.iload_n 2, 1) := by decide +kernel
theorem dX12_isLetter_1 : decode cX12_isLetter 1 = .ok (.i2l, 1) := by decide +kernel
theorem dX12_isLetter_2 : decode cX12_isLetter 2 = .ok (.lconst 0, 1) := by decide +kernel
theorem dX12_isLetter_3 : decode cX12_isLetter 3 = .ok (.aload_n 0, 1) := by decide +kernel
theorem dX12_isLetter_4 : decode cX12_isLetter 4 = .ok (.iload_n 1, 1) := by decide +kernel
theorem dX12_isLetter_5 : decode cX12_isLetter 5 = .ok (.invokevirtual 59, 3) := by decide +kernel
theorem dX12_isLetter_8 : decode cX12_isLetter 8 = .ok (.iconst 1, 1) := by decide +kernel
theorem dX12_isLetter_9 : decode cX12_isLetter 9 = .ok (.isub, 1) := by decide +kernel
theorem dX12_isLetter_10 : decode cX12_isLetter 10 = .ok (.i2l, 1) := by decide +kernel
theorem dX12_isLetter_11 : decode cX12_isLetter 11 = .ok (.invokestatic 55, 3) := by decide +kernel
theorem dX12_isLetter_14 : decode cX12_isLetter 14 = .ok (.ireturn, 1) := by decide +kernel
theorem dX12_isStep_0 : decode cX12_isStep 0 = .ok (.iload_n 2, 1) := by decide +kernel
theorem dX12_isStep_1 : decode cX12_isStep 1 = .ok (.i2l, 1) := by decide +kernel
theorem dX12_isStep_2 : decode cX12_isStep 2 = .ok (.lconst 0, 1) := by decide +kernel
theorem dX12_isStep_3 : decode cX12_isStep 3 = .ok (.aload_n 0, 1) := by decide +kernel
theorem dX12_isStep_4 : decode cX12_isStep 4 = .ok (.iload_n 1, 1) := by decide +kernel
theorem dX12_isStep_5 : decode cX12_isStep 5 = .ok (.invokevirtual 59, 3) := by decide +kernel
theorem dX12_isStep_8 : decode cX12_isStep 8 = .ok (.ifCond .ne 7, 3) := by decide +kernel
theorem dX12_isStep_11 : decode cX12_isStep 11 = .ok (.lconst 0, 1) := by decide +kernel
theorem dX12_isStep_12 : decode cX12_isStep 12 = .ok (.goto 13, 3) := by decide +kernel
theorem dX12_isStep_15 : decode cX12_isStep 15 = .ok (.iconst 2, 1) := by decide +kernel
theorem dX12_isStep_16 : decode cX12_isStep 16 = .ok (.aload_n 0, 1) := by decide +kernel
theorem dX12_isStep_17 : decode cX12_isStep 17 = .ok (.iload_n 1, 1) := by decide +kernel
theorem dX12_isStep_18 : decode cX12_isStep 18 = .ok (.invokevirtual 59, 3) := by decide +kernel
theorem dX12_isStep_21 : decode cX12_isStep 21 = .ok (.imul, 1) := by decide +kernel
theorem dX12_isStep_22 : decode cX12_isStep 22 = .ok (.iconst 1, 1) := by decide +kernel
theorem dX12_isStep_23 : decode cX12_isStep 23 = .ok (.isub, 1) := by decide +kernel
theorem dX12_isStep_24 : decode cX12_isStep 24 = .ok (.i2l, 1) := by decide +kernel
theorem dX12_isStep_25 : decode cX12_isStep 25 = .ok (.invokestatic 55, 3) := by decide +kernel
theorem dX12_isStep_28 : decode cX12_isStep 28 = .ok (.ireturn, 1) := by decide +kernel
theorem dX12_place_0 : decode cX12_place 0 = .ok (.iconst (-1), 1) := by decide +kernel
theorem dX12_place_1 : decode cX12_place 1 = .ok (.istore 4, 2) := by decide +kernel
theorem dX12_place_3 : decode cX12_place 3 = .ok (.iconst 0, 1) := by decide +kernel
theorem dX12_place_4 : decode cX12_place 4 = .ok (.istore 5, 2) := by decide +kernel
theorem dX12_place_6 : decode cX12_place 6 = .ok (.iload 5, 2) := by decide +kernel
theorem dX12_place_8 : decode cX12_place 8 = .ok (.iconst 2, 1) := by decide +kernel
theorem dX12_place_9 : decode cX12_place 9 = .ok (.aload_n 0, 1) := by decide +kernel
theorem dX12_place_10 : decode cX12_place 10 = .ok (.iload_n 1, 1) := by decide +kernel
theorem dX12_place_11 : decode cX12_place 11 = .ok (.invokevirtual 59, 3) := by decide +kernel
theorem dX12_place_14 : decode cX12_place 14 = .ok (.imul, 1) := by decide +kernel
theorem dX12_place_15 : decode cX12_place 15 = .ok (.if_icmp .ge 52, 3) := by decide +kernel
theorem dX12_place_18 : decode cX12_place 18 = .ok (.aload_n 0, 1) := by decide +kernel
theorem dX12_place_19 : decode cX12_place 19 = .ok (.iload_n 1, 1) := by decide +kernel
theorem dX12_place_20 : decode cX12_place 20 = .ok (.iload 5, 2) := by decide +kernel
theorem dX12_place_22 : decode cX12_place 22 = .ok (.invokevirtual 63, 3) := by decide +kernel
theorem dX12_place_25 : decode cX12_place 25 = .ok (.iload_n 2, 1) := by decide +kernel
theorem dX12_place_26 : decode cX12_place 26 = .ok (.if_icmp .ne 18, 3) := by decide +kernel
theorem dX12_place_29 : decode cX12_place 29 = .ok (.iload_n 3, 1) := by decide +kernel
theorem dX12_place_30 : decode cX12_place 30 = .ok (.iconst 1, 1) := by decide +kernel
theorem dX12_place_31 : decode cX12_place 31 = .ok (.if_icmp .eq 9, 3) := by decide +kernel
theorem dX12_place_34 : decode cX12_place 34 = .ok (.iload 4, 2) := by decide +kernel
end
section
theorem dX12_place_36 : decode cX12_place 36 = .ok (.iconst (-1), 1) := by decide +kernel
theorem dX12_place_37 : decode cX12_place 37 = .ok (.if_icmp .ne 7, 3) := by decide +kernel
theorem dX12_place_40 : decode cX12_place 40 = .ok (.iconst 1, 1) := by decide +kernel
theorem dX12_place_41 : decode cX12_place 41 = .ok (.goto 4, 3) := by decide +kernel
theorem dX12_place_44 : decode cX12_place 44 = .ok (.iconst 0, 1) := by decide +kernel
theorem dX12_place_45 : decode cX12_place 45 = .ok (.istore 6, 2) := by decide +kernel
theorem dX12_place_47 : decode cX12_place 47 = .ok (.iload 6, 2) := by decide +kernel
theorem dX12_place_49 : decode cX12_place 49 = .ok (.ifCond .eq 8, 3) := by decide +kernel
theorem dX12_place_52 : decode cX12_place 52 = .ok (.iload 5, 2) := by decide +kernel
theorem dX12_place_54 : decode cX12_place 54 = .ok (.goto 5, 3) := by decide +kernel
theorem dX12_place_57 : decode cX12_place 57 = .ok (.iload 4, 2) := by decide +kernel
theorem dX12_place_59 : decode cX12_place 59 = .ok (.istore 4, 2) := by decide +kernel
theorem dX12_place_61 : decode cX12_place 61 = .ok (.iinc 5 1, 3) := by decide +kernel
theorem dX12_place_64 : decode cX12_place 64 = .ok (.goto (-58), 3) := by decide +kernel
theorem dX12_place_67 : decode cX12_place 67 = .ok (.iload 4, 2) := by decide +kernel
theorem dX12_place_69 : decode cX12_place 69 = .ok (.ireturn, 1) := by decide +kernel
theorem dX12_comes_0 : decode cX12_comes 0 = .ok (.aload_n 0, 1) := by decide +kernel
theorem dX12_comes_1 : decode cX12_comes 1 = .ok (.getfield 33, 3) := by decide +kernel
theorem dX12_comes_4 : decode cX12_comes 4 = .ok (.aload_n 0, 1) := by decide +kernel
theorem dX12_comes_5 : decode cX12_comes 5 = .ok (.getfield 67, 3) := by decide +kernel
theorem dX12_comes_8 : decode cX12_comes 8 = .ok (.iload_n 1, 1) := by decide +kernel
theorem dX12_comes_9 : decode cX12_comes 9 = .ok (.iastore, 1) := by decide +kernel
theorem dX12_comes_10 : decode cX12_comes 10 = .ok (.aload_n 0, 1) := by decide +kernel
theorem dX12_comes_11 : decode cX12_comes 11 = .ok (.dup, 1) := by decide +kernel
theorem dX12_comes_12 : decode cX12_comes 12 = .ok (.getfield 67, 3) := by decide +kernel
theorem dX12_comes_15 : decode cX12_comes 15 = .ok (.iconst 1, 1) := by decide +kernel
theorem dX12_comes_16 : decode cX12_comes 16 = .ok (.iadd, 1) := by decide +kernel
theorem dX12_comes_17 : decode cX12_comes 17 = .ok (.putfield 67, 3) := by decide +kernel
theorem dX12_comes_20 : decode cX12_comes 20 = .ok (.return_, 1) := by decide +kernel
theorem dX12_numberOf_0 : decode cX12_numberOf 0 = .ok (.iconst 0, 1) := by decide +kernel
theorem dX12_numberOf_1 : decode cX12_numberOf 1 = .ok (.istore_n 2, 1) := by decide +kernel
theorem dX12_numberOf_2 : decode cX12_numberOf 2 = .ok (.iconst 0, 1) := by decide +kernel
theorem dX12_numberOf_3 : decode cX12_numberOf 3 = .ok (.istore_n 3, 1) := by decide +kernel
theorem dX12_numberOf_4 : decode cX12_numberOf 4 = .ok (.aload_n 0, 1) := by decide +kernel
theorem dX12_numberOf_5 : decode cX12_numberOf 5 = .ok (.getfield 33, 3) := by decide +kernel
theorem dX12_numberOf_8 : decode cX12_numberOf 8 = .ok (.iload_n 3, 1) := by decide +kernel
theorem dX12_numberOf_9 : decode cX12_numberOf 9 = .ok (.iaload, 1) := by decide +kernel
theorem dX12_numberOf_10 : decode cX12_numberOf 10 = .ok (.aload_n 0, 1) := by decide +kernel
theorem dX12_numberOf_11 : decode cX12_numberOf 11 = .ok (.getfield 33, 3) := by decide +kernel
theorem dX12_numberOf_14 : decode cX12_numberOf 14 = .ok (.iload_n 1, 1) := by decide +kernel
theorem dX12_numberOf_15 : decode cX12_numberOf 15 = .ok (.iaload, 1) := by decide +kernel
theorem dX12_numberOf_16 : decode cX12_numberOf 16 = .ok (.if_icmp .eq 68, 3) := by decide +kernel
theorem dX12_numberOf_19 : decode cX12_numberOf 19 = .ok (.iconst 1, 1) := by decide +kernel
theorem dX12_numberOf_20 : decode cX12_numberOf 20 = .ok (.istore 4, 2) := by decide +kernel
theorem dX12_numberOf_22 : decode cX12_numberOf 22 = .ok (.iconst 0, 1) := by decide +kernel
theorem dX12_numberOf_23 : decode cX12_numberOf 23 = .ok (.istore 5, 2) := by decide +kernel
theorem dX12_numberOf_25 : decode cX12_numberOf 25 = .ok (.iload 5, 2) := by decide +kernel
theorem dX12_numberOf_27 : decode cX12_numberOf 27 = .ok (.iload_n 3, 1) := by decide +kernel
theorem dX12_numberOf_28 : decode cX12_numberOf 28 = .ok (.if_icmp .ge 37, 3) := by decide +kernel
theorem dX12_numberOf_31 : decode cX12_numberOf 31 = .ok (.iload 4, 2) := by decide +kernel
theorem dX12_numberOf_33 : decode cX12_numberOf 33 = .ok (.ifCond .eq 23, 3) := by decide +kernel
theorem dX12_numberOf_36 : decode cX12_numberOf 36 = .ok (.aload_n 0, 1) := by decide +kernel
theorem dX12_numberOf_37 : decode cX12_numberOf 37 = .ok (.getfield 33, 3) := by decide +kernel
theorem dX12_numberOf_40 : decode cX12_numberOf 40 = .ok (.iload 5, 2) := by decide +kernel
theorem dX12_numberOf_42 : decode cX12_numberOf 42 = .ok (.iaload, 1) := by decide +kernel
theorem dX12_numberOf_43 : decode cX12_numberOf 43 = .ok (.aload_n 0, 1) := by decide +kernel
theorem dX12_numberOf_44 : decode cX12_numberOf 44 = .ok (.getfield 33, 3) := by decide +kernel
theorem dX12_numberOf_47 : decode cX12_numberOf 47 = .ok (.iload_n 3, 1) := by decide +kernel
theorem dX12_numberOf_48 : decode cX12_numberOf 48 = .ok (.iaload, 1) := by decide +kernel
theorem dX12_numberOf_49 : decode cX12_numberOf 49 = .ok (.if_icmp .eq 7, 3) := by decide +kernel
theorem dX12_numberOf_52 : decode cX12_numberOf 52 = .ok (.iconst 1, 1) := by decide +kernel
theorem dX12_numberOf_53 : decode cX12_numberOf 53 = .ok (.goto 4, 3) := by decide +kernel
theorem dX12_numberOf_56 : decode cX12_numberOf 56 = .ok (.iconst 0, 1) := by decide +kernel
theorem dX12_numberOf_57 : decode cX12_numberOf 57 = .ok (.istore 4, 2) := by decide +kernel
theorem dX12_numberOf_59 : decode cX12_numberOf 59 = .ok (.iinc 5 1, 3) := by decide +kernel
theorem dX12_numberOf_62 : decode cX12_numberOf 62 = .ok (.goto (-37), 3) := by decide +kernel
theorem dX12_numberOf_65 : decode cX12_numberOf 65 = .ok (.iload_n 2, 1) := by decide +kernel
theorem dX12_numberOf_66 : decode cX12_numberOf 66 = .ok (.iload 4, 2) := by decide +kernel
theorem dX12_numberOf_68 : decode cX12_numberOf 68 = .ok (.ifCond .eq 7, 3) := by decide +kernel
theorem dX12_numberOf_71 : decode cX12_numberOf 71 = .ok (.iconst 1, 1) := by decide +kernel
theorem dX12_numberOf_72 : decode cX12_numberOf 72 = .ok (.goto 4, 3) := by decide +kernel
theorem dX12_numberOf_75 : decode cX12_numberOf 75 = .ok (.iconst 0, 1) := by decide +kernel
theorem dX12_numberOf_76 : decode cX12_numberOf 76 = .ok (.iadd, 1) := by decide +kernel
theorem dX12_numberOf_77 : decode cX12_numberOf 77 = .ok (.istore_n 2, 1) := by decide +kernel
theorem dX12_numberOf_78 : decode cX12_numberOf 78 = .ok (.iinc 3 1, 3) := by decide +kernel
theorem dX12_numberOf_81 : decode cX12_numberOf 81 = .ok (.goto (-77), 3) := by decide +kernel
theorem dX12_numberOf_84 : decode cX12_numberOf 84 = .ok (.iload_n 2, 1) := by decide +kernel
theorem dX12_numberOf_85 : decode cX12_numberOf 85 = .ok (.ireturn, 1) := by decide +kernel
theorem dX12_lays_0 : decode cX12_lays 0 = .ok (.aload_n 0, 1) := by decide +kernel
theorem dX12_lays_1 : decode cX12_lays 1 = .ok (.getfield 7, 3) := by decide +kernel
theorem dX12_lays_4 : decode cX12_lays 4 = .ok (.iconst 1, 1) := by decide +kernel
theorem dX12_lays_5 : decode cX12_lays 5 = .ok (.bipush 18, 2) := by decide +kernel
theorem dX12_lays_7 : decode cX12_lays 7 = .ok (.iload_n 1, 1) := by decide +kernel
theorem dX12_lays_8 : decode cX12_lays 8 = .ok (.imul, 1) := by decide +kernel
theorem dX12_lays_9 : decode cX12_lays 9 = .ok (.iadd, 1) := by decide +kernel
theorem dX12_lays_10 : decode cX12_lays 10 = .ok (.aload_n 0, 1) := by decide +kernel
theorem dX12_lays_11 : decode cX12_lays 11 = .ok (.getfield 67, 3) := by decide +kernel
theorem dX12_lays_14 : decode cX12_lays 14 = .ok (.iconst 2, 1) := by decide +kernel
theorem dX12_lays_15 : decode cX12_lays 15 = .ok (.idiv, 1) := by decide +kernel
theorem dX12_lays_16 : decode cX12_lays 16 = .ok (.iastore, 1) := by decide +kernel
theorem dX12_lays_17 : decode cX12_lays 17 = .ok (.aload_n 0, 1) := by decide +kernel
theorem dX12_lays_18 : decode cX12_lays 18 = .ok (.getfield 7, 3) := by decide +kernel
theorem dX12_lays_21 : decode cX12_lays 21 = .ok (.iconst 1, 1) := by decide +kernel
theorem dX12_lays_22 : decode cX12_lays 22 = .ok (.bipush 18, 2) := by decide +kernel
theorem dX12_lays_24 : decode cX12_lays 24 = .ok (.iload_n 1, 1) := by decide +kernel
theorem dX12_lays_25 : decode cX12_lays 25 = .ok (.imul, 1) := by decide +kernel
theorem dX12_lays_26 : decode cX12_lays 26 = .ok (.iadd, 1) := by decide +kernel
theorem dX12_lays_27 : decode cX12_lays 27 = .ok (.iconst 1, 1) := by decide +kernel
theorem dX12_lays_28 : decode cX12_lays 28 = .ok (.iadd, 1) := by decide +kernel
theorem dX12_lays_29 : decode cX12_lays 29 = .ok (.iconst 0, 1) := by decide +kernel
theorem dX12_lays_30 : decode cX12_lays 30 = .ok (.iastore, 1) := by decide +kernel
theorem dX12_lays_31 : decode cX12_lays 31 = .ok (.iconst 0, 1) := by decide +kernel
theorem dX12_lays_32 : decode cX12_lays 32 = .ok (.istore_n 2, 1) := by decide +kernel
theorem dX12_lays_33 : decode cX12_lays 33 = .ok (.iload_n 2, 1) := by decide +kernel
theorem dX12_lays_34 : decode cX12_lays 34 = .ok (.aload_n 0, 1) := by decide +kernel
theorem dX12_lays_35 : decode cX12_lays 35 = .ok (.getfield 67, 3) := by decide +kernel
theorem dX12_lays_38 : decode cX12_lays 38 = .ok (.if_icmp .ge 29, 3) := by decide +kernel
theorem dX12_lays_41 : decode cX12_lays 41 = .ok (.aload_n 0, 1) := by decide +kernel
theorem dX12_lays_42 : decode cX12_lays 42 = .ok (.getfield 7, 3) := by decide +kernel
theorem dX12_lays_45 : decode cX12_lays 45 = .ok (.iconst 1, 1) := by decide +kernel
theorem dX12_lays_46 : decode cX12_lays 46 = .ok (.bipush 18, 2) := by decide +kernel
theorem dX12_lays_48 : decode cX12_lays 48 = .ok (.iload_n 1, 1) := by decide +kernel
theorem dX12_lays_49 : decode cX12_lays 49 = .ok (.imul, 1) := by decide +kernel
theorem dX12_lays_50 : decode cX12_lays 50 = .ok (.iadd, 1) := by decide +kernel
theorem dX12_lays_51 : decode cX12_lays 51 = .ok (.iconst 2, 1) := by decide +kernel
theorem dX12_lays_52 : decode cX12_lays 52 = .ok (.iadd, 1) := by decide +kernel
theorem dX12_lays_53 : decode cX12_lays 53 = .ok (.iload_n 2, 1) := by decide +kernel
theorem dX12_lays_54 : decode cX12_lays 54 = .ok (.iadd, 1) := by decide +kernel
theorem dX12_lays_55 : decode cX12_lays 55 = .ok (.aload_n 0, 1) := by decide +kernel
theorem dX12_lays_56 : decode cX12_lays 56 = .ok (.iload_n 2, 1) := by decide +kernel
theorem dX12_lays_57 : decode cX12_lays 57 = .ok (.invokevirtual 70, 3) := by decide +kernel
theorem dX12_lays_60 : decode cX12_lays 60 = .ok (.iastore, 1) := by decide +kernel
theorem dX12_lays_61 : decode cX12_lays 61 = .ok (.iinc 2 1, 3) := by decide +kernel
theorem dX12_lays_64 : decode cX12_lays 64 = .ok (.goto (-31), 3) := by decide +kernel
theorem dX12_lays_67 : decode cX12_lays 67 = .ok (.aload_n 0, 1) := by decide +kernel
theorem dX12_lays_68 : decode cX12_lays 68 = .ok (.getfield 67, 3) := by decide +kernel
theorem dX12_lays_71 : decode cX12_lays 71 = .ok (.iconst 2, 1) := by decide +kernel
theorem dX12_lays_72 : decode cX12_lays 72 = .ok (.idiv, 1) := by decide +kernel
theorem dX12_lays_73 : decode cX12_lays 73 = .ok (.ireturn, 1) := by decide +kernel
theorem dX12_laysMore_0 : decode cX12_laysMore 0 = .ok (.aload_n 0, 1) := by decide +kernel
theorem dX12_laysMore_1 : decode cX12_laysMore 1 = .ok (.aload_n 0, 1) := by decide +kernel
theorem dX12_laysMore_2 : decode cX12_laysMore 2 = .ok (.getfield 7, 3) := by decide +kernel
theorem dX12_laysMore_5 : decode cX12_laysMore 5 = .ok (.iconst 0, 1) := by decide +kernel
theorem dX12_laysMore_6 : decode cX12_laysMore 6 = .ok (.iaload, 1) := by decide +kernel
theorem dX12_laysMore_7 : decode cX12_laysMore 7 = .ok (.invokevirtual 73, 3) := by decide +kernel
theorem dX12_laysMore_10 : decode cX12_laysMore 10 = .ok (.pop, 1) := by decide +kernel
theorem dX12_laysMore_11 : decode cX12_laysMore 11 = .ok (.aload_n 0, 1) := by decide +kernel
theorem dX12_laysMore_12 : decode cX12_laysMore 12 = .ok (.getfield 7, 3) := by decide +kernel
theorem dX12_laysMore_15 : decode cX12_laysMore 15 = .ok (.iconst 0, 1) := by decide +kernel
theorem dX12_laysMore_16 : decode cX12_laysMore 16 = .ok (.dup2, 1) := by decide +kernel
theorem dX12_laysMore_17 : decode cX12_laysMore 17 = .ok (.iaload, 1) := by decide +kernel
theorem dX12_laysMore_18 : decode cX12_laysMore 18 = .ok (.iconst 1, 1) := by decide +kernel
theorem dX12_laysMore_19 : decode cX12_laysMore 19 = .ok (.iadd, 1) := by decide +kernel
theorem dX12_laysMore_20 : decode cX12_laysMore 20 = .ok (.iastore, 1) := by decide +kernel
theorem dX12_laysMore_21 : decode cX12_laysMore 21 = .ok (.aload_n 0, 1) := by decide +kernel
theorem dX12_laysMore_22 : decode cX12_laysMore 22 = .ok (.getfield 7, 3) := by decide +kernel
theorem dX12_laysMore_25 : decode cX12_laysMore 25 = .ok (.iconst 0, 1) := by decide +kernel
theorem dX12_laysMore_26 : decode cX12_laysMore 26 = .ok (.iaload, 1) := by decide +kernel
theorem dX12_laysMore_27 : decode cX12_laysMore 27 = .ok (.iconst 1, 1) := by decide +kernel
theorem dX12_laysMore_28 : decode cX12_laysMore 28 = .ok (.isub, 1) := by decide +kernel
theorem dX12_laysMore_29 : decode cX12_laysMore 29 = .ok (.ireturn, 1) := by decide +kernel
theorem dX12_feed_0 : decode cX12_feed 0 = .ok (.iload_n 1, 1) := by decide +kernel
theorem dX12_feed_1 : decode cX12_feed 1 = .ok (.i2l, 1) := by decide +kernel
theorem dX12_feed_2 : decode cX12_feed 2 = .ok (.lconst 0, 1) := by decide +kernel
theorem dX12_feed_3 : decode cX12_feed 3 = .ok (.ldc2_w 76, 3) := by decide +kernel
theorem dX12_feed_6 : decode cX12_feed 6 = .ok (.invokestatic 55, 3) := by decide +kernel
theorem dX12_feed_9 : decode cX12_feed 9 = .ok (.ifCond .ne 6, 3) := by decide +kernel
theorem dX12_feed_12 : decode cX12_feed 12 = .ok (.ldc 78, 2) := by decide +kernel
theorem dX12_feed_14 : decode cX12_feed 14 = .ok (.ireturn, 1) := by decide +kernel
theorem dX12_feed_15 : decode cX12_feed 15 = .ok (.aload_n 0, 1) := by decide +kernel
theorem dX12_feed_16 : decode cX12_feed 16 = .ok (.getfield 79, 3) := by decide +kernel
theorem dX12_feed_19 : decode cX12_feed 19 = .ok (.bipush 20, 2) := by decide +kernel
theorem dX12_feed_21 : decode cX12_feed 21 = .ok (.if_icmp .ne 6, 3) := by decide +kernel
theorem dX12_feed_24 : decode cX12_feed 24 = .ok (.ldc 82, 2) := by decide +kernel
theorem dX12_feed_26 : decode cX12_feed 26 = .ok (.ireturn, 1) := by decide +kernel
theorem dX12_feed_27 : decode cX12_feed 27 = .ok (.aload_n 0, 1) := by decide +kernel
theorem dX12_feed_28 : decode cX12_feed 28 = .ok (.getfield 20, 3) := by decide +kernel
theorem dX12_feed_31 : decode cX12_feed 31 = .ok (.aload_n 0, 1) := by decide +kernel
theorem dX12_feed_32 : decode cX12_feed 32 = .ok (.getfield 79, 3) := by decide +kernel
theorem dX12_feed_35 : decode cX12_feed 35 = .ok (.iload_n 1, 1) := by decide +kernel
theorem dX12_feed_36 : decode cX12_feed 36 = .ok (.iastore, 1) := by decide +kernel
theorem dX12_feed_37 : decode cX12_feed 37 = .ok (.aload_n 0, 1) := by decide +kernel
theorem dX12_feed_38 : decode cX12_feed 38 = .ok (.dup, 1) := by decide +kernel
theorem dX12_feed_39 : decode cX12_feed 39 = .ok (.getfield 79, 3) := by decide +kernel
theorem dX12_feed_42 : decode cX12_feed 42 = .ok (.iconst 1, 1) := by decide +kernel
theorem dX12_feed_43 : decode cX12_feed 43 = .ok (.iadd, 1) := by decide +kernel
theorem dX12_feed_44 : decode cX12_feed 44 = .ok (.putfield 79, 3) := by decide +kernel
theorem dX12_feed_47 : decode cX12_feed 47 = .ok (.aload_n 0, 1) := by decide +kernel
theorem dX12_feed_48 : decode cX12_feed 48 = .ok (.getfield 79, 3) := by decide +kernel
theorem dX12_feed_51 : decode cX12_feed 51 = .ok (.ireturn, 1) := by decide +kernel
theorem dX12_timesAhead_0 : decode cX12_timesAhead 0 = .ok (.iconst 0, 1) := by decide +kernel
theorem dX12_timesAhead_1 : decode cX12_timesAhead 1 = .ok (.istore_n 2, 1) := by decide +kernel
theorem dX12_timesAhead_2 : decode cX12_timesAhead 2 = .ok (.iconst 0, 1) := by decide +kernel
theorem dX12_timesAhead_3 : decode cX12_timesAhead 3 = .ok (.istore_n 3, 1) := by decide +kernel
theorem dX12_timesAhead_4 : decode cX12_timesAhead 4 = .ok (.iload_n 3, 1) := by decide +kernel
theorem dX12_timesAhead_5 : decode cX12_timesAhead 5 = .ok (.iload_n 1, 1) := by decide +kernel
theorem dX12_timesAhead_6 : decode cX12_timesAhead 6 = .ok (.if_icmp .ge 32, 3) := by decide +kernel
theorem dX12_timesAhead_9 : decode cX12_timesAhead 9 = .ok (.iload_n 2, 1) := by decide +kernel
theorem dX12_timesAhead_10 : decode cX12_timesAhead 10 = .ok (.aload_n 0, 1) := by decide +kernel
theorem dX12_timesAhead_11 : decode cX12_timesAhead 11 = .ok (.getfield 20, 3) := by decide +kernel
theorem dX12_timesAhead_14 : decode cX12_timesAhead 14 = .ok (.iload_n 3, 1) := by decide +kernel
theorem dX12_timesAhead_15 : decode cX12_timesAhead 15 = .ok (.iaload, 1) := by decide +kernel
theorem dX12_timesAhead_16 : decode cX12_timesAhead 16 = .ok (.aload_n 0, 1) := by decide +kernel
theorem dX12_timesAhead_17 : decode cX12_timesAhead 17 = .ok (.getfield 20, 3) := by decide +kernel
theorem dX12_timesAhead_20 : decode cX12_timesAhead 20 = .ok (.iload_n 1, 1) := by decide +kernel
theorem dX12_timesAhead_21 : decode cX12_timesAhead 21 = .ok (.iaload, 1) := by decide +kernel
theorem dX12_timesAhead_22 : decode cX12_timesAhead 22 = .ok (.if_icmp .ne 7, 3) := by decide +kernel
theorem dX12_timesAhead_25 : decode cX12_timesAhead 25 = .ok (.iconst 1, 1) := by decide +kernel
theorem dX12_timesAhead_26 : decode cX12_timesAhead 26 = .ok (.goto 4, 3) := by decide +kernel
theorem dX12_timesAhead_29 : decode cX12_timesAhead 29 = .ok (.iconst 0, 1) := by decide +kernel
theorem dX12_timesAhead_30 : decode cX12_timesAhead 30 = .ok (.iadd, 1) := by decide +kernel
theorem dX12_timesAhead_31 : decode cX12_timesAhead 31 = .ok (.istore_n 2, 1) := by decide +kernel
theorem dX12_timesAhead_32 : decode cX12_timesAhead 32 = .ok (.iinc 3 1, 3) := by decide +kernel
theorem dX12_timesAhead_35 : decode cX12_timesAhead 35 = .ok (.goto (-31), 3) := by decide +kernel
theorem dX12_timesAhead_38 : decode cX12_timesAhead 38 = .ok (.iload_n 2, 1) := by decide +kernel
theorem dX12_timesAhead_39 : decode cX12_timesAhead 39 = .ok (.ireturn, 1) := by decide +kernel
theorem dX12_faultAt_0 : decode cX12_faultAt 0 = .ok (.aload_n 0, 1) := by decide +kernel
theorem dX12_faultAt_1 : decode cX12_faultAt 1 = .ok (.getfield 20, 3) := by decide +kernel
theorem dX12_faultAt_4 : decode cX12_faultAt 4 = .ok (.iload_n 1, 1) := by decide +kernel
theorem dX12_faultAt_5 : decode cX12_faultAt 5 = .ok (.iaload, 1) := by decide +kernel
theorem dX12_faultAt_6 : decode cX12_faultAt 6 = .ok (.i2l, 1) := by decide +kernel
theorem dX12_faultAt_7 : decode cX12_faultAt 7 = .ok (.ldc2_w 83, 3) := by decide +kernel
theorem dX12_faultAt_10 : decode cX12_faultAt 10 = .ok (.ldc2_w 85, 3) := by decide +kernel
theorem dX12_faultAt_13 : decode cX12_faultAt 13 = .ok (.invokestatic 55, 3) := by decide +kernel
theorem dX12_faultAt_16 : decode cX12_faultAt 16 = .ok (.ifCond .ne 5, 3) := by decide +kernel
theorem dX12_faultAt_19 : decode cX12_faultAt 19 = .ok (.iconst 1, 1) := by decide +kernel
theorem dX12_faultAt_20 : decode cX12_faultAt 20 = .ok (.ireturn, 1) := by decide +kernel
theorem dX12_faultAt_21 : decode cX12_faultAt 21 = .ok (.aload_n 0, 1) := by decide +kernel
theorem dX12_faultAt_22 : decode cX12_faultAt 22 = .ok (.iload_n 1, 1) := by decide +kernel
theorem dX12_faultAt_23 : decode cX12_faultAt 23 = .ok (.invokevirtual 87, 3) := by decide +kernel
theorem dX12_faultAt_26 : decode cX12_faultAt 26 = .ok (.iconst 1, 1) := by decide +kernel
theorem dX12_faultAt_27 : decode cX12_faultAt 27 = .ok (.if_icmp .le 5, 3) := by decide +kernel
theorem dX12_faultAt_30 : decode cX12_faultAt 30 = .ok (.iconst 2, 1) := by decide +kernel
theorem dX12_faultAt_31 : decode cX12_faultAt 31 = .ok (.ireturn, 1) := by decide +kernel
theorem dX12_faultAt_32 : decode cX12_faultAt 32 = .ok (.iconst 0, 1) := by decide +kernel
theorem dX12_faultAt_33 : decode cX12_faultAt 33 = .ok (.istore_n 2, 1) := by decide +kernel
theorem dX12_faultAt_34 : decode cX12_faultAt 34 = .ok (.iconst 0, 1) := by decide +kernel
theorem dX12_faultAt_35 : decode cX12_faultAt 35 = .ok (.istore_n 3, 1) := by decide +kernel
theorem dX12_faultAt_36 : decode cX12_faultAt 36 = .ok (.iload_n 3, 1) := by decide +kernel
theorem dX12_faultAt_37 : decode cX12_faultAt 37 = .ok (.iload_n 1, 1) := by decide +kernel
theorem dX12_faultAt_38 : decode cX12_faultAt 38 = .ok (.if_icmp .ge 25, 3) := by decide +kernel
theorem dX12_faultAt_41 : decode cX12_faultAt 41 = .ok (.iload_n 2, 1) := by decide +kernel
theorem dX12_faultAt_42 : decode cX12_faultAt 42 = .ok (.aload_n 0, 1) := by decide +kernel
theorem dX12_faultAt_43 : decode cX12_faultAt 43 = .ok (.iload_n 3, 1) := by decide +kernel
theorem dX12_faultAt_44 : decode cX12_faultAt 44 = .ok (.invokevirtual 87, 3) := by decide +kernel
theorem dX12_faultAt_47 : decode cX12_faultAt 47 = .ok (.ifCond .ne 7, 3) := by decide +kernel
theorem dX12_faultAt_50 : decode cX12_faultAt 50 = .ok (.iconst 1, 1) := by decide +kernel
theorem dX12_faultAt_51 : decode cX12_faultAt 51 = .ok (.goto 4, 3) := by decide +kernel
theorem dX12_faultAt_54 : decode cX12_faultAt 54 = .ok (.iconst 0, 1) := by decide +kernel
theorem dX12_faultAt_55 : decode cX12_faultAt 55 = .ok (.iadd, 1) := by decide +kernel
theorem dX12_faultAt_56 : decode cX12_faultAt 56 = .ok (.istore_n 2, 1) := by decide +kernel
theorem dX12_faultAt_57 : decode cX12_faultAt 57 = .ok (.iinc 3 1, 3) := by decide +kernel
theorem dX12_faultAt_60 : decode cX12_faultAt 60 = .ok (.goto (-24), 3) := by decide +kernel
theorem dX12_faultAt_63 : decode cX12_faultAt 63 = .ok (.aload_n 0, 1) := by decide +kernel
theorem dX12_faultAt_64 : decode cX12_faultAt 64 = .ok (.iload_n 1, 1) := by decide +kernel
theorem dX12_faultAt_65 : decode cX12_faultAt 65 = .ok (.invokevirtual 87, 3) := by decide +kernel
theorem dX12_faultAt_68 : decode cX12_faultAt 68 = .ok (.ifCond .ne 13, 3) := by decide +kernel
theorem dX12_faultAt_71 : decode cX12_faultAt 71 = .ok (.iload_n 2, 1) := by decide +kernel
theorem dX12_faultAt_72 : decode cX12_faultAt 72 = .ok (.bipush 8, 2) := by decide +kernel
theorem dX12_faultAt_74 : decode cX12_faultAt 74 = .ok (.if_icmp .ne 7, 3) := by decide +kernel
theorem dX12_faultAt_77 : decode cX12_faultAt 77 = .ok (.iconst 3, 1) := by decide +kernel
theorem dX12_faultAt_78 : decode cX12_faultAt 78 = .ok (.goto 4, 3) := by decide +kernel
theorem dX12_faultAt_81 : decode cX12_faultAt 81 = .ok (.iconst 0, 1) := by decide +kernel
theorem dX12_faultAt_82 : decode cX12_faultAt 82 = .ok (.ireturn, 1) := by decide +kernel
theorem dX12_tell_0 : decode cX12_tell 0 = .ok (.aload_n 0, 1) := by decide +kernel
theorem dX12_tell_1 : decode cX12_tell 1 = .ok (.getfield 7, 3) := by decide +kernel
theorem dX12_tell_4 : decode cX12_tell 4 = .ok (.iconst 0, 1) := by decide +kernel
theorem dX12_tell_5 : decode cX12_tell 5 = .ok (.iaload, 1) := by decide +kernel
theorem dX12_tell_6 : decode cX12_tell 6 = .ok (.bipush 6, 2) := by decide +kernel
theorem dX12_tell_8 : decode cX12_tell 8 = .ok (.if_icmp .ne 6, 3) := by decide +kernel
theorem dX12_tell_11 : decode cX12_tell 11 = .ok (.ldc 82, 2) := by decide +kernel
theorem dX12_tell_13 : decode cX12_tell 13 = .ok (.ireturn, 1) := by decide +kernel
theorem dX12_tell_14 : decode cX12_tell 14 = .ok (.aload_n 0, 1) := by decide +kernel
theorem dX12_tell_15 : decode cX12_tell 15 = .ok (.getfield 79, 3) := by decide +kernel
theorem dX12_tell_18 : decode cX12_tell 18 = .ok (.istore_n 1, 1) := by decide +kernel
theorem dX12_tell_19 : decode cX12_tell 19 = .ok (.aload_n 0, 1) := by decide +kernel
theorem dX12_tell_20 : decode cX12_tell 20 = .ok (.iconst 0, 1) := by decide +kernel
theorem dX12_tell_21 : decode cX12_tell 21 = .ok (.putfield 79, 3) := by decide +kernel
theorem dX12_tell_24 : decode cX12_tell 24 = .ok (.aload_n 0, 1) := by decide +kernel
theorem dX12_tell_25 : decode cX12_tell 25 = .ok (.iconst (-1), 1) := by decide +kernel
theorem dX12_tell_26 : decode cX12_tell 26 = .ok (.putfield 23, 3) := by decide +kernel
theorem dX12_tell_29 : decode cX12_tell 29 = .ok (.iconst 0, 1) := by decide +kernel
theorem dX12_tell_30 : decode cX12_tell 30 = .ok (.istore_n 2, 1) := by decide +kernel
theorem dX12_tell_31 : decode cX12_tell 31 = .ok (.iconst 0, 1) := by decide +kernel
theorem dX12_tell_32 : decode cX12_tell 32 = .ok (.istore_n 3, 1) := by decide +kernel
theorem dX12_tell_33 : decode cX12_tell 33 = .ok (.iload_n 3, 1) := by decide +kernel
theorem dX12_tell_34 : decode cX12_tell 34 = .ok (.iload_n 1, 1) := by decide +kernel
theorem dX12_tell_35 : decode cX12_tell 35 = .ok (.if_icmp .ge 48, 3) := by decide +kernel
theorem dX12_tell_38 : decode cX12_tell 38 = .ok (.aload_n 0, 1) := by decide +kernel
theorem dX12_tell_39 : decode cX12_tell 39 = .ok (.iload_n 3, 1) := by decide +kernel
theorem dX12_tell_40 : decode cX12_tell 40 = .ok (.invokevirtual 90, 3) := by decide +kernel
theorem dX12_tell_43 : decode cX12_tell 43 = .ok (.istore 4, 2) := by decide +kernel
theorem dX12_tell_45 : decode cX12_tell 45 = .ok (.iload 4, 2) := by decide +kernel
theorem dX12_tell_47 : decode cX12_tell 47 = .ok (.ifCond .le 14, 3) := by decide +kernel
theorem dX12_tell_50 : decode cX12_tell 50 = .ok (.aload_n 0, 1) := by decide +kernel
theorem dX12_tell_51 : decode cX12_tell 51 = .ok (.iload_n 3, 1) := by decide +kernel
theorem dX12_tell_52 : decode cX12_tell 52 = .ok (.putfield 23, 3) := by decide +kernel
theorem dX12_tell_55 : decode cX12_tell 55 = .ok (.bipush (-10), 2) := by decide +kernel
theorem dX12_tell_57 : decode cX12_tell 57 = .ok (.iload 4, 2) := by decide +kernel
theorem dX12_tell_59 : decode cX12_tell 59 = .ok (.isub, 1) := by decide +kernel
theorem dX12_tell_60 : decode cX12_tell 60 = .ok (.ireturn, 1) := by decide +kernel
theorem dX12_tell_61 : decode cX12_tell 61 = .ok (.iload_n 2, 1) := by decide +kernel
theorem dX12_tell_62 : decode cX12_tell 62 = .ok (.aload_n 0, 1) := by decide +kernel
theorem dX12_tell_63 : decode cX12_tell 63 = .ok (.iload_n 3, 1) := by decide +kernel
theorem dX12_tell_64 : decode cX12_tell 64 = .ok (.invokevirtual 87, 3) := by decide +kernel
theorem dX12_tell_67 : decode cX12_tell 67 = .ok (.ifCond .ne 7, 3) := by decide +kernel
theorem dX12_tell_70 : decode cX12_tell 70 = .ok (.iconst 1, 1) := by decide +kernel
theorem dX12_tell_71 : decode cX12_tell 71 = .ok (.goto 4, 3) := by decide +kernel
theorem dX12_tell_74 : decode cX12_tell 74 = .ok (.iconst (-1), 1) := by decide +kernel
theorem dX12_tell_75 : decode cX12_tell 75 = .ok (.iadd, 1) := by decide +kernel
theorem dX12_tell_76 : decode cX12_tell 76 = .ok (.istore_n 2, 1) := by decide +kernel
theorem dX12_tell_77 : decode cX12_tell 77 = .ok (.iinc 3 1, 3) := by decide +kernel
theorem dX12_tell_80 : decode cX12_tell 80 = .ok (.goto (-47), 3) := by decide +kernel
theorem dX12_tell_83 : decode cX12_tell 83 = .ok (.iload_n 2, 1) := by decide +kernel
theorem dX12_tell_84 : decode cX12_tell 84 = .ok (.ifCond .le 11, 3) := by decide +kernel
theorem dX12_tell_87 : decode cX12_tell 87 = .ok (.aload_n 0, 1) := by decide +kernel
theorem dX12_tell_88 : decode cX12_tell 88 = .ok (.iload_n 1, 1) := by decide +kernel
theorem dX12_tell_89 : decode cX12_tell 89 = .ok (.putfield 23, 3) := by decide +kernel
theorem dX12_tell_92 : decode cX12_tell 92 = .ok (.bipush (-14), 2) := by decide +kernel
theorem dX12_tell_94 : decode cX12_tell 94 = .ok (.ireturn, 1) := by decide +kernel
theorem dX12_tell_95 : decode cX12_tell 95 = .ok (.aload_n 0, 1) := by decide +kernel
theorem dX12_tell_96 : decode cX12_tell 96 = .ok (.invokevirtual 93, 3) := by decide +kernel
theorem dX12_tell_99 : decode cX12_tell 99 = .ok (.aload_n 0, 1) := by decide +kernel
theorem dX12_tell_100 : decode cX12_tell 100 = .ok (.iconst 0, 1) := by decide +kernel
theorem dX12_tell_101 : decode cX12_tell 101 = .ok (.putfield 67, 3) := by decide +kernel
theorem dX12_tell_104 : decode cX12_tell 104 = .ok (.iconst 0, 1) := by decide +kernel
theorem dX12_tell_105 : decode cX12_tell 105 = .ok (.istore_n 3, 1) := by decide +kernel
theorem dX12_tell_106 : decode cX12_tell 106 = .ok (.iload_n 3, 1) := by decide +kernel
theorem dX12_tell_107 : decode cX12_tell 107 = .ok (.iload_n 1, 1) := by decide +kernel
theorem dX12_tell_108 : decode cX12_tell 108 = .ok (.if_icmp .ge 19, 3) := by decide +kernel
theorem dX12_tell_111 : decode cX12_tell 111 = .ok (.aload_n 0, 1) := by decide +kernel
theorem dX12_tell_112 : decode cX12_tell 112 = .ok (.aload_n 0, 1) := by decide +kernel
theorem dX12_tell_113 : decode cX12_tell 113 = .ok (.getfield 20, 3) := by decide +kernel
theorem dX12_tell_116 : decode cX12_tell 116 = .ok (.iload_n 3, 1) := by decide +kernel
theorem dX12_tell_117 : decode cX12_tell 117 = .ok (.iaload, 1) := by decide +kernel
theorem dX12_tell_118 : decode cX12_tell 118 = .ok (.invokevirtual 96, 3) := by decide +kernel
theorem dX12_tell_121 : decode cX12_tell 121 = .ok (.iinc 3 1, 3) := by decide +kernel
theorem dX12_tell_124 : decode cX12_tell 124 = .ok (.goto (-18), 3) := by decide +kernel
theorem dX12_tell_127 : decode cX12_tell 127 = .ok (.aload_n 0, 1) := by decide +kernel
theorem dX12_tell_128 : decode cX12_tell 128 = .ok (.invokevirtual 100, 3) := by decide +kernel
theorem dX12_tell_131 : decode cX12_tell 131 = .ok (.ireturn, 1) := by decide +kernel
theorem dX12_fault_0 : decode cX12_fault 0 = .ok (.aload_n 0, 1) := by decide +kernel
theorem dX12_fault_1 : decode cX12_fault 1 = .ok (.getfield 23, 3) := by decide +kernel
theorem dX12_fault_4 : decode cX12_fault 4 = .ok (.ireturn, 1) := by decide +kernel
theorem dX12_isBetween_0 : decode cX12_isBetween 0 = .ok (.aload_n 0, 1) := by decide +kernel
theorem dX12_isBetween_1 : decode cX12_isBetween 1 = .ok (.iload_n 1, 1) := by decide +kernel
theorem dX12_isBetween_2 : decode cX12_isBetween 2 = .ok (.iload_n 2, 1) := by decide +kernel
theorem dX12_isBetween_3 : decode cX12_isBetween 3 = .ok (.iconst 0, 1) := by decide +kernel
theorem dX12_isBetween_4 : decode cX12_isBetween 4 = .ok (.invokevirtual 104, 3) := by decide +kernel
theorem dX12_isBetween_7 : decode cX12_isBetween 7 = .ok (.istore 4, 2) := by decide +kernel
theorem dX12_isBetween_9 : decode cX12_isBetween 9 = .ok (.aload_n 0, 1) := by decide +kernel
theorem dX12_isBetween_10 : decode cX12_isBetween 10 = .ok (.iload_n 1, 1) := by decide +kernel
theorem dX12_isBetween_11 : decode cX12_isBetween 11 = .ok (.iload_n 2, 1) := by decide +kernel
theorem dX12_isBetween_12 : decode cX12_isBetween 12 = .ok (.iconst 1, 1) := by decide +kernel
theorem dX12_isBetween_13 : decode cX12_isBetween 13 = .ok (.invokevirtual 104, 3) := by decide +kernel
theorem dX12_isBetween_16 : decode cX12_isBetween 16 = .ok (.istore 5, 2) := by decide +kernel
theorem dX12_isBetween_18 : decode cX12_isBetween 18 = .ok (.iload_n 2, 1) := by decide +kernel
theorem dX12_isBetween_19 : decode cX12_isBetween 19 = .ok (.iload_n 3, 1) := by decide +kernel
theorem dX12_isBetween_20 : decode cX12_isBetween 20 = .ok (.if_icmp .eq 44, 3) := by decide +kernel
theorem dX12_isBetween_23 : decode cX12_isBetween 23 = .ok (.aload_n 0, 1) := by decide +kernel
theorem dX12_isBetween_24 : decode cX12_isBetween 24 = .ok (.iload_n 1, 1) := by decide +kernel
theorem dX12_isBetween_25 : decode cX12_isBetween 25 = .ok (.iload_n 3, 1) := by decide +kernel
theorem dX12_isBetween_26 : decode cX12_isBetween 26 = .ok (.iconst 0, 1) := by decide +kernel
theorem dX12_isBetween_27 : decode cX12_isBetween 27 = .ok (.invokevirtual 104, 3) := by decide +kernel
theorem dX12_isBetween_30 : decode cX12_isBetween 30 = .ok (.i2l, 1) := by decide +kernel
theorem dX12_isBetween_31 : decode cX12_isBetween 31 = .ok (.iload 4, 2) := by decide +kernel
theorem dX12_isBetween_33 : decode cX12_isBetween 33 = .ok (.i2l, 1) := by decide +kernel
theorem dX12_isBetween_34 : decode cX12_isBetween 34 = .ok (.iload 5, 2) := by decide +kernel
theorem dX12_isBetween_36 : decode cX12_isBetween 36 = .ok (.i2l, 1) := by decide +kernel
theorem dX12_isBetween_37 : decode cX12_isBetween 37 = .ok (.invokestatic 55, 3) := by decide +kernel
theorem dX12_isBetween_40 : decode cX12_isBetween 40 = .ok (.aload_n 0, 1) := by decide +kernel
theorem dX12_isBetween_41 : decode cX12_isBetween 41 = .ok (.iload_n 1, 1) := by decide +kernel
theorem dX12_isBetween_42 : decode cX12_isBetween 42 = .ok (.iload_n 3, 1) := by decide +kernel
theorem dX12_isBetween_43 : decode cX12_isBetween 43 = .ok (.iconst 1, 1) := by decide +kernel
theorem dX12_isBetween_44 : decode cX12_isBetween 44 = .ok (.invokevirtual 104, 3) := by decide +kernel
theorem dX12_isBetween_47 : decode cX12_isBetween 47 = .ok (.i2l, 1) := by decide +kernel
theorem dX12_isBetween_48 : decode cX12_isBetween 48 = .ok (.iload 4, 2) := by decide +kernel
theorem dX12_isBetween_50 : decode cX12_isBetween 50 = .ok (.i2l, 1) := by decide +kernel
theorem dX12_isBetween_51 : decode cX12_isBetween 51 = .ok (.iload 5, 2) := by decide +kernel
theorem dX12_isBetween_53 : decode cX12_isBetween 53 = .ok (.i2l, 1) := by decide +kernel
theorem dX12_isBetween_54 : decode cX12_isBetween 54 = .ok (.invokestatic 55, 3) := by decide +kernel
theorem dX12_isBetween_57 : decode cX12_isBetween 57 = .ok (.if_icmp .eq 7, 3) := by decide +kernel
theorem dX12_isBetween_60 : decode cX12_isBetween 60 = .ok (.iconst 1, 1) := by decide +kernel
theorem dX12_isBetween_61 : decode cX12_isBetween 61 = .ok (.goto 4, 3) := by decide +kernel
theorem dX12_isBetween_64 : decode cX12_isBetween 64 = .ok (.iconst 0, 1) := by decide +kernel
theorem dX12_isBetween_65 : decode cX12_isBetween 65 = .ok (.ireturn, 1) := by decide +kernel
theorem dX12_betweenSet_0 : decode cX12_betweenSet 0 = .ok (.iconst 0, 1) := by decide +kernel
theorem dX12_betweenSet_1 : decode cX12_betweenSet 1 = .ok (.istore_n 3, 1) := by decide +kernel
theorem dX12_betweenSet_2 : decode cX12_betweenSet 2 = .ok (.iconst 0, 1) := by decide +kernel
theorem dX12_betweenSet_3 : decode cX12_betweenSet 3 = .ok (.istore 4, 2) := by decide +kernel
theorem dX12_betweenSet_5 : decode cX12_betweenSet 5 = .ok (.iload 4, 2) := by decide +kernel
theorem dX12_betweenSet_7 : decode cX12_betweenSet 7 = .ok (.aload_n 0, 1) := by decide +kernel
theorem dX12_betweenSet_8 : decode cX12_betweenSet 8 = .ok (.iload_n 1, 1) := by decide +kernel
theorem dX12_betweenSet_9 : decode cX12_betweenSet 9 = .ok (.invokevirtual 59, 3) := by decide +kernel
theorem dX12_betweenSet_12 : decode cX12_betweenSet 12 = .ok (.if_icmp .ge 31, 3) := by decide +kernel
theorem dX12_betweenSet_15 : decode cX12_betweenSet 15 = .ok (.iload_n 3, 1) := by decide +kernel
theorem dX12_betweenSet_16 : decode cX12_betweenSet 16 = .ok (.aload_n 0, 1) := by decide +kernel
theorem dX12_betweenSet_17 : decode cX12_betweenSet 17 = .ok (.iload_n 1, 1) := by decide +kernel
theorem dX12_betweenSet_18 : decode cX12_betweenSet 18 = .ok (.iload_n 2, 1) := by decide +kernel
theorem dX12_betweenSet_19 : decode cX12_betweenSet 19 = .ok (.iload 4, 2) := by decide +kernel
theorem dX12_betweenSet_21 : decode cX12_betweenSet 21 = .ok (.invokevirtual 108, 3) := by decide +kernel
theorem dX12_betweenSet_24 : decode cX12_betweenSet 24 = .ok (.ifCond .eq 10, 3) := by decide +kernel
theorem dX12_betweenSet_27 : decode cX12_betweenSet 27 = .ok (.iconst 1, 1) := by decide +kernel
theorem dX12_betweenSet_28 : decode cX12_betweenSet 28 = .ok (.iload 4, 2) := by decide +kernel
theorem dX12_betweenSet_30 : decode cX12_betweenSet 30 = .ok (.ishl, 1) := by decide +kernel
theorem dX12_betweenSet_31 : decode cX12_betweenSet 31 = .ok (.goto 4, 3) := by decide +kernel
theorem dX12_betweenSet_34 : decode cX12_betweenSet 34 = .ok (.iconst 0, 1) := by decide +kernel
theorem dX12_betweenSet_35 : decode cX12_betweenSet 35 = .ok (.ior, 1) := by decide +kernel
theorem dX12_betweenSet_36 : decode cX12_betweenSet 36 = .ok (.istore_n 3, 1) := by decide +kernel
theorem dX12_betweenSet_37 : decode cX12_betweenSet 37 = .ok (.iinc 4 1, 3) := by decide +kernel
theorem dX12_betweenSet_40 : decode cX12_betweenSet 40 = .ok (.goto (-35), 3) := by decide +kernel
theorem dX12_betweenSet_43 : decode cX12_betweenSet 43 = .ok (.iload_n 3, 1) := by decide +kernel
theorem dX12_betweenSet_44 : decode cX12_betweenSet 44 = .ok (.ireturn, 1) := by decide +kernel
theorem dX12_joins_0 : decode cX12_joins 0 = .ok (.aload_n 0, 1) := by decide +kernel
theorem dX12_joins_1 : decode cX12_joins 1 = .ok (.getfield 36, 3) := by decide +kernel
theorem dX12_joins_4 : decode cX12_joins 4 = .ok (.iload_n 1, 1) := by decide +kernel
theorem dX12_joins_5 : decode cX12_joins 5 = .ok (.iaload, 1) := by decide +kernel
theorem dX12_joins_6 : decode cX12_joins 6 = .ok (.aload_n 0, 1) := by decide +kernel
theorem dX12_joins_7 : decode cX12_joins 7 = .ok (.getfield 36, 3) := by decide +kernel
theorem dX12_joins_10 : decode cX12_joins 10 = .ok (.iload_n 2, 1) := by decide +kernel
theorem dX12_joins_11 : decode cX12_joins 11 = .ok (.iaload, 1) := by decide +kernel
theorem dX12_joins_12 : decode cX12_joins 12 = .ok (.if_icmp .ge 12, 3) := by decide +kernel
theorem dX12_joins_15 : decode cX12_joins 15 = .ok (.aload_n 0, 1) := by decide +kernel
theorem dX12_joins_16 : decode cX12_joins 16 = .ok (.getfield 36, 3) := by decide +kernel
theorem dX12_joins_19 : decode cX12_joins 19 = .ok (.iload_n 1, 1) := by decide +kernel
theorem dX12_joins_20 : decode cX12_joins 20 = .ok (.iaload, 1) := by decide +kernel
theorem dX12_joins_21 : decode cX12_joins 21 = .ok (.goto 9, 3) := by decide +kernel
theorem dX12_joins_24 : decode cX12_joins 24 = .ok (.aload_n 0, 1) := by decide +kernel
theorem dX12_joins_25 : decode cX12_joins 25 = .ok (.getfield 36, 3) := by decide +kernel
theorem dX12_joins_28 : decode cX12_joins 28 = .ok (.iload_n 2, 1) := by decide +kernel
theorem dX12_joins_29 : decode cX12_joins 29 = .ok (.iaload, 1) := by decide +kernel
theorem dX12_joins_30 : decode cX12_joins 30 = .ok (.istore_n 3, 1) := by decide +kernel
theorem dX12_joins_31 : decode cX12_joins 31 = .ok (.aload_n 0, 1) := by decide +kernel
theorem dX12_joins_32 : decode cX12_joins 32 = .ok (.aload_n 0, 1) := by decide +kernel
theorem dX12_joins_33 : decode cX12_joins 33 = .ok (.getfield 112, 3) := by decide +kernel
theorem dX12_joins_36 : decode cX12_joins 36 = .ok (.ifCond .ne 18, 3) := by decide +kernel
theorem dX12_joins_39 : decode cX12_joins 39 = .ok (.aload_n 0, 1) := by decide +kernel
theorem dX12_joins_40 : decode cX12_joins 40 = .ok (.getfield 36, 3) := by decide +kernel
theorem dX12_joins_43 : decode cX12_joins 43 = .ok (.iload_n 1, 1) := by decide +kernel
theorem dX12_joins_44 : decode cX12_joins 44 = .ok (.iaload, 1) := by decide +kernel
theorem dX12_joins_45 : decode cX12_joins 45 = .ok (.aload_n 0, 1) := by decide +kernel
theorem dX12_joins_46 : decode cX12_joins 46 = .ok (.getfield 36, 3) := by decide +kernel
theorem dX12_joins_49 : decode cX12_joins 49 = .ok (.iload_n 2, 1) := by decide +kernel
theorem dX12_joins_50 : decode cX12_joins 50 = .ok (.iaload, 1) := by decide +kernel
theorem dX12_joins_51 : decode cX12_joins 51 = .ok (.if_icmp .eq 7, 3) := by decide +kernel
theorem dX12_joins_54 : decode cX12_joins 54 = .ok (.iconst 1, 1) := by decide +kernel
theorem dX12_joins_55 : decode cX12_joins 55 = .ok (.goto 4, 3) := by decide +kernel
theorem dX12_joins_58 : decode cX12_joins 58 = .ok (.iconst 0, 1) := by decide +kernel
theorem dX12_joins_59 : decode cX12_joins 59 = .ok (.putfield 112, 3) := by decide +kernel
theorem dX12_joins_62 : decode cX12_joins 62 = .ok (.aload_n 0, 1) := by decide +kernel
theorem dX12_joins_63 : decode cX12_joins 63 = .ok (.getfield 36, 3) := by decide +kernel
theorem dX12_joins_66 : decode cX12_joins 66 = .ok (.iload_n 1, 1) := by decide +kernel
theorem dX12_joins_67 : decode cX12_joins 67 = .ok (.iload_n 3, 1) := by decide +kernel
theorem dX12_joins_68 : decode cX12_joins 68 = .ok (.iastore, 1) := by decide +kernel
theorem dX12_joins_69 : decode cX12_joins 69 = .ok (.aload_n 0, 1) := by decide +kernel
theorem dX12_joins_70 : decode cX12_joins 70 = .ok (.getfield 36, 3) := by decide +kernel
theorem dX12_joins_73 : decode cX12_joins 73 = .ok (.iload_n 2, 1) := by decide +kernel
theorem dX12_joins_74 : decode cX12_joins 74 = .ok (.iload_n 3, 1) := by decide +kernel
theorem dX12_joins_75 : decode cX12_joins 75 = .ok (.iastore, 1) := by decide +kernel
theorem dX12_joins_76 : decode cX12_joins 76 = .ok (.return_, 1) := by decide +kernel
theorem dX12_startsLabels_0 : decode cX12_startsLabels 0 = .ok (.iconst 0, 1) := by decide +kernel
theorem dX12_startsLabels_1 : decode cX12_startsLabels 1 = .ok (.istore_n 2, 1) := by decide +kernel
theorem dX12_startsLabels_2 : decode cX12_startsLabels 2 = .ok (.iload_n 2, 1) := by decide +kernel
theorem dX12_startsLabels_3 : decode cX12_startsLabels 3 = .ok (.iload_n 1, 1) := by decide +kernel
theorem dX12_startsLabels_4 : decode cX12_startsLabels 4 = .ok (.if_icmp .ge 16, 3) := by decide +kernel
theorem dX12_startsLabels_7 : decode cX12_startsLabels 7 = .ok (.aload_n 0, 1) := by decide +kernel
theorem dX12_startsLabels_8 : decode cX12_startsLabels 8 = .ok (.getfield 36, 3) := by decide +kernel
theorem dX12_startsLabels_11 : decode cX12_startsLabels 11 = .ok (.iload_n 2, 1) := by decide +kernel
theorem dX12_startsLabels_12 : decode cX12_startsLabels 12 = .ok (.iload_n 2, 1) := by decide +kernel
theorem dX12_startsLabels_13 : decode cX12_startsLabels 13 = .ok (.iastore, 1) := by decide +kernel
theorem dX12_startsLabels_14 : decode cX12_startsLabels 14 = .ok (.iinc 2 1, 3) := by decide +kernel
theorem dX12_startsLabels_17 : decode cX12_startsLabels 17 = .ok (.goto (-15), 3) := by decide +kernel
theorem dX12_startsLabels_20 : decode cX12_startsLabels 20 = .ok (.return_, 1) := by decide +kernel
theorem dX12_heaps_0 : decode cX12_heaps 0 = .ok (.iconst 0, 1) := by decide +kernel
theorem dX12_heaps_1 : decode cX12_heaps 1 = .ok (.istore_n 2, 1) := by decide +kernel
theorem dX12_heaps_2 : decode cX12_heaps 2 = .ok (.iconst 0, 1) := by decide +kernel
theorem dX12_heaps_3 : decode cX12_heaps 3 = .ok (.istore_n 3, 1) := by decide +kernel
theorem dX12_heaps_4 : decode cX12_heaps 4 = .ok (.iload_n 3, 1) := by decide +kernel
theorem dX12_heaps_5 : decode cX12_heaps 5 = .ok (.iload_n 1, 1) := by decide +kernel
theorem dX12_heaps_6 : decode cX12_heaps 6 = .ok (.if_icmp .ge 27, 3) := by decide +kernel
theorem dX12_heaps_9 : decode cX12_heaps 9 = .ok (.iload_n 2, 1) := by decide +kernel
theorem dX12_heaps_10 : decode cX12_heaps 10 = .ok (.aload_n 0, 1) := by decide +kernel
theorem dX12_heaps_11 : decode cX12_heaps 11 = .ok (.getfield 36, 3) := by decide +kernel
theorem dX12_heaps_14 : decode cX12_heaps 14 = .ok (.iload_n 3, 1) := by decide +kernel
theorem dX12_heaps_15 : decode cX12_heaps 15 = .ok (.iaload, 1) := by decide +kernel
theorem dX12_heaps_16 : decode cX12_heaps 16 = .ok (.iload_n 3, 1) := by decide +kernel
theorem dX12_heaps_17 : decode cX12_heaps 17 = .ok (.if_icmp .ne 7, 3) := by decide +kernel
theorem dX12_heaps_20 : decode cX12_heaps 20 = .ok (.iconst 1, 1) := by decide +kernel
theorem dX12_heaps_21 : decode cX12_heaps 21 = .ok (.goto 4, 3) := by decide +kernel
theorem dX12_heaps_24 : decode cX12_heaps 24 = .ok (.iconst 0, 1) := by decide +kernel
theorem dX12_heaps_25 : decode cX12_heaps 25 = .ok (.iadd, 1) := by decide +kernel
theorem dX12_heaps_26 : decode cX12_heaps 26 = .ok (.istore_n 2, 1) := by decide +kernel
theorem dX12_heaps_27 : decode cX12_heaps 27 = .ok (.iinc 3 1, 3) := by decide +kernel
theorem dX12_heaps_30 : decode cX12_heaps 30 = .ok (.goto (-26), 3) := by decide +kernel
theorem dX12_heaps_33 : decode cX12_heaps 33 = .ok (.iload_n 2, 1) := by decide +kernel
theorem dX12_heaps_34 : decode cX12_heaps 34 = .ok (.ireturn, 1) := by decide +kernel
theorem dX12_parts_0 : decode cX12_parts 0 = .ok (.aload_n 0, 1) := by decide +kernel
theorem dX12_parts_1 : decode cX12_parts 1 = .ok (.aload_n 0, 1) := by decide +kernel
theorem dX12_parts_2 : decode cX12_parts 2 = .ok (.iload_n 1, 1) := by decide +kernel
theorem dX12_parts_3 : decode cX12_parts 3 = .ok (.invokevirtual 59, 3) := by decide +kernel
theorem dX12_parts_6 : decode cX12_parts 6 = .ok (.invokevirtual 116, 3) := by decide +kernel
theorem dX12_parts_9 : decode cX12_parts 9 = .ok (.aload_n 0, 1) := by decide +kernel
theorem dX12_parts_10 : decode cX12_parts 10 = .ok (.iconst 1, 1) := by decide +kernel
theorem dX12_parts_11 : decode cX12_parts 11 = .ok (.putfield 112, 3) := by decide +kernel
theorem dX12_parts_14 : decode cX12_parts 14 = .ok (.aload_n 0, 1) := by decide +kernel
theorem dX12_parts_15 : decode cX12_parts 15 = .ok (.getfield 112, 3) := by decide +kernel
theorem dX12_parts_18 : decode cX12_parts 18 = .ok (.ifCond .eq 57, 3) := by decide +kernel
theorem dX12_parts_21 : decode cX12_parts 21 = .ok (.aload_n 0, 1) := by decide +kernel
theorem dX12_parts_22 : decode cX12_parts 22 = .ok (.iconst 0, 1) := by decide +kernel
theorem dX12_parts_23 : decode cX12_parts 23 = .ok (.putfield 112, 3) := by decide +kernel
theorem dX12_parts_26 : decode cX12_parts 26 = .ok (.iconst 0, 1) := by decide +kernel
theorem dX12_parts_27 : decode cX12_parts 27 = .ok (.istore_n 2, 1) := by decide +kernel
theorem dX12_parts_28 : decode cX12_parts 28 = .ok (.iload_n 2, 1) := by decide +kernel
theorem dX12_parts_29 : decode cX12_parts 29 = .ok (.aload_n 0, 1) := by decide +kernel
theorem dX12_parts_30 : decode cX12_parts 30 = .ok (.iload_n 1, 1) := by decide +kernel
theorem dX12_parts_31 : decode cX12_parts 31 = .ok (.invokevirtual 59, 3) := by decide +kernel
theorem dX12_parts_34 : decode cX12_parts 34 = .ok (.if_icmp .ge 38, 3) := by decide +kernel
theorem dX12_parts_37 : decode cX12_parts 37 = .ok (.iconst 0, 1) := by decide +kernel
theorem dX12_parts_38 : decode cX12_parts 38 = .ok (.istore_n 3, 1) := by decide +kernel
theorem dX12_parts_39 : decode cX12_parts 39 = .ok (.iload_n 3, 1) := by decide +kernel
theorem dX12_parts_40 : decode cX12_parts 40 = .ok (.iload_n 2, 1) := by decide +kernel
theorem dX12_parts_41 : decode cX12_parts 41 = .ok (.if_icmp .ge 25, 3) := by decide +kernel
theorem dX12_parts_44 : decode cX12_parts 44 = .ok (.aload_n 0, 1) := by decide +kernel
theorem dX12_parts_45 : decode cX12_parts 45 = .ok (.iload_n 1, 1) := by decide +kernel
theorem dX12_parts_46 : decode cX12_parts 46 = .ok (.iload_n 2, 1) := by decide +kernel
theorem dX12_parts_47 : decode cX12_parts 47 = .ok (.iload_n 3, 1) := by decide +kernel
theorem dX12_parts_48 : decode cX12_parts 48 = .ok (.invokevirtual 108, 3) := by decide +kernel
theorem dX12_parts_51 : decode cX12_parts 51 = .ok (.ifCond .eq 9, 3) := by decide +kernel
theorem dX12_parts_54 : decode cX12_parts 54 = .ok (.aload_n 0, 1) := by decide +kernel
theorem dX12_parts_55 : decode cX12_parts 55 = .ok (.iload_n 2, 1) := by decide +kernel
theorem dX12_parts_56 : decode cX12_parts 56 = .ok (.iload_n 3, 1) := by decide +kernel
theorem dX12_parts_57 : decode cX12_parts 57 = .ok (.invokevirtual 119, 3) := by decide +kernel
theorem dX12_parts_60 : decode cX12_parts 60 = .ok (.iinc 3 1, 3) := by decide +kernel
theorem dX12_parts_63 : decode cX12_parts 63 = .ok (.goto (-24), 3) := by decide +kernel
theorem dX12_parts_66 : decode cX12_parts 66 = .ok (.iinc 2 1, 3) := by decide +kernel
theorem dX12_parts_69 : decode cX12_parts 69 = .ok (.goto (-41), 3) := by decide +kernel
theorem dX12_parts_72 : decode cX12_parts 72 = .ok (.goto (-58), 3) := by decide +kernel
theorem dX12_parts_75 : decode cX12_parts 75 = .ok (.aload_n 0, 1) := by decide +kernel
theorem dX12_parts_76 : decode cX12_parts 76 = .ok (.aload_n 0, 1) := by decide +kernel
theorem dX12_parts_77 : decode cX12_parts 77 = .ok (.iload_n 1, 1) := by decide +kernel
theorem dX12_parts_78 : decode cX12_parts 78 = .ok (.invokevirtual 59, 3) := by decide +kernel
theorem dX12_parts_81 : decode cX12_parts 81 = .ok (.invokevirtual 122, 3) := by decide +kernel
theorem dX12_parts_84 : decode cX12_parts 84 = .ok (.ireturn, 1) := by decide +kernel
theorem dX12_areSides_0 : decode cX12_areSides 0 = .ok (.iconst 1, 1) := by decide +kernel
theorem dX12_areSides_1 : decode cX12_areSides 1 = .ok (.istore_n 3, 1) := by decide +kernel
theorem dX12_areSides_2 : decode cX12_areSides 2 = .ok (.iconst 0, 1) := by decide +kernel
theorem dX12_areSides_3 : decode cX12_areSides 3 = .ok (.istore 4, 2) := by decide +kernel
theorem dX12_areSides_5 : decode cX12_areSides 5 = .ok (.iload 4, 2) := by decide +kernel
theorem dX12_areSides_7 : decode cX12_areSides 7 = .ok (.aload_n 0, 1) := by decide +kernel
theorem dX12_areSides_8 : decode cX12_areSides 8 = .ok (.iload_n 1, 1) := by decide +kernel
theorem dX12_areSides_9 : decode cX12_areSides 9 = .ok (.invokevirtual 59, 3) := by decide +kernel
theorem dX12_areSides_12 : decode cX12_areSides 12 = .ok (.if_icmp .ge 102, 3) := by decide +kernel
theorem dX12_areSides_15 : decode cX12_areSides 15 = .ok (.iconst 0, 1) := by decide +kernel
theorem dX12_areSides_16 : decode cX12_areSides 16 = .ok (.istore 5, 2) := by decide +kernel
theorem dX12_areSides_18 : decode cX12_areSides 18 = .ok (.iload 5, 2) := by decide +kernel
theorem dX12_areSides_20 : decode cX12_areSides 20 = .ok (.iload 4, 2) := by decide +kernel
theorem dX12_areSides_22 : decode cX12_areSides 22 = .ok (.if_icmp .ge 86, 3) := by decide +kernel
theorem dX12_areSides_25 : decode cX12_areSides 25 = .ok (.iload_n 3, 1) := by decide +kernel
theorem dX12_areSides_26 : decode cX12_areSides 26 = .ok (.ifCond .eq 82, 3) := by decide +kernel
theorem dX12_areSides_29 : decode cX12_areSides 29 = .ok (.iload_n 2, 1) := by decide +kernel
theorem dX12_areSides_30 : decode cX12_areSides 30 = .ok (.iload 4, 2) := by decide +kernel
theorem dX12_areSides_32 : decode cX12_areSides 32 = .ok (.invokestatic 125, 3) := by decide +kernel
theorem dX12_areSides_35 : decode cX12_areSides 35 = .ok (.iload_n 2, 1) := by decide +kernel
theorem dX12_areSides_36 : decode cX12_areSides 36 = .ok (.iload 5, 2) := by decide +kernel
theorem dX12_areSides_38 : decode cX12_areSides 38 = .ok (.invokestatic 125, 3) := by decide +kernel
theorem dX12_areSides_41 : decode cX12_areSides 41 = .ok (.if_icmp .eq 7, 3) := by decide +kernel
theorem dX12_areSides_44 : decode cX12_areSides 44 = .ok (.iconst 1, 1) := by decide +kernel
theorem dX12_areSides_45 : decode cX12_areSides 45 = .ok (.goto 4, 3) := by decide +kernel
theorem dX12_areSides_48 : decode cX12_areSides 48 = .ok (.iconst 0, 1) := by decide +kernel
theorem dX12_areSides_49 : decode cX12_areSides 49 = .ok (.istore 6, 2) := by decide +kernel
theorem dX12_areSides_51 : decode cX12_areSides 51 = .ok (.aload_n 0, 1) := by decide +kernel
theorem dX12_areSides_52 : decode cX12_areSides 52 = .ok (.iload_n 1, 1) := by decide +kernel
theorem dX12_areSides_53 : decode cX12_areSides 53 = .ok (.iload 4, 2) := by decide +kernel
theorem dX12_areSides_55 : decode cX12_areSides 55 = .ok (.iload 5, 2) := by decide +kernel
theorem dX12_areSides_57 : decode cX12_areSides 57 = .ok (.invokevirtual 108, 3) := by decide +kernel
theorem dX12_areSides_60 : decode cX12_areSides 60 = .ok (.ifCond .eq 36, 3) := by decide +kernel
theorem dX12_areSides_63 : decode cX12_areSides 63 = .ok (.iload 6, 2) := by decide +kernel
theorem dX12_areSides_65 : decode cX12_areSides 65 = .ok (.aload_n 0, 1) := by decide +kernel
theorem dX12_areSides_66 : decode cX12_areSides 66 = .ok (.iload_n 1, 1) := by decide +kernel
theorem dX12_areSides_67 : decode cX12_areSides 67 = .ok (.iload 4, 2) := by decide +kernel
theorem dX12_areSides_69 : decode cX12_areSides 69 = .ok (.invokevirtual 129, 3) := by decide +kernel
theorem dX12_areSides_72 : decode cX12_areSides 72 = .ok (.aload_n 0, 1) := by decide +kernel
theorem dX12_areSides_73 : decode cX12_areSides 73 = .ok (.iload_n 1, 1) := by decide +kernel
theorem dX12_areSides_74 : decode cX12_areSides 74 = .ok (.iload 5, 2) := by decide +kernel
theorem dX12_areSides_76 : decode cX12_areSides 76 = .ok (.invokevirtual 129, 3) := by decide +kernel
theorem dX12_areSides_79 : decode cX12_areSides 79 = .ok (.iand, 1) := by decide +kernel
theorem dX12_areSides_80 : decode cX12_areSides 80 = .ok (.invokestatic 132, 3) := by decide +kernel
theorem dX12_areSides_83 : decode cX12_areSides 83 = .ok (.iconst 2, 1) := by decide +kernel
theorem dX12_areSides_84 : decode cX12_areSides 84 = .ok (.irem, 1) := by decide +kernel
theorem dX12_areSides_85 : decode cX12_areSides 85 = .ok (.ifCond .ne 7, 3) := by decide +kernel
theorem dX12_areSides_88 : decode cX12_areSides 88 = .ok (.iconst 1, 1) := by decide +kernel
theorem dX12_areSides_89 : decode cX12_areSides 89 = .ok (.goto 4, 3) := by decide +kernel
theorem dX12_areSides_92 : decode cX12_areSides 92 = .ok (.iconst 0, 1) := by decide +kernel
theorem dX12_areSides_93 : decode cX12_areSides 93 = .ok (.if_icmp .ne 7, 3) := by decide +kernel
theorem dX12_areSides_96 : decode cX12_areSides 96 = .ok (.iconst 1, 1) := by decide +kernel
theorem dX12_areSides_97 : decode cX12_areSides 97 = .ok (.goto 4, 3) := by decide +kernel
theorem dX12_areSides_100 : decode cX12_areSides 100 = .ok (.iconst 0, 1) := by decide +kernel
theorem dX12_areSides_101 : decode cX12_areSides 101 = .ok (.istore_n 3, 1) := by decide +kernel
theorem dX12_areSides_102 : decode cX12_areSides 102 = .ok (.iinc 5 1, 3) := by decide +kernel
theorem dX12_areSides_105 : decode cX12_areSides 105 = .ok (.goto (-87), 3) := by decide +kernel
theorem dX12_areSides_108 : decode cX12_areSides 108 = .ok (.iinc 4 1, 3) := by decide +kernel
theorem dX12_areSides_111 : decode cX12_areSides 111 = .ok (.goto (-106), 3) := by decide +kernel
theorem dX12_areSides_114 : decode cX12_areSides 114 = .ok (.iload_n 3, 1) := by decide +kernel
theorem dX12_areSides_115 : decode cX12_areSides 115 = .ok (.ireturn, 1) := by decide +kernel
theorem dX12_broken_0 : decode cX12_broken 0 = .ok (.iconst 0, 1) := by decide +kernel
theorem dX12_broken_1 : decode cX12_broken 1 = .ok (.istore_n 2, 1) := by decide +kernel
theorem dX12_broken_2 : decode cX12_broken 2 = .ok (.iload_n 2, 1) := by decide +kernel
theorem dX12_broken_3 : decode cX12_broken 3 = .ok (.aload_n 0, 1) := by decide +kernel
theorem dX12_broken_4 : decode cX12_broken 4 = .ok (.iload_n 1, 1) := by decide +kernel
theorem dX12_broken_5 : decode cX12_broken 5 = .ok (.invokevirtual 59, 3) := by decide +kernel
theorem dX12_broken_8 : decode cX12_broken 8 = .ok (.if_icmp .ge 26, 3) := by decide +kernel
theorem dX12_broken_11 : decode cX12_broken 11 = .ok (.aload_n 0, 1) := by decide +kernel
theorem dX12_broken_12 : decode cX12_broken 12 = .ok (.iload_n 1, 1) := by decide +kernel
theorem dX12_broken_13 : decode cX12_broken 13 = .ok (.iload_n 2, 1) := by decide +kernel
theorem dX12_broken_14 : decode cX12_broken 14 = .ok (.invokevirtual 129, 3) := by decide +kernel
theorem dX12_broken_17 : decode cX12_broken 17 = .ok (.invokestatic 132, 3) := by decide +kernel
theorem dX12_broken_20 : decode cX12_broken 20 = .ok (.iconst 2, 1) := by decide +kernel
theorem dX12_broken_21 : decode cX12_broken 21 = .ok (.irem, 1) := by decide +kernel
theorem dX12_broken_22 : decode cX12_broken 22 = .ok (.iconst 1, 1) := by decide +kernel
theorem dX12_broken_23 : decode cX12_broken 23 = .ok (.if_icmp .ne 5, 3) := by decide +kernel
theorem dX12_broken_26 : decode cX12_broken 26 = .ok (.iconst 1, 1) := by decide +kernel
theorem dX12_broken_27 : decode cX12_broken 27 = .ok (.ireturn, 1) := by decide +kernel
theorem dX12_broken_28 : decode cX12_broken 28 = .ok (.iinc 2 1, 3) := by decide +kernel
theorem dX12_broken_31 : decode cX12_broken 31 = .ok (.goto (-29), 3) := by decide +kernel
theorem dX12_broken_34 : decode cX12_broken 34 = .ok (.iconst 0, 1) := by decide +kernel
theorem dX12_broken_35 : decode cX12_broken 35 = .ok (.istore_n 2, 1) := by decide +kernel
theorem dX12_broken_36 : decode cX12_broken 36 = .ok (.iload_n 2, 1) := by decide +kernel
theorem dX12_broken_37 : decode cX12_broken 37 = .ok (.aload_n 0, 1) := by decide +kernel
theorem dX12_broken_38 : decode cX12_broken 38 = .ok (.iload_n 1, 1) := by decide +kernel
theorem dX12_broken_39 : decode cX12_broken 39 = .ok (.invokevirtual 59, 3) := by decide +kernel
theorem dX12_broken_42 : decode cX12_broken 42 = .ok (.if_icmp .ge 56, 3) := by decide +kernel
theorem dX12_broken_45 : decode cX12_broken 45 = .ok (.iconst 0, 1) := by decide +kernel
theorem dX12_broken_46 : decode cX12_broken 46 = .ok (.istore_n 3, 1) := by decide +kernel
theorem dX12_broken_47 : decode cX12_broken 47 = .ok (.iload_n 3, 1) := by decide +kernel
theorem dX12_broken_48 : decode cX12_broken 48 = .ok (.iload_n 2, 1) := by decide +kernel
theorem dX12_broken_49 : decode cX12_broken 49 = .ok (.if_icmp .ge 43, 3) := by decide +kernel
theorem dX12_broken_52 : decode cX12_broken 52 = .ok (.aload_n 0, 1) := by decide +kernel
theorem dX12_broken_53 : decode cX12_broken 53 = .ok (.iload_n 1, 1) := by decide +kernel
theorem dX12_broken_54 : decode cX12_broken 54 = .ok (.iload_n 2, 1) := by decide +kernel
theorem dX12_broken_55 : decode cX12_broken 55 = .ok (.iload_n 3, 1) := by decide +kernel
theorem dX12_broken_56 : decode cX12_broken 56 = .ok (.invokevirtual 108, 3) := by decide +kernel
theorem dX12_broken_59 : decode cX12_broken 59 = .ok (.ifCond .ne 27, 3) := by decide +kernel
theorem dX12_broken_62 : decode cX12_broken 62 = .ok (.aload_n 0, 1) := by decide +kernel
theorem dX12_broken_63 : decode cX12_broken 63 = .ok (.iload_n 1, 1) := by decide +kernel
theorem dX12_broken_64 : decode cX12_broken 64 = .ok (.iload_n 2, 1) := by decide +kernel
theorem dX12_broken_65 : decode cX12_broken 65 = .ok (.invokevirtual 129, 3) := by decide +kernel
theorem dX12_broken_68 : decode cX12_broken 68 = .ok (.aload_n 0, 1) := by decide +kernel
theorem dX12_broken_69 : decode cX12_broken 69 = .ok (.iload_n 1, 1) := by decide +kernel
theorem dX12_broken_70 : decode cX12_broken 70 = .ok (.iload_n 3, 1) := by decide +kernel
theorem dX12_broken_71 : decode cX12_broken 71 = .ok (.invokevirtual 129, 3) := by decide +kernel
theorem dX12_broken_74 : decode cX12_broken 74 = .ok (.iand, 1) := by decide +kernel
theorem dX12_broken_75 : decode cX12_broken 75 = .ok (.invokestatic 132, 3) := by decide +kernel
theorem dX12_broken_78 : decode cX12_broken 78 = .ok (.iconst 2, 1) := by decide +kernel
theorem dX12_broken_79 : decode cX12_broken 79 = .ok (.irem, 1) := by decide +kernel
theorem dX12_broken_80 : decode cX12_broken 80 = .ok (.iconst 1, 1) := by decide +kernel
theorem dX12_broken_81 : decode cX12_broken 81 = .ok (.if_icmp .ne 5, 3) := by decide +kernel
theorem dX12_broken_84 : decode cX12_broken 84 = .ok (.iconst 2, 1) := by decide +kernel
theorem dX12_broken_85 : decode cX12_broken 85 = .ok (.ireturn, 1) := by decide +kernel
theorem dX12_broken_86 : decode cX12_broken 86 = .ok (.iinc 3 1, 3) := by decide +kernel
theorem dX12_broken_89 : decode cX12_broken 89 = .ok (.goto (-42), 3) := by decide +kernel
theorem dX12_broken_92 : decode cX12_broken 92 = .ok (.iinc 2 1, 3) := by decide +kernel
theorem dX12_broken_95 : decode cX12_broken 95 = .ok (.goto (-59), 3) := by decide +kernel
theorem dX12_broken_98 : decode cX12_broken 98 = .ok (.iconst 0, 1) := by decide +kernel
theorem dX12_broken_99 : decode cX12_broken 99 = .ok (.istore_n 2, 1) := by decide +kernel
theorem dX12_broken_100 : decode cX12_broken 100 = .ok (.iload_n 2, 1) := by decide +kernel
theorem dX12_broken_101 : decode cX12_broken 101 = .ok (.iconst 1, 1) := by decide +kernel
theorem dX12_broken_102 : decode cX12_broken 102 = .ok (.aload_n 0, 1) := by decide +kernel
theorem dX12_broken_103 : decode cX12_broken 103 = .ok (.iload_n 1, 1) := by decide +kernel
theorem dX12_broken_104 : decode cX12_broken 104 = .ok (.invokevirtual 59, 3) := by decide +kernel
theorem dX12_broken_107 : decode cX12_broken 107 = .ok (.ishl, 1) := by decide +kernel
theorem dX12_broken_108 : decode cX12_broken 108 = .ok (.if_icmp .ge 20, 3) := by decide +kernel
theorem dX12_broken_111 : decode cX12_broken 111 = .ok (.aload_n 0, 1) := by decide +kernel
theorem dX12_broken_112 : decode cX12_broken 112 = .ok (.iload_n 1, 1) := by decide +kernel
theorem dX12_broken_113 : decode cX12_broken 113 = .ok (.iload_n 2, 1) := by decide +kernel
theorem dX12_broken_114 : decode cX12_broken 114 = .ok (.invokevirtual 135, 3) := by decide +kernel
theorem dX12_broken_117 : decode cX12_broken 117 = .ok (.ifCond .eq 5, 3) := by decide +kernel
theorem dX12_broken_120 : decode cX12_broken 120 = .ok (.iconst 0, 1) := by decide +kernel
theorem dX12_broken_121 : decode cX12_broken 121 = .ok (.ireturn, 1) := by decide +kernel
theorem dX12_broken_122 : decode cX12_broken 122 = .ok (.iinc 2 1, 3) := by decide +kernel
theorem dX12_broken_125 : decode cX12_broken 125 = .ok (.goto (-25), 3) := by decide +kernel
theorem dX12_broken_128 : decode cX12_broken 128 = .ok (.iconst 3, 1) := by decide +kernel
theorem dX12_broken_129 : decode cX12_broken 129 = .ok (.ireturn, 1) := by decide +kernel
theorem dX12_leavesAs_0 : decode cX12_leavesAs 0 = .ok (.aload_n 0, 1) := by decide +kernel
theorem dX12_leavesAs_1 : decode cX12_leavesAs 1 = .ok (.iload_n 1, 1) := by decide +kernel
theorem dX12_leavesAs_2 : decode cX12_leavesAs 2 = .ok (.iload_n 2, 1) := by decide +kernel
theorem dX12_leavesAs_3 : decode cX12_leavesAs 3 = .ok (.invokevirtual 63, 3) := by decide +kernel
theorem dX12_leavesAs_6 : decode cX12_leavesAs 6 = .ok (.istore_n 3, 1) := by decide +kernel
theorem dX12_leavesAs_7 : decode cX12_leavesAs 7 = .ok (.aload_n 0, 1) := by decide +kernel
theorem dX12_leavesAs_8 : decode cX12_leavesAs 8 = .ok (.iload_n 1, 1) := by decide +kernel
theorem dX12_leavesAs_9 : decode cX12_leavesAs 9 = .ok (.iload_n 3, 1) := by decide +kernel
theorem dX12_leavesAs_10 : decode cX12_leavesAs 10 = .ok (.iconst 0, 1) := by decide +kernel
theorem dX12_leavesAs_11 : decode cX12_leavesAs 11 = .ok (.invokevirtual 104, 3) := by decide +kernel
theorem dX12_leavesAs_14 : decode cX12_leavesAs 14 = .ok (.iload_n 2, 1) := by decide +kernel
theorem dX12_leavesAs_15 : decode cX12_leavesAs 15 = .ok (.if_icmp .ne 7, 3) := by decide +kernel
theorem dX12_leavesAs_18 : decode cX12_leavesAs 18 = .ok (.iconst 0, 1) := by decide +kernel
theorem dX12_leavesAs_19 : decode cX12_leavesAs 19 = .ok (.goto 19, 3) := by decide +kernel
theorem dX12_leavesAs_22 : decode cX12_leavesAs 22 = .ok (.aload_n 0, 1) := by decide +kernel
theorem dX12_leavesAs_23 : decode cX12_leavesAs 23 = .ok (.getfield 138, 3) := by decide +kernel
theorem dX12_leavesAs_26 : decode cX12_leavesAs 26 = .ok (.iload_n 3, 1) := by decide +kernel
theorem dX12_leavesAs_27 : decode cX12_leavesAs 27 = .ok (.invokestatic 125, 3) := by decide +kernel
theorem dX12_leavesAs_30 : decode cX12_leavesAs 30 = .ok (.ifCond .eq 7, 3) := by decide +kernel
theorem dX12_leavesAs_33 : decode cX12_leavesAs 33 = .ok (.iconst 3, 1) := by decide +kernel
theorem dX12_leavesAs_34 : decode cX12_leavesAs 34 = .ok (.goto 4, 3) := by decide +kernel
theorem dX12_leavesAs_37 : decode cX12_leavesAs 37 = .ok (.iconst 1, 1) := by decide +kernel
theorem dX12_leavesAs_38 : decode cX12_leavesAs 38 = .ok (.ireturn, 1) := by decide +kernel
theorem dX12_comesAs_0 : decode cX12_comesAs 0 = .ok (.iload_n 2, 1) := by decide +kernel
theorem dX12_comesAs_1 : decode cX12_comesAs 1 = .ok (.iconst 1, 1) := by decide +kernel
theorem dX12_comesAs_2 : decode cX12_comesAs 2 = .ok (.iadd, 1) := by decide +kernel
theorem dX12_comesAs_3 : decode cX12_comesAs 3 = .ok (.iconst 2, 1) := by decide +kernel
theorem dX12_comesAs_4 : decode cX12_comesAs 4 = .ok (.aload_n 0, 1) := by decide +kernel
theorem dX12_comesAs_5 : decode cX12_comesAs 5 = .ok (.iload_n 1, 1) := by decide +kernel
theorem dX12_comesAs_6 : decode cX12_comesAs 6 = .ok (.invokevirtual 59, 3) := by decide +kernel
theorem dX12_comesAs_9 : decode cX12_comesAs 9 = .ok (.imul, 1) := by decide +kernel
theorem dX12_comesAs_10 : decode cX12_comesAs 10 = .ok (.irem, 1) := by decide +kernel
theorem dX12_comesAs_11 : decode cX12_comesAs 11 = .ok (.istore_n 3, 1) := by decide +kernel
theorem dX12_comesAs_12 : decode cX12_comesAs 12 = .ok (.aload_n 0, 1) := by decide +kernel
theorem dX12_comesAs_13 : decode cX12_comesAs 13 = .ok (.iload_n 1, 1) := by decide +kernel
theorem dX12_comesAs_14 : decode cX12_comesAs 14 = .ok (.iload_n 3, 1) := by decide +kernel
theorem dX12_comesAs_15 : decode cX12_comesAs 15 = .ok (.invokevirtual 63, 3) := by decide +kernel
theorem dX12_comesAs_18 : decode cX12_comesAs 18 = .ok (.istore 4, 2) := by decide +kernel
theorem dX12_comesAs_20 : decode cX12_comesAs 20 = .ok (.aload_n 0, 1) := by decide +kernel
theorem dX12_comesAs_21 : decode cX12_comesAs 21 = .ok (.iload_n 1, 1) := by decide +kernel
theorem dX12_comesAs_22 : decode cX12_comesAs 22 = .ok (.iload 4, 2) := by decide +kernel
theorem dX12_comesAs_24 : decode cX12_comesAs 24 = .ok (.iconst 0, 1) := by decide +kernel
theorem dX12_comesAs_25 : decode cX12_comesAs 25 = .ok (.invokevirtual 104, 3) := by decide +kernel
theorem dX12_comesAs_28 : decode cX12_comesAs 28 = .ok (.iload_n 3, 1) := by decide +kernel
theorem dX12_comesAs_29 : decode cX12_comesAs 29 = .ok (.if_icmp .ne 7, 3) := by decide +kernel
theorem dX12_comesAs_32 : decode cX12_comesAs 32 = .ok (.iconst 2, 1) := by decide +kernel
theorem dX12_comesAs_33 : decode cX12_comesAs 33 = .ok (.goto 20, 3) := by decide +kernel
theorem dX12_comesAs_36 : decode cX12_comesAs 36 = .ok (.aload_n 0, 1) := by decide +kernel
theorem dX12_comesAs_37 : decode cX12_comesAs 37 = .ok (.getfield 138, 3) := by decide +kernel
theorem dX12_comesAs_40 : decode cX12_comesAs 40 = .ok (.iload 4, 2) := by decide +kernel
theorem dX12_comesAs_42 : decode cX12_comesAs 42 = .ok (.invokestatic 125, 3) := by decide +kernel
theorem dX12_comesAs_45 : decode cX12_comesAs 45 = .ok (.ifCond .eq 7, 3) := by decide +kernel
theorem dX12_comesAs_48 : decode cX12_comesAs 48 = .ok (.iconst 1, 1) := by decide +kernel
theorem dX12_comesAs_49 : decode cX12_comesAs 49 = .ok (.goto 4, 3) := by decide +kernel
theorem dX12_comesAs_52 : decode cX12_comesAs 52 = .ok (.iconst 3, 1) := by decide +kernel
theorem dX12_comesAs_53 : decode cX12_comesAs 53 = .ok (.ireturn, 1) := by decide +kernel
theorem dX12_leftCorner_0 : decode cX12_leftCorner 0 = .ok (.iconst 4, 1) := by decide +kernel
theorem dX12_leftCorner_1 : decode cX12_leftCorner 1 = .ok (.aload_n 0, 1) := by decide +kernel
theorem dX12_leftCorner_2 : decode cX12_leftCorner 2 = .ok (.iload_n 1, 1) := by decide +kernel
theorem dX12_leftCorner_3 : decode cX12_leftCorner 3 = .ok (.iload_n 2, 1) := by decide +kernel
theorem dX12_leftCorner_4 : decode cX12_leftCorner 4 = .ok (.invokevirtual 63, 3) := by decide +kernel
theorem dX12_leftCorner_7 : decode cX12_leftCorner 7 = .ok (.imul, 1) := by decide +kernel
theorem dX12_leftCorner_8 : decode cX12_leftCorner 8 = .ok (.aload_n 0, 1) := by decide +kernel
theorem dX12_leftCorner_9 : decode cX12_leftCorner 9 = .ok (.iload_n 1, 1) := by decide +kernel
theorem dX12_leftCorner_10 : decode cX12_leftCorner 10 = .ok (.iload_n 2, 1) := by decide +kernel
theorem dX12_leftCorner_11 : decode cX12_leftCorner 11 = .ok (.invokevirtual 141, 3) := by decide +kernel
theorem dX12_leftCorner_14 : decode cX12_leftCorner 14 = .ok (.iadd, 1) := by decide +kernel
theorem dX12_leftCorner_15 : decode cX12_leftCorner 15 = .ok (.ireturn, 1) := by decide +kernel
theorem dX12_rightCorner_0 : decode cX12_rightCorner 0 = .ok (.iconst 4, 1) := by decide +kernel
theorem dX12_rightCorner_1 : decode cX12_rightCorner 1 = .ok (.aload_n 0, 1) := by decide +kernel
theorem dX12_rightCorner_2 : decode cX12_rightCorner 2 = .ok (.iload_n 1, 1) := by decide +kernel
theorem dX12_rightCorner_3 : decode cX12_rightCorner 3 = .ok (.iload_n 2, 1) := by decide +kernel
theorem dX12_rightCorner_4 : decode cX12_rightCorner 4 = .ok (.invokevirtual 63, 3) := by decide +kernel
theorem dX12_rightCorner_7 : decode cX12_rightCorner 7 = .ok (.imul, 1) := by decide +kernel
theorem dX12_rightCorner_8 : decode cX12_rightCorner 8 = .ok (.aload_n 0, 1) := by decide +kernel
theorem dX12_rightCorner_9 : decode cX12_rightCorner 9 = .ok (.iload_n 1, 1) := by decide +kernel
theorem dX12_rightCorner_10 : decode cX12_rightCorner 10 = .ok (.iload_n 2, 1) := by decide +kernel
theorem dX12_rightCorner_11 : decode cX12_rightCorner 11 = .ok (.invokevirtual 141, 3) := by decide +kernel
theorem dX12_rightCorner_14 : decode cX12_rightCorner 14 = .ok (.iconst 3, 1) := by decide +kernel
theorem dX12_rightCorner_15 : decode cX12_rightCorner 15 = .ok (.iadd, 1) := by decide +kernel
theorem dX12_rightCorner_16 : decode cX12_rightCorner 16 = .ok (.iconst 4, 1) := by decide +kernel
theorem dX12_rightCorner_17 : decode cX12_rightCorner 17 = .ok (.irem, 1) := by decide +kernel
theorem dX12_rightCorner_18 : decode cX12_rightCorner 18 = .ok (.iadd, 1) := by decide +kernel
theorem dX12_rightCorner_19 : decode cX12_rightCorner 19 = .ok (.ireturn, 1) := by decide +kernel
theorem dX12_leftFar_0 : decode cX12_leftFar 0 = .ok (.iconst 4, 1) := by decide +kernel
theorem dX12_leftFar_1 : decode cX12_leftFar 1 = .ok (.aload_n 0, 1) := by decide +kernel
theorem dX12_leftFar_2 : decode cX12_leftFar 2 = .ok (.iload_n 1, 1) := by decide +kernel
theorem dX12_leftFar_3 : decode cX12_leftFar 3 = .ok (.iload_n 2, 1) := by decide +kernel
theorem dX12_leftFar_4 : decode cX12_leftFar 4 = .ok (.iconst 1, 1) := by decide +kernel
theorem dX12_leftFar_5 : decode cX12_leftFar 5 = .ok (.iadd, 1) := by decide +kernel
theorem dX12_leftFar_6 : decode cX12_leftFar 6 = .ok (.iconst 2, 1) := by decide +kernel
theorem dX12_leftFar_7 : decode cX12_leftFar 7 = .ok (.aload_n 0, 1) := by decide +kernel
theorem dX12_leftFar_8 : decode cX12_leftFar 8 = .ok (.iload_n 1, 1) := by decide +kernel
theorem dX12_leftFar_9 : decode cX12_leftFar 9 = .ok (.invokevirtual 59, 3) := by decide +kernel
theorem dX12_leftFar_12 : decode cX12_leftFar 12 = .ok (.imul, 1) := by decide +kernel
theorem dX12_leftFar_13 : decode cX12_leftFar 13 = .ok (.irem, 1) := by decide +kernel
theorem dX12_leftFar_14 : decode cX12_leftFar 14 = .ok (.invokevirtual 63, 3) := by decide +kernel
theorem dX12_leftFar_17 : decode cX12_leftFar 17 = .ok (.imul, 1) := by decide +kernel
theorem dX12_leftFar_18 : decode cX12_leftFar 18 = .ok (.aload_n 0, 1) := by decide +kernel
theorem dX12_leftFar_19 : decode cX12_leftFar 19 = .ok (.iload_n 1, 1) := by decide +kernel
theorem dX12_leftFar_20 : decode cX12_leftFar 20 = .ok (.iload_n 2, 1) := by decide +kernel
theorem dX12_leftFar_21 : decode cX12_leftFar 21 = .ok (.invokevirtual 144, 3) := by decide +kernel
theorem dX12_leftFar_24 : decode cX12_leftFar 24 = .ok (.iconst 3, 1) := by decide +kernel
theorem dX12_leftFar_25 : decode cX12_leftFar 25 = .ok (.iadd, 1) := by decide +kernel
theorem dX12_leftFar_26 : decode cX12_leftFar 26 = .ok (.iconst 4, 1) := by decide +kernel
theorem dX12_leftFar_27 : decode cX12_leftFar 27 = .ok (.irem, 1) := by decide +kernel
theorem dX12_leftFar_28 : decode cX12_leftFar 28 = .ok (.iadd, 1) := by decide +kernel
theorem dX12_leftFar_29 : decode cX12_leftFar 29 = .ok (.ireturn, 1) := by decide +kernel
theorem dX12_rightFar_0 : decode cX12_rightFar 0 = .ok (.iconst 4, 1) := by decide +kernel
theorem dX12_rightFar_1 : decode cX12_rightFar 1 = .ok (.aload_n 0, 1) := by decide +kernel
theorem dX12_rightFar_2 : decode cX12_rightFar 2 = .ok (.iload_n 1, 1) := by decide +kernel
theorem dX12_rightFar_3 : decode cX12_rightFar 3 = .ok (.iload_n 2, 1) := by decide +kernel
theorem dX12_rightFar_4 : decode cX12_rightFar 4 = .ok (.iconst 1, 1) := by decide +kernel
theorem dX12_rightFar_5 : decode cX12_rightFar 5 = .ok (.iadd, 1) := by decide +kernel
theorem dX12_rightFar_6 : decode cX12_rightFar 6 = .ok (.iconst 2, 1) := by decide +kernel
theorem dX12_rightFar_7 : decode cX12_rightFar 7 = .ok (.aload_n 0, 1) := by decide +kernel
theorem dX12_rightFar_8 : decode cX12_rightFar 8 = .ok (.iload_n 1, 1) := by decide +kernel
theorem dX12_rightFar_9 : decode cX12_rightFar 9 = .ok (.invokevirtual 59, 3) := by decide +kernel
theorem dX12_rightFar_12 : decode cX12_rightFar 12 = .ok (.imul, 1) := by decide +kernel
theorem dX12_rightFar_13 : decode cX12_rightFar 13 = .ok (.irem, 1) := by decide +kernel
theorem dX12_rightFar_14 : decode cX12_rightFar 14 = .ok (.invokevirtual 63, 3) := by decide +kernel
theorem dX12_rightFar_17 : decode cX12_rightFar 17 = .ok (.imul, 1) := by decide +kernel
theorem dX12_rightFar_18 : decode cX12_rightFar 18 = .ok (.aload_n 0, 1) := by decide +kernel
theorem dX12_rightFar_19 : decode cX12_rightFar 19 = .ok (.iload_n 1, 1) := by decide +kernel
theorem dX12_rightFar_20 : decode cX12_rightFar 20 = .ok (.iload_n 2, 1) := by decide +kernel
theorem dX12_rightFar_21 : decode cX12_rightFar 21 = .ok (.invokevirtual 144, 3) := by decide +kernel
theorem dX12_rightFar_24 : decode cX12_rightFar 24 = .ok (.iadd, 1) := by decide +kernel
theorem dX12_rightFar_25 : decode cX12_rightFar 25 = .ok (.ireturn, 1) := by decide +kernel
theorem dX12_laysFaces_0 : decode cX12_laysFaces 0 = .ok (.aload_n 0, 1) := by decide +kernel
theorem dX12_laysFaces_1 : decode cX12_laysFaces 1 = .ok (.iload_n 2, 1) := by decide +kernel
theorem dX12_laysFaces_2 : decode cX12_laysFaces 2 = .ok (.putfield 138, 3) := by decide +kernel
theorem dX12_laysFaces_5 : decode cX12_laysFaces 5 = .ok (.aload_n 0, 1) := by decide +kernel
theorem dX12_laysFaces_6 : decode cX12_laysFaces 6 = .ok (.iconst 4, 1) := by decide +kernel
theorem dX12_laysFaces_7 : decode cX12_laysFaces 7 = .ok (.aload_n 0, 1) := by decide +kernel
theorem dX12_laysFaces_8 : decode cX12_laysFaces 8 = .ok (.iload_n 1, 1) := by decide +kernel
theorem dX12_laysFaces_9 : decode cX12_laysFaces 9 = .ok (.invokevirtual 59, 3) := by decide +kernel
theorem dX12_laysFaces_12 : decode cX12_laysFaces 12 = .ok (.imul, 1) := by decide +kernel
theorem dX12_laysFaces_13 : decode cX12_laysFaces 13 = .ok (.invokevirtual 116, 3) := by decide +kernel
theorem dX12_laysFaces_16 : decode cX12_laysFaces 16 = .ok (.aload_n 0, 1) := by decide +kernel
theorem dX12_laysFaces_17 : decode cX12_laysFaces 17 = .ok (.iconst 1, 1) := by decide +kernel
theorem dX12_laysFaces_18 : decode cX12_laysFaces 18 = .ok (.putfield 112, 3) := by decide +kernel
theorem dX12_laysFaces_21 : decode cX12_laysFaces 21 = .ok (.aload_n 0, 1) := by decide +kernel
theorem dX12_laysFaces_22 : decode cX12_laysFaces 22 = .ok (.getfield 112, 3) := by decide +kernel
theorem dX12_laysFaces_25 : decode cX12_laysFaces 25 = .ok (.ifCond .eq 62, 3) := by decide +kernel
theorem dX12_laysFaces_28 : decode cX12_laysFaces 28 = .ok (.aload_n 0, 1) := by decide +kernel
theorem dX12_laysFaces_29 : decode cX12_laysFaces 29 = .ok (.iconst 0, 1) := by decide +kernel
theorem dX12_laysFaces_30 : decode cX12_laysFaces 30 = .ok (.putfield 112, 3) := by decide +kernel
theorem dX12_laysFaces_33 : decode cX12_laysFaces 33 = .ok (.iconst 0, 1) := by decide +kernel
theorem dX12_laysFaces_34 : decode cX12_laysFaces 34 = .ok (.istore_n 3, 1) := by decide +kernel
theorem dX12_laysFaces_35 : decode cX12_laysFaces 35 = .ok (.iload_n 3, 1) := by decide +kernel
theorem dX12_laysFaces_36 : decode cX12_laysFaces 36 = .ok (.iconst 2, 1) := by decide +kernel
theorem dX12_laysFaces_37 : decode cX12_laysFaces 37 = .ok (.aload_n 0, 1) := by decide +kernel
theorem dX12_laysFaces_38 : decode cX12_laysFaces 38 = .ok (.iload_n 1, 1) := by decide +kernel
theorem dX12_laysFaces_39 : decode cX12_laysFaces 39 = .ok (.invokevirtual 59, 3) := by decide +kernel
theorem dX12_laysFaces_42 : decode cX12_laysFaces 42 = .ok (.imul, 1) := by decide +kernel
theorem dX12_laysFaces_43 : decode cX12_laysFaces 43 = .ok (.if_icmp .ge 41, 3) := by decide +kernel
theorem dX12_laysFaces_46 : decode cX12_laysFaces 46 = .ok (.aload_n 0, 1) := by decide +kernel
theorem dX12_laysFaces_47 : decode cX12_laysFaces 47 = .ok (.aload_n 0, 1) := by decide +kernel
theorem dX12_laysFaces_48 : decode cX12_laysFaces 48 = .ok (.iload_n 1, 1) := by decide +kernel
theorem dX12_laysFaces_49 : decode cX12_laysFaces 49 = .ok (.iload_n 3, 1) := by decide +kernel
theorem dX12_laysFaces_50 : decode cX12_laysFaces 50 = .ok (.invokevirtual 147, 3) := by decide +kernel
theorem dX12_laysFaces_53 : decode cX12_laysFaces 53 = .ok (.aload_n 0, 1) := by decide +kernel
theorem dX12_laysFaces_54 : decode cX12_laysFaces 54 = .ok (.iload_n 1, 1) := by decide +kernel
theorem dX12_laysFaces_55 : decode cX12_laysFaces 55 = .ok (.iload_n 3, 1) := by decide +kernel
theorem dX12_laysFaces_56 : decode cX12_laysFaces 56 = .ok (.invokevirtual 150, 3) := by decide +kernel
theorem dX12_laysFaces_59 : decode cX12_laysFaces 59 = .ok (.invokevirtual 119, 3) := by decide +kernel
theorem dX12_laysFaces_62 : decode cX12_laysFaces 62 = .ok (.aload_n 0, 1) := by decide +kernel
theorem dX12_laysFaces_63 : decode cX12_laysFaces 63 = .ok (.aload_n 0, 1) := by decide +kernel
theorem dX12_laysFaces_64 : decode cX12_laysFaces 64 = .ok (.iload_n 1, 1) := by decide +kernel
theorem dX12_laysFaces_65 : decode cX12_laysFaces 65 = .ok (.iload_n 3, 1) := by decide +kernel
theorem dX12_laysFaces_66 : decode cX12_laysFaces 66 = .ok (.invokevirtual 153, 3) := by decide +kernel
theorem dX12_laysFaces_69 : decode cX12_laysFaces 69 = .ok (.aload_n 0, 1) := by decide +kernel
theorem dX12_laysFaces_70 : decode cX12_laysFaces 70 = .ok (.iload_n 1, 1) := by decide +kernel
theorem dX12_laysFaces_71 : decode cX12_laysFaces 71 = .ok (.iload_n 3, 1) := by decide +kernel
theorem dX12_laysFaces_72 : decode cX12_laysFaces 72 = .ok (.invokevirtual 156, 3) := by decide +kernel
theorem dX12_laysFaces_75 : decode cX12_laysFaces 75 = .ok (.invokevirtual 119, 3) := by decide +kernel
theorem dX12_laysFaces_78 : decode cX12_laysFaces 78 = .ok (.iinc 3 1, 3) := by decide +kernel
theorem dX12_laysFaces_81 : decode cX12_laysFaces 81 = .ok (.goto (-46), 3) := by decide +kernel
theorem dX12_laysFaces_84 : decode cX12_laysFaces 84 = .ok (.goto (-63), 3) := by decide +kernel
theorem dX12_laysFaces_87 : decode cX12_laysFaces 87 = .ok (.aload_n 0, 1) := by decide +kernel
theorem dX12_laysFaces_88 : decode cX12_laysFaces 88 = .ok (.iload_n 1, 1) := by decide +kernel
theorem dX12_laysFaces_89 : decode cX12_laysFaces 89 = .ok (.invokevirtual 59, 3) := by decide +kernel
theorem dX12_laysFaces_92 : decode cX12_laysFaces 92 = .ok (.ifCond .ne 7, 3) := by decide +kernel
theorem dX12_laysFaces_95 : decode cX12_laysFaces 95 = .ok (.iconst 2, 1) := by decide +kernel
theorem dX12_laysFaces_96 : decode cX12_laysFaces 96 = .ok (.goto 14, 3) := by decide +kernel
theorem dX12_laysFaces_99 : decode cX12_laysFaces 99 = .ok (.aload_n 0, 1) := by decide +kernel
theorem dX12_laysFaces_100 : decode cX12_laysFaces 100 = .ok (.iconst 4, 1) := by decide +kernel
theorem dX12_laysFaces_101 : decode cX12_laysFaces 101 = .ok (.aload_n 0, 1) := by decide +kernel
theorem dX12_laysFaces_102 : decode cX12_laysFaces 102 = .ok (.iload_n 1, 1) := by decide +kernel
theorem dX12_laysFaces_103 : decode cX12_laysFaces 103 = .ok (.invokevirtual 59, 3) := by decide +kernel
theorem dX12_laysFaces_106 : decode cX12_laysFaces 106 = .ok (.imul, 1) := by decide +kernel
theorem dX12_laysFaces_107 : decode cX12_laysFaces 107 = .ok (.invokevirtual 122, 3) := by decide +kernel
theorem dX12_laysFaces_110 : decode cX12_laysFaces 110 = .ok (.ireturn, 1) := by decide +kernel
theorem dX12_isPlane_0 : decode cX12_isPlane 0 = .ok (.aload_n 0, 1) := by decide +kernel
theorem dX12_isPlane_1 : decode cX12_isPlane 1 = .ok (.iload_n 1, 1) := by decide +kernel
theorem dX12_isPlane_2 : decode cX12_isPlane 2 = .ok (.iload_n 2, 1) := by decide +kernel
theorem dX12_isPlane_3 : decode cX12_isPlane 3 = .ok (.invokevirtual 159, 3) := by decide +kernel
theorem dX12_isPlane_6 : decode cX12_isPlane 6 = .ok (.aload_n 0, 1) := by decide +kernel
theorem dX12_isPlane_7 : decode cX12_isPlane 7 = .ok (.iload_n 1, 1) := by decide +kernel
theorem dX12_isPlane_8 : decode cX12_isPlane 8 = .ok (.invokevirtual 59, 3) := by decide +kernel
theorem dX12_isPlane_11 : decode cX12_isPlane 11 = .ok (.iconst 2, 1) := by decide +kernel
theorem dX12_isPlane_12 : decode cX12_isPlane 12 = .ok (.iadd, 1) := by decide +kernel
theorem dX12_isPlane_13 : decode cX12_isPlane 13 = .ok (.if_icmp .ne 7, 3) := by decide +kernel
theorem dX12_isPlane_16 : decode cX12_isPlane 16 = .ok (.iconst 1, 1) := by decide +kernel
theorem dX12_isPlane_17 : decode cX12_isPlane 17 = .ok (.goto 4, 3) := by decide +kernel
theorem dX12_isPlane_20 : decode cX12_isPlane 20 = .ok (.iconst 0, 1) := by decide +kernel
theorem dX12_isPlane_21 : decode cX12_isPlane 21 = .ok (.ireturn, 1) := by decide +kernel
theorem dX12_drawn_0 : decode cX12_drawn 0 = .ok (.iconst 0, 1) := by decide +kernel
theorem dX12_drawn_1 : decode cX12_drawn 1 = .ok (.istore_n 2, 1) := by decide +kernel
theorem dX12_drawn_2 : decode cX12_drawn 2 = .ok (.iload_n 2, 1) := by decide +kernel
theorem dX12_drawn_3 : decode cX12_drawn 3 = .ok (.iconst 1, 1) := by decide +kernel
theorem dX12_drawn_4 : decode cX12_drawn 4 = .ok (.aload_n 0, 1) := by decide +kernel
theorem dX12_drawn_5 : decode cX12_drawn 5 = .ok (.iload_n 1, 1) := by decide +kernel
theorem dX12_drawn_6 : decode cX12_drawn 6 = .ok (.invokevirtual 59, 3) := by decide +kernel
theorem dX12_drawn_9 : decode cX12_drawn 9 = .ok (.ishl, 1) := by decide +kernel
theorem dX12_drawn_10 : decode cX12_drawn 10 = .ok (.if_icmp .ge 20, 3) := by decide +kernel
theorem dX12_drawn_13 : decode cX12_drawn 13 = .ok (.aload_n 0, 1) := by decide +kernel
theorem dX12_drawn_14 : decode cX12_drawn 14 = .ok (.iload_n 1, 1) := by decide +kernel
theorem dX12_drawn_15 : decode cX12_drawn 15 = .ok (.iload_n 2, 1) := by decide +kernel
theorem dX12_drawn_16 : decode cX12_drawn 16 = .ok (.invokevirtual 162, 3) := by decide +kernel
theorem dX12_drawn_19 : decode cX12_drawn 19 = .ok (.ifCond .eq 5, 3) := by decide +kernel
theorem dX12_drawn_22 : decode cX12_drawn 22 = .ok (.iload_n 2, 1) := by decide +kernel
theorem dX12_drawn_23 : decode cX12_drawn 23 = .ok (.ireturn, 1) := by decide +kernel
theorem dX12_drawn_24 : decode cX12_drawn 24 = .ok (.iinc 2 1, 3) := by decide +kernel
theorem dX12_drawn_27 : decode cX12_drawn 27 = .ok (.goto (-25), 3) := by decide +kernel
theorem dX12_drawn_30 : decode cX12_drawn 30 = .ok (.iconst (-1), 1) := by decide +kernel
theorem dX12_drawn_31 : decode cX12_drawn 31 = .ok (.ireturn, 1) := by decide +kernel
theorem dX12_drawings_0 : decode cX12_drawings 0 = .ok (.iconst 0, 1) := by decide +kernel
theorem dX12_drawings_1 : decode cX12_drawings 1 = .ok (.istore_n 2, 1) := by decide +kernel
theorem dX12_drawings_2 : decode cX12_drawings 2 = .ok (.iconst 0, 1) := by decide +kernel
theorem dX12_drawings_3 : decode cX12_drawings 3 = .ok (.istore_n 3, 1) := by decide +kernel
theorem dX12_drawings_4 : decode cX12_drawings 4 = .ok (.iload_n 3, 1) := by decide +kernel
theorem dX12_drawings_5 : decode cX12_drawings 5 = .ok (.iconst 1, 1) := by decide +kernel
theorem dX12_drawings_6 : decode cX12_drawings 6 = .ok (.aload_n 0, 1) := by decide +kernel
theorem dX12_drawings_7 : decode cX12_drawings 7 = .ok (.iload_n 1, 1) := by decide +kernel
theorem dX12_drawings_8 : decode cX12_drawings 8 = .ok (.invokevirtual 59, 3) := by decide +kernel
theorem dX12_drawings_11 : decode cX12_drawings 11 = .ok (.ishl, 1) := by decide +kernel
theorem dX12_drawings_12 : decode cX12_drawings 12 = .ok (.if_icmp .ge 26, 3) := by decide +kernel
theorem dX12_drawings_15 : decode cX12_drawings 15 = .ok (.iload_n 2, 1) := by decide +kernel
theorem dX12_drawings_16 : decode cX12_drawings 16 = .ok (.aload_n 0, 1) := by decide +kernel
theorem dX12_drawings_17 : decode cX12_drawings 17 = .ok (.iload_n 1, 1) := by decide +kernel
theorem dX12_drawings_18 : decode cX12_drawings 18 = .ok (.iload_n 3, 1) := by decide +kernel
theorem dX12_drawings_19 : decode cX12_drawings 19 = .ok (.invokevirtual 162, 3) := by decide +kernel
theorem dX12_drawings_22 : decode cX12_drawings 22 = .ok (.ifCond .eq 7, 3) := by decide +kernel
theorem dX12_drawings_25 : decode cX12_drawings 25 = .ok (.iconst 1, 1) := by decide +kernel
theorem dX12_drawings_26 : decode cX12_drawings 26 = .ok (.goto 4, 3) := by decide +kernel
theorem dX12_drawings_29 : decode cX12_drawings 29 = .ok (.iconst 0, 1) := by decide +kernel
theorem dX12_drawings_30 : decode cX12_drawings 30 = .ok (.iadd, 1) := by decide +kernel
theorem dX12_drawings_31 : decode cX12_drawings 31 = .ok (.istore_n 2, 1) := by decide +kernel
theorem dX12_drawings_32 : decode cX12_drawings 32 = .ok (.iinc 3 1, 3) := by decide +kernel
theorem dX12_drawings_35 : decode cX12_drawings 35 = .ok (.goto (-31), 3) := by decide +kernel
theorem dX12_drawings_38 : decode cX12_drawings 38 = .ok (.iload_n 2, 1) := by decide +kernel
theorem dX12_drawings_39 : decode cX12_drawings 39 = .ok (.ireturn, 1) := by decide +kernel
theorem dX12_faceOf_0 : decode cX12_faceOf 0 = .ok (.iconst 0, 1) := by decide +kernel
theorem dX12_faceOf_1 : decode cX12_faceOf 1 = .ok (.istore_n 2, 1) := by decide +kernel
theorem dX12_faceOf_2 : decode cX12_faceOf 2 = .ok (.iconst 0, 1) := by decide +kernel
theorem dX12_faceOf_3 : decode cX12_faceOf 3 = .ok (.istore_n 3, 1) := by decide +kernel
theorem dX12_faceOf_4 : decode cX12_faceOf 4 = .ok (.iload_n 3, 1) := by decide +kernel
theorem dX12_faceOf_5 : decode cX12_faceOf 5 = .ok (.aload_n 0, 1) := by decide +kernel
theorem dX12_faceOf_6 : decode cX12_faceOf 6 = .ok (.getfield 36, 3) := by decide +kernel
theorem dX12_faceOf_9 : decode cX12_faceOf 9 = .ok (.iload_n 1, 1) := by decide +kernel
theorem dX12_faceOf_10 : decode cX12_faceOf 10 = .ok (.iaload, 1) := by decide +kernel
theorem dX12_faceOf_11 : decode cX12_faceOf 11 = .ok (.if_icmp .ge 27, 3) := by decide +kernel
theorem dX12_faceOf_14 : decode cX12_faceOf 14 = .ok (.iload_n 2, 1) := by decide +kernel
theorem dX12_faceOf_15 : decode cX12_faceOf 15 = .ok (.aload_n 0, 1) := by decide +kernel
theorem dX12_faceOf_16 : decode cX12_faceOf 16 = .ok (.getfield 36, 3) := by decide +kernel
theorem dX12_faceOf_19 : decode cX12_faceOf 19 = .ok (.iload_n 3, 1) := by decide +kernel
theorem dX12_faceOf_20 : decode cX12_faceOf 20 = .ok (.iaload, 1) := by decide +kernel
theorem dX12_faceOf_21 : decode cX12_faceOf 21 = .ok (.iload_n 3, 1) := by decide +kernel
theorem dX12_faceOf_22 : decode cX12_faceOf 22 = .ok (.if_icmp .ne 7, 3) := by decide +kernel
theorem dX12_faceOf_25 : decode cX12_faceOf 25 = .ok (.iconst 1, 1) := by decide +kernel
theorem dX12_faceOf_26 : decode cX12_faceOf 26 = .ok (.goto 4, 3) := by decide +kernel
theorem dX12_faceOf_29 : decode cX12_faceOf 29 = .ok (.iconst 0, 1) := by decide +kernel
theorem dX12_faceOf_30 : decode cX12_faceOf 30 = .ok (.iadd, 1) := by decide +kernel
theorem dX12_faceOf_31 : decode cX12_faceOf 31 = .ok (.istore_n 2, 1) := by decide +kernel
theorem dX12_faceOf_32 : decode cX12_faceOf 32 = .ok (.iinc 3 1, 3) := by decide +kernel
theorem dX12_faceOf_35 : decode cX12_faceOf 35 = .ok (.goto (-31), 3) := by decide +kernel
theorem dX12_faceOf_38 : decode cX12_faceOf 38 = .ok (.iload_n 2, 1) := by decide +kernel
theorem dX12_faceOf_39 : decode cX12_faceOf 39 = .ok (.ireturn, 1) := by decide +kernel
theorem dX12_sizeOfFace_0 : decode cX12_sizeOfFace 0 = .ok (.iconst 0, 1) := by decide +kernel
theorem dX12_sizeOfFace_1 : decode cX12_sizeOfFace 1 = .ok (.istore_n 3, 1) := by decide +kernel
theorem dX12_sizeOfFace_2 : decode cX12_sizeOfFace 2 = .ok (.iconst 0, 1) := by decide +kernel
theorem dX12_sizeOfFace_3 : decode cX12_sizeOfFace 3 = .ok (.istore 4, 2) := by decide +kernel
theorem dX12_sizeOfFace_5 : decode cX12_sizeOfFace 5 = .ok (.iload 4, 2) := by decide +kernel
theorem dX12_sizeOfFace_7 : decode cX12_sizeOfFace 7 = .ok (.iconst 4, 1) := by decide +kernel
theorem dX12_sizeOfFace_8 : decode cX12_sizeOfFace 8 = .ok (.aload_n 0, 1) := by decide +kernel
theorem dX12_sizeOfFace_9 : decode cX12_sizeOfFace 9 = .ok (.iload_n 1, 1) := by decide +kernel
theorem dX12_sizeOfFace_10 : decode cX12_sizeOfFace 10 = .ok (.invokevirtual 59, 3) := by decide +kernel
theorem dX12_sizeOfFace_13 : decode cX12_sizeOfFace 13 = .ok (.imul, 1) := by decide +kernel
theorem dX12_sizeOfFace_14 : decode cX12_sizeOfFace 14 = .ok (.if_icmp .ge 27, 3) := by decide +kernel
theorem dX12_sizeOfFace_17 : decode cX12_sizeOfFace 17 = .ok (.iload_n 3, 1) := by decide +kernel
theorem dX12_sizeOfFace_18 : decode cX12_sizeOfFace 18 = .ok (.aload_n 0, 1) := by decide +kernel
theorem dX12_sizeOfFace_19 : decode cX12_sizeOfFace 19 = .ok (.iload 4, 2) := by decide +kernel
theorem dX12_sizeOfFace_21 : decode cX12_sizeOfFace 21 = .ok (.invokevirtual 165, 3) := by decide +kernel
theorem dX12_sizeOfFace_24 : decode cX12_sizeOfFace 24 = .ok (.iload_n 2, 1) := by decide +kernel
theorem dX12_sizeOfFace_25 : decode cX12_sizeOfFace 25 = .ok (.if_icmp .ne 7, 3) := by decide +kernel
theorem dX12_sizeOfFace_28 : decode cX12_sizeOfFace 28 = .ok (.iconst 1, 1) := by decide +kernel
theorem dX12_sizeOfFace_29 : decode cX12_sizeOfFace 29 = .ok (.goto 4, 3) := by decide +kernel
theorem dX12_sizeOfFace_32 : decode cX12_sizeOfFace 32 = .ok (.iconst 0, 1) := by decide +kernel
theorem dX12_sizeOfFace_33 : decode cX12_sizeOfFace 33 = .ok (.iadd, 1) := by decide +kernel
theorem dX12_sizeOfFace_34 : decode cX12_sizeOfFace 34 = .ok (.istore_n 3, 1) := by decide +kernel
theorem dX12_sizeOfFace_35 : decode cX12_sizeOfFace 35 = .ok (.iinc 4 1, 3) := by decide +kernel
theorem dX12_sizeOfFace_38 : decode cX12_sizeOfFace 38 = .ok (.goto (-33), 3) := by decide +kernel
theorem dX12_sizeOfFace_41 : decode cX12_sizeOfFace 41 = .ok (.iload_n 3, 1) := by decide +kernel
theorem dX12_sizeOfFace_42 : decode cX12_sizeOfFace 42 = .ok (.ireturn, 1) := by decide +kernel
theorem dX12_facesOfSize_0 : decode cX12_facesOfSize 0 = .ok (.aload_n 0, 1) := by decide +kernel
theorem dX12_facesOfSize_1 : decode cX12_facesOfSize 1 = .ok (.iload_n 1, 1) := by decide +kernel
theorem dX12_facesOfSize_2 : decode cX12_facesOfSize 2 = .ok (.aload_n 0, 1) := by decide +kernel
theorem dX12_facesOfSize_3 : decode cX12_facesOfSize 3 = .ok (.iload_n 1, 1) := by decide +kernel
theorem dX12_facesOfSize_4 : decode cX12_facesOfSize 4 = .ok (.invokevirtual 168, 3) := by decide +kernel
theorem dX12_facesOfSize_7 : decode cX12_facesOfSize 7 = .ok (.invokevirtual 159, 3) := by decide +kernel
theorem dX12_facesOfSize_10 : decode cX12_facesOfSize 10 = .ok (.istore_n 3, 1) := by decide +kernel
theorem dX12_facesOfSize_11 : decode cX12_facesOfSize 11 = .ok (.iconst 0, 1) := by decide +kernel
theorem dX12_facesOfSize_12 : decode cX12_facesOfSize 12 = .ok (.istore 4, 2) := by decide +kernel
theorem dX12_facesOfSize_14 : decode cX12_facesOfSize 14 = .ok (.iconst 0, 1) := by decide +kernel
theorem dX12_facesOfSize_15 : decode cX12_facesOfSize 15 = .ok (.istore 5, 2) := by decide +kernel
theorem dX12_facesOfSize_17 : decode cX12_facesOfSize 17 = .ok (.iload 5, 2) := by decide +kernel
theorem dX12_facesOfSize_19 : decode cX12_facesOfSize 19 = .ok (.iload_n 3, 1) := by decide +kernel
theorem dX12_facesOfSize_20 : decode cX12_facesOfSize 20 = .ok (.if_icmp .ge 30, 3) := by decide +kernel
theorem dX12_facesOfSize_23 : decode cX12_facesOfSize 23 = .ok (.iload 4, 2) := by decide +kernel
theorem dX12_facesOfSize_25 : decode cX12_facesOfSize 25 = .ok (.aload_n 0, 1) := by decide +kernel
theorem dX12_facesOfSize_26 : decode cX12_facesOfSize 26 = .ok (.iload_n 1, 1) := by decide +kernel
theorem dX12_facesOfSize_27 : decode cX12_facesOfSize 27 = .ok (.iload 5, 2) := by decide +kernel
theorem dX12_facesOfSize_29 : decode cX12_facesOfSize 29 = .ok (.invokevirtual 171, 3) := by decide +kernel
theorem dX12_facesOfSize_32 : decode cX12_facesOfSize 32 = .ok (.iload_n 2, 1) := by decide +kernel
theorem dX12_facesOfSize_33 : decode cX12_facesOfSize 33 = .ok (.if_icmp .ne 7, 3) := by decide +kernel
theorem dX12_facesOfSize_36 : decode cX12_facesOfSize 36 = .ok (.iconst 1, 1) := by decide +kernel
theorem dX12_facesOfSize_37 : decode cX12_facesOfSize 37 = .ok (.goto 4, 3) := by decide +kernel
theorem dX12_facesOfSize_40 : decode cX12_facesOfSize 40 = .ok (.iconst 0, 1) := by decide +kernel
theorem dX12_facesOfSize_41 : decode cX12_facesOfSize 41 = .ok (.iadd, 1) := by decide +kernel
theorem dX12_facesOfSize_42 : decode cX12_facesOfSize 42 = .ok (.istore 4, 2) := by decide +kernel
theorem dX12_facesOfSize_44 : decode cX12_facesOfSize 44 = .ok (.iinc 5 1, 3) := by decide +kernel
theorem dX12_facesOfSize_47 : decode cX12_facesOfSize 47 = .ok (.goto (-30), 3) := by decide +kernel
theorem dX12_facesOfSize_50 : decode cX12_facesOfSize 50 = .ok (.iload 4, 2) := by decide +kernel
theorem dX12_facesOfSize_52 : decode cX12_facesOfSize 52 = .ok (.ireturn, 1) := by decide +kernel
theorem dX12_tellsIndex_0 : decode cX12_tellsIndex 0 = .ok (.aload_n 0, 1) := by decide +kernel
theorem dX12_tellsIndex_1 : decode cX12_tellsIndex 1 = .ok (.getfield 42, 3) := by decide +kernel
theorem dX12_tellsIndex_4 : decode cX12_tellsIndex 4 = .ok (.iload_n 1, 1) := by decide +kernel
theorem dX12_tellsIndex_5 : decode cX12_tellsIndex 5 = .ok (.baload, 1) := by decide +kernel
theorem dX12_tellsIndex_6 : decode cX12_tellsIndex 6 = .ok (.ifCond .eq 38, 3) := by decide +kernel
theorem dX12_tellsIndex_9 : decode cX12_tellsIndex 9 = .ok (.aload_n 0, 1) := by decide +kernel
theorem dX12_tellsIndex_10 : decode cX12_tellsIndex 10 = .ok (.getfield 42, 3) := by decide +kernel
theorem dX12_tellsIndex_13 : decode cX12_tellsIndex 13 = .ok (.iload_n 2, 1) := by decide +kernel
theorem dX12_tellsIndex_14 : decode cX12_tellsIndex 14 = .ok (.baload, 1) := by decide +kernel
theorem dX12_tellsIndex_15 : decode cX12_tellsIndex 15 = .ok (.ifCond .ne 29, 3) := by decide +kernel
theorem dX12_tellsIndex_18 : decode cX12_tellsIndex 18 = .ok (.aload_n 0, 1) := by decide +kernel
theorem dX12_tellsIndex_19 : decode cX12_tellsIndex 19 = .ok (.getfield 39, 3) := by decide +kernel
theorem dX12_tellsIndex_22 : decode cX12_tellsIndex 22 = .ok (.iload_n 2, 1) := by decide +kernel
theorem dX12_tellsIndex_23 : decode cX12_tellsIndex 23 = .ok (.aload_n 0, 1) := by decide +kernel
theorem dX12_tellsIndex_24 : decode cX12_tellsIndex 24 = .ok (.getfield 39, 3) := by decide +kernel
theorem dX12_tellsIndex_27 : decode cX12_tellsIndex 27 = .ok (.iload_n 1, 1) := by decide +kernel
theorem dX12_tellsIndex_28 : decode cX12_tellsIndex 28 = .ok (.iaload, 1) := by decide +kernel
theorem dX12_tellsIndex_29 : decode cX12_tellsIndex 29 = .ok (.iload_n 3, 1) := by decide +kernel
theorem dX12_tellsIndex_30 : decode cX12_tellsIndex 30 = .ok (.iadd, 1) := by decide +kernel
theorem dX12_tellsIndex_31 : decode cX12_tellsIndex 31 = .ok (.iastore, 1) := by decide +kernel
theorem dX12_tellsIndex_32 : decode cX12_tellsIndex 32 = .ok (.aload_n 0, 1) := by decide +kernel
theorem dX12_tellsIndex_33 : decode cX12_tellsIndex 33 = .ok (.getfield 42, 3) := by decide +kernel
theorem dX12_tellsIndex_36 : decode cX12_tellsIndex 36 = .ok (.iload_n 2, 1) := by decide +kernel
theorem dX12_tellsIndex_37 : decode cX12_tellsIndex 37 = .ok (.iconst 1, 1) := by decide +kernel
theorem dX12_tellsIndex_38 : decode cX12_tellsIndex 38 = .ok (.bastore, 1) := by decide +kernel
theorem dX12_tellsIndex_39 : decode cX12_tellsIndex 39 = .ok (.aload_n 0, 1) := by decide +kernel
theorem dX12_tellsIndex_40 : decode cX12_tellsIndex 40 = .ok (.iconst 1, 1) := by decide +kernel
theorem dX12_tellsIndex_41 : decode cX12_tellsIndex 41 = .ok (.putfield 112, 3) := by decide +kernel
theorem dX12_tellsIndex_44 : decode cX12_tellsIndex 44 = .ok (.return_, 1) := by decide +kernel
theorem dX12_laysIndices_0 : decode cX12_laysIndices 0 = .ok (.aload_n 0, 1) := by decide +kernel
theorem dX12_laysIndices_1 : decode cX12_laysIndices 1 = .ok (.iload_n 1, 1) := by decide +kernel
theorem dX12_laysIndices_2 : decode cX12_laysIndices 2 = .ok (.aload_n 0, 1) := by decide +kernel
theorem dX12_laysIndices_3 : decode cX12_laysIndices 3 = .ok (.iload_n 1, 1) := by decide +kernel
theorem dX12_laysIndices_4 : decode cX12_laysIndices 4 = .ok (.invokevirtual 168, 3) := by decide +kernel
theorem dX12_laysIndices_7 : decode cX12_laysIndices 7 = .ok (.invokevirtual 159, 3) := by decide +kernel
theorem dX12_laysIndices_10 : decode cX12_laysIndices 10 = .ok (.istore_n 2, 1) := by decide +kernel
theorem dX12_laysIndices_11 : decode cX12_laysIndices 11 = .ok (.iconst 0, 1) := by decide +kernel
theorem dX12_laysIndices_12 : decode cX12_laysIndices 12 = .ok (.istore_n 3, 1) := by decide +kernel
theorem dX12_laysIndices_13 : decode cX12_laysIndices 13 = .ok (.iload_n 3, 1) := by decide +kernel
theorem dX12_laysIndices_14 : decode cX12_laysIndices 14 = .ok (.iload_n 2, 1) := by decide +kernel
theorem dX12_laysIndices_15 : decode cX12_laysIndices 15 = .ok (.if_icmp .ge 31, 3) := by decide +kernel
theorem dX12_laysIndices_18 : decode cX12_laysIndices 18 = .ok (.aload_n 0, 1) := by decide +kernel
theorem dX12_laysIndices_19 : decode cX12_laysIndices 19 = .ok (.getfield 42, 3) := by decide +kernel
theorem dX12_laysIndices_22 : decode cX12_laysIndices 22 = .ok (.iload_n 3, 1) := by decide +kernel
theorem dX12_laysIndices_23 : decode cX12_laysIndices 23 = .ok (.iload_n 3, 1) := by decide +kernel
theorem dX12_laysIndices_24 : decode cX12_laysIndices 24 = .ok (.ifCond .ne 7, 3) := by decide +kernel
theorem dX12_laysIndices_27 : decode cX12_laysIndices 27 = .ok (.iconst 1, 1) := by decide +kernel
theorem dX12_laysIndices_28 : decode cX12_laysIndices 28 = .ok (.goto 4, 3) := by decide +kernel
theorem dX12_laysIndices_31 : decode cX12_laysIndices 31 = .ok (.iconst 0, 1) := by decide +kernel
theorem dX12_laysIndices_32 : decode cX12_laysIndices 32 = .ok (.bastore, 1) := by decide +kernel
theorem dX12_laysIndices_33 : decode cX12_laysIndices 33 = .ok (.aload_n 0, 1) := by decide +kernel
theorem dX12_laysIndices_34 : decode cX12_laysIndices 34 = .ok (.getfield 39, 3) := by decide +kernel
theorem dX12_laysIndices_37 : decode cX12_laysIndices 37 = .ok (.iload_n 3, 1) := by decide +kernel
theorem dX12_laysIndices_38 : decode cX12_laysIndices 38 = .ok (.iconst 0, 1) := by decide +kernel
theorem dX12_laysIndices_39 : decode cX12_laysIndices 39 = .ok (.iastore, 1) := by decide +kernel
theorem dX12_laysIndices_40 : decode cX12_laysIndices 40 = .ok (.iinc 3 1, 3) := by decide +kernel
theorem dX12_laysIndices_43 : decode cX12_laysIndices 43 = .ok (.goto (-30), 3) := by decide +kernel
theorem dX12_laysIndices_46 : decode cX12_laysIndices 46 = .ok (.aload_n 0, 1) := by decide +kernel
theorem dX12_laysIndices_47 : decode cX12_laysIndices 47 = .ok (.iload_n 1, 1) := by decide +kernel
theorem dX12_laysIndices_48 : decode cX12_laysIndices 48 = .ok (.invokevirtual 59, 3) := by decide +kernel
theorem dX12_laysIndices_51 : decode cX12_laysIndices 51 = .ok (.ifCond .ne 10, 3) := by decide +kernel
theorem dX12_laysIndices_54 : decode cX12_laysIndices 54 = .ok (.aload_n 0, 1) := by decide +kernel
theorem dX12_laysIndices_55 : decode cX12_laysIndices 55 = .ok (.getfield 39, 3) := by decide +kernel
theorem dX12_laysIndices_58 : decode cX12_laysIndices 58 = .ok (.iconst 1, 1) := by decide +kernel
theorem dX12_laysIndices_59 : decode cX12_laysIndices 59 = .ok (.iconst (-1), 1) := by decide +kernel
theorem dX12_laysIndices_60 : decode cX12_laysIndices 60 = .ok (.iastore, 1) := by decide +kernel
theorem dX12_laysIndices_61 : decode cX12_laysIndices 61 = .ok (.aload_n 0, 1) := by decide +kernel
theorem dX12_laysIndices_62 : decode cX12_laysIndices 62 = .ok (.iconst 1, 1) := by decide +kernel
theorem dX12_laysIndices_63 : decode cX12_laysIndices 63 = .ok (.putfield 112, 3) := by decide +kernel
theorem dX12_laysIndices_66 : decode cX12_laysIndices 66 = .ok (.aload_n 0, 1) := by decide +kernel
theorem dX12_laysIndices_67 : decode cX12_laysIndices 67 = .ok (.getfield 112, 3) := by decide +kernel
theorem dX12_laysIndices_70 : decode cX12_laysIndices 70 = .ok (.ifCond .eq 72, 3) := by decide +kernel
theorem dX12_laysIndices_73 : decode cX12_laysIndices 73 = .ok (.aload_n 0, 1) := by decide +kernel
theorem dX12_laysIndices_74 : decode cX12_laysIndices 74 = .ok (.iconst 0, 1) := by decide +kernel
theorem dX12_laysIndices_75 : decode cX12_laysIndices 75 = .ok (.putfield 112, 3) := by decide +kernel
theorem dX12_laysIndices_78 : decode cX12_laysIndices 78 = .ok (.iconst 0, 1) := by decide +kernel
theorem dX12_laysIndices_79 : decode cX12_laysIndices 79 = .ok (.istore_n 3, 1) := by decide +kernel
theorem dX12_laysIndices_80 : decode cX12_laysIndices 80 = .ok (.iload_n 3, 1) := by decide +kernel
theorem dX12_laysIndices_81 : decode cX12_laysIndices 81 = .ok (.iconst 2, 1) := by decide +kernel
theorem dX12_laysIndices_82 : decode cX12_laysIndices 82 = .ok (.aload_n 0, 1) := by decide +kernel
theorem dX12_laysIndices_83 : decode cX12_laysIndices 83 = .ok (.iload_n 1, 1) := by decide +kernel
theorem dX12_laysIndices_84 : decode cX12_laysIndices 84 = .ok (.invokevirtual 59, 3) := by decide +kernel
theorem dX12_laysIndices_87 : decode cX12_laysIndices 87 = .ok (.imul, 1) := by decide +kernel
theorem dX12_laysIndices_88 : decode cX12_laysIndices 88 = .ok (.if_icmp .ge 51, 3) := by decide +kernel
theorem dX12_laysIndices_91 : decode cX12_laysIndices 91 = .ok (.aload_n 0, 1) := by decide +kernel
theorem dX12_laysIndices_92 : decode cX12_laysIndices 92 = .ok (.aload_n 0, 1) := by decide +kernel
theorem dX12_laysIndices_93 : decode cX12_laysIndices 93 = .ok (.iload_n 1, 1) := by decide +kernel
theorem dX12_laysIndices_94 : decode cX12_laysIndices 94 = .ok (.iload_n 3, 1) := by decide +kernel
theorem dX12_laysIndices_95 : decode cX12_laysIndices 95 = .ok (.invokevirtual 147, 3) := by decide +kernel
theorem dX12_laysIndices_98 : decode cX12_laysIndices 98 = .ok (.invokevirtual 165, 3) := by decide +kernel
theorem dX12_laysIndices_101 : decode cX12_laysIndices 101 = .ok (.istore 4, 2) := by decide +kernel
theorem dX12_laysIndices_103 : decode cX12_laysIndices 103 = .ok (.aload_n 0, 1) := by decide +kernel
theorem dX12_laysIndices_104 : decode cX12_laysIndices 104 = .ok (.aload_n 0, 1) := by decide +kernel
theorem dX12_laysIndices_105 : decode cX12_laysIndices 105 = .ok (.iload_n 1, 1) := by decide +kernel
theorem dX12_laysIndices_106 : decode cX12_laysIndices 106 = .ok (.iload_n 3, 1) := by decide +kernel
theorem dX12_laysIndices_107 : decode cX12_laysIndices 107 = .ok (.invokevirtual 153, 3) := by decide +kernel
theorem dX12_laysIndices_110 : decode cX12_laysIndices 110 = .ok (.invokevirtual 165, 3) := by decide +kernel
theorem dX12_laysIndices_113 : decode cX12_laysIndices 113 = .ok (.istore 5, 2) := by decide +kernel
theorem dX12_laysIndices_115 : decode cX12_laysIndices 115 = .ok (.aload_n 0, 1) := by decide +kernel
theorem dX12_laysIndices_116 : decode cX12_laysIndices 116 = .ok (.iload 4, 2) := by decide +kernel
theorem dX12_laysIndices_118 : decode cX12_laysIndices 118 = .ok (.iload 5, 2) := by decide +kernel
theorem dX12_laysIndices_120 : decode cX12_laysIndices 120 = .ok (.iconst (-1), 1) := by decide +kernel
theorem dX12_laysIndices_121 : decode cX12_laysIndices 121 = .ok (.invokevirtual 174, 3) := by decide +kernel
theorem dX12_laysIndices_124 : decode cX12_laysIndices 124 = .ok (.aload_n 0, 1) := by decide +kernel
theorem dX12_laysIndices_125 : decode cX12_laysIndices 125 = .ok (.iload 5, 2) := by decide +kernel
theorem dX12_laysIndices_127 : decode cX12_laysIndices 127 = .ok (.iload 4, 2) := by decide +kernel
theorem dX12_laysIndices_129 : decode cX12_laysIndices 129 = .ok (.iconst 1, 1) := by decide +kernel
theorem dX12_laysIndices_130 : decode cX12_laysIndices 130 = .ok (.invokevirtual 174, 3) := by decide +kernel
theorem dX12_laysIndices_133 : decode cX12_laysIndices 133 = .ok (.iinc 3 1, 3) := by decide +kernel
theorem dX12_laysIndices_136 : decode cX12_laysIndices 136 = .ok (.goto (-56), 3) := by decide +kernel
theorem dX12_laysIndices_139 : decode cX12_laysIndices 139 = .ok (.goto (-73), 3) := by decide +kernel
theorem dX12_laysIndices_142 : decode cX12_laysIndices 142 = .ok (.return_, 1) := by decide +kernel
theorem dX12_isDark_0 : decode cX12_isDark 0 = .ok (.aload_n 0, 1) := by decide +kernel
theorem dX12_isDark_1 : decode cX12_isDark 1 = .ok (.iload_n 1, 1) := by decide +kernel
theorem dX12_isDark_2 : decode cX12_isDark 2 = .ok (.invokevirtual 59, 3) := by decide +kernel
theorem dX12_isDark_5 : decode cX12_isDark 5 = .ok (.ifCond .ne 7, 3) := by decide +kernel
theorem dX12_isDark_8 : decode cX12_isDark 8 = .ok (.iconst 0, 1) := by decide +kernel
theorem dX12_isDark_9 : decode cX12_isDark 9 = .ok (.goto 13, 3) := by decide +kernel
theorem dX12_isDark_12 : decode cX12_isDark 12 = .ok (.aload_n 0, 1) := by decide +kernel
theorem dX12_isDark_13 : decode cX12_isDark 13 = .ok (.aload_n 0, 1) := by decide +kernel
theorem dX12_isDark_14 : decode cX12_isDark 14 = .ok (.iload_n 1, 1) := by decide +kernel
theorem dX12_isDark_15 : decode cX12_isDark 15 = .ok (.iconst 0, 1) := by decide +kernel
theorem dX12_isDark_16 : decode cX12_isDark 16 = .ok (.invokevirtual 147, 3) := by decide +kernel
theorem dX12_isDark_19 : decode cX12_isDark 19 = .ok (.invokevirtual 165, 3) := by decide +kernel
theorem dX12_isDark_22 : decode cX12_isDark 22 = .ok (.istore_n 3, 1) := by decide +kernel
theorem dX12_isDark_23 : decode cX12_isDark 23 = .ok (.aload_n 0, 1) := by decide +kernel
theorem dX12_isDark_24 : decode cX12_isDark 24 = .ok (.getfield 39, 3) := by decide +kernel
theorem dX12_isDark_27 : decode cX12_isDark 27 = .ok (.iload_n 2, 1) := by decide +kernel
theorem dX12_isDark_28 : decode cX12_isDark 28 = .ok (.iaload, 1) := by decide +kernel
theorem dX12_isDark_29 : decode cX12_isDark 29 = .ok (.aload_n 0, 1) := by decide +kernel
theorem dX12_isDark_30 : decode cX12_isDark 30 = .ok (.getfield 39, 3) := by decide +kernel
theorem dX12_isDark_33 : decode cX12_isDark 33 = .ok (.iload_n 3, 1) := by decide +kernel
theorem dX12_isDark_34 : decode cX12_isDark 34 = .ok (.iaload, 1) := by decide +kernel
theorem dX12_isDark_35 : decode cX12_isDark 35 = .ok (.isub, 1) := by decide +kernel
theorem dX12_isDark_36 : decode cX12_isDark 36 = .ok (.iconst 2, 1) := by decide +kernel
theorem dX12_isDark_37 : decode cX12_isDark 37 = .ok (.irem, 1) := by decide +kernel
theorem dX12_isDark_38 : decode cX12_isDark 38 = .ok (.ifCond .ne 7, 3) := by decide +kernel
theorem dX12_isDark_41 : decode cX12_isDark 41 = .ok (.iconst 1, 1) := by decide +kernel
theorem dX12_isDark_42 : decode cX12_isDark 42 = .ok (.goto 4, 3) := by decide +kernel
theorem dX12_isDark_45 : decode cX12_isDark 45 = .ok (.iconst 0, 1) := by decide +kernel
theorem dX12_isDark_46 : decode cX12_isDark 46 = .ok (.ireturn, 1) := by decide +kernel
theorem dX12_middle_0 : decode cX12_middle 0 = .ok (.iconst 0, 1) := by decide +kernel
theorem dX12_middle_1 : decode cX12_middle 1 = .ok (.istore_n 2, 1) := by decide +kernel
theorem dX12_middle_2 : decode cX12_middle 2 = .ok (.iconst 0, 1) := by decide +kernel
theorem dX12_middle_3 : decode cX12_middle 3 = .ok (.istore_n 3, 1) := by decide +kernel
theorem dX12_middle_4 : decode cX12_middle 4 = .ok (.iload_n 3, 1) := by decide +kernel
theorem dX12_middle_5 : decode cX12_middle 5 = .ok (.iconst 4, 1) := by decide +kernel
theorem dX12_middle_6 : decode cX12_middle 6 = .ok (.if_icmp .ge 26, 3) := by decide +kernel
theorem dX12_middle_9 : decode cX12_middle 9 = .ok (.iload_n 2, 1) := by decide +kernel
theorem dX12_middle_10 : decode cX12_middle 10 = .ok (.aload_n 0, 1) := by decide +kernel
theorem dX12_middle_11 : decode cX12_middle 11 = .ok (.getfield 39, 3) := by decide +kernel
theorem dX12_middle_14 : decode cX12_middle 14 = .ok (.aload_n 0, 1) := by decide +kernel
theorem dX12_middle_15 : decode cX12_middle 15 = .ok (.iconst 4, 1) := by decide +kernel
theorem dX12_middle_16 : decode cX12_middle 16 = .ok (.iload_n 1, 1) := by decide +kernel
theorem dX12_middle_17 : decode cX12_middle 17 = .ok (.imul, 1) := by decide +kernel
theorem dX12_middle_18 : decode cX12_middle 18 = .ok (.iload_n 3, 1) := by decide +kernel
theorem dX12_middle_19 : decode cX12_middle 19 = .ok (.iadd, 1) := by decide +kernel
theorem dX12_middle_20 : decode cX12_middle 20 = .ok (.invokevirtual 165, 3) := by decide +kernel
theorem dX12_middle_23 : decode cX12_middle 23 = .ok (.iaload, 1) := by decide +kernel
theorem dX12_middle_24 : decode cX12_middle 24 = .ok (.iadd, 1) := by decide +kernel
theorem dX12_middle_25 : decode cX12_middle 25 = .ok (.istore_n 2, 1) := by decide +kernel
theorem dX12_middle_26 : decode cX12_middle 26 = .ok (.iinc 3 1, 3) := by decide +kernel
theorem dX12_middle_29 : decode cX12_middle 29 = .ok (.goto (-25), 3) := by decide +kernel
theorem dX12_middle_32 : decode cX12_middle 32 = .ok (.iload_n 2, 1) := by decide +kernel
theorem dX12_middle_33 : decode cX12_middle 33 = .ok (.iconst 4, 1) := by decide +kernel
theorem dX12_middle_34 : decode cX12_middle 34 = .ok (.idiv, 1) := by decide +kernel
theorem dX12_middle_35 : decode cX12_middle 35 = .ok (.ireturn, 1) := by decide +kernel
theorem dX12_turns_0 : decode cX12_turns 0 = .ok (.iconst 0, 1) := by decide +kernel
theorem dX12_turns_1 : decode cX12_turns 1 = .ok (.istore_n 3, 1) := by decide +kernel
theorem dX12_turns_2 : decode cX12_turns 2 = .ok (.iconst 0, 1) := by decide +kernel
theorem dX12_turns_3 : decode cX12_turns 3 = .ok (.istore 4, 2) := by decide +kernel
theorem dX12_turns_5 : decode cX12_turns 5 = .ok (.iload 4, 2) := by decide +kernel
theorem dX12_turns_7 : decode cX12_turns 7 = .ok (.aload_n 0, 1) := by decide +kernel
theorem dX12_turns_8 : decode cX12_turns 8 = .ok (.iload_n 1, 1) := by decide +kernel
theorem dX12_turns_9 : decode cX12_turns 9 = .ok (.invokevirtual 59, 3) := by decide +kernel
theorem dX12_turns_12 : decode cX12_turns 12 = .ok (.iconst 2, 1) := by decide +kernel
theorem dX12_turns_13 : decode cX12_turns 13 = .ok (.iadd, 1) := by decide +kernel
theorem dX12_turns_14 : decode cX12_turns 14 = .ok (.if_icmp .ge 19, 3) := by decide +kernel
theorem dX12_turns_17 : decode cX12_turns 17 = .ok (.iload_n 3, 1) := by decide +kernel
theorem dX12_turns_18 : decode cX12_turns 18 = .ok (.aload_n 0, 1) := by decide +kernel
theorem dX12_turns_19 : decode cX12_turns 19 = .ok (.getfield 39, 3) := by decide +kernel
theorem dX12_turns_22 : decode cX12_turns 22 = .ok (.iload 4, 2) := by decide +kernel
theorem dX12_turns_24 : decode cX12_turns 24 = .ok (.iaload, 1) := by decide +kernel
theorem dX12_turns_25 : decode cX12_turns 25 = .ok (.iadd, 1) := by decide +kernel
theorem dX12_turns_26 : decode cX12_turns 26 = .ok (.istore_n 3, 1) := by decide +kernel
theorem dX12_turns_27 : decode cX12_turns 27 = .ok (.iinc 4 1, 3) := by decide +kernel
theorem dX12_turns_30 : decode cX12_turns 30 = .ok (.goto (-25), 3) := by decide +kernel
theorem dX12_turns_33 : decode cX12_turns 33 = .ok (.iconst 0, 1) := by decide +kernel
theorem dX12_turns_34 : decode cX12_turns 34 = .ok (.istore 4, 2) := by decide +kernel
theorem dX12_turns_36 : decode cX12_turns 36 = .ok (.iload 4, 2) := by decide +kernel
theorem dX12_turns_38 : decode cX12_turns 38 = .ok (.aload_n 0, 1) := by decide +kernel
theorem dX12_turns_39 : decode cX12_turns 39 = .ok (.iload_n 1, 1) := by decide +kernel
theorem dX12_turns_40 : decode cX12_turns 40 = .ok (.invokevirtual 59, 3) := by decide +kernel
theorem dX12_turns_43 : decode cX12_turns 43 = .ok (.if_icmp .ge 18, 3) := by decide +kernel
theorem dX12_turns_46 : decode cX12_turns 46 = .ok (.iload_n 3, 1) := by decide +kernel
theorem dX12_turns_47 : decode cX12_turns 47 = .ok (.aload_n 0, 1) := by decide +kernel
theorem dX12_turns_48 : decode cX12_turns 48 = .ok (.iload 4, 2) := by decide +kernel
theorem dX12_turns_50 : decode cX12_turns 50 = .ok (.invokevirtual 178, 3) := by decide +kernel
theorem dX12_turns_53 : decode cX12_turns 53 = .ok (.isub, 1) := by decide +kernel
theorem dX12_turns_54 : decode cX12_turns 54 = .ok (.istore_n 3, 1) := by decide +kernel
theorem dX12_turns_55 : decode cX12_turns 55 = .ok (.iinc 4 1, 3) := by decide +kernel
theorem dX12_turns_58 : decode cX12_turns 58 = .ok (.goto (-22), 3) := by decide +kernel
theorem dX12_turns_61 : decode cX12_turns 61 = .ok (.iload_n 3, 1) := by decide +kernel
theorem dX12_turns_62 : decode cX12_turns 62 = .ok (.iconst 2, 1) := by decide +kernel
theorem dX12_turns_63 : decode cX12_turns 63 = .ok (.aload_n 0, 1) := by decide +kernel
theorem dX12_turns_64 : decode cX12_turns 64 = .ok (.getfield 39, 3) := by decide +kernel
theorem dX12_turns_67 : decode cX12_turns 67 = .ok (.iload_n 2, 1) := by decide +kernel
theorem dX12_turns_68 : decode cX12_turns 68 = .ok (.iaload, 1) := by decide +kernel
theorem dX12_turns_69 : decode cX12_turns 69 = .ok (.imul, 1) := by decide +kernel
theorem dX12_turns_70 : decode cX12_turns 70 = .ok (.isub, 1) := by decide +kernel
theorem dX12_turns_71 : decode cX12_turns 71 = .ok (.ireturn, 1) := by decide +kernel
theorem dX12_joinedBy_0 : decode cX12_joinedBy 0 = .ok (.iconst 0, 1) := by decide +kernel
theorem dX12_joinedBy_1 : decode cX12_joinedBy 1 = .ok (.istore 4, 2) := by decide +kernel
theorem dX12_joinedBy_3 : decode cX12_joinedBy 3 = .ok (.iconst 0, 1) := by decide +kernel
theorem dX12_joinedBy_4 : decode cX12_joinedBy 4 = .ok (.istore 5, 2) := by decide +kernel
theorem dX12_joinedBy_6 : decode cX12_joinedBy 6 = .ok (.iload 5, 2) := by decide +kernel
theorem dX12_joinedBy_8 : decode cX12_joinedBy 8 = .ok (.aload_n 0, 1) := by decide +kernel
theorem dX12_joinedBy_9 : decode cX12_joinedBy 9 = .ok (.iload_n 1, 1) := by decide +kernel
theorem dX12_joinedBy_10 : decode cX12_joinedBy 10 = .ok (.invokevirtual 59, 3) := by decide +kernel
theorem dX12_joinedBy_13 : decode cX12_joinedBy 13 = .ok (.iconst 2, 1) := by decide +kernel
theorem dX12_joinedBy_14 : decode cX12_joinedBy 14 = .ok (.iadd, 1) := by decide +kernel
theorem dX12_joinedBy_15 : decode cX12_joinedBy 15 = .ok (.if_icmp .ge 39, 3) := by decide +kernel
theorem dX12_joinedBy_18 : decode cX12_joinedBy 18 = .ok (.aload_n 0, 1) := by decide +kernel
theorem dX12_joinedBy_19 : decode cX12_joinedBy 19 = .ok (.getfield 45, 3) := by decide +kernel
theorem dX12_joinedBy_22 : decode cX12_joinedBy 22 = .ok (.iload 5, 2) := by decide +kernel
theorem dX12_joinedBy_24 : decode cX12_joinedBy 24 = .ok (.iload 5, 2) := by decide +kernel
theorem dX12_joinedBy_26 : decode cX12_joinedBy 26 = .ok (.iastore, 1) := by decide +kernel
theorem dX12_joinedBy_27 : decode cX12_joinedBy 27 = .ok (.iload 4, 2) := by decide +kernel
theorem dX12_joinedBy_29 : decode cX12_joinedBy 29 = .ok (.aload_n 0, 1) := by decide +kernel
theorem dX12_joinedBy_30 : decode cX12_joinedBy 30 = .ok (.iload_n 1, 1) := by decide +kernel
theorem dX12_joinedBy_31 : decode cX12_joinedBy 31 = .ok (.iload 5, 2) := by decide +kernel
theorem dX12_joinedBy_33 : decode cX12_joinedBy 33 = .ok (.invokevirtual 181, 3) := by decide +kernel
theorem dX12_joinedBy_36 : decode cX12_joinedBy 36 = .ok (.iload_n 3, 1) := by decide +kernel
theorem dX12_joinedBy_37 : decode cX12_joinedBy 37 = .ok (.if_icmp .ne 7, 3) := by decide +kernel
theorem dX12_joinedBy_40 : decode cX12_joinedBy 40 = .ok (.iconst 1, 1) := by decide +kernel
theorem dX12_joinedBy_41 : decode cX12_joinedBy 41 = .ok (.goto 4, 3) := by decide +kernel
theorem dX12_joinedBy_44 : decode cX12_joinedBy 44 = .ok (.iconst 0, 1) := by decide +kernel
theorem dX12_joinedBy_45 : decode cX12_joinedBy 45 = .ok (.iadd, 1) := by decide +kernel
theorem dX12_joinedBy_46 : decode cX12_joinedBy 46 = .ok (.istore 4, 2) := by decide +kernel
theorem dX12_joinedBy_48 : decode cX12_joinedBy 48 = .ok (.iinc 5 1, 3) := by decide +kernel
theorem dX12_joinedBy_51 : decode cX12_joinedBy 51 = .ok (.goto (-45), 3) := by decide +kernel
theorem dX12_joinedBy_54 : decode cX12_joinedBy 54 = .ok (.iconst 0, 1) := by decide +kernel
theorem dX12_joinedBy_55 : decode cX12_joinedBy 55 = .ok (.istore 5, 2) := by decide +kernel
theorem dX12_joinedBy_57 : decode cX12_joinedBy 57 = .ok (.iload 5, 2) := by decide +kernel
theorem dX12_joinedBy_59 : decode cX12_joinedBy 59 = .ok (.aload_n 0, 1) := by decide +kernel
theorem dX12_joinedBy_60 : decode cX12_joinedBy 60 = .ok (.iload_n 1, 1) := by decide +kernel
theorem dX12_joinedBy_61 : decode cX12_joinedBy 61 = .ok (.invokevirtual 59, 3) := by decide +kernel
theorem dX12_joinedBy_64 : decode cX12_joinedBy 64 = .ok (.if_icmp .ge 142, 3) := by decide +kernel
theorem dX12_joinedBy_67 : decode cX12_joinedBy 67 = .ok (.aload_n 0, 1) := by decide +kernel
theorem dX12_joinedBy_68 : decode cX12_joinedBy 68 = .ok (.iload_n 1, 1) := by decide +kernel
theorem dX12_joinedBy_69 : decode cX12_joinedBy 69 = .ok (.aload_n 0, 1) := by decide +kernel
theorem dX12_joinedBy_70 : decode cX12_joinedBy 70 = .ok (.iconst 4, 1) := by decide +kernel
theorem dX12_joinedBy_71 : decode cX12_joinedBy 71 = .ok (.iload 5, 2) := by decide +kernel
theorem dX12_joinedBy_73 : decode cX12_joinedBy 73 = .ok (.imul, 1) := by decide +kernel
theorem dX12_joinedBy_74 : decode cX12_joinedBy 74 = .ok (.invokevirtual 165, 3) := by decide +kernel
theorem dX12_joinedBy_77 : decode cX12_joinedBy 77 = .ok (.invokevirtual 181, 3) := by decide +kernel
theorem dX12_joinedBy_80 : decode cX12_joinedBy 80 = .ok (.iload_n 3, 1) := by decide +kernel
theorem dX12_joinedBy_81 : decode cX12_joinedBy 81 = .ok (.if_icmp .ne 7, 3) := by decide +kernel
theorem dX12_joinedBy_84 : decode cX12_joinedBy 84 = .ok (.iconst 0, 1) := by decide +kernel
theorem dX12_joinedBy_85 : decode cX12_joinedBy 85 = .ok (.goto 4, 3) := by decide +kernel
theorem dX12_joinedBy_88 : decode cX12_joinedBy 88 = .ok (.iconst 1, 1) := by decide +kernel
theorem dX12_joinedBy_89 : decode cX12_joinedBy 89 = .ok (.istore 6, 2) := by decide +kernel
theorem dX12_joinedBy_91 : decode cX12_joinedBy 91 = .ok (.aload_n 0, 1) := by decide +kernel
theorem dX12_joinedBy_92 : decode cX12_joinedBy 92 = .ok (.getfield 45, 3) := by decide +kernel
theorem dX12_joinedBy_95 : decode cX12_joinedBy 95 = .ok (.aload_n 0, 1) := by decide +kernel
theorem dX12_joinedBy_96 : decode cX12_joinedBy 96 = .ok (.iconst 4, 1) := by decide +kernel
theorem dX12_joinedBy_97 : decode cX12_joinedBy 97 = .ok (.iload 5, 2) := by decide +kernel
theorem dX12_joinedBy_99 : decode cX12_joinedBy 99 = .ok (.imul, 1) := by decide +kernel
theorem dX12_joinedBy_100 : decode cX12_joinedBy 100 = .ok (.iload 6, 2) := by decide +kernel
theorem dX12_joinedBy_102 : decode cX12_joinedBy 102 = .ok (.iadd, 1) := by decide +kernel
theorem dX12_joinedBy_103 : decode cX12_joinedBy 103 = .ok (.invokevirtual 165, 3) := by decide +kernel
theorem dX12_joinedBy_106 : decode cX12_joinedBy 106 = .ok (.iaload, 1) := by decide +kernel
theorem dX12_joinedBy_107 : decode cX12_joinedBy 107 = .ok (.istore 7, 2) := by decide +kernel
theorem dX12_joinedBy_109 : decode cX12_joinedBy 109 = .ok (.aload_n 0, 1) := by decide +kernel
theorem dX12_joinedBy_110 : decode cX12_joinedBy 110 = .ok (.getfield 45, 3) := by decide +kernel
theorem dX12_joinedBy_113 : decode cX12_joinedBy 113 = .ok (.aload_n 0, 1) := by decide +kernel
theorem dX12_joinedBy_114 : decode cX12_joinedBy 114 = .ok (.iconst 4, 1) := by decide +kernel
theorem dX12_joinedBy_115 : decode cX12_joinedBy 115 = .ok (.iload 5, 2) := by decide +kernel
theorem dX12_joinedBy_117 : decode cX12_joinedBy 117 = .ok (.imul, 1) := by decide +kernel
theorem dX12_joinedBy_118 : decode cX12_joinedBy 118 = .ok (.iload 6, 2) := by decide +kernel
theorem dX12_joinedBy_120 : decode cX12_joinedBy 120 = .ok (.iadd, 1) := by decide +kernel
theorem dX12_joinedBy_121 : decode cX12_joinedBy 121 = .ok (.iconst 2, 1) := by decide +kernel
theorem dX12_joinedBy_122 : decode cX12_joinedBy 122 = .ok (.iadd, 1) := by decide +kernel
theorem dX12_joinedBy_123 : decode cX12_joinedBy 123 = .ok (.invokevirtual 165, 3) := by decide +kernel
theorem dX12_joinedBy_126 : decode cX12_joinedBy 126 = .ok (.iaload, 1) := by decide +kernel
theorem dX12_joinedBy_127 : decode cX12_joinedBy 127 = .ok (.istore 8, 2) := by decide +kernel
theorem dX12_joinedBy_129 : decode cX12_joinedBy 129 = .ok (.iload_n 2, 1) := by decide +kernel
theorem dX12_joinedBy_130 : decode cX12_joinedBy 130 = .ok (.iload 5, 2) := by decide +kernel
theorem dX12_joinedBy_132 : decode cX12_joinedBy 132 = .ok (.invokestatic 125, 3) := by decide +kernel
theorem dX12_joinedBy_135 : decode cX12_joinedBy 135 = .ok (.ifCond .eq 65, 3) := by decide +kernel
theorem dX12_joinedBy_138 : decode cX12_joinedBy 138 = .ok (.iload 7, 2) := by decide +kernel
theorem dX12_joinedBy_140 : decode cX12_joinedBy 140 = .ok (.iload 8, 2) := by decide +kernel
theorem dX12_joinedBy_142 : decode cX12_joinedBy 142 = .ok (.if_icmp .eq 58, 3) := by decide +kernel
theorem dX12_joinedBy_145 : decode cX12_joinedBy 145 = .ok (.iinc 4 (-1), 3) := by decide +kernel
theorem dX12_joinedBy_148 : decode cX12_joinedBy 148 = .ok (.iconst 0, 1) := by decide +kernel
theorem dX12_joinedBy_149 : decode cX12_joinedBy 149 = .ok (.istore 9, 2) := by decide +kernel
theorem dX12_joinedBy_151 : decode cX12_joinedBy 151 = .ok (.iload 9, 2) := by decide +kernel
theorem dX12_joinedBy_153 : decode cX12_joinedBy 153 = .ok (.aload_n 0, 1) := by decide +kernel
theorem dX12_joinedBy_154 : decode cX12_joinedBy 154 = .ok (.iload_n 1, 1) := by decide +kernel
theorem dX12_joinedBy_155 : decode cX12_joinedBy 155 = .ok (.invokevirtual 59, 3) := by decide +kernel
theorem dX12_joinedBy_158 : decode cX12_joinedBy 158 = .ok (.iconst 2, 1) := by decide +kernel
theorem dX12_joinedBy_159 : decode cX12_joinedBy 159 = .ok (.iadd, 1) := by decide +kernel
theorem dX12_joinedBy_160 : decode cX12_joinedBy 160 = .ok (.if_icmp .ge 40, 3) := by decide +kernel
theorem dX12_joinedBy_163 : decode cX12_joinedBy 163 = .ok (.aload_n 0, 1) := by decide +kernel
theorem dX12_joinedBy_164 : decode cX12_joinedBy 164 = .ok (.getfield 45, 3) := by decide +kernel
theorem dX12_joinedBy_167 : decode cX12_joinedBy 167 = .ok (.iload 9, 2) := by decide +kernel
theorem dX12_joinedBy_169 : decode cX12_joinedBy 169 = .ok (.aload_n 0, 1) := by decide +kernel
theorem dX12_joinedBy_170 : decode cX12_joinedBy 170 = .ok (.getfield 45, 3) := by decide +kernel
theorem dX12_joinedBy_173 : decode cX12_joinedBy 173 = .ok (.iload 9, 2) := by decide +kernel
theorem dX12_joinedBy_175 : decode cX12_joinedBy 175 = .ok (.iaload, 1) := by decide +kernel
theorem dX12_joinedBy_176 : decode cX12_joinedBy 176 = .ok (.iload 8, 2) := by decide +kernel
theorem dX12_joinedBy_178 : decode cX12_joinedBy 178 = .ok (.if_icmp .ne 8, 3) := by decide +kernel
theorem dX12_joinedBy_181 : decode cX12_joinedBy 181 = .ok (.iload 7, 2) := by decide +kernel
theorem dX12_joinedBy_183 : decode cX12_joinedBy 183 = .ok (.goto 10, 3) := by decide +kernel
theorem dX12_joinedBy_186 : decode cX12_joinedBy 186 = .ok (.aload_n 0, 1) := by decide +kernel
theorem dX12_joinedBy_187 : decode cX12_joinedBy 187 = .ok (.getfield 45, 3) := by decide +kernel
theorem dX12_joinedBy_190 : decode cX12_joinedBy 190 = .ok (.iload 9, 2) := by decide +kernel
theorem dX12_joinedBy_192 : decode cX12_joinedBy 192 = .ok (.iaload, 1) := by decide +kernel
theorem dX12_joinedBy_193 : decode cX12_joinedBy 193 = .ok (.iastore, 1) := by decide +kernel
theorem dX12_joinedBy_194 : decode cX12_joinedBy 194 = .ok (.iinc 9 1, 3) := by decide +kernel
theorem dX12_joinedBy_197 : decode cX12_joinedBy 197 = .ok (.goto (-46), 3) := by decide +kernel
theorem dX12_joinedBy_200 : decode cX12_joinedBy 200 = .ok (.iinc 5 1, 3) := by decide +kernel
theorem dX12_joinedBy_203 : decode cX12_joinedBy 203 = .ok (.goto (-146), 3) := by decide +kernel
theorem dX12_joinedBy_206 : decode cX12_joinedBy 206 = .ok (.iload 4, 2) := by decide +kernel
theorem dX12_joinedBy_208 : decode cX12_joinedBy 208 = .ok (.ireturn, 1) := by decide +kernel
theorem dX12_trees_0 : decode cX12_trees 0 = .ok (.aload_n 0, 1) := by decide +kernel
theorem dX12_trees_1 : decode cX12_trees 1 = .ok (.iload_n 1, 1) := by decide +kernel
theorem dX12_trees_2 : decode cX12_trees 2 = .ok (.aload_n 0, 1) := by decide +kernel
theorem dX12_trees_3 : decode cX12_trees 3 = .ok (.iload_n 1, 1) := by decide +kernel
theorem dX12_trees_4 : decode cX12_trees 4 = .ok (.invokevirtual 168, 3) := by decide +kernel
theorem dX12_trees_7 : decode cX12_trees 7 = .ok (.invokevirtual 162, 3) := by decide +kernel
theorem dX12_trees_10 : decode cX12_trees 10 = .ok (.ifCond .ne 5, 3) := by decide +kernel
theorem dX12_trees_13 : decode cX12_trees 13 = .ok (.iconst (-1), 1) := by decide +kernel
theorem dX12_trees_14 : decode cX12_trees 14 = .ok (.ireturn, 1) := by decide +kernel
theorem dX12_trees_15 : decode cX12_trees 15 = .ok (.aload_n 0, 1) := by decide +kernel
theorem dX12_trees_16 : decode cX12_trees 16 = .ok (.iload_n 1, 1) := by decide +kernel
theorem dX12_trees_17 : decode cX12_trees 17 = .ok (.invokevirtual 184, 3) := by decide +kernel
theorem dX12_trees_20 : decode cX12_trees 20 = .ok (.aload_n 0, 1) := by decide +kernel
theorem dX12_trees_21 : decode cX12_trees 21 = .ok (.iload_n 1, 1) := by decide +kernel
theorem dX12_trees_22 : decode cX12_trees 22 = .ok (.iconst 0, 1) := by decide +kernel
theorem dX12_trees_23 : decode cX12_trees 23 = .ok (.iload_n 2, 1) := by decide +kernel
theorem dX12_trees_24 : decode cX12_trees 24 = .ok (.invokevirtual 187, 3) := by decide +kernel
theorem dX12_trees_27 : decode cX12_trees 27 = .ok (.istore_n 3, 1) := by decide +kernel
theorem dX12_trees_28 : decode cX12_trees 28 = .ok (.iconst 0, 1) := by decide +kernel
theorem dX12_trees_29 : decode cX12_trees 29 = .ok (.istore 4, 2) := by decide +kernel
theorem dX12_trees_31 : decode cX12_trees 31 = .ok (.iconst 0, 1) := by decide +kernel
theorem dX12_trees_32 : decode cX12_trees 32 = .ok (.istore 5, 2) := by decide +kernel
theorem dX12_trees_34 : decode cX12_trees 34 = .ok (.iload 5, 2) := by decide +kernel
theorem dX12_trees_36 : decode cX12_trees 36 = .ok (.iconst 1, 1) := by decide +kernel
theorem dX12_trees_37 : decode cX12_trees 37 = .ok (.aload_n 0, 1) := by decide +kernel
theorem dX12_trees_38 : decode cX12_trees 38 = .ok (.iload_n 1, 1) := by decide +kernel
theorem dX12_trees_39 : decode cX12_trees 39 = .ok (.invokevirtual 59, 3) := by decide +kernel
theorem dX12_trees_42 : decode cX12_trees 42 = .ok (.ishl, 1) := by decide +kernel
theorem dX12_trees_43 : decode cX12_trees 43 = .ok (.if_icmp .ge 42, 3) := by decide +kernel
theorem dX12_trees_46 : decode cX12_trees 46 = .ok (.iload 4, 2) := by decide +kernel
theorem dX12_trees_48 : decode cX12_trees 48 = .ok (.iload 5, 2) := by decide +kernel
theorem dX12_trees_50 : decode cX12_trees 50 = .ok (.invokestatic 132, 3) := by decide +kernel
theorem dX12_trees_53 : decode cX12_trees 53 = .ok (.iload_n 3, 1) := by decide +kernel
theorem dX12_trees_54 : decode cX12_trees 54 = .ok (.iconst 1, 1) := by decide +kernel
theorem dX12_trees_55 : decode cX12_trees 55 = .ok (.isub, 1) := by decide +kernel
theorem dX12_trees_56 : decode cX12_trees 56 = .ok (.if_icmp .ne 19, 3) := by decide +kernel
theorem dX12_trees_59 : decode cX12_trees 59 = .ok (.aload_n 0, 1) := by decide +kernel
theorem dX12_trees_60 : decode cX12_trees 60 = .ok (.iload_n 1, 1) := by decide +kernel
theorem dX12_trees_61 : decode cX12_trees 61 = .ok (.iload 5, 2) := by decide +kernel
theorem dX12_trees_63 : decode cX12_trees 63 = .ok (.iload_n 2, 1) := by decide +kernel
theorem dX12_trees_64 : decode cX12_trees 64 = .ok (.invokevirtual 187, 3) := by decide +kernel
theorem dX12_trees_67 : decode cX12_trees 67 = .ok (.iconst 1, 1) := by decide +kernel
theorem dX12_trees_68 : decode cX12_trees 68 = .ok (.if_icmp .ne 7, 3) := by decide +kernel
theorem dX12_trees_71 : decode cX12_trees 71 = .ok (.iconst 1, 1) := by decide +kernel
theorem dX12_trees_72 : decode cX12_trees 72 = .ok (.goto 4, 3) := by decide +kernel
theorem dX12_trees_75 : decode cX12_trees 75 = .ok (.iconst 0, 1) := by decide +kernel
theorem dX12_trees_76 : decode cX12_trees 76 = .ok (.iadd, 1) := by decide +kernel
theorem dX12_trees_77 : decode cX12_trees 77 = .ok (.istore 4, 2) := by decide +kernel
theorem dX12_trees_79 : decode cX12_trees 79 = .ok (.iinc 5 1, 3) := by decide +kernel
theorem dX12_trees_82 : decode cX12_trees 82 = .ok (.goto (-48), 3) := by decide +kernel
theorem dX12_trees_85 : decode cX12_trees 85 = .ok (.iload 4, 2) := by decide +kernel
theorem dX12_trees_87 : decode cX12_trees 87 = .ok (.ireturn, 1) := by decide +kernel
theorem dX12_ringsOf_0 : decode cX12_ringsOf 0 = .ok (.iconst 2, 1) := by decide +kernel
theorem dX12_ringsOf_1 : decode cX12_ringsOf 1 = .ok (.aload_n 0, 1) := by decide +kernel
theorem dX12_ringsOf_2 : decode cX12_ringsOf 2 = .ok (.iload_n 1, 1) := by decide +kernel
theorem dX12_ringsOf_3 : decode cX12_ringsOf 3 = .ok (.invokevirtual 59, 3) := by decide +kernel
theorem dX12_ringsOf_6 : decode cX12_ringsOf 6 = .ok (.imul, 1) := by decide +kernel
theorem dX12_ringsOf_7 : decode cX12_ringsOf 7 = .ok (.istore_n 3, 1) := by decide +kernel
theorem dX12_ringsOf_8 : decode cX12_ringsOf 8 = .ok (.iload_n 3, 1) := by decide +kernel
theorem dX12_ringsOf_9 : decode cX12_ringsOf 9 = .ok (.ifCond .ne 5, 3) := by decide +kernel
theorem dX12_ringsOf_12 : decode cX12_ringsOf 12 = .ok (.iconst 1, 1) := by decide +kernel
theorem dX12_ringsOf_13 : decode cX12_ringsOf 13 = .ok (.ireturn, 1) := by decide +kernel
theorem dX12_ringsOf_14 : decode cX12_ringsOf 14 = .ok (.aload_n 0, 1) := by decide +kernel
theorem dX12_ringsOf_15 : decode cX12_ringsOf 15 = .ok (.iload_n 3, 1) := by decide +kernel
theorem dX12_ringsOf_16 : decode cX12_ringsOf 16 = .ok (.invokevirtual 116, 3) := by decide +kernel
theorem dX12_ringsOf_19 : decode cX12_ringsOf 19 = .ok (.aload_n 0, 1) := by decide +kernel
theorem dX12_ringsOf_20 : decode cX12_ringsOf 20 = .ok (.iconst 1, 1) := by decide +kernel
theorem dX12_ringsOf_21 : decode cX12_ringsOf 21 = .ok (.putfield 112, 3) := by decide +kernel
theorem dX12_ringsOf_24 : decode cX12_ringsOf 24 = .ok (.aload_n 0, 1) := by decide +kernel
theorem dX12_ringsOf_25 : decode cX12_ringsOf 25 = .ok (.getfield 112, 3) := by decide +kernel
theorem dX12_ringsOf_28 : decode cX12_ringsOf 28 = .ok (.ifCond .eq 110, 3) := by decide +kernel
theorem dX12_ringsOf_31 : decode cX12_ringsOf 31 = .ok (.aload_n 0, 1) := by decide +kernel
theorem dX12_ringsOf_32 : decode cX12_ringsOf 32 = .ok (.iconst 0, 1) := by decide +kernel
theorem dX12_ringsOf_33 : decode cX12_ringsOf 33 = .ok (.putfield 112, 3) := by decide +kernel
theorem dX12_ringsOf_36 : decode cX12_ringsOf 36 = .ok (.iconst 0, 1) := by decide +kernel
theorem dX12_ringsOf_37 : decode cX12_ringsOf 37 = .ok (.istore 4, 2) := by decide +kernel
theorem dX12_ringsOf_39 : decode cX12_ringsOf 39 = .ok (.iload 4, 2) := by decide +kernel
theorem dX12_ringsOf_41 : decode cX12_ringsOf 41 = .ok (.aload_n 0, 1) := by decide +kernel
theorem dX12_ringsOf_42 : decode cX12_ringsOf 42 = .ok (.iload_n 1, 1) := by decide +kernel
theorem dX12_ringsOf_43 : decode cX12_ringsOf 43 = .ok (.invokevirtual 59, 3) := by decide +kernel
theorem dX12_ringsOf_46 : decode cX12_ringsOf 46 = .ok (.if_icmp .ge 89, 3) := by decide +kernel
theorem dX12_ringsOf_49 : decode cX12_ringsOf 49 = .ok (.aload_n 0, 1) := by decide +kernel
theorem dX12_ringsOf_50 : decode cX12_ringsOf 50 = .ok (.iload_n 1, 1) := by decide +kernel
theorem dX12_ringsOf_51 : decode cX12_ringsOf 51 = .ok (.iload 4, 2) := by decide +kernel
theorem dX12_ringsOf_53 : decode cX12_ringsOf 53 = .ok (.iconst 0, 1) := by decide +kernel
theorem dX12_ringsOf_54 : decode cX12_ringsOf 54 = .ok (.invokevirtual 104, 3) := by decide +kernel
theorem dX12_ringsOf_57 : decode cX12_ringsOf 57 = .ok (.istore 5, 2) := by decide +kernel
theorem dX12_ringsOf_59 : decode cX12_ringsOf 59 = .ok (.aload_n 0, 1) := by decide +kernel
theorem dX12_ringsOf_60 : decode cX12_ringsOf 60 = .ok (.iload_n 1, 1) := by decide +kernel
theorem dX12_ringsOf_61 : decode cX12_ringsOf 61 = .ok (.iload 4, 2) := by decide +kernel
theorem dX12_ringsOf_63 : decode cX12_ringsOf 63 = .ok (.iconst 1, 1) := by decide +kernel
theorem dX12_ringsOf_64 : decode cX12_ringsOf 64 = .ok (.invokevirtual 104, 3) := by decide +kernel
theorem dX12_ringsOf_67 : decode cX12_ringsOf 67 = .ok (.istore 6, 2) := by decide +kernel
theorem dX12_ringsOf_69 : decode cX12_ringsOf 69 = .ok (.iload 5, 2) := by decide +kernel
theorem dX12_ringsOf_71 : decode cX12_ringsOf 71 = .ok (.iload_n 3, 1) := by decide +kernel
theorem dX12_ringsOf_72 : decode cX12_ringsOf 72 = .ok (.iadd, 1) := by decide +kernel
theorem dX12_ringsOf_73 : decode cX12_ringsOf 73 = .ok (.iconst 1, 1) := by decide +kernel
theorem dX12_ringsOf_74 : decode cX12_ringsOf 74 = .ok (.isub, 1) := by decide +kernel
theorem dX12_ringsOf_75 : decode cX12_ringsOf 75 = .ok (.iload_n 3, 1) := by decide +kernel
theorem dX12_ringsOf_76 : decode cX12_ringsOf 76 = .ok (.irem, 1) := by decide +kernel
theorem dX12_ringsOf_77 : decode cX12_ringsOf 77 = .ok (.istore 7, 2) := by decide +kernel
theorem dX12_ringsOf_79 : decode cX12_ringsOf 79 = .ok (.iload 6, 2) := by decide +kernel
theorem dX12_ringsOf_81 : decode cX12_ringsOf 81 = .ok (.iconst 1, 1) := by decide +kernel
theorem dX12_ringsOf_82 : decode cX12_ringsOf 82 = .ok (.isub, 1) := by decide +kernel
theorem dX12_ringsOf_83 : decode cX12_ringsOf 83 = .ok (.istore 8, 2) := by decide +kernel
theorem dX12_ringsOf_85 : decode cX12_ringsOf 85 = .ok (.aload_n 0, 1) := by decide +kernel
theorem dX12_ringsOf_86 : decode cX12_ringsOf 86 = .ok (.iload 7, 2) := by decide +kernel
theorem dX12_ringsOf_88 : decode cX12_ringsOf 88 = .ok (.iload_n 2, 1) := by decide +kernel
theorem dX12_ringsOf_89 : decode cX12_ringsOf 89 = .ok (.iload 4, 2) := by decide +kernel
theorem dX12_ringsOf_91 : decode cX12_ringsOf 91 = .ok (.invokestatic 125, 3) := by decide +kernel
theorem dX12_ringsOf_94 : decode cX12_ringsOf 94 = .ok (.ifCond .eq 8, 3) := by decide +kernel
theorem dX12_ringsOf_97 : decode cX12_ringsOf 97 = .ok (.iload 8, 2) := by decide +kernel
theorem dX12_ringsOf_99 : decode cX12_ringsOf 99 = .ok (.goto 5, 3) := by decide +kernel
theorem dX12_ringsOf_102 : decode cX12_ringsOf 102 = .ok (.iload 6, 2) := by decide +kernel
theorem dX12_ringsOf_104 : decode cX12_ringsOf 104 = .ok (.invokevirtual 119, 3) := by decide +kernel
theorem dX12_ringsOf_107 : decode cX12_ringsOf 107 = .ok (.aload_n 0, 1) := by decide +kernel
theorem dX12_ringsOf_108 : decode cX12_ringsOf 108 = .ok (.iload 5, 2) := by decide +kernel
theorem dX12_ringsOf_110 : decode cX12_ringsOf 110 = .ok (.iload_n 2, 1) := by decide +kernel
theorem dX12_ringsOf_111 : decode cX12_ringsOf 111 = .ok (.iload 4, 2) := by decide +kernel
theorem dX12_ringsOf_113 : decode cX12_ringsOf 113 = .ok (.invokestatic 125, 3) := by decide +kernel
theorem dX12_ringsOf_116 : decode cX12_ringsOf 116 = .ok (.ifCond .eq 8, 3) := by decide +kernel
theorem dX12_ringsOf_119 : decode cX12_ringsOf 119 = .ok (.iload 6, 2) := by decide +kernel
theorem dX12_ringsOf_121 : decode cX12_ringsOf 121 = .ok (.goto 5, 3) := by decide +kernel
theorem dX12_ringsOf_124 : decode cX12_ringsOf 124 = .ok (.iload 8, 2) := by decide +kernel
theorem dX12_ringsOf_126 : decode cX12_ringsOf 126 = .ok (.invokevirtual 119, 3) := by decide +kernel
theorem dX12_ringsOf_129 : decode cX12_ringsOf 129 = .ok (.iinc 4 1, 3) := by decide +kernel
theorem dX12_ringsOf_132 : decode cX12_ringsOf 132 = .ok (.goto (-93), 3) := by decide +kernel
theorem dX12_ringsOf_135 : decode cX12_ringsOf 135 = .ok (.goto (-111), 3) := by decide +kernel
theorem dX12_ringsOf_138 : decode cX12_ringsOf 138 = .ok (.aload_n 0, 1) := by decide +kernel
theorem dX12_ringsOf_139 : decode cX12_ringsOf 139 = .ok (.iload_n 3, 1) := by decide +kernel
theorem dX12_ringsOf_140 : decode cX12_ringsOf 140 = .ok (.invokevirtual 122, 3) := by decide +kernel
theorem dX12_ringsOf_143 : decode cX12_ringsOf 143 = .ok (.ireturn, 1) := by decide +kernel
theorem dX12_statesOf_0 : decode cX12_statesOf 0 = .ok (.iconst 0, 1) := by decide +kernel
theorem dX12_statesOf_1 : decode cX12_statesOf 1 = .ok (.istore_n 3, 1) := by decide +kernel
theorem dX12_statesOf_2 : decode cX12_statesOf 2 = .ok (.iconst 0, 1) := by decide +kernel
theorem dX12_statesOf_3 : decode cX12_statesOf 3 = .ok (.istore 4, 2) := by decide +kernel
theorem dX12_statesOf_5 : decode cX12_statesOf 5 = .ok (.iload 4, 2) := by decide +kernel
theorem dX12_statesOf_7 : decode cX12_statesOf 7 = .ok (.iconst 1, 1) := by decide +kernel
theorem dX12_statesOf_8 : decode cX12_statesOf 8 = .ok (.aload_n 0, 1) := by decide +kernel
theorem dX12_statesOf_9 : decode cX12_statesOf 9 = .ok (.iload_n 1, 1) := by decide +kernel
theorem dX12_statesOf_10 : decode cX12_statesOf 10 = .ok (.invokevirtual 59, 3) := by decide +kernel
theorem dX12_statesOf_13 : decode cX12_statesOf 13 = .ok (.ishl, 1) := by decide +kernel
theorem dX12_statesOf_14 : decode cX12_statesOf 14 = .ok (.if_icmp .ge 28, 3) := by decide +kernel
theorem dX12_statesOf_17 : decode cX12_statesOf 17 = .ok (.iload_n 3, 1) := by decide +kernel
theorem dX12_statesOf_18 : decode cX12_statesOf 18 = .ok (.aload_n 0, 1) := by decide +kernel
theorem dX12_statesOf_19 : decode cX12_statesOf 19 = .ok (.iload_n 1, 1) := by decide +kernel
theorem dX12_statesOf_20 : decode cX12_statesOf 20 = .ok (.iload 4, 2) := by decide +kernel
theorem dX12_statesOf_22 : decode cX12_statesOf 22 = .ok (.invokevirtual 191, 3) := by decide +kernel
theorem dX12_statesOf_25 : decode cX12_statesOf 25 = .ok (.iload_n 2, 1) := by decide +kernel
theorem dX12_statesOf_26 : decode cX12_statesOf 26 = .ok (.if_icmp .ne 7, 3) := by decide +kernel
theorem dX12_statesOf_29 : decode cX12_statesOf 29 = .ok (.iconst 1, 1) := by decide +kernel
theorem dX12_statesOf_30 : decode cX12_statesOf 30 = .ok (.goto 4, 3) := by decide +kernel
theorem dX12_statesOf_33 : decode cX12_statesOf 33 = .ok (.iconst 0, 1) := by decide +kernel
theorem dX12_statesOf_34 : decode cX12_statesOf 34 = .ok (.iadd, 1) := by decide +kernel
theorem dX12_statesOf_35 : decode cX12_statesOf 35 = .ok (.istore_n 3, 1) := by decide +kernel
theorem dX12_statesOf_36 : decode cX12_statesOf 36 = .ok (.iinc 4 1, 3) := by decide +kernel
theorem dX12_statesOf_39 : decode cX12_statesOf 39 = .ok (.goto (-34), 3) := by decide +kernel
theorem dX12_statesOf_42 : decode cX12_statesOf 42 = .ok (.iload_n 3, 1) := by decide +kernel
theorem dX12_statesOf_43 : decode cX12_statesOf 43 = .ok (.ireturn, 1) := by decide +kernel
theorem dX12_turned_0 : decode cX12_turned 0 = .ok (.iconst 2, 1) := by decide +kernel
theorem dX12_turned_1 : decode cX12_turned 1 = .ok (.aload_n 0, 1) := by decide +kernel
theorem dX12_turned_2 : decode cX12_turned 2 = .ok (.iload_n 1, 1) := by decide +kernel
theorem dX12_turned_3 : decode cX12_turned 3 = .ok (.invokevirtual 59, 3) := by decide +kernel
theorem dX12_turned_6 : decode cX12_turned 6 = .ok (.imul, 1) := by decide +kernel
theorem dX12_turned_7 : decode cX12_turned 7 = .ok (.istore 4, 2) := by decide +kernel
theorem dX12_turned_9 : decode cX12_turned 9 = .ok (.aload_n 0, 1) := by decide +kernel
theorem dX12_turned_10 : decode cX12_turned 10 = .ok (.iconst 0, 1) := by decide +kernel
theorem dX12_turned_11 : decode cX12_turned 11 = .ok (.putfield 67, 3) := by decide +kernel
theorem dX12_turned_14 : decode cX12_turned 14 = .ok (.iconst 0, 1) := by decide +kernel
theorem dX12_turned_15 : decode cX12_turned 15 = .ok (.istore 5, 2) := by decide +kernel
theorem dX12_turned_17 : decode cX12_turned 17 = .ok (.iload 5, 2) := by decide +kernel
theorem dX12_turned_19 : decode cX12_turned 19 = .ok (.iload 4, 2) := by decide +kernel
theorem dX12_turned_21 : decode cX12_turned 21 = .ok (.if_icmp .ge 39, 3) := by decide +kernel
theorem dX12_turned_24 : decode cX12_turned 24 = .ok (.aload_n 0, 1) := by decide +kernel
theorem dX12_turned_25 : decode cX12_turned 25 = .ok (.aload_n 0, 1) := by decide +kernel
theorem dX12_turned_26 : decode cX12_turned 26 = .ok (.iload_n 1, 1) := by decide +kernel
theorem dX12_turned_27 : decode cX12_turned 27 = .ok (.iload_n 3, 1) := by decide +kernel
theorem dX12_turned_28 : decode cX12_turned 28 = .ok (.ifCond .eq 13, 3) := by decide +kernel
theorem dX12_turned_31 : decode cX12_turned 31 = .ok (.iload_n 2, 1) := by decide +kernel
theorem dX12_turned_32 : decode cX12_turned 32 = .ok (.iload 5, 2) := by decide +kernel
theorem dX12_turned_34 : decode cX12_turned 34 = .ok (.isub, 1) := by decide +kernel
theorem dX12_turned_35 : decode cX12_turned 35 = .ok (.iload 4, 2) := by decide +kernel
theorem dX12_turned_37 : decode cX12_turned 37 = .ok (.iadd, 1) := by decide +kernel
theorem dX12_turned_38 : decode cX12_turned 38 = .ok (.goto 7, 3) := by decide +kernel
theorem dX12_turned_41 : decode cX12_turned 41 = .ok (.iload_n 2, 1) := by decide +kernel
theorem dX12_turned_42 : decode cX12_turned 42 = .ok (.iload 5, 2) := by decide +kernel
theorem dX12_turned_44 : decode cX12_turned 44 = .ok (.iadd, 1) := by decide +kernel
theorem dX12_turned_45 : decode cX12_turned 45 = .ok (.iload 4, 2) := by decide +kernel
theorem dX12_turned_47 : decode cX12_turned 47 = .ok (.irem, 1) := by decide +kernel
theorem dX12_turned_48 : decode cX12_turned 48 = .ok (.invokevirtual 63, 3) := by decide +kernel
theorem dX12_turned_51 : decode cX12_turned 51 = .ok (.invokevirtual 96, 3) := by decide +kernel
theorem dX12_turned_54 : decode cX12_turned 54 = .ok (.iinc 5 1, 3) := by decide +kernel
theorem dX12_turned_57 : decode cX12_turned 57 = .ok (.goto (-40), 3) := by decide +kernel
theorem dX12_turned_60 : decode cX12_turned 60 = .ok (.return_, 1) := by decide +kernel
theorem dX12_codeOfMade_0 : decode cX12_codeOfMade 0 = .ok (.lconst 0, 1) := by decide +kernel
theorem dX12_codeOfMade_1 : decode cX12_codeOfMade 1 = .ok (.lstore_n 1, 1) := by decide +kernel
theorem dX12_codeOfMade_2 : decode cX12_codeOfMade 2 = .ok (.iconst 0, 1) := by decide +kernel
theorem dX12_codeOfMade_3 : decode cX12_codeOfMade 3 = .ok (.istore_n 3, 1) := by decide +kernel
theorem dX12_codeOfMade_4 : decode cX12_codeOfMade 4 = .ok (.iload_n 3, 1) := by decide +kernel
theorem dX12_codeOfMade_5 : decode cX12_codeOfMade 5 = .ok (.aload_n 0, 1) := by decide +kernel
theorem dX12_codeOfMade_6 : decode cX12_codeOfMade 6 = .ok (.getfield 67, 3) := by decide +kernel
theorem dX12_codeOfMade_9 : decode cX12_codeOfMade 9 = .ok (.if_icmp .ge 22, 3) := by decide +kernel
theorem dX12_codeOfMade_12 : decode cX12_codeOfMade 12 = .ok (.ldc2_w 194, 3) := by decide +kernel
theorem dX12_codeOfMade_15 : decode cX12_codeOfMade 15 = .ok (.lload_n 1, 1) := by decide +kernel
theorem dX12_codeOfMade_16 : decode cX12_codeOfMade 16 = .ok (.lmul, 1) := by decide +kernel
theorem dX12_codeOfMade_17 : decode cX12_codeOfMade 17 = .ok (.aload_n 0, 1) := by decide +kernel
theorem dX12_codeOfMade_18 : decode cX12_codeOfMade 18 = .ok (.iload_n 3, 1) := by decide +kernel
theorem dX12_codeOfMade_19 : decode cX12_codeOfMade 19 = .ok (.invokevirtual 70, 3) := by decide +kernel
theorem dX12_codeOfMade_22 : decode cX12_codeOfMade 22 = .ok (.i2l, 1) := by decide +kernel
theorem dX12_codeOfMade_23 : decode cX12_codeOfMade 23 = .ok (.ladd, 1) := by decide +kernel
theorem dX12_codeOfMade_24 : decode cX12_codeOfMade 24 = .ok (.lstore_n 1, 1) := by decide +kernel
theorem dX12_codeOfMade_25 : decode cX12_codeOfMade 25 = .ok (.iinc 3 1, 3) := by decide +kernel
theorem dX12_codeOfMade_28 : decode cX12_codeOfMade 28 = .ok (.goto (-24), 3) := by decide +kernel
theorem dX12_codeOfMade_31 : decode cX12_codeOfMade 31 = .ok (.lload_n 1, 1) := by decide +kernel
theorem dX12_codeOfMade_32 : decode cX12_codeOfMade 32 = .ok (.lreturn, 1) := by decide +kernel
theorem dX12_codeOf_0 : decode cX12_codeOf 0 = .ok (.lconst 0, 1) := by decide +kernel
theorem dX12_codeOf_1 : decode cX12_codeOf 1 = .ok (.lstore_n 2, 1) := by decide +kernel
theorem dX12_codeOf_2 : decode cX12_codeOf 2 = .ok (.aload_n 0, 1) := by decide +kernel
theorem dX12_codeOf_3 : decode cX12_codeOf 3 = .ok (.aload_n 0, 1) := by decide +kernel
theorem dX12_codeOf_4 : decode cX12_codeOf 4 = .ok (.iload_n 1, 1) := by decide +kernel
theorem dX12_codeOf_5 : decode cX12_codeOf 5 = .ok (.invokevirtual 59, 3) := by decide +kernel
theorem dX12_codeOf_8 : decode cX12_codeOf 8 = .ok (.ifCond .ne 7, 3) := by decide +kernel
theorem dX12_codeOf_11 : decode cX12_codeOf 11 = .ok (.iconst 1, 1) := by decide +kernel
theorem dX12_codeOf_12 : decode cX12_codeOf 12 = .ok (.goto 4, 3) := by decide +kernel
theorem dX12_codeOf_15 : decode cX12_codeOf 15 = .ok (.iconst 0, 1) := by decide +kernel
theorem dX12_codeOf_16 : decode cX12_codeOf 16 = .ok (.putfield 196, 3) := by decide +kernel
theorem dX12_codeOf_19 : decode cX12_codeOf 19 = .ok (.lconst 0, 1) := by decide +kernel
theorem dX12_codeOf_20 : decode cX12_codeOf 20 = .ok (.lstore 4, 2) := by decide +kernel
theorem dX12_codeOf_22 : decode cX12_codeOf 22 = .ok (.iconst 0, 1) := by decide +kernel
theorem dX12_codeOf_23 : decode cX12_codeOf 23 = .ok (.istore 6, 2) := by decide +kernel
theorem dX12_codeOf_25 : decode cX12_codeOf 25 = .ok (.iload 6, 2) := by decide +kernel
theorem dX12_codeOf_27 : decode cX12_codeOf 27 = .ok (.iconst 4, 1) := by decide +kernel
theorem dX12_codeOf_28 : decode cX12_codeOf 28 = .ok (.aload_n 0, 1) := by decide +kernel
theorem dX12_codeOf_29 : decode cX12_codeOf 29 = .ok (.iload_n 1, 1) := by decide +kernel
theorem dX12_codeOf_30 : decode cX12_codeOf 30 = .ok (.invokevirtual 59, 3) := by decide +kernel
theorem dX12_codeOf_33 : decode cX12_codeOf 33 = .ok (.imul, 1) := by decide +kernel
theorem dX12_codeOf_34 : decode cX12_codeOf 34 = .ok (.if_icmp .ge 92, 3) := by decide +kernel
theorem dX12_codeOf_37 : decode cX12_codeOf 37 = .ok (.aload_n 0, 1) := by decide +kernel
theorem dX12_codeOf_38 : decode cX12_codeOf 38 = .ok (.iload_n 1, 1) := by decide +kernel
theorem dX12_codeOf_39 : decode cX12_codeOf 39 = .ok (.iload 6, 2) := by decide +kernel
theorem dX12_codeOf_41 : decode cX12_codeOf 41 = .ok (.iconst 2, 1) := by decide +kernel
theorem dX12_codeOf_42 : decode cX12_codeOf 42 = .ok (.idiv, 1) := by decide +kernel
theorem dX12_codeOf_43 : decode cX12_codeOf 43 = .ok (.iload 6, 2) := by decide +kernel
theorem dX12_codeOf_45 : decode cX12_codeOf 45 = .ok (.iconst 2, 1) := by decide +kernel
theorem dX12_codeOf_46 : decode cX12_codeOf 46 = .ok (.irem, 1) := by decide +kernel
theorem dX12_codeOf_47 : decode cX12_codeOf 47 = .ok (.iconst 1, 1) := by decide +kernel
theorem dX12_codeOf_48 : decode cX12_codeOf 48 = .ok (.if_icmp .ne 7, 3) := by decide +kernel
theorem dX12_codeOf_51 : decode cX12_codeOf 51 = .ok (.iconst 1, 1) := by decide +kernel
theorem dX12_codeOf_52 : decode cX12_codeOf 52 = .ok (.goto 4, 3) := by decide +kernel
theorem dX12_codeOf_55 : decode cX12_codeOf 55 = .ok (.iconst 0, 1) := by decide +kernel
theorem dX12_codeOf_56 : decode cX12_codeOf 56 = .ok (.invokevirtual 199, 3) := by decide +kernel
theorem dX12_codeOf_59 : decode cX12_codeOf 59 = .ok (.aload_n 0, 1) := by decide +kernel
theorem dX12_codeOf_60 : decode cX12_codeOf 60 = .ok (.invokevirtual 203, 3) := by decide +kernel
theorem dX12_codeOf_63 : decode cX12_codeOf 63 = .ok (.lstore 7, 2) := by decide +kernel
theorem dX12_codeOf_65 : decode cX12_codeOf 65 = .ok (.iload 6, 2) := by decide +kernel
theorem dX12_codeOf_67 : decode cX12_codeOf 67 = .ok (.ifCond .ne 8, 3) := by decide +kernel
theorem dX12_codeOf_70 : decode cX12_codeOf 70 = .ok (.lload 7, 2) := by decide +kernel
theorem dX12_codeOf_72 : decode cX12_codeOf 72 = .ok (.goto 5, 3) := by decide +kernel
theorem dX12_codeOf_75 : decode cX12_codeOf 75 = .ok (.lload 4, 2) := by decide +kernel
theorem dX12_codeOf_77 : decode cX12_codeOf 77 = .ok (.lstore 4, 2) := by decide +kernel
theorem dX12_codeOf_79 : decode cX12_codeOf 79 = .ok (.iload 6, 2) := by decide +kernel
theorem dX12_codeOf_81 : decode cX12_codeOf 81 = .ok (.ifCond .eq 10, 3) := by decide +kernel
theorem dX12_codeOf_84 : decode cX12_codeOf 84 = .ok (.lload 7, 2) := by decide +kernel
theorem dX12_codeOf_86 : decode cX12_codeOf 86 = .ok (.lload_n 2, 1) := by decide +kernel
theorem dX12_codeOf_87 : decode cX12_codeOf 87 = .ok (.lcmp, 1) := by decide +kernel
theorem dX12_codeOf_88 : decode cX12_codeOf 88 = .ok (.ifCond .ge 8, 3) := by decide +kernel
theorem dX12_codeOf_91 : decode cX12_codeOf 91 = .ok (.lload 7, 2) := by decide +kernel
theorem dX12_codeOf_93 : decode cX12_codeOf 93 = .ok (.goto 4, 3) := by decide +kernel
theorem dX12_codeOf_96 : decode cX12_codeOf 96 = .ok (.lload_n 2, 1) := by decide +kernel
theorem dX12_codeOf_97 : decode cX12_codeOf 97 = .ok (.lstore_n 2, 1) := by decide +kernel
theorem dX12_codeOf_98 : decode cX12_codeOf 98 = .ok (.aload_n 0, 1) := by decide +kernel
theorem dX12_codeOf_99 : decode cX12_codeOf 99 = .ok (.dup, 1) := by decide +kernel
theorem dX12_codeOf_100 : decode cX12_codeOf 100 = .ok (.getfield 196, 3) := by decide +kernel
theorem dX12_codeOf_103 : decode cX12_codeOf 103 = .ok (.lload 7, 2) := by decide +kernel
theorem dX12_codeOf_105 : decode cX12_codeOf 105 = .ok (.lload 4, 2) := by decide +kernel
theorem dX12_codeOf_107 : decode cX12_codeOf 107 = .ok (.lcmp, 1) := by decide +kernel
theorem dX12_codeOf_108 : decode cX12_codeOf 108 = .ok (.ifCond .ne 7, 3) := by decide +kernel
theorem dX12_codeOf_111 : decode cX12_codeOf 111 = .ok (.iconst 1, 1) := by decide +kernel
theorem dX12_codeOf_112 : decode cX12_codeOf 112 = .ok (.goto 4, 3) := by decide +kernel
theorem dX12_codeOf_115 : decode cX12_codeOf 115 = .ok (.iconst 0, 1) := by decide +kernel
theorem dX12_codeOf_116 : decode cX12_codeOf 116 = .ok (.iadd, 1) := by decide +kernel
theorem dX12_codeOf_117 : decode cX12_codeOf 117 = .ok (.putfield 196, 3) := by decide +kernel
theorem dX12_codeOf_120 : decode cX12_codeOf 120 = .ok (.iinc 6 1, 3) := by decide +kernel
theorem dX12_codeOf_123 : decode cX12_codeOf 123 = .ok (.goto (-98), 3) := by decide +kernel
theorem dX12_codeOf_126 : decode cX12_codeOf 126 = .ok (.lload_n 2, 1) := by decide +kernel
theorem dX12_codeOf_127 : decode cX12_codeOf 127 = .ok (.lreturn, 1) := by decide +kernel
theorem dX12_kinOf_0 : decode cX12_kinOf 0 = .ok (.aload_n 0, 1) := by decide +kernel
theorem dX12_kinOf_1 : decode cX12_kinOf 1 = .ok (.iload_n 1, 1) := by decide +kernel
theorem dX12_kinOf_2 : decode cX12_kinOf 2 = .ok (.invokevirtual 207, 3) := by decide +kernel
theorem dX12_kinOf_5 : decode cX12_kinOf 5 = .ok (.pop2, 1) := by decide +kernel
theorem dX12_kinOf_6 : decode cX12_kinOf 6 = .ok (.aload_n 0, 1) := by decide +kernel
theorem dX12_kinOf_7 : decode cX12_kinOf 7 = .ok (.getfield 196, 3) := by decide +kernel
theorem dX12_kinOf_10 : decode cX12_kinOf 10 = .ok (.ireturn, 1) := by decide +kernel
theorem dX12_isSame_0 : decode cX12_isSame 0 = .ok (.aload_n 0, 1) := by decide +kernel
theorem dX12_isSame_1 : decode cX12_isSame 1 = .ok (.iload_n 1, 1) := by decide +kernel
theorem dX12_isSame_2 : decode cX12_isSame 2 = .ok (.invokevirtual 59, 3) := by decide +kernel
theorem dX12_isSame_5 : decode cX12_isSame 5 = .ok (.aload_n 0, 1) := by decide +kernel
theorem dX12_isSame_6 : decode cX12_isSame 6 = .ok (.iload_n 2, 1) := by decide +kernel
theorem dX12_isSame_7 : decode cX12_isSame 7 = .ok (.invokevirtual 59, 3) := by decide +kernel
theorem dX12_isSame_10 : decode cX12_isSame 10 = .ok (.if_icmp .ne 21, 3) := by decide +kernel
theorem dX12_isSame_13 : decode cX12_isSame 13 = .ok (.aload_n 0, 1) := by decide +kernel
theorem dX12_isSame_14 : decode cX12_isSame 14 = .ok (.iload_n 1, 1) := by decide +kernel
theorem dX12_isSame_15 : decode cX12_isSame 15 = .ok (.invokevirtual 207, 3) := by decide +kernel
theorem dX12_isSame_18 : decode cX12_isSame 18 = .ok (.aload_n 0, 1) := by decide +kernel
theorem dX12_isSame_19 : decode cX12_isSame 19 = .ok (.iload_n 2, 1) := by decide +kernel
theorem dX12_isSame_20 : decode cX12_isSame 20 = .ok (.invokevirtual 207, 3) := by decide +kernel
theorem dX12_isSame_23 : decode cX12_isSame 23 = .ok (.lcmp, 1) := by decide +kernel
theorem dX12_isSame_24 : decode cX12_isSame 24 = .ok (.ifCond .ne 7, 3) := by decide +kernel
theorem dX12_isSame_27 : decode cX12_isSame 27 = .ok (.iconst 1, 1) := by decide +kernel
theorem dX12_isSame_28 : decode cX12_isSame 28 = .ok (.goto 4, 3) := by decide +kernel
theorem dX12_isSame_31 : decode cX12_isSame 31 = .ok (.iconst 0, 1) := by decide +kernel
theorem dX12_isSame_32 : decode cX12_isSame 32 = .ok (.ireturn, 1) := by decide +kernel
theorem dX12_unlikeWords_0 : decode cX12_unlikeWords 0 = .ok (.iconst 0, 1) := by decide +kernel
theorem dX12_unlikeWords_1 : decode cX12_unlikeWords 1 = .ok (.istore_n 1, 1) := by decide +kernel
theorem dX12_unlikeWords_2 : decode cX12_unlikeWords 2 = .ok (.iconst 0, 1) := by decide +kernel
theorem dX12_unlikeWords_3 : decode cX12_unlikeWords 3 = .ok (.istore_n 2, 1) := by decide +kernel
theorem dX12_unlikeWords_4 : decode cX12_unlikeWords 4 = .ok (.iload_n 2, 1) := by decide +kernel
theorem dX12_unlikeWords_5 : decode cX12_unlikeWords 5 = .ok (.aload_n 0, 1) := by decide +kernel
theorem dX12_unlikeWords_6 : decode cX12_unlikeWords 6 = .ok (.getfield 7, 3) := by decide +kernel
theorem dX12_unlikeWords_9 : decode cX12_unlikeWords 9 = .ok (.iconst 0, 1) := by decide +kernel
theorem dX12_unlikeWords_10 : decode cX12_unlikeWords 10 = .ok (.iaload, 1) := by decide +kernel
theorem dX12_unlikeWords_11 : decode cX12_unlikeWords 11 = .ok (.if_icmp .ge 58, 3) := by decide +kernel
theorem dX12_unlikeWords_14 : decode cX12_unlikeWords 14 = .ok (.iconst 1, 1) := by decide +kernel
theorem dX12_unlikeWords_15 : decode cX12_unlikeWords 15 = .ok (.istore_n 3, 1) := by decide +kernel
theorem dX12_unlikeWords_16 : decode cX12_unlikeWords 16 = .ok (.iconst 0, 1) := by decide +kernel
theorem dX12_unlikeWords_17 : decode cX12_unlikeWords 17 = .ok (.istore 4, 2) := by decide +kernel
theorem dX12_unlikeWords_19 : decode cX12_unlikeWords 19 = .ok (.iload 4, 2) := by decide +kernel
theorem dX12_unlikeWords_21 : decode cX12_unlikeWords 21 = .ok (.iload_n 2, 1) := by decide +kernel
theorem dX12_unlikeWords_22 : decode cX12_unlikeWords 22 = .ok (.if_icmp .ge 29, 3) := by decide +kernel
theorem dX12_unlikeWords_25 : decode cX12_unlikeWords 25 = .ok (.iload_n 3, 1) := by decide +kernel
theorem dX12_unlikeWords_26 : decode cX12_unlikeWords 26 = .ok (.ifCond .eq 17, 3) := by decide +kernel
theorem dX12_unlikeWords_29 : decode cX12_unlikeWords 29 = .ok (.aload_n 0, 1) := by decide +kernel
theorem dX12_unlikeWords_30 : decode cX12_unlikeWords 30 = .ok (.iload_n 2, 1) := by decide +kernel
theorem dX12_unlikeWords_31 : decode cX12_unlikeWords 31 = .ok (.iload 4, 2) := by decide +kernel
theorem dX12_unlikeWords_33 : decode cX12_unlikeWords 33 = .ok (.invokevirtual 211, 3) := by decide +kernel
theorem dX12_unlikeWords_36 : decode cX12_unlikeWords 36 = .ok (.ifCond .ne 7, 3) := by decide +kernel
theorem dX12_unlikeWords_39 : decode cX12_unlikeWords 39 = .ok (.iconst 1, 1) := by decide +kernel
theorem dX12_unlikeWords_40 : decode cX12_unlikeWords 40 = .ok (.goto 4, 3) := by decide +kernel
theorem dX12_unlikeWords_43 : decode cX12_unlikeWords 43 = .ok (.iconst 0, 1) := by decide +kernel
theorem dX12_unlikeWords_44 : decode cX12_unlikeWords 44 = .ok (.istore_n 3, 1) := by decide +kernel
theorem dX12_unlikeWords_45 : decode cX12_unlikeWords 45 = .ok (.iinc 4 1, 3) := by decide +kernel
theorem dX12_unlikeWords_48 : decode cX12_unlikeWords 48 = .ok (.goto (-29), 3) := by decide +kernel
theorem dX12_unlikeWords_51 : decode cX12_unlikeWords 51 = .ok (.iload_n 1, 1) := by decide +kernel
theorem dX12_unlikeWords_52 : decode cX12_unlikeWords 52 = .ok (.iload_n 3, 1) := by decide +kernel
theorem dX12_unlikeWords_53 : decode cX12_unlikeWords 53 = .ok (.ifCond .eq 7, 3) := by decide +kernel
theorem dX12_unlikeWords_56 : decode cX12_unlikeWords 56 = .ok (.iconst 1, 1) := by decide +kernel
theorem dX12_unlikeWords_57 : decode cX12_unlikeWords 57 = .ok (.goto 4, 3) := by decide +kernel
theorem dX12_unlikeWords_60 : decode cX12_unlikeWords 60 = .ok (.iconst 0, 1) := by decide +kernel
theorem dX12_unlikeWords_61 : decode cX12_unlikeWords 61 = .ok (.iadd, 1) := by decide +kernel
theorem dX12_unlikeWords_62 : decode cX12_unlikeWords 62 = .ok (.istore_n 1, 1) := by decide +kernel
theorem dX12_unlikeWords_63 : decode cX12_unlikeWords 63 = .ok (.iinc 2 1, 3) := by decide +kernel
theorem dX12_unlikeWords_66 : decode cX12_unlikeWords 66 = .ok (.goto (-62), 3) := by decide +kernel
theorem dX12_unlikeWords_69 : decode cX12_unlikeWords 69 = .ok (.iload_n 1, 1) := by decide +kernel
theorem dX12_unlikeWords_70 : decode cX12_unlikeWords 70 = .ok (.ireturn, 1) := by decide +kernel
theorem dX12_areBeside_0 : decode cX12_areBeside 0 = .ok (.iconst 2, 1) := by decide +kernel
theorem dX12_areBeside_1 : decode cX12_areBeside 1 = .ok (.aload_n 0, 1) := by decide +kernel
theorem dX12_areBeside_2 : decode cX12_areBeside 2 = .ok (.iload_n 1, 1) := by decide +kernel
theorem dX12_areBeside_3 : decode cX12_areBeside 3 = .ok (.invokevirtual 59, 3) := by decide +kernel
theorem dX12_areBeside_6 : decode cX12_areBeside 6 = .ok (.imul, 1) := by decide +kernel
theorem dX12_areBeside_7 : decode cX12_areBeside 7 = .ok (.istore 4, 2) := by decide +kernel
theorem dX12_areBeside_9 : decode cX12_areBeside 9 = .ok (.iload_n 2, 1) := by decide +kernel
theorem dX12_areBeside_10 : decode cX12_areBeside 10 = .ok (.iconst 1, 1) := by decide +kernel
theorem dX12_areBeside_11 : decode cX12_areBeside 11 = .ok (.iadd, 1) := by decide +kernel
theorem dX12_areBeside_12 : decode cX12_areBeside 12 = .ok (.iload 4, 2) := by decide +kernel
theorem dX12_areBeside_14 : decode cX12_areBeside 14 = .ok (.irem, 1) := by decide +kernel
theorem dX12_areBeside_15 : decode cX12_areBeside 15 = .ok (.iload_n 3, 1) := by decide +kernel
theorem dX12_areBeside_16 : decode cX12_areBeside 16 = .ok (.if_icmp .eq 13, 3) := by decide +kernel
theorem dX12_areBeside_19 : decode cX12_areBeside 19 = .ok (.iload_n 3, 1) := by decide +kernel
theorem dX12_areBeside_20 : decode cX12_areBeside 20 = .ok (.iconst 1, 1) := by decide +kernel
theorem dX12_areBeside_21 : decode cX12_areBeside 21 = .ok (.iadd, 1) := by decide +kernel
theorem dX12_areBeside_22 : decode cX12_areBeside 22 = .ok (.iload 4, 2) := by decide +kernel
theorem dX12_areBeside_24 : decode cX12_areBeside 24 = .ok (.irem, 1) := by decide +kernel
theorem dX12_areBeside_25 : decode cX12_areBeside 25 = .ok (.iload_n 2, 1) := by decide +kernel
theorem dX12_areBeside_26 : decode cX12_areBeside 26 = .ok (.if_icmp .ne 7, 3) := by decide +kernel
theorem dX12_areBeside_29 : decode cX12_areBeside 29 = .ok (.iconst 1, 1) := by decide +kernel
theorem dX12_areBeside_30 : decode cX12_areBeside 30 = .ok (.goto 4, 3) := by decide +kernel
theorem dX12_areBeside_33 : decode cX12_areBeside 33 = .ok (.iconst 0, 1) := by decide +kernel
theorem dX12_areBeside_34 : decode cX12_areBeside 34 = .ok (.ireturn, 1) := by decide +kernel
theorem dX12_isLoop_0 : decode cX12_isLoop 0 = .ok (.aload_n 0, 1) := by decide +kernel
theorem dX12_isLoop_1 : decode cX12_isLoop 1 = .ok (.iload_n 1, 1) := by decide +kernel
theorem dX12_isLoop_2 : decode cX12_isLoop 2 = .ok (.aload_n 0, 1) := by decide +kernel
theorem dX12_isLoop_3 : decode cX12_isLoop 3 = .ok (.iload_n 1, 1) := by decide +kernel
theorem dX12_isLoop_4 : decode cX12_isLoop 4 = .ok (.iload_n 2, 1) := by decide +kernel
theorem dX12_isLoop_5 : decode cX12_isLoop 5 = .ok (.iconst 0, 1) := by decide +kernel
theorem dX12_isLoop_6 : decode cX12_isLoop 6 = .ok (.invokevirtual 104, 3) := by decide +kernel
theorem dX12_isLoop_9 : decode cX12_isLoop 9 = .ok (.aload_n 0, 1) := by decide +kernel
theorem dX12_isLoop_10 : decode cX12_isLoop 10 = .ok (.iload_n 1, 1) := by decide +kernel
theorem dX12_isLoop_11 : decode cX12_isLoop 11 = .ok (.iload_n 2, 1) := by decide +kernel
theorem dX12_isLoop_12 : decode cX12_isLoop 12 = .ok (.iconst 1, 1) := by decide +kernel
theorem dX12_isLoop_13 : decode cX12_isLoop 13 = .ok (.invokevirtual 104, 3) := by decide +kernel
theorem dX12_isLoop_16 : decode cX12_isLoop 16 = .ok (.invokevirtual 214, 3) := by decide +kernel
theorem dX12_isLoop_19 : decode cX12_isLoop 19 = .ok (.ireturn, 1) := by decide +kernel
theorem dX12_loops_0 : decode cX12_loops 0 = .ok (.iconst 0, 1) := by decide +kernel
theorem dX12_loops_1 : decode cX12_loops 1 = .ok (.istore_n 2, 1) := by decide +kernel
theorem dX12_loops_2 : decode cX12_loops 2 = .ok (.iconst 0, 1) := by decide +kernel
theorem dX12_loops_3 : decode cX12_loops 3 = .ok (.istore_n 3, 1) := by decide +kernel
theorem dX12_loops_4 : decode cX12_loops 4 = .ok (.iload_n 3, 1) := by decide +kernel
theorem dX12_loops_5 : decode cX12_loops 5 = .ok (.aload_n 0, 1) := by decide +kernel
theorem dX12_loops_6 : decode cX12_loops 6 = .ok (.iload_n 1, 1) := by decide +kernel
theorem dX12_loops_7 : decode cX12_loops 7 = .ok (.invokevirtual 59, 3) := by decide +kernel
theorem dX12_loops_10 : decode cX12_loops 10 = .ok (.if_icmp .ge 28, 3) := by decide +kernel
theorem dX12_loops_13 : decode cX12_loops 13 = .ok (.iload_n 2, 1) := by decide +kernel
theorem dX12_loops_14 : decode cX12_loops 14 = .ok (.aload_n 0, 1) := by decide +kernel
theorem dX12_loops_15 : decode cX12_loops 15 = .ok (.iload_n 1, 1) := by decide +kernel
theorem dX12_loops_16 : decode cX12_loops 16 = .ok (.iload_n 3, 1) := by decide +kernel
theorem dX12_loops_17 : decode cX12_loops 17 = .ok (.invokevirtual 217, 3) := by decide +kernel
theorem dX12_loops_20 : decode cX12_loops 20 = .ok (.ifCond .eq 9, 3) := by decide +kernel
theorem dX12_loops_23 : decode cX12_loops 23 = .ok (.iconst 1, 1) := by decide +kernel
theorem dX12_loops_24 : decode cX12_loops 24 = .ok (.iload_n 3, 1) := by decide +kernel
theorem dX12_loops_25 : decode cX12_loops 25 = .ok (.ishl, 1) := by decide +kernel
theorem dX12_loops_26 : decode cX12_loops 26 = .ok (.goto 4, 3) := by decide +kernel
theorem dX12_loops_29 : decode cX12_loops 29 = .ok (.iconst 0, 1) := by decide +kernel
theorem dX12_loops_30 : decode cX12_loops 30 = .ok (.ior, 1) := by decide +kernel
theorem dX12_loops_31 : decode cX12_loops 31 = .ok (.istore_n 2, 1) := by decide +kernel
theorem dX12_loops_32 : decode cX12_loops 32 = .ok (.iinc 3 1, 3) := by decide +kernel
theorem dX12_loops_35 : decode cX12_loops 35 = .ok (.goto (-31), 3) := by decide +kernel
theorem dX12_loops_38 : decode cX12_loops 38 = .ok (.iload_n 2, 1) := by decide +kernel
theorem dX12_loops_39 : decode cX12_loops 39 = .ok (.ireturn, 1) := by decide +kernel
theorem dX12_wrong_0 : decode cX12_wrong 0 = .ok (.iconst 0, 1) := by decide +kernel
theorem dX12_wrong_1 : decode cX12_wrong 1 = .ok (.istore_n 1, 1) := by decide +kernel
theorem dX12_wrong_2 : decode cX12_wrong 2 = .ok (.iload_n 1, 1) := by decide +kernel
theorem dX12_wrong_3 : decode cX12_wrong 3 = .ok (.aload_n 0, 1) := by decide +kernel
theorem dX12_wrong_4 : decode cX12_wrong 4 = .ok (.getfield 220, 3) := by decide +kernel
theorem dX12_wrong_7 : decode cX12_wrong 7 = .ok (.if_icmp .ge 44, 3) := by decide +kernel
theorem dX12_wrong_10 : decode cX12_wrong 10 = .ok (.aload_n 0, 1) := by decide +kernel
theorem dX12_wrong_11 : decode cX12_wrong 11 = .ok (.aload_n 0, 1) := by decide +kernel
theorem dX12_wrong_12 : decode cX12_wrong 12 = .ok (.getfield 27, 3) := by decide +kernel
theorem dX12_wrong_15 : decode cX12_wrong 15 = .ok (.iload_n 1, 1) := by decide +kernel
theorem dX12_wrong_16 : decode cX12_wrong 16 = .ok (.iaload, 1) := by decide +kernel
theorem dX12_wrong_17 : decode cX12_wrong 17 = .ok (.invokevirtual 223, 3) := by decide +kernel
theorem dX12_wrong_20 : decode cX12_wrong 20 = .ok (.ifCond .eq 23, 3) := by decide +kernel
theorem dX12_wrong_23 : decode cX12_wrong 23 = .ok (.aload_n 0, 1) := by decide +kernel
theorem dX12_wrong_24 : decode cX12_wrong 24 = .ok (.aload_n 0, 1) := by decide +kernel
theorem dX12_wrong_25 : decode cX12_wrong 25 = .ok (.getfield 27, 3) := by decide +kernel
theorem dX12_wrong_28 : decode cX12_wrong 28 = .ok (.iload_n 1, 1) := by decide +kernel
theorem dX12_wrong_29 : decode cX12_wrong 29 = .ok (.iaload, 1) := by decide +kernel
theorem dX12_wrong_30 : decode cX12_wrong 30 = .ok (.iconst 1, 1) := by decide +kernel
theorem dX12_wrong_31 : decode cX12_wrong 31 = .ok (.invokevirtual 227, 3) := by decide +kernel
theorem dX12_wrong_34 : decode cX12_wrong 34 = .ok (.aload_n 0, 1) := by decide +kernel
theorem dX12_wrong_35 : decode cX12_wrong 35 = .ok (.getfield 30, 3) := by decide +kernel
theorem dX12_wrong_38 : decode cX12_wrong 38 = .ok (.iload_n 1, 1) := by decide +kernel
theorem dX12_wrong_39 : decode cX12_wrong 39 = .ok (.iaload, 1) := by decide +kernel
theorem dX12_wrong_40 : decode cX12_wrong 40 = .ok (.if_icmp .eq 5, 3) := by decide +kernel
theorem dX12_wrong_43 : decode cX12_wrong 43 = .ok (.iload_n 1, 1) := by decide +kernel
theorem dX12_wrong_44 : decode cX12_wrong 44 = .ok (.ireturn, 1) := by decide +kernel
theorem dX12_wrong_45 : decode cX12_wrong 45 = .ok (.iinc 1 1, 3) := by decide +kernel
theorem dX12_wrong_48 : decode cX12_wrong 48 = .ok (.goto (-46), 3) := by decide +kernel
theorem dX12_wrong_51 : decode cX12_wrong 51 = .ok (.iconst (-1), 1) := by decide +kernel
theorem dX12_wrong_52 : decode cX12_wrong 52 = .ok (.ireturn, 1) := by decide +kernel
theorem dX12_told_0 : decode cX12_told 0 = .ok (.iload_n 1, 1) := by decide +kernel
theorem dX12_told_1 : decode cX12_told 1 = .ok (.tableswitch 80 0 6 #[43, 50, 55, 60, 65, 70, 75], 43) := by decide +kernel
theorem dX12_told_44 : decode cX12_told 44 = .ok (.aload_n 0, 1) := by decide +kernel
theorem dX12_told_45 : decode cX12_told 45 = .ok (.getfield 7, 3) := by decide +kernel
theorem dX12_told_48 : decode cX12_told 48 = .ok (.iconst 0, 1) := by decide +kernel
theorem dX12_told_49 : decode cX12_told 49 = .ok (.iaload, 1) := by decide +kernel
theorem dX12_told_50 : decode cX12_told 50 = .ok (.ireturn, 1) := by decide +kernel
theorem dX12_told_51 : decode cX12_told 51 = .ok (.aload_n 0, 1) := by decide +kernel
theorem dX12_told_52 : decode cX12_told 52 = .ok (.invokevirtual 230, 3) := by decide +kernel
theorem dX12_told_55 : decode cX12_told 55 = .ok (.ireturn, 1) := by decide +kernel
theorem dX12_told_56 : decode cX12_told 56 = .ok (.aload_n 0, 1) := by decide +kernel
theorem dX12_told_57 : decode cX12_told 57 = .ok (.getfield 79, 3) := by decide +kernel
theorem dX12_told_60 : decode cX12_told 60 = .ok (.ireturn, 1) := by decide +kernel
theorem dX12_told_61 : decode cX12_told 61 = .ok (.aload_n 0, 1) := by decide +kernel
theorem dX12_told_62 : decode cX12_told 62 = .ok (.getfield 220, 3) := by decide +kernel
theorem dX12_told_65 : decode cX12_told 65 = .ok (.ireturn, 1) := by decide +kernel
theorem dX12_told_66 : decode cX12_told 66 = .ok (.aload_n 0, 1) := by decide +kernel
theorem dX12_told_67 : decode cX12_told 67 = .ok (.invokevirtual 233, 3) := by decide +kernel
theorem dX12_told_70 : decode cX12_told 70 = .ok (.ireturn, 1) := by decide +kernel
theorem dX12_told_71 : decode cX12_told 71 = .ok (.aload_n 0, 1) := by decide +kernel
theorem dX12_told_72 : decode cX12_told 72 = .ok (.getfield 48, 3) := by decide +kernel
theorem dX12_told_75 : decode cX12_told 75 = .ok (.ireturn, 1) := by decide +kernel
theorem dX12_told_76 : decode cX12_told 76 = .ok (.aload_n 0, 1) := by decide +kernel
theorem dX12_told_77 : decode cX12_told 77 = .ok (.getfield 236, 3) := by decide +kernel
theorem dX12_told_80 : decode cX12_told 80 = .ok (.ireturn, 1) := by decide +kernel
theorem dX12_told_81 : decode cX12_told 81 = .ok (.ldc 78, 2) := by decide +kernel
theorem dX12_told_83 : decode cX12_told 83 = .ok (.ireturn, 1) := by decide +kernel
theorem dX12_ofFaces_0 : decode cX12_ofFaces 0 = .ok (.iload_n 2, 1) := by decide +kernel
theorem dX12_ofFaces_1 : decode cX12_ofFaces 1 = .ok (.tableswitch 101 4 10 #[43, 54, 75, 81, 101, 87, 94], 43) := by decide +kernel
theorem dX12_ofFaces_44 : decode cX12_ofFaces 44 = .ok (.aload_n 0, 1) := by decide +kernel
theorem dX12_ofFaces_45 : decode cX12_ofFaces 45 = .ok (.iload_n 1, 1) := by decide +kernel
theorem dX12_ofFaces_46 : decode cX12_ofFaces 46 = .ok (.aload_n 0, 1) := by decide +kernel
theorem dX12_ofFaces_47 : decode cX12_ofFaces 47 = .ok (.iload_n 1, 1) := by decide +kernel
theorem dX12_ofFaces_48 : decode cX12_ofFaces 48 = .ok (.invokevirtual 168, 3) := by decide +kernel
theorem dX12_ofFaces_51 : decode cX12_ofFaces 51 = .ok (.invokevirtual 159, 3) := by decide +kernel
theorem dX12_ofFaces_54 : decode cX12_ofFaces 54 = .ok (.ireturn, 1) := by decide +kernel
theorem dX12_ofFaces_55 : decode cX12_ofFaces 55 = .ok (.aload_n 0, 1) := by decide +kernel
theorem dX12_ofFaces_56 : decode cX12_ofFaces 56 = .ok (.iload_n 1, 1) := by decide +kernel
theorem dX12_ofFaces_57 : decode cX12_ofFaces 57 = .ok (.invokevirtual 59, 3) := by decide +kernel
theorem dX12_ofFaces_60 : decode cX12_ofFaces 60 = .ok (.iconst 2, 1) := by decide +kernel
theorem dX12_ofFaces_61 : decode cX12_ofFaces 61 = .ok (.iadd, 1) := by decide +kernel
theorem dX12_ofFaces_62 : decode cX12_ofFaces 62 = .ok (.aload_n 0, 1) := by decide +kernel
theorem dX12_ofFaces_63 : decode cX12_ofFaces 63 = .ok (.iload_n 1, 1) := by decide +kernel
theorem dX12_ofFaces_64 : decode cX12_ofFaces 64 = .ok (.aload_n 0, 1) := by decide +kernel
theorem dX12_ofFaces_65 : decode cX12_ofFaces 65 = .ok (.iload_n 1, 1) := by decide +kernel
theorem dX12_ofFaces_66 : decode cX12_ofFaces 66 = .ok (.invokevirtual 168, 3) := by decide +kernel
theorem dX12_ofFaces_69 : decode cX12_ofFaces 69 = .ok (.invokevirtual 159, 3) := by decide +kernel
theorem dX12_ofFaces_72 : decode cX12_ofFaces 72 = .ok (.isub, 1) := by decide +kernel
theorem dX12_ofFaces_73 : decode cX12_ofFaces 73 = .ok (.iconst 2, 1) := by decide +kernel
theorem dX12_ofFaces_74 : decode cX12_ofFaces 74 = .ok (.idiv, 1) := by decide +kernel
theorem dX12_ofFaces_75 : decode cX12_ofFaces 75 = .ok (.ireturn, 1) := by decide +kernel
theorem dX12_ofFaces_76 : decode cX12_ofFaces 76 = .ok (.aload_n 0, 1) := by decide +kernel
theorem dX12_ofFaces_77 : decode cX12_ofFaces 77 = .ok (.iload_n 1, 1) := by decide +kernel
theorem dX12_ofFaces_78 : decode cX12_ofFaces 78 = .ok (.invokevirtual 239, 3) := by decide +kernel
theorem dX12_ofFaces_81 : decode cX12_ofFaces 81 = .ok (.ireturn, 1) := by decide +kernel
theorem dX12_ofFaces_82 : decode cX12_ofFaces 82 = .ok (.aload_n 0, 1) := by decide +kernel
theorem dX12_ofFaces_83 : decode cX12_ofFaces 83 = .ok (.iload_n 1, 1) := by decide +kernel
theorem dX12_ofFaces_84 : decode cX12_ofFaces 84 = .ok (.invokevirtual 242, 3) := by decide +kernel
theorem dX12_ofFaces_87 : decode cX12_ofFaces 87 = .ok (.ireturn, 1) := by decide +kernel
theorem dX12_ofFaces_88 : decode cX12_ofFaces 88 = .ok (.aload_n 0, 1) := by decide +kernel
theorem dX12_ofFaces_89 : decode cX12_ofFaces 89 = .ok (.iload_n 1, 1) := by decide +kernel
theorem dX12_ofFaces_90 : decode cX12_ofFaces 90 = .ok (.iconst 1, 1) := by decide +kernel
theorem dX12_ofFaces_91 : decode cX12_ofFaces 91 = .ok (.invokevirtual 245, 3) := by decide +kernel
theorem dX12_ofFaces_94 : decode cX12_ofFaces 94 = .ok (.ireturn, 1) := by decide +kernel
theorem dX12_ofFaces_95 : decode cX12_ofFaces 95 = .ok (.aload_n 0, 1) := by decide +kernel
theorem dX12_ofFaces_96 : decode cX12_ofFaces 96 = .ok (.iload_n 1, 1) := by decide +kernel
theorem dX12_ofFaces_97 : decode cX12_ofFaces 97 = .ok (.iconst 0, 1) := by decide +kernel
theorem dX12_ofFaces_98 : decode cX12_ofFaces 98 = .ok (.invokevirtual 245, 3) := by decide +kernel
theorem dX12_ofFaces_101 : decode cX12_ofFaces 101 = .ok (.ireturn, 1) := by decide +kernel
theorem dX12_ofFaces_102 : decode cX12_ofFaces 102 = .ok (.aload_n 0, 1) := by decide +kernel
theorem dX12_ofFaces_103 : decode cX12_ofFaces 103 = .ok (.iload_n 1, 1) := by decide +kernel
theorem dX12_ofFaces_104 : decode cX12_ofFaces 104 = .ok (.iload_n 2, 1) := by decide +kernel
theorem dX12_ofFaces_105 : decode cX12_ofFaces 105 = .ok (.bipush 11, 2) := by decide +kernel
theorem dX12_ofFaces_107 : decode cX12_ofFaces 107 = .ok (.isub, 1) := by decide +kernel
theorem dX12_ofFaces_108 : decode cX12_ofFaces 108 = .ok (.invokevirtual 249, 3) := by decide +kernel
theorem dX12_ofFaces_111 : decode cX12_ofFaces 111 = .ok (.ireturn, 1) := by decide +kernel
theorem dX12_word_0 : decode cX12_word 0 = .ok (.aload_n 0, 1) := by decide +kernel
theorem dX12_word_1 : decode cX12_word 1 = .ok (.iload_n 1, 1) := by decide +kernel
theorem dX12_word_2 : decode cX12_word 2 = .ok (.invokevirtual 223, 3) := by decide +kernel
theorem dX12_word_5 : decode cX12_word 5 = .ok (.ifCond .ne 6, 3) := by decide +kernel
theorem dX12_word_8 : decode cX12_word 8 = .ok (.ldc 252, 2) := by decide +kernel
theorem dX12_word_10 : decode cX12_word 10 = .ok (.ireturn, 1) := by decide +kernel
theorem dX12_word_11 : decode cX12_word 11 = .ok (.iload_n 2, 1) := by decide +kernel
theorem dX12_word_12 : decode cX12_word 12 = .ok (.tableswitch 111 0 12 #[68, 74, 80, 86, 111, 111, 111, 111, 92, 111, 111, 99, 105], 68) := by decide +kernel
theorem dX12_word_80 : decode cX12_word 80 = .ok (.aload_n 0, 1) := by decide +kernel
theorem dX12_word_81 : decode cX12_word 81 = .ok (.iload_n 1, 1) := by decide +kernel
theorem dX12_word_82 : decode cX12_word 82 = .ok (.invokevirtual 59, 3) := by decide +kernel
theorem dX12_word_85 : decode cX12_word 85 = .ok (.ireturn, 1) := by decide +kernel
theorem dX12_word_86 : decode cX12_word 86 = .ok (.aload_n 0, 1) := by decide +kernel
theorem dX12_word_87 : decode cX12_word 87 = .ok (.iload_n 1, 1) := by decide +kernel
theorem dX12_word_88 : decode cX12_word 88 = .ok (.invokevirtual 253, 3) := by decide +kernel
theorem dX12_word_91 : decode cX12_word 91 = .ok (.ireturn, 1) := by decide +kernel
theorem dX12_word_92 : decode cX12_word 92 = .ok (.aload_n 0, 1) := by decide +kernel
theorem dX12_word_93 : decode cX12_word 93 = .ok (.iload_n 1, 1) := by decide +kernel
theorem dX12_word_94 : decode cX12_word 94 = .ok (.invokevirtual 256, 3) := by decide +kernel
theorem dX12_word_97 : decode cX12_word 97 = .ok (.ireturn, 1) := by decide +kernel
theorem dX12_word_98 : decode cX12_word 98 = .ok (.aload_n 0, 1) := by decide +kernel
theorem dX12_word_99 : decode cX12_word 99 = .ok (.iload_n 1, 1) := by decide +kernel
theorem dX12_word_100 : decode cX12_word 100 = .ok (.invokevirtual 168, 3) := by decide +kernel
theorem dX12_word_103 : decode cX12_word 103 = .ok (.ireturn, 1) := by decide +kernel
theorem dX12_word_104 : decode cX12_word 104 = .ok (.aload_n 0, 1) := by decide +kernel
theorem dX12_word_105 : decode cX12_word 105 = .ok (.iload_n 1, 1) := by decide +kernel
theorem dX12_word_106 : decode cX12_word 106 = .ok (.iconst 0, 1) := by decide +kernel
theorem dX12_word_107 : decode cX12_word 107 = .ok (.invokevirtual 191, 3) := by decide +kernel
theorem dX12_word_110 : decode cX12_word 110 = .ok (.ireturn, 1) := by decide +kernel
theorem dX12_word_111 : decode cX12_word 111 = .ok (.aload_n 0, 1) := by decide +kernel
theorem dX12_word_112 : decode cX12_word 112 = .ok (.iload_n 1, 1) := by decide +kernel
theorem dX12_word_113 : decode cX12_word 113 = .ok (.invokevirtual 259, 3) := by decide +kernel
theorem dX12_word_116 : decode cX12_word 116 = .ok (.ireturn, 1) := by decide +kernel
theorem dX12_word_117 : decode cX12_word 117 = .ok (.aload_n 0, 1) := by decide +kernel
theorem dX12_word_118 : decode cX12_word 118 = .ok (.iload_n 1, 1) := by decide +kernel
theorem dX12_word_119 : decode cX12_word 119 = .ok (.invokevirtual 262, 3) := by decide +kernel
theorem dX12_word_122 : decode cX12_word 122 = .ok (.ireturn, 1) := by decide +kernel
theorem dX12_word_123 : decode cX12_word 123 = .ok (.iload_n 2, 1) := by decide +kernel
theorem dX12_word_124 : decode cX12_word 124 = .ok (.i2l, 1) := by decide +kernel
theorem dX12_word_125 : decode cX12_word 125 = .ok (.ldc2_w 265, 3) := by decide +kernel
theorem dX12_word_128 : decode cX12_word 128 = .ok (.ldc2_w 267, 3) := by decide +kernel
theorem dX12_word_131 : decode cX12_word 131 = .ok (.invokestatic 55, 3) := by decide +kernel
theorem dX12_word_134 : decode cX12_word 134 = .ok (.ifCond .eq 12, 3) := by decide +kernel
theorem dX12_word_137 : decode cX12_word 137 = .ok (.aload_n 0, 1) := by decide +kernel
theorem dX12_word_138 : decode cX12_word 138 = .ok (.iload_n 1, 1) := by decide +kernel
theorem dX12_word_139 : decode cX12_word 139 = .ok (.iload_n 2, 1) := by decide +kernel
theorem dX12_word_140 : decode cX12_word 140 = .ok (.invokevirtual 269, 3) := by decide +kernel
theorem dX12_word_143 : decode cX12_word 143 = .ok (.goto 5, 3) := by decide +kernel
theorem dX12_word_146 : decode cX12_word 146 = .ok (.ldc 78, 2) := by decide +kernel
theorem dX12_word_148 : decode cX12_word 148 = .ok (.ireturn, 1) := by decide +kernel
theorem dX12_code_0 : decode cX12_code 0 = .ok (.aload_n 0, 1) := by decide +kernel
theorem dX12_code_1 : decode cX12_code 1 = .ok (.iload_n 1, 1) := by decide +kernel
theorem dX12_code_2 : decode cX12_code 2 = .ok (.invokevirtual 223, 3) := by decide +kernel
theorem dX12_code_5 : decode cX12_code 5 = .ok (.ifCond .eq 11, 3) := by decide +kernel
theorem dX12_code_8 : decode cX12_code 8 = .ok (.aload_n 0, 1) := by decide +kernel
theorem dX12_code_9 : decode cX12_code 9 = .ok (.iload_n 1, 1) := by decide +kernel
theorem dX12_code_10 : decode cX12_code 10 = .ok (.invokevirtual 207, 3) := by decide +kernel
theorem dX12_code_13 : decode cX12_code 13 = .ok (.goto 6, 3) := by decide +kernel
theorem dX12_code_16 : decode cX12_code 16 = .ok (.ldc2_w 272, 3) := by decide +kernel
theorem dX12_code_19 : decode cX12_code 19 = .ok (.lreturn, 1) := by decide +kernel
theorem dX12_at_0 : decode cX12_at 0 = .ok (.aload_n 0, 1) := by decide +kernel
theorem dX12_at_1 : decode cX12_at 1 = .ok (.iload_n 1, 1) := by decide +kernel
theorem dX12_at_2 : decode cX12_at 2 = .ok (.invokevirtual 223, 3) := by decide +kernel
theorem dX12_at_5 : decode cX12_at 5 = .ok (.ifCond .ne 6, 3) := by decide +kernel
theorem dX12_at_8 : decode cX12_at 8 = .ok (.ldc 252, 2) := by decide +kernel
theorem dX12_at_10 : decode cX12_at 10 = .ok (.ireturn, 1) := by decide +kernel
theorem dX12_at_11 : decode cX12_at 11 = .ok (.iload_n 2, 1) := by decide +kernel
theorem dX12_at_12 : decode cX12_at 12 = .ok (.i2l, 1) := by decide +kernel
theorem dX12_at_13 : decode cX12_at 13 = .ok (.lconst 0, 1) := by decide +kernel
theorem dX12_at_14 : decode cX12_at 14 = .ok (.iconst 2, 1) := by decide +kernel
theorem dX12_at_15 : decode cX12_at 15 = .ok (.aload_n 0, 1) := by decide +kernel
theorem dX12_at_16 : decode cX12_at 16 = .ok (.iload_n 1, 1) := by decide +kernel
theorem dX12_at_17 : decode cX12_at 17 = .ok (.invokevirtual 59, 3) := by decide +kernel
theorem dX12_at_20 : decode cX12_at 20 = .ok (.imul, 1) := by decide +kernel
theorem dX12_at_21 : decode cX12_at 21 = .ok (.iconst 1, 1) := by decide +kernel
theorem dX12_at_22 : decode cX12_at 22 = .ok (.isub, 1) := by decide +kernel
theorem dX12_at_23 : decode cX12_at 23 = .ok (.i2l, 1) := by decide +kernel
theorem dX12_at_24 : decode cX12_at 24 = .ok (.invokestatic 55, 3) := by decide +kernel
theorem dX12_at_27 : decode cX12_at 27 = .ok (.ifCond .eq 12, 3) := by decide +kernel
theorem dX12_at_30 : decode cX12_at 30 = .ok (.aload_n 0, 1) := by decide +kernel
theorem dX12_at_31 : decode cX12_at 31 = .ok (.iload_n 1, 1) := by decide +kernel
theorem dX12_at_32 : decode cX12_at 32 = .ok (.iload_n 2, 1) := by decide +kernel
theorem dX12_at_33 : decode cX12_at 33 = .ok (.invokevirtual 63, 3) := by decide +kernel
theorem dX12_at_36 : decode cX12_at 36 = .ok (.goto 4, 3) := by decide +kernel
theorem dX12_at_39 : decode cX12_at 39 = .ok (.iconst (-1), 1) := by decide +kernel
theorem dX12_at_40 : decode cX12_at 40 = .ok (.ireturn, 1) := by decide +kernel
theorem dX12_letter_0 : decode cX12_letter 0 = .ok (.aload_n 0, 1) := by decide +kernel
theorem dX12_letter_1 : decode cX12_letter 1 = .ok (.iload_n 1, 1) := by decide +kernel
theorem dX12_letter_2 : decode cX12_letter 2 = .ok (.invokevirtual 223, 3) := by decide +kernel
theorem dX12_letter_5 : decode cX12_letter 5 = .ok (.ifCond .eq 12, 3) := by decide +kernel
theorem dX12_letter_8 : decode cX12_letter 8 = .ok (.aload_n 0, 1) := by decide +kernel
theorem dX12_letter_9 : decode cX12_letter 9 = .ok (.iload_n 1, 1) := by decide +kernel
theorem dX12_letter_10 : decode cX12_letter 10 = .ok (.iload_n 2, 1) := by decide +kernel
theorem dX12_letter_11 : decode cX12_letter 11 = .ok (.invokevirtual 274, 3) := by decide +kernel
theorem dX12_letter_14 : decode cX12_letter 14 = .ok (.ifCond .ne 6, 3) := by decide +kernel
theorem dX12_letter_17 : decode cX12_letter 17 = .ok (.ldc 252, 2) := by decide +kernel
theorem dX12_letter_19 : decode cX12_letter 19 = .ok (.ireturn, 1) := by decide +kernel
theorem dX12_letter_20 : decode cX12_letter 20 = .ok (.iload_n 3, 1) := by decide +kernel
theorem dX12_letter_21 : decode cX12_letter 21 = .ok (.i2l, 1) := by decide +kernel
theorem dX12_letter_22 : decode cX12_letter 22 = .ok (.lconst 0, 1) := by decide +kernel
theorem dX12_letter_23 : decode cX12_letter 23 = .ok (.ldc2_w 277, 3) := by decide +kernel
theorem dX12_letter_26 : decode cX12_letter 26 = .ok (.invokestatic 55, 3) := by decide +kernel
theorem dX12_letter_29 : decode cX12_letter 29 = .ok (.ifCond .ne 6, 3) := by decide +kernel
theorem dX12_letter_32 : decode cX12_letter 32 = .ok (.ldc 78, 2) := by decide +kernel
theorem dX12_letter_34 : decode cX12_letter 34 = .ok (.ireturn, 1) := by decide +kernel
theorem dX12_letter_35 : decode cX12_letter 35 = .ok (.iload_n 3, 1) := by decide +kernel
theorem dX12_letter_36 : decode cX12_letter 36 = .ok (.iconst 3, 1) := by decide +kernel
theorem dX12_letter_37 : decode cX12_letter 37 = .ok (.if_icmp .ge 25, 3) := by decide +kernel
theorem dX12_letter_40 : decode cX12_letter 40 = .ok (.iload_n 3, 1) := by decide +kernel
theorem dX12_letter_41 : decode cX12_letter 41 = .ok (.iconst 2, 1) := by decide +kernel
theorem dX12_letter_42 : decode cX12_letter 42 = .ok (.if_icmp .ne 12, 3) := by decide +kernel
theorem dX12_letter_45 : decode cX12_letter 45 = .ok (.aload_n 0, 1) := by decide +kernel
theorem dX12_letter_46 : decode cX12_letter 46 = .ok (.iload_n 1, 1) := by decide +kernel
theorem dX12_letter_47 : decode cX12_letter 47 = .ok (.iload_n 2, 1) := by decide +kernel
theorem dX12_letter_48 : decode cX12_letter 48 = .ok (.invokevirtual 129, 3) := by decide +kernel
theorem dX12_letter_51 : decode cX12_letter 51 = .ok (.goto 10, 3) := by decide +kernel
theorem dX12_letter_54 : decode cX12_letter 54 = .ok (.aload_n 0, 1) := by decide +kernel
theorem dX12_letter_55 : decode cX12_letter 55 = .ok (.iload_n 1, 1) := by decide +kernel
theorem dX12_letter_56 : decode cX12_letter 56 = .ok (.iload_n 2, 1) := by decide +kernel
theorem dX12_letter_57 : decode cX12_letter 57 = .ok (.iload_n 3, 1) := by decide +kernel
theorem dX12_letter_58 : decode cX12_letter 58 = .ok (.invokevirtual 104, 3) := by decide +kernel
theorem dX12_letter_61 : decode cX12_letter 61 = .ok (.ireturn, 1) := by decide +kernel
theorem dX12_letter_62 : decode cX12_letter 62 = .ok (.aload_n 0, 1) := by decide +kernel
theorem dX12_letter_63 : decode cX12_letter 63 = .ok (.iload_n 1, 1) := by decide +kernel
theorem dX12_letter_64 : decode cX12_letter 64 = .ok (.aload_n 0, 1) := by decide +kernel
theorem dX12_letter_65 : decode cX12_letter 65 = .ok (.iload_n 1, 1) := by decide +kernel
theorem dX12_letter_66 : decode cX12_letter 66 = .ok (.invokevirtual 168, 3) := by decide +kernel
theorem dX12_letter_69 : decode cX12_letter 69 = .ok (.invokevirtual 162, 3) := by decide +kernel
theorem dX12_letter_72 : decode cX12_letter 72 = .ok (.istore 4, 2) := by decide +kernel
theorem dX12_letter_74 : decode cX12_letter 74 = .ok (.iload_n 3, 1) := by decide +kernel
theorem dX12_letter_75 : decode cX12_letter 75 = .ok (.bipush 7, 2) := by decide +kernel
theorem dX12_letter_77 : decode cX12_letter 77 = .ok (.if_icmp .ge 15, 3) := by decide +kernel
theorem dX12_letter_80 : decode cX12_letter 80 = .ok (.aload_n 0, 1) := by decide +kernel
theorem dX12_letter_81 : decode cX12_letter 81 = .ok (.iconst 4, 1) := by decide +kernel
theorem dX12_letter_82 : decode cX12_letter 82 = .ok (.iload_n 2, 1) := by decide +kernel
theorem dX12_letter_83 : decode cX12_letter 83 = .ok (.imul, 1) := by decide +kernel
theorem dX12_letter_84 : decode cX12_letter 84 = .ok (.iload_n 3, 1) := by decide +kernel
theorem dX12_letter_85 : decode cX12_letter 85 = .ok (.iadd, 1) := by decide +kernel
theorem dX12_letter_86 : decode cX12_letter 86 = .ok (.iconst 3, 1) := by decide +kernel
theorem dX12_letter_87 : decode cX12_letter 87 = .ok (.isub, 1) := by decide +kernel
theorem dX12_letter_88 : decode cX12_letter 88 = .ok (.invokevirtual 165, 3) := by decide +kernel
theorem dX12_letter_91 : decode cX12_letter 91 = .ok (.ireturn, 1) := by decide +kernel
theorem dX12_letter_92 : decode cX12_letter 92 = .ok (.aload_n 0, 1) := by decide +kernel
theorem dX12_letter_93 : decode cX12_letter 93 = .ok (.iload_n 1, 1) := by decide +kernel
theorem dX12_letter_94 : decode cX12_letter 94 = .ok (.invokevirtual 184, 3) := by decide +kernel
theorem dX12_letter_97 : decode cX12_letter 97 = .ok (.iload 4, 2) := by decide +kernel
theorem dX12_letter_99 : decode cX12_letter 99 = .ok (.ifCond .eq 14, 3) := by decide +kernel
theorem dX12_letter_102 : decode cX12_letter 102 = .ok (.aload_n 0, 1) := by decide +kernel
theorem dX12_letter_103 : decode cX12_letter 103 = .ok (.iload_n 2, 1) := by decide +kernel
theorem dX12_letter_104 : decode cX12_letter 104 = .ok (.invokevirtual 178, 3) := by decide +kernel
theorem dX12_letter_107 : decode cX12_letter 107 = .ok (.bipush 100, 2) := by decide +kernel
theorem dX12_letter_109 : decode cX12_letter 109 = .ok (.iadd, 1) := by decide +kernel
theorem dX12_letter_110 : decode cX12_letter 110 = .ok (.goto 4, 3) := by decide +kernel
theorem dX12_letter_113 : decode cX12_letter 113 = .ok (.iconst (-1), 1) := by decide +kernel
theorem dX12_letter_114 : decode cX12_letter 114 = .ok (.ireturn, 1) := by decide +kernel
theorem dX12_face_0 : decode cX12_face 0 = .ok (.aload_n 0, 1) := by decide +kernel
theorem dX12_face_1 : decode cX12_face 1 = .ok (.iload_n 1, 1) := by decide +kernel
theorem dX12_face_2 : decode cX12_face 2 = .ok (.invokevirtual 223, 3) := by decide +kernel
theorem dX12_face_5 : decode cX12_face 5 = .ok (.ifCond .eq 25, 3) := by decide +kernel
theorem dX12_face_8 : decode cX12_face 8 = .ok (.iload_n 2, 1) := by decide +kernel
theorem dX12_face_9 : decode cX12_face 9 = .ok (.i2l, 1) := by decide +kernel
theorem dX12_face_10 : decode cX12_face 10 = .ok (.lconst 0, 1) := by decide +kernel
theorem dX12_face_11 : decode cX12_face 11 = .ok (.aload_n 0, 1) := by decide +kernel
theorem dX12_face_12 : decode cX12_face 12 = .ok (.iload_n 1, 1) := by decide +kernel
theorem dX12_face_13 : decode cX12_face 13 = .ok (.aload_n 0, 1) := by decide +kernel
theorem dX12_face_14 : decode cX12_face 14 = .ok (.iload_n 1, 1) := by decide +kernel
theorem dX12_face_15 : decode cX12_face 15 = .ok (.invokevirtual 168, 3) := by decide +kernel
theorem dX12_face_18 : decode cX12_face 18 = .ok (.invokevirtual 159, 3) := by decide +kernel
theorem dX12_face_21 : decode cX12_face 21 = .ok (.iconst 1, 1) := by decide +kernel
theorem dX12_face_22 : decode cX12_face 22 = .ok (.isub, 1) := by decide +kernel
theorem dX12_face_23 : decode cX12_face 23 = .ok (.i2l, 1) := by decide +kernel
theorem dX12_face_24 : decode cX12_face 24 = .ok (.invokestatic 55, 3) := by decide +kernel
theorem dX12_face_27 : decode cX12_face 27 = .ok (.ifCond .ne 6, 3) := by decide +kernel
theorem dX12_face_30 : decode cX12_face 30 = .ok (.ldc 252, 2) := by decide +kernel
theorem dX12_face_32 : decode cX12_face 32 = .ok (.ireturn, 1) := by decide +kernel
theorem dX12_face_33 : decode cX12_face 33 = .ok (.iload_n 3, 1) := by decide +kernel
theorem dX12_face_34 : decode cX12_face 34 = .ok (.i2l, 1) := by decide +kernel
theorem dX12_face_35 : decode cX12_face 35 = .ok (.lconst 0, 1) := by decide +kernel
theorem dX12_face_36 : decode cX12_face 36 = .ok (.ldc2_w 279, 3) := by decide +kernel
theorem dX12_face_39 : decode cX12_face 39 = .ok (.invokestatic 55, 3) := by decide +kernel
theorem dX12_face_42 : decode cX12_face 42 = .ok (.ifCond .ne 6, 3) := by decide +kernel
theorem dX12_face_45 : decode cX12_face 45 = .ok (.ldc 78, 2) := by decide +kernel
theorem dX12_face_47 : decode cX12_face 47 = .ok (.ireturn, 1) := by decide +kernel
theorem dX12_face_48 : decode cX12_face 48 = .ok (.iload_n 3, 1) := by decide +kernel
theorem dX12_face_49 : decode cX12_face 49 = .ok (.ifCond .ne 10, 3) := by decide +kernel
theorem dX12_face_52 : decode cX12_face 52 = .ok (.aload_n 0, 1) := by decide +kernel
theorem dX12_face_53 : decode cX12_face 53 = .ok (.iload_n 1, 1) := by decide +kernel
theorem dX12_face_54 : decode cX12_face 54 = .ok (.iload_n 2, 1) := by decide +kernel
theorem dX12_face_55 : decode cX12_face 55 = .ok (.invokevirtual 171, 3) := by decide +kernel
theorem dX12_face_58 : decode cX12_face 58 = .ok (.ireturn, 1) := by decide +kernel
theorem dX12_face_59 : decode cX12_face 59 = .ok (.aload_n 0, 1) := by decide +kernel
theorem dX12_face_60 : decode cX12_face 60 = .ok (.iload_n 1, 1) := by decide +kernel
theorem dX12_face_61 : decode cX12_face 61 = .ok (.aload_n 0, 1) := by decide +kernel
theorem dX12_face_62 : decode cX12_face 62 = .ok (.iload_n 1, 1) := by decide +kernel
theorem dX12_face_63 : decode cX12_face 63 = .ok (.invokevirtual 168, 3) := by decide +kernel
theorem dX12_face_66 : decode cX12_face 66 = .ok (.invokevirtual 162, 3) := by decide +kernel
theorem dX12_face_69 : decode cX12_face 69 = .ok (.ifCond .ne 5, 3) := by decide +kernel
theorem dX12_face_72 : decode cX12_face 72 = .ok (.iconst (-1), 1) := by decide +kernel
theorem dX12_face_73 : decode cX12_face 73 = .ok (.ireturn, 1) := by decide +kernel
theorem dX12_face_74 : decode cX12_face 74 = .ok (.aload_n 0, 1) := by decide +kernel
theorem dX12_face_75 : decode cX12_face 75 = .ok (.iload_n 1, 1) := by decide +kernel
theorem dX12_face_76 : decode cX12_face 76 = .ok (.invokevirtual 184, 3) := by decide +kernel
theorem dX12_face_79 : decode cX12_face 79 = .ok (.iload_n 3, 1) := by decide +kernel
theorem dX12_face_80 : decode cX12_face 80 = .ok (.iconst 1, 1) := by decide +kernel
theorem dX12_face_81 : decode cX12_face 81 = .ok (.if_icmp .ne 20, 3) := by decide +kernel
theorem dX12_face_84 : decode cX12_face 84 = .ok (.aload_n 0, 1) := by decide +kernel
theorem dX12_face_85 : decode cX12_face 85 = .ok (.iload_n 1, 1) := by decide +kernel
theorem dX12_face_86 : decode cX12_face 86 = .ok (.iload_n 2, 1) := by decide +kernel
theorem dX12_face_87 : decode cX12_face 87 = .ok (.invokevirtual 181, 3) := by decide +kernel
theorem dX12_face_90 : decode cX12_face 90 = .ok (.ifCond .eq 7, 3) := by decide +kernel
theorem dX12_face_93 : decode cX12_face 93 = .ok (.iconst 1, 1) := by decide +kernel
theorem dX12_face_94 : decode cX12_face 94 = .ok (.goto 33, 3) := by decide +kernel
theorem dX12_face_97 : decode cX12_face 97 = .ok (.iconst 0, 1) := by decide +kernel
theorem dX12_face_98 : decode cX12_face 98 = .ok (.goto 29, 3) := by decide +kernel
theorem dX12_face_101 : decode cX12_face 101 = .ok (.iload_n 3, 1) := by decide +kernel
theorem dX12_face_102 : decode cX12_face 102 = .ok (.iconst 2, 1) := by decide +kernel
theorem dX12_face_103 : decode cX12_face 103 = .ok (.if_icmp .ne 15, 3) := by decide +kernel
theorem dX12_face_106 : decode cX12_face 106 = .ok (.aload_n 0, 1) := by decide +kernel
theorem dX12_face_107 : decode cX12_face 107 = .ok (.getfield 39, 3) := by decide +kernel
theorem dX12_face_110 : decode cX12_face 110 = .ok (.iload_n 2, 1) := by decide +kernel
theorem dX12_face_111 : decode cX12_face 111 = .ok (.iaload, 1) := by decide +kernel
theorem dX12_face_112 : decode cX12_face 112 = .ok (.bipush 100, 2) := by decide +kernel
theorem dX12_face_114 : decode cX12_face 114 = .ok (.iadd, 1) := by decide +kernel
theorem dX12_face_115 : decode cX12_face 115 = .ok (.goto 12, 3) := by decide +kernel
theorem dX12_face_118 : decode cX12_face 118 = .ok (.aload_n 0, 1) := by decide +kernel
theorem dX12_face_119 : decode cX12_face 119 = .ok (.iload_n 1, 1) := by decide +kernel
theorem dX12_face_120 : decode cX12_face 120 = .ok (.iload_n 2, 1) := by decide +kernel
theorem dX12_face_121 : decode cX12_face 121 = .ok (.invokevirtual 281, 3) := by decide +kernel
theorem dX12_face_124 : decode cX12_face 124 = .ok (.bipush 100, 2) := by decide +kernel
theorem dX12_face_126 : decode cX12_face 126 = .ok (.iadd, 1) := by decide +kernel
theorem dX12_face_127 : decode cX12_face 127 = .ok (.ireturn, 1) := by decide +kernel
theorem dX12_isSet_0 : decode cX12_isSet 0 = .ok (.aload_n 0, 1) := by decide +kernel
theorem dX12_isSet_1 : decode cX12_isSet 1 = .ok (.iload_n 1, 1) := by decide +kernel
theorem dX12_isSet_2 : decode cX12_isSet 2 = .ok (.invokevirtual 223, 3) := by decide +kernel
theorem dX12_isSet_5 : decode cX12_isSet 5 = .ok (.ifCond .eq 26, 3) := by decide +kernel
theorem dX12_isSet_8 : decode cX12_isSet 8 = .ok (.iload_n 2, 1) := by decide +kernel
theorem dX12_isSet_9 : decode cX12_isSet 9 = .ok (.i2l, 1) := by decide +kernel
theorem dX12_isSet_10 : decode cX12_isSet 10 = .ok (.lconst 0, 1) := by decide +kernel
theorem dX12_isSet_11 : decode cX12_isSet 11 = .ok (.iconst 1, 1) := by decide +kernel
theorem dX12_isSet_12 : decode cX12_isSet 12 = .ok (.aload_n 0, 1) := by decide +kernel
theorem dX12_isSet_13 : decode cX12_isSet 13 = .ok (.iload_n 1, 1) := by decide +kernel
theorem dX12_isSet_14 : decode cX12_isSet 14 = .ok (.invokevirtual 59, 3) := by decide +kernel
theorem dX12_isSet_17 : decode cX12_isSet 17 = .ok (.ishl, 1) := by decide +kernel
theorem dX12_isSet_18 : decode cX12_isSet 18 = .ok (.iconst 1, 1) := by decide +kernel
theorem dX12_isSet_19 : decode cX12_isSet 19 = .ok (.isub, 1) := by decide +kernel
theorem dX12_isSet_20 : decode cX12_isSet 20 = .ok (.i2l, 1) := by decide +kernel
theorem dX12_isSet_21 : decode cX12_isSet 21 = .ok (.invokestatic 55, 3) := by decide +kernel
theorem dX12_isSet_24 : decode cX12_isSet 24 = .ok (.ifCond .eq 7, 3) := by decide +kernel
theorem dX12_isSet_27 : decode cX12_isSet 27 = .ok (.iconst 1, 1) := by decide +kernel
theorem dX12_isSet_28 : decode cX12_isSet 28 = .ok (.goto 4, 3) := by decide +kernel
theorem dX12_isSet_31 : decode cX12_isSet 31 = .ok (.iconst 0, 1) := by decide +kernel
theorem dX12_isSet_32 : decode cX12_isSet 32 = .ok (.ireturn, 1) := by decide +kernel
theorem dX12_rings_0 : decode cX12_rings 0 = .ok (.aload_n 0, 1) := by decide +kernel
theorem dX12_rings_1 : decode cX12_rings 1 = .ok (.iload_n 1, 1) := by decide +kernel
theorem dX12_rings_2 : decode cX12_rings 2 = .ok (.iload_n 2, 1) := by decide +kernel
theorem dX12_rings_3 : decode cX12_rings 3 = .ok (.invokevirtual 284, 3) := by decide +kernel
theorem dX12_rings_6 : decode cX12_rings 6 = .ok (.ifCond .eq 12, 3) := by decide +kernel
theorem dX12_rings_9 : decode cX12_rings 9 = .ok (.aload_n 0, 1) := by decide +kernel
theorem dX12_rings_10 : decode cX12_rings 10 = .ok (.iload_n 1, 1) := by decide +kernel
theorem dX12_rings_11 : decode cX12_rings 11 = .ok (.iload_n 2, 1) := by decide +kernel
theorem dX12_rings_12 : decode cX12_rings 12 = .ok (.invokevirtual 191, 3) := by decide +kernel
theorem dX12_rings_15 : decode cX12_rings 15 = .ok (.goto 5, 3) := by decide +kernel
theorem dX12_rings_18 : decode cX12_rings 18 = .ok (.ldc 252, 2) := by decide +kernel
theorem dX12_rings_20 : decode cX12_rings 20 = .ok (.ireturn, 1) := by decide +kernel
theorem dX12_states_0 : decode cX12_states 0 = .ok (.aload_n 0, 1) := by decide +kernel
theorem dX12_states_1 : decode cX12_states 1 = .ok (.iload_n 1, 1) := by decide +kernel
theorem dX12_states_2 : decode cX12_states 2 = .ok (.invokevirtual 223, 3) := by decide +kernel
theorem dX12_states_5 : decode cX12_states 5 = .ok (.ifCond .ne 8, 3) := by decide +kernel
theorem dX12_states_8 : decode cX12_states 8 = .ok (.ldc 252, 2) := by decide +kernel
theorem dX12_states_10 : decode cX12_states 10 = .ok (.goto 26, 3) := by decide +kernel
theorem dX12_states_13 : decode cX12_states 13 = .ok (.iload_n 2, 1) := by decide +kernel
theorem dX12_states_14 : decode cX12_states 14 = .ok (.i2l, 1) := by decide +kernel
theorem dX12_states_15 : decode cX12_states 15 = .ok (.lconst 1, 1) := by decide +kernel
theorem dX12_states_16 : decode cX12_states 16 = .ok (.ldc2_w 287, 3) := by decide +kernel
theorem dX12_states_19 : decode cX12_states 19 = .ok (.invokestatic 55, 3) := by decide +kernel
theorem dX12_states_22 : decode cX12_states 22 = .ok (.ifCond .eq 12, 3) := by decide +kernel
theorem dX12_states_25 : decode cX12_states 25 = .ok (.aload_n 0, 1) := by decide +kernel
theorem dX12_states_26 : decode cX12_states 26 = .ok (.iload_n 1, 1) := by decide +kernel
theorem dX12_states_27 : decode cX12_states 27 = .ok (.iload_n 2, 1) := by decide +kernel
theorem dX12_states_28 : decode cX12_states 28 = .ok (.invokevirtual 227, 3) := by decide +kernel
theorem dX12_states_31 : decode cX12_states 31 = .ok (.goto 5, 3) := by decide +kernel
theorem dX12_states_34 : decode cX12_states 34 = .ok (.ldc 78, 2) := by decide +kernel
theorem dX12_states_36 : decode cX12_states 36 = .ok (.ireturn, 1) := by decide +kernel
theorem dX12_same_0 : decode cX12_same 0 = .ok (.aload_n 0, 1) := by decide +kernel
theorem dX12_same_1 : decode cX12_same 1 = .ok (.iload_n 1, 1) := by decide +kernel
theorem dX12_same_2 : decode cX12_same 2 = .ok (.invokevirtual 223, 3) := by decide +kernel
theorem dX12_same_5 : decode cX12_same 5 = .ok (.ifCond .eq 11, 3) := by decide +kernel
theorem dX12_same_8 : decode cX12_same 8 = .ok (.aload_n 0, 1) := by decide +kernel
theorem dX12_same_9 : decode cX12_same 9 = .ok (.iload_n 2, 1) := by decide +kernel
theorem dX12_same_10 : decode cX12_same 10 = .ok (.invokevirtual 223, 3) := by decide +kernel
theorem dX12_same_13 : decode cX12_same 13 = .ok (.ifCond .ne 8, 3) := by decide +kernel
theorem dX12_same_16 : decode cX12_same 16 = .ok (.ldc 252, 2) := by decide +kernel
theorem dX12_same_18 : decode cX12_same 18 = .ok (.goto 17, 3) := by decide +kernel
theorem dX12_same_21 : decode cX12_same 21 = .ok (.aload_n 0, 1) := by decide +kernel
theorem dX12_same_22 : decode cX12_same 22 = .ok (.iload_n 1, 1) := by decide +kernel
theorem dX12_same_23 : decode cX12_same 23 = .ok (.iload_n 2, 1) := by decide +kernel
theorem dX12_same_24 : decode cX12_same 24 = .ok (.invokevirtual 211, 3) := by decide +kernel
theorem dX12_same_27 : decode cX12_same 27 = .ok (.ifCond .eq 7, 3) := by decide +kernel
theorem dX12_same_30 : decode cX12_same 30 = .ok (.iconst 1, 1) := by decide +kernel
theorem dX12_same_31 : decode cX12_same 31 = .ok (.goto 4, 3) := by decide +kernel
theorem dX12_same_34 : decode cX12_same 34 = .ok (.iconst 0, 1) := by decide +kernel
theorem dX12_same_35 : decode cX12_same 35 = .ok (.ireturn, 1) := by decide +kernel
theorem dX12_signs_0 : decode cX12_signs 0 = .ok (.aload_n 0, 1) := by decide +kernel
theorem dX12_signs_1 : decode cX12_signs 1 = .ok (.iload_n 1, 1) := by decide +kernel
theorem dX12_signs_2 : decode cX12_signs 2 = .ok (.iload_n 2, 1) := by decide +kernel
theorem dX12_signs_3 : decode cX12_signs 3 = .ok (.invokevirtual 284, 3) := by decide +kernel
theorem dX12_signs_6 : decode cX12_signs 6 = .ok (.ifCond .ne 6, 3) := by decide +kernel
theorem dX12_signs_9 : decode cX12_signs 9 = .ok (.ldc 252, 2) := by decide +kernel
theorem dX12_signs_11 : decode cX12_signs 11 = .ok (.ireturn, 1) := by decide +kernel
theorem dX12_signs_12 : decode cX12_signs 12 = .ok (.aload_n 0, 1) := by decide +kernel
theorem dX12_signs_13 : decode cX12_signs 13 = .ok (.invokevirtual 93, 3) := by decide +kernel
theorem dX12_signs_16 : decode cX12_signs 16 = .ok (.aload_n 0, 1) := by decide +kernel
theorem dX12_signs_17 : decode cX12_signs 17 = .ok (.getfield 7, 3) := by decide +kernel
theorem dX12_signs_20 : decode cX12_signs 20 = .ok (.iconst 1, 1) := by decide +kernel
theorem dX12_signs_21 : decode cX12_signs 21 = .ok (.bipush 18, 2) := by decide +kernel
theorem dX12_signs_23 : decode cX12_signs 23 = .ok (.iload_n 1, 1) := by decide +kernel
theorem dX12_signs_24 : decode cX12_signs 24 = .ok (.imul, 1) := by decide +kernel
theorem dX12_signs_25 : decode cX12_signs 25 = .ok (.iadd, 1) := by decide +kernel
theorem dX12_signs_26 : decode cX12_signs 26 = .ok (.iconst 1, 1) := by decide +kernel
theorem dX12_signs_27 : decode cX12_signs 27 = .ok (.iadd, 1) := by decide +kernel
theorem dX12_signs_28 : decode cX12_signs 28 = .ok (.iload_n 2, 1) := by decide +kernel
theorem dX12_signs_29 : decode cX12_signs 29 = .ok (.iastore, 1) := by decide +kernel
theorem dX12_signs_30 : decode cX12_signs 30 = .ok (.aload_n 0, 1) := by decide +kernel
theorem dX12_signs_31 : decode cX12_signs 31 = .ok (.iload_n 1, 1) := by decide +kernel
theorem dX12_signs_32 : decode cX12_signs 32 = .ok (.iload_n 2, 1) := by decide +kernel
theorem dX12_signs_33 : decode cX12_signs 33 = .ok (.invokevirtual 159, 3) := by decide +kernel
theorem dX12_signs_36 : decode cX12_signs 36 = .ok (.ireturn, 1) := by decide +kernel
theorem dX12_draw_0 : decode cX12_draw 0 = .ok (.aload_n 0, 1) := by decide +kernel
theorem dX12_draw_1 : decode cX12_draw 1 = .ok (.iload_n 1, 1) := by decide +kernel
theorem dX12_draw_2 : decode cX12_draw 2 = .ok (.invokevirtual 223, 3) := by decide +kernel
theorem dX12_draw_5 : decode cX12_draw 5 = .ok (.ifCond .ne 6, 3) := by decide +kernel
theorem dX12_draw_8 : decode cX12_draw 8 = .ok (.ldc 252, 2) := by decide +kernel
theorem dX12_draw_10 : decode cX12_draw 10 = .ok (.ireturn, 1) := by decide +kernel
theorem dX12_draw_11 : decode cX12_draw 11 = .ok (.aload_n 0, 1) := by decide +kernel
theorem dX12_draw_12 : decode cX12_draw 12 = .ok (.iload_n 1, 1) := by decide +kernel
theorem dX12_draw_13 : decode cX12_draw 13 = .ok (.invokevirtual 239, 3) := by decide +kernel
theorem dX12_draw_16 : decode cX12_draw 16 = .ok (.istore_n 2, 1) := by decide +kernel
theorem dX12_draw_17 : decode cX12_draw 17 = .ok (.iload_n 2, 1) := by decide +kernel
theorem dX12_draw_18 : decode cX12_draw 18 = .ok (.iconst (-1), 1) := by decide +kernel
theorem dX12_draw_19 : decode cX12_draw 19 = .ok (.if_icmp .ne 7, 3) := by decide +kernel
theorem dX12_draw_22 : decode cX12_draw 22 = .ok (.ldc_w 289, 3) := by decide +kernel
theorem dX12_draw_25 : decode cX12_draw 25 = .ok (.ireturn, 1) := by decide +kernel
theorem dX12_draw_26 : decode cX12_draw 26 = .ok (.aload_n 0, 1) := by decide +kernel
theorem dX12_draw_27 : decode cX12_draw 27 = .ok (.invokevirtual 93, 3) := by decide +kernel
theorem dX12_draw_30 : decode cX12_draw 30 = .ok (.aload_n 0, 1) := by decide +kernel
theorem dX12_draw_31 : decode cX12_draw 31 = .ok (.getfield 7, 3) := by decide +kernel
theorem dX12_draw_34 : decode cX12_draw 34 = .ok (.iconst 1, 1) := by decide +kernel
theorem dX12_draw_35 : decode cX12_draw 35 = .ok (.bipush 18, 2) := by decide +kernel
theorem dX12_draw_37 : decode cX12_draw 37 = .ok (.iload_n 1, 1) := by decide +kernel
theorem dX12_draw_38 : decode cX12_draw 38 = .ok (.imul, 1) := by decide +kernel
theorem dX12_draw_39 : decode cX12_draw 39 = .ok (.iadd, 1) := by decide +kernel
theorem dX12_draw_40 : decode cX12_draw 40 = .ok (.iconst 1, 1) := by decide +kernel
theorem dX12_draw_41 : decode cX12_draw 41 = .ok (.iadd, 1) := by decide +kernel
theorem dX12_draw_42 : decode cX12_draw 42 = .ok (.iload_n 2, 1) := by decide +kernel
theorem dX12_draw_43 : decode cX12_draw 43 = .ok (.iastore, 1) := by decide +kernel
theorem dX12_draw_44 : decode cX12_draw 44 = .ok (.iload_n 2, 1) := by decide +kernel
theorem dX12_draw_45 : decode cX12_draw 45 = .ok (.ireturn, 1) := by decide +kernel
theorem dX12_turn_0 : decode cX12_turn 0 = .ok (.aload_n 0, 1) := by decide +kernel
theorem dX12_turn_1 : decode cX12_turn 1 = .ok (.iload_n 1, 1) := by decide +kernel
theorem dX12_turn_2 : decode cX12_turn 2 = .ok (.invokevirtual 223, 3) := by decide +kernel
theorem dX12_turn_5 : decode cX12_turn 5 = .ok (.ifCond .eq 22, 3) := by decide +kernel
theorem dX12_turn_8 : decode cX12_turn 8 = .ok (.iload_n 2, 1) := by decide +kernel
theorem dX12_turn_9 : decode cX12_turn 9 = .ok (.i2l, 1) := by decide +kernel
theorem dX12_turn_10 : decode cX12_turn 10 = .ok (.lconst 0, 1) := by decide +kernel
theorem dX12_turn_11 : decode cX12_turn 11 = .ok (.iconst 2, 1) := by decide +kernel
theorem dX12_turn_12 : decode cX12_turn 12 = .ok (.aload_n 0, 1) := by decide +kernel
theorem dX12_turn_13 : decode cX12_turn 13 = .ok (.iload_n 1, 1) := by decide +kernel
theorem dX12_turn_14 : decode cX12_turn 14 = .ok (.invokevirtual 59, 3) := by decide +kernel
theorem dX12_turn_17 : decode cX12_turn 17 = .ok (.imul, 1) := by decide +kernel
theorem dX12_turn_18 : decode cX12_turn 18 = .ok (.iconst 1, 1) := by decide +kernel
theorem dX12_turn_19 : decode cX12_turn 19 = .ok (.isub, 1) := by decide +kernel
theorem dX12_turn_20 : decode cX12_turn 20 = .ok (.i2l, 1) := by decide +kernel
theorem dX12_turn_21 : decode cX12_turn 21 = .ok (.invokestatic 55, 3) := by decide +kernel
theorem dX12_turn_24 : decode cX12_turn 24 = .ok (.ifCond .ne 6, 3) := by decide +kernel
theorem dX12_turn_27 : decode cX12_turn 27 = .ok (.ldc 252, 2) := by decide +kernel
theorem dX12_turn_29 : decode cX12_turn 29 = .ok (.ireturn, 1) := by decide +kernel
theorem dX12_turn_30 : decode cX12_turn 30 = .ok (.aload_n 0, 1) := by decide +kernel
theorem dX12_turn_31 : decode cX12_turn 31 = .ok (.invokevirtual 93, 3) := by decide +kernel
theorem dX12_turn_34 : decode cX12_turn 34 = .ok (.aload_n 0, 1) := by decide +kernel
theorem dX12_turn_35 : decode cX12_turn 35 = .ok (.iload_n 1, 1) := by decide +kernel
theorem dX12_turn_36 : decode cX12_turn 36 = .ok (.iload_n 2, 1) := by decide +kernel
theorem dX12_turn_37 : decode cX12_turn 37 = .ok (.iload_n 3, 1) := by decide +kernel
theorem dX12_turn_38 : decode cX12_turn 38 = .ok (.invokevirtual 199, 3) := by decide +kernel
theorem dX12_turn_41 : decode cX12_turn 41 = .ok (.aload_n 0, 1) := by decide +kernel
theorem dX12_turn_42 : decode cX12_turn 42 = .ok (.iload_n 1, 1) := by decide +kernel
theorem dX12_turn_43 : decode cX12_turn 43 = .ok (.invokevirtual 73, 3) := by decide +kernel
theorem dX12_turn_46 : decode cX12_turn 46 = .ok (.pop, 1) := by decide +kernel
theorem dX12_turn_47 : decode cX12_turn 47 = .ok (.aload_n 0, 1) := by decide +kernel
theorem dX12_turn_48 : decode cX12_turn 48 = .ok (.iload_n 1, 1) := by decide +kernel
theorem dX12_turn_49 : decode cX12_turn 49 = .ok (.invokevirtual 259, 3) := by decide +kernel
theorem dX12_turn_52 : decode cX12_turn 52 = .ok (.ireturn, 1) := by decide +kernel
theorem dX12_twist_0 : decode cX12_twist 0 = .ok (.aload_n 0, 1) := by decide +kernel
theorem dX12_twist_1 : decode cX12_twist 1 = .ok (.iload_n 1, 1) := by decide +kernel
theorem dX12_twist_2 : decode cX12_twist 2 = .ok (.invokevirtual 223, 3) := by decide +kernel
theorem dX12_twist_5 : decode cX12_twist 5 = .ok (.ifCond .eq 12, 3) := by decide +kernel
theorem dX12_twist_8 : decode cX12_twist 8 = .ok (.aload_n 0, 1) := by decide +kernel
theorem dX12_twist_9 : decode cX12_twist 9 = .ok (.iload_n 1, 1) := by decide +kernel
theorem dX12_twist_10 : decode cX12_twist 10 = .ok (.iload_n 2, 1) := by decide +kernel
theorem dX12_twist_11 : decode cX12_twist 11 = .ok (.invokevirtual 290, 3) := by decide +kernel
theorem dX12_twist_14 : decode cX12_twist 14 = .ok (.ifCond .ne 6, 3) := by decide +kernel
theorem dX12_twist_17 : decode cX12_twist 17 = .ok (.ldc 252, 2) := by decide +kernel
theorem dX12_twist_19 : decode cX12_twist 19 = .ok (.ireturn, 1) := by decide +kernel
theorem dX12_twist_20 : decode cX12_twist 20 = .ok (.aload_n 0, 1) := by decide +kernel
theorem dX12_twist_21 : decode cX12_twist 21 = .ok (.iload_n 1, 1) := by decide +kernel
theorem dX12_twist_22 : decode cX12_twist 22 = .ok (.invokevirtual 59, 3) := by decide +kernel
theorem dX12_twist_25 : decode cX12_twist 25 = .ok (.bipush 8, 2) := by decide +kernel
theorem dX12_twist_27 : decode cX12_twist 27 = .ok (.if_icmp .ne 6, 3) := by decide +kernel
theorem dX12_twist_30 : decode cX12_twist 30 = .ok (.ldc 82, 2) := by decide +kernel
theorem dX12_twist_32 : decode cX12_twist 32 = .ok (.ireturn, 1) := by decide +kernel
theorem dX12_twist_33 : decode cX12_twist 33 = .ok (.aload_n 0, 1) := by decide +kernel
theorem dX12_twist_34 : decode cX12_twist 34 = .ok (.invokevirtual 93, 3) := by decide +kernel
theorem dX12_twist_37 : decode cX12_twist 37 = .ok (.iconst 2, 1) := by decide +kernel
theorem dX12_twist_38 : decode cX12_twist 38 = .ok (.aload_n 0, 1) := by decide +kernel
theorem dX12_twist_39 : decode cX12_twist 39 = .ok (.iload_n 1, 1) := by decide +kernel
theorem dX12_twist_40 : decode cX12_twist 40 = .ok (.invokevirtual 59, 3) := by decide +kernel
theorem dX12_twist_43 : decode cX12_twist 43 = .ok (.imul, 1) := by decide +kernel
theorem dX12_twist_44 : decode cX12_twist 44 = .ok (.istore_n 3, 1) := by decide +kernel
theorem dX12_twist_45 : decode cX12_twist 45 = .ok (.aload_n 0, 1) := by decide +kernel
theorem dX12_twist_46 : decode cX12_twist 46 = .ok (.iconst 0, 1) := by decide +kernel
theorem dX12_twist_47 : decode cX12_twist 47 = .ok (.putfield 67, 3) := by decide +kernel
theorem dX12_twist_50 : decode cX12_twist 50 = .ok (.iconst 0, 1) := by decide +kernel
theorem dX12_twist_51 : decode cX12_twist 51 = .ok (.istore 4, 2) := by decide +kernel
theorem dX12_twist_53 : decode cX12_twist 53 = .ok (.iload 4, 2) := by decide +kernel
theorem dX12_twist_55 : decode cX12_twist 55 = .ok (.iload_n 3, 1) := by decide +kernel
theorem dX12_twist_56 : decode cX12_twist 56 = .ok (.if_icmp .lt 8, 3) := by decide +kernel
theorem dX12_twist_59 : decode cX12_twist 59 = .ok (.iload 4, 2) := by decide +kernel
theorem dX12_twist_61 : decode cX12_twist 61 = .ok (.ifCond .ne 44, 3) := by decide +kernel
theorem dX12_twist_64 : decode cX12_twist 64 = .ok (.iload 4, 2) := by decide +kernel
theorem dX12_twist_66 : decode cX12_twist 66 = .ok (.iload_n 3, 1) := by decide +kernel
theorem dX12_twist_67 : decode cX12_twist 67 = .ok (.if_icmp .ge 14, 3) := by decide +kernel
theorem dX12_twist_70 : decode cX12_twist 70 = .ok (.aload_n 0, 1) := by decide +kernel
theorem dX12_twist_71 : decode cX12_twist 71 = .ok (.aload_n 0, 1) := by decide +kernel
theorem dX12_twist_72 : decode cX12_twist 72 = .ok (.iload_n 1, 1) := by decide +kernel
theorem dX12_twist_73 : decode cX12_twist 73 = .ok (.iload 4, 2) := by decide +kernel
theorem dX12_twist_75 : decode cX12_twist 75 = .ok (.invokevirtual 63, 3) := by decide +kernel
theorem dX12_twist_78 : decode cX12_twist 78 = .ok (.invokevirtual 96, 3) := by decide +kernel
theorem dX12_twist_81 : decode cX12_twist 81 = .ok (.iload 4, 2) := by decide +kernel
theorem dX12_twist_83 : decode cX12_twist 83 = .ok (.iload_n 2, 1) := by decide +kernel
theorem dX12_twist_84 : decode cX12_twist 84 = .ok (.if_icmp .ne 15, 3) := by decide +kernel
theorem dX12_twist_87 : decode cX12_twist 87 = .ok (.aload_n 0, 1) := by decide +kernel
theorem dX12_twist_88 : decode cX12_twist 88 = .ok (.bipush 10, 2) := by decide +kernel
theorem dX12_twist_90 : decode cX12_twist 90 = .ok (.invokevirtual 96, 3) := by decide +kernel
theorem dX12_twist_93 : decode cX12_twist 93 = .ok (.aload_n 0, 1) := by decide +kernel
theorem dX12_twist_94 : decode cX12_twist 94 = .ok (.bipush 10, 2) := by decide +kernel
theorem dX12_twist_96 : decode cX12_twist 96 = .ok (.invokevirtual 96, 3) := by decide +kernel
theorem dX12_twist_99 : decode cX12_twist 99 = .ok (.iinc 4 1, 3) := by decide +kernel
theorem dX12_twist_102 : decode cX12_twist 102 = .ok (.goto (-49), 3) := by decide +kernel
theorem dX12_twist_105 : decode cX12_twist 105 = .ok (.aload_n 0, 1) := by decide +kernel
theorem dX12_twist_106 : decode cX12_twist 106 = .ok (.iload_n 1, 1) := by decide +kernel
theorem dX12_twist_107 : decode cX12_twist 107 = .ok (.invokevirtual 73, 3) := by decide +kernel
theorem dX12_twist_110 : decode cX12_twist 110 = .ok (.ireturn, 1) := by decide +kernel
theorem dX12_without_0 : decode cX12_without 0 = .ok (.aload_n 0, 1) := by decide +kernel
theorem dX12_without_1 : decode cX12_without 1 = .ok (.iconst 0, 1) := by decide +kernel
theorem dX12_without_2 : decode cX12_without 2 = .ok (.putfield 67, 3) := by decide +kernel
theorem dX12_without_5 : decode cX12_without 5 = .ok (.iconst 0, 1) := by decide +kernel
theorem dX12_without_6 : decode cX12_without 6 = .ok (.istore 4, 2) := by decide +kernel
theorem dX12_without_8 : decode cX12_without 8 = .ok (.iload 4, 2) := by decide +kernel
theorem dX12_without_10 : decode cX12_without 10 = .ok (.iconst 2, 1) := by decide +kernel
theorem dX12_without_11 : decode cX12_without 11 = .ok (.aload_n 0, 1) := by decide +kernel
theorem dX12_without_12 : decode cX12_without 12 = .ok (.iload_n 1, 1) := by decide +kernel
theorem dX12_without_13 : decode cX12_without 13 = .ok (.invokevirtual 59, 3) := by decide +kernel
theorem dX12_without_16 : decode cX12_without 16 = .ok (.imul, 1) := by decide +kernel
theorem dX12_without_17 : decode cX12_without 17 = .ok (.if_icmp .ge 42, 3) := by decide +kernel
theorem dX12_without_20 : decode cX12_without 20 = .ok (.aload_n 0, 1) := by decide +kernel
theorem dX12_without_21 : decode cX12_without 21 = .ok (.iload_n 1, 1) := by decide +kernel
theorem dX12_without_22 : decode cX12_without 22 = .ok (.iload 4, 2) := by decide +kernel
theorem dX12_without_24 : decode cX12_without 24 = .ok (.invokevirtual 63, 3) := by decide +kernel
theorem dX12_without_27 : decode cX12_without 27 = .ok (.iload_n 2, 1) := by decide +kernel
theorem dX12_without_28 : decode cX12_without 28 = .ok (.if_icmp .eq 25, 3) := by decide +kernel
theorem dX12_without_31 : decode cX12_without 31 = .ok (.aload_n 0, 1) := by decide +kernel
theorem dX12_without_32 : decode cX12_without 32 = .ok (.iload_n 1, 1) := by decide +kernel
theorem dX12_without_33 : decode cX12_without 33 = .ok (.iload 4, 2) := by decide +kernel
theorem dX12_without_35 : decode cX12_without 35 = .ok (.invokevirtual 63, 3) := by decide +kernel
theorem dX12_without_38 : decode cX12_without 38 = .ok (.iload_n 3, 1) := by decide +kernel
theorem dX12_without_39 : decode cX12_without 39 = .ok (.if_icmp .eq 14, 3) := by decide +kernel
theorem dX12_without_42 : decode cX12_without 42 = .ok (.aload_n 0, 1) := by decide +kernel
theorem dX12_without_43 : decode cX12_without 43 = .ok (.aload_n 0, 1) := by decide +kernel
theorem dX12_without_44 : decode cX12_without 44 = .ok (.iload_n 1, 1) := by decide +kernel
theorem dX12_without_45 : decode cX12_without 45 = .ok (.iload 4, 2) := by decide +kernel
theorem dX12_without_47 : decode cX12_without 47 = .ok (.invokevirtual 63, 3) := by decide +kernel
theorem dX12_without_50 : decode cX12_without 50 = .ok (.invokevirtual 96, 3) := by decide +kernel
theorem dX12_without_53 : decode cX12_without 53 = .ok (.iinc 4 1, 3) := by decide +kernel
theorem dX12_without_56 : decode cX12_without 56 = .ok (.goto (-48), 3) := by decide +kernel
theorem dX12_without_59 : decode cX12_without 59 = .ok (.aload_n 0, 1) := by decide +kernel
theorem dX12_without_60 : decode cX12_without 60 = .ok (.iload_n 1, 1) := by decide +kernel
theorem dX12_without_61 : decode cX12_without 61 = .ok (.invokevirtual 73, 3) := by decide +kernel
theorem dX12_without_64 : decode cX12_without 64 = .ok (.ireturn, 1) := by decide +kernel
theorem dX12_untwist_0 : decode cX12_untwist 0 = .ok (.aload_n 0, 1) := by decide +kernel
theorem dX12_untwist_1 : decode cX12_untwist 1 = .ok (.iload_n 1, 1) := by decide +kernel
theorem dX12_untwist_2 : decode cX12_untwist 2 = .ok (.invokevirtual 223, 3) := by decide +kernel
theorem dX12_untwist_5 : decode cX12_untwist 5 = .ok (.ifCond .eq 12, 3) := by decide +kernel
theorem dX12_untwist_8 : decode cX12_untwist 8 = .ok (.aload_n 0, 1) := by decide +kernel
theorem dX12_untwist_9 : decode cX12_untwist 9 = .ok (.iload_n 1, 1) := by decide +kernel
theorem dX12_untwist_10 : decode cX12_untwist 10 = .ok (.iload_n 2, 1) := by decide +kernel
theorem dX12_untwist_11 : decode cX12_untwist 11 = .ok (.invokevirtual 274, 3) := by decide +kernel
theorem dX12_untwist_14 : decode cX12_untwist 14 = .ok (.ifCond .ne 6, 3) := by decide +kernel
theorem dX12_untwist_17 : decode cX12_untwist 17 = .ok (.ldc 252, 2) := by decide +kernel
theorem dX12_untwist_19 : decode cX12_untwist 19 = .ok (.ireturn, 1) := by decide +kernel
theorem dX12_untwist_20 : decode cX12_untwist 20 = .ok (.aload_n 0, 1) := by decide +kernel
theorem dX12_untwist_21 : decode cX12_untwist 21 = .ok (.iload_n 1, 1) := by decide +kernel
theorem dX12_untwist_22 : decode cX12_untwist 22 = .ok (.iload_n 2, 1) := by decide +kernel
theorem dX12_untwist_23 : decode cX12_untwist 23 = .ok (.invokevirtual 217, 3) := by decide +kernel
theorem dX12_untwist_26 : decode cX12_untwist 26 = .ok (.ifCond .ne 7, 3) := by decide +kernel
theorem dX12_untwist_29 : decode cX12_untwist 29 = .ok (.ldc_w 289, 3) := by decide +kernel
theorem dX12_untwist_32 : decode cX12_untwist 32 = .ok (.ireturn, 1) := by decide +kernel
theorem dX12_untwist_33 : decode cX12_untwist 33 = .ok (.aload_n 0, 1) := by decide +kernel
theorem dX12_untwist_34 : decode cX12_untwist 34 = .ok (.invokevirtual 93, 3) := by decide +kernel
theorem dX12_untwist_37 : decode cX12_untwist 37 = .ok (.aload_n 0, 1) := by decide +kernel
theorem dX12_untwist_38 : decode cX12_untwist 38 = .ok (.iload_n 1, 1) := by decide +kernel
theorem dX12_untwist_39 : decode cX12_untwist 39 = .ok (.iload_n 2, 1) := by decide +kernel
theorem dX12_untwist_40 : decode cX12_untwist 40 = .ok (.iload_n 2, 1) := by decide +kernel
theorem dX12_untwist_41 : decode cX12_untwist 41 = .ok (.invokevirtual 293, 3) := by decide +kernel
theorem dX12_untwist_44 : decode cX12_untwist 44 = .ok (.ireturn, 1) := by decide +kernel
theorem dX12_poke_0 : decode cX12_poke 0 = .ok (.aload_n 0, 1) := by decide +kernel
theorem dX12_poke_1 : decode cX12_poke 1 = .ok (.iload_n 1, 1) := by decide +kernel
theorem dX12_poke_2 : decode cX12_poke 2 = .ok (.invokevirtual 223, 3) := by decide +kernel
theorem dX12_poke_5 : decode cX12_poke 5 = .ok (.ifCond .eq 26, 3) := by decide +kernel
theorem dX12_poke_8 : decode cX12_poke 8 = .ok (.aload_n 0, 1) := by decide +kernel
theorem dX12_poke_9 : decode cX12_poke 9 = .ok (.iload_n 1, 1) := by decide +kernel
theorem dX12_poke_10 : decode cX12_poke 10 = .ok (.iload_n 2, 1) := by decide +kernel
theorem dX12_poke_11 : decode cX12_poke 11 = .ok (.invokevirtual 290, 3) := by decide +kernel
theorem dX12_poke_14 : decode cX12_poke 14 = .ok (.ifCond .eq 17, 3) := by decide +kernel
theorem dX12_poke_17 : decode cX12_poke 17 = .ok (.aload_n 0, 1) := by decide +kernel
theorem dX12_poke_18 : decode cX12_poke 18 = .ok (.iload_n 1, 1) := by decide +kernel
theorem dX12_poke_19 : decode cX12_poke 19 = .ok (.iload_n 3, 1) := by decide +kernel
theorem dX12_poke_20 : decode cX12_poke 20 = .ok (.invokevirtual 290, 3) := by decide +kernel
theorem dX12_poke_23 : decode cX12_poke 23 = .ok (.ifCond .eq 8, 3) := by decide +kernel
theorem dX12_poke_26 : decode cX12_poke 26 = .ok (.iload_n 2, 1) := by decide +kernel
theorem dX12_poke_27 : decode cX12_poke 27 = .ok (.iload_n 3, 1) := by decide +kernel
theorem dX12_poke_28 : decode cX12_poke 28 = .ok (.if_icmp .ne 6, 3) := by decide +kernel
theorem dX12_poke_31 : decode cX12_poke 31 = .ok (.ldc 252, 2) := by decide +kernel
theorem dX12_poke_33 : decode cX12_poke 33 = .ok (.ireturn, 1) := by decide +kernel
theorem dX12_poke_34 : decode cX12_poke 34 = .ok (.iload 4, 2) := by decide +kernel
theorem dX12_poke_36 : decode cX12_poke 36 = .ok (.i2l, 1) := by decide +kernel
theorem dX12_poke_37 : decode cX12_poke 37 = .ok (.lconst 0, 1) := by decide +kernel
theorem dX12_poke_38 : decode cX12_poke 38 = .ok (.lconst 1, 1) := by decide +kernel
theorem dX12_poke_39 : decode cX12_poke 39 = .ok (.invokestatic 55, 3) := by decide +kernel
theorem dX12_poke_42 : decode cX12_poke 42 = .ok (.ifCond .ne 6, 3) := by decide +kernel
theorem dX12_poke_45 : decode cX12_poke 45 = .ok (.ldc 78, 2) := by decide +kernel
theorem dX12_poke_47 : decode cX12_poke 47 = .ok (.ireturn, 1) := by decide +kernel
theorem dX12_poke_48 : decode cX12_poke 48 = .ok (.aload_n 0, 1) := by decide +kernel
theorem dX12_poke_49 : decode cX12_poke 49 = .ok (.iload_n 1, 1) := by decide +kernel
theorem dX12_poke_50 : decode cX12_poke 50 = .ok (.invokevirtual 59, 3) := by decide +kernel
theorem dX12_poke_53 : decode cX12_poke 53 = .ok (.iconst 2, 1) := by decide +kernel
theorem dX12_poke_54 : decode cX12_poke 54 = .ok (.iadd, 1) := by decide +kernel
theorem dX12_poke_55 : decode cX12_poke 55 = .ok (.bipush 8, 2) := by decide +kernel
theorem dX12_poke_57 : decode cX12_poke 57 = .ok (.if_icmp .le 6, 3) := by decide +kernel
theorem dX12_poke_60 : decode cX12_poke 60 = .ok (.ldc 82, 2) := by decide +kernel
theorem dX12_poke_62 : decode cX12_poke 62 = .ok (.ireturn, 1) := by decide +kernel
theorem dX12_poke_63 : decode cX12_poke 63 = .ok (.aload_n 0, 1) := by decide +kernel
theorem dX12_poke_64 : decode cX12_poke 64 = .ok (.invokevirtual 93, 3) := by decide +kernel
theorem dX12_poke_67 : decode cX12_poke 67 = .ok (.aload_n 0, 1) := by decide +kernel
theorem dX12_poke_68 : decode cX12_poke 68 = .ok (.iconst 0, 1) := by decide +kernel
theorem dX12_poke_69 : decode cX12_poke 69 = .ok (.putfield 67, 3) := by decide +kernel
theorem dX12_poke_72 : decode cX12_poke 72 = .ok (.iconst 0, 1) := by decide +kernel
theorem dX12_poke_73 : decode cX12_poke 73 = .ok (.istore 5, 2) := by decide +kernel
theorem dX12_poke_75 : decode cX12_poke 75 = .ok (.iload 5, 2) := by decide +kernel
theorem dX12_poke_77 : decode cX12_poke 77 = .ok (.iconst 2, 1) := by decide +kernel
theorem dX12_poke_78 : decode cX12_poke 78 = .ok (.aload_n 0, 1) := by decide +kernel
theorem dX12_poke_79 : decode cX12_poke 79 = .ok (.iload_n 1, 1) := by decide +kernel
theorem dX12_poke_80 : decode cX12_poke 80 = .ok (.invokevirtual 59, 3) := by decide +kernel
theorem dX12_poke_83 : decode cX12_poke 83 = .ok (.imul, 1) := by decide +kernel
theorem dX12_poke_84 : decode cX12_poke 84 = .ok (.if_icmp .ge 83, 3) := by decide +kernel
theorem dX12_poke_87 : decode cX12_poke 87 = .ok (.aload_n 0, 1) := by decide +kernel
theorem dX12_poke_88 : decode cX12_poke 88 = .ok (.aload_n 0, 1) := by decide +kernel
theorem dX12_poke_89 : decode cX12_poke 89 = .ok (.iload_n 1, 1) := by decide +kernel
theorem dX12_poke_90 : decode cX12_poke 90 = .ok (.iload 5, 2) := by decide +kernel
theorem dX12_poke_92 : decode cX12_poke 92 = .ok (.invokevirtual 63, 3) := by decide +kernel
theorem dX12_poke_95 : decode cX12_poke 95 = .ok (.invokevirtual 96, 3) := by decide +kernel
theorem dX12_poke_98 : decode cX12_poke 98 = .ok (.iload 5, 2) := by decide +kernel
theorem dX12_poke_100 : decode cX12_poke 100 = .ok (.iload_n 2, 1) := by decide +kernel
theorem dX12_poke_101 : decode cX12_poke 101 = .ok (.if_icmp .eq 9, 3) := by decide +kernel
theorem dX12_poke_104 : decode cX12_poke 104 = .ok (.iload 5, 2) := by decide +kernel
theorem dX12_poke_106 : decode cX12_poke 106 = .ok (.iload_n 3, 1) := by decide +kernel
theorem dX12_poke_107 : decode cX12_poke 107 = .ok (.if_icmp .ne 54, 3) := by decide +kernel
theorem dX12_poke_110 : decode cX12_poke 110 = .ok (.iload 5, 2) := by decide +kernel
theorem dX12_poke_112 : decode cX12_poke 112 = .ok (.iload_n 3, 1) := by decide +kernel
theorem dX12_poke_113 : decode cX12_poke 113 = .ok (.if_icmp .ne 13, 3) := by decide +kernel
theorem dX12_poke_116 : decode cX12_poke 116 = .ok (.iload 4, 2) := by decide +kernel
theorem dX12_poke_118 : decode cX12_poke 118 = .ok (.iconst 1, 1) := by decide +kernel
theorem dX12_poke_119 : decode cX12_poke 119 = .ok (.if_icmp .ne 7, 3) := by decide +kernel
theorem dX12_poke_122 : decode cX12_poke 122 = .ok (.iconst 1, 1) := by decide +kernel
theorem dX12_poke_123 : decode cX12_poke 123 = .ok (.goto 4, 3) := by decide +kernel
theorem dX12_poke_126 : decode cX12_poke 126 = .ok (.iconst 0, 1) := by decide +kernel
theorem dX12_poke_127 : decode cX12_poke 127 = .ok (.istore 6, 2) := by decide +kernel
theorem dX12_poke_129 : decode cX12_poke 129 = .ok (.aload_n 0, 1) := by decide +kernel
theorem dX12_poke_130 : decode cX12_poke 130 = .ok (.iload 6, 2) := by decide +kernel
theorem dX12_poke_132 : decode cX12_poke 132 = .ok (.ifCond .eq 8, 3) := by decide +kernel
theorem dX12_poke_135 : decode cX12_poke 135 = .ok (.bipush 11, 2) := by decide +kernel
theorem dX12_poke_137 : decode cX12_poke 137 = .ok (.goto 5, 3) := by decide +kernel
theorem dX12_poke_140 : decode cX12_poke 140 = .ok (.bipush 10, 2) := by decide +kernel
theorem dX12_poke_142 : decode cX12_poke 142 = .ok (.invokevirtual 96, 3) := by decide +kernel
theorem dX12_poke_145 : decode cX12_poke 145 = .ok (.aload_n 0, 1) := by decide +kernel
theorem dX12_poke_146 : decode cX12_poke 146 = .ok (.iload 6, 2) := by decide +kernel
theorem dX12_poke_148 : decode cX12_poke 148 = .ok (.ifCond .eq 8, 3) := by decide +kernel
theorem dX12_poke_151 : decode cX12_poke 151 = .ok (.bipush 10, 2) := by decide +kernel
theorem dX12_poke_153 : decode cX12_poke 153 = .ok (.goto 5, 3) := by decide +kernel
theorem dX12_poke_156 : decode cX12_poke 156 = .ok (.bipush 11, 2) := by decide +kernel
theorem dX12_poke_158 : decode cX12_poke 158 = .ok (.invokevirtual 96, 3) := by decide +kernel
theorem dX12_poke_161 : decode cX12_poke 161 = .ok (.iinc 5 1, 3) := by decide +kernel
theorem dX12_poke_164 : decode cX12_poke 164 = .ok (.goto (-89), 3) := by decide +kernel
theorem dX12_poke_167 : decode cX12_poke 167 = .ok (.aload_n 0, 1) := by decide +kernel
theorem dX12_poke_168 : decode cX12_poke 168 = .ok (.iload_n 1, 1) := by decide +kernel
theorem dX12_poke_169 : decode cX12_poke 169 = .ok (.invokevirtual 73, 3) := by decide +kernel
theorem dX12_poke_172 : decode cX12_poke 172 = .ok (.ireturn, 1) := by decide +kernel
theorem dX12_unpoke_0 : decode cX12_unpoke 0 = .ok (.aload_n 0, 1) := by decide +kernel
theorem dX12_unpoke_1 : decode cX12_unpoke 1 = .ok (.iload_n 1, 1) := by decide +kernel
theorem dX12_unpoke_2 : decode cX12_unpoke 2 = .ok (.invokevirtual 223, 3) := by decide +kernel
theorem dX12_unpoke_5 : decode cX12_unpoke 5 = .ok (.ifCond .eq 26, 3) := by decide +kernel
theorem dX12_unpoke_8 : decode cX12_unpoke 8 = .ok (.aload_n 0, 1) := by decide +kernel
theorem dX12_unpoke_9 : decode cX12_unpoke 9 = .ok (.iload_n 1, 1) := by decide +kernel
theorem dX12_unpoke_10 : decode cX12_unpoke 10 = .ok (.iload_n 2, 1) := by decide +kernel
theorem dX12_unpoke_11 : decode cX12_unpoke 11 = .ok (.invokevirtual 274, 3) := by decide +kernel
theorem dX12_unpoke_14 : decode cX12_unpoke 14 = .ok (.ifCond .eq 17, 3) := by decide +kernel
theorem dX12_unpoke_17 : decode cX12_unpoke 17 = .ok (.aload_n 0, 1) := by decide +kernel
theorem dX12_unpoke_18 : decode cX12_unpoke 18 = .ok (.iload_n 1, 1) := by decide +kernel
theorem dX12_unpoke_19 : decode cX12_unpoke 19 = .ok (.iload_n 3, 1) := by decide +kernel
theorem dX12_unpoke_20 : decode cX12_unpoke 20 = .ok (.invokevirtual 274, 3) := by decide +kernel
theorem dX12_unpoke_23 : decode cX12_unpoke 23 = .ok (.ifCond .eq 8, 3) := by decide +kernel
theorem dX12_unpoke_26 : decode cX12_unpoke 26 = .ok (.iload_n 2, 1) := by decide +kernel
theorem dX12_unpoke_27 : decode cX12_unpoke 27 = .ok (.iload_n 3, 1) := by decide +kernel
theorem dX12_unpoke_28 : decode cX12_unpoke 28 = .ok (.if_icmp .ne 6, 3) := by decide +kernel
theorem dX12_unpoke_31 : decode cX12_unpoke 31 = .ok (.ldc 252, 2) := by decide +kernel
theorem dX12_unpoke_33 : decode cX12_unpoke 33 = .ok (.ireturn, 1) := by decide +kernel
theorem dX12_unpoke_34 : decode cX12_unpoke 34 = .ok (.aload_n 0, 1) := by decide +kernel
theorem dX12_unpoke_35 : decode cX12_unpoke 35 = .ok (.iload_n 1, 1) := by decide +kernel
theorem dX12_unpoke_36 : decode cX12_unpoke 36 = .ok (.iload_n 2, 1) := by decide +kernel
theorem dX12_unpoke_37 : decode cX12_unpoke 37 = .ok (.iconst 0, 1) := by decide +kernel
theorem dX12_unpoke_38 : decode cX12_unpoke 38 = .ok (.invokevirtual 104, 3) := by decide +kernel
theorem dX12_unpoke_41 : decode cX12_unpoke 41 = .ok (.istore 4, 2) := by decide +kernel
theorem dX12_unpoke_43 : decode cX12_unpoke 43 = .ok (.aload_n 0, 1) := by decide +kernel
theorem dX12_unpoke_44 : decode cX12_unpoke 44 = .ok (.iload_n 1, 1) := by decide +kernel
theorem dX12_unpoke_45 : decode cX12_unpoke 45 = .ok (.iload_n 2, 1) := by decide +kernel
theorem dX12_unpoke_46 : decode cX12_unpoke 46 = .ok (.iconst 1, 1) := by decide +kernel
theorem dX12_unpoke_47 : decode cX12_unpoke 47 = .ok (.invokevirtual 104, 3) := by decide +kernel
theorem dX12_unpoke_50 : decode cX12_unpoke 50 = .ok (.istore 5, 2) := by decide +kernel
theorem dX12_unpoke_52 : decode cX12_unpoke 52 = .ok (.aload_n 0, 1) := by decide +kernel
theorem dX12_unpoke_53 : decode cX12_unpoke 53 = .ok (.iload_n 1, 1) := by decide +kernel
theorem dX12_unpoke_54 : decode cX12_unpoke 54 = .ok (.iload_n 3, 1) := by decide +kernel
theorem dX12_unpoke_55 : decode cX12_unpoke 55 = .ok (.iconst 0, 1) := by decide +kernel
theorem dX12_unpoke_56 : decode cX12_unpoke 56 = .ok (.invokevirtual 104, 3) := by decide +kernel
theorem dX12_unpoke_59 : decode cX12_unpoke 59 = .ok (.istore 6, 2) := by decide +kernel
theorem dX12_unpoke_61 : decode cX12_unpoke 61 = .ok (.aload_n 0, 1) := by decide +kernel
theorem dX12_unpoke_62 : decode cX12_unpoke 62 = .ok (.iload_n 1, 1) := by decide +kernel
theorem dX12_unpoke_63 : decode cX12_unpoke 63 = .ok (.iload_n 3, 1) := by decide +kernel
theorem dX12_unpoke_64 : decode cX12_unpoke 64 = .ok (.iconst 1, 1) := by decide +kernel
theorem dX12_unpoke_65 : decode cX12_unpoke 65 = .ok (.invokevirtual 104, 3) := by decide +kernel
theorem dX12_unpoke_68 : decode cX12_unpoke 68 = .ok (.istore 7, 2) := by decide +kernel
theorem dX12_unpoke_70 : decode cX12_unpoke 70 = .ok (.aload_n 0, 1) := by decide +kernel
theorem dX12_unpoke_71 : decode cX12_unpoke 71 = .ok (.iload_n 1, 1) := by decide +kernel
theorem dX12_unpoke_72 : decode cX12_unpoke 72 = .ok (.iload 4, 2) := by decide +kernel
theorem dX12_unpoke_74 : decode cX12_unpoke 74 = .ok (.iload 6, 2) := by decide +kernel
theorem dX12_unpoke_76 : decode cX12_unpoke 76 = .ok (.invokevirtual 214, 3) := by decide +kernel
theorem dX12_unpoke_79 : decode cX12_unpoke 79 = .ok (.ifCond .eq 15, 3) := by decide +kernel
theorem dX12_unpoke_82 : decode cX12_unpoke 82 = .ok (.aload_n 0, 1) := by decide +kernel
theorem dX12_unpoke_83 : decode cX12_unpoke 83 = .ok (.iload_n 1, 1) := by decide +kernel
theorem dX12_unpoke_84 : decode cX12_unpoke 84 = .ok (.iload 5, 2) := by decide +kernel
theorem dX12_unpoke_86 : decode cX12_unpoke 86 = .ok (.iload 7, 2) := by decide +kernel
theorem dX12_unpoke_88 : decode cX12_unpoke 88 = .ok (.invokevirtual 214, 3) := by decide +kernel
theorem dX12_unpoke_91 : decode cX12_unpoke 91 = .ok (.ifCond .ne 27, 3) := by decide +kernel
theorem dX12_unpoke_94 : decode cX12_unpoke 94 = .ok (.aload_n 0, 1) := by decide +kernel
theorem dX12_unpoke_95 : decode cX12_unpoke 95 = .ok (.iload_n 1, 1) := by decide +kernel
theorem dX12_unpoke_96 : decode cX12_unpoke 96 = .ok (.iload 4, 2) := by decide +kernel
theorem dX12_unpoke_98 : decode cX12_unpoke 98 = .ok (.iload 7, 2) := by decide +kernel
theorem dX12_unpoke_100 : decode cX12_unpoke 100 = .ok (.invokevirtual 214, 3) := by decide +kernel
theorem dX12_unpoke_103 : decode cX12_unpoke 103 = .ok (.ifCond .eq 19, 3) := by decide +kernel
theorem dX12_unpoke_106 : decode cX12_unpoke 106 = .ok (.aload_n 0, 1) := by decide +kernel
theorem dX12_unpoke_107 : decode cX12_unpoke 107 = .ok (.iload_n 1, 1) := by decide +kernel
theorem dX12_unpoke_108 : decode cX12_unpoke 108 = .ok (.iload 5, 2) := by decide +kernel
theorem dX12_unpoke_110 : decode cX12_unpoke 110 = .ok (.iload 6, 2) := by decide +kernel
theorem dX12_unpoke_112 : decode cX12_unpoke 112 = .ok (.invokevirtual 214, 3) := by decide +kernel
theorem dX12_unpoke_115 : decode cX12_unpoke 115 = .ok (.ifCond .eq 7, 3) := by decide +kernel
theorem dX12_unpoke_118 : decode cX12_unpoke 118 = .ok (.iconst 1, 1) := by decide +kernel
theorem dX12_unpoke_119 : decode cX12_unpoke 119 = .ok (.goto 4, 3) := by decide +kernel
theorem dX12_unpoke_122 : decode cX12_unpoke 122 = .ok (.iconst 0, 1) := by decide +kernel
theorem dX12_unpoke_123 : decode cX12_unpoke 123 = .ok (.istore 8, 2) := by decide +kernel
theorem dX12_unpoke_125 : decode cX12_unpoke 125 = .ok (.iload 8, 2) := by decide +kernel
theorem dX12_unpoke_127 : decode cX12_unpoke 127 = .ok (.ifCond .ne 7, 3) := by decide +kernel
theorem dX12_unpoke_130 : decode cX12_unpoke 130 = .ok (.ldc_w 289, 3) := by decide +kernel
theorem dX12_unpoke_133 : decode cX12_unpoke 133 = .ok (.ireturn, 1) := by decide +kernel
theorem dX12_unpoke_134 : decode cX12_unpoke 134 = .ok (.aload_n 0, 1) := by decide +kernel
theorem dX12_unpoke_135 : decode cX12_unpoke 135 = .ok (.invokevirtual 93, 3) := by decide +kernel
theorem dX12_unpoke_138 : decode cX12_unpoke 138 = .ok (.aload_n 0, 1) := by decide +kernel
theorem dX12_unpoke_139 : decode cX12_unpoke 139 = .ok (.iload_n 1, 1) := by decide +kernel
theorem dX12_unpoke_140 : decode cX12_unpoke 140 = .ok (.iload_n 2, 1) := by decide +kernel
theorem dX12_unpoke_141 : decode cX12_unpoke 141 = .ok (.iload_n 3, 1) := by decide +kernel
theorem dX12_unpoke_142 : decode cX12_unpoke 142 = .ok (.invokevirtual 293, 3) := by decide +kernel
theorem dX12_unpoke_145 : decode cX12_unpoke 145 = .ok (.ireturn, 1) := by decide +kernel
theorem dX12_swaps_0 : decode cX12_swaps 0 = .ok (.iconst 1, 1) := by decide +kernel
theorem dX12_swaps_1 : decode cX12_swaps 1 = .ok (.bipush 18, 2) := by decide +kernel
theorem dX12_swaps_3 : decode cX12_swaps 3 = .ok (.iload_n 1, 1) := by decide +kernel
theorem dX12_swaps_4 : decode cX12_swaps 4 = .ok (.imul, 1) := by decide +kernel
theorem dX12_swaps_5 : decode cX12_swaps 5 = .ok (.iadd, 1) := by decide +kernel
theorem dX12_swaps_6 : decode cX12_swaps 6 = .ok (.iconst 2, 1) := by decide +kernel
theorem dX12_swaps_7 : decode cX12_swaps 7 = .ok (.iadd, 1) := by decide +kernel
theorem dX12_swaps_8 : decode cX12_swaps 8 = .ok (.istore 4, 2) := by decide +kernel
theorem dX12_swaps_10 : decode cX12_swaps 10 = .ok (.aload_n 0, 1) := by decide +kernel
theorem dX12_swaps_11 : decode cX12_swaps 11 = .ok (.getfield 7, 3) := by decide +kernel
theorem dX12_swaps_14 : decode cX12_swaps 14 = .ok (.iload 4, 2) := by decide +kernel
theorem dX12_swaps_16 : decode cX12_swaps 16 = .ok (.iload_n 2, 1) := by decide +kernel
theorem dX12_swaps_17 : decode cX12_swaps 17 = .ok (.iadd, 1) := by decide +kernel
theorem dX12_swaps_18 : decode cX12_swaps 18 = .ok (.iaload, 1) := by decide +kernel
theorem dX12_swaps_19 : decode cX12_swaps 19 = .ok (.istore 5, 2) := by decide +kernel
theorem dX12_swaps_21 : decode cX12_swaps 21 = .ok (.aload_n 0, 1) := by decide +kernel
theorem dX12_swaps_22 : decode cX12_swaps 22 = .ok (.getfield 7, 3) := by decide +kernel
theorem dX12_swaps_25 : decode cX12_swaps 25 = .ok (.iload 4, 2) := by decide +kernel
theorem dX12_swaps_27 : decode cX12_swaps 27 = .ok (.iload_n 2, 1) := by decide +kernel
theorem dX12_swaps_28 : decode cX12_swaps 28 = .ok (.iadd, 1) := by decide +kernel
theorem dX12_swaps_29 : decode cX12_swaps 29 = .ok (.aload_n 0, 1) := by decide +kernel
theorem dX12_swaps_30 : decode cX12_swaps 30 = .ok (.getfield 7, 3) := by decide +kernel
theorem dX12_swaps_33 : decode cX12_swaps 33 = .ok (.iload 4, 2) := by decide +kernel
theorem dX12_swaps_35 : decode cX12_swaps 35 = .ok (.iload_n 3, 1) := by decide +kernel
theorem dX12_swaps_36 : decode cX12_swaps 36 = .ok (.iadd, 1) := by decide +kernel
theorem dX12_swaps_37 : decode cX12_swaps 37 = .ok (.iaload, 1) := by decide +kernel
theorem dX12_swaps_38 : decode cX12_swaps 38 = .ok (.iastore, 1) := by decide +kernel
theorem dX12_swaps_39 : decode cX12_swaps 39 = .ok (.aload_n 0, 1) := by decide +kernel
theorem dX12_swaps_40 : decode cX12_swaps 40 = .ok (.getfield 7, 3) := by decide +kernel
theorem dX12_swaps_43 : decode cX12_swaps 43 = .ok (.iload 4, 2) := by decide +kernel
theorem dX12_swaps_45 : decode cX12_swaps 45 = .ok (.iload_n 3, 1) := by decide +kernel
theorem dX12_swaps_46 : decode cX12_swaps 46 = .ok (.iadd, 1) := by decide +kernel
theorem dX12_swaps_47 : decode cX12_swaps 47 = .ok (.iload 5, 2) := by decide +kernel
theorem dX12_swaps_49 : decode cX12_swaps 49 = .ok (.iastore, 1) := by decide +kernel
theorem dX12_swaps_50 : decode cX12_swaps 50 = .ok (.return_, 1) := by decide +kernel
theorem dX12_slide_0 : decode cX12_slide 0 = .ok (.aload_n 0, 1) := by decide +kernel
theorem dX12_slide_1 : decode cX12_slide 1 = .ok (.iload_n 1, 1) := by decide +kernel
theorem dX12_slide_2 : decode cX12_slide 2 = .ok (.invokevirtual 223, 3) := by decide +kernel
theorem dX12_slide_5 : decode cX12_slide 5 = .ok (.ifCond .eq 48, 3) := by decide +kernel
theorem dX12_slide_8 : decode cX12_slide 8 = .ok (.aload_n 0, 1) := by decide +kernel
theorem dX12_slide_9 : decode cX12_slide 9 = .ok (.iload_n 1, 1) := by decide +kernel
theorem dX12_slide_10 : decode cX12_slide 10 = .ok (.iload_n 2, 1) := by decide +kernel
theorem dX12_slide_11 : decode cX12_slide 11 = .ok (.invokevirtual 274, 3) := by decide +kernel
theorem dX12_slide_14 : decode cX12_slide 14 = .ok (.ifCond .eq 39, 3) := by decide +kernel
theorem dX12_slide_17 : decode cX12_slide 17 = .ok (.aload_n 0, 1) := by decide +kernel
theorem dX12_slide_18 : decode cX12_slide 18 = .ok (.iload_n 1, 1) := by decide +kernel
theorem dX12_slide_19 : decode cX12_slide 19 = .ok (.iload_n 3, 1) := by decide +kernel
theorem dX12_slide_20 : decode cX12_slide 20 = .ok (.invokevirtual 274, 3) := by decide +kernel
theorem dX12_slide_23 : decode cX12_slide 23 = .ok (.ifCond .eq 30, 3) := by decide +kernel
theorem dX12_slide_26 : decode cX12_slide 26 = .ok (.aload_n 0, 1) := by decide +kernel
theorem dX12_slide_27 : decode cX12_slide 27 = .ok (.iload_n 1, 1) := by decide +kernel
theorem dX12_slide_28 : decode cX12_slide 28 = .ok (.iload 4, 2) := by decide +kernel
theorem dX12_slide_30 : decode cX12_slide 30 = .ok (.invokevirtual 274, 3) := by decide +kernel
theorem dX12_slide_33 : decode cX12_slide 33 = .ok (.ifCond .eq 20, 3) := by decide +kernel
theorem dX12_slide_36 : decode cX12_slide 36 = .ok (.iload_n 2, 1) := by decide +kernel
theorem dX12_slide_37 : decode cX12_slide 37 = .ok (.iload_n 3, 1) := by decide +kernel
theorem dX12_slide_38 : decode cX12_slide 38 = .ok (.if_icmp .eq 15, 3) := by decide +kernel
theorem dX12_slide_41 : decode cX12_slide 41 = .ok (.iload_n 2, 1) := by decide +kernel
theorem dX12_slide_42 : decode cX12_slide 42 = .ok (.iload 4, 2) := by decide +kernel
theorem dX12_slide_44 : decode cX12_slide 44 = .ok (.if_icmp .eq 9, 3) := by decide +kernel
theorem dX12_slide_47 : decode cX12_slide 47 = .ok (.iload_n 3, 1) := by decide +kernel
theorem dX12_slide_48 : decode cX12_slide 48 = .ok (.iload 4, 2) := by decide +kernel
theorem dX12_slide_50 : decode cX12_slide 50 = .ok (.if_icmp .ne 6, 3) := by decide +kernel
theorem dX12_slide_53 : decode cX12_slide 53 = .ok (.ldc 252, 2) := by decide +kernel
theorem dX12_slide_55 : decode cX12_slide 55 = .ok (.ireturn, 1) := by decide +kernel
theorem dX12_slide_56 : decode cX12_slide 56 = .ok (.iconst 0, 1) := by decide +kernel
theorem dX12_slide_57 : decode cX12_slide 57 = .ok (.istore 5, 2) := by decide +kernel
theorem dX12_slide_59 : decode cX12_slide 59 = .ok (.iload 5, 2) := by decide +kernel
theorem dX12_slide_61 : decode cX12_slide 61 = .ok (.bipush 8, 2) := by decide +kernel
theorem dX12_slide_63 : decode cX12_slide 63 = .ok (.if_icmp .ge 180, 3) := by decide +kernel
theorem dX12_slide_66 : decode cX12_slide 66 = .ok (.iload 5, 2) := by decide +kernel
theorem dX12_slide_68 : decode cX12_slide 68 = .ok (.iconst 4, 1) := by decide +kernel
theorem dX12_slide_69 : decode cX12_slide 69 = .ok (.idiv, 1) := by decide +kernel
theorem dX12_slide_70 : decode cX12_slide 70 = .ok (.istore 6, 2) := by decide +kernel
theorem dX12_slide_72 : decode cX12_slide 72 = .ok (.iload 5, 2) := by decide +kernel
theorem dX12_slide_74 : decode cX12_slide 74 = .ok (.iconst 2, 1) := by decide +kernel
theorem dX12_slide_75 : decode cX12_slide 75 = .ok (.idiv, 1) := by decide +kernel
theorem dX12_slide_76 : decode cX12_slide 76 = .ok (.iconst 2, 1) := by decide +kernel
theorem dX12_slide_77 : decode cX12_slide 77 = .ok (.irem, 1) := by decide +kernel
theorem dX12_slide_78 : decode cX12_slide 78 = .ok (.istore 7, 2) := by decide +kernel
theorem dX12_slide_80 : decode cX12_slide 80 = .ok (.iload 5, 2) := by decide +kernel
theorem dX12_slide_82 : decode cX12_slide 82 = .ok (.iconst 2, 1) := by decide +kernel
theorem dX12_slide_83 : decode cX12_slide 83 = .ok (.irem, 1) := by decide +kernel
theorem dX12_slide_84 : decode cX12_slide 84 = .ok (.istore 8, 2) := by decide +kernel
theorem dX12_slide_86 : decode cX12_slide 86 = .ok (.aload_n 0, 1) := by decide +kernel
theorem dX12_slide_87 : decode cX12_slide 87 = .ok (.iload_n 1, 1) := by decide +kernel
theorem dX12_slide_88 : decode cX12_slide 88 = .ok (.iload_n 2, 1) := by decide +kernel
theorem dX12_slide_89 : decode cX12_slide 89 = .ok (.iload 6, 2) := by decide +kernel
theorem dX12_slide_91 : decode cX12_slide 91 = .ok (.invokevirtual 104, 3) := by decide +kernel
theorem dX12_slide_94 : decode cX12_slide 94 = .ok (.istore 9, 2) := by decide +kernel
theorem dX12_slide_96 : decode cX12_slide 96 = .ok (.aload_n 0, 1) := by decide +kernel
theorem dX12_slide_97 : decode cX12_slide 97 = .ok (.iload_n 1, 1) := by decide +kernel
theorem dX12_slide_98 : decode cX12_slide 98 = .ok (.iload_n 3, 1) := by decide +kernel
theorem dX12_slide_99 : decode cX12_slide 99 = .ok (.iload 7, 2) := by decide +kernel
theorem dX12_slide_101 : decode cX12_slide 101 = .ok (.invokevirtual 104, 3) := by decide +kernel
theorem dX12_slide_104 : decode cX12_slide 104 = .ok (.istore 10, 2) := by decide +kernel
theorem dX12_slide_106 : decode cX12_slide 106 = .ok (.aload_n 0, 1) := by decide +kernel
theorem dX12_slide_107 : decode cX12_slide 107 = .ok (.iload_n 1, 1) := by decide +kernel
theorem dX12_slide_108 : decode cX12_slide 108 = .ok (.iload_n 3, 1) := by decide +kernel
theorem dX12_slide_109 : decode cX12_slide 109 = .ok (.iconst 1, 1) := by decide +kernel
theorem dX12_slide_110 : decode cX12_slide 110 = .ok (.iload 7, 2) := by decide +kernel
theorem dX12_slide_112 : decode cX12_slide 112 = .ok (.isub, 1) := by decide +kernel
theorem dX12_slide_113 : decode cX12_slide 113 = .ok (.invokevirtual 104, 3) := by decide +kernel
theorem dX12_slide_116 : decode cX12_slide 116 = .ok (.istore 11, 2) := by decide +kernel
theorem dX12_slide_118 : decode cX12_slide 118 = .ok (.aload_n 0, 1) := by decide +kernel
theorem dX12_slide_119 : decode cX12_slide 119 = .ok (.iload_n 1, 1) := by decide +kernel
theorem dX12_slide_120 : decode cX12_slide 120 = .ok (.iload 4, 2) := by decide +kernel
theorem dX12_slide_122 : decode cX12_slide 122 = .ok (.iload 8, 2) := by decide +kernel
theorem dX12_slide_124 : decode cX12_slide 124 = .ok (.invokevirtual 104, 3) := by decide +kernel
theorem dX12_slide_127 : decode cX12_slide 127 = .ok (.istore 12, 2) := by decide +kernel
theorem dX12_slide_129 : decode cX12_slide 129 = .ok (.aload_n 0, 1) := by decide +kernel
theorem dX12_slide_130 : decode cX12_slide 130 = .ok (.iload_n 1, 1) := by decide +kernel
theorem dX12_slide_131 : decode cX12_slide 131 = .ok (.iload 4, 2) := by decide +kernel
theorem dX12_slide_133 : decode cX12_slide 133 = .ok (.iconst 1, 1) := by decide +kernel
theorem dX12_slide_134 : decode cX12_slide 134 = .ok (.iload 8, 2) := by decide +kernel
theorem dX12_slide_136 : decode cX12_slide 136 = .ok (.isub, 1) := by decide +kernel
theorem dX12_slide_137 : decode cX12_slide 137 = .ok (.invokevirtual 104, 3) := by decide +kernel
theorem dX12_slide_140 : decode cX12_slide 140 = .ok (.istore 13, 2) := by decide +kernel
theorem dX12_slide_142 : decode cX12_slide 142 = .ok (.aload_n 0, 1) := by decide +kernel
theorem dX12_slide_143 : decode cX12_slide 143 = .ok (.iload_n 1, 1) := by decide +kernel
theorem dX12_slide_144 : decode cX12_slide 144 = .ok (.iload_n 2, 1) := by decide +kernel
theorem dX12_slide_145 : decode cX12_slide 145 = .ok (.iconst 1, 1) := by decide +kernel
theorem dX12_slide_146 : decode cX12_slide 146 = .ok (.iload 6, 2) := by decide +kernel
theorem dX12_slide_148 : decode cX12_slide 148 = .ok (.isub, 1) := by decide +kernel
theorem dX12_slide_149 : decode cX12_slide 149 = .ok (.invokevirtual 104, 3) := by decide +kernel
theorem dX12_slide_152 : decode cX12_slide 152 = .ok (.istore 14, 2) := by decide +kernel
theorem dX12_slide_154 : decode cX12_slide 154 = .ok (.aload_n 0, 1) := by decide +kernel
theorem dX12_slide_155 : decode cX12_slide 155 = .ok (.iload_n 1, 1) := by decide +kernel
theorem dX12_slide_156 : decode cX12_slide 156 = .ok (.iload 9, 2) := by decide +kernel
theorem dX12_slide_158 : decode cX12_slide 158 = .ok (.iload 10, 2) := by decide +kernel
theorem dX12_slide_160 : decode cX12_slide 160 = .ok (.invokevirtual 214, 3) := by decide +kernel
theorem dX12_slide_163 : decode cX12_slide 163 = .ok (.ifCond .eq 74, 3) := by decide +kernel
theorem dX12_slide_166 : decode cX12_slide 166 = .ok (.aload_n 0, 1) := by decide +kernel
theorem dX12_slide_167 : decode cX12_slide 167 = .ok (.iload_n 1, 1) := by decide +kernel
theorem dX12_slide_168 : decode cX12_slide 168 = .ok (.iload 11, 2) := by decide +kernel
theorem dX12_slide_170 : decode cX12_slide 170 = .ok (.iload 12, 2) := by decide +kernel
theorem dX12_slide_172 : decode cX12_slide 172 = .ok (.invokevirtual 214, 3) := by decide +kernel
theorem dX12_slide_175 : decode cX12_slide 175 = .ok (.ifCond .eq 62, 3) := by decide +kernel
theorem dX12_slide_178 : decode cX12_slide 178 = .ok (.aload_n 0, 1) := by decide +kernel
theorem dX12_slide_179 : decode cX12_slide 179 = .ok (.iload_n 1, 1) := by decide +kernel
theorem dX12_slide_180 : decode cX12_slide 180 = .ok (.iload 13, 2) := by decide +kernel
theorem dX12_slide_182 : decode cX12_slide 182 = .ok (.iload 14, 2) := by decide +kernel
theorem dX12_slide_184 : decode cX12_slide 184 = .ok (.invokevirtual 214, 3) := by decide +kernel
theorem dX12_slide_187 : decode cX12_slide 187 = .ok (.ifCond .eq 50, 3) := by decide +kernel
theorem dX12_slide_190 : decode cX12_slide 190 = .ok (.aload_n 0, 1) := by decide +kernel
theorem dX12_slide_191 : decode cX12_slide 191 = .ok (.invokevirtual 93, 3) := by decide +kernel
theorem dX12_slide_194 : decode cX12_slide 194 = .ok (.aload_n 0, 1) := by decide +kernel
theorem dX12_slide_195 : decode cX12_slide 195 = .ok (.iload_n 1, 1) := by decide +kernel
theorem dX12_slide_196 : decode cX12_slide 196 = .ok (.iload 9, 2) := by decide +kernel
theorem dX12_slide_198 : decode cX12_slide 198 = .ok (.iload 10, 2) := by decide +kernel
theorem dX12_slide_200 : decode cX12_slide 200 = .ok (.invokevirtual 296, 3) := by decide +kernel
theorem dX12_slide_203 : decode cX12_slide 203 = .ok (.aload_n 0, 1) := by decide +kernel
theorem dX12_slide_204 : decode cX12_slide 204 = .ok (.iload_n 1, 1) := by decide +kernel
theorem dX12_slide_205 : decode cX12_slide 205 = .ok (.iload 11, 2) := by decide +kernel
theorem dX12_slide_207 : decode cX12_slide 207 = .ok (.iload 12, 2) := by decide +kernel
theorem dX12_slide_209 : decode cX12_slide 209 = .ok (.invokevirtual 296, 3) := by decide +kernel
theorem dX12_slide_212 : decode cX12_slide 212 = .ok (.aload_n 0, 1) := by decide +kernel
theorem dX12_slide_213 : decode cX12_slide 213 = .ok (.iload_n 1, 1) := by decide +kernel
theorem dX12_slide_214 : decode cX12_slide 214 = .ok (.iload 13, 2) := by decide +kernel
theorem dX12_slide_216 : decode cX12_slide 216 = .ok (.iload 14, 2) := by decide +kernel
theorem dX12_slide_218 : decode cX12_slide 218 = .ok (.invokevirtual 296, 3) := by decide +kernel
theorem dX12_slide_221 : decode cX12_slide 221 = .ok (.aload_n 0, 1) := by decide +kernel
theorem dX12_slide_222 : decode cX12_slide 222 = .ok (.iload_n 1, 1) := by decide +kernel
theorem dX12_slide_223 : decode cX12_slide 223 = .ok (.iconst 0, 1) := by decide +kernel
theorem dX12_slide_224 : decode cX12_slide 224 = .ok (.iconst 0, 1) := by decide +kernel
theorem dX12_slide_225 : decode cX12_slide 225 = .ok (.invokevirtual 199, 3) := by decide +kernel
theorem dX12_slide_228 : decode cX12_slide 228 = .ok (.aload_n 0, 1) := by decide +kernel
theorem dX12_slide_229 : decode cX12_slide 229 = .ok (.iload_n 1, 1) := by decide +kernel
theorem dX12_slide_230 : decode cX12_slide 230 = .ok (.invokevirtual 73, 3) := by decide +kernel
theorem dX12_slide_233 : decode cX12_slide 233 = .ok (.pop, 1) := by decide +kernel
theorem dX12_slide_234 : decode cX12_slide 234 = .ok (.iload 5, 2) := by decide +kernel
theorem dX12_slide_236 : decode cX12_slide 236 = .ok (.ireturn, 1) := by decide +kernel
theorem dX12_slide_237 : decode cX12_slide 237 = .ok (.iinc 5 1, 3) := by decide +kernel
theorem dX12_slide_240 : decode cX12_slide 240 = .ok (.goto (-181), 3) := by decide +kernel
theorem dX12_slide_243 : decode cX12_slide 243 = .ok (.ldc_w 289, 3) := by decide +kernel
theorem dX12_slide_246 : decode cX12_slide 246 = .ok (.ireturn, 1) := by decide +kernel
theorem dX12_smooth_0 : decode cX12_smooth 0 = .ok (.aload_n 0, 1) := by decide +kernel
theorem dX12_smooth_1 : decode cX12_smooth 1 = .ok (.iload_n 1, 1) := by decide +kernel
theorem dX12_smooth_2 : decode cX12_smooth 2 = .ok (.invokevirtual 223, 3) := by decide +kernel
theorem dX12_smooth_5 : decode cX12_smooth 5 = .ok (.ifCond .eq 12, 3) := by decide +kernel
theorem dX12_smooth_8 : decode cX12_smooth 8 = .ok (.aload_n 0, 1) := by decide +kernel
theorem dX12_smooth_9 : decode cX12_smooth 9 = .ok (.iload_n 1, 1) := by decide +kernel
theorem dX12_smooth_10 : decode cX12_smooth 10 = .ok (.iload_n 2, 1) := by decide +kernel
theorem dX12_smooth_11 : decode cX12_smooth 11 = .ok (.invokevirtual 274, 3) := by decide +kernel
theorem dX12_smooth_14 : decode cX12_smooth 14 = .ok (.ifCond .ne 6, 3) := by decide +kernel
theorem dX12_smooth_17 : decode cX12_smooth 17 = .ok (.ldc 252, 2) := by decide +kernel
theorem dX12_smooth_19 : decode cX12_smooth 19 = .ok (.ireturn, 1) := by decide +kernel
theorem dX12_smooth_20 : decode cX12_smooth 20 = .ok (.aload_n 0, 1) := by decide +kernel
theorem dX12_smooth_21 : decode cX12_smooth 21 = .ok (.invokevirtual 93, 3) := by decide +kernel
theorem dX12_smooth_24 : decode cX12_smooth 24 = .ok (.aload_n 0, 1) := by decide +kernel
theorem dX12_smooth_25 : decode cX12_smooth 25 = .ok (.iload_n 1, 1) := by decide +kernel
theorem dX12_smooth_26 : decode cX12_smooth 26 = .ok (.iload_n 2, 1) := by decide +kernel
theorem dX12_smooth_27 : decode cX12_smooth 27 = .ok (.iconst 0, 1) := by decide +kernel
theorem dX12_smooth_28 : decode cX12_smooth 28 = .ok (.invokevirtual 104, 3) := by decide +kernel
theorem dX12_smooth_31 : decode cX12_smooth 31 = .ok (.istore_n 3, 1) := by decide +kernel
theorem dX12_smooth_32 : decode cX12_smooth 32 = .ok (.aload_n 0, 1) := by decide +kernel
theorem dX12_smooth_33 : decode cX12_smooth 33 = .ok (.iload_n 1, 1) := by decide +kernel
theorem dX12_smooth_34 : decode cX12_smooth 34 = .ok (.iload_n 2, 1) := by decide +kernel
theorem dX12_smooth_35 : decode cX12_smooth 35 = .ok (.iconst 1, 1) := by decide +kernel
theorem dX12_smooth_36 : decode cX12_smooth 36 = .ok (.invokevirtual 104, 3) := by decide +kernel
theorem dX12_smooth_39 : decode cX12_smooth 39 = .ok (.istore 4, 2) := by decide +kernel
theorem dX12_smooth_41 : decode cX12_smooth 41 = .ok (.aload_n 0, 1) := by decide +kernel
theorem dX12_smooth_42 : decode cX12_smooth 42 = .ok (.iconst 0, 1) := by decide +kernel
theorem dX12_smooth_43 : decode cX12_smooth 43 = .ok (.putfield 67, 3) := by decide +kernel
theorem dX12_smooth_46 : decode cX12_smooth 46 = .ok (.iconst 0, 1) := by decide +kernel
theorem dX12_smooth_47 : decode cX12_smooth 47 = .ok (.istore 5, 2) := by decide +kernel
theorem dX12_smooth_49 : decode cX12_smooth 49 = .ok (.iload 5, 2) := by decide +kernel
theorem dX12_smooth_51 : decode cX12_smooth 51 = .ok (.iconst 2, 1) := by decide +kernel
theorem dX12_smooth_52 : decode cX12_smooth 52 = .ok (.aload_n 0, 1) := by decide +kernel
theorem dX12_smooth_53 : decode cX12_smooth 53 = .ok (.iload_n 1, 1) := by decide +kernel
theorem dX12_smooth_54 : decode cX12_smooth 54 = .ok (.invokevirtual 59, 3) := by decide +kernel
theorem dX12_smooth_57 : decode cX12_smooth 57 = .ok (.imul, 1) := by decide +kernel
theorem dX12_smooth_58 : decode cX12_smooth 58 = .ok (.if_icmp .ge 57, 3) := by decide +kernel
theorem dX12_smooth_61 : decode cX12_smooth 61 = .ok (.iload 5, 2) := by decide +kernel
theorem dX12_smooth_63 : decode cX12_smooth 63 = .ok (.iload_n 3, 1) := by decide +kernel
theorem dX12_smooth_64 : decode cX12_smooth 64 = .ok (.if_icmp .eq 45, 3) := by decide +kernel
theorem dX12_smooth_67 : decode cX12_smooth 67 = .ok (.iload 5, 2) := by decide +kernel
theorem dX12_smooth_69 : decode cX12_smooth 69 = .ok (.iload 4, 2) := by decide +kernel
theorem dX12_smooth_71 : decode cX12_smooth 71 = .ok (.if_icmp .eq 38, 3) := by decide +kernel
theorem dX12_smooth_74 : decode cX12_smooth 74 = .ok (.aload_n 0, 1) := by decide +kernel
theorem dX12_smooth_75 : decode cX12_smooth 75 = .ok (.aload_n 0, 1) := by decide +kernel
theorem dX12_smooth_76 : decode cX12_smooth 76 = .ok (.iload_n 1, 1) := by decide +kernel
theorem dX12_smooth_77 : decode cX12_smooth 77 = .ok (.iload 5, 2) := by decide +kernel
theorem dX12_smooth_79 : decode cX12_smooth 79 = .ok (.i2l, 1) := by decide +kernel
theorem dX12_smooth_80 : decode cX12_smooth 80 = .ok (.iload_n 3, 1) := by decide +kernel
theorem dX12_smooth_81 : decode cX12_smooth 81 = .ok (.i2l, 1) := by decide +kernel
theorem dX12_smooth_82 : decode cX12_smooth 82 = .ok (.iload 4, 2) := by decide +kernel
theorem dX12_smooth_84 : decode cX12_smooth 84 = .ok (.i2l, 1) := by decide +kernel
theorem dX12_smooth_85 : decode cX12_smooth 85 = .ok (.invokestatic 55, 3) := by decide +kernel
theorem dX12_smooth_88 : decode cX12_smooth 88 = .ok (.ifCond .eq 13, 3) := by decide +kernel
theorem dX12_smooth_91 : decode cX12_smooth 91 = .ok (.iload_n 3, 1) := by decide +kernel
theorem dX12_smooth_92 : decode cX12_smooth 92 = .ok (.iload 4, 2) := by decide +kernel
theorem dX12_smooth_94 : decode cX12_smooth 94 = .ok (.iadd, 1) := by decide +kernel
theorem dX12_smooth_95 : decode cX12_smooth 95 = .ok (.iload 5, 2) := by decide +kernel
theorem dX12_smooth_97 : decode cX12_smooth 97 = .ok (.isub, 1) := by decide +kernel
theorem dX12_smooth_98 : decode cX12_smooth 98 = .ok (.goto 5, 3) := by decide +kernel
theorem dX12_smooth_101 : decode cX12_smooth 101 = .ok (.iload 5, 2) := by decide +kernel
theorem dX12_smooth_103 : decode cX12_smooth 103 = .ok (.invokevirtual 63, 3) := by decide +kernel
theorem dX12_smooth_106 : decode cX12_smooth 106 = .ok (.invokevirtual 96, 3) := by decide +kernel
theorem dX12_smooth_109 : decode cX12_smooth 109 = .ok (.iinc 5 1, 3) := by decide +kernel
theorem dX12_smooth_112 : decode cX12_smooth 112 = .ok (.goto (-63), 3) := by decide +kernel
theorem dX12_smooth_115 : decode cX12_smooth 115 = .ok (.aload_n 0, 1) := by decide +kernel
theorem dX12_smooth_116 : decode cX12_smooth 116 = .ok (.iload_n 1, 1) := by decide +kernel
theorem dX12_smooth_117 : decode cX12_smooth 117 = .ok (.invokevirtual 73, 3) := by decide +kernel
theorem dX12_smooth_120 : decode cX12_smooth 120 = .ok (.ireturn, 1) := by decide +kernel
theorem dX12_sum_0 : decode cX12_sum 0 = .ok (.aload_n 0, 1) := by decide +kernel
theorem dX12_sum_1 : decode cX12_sum 1 = .ok (.iload_n 1, 1) := by decide +kernel
theorem dX12_sum_2 : decode cX12_sum 2 = .ok (.invokevirtual 223, 3) := by decide +kernel
theorem dX12_sum_5 : decode cX12_sum 5 = .ok (.ifCond .eq 11, 3) := by decide +kernel
theorem dX12_sum_8 : decode cX12_sum 8 = .ok (.aload_n 0, 1) := by decide +kernel
theorem dX12_sum_9 : decode cX12_sum 9 = .ok (.iload_n 2, 1) := by decide +kernel
theorem dX12_sum_10 : decode cX12_sum 10 = .ok (.invokevirtual 223, 3) := by decide +kernel
theorem dX12_sum_13 : decode cX12_sum 13 = .ok (.ifCond .ne 6, 3) := by decide +kernel
theorem dX12_sum_16 : decode cX12_sum 16 = .ok (.ldc 252, 2) := by decide +kernel
theorem dX12_sum_18 : decode cX12_sum 18 = .ok (.ireturn, 1) := by decide +kernel
theorem dX12_sum_19 : decode cX12_sum 19 = .ok (.aload_n 0, 1) := by decide +kernel
theorem dX12_sum_20 : decode cX12_sum 20 = .ok (.iload_n 1, 1) := by decide +kernel
theorem dX12_sum_21 : decode cX12_sum 21 = .ok (.invokevirtual 59, 3) := by decide +kernel
theorem dX12_sum_24 : decode cX12_sum 24 = .ok (.aload_n 0, 1) := by decide +kernel
theorem dX12_sum_25 : decode cX12_sum 25 = .ok (.iload_n 2, 1) := by decide +kernel
theorem dX12_sum_26 : decode cX12_sum 26 = .ok (.invokevirtual 59, 3) := by decide +kernel
theorem dX12_sum_29 : decode cX12_sum 29 = .ok (.iadd, 1) := by decide +kernel
theorem dX12_sum_30 : decode cX12_sum 30 = .ok (.bipush 8, 2) := by decide +kernel
theorem dX12_sum_32 : decode cX12_sum 32 = .ok (.if_icmp .gt 14, 3) := by decide +kernel
theorem dX12_sum_35 : decode cX12_sum 35 = .ok (.aload_n 0, 1) := by decide +kernel
theorem dX12_sum_36 : decode cX12_sum 36 = .ok (.getfield 7, 3) := by decide +kernel
theorem dX12_sum_39 : decode cX12_sum 39 = .ok (.iconst 0, 1) := by decide +kernel
theorem dX12_sum_40 : decode cX12_sum 40 = .ok (.iaload, 1) := by decide +kernel
theorem dX12_sum_41 : decode cX12_sum 41 = .ok (.bipush 6, 2) := by decide +kernel
theorem dX12_sum_43 : decode cX12_sum 43 = .ok (.if_icmp .ne 6, 3) := by decide +kernel
theorem dX12_sum_46 : decode cX12_sum 46 = .ok (.ldc 82, 2) := by decide +kernel
theorem dX12_sum_48 : decode cX12_sum 48 = .ok (.ireturn, 1) := by decide +kernel
theorem dX12_sum_49 : decode cX12_sum 49 = .ok (.aload_n 0, 1) := by decide +kernel
theorem dX12_sum_50 : decode cX12_sum 50 = .ok (.invokevirtual 93, 3) := by decide +kernel
theorem dX12_sum_53 : decode cX12_sum 53 = .ok (.aload_n 0, 1) := by decide +kernel
theorem dX12_sum_54 : decode cX12_sum 54 = .ok (.iconst 0, 1) := by decide +kernel
theorem dX12_sum_55 : decode cX12_sum 55 = .ok (.putfield 67, 3) := by decide +kernel
theorem dX12_sum_58 : decode cX12_sum 58 = .ok (.iconst 0, 1) := by decide +kernel
theorem dX12_sum_59 : decode cX12_sum 59 = .ok (.istore_n 3, 1) := by decide +kernel
theorem dX12_sum_60 : decode cX12_sum 60 = .ok (.iload_n 3, 1) := by decide +kernel
theorem dX12_sum_61 : decode cX12_sum 61 = .ok (.iconst 2, 1) := by decide +kernel
theorem dX12_sum_62 : decode cX12_sum 62 = .ok (.aload_n 0, 1) := by decide +kernel
theorem dX12_sum_63 : decode cX12_sum 63 = .ok (.iload_n 1, 1) := by decide +kernel
theorem dX12_sum_64 : decode cX12_sum 64 = .ok (.invokevirtual 59, 3) := by decide +kernel
theorem dX12_sum_67 : decode cX12_sum 67 = .ok (.imul, 1) := by decide +kernel
theorem dX12_sum_68 : decode cX12_sum 68 = .ok (.if_icmp .ge 19, 3) := by decide +kernel
theorem dX12_sum_71 : decode cX12_sum 71 = .ok (.aload_n 0, 1) := by decide +kernel
theorem dX12_sum_72 : decode cX12_sum 72 = .ok (.aload_n 0, 1) := by decide +kernel
theorem dX12_sum_73 : decode cX12_sum 73 = .ok (.iload_n 1, 1) := by decide +kernel
theorem dX12_sum_74 : decode cX12_sum 74 = .ok (.iload_n 3, 1) := by decide +kernel
theorem dX12_sum_75 : decode cX12_sum 75 = .ok (.invokevirtual 63, 3) := by decide +kernel
theorem dX12_sum_78 : decode cX12_sum 78 = .ok (.invokevirtual 96, 3) := by decide +kernel
theorem dX12_sum_81 : decode cX12_sum 81 = .ok (.iinc 3 1, 3) := by decide +kernel
theorem dX12_sum_84 : decode cX12_sum 84 = .ok (.goto (-24), 3) := by decide +kernel
theorem dX12_sum_87 : decode cX12_sum 87 = .ok (.iconst 0, 1) := by decide +kernel
theorem dX12_sum_88 : decode cX12_sum 88 = .ok (.istore_n 3, 1) := by decide +kernel
theorem dX12_sum_89 : decode cX12_sum 89 = .ok (.iload_n 3, 1) := by decide +kernel
theorem dX12_sum_90 : decode cX12_sum 90 = .ok (.iconst 2, 1) := by decide +kernel
theorem dX12_sum_91 : decode cX12_sum 91 = .ok (.aload_n 0, 1) := by decide +kernel
theorem dX12_sum_92 : decode cX12_sum 92 = .ok (.iload_n 2, 1) := by decide +kernel
theorem dX12_sum_93 : decode cX12_sum 93 = .ok (.invokevirtual 59, 3) := by decide +kernel
theorem dX12_sum_96 : decode cX12_sum 96 = .ok (.imul, 1) := by decide +kernel
theorem dX12_sum_97 : decode cX12_sum 97 = .ok (.if_icmp .ge 22, 3) := by decide +kernel
theorem dX12_sum_100 : decode cX12_sum 100 = .ok (.aload_n 0, 1) := by decide +kernel
theorem dX12_sum_101 : decode cX12_sum 101 = .ok (.bipush 20, 2) := by decide +kernel
theorem dX12_sum_103 : decode cX12_sum 103 = .ok (.aload_n 0, 1) := by decide +kernel
theorem dX12_sum_104 : decode cX12_sum 104 = .ok (.iload_n 2, 1) := by decide +kernel
theorem dX12_sum_105 : decode cX12_sum 105 = .ok (.iload_n 3, 1) := by decide +kernel
theorem dX12_sum_106 : decode cX12_sum 106 = .ok (.invokevirtual 63, 3) := by decide +kernel
theorem dX12_sum_109 : decode cX12_sum 109 = .ok (.iadd, 1) := by decide +kernel
theorem dX12_sum_110 : decode cX12_sum 110 = .ok (.invokevirtual 96, 3) := by decide +kernel
theorem dX12_sum_113 : decode cX12_sum 113 = .ok (.iinc 3 1, 3) := by decide +kernel
theorem dX12_sum_116 : decode cX12_sum 116 = .ok (.goto (-27), 3) := by decide +kernel
theorem dX12_sum_119 : decode cX12_sum 119 = .ok (.aload_n 0, 1) := by decide +kernel
theorem dX12_sum_120 : decode cX12_sum 120 = .ok (.invokevirtual 100, 3) := by decide +kernel
theorem dX12_sum_123 : decode cX12_sum 123 = .ok (.ireturn, 1) := by decide +kernel
theorem dX12_take_0 : decode cX12_take 0 = .ok (.aload_n 0, 1) := by decide +kernel
theorem dX12_take_1 : decode cX12_take 1 = .ok (.iload_n 1, 1) := by decide +kernel
theorem dX12_take_2 : decode cX12_take 2 = .ok (.invokevirtual 223, 3) := by decide +kernel
theorem dX12_take_5 : decode cX12_take 5 = .ok (.ifCond .ne 6, 3) := by decide +kernel
theorem dX12_take_8 : decode cX12_take 8 = .ok (.ldc 252, 2) := by decide +kernel
theorem dX12_take_10 : decode cX12_take 10 = .ok (.ireturn, 1) := by decide +kernel
theorem dX12_take_11 : decode cX12_take 11 = .ok (.aload_n 0, 1) := by decide +kernel
theorem dX12_take_12 : decode cX12_take 12 = .ok (.invokevirtual 93, 3) := by decide +kernel
theorem dX12_take_15 : decode cX12_take 15 = .ok (.aload_n 0, 1) := by decide +kernel
theorem dX12_take_16 : decode cX12_take 16 = .ok (.getfield 7, 3) := by decide +kernel
theorem dX12_take_19 : decode cX12_take 19 = .ok (.iconst 0, 1) := by decide +kernel
theorem dX12_take_20 : decode cX12_take 20 = .ok (.dup2, 1) := by decide +kernel
theorem dX12_take_21 : decode cX12_take 21 = .ok (.iaload, 1) := by decide +kernel
theorem dX12_take_22 : decode cX12_take 22 = .ok (.iconst 1, 1) := by decide +kernel
theorem dX12_take_23 : decode cX12_take 23 = .ok (.isub, 1) := by decide +kernel
theorem dX12_take_24 : decode cX12_take 24 = .ok (.iastore, 1) := by decide +kernel
theorem dX12_take_25 : decode cX12_take 25 = .ok (.bipush 18, 2) := by decide +kernel
theorem dX12_take_27 : decode cX12_take 27 = .ok (.iload_n 1, 1) := by decide +kernel
theorem dX12_take_28 : decode cX12_take 28 = .ok (.imul, 1) := by decide +kernel
theorem dX12_take_29 : decode cX12_take 29 = .ok (.istore_n 2, 1) := by decide +kernel
theorem dX12_take_30 : decode cX12_take 30 = .ok (.iload_n 2, 1) := by decide +kernel
theorem dX12_take_31 : decode cX12_take 31 = .ok (.bipush 18, 2) := by decide +kernel
theorem dX12_take_33 : decode cX12_take 33 = .ok (.aload_n 0, 1) := by decide +kernel
theorem dX12_take_34 : decode cX12_take 34 = .ok (.getfield 7, 3) := by decide +kernel
theorem dX12_take_37 : decode cX12_take 37 = .ok (.iconst 0, 1) := by decide +kernel
theorem dX12_take_38 : decode cX12_take 38 = .ok (.iaload, 1) := by decide +kernel
theorem dX12_take_39 : decode cX12_take 39 = .ok (.imul, 1) := by decide +kernel
theorem dX12_take_40 : decode cX12_take 40 = .ok (.if_icmp .ge 26, 3) := by decide +kernel
theorem dX12_take_43 : decode cX12_take 43 = .ok (.aload_n 0, 1) := by decide +kernel
theorem dX12_take_44 : decode cX12_take 44 = .ok (.getfield 7, 3) := by decide +kernel
theorem dX12_take_47 : decode cX12_take 47 = .ok (.iconst 1, 1) := by decide +kernel
theorem dX12_take_48 : decode cX12_take 48 = .ok (.iload_n 2, 1) := by decide +kernel
theorem dX12_take_49 : decode cX12_take 49 = .ok (.iadd, 1) := by decide +kernel
theorem dX12_take_50 : decode cX12_take 50 = .ok (.aload_n 0, 1) := by decide +kernel
theorem dX12_take_51 : decode cX12_take 51 = .ok (.getfield 7, 3) := by decide +kernel
theorem dX12_take_54 : decode cX12_take 54 = .ok (.bipush 19, 2) := by decide +kernel
theorem dX12_take_56 : decode cX12_take 56 = .ok (.iload_n 2, 1) := by decide +kernel
theorem dX12_take_57 : decode cX12_take 57 = .ok (.iadd, 1) := by decide +kernel
theorem dX12_take_58 : decode cX12_take 58 = .ok (.iaload, 1) := by decide +kernel
theorem dX12_take_59 : decode cX12_take 59 = .ok (.iastore, 1) := by decide +kernel
theorem dX12_take_60 : decode cX12_take 60 = .ok (.iinc 2 1, 3) := by decide +kernel
theorem dX12_take_63 : decode cX12_take 63 = .ok (.goto (-33), 3) := by decide +kernel
theorem dX12_take_66 : decode cX12_take 66 = .ok (.aload_n 0, 1) := by decide +kernel
theorem dX12_take_67 : decode cX12_take 67 = .ok (.getfield 7, 3) := by decide +kernel
theorem dX12_take_70 : decode cX12_take 70 = .ok (.iconst 0, 1) := by decide +kernel
theorem dX12_take_71 : decode cX12_take 71 = .ok (.iaload, 1) := by decide +kernel
theorem dX12_take_72 : decode cX12_take 72 = .ok (.ireturn, 1) := by decide +kernel
theorem dX12_draws_0 : decode cX12_draws 0 = .ok (.aload_n 0, 1) := by decide +kernel
theorem dX12_draws_1 : decode cX12_draws 1 = .ok (.aload_n 0, 1) := by decide +kernel
theorem dX12_draws_2 : decode cX12_draws 2 = .ok (.getfield 236, 3) := by decide +kernel
theorem dX12_draws_5 : decode cX12_draws 5 = .ok (.i2l, 1) := by decide +kernel
theorem dX12_draws_6 : decode cX12_draws 6 = .ok (.ldc2_w 299, 3) := by decide +kernel
theorem dX12_draws_9 : decode cX12_draws 9 = .ok (.lmul, 1) := by decide +kernel
theorem dX12_draws_10 : decode cX12_draws 10 = .ok (.ldc2_w 301, 3) := by decide +kernel
theorem dX12_draws_13 : decode cX12_draws 13 = .ok (.ladd, 1) := by decide +kernel
theorem dX12_draws_14 : decode cX12_draws 14 = .ok (.ldc2_w 303, 3) := by decide +kernel
theorem dX12_draws_17 : decode cX12_draws 17 = .ok (.lrem, 1) := by decide +kernel
theorem dX12_draws_18 : decode cX12_draws 18 = .ok (.l2i, 1) := by decide +kernel
theorem dX12_draws_19 : decode cX12_draws 19 = .ok (.putfield 236, 3) := by decide +kernel
theorem dX12_draws_22 : decode cX12_draws 22 = .ok (.aload_n 0, 1) := by decide +kernel
theorem dX12_draws_23 : decode cX12_draws 23 = .ok (.getfield 236, 3) := by decide +kernel
theorem dX12_draws_26 : decode cX12_draws 26 = .ok (.ldc_w 305, 3) := by decide +kernel
theorem dX12_draws_29 : decode cX12_draws 29 = .ok (.idiv, 1) := by decide +kernel
theorem dX12_draws_30 : decode cX12_draws 30 = .ok (.iload_n 1, 1) := by decide +kernel
theorem dX12_draws_31 : decode cX12_draws 31 = .ok (.irem, 1) := by decide +kernel
theorem dX12_draws_32 : decode cX12_draws 32 = .ok (.ireturn, 1) := by decide +kernel
theorem dX12_drawsRow_0 : decode cX12_drawsRow 0 = .ok (.iconst 2, 1) := by decide +kernel
theorem dX12_drawsRow_1 : decode cX12_drawsRow 1 = .ok (.aload_n 0, 1) := by decide +kernel
theorem dX12_drawsRow_2 : decode cX12_drawsRow 2 = .ok (.bipush 7, 2) := by decide +kernel
theorem dX12_drawsRow_4 : decode cX12_drawsRow 4 = .ok (.invokevirtual 306, 3) := by decide +kernel
theorem dX12_drawsRow_7 : decode cX12_drawsRow 7 = .ok (.iconst 2, 1) := by decide +kernel
theorem dX12_drawsRow_8 : decode cX12_drawsRow 8 = .ok (.iadd, 1) := by decide +kernel
theorem dX12_drawsRow_9 : decode cX12_drawsRow 9 = .ok (.imul, 1) := by decide +kernel
theorem dX12_drawsRow_10 : decode cX12_drawsRow 10 = .ok (.istore_n 1, 1) := by decide +kernel
theorem dX12_drawsRow_11 : decode cX12_drawsRow 11 = .ok (.iconst 0, 1) := by decide +kernel
theorem dX12_drawsRow_12 : decode cX12_drawsRow 12 = .ok (.istore_n 2, 1) := by decide +kernel
theorem dX12_drawsRow_13 : decode cX12_drawsRow 13 = .ok (.iload_n 2, 1) := by decide +kernel
theorem dX12_drawsRow_14 : decode cX12_drawsRow 14 = .ok (.iload_n 1, 1) := by decide +kernel
theorem dX12_drawsRow_15 : decode cX12_drawsRow 15 = .ok (.if_icmp .ge 16, 3) := by decide +kernel
theorem dX12_drawsRow_18 : decode cX12_drawsRow 18 = .ok (.aload_n 0, 1) := by decide +kernel
theorem dX12_drawsRow_19 : decode cX12_drawsRow 19 = .ok (.getfield 33, 3) := by decide +kernel
theorem dX12_drawsRow_22 : decode cX12_drawsRow 22 = .ok (.iload_n 2, 1) := by decide +kernel
theorem dX12_drawsRow_23 : decode cX12_drawsRow 23 = .ok (.iconst (-1), 1) := by decide +kernel
theorem dX12_drawsRow_24 : decode cX12_drawsRow 24 = .ok (.iastore, 1) := by decide +kernel
theorem dX12_drawsRow_25 : decode cX12_drawsRow 25 = .ok (.iinc 2 1, 3) := by decide +kernel
theorem dX12_drawsRow_28 : decode cX12_drawsRow 28 = .ok (.goto (-15), 3) := by decide +kernel
theorem dX12_drawsRow_31 : decode cX12_drawsRow 31 = .ok (.iconst 0, 1) := by decide +kernel
theorem dX12_drawsRow_32 : decode cX12_drawsRow 32 = .ok (.istore_n 2, 1) := by decide +kernel
theorem dX12_drawsRow_33 : decode cX12_drawsRow 33 = .ok (.iload_n 2, 1) := by decide +kernel
theorem dX12_drawsRow_34 : decode cX12_drawsRow 34 = .ok (.iload_n 1, 1) := by decide +kernel
theorem dX12_drawsRow_35 : decode cX12_drawsRow 35 = .ok (.if_icmp .ge 70, 3) := by decide +kernel
theorem dX12_drawsRow_38 : decode cX12_drawsRow 38 = .ok (.aload_n 0, 1) := by decide +kernel
theorem dX12_drawsRow_39 : decode cX12_drawsRow 39 = .ok (.iload_n 1, 1) := by decide +kernel
theorem dX12_drawsRow_40 : decode cX12_drawsRow 40 = .ok (.iload_n 2, 1) := by decide +kernel
theorem dX12_drawsRow_41 : decode cX12_drawsRow 41 = .ok (.isub, 1) := by decide +kernel
theorem dX12_drawsRow_42 : decode cX12_drawsRow 42 = .ok (.invokevirtual 306, 3) := by decide +kernel
theorem dX12_drawsRow_45 : decode cX12_drawsRow 45 = .ok (.istore_n 3, 1) := by decide +kernel
theorem dX12_drawsRow_46 : decode cX12_drawsRow 46 = .ok (.iconst 0, 1) := by decide +kernel
theorem dX12_drawsRow_47 : decode cX12_drawsRow 47 = .ok (.istore 4, 2) := by decide +kernel
theorem dX12_drawsRow_49 : decode cX12_drawsRow 49 = .ok (.aload_n 0, 1) := by decide +kernel
theorem dX12_drawsRow_50 : decode cX12_drawsRow 50 = .ok (.getfield 33, 3) := by decide +kernel
theorem dX12_drawsRow_53 : decode cX12_drawsRow 53 = .ok (.iload 4, 2) := by decide +kernel
theorem dX12_drawsRow_55 : decode cX12_drawsRow 55 = .ok (.iaload, 1) := by decide +kernel
theorem dX12_drawsRow_56 : decode cX12_drawsRow 56 = .ok (.iconst (-1), 1) := by decide +kernel
theorem dX12_drawsRow_57 : decode cX12_drawsRow 57 = .ok (.if_icmp .ne 7, 3) := by decide +kernel
theorem dX12_drawsRow_60 : decode cX12_drawsRow 60 = .ok (.iload_n 3, 1) := by decide +kernel
theorem dX12_drawsRow_61 : decode cX12_drawsRow 61 = .ok (.ifCond .le 28, 3) := by decide +kernel
theorem dX12_drawsRow_64 : decode cX12_drawsRow 64 = .ok (.iload_n 3, 1) := by decide +kernel
theorem dX12_drawsRow_65 : decode cX12_drawsRow 65 = .ok (.aload_n 0, 1) := by decide +kernel
theorem dX12_drawsRow_66 : decode cX12_drawsRow 66 = .ok (.getfield 33, 3) := by decide +kernel
theorem dX12_drawsRow_69 : decode cX12_drawsRow 69 = .ok (.iload 4, 2) := by decide +kernel
theorem dX12_drawsRow_71 : decode cX12_drawsRow 71 = .ok (.iaload, 1) := by decide +kernel
theorem dX12_drawsRow_72 : decode cX12_drawsRow 72 = .ok (.iconst (-1), 1) := by decide +kernel
theorem dX12_drawsRow_73 : decode cX12_drawsRow 73 = .ok (.if_icmp .ne 7, 3) := by decide +kernel
theorem dX12_drawsRow_76 : decode cX12_drawsRow 76 = .ok (.iconst 1, 1) := by decide +kernel
theorem dX12_drawsRow_77 : decode cX12_drawsRow 77 = .ok (.goto 4, 3) := by decide +kernel
theorem dX12_drawsRow_80 : decode cX12_drawsRow 80 = .ok (.iconst 0, 1) := by decide +kernel
theorem dX12_drawsRow_81 : decode cX12_drawsRow 81 = .ok (.isub, 1) := by decide +kernel
theorem dX12_drawsRow_82 : decode cX12_drawsRow 82 = .ok (.istore_n 3, 1) := by decide +kernel
theorem dX12_drawsRow_83 : decode cX12_drawsRow 83 = .ok (.iinc 4 1, 3) := by decide +kernel
theorem dX12_drawsRow_86 : decode cX12_drawsRow 86 = .ok (.goto (-37), 3) := by decide +kernel
theorem dX12_drawsRow_89 : decode cX12_drawsRow 89 = .ok (.aload_n 0, 1) := by decide +kernel
theorem dX12_drawsRow_90 : decode cX12_drawsRow 90 = .ok (.getfield 33, 3) := by decide +kernel
theorem dX12_drawsRow_93 : decode cX12_drawsRow 93 = .ok (.iload 4, 2) := by decide +kernel
theorem dX12_drawsRow_95 : decode cX12_drawsRow 95 = .ok (.iload_n 2, 1) := by decide +kernel
theorem dX12_drawsRow_96 : decode cX12_drawsRow 96 = .ok (.iconst 2, 1) := by decide +kernel
theorem dX12_drawsRow_97 : decode cX12_drawsRow 97 = .ok (.idiv, 1) := by decide +kernel
theorem dX12_drawsRow_98 : decode cX12_drawsRow 98 = .ok (.iastore, 1) := by decide +kernel
theorem dX12_drawsRow_99 : decode cX12_drawsRow 99 = .ok (.iinc 2 1, 3) := by decide +kernel
theorem dX12_drawsRow_102 : decode cX12_drawsRow 102 = .ok (.goto (-69), 3) := by decide +kernel
theorem dX12_drawsRow_105 : decode cX12_drawsRow 105 = .ok (.aload_n 0, 1) := by decide +kernel
theorem dX12_drawsRow_106 : decode cX12_drawsRow 106 = .ok (.iload_n 1, 1) := by decide +kernel
theorem dX12_drawsRow_107 : decode cX12_drawsRow 107 = .ok (.putfield 67, 3) := by decide +kernel
theorem dX12_drawsRow_110 : decode cX12_drawsRow 110 = .ok (.return_, 1) := by decide +kernel
theorem dX12_drift_0 : decode cX12_drift 0 = .ok (.iload_n 1, 1) := by decide +kernel
theorem dX12_drift_1 : decode cX12_drift 1 = .ok (.i2l, 1) := by decide +kernel
theorem dX12_drift_2 : decode cX12_drift 2 = .ok (.lconst 1, 1) := by decide +kernel
theorem dX12_drift_3 : decode cX12_drift 3 = .ok (.ldc2_w 309, 3) := by decide +kernel
theorem dX12_drift_6 : decode cX12_drift 6 = .ok (.invokestatic 55, 3) := by decide +kernel
theorem dX12_drift_9 : decode cX12_drift 9 = .ok (.ifCond .ne 6, 3) := by decide +kernel
theorem dX12_drift_12 : decode cX12_drift 12 = .ok (.ldc 78, 2) := by decide +kernel
theorem dX12_drift_14 : decode cX12_drift 14 = .ok (.ireturn, 1) := by decide +kernel
theorem dX12_drift_15 : decode cX12_drift 15 = .ok (.iconst 0, 1) := by decide +kernel
theorem dX12_drift_16 : decode cX12_drift 16 = .ok (.istore_n 2, 1) := by decide +kernel
theorem dX12_drift_17 : decode cX12_drift 17 = .ok (.iload_n 2, 1) := by decide +kernel
theorem dX12_drift_18 : decode cX12_drift 18 = .ok (.iload_n 1, 1) := by decide +kernel
theorem dX12_drift_19 : decode cX12_drift 19 = .ok (.if_icmp .ge 33, 3) := by decide +kernel
theorem dX12_drift_22 : decode cX12_drift 22 = .ok (.aload_n 0, 1) := by decide +kernel
theorem dX12_drift_23 : decode cX12_drift 23 = .ok (.getfield 7, 3) := by decide +kernel
theorem dX12_drift_26 : decode cX12_drift 26 = .ok (.iconst 0, 1) := by decide +kernel
theorem dX12_drift_27 : decode cX12_drift 27 = .ok (.iaload, 1) := by decide +kernel
theorem dX12_drift_28 : decode cX12_drift 28 = .ok (.bipush 6, 2) := by decide +kernel
theorem dX12_drift_30 : decode cX12_drift 30 = .ok (.if_icmp .ge 22, 3) := by decide +kernel
theorem dX12_drift_33 : decode cX12_drift 33 = .ok (.aload_n 0, 1) := by decide +kernel
theorem dX12_drift_34 : decode cX12_drift 34 = .ok (.invokevirtual 93, 3) := by decide +kernel
theorem dX12_drift_37 : decode cX12_drift 37 = .ok (.aload_n 0, 1) := by decide +kernel
theorem dX12_drift_38 : decode cX12_drift 38 = .ok (.invokevirtual 311, 3) := by decide +kernel
theorem dX12_drift_41 : decode cX12_drift 41 = .ok (.aload_n 0, 1) := by decide +kernel
theorem dX12_drift_42 : decode cX12_drift 42 = .ok (.invokevirtual 100, 3) := by decide +kernel
theorem dX12_drift_45 : decode cX12_drift 45 = .ok (.pop, 1) := by decide +kernel
theorem dX12_drift_46 : decode cX12_drift 46 = .ok (.iinc 2 1, 3) := by decide +kernel
theorem dX12_drift_49 : decode cX12_drift 49 = .ok (.goto (-32), 3) := by decide +kernel
theorem dX12_drift_52 : decode cX12_drift 52 = .ok (.aload_n 0, 1) := by decide +kernel
theorem dX12_drift_53 : decode cX12_drift 53 = .ok (.getfield 7, 3) := by decide +kernel
theorem dX12_drift_56 : decode cX12_drift 56 = .ok (.iconst 0, 1) := by decide +kernel
theorem dX12_drift_57 : decode cX12_drift 57 = .ok (.iaload, 1) := by decide +kernel
theorem dX12_drift_58 : decode cX12_drift 58 = .ok (.ireturn, 1) := by decide +kernel
theorem dX12_undo_0 : decode cX12_undo 0 = .ok (.iload_n 1, 1) := by decide +kernel
theorem dX12_undo_1 : decode cX12_undo 1 = .ok (.i2l, 1) := by decide +kernel
theorem dX12_undo_2 : decode cX12_undo 2 = .ok (.lconst 1, 1) := by decide +kernel
theorem dX12_undo_3 : decode cX12_undo 3 = .ok (.ldc2_w 314, 3) := by decide +kernel
theorem dX12_undo_6 : decode cX12_undo 6 = .ok (.invokestatic 55, 3) := by decide +kernel
theorem dX12_undo_9 : decode cX12_undo 9 = .ok (.ifCond .ne 6, 3) := by decide +kernel
theorem dX12_undo_12 : decode cX12_undo 12 = .ok (.ldc 78, 2) := by decide +kernel
theorem dX12_undo_14 : decode cX12_undo 14 = .ok (.ireturn, 1) := by decide +kernel
theorem dX12_undo_15 : decode cX12_undo 15 = .ok (.iload_n 1, 1) := by decide +kernel
theorem dX12_undo_16 : decode cX12_undo 16 = .ok (.aload_n 0, 1) := by decide +kernel
theorem dX12_undo_17 : decode cX12_undo 17 = .ok (.getfield 48, 3) := by decide +kernel
theorem dX12_undo_20 : decode cX12_undo 20 = .ok (.if_icmp .le 7, 3) := by decide +kernel
theorem dX12_undo_23 : decode cX12_undo 23 = .ok (.ldc_w 289, 3) := by decide +kernel
theorem dX12_undo_26 : decode cX12_undo 26 = .ok (.ireturn, 1) := by decide +kernel
theorem dX12_undo_27 : decode cX12_undo 27 = .ok (.aload_n 0, 1) := by decide +kernel
theorem dX12_undo_28 : decode cX12_undo 28 = .ok (.dup, 1) := by decide +kernel
theorem dX12_undo_29 : decode cX12_undo 29 = .ok (.getfield 48, 3) := by decide +kernel
theorem dX12_undo_32 : decode cX12_undo 32 = .ok (.iload_n 1, 1) := by decide +kernel
theorem dX12_undo_33 : decode cX12_undo 33 = .ok (.isub, 1) := by decide +kernel
theorem dX12_undo_34 : decode cX12_undo 34 = .ok (.putfield 48, 3) := by decide +kernel
theorem dX12_undo_37 : decode cX12_undo 37 = .ok (.aload_n 0, 1) := by decide +kernel
theorem dX12_undo_38 : decode cX12_undo 38 = .ok (.sipush 327, 3) := by decide +kernel
theorem dX12_undo_41 : decode cX12_undo 41 = .ok (.bipush 109, 2) := by decide +kernel
theorem dX12_undo_43 : decode cX12_undo 43 = .ok (.aload_n 0, 1) := by decide +kernel
theorem dX12_undo_44 : decode cX12_undo 44 = .ok (.getfield 48, 3) := by decide +kernel
theorem dX12_undo_47 : decode cX12_undo 47 = .ok (.imul, 1) := by decide +kernel
theorem dX12_undo_48 : decode cX12_undo 48 = .ok (.iadd, 1) := by decide +kernel
theorem dX12_undo_49 : decode cX12_undo 49 = .ok (.iconst 0, 1) := by decide +kernel
theorem dX12_undo_50 : decode cX12_undo 50 = .ok (.invokevirtual 51, 3) := by decide +kernel
theorem dX12_undo_53 : decode cX12_undo 53 = .ok (.aload_n 0, 1) := by decide +kernel
theorem dX12_undo_54 : decode cX12_undo 54 = .ok (.getfield 7, 3) := by decide +kernel
theorem dX12_undo_57 : decode cX12_undo 57 = .ok (.iconst 0, 1) := by decide +kernel
theorem dX12_undo_58 : decode cX12_undo 58 = .ok (.iaload, 1) := by decide +kernel
theorem dX12_undo_59 : decode cX12_undo 59 = .ok (.ireturn, 1) := by decide +kernel
theorem dX12_write_0 : decode cX12_write 0 = .ok (.aload_n 0, 1) := by decide +kernel
theorem dX12_write_1 : decode cX12_write 1 = .ok (.iload_n 1, 1) := by decide +kernel
theorem dX12_write_2 : decode cX12_write 2 = .ok (.invokevirtual 223, 3) := by decide +kernel
theorem dX12_write_5 : decode cX12_write 5 = .ok (.ifCond .ne 6, 3) := by decide +kernel
theorem dX12_write_8 : decode cX12_write 8 = .ok (.ldc 252, 2) := by decide +kernel
theorem dX12_write_10 : decode cX12_write 10 = .ok (.ireturn, 1) := by decide +kernel
theorem dX12_write_11 : decode cX12_write 11 = .ok (.aload_n 0, 1) := by decide +kernel
theorem dX12_write_12 : decode cX12_write 12 = .ok (.getfield 220, 3) := by decide +kernel
theorem dX12_write_15 : decode cX12_write 15 = .ok (.bipush 20, 2) := by decide +kernel
theorem dX12_write_17 : decode cX12_write 17 = .ok (.if_icmp .ne 6, 3) := by decide +kernel
theorem dX12_write_20 : decode cX12_write 20 = .ok (.ldc 82, 2) := by decide +kernel
theorem dX12_write_22 : decode cX12_write 22 = .ok (.ireturn, 1) := by decide +kernel
theorem dX12_write_23 : decode cX12_write 23 = .ok (.aload_n 0, 1) := by decide +kernel
theorem dX12_write_24 : decode cX12_write 24 = .ok (.getfield 27, 3) := by decide +kernel
theorem dX12_write_27 : decode cX12_write 27 = .ok (.aload_n 0, 1) := by decide +kernel
theorem dX12_write_28 : decode cX12_write 28 = .ok (.getfield 220, 3) := by decide +kernel
theorem dX12_write_31 : decode cX12_write 31 = .ok (.iload_n 1, 1) := by decide +kernel
theorem dX12_write_32 : decode cX12_write 32 = .ok (.iastore, 1) := by decide +kernel
theorem dX12_write_33 : decode cX12_write 33 = .ok (.aload_n 0, 1) := by decide +kernel
theorem dX12_write_34 : decode cX12_write 34 = .ok (.getfield 30, 3) := by decide +kernel
theorem dX12_write_37 : decode cX12_write 37 = .ok (.aload_n 0, 1) := by decide +kernel
theorem dX12_write_38 : decode cX12_write 38 = .ok (.getfield 220, 3) := by decide +kernel
theorem dX12_write_41 : decode cX12_write 41 = .ok (.iload_n 2, 1) := by decide +kernel
theorem dX12_write_42 : decode cX12_write 42 = .ok (.iastore, 1) := by decide +kernel
theorem dX12_write_43 : decode cX12_write 43 = .ok (.aload_n 0, 1) := by decide +kernel
theorem dX12_write_44 : decode cX12_write 44 = .ok (.dup, 1) := by decide +kernel
theorem dX12_write_45 : decode cX12_write 45 = .ok (.getfield 220, 3) := by decide +kernel
theorem dX12_write_48 : decode cX12_write 48 = .ok (.iconst 1, 1) := by decide +kernel
theorem dX12_write_49 : decode cX12_write 49 = .ok (.iadd, 1) := by decide +kernel
theorem dX12_write_50 : decode cX12_write 50 = .ok (.putfield 220, 3) := by decide +kernel
theorem dX12_write_53 : decode cX12_write 53 = .ok (.aload_n 0, 1) := by decide +kernel
theorem dX12_write_54 : decode cX12_write 54 = .ok (.getfield 220, 3) := by decide +kernel
theorem dX12_write_57 : decode cX12_write 57 = .ok (.ireturn, 1) := by decide +kernel
theorem dX12_tear_0 : decode cX12_tear 0 = .ok (.aload_n 0, 1) := by decide +kernel
theorem dX12_tear_1 : decode cX12_tear 1 = .ok (.getfield 220, 3) := by decide +kernel
theorem dX12_tear_4 : decode cX12_tear 4 = .ok (.istore_n 1, 1) := by decide +kernel
theorem dX12_tear_5 : decode cX12_tear 5 = .ok (.aload_n 0, 1) := by decide +kernel
theorem dX12_tear_6 : decode cX12_tear 6 = .ok (.iconst 0, 1) := by decide +kernel
theorem dX12_tear_7 : decode cX12_tear 7 = .ok (.putfield 220, 3) := by decide +kernel
theorem dX12_tear_10 : decode cX12_tear 10 = .ok (.iload_n 1, 1) := by decide +kernel
theorem dX12_tear_11 : decode cX12_tear 11 = .ok (.ireturn, 1) := by decide +kernel
theorem dX12_seed_0 : decode cX12_seed 0 = .ok (.iload_n 1, 1) := by decide +kernel
theorem dX12_seed_1 : decode cX12_seed 1 = .ok (.ifCond .ge 6, 3) := by decide +kernel
theorem dX12_seed_4 : decode cX12_seed 4 = .ok (.ldc 78, 2) := by decide +kernel
theorem dX12_seed_6 : decode cX12_seed 6 = .ok (.ireturn, 1) := by decide +kernel
theorem dX12_seed_7 : decode cX12_seed 7 = .ok (.aload_n 0, 1) := by decide +kernel
theorem dX12_seed_8 : decode cX12_seed 8 = .ok (.getfield 236, 3) := by decide +kernel
theorem dX12_seed_11 : decode cX12_seed 11 = .ok (.istore_n 2, 1) := by decide +kernel
theorem dX12_seed_12 : decode cX12_seed 12 = .ok (.aload_n 0, 1) := by decide +kernel
theorem dX12_seed_13 : decode cX12_seed 13 = .ok (.iload_n 1, 1) := by decide +kernel
theorem dX12_seed_14 : decode cX12_seed 14 = .ok (.putfield 236, 3) := by decide +kernel
theorem dX12_seed_17 : decode cX12_seed 17 = .ok (.iload_n 2, 1) := by decide +kernel
theorem dX12_seed_18 : decode cX12_seed 18 = .ok (.ireturn, 1) := by decide +kernel
theorem dX12_keep_0 : decode cX12_keep 0 = .ok (.iload_n 1, 1) := by decide +kernel
theorem dX12_keep_1 : decode cX12_keep 1 = .ok (.i2l, 1) := by decide +kernel
theorem dX12_keep_2 : decode cX12_keep 2 = .ok (.lconst 0, 1) := by decide +kernel
theorem dX12_keep_3 : decode cX12_keep 3 = .ok (.lconst 1, 1) := by decide +kernel
theorem dX12_keep_4 : decode cX12_keep 4 = .ok (.invokestatic 55, 3) := by decide +kernel
theorem dX12_keep_7 : decode cX12_keep 7 = .ok (.ifCond .ne 6, 3) := by decide +kernel
theorem dX12_keep_10 : decode cX12_keep 10 = .ok (.ldc 252, 2) := by decide +kernel
theorem dX12_keep_12 : decode cX12_keep 12 = .ok (.ireturn, 1) := by decide +kernel
theorem dX12_keep_13 : decode cX12_keep 13 = .ok (.aload_n 0, 1) := by decide +kernel
theorem dX12_keep_14 : decode cX12_keep 14 = .ok (.iconst 0, 1) := by decide +kernel
theorem dX12_keep_15 : decode cX12_keep 15 = .ok (.bipush 109, 2) := by decide +kernel
theorem dX12_keep_17 : decode cX12_keep 17 = .ok (.bipush 109, 2) := by decide +kernel
theorem dX12_keep_19 : decode cX12_keep 19 = .ok (.iload_n 1, 1) := by decide +kernel
theorem dX12_keep_20 : decode cX12_keep 20 = .ok (.imul, 1) := by decide +kernel
theorem dX12_keep_21 : decode cX12_keep 21 = .ok (.iadd, 1) := by decide +kernel
theorem dX12_keep_22 : decode cX12_keep 22 = .ok (.invokevirtual 51, 3) := by decide +kernel
theorem dX12_keep_25 : decode cX12_keep 25 = .ok (.aload_n 0, 1) := by decide +kernel
theorem dX12_keep_26 : decode cX12_keep 26 = .ok (.getfield 13, 3) := by decide +kernel
theorem dX12_keep_29 : decode cX12_keep 29 = .ok (.iload_n 1, 1) := by decide +kernel
theorem dX12_keep_30 : decode cX12_keep 30 = .ok (.aload_n 0, 1) := by decide +kernel
theorem dX12_keep_31 : decode cX12_keep 31 = .ok (.getfield 236, 3) := by decide +kernel
theorem dX12_keep_34 : decode cX12_keep 34 = .ok (.iastore, 1) := by decide +kernel
theorem dX12_keep_35 : decode cX12_keep 35 = .ok (.aload_n 0, 1) := by decide +kernel
theorem dX12_keep_36 : decode cX12_keep 36 = .ok (.getfield 16, 3) := by decide +kernel
theorem dX12_keep_39 : decode cX12_keep 39 = .ok (.iload_n 1, 1) := by decide +kernel
theorem dX12_keep_40 : decode cX12_keep 40 = .ok (.iconst 1, 1) := by decide +kernel
theorem dX12_keep_41 : decode cX12_keep 41 = .ok (.bastore, 1) := by decide +kernel
theorem dX12_keep_42 : decode cX12_keep 42 = .ok (.aload_n 0, 1) := by decide +kernel
theorem dX12_keep_43 : decode cX12_keep 43 = .ok (.iconst 0, 1) := by decide +kernel
theorem dX12_keep_44 : decode cX12_keep 44 = .ok (.putfield 48, 3) := by decide +kernel
theorem dX12_keep_47 : decode cX12_keep 47 = .ok (.iconst 1, 1) := by decide +kernel
theorem dX12_keep_48 : decode cX12_keep 48 = .ok (.ireturn, 1) := by decide +kernel
theorem dX12_goBack_0 : decode cX12_goBack 0 = .ok (.iload_n 1, 1) := by decide +kernel
theorem dX12_goBack_1 : decode cX12_goBack 1 = .ok (.i2l, 1) := by decide +kernel
theorem dX12_goBack_2 : decode cX12_goBack 2 = .ok (.lconst 0, 1) := by decide +kernel
theorem dX12_goBack_3 : decode cX12_goBack 3 = .ok (.lconst 1, 1) := by decide +kernel
theorem dX12_goBack_4 : decode cX12_goBack 4 = .ok (.invokestatic 55, 3) := by decide +kernel
theorem dX12_goBack_7 : decode cX12_goBack 7 = .ok (.ifCond .ne 6, 3) := by decide +kernel
theorem dX12_goBack_10 : decode cX12_goBack 10 = .ok (.ldc 252, 2) := by decide +kernel
theorem dX12_goBack_12 : decode cX12_goBack 12 = .ok (.ireturn, 1) := by decide +kernel
theorem dX12_goBack_13 : decode cX12_goBack 13 = .ok (.aload_n 0, 1) := by decide +kernel
theorem dX12_goBack_14 : decode cX12_goBack 14 = .ok (.getfield 16, 3) := by decide +kernel
theorem dX12_goBack_17 : decode cX12_goBack 17 = .ok (.iload_n 1, 1) := by decide +kernel
theorem dX12_goBack_18 : decode cX12_goBack 18 = .ok (.baload, 1) := by decide +kernel
theorem dX12_goBack_19 : decode cX12_goBack 19 = .ok (.ifCond .ne 7, 3) := by decide +kernel
theorem dX12_goBack_22 : decode cX12_goBack 22 = .ok (.ldc_w 289, 3) := by decide +kernel
theorem dX12_goBack_25 : decode cX12_goBack 25 = .ok (.ireturn, 1) := by decide +kernel
theorem dX12_goBack_26 : decode cX12_goBack 26 = .ok (.aload_n 0, 1) := by decide +kernel
theorem dX12_goBack_27 : decode cX12_goBack 27 = .ok (.bipush 109, 2) := by decide +kernel
theorem dX12_goBack_29 : decode cX12_goBack 29 = .ok (.bipush 109, 2) := by decide +kernel
theorem dX12_goBack_31 : decode cX12_goBack 31 = .ok (.iload_n 1, 1) := by decide +kernel
theorem dX12_goBack_32 : decode cX12_goBack 32 = .ok (.imul, 1) := by decide +kernel
theorem dX12_goBack_33 : decode cX12_goBack 33 = .ok (.iadd, 1) := by decide +kernel
theorem dX12_goBack_34 : decode cX12_goBack 34 = .ok (.iconst 0, 1) := by decide +kernel
theorem dX12_goBack_35 : decode cX12_goBack 35 = .ok (.invokevirtual 51, 3) := by decide +kernel
theorem dX12_goBack_38 : decode cX12_goBack 38 = .ok (.aload_n 0, 1) := by decide +kernel
theorem dX12_goBack_39 : decode cX12_goBack 39 = .ok (.aload_n 0, 1) := by decide +kernel
theorem dX12_goBack_40 : decode cX12_goBack 40 = .ok (.getfield 13, 3) := by decide +kernel
theorem dX12_goBack_43 : decode cX12_goBack 43 = .ok (.iload_n 1, 1) := by decide +kernel
theorem dX12_goBack_44 : decode cX12_goBack 44 = .ok (.iaload, 1) := by decide +kernel
theorem dX12_goBack_45 : decode cX12_goBack 45 = .ok (.putfield 236, 3) := by decide +kernel
theorem dX12_goBack_48 : decode cX12_goBack 48 = .ok (.aload_n 0, 1) := by decide +kernel
theorem dX12_goBack_49 : decode cX12_goBack 49 = .ok (.iconst 0, 1) := by decide +kernel
theorem dX12_goBack_50 : decode cX12_goBack 50 = .ok (.putfield 48, 3) := by decide +kernel
theorem dX12_goBack_53 : decode cX12_goBack 53 = .ok (.iconst 1, 1) := by decide +kernel
theorem dX12_goBack_54 : decode cX12_goBack 54 = .ok (.ireturn, 1) := by decide +kernel
theorem dJ6_bitCount_0f7a4_0 : decode cJ6_bitCount_0f7a4 0 = .ok (.iload_n 0, 1) := by decide +kernel
theorem dJ6_bitCount_0f7a4_1 : decode cJ6_bitCount_0f7a4 1 = .ok (.iload_n 0, 1) := by decide +kernel
theorem dJ6_bitCount_0f7a4_2 : decode cJ6_bitCount_0f7a4 2 = .ok (.iconst 1, 1) := by decide +kernel
theorem dJ6_bitCount_0f7a4_3 : decode cJ6_bitCount_0f7a4 3 = .ok (.iushr, 1) := by decide +kernel
theorem dJ6_bitCount_0f7a4_4 : decode cJ6_bitCount_0f7a4 4 = .ok (.ldc_w 265, 3) := by decide +kernel
theorem dJ6_bitCount_0f7a4_7 : decode cJ6_bitCount_0f7a4 7 = .ok (.iand, 1) := by decide +kernel
theorem dJ6_bitCount_0f7a4_8 : decode cJ6_bitCount_0f7a4 8 = .ok (.isub, 1) := by decide +kernel
theorem dJ6_bitCount_0f7a4_9 : decode cJ6_bitCount_0f7a4 9 = .ok (.istore_n 0, 1) := by decide +kernel
theorem dJ6_bitCount_0f7a4_10 : decode cJ6_bitCount_0f7a4 10 = .ok (.iload_n 0, 1) := by decide +kernel
theorem dJ6_bitCount_0f7a4_11 : decode cJ6_bitCount_0f7a4 11 = .ok (.ldc_w 266, 3) := by decide +kernel
theorem dJ6_bitCount_0f7a4_14 : decode cJ6_bitCount_0f7a4 14 = .ok (.iand, 1) := by decide +kernel
theorem dJ6_bitCount_0f7a4_15 : decode cJ6_bitCount_0f7a4 15 = .ok (.iload_n 0, 1) := by decide +kernel
theorem dJ6_bitCount_0f7a4_16 : decode cJ6_bitCount_0f7a4 16 = .ok (.iconst 2, 1) := by decide +kernel
theorem dJ6_bitCount_0f7a4_17 : decode cJ6_bitCount_0f7a4 17 = .ok (.iushr, 1) := by decide +kernel
theorem dJ6_bitCount_0f7a4_18 : decode cJ6_bitCount_0f7a4 18 = .ok (.ldc_w 266, 3) := by decide +kernel
theorem dJ6_bitCount_0f7a4_21 : decode cJ6_bitCount_0f7a4 21 = .ok (.iand, 1) := by decide +kernel
theorem dJ6_bitCount_0f7a4_22 : decode cJ6_bitCount_0f7a4 22 = .ok (.iadd, 1) := by decide +kernel
theorem dJ6_bitCount_0f7a4_23 : decode cJ6_bitCount_0f7a4 23 = .ok (.istore_n 0, 1) := by decide +kernel
theorem dJ6_bitCount_0f7a4_24 : decode cJ6_bitCount_0f7a4 24 = .ok (.iload_n 0, 1) := by decide +kernel
theorem dJ6_bitCount_0f7a4_25 : decode cJ6_bitCount_0f7a4 25 = .ok (.iload_n 0, 1) := by decide +kernel
theorem dJ6_bitCount_0f7a4_26 : decode cJ6_bitCount_0f7a4 26 = .ok (.iconst 4, 1) := by decide +kernel
theorem dJ6_bitCount_0f7a4_27 : decode cJ6_bitCount_0f7a4 27 = .ok (.iushr, 1) := by decide +kernel
theorem dJ6_bitCount_0f7a4_28 : decode cJ6_bitCount_0f7a4 28 = .ok (.iadd, 1) := by decide +kernel
theorem dJ6_bitCount_0f7a4_29 : decode cJ6_bitCount_0f7a4 29 = .ok (.ldc_w 267, 3) := by decide +kernel
theorem dJ6_bitCount_0f7a4_32 : decode cJ6_bitCount_0f7a4 32 = .ok (.iand, 1) := by decide +kernel
theorem dJ6_bitCount_0f7a4_33 : decode cJ6_bitCount_0f7a4 33 = .ok (.istore_n 0, 1) := by decide +kernel
theorem dJ6_bitCount_0f7a4_34 : decode cJ6_bitCount_0f7a4 34 = .ok (.iload_n 0, 1) := by decide +kernel
theorem dJ6_bitCount_0f7a4_35 : decode cJ6_bitCount_0f7a4 35 = .ok (.iload_n 0, 1) := by decide +kernel
theorem dJ6_bitCount_0f7a4_36 : decode cJ6_bitCount_0f7a4 36 = .ok (.bipush 8, 2) := by decide +kernel
theorem dJ6_bitCount_0f7a4_38 : decode cJ6_bitCount_0f7a4 38 = .ok (.iushr, 1) := by decide +kernel
theorem dJ6_bitCount_0f7a4_39 : decode cJ6_bitCount_0f7a4 39 = .ok (.iadd, 1) := by decide +kernel
theorem dJ6_bitCount_0f7a4_40 : decode cJ6_bitCount_0f7a4 40 = .ok (.istore_n 0, 1) := by decide +kernel
theorem dJ6_bitCount_0f7a4_41 : decode cJ6_bitCount_0f7a4 41 = .ok (.iload_n 0, 1) := by decide +kernel
theorem dJ6_bitCount_0f7a4_42 : decode cJ6_bitCount_0f7a4 42 = .ok (.iload_n 0, 1) := by decide +kernel
theorem dJ6_bitCount_0f7a4_43 : decode cJ6_bitCount_0f7a4 43 = .ok (.bipush 16, 2) := by decide +kernel
theorem dJ6_bitCount_0f7a4_45 : decode cJ6_bitCount_0f7a4 45 = .ok (.iushr, 1) := by decide +kernel
theorem dJ6_bitCount_0f7a4_46 : decode cJ6_bitCount_0f7a4 46 = .ok (.iadd, 1) := by decide +kernel
theorem dJ6_bitCount_0f7a4_47 : decode cJ6_bitCount_0f7a4 47 = .ok (.istore_n 0, 1) := by decide +kernel
theorem dJ6_bitCount_0f7a4_48 : decode cJ6_bitCount_0f7a4 48 = .ok (.iload_n 0, 1) := by decide +kernel
theorem dJ6_bitCount_0f7a4_49 : decode cJ6_bitCount_0f7a4 49 = .ok (.bipush 63, 2) := by decide +kernel
theorem dJ6_bitCount_0f7a4_51 : decode cJ6_bitCount_0f7a4 51 = .ok (.iand, 1) := by decide +kernel
theorem dJ6_bitCount_0f7a4_52 : decode cJ6_bitCount_0f7a4 52 = .ok (.ireturn, 1) := by decide +kernel
theorem dJ9_floorMod_7cf53_0 : decode cJ9_floorMod_7cf53 0 = .ok (.iload_n 0, 1) := by decide +kernel
theorem dJ9_floorMod_7cf53_1 : decode cJ9_floorMod_7cf53 1 = .ok (.iload_n 1, 1) := by decide +kernel
theorem dJ9_floorMod_7cf53_2 : decode cJ9_floorMod_7cf53 2 = .ok (.irem, 1) := by decide +kernel
theorem dJ9_floorMod_7cf53_3 : decode cJ9_floorMod_7cf53 3 = .ok (.istore_n 2, 1) := by decide +kernel
theorem dJ9_floorMod_7cf53_4 : decode cJ9_floorMod_7cf53 4 = .ok (.iload_n 0, 1) := by decide +kernel
theorem dJ9_floorMod_7cf53_5 : decode cJ9_floorMod_7cf53 5 = .ok (.iload_n 1, 1) := by decide +kernel
theorem dJ9_floorMod_7cf53_6 : decode cJ9_floorMod_7cf53 6 = .ok (.ixor, 1) := by decide +kernel
theorem dJ9_floorMod_7cf53_7 : decode cJ9_floorMod_7cf53 7 = .ok (.ifCond .ge 11, 3) := by decide +kernel
theorem dJ9_floorMod_7cf53_10 : decode cJ9_floorMod_7cf53 10 = .ok (.iload_n 2, 1) := by decide +kernel
theorem dJ9_floorMod_7cf53_11 : decode cJ9_floorMod_7cf53 11 = .ok (.ifCond .eq 7, 3) := by decide +kernel
theorem dJ9_floorMod_7cf53_14 : decode cJ9_floorMod_7cf53 14 = .ok (.iload_n 2, 1) := by decide +kernel
theorem dJ9_floorMod_7cf53_15 : decode cJ9_floorMod_7cf53 15 = .ok (.iload_n 1, 1) := by decide +kernel
theorem dJ9_floorMod_7cf53_16 : decode cJ9_floorMod_7cf53 16 = .ok (.iadd, 1) := by decide +kernel
theorem dJ9_floorMod_7cf53_17 : decode cJ9_floorMod_7cf53 17 = .ok (.ireturn, 1) := by decide +kernel
theorem dJ9_floorMod_7cf53_18 : decode cJ9_floorMod_7cf53 18 = .ok (.iload_n 2, 1) := by decide +kernel
theorem dJ9_floorMod_7cf53_19 : decode cJ9_floorMod_7cf53 19 = .ok (.ireturn, 1) := by decide +kernel
theorem dJ9_max_7cf53_0 : decode cJ9_max_7cf53 0 = .ok (.iload_n 0, 1) := by decide +kernel
theorem dJ9_max_7cf53_1 : decode cJ9_max_7cf53 1 = .ok (.iload_n 1, 1) := by decide +kernel
theorem dJ9_max_7cf53_2 : decode cJ9_max_7cf53 2 = .ok (.if_icmp .lt 7, 3) := by decide +kernel
theorem dJ9_max_7cf53_5 : decode cJ9_max_7cf53 5 = .ok (.iload_n 0, 1) := by decide +kernel
theorem dJ9_max_7cf53_6 : decode cJ9_max_7cf53 6 = .ok (.goto 4, 3) := by decide +kernel
theorem dJ9_max_7cf53_9 : decode cJ9_max_7cf53 9 = .ok (.iload_n 1, 1) := by decide +kernel
theorem dJ9_max_7cf53_10 : decode cJ9_max_7cf53 10 = .ok (.ireturn, 1) := by decide +kernel
theorem dJ9_min_7cf53_0 : decode cJ9_min_7cf53 0 = .ok (.iload_n 0, 1) := by decide +kernel
theorem dJ9_min_7cf53_1 : decode cJ9_min_7cf53 1 = .ok (.iload_n 1, 1) := by decide +kernel
theorem dJ9_min_7cf53_2 : decode cJ9_min_7cf53 2 = .ok (.if_icmp .gt 7, 3) := by decide +kernel
theorem dJ9_min_7cf53_5 : decode cJ9_min_7cf53 5 = .ok (.iload_n 0, 1) := by decide +kernel
theorem dJ9_min_7cf53_6 : decode cJ9_min_7cf53 6 = .ok (.goto 4, 3) := by decide +kernel
theorem dJ9_min_7cf53_9 : decode cJ9_min_7cf53 9 = .ok (.iload_n 1, 1) := by decide +kernel
theorem dJ9_min_7cf53_10 : decode cJ9_min_7cf53 10 = .ok (.ireturn, 1) := by decide +kernel
theorem dJ9_min_f86c9_0 : decode cJ9_min_f86c9 0 = .ok (.lload_n 0, 1) := by decide +kernel
theorem dJ9_min_f86c9_1 : decode cJ9_min_f86c9 1 = .ok (.lload_n 2, 1) := by decide +kernel
theorem dJ9_min_f86c9_2 : decode cJ9_min_f86c9 2 = .ok (.lcmp, 1) := by decide +kernel
theorem dJ9_min_f86c9_3 : decode cJ9_min_f86c9 3 = .ok (.ifCond .gt 7, 3) := by decide +kernel
theorem dJ9_min_f86c9_6 : decode cJ9_min_f86c9 6 = .ok (.lload_n 0, 1) := by decide +kernel
theorem dJ9_min_f86c9_7 : decode cJ9_min_f86c9 7 = .ok (.goto 4, 3) := by decide +kernel
theorem dJ9_min_f86c9_10 : decode cJ9_min_f86c9 10 = .ok (.lload_n 2, 1) := by decide +kernel
theorem dJ9_min_f86c9_11 : decode cJ9_min_f86c9 11 = .ok (.lreturn, 1) := by decide +kernel
theorem dL_law_0 : decode cL_law 0 = .ok (.new 7, 3) := by decide +kernel
theorem dL_law_3 : decode cL_law 3 = .ok (.dup, 1) := by decide +kernel
theorem dL_law_4 : decode cL_law 4 = .ok (.invokespecial 9, 3) := by decide +kernel
theorem dL_law_7 : decode cL_law 7 = .ok (.astore_n 1, 1) := by decide +kernel
theorem dL_law_8 : decode cL_law 8 = .ok (.new 10, 3) := by decide +kernel
theorem dL_law_11 : decode cL_law 11 = .ok (.dup, 1) := by decide +kernel
theorem dL_law_12 : decode cL_law 12 = .ok (.invokespecial 12, 3) := by decide +kernel
theorem dL_law_15 : decode cL_law 15 = .ok (.astore_n 2, 1) := by decide +kernel
theorem dL_law_16 : decode cL_law 16 = .ok (.iconst 0, 1) := by decide +kernel
theorem dL_law_17 : decode cL_law 17 = .ok (.istore_n 3, 1) := by decide +kernel
theorem dL_law_18 : decode cL_law 18 = .ok (.iload_n 3, 1) := by decide +kernel
theorem dL_law_19 : decode cL_law 19 = .ok (.aload_n 0, 1) := by decide +kernel
theorem dL_law_20 : decode cL_law 20 = .ok (.arraylength, 1) := by decide +kernel
theorem dL_law_21 : decode cL_law 21 = .ok (.iconst 5, 1) := by decide +kernel
theorem dL_law_22 : decode cL_law 22 = .ok (.isub, 1) := by decide +kernel
theorem dL_law_23 : decode cL_law 23 = .ok (.if_icmp .gt 1078, 3) := by decide +kernel
theorem dL_law_26 : decode cL_law 26 = .ok (.aload_n 0, 1) := by decide +kernel
theorem dL_law_27 : decode cL_law 27 = .ok (.iload_n 3, 1) := by decide +kernel
theorem dL_law_28 : decode cL_law 28 = .ok (.iaload, 1) := by decide +kernel
theorem dL_law_29 : decode cL_law 29 = .ok (.bipush 31, 2) := by decide +kernel
theorem dL_law_31 : decode cL_law 31 = .ok (.iand, 1) := by decide +kernel
theorem dL_law_32 : decode cL_law 32 = .ok (.tableswitch 1063 0 29 #[136, 159, 172, 185, 208, 241, 265, 298, 341, 384, 417, 450, 483, 516, 539, 598, 631, 664, 717, 760, 813, 846, 879, 902, 925, 948, 981, 994, 1017, 1040], 136) := by decide +kernel
theorem dL_law_168 : decode cL_law 168 = .ok (.aload_n 1, 1) := by decide +kernel
theorem dL_law_169 : decode cL_law 169 = .ok (.aload_n 0, 1) := by decide +kernel
theorem dL_law_170 : decode cL_law 170 = .ok (.iload_n 3, 1) := by decide +kernel
theorem dL_law_171 : decode cL_law 171 = .ok (.iconst 1, 1) := by decide +kernel
theorem dL_law_172 : decode cL_law 172 = .ok (.iadd, 1) := by decide +kernel
theorem dL_law_173 : decode cL_law 173 = .ok (.iaload, 1) := by decide +kernel
theorem dL_law_174 : decode cL_law 174 = .ok (.invokevirtual 13, 3) := by decide +kernel
theorem dL_law_177 : decode cL_law 177 = .ok (.aload_n 2, 1) := by decide +kernel
theorem dL_law_178 : decode cL_law 178 = .ok (.aload_n 0, 1) := by decide +kernel
theorem dL_law_179 : decode cL_law 179 = .ok (.iload_n 3, 1) := by decide +kernel
theorem dL_law_180 : decode cL_law 180 = .ok (.iconst 1, 1) := by decide +kernel
theorem dL_law_181 : decode cL_law 181 = .ok (.iadd, 1) := by decide +kernel
theorem dL_law_182 : decode cL_law 182 = .ok (.iaload, 1) := by decide +kernel
theorem dL_law_183 : decode cL_law 183 = .ok (.invokevirtual 17, 3) := by decide +kernel
theorem dL_law_186 : decode cL_law 186 = .ok (.if_icmp .eq 909, 3) := by decide +kernel
theorem dL_law_189 : decode cL_law 189 = .ok (.iconst 0, 1) := by decide +kernel
theorem dL_law_190 : decode cL_law 190 = .ok (.ireturn, 1) := by decide +kernel
theorem dL_law_191 : decode cL_law 191 = .ok (.aload_n 1, 1) := by decide +kernel
theorem dL_law_192 : decode cL_law 192 = .ok (.invokevirtual 18, 3) := by decide +kernel
theorem dL_law_195 : decode cL_law 195 = .ok (.aload_n 2, 1) := by decide +kernel
theorem dL_law_196 : decode cL_law 196 = .ok (.invokevirtual 22, 3) := by decide +kernel
theorem dL_law_199 : decode cL_law 199 = .ok (.if_icmp .eq 896, 3) := by decide +kernel
theorem dL_law_202 : decode cL_law 202 = .ok (.iconst 0, 1) := by decide +kernel
theorem dL_law_203 : decode cL_law 203 = .ok (.ireturn, 1) := by decide +kernel
theorem dL_law_204 : decode cL_law 204 = .ok (.aload_n 1, 1) := by decide +kernel
theorem dL_law_205 : decode cL_law 205 = .ok (.invokevirtual 23, 3) := by decide +kernel
theorem dL_law_208 : decode cL_law 208 = .ok (.aload_n 2, 1) := by decide +kernel
theorem dL_law_209 : decode cL_law 209 = .ok (.invokevirtual 26, 3) := by decide +kernel
theorem dL_law_212 : decode cL_law 212 = .ok (.if_icmp .eq 883, 3) := by decide +kernel
theorem dL_law_215 : decode cL_law 215 = .ok (.iconst 0, 1) := by decide +kernel
theorem dL_law_216 : decode cL_law 216 = .ok (.ireturn, 1) := by decide +kernel
theorem dL_law_217 : decode cL_law 217 = .ok (.aload_n 1, 1) := by decide +kernel
theorem dL_law_218 : decode cL_law 218 = .ok (.aload_n 0, 1) := by decide +kernel
theorem dL_law_219 : decode cL_law 219 = .ok (.iload_n 3, 1) := by decide +kernel
theorem dL_law_220 : decode cL_law 220 = .ok (.iconst 1, 1) := by decide +kernel
theorem dL_law_221 : decode cL_law 221 = .ok (.iadd, 1) := by decide +kernel
theorem dL_law_222 : decode cL_law 222 = .ok (.iaload, 1) := by decide +kernel
theorem dL_law_223 : decode cL_law 223 = .ok (.invokevirtual 27, 3) := by decide +kernel
theorem dL_law_226 : decode cL_law 226 = .ok (.aload_n 2, 1) := by decide +kernel
theorem dL_law_227 : decode cL_law 227 = .ok (.aload_n 0, 1) := by decide +kernel
theorem dL_law_228 : decode cL_law 228 = .ok (.iload_n 3, 1) := by decide +kernel
theorem dL_law_229 : decode cL_law 229 = .ok (.iconst 1, 1) := by decide +kernel
theorem dL_law_230 : decode cL_law 230 = .ok (.iadd, 1) := by decide +kernel
theorem dL_law_231 : decode cL_law 231 = .ok (.iaload, 1) := by decide +kernel
theorem dL_law_232 : decode cL_law 232 = .ok (.invokevirtual 30, 3) := by decide +kernel
theorem dL_law_235 : decode cL_law 235 = .ok (.if_icmp .eq 860, 3) := by decide +kernel
theorem dL_law_238 : decode cL_law 238 = .ok (.iconst 0, 1) := by decide +kernel
theorem dL_law_239 : decode cL_law 239 = .ok (.ireturn, 1) := by decide +kernel
theorem dL_law_240 : decode cL_law 240 = .ok (.aload_n 1, 1) := by decide +kernel
theorem dL_law_241 : decode cL_law 241 = .ok (.aload_n 0, 1) := by decide +kernel
theorem dL_law_242 : decode cL_law 242 = .ok (.iload_n 3, 1) := by decide +kernel
theorem dL_law_243 : decode cL_law 243 = .ok (.iconst 1, 1) := by decide +kernel
theorem dL_law_244 : decode cL_law 244 = .ok (.iadd, 1) := by decide +kernel
theorem dL_law_245 : decode cL_law 245 = .ok (.iaload, 1) := by decide +kernel
theorem dL_law_246 : decode cL_law 246 = .ok (.aload_n 0, 1) := by decide +kernel
theorem dL_law_247 : decode cL_law 247 = .ok (.iload_n 3, 1) := by decide +kernel
theorem dL_law_248 : decode cL_law 248 = .ok (.iconst 2, 1) := by decide +kernel
theorem dL_law_249 : decode cL_law 249 = .ok (.iadd, 1) := by decide +kernel
theorem dL_law_250 : decode cL_law 250 = .ok (.iaload, 1) := by decide +kernel
theorem dL_law_251 : decode cL_law 251 = .ok (.invokevirtual 31, 3) := by decide +kernel
theorem dL_law_254 : decode cL_law 254 = .ok (.aload_n 2, 1) := by decide +kernel
theorem dL_law_255 : decode cL_law 255 = .ok (.aload_n 0, 1) := by decide +kernel
theorem dL_law_256 : decode cL_law 256 = .ok (.iload_n 3, 1) := by decide +kernel
theorem dL_law_257 : decode cL_law 257 = .ok (.iconst 1, 1) := by decide +kernel
theorem dL_law_258 : decode cL_law 258 = .ok (.iadd, 1) := by decide +kernel
theorem dL_law_259 : decode cL_law 259 = .ok (.iaload, 1) := by decide +kernel
theorem dL_law_260 : decode cL_law 260 = .ok (.aload_n 0, 1) := by decide +kernel
theorem dL_law_261 : decode cL_law 261 = .ok (.iload_n 3, 1) := by decide +kernel
theorem dL_law_262 : decode cL_law 262 = .ok (.iconst 2, 1) := by decide +kernel
theorem dL_law_263 : decode cL_law 263 = .ok (.iadd, 1) := by decide +kernel
theorem dL_law_264 : decode cL_law 264 = .ok (.iaload, 1) := by decide +kernel
theorem dL_law_265 : decode cL_law 265 = .ok (.invokevirtual 35, 3) := by decide +kernel
theorem dL_law_268 : decode cL_law 268 = .ok (.if_icmp .eq 827, 3) := by decide +kernel
theorem dL_law_271 : decode cL_law 271 = .ok (.iconst 0, 1) := by decide +kernel
theorem dL_law_272 : decode cL_law 272 = .ok (.ireturn, 1) := by decide +kernel
theorem dL_law_273 : decode cL_law 273 = .ok (.aload_n 1, 1) := by decide +kernel
theorem dL_law_274 : decode cL_law 274 = .ok (.aload_n 0, 1) := by decide +kernel
theorem dL_law_275 : decode cL_law 275 = .ok (.iload_n 3, 1) := by decide +kernel
theorem dL_law_276 : decode cL_law 276 = .ok (.iconst 1, 1) := by decide +kernel
theorem dL_law_277 : decode cL_law 277 = .ok (.iadd, 1) := by decide +kernel
theorem dL_law_278 : decode cL_law 278 = .ok (.iaload, 1) := by decide +kernel
theorem dL_law_279 : decode cL_law 279 = .ok (.invokevirtual 36, 3) := by decide +kernel
theorem dL_law_282 : decode cL_law 282 = .ok (.aload_n 2, 1) := by decide +kernel
theorem dL_law_283 : decode cL_law 283 = .ok (.aload_n 0, 1) := by decide +kernel
theorem dL_law_284 : decode cL_law 284 = .ok (.iload_n 3, 1) := by decide +kernel
theorem dL_law_285 : decode cL_law 285 = .ok (.iconst 1, 1) := by decide +kernel
theorem dL_law_286 : decode cL_law 286 = .ok (.iadd, 1) := by decide +kernel
theorem dL_law_287 : decode cL_law 287 = .ok (.iaload, 1) := by decide +kernel
theorem dL_law_288 : decode cL_law 288 = .ok (.invokevirtual 40, 3) := by decide +kernel
theorem dL_law_291 : decode cL_law 291 = .ok (.lcmp, 1) := by decide +kernel
theorem dL_law_292 : decode cL_law 292 = .ok (.ifCond .eq 803, 3) := by decide +kernel
theorem dL_law_295 : decode cL_law 295 = .ok (.iconst 0, 1) := by decide +kernel
theorem dL_law_296 : decode cL_law 296 = .ok (.ireturn, 1) := by decide +kernel
theorem dL_law_297 : decode cL_law 297 = .ok (.aload_n 1, 1) := by decide +kernel
theorem dL_law_298 : decode cL_law 298 = .ok (.aload_n 0, 1) := by decide +kernel
theorem dL_law_299 : decode cL_law 299 = .ok (.iload_n 3, 1) := by decide +kernel
theorem dL_law_300 : decode cL_law 300 = .ok (.iconst 1, 1) := by decide +kernel
theorem dL_law_301 : decode cL_law 301 = .ok (.iadd, 1) := by decide +kernel
theorem dL_law_302 : decode cL_law 302 = .ok (.iaload, 1) := by decide +kernel
theorem dL_law_303 : decode cL_law 303 = .ok (.aload_n 0, 1) := by decide +kernel
theorem dL_law_304 : decode cL_law 304 = .ok (.iload_n 3, 1) := by decide +kernel
theorem dL_law_305 : decode cL_law 305 = .ok (.iconst 2, 1) := by decide +kernel
theorem dL_law_306 : decode cL_law 306 = .ok (.iadd, 1) := by decide +kernel
theorem dL_law_307 : decode cL_law 307 = .ok (.iaload, 1) := by decide +kernel
theorem dL_law_308 : decode cL_law 308 = .ok (.invokevirtual 41, 3) := by decide +kernel
theorem dL_law_311 : decode cL_law 311 = .ok (.aload_n 2, 1) := by decide +kernel
theorem dL_law_312 : decode cL_law 312 = .ok (.aload_n 0, 1) := by decide +kernel
theorem dL_law_313 : decode cL_law 313 = .ok (.iload_n 3, 1) := by decide +kernel
theorem dL_law_314 : decode cL_law 314 = .ok (.iconst 1, 1) := by decide +kernel
theorem dL_law_315 : decode cL_law 315 = .ok (.iadd, 1) := by decide +kernel
theorem dL_law_316 : decode cL_law 316 = .ok (.iaload, 1) := by decide +kernel
theorem dL_law_317 : decode cL_law 317 = .ok (.aload_n 0, 1) := by decide +kernel
theorem dL_law_318 : decode cL_law 318 = .ok (.iload_n 3, 1) := by decide +kernel
theorem dL_law_319 : decode cL_law 319 = .ok (.iconst 2, 1) := by decide +kernel
theorem dL_law_320 : decode cL_law 320 = .ok (.iadd, 1) := by decide +kernel
theorem dL_law_321 : decode cL_law 321 = .ok (.iaload, 1) := by decide +kernel
theorem dL_law_322 : decode cL_law 322 = .ok (.invokevirtual 44, 3) := by decide +kernel
theorem dL_law_325 : decode cL_law 325 = .ok (.if_icmp .eq 770, 3) := by decide +kernel
theorem dL_law_328 : decode cL_law 328 = .ok (.iconst 0, 1) := by decide +kernel
theorem dL_law_329 : decode cL_law 329 = .ok (.ireturn, 1) := by decide +kernel
theorem dL_law_330 : decode cL_law 330 = .ok (.aload_n 1, 1) := by decide +kernel
theorem dL_law_331 : decode cL_law 331 = .ok (.aload_n 0, 1) := by decide +kernel
theorem dL_law_332 : decode cL_law 332 = .ok (.iload_n 3, 1) := by decide +kernel
theorem dL_law_333 : decode cL_law 333 = .ok (.iconst 1, 1) := by decide +kernel
theorem dL_law_334 : decode cL_law 334 = .ok (.iadd, 1) := by decide +kernel
theorem dL_law_335 : decode cL_law 335 = .ok (.iaload, 1) := by decide +kernel
theorem dL_law_336 : decode cL_law 336 = .ok (.aload_n 0, 1) := by decide +kernel
theorem dL_law_337 : decode cL_law 337 = .ok (.iload_n 3, 1) := by decide +kernel
theorem dL_law_338 : decode cL_law 338 = .ok (.iconst 2, 1) := by decide +kernel
theorem dL_law_339 : decode cL_law 339 = .ok (.iadd, 1) := by decide +kernel
theorem dL_law_340 : decode cL_law 340 = .ok (.iaload, 1) := by decide +kernel
theorem dL_law_341 : decode cL_law 341 = .ok (.aload_n 0, 1) := by decide +kernel
theorem dL_law_342 : decode cL_law 342 = .ok (.iload_n 3, 1) := by decide +kernel
theorem dL_law_343 : decode cL_law 343 = .ok (.iconst 3, 1) := by decide +kernel
theorem dL_law_344 : decode cL_law 344 = .ok (.iadd, 1) := by decide +kernel
theorem dL_law_345 : decode cL_law 345 = .ok (.iaload, 1) := by decide +kernel
theorem dL_law_346 : decode cL_law 346 = .ok (.invokevirtual 45, 3) := by decide +kernel
theorem dL_law_349 : decode cL_law 349 = .ok (.aload_n 2, 1) := by decide +kernel
theorem dL_law_350 : decode cL_law 350 = .ok (.aload_n 0, 1) := by decide +kernel
theorem dL_law_351 : decode cL_law 351 = .ok (.iload_n 3, 1) := by decide +kernel
theorem dL_law_352 : decode cL_law 352 = .ok (.iconst 1, 1) := by decide +kernel
theorem dL_law_353 : decode cL_law 353 = .ok (.iadd, 1) := by decide +kernel
theorem dL_law_354 : decode cL_law 354 = .ok (.iaload, 1) := by decide +kernel
theorem dL_law_355 : decode cL_law 355 = .ok (.aload_n 0, 1) := by decide +kernel
theorem dL_law_356 : decode cL_law 356 = .ok (.iload_n 3, 1) := by decide +kernel
theorem dL_law_357 : decode cL_law 357 = .ok (.iconst 2, 1) := by decide +kernel
theorem dL_law_358 : decode cL_law 358 = .ok (.iadd, 1) := by decide +kernel
theorem dL_law_359 : decode cL_law 359 = .ok (.iaload, 1) := by decide +kernel
theorem dL_law_360 : decode cL_law 360 = .ok (.aload_n 0, 1) := by decide +kernel
theorem dL_law_361 : decode cL_law 361 = .ok (.iload_n 3, 1) := by decide +kernel
theorem dL_law_362 : decode cL_law 362 = .ok (.iconst 3, 1) := by decide +kernel
theorem dL_law_363 : decode cL_law 363 = .ok (.iadd, 1) := by decide +kernel
theorem dL_law_364 : decode cL_law 364 = .ok (.iaload, 1) := by decide +kernel
theorem dL_law_365 : decode cL_law 365 = .ok (.invokevirtual 49, 3) := by decide +kernel
theorem dL_law_368 : decode cL_law 368 = .ok (.if_icmp .eq 727, 3) := by decide +kernel
theorem dL_law_371 : decode cL_law 371 = .ok (.iconst 0, 1) := by decide +kernel
theorem dL_law_372 : decode cL_law 372 = .ok (.ireturn, 1) := by decide +kernel
theorem dL_law_373 : decode cL_law 373 = .ok (.aload_n 1, 1) := by decide +kernel
theorem dL_law_374 : decode cL_law 374 = .ok (.aload_n 0, 1) := by decide +kernel
theorem dL_law_375 : decode cL_law 375 = .ok (.iload_n 3, 1) := by decide +kernel
theorem dL_law_376 : decode cL_law 376 = .ok (.iconst 1, 1) := by decide +kernel
theorem dL_law_377 : decode cL_law 377 = .ok (.iadd, 1) := by decide +kernel
theorem dL_law_378 : decode cL_law 378 = .ok (.iaload, 1) := by decide +kernel
theorem dL_law_379 : decode cL_law 379 = .ok (.aload_n 0, 1) := by decide +kernel
theorem dL_law_380 : decode cL_law 380 = .ok (.iload_n 3, 1) := by decide +kernel
theorem dL_law_381 : decode cL_law 381 = .ok (.iconst 2, 1) := by decide +kernel
theorem dL_law_382 : decode cL_law 382 = .ok (.iadd, 1) := by decide +kernel
theorem dL_law_383 : decode cL_law 383 = .ok (.iaload, 1) := by decide +kernel
theorem dL_law_384 : decode cL_law 384 = .ok (.aload_n 0, 1) := by decide +kernel
theorem dL_law_385 : decode cL_law 385 = .ok (.iload_n 3, 1) := by decide +kernel
theorem dL_law_386 : decode cL_law 386 = .ok (.iconst 3, 1) := by decide +kernel
theorem dL_law_387 : decode cL_law 387 = .ok (.iadd, 1) := by decide +kernel
theorem dL_law_388 : decode cL_law 388 = .ok (.iaload, 1) := by decide +kernel
theorem dL_law_389 : decode cL_law 389 = .ok (.invokevirtual 50, 3) := by decide +kernel
theorem dL_law_392 : decode cL_law 392 = .ok (.aload_n 2, 1) := by decide +kernel
theorem dL_law_393 : decode cL_law 393 = .ok (.aload_n 0, 1) := by decide +kernel
theorem dL_law_394 : decode cL_law 394 = .ok (.iload_n 3, 1) := by decide +kernel
theorem dL_law_395 : decode cL_law 395 = .ok (.iconst 1, 1) := by decide +kernel
theorem dL_law_396 : decode cL_law 396 = .ok (.iadd, 1) := by decide +kernel
theorem dL_law_397 : decode cL_law 397 = .ok (.iaload, 1) := by decide +kernel
theorem dL_law_398 : decode cL_law 398 = .ok (.aload_n 0, 1) := by decide +kernel
theorem dL_law_399 : decode cL_law 399 = .ok (.iload_n 3, 1) := by decide +kernel
theorem dL_law_400 : decode cL_law 400 = .ok (.iconst 2, 1) := by decide +kernel
theorem dL_law_401 : decode cL_law 401 = .ok (.iadd, 1) := by decide +kernel
theorem dL_law_402 : decode cL_law 402 = .ok (.iaload, 1) := by decide +kernel
theorem dL_law_403 : decode cL_law 403 = .ok (.aload_n 0, 1) := by decide +kernel
theorem dL_law_404 : decode cL_law 404 = .ok (.iload_n 3, 1) := by decide +kernel
theorem dL_law_405 : decode cL_law 405 = .ok (.iconst 3, 1) := by decide +kernel
theorem dL_law_406 : decode cL_law 406 = .ok (.iadd, 1) := by decide +kernel
theorem dL_law_407 : decode cL_law 407 = .ok (.iaload, 1) := by decide +kernel
theorem dL_law_408 : decode cL_law 408 = .ok (.invokevirtual 53, 3) := by decide +kernel
theorem dL_law_411 : decode cL_law 411 = .ok (.if_icmp .eq 684, 3) := by decide +kernel
theorem dL_law_414 : decode cL_law 414 = .ok (.iconst 0, 1) := by decide +kernel
theorem dL_law_415 : decode cL_law 415 = .ok (.ireturn, 1) := by decide +kernel
theorem dL_law_416 : decode cL_law 416 = .ok (.aload_n 1, 1) := by decide +kernel
theorem dL_law_417 : decode cL_law 417 = .ok (.aload_n 0, 1) := by decide +kernel
theorem dL_law_418 : decode cL_law 418 = .ok (.iload_n 3, 1) := by decide +kernel
theorem dL_law_419 : decode cL_law 419 = .ok (.iconst 1, 1) := by decide +kernel
theorem dL_law_420 : decode cL_law 420 = .ok (.iadd, 1) := by decide +kernel
theorem dL_law_421 : decode cL_law 421 = .ok (.iaload, 1) := by decide +kernel
theorem dL_law_422 : decode cL_law 422 = .ok (.aload_n 0, 1) := by decide +kernel
theorem dL_law_423 : decode cL_law 423 = .ok (.iload_n 3, 1) := by decide +kernel
theorem dL_law_424 : decode cL_law 424 = .ok (.iconst 2, 1) := by decide +kernel
theorem dL_law_425 : decode cL_law 425 = .ok (.iadd, 1) := by decide +kernel
theorem dL_law_426 : decode cL_law 426 = .ok (.iaload, 1) := by decide +kernel
theorem dL_law_427 : decode cL_law 427 = .ok (.invokevirtual 54, 3) := by decide +kernel
theorem dL_law_430 : decode cL_law 430 = .ok (.aload_n 2, 1) := by decide +kernel
theorem dL_law_431 : decode cL_law 431 = .ok (.aload_n 0, 1) := by decide +kernel
theorem dL_law_432 : decode cL_law 432 = .ok (.iload_n 3, 1) := by decide +kernel
theorem dL_law_433 : decode cL_law 433 = .ok (.iconst 1, 1) := by decide +kernel
theorem dL_law_434 : decode cL_law 434 = .ok (.iadd, 1) := by decide +kernel
theorem dL_law_435 : decode cL_law 435 = .ok (.iaload, 1) := by decide +kernel
theorem dL_law_436 : decode cL_law 436 = .ok (.aload_n 0, 1) := by decide +kernel
theorem dL_law_437 : decode cL_law 437 = .ok (.iload_n 3, 1) := by decide +kernel
theorem dL_law_438 : decode cL_law 438 = .ok (.iconst 2, 1) := by decide +kernel
theorem dL_law_439 : decode cL_law 439 = .ok (.iadd, 1) := by decide +kernel
theorem dL_law_440 : decode cL_law 440 = .ok (.iaload, 1) := by decide +kernel
theorem dL_law_441 : decode cL_law 441 = .ok (.invokevirtual 57, 3) := by decide +kernel
theorem dL_law_444 : decode cL_law 444 = .ok (.if_icmp .eq 651, 3) := by decide +kernel
theorem dL_law_447 : decode cL_law 447 = .ok (.iconst 0, 1) := by decide +kernel
theorem dL_law_448 : decode cL_law 448 = .ok (.ireturn, 1) := by decide +kernel
theorem dL_law_449 : decode cL_law 449 = .ok (.aload_n 1, 1) := by decide +kernel
theorem dL_law_450 : decode cL_law 450 = .ok (.aload_n 0, 1) := by decide +kernel
theorem dL_law_451 : decode cL_law 451 = .ok (.iload_n 3, 1) := by decide +kernel
theorem dL_law_452 : decode cL_law 452 = .ok (.iconst 1, 1) := by decide +kernel
theorem dL_law_453 : decode cL_law 453 = .ok (.iadd, 1) := by decide +kernel
theorem dL_law_454 : decode cL_law 454 = .ok (.iaload, 1) := by decide +kernel
theorem dL_law_455 : decode cL_law 455 = .ok (.aload_n 0, 1) := by decide +kernel
theorem dL_law_456 : decode cL_law 456 = .ok (.iload_n 3, 1) := by decide +kernel
theorem dL_law_457 : decode cL_law 457 = .ok (.iconst 2, 1) := by decide +kernel
theorem dL_law_458 : decode cL_law 458 = .ok (.iadd, 1) := by decide +kernel
theorem dL_law_459 : decode cL_law 459 = .ok (.iaload, 1) := by decide +kernel
theorem dL_law_460 : decode cL_law 460 = .ok (.invokevirtual 58, 3) := by decide +kernel
theorem dL_law_463 : decode cL_law 463 = .ok (.aload_n 2, 1) := by decide +kernel
theorem dL_law_464 : decode cL_law 464 = .ok (.aload_n 0, 1) := by decide +kernel
theorem dL_law_465 : decode cL_law 465 = .ok (.iload_n 3, 1) := by decide +kernel
theorem dL_law_466 : decode cL_law 466 = .ok (.iconst 1, 1) := by decide +kernel
theorem dL_law_467 : decode cL_law 467 = .ok (.iadd, 1) := by decide +kernel
theorem dL_law_468 : decode cL_law 468 = .ok (.iaload, 1) := by decide +kernel
theorem dL_law_469 : decode cL_law 469 = .ok (.aload_n 0, 1) := by decide +kernel
theorem dL_law_470 : decode cL_law 470 = .ok (.iload_n 3, 1) := by decide +kernel
theorem dL_law_471 : decode cL_law 471 = .ok (.iconst 2, 1) := by decide +kernel
theorem dL_law_472 : decode cL_law 472 = .ok (.iadd, 1) := by decide +kernel
theorem dL_law_473 : decode cL_law 473 = .ok (.iaload, 1) := by decide +kernel
theorem dL_law_474 : decode cL_law 474 = .ok (.invokevirtual 61, 3) := by decide +kernel
theorem dL_law_477 : decode cL_law 477 = .ok (.if_icmp .eq 618, 3) := by decide +kernel
theorem dL_law_480 : decode cL_law 480 = .ok (.iconst 0, 1) := by decide +kernel
theorem dL_law_481 : decode cL_law 481 = .ok (.ireturn, 1) := by decide +kernel
theorem dL_law_482 : decode cL_law 482 = .ok (.aload_n 1, 1) := by decide +kernel
theorem dL_law_483 : decode cL_law 483 = .ok (.aload_n 0, 1) := by decide +kernel
theorem dL_law_484 : decode cL_law 484 = .ok (.iload_n 3, 1) := by decide +kernel
theorem dL_law_485 : decode cL_law 485 = .ok (.iconst 1, 1) := by decide +kernel
theorem dL_law_486 : decode cL_law 486 = .ok (.iadd, 1) := by decide +kernel
theorem dL_law_487 : decode cL_law 487 = .ok (.iaload, 1) := by decide +kernel
theorem dL_law_488 : decode cL_law 488 = .ok (.aload_n 0, 1) := by decide +kernel
theorem dL_law_489 : decode cL_law 489 = .ok (.iload_n 3, 1) := by decide +kernel
theorem dL_law_490 : decode cL_law 490 = .ok (.iconst 2, 1) := by decide +kernel
theorem dL_law_491 : decode cL_law 491 = .ok (.iadd, 1) := by decide +kernel
theorem dL_law_492 : decode cL_law 492 = .ok (.iaload, 1) := by decide +kernel
theorem dL_law_493 : decode cL_law 493 = .ok (.invokevirtual 62, 3) := by decide +kernel
theorem dL_law_496 : decode cL_law 496 = .ok (.aload_n 2, 1) := by decide +kernel
theorem dL_law_497 : decode cL_law 497 = .ok (.aload_n 0, 1) := by decide +kernel
theorem dL_law_498 : decode cL_law 498 = .ok (.iload_n 3, 1) := by decide +kernel
theorem dL_law_499 : decode cL_law 499 = .ok (.iconst 1, 1) := by decide +kernel
theorem dL_law_500 : decode cL_law 500 = .ok (.iadd, 1) := by decide +kernel
theorem dL_law_501 : decode cL_law 501 = .ok (.iaload, 1) := by decide +kernel
theorem dL_law_502 : decode cL_law 502 = .ok (.aload_n 0, 1) := by decide +kernel
theorem dL_law_503 : decode cL_law 503 = .ok (.iload_n 3, 1) := by decide +kernel
theorem dL_law_504 : decode cL_law 504 = .ok (.iconst 2, 1) := by decide +kernel
theorem dL_law_505 : decode cL_law 505 = .ok (.iadd, 1) := by decide +kernel
theorem dL_law_506 : decode cL_law 506 = .ok (.iaload, 1) := by decide +kernel
theorem dL_law_507 : decode cL_law 507 = .ok (.invokevirtual 65, 3) := by decide +kernel
theorem dL_law_510 : decode cL_law 510 = .ok (.if_icmp .eq 585, 3) := by decide +kernel
theorem dL_law_513 : decode cL_law 513 = .ok (.iconst 0, 1) := by decide +kernel
theorem dL_law_514 : decode cL_law 514 = .ok (.ireturn, 1) := by decide +kernel
theorem dL_law_515 : decode cL_law 515 = .ok (.aload_n 1, 1) := by decide +kernel
theorem dL_law_516 : decode cL_law 516 = .ok (.aload_n 0, 1) := by decide +kernel
theorem dL_law_517 : decode cL_law 517 = .ok (.iload_n 3, 1) := by decide +kernel
theorem dL_law_518 : decode cL_law 518 = .ok (.iconst 1, 1) := by decide +kernel
theorem dL_law_519 : decode cL_law 519 = .ok (.iadd, 1) := by decide +kernel
theorem dL_law_520 : decode cL_law 520 = .ok (.iaload, 1) := by decide +kernel
theorem dL_law_521 : decode cL_law 521 = .ok (.aload_n 0, 1) := by decide +kernel
theorem dL_law_522 : decode cL_law 522 = .ok (.iload_n 3, 1) := by decide +kernel
theorem dL_law_523 : decode cL_law 523 = .ok (.iconst 2, 1) := by decide +kernel
theorem dL_law_524 : decode cL_law 524 = .ok (.iadd, 1) := by decide +kernel
theorem dL_law_525 : decode cL_law 525 = .ok (.iaload, 1) := by decide +kernel
theorem dL_law_526 : decode cL_law 526 = .ok (.invokevirtual 66, 3) := by decide +kernel
theorem dL_law_529 : decode cL_law 529 = .ok (.aload_n 2, 1) := by decide +kernel
theorem dL_law_530 : decode cL_law 530 = .ok (.aload_n 0, 1) := by decide +kernel
theorem dL_law_531 : decode cL_law 531 = .ok (.iload_n 3, 1) := by decide +kernel
theorem dL_law_532 : decode cL_law 532 = .ok (.iconst 1, 1) := by decide +kernel
theorem dL_law_533 : decode cL_law 533 = .ok (.iadd, 1) := by decide +kernel
theorem dL_law_534 : decode cL_law 534 = .ok (.iaload, 1) := by decide +kernel
theorem dL_law_535 : decode cL_law 535 = .ok (.aload_n 0, 1) := by decide +kernel
theorem dL_law_536 : decode cL_law 536 = .ok (.iload_n 3, 1) := by decide +kernel
theorem dL_law_537 : decode cL_law 537 = .ok (.iconst 2, 1) := by decide +kernel
theorem dL_law_538 : decode cL_law 538 = .ok (.iadd, 1) := by decide +kernel
theorem dL_law_539 : decode cL_law 539 = .ok (.iaload, 1) := by decide +kernel
theorem dL_law_540 : decode cL_law 540 = .ok (.invokevirtual 69, 3) := by decide +kernel
theorem dL_law_543 : decode cL_law 543 = .ok (.if_icmp .eq 552, 3) := by decide +kernel
theorem dL_law_546 : decode cL_law 546 = .ok (.iconst 0, 1) := by decide +kernel
theorem dL_law_547 : decode cL_law 547 = .ok (.ireturn, 1) := by decide +kernel
theorem dL_law_548 : decode cL_law 548 = .ok (.aload_n 1, 1) := by decide +kernel
theorem dL_law_549 : decode cL_law 549 = .ok (.aload_n 0, 1) := by decide +kernel
theorem dL_law_550 : decode cL_law 550 = .ok (.iload_n 3, 1) := by decide +kernel
theorem dL_law_551 : decode cL_law 551 = .ok (.iconst 1, 1) := by decide +kernel
theorem dL_law_552 : decode cL_law 552 = .ok (.iadd, 1) := by decide +kernel
theorem dL_law_553 : decode cL_law 553 = .ok (.iaload, 1) := by decide +kernel
theorem dL_law_554 : decode cL_law 554 = .ok (.invokevirtual 70, 3) := by decide +kernel
theorem dL_law_557 : decode cL_law 557 = .ok (.aload_n 2, 1) := by decide +kernel
theorem dL_law_558 : decode cL_law 558 = .ok (.aload_n 0, 1) := by decide +kernel
theorem dL_law_559 : decode cL_law 559 = .ok (.iload_n 3, 1) := by decide +kernel
theorem dL_law_560 : decode cL_law 560 = .ok (.iconst 1, 1) := by decide +kernel
theorem dL_law_561 : decode cL_law 561 = .ok (.iadd, 1) := by decide +kernel
theorem dL_law_562 : decode cL_law 562 = .ok (.iaload, 1) := by decide +kernel
theorem dL_law_563 : decode cL_law 563 = .ok (.invokevirtual 73, 3) := by decide +kernel
theorem dL_law_566 : decode cL_law 566 = .ok (.if_icmp .eq 529, 3) := by decide +kernel
theorem dL_law_569 : decode cL_law 569 = .ok (.iconst 0, 1) := by decide +kernel
theorem dL_law_570 : decode cL_law 570 = .ok (.ireturn, 1) := by decide +kernel
theorem dL_law_571 : decode cL_law 571 = .ok (.aload_n 1, 1) := by decide +kernel
theorem dL_law_572 : decode cL_law 572 = .ok (.aload_n 0, 1) := by decide +kernel
theorem dL_law_573 : decode cL_law 573 = .ok (.iload_n 3, 1) := by decide +kernel
theorem dL_law_574 : decode cL_law 574 = .ok (.iconst 1, 1) := by decide +kernel
theorem dL_law_575 : decode cL_law 575 = .ok (.iadd, 1) := by decide +kernel
theorem dL_law_576 : decode cL_law 576 = .ok (.iaload, 1) := by decide +kernel
theorem dL_law_577 : decode cL_law 577 = .ok (.aload_n 0, 1) := by decide +kernel
theorem dL_law_578 : decode cL_law 578 = .ok (.iload_n 3, 1) := by decide +kernel
theorem dL_law_579 : decode cL_law 579 = .ok (.iconst 2, 1) := by decide +kernel
theorem dL_law_580 : decode cL_law 580 = .ok (.iadd, 1) := by decide +kernel
theorem dL_law_581 : decode cL_law 581 = .ok (.iaload, 1) := by decide +kernel
theorem dL_law_582 : decode cL_law 582 = .ok (.aload_n 0, 1) := by decide +kernel
theorem dL_law_583 : decode cL_law 583 = .ok (.iload_n 3, 1) := by decide +kernel
theorem dL_law_584 : decode cL_law 584 = .ok (.iconst 3, 1) := by decide +kernel
theorem dL_law_585 : decode cL_law 585 = .ok (.iadd, 1) := by decide +kernel
theorem dL_law_586 : decode cL_law 586 = .ok (.iaload, 1) := by decide +kernel
theorem dL_law_587 : decode cL_law 587 = .ok (.ifCond .eq 7, 3) := by decide +kernel
theorem dL_law_590 : decode cL_law 590 = .ok (.iconst 1, 1) := by decide +kernel
theorem dL_law_591 : decode cL_law 591 = .ok (.goto 4, 3) := by decide +kernel
theorem dL_law_594 : decode cL_law 594 = .ok (.iconst 0, 1) := by decide +kernel
theorem dL_law_595 : decode cL_law 595 = .ok (.invokevirtual 74, 3) := by decide +kernel
theorem dL_law_598 : decode cL_law 598 = .ok (.aload_n 2, 1) := by decide +kernel
theorem dL_law_599 : decode cL_law 599 = .ok (.aload_n 0, 1) := by decide +kernel
theorem dL_law_600 : decode cL_law 600 = .ok (.iload_n 3, 1) := by decide +kernel
theorem dL_law_601 : decode cL_law 601 = .ok (.iconst 1, 1) := by decide +kernel
theorem dL_law_602 : decode cL_law 602 = .ok (.iadd, 1) := by decide +kernel
theorem dL_law_603 : decode cL_law 603 = .ok (.iaload, 1) := by decide +kernel
theorem dL_law_604 : decode cL_law 604 = .ok (.aload_n 0, 1) := by decide +kernel
theorem dL_law_605 : decode cL_law 605 = .ok (.iload_n 3, 1) := by decide +kernel
theorem dL_law_606 : decode cL_law 606 = .ok (.iconst 2, 1) := by decide +kernel
theorem dL_law_607 : decode cL_law 607 = .ok (.iadd, 1) := by decide +kernel
theorem dL_law_608 : decode cL_law 608 = .ok (.iaload, 1) := by decide +kernel
theorem dL_law_609 : decode cL_law 609 = .ok (.aload_n 0, 1) := by decide +kernel
theorem dL_law_610 : decode cL_law 610 = .ok (.iload_n 3, 1) := by decide +kernel
theorem dL_law_611 : decode cL_law 611 = .ok (.iconst 3, 1) := by decide +kernel
theorem dL_law_612 : decode cL_law 612 = .ok (.iadd, 1) := by decide +kernel
theorem dL_law_613 : decode cL_law 613 = .ok (.iaload, 1) := by decide +kernel
theorem dL_law_614 : decode cL_law 614 = .ok (.ifCond .eq 7, 3) := by decide +kernel
theorem dL_law_617 : decode cL_law 617 = .ok (.iconst 1, 1) := by decide +kernel
theorem dL_law_618 : decode cL_law 618 = .ok (.goto 4, 3) := by decide +kernel
theorem dL_law_621 : decode cL_law 621 = .ok (.iconst 0, 1) := by decide +kernel
theorem dL_law_622 : decode cL_law 622 = .ok (.invokevirtual 78, 3) := by decide +kernel
theorem dL_law_625 : decode cL_law 625 = .ok (.if_icmp .eq 470, 3) := by decide +kernel
theorem dL_law_628 : decode cL_law 628 = .ok (.iconst 0, 1) := by decide +kernel
theorem dL_law_629 : decode cL_law 629 = .ok (.ireturn, 1) := by decide +kernel
theorem dL_law_630 : decode cL_law 630 = .ok (.aload_n 1, 1) := by decide +kernel
theorem dL_law_631 : decode cL_law 631 = .ok (.aload_n 0, 1) := by decide +kernel
theorem dL_law_632 : decode cL_law 632 = .ok (.iload_n 3, 1) := by decide +kernel
theorem dL_law_633 : decode cL_law 633 = .ok (.iconst 1, 1) := by decide +kernel
theorem dL_law_634 : decode cL_law 634 = .ok (.iadd, 1) := by decide +kernel
theorem dL_law_635 : decode cL_law 635 = .ok (.iaload, 1) := by decide +kernel
theorem dL_law_636 : decode cL_law 636 = .ok (.aload_n 0, 1) := by decide +kernel
theorem dL_law_637 : decode cL_law 637 = .ok (.iload_n 3, 1) := by decide +kernel
theorem dL_law_638 : decode cL_law 638 = .ok (.iconst 2, 1) := by decide +kernel
theorem dL_law_639 : decode cL_law 639 = .ok (.iadd, 1) := by decide +kernel
theorem dL_law_640 : decode cL_law 640 = .ok (.iaload, 1) := by decide +kernel
theorem dL_law_641 : decode cL_law 641 = .ok (.invokevirtual 79, 3) := by decide +kernel
theorem dL_law_644 : decode cL_law 644 = .ok (.aload_n 2, 1) := by decide +kernel
theorem dL_law_645 : decode cL_law 645 = .ok (.aload_n 0, 1) := by decide +kernel
theorem dL_law_646 : decode cL_law 646 = .ok (.iload_n 3, 1) := by decide +kernel
theorem dL_law_647 : decode cL_law 647 = .ok (.iconst 1, 1) := by decide +kernel
theorem dL_law_648 : decode cL_law 648 = .ok (.iadd, 1) := by decide +kernel
theorem dL_law_649 : decode cL_law 649 = .ok (.iaload, 1) := by decide +kernel
theorem dL_law_650 : decode cL_law 650 = .ok (.aload_n 0, 1) := by decide +kernel
theorem dL_law_651 : decode cL_law 651 = .ok (.iload_n 3, 1) := by decide +kernel
theorem dL_law_652 : decode cL_law 652 = .ok (.iconst 2, 1) := by decide +kernel
theorem dL_law_653 : decode cL_law 653 = .ok (.iadd, 1) := by decide +kernel
theorem dL_law_654 : decode cL_law 654 = .ok (.iaload, 1) := by decide +kernel
theorem dL_law_655 : decode cL_law 655 = .ok (.invokevirtual 82, 3) := by decide +kernel
theorem dL_law_658 : decode cL_law 658 = .ok (.if_icmp .eq 437, 3) := by decide +kernel
theorem dL_law_661 : decode cL_law 661 = .ok (.iconst 0, 1) := by decide +kernel
theorem dL_law_662 : decode cL_law 662 = .ok (.ireturn, 1) := by decide +kernel
theorem dL_law_663 : decode cL_law 663 = .ok (.aload_n 1, 1) := by decide +kernel
theorem dL_law_664 : decode cL_law 664 = .ok (.aload_n 0, 1) := by decide +kernel
theorem dL_law_665 : decode cL_law 665 = .ok (.iload_n 3, 1) := by decide +kernel
theorem dL_law_666 : decode cL_law 666 = .ok (.iconst 1, 1) := by decide +kernel
theorem dL_law_667 : decode cL_law 667 = .ok (.iadd, 1) := by decide +kernel
theorem dL_law_668 : decode cL_law 668 = .ok (.iaload, 1) := by decide +kernel
theorem dL_law_669 : decode cL_law 669 = .ok (.aload_n 0, 1) := by decide +kernel
theorem dL_law_670 : decode cL_law 670 = .ok (.iload_n 3, 1) := by decide +kernel
theorem dL_law_671 : decode cL_law 671 = .ok (.iconst 2, 1) := by decide +kernel
theorem dL_law_672 : decode cL_law 672 = .ok (.iadd, 1) := by decide +kernel
theorem dL_law_673 : decode cL_law 673 = .ok (.iaload, 1) := by decide +kernel
theorem dL_law_674 : decode cL_law 674 = .ok (.invokevirtual 83, 3) := by decide +kernel
theorem dL_law_677 : decode cL_law 677 = .ok (.aload_n 2, 1) := by decide +kernel
theorem dL_law_678 : decode cL_law 678 = .ok (.aload_n 0, 1) := by decide +kernel
theorem dL_law_679 : decode cL_law 679 = .ok (.iload_n 3, 1) := by decide +kernel
theorem dL_law_680 : decode cL_law 680 = .ok (.iconst 1, 1) := by decide +kernel
theorem dL_law_681 : decode cL_law 681 = .ok (.iadd, 1) := by decide +kernel
theorem dL_law_682 : decode cL_law 682 = .ok (.iaload, 1) := by decide +kernel
theorem dL_law_683 : decode cL_law 683 = .ok (.aload_n 0, 1) := by decide +kernel
theorem dL_law_684 : decode cL_law 684 = .ok (.iload_n 3, 1) := by decide +kernel
theorem dL_law_685 : decode cL_law 685 = .ok (.iconst 2, 1) := by decide +kernel
theorem dL_law_686 : decode cL_law 686 = .ok (.iadd, 1) := by decide +kernel
theorem dL_law_687 : decode cL_law 687 = .ok (.iaload, 1) := by decide +kernel
theorem dL_law_688 : decode cL_law 688 = .ok (.invokevirtual 86, 3) := by decide +kernel
theorem dL_law_691 : decode cL_law 691 = .ok (.if_icmp .eq 404, 3) := by decide +kernel
theorem dL_law_694 : decode cL_law 694 = .ok (.iconst 0, 1) := by decide +kernel
theorem dL_law_695 : decode cL_law 695 = .ok (.ireturn, 1) := by decide +kernel
theorem dL_law_696 : decode cL_law 696 = .ok (.aload_n 1, 1) := by decide +kernel
theorem dL_law_697 : decode cL_law 697 = .ok (.aload_n 0, 1) := by decide +kernel
theorem dL_law_698 : decode cL_law 698 = .ok (.iload_n 3, 1) := by decide +kernel
theorem dL_law_699 : decode cL_law 699 = .ok (.iconst 1, 1) := by decide +kernel
theorem dL_law_700 : decode cL_law 700 = .ok (.iadd, 1) := by decide +kernel
theorem dL_law_701 : decode cL_law 701 = .ok (.iaload, 1) := by decide +kernel
theorem dL_law_702 : decode cL_law 702 = .ok (.aload_n 0, 1) := by decide +kernel
theorem dL_law_703 : decode cL_law 703 = .ok (.iload_n 3, 1) := by decide +kernel
theorem dL_law_704 : decode cL_law 704 = .ok (.iconst 2, 1) := by decide +kernel
theorem dL_law_705 : decode cL_law 705 = .ok (.iadd, 1) := by decide +kernel
theorem dL_law_706 : decode cL_law 706 = .ok (.iaload, 1) := by decide +kernel
theorem dL_law_707 : decode cL_law 707 = .ok (.aload_n 0, 1) := by decide +kernel
theorem dL_law_708 : decode cL_law 708 = .ok (.iload_n 3, 1) := by decide +kernel
theorem dL_law_709 : decode cL_law 709 = .ok (.iconst 3, 1) := by decide +kernel
theorem dL_law_710 : decode cL_law 710 = .ok (.iadd, 1) := by decide +kernel
theorem dL_law_711 : decode cL_law 711 = .ok (.iaload, 1) := by decide +kernel
theorem dL_law_712 : decode cL_law 712 = .ok (.aload_n 0, 1) := by decide +kernel
theorem dL_law_713 : decode cL_law 713 = .ok (.iload_n 3, 1) := by decide +kernel
theorem dL_law_714 : decode cL_law 714 = .ok (.iconst 4, 1) := by decide +kernel
theorem dL_law_715 : decode cL_law 715 = .ok (.iadd, 1) := by decide +kernel
theorem dL_law_716 : decode cL_law 716 = .ok (.iaload, 1) := by decide +kernel
theorem dL_law_717 : decode cL_law 717 = .ok (.invokevirtual 87, 3) := by decide +kernel
theorem dL_law_720 : decode cL_law 720 = .ok (.aload_n 2, 1) := by decide +kernel
theorem dL_law_721 : decode cL_law 721 = .ok (.aload_n 0, 1) := by decide +kernel
theorem dL_law_722 : decode cL_law 722 = .ok (.iload_n 3, 1) := by decide +kernel
theorem dL_law_723 : decode cL_law 723 = .ok (.iconst 1, 1) := by decide +kernel
theorem dL_law_724 : decode cL_law 724 = .ok (.iadd, 1) := by decide +kernel
theorem dL_law_725 : decode cL_law 725 = .ok (.iaload, 1) := by decide +kernel
theorem dL_law_726 : decode cL_law 726 = .ok (.aload_n 0, 1) := by decide +kernel
theorem dL_law_727 : decode cL_law 727 = .ok (.iload_n 3, 1) := by decide +kernel
theorem dL_law_728 : decode cL_law 728 = .ok (.iconst 2, 1) := by decide +kernel
theorem dL_law_729 : decode cL_law 729 = .ok (.iadd, 1) := by decide +kernel
theorem dL_law_730 : decode cL_law 730 = .ok (.iaload, 1) := by decide +kernel
theorem dL_law_731 : decode cL_law 731 = .ok (.aload_n 0, 1) := by decide +kernel
theorem dL_law_732 : decode cL_law 732 = .ok (.iload_n 3, 1) := by decide +kernel
theorem dL_law_733 : decode cL_law 733 = .ok (.iconst 3, 1) := by decide +kernel
theorem dL_law_734 : decode cL_law 734 = .ok (.iadd, 1) := by decide +kernel
theorem dL_law_735 : decode cL_law 735 = .ok (.iaload, 1) := by decide +kernel
theorem dL_law_736 : decode cL_law 736 = .ok (.aload_n 0, 1) := by decide +kernel
theorem dL_law_737 : decode cL_law 737 = .ok (.iload_n 3, 1) := by decide +kernel
theorem dL_law_738 : decode cL_law 738 = .ok (.iconst 4, 1) := by decide +kernel
theorem dL_law_739 : decode cL_law 739 = .ok (.iadd, 1) := by decide +kernel
theorem dL_law_740 : decode cL_law 740 = .ok (.iaload, 1) := by decide +kernel
theorem dL_law_741 : decode cL_law 741 = .ok (.invokevirtual 91, 3) := by decide +kernel
theorem dL_law_744 : decode cL_law 744 = .ok (.if_icmp .eq 351, 3) := by decide +kernel
theorem dL_law_747 : decode cL_law 747 = .ok (.iconst 0, 1) := by decide +kernel
theorem dL_law_748 : decode cL_law 748 = .ok (.ireturn, 1) := by decide +kernel
theorem dL_law_749 : decode cL_law 749 = .ok (.aload_n 1, 1) := by decide +kernel
theorem dL_law_750 : decode cL_law 750 = .ok (.aload_n 0, 1) := by decide +kernel
theorem dL_law_751 : decode cL_law 751 = .ok (.iload_n 3, 1) := by decide +kernel
theorem dL_law_752 : decode cL_law 752 = .ok (.iconst 1, 1) := by decide +kernel
theorem dL_law_753 : decode cL_law 753 = .ok (.iadd, 1) := by decide +kernel
theorem dL_law_754 : decode cL_law 754 = .ok (.iaload, 1) := by decide +kernel
theorem dL_law_755 : decode cL_law 755 = .ok (.aload_n 0, 1) := by decide +kernel
theorem dL_law_756 : decode cL_law 756 = .ok (.iload_n 3, 1) := by decide +kernel
theorem dL_law_757 : decode cL_law 757 = .ok (.iconst 2, 1) := by decide +kernel
theorem dL_law_758 : decode cL_law 758 = .ok (.iadd, 1) := by decide +kernel
theorem dL_law_759 : decode cL_law 759 = .ok (.iaload, 1) := by decide +kernel
theorem dL_law_760 : decode cL_law 760 = .ok (.aload_n 0, 1) := by decide +kernel
theorem dL_law_761 : decode cL_law 761 = .ok (.iload_n 3, 1) := by decide +kernel
theorem dL_law_762 : decode cL_law 762 = .ok (.iconst 3, 1) := by decide +kernel
theorem dL_law_763 : decode cL_law 763 = .ok (.iadd, 1) := by decide +kernel
theorem dL_law_764 : decode cL_law 764 = .ok (.iaload, 1) := by decide +kernel
theorem dL_law_765 : decode cL_law 765 = .ok (.invokevirtual 92, 3) := by decide +kernel
theorem dL_law_768 : decode cL_law 768 = .ok (.aload_n 2, 1) := by decide +kernel
theorem dL_law_769 : decode cL_law 769 = .ok (.aload_n 0, 1) := by decide +kernel
theorem dL_law_770 : decode cL_law 770 = .ok (.iload_n 3, 1) := by decide +kernel
theorem dL_law_771 : decode cL_law 771 = .ok (.iconst 1, 1) := by decide +kernel
theorem dL_law_772 : decode cL_law 772 = .ok (.iadd, 1) := by decide +kernel
theorem dL_law_773 : decode cL_law 773 = .ok (.iaload, 1) := by decide +kernel
theorem dL_law_774 : decode cL_law 774 = .ok (.aload_n 0, 1) := by decide +kernel
theorem dL_law_775 : decode cL_law 775 = .ok (.iload_n 3, 1) := by decide +kernel
theorem dL_law_776 : decode cL_law 776 = .ok (.iconst 2, 1) := by decide +kernel
theorem dL_law_777 : decode cL_law 777 = .ok (.iadd, 1) := by decide +kernel
theorem dL_law_778 : decode cL_law 778 = .ok (.iaload, 1) := by decide +kernel
theorem dL_law_779 : decode cL_law 779 = .ok (.aload_n 0, 1) := by decide +kernel
theorem dL_law_780 : decode cL_law 780 = .ok (.iload_n 3, 1) := by decide +kernel
theorem dL_law_781 : decode cL_law 781 = .ok (.iconst 3, 1) := by decide +kernel
theorem dL_law_782 : decode cL_law 782 = .ok (.iadd, 1) := by decide +kernel
theorem dL_law_783 : decode cL_law 783 = .ok (.iaload, 1) := by decide +kernel
theorem dL_law_784 : decode cL_law 784 = .ok (.invokevirtual 95, 3) := by decide +kernel
theorem dL_law_787 : decode cL_law 787 = .ok (.if_icmp .eq 308, 3) := by decide +kernel
theorem dL_law_790 : decode cL_law 790 = .ok (.iconst 0, 1) := by decide +kernel
theorem dL_law_791 : decode cL_law 791 = .ok (.ireturn, 1) := by decide +kernel
theorem dL_law_792 : decode cL_law 792 = .ok (.aload_n 1, 1) := by decide +kernel
theorem dL_law_793 : decode cL_law 793 = .ok (.aload_n 0, 1) := by decide +kernel
theorem dL_law_794 : decode cL_law 794 = .ok (.iload_n 3, 1) := by decide +kernel
theorem dL_law_795 : decode cL_law 795 = .ok (.iconst 1, 1) := by decide +kernel
theorem dL_law_796 : decode cL_law 796 = .ok (.iadd, 1) := by decide +kernel
theorem dL_law_797 : decode cL_law 797 = .ok (.iaload, 1) := by decide +kernel
theorem dL_law_798 : decode cL_law 798 = .ok (.aload_n 0, 1) := by decide +kernel
theorem dL_law_799 : decode cL_law 799 = .ok (.iload_n 3, 1) := by decide +kernel
theorem dL_law_800 : decode cL_law 800 = .ok (.iconst 2, 1) := by decide +kernel
theorem dL_law_801 : decode cL_law 801 = .ok (.iadd, 1) := by decide +kernel
theorem dL_law_802 : decode cL_law 802 = .ok (.iaload, 1) := by decide +kernel
theorem dL_law_803 : decode cL_law 803 = .ok (.aload_n 0, 1) := by decide +kernel
theorem dL_law_804 : decode cL_law 804 = .ok (.iload_n 3, 1) := by decide +kernel
theorem dL_law_805 : decode cL_law 805 = .ok (.iconst 3, 1) := by decide +kernel
theorem dL_law_806 : decode cL_law 806 = .ok (.iadd, 1) := by decide +kernel
theorem dL_law_807 : decode cL_law 807 = .ok (.iaload, 1) := by decide +kernel
theorem dL_law_808 : decode cL_law 808 = .ok (.aload_n 0, 1) := by decide +kernel
theorem dL_law_809 : decode cL_law 809 = .ok (.iload_n 3, 1) := by decide +kernel
theorem dL_law_810 : decode cL_law 810 = .ok (.iconst 4, 1) := by decide +kernel
theorem dL_law_811 : decode cL_law 811 = .ok (.iadd, 1) := by decide +kernel
theorem dL_law_812 : decode cL_law 812 = .ok (.iaload, 1) := by decide +kernel
theorem dL_law_813 : decode cL_law 813 = .ok (.invokevirtual 96, 3) := by decide +kernel
theorem dL_law_816 : decode cL_law 816 = .ok (.aload_n 2, 1) := by decide +kernel
theorem dL_law_817 : decode cL_law 817 = .ok (.aload_n 0, 1) := by decide +kernel
theorem dL_law_818 : decode cL_law 818 = .ok (.iload_n 3, 1) := by decide +kernel
theorem dL_law_819 : decode cL_law 819 = .ok (.iconst 1, 1) := by decide +kernel
theorem dL_law_820 : decode cL_law 820 = .ok (.iadd, 1) := by decide +kernel
theorem dL_law_821 : decode cL_law 821 = .ok (.iaload, 1) := by decide +kernel
theorem dL_law_822 : decode cL_law 822 = .ok (.aload_n 0, 1) := by decide +kernel
theorem dL_law_823 : decode cL_law 823 = .ok (.iload_n 3, 1) := by decide +kernel
theorem dL_law_824 : decode cL_law 824 = .ok (.iconst 2, 1) := by decide +kernel
theorem dL_law_825 : decode cL_law 825 = .ok (.iadd, 1) := by decide +kernel
theorem dL_law_826 : decode cL_law 826 = .ok (.iaload, 1) := by decide +kernel
theorem dL_law_827 : decode cL_law 827 = .ok (.aload_n 0, 1) := by decide +kernel
theorem dL_law_828 : decode cL_law 828 = .ok (.iload_n 3, 1) := by decide +kernel
theorem dL_law_829 : decode cL_law 829 = .ok (.iconst 3, 1) := by decide +kernel
theorem dL_law_830 : decode cL_law 830 = .ok (.iadd, 1) := by decide +kernel
theorem dL_law_831 : decode cL_law 831 = .ok (.iaload, 1) := by decide +kernel
theorem dL_law_832 : decode cL_law 832 = .ok (.aload_n 0, 1) := by decide +kernel
theorem dL_law_833 : decode cL_law 833 = .ok (.iload_n 3, 1) := by decide +kernel
theorem dL_law_834 : decode cL_law 834 = .ok (.iconst 4, 1) := by decide +kernel
theorem dL_law_835 : decode cL_law 835 = .ok (.iadd, 1) := by decide +kernel
theorem dL_law_836 : decode cL_law 836 = .ok (.iaload, 1) := by decide +kernel
theorem dL_law_837 : decode cL_law 837 = .ok (.invokevirtual 99, 3) := by decide +kernel
theorem dL_law_840 : decode cL_law 840 = .ok (.if_icmp .eq 255, 3) := by decide +kernel
theorem dL_law_843 : decode cL_law 843 = .ok (.iconst 0, 1) := by decide +kernel
theorem dL_law_844 : decode cL_law 844 = .ok (.ireturn, 1) := by decide +kernel
theorem dL_law_845 : decode cL_law 845 = .ok (.aload_n 1, 1) := by decide +kernel
theorem dL_law_846 : decode cL_law 846 = .ok (.aload_n 0, 1) := by decide +kernel
theorem dL_law_847 : decode cL_law 847 = .ok (.iload_n 3, 1) := by decide +kernel
theorem dL_law_848 : decode cL_law 848 = .ok (.iconst 1, 1) := by decide +kernel
theorem dL_law_849 : decode cL_law 849 = .ok (.iadd, 1) := by decide +kernel
theorem dL_law_850 : decode cL_law 850 = .ok (.iaload, 1) := by decide +kernel
theorem dL_law_851 : decode cL_law 851 = .ok (.aload_n 0, 1) := by decide +kernel
theorem dL_law_852 : decode cL_law 852 = .ok (.iload_n 3, 1) := by decide +kernel
theorem dL_law_853 : decode cL_law 853 = .ok (.iconst 2, 1) := by decide +kernel
theorem dL_law_854 : decode cL_law 854 = .ok (.iadd, 1) := by decide +kernel
theorem dL_law_855 : decode cL_law 855 = .ok (.iaload, 1) := by decide +kernel
theorem dL_law_856 : decode cL_law 856 = .ok (.invokevirtual 100, 3) := by decide +kernel
theorem dL_law_859 : decode cL_law 859 = .ok (.aload_n 2, 1) := by decide +kernel
theorem dL_law_860 : decode cL_law 860 = .ok (.aload_n 0, 1) := by decide +kernel
theorem dL_law_861 : decode cL_law 861 = .ok (.iload_n 3, 1) := by decide +kernel
theorem dL_law_862 : decode cL_law 862 = .ok (.iconst 1, 1) := by decide +kernel
theorem dL_law_863 : decode cL_law 863 = .ok (.iadd, 1) := by decide +kernel
theorem dL_law_864 : decode cL_law 864 = .ok (.iaload, 1) := by decide +kernel
theorem dL_law_865 : decode cL_law 865 = .ok (.aload_n 0, 1) := by decide +kernel
theorem dL_law_866 : decode cL_law 866 = .ok (.iload_n 3, 1) := by decide +kernel
theorem dL_law_867 : decode cL_law 867 = .ok (.iconst 2, 1) := by decide +kernel
theorem dL_law_868 : decode cL_law 868 = .ok (.iadd, 1) := by decide +kernel
theorem dL_law_869 : decode cL_law 869 = .ok (.iaload, 1) := by decide +kernel
theorem dL_law_870 : decode cL_law 870 = .ok (.invokevirtual 103, 3) := by decide +kernel
theorem dL_law_873 : decode cL_law 873 = .ok (.if_icmp .eq 222, 3) := by decide +kernel
theorem dL_law_876 : decode cL_law 876 = .ok (.iconst 0, 1) := by decide +kernel
theorem dL_law_877 : decode cL_law 877 = .ok (.ireturn, 1) := by decide +kernel
theorem dL_law_878 : decode cL_law 878 = .ok (.aload_n 1, 1) := by decide +kernel
theorem dL_law_879 : decode cL_law 879 = .ok (.aload_n 0, 1) := by decide +kernel
theorem dL_law_880 : decode cL_law 880 = .ok (.iload_n 3, 1) := by decide +kernel
theorem dL_law_881 : decode cL_law 881 = .ok (.iconst 1, 1) := by decide +kernel
theorem dL_law_882 : decode cL_law 882 = .ok (.iadd, 1) := by decide +kernel
theorem dL_law_883 : decode cL_law 883 = .ok (.iaload, 1) := by decide +kernel
theorem dL_law_884 : decode cL_law 884 = .ok (.aload_n 0, 1) := by decide +kernel
theorem dL_law_885 : decode cL_law 885 = .ok (.iload_n 3, 1) := by decide +kernel
theorem dL_law_886 : decode cL_law 886 = .ok (.iconst 2, 1) := by decide +kernel
theorem dL_law_887 : decode cL_law 887 = .ok (.iadd, 1) := by decide +kernel
theorem dL_law_888 : decode cL_law 888 = .ok (.iaload, 1) := by decide +kernel
theorem dL_law_889 : decode cL_law 889 = .ok (.invokevirtual 104, 3) := by decide +kernel
theorem dL_law_892 : decode cL_law 892 = .ok (.aload_n 2, 1) := by decide +kernel
theorem dL_law_893 : decode cL_law 893 = .ok (.aload_n 0, 1) := by decide +kernel
theorem dL_law_894 : decode cL_law 894 = .ok (.iload_n 3, 1) := by decide +kernel
theorem dL_law_895 : decode cL_law 895 = .ok (.iconst 1, 1) := by decide +kernel
theorem dL_law_896 : decode cL_law 896 = .ok (.iadd, 1) := by decide +kernel
theorem dL_law_897 : decode cL_law 897 = .ok (.iaload, 1) := by decide +kernel
theorem dL_law_898 : decode cL_law 898 = .ok (.aload_n 0, 1) := by decide +kernel
theorem dL_law_899 : decode cL_law 899 = .ok (.iload_n 3, 1) := by decide +kernel
theorem dL_law_900 : decode cL_law 900 = .ok (.iconst 2, 1) := by decide +kernel
theorem dL_law_901 : decode cL_law 901 = .ok (.iadd, 1) := by decide +kernel
theorem dL_law_902 : decode cL_law 902 = .ok (.iaload, 1) := by decide +kernel
theorem dL_law_903 : decode cL_law 903 = .ok (.invokevirtual 107, 3) := by decide +kernel
theorem dL_law_906 : decode cL_law 906 = .ok (.if_icmp .eq 189, 3) := by decide +kernel
theorem dL_law_909 : decode cL_law 909 = .ok (.iconst 0, 1) := by decide +kernel
theorem dL_law_910 : decode cL_law 910 = .ok (.ireturn, 1) := by decide +kernel
theorem dL_law_911 : decode cL_law 911 = .ok (.aload_n 1, 1) := by decide +kernel
theorem dL_law_912 : decode cL_law 912 = .ok (.aload_n 0, 1) := by decide +kernel
theorem dL_law_913 : decode cL_law 913 = .ok (.iload_n 3, 1) := by decide +kernel
theorem dL_law_914 : decode cL_law 914 = .ok (.iconst 1, 1) := by decide +kernel
theorem dL_law_915 : decode cL_law 915 = .ok (.iadd, 1) := by decide +kernel
theorem dL_law_916 : decode cL_law 916 = .ok (.iaload, 1) := by decide +kernel
theorem dL_law_917 : decode cL_law 917 = .ok (.invokevirtual 108, 3) := by decide +kernel
theorem dL_law_920 : decode cL_law 920 = .ok (.aload_n 2, 1) := by decide +kernel
theorem dL_law_921 : decode cL_law 921 = .ok (.aload_n 0, 1) := by decide +kernel
theorem dL_law_922 : decode cL_law 922 = .ok (.iload_n 3, 1) := by decide +kernel
theorem dL_law_923 : decode cL_law 923 = .ok (.iconst 1, 1) := by decide +kernel
theorem dL_law_924 : decode cL_law 924 = .ok (.iadd, 1) := by decide +kernel
theorem dL_law_925 : decode cL_law 925 = .ok (.iaload, 1) := by decide +kernel
theorem dL_law_926 : decode cL_law 926 = .ok (.invokevirtual 111, 3) := by decide +kernel
theorem dL_law_929 : decode cL_law 929 = .ok (.if_icmp .eq 166, 3) := by decide +kernel
theorem dL_law_932 : decode cL_law 932 = .ok (.iconst 0, 1) := by decide +kernel
theorem dL_law_933 : decode cL_law 933 = .ok (.ireturn, 1) := by decide +kernel
theorem dL_law_934 : decode cL_law 934 = .ok (.aload_n 1, 1) := by decide +kernel
theorem dL_law_935 : decode cL_law 935 = .ok (.aload_n 0, 1) := by decide +kernel
theorem dL_law_936 : decode cL_law 936 = .ok (.iload_n 3, 1) := by decide +kernel
theorem dL_law_937 : decode cL_law 937 = .ok (.iconst 1, 1) := by decide +kernel
theorem dL_law_938 : decode cL_law 938 = .ok (.iadd, 1) := by decide +kernel
theorem dL_law_939 : decode cL_law 939 = .ok (.iaload, 1) := by decide +kernel
theorem dL_law_940 : decode cL_law 940 = .ok (.invokevirtual 112, 3) := by decide +kernel
theorem dL_law_943 : decode cL_law 943 = .ok (.aload_n 2, 1) := by decide +kernel
theorem dL_law_944 : decode cL_law 944 = .ok (.aload_n 0, 1) := by decide +kernel
theorem dL_law_945 : decode cL_law 945 = .ok (.iload_n 3, 1) := by decide +kernel
theorem dL_law_946 : decode cL_law 946 = .ok (.iconst 1, 1) := by decide +kernel
theorem dL_law_947 : decode cL_law 947 = .ok (.iadd, 1) := by decide +kernel
theorem dL_law_948 : decode cL_law 948 = .ok (.iaload, 1) := by decide +kernel
theorem dL_law_949 : decode cL_law 949 = .ok (.invokevirtual 115, 3) := by decide +kernel
theorem dL_law_952 : decode cL_law 952 = .ok (.if_icmp .eq 143, 3) := by decide +kernel
theorem dL_law_955 : decode cL_law 955 = .ok (.iconst 0, 1) := by decide +kernel
theorem dL_law_956 : decode cL_law 956 = .ok (.ireturn, 1) := by decide +kernel
theorem dL_law_957 : decode cL_law 957 = .ok (.aload_n 1, 1) := by decide +kernel
theorem dL_law_958 : decode cL_law 958 = .ok (.aload_n 0, 1) := by decide +kernel
theorem dL_law_959 : decode cL_law 959 = .ok (.iload_n 3, 1) := by decide +kernel
theorem dL_law_960 : decode cL_law 960 = .ok (.iconst 1, 1) := by decide +kernel
theorem dL_law_961 : decode cL_law 961 = .ok (.iadd, 1) := by decide +kernel
theorem dL_law_962 : decode cL_law 962 = .ok (.iaload, 1) := by decide +kernel
theorem dL_law_963 : decode cL_law 963 = .ok (.invokevirtual 116, 3) := by decide +kernel
theorem dL_law_966 : decode cL_law 966 = .ok (.aload_n 2, 1) := by decide +kernel
theorem dL_law_967 : decode cL_law 967 = .ok (.aload_n 0, 1) := by decide +kernel
theorem dL_law_968 : decode cL_law 968 = .ok (.iload_n 3, 1) := by decide +kernel
theorem dL_law_969 : decode cL_law 969 = .ok (.iconst 1, 1) := by decide +kernel
theorem dL_law_970 : decode cL_law 970 = .ok (.iadd, 1) := by decide +kernel
theorem dL_law_971 : decode cL_law 971 = .ok (.iaload, 1) := by decide +kernel
theorem dL_law_972 : decode cL_law 972 = .ok (.invokevirtual 119, 3) := by decide +kernel
theorem dL_law_975 : decode cL_law 975 = .ok (.if_icmp .eq 120, 3) := by decide +kernel
theorem dL_law_978 : decode cL_law 978 = .ok (.iconst 0, 1) := by decide +kernel
theorem dL_law_979 : decode cL_law 979 = .ok (.ireturn, 1) := by decide +kernel
theorem dL_law_980 : decode cL_law 980 = .ok (.aload_n 1, 1) := by decide +kernel
theorem dL_law_981 : decode cL_law 981 = .ok (.aload_n 0, 1) := by decide +kernel
theorem dL_law_982 : decode cL_law 982 = .ok (.iload_n 3, 1) := by decide +kernel
theorem dL_law_983 : decode cL_law 983 = .ok (.iconst 1, 1) := by decide +kernel
theorem dL_law_984 : decode cL_law 984 = .ok (.iadd, 1) := by decide +kernel
theorem dL_law_985 : decode cL_law 985 = .ok (.iaload, 1) := by decide +kernel
theorem dL_law_986 : decode cL_law 986 = .ok (.aload_n 0, 1) := by decide +kernel
theorem dL_law_987 : decode cL_law 987 = .ok (.iload_n 3, 1) := by decide +kernel
theorem dL_law_988 : decode cL_law 988 = .ok (.iconst 2, 1) := by decide +kernel
theorem dL_law_989 : decode cL_law 989 = .ok (.iadd, 1) := by decide +kernel
theorem dL_law_990 : decode cL_law 990 = .ok (.iaload, 1) := by decide +kernel
theorem dL_law_991 : decode cL_law 991 = .ok (.invokevirtual 120, 3) := by decide +kernel
theorem dL_law_994 : decode cL_law 994 = .ok (.aload_n 2, 1) := by decide +kernel
theorem dL_law_995 : decode cL_law 995 = .ok (.aload_n 0, 1) := by decide +kernel
theorem dL_law_996 : decode cL_law 996 = .ok (.iload_n 3, 1) := by decide +kernel
theorem dL_law_997 : decode cL_law 997 = .ok (.iconst 1, 1) := by decide +kernel
theorem dL_law_998 : decode cL_law 998 = .ok (.iadd, 1) := by decide +kernel
theorem dL_law_999 : decode cL_law 999 = .ok (.iaload, 1) := by decide +kernel
theorem dL_law_1000 : decode cL_law 1000 = .ok (.aload_n 0, 1) := by decide +kernel
theorem dL_law_1001 : decode cL_law 1001 = .ok (.iload_n 3, 1) := by decide +kernel
theorem dL_law_1002 : decode cL_law 1002 = .ok (.iconst 2, 1) := by decide +kernel
theorem dL_law_1003 : decode cL_law 1003 = .ok (.iadd, 1) := by decide +kernel
theorem dL_law_1004 : decode cL_law 1004 = .ok (.iaload, 1) := by decide +kernel
theorem dL_law_1005 : decode cL_law 1005 = .ok (.invokevirtual 123, 3) := by decide +kernel
theorem dL_law_1008 : decode cL_law 1008 = .ok (.if_icmp .eq 87, 3) := by decide +kernel
theorem dL_law_1011 : decode cL_law 1011 = .ok (.iconst 0, 1) := by decide +kernel
theorem dL_law_1012 : decode cL_law 1012 = .ok (.ireturn, 1) := by decide +kernel
theorem dL_law_1013 : decode cL_law 1013 = .ok (.aload_n 1, 1) := by decide +kernel
theorem dL_law_1014 : decode cL_law 1014 = .ok (.invokevirtual 124, 3) := by decide +kernel
theorem dL_law_1017 : decode cL_law 1017 = .ok (.aload_n 2, 1) := by decide +kernel
theorem dL_law_1018 : decode cL_law 1018 = .ok (.invokevirtual 127, 3) := by decide +kernel
theorem dL_law_1021 : decode cL_law 1021 = .ok (.if_icmp .eq 74, 3) := by decide +kernel
theorem dL_law_1024 : decode cL_law 1024 = .ok (.iconst 0, 1) := by decide +kernel
theorem dL_law_1025 : decode cL_law 1025 = .ok (.ireturn, 1) := by decide +kernel
theorem dL_law_1026 : decode cL_law 1026 = .ok (.aload_n 1, 1) := by decide +kernel
theorem dL_law_1027 : decode cL_law 1027 = .ok (.aload_n 0, 1) := by decide +kernel
theorem dL_law_1028 : decode cL_law 1028 = .ok (.iload_n 3, 1) := by decide +kernel
theorem dL_law_1029 : decode cL_law 1029 = .ok (.iconst 1, 1) := by decide +kernel
theorem dL_law_1030 : decode cL_law 1030 = .ok (.iadd, 1) := by decide +kernel
theorem dL_law_1031 : decode cL_law 1031 = .ok (.iaload, 1) := by decide +kernel
theorem dL_law_1032 : decode cL_law 1032 = .ok (.invokevirtual 128, 3) := by decide +kernel
theorem dL_law_1035 : decode cL_law 1035 = .ok (.aload_n 2, 1) := by decide +kernel
theorem dL_law_1036 : decode cL_law 1036 = .ok (.aload_n 0, 1) := by decide +kernel
theorem dL_law_1037 : decode cL_law 1037 = .ok (.iload_n 3, 1) := by decide +kernel
theorem dL_law_1038 : decode cL_law 1038 = .ok (.iconst 1, 1) := by decide +kernel
theorem dL_law_1039 : decode cL_law 1039 = .ok (.iadd, 1) := by decide +kernel
theorem dL_law_1040 : decode cL_law 1040 = .ok (.iaload, 1) := by decide +kernel
theorem dL_law_1041 : decode cL_law 1041 = .ok (.invokevirtual 131, 3) := by decide +kernel
theorem dL_law_1044 : decode cL_law 1044 = .ok (.if_icmp .eq 51, 3) := by decide +kernel
theorem dL_law_1047 : decode cL_law 1047 = .ok (.iconst 0, 1) := by decide +kernel
theorem dL_law_1048 : decode cL_law 1048 = .ok (.ireturn, 1) := by decide +kernel
theorem dL_law_1049 : decode cL_law 1049 = .ok (.aload_n 1, 1) := by decide +kernel
theorem dL_law_1050 : decode cL_law 1050 = .ok (.aload_n 0, 1) := by decide +kernel
theorem dL_law_1051 : decode cL_law 1051 = .ok (.iload_n 3, 1) := by decide +kernel
theorem dL_law_1052 : decode cL_law 1052 = .ok (.iconst 1, 1) := by decide +kernel
theorem dL_law_1053 : decode cL_law 1053 = .ok (.iadd, 1) := by decide +kernel
theorem dL_law_1054 : decode cL_law 1054 = .ok (.iaload, 1) := by decide +kernel
theorem dL_law_1055 : decode cL_law 1055 = .ok (.invokevirtual 132, 3) := by decide +kernel
theorem dL_law_1058 : decode cL_law 1058 = .ok (.aload_n 2, 1) := by decide +kernel
theorem dL_law_1059 : decode cL_law 1059 = .ok (.aload_n 0, 1) := by decide +kernel
theorem dL_law_1060 : decode cL_law 1060 = .ok (.iload_n 3, 1) := by decide +kernel
theorem dL_law_1061 : decode cL_law 1061 = .ok (.iconst 1, 1) := by decide +kernel
theorem dL_law_1062 : decode cL_law 1062 = .ok (.iadd, 1) := by decide +kernel
theorem dL_law_1063 : decode cL_law 1063 = .ok (.iaload, 1) := by decide +kernel
theorem dL_law_1064 : decode cL_law 1064 = .ok (.invokevirtual 135, 3) := by decide +kernel
theorem dL_law_1067 : decode cL_law 1067 = .ok (.if_icmp .eq 28, 3) := by decide +kernel
theorem dL_law_1070 : decode cL_law 1070 = .ok (.iconst 0, 1) := by decide +kernel
theorem dL_law_1071 : decode cL_law 1071 = .ok (.ireturn, 1) := by decide +kernel
theorem dL_law_1072 : decode cL_law 1072 = .ok (.aload_n 1, 1) := by decide +kernel
theorem dL_law_1073 : decode cL_law 1073 = .ok (.aload_n 0, 1) := by decide +kernel
theorem dL_law_1074 : decode cL_law 1074 = .ok (.iload_n 3, 1) := by decide +kernel
theorem dL_law_1075 : decode cL_law 1075 = .ok (.iconst 1, 1) := by decide +kernel
theorem dL_law_1076 : decode cL_law 1076 = .ok (.iadd, 1) := by decide +kernel
theorem dL_law_1077 : decode cL_law 1077 = .ok (.iaload, 1) := by decide +kernel
theorem dL_law_1078 : decode cL_law 1078 = .ok (.invokevirtual 136, 3) := by decide +kernel
theorem dL_law_1081 : decode cL_law 1081 = .ok (.aload_n 2, 1) := by decide +kernel
theorem dL_law_1082 : decode cL_law 1082 = .ok (.aload_n 0, 1) := by decide +kernel
theorem dL_law_1083 : decode cL_law 1083 = .ok (.iload_n 3, 1) := by decide +kernel
theorem dL_law_1084 : decode cL_law 1084 = .ok (.iconst 1, 1) := by decide +kernel
theorem dL_law_1085 : decode cL_law 1085 = .ok (.iadd, 1) := by decide +kernel
theorem dL_law_1086 : decode cL_law 1086 = .ok (.iaload, 1) := by decide +kernel
theorem dL_law_1087 : decode cL_law 1087 = .ok (.invokevirtual 139, 3) := by decide +kernel
theorem dL_law_1090 : decode cL_law 1090 = .ok (.if_icmp .eq 5, 3) := by decide +kernel
theorem dL_law_1093 : decode cL_law 1093 = .ok (.iconst 0, 1) := by decide +kernel
theorem dL_law_1094 : decode cL_law 1094 = .ok (.ireturn, 1) := by decide +kernel
theorem dL_law_1095 : decode cL_law 1095 = .ok (.iinc 3 5, 3) := by decide +kernel
theorem dL_law_1098 : decode cL_law 1098 = .ok (.goto (-1080), 3) := by decide +kernel
theorem dL_law_1101 : decode cL_law 1101 = .ok (.iconst 1, 1) := by decide +kernel
theorem dL_law_1102 : decode cL_law 1102 = .ok (.ireturn, 1) := by decide +kernel
end
section
/-! the abstract machine state: typed values, a heap of typed parts by address -/
abbrev LV : Type := Int32 ⊕ Int64 ⊕ Option Nat
abbrev vI (x : Int32) : LV := .inl x
abbrev vJ (x : Int64) : LV := .inr (.inl x)
abbrev vR (o : Option Nat) : LV := .inr (.inr o)
def toV : LV → Value
  | .inl x => .int x
  | .inr (.inl x) => .long x
  | .inr (.inr o) => va_rf o
def isJ : Option LV → Bool
  | some (.inr (.inl _)) => true
  | _ => false
theorem toV_cat (v : LV) : (toV v).category = if isJ (some v) then 2 else 1 := by
  rcases v with x | x | o
  · rfl
  · rfl
  · cases o <;> rfl
/-- kinds (0: none), int fields, long fields, reference fields (by field number, then address), lengths, int elements, reference elements, size -/
abbrev AH : Type := (Nat → Nat) × (Nat → Nat → Int32) × (Nat → Nat → Int64) × (Nat → Nat → Option Nat) × (Nat → Nat) × (Nat → Nat → Int32) × (Nat → Nat → Option Nat) × Nat
def Hk (A : AH) : Nat → Nat := A.1
def Hi (A : AH) : Nat → Nat → Int32 := A.2.1
def Hj (A : AH) : Nat → Nat → Int64 := A.2.2.1
def Hr (A : AH) : Nat → Nat → Option Nat := A.2.2.2.1
def Hn (A : AH) : Nat → Nat := A.2.2.2.2.1
def He (A : AH) : Nat → Nat → Int32 := A.2.2.2.2.2.1
def Hq (A : AH) : Nat → Nat → Option Nat := A.2.2.2.2.2.2.1
def Hs (A : AH) : Nat := A.2.2.2.2.2.2.2
def up2 {α : Type} (f : Nat → Nat → α) (a b : Nat) (v : α) : Nat → Nat → α := fun x y => if x = a ∧ y = b then v else f x y
def si (A : AH) (f a : Nat) (v : Int32) : AH := (Hk A, up2 (Hi A) f a v, Hj A, Hr A, Hn A, He A, Hq A, Hs A)
def sj (A : AH) (f a : Nat) (v : Int64) : AH := (Hk A, Hi A, up2 (Hj A) f a v, Hr A, Hn A, He A, Hq A, Hs A)
def sr (A : AH) (f a : Nat) (v : Option Nat) : AH := (Hk A, Hi A, Hj A, up2 (Hr A) f a v, Hn A, He A, Hq A, Hs A)
def se (A : AH) (a i : Nat) (v : Int32) : AH := (Hk A, Hi A, Hj A, Hr A, Hn A, up2 (He A) a i v, Hq A, Hs A)
def sq (A : AH) (a i : Nat) (v : Option Nat) : AH := (Hk A, Hi A, Hj A, Hr A, Hn A, He A, up2 (Hq A) a i v, Hs A)
def nw (A : AH) (kd len : Nat) : AH := (fun x => if x = Hs A then kd else Hk A x, Hi A, Hj A, Hr A, fun x => if x = Hs A then len else Hn A x, He A, Hq A, Hs A + 1)
/-! what a step of the program does to it; none: the machine would throw -/
def gI (A : AH) (kd f : Nat) (o : Option Nat) : Option Int32 := match o with
  | none => none
  | some a => if Hk A a = kd then some (Hi A f a) else none
def gJ (A : AH) (kd f : Nat) (o : Option Nat) : Option Int64 := match o with
  | none => none
  | some a => if Hk A a = kd then some (Hj A f a) else none
def gR (A : AH) (kd f : Nat) (o : Option Nat) : Option (Option Nat) := match o with
  | none => none
  | some a => if Hk A a = kd then some (Hr A f a) else none
def pI (A : AH) (kd f : Nat) (o : Option Nat) (v : Int32) : Option AH := match o with
  | none => none
  | some a => if Hk A a = kd then some (si A f a v) else none
def pZ (A : AH) (kd f : Nat) (o : Option Nat) (v : Int32) : Option AH := match o with
  | none => none
  | some a => if Hk A a = kd ∧ (v = 0 ∨ v = 1) then some (si A f a v) else none
def pJ (A : AH) (kd f : Nat) (o : Option Nat) (v : Int64) : Option AH := match o with
  | none => none
  | some a => if Hk A a = kd then some (sj A f a v) else none
def pR (A : AH) (kd f : Nat) (o : Option Nat) (v : Option Nat) : Option AH := match o with
  | none => none
  | some a => if Hk A a = kd then some (sr A f a v) else none
def aI (A : AH) (kd : Nat) (o : Option Nat) (i : Int32) : Option Int32 := match o with
  | none => none
  | some a => if Hk A a = kd ∧ ¬ i < 0 ∧ i.toNatClampNeg < Hn A a then some (He A a i.toNatClampNeg) else none
def aR (A : AH) (kd : Nat) (o : Option Nat) (i : Int32) : Option (Option Nat) := match o with
  | none => none
  | some a => if Hk A a = kd ∧ ¬ i < 0 ∧ i.toNatClampNeg < Hn A a then some (Hq A a i.toNatClampNeg) else none
def sI (A : AH) (kd : Nat) (o : Option Nat) (i : Int32) (v : Int32) : Option AH := match o with
  | none => none
  | some a => if Hk A a = kd ∧ ¬ i < 0 ∧ i.toNatClampNeg < Hn A a then some (se A a i.toNatClampNeg v) else none
def sZ (A : AH) (kd : Nat) (o : Option Nat) (i : Int32) (v : Int32) : Option AH := match o with
  | none => none
  | some a => if Hk A a = kd ∧ ¬ i < 0 ∧ i.toNatClampNeg < Hn A a ∧ (v = 0 ∨ v = 1) then some (se A a i.toNatClampNeg v) else none
def okR (A : AH) (ek : Nat) (v : Option Nat) : Bool := match v with
  | none => true
  | some b => decide (Hk A b = ek)
def sR (A : AH) (kd ek : Nat) (o : Option Nat) (i : Int32) (v : Option Nat) : Option AH := match o with
  | none => none
  | some a => if Hk A a = kd ∧ ¬ i < 0 ∧ i.toNatClampNeg < Hn A a ∧ okR A ek v = true then some (sq A a i.toNatClampNeg v) else none
def aL (A : AH) (kd : Nat) (o : Option Nat) : Option Int32 := match o with
  | none => none
  | some a => if Hk A a = kd then some (Int32.ofNat (Hn A a)) else none
def nA (A : AH) (kd : Nat) (i : Int32) (bd : Nat) : Option AH := if ¬ i < 0 ∧ i.toNatClampNeg ≤ bd then some (nw A kd i.toNatClampNeg) else none
def rz (v : Int32) : Option Int32 := if v = 0 ∨ v = 1 then some v else none
def dvI (x y : Int32) : Option Int32 := if y = 0 then none else some (x / y)
def rmI (x y : Int32) : Option Int32 := if y = 0 then none else some (x - x / y * y)
def rmJ (x y : Int64) : Option Int64 := if y = 0 then none else some (x - x / y * y)
/-! loops -/
def itN {S T : Type} (b : S → Option (S ⊕ T)) : Nat → S → Option T
  | 0, _ => none
  | n + 1, s => match b s with
    | none => none
    | some (.inl s') => itN b n s'
    | some (.inr t) => some t
noncomputable def iter {S T : Type} (b : S → Option (S ⊕ T)) (s : S) : Option T :=
  @dite _ (∃ t n, itN b n s = some t) (Classical.propDecidable _) (fun h => some h.choose) (fun _ => none)
theorem itN_succ {S T : Type} {b : S → Option (S ⊕ T)} : ∀ {n : Nat} {s : S} {t : T}, itN b n s = some t → itN b (n + 1) s = some t
  | 0, _, _, h => by cases h
  | n + 1, s, t, h => by
    unfold itN at h ⊢
    cases hb : b s with
    | none => rw [hb] at h; cases h
    | some x =>
      rw [hb] at h
      cases x with
      | inl s' => exact itN_succ h
      | inr t' => exact h
theorem itN_add {S T : Type} {b : S → Option (S ⊕ T)} {n : Nat} {s : S} {t : T} (h : itN b n s = some t) : ∀ m, itN b (n + m) s = some t
  | 0 => h
  | m + 1 => itN_succ (itN_add h m)
theorem itN_det {S T : Type} {b : S → Option (S ⊕ T)} {n m : Nat} {s : S} {t t' : T} (h : itN b n s = some t) (h' : itN b m s = some t') : t = t' := by
  have h1 := itN_add h m
  have h2 := itN_add h' n
  rw [Nat.add_comm] at h2
  exact Option.some.inj (h1.symm.trans h2)
theorem iter_eq {S T : Type} {b : S → Option (S ⊕ T)} {n : Nat} {s : S} {t : T} (h : itN b n s = some t) : iter b s = some t := by
  have hx : ∃ t n, itN b n s = some t := ⟨t, n, h⟩
  unfold iter
  rw [dif_pos hx]
  obtain ⟨m, hm⟩ := hx.choose_spec
  exact congrArg some (itN_det hm h)
theorem iter_ex {S T : Type} {b : S → Option (S ⊕ T)} {s : S} {t : T} (h : iter b s = some t) : ∃ n, itN b n s = some t := by
  by_cases hx : ∃ t n, itN b n s = some t
  · unfold iter at h
    rw [dif_pos hx] at h
    have := hx.choose_spec
    rw [Option.some.inj h] at this
    exact this
  · unfold iter at h
    rw [dif_neg hx] at h
    cases h
def itM {S T : Type} (Ph : S → Prop) (Pt : T → Prop) : S ⊕ T → Prop
  | .inl s => Ph s
  | .inr t => Pt t
theorem itN_V {S T : Type} {b : S → Option (S ⊕ T)} {Ph : S → Prop} {Pt : T → Prop} (step : ∀ s x, b s = some x → itM Ph Pt x → Ph s) : ∀ {n : Nat} {s : S} {t : T}, itN b n s = some t → Pt t → Ph s
  | 0, _, _, h, _ => by cases h
  | n + 1, s, t, h, ht => by
    unfold itN at h
    cases hb : b s with
    | none => rw [hb] at h; cases h
    | some x =>
      rw [hb] at h
      cases x with
      | inl s' => exact step s _ hb (itN_V step h ht)
      | inr t' => cases h; exact step s _ hb ht
theorem iter_V {S T : Type} {b : S → Option (S ⊕ T)} {Ph : S → Prop} {Pt : T → Prop} {s : S} {t : T} (h : iter b s = some t) (step : ∀ s x, b s = some x → itM Ph Pt x → Ph s) (ht : Pt t) : Ph s := by
  obtain ⟨n, hn⟩ := iter_ex h
  exact itN_V step hn ht
theorem bnd_e {α β : Type} {x : Option α} {f : α → Option β} {y : β} (h : x.bind f = some y) : ∃ a, x = some a ∧ f a = some y := by
  cases x with
  | none => cases h
  | some a => exact ⟨a, rfl, h⟩
/-- a join: what comes behind it is told once -/
def jp {α β : Type} (k : α → β) (f : (α → β) → β) : β := f k
end
section
/-! locals -/
def pr (lv : List (Option LV)) : List (Nat × Value) := (List.range lv.length).filterMap (fun i => match lv[i]? with
  | some (some v) => some (i, toV v)
  | _ => none)
theorem mem_pr {lv : List (Option LV)} {i : Nat} {x : Value} : (i, x) ∈ pr lv ↔ ∃ v, lv[i]? = some (some v) ∧ x = toV v := by
  unfold pr
  rw [List.mem_filterMap]
  constructor
  · rintro ⟨j, hj, h⟩
    split at h
    · rename_i v hv
      cases h
      exact ⟨v, hv, rfl⟩
    · cases h
  · rintro ⟨v, hv, rfl⟩
    refine ⟨i, List.mem_range.mpr (List.getElem?_eq_some_iff.mp hv).1, ?_⟩
    rw [hv]
def LH (ls : Array Slot) (nL : Nat) (lv : List (Option LV)) : Prop := lv_has ls nL (pr lv)
theorem LH.at {ls : Array Slot} {nL : Nat} {lv : List (Option LV)} (h : LH ls nL lv) {i : Nat} {v : LV} (hv : lv[i]? = some (some v)) : ls[i]? = some (.val (toV v)) := h.2.2 (i, toV v) (mem_pr.mpr ⟨v, hv, rfl⟩)
def clr (lv : List (Option LV)) (i : Nat) : List (Option LV) := match i with
  | 0 => lv
  | j + 1 => if isJ (lv.getD j none) then lv.set j none else lv
def st1 (lv : List (Option LV)) (i : Nat) (v : LV) : List (Option LV) := (clr lv i).set i (some v)
def st2 (lv : List (Option LV)) (i : Nat) (v : LV) : List (Option LV) := ((clr lv i).set (i + 1) none).set i (some v)
def dr (lv : List (Option LV)) : List Nat → List (Option LV)
  | [] => lv
  | k :: ks => dr (lv.set k none) ks
theorem set_get {lv : List (Option LV)} {i j : Nat} {x : Option LV} {w : LV} (h : (lv.set i x)[j]? = some (some w)) : (j = i ∧ x = some w) ∨ (j ≠ i ∧ lv[j]? = some (some w)) := by
  rw [List.getElem?_set] at h
  by_cases hij : i = j
  · rw [if_pos hij] at h
    split at h
    · exact Or.inl ⟨hij.symm, Option.some.inj h⟩
    · cases h
  · rw [if_neg hij] at h
    exact Or.inr ⟨fun q => hij q.symm, h⟩
theorem clr_get {lv : List (Option LV)} {i j : Nat} {w : LV} (h : (clr lv i)[j]? = some (some w)) : lv[j]? = some (some w) ∧ ¬ (j + 1 = i ∧ isJ (some w) = true) := by
  cases i with
  | zero => exact ⟨h, by omega⟩
  | succ k =>
    unfold clr at h
    dsimp only at h
    split at h
    · rcases set_get h with ⟨-, h2⟩ | ⟨h1, h2⟩
      · cases h2
      · exact ⟨h2, fun q => h1 (by omega)⟩
    · rename_i hJ
      refine ⟨h, fun q => ?_⟩
      have hjk : j = k := by omega
      subst hjk
      apply hJ
      rw [List.getD_eq_getElem?_getD, h]
      exact q.2
theorem LH.st1 {ls' : Array Slot} {nL : Nat} {lv : List (Option LV)} {i : Nat} {v : LV} (h : lv_has ls' nL ((i, toV v) :: (pr lv).filter (fun q => !(q.1 == i) && !(q.1 + 1 == i && q.2.category == 2)))) : LH ls' nL (st1 lv i v) := by
  refine ⟨h.1, h.2.1, ?_⟩
  rintro ⟨j, x⟩ hq
  obtain ⟨w, hw, rfl⟩ := mem_pr.mp hq
  apply h.2.2 (j, toV w)
  rcases set_get hw with ⟨h1, h2⟩ | ⟨h1, h2⟩
  · subst h1
    cases h2
    exact List.mem_cons_self
  · obtain ⟨h3, h4⟩ := clr_get h2
    refine List.mem_cons_of_mem _ (List.mem_filter.mpr ⟨mem_pr.mpr ⟨w, h3, rfl⟩, ?_⟩)
    have hc := toV_cat w
    by_cases hJ : isJ (some w) = true
    · have : ¬ j + 1 = i := fun q => h4 ⟨q, hJ⟩
      simp [h1, this]
    · rw [if_neg hJ] at hc
      simp [h1, hc]
theorem LH.st2 {ls' : Array Slot} {nL : Nat} {lv : List (Option LV)} {i : Nat} {v : LV} (h : lv_has ls' nL ((i, toV v) :: (pr lv).filter (fun q => !(q.1 == i) && (!(q.1 == i + 1) && !(q.1 + 1 == i && q.2.category == 2))))) : LH ls' nL (st2 lv i v) := by
  refine ⟨h.1, h.2.1, ?_⟩
  rintro ⟨j, x⟩ hq
  obtain ⟨w, hw, rfl⟩ := mem_pr.mp hq
  apply h.2.2 (j, toV w)
  rcases set_get hw with ⟨h1, h2⟩ | ⟨h1, h2⟩
  · subst h1
    cases h2
    exact List.mem_cons_self
  · rcases set_get h2 with ⟨-, h5⟩ | ⟨h5, h2⟩
    · cases h5
    obtain ⟨h3, h4⟩ := clr_get h2
    refine List.mem_cons_of_mem _ (List.mem_filter.mpr ⟨mem_pr.mpr ⟨w, h3, rfl⟩, ?_⟩)
    have hc := toV_cat w
    by_cases hJ : isJ (some w) = true
    · have : ¬ j + 1 = i := fun q => h4 ⟨q, hJ⟩
      simp [h1, h5, this]
    · rw [if_neg hJ] at hc
      simp [h1, h5, hc]
theorem dr_get : ∀ {ks : List Nat} {lv : List (Option LV)} {j : Nat} {w : LV}, (dr lv ks)[j]? = some (some w) → lv[j]? = some (some w)
  | [], _, _, _, h => h
  | k :: ks, lv, j, w, h => by
    rcases set_get (dr_get (ks := ks) h) with ⟨-, h2⟩ | ⟨-, h2⟩
    · cases h2
    · exact h2
theorem LH.dr {ls : Array Slot} {nL : Nat} {lv : List (Option LV)} (h : LH ls nL lv) (ks : List Nat) : LH ls nL (dr lv ks) := by
  refine ⟨h.1, h.2.1, ?_⟩
  rintro ⟨j, x⟩ hq
  obtain ⟨w, hw, rfl⟩ := mem_pr.mp hq
  exact h.at (dr_get hw)
/-- locals at a method's entry -/
def ent : List LV → List (Option LV)
  | [] => []
  | v :: vs => if isJ (some v) then some v :: none :: ent vs else some v :: ent vs
theorem ent_args : ∀ (vs : List LV) (i j : Nat) (w : LV), (ent vs)[j]? = some (some w) → (i + j, toV w) ∈ lv_args i (vs.map toV)
  | [], i, j, w, h => by simp [ent] at h
  | v :: vs, i, j, w, h => by
    have hc := toV_cat v
    unfold ent at h
    by_cases hJ : isJ (some v) = true
    · rw [if_pos hJ] at h hc
      show _ ∈ lv_args i (toV v :: vs.map toV)
      unfold lv_args
      cases j with
      | zero => cases h; exact List.mem_cons_self
      | succ j =>
        cases j with
        | zero => cases h
        | succ j =>
          have := ent_args vs (i + 2) j w (by simpa using h)
          rw [show i + 2 + j = i + (j + 1 + 1) by omega] at this
          exact List.mem_cons_of_mem _ (by simpa [hc] using this)
    · rw [if_neg hJ] at h hc
      show _ ∈ lv_args i (toV v :: vs.map toV)
      unfold lv_args
      cases j with
      | zero => cases h; exact List.mem_cons_self
      | succ j =>
        have := ent_args vs (i + 1) j w (by simpa using h)
        rw [show i + 1 + j = i + (j + 1) by omega] at this
        exact List.mem_cons_of_mem _ (by simpa [hc] using this)
theorem pad_get {lv : List (Option LV)} {n j : Nat} {w : LV} (h : (lv ++ List.replicate n none)[j]? = some (some w)) : lv[j]? = some (some w) := by
  rw [List.getElem?_append] at h
  split at h
  · exact h
  · rw [List.getElem?_replicate] at h
    split at h <;> cases h
theorem LH.entry {vs : List LV} {n : Nat} (h : (lg_sl (vs.map toV)).length ≤ n) (k : Nat) : LH ((lg_sl (vs.map toV) ++ List.replicate (n - (lg_sl (vs.map toV)).length) Slot.unset).toArray) n (ent vs ++ List.replicate k none) := by
  have hl := lv_entry (vs.map toV) (n := n) h
  refine ⟨hl.1, hl.2.1, ?_⟩
  rintro ⟨j, x⟩ hq
  obtain ⟨w, hw, rfl⟩ := mem_pr.mp hq
  have := ent_args vs 0 j w (pad_get hw)
  rw [Nat.zero_add] at this
  exact hl.2.2 _ this
/-! the heap -/
def nF (ci : Nat) : Nat := ([3, 2, 1, 8, 3, 3, 3, 14, 2, 3, 3, 8, 20] : List Nat).getD ci 0
def ftT : List (List Nat) := [[2, 2, 0], [2, 0], [0], [2, 0, 2, 2, 2, 2, 2, 0], [2, 0, 0], [2, 0, 0], [2, 0, 0], [0, 0, 2, 2, 2, 2, 0, 1, 0, 0, 0, 0, 0, 2], [2, 0], [2, 0, 0], [2, 0, 2], [2, 2, 2, 2, 2, 2, 2, 2], [2, 2, 2, 0, 0, 2, 0, 0, 0, 2, 2, 2, 0, 2, 0, 0, 2, 2, 2, 0]]
def ft (ci k : Nat) : Nat := (ftT.getD ci []).getD k 0
def fv (A : AH) (ci k a : Nat) : Value := if ft ci k = 0 then .int (Hi A (32 * ci + k) a) else if ft ci k = 1 then .long (Hj A (32 * ci + k) a) else va_rf (Hr A (32 * ci + k) a)
def CO (D : va_G) (cy : Nat → ClassId) (A : AH) (a : Nat) (H : Heap) : Prop :=
  (Hk A a ≤ 13 → t_OB a (D.1 (Hk A a - 1)) (nF (Hk A a - 1)) (D.2 (Hk A a - 1)) H (fun k => fv A (Hk A a - 1) k a)) ∧
  (Hk A a = 14 ∨ Hk A a = 15 → H[a]? = some (arrV (cy (Hk A a)) (Hn A a) (fun j => .int (He A a j)))) ∧
  (16 ≤ Hk A a → H[a]? = some (arrV (cy (Hk A a)) (Hn A a) (fun j => va_rf (Hq A a j))))
def WH (base : Nat) (D : va_G) (cy : Nat → ClassId) (A : AH) (H : Heap) : Prop :=
  H.size = Hs A ∧ (∀ a, Hk A a ≠ 0 → base ≤ a ∧ a < Hs A) ∧ (∀ a, Hs A ≤ a → ∀ f, Hi A f a = 0 ∧ Hj A f a = 0 ∧ Hr A f a = none ∧ He A a f = 0 ∧ Hq A a f = none) ∧ base ≤ Hs A ∧ ∀ a, Hk A a ≠ 0 → CO D cy A a H
def FS (base : Nat) (H0 H : Heap) (locs : List Loc) : Prop := (∀ q : Nat, q < base → H[q]? = H0[q]?) ∧ ∀ l ∈ locs, base ≤ l.base
theorem CO.congr {D : va_G} {cy : Nat → ClassId} {A A' : AH} {b : Nat} {H H' : Heap} (h : CO D cy A b H) (e1 : Hk A' b = Hk A b) (e2 : Hn A' b = Hn A b) (e3 : ∀ f, Hi A' f b = Hi A f b ∧ Hj A' f b = Hj A f b ∧ Hr A' f b = Hr A f b ∧ He A' b f = He A b f ∧ Hq A' b f = Hq A b f) (o : H'[b]? = H[b]?) : CO D cy A' b H' := by
  have e4 : ∀ ci k, fv A' ci k b = fv A ci k b := fun ci k => by
    unfold fv
    rw [(e3 _).1, (e3 _).2.1, (e3 _).2.2.1]
  have e5 : He A' b = He A b := funext fun f => (e3 f).2.2.2.1
  have e6 : Hq A' b = Hq A b := funext fun f => (e3 f).2.2.2.2
  unfold CO
  rw [e1, e2, e5, e6, o]
  refine ⟨fun q => ((h.1 q).kept o).to (fun k _ => (e4 _ k).symm), h.2.1, h.2.2⟩
theorem WH.put {base : Nat} {D : va_G} {cy : Nat → ClassId} {A A' : AH} {a : Nat} {H H' : Heap} (h : WH base D cy A H) (e1 : Hk A' = Hk A) (e2 : Hn A' = Hn A) (e0 : Hs A' = Hs A) (e3 : ∀ b, b ≠ a → ∀ f, Hi A' f b = Hi A f b ∧ Hj A' f b = Hj A f b ∧ Hr A' f b = Hr A f b ∧ He A' b f = He A b f ∧ Hq A' b f = Hq A b f)
    (z : H'.size = H.size) (o : ∀ q, q ≠ a → H'[q]? = H[q]?) (ha : Hk A a ≠ 0) (hc : CO D cy A' a H') : WH base D cy A' H' := by
  obtain ⟨h1, h2, h3, h4, h5⟩ := h
  refine ⟨by rw [z, e0]; exact h1, fun b hb => by rw [e0]; exact h2 b (by rw [← e1]; exact hb), fun b hb f => ?_, by rw [e0]; exact h4, fun b hb => ?_⟩
  · rw [e0] at hb
    have hba : b ≠ a := fun q => by
      have := (h2 a ha).2
      omega
    obtain ⟨g1, g2, g3, g4, g5⟩ := e3 b hba f
    rw [g1, g2, g3, g4, g5]
    exact h3 b hb f
  · by_cases hba : b = a
    · subst hba; exact hc
    · exact (h5 b (by rw [← e1]; exact hb)).congr (by rw [e1]) (by rw [e2]) (e3 b hba) (o b hba)
theorem WH.new {base : Nat} {D : va_G} {cy : Nat → ClassId} {A : AH} {kd len : Nat} {H H' : Heap} (h : WH base D cy A H) (z : H'.size = Hs A + 1) (o : ∀ q, q < Hs A → H'[q]? = H[q]?) (hc : CO D cy (nw A kd len) (Hs A) H') : WH base D cy (nw A kd len) H' := by
  obtain ⟨h1, h2, h3, h4, h5⟩ := h
  have ek : ∀ b, b ≠ Hs A → Hk (nw A kd len) b = Hk A b := fun b hb => if_neg hb
  refine ⟨z, fun b hb => ?_, fun b hb f => h3 b (by have : Hs (nw A kd len) = Hs A + 1 := rfl; omega) f, Nat.le_trans h4 (Nat.le_succ _), fun b hb => ?_⟩
  · show base ≤ b ∧ b < Hs A + 1
    by_cases hbs : b = Hs A
    · omega
    · rw [ek b hbs] at hb
      have := h2 b hb
      omega
  · by_cases hbs : b = Hs A
    · rw [hbs]; exact hc
    · have hb' := hb
      rw [ek b hbs] at hb'
      exact (h5 b hb').congr (ek b hbs) (if_neg hbs) (fun f => ⟨rfl, rfl, rfl, rfl, rfl⟩) (o b (h2 b hb').2)
theorem FS.put {base : Nat} {H0 H H' : Heap} {locs : List Loc} {a i : Nat} (h : FS base H0 H locs) (o : ∀ q : Nat, q ≠ a → H'[q]? = H[q]?) (ha : base ≤ a) : FS base H0 H' (locs ++ [⟨a, i⟩]) := by
  refine ⟨fun q hq => (o q (by omega)).trans (h.1 q hq), fun l hl => ?_⟩
  rcases List.mem_append.mp hl with h1 | h1
  · exact h.2 l h1
  · rw [List.mem_singleton.mp h1]; exact ha
theorem FS.new {base : Nat} {H0 H H' : Heap} {locs : List Loc} {n : Nat} (h : FS base H0 H locs) (o : ∀ q : Nat, q < n → H'[q]? = H[q]?) (hb : base ≤ n) : FS base H0 H' locs :=
  ⟨fun q hq => (o q (by omega)).trans (h.1 q hq), h.2⟩
/-- the array classes -/
def tyl (cy : Nat → ClassId) : List (ClassId × FieldType) := [(cy 14, .int), (cy 15, .boolean), (cy 16, .object "OneStrokes$Image"), (cy 17, .object "OneStrokes$Shelf"), (cy 18, .object "OneStrokes$Word")]
def lw_g : List Cond := lw_tbl.filter goodWord
theorem in_g {w : Cond} (h : w ∈ lw_tbl) (hg : goodWord w = true) : w ∈ lw_g := List.mem_filter.mpr ⟨h, hg⟩
theorem lw_gg : GoodIn lw_g lw_g := fun w h => ⟨h, good_of_word (List.mem_filter.mp h).2⟩
def nestW : List (String × Nat × MethodName × String) := [("OneStrokes", 9, ⟨"OneStrokes$Shelf", "<init>", "()V"⟩, "OneStrokes"), ("OneStrokes", 18, ⟨"OneStrokes$Text", "<init>", "()V"⟩, "OneStrokes"), ("OneStrokes", 25, ⟨"OneStrokes$Book", "<init>", "()V"⟩, "OneStrokes"), ("OneStrokes", 32, ⟨"OneStrokes$History", "<init>", "()V"⟩, "OneStrokes"), ("OneStrokes", 39, ⟨"OneStrokes$Image", "<init>", "()V"⟩, "OneStrokes"), ("OneStrokes$Image", 9, ⟨"OneStrokes$Shelf", "<init>", "()V"⟩, "OneStrokes"), ("OneStrokes", 46, ⟨"OneStrokes$Draws", "<init>", "()V"⟩, "OneStrokes"), ("OneStrokes", 53, ⟨"OneStrokes$Draft", "<init>", "()V"⟩, "OneStrokes"), ("OneStrokes", 60, ⟨"OneStrokes$Heaps", "<init>", "()V"⟩, "OneStrokes"), ("OneStrokes$History", 24, ⟨"OneStrokes$Shelf", "<init>", "()V"⟩, "OneStrokes"), ("OneStrokes$Row", 104, ⟨"OneStrokes", "isIn", "(II)Z"⟩, "OneStrokes"), ("OneStrokes$Row", 125, ⟨"OneStrokes", "isEven", "(I)Z"⟩, "OneStrokes"), ("OneStrokes$Faces", 96, ⟨"OneStrokes", "isIn", "(II)Z"⟩, "OneStrokes"), ("OneStrokes$Faces", 112, ⟨"OneStrokes", "isEven", "(I)Z"⟩, "OneStrokes"), ("OneStrokes$Draft", 58, ⟨"OneStrokes", "isIn", "(II)Z"⟩, "OneStrokes")]
def NW (U : State) : Prop := (∀ q ∈ nestW, va_Nw (.methodLinkNest q.1 q.2.1 q.2.2.1 q.2.2.2) U) ∧ va_AO "OneStrokes$Image" U ∧ va_AO "OneStrokes$Shelf" U ∧ va_AO "OneStrokes$Word" U
theorem NW.warm {s U : State} (h : NW s) (hW : s.WarmedH U.vm) : NW U := ⟨fun q hq => (h.1 q hq).warmM hW, h.2.1.moved hW.alike, h.2.2.1.moved hW.alike, h.2.2.2.moved hW.alike⟩
theorem NW.same {s U : State} (h : NW s) (e : s.vm = U.vm) : NW U := ⟨fun q hq => va_Nw.same rfl e (h.1 q hq), h.2.1.moved (by rw [e]; exact Vm.Alike.refl _), h.2.2.1.moved (by rw [e]; exact Vm.Alike.refl _), h.2.2.2.moved (by rw [e]; exact Vm.Alike.refl _)⟩
def Wd (base : Nat) (D : va_G) (cy : Nat → ClassId) (A : AH) (U : State) : Prop := va_K D vwCl (tyl cy) U ∧ NW U ∧ WH base D cy A U.heap
def Qd (base : Nat) (D : va_G) (cy : Nat → ClassId) (v : Option LV) (A1 : AH) : Array Value → State → Outcome → State → Prop := fun _ st oc t =>
  oc = .returned (v.map toV) ∧ WH base D cy A1 t.heap ∧ ∀ q : Nat, q < base → t.heap[q]? = st.heap[q]?
/-- a method's contract at one start: from the heap A with these arguments it answers v and leaves the heap A1 -/
def Cn (l : Launch) (y : MethodName) (cc : ByteArray) (nL : Nat) (ret : Option FieldType) (fr lo mc ms : Nat) (as : List LV) (A : AH) (v : Option LV) (A1 : AH) : Prop :=
  ∀ (base : Nat) (D : va_G) (cy : Nat → ClassId), Met l y (Cond.code y cc nL ret :: lw_g) { frames := fr, cells := mc, slots := ms, locals := lo } (va_Pc (as.map toV) (Wd base D cy A)) (Qd base D cy v A1) mc ms (fun q => base ≤ q)
def EN (p : Program) (s : State) (m : MethodId) (args : Array Value) (meth : Method) (c : Code) (D : va_G) (cy : Nat → ClassId) (own : String) (cc : ByteArray) (nL : Nat) (ret : Option FieldType) (nm : String) : Prop :=
  p.tables.exec = Jvm.exec ∧ c.code = cc ∧ c.maxLocals = nL ∧ s.vm.findClass own = some m.cls ∧ (∀ w ∈ lw_g, w.before args s = true) ∧ va_K D vwCl (tyl cy) s ∧ NW s ∧ meth.sig.returnType = ret ∧ meth.locks = false ∧ meth.name = nm
/-- from here the machine comes to Q -/
def V (p : Program) (l : Launch) (e : Env) (R : Room) (s : State) (m : MethodId) (args : Array Value) (below : List Frame) (meth : Method) (c : Code) (Q : State → Prop) (base : Nat) (D : va_G) (cy : Nat → ClassId) (nL : Nat) (pc : Nat) (lv : List (Option LV)) (st : List LV) (A : AH) (k n : Nat) : Prop :=
  ∀ (H : Heap) (locs : List Loc) (ls : Array Slot), WH base D cy A H → FS base s.heap H locs → LH ls nL lv → W p l e R s m args below meth c H locs k n Q (F0 m pc ls (st.map toV))
end
section
section RV
variable {p : Program} {l : Launch} {e : Env} {R : Room} {s : State} {m : MethodId} {args : Array Value} {below : List Frame} {meth : Method} {c : Code} {Q : State → Prop} {base : Nat} {D : va_G} {cy : Nat → ClassId} {own : String} {cc : ByteArray} {nL : Nat} {ret : Option FieldType} {nm : String} {pc : Nat} {lv lv' : List (Option LV)} {st : List LV} {A : AH} {k n : Nat}
theorem v_iconst (E : EN p s m args meth c D cy own cc nL ret nm) {z : Int} {v : Int32} (hd : decode cc pc = .ok (.iconst z, 1)) (hv : Int32.ofInt z = v) (kk : V p l e R s m args below meth c Q base D cy nL (pc + 1) lv (vI v :: st) A k n) : V p l e R s m args below meth c Q base D cy nL pc lv (st) A k n :=
  fun H locs ls hW hF hL => lv_iconst E.1 E.2.1 hd hv (kk H locs ls hW hF hL)
theorem v_bipush (E : EN p s m args meth c D cy own cc nL ret nm) {z : Int} {v : Int32} (hd : decode cc pc = .ok (.bipush z, 2)) (hv : (Int8.ofInt z).toInt32 = v) (kk : V p l e R s m args below meth c Q base D cy nL (pc + 2) lv (vI v :: st) A k n) : V p l e R s m args below meth c Q base D cy nL pc lv (st) A k n :=
  fun H locs ls hW hF hL => lv_bipush E.1 E.2.1 hd hv (kk H locs ls hW hF hL)
theorem v_sipush (E : EN p s m args meth c D cy own cc nL ret nm) {z : Int} {v : Int32} (hd : decode cc pc = .ok (.sipush z, 3)) (hv : (Int16.ofInt z).toInt32 = v) (kk : V p l e R s m args below meth c Q base D cy nL (pc + 3) lv (vI v :: st) A k n) : V p l e R s m args below meth c Q base D cy nL pc lv (st) A k n :=
  fun H locs ls hW hF hL => lv_sipush E.1 E.2.1 hd hv (kk H locs ls hW hF hL)
theorem v_lconst (E : EN p s m args meth c D cy own cc nL ret nm) {z : Fin 2} {v : Int64} (hd : decode cc pc = .ok (.lconst z, 1)) (hv : Int64.ofNat (z : Nat) = v) (kk : V p l e R s m args below meth c Q base D cy nL (pc + 1) lv (vJ v :: st) A k n) : V p l e R s m args below meth c Q base D cy nL pc lv (st) A k n :=
  fun H locs ls hW hF hL => lv_lconst E.1 E.2.1 hd hv (kk H locs ls hW hF hL)
theorem v_ldc (E : EN p s m args meth c D cy own cc nL ret nm) {i : Nat} {v : Int32} (hd : decode cc pc = .ok (.ldc i, 2)) (hc : Cond.constant own i v ∈ lw_g) (kk : V p l e R s m args below meth c Q base D cy nL (pc + 2) lv (vI v :: st) A k n) : V p l e R s m args below meth c Q base D cy nL pc lv (st) A k n :=
  fun H locs ls hW hF hL => lv_ldc E.1 E.2.1 E.2.2.2.1 (E.2.2.2.2.1 _ hc) hd (kk H locs ls hW hF hL)
theorem v_ldcw (E : EN p s m args meth c D cy own cc nL ret nm) {i : Nat} {v : Int32} (hd : decode cc pc = .ok (.ldc_w i, 3)) (hc : Cond.constant own i v ∈ lw_g) (kk : V p l e R s m args below meth c Q base D cy nL (pc + 3) lv (vI v :: st) A k n) : V p l e R s m args below meth c Q base D cy nL pc lv (st) A k n :=
  fun H locs ls hW hF hL => lv_ldcw E.1 E.2.1 E.2.2.2.1 (E.2.2.2.2.1 _ hc) hd (kk H locs ls hW hF hL)
theorem v_ldc2 (E : EN p s m args meth c D cy own cc nL ret nm) {i : Nat} {v : Int64} (hd : decode cc pc = .ok (.ldc2_w i, 3)) (hc : Cond.constantLong own i v ∈ lw_g) (kk : V p l e R s m args below meth c Q base D cy nL (pc + 3) lv (vJ v :: st) A k n) : V p l e R s m args below meth c Q base D cy nL pc lv (st) A k n :=
  fun H locs ls hW hF hL => lv_ldc2 E.1 E.2.1 E.2.2.2.1 (E.2.2.2.2.1 _ hc) hd (kk H locs ls hW hF hL)
theorem v_iload_n (E : EN p s m args meth c D cy own cc nL ret nm) {j : Fin 4} {x : Int32} (hd : decode cc pc = .ok (.iload_n j, 1)) (hx : lv[j.val]? = some (some (vI x))) (kk : V p l e R s m args below meth c Q base D cy nL (pc + 1) lv (vI x :: st) A k n) : V p l e R s m args below meth c Q base D cy nL pc lv (st) A k n :=
  fun H locs ls hW hF hL => lv_iload_n E.1 E.2.1 hd rfl (hL.at hx) (kk H locs ls hW hF hL)
theorem v_iload (E : EN p s m args meth c D cy own cc nL ret nm) {j : Nat} {x : Int32} (hd : decode cc pc = .ok (.iload j, 2)) (hx : lv[j]? = some (some (vI x))) (kk : V p l e R s m args below meth c Q base D cy nL (pc + 2) lv (vI x :: st) A k n) : V p l e R s m args below meth c Q base D cy nL pc lv (st) A k n :=
  fun H locs ls hW hF hL => lv_iload E.1 E.2.1 hd (hL.at hx) (kk H locs ls hW hF hL)
theorem v_lload_n (E : EN p s m args meth c D cy own cc nL ret nm) {j : Fin 4} {x : Int64} (hd : decode cc pc = .ok (.lload_n j, 1)) (hx : lv[j.val]? = some (some (vJ x))) (kk : V p l e R s m args below meth c Q base D cy nL (pc + 1) lv (vJ x :: st) A k n) : V p l e R s m args below meth c Q base D cy nL pc lv (st) A k n :=
  fun H locs ls hW hF hL => lv_lload_n E.1 E.2.1 hd rfl (hL.at hx) (kk H locs ls hW hF hL)
theorem v_lload (E : EN p s m args meth c D cy own cc nL ret nm) {j : Nat} {x : Int64} (hd : decode cc pc = .ok (.lload j, 2)) (hx : lv[j]? = some (some (vJ x))) (kk : V p l e R s m args below meth c Q base D cy nL (pc + 2) lv (vJ x :: st) A k n) : V p l e R s m args below meth c Q base D cy nL pc lv (st) A k n :=
  fun H locs ls hW hF hL => lv_lload E.1 E.2.1 hd (hL.at hx) (kk H locs ls hW hF hL)
theorem v_aload_n (E : EN p s m args meth c D cy own cc nL ret nm) {j : Fin 4} {x : Option Nat} (hd : decode cc pc = .ok (.aload_n j, 1)) (hx : lv[j.val]? = some (some (vR x))) (kk : V p l e R s m args below meth c Q base D cy nL (pc + 1) lv (vR x :: st) A k n) : V p l e R s m args below meth c Q base D cy nL pc lv (st) A k n := by
  intro H locs ls hW hF hL
  cases x with
  | none => exact lv_aload_nN E.1 E.2.1 hd rfl (hL.at hx) (kk H locs ls hW hF hL)
  | some a => exact lv_aload_n E.1 E.2.1 hd rfl (hL.at hx) (kk H locs ls hW hF hL)
theorem v_aload (E : EN p s m args meth c D cy own cc nL ret nm) {j : Nat} {x : Option Nat} (hd : decode cc pc = .ok (.aload j, 2)) (hx : lv[j]? = some (some (vR x))) (kk : V p l e R s m args below meth c Q base D cy nL (pc + 2) lv (vR x :: st) A k n) : V p l e R s m args below meth c Q base D cy nL pc lv (st) A k n := by
  intro H locs ls hW hF hL
  cases x with
  | none => exact lv_aloadN E.1 E.2.1 hd (hL.at hx) (kk H locs ls hW hF hL)
  | some a => exact lv_aload E.1 E.2.1 hd (hL.at hx) (kk H locs ls hW hF hL)
theorem v_istore_n (E : EN p s m args meth c D cy own cc nL ret nm) {j : Fin 4} {x : Int32} (hd : decode cc pc = .ok (.istore_n j, 1)) (hn : j.val < nL) (hl : st1 lv j.val (vI x) = lv') (kk : V p l e R s m args below meth c Q base D cy nL (pc + 1) lv' st A k n) : V p l e R s m args below meth c Q base D cy nL pc lv (vI x :: st) A k n := by
  intro H locs ls hW hF hL
  subst hl
  exact lv_istore_n E.1 E.2.1 hd rfl hL hn rfl (fun ls' h' => kk H locs ls' hW hF (LH.st1 (v := vI x) h'))
theorem v_istore (E : EN p s m args meth c D cy own cc nL ret nm) {j : Nat} {x : Int32} (hd : decode cc pc = .ok (.istore j, 2)) (hn : j < nL) (hl : st1 lv j (vI x) = lv') (kk : V p l e R s m args below meth c Q base D cy nL (pc + 2) lv' st A k n) : V p l e R s m args below meth c Q base D cy nL pc lv (vI x :: st) A k n := by
  intro H locs ls hW hF hL
  subst hl
  exact lv_istore E.1 E.2.1 hd hL hn rfl (fun ls' h' => kk H locs ls' hW hF (LH.st1 (v := vI x) h'))
theorem v_lstore_n (E : EN p s m args meth c D cy own cc nL ret nm) {j : Fin 4} {x : Int64} (hd : decode cc pc = .ok (.lstore_n j, 1)) (hn : j.val + 1 < nL) (hl : st2 lv j.val (vJ x) = lv') (kk : V p l e R s m args below meth c Q base D cy nL (pc + 1) lv' st A k n) : V p l e R s m args below meth c Q base D cy nL pc lv (vJ x :: st) A k n := by
  intro H locs ls hW hF hL
  subst hl
  exact lv_lstore_n E.1 E.2.1 hd rfl hL hn rfl (fun ls' h' => kk H locs ls' hW hF (LH.st2 (v := vJ x) h'))
theorem v_lstore (E : EN p s m args meth c D cy own cc nL ret nm) {j : Nat} {x : Int64} (hd : decode cc pc = .ok (.lstore j, 2)) (hn : j + 1 < nL) (hl : st2 lv j (vJ x) = lv') (kk : V p l e R s m args below meth c Q base D cy nL (pc + 2) lv' st A k n) : V p l e R s m args below meth c Q base D cy nL pc lv (vJ x :: st) A k n := by
  intro H locs ls hW hF hL
  subst hl
  exact lv_lstore E.1 E.2.1 hd hL hn rfl (fun ls' h' => kk H locs ls' hW hF (LH.st2 (v := vJ x) h'))
theorem v_astore_n (E : EN p s m args meth c D cy own cc nL ret nm) {j : Fin 4} {x : Option Nat} (hd : decode cc pc = .ok (.astore_n j, 1)) (hn : j.val < nL) (hl : st1 lv j.val (vR x) = lv') (kk : V p l e R s m args below meth c Q base D cy nL (pc + 1) lv' st A k n) : V p l e R s m args below meth c Q base D cy nL pc lv (vR x :: st) A k n := by
  intro H locs ls hW hF hL
  subst hl
  cases x with
  | none => exact lv_astore_nN E.1 E.2.1 hd rfl hL hn rfl (fun ls' h' => kk H locs ls' hW hF (LH.st1 (v := vR none) h'))
  | some a => exact lv_astore_n E.1 E.2.1 hd rfl hL hn rfl (fun ls' h' => kk H locs ls' hW hF (LH.st1 (v := vR (some a)) h'))
theorem v_astore (E : EN p s m args meth c D cy own cc nL ret nm) {j : Nat} {x : Option Nat} (hd : decode cc pc = .ok (.astore j, 2)) (hn : j < nL) (hl : st1 lv j (vR x) = lv') (kk : V p l e R s m args below meth c Q base D cy nL (pc + 2) lv' st A k n) : V p l e R s m args below meth c Q base D cy nL pc lv (vR x :: st) A k n := by
  intro H locs ls hW hF hL
  subst hl
  cases x with
  | none => exact lv_astoreN E.1 E.2.1 hd hL hn rfl (fun ls' h' => kk H locs ls' hW hF (LH.st1 (v := vR none) h'))
  | some a => exact lv_astore E.1 E.2.1 hd hL hn rfl (fun ls' h' => kk H locs ls' hW hF (LH.st1 (v := vR (some a)) h'))
theorem v_iinc (E : EN p s m args meth c D cy own cc nL ret nm) {j : Nat} {z : Int} {x v : Int32} (hd : decode cc pc = .ok (.iinc j z, 3)) (hx : lv[j]? = some (some (vI x))) (hv : x + Int32.ofInt z = v) (hn : j < nL) (hl : st1 lv j (vI v) = lv') (kk : V p l e R s m args below meth c Q base D cy nL (pc + 3) lv' st A k n) : V p l e R s m args below meth c Q base D cy nL pc lv st A k n := by
  intro H locs ls hW hF hL
  subst hl
  obtain ⟨i, hi⟩ := List.getElem?_of_mem (mem_pr.mpr ⟨_, hx, rfl⟩ : (j, toV (vI x)) ∈ pr lv)
  exact lv_iinc E.1 E.2.1 hd hL hi hv hn rfl (fun ls' h' => kk H locs ls' hW hF (LH.st1 (v := vI v) h'))
theorem v_iadd (E : EN p s m args meth c D cy own cc nL ret nm) {x y : Int32} (hd : decode cc pc = .ok (.iadd, 1))  (kk : V p l e R s m args below meth c Q base D cy nL (pc + 1) lv (vI (x + y) :: st) A k n) : V p l e R s m args below meth c Q base D cy nL pc lv (vI y :: vI x :: st) A k n :=
  fun H locs ls hW hF hL => lv_iadd E.1 E.2.1 hd (kk H locs ls hW hF hL)
theorem v_isub (E : EN p s m args meth c D cy own cc nL ret nm) {x y : Int32} (hd : decode cc pc = .ok (.isub, 1))  (kk : V p l e R s m args below meth c Q base D cy nL (pc + 1) lv (vI (x - y) :: st) A k n) : V p l e R s m args below meth c Q base D cy nL pc lv (vI y :: vI x :: st) A k n :=
  fun H locs ls hW hF hL => lv_isub E.1 E.2.1 hd (kk H locs ls hW hF hL)
theorem v_imul (E : EN p s m args meth c D cy own cc nL ret nm) {x y : Int32} (hd : decode cc pc = .ok (.imul, 1))  (kk : V p l e R s m args below meth c Q base D cy nL (pc + 1) lv (vI (x * y) :: st) A k n) : V p l e R s m args below meth c Q base D cy nL pc lv (vI y :: vI x :: st) A k n :=
  fun H locs ls hW hF hL => lv_imul E.1 E.2.1 hd (kk H locs ls hW hF hL)
theorem v_iand (E : EN p s m args meth c D cy own cc nL ret nm) {x y : Int32} (hd : decode cc pc = .ok (.iand, 1))  (kk : V p l e R s m args below meth c Q base D cy nL (pc + 1) lv (vI (x &&& y) :: st) A k n) : V p l e R s m args below meth c Q base D cy nL pc lv (vI y :: vI x :: st) A k n :=
  fun H locs ls hW hF hL => lv_iand E.1 E.2.1 hd (kk H locs ls hW hF hL)
theorem v_ior (E : EN p s m args meth c D cy own cc nL ret nm) {x y : Int32} (hd : decode cc pc = .ok (.ior, 1))  (kk : V p l e R s m args below meth c Q base D cy nL (pc + 1) lv (vI (x ||| y) :: st) A k n) : V p l e R s m args below meth c Q base D cy nL pc lv (vI y :: vI x :: st) A k n :=
  fun H locs ls hW hF hL => lv_ior E.1 E.2.1 hd (kk H locs ls hW hF hL)
theorem v_ixor (E : EN p s m args meth c D cy own cc nL ret nm) {x y : Int32} (hd : decode cc pc = .ok (.ixor, 1))  (kk : V p l e R s m args below meth c Q base D cy nL (pc + 1) lv (vI (x ^^^ y) :: st) A k n) : V p l e R s m args below meth c Q base D cy nL pc lv (vI y :: vI x :: st) A k n :=
  fun H locs ls hW hF hL => lv_ixor E.1 E.2.1 hd (kk H locs ls hW hF hL)
theorem v_ishl (E : EN p s m args meth c D cy own cc nL ret nm) {x y : Int32} (hd : decode cc pc = .ok (.ishl, 1))  (kk : V p l e R s m args below meth c Q base D cy nL (pc + 1) lv (vI (x <<< (y &&& 31)) :: st) A k n) : V p l e R s m args below meth c Q base D cy nL pc lv (vI y :: vI x :: st) A k n :=
  fun H locs ls hW hF hL => lv_ishl E.1 E.2.1 hd (kk H locs ls hW hF hL)
theorem v_ishr (E : EN p s m args meth c D cy own cc nL ret nm) {x y : Int32} (hd : decode cc pc = .ok (.ishr, 1))  (kk : V p l e R s m args below meth c Q base D cy nL (pc + 1) lv (vI (x >>> (y &&& 31)) :: st) A k n) : V p l e R s m args below meth c Q base D cy nL pc lv (vI y :: vI x :: st) A k n :=
  fun H locs ls hW hF hL => lv_ishr E.1 E.2.1 hd (kk H locs ls hW hF hL)
theorem v_iushr (E : EN p s m args meth c D cy own cc nL ret nm) {x y : Int32} (hd : decode cc pc = .ok (.iushr, 1))  (kk : V p l e R s m args below meth c Q base D cy nL (pc + 1) lv (vI ((x.toUInt32 >>> (y.toUInt32 &&& Int32.toUInt32 31)).toInt32) :: st) A k n) : V p l e R s m args below meth c Q base D cy nL pc lv (vI y :: vI x :: st) A k n :=
  fun H locs ls hW hF hL => lv_iushr E.1 E.2.1 hd rfl (kk H locs ls hW hF hL)
theorem v_ladd (E : EN p s m args meth c D cy own cc nL ret nm) {x y : Int64} (hd : decode cc pc = .ok (.ladd, 1))  (kk : V p l e R s m args below meth c Q base D cy nL (pc + 1) lv (vJ (x + y) :: st) A k n) : V p l e R s m args below meth c Q base D cy nL pc lv (vJ y :: vJ x :: st) A k n :=
  fun H locs ls hW hF hL => lv_ladd E.1 E.2.1 hd (kk H locs ls hW hF hL)
theorem v_lmul (E : EN p s m args meth c D cy own cc nL ret nm) {x y : Int64} (hd : decode cc pc = .ok (.lmul, 1))  (kk : V p l e R s m args below meth c Q base D cy nL (pc + 1) lv (vJ (x * y) :: st) A k n) : V p l e R s m args below meth c Q base D cy nL pc lv (vJ y :: vJ x :: st) A k n :=
  fun H locs ls hW hF hL => lv_lmul E.1 E.2.1 hd (kk H locs ls hW hF hL)
theorem v_land (E : EN p s m args meth c D cy own cc nL ret nm) {x y : Int64} (hd : decode cc pc = .ok (.land, 1))  (kk : V p l e R s m args below meth c Q base D cy nL (pc + 1) lv (vJ (x &&& y) :: st) A k n) : V p l e R s m args below meth c Q base D cy nL pc lv (vJ y :: vJ x :: st) A k n :=
  fun H locs ls hW hF hL => lv_land E.1 E.2.1 hd (kk H locs ls hW hF hL)
theorem v_i2l (E : EN p s m args meth c D cy own cc nL ret nm) {x : Int32} (hd : decode cc pc = .ok (.i2l, 1))  (kk : V p l e R s m args below meth c Q base D cy nL (pc + 1) lv (vJ x.toInt64 :: st) A k n) : V p l e R s m args below meth c Q base D cy nL pc lv (vI x :: st) A k n :=
  fun H locs ls hW hF hL => lv_i2l E.1 E.2.1 hd rfl (kk H locs ls hW hF hL)
theorem v_l2i (E : EN p s m args meth c D cy own cc nL ret nm) {x : Int64} (hd : decode cc pc = .ok (.l2i, 1))  (kk : V p l e R s m args below meth c Q base D cy nL (pc + 1) lv (vI x.toInt32 :: st) A k n) : V p l e R s m args below meth c Q base D cy nL pc lv (vJ x :: st) A k n :=
  fun H locs ls hW hF hL => lv_l2i E.1 E.2.1 hd rfl (kk H locs ls hW hF hL)
theorem v_lcmp (E : EN p s m args meth c D cy own cc nL ret nm) {x y : Int64} (hd : decode cc pc = .ok (.lcmp, 1))  (kk : V p l e R s m args below meth c Q base D cy nL (pc + 1) lv (vI (lg_cmp x y) :: st) A k n) : V p l e R s m args below meth c Q base D cy nL pc lv (vJ y :: vJ x :: st) A k n :=
  fun H locs ls hW hF hL => W.lcmp E.1 E.2.1 hd (kk H locs ls hW hF hL)
theorem v_idiv (E : EN p s m args meth c D cy own cc nL ret nm) {x y v : Int32} (hv : dvI x y = some v) (hd : decode cc pc = .ok (.idiv, 1)) (kk : V p l e R s m args below meth c Q base D cy nL (pc + 1) lv (vI v :: st) A k n) : V p l e R s m args below meth c Q base D cy nL pc lv (vI y :: vI x :: st) A k n := by
  intro H locs ls hW hF hL
  unfold dvI at hv
  split at hv
  · cases hv
  · rename_i hne
    cases hv
    exact lv_idiv E.1 E.2.1 hd hne (kk H locs ls hW hF hL)
theorem v_irem (E : EN p s m args meth c D cy own cc nL ret nm) {x y v : Int32} (hv : rmI x y = some v) (hd : decode cc pc = .ok (.irem, 1)) (kk : V p l e R s m args below meth c Q base D cy nL (pc + 1) lv (vI v :: st) A k n) : V p l e R s m args below meth c Q base D cy nL pc lv (vI y :: vI x :: st) A k n := by
  intro H locs ls hW hF hL
  unfold rmI at hv
  split at hv
  · cases hv
  · rename_i hne
    cases hv
    exact lv_irem E.1 E.2.1 hd hne (kk H locs ls hW hF hL)
theorem v_lrem (E : EN p s m args meth c D cy own cc nL ret nm) {x y v : Int64} (hv : rmJ x y = some v) (hd : decode cc pc = .ok (.lrem, 1)) (kk : V p l e R s m args below meth c Q base D cy nL (pc + 1) lv (vJ v :: st) A k n) : V p l e R s m args below meth c Q base D cy nL pc lv (vJ y :: vJ x :: st) A k n := by
  intro H locs ls hW hF hL
  unfold rmJ at hv
  split at hv
  · cases hv
  · rename_i hne
    cases hv
    exact lv_lrem E.1 E.2.1 hd hne (kk H locs ls hW hF hL)
theorem cat1 {x : LV} (h : isJ (some x) = false) : (toV x).category = 1 := by rw [toV_cat, h]; rfl
theorem cat2 {x : LV} (h : isJ (some x) = true) : (toV x).category = 2 := by rw [toV_cat, h]; rfl
theorem v_dup (E : EN p s m args meth c D cy own cc nL ret nm) {x : LV} (hd : decode cc pc = .ok (.dup, 1)) (hx : isJ (some x) = false) (kk : V p l e R s m args below meth c Q base D cy nL (pc + 1) lv (x :: x :: st) A k n) : V p l e R s m args below meth c Q base D cy nL pc lv (x :: st) A k n :=
  fun H locs ls hW hF hL => lv_dup E.1 E.2.1 hd (cat1 hx) (kk H locs ls hW hF hL)
theorem v_dup2 (E : EN p s m args meth c D cy own cc nL ret nm) {x y : LV} (hd : decode cc pc = .ok (.dup2, 1)) (hx : isJ (some x) = false) (hy : isJ (some y) = false) (kk : V p l e R s m args below meth c Q base D cy nL (pc + 1) lv (x :: y :: x :: y :: st) A k n) : V p l e R s m args below meth c Q base D cy nL pc lv (x :: y :: st) A k n :=
  fun H locs ls hW hF hL => lv_dup2_11 E.1 E.2.1 hd (cat1 hx) (cat1 hy) (kk H locs ls hW hF hL)
theorem v_pop (E : EN p s m args meth c D cy own cc nL ret nm) {x : LV} (hd : decode cc pc = .ok (.pop, 1)) (hx : isJ (some x) = false) (kk : V p l e R s m args below meth c Q base D cy nL (pc + 1) lv (st) A k n) : V p l e R s m args below meth c Q base D cy nL pc lv (x :: st) A k n :=
  fun H locs ls hW hF hL => lv_pop E.1 E.2.1 hd (cat1 hx) (kk H locs ls hW hF hL)
theorem v_pop2 (E : EN p s m args meth c D cy own cc nL ret nm) {x : LV} (hd : decode cc pc = .ok (.pop2, 1)) (hx : isJ (some x) = true) (kk : V p l e R s m args below meth c Q base D cy nL (pc + 1) lv (st) A k n) : V p l e R s m args below meth c Q base D cy nL pc lv (x :: st) A k n :=
  fun H locs ls hW hF hL => lv_pop2_2 E.1 E.2.1 hd (cat2 hx) (kk H locs ls hW hF hL)
theorem v_aconst_null (E : EN p s m args meth c D cy own cc nL ret nm) (hd : decode cc pc = .ok (.aconst_null, 1)) (kk : V p l e R s m args below meth c Q base D cy nL (pc + 1) lv (vR none :: st) A k n) : V p l e R s m args below meth c Q base D cy nL pc lv st A k n :=
  fun H locs ls hW hF hL => lv_null E.1 E.2.1 hd (kk H locs ls hW hF hL)
theorem v_if_eq (E : EN p s m args meth c D cy own cc nL ret nm) {x : Int32} {off : Int} {tgt : Nat} (hd : decode cc pc = .ok (.ifCond .eq off, 3)) (ht : (pc : Int) + off = (tgt : Int)) (kt : x = 0 → V p l e R s m args below meth c Q base D cy nL tgt lv st A k n) (kf : ¬ x = 0 → V p l e R s m args below meth c Q base D cy nL (pc + 3) lv st A k n) : V p l e R s m args below meth c Q base D cy nL pc lv (vI x :: st) A k n :=
  fun H locs ls hW hF hL => lv_if_eq E.1 E.2.1 hd ht (fun q => kt q H locs ls hW hF hL) (fun q => kf q H locs ls hW hF hL)
theorem v_icmp_eq (E : EN p s m args meth c D cy own cc nL ret nm) {x y : Int32} {off : Int} {tgt : Nat} (hd : decode cc pc = .ok (.if_icmp .eq off, 3)) (ht : (pc : Int) + off = (tgt : Int)) (kt : x = y → V p l e R s m args below meth c Q base D cy nL tgt lv st A k n) (kf : ¬ x = y → V p l e R s m args below meth c Q base D cy nL (pc + 3) lv st A k n) : V p l e R s m args below meth c Q base D cy nL pc lv (vI y :: vI x :: st) A k n :=
  fun H locs ls hW hF hL => lv_icmp_eq E.1 E.2.1 hd ht (fun q => kt q H locs ls hW hF hL) (fun q => kf q H locs ls hW hF hL)
theorem v_if_ne (E : EN p s m args meth c D cy own cc nL ret nm) {x : Int32} {off : Int} {tgt : Nat} (hd : decode cc pc = .ok (.ifCond .ne off, 3)) (ht : (pc : Int) + off = (tgt : Int)) (kt : ¬ x = 0 → V p l e R s m args below meth c Q base D cy nL tgt lv st A k n) (kf : x = 0 → V p l e R s m args below meth c Q base D cy nL (pc + 3) lv st A k n) : V p l e R s m args below meth c Q base D cy nL pc lv (vI x :: st) A k n :=
  fun H locs ls hW hF hL => lv_if_ne E.1 E.2.1 hd ht (fun q => kt q H locs ls hW hF hL) (fun q => kf q H locs ls hW hF hL)
theorem v_icmp_ne (E : EN p s m args meth c D cy own cc nL ret nm) {x y : Int32} {off : Int} {tgt : Nat} (hd : decode cc pc = .ok (.if_icmp .ne off, 3)) (ht : (pc : Int) + off = (tgt : Int)) (kt : ¬ x = y → V p l e R s m args below meth c Q base D cy nL tgt lv st A k n) (kf : x = y → V p l e R s m args below meth c Q base D cy nL (pc + 3) lv st A k n) : V p l e R s m args below meth c Q base D cy nL pc lv (vI y :: vI x :: st) A k n :=
  fun H locs ls hW hF hL => lv_icmp_ne E.1 E.2.1 hd ht (fun q => kt q H locs ls hW hF hL) (fun q => kf q H locs ls hW hF hL)
theorem v_if_lt (E : EN p s m args meth c D cy own cc nL ret nm) {x : Int32} {off : Int} {tgt : Nat} (hd : decode cc pc = .ok (.ifCond .lt off, 3)) (ht : (pc : Int) + off = (tgt : Int)) (kt : x < 0 → V p l e R s m args below meth c Q base D cy nL tgt lv st A k n) (kf : ¬ x < 0 → V p l e R s m args below meth c Q base D cy nL (pc + 3) lv st A k n) : V p l e R s m args below meth c Q base D cy nL pc lv (vI x :: st) A k n :=
  fun H locs ls hW hF hL => lv_if_lt E.1 E.2.1 hd ht (fun q => kt q H locs ls hW hF hL) (fun q => kf q H locs ls hW hF hL)
theorem v_icmp_lt (E : EN p s m args meth c D cy own cc nL ret nm) {x y : Int32} {off : Int} {tgt : Nat} (hd : decode cc pc = .ok (.if_icmp .lt off, 3)) (ht : (pc : Int) + off = (tgt : Int)) (kt : x < y → V p l e R s m args below meth c Q base D cy nL tgt lv st A k n) (kf : ¬ x < y → V p l e R s m args below meth c Q base D cy nL (pc + 3) lv st A k n) : V p l e R s m args below meth c Q base D cy nL pc lv (vI y :: vI x :: st) A k n :=
  fun H locs ls hW hF hL => lv_icmp_lt E.1 E.2.1 hd ht (fun q => kt q H locs ls hW hF hL) (fun q => kf q H locs ls hW hF hL)
theorem v_if_ge (E : EN p s m args meth c D cy own cc nL ret nm) {x : Int32} {off : Int} {tgt : Nat} (hd : decode cc pc = .ok (.ifCond .ge off, 3)) (ht : (pc : Int) + off = (tgt : Int)) (kt : 0 ≤ x → V p l e R s m args below meth c Q base D cy nL tgt lv st A k n) (kf : ¬ 0 ≤ x → V p l e R s m args below meth c Q base D cy nL (pc + 3) lv st A k n) : V p l e R s m args below meth c Q base D cy nL pc lv (vI x :: st) A k n :=
  fun H locs ls hW hF hL => lv_if_ge E.1 E.2.1 hd ht (fun q => kt q H locs ls hW hF hL) (fun q => kf q H locs ls hW hF hL)
theorem v_icmp_ge (E : EN p s m args meth c D cy own cc nL ret nm) {x y : Int32} {off : Int} {tgt : Nat} (hd : decode cc pc = .ok (.if_icmp .ge off, 3)) (ht : (pc : Int) + off = (tgt : Int)) (kt : y ≤ x → V p l e R s m args below meth c Q base D cy nL tgt lv st A k n) (kf : ¬ y ≤ x → V p l e R s m args below meth c Q base D cy nL (pc + 3) lv st A k n) : V p l e R s m args below meth c Q base D cy nL pc lv (vI y :: vI x :: st) A k n :=
  fun H locs ls hW hF hL => lv_icmp_ge E.1 E.2.1 hd ht (fun q => kt q H locs ls hW hF hL) (fun q => kf q H locs ls hW hF hL)
theorem v_if_gt (E : EN p s m args meth c D cy own cc nL ret nm) {x : Int32} {off : Int} {tgt : Nat} (hd : decode cc pc = .ok (.ifCond .gt off, 3)) (ht : (pc : Int) + off = (tgt : Int)) (kt : 0 < x → V p l e R s m args below meth c Q base D cy nL tgt lv st A k n) (kf : ¬ 0 < x → V p l e R s m args below meth c Q base D cy nL (pc + 3) lv st A k n) : V p l e R s m args below meth c Q base D cy nL pc lv (vI x :: st) A k n :=
  fun H locs ls hW hF hL => lv_if_gt E.1 E.2.1 hd ht (fun q => kt q H locs ls hW hF hL) (fun q => kf q H locs ls hW hF hL)
theorem v_icmp_gt (E : EN p s m args meth c D cy own cc nL ret nm) {x y : Int32} {off : Int} {tgt : Nat} (hd : decode cc pc = .ok (.if_icmp .gt off, 3)) (ht : (pc : Int) + off = (tgt : Int)) (kt : y < x → V p l e R s m args below meth c Q base D cy nL tgt lv st A k n) (kf : ¬ y < x → V p l e R s m args below meth c Q base D cy nL (pc + 3) lv st A k n) : V p l e R s m args below meth c Q base D cy nL pc lv (vI y :: vI x :: st) A k n :=
  fun H locs ls hW hF hL => lv_icmp_gt E.1 E.2.1 hd ht (fun q => kt q H locs ls hW hF hL) (fun q => kf q H locs ls hW hF hL)
theorem v_if_le (E : EN p s m args meth c D cy own cc nL ret nm) {x : Int32} {off : Int} {tgt : Nat} (hd : decode cc pc = .ok (.ifCond .le off, 3)) (ht : (pc : Int) + off = (tgt : Int)) (kt : x ≤ 0 → V p l e R s m args below meth c Q base D cy nL tgt lv st A k n) (kf : ¬ x ≤ 0 → V p l e R s m args below meth c Q base D cy nL (pc + 3) lv st A k n) : V p l e R s m args below meth c Q base D cy nL pc lv (vI x :: st) A k n :=
  fun H locs ls hW hF hL => lv_if_le E.1 E.2.1 hd ht (fun q => kt q H locs ls hW hF hL) (fun q => kf q H locs ls hW hF hL)
theorem v_icmp_le (E : EN p s m args meth c D cy own cc nL ret nm) {x y : Int32} {off : Int} {tgt : Nat} (hd : decode cc pc = .ok (.if_icmp .le off, 3)) (ht : (pc : Int) + off = (tgt : Int)) (kt : x ≤ y → V p l e R s m args below meth c Q base D cy nL tgt lv st A k n) (kf : ¬ x ≤ y → V p l e R s m args below meth c Q base D cy nL (pc + 3) lv st A k n) : V p l e R s m args below meth c Q base D cy nL pc lv (vI y :: vI x :: st) A k n :=
  fun H locs ls hW hF hL => lv_icmp_le E.1 E.2.1 hd ht (fun q => kt q H locs ls hW hF hL) (fun q => kf q H locs ls hW hF hL)
theorem v_goto (E : EN p s m args meth c D cy own cc nL ret nm) {off : Int} {tgt : Nat} (hd : decode cc pc = .ok (.goto off, 3)) (ht : (pc : Int) + off = (tgt : Int)) (kk : V p l e R s m args below meth c Q base D cy nL tgt lv st A k n) : V p l e R s m args below meth c Q base D cy nL pc lv st A k n :=
  fun H locs ls hW hF hL => lv_goto E.1 E.2.1 hd ht (kk H locs ls hW hF hL)
theorem v_ifnull (E : EN p s m args meth c D cy own cc nL ret nm) {x : Option Nat} {off : Int} {tgt : Nat} (hd : decode cc pc = .ok (.ifnull off, 3)) (ht : (pc : Int) + off = (tgt : Int)) (kt : x = none → V p l e R s m args below meth c Q base D cy nL tgt lv st A k n) (kf : ¬ x = none → V p l e R s m args below meth c Q base D cy nL (pc + 3) lv st A k n) : V p l e R s m args below meth c Q base D cy nL pc lv (vR x :: st) A k n := by
  intro H locs ls hW hF hL
  cases x with
  | none => exact lv_ifnullN E.1 E.2.1 hd ht (kt rfl H locs ls hW hF hL)
  | some a => exact lv_ifnull E.1 E.2.1 hd (kf (fun q => by cases q) H locs ls hW hF hL)
theorem v_ifnonnull (E : EN p s m args meth c D cy own cc nL ret nm) {x : Option Nat} {off : Int} {tgt : Nat} (hd : decode cc pc = .ok (.ifnonnull off, 3)) (ht : (pc : Int) + off = (tgt : Int)) (kt : ¬ x = none → V p l e R s m args below meth c Q base D cy nL tgt lv st A k n) (kf : x = none → V p l e R s m args below meth c Q base D cy nL (pc + 3) lv st A k n) : V p l e R s m args below meth c Q base D cy nL pc lv (vR x :: st) A k n := by
  intro H locs ls hW hF hL
  cases x with
  | none => exact lv_ifnonnullN E.1 E.2.1 hd (kf rfl H locs ls hW hF hL)
  | some a => exact lv_ifnonnull E.1 E.2.1 hd ht (kt (fun q => by cases q) H locs ls hW hF hL)
/-- a switch: the place of the number among the cases (their count: none of them) -/
def swi (x : Int32) (lo hi : Int) : Nat := if x.toInt < lo ∨ hi < x.toInt then (hi - lo + 1).toNat else (x.toInt - lo).toNat
theorem v_tsw (E : EN p s m args meth c D cy own cc nL ret nm) {x : Int32} {dflt lo hi : Int} {offs : Array Int} {len : Nat} {tgts : List Nat} (hd : decode cc pc = .ok (.tableswitch dflt lo hi offs, len)) (ht : ∀ (j : Nat) (off : Int), offs[j]? = some off → ∃ t : Nat, tgts[j]? = some t ∧ (pc : Int) + off = (t : Int)) (hz : (hi - lo + 1).toNat = offs.size) (hzt : tgts[offs.size]? = some ((pc : Int) + dflt).toNat) (hdf : 0 ≤ (pc : Int) + dflt) (hlh : lo ≤ hi + 1)
    (kk : ∀ (j t : Nat), swi x lo hi = j → tgts[j]? = some t → V p l e R s m args below meth c Q base D cy nL t lv st A k n) : V p l e R s m args below meth c Q base D cy nL pc lv (vI x :: st) A k n := by
  intro H locs ls hW hF hL
  by_cases hx : x.toInt < lo ∨ hi < x.toInt
  · exact lv_tableOut (tgt := ((pc : Int) + dflt).toNat) E.1 E.2.1 hd hx (by omega) (kk _ _ (if_pos hx) (by rw [hz]; exact hzt) H locs ls hW hF hL)
  · have hlt : (x.toInt - lo).toNat < offs.size := by omega
    obtain ⟨t, h1, h2⟩ := ht (x.toInt - lo).toNat _ (Array.getElem?_eq_getElem hlt)
    exact lv_tableIn E.1 E.2.1 hd (fun q => hx (Or.inl q)) (fun q => hx (Or.inr q)) (Array.getElem?_eq_getElem hlt) h2 (kk _ t (if_neg hx) h1 H locs ls hW hF hL)
theorem v_drop (ks : List Nat) (hl : dr lv ks = lv') (kk : V p l e R s m args below meth c Q base D cy nL pc lv' st A k n) : V p l e R s m args below meth c Q base D cy nL pc lv st A k n := fun H locs ls hW hF hL => kk H locs ls hW hF (hl ▸ hL.dr ks)
theorem v_widen {k' n' : Nat} (h1 : k ≤ k') (h2 : n ≤ n') (kk : V p l e R s m args below meth c Q base D cy nL pc lv st A k' n') : V p l e R s m args below meth c Q base D cy nL pc lv st A k n := fun H locs ls hW hF hL => W.widen h1 h2 (kk H locs ls hW hF hL)
end RV
end
section
section HV
variable {p : Program} {l : Launch} {e : Env} {R : Room} {s : State} {m : MethodId} {args : Array Value} {below : List Frame} {meth : Method} {c : Code} {Q : State → Prop} {base : Nat} {D : va_G} {cy : Nat → ClassId} {own : String} {cc : ByteArray} {nL : Nat} {ret : Option FieldType} {nm : String} {pc : Nat} {lv lv' : List (Option LV)} {st : List LV} {A : AH} {k n : Nat}
theorem WH.ob {H : Heap} {ci a : Nat} (hW : WH base D cy A H) (ha : Hk A a = ci + 1) (hci : ci ≤ 12) : t_OB a (D.1 ci) (nF ci) (D.2 ci) H (fun j => fv A ci j a) := by
  have h := (hW.2.2.2.2 a (by omega)).1 (by omega)
  rw [ha, Nat.add_sub_cancel] at h
  exact h
theorem v_get (E : EN p s m args meth c D cy own cc nL ret nm) {ci kf idx : Nat} {C : String} {T : u_T} {N : Nat} (hc : vwCl[ci]? = some (C, T, N)) (hin : ∀ w ∈ u_ws C T N, w ∈ lw_g) (hN : nF ci = N) (hkf : kf < N) (hdecl : (T kf).1 = C) (hlink : Cond.fieldLink own idx C (T kf).2.1 (T kf).2.2.1 ∈ lw_g) (hci : ci ≤ 12) {a : Nat} (ha : Hk A a = ci + 1) (hd : decode cc pc = .ok (.getfield idx, 3)) {x : LV} (hx : fv A ci kf a = toV x)
    (kk : V p l e R s m args below meth c Q base D cy nL (pc + 3) lv (x :: st) A k n) : V p l e R s m args below meth c Q base D cy nL pc lv (vR (some a) :: st) A k n := by
  intro H locs ls hW hF hL
  obtain ⟨hex, hb, -, hown, hts, hK, -⟩ := E
  obtain ⟨cell, q1, q2, q3, q4⟩ := hW.ob ha hci
  obtain ⟨hS, hfc, kC, hkC, hkind⟩ := hK.1 ci _ hc
  obtain ⟨cf, kff, fi, f, hi, hsl⟩ := hS kf hkf
  have hlk := hts _ hlink
  rw [← hdecl] at hlk
  refine W.getf hex hb hown hlk hi (u_facts hfc hkC (u_lays hts hin hkf) hi).1 q1 (by rw [q3]; exact fun h => by cases h) (v := toV x) ?_ rfl rfl hd (kk H locs ls hW hF hL)
  rw [hsl, q4 kf (by rw [hN]; exact hkf)]
  exact congrArg some hx
theorem v_gI (E : EN p s m args meth c D cy own cc nL ret nm) {ci kf idx : Nat} {C : String} {T : u_T} {N : Nat} (hc : vwCl[ci]? = some (C, T, N)) (hin : ∀ w ∈ u_ws C T N, w ∈ lw_g) (hN : nF ci = N) (hkf : kf < N) (hdecl : (T kf).1 = C) (hlink : Cond.fieldLink own idx C (T kf).2.1 (T kf).2.2.1 ∈ lw_g) (hci : ci ≤ 12) (hft : ft ci kf = 0) {o : Option Nat} {v : Int32} (e1 : gI A (ci + 1) (32 * ci + kf) o = some v) (hd : decode cc pc = .ok (.getfield idx, 3))
    (kk : V p l e R s m args below meth c Q base D cy nL (pc + 3) lv (vI v :: st) A k n) : V p l e R s m args below meth c Q base D cy nL pc lv (vR o :: st) A k n := by
  unfold gI at e1
  split at e1
  · cases e1
  · split at e1
    · rename_i ha
      cases e1
      exact v_get E hc hin hN hkf hdecl hlink hci ha hd (by unfold fv; rw [if_pos hft]; rfl) kk
    · cases e1
theorem v_gJ (E : EN p s m args meth c D cy own cc nL ret nm) {ci kf idx : Nat} {C : String} {T : u_T} {N : Nat} (hc : vwCl[ci]? = some (C, T, N)) (hin : ∀ w ∈ u_ws C T N, w ∈ lw_g) (hN : nF ci = N) (hkf : kf < N) (hdecl : (T kf).1 = C) (hlink : Cond.fieldLink own idx C (T kf).2.1 (T kf).2.2.1 ∈ lw_g) (hci : ci ≤ 12) (hft : ft ci kf = 1) {o : Option Nat} {v : Int64} (e1 : gJ A (ci + 1) (32 * ci + kf) o = some v) (hd : decode cc pc = .ok (.getfield idx, 3))
    (kk : V p l e R s m args below meth c Q base D cy nL (pc + 3) lv (vJ v :: st) A k n) : V p l e R s m args below meth c Q base D cy nL pc lv (vR o :: st) A k n := by
  unfold gJ at e1
  split at e1
  · cases e1
  · split at e1
    · rename_i ha
      cases e1
      exact v_get E hc hin hN hkf hdecl hlink hci ha hd (by unfold fv; rw [hft, if_neg (by decide), if_pos rfl]; rfl) kk
    · cases e1
theorem v_gR (E : EN p s m args meth c D cy own cc nL ret nm) {ci kf idx : Nat} {C : String} {T : u_T} {N : Nat} (hc : vwCl[ci]? = some (C, T, N)) (hin : ∀ w ∈ u_ws C T N, w ∈ lw_g) (hN : nF ci = N) (hkf : kf < N) (hdecl : (T kf).1 = C) (hlink : Cond.fieldLink own idx C (T kf).2.1 (T kf).2.2.1 ∈ lw_g) (hci : ci ≤ 12) (hft : ft ci kf = 2) {o : Option Nat} {v : Option Nat} (e1 : gR A (ci + 1) (32 * ci + kf) o = some v) (hd : decode cc pc = .ok (.getfield idx, 3))
    (kk : V p l e R s m args below meth c Q base D cy nL (pc + 3) lv (vR v :: st) A k n) : V p l e R s m args below meth c Q base D cy nL pc lv (vR o :: st) A k n := by
  unfold gR at e1
  split at e1
  · cases e1
  · split at e1
    · rename_i ha
      cases e1
      exact v_get E hc hin hN hkf hdecl hlink hci ha hd (by unfold fv; rw [hft, if_neg (by decide), if_neg (by decide)]; rfl) kk
    · cases e1
/-- a field is written: the new heap differs at this object alone -/
theorem v_put (E : EN p s m args meth c D cy own cc nL ret nm) {ci kf idx : Nat} {C : String} {T : u_T} {N : Nat} {ty : FieldType} (tyT : Nat → FieldType) (hc : vwCl[ci]? = some (C, T, N)) (hin : ∀ w ∈ u_ws C T N, w ∈ lw_g) (htyT : ∀ j, j < N → parseFieldDescriptor (T j).2.2.1 = some (tyT j)) (hnm : ∀ a, a < N → ∀ b, b < N → a ≠ b → (T a).2.1 ≠ (T b).2.1) (hN : nF ci = N) (hkf : kf < N) (hdecl : (T kf).1 = C) (hlink : Cond.fieldLink own idx C (T kf).2.1 (T kf).2.2.1 ∈ lw_g) (hci : ci ≤ 12) (hfin : (T kf).2.2.2 = false ∨ ((T kf).2.2.2 = true ∧ nm = "<init>" ∧ C = own))
    {A' : AH} {a : Nat} (ha : Hk A a = ci + 1) {x : LV} (hty : parseFieldDescriptor (T kf).2.2.1 = some ty) (hnr : narrow ty (toV x) = toV x) (hft : fits ty (toV x) = true)
    (e1 : Hk A' = Hk A) (e2 : Hn A' = Hn A) (e0 : Hs A' = Hs A) (e3 : ∀ b, b ≠ a → ∀ f, Hi A' f b = Hi A f b ∧ Hj A' f b = Hj A f b ∧ Hr A' f b = Hr A f b ∧ He A' b f = He A b f ∧ Hq A' b f = Hq A b f) (e4 : ∀ j, j < N → fv A' ci j a = if j = kf then toV x else fv A ci j a)
    (hd : decode cc pc = .ok (.putfield idx, 3)) (kk : V p l e R s m args below meth c Q base D cy nL (pc + 3) lv st A' k n) : V p l e R s m args below meth c Q base D cy nL pc lv (x :: vR (some a) :: st) A k n := by
  intro H locs ls hW hF hL
  obtain ⟨hex, hb, -, hown, hts, hK, -, -, -, hname⟩ := E
  obtain ⟨cell, q1, q2, q3, q4⟩ := hW.ob ha hci
  have hap := va_apart (own := own) hts hin tyT htyT hnm hK hc
  obtain ⟨hS, hfc, kC, hkC, hkind⟩ := hK.1 ci _ hc
  obtain ⟨cf, kff, fi, f, hi, hsl⟩ := hS kf hkf
  have hlk := hts _ hlink
  rw [← hdecl] at hlk
  have hst := (u_facts hfc hkC (u_lays hts hin hkf) hi).1
  have hlay := hts _ (hin _ (u_in_lay hkf))
  have hfin' : ∀ H' : Heap, H'[a]? = some (cell.setSlot f.slot (toV x)) → H'.size = H.size → (∀ q, q ≠ a → H'[q]? = H[q]?) → W p l e R s m args below meth c H' (locs ++ [⟨a, f.slot⟩]) k n Q (F0 m (pc + 3) ls (st.map toV)) := by
    intro H' g1 g2 g3
    refine kk H' _ ls (hW.put (a := a) e1 e2 e0 e3 g2 g3 (by omega) ⟨fun _ => ?_, fun q => ?_, fun q => ?_⟩) (hF.put g3 (hW.2.1 a (by omega)).1) hL
    · rw [e1, ha, Nat.add_sub_cancel, hN]
      refine ⟨_, g1, q2, q3, fun j hj => ?_⟩
      have q4' : ∀ j, j < N → cell.slots[(D.2 ci) j]? = some (fv A ci j a) := fun j hj => q4 j (by rw [hN]; exact hj)
      rw [hsl, t_set q4' hap hkf (toV x) j hj]
      show some _ = some (fv A' ci j a)
      rw [e4 j hj]
      rfl
    · rw [e1, ha] at q; omega
    · rw [e1, ha] at q; omega
  unfold u_lay at hlay
  rcases hfin with hfin | ⟨hfin, hin2, hdo⟩
  · rw [if_neg (by rw [hfin]; decide)] at hlay
    have h6 := u_store hfc hkC hkind hlay hi hty hnr hft
    exact W.putK hex hb (f := f) ⟨hown, hlk, ⟨_, _, _, hi⟩, hst⟩ (by rw [q2]; exact h6) q1 q3 (by rw [hsl]; exact k2_hasslot (q4 kf (by rw [hN]; exact hkf))) rfl rfl hd hfin'
  · rw [if_pos hfin] at hlay
    have hcf : m.cls = cf := by
      obtain ⟨_, _, c', _, _, _, -, -, hf', -, -, -, hown2, -⟩ := Cond.laysFinal_spec hlay
      have g1 : c' = cf := by have := hi.symm.trans hf'; simp at this; exact this.1.symm
      rw [hdecl, hdo] at hown2
      rw [← g1]; exact Option.some.inj (hown.symm.trans hown2)
    have h6 := u_fits hfc hkC hkind (Or.inr hlay) hi hty hnr hft
    exact W.putFinK hex hb hown hlk hi hst hcf (hname.trans hin2) (by rw [q2]; exact h6) q1 q3 (by rw [hsl]; exact k2_hasslot (q4 kf (by rw [hN]; exact hkf))) rfl rfl hd hfin'
theorem up2_ne {α : Type} {f : Nat → Nat → α} {a b x y : Nat} {v : α} (h : ¬ (x = a ∧ y = b)) : up2 f a b v x y = f x y := if_neg h
theorem up2_eq {α : Type} {f : Nat → Nat → α} {a b : Nat} {v : α} : up2 f a b v a b = v := if_pos ⟨rfl, rfl⟩
theorem fv_si {ci kf j a : Nat} {v : Int32} (hft : ft ci kf = 0) : fv (si A (32 * ci + kf) a v) ci j a = if j = kf then toV (vI v) else fv A ci j a := by
  by_cases hj : j = kf
  · rw [if_pos hj, hj]
    unfold fv
    rw [if_pos hft]
    exact congrArg Value.int up2_eq
  · rw [if_neg hj]
    unfold fv
    rw [show Hi (si A (32 * ci + kf) a v) (32 * ci + j) a = Hi A (32 * ci + j) a from up2_ne (by omega)]
    rfl
theorem fv_sj {ci kf j a : Nat} {v : Int64} (hft : ft ci kf = 1) : fv (sj A (32 * ci + kf) a v) ci j a = if j = kf then toV (vJ v) else fv A ci j a := by
  by_cases hj : j = kf
  · rw [if_pos hj, hj]
    unfold fv
    rw [hft, if_neg (by decide), if_pos rfl]
    exact congrArg Value.long up2_eq
  · rw [if_neg hj]
    unfold fv
    rw [show Hj (sj A (32 * ci + kf) a v) (32 * ci + j) a = Hj A (32 * ci + j) a from up2_ne (by omega)]
    rfl
theorem fv_sr {ci kf j a : Nat} {v : Option Nat} (hft : ft ci kf = 2) : fv (sr A (32 * ci + kf) a v) ci j a = if j = kf then toV (vR v) else fv A ci j a := by
  by_cases hj : j = kf
  · rw [if_pos hj, hj]
    unfold fv
    rw [hft, if_neg (by decide), if_neg (by decide)]
    exact congrArg va_rf up2_eq
  · rw [if_neg hj]
    unfold fv
    rw [show Hr (sr A (32 * ci + kf) a v) (32 * ci + j) a = Hr A (32 * ci + j) a from up2_ne (by omega)]
    rfl
theorem v_pI (E : EN p s m args meth c D cy own cc nL ret nm) {ci kf idx : Nat} {C : String} {T : u_T} {N : Nat} {ty : FieldType} (tyT : Nat → FieldType) (hc : vwCl[ci]? = some (C, T, N)) (hin : ∀ w ∈ u_ws C T N, w ∈ lw_g) (htyT : ∀ j, j < N → parseFieldDescriptor (T j).2.2.1 = some (tyT j)) (hnm : ∀ a, a < N → ∀ b, b < N → a ≠ b → (T a).2.1 ≠ (T b).2.1) (hN : nF ci = N) (hkf : kf < N) (hdecl : (T kf).1 = C) (hlink : Cond.fieldLink own idx C (T kf).2.1 (T kf).2.2.1 ∈ lw_g) (hci : ci ≤ 12) (hfin : (T kf).2.2.2 = false ∨ ((T kf).2.2.2 = true ∧ nm = "<init>" ∧ C = own)) (hft : ft ci kf = 0) (hty : parseFieldDescriptor (T kf).2.2.1 = some ty) (htyi : ty = .int)
    {o : Option Nat} {v : Int32} {A' : AH} (e1 : pI A (ci + 1) (32 * ci + kf) o v = some A') (hd : decode cc pc = .ok (.putfield idx, 3)) (kk : V p l e R s m args below meth c Q base D cy nL (pc + 3) lv st A' k n) : V p l e R s m args below meth c Q base D cy nL pc lv (vI v :: vR o :: st) A k n := by
  unfold pI at e1
  split at e1
  · cases e1
  · rename_i a
    split at e1
    · rename_i ha
      cases e1
      refine v_put E tyT hc hin htyT hnm hN hkf hdecl hlink hci hfin (A' := si A (32 * ci + kf) a v) (a := a) ha hty (by rw [htyi]; rfl) (by rw [htyi]; rfl) rfl rfl rfl (fun b hb f => ?_) (fun j _ => fv_si hft) hd kk
      exact ⟨up2_ne (fun q => hb q.2), rfl, rfl, rfl, rfl⟩
    · cases e1
theorem v_pZ (E : EN p s m args meth c D cy own cc nL ret nm) {ci kf idx : Nat} {C : String} {T : u_T} {N : Nat} {ty : FieldType} (tyT : Nat → FieldType) (hc : vwCl[ci]? = some (C, T, N)) (hin : ∀ w ∈ u_ws C T N, w ∈ lw_g) (htyT : ∀ j, j < N → parseFieldDescriptor (T j).2.2.1 = some (tyT j)) (hnm : ∀ a, a < N → ∀ b, b < N → a ≠ b → (T a).2.1 ≠ (T b).2.1) (hN : nF ci = N) (hkf : kf < N) (hdecl : (T kf).1 = C) (hlink : Cond.fieldLink own idx C (T kf).2.1 (T kf).2.2.1 ∈ lw_g) (hci : ci ≤ 12) (hfin : (T kf).2.2.2 = false ∨ ((T kf).2.2.2 = true ∧ nm = "<init>" ∧ C = own)) (hft : ft ci kf = 0) (hty : parseFieldDescriptor (T kf).2.2.1 = some ty) (htyi : ty = .boolean)
    {o : Option Nat} {v : Int32} {A' : AH} (e1 : pZ A (ci + 1) (32 * ci + kf) o v = some A') (hd : decode cc pc = .ok (.putfield idx, 3)) (kk : V p l e R s m args below meth c Q base D cy nL (pc + 3) lv st A' k n) : V p l e R s m args below meth c Q base D cy nL pc lv (vI v :: vR o :: st) A k n := by
  unfold pZ at e1
  split at e1
  · cases e1
  · rename_i a
    split at e1
    · rename_i ha
      cases e1
      refine v_put E tyT hc hin htyT hnm hN hkf hdecl hlink hci hfin (A' := si A (32 * ci + kf) a v) (a := a) ha.1 hty (by rw [htyi]; rcases ha.2 with q | q <;> rw [q] <;> rfl) (by rw [htyi]; rcases ha.2 with q | q <;> rw [q] <;> rfl) rfl rfl rfl (fun b hb f => ?_) (fun j _ => fv_si hft) hd kk
      exact ⟨up2_ne (fun q => hb q.2), rfl, rfl, rfl, rfl⟩
    · cases e1
theorem v_pJ (E : EN p s m args meth c D cy own cc nL ret nm) {ci kf idx : Nat} {C : String} {T : u_T} {N : Nat} {ty : FieldType} (tyT : Nat → FieldType) (hc : vwCl[ci]? = some (C, T, N)) (hin : ∀ w ∈ u_ws C T N, w ∈ lw_g) (htyT : ∀ j, j < N → parseFieldDescriptor (T j).2.2.1 = some (tyT j)) (hnm : ∀ a, a < N → ∀ b, b < N → a ≠ b → (T a).2.1 ≠ (T b).2.1) (hN : nF ci = N) (hkf : kf < N) (hdecl : (T kf).1 = C) (hlink : Cond.fieldLink own idx C (T kf).2.1 (T kf).2.2.1 ∈ lw_g) (hci : ci ≤ 12) (hfin : (T kf).2.2.2 = false ∨ ((T kf).2.2.2 = true ∧ nm = "<init>" ∧ C = own)) (hft : ft ci kf = 1) (hty : parseFieldDescriptor (T kf).2.2.1 = some ty) (htyi : ty = .long)
    {o : Option Nat} {v : Int64} {A' : AH} (e1 : pJ A (ci + 1) (32 * ci + kf) o v = some A') (hd : decode cc pc = .ok (.putfield idx, 3)) (kk : V p l e R s m args below meth c Q base D cy nL (pc + 3) lv st A' k n) : V p l e R s m args below meth c Q base D cy nL pc lv (vJ v :: vR o :: st) A k n := by
  unfold pJ at e1
  split at e1
  · cases e1
  · rename_i a
    split at e1
    · rename_i ha
      cases e1
      refine v_put E tyT hc hin htyT hnm hN hkf hdecl hlink hci hfin (A' := sj A (32 * ci + kf) a v) (a := a) ha hty (by rw [htyi]; rfl) (by rw [htyi]; rfl) rfl rfl rfl (fun b hb f => ?_) (fun j _ => fv_sj hft) hd kk
      exact ⟨rfl, up2_ne (fun q => hb q.2), rfl, rfl, rfl⟩
    · cases e1
theorem v_pR (E : EN p s m args meth c D cy own cc nL ret nm) {ci kf idx : Nat} {C : String} {T : u_T} {N : Nat} {ty : FieldType} (tyT : Nat → FieldType) (hc : vwCl[ci]? = some (C, T, N)) (hin : ∀ w ∈ u_ws C T N, w ∈ lw_g) (htyT : ∀ j, j < N → parseFieldDescriptor (T j).2.2.1 = some (tyT j)) (hnm : ∀ a, a < N → ∀ b, b < N → a ≠ b → (T a).2.1 ≠ (T b).2.1) (hN : nF ci = N) (hkf : kf < N) (hdecl : (T kf).1 = C) (hlink : Cond.fieldLink own idx C (T kf).2.1 (T kf).2.2.1 ∈ lw_g) (hci : ci ≤ 12) (hfin : (T kf).2.2.2 = false ∨ ((T kf).2.2.2 = true ∧ nm = "<init>" ∧ C = own)) (hft : ft ci kf = 2) (hty : parseFieldDescriptor (T kf).2.2.1 = some ty) (htyi : (∃ z, ty = .object z) ∨ ∃ z, ty = .array z)
    {o : Option Nat} {v : Option Nat} {A' : AH} (e1 : pR A (ci + 1) (32 * ci + kf) o v = some A') (hd : decode cc pc = .ok (.putfield idx, 3)) (kk : V p l e R s m args below meth c Q base D cy nL (pc + 3) lv st A' k n) : V p l e R s m args below meth c Q base D cy nL pc lv (vR v :: vR o :: st) A k n := by
  unfold pR at e1
  split at e1
  · cases e1
  · rename_i a
    split at e1
    · rename_i ha
      cases e1
      refine v_put E tyT hc hin htyT hnm hN hkf hdecl hlink hci hfin (A' := sr A (32 * ci + kf) a v) (a := a) ha hty (by rcases htyi with ⟨z, q⟩ | ⟨z, q⟩ <;> rw [q] <;> cases v <;> rfl) (by rcases htyi with ⟨z, q⟩ | ⟨z, q⟩ <;> rw [q] <;> cases v <;> rfl) rfl rfl rfl (fun b hb f => ?_) (fun j _ => fv_sr hft) hd kk
      exact ⟨rfl, rfl, up2_ne (fun q => hb q.2), rfl, rfl⟩
    · cases e1
theorem WH.ia {H : Heap} {a kd : Nat} (hW : WH base D cy A H) (ha : Hk A a = kd) (hkd : kd = 14 ∨ kd = 15) : H[a]? = some (arrV (cy kd) (Hn A a) (fun j => .int (He A a j))) := by
  have h := (hW.2.2.2.2 a (by omega)).2.1 (by omega)
  rw [ha] at h
  exact h
theorem WH.ra {H : Heap} {a kd : Nat} (hW : WH base D cy A H) (ha : Hk A a = kd) (hkd : 16 ≤ kd) : H[a]? = some (arrV (cy kd) (Hn A a) (fun j => va_rf (Hq A a j))) := by
  have h := (hW.2.2.2.2 a (by omega)).2.2 (by omega)
  rw [ha] at h
  exact h
theorem v_iaload (E : EN p s m args meth c D cy own cc nL ret nm) {o : Option Nat} {i v : Int32} (e1 : aI A 14 o i = some v) (hd : decode cc pc = .ok (.iaload, 1)) (kk : V p l e R s m args below meth c Q base D cy nL (pc + 1) lv (vI v :: st) A k n) : V p l e R s m args below meth c Q base D cy nL pc lv (vI i :: vR o :: st) A k n := by
  unfold aI at e1
  split at e1
  · cases e1
  · rename_i a
    split at e1
    · rename_i ha
      cases e1
      intro H locs ls hW hF hL
      have hc := hW.ia ha.1 (Or.inl rfl)
      exact W.iald (v := .int (He A a i.toNatClampNeg)) E.1 E.2.1 hc ((E.2.2.2.2.2.1.2 0 _ rfl).1 _ _) (fun q => by cases q) (by rw [arrV_size]; exact fun q => q.elim ha.2.1 (Nat.not_le.mpr ha.2.2)) (arrV_read _ _ ha.2.2) rfl rfl hd (kk H locs ls hW hF hL)
    · cases e1
theorem v_baload (E : EN p s m args meth c D cy own cc nL ret nm) {o : Option Nat} {i v : Int32} (e1 : aI A 15 o i = some v) (hd : decode cc pc = .ok (.baload, 1)) (kk : V p l e R s m args below meth c Q base D cy nL (pc + 1) lv (vI v :: st) A k n) : V p l e R s m args below meth c Q base D cy nL pc lv (vI i :: vR o :: st) A k n := by
  unfold aI at e1
  split at e1
  · cases e1
  · rename_i a
    split at e1
    · rename_i ha
      cases e1
      intro H locs ls hW hF hL
      have hc := hW.ia ha.1 (Or.inr rfl)
      exact W.zald (v := .int (He A a i.toNatClampNeg)) E.1 E.2.1 hc ((E.2.2.2.2.2.1.2 1 _ rfl).1 _ _) (fun q => by cases q) (by rw [arrV_size]; exact fun q => q.elim ha.2.1 (Nat.not_le.mpr ha.2.2)) (arrV_read _ _ ha.2.2) rfl rfl hd (kk H locs ls hW hF hL)
    · cases e1
theorem v_aaload (E : EN p s m args meth c D cy own cc nL ret nm) {kd t0 : Nat} {C : String} (hkd : 16 ≤ kd) (ht : (tyl cy)[t0]? = some (cy kd, .object C)) {o v : Option Nat} {i : Int32} (e1 : aR A kd o i = some v) (hd : decode cc pc = .ok (.aaload, 1)) (kk : V p l e R s m args below meth c Q base D cy nL (pc + 1) lv (vR v :: st) A k n) : V p l e R s m args below meth c Q base D cy nL pc lv (vI i :: vR o :: st) A k n := by
  unfold aR at e1
  split at e1
  · cases e1
  · rename_i a
    split at e1
    · rename_i ha
      cases e1
      intro H locs ls hW hF hL
      have hc := hW.ra ha.1 hkd
      exact W.aald (v := va_rf (Hq A a i.toNatClampNeg)) (ty := .object C) E.1 E.2.1 hc ((E.2.2.2.2.2.1.2 t0 _ ht).1 _ _) rfl (fun q => by cases q) (by rw [arrV_size]; exact fun q => q.elim ha.2.1 (Nat.not_le.mpr ha.2.2)) (arrV_read _ _ ha.2.2) rfl rfl hd (kk H locs ls hW hF hL)
    · cases e1
theorem WH.seti {H H' : Heap} {a kd i : Nat} {v : Int32} (hW : WH base D cy A H) (ha : Hk A a = kd) (hkd : kd = 14 ∨ kd = 15) (z : H'.size = H.size) (o : ∀ q, q ≠ a → H'[q]? = H[q]?) (hc : H'[a]? = some ((arrV (cy kd) (Hn A a) (fun j => .int (He A a j))).setSlot i (.int v))) : WH base D cy (se A a i v) H' := by
  refine hW.put (a := a) rfl rfl rfl (fun b hb f => ⟨rfl, rfl, rfl, up2_ne (fun q => hb q.1), rfl⟩) z o (by omega) ⟨fun q => ?_, fun _ => ?_, fun q => ?_⟩
  · have q : Hk A a ≤ 13 := q
    omega
  · show H'[a]? = some (arrV (cy (Hk A a)) (Hn A a) (fun j => .int (He (se A a i v) a j)))
    rw [hc, arrV_store, ha]
    congr 2
    funext j
    by_cases hj : j = i
    · subst hj
      exact (if_pos rfl).trans (congrArg Value.int up2_eq).symm
    · exact (if_neg hj).trans (congrArg Value.int (up2_ne (fun q => hj q.2))).symm
  · have q : 16 ≤ Hk A a := q
    omega
theorem WH.setr {H H' : Heap} {a kd i : Nat} {v : Option Nat} (hW : WH base D cy A H) (ha : Hk A a = kd) (hkd : 16 ≤ kd) (z : H'.size = H.size) (o : ∀ q, q ≠ a → H'[q]? = H[q]?) (hc : H'[a]? = some ((arrV (cy kd) (Hn A a) (fun j => va_rf (Hq A a j))).setSlot i (va_rf v))) : WH base D cy (sq A a i v) H' := by
  refine hW.put (a := a) rfl rfl rfl (fun b hb f => ⟨rfl, rfl, rfl, rfl, up2_ne (fun q => hb q.1)⟩) z o (by omega) ⟨fun q => ?_, fun q => ?_, fun _ => ?_⟩
  · have q : Hk A a ≤ 13 := q
    omega
  · have q : Hk A a = 14 ∨ Hk A a = 15 := q
    omega
  · show H'[a]? = some (arrV (cy (Hk A a)) (Hn A a) (fun j => va_rf (Hq (sq A a i v) a j)))
    rw [hc, arrV_store, ha]
    congr 2
    funext j
    by_cases hj : j = i
    · subst hj
      exact (if_pos rfl).trans (congrArg va_rf up2_eq).symm
    · exact (if_neg hj).trans (congrArg va_rf (up2_ne (fun q => hj q.2))).symm
theorem v_iastore (E : EN p s m args meth c D cy own cc nL ret nm) {o : Option Nat} {i v : Int32} {A' : AH} (e1 : sI A 14 o i v = some A') (hd : decode cc pc = .ok (.iastore, 1)) (kk : V p l e R s m args below meth c Q base D cy nL (pc + 1) lv st A' k n) : V p l e R s m args below meth c Q base D cy nL pc lv (vI v :: vI i :: vR o :: st) A k n := by
  unfold sI at e1
  split at e1
  · cases e1
  · rename_i a
    split at e1
    · rename_i ha
      cases e1
      intro H locs ls hW hF hL
      have hc := hW.ia ha.1 (Or.inl rfl)
      refine W.iast E.1 E.2.1 hc ((E.2.2.2.2.2.1.2 0 _ rfl).1 _ _) (fun q => by cases q) (by rw [arrV_size]; exact fun q => q.elim ha.2.1 (Nat.not_le.mpr ha.2.2)) rfl rfl hd fun H' g1 g2 g3 => ?_
      exact kk H' _ ls (hW.seti ha.1 (Or.inl rfl) g2 g3 g1) (hF.put g3 (hW.2.1 a (by omega)).1) hL
    · cases e1
theorem v_bastore (E : EN p s m args meth c D cy own cc nL ret nm) {o : Option Nat} {i v : Int32} {A' : AH} (e1 : sZ A 15 o i v = some A') (hd : decode cc pc = .ok (.bastore, 1)) (kk : V p l e R s m args below meth c Q base D cy nL (pc + 1) lv st A' k n) : V p l e R s m args below meth c Q base D cy nL pc lv (vI v :: vI i :: vR o :: st) A k n := by
  unfold sZ at e1
  split at e1
  · cases e1
  · rename_i a
    split at e1
    · rename_i ha
      cases e1
      intro H locs ls hW hF hL
      have hc := hW.ia ha.1 (Or.inr rfl)
      refine W.zast E.1 E.2.1 hc ((E.2.2.2.2.2.1.2 1 _ rfl).1 _ _) (fun q => by cases q) (by rw [arrV_size]; exact fun q => q.elim ha.2.1 (Nat.not_le.mpr ha.2.2.1)) rfl rfl hd fun H' g1 g2 g3 => ?_
      have hnr : narrow .boolean (.int v) = .int v := by rcases ha.2.2.2 with q | q <;> rw [q] <;> rfl
      rw [hnr] at g1
      exact kk H' _ ls (hW.seti ha.1 (Or.inr rfl) g2 g3 g1) (hF.put g3 (hW.2.1 a (by omega)).1) hL
    · cases e1
theorem v_aastore (E : EN p s m args meth c D cy own cc nL ret nm) {kd ci t0 : Nat} {r : vw_C} (hkd : 16 ≤ kd) (hci : ci ≤ 12) (hc : vwCl[ci]? = some r) (ht : (tyl cy)[t0]? = some (cy kd, .object r.1)) {o v : Option Nat} {i : Int32} {A' : AH} (e1 : sR A kd (ci + 1) o i v = some A') (hd : decode cc pc = .ok (.aastore, 1)) (kk : V p l e R s m args below meth c Q base D cy nL (pc + 1) lv st A' k n) : V p l e R s m args below meth c Q base D cy nL pc lv (vR v :: vI i :: vR o :: st) A k n := by
  unfold sR at e1
  split at e1
  · cases e1
  · rename_i a
    split at e1
    · rename_i ha
      cases e1
      intro H locs ls hW hF hL
      have hca := hW.ra ha.1 hkd
      cases v with
      | none =>
        refine va_WaastN (C := r.1) E.1 E.2.1 hca ((E.2.2.2.2.2.1.2 t0 _ ht).1 _ _) (fun q => by cases q) (by rw [arrV_size]; exact fun q => q.elim ha.2.1 (Nat.not_le.mpr ha.2.2.1)) rfl rfl hd fun H' g1 g2 g3 => ?_
        exact kk H' _ ls (hW.setr ha.1 hkd g2 g3 g1) (hF.put g3 (hW.2.1 a (by omega)).1) hL
      | some b =>
        have hb : Hk A b = ci + 1 := of_decide_eq_true ha.2.2.2
        obtain ⟨cellV, g1, g2, g3, -⟩ := hW.ob hb hci
        have hcls := (E.2.2.2.2.2.1.1 ci r hc).2
        obtain ⟨kA, comp, k1, k2, k3, -⟩ := (E.2.2.2.2.2.1.2 t0 _ ht).2
        have hcomp : comp = D.1 ci := Option.some.inj (k3.symm.trans hcls.1)
        subst hcomp
        obtain ⟨kC, hkC, -⟩ := hcls.2
        refine W.aast E.1 E.2.1 hca (fun q h => by cases h) (fun h => by cases h) k1 k2 rfl hkC ⟨ha.2.1, by rw [arrV_size]; exact ha.2.2.1⟩ g1 (fun q h => by rw [g3] at h; cases h) (by rw [g2]; exact hkC) (by rw [g2]; exact va_assign hcls) rfl rfl hd fun H' f1 f2 f3 => ?_
        exact kk H' _ ls (hW.setr (v := some b) ha.1 hkd f2 f3 f1) (hF.put f3 (hW.2.1 a (by omega)).1) hL
    · cases e1
theorem v_alen (E : EN p s m args meth c D cy own cc nL ret nm) {kd t0 : Nat} {ty : FieldType} (hkd : 14 ≤ kd) (ht : (tyl cy)[t0]? = some (cy kd, ty)) {o : Option Nat} {v : Int32} (e1 : aL A kd o = some v) (hd : decode cc pc = .ok (.arraylength, 1)) (kk : V p l e R s m args below meth c Q base D cy nL (pc + 1) lv (vI v :: st) A k n) : V p l e R s m args below meth c Q base D cy nL pc lv (vR o :: st) A k n := by
  unfold aL at e1
  split at e1
  · cases e1
  · rename_i a
    split at e1
    · rename_i ha
      cases e1
      intro H locs ls hW hF hL
      by_cases hr : 16 ≤ kd
      · exact W.alen (n := Int32.ofNat (Hn A a)) E.1 E.2.1 (hW.ra ha hr) ((E.2.2.2.2.2.1.2 t0 _ ht).1 _ _) (by rw [arrV_size] <;> rfl) rfl rfl hd (kk H locs ls hW hF hL)
      · exact W.alen (n := Int32.ofNat (Hn A a)) E.1 E.2.1 (hW.ia ha (by omega)) ((E.2.2.2.2.2.1.2 t0 _ ht).1 _ _) (by rw [arrV_size] <;> rfl) rfl rfl hd (kk H locs ls hW hF hL)
    · cases e1
end HV
end
section
section CV
variable {p : Program} {l : Launch} {e : Env} {R : Room} {s : State} {m : MethodId} {args : Array Value} {below : List Frame} {meth : Method} {c : Code} {Q : State → Prop} {base : Nat} {D : va_G} {cy : Nat → ClassId} {own : String} {cc : ByteArray} {nL : Nat} {ret : Option FieldType} {nm : String} {pc : Nat} {lv lv' : List (Option LV)} {st : List LV} {A : AH} {k n : Nat}
def fdef (ci j : Nat) : Value := if ft ci j = 0 then .int 0 else if ft ci j = 1 then .long 0 else .null
theorem v_new (E : EN p s m args meth c D cy own cc nL ret nm) {ci idx : Nat} {C : String} {T : u_T} {N : Nat} (tyT : Nat → FieldType) (hc : vwCl[ci]? = some (C, T, N)) (hin : ∀ w ∈ u_ws C T N, w ∈ lw_g) (htyT : ∀ j, j < N → parseFieldDescriptor (T j).2.2.1 = some (tyT j)) (hN : nF ci = N) (hcl : Cond.classLink own idx C ∈ lw_g) (hins : Cond.instantiable C N ∈ lw_g) (hini : Cond.initialized C ∈ lw_g) (hdef : ∀ j, j < N → defaultValue (tyT j) = fdef ci j) (hci : ci ≤ 12) (hk1 : k + 1 ≤ R.cells) (hn1 : n + N ≤ R.slots) (hd : decode cc pc = .ok (.new idx, 3))
    (kk : V p l e R s m args below meth c Q base D cy nL (pc + 3) lv (vR (some (Hs A)) :: st) (nw A (ci + 1) 0) (k + 1) (n + N)) : V p l e R s m args below meth c Q base D cy nL pc lv st A k n := by
  intro H locs ls hW hF hL
  obtain ⟨hex, hb, -, hown, hts, hK, -⟩ := E
  have hKn := hK.1 ci _ hc
  refine W.newcK hex hb hown (hts _ hcl) (hts _ hins) (hts _ hini) rfl hd hk1 hn1 hKn.2.1 hW.1 fun H1 kC hkC e1 z1 o1 => ?_
  have hk0 : Hk (nw A (ci + 1) 0) (Hs A) = ci + 1 := if_pos rfl
  refine kk H1 locs ls (hW.new z1 (fun q hq => o1 q hq) ⟨fun _ => ?_, fun q => ?_, fun q => ?_⟩) (hF.new o1 hW.2.2.2.1) hL
  · rw [hk0, Nat.add_sub_cancel, hN]
    refine (u_born tyT hts hin hKn hkC e1 htyT).to (fun j hj => ?_)
    have h0 := hW.2.2.1 (Hs A) (Nat.le_refl _) (32 * ci + j)
    rw [hdef j hj]
    show fdef ci j = if ft ci j = 0 then Value.int (Hi A (32 * ci + j) (Hs A)) else if ft ci j = 1 then Value.long (Hj A (32 * ci + j) (Hs A)) else va_rf (Hr A (32 * ci + j) (Hs A))
    rw [h0.1, h0.2.1, h0.2.2.1]
    rfl
  · rw [hk0] at q; omega
  · rw [hk0] at q; omega
theorem v_newi (E : EN p s m args meth c D cy own cc nL ret nm) {i : Int32} {bd : Nat} {A' : AH} (harr : Cond.arrayClass .int ∈ lw_g) (e1 : nA A 14 i bd = some A') (hk1 : k + 1 ≤ R.cells) (hn1 : n + bd ≤ R.slots) (hbd : bd ≤ 100000) (hd : decode cc pc = .ok (.newarray .int, 2)) (kk : V p l e R s m args below meth c Q base D cy nL (pc + 2) lv (vR (some (Hs A)) :: st) A' (k + 1) (n + bd)) : V p l e R s m args below meth c Q base D cy nL pc lv (vI i :: st) A k n := by
  unfold nA at e1
  split at e1
  · rename_i ha
    cases e1
    intro H locs ls hW hF hL
    obtain ⟨hex, hb, -, hown, hts, hK, -⟩ := E
    refine va_newaK (atype := .int) hex hb (hts _ harr) rfl hd rfl ha.1 rfl (by show i.toNatClampNeg * 4 ≤ _; have := ha.2; omega) hk1 (by have := ha.2; omega) hW.1 fun H' cA g1 z o1 hAr hNm => ?_
    have hcy : cA = cy 14 := Option.some.inj (hNm.symm.trans (hK.2 0 _ rfl).2)
    subst hcy
    have hk0 : Hk (nw A 14 i.toNatClampNeg) (Hs A) = 14 := if_pos rfl
    refine W.widen (Nat.le_refl _) (by have := ha.2; omega) (kk H' locs ls (hW.new z o1 ⟨fun q => ?_, fun _ => ?_, fun q => ?_⟩) (hF.new o1 hW.2.2.2.1) hL)
    · rw [hk0] at q; omega
    · rw [hk0, g1, show Hn (nw A 14 i.toNatClampNeg) (Hs A) = i.toNatClampNeg from if_pos rfl]
      congr 2
      funext j
      show Value.int 0 = Value.int (He A (Hs A) j)
      rw [(hW.2.2.1 (Hs A) (Nat.le_refl _) j).2.2.2.1]
    · rw [hk0] at q; omega
  · cases e1
theorem v_newz (E : EN p s m args meth c D cy own cc nL ret nm) {i : Int32} {bd : Nat} {A' : AH} (harr : Cond.arrayClass .boolean ∈ lw_g) (e1 : nA A 15 i bd = some A') (hk1 : k + 1 ≤ R.cells) (hn1 : n + bd ≤ R.slots) (hbd : bd ≤ 100000) (hd : decode cc pc = .ok (.newarray .boolean, 2)) (kk : V p l e R s m args below meth c Q base D cy nL (pc + 2) lv (vR (some (Hs A)) :: st) A' (k + 1) (n + bd)) : V p l e R s m args below meth c Q base D cy nL pc lv (vI i :: st) A k n := by
  unfold nA at e1
  split at e1
  · rename_i ha
    cases e1
    intro H locs ls hW hF hL
    obtain ⟨hex, hb, -, hown, hts, hK, -⟩ := E
    refine va_newaK (atype := .boolean) hex hb (hts _ harr) rfl hd rfl ha.1 rfl (by show i.toNatClampNeg * 1 ≤ _; have := ha.2; omega) hk1 (by have := ha.2; omega) hW.1 fun H' cA g1 z o1 hAr hNm => ?_
    have hcy : cA = cy 15 := Option.some.inj (hNm.symm.trans (hK.2 1 _ rfl).2)
    subst hcy
    have hk0 : Hk (nw A 15 i.toNatClampNeg) (Hs A) = 15 := if_pos rfl
    refine W.widen (Nat.le_refl _) (by have := ha.2; omega) (kk H' locs ls (hW.new z o1 ⟨fun q => ?_, fun _ => ?_, fun q => ?_⟩) (hF.new o1 hW.2.2.2.1) hL)
    · rw [hk0] at q; omega
    · rw [hk0, g1, show Hn (nw A 15 i.toNatClampNeg) (Hs A) = i.toNatClampNeg from if_pos rfl]
      congr 2
      funext j
      show Value.int 0 = Value.int (He A (Hs A) j)
      rw [(hW.2.2.1 (Hs A) (Nat.le_refl _) j).2.2.2.1]
    · rw [hk0] at q; omega
  · cases e1
theorem v_newr (E : EN p s m args meth c D cy own cc nL ret nm) {kd t0 idx : Nat} {C : String} (hkd : 16 ≤ kd) (ht : (tyl cy)[t0]? = some (cy kd, .object C)) (hAO : va_AO C s) (hcl : Cond.classLink own idx C ∈ lw_g) {i : Int32} {bd : Nat} {A' : AH} (e1 : nA A kd i bd = some A') (hk1 : k + 1 ≤ R.cells) (hn1 : n + bd ≤ R.slots) (hbd : bd ≤ 100000) (hd : decode cc pc = .ok (.anewarray idx, 3)) (kk : V p l e R s m args below meth c Q base D cy nL (pc + 3) lv (vR (some (Hs A)) :: st) A' (k + 1) (n + bd)) : V p l e R s m args below meth c Q base D cy nL pc lv (vI i :: st) A k n := by
  unfold nA at e1
  split at e1
  · rename_i ha
    cases e1
    intro H locs ls hW hF hL
    obtain ⟨hex, hb, -, hown, hts, hK, -⟩ := E
    refine W.anew hex hb hown (hts _ hcl) (va_AO.use hAO) rfl hd rfl ha.1 (by have := ha.2; omega) hk1 (by have := ha.2; omega) fun cA kA comp f1 f2 f3 f4 => ?_
    have hcy : cA = cy kd := by
      obtain ⟨_, _, -, -, -, h4⟩ := (hK.2 t0 _ ht).2
      exact Option.some.inj (f1.symm.trans h4)
    subst hcy
    generalize hH1 : H.push ({ cls := cy kd, slots := Array.replicate i.toNatClampNeg .null, vm := .none } : Cell) = H1
    have z1 : H1.size = Hs A + 1 := by rw [← hH1, Array.size_push, hW.1]
    have g1 : H1[Hs A]? = some (arrV (cy kd) i.toNatClampNeg (fun _ => .null)) := by rw [← hH1, ← hW.1, Array.getElem?_push_size, ← arrV_new]
    have o1 : ∀ q : Nat, q < Hs A → H1[q]? = H[q]? := fun q hq => by rw [← hH1, Array.getElem?_push, if_neg (by rw [hW.1]; exact Nat.ne_of_lt hq)]
    have hk0 : Hk (nw A kd i.toNatClampNeg) (Hs A) = kd := if_pos rfl
    have key := W.widen (k := k + 1) (n := n + bd) (Nat.le_refl _) (by have := ha.2; omega) (kk H1 locs ls (hW.new z1 o1 ⟨fun q => by rw [hk0] at q; omega, fun q => by rw [hk0] at q; omega, fun _ => by
      rw [hk0, g1, show Hn (nw A kd i.toNatClampNeg) (Hs A) = i.toNatClampNeg from if_pos rfl]
      congr 2
      funext j
      show Value.null = va_rf (Hq A (Hs A) j)
      rw [(hW.2.2.1 (Hs A) (Nat.le_refl _) j).2.2.2.2]
      rfl⟩) (hF.new o1 hW.2.2.2.1) hL) (cells := k + 1) (slots := n + i.toNatClampNeg)
    rw [hW.1]
    exact key
  · cases e1
/-! returns -/
theorem v_iret {x : Int32} (E : EN p s m args meth c D cy own cc nL (some .int) nm) (hd : decode cc pc = .ok (.ireturn, 1)) : V p l e R s m args below meth c (MQ below (Qd base D cy (some (vI x)) A) args s k n (fun q => base ≤ q)) base D cy nL pc lv [vI x] A k n := by
  intro H locs ls hW hF hL
  exact W.iret E.1 E.2.1 E.2.2.2.2.2.2.2.1 (fun t ht hw => ⟨rfl, by rw [ht]; exact hW, fun q hq => by rw [ht]; exact hF.1 q hq⟩) hF.2 hd E.2.2.2.2.2.2.2.2.1
theorem v_zret {x : Int32} (E : EN p s m args meth c D cy own cc nL (some .boolean) nm) (hz : x = 0 ∨ x = 1) (hd : decode cc pc = .ok (.ireturn, 1)) : V p l e R s m args below meth c (MQ below (Qd base D cy (some (vI x)) A) args s k n (fun q => base ≤ q)) base D cy nL pc lv [vI x] A k n := by
  intro H locs ls hW hF hL
  exact W.zret E.1 E.2.1 E.2.2.2.2.2.2.2.1 (by rcases hz with q | q <;> rw [q] <;> rfl) (fun t ht hw => ⟨rfl, by rw [ht]; exact hW, fun q hq => by rw [ht]; exact hF.1 q hq⟩) hF.2 hd E.2.2.2.2.2.2.2.2.1
theorem v_lret {x : Int64} (E : EN p s m args meth c D cy own cc nL (some .long) nm) (hd : decode cc pc = .ok (.lreturn, 1)) : V p l e R s m args below meth c (MQ below (Qd base D cy (some (vJ x)) A) args s k n (fun q => base ≤ q)) base D cy nL pc lv [vJ x] A k n := by
  intro H locs ls hW hF hL
  exact W.lret E.1 E.2.1 E.2.2.2.2.2.2.2.1 (fun t ht hw => ⟨rfl, by rw [ht]; exact hW, fun q hq => by rw [ht]; exact hF.1 q hq⟩) hF.2 hd E.2.2.2.2.2.2.2.2.1
theorem v_aret {x : Option Nat} {C : String} (E : EN p s m args meth c D cy own cc nL (some (.object C)) nm) (hd : decode cc pc = .ok (.areturn, 1)) : V p l e R s m args below meth c (MQ below (Qd base D cy (some (vR x)) A) args s k n (fun q => base ≤ q)) base D cy nL pc lv [vR x] A k n := by
  intro H locs ls hW hF hL
  exact W.aret (v := va_rf x) E.1 E.2.1 E.2.2.2.2.2.2.2.1 (Or.inl ⟨_, rfl⟩) (by cases x with
    | none => exact Or.inl rfl
    | some a => exact Or.inr ⟨a, rfl⟩) (fun t ht hw => ⟨rfl, by rw [ht]; exact hW, fun q hq => by rw [ht]; exact hF.1 q hq⟩) hF.2 hd E.2.2.2.2.2.2.2.2.1
theorem v_vret (E : EN p s m args meth c D cy own cc nL none nm) (hd : decode cc pc = .ok (.return_, 1)) : V p l e R s m args below meth c (MQ below (Qd base D cy none A) args s k n (fun q => base ≤ q)) base D cy nL pc lv [] A k n := by
  intro H locs ls hW hF hL
  exact W.vret E.1 E.2.1 E.2.2.2.2.2.2.2.1 (fun t ht hw => ⟨rfl, by rw [ht]; exact hW, fun q hq => by rw [ht]; exact hF.1 q hq⟩) hF.2 hd E.2.2.2.2.2.2.2.2.1
/-! Object's constructor -/
theorem v_objInit (E : EN p s m args meth c D cy own cc nL ret nm) {idx : Nat} {o : Option Nat} (hlink : Cond.methodLink own idx Lib.objectInit ∈ lw_g) (hinst : Cond.instanceMethod Lib.objectInit ∈ lw_g) (hcode : Cond.code Lib.objectInit ⟨#[0xb1]⟩ 1 none ∈ lw_g) (ho : ∃ a, o = some a) (hd : decode cc pc = .ok (.invokespecial idx, 3)) (hfr : 1 ≤ R.frames) (hlo : (((st.map toV).map fun v => v.category)).sum + 12 ≤ R.locals) (kk : V p l e R s m args below meth c Q base D cy nL (pc + 3) lv st A k n) : V p l e R s m args below meth c Q base D cy nL pc lv (vR o :: st) A k n := by
  intro H locs ls hW hF hL
  obtain ⟨a, rfl⟩ := ho
  exact W.objInit E.1 E.2.1 E.2.2.2.1 (E.2.2.2.2.1 _ hlink) (E.2.2.2.2.1 _ hinst) (E.2.2.2.2.1 _ hcode) rfl (hL.1.trans E.2.2.1.symm) rfl hd hfr (by show 2 * 0 + _ + 12 ≤ _; omega) (kk H locs ls hW hF hL)
/-! calls -/
theorem Wd.pre {Ah : AH} {H : Heap} (hK : va_K D vwCl (tyl cy) s) (hN : NW s) (hW : WH base D cy Ah H) (U : State) (hU : U.heap = H) (hw : s.WarmedH U.vm) : Wd base D cy Ah U := ⟨va_K.moved hw.alike hK, hN.warm hw, by rw [hU]; exact hW⟩
theorem Wd.blind {as : List Value} {Ah : AH} : FrameBlind (va_Pc as (Wd base D cy Ah)) := fun a U g mk q => ⟨q.1, va_K.moved (u := U) (U := U.calling g mk a) (Vm.Alike.refl U.vm) q.2.1, q.2.2.1.same rfl, q.2.2.2⟩
theorem v_run {st0 rest : List LV} {v : Option LV} {mc ms : Nat} {A1 : AH} {ar : Array Value} (hrun : ∀ (H : Heap) (locs : List Loc) (ls : Array Slot), WH base D cy A H → FS base s.heap H locs → LH ls nL lv → va_Run p l e R s m args below meth c H locs k n mc ms (F0 m pc ls (st0.map toV)) (rest.map toV) (Qd base D cy v A1 ar) (fun q => base ≤ q))
    (kk : V p l e R s m args below meth c Q base D cy nL (pc + 3) lv (v.toList ++ rest) A1 (k + mc) (n + ms)) : V p l e R s m args below meth c Q base D cy nL pc lv st0 A k n := by
  intro H locs ls hW hF hL T hT X
  obtain ⟨v', st₀, t, T', L, h0, X', hLf, e1, e2, ⟨hv, hW1, hk1⟩, st⟩ := hrun H locs ls hW hF hL T hT X
  cases hv
  obtain ⟨t2, a1, b1⟩ := kk T'.heap (locs ++ L) ls (by rw [e1]; exact hW1) ⟨fun q hq => by rw [e1, hk1 q hq, h0]; exact hF.1 q hq, fun q hq => by
    rcases List.mem_append.mp hq with h | h
    · exact hF.2 q h
    · exact hLf q h⟩ hL T' rfl X'
  refine ⟨t2, st t2 ?_, b1⟩
  cases v with
  | none => exact a1
  | some x => exact a1
theorem gV {idx mL : Nat} {y : MethodName} {C : String} {b : ByteArray} {r : Option FieldType} (h1 : Cond.methodLink own idx y ∈ lw_g) (h2 : Cond.instanceMethod y ∈ lw_g) (h3 : Cond.selects C y y ∈ lw_g) (h4 : Cond.initialized C ∈ lw_g) (h5 : Cond.code y b mL r ∈ lw_g) : GoodIn lw_g (wsV own idx C y (Cond.code y b mL r :: lw_g)) := by
  intro w hw
  have hm : w ∈ lw_g := by
    unfold wsV at hw
    rcases List.mem_append.mp hw with hw | hw
    · simp only [List.mem_cons, List.not_mem_nil, or_false] at hw
      rcases hw with rfl | rfl | rfl | rfl
      · exact h1
      · exact h2
      · exact h3
      · exact h4
    · rcases List.mem_cons.mp hw with rfl | hw
      · exact h5
      · exact hw
  exact lw_gg w hm
theorem gC {mL : Nat} {y : MethodName} {b : ByteArray} {r : Option FieldType} (h5 : Cond.code y b mL r ∈ lw_g) : GoodIn lw_g (Cond.code y b mL r :: lw_g) := by
  intro w hw
  rcases List.mem_cons.mp hw with rfl | hw
  · exact lw_gg _ h5
  · exact lw_gg w hw
theorem gS {idx mL : Nat} {y : MethodName} {b : ByteArray} {r : Option FieldType} (h1 : Cond.methodLink own idx y ∈ lw_g) (h2 : Cond.static y ∈ lw_g) (h3 : Cond.initialized y.cls ∈ lw_g) (h5 : Cond.code y b mL r ∈ lw_g) : GoodIn lw_g (va_wsS own idx y (Cond.code y b mL r :: lw_g)) := by
  intro w hw
  have hm : w ∈ lw_g := by
    unfold va_wsS at hw
    rcases List.mem_append.mp hw with hw | hw
    · simp only [List.mem_cons, List.not_mem_nil, or_false] at hw
      rcases hw with rfl | rfl | rfl
      · exact h1
      · exact h2
      · exact h3
    · rcases List.mem_cons.mp hw with rfl | hw
      · exact h5
      · exact hw
  exact lw_gg w hm
/-- the words of y's descriptor -/
def okD (y : MethodName) (na : Nat) : Bool := decide (y.cls ≠ "java/lang/invoke/MethodHandle") && decide (y.cls ≠ "java/lang/invoke/VarHandle") && decide ((parseMethodDescriptor y.desc).map (fun d => d.parameters.length) = some na)
theorem okD.use {y : MethodName} {na : Nat} (h : okD y na = true) : y.cls ≠ "java/lang/invoke/MethodHandle" ∧ y.cls ≠ "java/lang/invoke/VarHandle" ∧ (parseMethodDescriptor y.desc).map (fun d => d.parameters.length) = some na := by
  unfold okD at h
  simp only [Bool.and_eq_true, decide_eq_true_eq] at h
  exact ⟨h.1.1, h.1.2, h.2⟩
theorem v_callV (E : EN p s m args meth c D cy own cc nL ret nm) {idx mL fr lo mc ms ci na : Nat} {y : MethodName} {b : ByteArray} {r : Option FieldType} {q : vw_C} {As rest : List LV} {o : Option Nat} {v : Option LV} {A1 : AH} (hG : GoodIn lw_g (wsV own idx q.1 y (Cond.code y b mL r :: lw_g))) (hok : okD y na = true) (hy : y.cls = q.1) (hc : vwCl[ci]? = some q) (hci : ci ≤ 12) (hC : Cn l y b mL r fr lo mc ms (vR o :: As) A v A1) (ho : ∃ a, o = some a ∧ Hk A a = ci + 1) (hna : As.length = na) (hst : st = As.reverse ++ vR o :: rest) (hd : decode cc pc = .ok (.invokevirtual idx, 3)) (hR : fr + 1 ≤ R.frames ∧ 8 + (mL + 11) + lo ≤ R.locals) (hcs : k + mc ≤ R.cells ∧ n + ms ≤ R.slots) (hcat : ((rest.map toV).map fun v => v.category).sum ≤ 8)
    (kk : V p l e R s m args below meth c Q base D cy nL (pc + 3) lv (v.toList ++ rest) A1 (k + mc) (n + ms)) : V p l e R s m args below meth c Q base D cy nL pc lv st A k n := by
  obtain ⟨a, rfl, ha⟩ := ho
  subst hst
  obtain ⟨hex, hb, hml, hown, hts, hK, hNw, -⟩ := E
  refine v_run (v := v) (A1 := A1) (rest := rest) (ar := (Value.ref a :: As.map toV).toArray) (fun H locs ls hW hF hL => ?_) kk
  obtain ⟨cell, q1, q2, q3, -⟩ := hW.ob ha hci
  refine va_runV (As := As.map toV) (rest := rest.map toV) (b := a) ⟨hex, hb, hml, hown, hts⟩ (hC base D cy) (cwV na hts hG rfl rfl rfl ⟨hy, (okD.use hok)⟩ hR) ⟨Wd.blind, ⟨cell, q1, by rw [q3]; rfl, by rw [q2]; exact (hK.1 ci q hc).2.1⟩, fun U hU hw => ⟨rfl, Wd.pre hK hNw hW U hU hw⟩⟩ rfl (by rw [List.length_map]; exact hna) hL.1 ?_ (lv_room hcat) hd hcs
  show (As.reverse ++ vR (some a) :: rest).map toV = (As.map toV).reverse ++ .ref a :: rest.map toV
  rw [List.map_append, List.map_reverse]
  rfl
theorem v_callS (E : EN p s m args meth c D cy own cc nL ret nm) {idx mL fr lo mc ms na : Nat} {y : MethodName} {b : ByteArray} {r : Option FieldType} {As rest : List LV} {v : Option LV} {A1 : AH} (hG : GoodIn lw_g (va_wsS own idx y (Cond.code y b mL r :: lw_g))) (hok : okD y na = true) (hC : Cn l y b mL r fr lo mc ms As A v A1) (hna : As.length = na) (hst : st = As.reverse ++ rest) (hd : decode cc pc = .ok (.invokestatic idx, 3)) (hR : fr + 1 ≤ R.frames ∧ 8 + (mL + 11) + lo ≤ R.locals) (hcs : k + mc ≤ R.cells ∧ n + ms ≤ R.slots) (hcat : ((rest.map toV).map fun v => v.category).sum ≤ 8)
    (kk : V p l e R s m args below meth c Q base D cy nL (pc + 3) lv (v.toList ++ rest) A1 (k + mc) (n + ms)) : V p l e R s m args below meth c Q base D cy nL pc lv st A k n := by
  subst hst
  obtain ⟨hex, hb, hml, hown, hts, hK, hNw, -⟩ := E
  refine v_run (v := v) (A1 := A1) (rest := rest) (ar := (As.map toV).toArray) (fun H locs ls hW hF hL => ?_) kk
  refine va_runS (As := As.map toV) (rest := rest.map toV) ⟨hex, hb, hml, hown, hts⟩ (hC base D cy) (va_cwS na hts hG rfl rfl rfl (okD.use hok) hR) ⟨Wd.blind, fun U hU hw => ⟨rfl, Wd.pre hK hNw hW U hU hw⟩⟩ rfl (by rw [List.length_map]; exact hna) hL.1 ?_ (lv_room hcat) hd hcs
  show (As.reverse ++ rest).map toV = (As.map toV).reverse ++ rest.map toV
  rw [List.map_append, List.map_reverse]
theorem v_callSN (E : EN p s m args meth c D cy own cc nL ret nm) {idx mL fr lo mc ms na : Nat} {y : MethodName} {host : String} {b : ByteArray} {r : Option FieldType} {As rest : List LV} {v : Option LV} {A1 : AH} (hG : GoodIn lw_g (Cond.code y b mL r :: lw_g)) (hl : (own, idx, y, host) ∈ nestW) (hsta : Cond.static y ∈ lw_g) (hini : Cond.initialized y.cls ∈ lw_g) (hok : okD y na = true) (hC : Cn l y b mL r fr lo mc ms As A v A1) (hna : As.length = na) (hst : st = As.reverse ++ rest) (hd : decode cc pc = .ok (.invokestatic idx, 3)) (hR : fr + 1 ≤ R.frames ∧ 8 + (mL + 11) + lo ≤ R.locals) (hcs : k + mc ≤ R.cells ∧ n + ms ≤ R.slots) (hcat : ((rest.map toV).map fun v => v.category).sum ≤ 8)
    (kk : V p l e R s m args below meth c Q base D cy nL (pc + 3) lv (v.toList ++ rest) A1 (k + mc) (n + ms)) : V p l e R s m args below meth c Q base D cy nL pc lv st A k n := by
  subst hst
  obtain ⟨hex, hb, hml, hown, hts, hK, hNw, -⟩ := E
  refine v_run (v := v) (A1 := A1) (rest := rest) (ar := (As.map toV).toArray) (fun H locs ls hW hF hL => ?_) kk
  refine va_runSN (As := As.map toV) (rest := rest.map toV) (host := host) ⟨hex, hb, hml, hown, hts⟩ (hC base D cy) ⟨va_cnB na hts hG rfl rfl rfl (hNw.1 _ hl) (hts _ hini) (okD.use hok) hR, hts _ hsta, trivial⟩ ⟨Wd.blind, fun U hU hw => ⟨rfl, Wd.pre hK hNw hW U hU hw⟩⟩ rfl (by rw [List.length_map]; exact hna) hL.1 ?_ (lv_room hcat) hd hcs
  show (As.reverse ++ rest).map toV = (As.map toV).reverse ++ rest.map toV
  rw [List.map_append, List.map_reverse]
theorem v_callI (E : EN p s m args meth c D cy own cc nL ret nm) {idx mL fr lo mc ms na : Nat} {y : MethodName} {b : ByteArray} {As rest : List LV} {o : Option Nat} {v : Option LV} {A1 : AH} (hG : GoodIn lw_g (Cond.code y b mL none :: lw_g)) (hl : Cond.methodLink own idx y ∈ lw_g) (hinst : Cond.instanceMethod y ∈ lw_g) (hini : Cond.initialized y.cls ∈ lw_g) (hnm : y.name = "<init>") (hok : okD y na = true) (hC : Cn l y b mL none fr lo mc ms (vR o :: As) A v A1) (ho : ∃ a, o = some a) (hna : As.length = na) (hst : st = As.reverse ++ vR o :: rest) (hd : decode cc pc = .ok (.invokespecial idx, 3)) (hR : fr + 1 ≤ R.frames ∧ 8 + (mL + 11) + lo ≤ R.locals) (hcs : k + mc ≤ R.cells ∧ n + ms ≤ R.slots) (hcat : ((rest.map toV).map fun v => v.category).sum ≤ 8)
    (kk : V p l e R s m args below meth c Q base D cy nL (pc + 3) lv (v.toList ++ rest) A1 (k + mc) (n + ms)) : V p l e R s m args below meth c Q base D cy nL pc lv st A k n := by
  obtain ⟨a, rfl⟩ := ho
  subst hst
  obtain ⟨hex, hb, hml, hown, hts, hK, hNw, -⟩ := E
  refine v_run (v := v) (A1 := A1) (rest := rest) (ar := (Value.ref a :: As.map toV).toArray) (fun H locs ls hW hF hL => ?_) kk
  refine va_runI (As := As.map toV) (rest := rest.map toV) (b := a) ⟨hex, hb, hml, hown, hts⟩ (hC base D cy) (cwI na hts hG rfl rfl rfl (hts _ hini) (hts _ hl) (hts _ hinst) hnm (okD.use hok) hR) ⟨Wd.blind, fun U hU hw => ⟨rfl, Wd.pre hK hNw hW U hU hw⟩⟩ rfl (by rw [List.length_map]; exact hna) hL.1 ?_ (lv_room hcat) hd hcs
  show (As.reverse ++ vR (some a) :: rest).map toV = (As.map toV).reverse ++ .ref a :: rest.map toV
  rw [List.map_append, List.map_reverse]
  rfl
theorem v_callIN (E : EN p s m args meth c D cy own cc nL ret nm) {idx mL fr lo mc ms na : Nat} {y : MethodName} {host : String} {b : ByteArray} {As rest : List LV} {o : Option Nat} {v : Option LV} {A1 : AH} (hG : GoodIn lw_g (Cond.code y b mL none :: lw_g)) (hl : (own, idx, y, host) ∈ nestW) (hinst : Cond.instanceMethod y ∈ lw_g) (hini : Cond.initialized y.cls ∈ lw_g) (hnm : y.name = "<init>") (hok : okD y na = true) (hC : Cn l y b mL none fr lo mc ms (vR o :: As) A v A1) (ho : ∃ a, o = some a) (hna : As.length = na) (hst : st = As.reverse ++ vR o :: rest) (hd : decode cc pc = .ok (.invokespecial idx, 3)) (hR : fr + 1 ≤ R.frames ∧ 8 + (mL + 11) + lo ≤ R.locals) (hcs : k + mc ≤ R.cells ∧ n + ms ≤ R.slots) (hcat : ((rest.map toV).map fun v => v.category).sum ≤ 8)
    (kk : V p l e R s m args below meth c Q base D cy nL (pc + 3) lv (v.toList ++ rest) A1 (k + mc) (n + ms)) : V p l e R s m args below meth c Q base D cy nL pc lv st A k n := by
  obtain ⟨a, rfl⟩ := ho
  subst hst
  obtain ⟨hex, hb, hml, hown, hts, hK, hNw, -⟩ := E
  refine v_run (v := v) (A1 := A1) (rest := rest) (ar := (Value.ref a :: As.map toV).toArray) (fun H locs ls hW hF hL => ?_) kk
  refine va_runIN (As := As.map toV) (rest := rest.map toV) (b := a) (host := host) ⟨hex, hb, hml, hown, hts⟩ (hC base D cy) ⟨va_cnB na hts hG rfl rfl rfl (hNw.1 _ hl) (hts _ hini) (okD.use hok) hR, hnm, hts _ hinst⟩ ⟨Wd.blind, fun U hU hw => ⟨rfl, Wd.pre hK hNw hW U hU hw⟩⟩ rfl (by rw [List.length_map]; exact hna) hL.1 ?_ (lv_room hcat) hd hcs
  show (As.reverse ++ vR (some a) :: rest).map toV = (As.map toV).reverse ++ .ref a :: rest.map toV
  rw [List.map_append, List.map_reverse]
  rfl
end CV
/-- a contract out of a walk of the method's body -/
theorem Cn.of {l : Launch} {y : MethodName} {cc : ByteArray} {nL : Nat} {ret : Option FieldType} {fr lo mc ms : Nat} {as : List LV} {A : AH} {v : Option LV} {A1 : AH} {pad : Nat} {lv0 : List (Option LV)} (hy : plainName y.cls = true) (hlen : (lg_sl (as.map toV)).length ≤ nL) (hlv : ent as ++ List.replicate pad none = lv0)
    (body : ∀ (p : Program) (e : Env) (s : State) (m : MethodId) (below : List Frame) (meth : Method) (c : Code) (base : Nat) (D : va_G) (cy : Nat → ClassId), EN p s m (as.map toV).toArray meth c D cy y.cls cc nL ret y.name → V p l e { frames := fr, cells := mc, slots := ms, locals := lo } s m (as.map toV).toArray below meth c (MQ below (Qd base D cy v A1) (as.map toV).toArray s mc ms (fun q => base ≤ q)) base D cy nL 0 lv0 [] A 0 0) : Cn l y cc nL ret fr lo mc ms as A v A1 := by
  intro base D cy
  refine Met.ofW (cc := cc) (maxL := nL) (ret := ret) hy rfl ?_
  intro p e s m args below meth c s₁ B hml hv
  obtain ⟨rfl, hK, hN, hW⟩ := hv
  have hts := atoms_spec (ws := Cond.code y cc nL ret :: lw_g) B.pre
  have E : EN p s m (as.map toV).toArray meth c D cy y.cls cc nL ret y.name := ⟨B.exec, B.bytes, hml, findClass_of_methodNamed B.named, fun w h => hts w (List.mem_cons_of_mem _ h), hK, hN, B.returns, B.notSynchronized, (name_of_methodNamed B.named B.method).1⟩
  have h := body p e s m below meth c base D cy E s.heap [] _ hW ⟨fun _ _ => rfl, fun _ h => by cases h⟩ (hlv ▸ LH.entry hlen pad)
  rw [lg_entry_eq]
  exact h
def rcv (A : AH) (kd : Nat) (o : Option Nat) : Option Nat := match o with
  | none => none
  | some a => if Hk A a = kd then some a else none
theorem rcv_e {A : AH} {kd a : Nat} {o : Option Nat} (h : rcv A kd o = some a) : o = some a ∧ Hk A a = kd := by
  unfold rcv at h
  split at h
  · cases h
  · split at h
    · rename_i ha
      cases h
      exact ⟨rfl, ha⟩
    · cases h
end
