-- ===== PART A: goes FIRST, ahead of the names: the tables' words, and 'selects' of the private methods out of them =====
/-- a private method of a class that the tables say can be made, by its rows of tables_1 -/
def lw_okq (q : MethodName × Nat) : Prop := (q.1.cls ≠ "java/lang/invoke/MethodHandle" ∧ q.1.cls ≠ "java/lang/invoke/VarHandle") ∧ Cond.instantiable q.1.cls q.2 ∈ tables_1 ∧ Cond.privateMethod q.1 ∈ tables_1 ∧ Cond.instanceMethod q.1 ∈ tables_1
theorem lw_p0 : lw_okq (⟨"TurnedAbout", "shelfAt", "(I)LTurnedAbout$Shelf;"⟩, 12) := ⟨⟨by decide +kernel, by decide +kernel⟩, List.mem_of_getElem? (i := 22) (by decide +kernel), List.mem_of_getElem? (i := 172) (by decide +kernel), List.mem_of_getElem? (i := 173) (by decide +kernel)⟩
theorem lw_p1 : lw_okq (⟨"TurnedAbout", "refuse", "(I)I"⟩, 12) := ⟨⟨by decide +kernel, by decide +kernel⟩, List.mem_of_getElem? (i := 22) (by decide +kernel), List.mem_of_getElem? (i := 176) (by decide +kernel), List.mem_of_getElem? (i := 177) (by decide +kernel)⟩
theorem lw_p2 : lw_okq (⟨"TurnedAbout$Shelf", "lowestBits", "(J)J"⟩, 4) := ⟨⟨by decide +kernel, by decide +kernel⟩, List.mem_of_getElem? (i := 78) (by decide +kernel), List.mem_of_getElem? (i := 203) (by decide +kernel), List.mem_of_getElem? (i := 204) (by decide +kernel)⟩
theorem lw_p3 : lw_okq (⟨"TurnedAbout", "saying", "(LTurnedAbout$Law;I)I"⟩, 12) := ⟨⟨by decide +kernel, by decide +kernel⟩, List.mem_of_getElem? (i := 22) (by decide +kernel), List.mem_of_getElem? (i := 277) (by decide +kernel), List.mem_of_getElem? (i := 278) (by decide +kernel)⟩
theorem lw_p4 : lw_okq (⟨"TurnedAbout$Reader", "readItem", "()Z"⟩, 6) := ⟨⟨by decide +kernel, by decide +kernel⟩, List.mem_of_getElem? (i := 102) (by decide +kernel), List.mem_of_getElem? (i := 489) (by decide +kernel), List.mem_of_getElem? (i := 490) (by decide +kernel)⟩
theorem lw_p5 : lw_okq (⟨"TurnedAbout$Reader", "readBase", "()Z"⟩, 6) := ⟨⟨by decide +kernel, by decide +kernel⟩, List.mem_of_getElem? (i := 102) (by decide +kernel), List.mem_of_getElem? (i := 498) (by decide +kernel), List.mem_of_getElem? (i := 499) (by decide +kernel)⟩
theorem lw_p6 : lw_okq (⟨"TurnedAbout$Reader", "readWord", "(Ljava/lang/String;)Z"⟩, 6) := ⟨⟨by decide +kernel, by decide +kernel⟩, List.mem_of_getElem? (i := 102) (by decide +kernel), List.mem_of_getElem? (i := 503) (by decide +kernel), List.mem_of_getElem? (i := 504) (by decide +kernel)⟩
theorem lw_p7 : lw_okq (⟨"TurnedAbout$Reader", "readSign", "(I)Z"⟩, 6) := ⟨⟨by decide +kernel, by decide +kernel⟩, List.mem_of_getElem? (i := 102) (by decide +kernel), List.mem_of_getElem? (i := 555) (by decide +kernel), List.mem_of_getElem? (i := 556) (by decide +kernel)⟩
theorem lw_p8 : lw_okq (⟨"TurnedAbout$Reader", "failAt", "(I)Z"⟩, 6) := ⟨⟨by decide +kernel, by decide +kernel⟩, List.mem_of_getElem? (i := 102) (by decide +kernel), List.mem_of_getElem? (i := 559) (by decide +kernel), List.mem_of_getElem? (i := 560) (by decide +kernel)⟩
theorem lw_p9 : lw_okq (⟨"TurnedAbout$Reader", "readNumber", "(II)Z"⟩, 6) := ⟨⟨by decide +kernel, by decide +kernel⟩, List.mem_of_getElem? (i := 102) (by decide +kernel), List.mem_of_getElem? (i := 563) (by decide +kernel), List.mem_of_getElem? (i := 564) (by decide +kernel)⟩
theorem lw_p10 : lw_okq (⟨"TurnedAbout$Reader", "readLaw", "()Z"⟩, 6) := ⟨⟨by decide +kernel, by decide +kernel⟩, List.mem_of_getElem? (i := 102) (by decide +kernel), List.mem_of_getElem? (i := 570) (by decide +kernel), List.mem_of_getElem? (i := 571) (by decide +kernel)⟩
theorem lw_p11 : lw_okq (⟨"TurnedAbout$Reader", "readValue", "()Z"⟩, 6) := ⟨⟨by decide +kernel, by decide +kernel⟩, List.mem_of_getElem? (i := 102) (by decide +kernel), List.mem_of_getElem? (i := 577) (by decide +kernel), List.mem_of_getElem? (i := 578) (by decide +kernel)⟩
theorem lw_p12 : lw_okq (⟨"TurnedAbout$Reader", "readWrite", "()Z"⟩, 6) := ⟨⟨by decide +kernel, by decide +kernel⟩, List.mem_of_getElem? (i := 102) (by decide +kernel), List.mem_of_getElem? (i := 585) (by decide +kernel), List.mem_of_getElem? (i := 586) (by decide +kernel)⟩
theorem lw_p13 : lw_okq (⟨"TurnedAbout$Reader", "readGo", "()Z"⟩, 6) := ⟨⟨by decide +kernel, by decide +kernel⟩, List.mem_of_getElem? (i := 102) (by decide +kernel), List.mem_of_getElem? (i := 599) (by decide +kernel), List.mem_of_getElem? (i := 600) (by decide +kernel)⟩
theorem lw_p14 : lw_okq (⟨"TurnedAbout", "isAlike", "(J)Z"⟩, 12) := ⟨⟨by decide +kernel, by decide +kernel⟩, List.mem_of_getElem? (i := 22) (by decide +kernel), List.mem_of_getElem? (i := 634) (by decide +kernel), List.mem_of_getElem? (i := 635) (by decide +kernel)⟩
theorem lw_p15 : lw_okq (⟨"TurnedAbout", "behind", "(LTurnedAbout$Law;JI)J"⟩, 12) := ⟨⟨by decide +kernel, by decide +kernel⟩, List.mem_of_getElem? (i := 22) (by decide +kernel), List.mem_of_getElem? (i := 676) (by decide +kernel), List.mem_of_getElem? (i := 677) (by decide +kernel)⟩
def lw_privs_1 : List (MethodName × Nat) := [(⟨"TurnedAbout", "shelfAt", "(I)LTurnedAbout$Shelf;"⟩, 12), (⟨"TurnedAbout", "refuse", "(I)I"⟩, 12), (⟨"TurnedAbout$Shelf", "lowestBits", "(J)J"⟩, 4), (⟨"TurnedAbout", "saying", "(LTurnedAbout$Law;I)I"⟩, 12), (⟨"TurnedAbout$Reader", "readItem", "()Z"⟩, 6), (⟨"TurnedAbout$Reader", "readBase", "()Z"⟩, 6), (⟨"TurnedAbout$Reader", "readWord", "(Ljava/lang/String;)Z"⟩, 6), (⟨"TurnedAbout$Reader", "readSign", "(I)Z"⟩, 6), (⟨"TurnedAbout$Reader", "failAt", "(I)Z"⟩, 6), (⟨"TurnedAbout$Reader", "readNumber", "(II)Z"⟩, 6), (⟨"TurnedAbout$Reader", "readLaw", "()Z"⟩, 6), (⟨"TurnedAbout$Reader", "readValue", "()Z"⟩, 6), (⟨"TurnedAbout$Reader", "readWrite", "()Z"⟩, 6), (⟨"TurnedAbout$Reader", "readGo", "()Z"⟩, 6), (⟨"TurnedAbout", "isAlike", "(J)Z"⟩, 12), (⟨"TurnedAbout", "behind", "(LTurnedAbout$Law;JI)J"⟩, 12)]
theorem lw_r1 : ∀ q ∈ lw_privs_1, lw_okq q := List.forall_mem_cons.mpr ⟨lw_p0, List.forall_mem_cons.mpr ⟨lw_p1, List.forall_mem_cons.mpr ⟨lw_p2, List.forall_mem_cons.mpr ⟨lw_p3, List.forall_mem_cons.mpr ⟨lw_p4, List.forall_mem_cons.mpr ⟨lw_p5, List.forall_mem_cons.mpr ⟨lw_p6, List.forall_mem_cons.mpr ⟨lw_p7, List.forall_mem_cons.mpr ⟨lw_p8, List.forall_mem_cons.mpr ⟨lw_p9, List.forall_mem_cons.mpr ⟨lw_p10, List.forall_mem_cons.mpr ⟨lw_p11, List.forall_mem_cons.mpr ⟨lw_p12, List.forall_mem_cons.mpr ⟨lw_p13, List.forall_mem_cons.mpr ⟨lw_p14, List.forall_mem_cons.mpr ⟨lw_p15, fun _ h => absurd h List.not_mem_nil⟩⟩⟩⟩⟩⟩⟩⟩⟩⟩⟩⟩⟩⟩⟩⟩
theorem lw_p16 : lw_okq (⟨"TurnedAbout", "countGoes", "(LTurnedAbout$Law;J)I"⟩, 12) := ⟨⟨by decide +kernel, by decide +kernel⟩, List.mem_of_getElem? (i := 22) (by decide +kernel), List.mem_of_getElem? (i := 684) (by decide +kernel), List.mem_of_getElem? (i := 685) (by decide +kernel)⟩
theorem lw_p17 : lw_okq (⟨"TurnedAbout", "findRound", "(LTurnedAbout$Law;J)Z"⟩, 12) := ⟨⟨by decide +kernel, by decide +kernel⟩, List.mem_of_getElem? (i := 22) (by decide +kernel), List.mem_of_getElem? (i := 696) (by decide +kernel), List.mem_of_getElem? (i := 697) (by decide +kernel)⟩
theorem lw_p18 : lw_okq (⟨"TurnedAbout", "keepRound", "(II)Z"⟩, 12) := ⟨⟨by decide +kernel, by decide +kernel⟩, List.mem_of_getElem? (i := 22) (by decide +kernel), List.mem_of_getElem? (i := 700) (by decide +kernel), List.mem_of_getElem? (i := 701) (by decide +kernel)⟩
theorem lw_p19 : lw_okq (⟨"TurnedAbout", "keepRun", "(LTurnedAbout$Law;JI)I"⟩, 12) := ⟨⟨by decide +kernel, by decide +kernel⟩, List.mem_of_getElem? (i := 22) (by decide +kernel), List.mem_of_getElem? (i := 711) (by decide +kernel), List.mem_of_getElem? (i := 712) (by decide +kernel)⟩
theorem lw_p20 : lw_okq (⟨"TurnedAbout", "beginner", "(LTurnedAbout$Law;JII)I"⟩, 12) := ⟨⟨by decide +kernel, by decide +kernel⟩, List.mem_of_getElem? (i := 22) (by decide +kernel), List.mem_of_getElem? (i := 722) (by decide +kernel), List.mem_of_getElem? (i := 723) (by decide +kernel)⟩
theorem lw_p21 : lw_okq (⟨"TurnedAbout", "mark", "(J)V"⟩, 12) := ⟨⟨by decide +kernel, by decide +kernel⟩, List.mem_of_getElem? (i := 22) (by decide +kernel), List.mem_of_getElem? (i := 735) (by decide +kernel), List.mem_of_getElem? (i := 736) (by decide +kernel)⟩
theorem lw_p22 : lw_okq (⟨"TurnedAbout", "isMarked", "(I)Z"⟩, 12) := ⟨⟨by decide +kernel, by decide +kernel⟩, List.mem_of_getElem? (i := 22) (by decide +kernel), List.mem_of_getElem? (i := 741) (by decide +kernel), List.mem_of_getElem? (i := 742) (by decide +kernel)⟩
theorem lw_p23 : lw_okq (⟨"TurnedAbout", "firstWrong", "(LTurnedAbout$Law;LTurnedAbout$Shelf;I)I"⟩, 12) := ⟨⟨by decide +kernel, by decide +kernel⟩, List.mem_of_getElem? (i := 22) (by decide +kernel), List.mem_of_getElem? (i := 768) (by decide +kernel), List.mem_of_getElem? (i := 769) (by decide +kernel)⟩
theorem lw_p24 : lw_okq (⟨"TurnedAbout", "holdLesson", "()Z"⟩, 12) := ⟨⟨by decide +kernel, by decide +kernel⟩, List.mem_of_getElem? (i := 22) (by decide +kernel), List.mem_of_getElem? (i := 809) (by decide +kernel), List.mem_of_getElem? (i := 810) (by decide +kernel)⟩
theorem lw_p25 : lw_okq (⟨"TurnedAboutModel", "isShelf", "(I)Z"⟩, 38) := ⟨⟨by decide +kernel, by decide +kernel⟩, List.mem_of_getElem? (i := 911) (by decide +kernel), List.mem_of_getElem? (i := 1036) (by decide +kernel), List.mem_of_getElem? (i := 1037) (by decide +kernel)⟩
theorem lw_p26 : lw_okq (⟨"TurnedAboutModel", "no", "(I)I"⟩, 38) := ⟨⟨by decide +kernel, by decide +kernel⟩, List.mem_of_getElem? (i := 911) (by decide +kernel), List.mem_of_getElem? (i := 1040) (by decide +kernel), List.mem_of_getElem? (i := 1041) (by decide +kernel)⟩
theorem lw_p27 : lw_okq (⟨"TurnedAboutModel", "isLaw", "(I)Z"⟩, 38) := ⟨⟨by decide +kernel, by decide +kernel⟩, List.mem_of_getElem? (i := 911) (by decide +kernel), List.mem_of_getElem? (i := 1060) (by decide +kernel), List.mem_of_getElem? (i := 1061) (by decide +kernel)⟩
theorem lw_p28 : lw_okq (⟨"TurnedAboutModel", "nextOf", "(IJ)J"⟩, 38) := ⟨⟨by decide +kernel, by decide +kernel⟩, List.mem_of_getElem? (i := 911) (by decide +kernel), List.mem_of_getElem? (i := 1073) (by decide +kernel), List.mem_of_getElem? (i := 1074) (by decide +kernel)⟩
theorem lw_p29 : lw_okq (⟨"TurnedAboutModel", "turnedOf", "(J)J"⟩, 38) := ⟨⟨by decide +kernel, by decide +kernel⟩, List.mem_of_getElem? (i := 911) (by decide +kernel), List.mem_of_getElem? (i := 1077) (by decide +kernel), List.mem_of_getElem? (i := 1078) (by decide +kernel)⟩
theorem lw_p30 : lw_okq (⟨"TurnedAboutModel", "ordered", "(J)J"⟩, 38) := ⟨⟨by decide +kernel, by decide +kernel⟩, List.mem_of_getElem? (i := 911) (by decide +kernel), List.mem_of_getElem? (i := 1081) (by decide +kernel), List.mem_of_getElem? (i := 1082) (by decide +kernel)⟩
theorem lw_p31 : lw_okq (⟨"TurnedAboutModel", "figures", "(J)I"⟩, 38) := ⟨⟨by decide +kernel, by decide +kernel⟩, List.mem_of_getElem? (i := 911) (by decide +kernel), List.mem_of_getElem? (i := 1085) (by decide +kernel), List.mem_of_getElem? (i := 1086) (by decide +kernel)⟩
def lw_privs_2 : List (MethodName × Nat) := [(⟨"TurnedAbout", "countGoes", "(LTurnedAbout$Law;J)I"⟩, 12), (⟨"TurnedAbout", "findRound", "(LTurnedAbout$Law;J)Z"⟩, 12), (⟨"TurnedAbout", "keepRound", "(II)Z"⟩, 12), (⟨"TurnedAbout", "keepRun", "(LTurnedAbout$Law;JI)I"⟩, 12), (⟨"TurnedAbout", "beginner", "(LTurnedAbout$Law;JII)I"⟩, 12), (⟨"TurnedAbout", "mark", "(J)V"⟩, 12), (⟨"TurnedAbout", "isMarked", "(I)Z"⟩, 12), (⟨"TurnedAbout", "firstWrong", "(LTurnedAbout$Law;LTurnedAbout$Shelf;I)I"⟩, 12), (⟨"TurnedAbout", "holdLesson", "()Z"⟩, 12), (⟨"TurnedAboutModel", "isShelf", "(I)Z"⟩, 38), (⟨"TurnedAboutModel", "no", "(I)I"⟩, 38), (⟨"TurnedAboutModel", "isLaw", "(I)Z"⟩, 38), (⟨"TurnedAboutModel", "nextOf", "(IJ)J"⟩, 38), (⟨"TurnedAboutModel", "turnedOf", "(J)J"⟩, 38), (⟨"TurnedAboutModel", "ordered", "(J)J"⟩, 38), (⟨"TurnedAboutModel", "figures", "(J)I"⟩, 38)]
theorem lw_r2 : ∀ q ∈ lw_privs_2, lw_okq q := List.forall_mem_cons.mpr ⟨lw_p16, List.forall_mem_cons.mpr ⟨lw_p17, List.forall_mem_cons.mpr ⟨lw_p18, List.forall_mem_cons.mpr ⟨lw_p19, List.forall_mem_cons.mpr ⟨lw_p20, List.forall_mem_cons.mpr ⟨lw_p21, List.forall_mem_cons.mpr ⟨lw_p22, List.forall_mem_cons.mpr ⟨lw_p23, List.forall_mem_cons.mpr ⟨lw_p24, List.forall_mem_cons.mpr ⟨lw_p25, List.forall_mem_cons.mpr ⟨lw_p26, List.forall_mem_cons.mpr ⟨lw_p27, List.forall_mem_cons.mpr ⟨lw_p28, List.forall_mem_cons.mpr ⟨lw_p29, List.forall_mem_cons.mpr ⟨lw_p30, List.forall_mem_cons.mpr ⟨lw_p31, fun _ h => absurd h List.not_mem_nil⟩⟩⟩⟩⟩⟩⟩⟩⟩⟩⟩⟩⟩⟩⟩⟩
theorem lw_p32 : lw_okq (⟨"TurnedAboutModel", "greatest", "(I)I"⟩, 38) := ⟨⟨by decide +kernel, by decide +kernel⟩, List.mem_of_getElem? (i := 911) (by decide +kernel), List.mem_of_getElem? (i := 1094) (by decide +kernel), List.mem_of_getElem? (i := 1095) (by decide +kernel)⟩
theorem lw_p33 : lw_okq (⟨"TurnedAboutModel", "adds", "(II)I"⟩, 38) := ⟨⟨by decide +kernel, by decide +kernel⟩, List.mem_of_getElem? (i := 911) (by decide +kernel), List.mem_of_getElem? (i := 1107) (by decide +kernel), List.mem_of_getElem? (i := 1108) (by decide +kernel)⟩
theorem lw_p34 : lw_okq (⟨"TurnedAboutModel", "wanted", "(I)I"⟩, 38) := ⟨⟨by decide +kernel, by decide +kernel⟩, List.mem_of_getElem? (i := 911) (by decide +kernel), List.mem_of_getElem? (i := 1123) (by decide +kernel), List.mem_of_getElem? (i := 1124) (by decide +kernel)⟩
theorem lw_p35 : lw_okq (⟨"TurnedAboutModel", "all", "([I[JZ)V"⟩, 38) := ⟨⟨by decide +kernel, by decide +kernel⟩, List.mem_of_getElem? (i := 911) (by decide +kernel), List.mem_of_getElem? (i := 1127) (by decide +kernel), List.mem_of_getElem? (i := 1128) (by decide +kernel)⟩
theorem lw_p36 : lw_okq (⟨"TurnedAboutModel", "carries", "([II[IIZ)I"⟩, 38) := ⟨⟨by decide +kernel, by decide +kernel⟩, List.mem_of_getElem? (i := 911) (by decide +kernel), List.mem_of_getElem? (i := 1131) (by decide +kernel), List.mem_of_getElem? (i := 1132) (by decide +kernel)⟩
theorem lw_p37 : lw_okq (⟨"TurnedAboutModel", "item", "()Z"⟩, 38) := ⟨⟨by decide +kernel, by decide +kernel⟩, List.mem_of_getElem? (i := 911) (by decide +kernel), List.mem_of_getElem? (i := 1135) (by decide +kernel), List.mem_of_getElem? (i := 1136) (by decide +kernel)⟩
theorem lw_p38 : lw_okq (⟨"TurnedAboutModel", "isWordAt", "(I)Z"⟩, 38) := ⟨⟨by decide +kernel, by decide +kernel⟩, List.mem_of_getElem? (i := 911) (by decide +kernel), List.mem_of_getElem? (i := 1139) (by decide +kernel), List.mem_of_getElem? (i := 1140) (by decide +kernel)⟩
theorem lw_p39 : lw_okq (⟨"TurnedAboutModel", "wrong", "(I)Z"⟩, 38) := ⟨⟨by decide +kernel, by decide +kernel⟩, List.mem_of_getElem? (i := 911) (by decide +kernel), List.mem_of_getElem? (i := 1143) (by decide +kernel), List.mem_of_getElem? (i := 1144) (by decide +kernel)⟩
theorem lw_p40 : lw_okq (⟨"TurnedAboutModel", "word", "()I"⟩, 38) := ⟨⟨by decide +kernel, by decide +kernel⟩, List.mem_of_getElem? (i := 911) (by decide +kernel), List.mem_of_getElem? (i := 1147) (by decide +kernel), List.mem_of_getElem? (i := 1148) (by decide +kernel)⟩
theorem lw_p41 : lw_okq (⟨"TurnedAboutModel", "number", "()Z"⟩, 38) := ⟨⟨by decide +kernel, by decide +kernel⟩, List.mem_of_getElem? (i := 911) (by decide +kernel), List.mem_of_getElem? (i := 1151) (by decide +kernel), List.mem_of_getElem? (i := 1152) (by decide +kernel)⟩
theorem lw_p42 : lw_okq (⟨"TurnedAboutModel", "isDigit", "()Z"⟩, 38) := ⟨⟨by decide +kernel, by decide +kernel⟩, List.mem_of_getElem? (i := 911) (by decide +kernel), List.mem_of_getElem? (i := 1155) (by decide +kernel), List.mem_of_getElem? (i := 1156) (by decide +kernel)⟩
theorem lw_p43 : lw_okq (⟨"TurnedAboutModel", "isSo", "(II)Z"⟩, 38) := ⟨⟨by decide +kernel, by decide +kernel⟩, List.mem_of_getElem? (i := 911) (by decide +kernel), List.mem_of_getElem? (i := 1159) (by decide +kernel), List.mem_of_getElem? (i := 1160) (by decide +kernel)⟩
theorem lw_p44 : lw_okq (⟨"TurnedAboutModel", "writes", "(J)I"⟩, 38) := ⟨⟨by decide +kernel, by decide +kernel⟩, List.mem_of_getElem? (i := 911) (by decide +kernel), List.mem_of_getElem? (i := 1163) (by decide +kernel), List.mem_of_getElem? (i := 1164) (by decide +kernel)⟩
theorem lw_p45 : lw_okq (⟨"TurnedAboutModel", "isNumber", "(J)Z"⟩, 38) := ⟨⟨by decide +kernel, by decide +kernel⟩, List.mem_of_getElem? (i := 911) (by decide +kernel), List.mem_of_getElem? (i := 1175) (by decide +kernel), List.mem_of_getElem? (i := 1176) (by decide +kernel)⟩
theorem lw_p46 : lw_okq (⟨"TurnedAboutModel", "isAlike", "(J)Z"⟩, 38) := ⟨⟨by decide +kernel, by decide +kernel⟩, List.mem_of_getElem? (i := 911) (by decide +kernel), List.mem_of_getElem? (i := 1183) (by decide +kernel), List.mem_of_getElem? (i := 1184) (by decide +kernel)⟩
theorem lw_p47 : lw_okq (⟨"TurnedAboutModel", "checkOf", "(J)I"⟩, 38) := ⟨⟨by decide +kernel, by decide +kernel⟩, List.mem_of_getElem? (i := 911) (by decide +kernel), List.mem_of_getElem? (i := 1187) (by decide +kernel), List.mem_of_getElem? (i := 1188) (by decide +kernel)⟩
def lw_privs_3 : List (MethodName × Nat) := [(⟨"TurnedAboutModel", "greatest", "(I)I"⟩, 38), (⟨"TurnedAboutModel", "adds", "(II)I"⟩, 38), (⟨"TurnedAboutModel", "wanted", "(I)I"⟩, 38), (⟨"TurnedAboutModel", "all", "([I[JZ)V"⟩, 38), (⟨"TurnedAboutModel", "carries", "([II[IIZ)I"⟩, 38), (⟨"TurnedAboutModel", "item", "()Z"⟩, 38), (⟨"TurnedAboutModel", "isWordAt", "(I)Z"⟩, 38), (⟨"TurnedAboutModel", "wrong", "(I)Z"⟩, 38), (⟨"TurnedAboutModel", "word", "()I"⟩, 38), (⟨"TurnedAboutModel", "number", "()Z"⟩, 38), (⟨"TurnedAboutModel", "isDigit", "()Z"⟩, 38), (⟨"TurnedAboutModel", "isSo", "(II)Z"⟩, 38), (⟨"TurnedAboutModel", "writes", "(J)I"⟩, 38), (⟨"TurnedAboutModel", "isNumber", "(J)Z"⟩, 38), (⟨"TurnedAboutModel", "isAlike", "(J)Z"⟩, 38), (⟨"TurnedAboutModel", "checkOf", "(J)I"⟩, 38)]
theorem lw_r3 : ∀ q ∈ lw_privs_3, lw_okq q := List.forall_mem_cons.mpr ⟨lw_p32, List.forall_mem_cons.mpr ⟨lw_p33, List.forall_mem_cons.mpr ⟨lw_p34, List.forall_mem_cons.mpr ⟨lw_p35, List.forall_mem_cons.mpr ⟨lw_p36, List.forall_mem_cons.mpr ⟨lw_p37, List.forall_mem_cons.mpr ⟨lw_p38, List.forall_mem_cons.mpr ⟨lw_p39, List.forall_mem_cons.mpr ⟨lw_p40, List.forall_mem_cons.mpr ⟨lw_p41, List.forall_mem_cons.mpr ⟨lw_p42, List.forall_mem_cons.mpr ⟨lw_p43, List.forall_mem_cons.mpr ⟨lw_p44, List.forall_mem_cons.mpr ⟨lw_p45, List.forall_mem_cons.mpr ⟨lw_p46, List.forall_mem_cons.mpr ⟨lw_p47, fun _ h => absurd h List.not_mem_nil⟩⟩⟩⟩⟩⟩⟩⟩⟩⟩⟩⟩⟩⟩⟩⟩
theorem lw_p48 : lw_okq (⟨"TurnedAboutModel", "afterOf", "(IJI)J"⟩, 38) := ⟨⟨by decide +kernel, by decide +kernel⟩, List.mem_of_getElem? (i := 911) (by decide +kernel), List.mem_of_getElem? (i := 1199) (by decide +kernel), List.mem_of_getElem? (i := 1200) (by decide +kernel)⟩
theorem lw_p49 : lw_okq (⟨"TurnedAboutModel", "noTen", "(I)I"⟩, 38) := ⟨⟨by decide +kernel, by decide +kernel⟩, List.mem_of_getElem? (i := 911) (by decide +kernel), List.mem_of_getElem? (i := 1207) (by decide +kernel), List.mem_of_getElem? (i := 1208) (by decide +kernel)⟩
theorem lw_p50 : lw_okq (⟨"TurnedAboutModel", "goesOf", "(IJ)I"⟩, 38) := ⟨⟨by decide +kernel, by decide +kernel⟩, List.mem_of_getElem? (i := 911) (by decide +kernel), List.mem_of_getElem? (i := 1211) (by decide +kernel), List.mem_of_getElem? (i := 1212) (by decide +kernel)⟩
theorem lw_p51 : lw_okq (⟨"TurnedAboutModel", "roundOf", "(IJ)J"⟩, 38) := ⟨⟨by decide +kernel, by decide +kernel⟩, List.mem_of_getElem? (i := 911) (by decide +kernel), List.mem_of_getElem? (i := 1223) (by decide +kernel), List.mem_of_getElem? (i := 1224) (by decide +kernel)⟩
theorem lw_p52 : lw_okq (⟨"TurnedAboutModel", "alikeFrom", "(J)J"⟩, 38) := ⟨⟨by decide +kernel, by decide +kernel⟩, List.mem_of_getElem? (i := 911) (by decide +kernel), List.mem_of_getElem? (i := 1256) (by decide +kernel), List.mem_of_getElem? (i := 1257) (by decide +kernel)⟩
theorem lw_p53 : lw_okq (⟨"TurnedAboutModel", "bars", "(II)I"⟩, 38) := ⟨⟨by decide +kernel, by decide +kernel⟩, List.mem_of_getElem? (i := 911) (by decide +kernel), List.mem_of_getElem? (i := 1280) (by decide +kernel), List.mem_of_getElem? (i := 1281) (by decide +kernel)⟩
theorem lw_p54 : lw_okq (⟨"TurnedAboutModel", "wrongIn", "(III)I"⟩, 38) := ⟨⟨by decide +kernel, by decide +kernel⟩, List.mem_of_getElem? (i := 911) (by decide +kernel), List.mem_of_getElem? (i := 1284) (by decide +kernel), List.mem_of_getElem? (i := 1285) (by decide +kernel)⟩
theorem lw_p55 : lw_okq (⟨"TurnedAboutModel", "draw", "(I)I"⟩, 38) := ⟨⟨by decide +kernel, by decide +kernel⟩, List.mem_of_getElem? (i := 911) (by decide +kernel), List.mem_of_getElem? (i := 1312) (by decide +kernel), List.mem_of_getElem? (i := 1313) (by decide +kernel)⟩
theorem lw_p56 : lw_okq (⟨"TurnedAboutModel", "turning", "(II)I"⟩, 38) := ⟨⟨by decide +kernel, by decide +kernel⟩, List.mem_of_getElem? (i := 911) (by decide +kernel), List.mem_of_getElem? (i := 1325) (by decide +kernel), List.mem_of_getElem? (i := 1326) (by decide +kernel)⟩
theorem lw_p57 : lw_okq (⟨"TurnedAboutModel", "body", "(I)V"⟩, 38) := ⟨⟨by decide +kernel, by decide +kernel⟩, List.mem_of_getElem? (i := 911) (by decide +kernel), List.mem_of_getElem? (i := 1329) (by decide +kernel), List.mem_of_getElem? (i := 1330) (by decide +kernel)⟩
theorem lw_p58 : lw_okq (⟨"TurnedAboutModel", "adding", "(II)I"⟩, 38) := ⟨⟨by decide +kernel, by decide +kernel⟩, List.mem_of_getElem? (i := 911) (by decide +kernel), List.mem_of_getElem? (i := 1333) (by decide +kernel), List.mem_of_getElem? (i := 1334) (by decide +kernel)⟩
theorem lw_p59 : lw_okq (⟨"TurnedAboutModel", "reading", "(II)I"⟩, 38) := ⟨⟨by decide +kernel, by decide +kernel⟩, List.mem_of_getElem? (i := 911) (by decide +kernel), List.mem_of_getElem? (i := 1337) (by decide +kernel), List.mem_of_getElem? (i := 1338) (by decide +kernel)⟩
def lw_privs_4 : List (MethodName × Nat) := [(⟨"TurnedAboutModel", "afterOf", "(IJI)J"⟩, 38), (⟨"TurnedAboutModel", "noTen", "(I)I"⟩, 38), (⟨"TurnedAboutModel", "goesOf", "(IJ)I"⟩, 38), (⟨"TurnedAboutModel", "roundOf", "(IJ)J"⟩, 38), (⟨"TurnedAboutModel", "alikeFrom", "(J)J"⟩, 38), (⟨"TurnedAboutModel", "bars", "(II)I"⟩, 38), (⟨"TurnedAboutModel", "wrongIn", "(III)I"⟩, 38), (⟨"TurnedAboutModel", "draw", "(I)I"⟩, 38), (⟨"TurnedAboutModel", "turning", "(II)I"⟩, 38), (⟨"TurnedAboutModel", "body", "(I)V"⟩, 38), (⟨"TurnedAboutModel", "adding", "(II)I"⟩, 38), (⟨"TurnedAboutModel", "reading", "(II)I"⟩, 38)]
theorem lw_r4 : ∀ q ∈ lw_privs_4, lw_okq q := List.forall_mem_cons.mpr ⟨lw_p48, List.forall_mem_cons.mpr ⟨lw_p49, List.forall_mem_cons.mpr ⟨lw_p50, List.forall_mem_cons.mpr ⟨lw_p51, List.forall_mem_cons.mpr ⟨lw_p52, List.forall_mem_cons.mpr ⟨lw_p53, List.forall_mem_cons.mpr ⟨lw_p54, List.forall_mem_cons.mpr ⟨lw_p55, List.forall_mem_cons.mpr ⟨lw_p56, List.forall_mem_cons.mpr ⟨lw_p57, List.forall_mem_cons.mpr ⟨lw_p58, List.forall_mem_cons.mpr ⟨lw_p59, fun _ h => absurd h List.not_mem_nil⟩⟩⟩⟩⟩⟩⟩⟩⟩⟩⟩⟩
def lw_privs : List (MethodName × Nat) := lw_privs_1 ++ (lw_privs_2 ++ (lw_privs_3 ++ (lw_privs_4)))
def lw_tbl : List Cond := k2_sels lw_privs ++ tables_1
theorem lw_privs_ok : ∀ q ∈ lw_privs, lw_okq q := by
  show ∀ q ∈ lw_privs_1 ++ (lw_privs_2 ++ (lw_privs_3 ++ (lw_privs_4))), lw_okq q
  exact List.forall_mem_append.mpr ⟨lw_r1, List.forall_mem_append.mpr ⟨lw_r2, List.forall_mem_append.mpr ⟨lw_r3, lw_r4⟩⟩⟩

def RX0 : String := "TurnedAbout$Cube"
def TX0 : u_T := fun k => match k with
  | 0 => ("TurnedAbout$Law", "place", "I", true)
  | _ => ("TurnedAbout$Law", "a", "I", true)
def tyX0 : Nat → FieldType := fun k => match k with
  | 0 => .int
  | _ => .int
theorem nmX0 : ∀ a, a < 2 → ∀ b, b < 2 → a ≠ b → (TX0 a).2.1 ≠ (TX0 b).2.1 := by decide +kernel
theorem tyX0_ok : ∀ k, k < 2 → parseFieldDescriptor (TX0 k).2.2.1 = some (tyX0 k) := by decide +kernel
abbrev cX0_init : ByteArray := prog_2_method_1_code
def yX0_init : MethodName := ⟨RX0, "<init>", "(II)V"⟩
abbrev cX0_kindNumber : ByteArray := prog_2_method_2_code
def yX0_kindNumber : MethodName := ⟨RX0, "kindNumber", "()I"⟩
abbrev cX0_isUnder : ByteArray := prog_2_method_3_code
def yX0_isUnder : MethodName := ⟨RX0, "isUnder", "(I)Z"⟩
abbrev cX0_reckon : ByteArray := prog_2_method_4_code
def yX0_reckon : MethodName := ⟨RX0, "reckon", "(JLTurnedAbout$State;)J"⟩
abbrev cX0_turns : ByteArray := prog_2_method_5_code
def yX0_turns : MethodName := ⟨RX0, "turns", "(I[I)I"⟩
abbrev cX0_adds : ByteArray := prog_2_method_6_code
def yX0_adds : MethodName := ⟨RX0, "adds", "(I[I)I"⟩
def RX1 : String := "TurnedAbout$Figures"
def TX1 : u_T := fun k => match k with
  | _ => ("", "", "", false)
def tyX1 : Nat → FieldType := fun k => match k with
  | _ => .int
theorem nmX1 : ∀ a, a < 0 → ∀ b, b < 0 → a ≠ b → (TX1 a).2.1 ≠ (TX1 b).2.1 := by decide +kernel
theorem tyX1_ok : ∀ k, k < 0 → parseFieldDescriptor (TX1 k).2.2.1 = some (tyX1 k) := by decide +kernel
abbrev cX1_turnedOf : ByteArray := prog_3_method_2_code
def yX1_turnedOf : MethodName := ⟨RX1, "turnedOf", "(JI)J"⟩
abbrev cX1_howMany : ByteArray := prog_3_method_3_code
def yX1_howMany : MethodName := ⟨RX1, "howMany", "(JI)I"⟩
abbrev cX1_together : ByteArray := prog_3_method_4_code
def yX1_together : MethodName := ⟨RX1, "together", "(JII)J"⟩
abbrev cX1_multiplied : ByteArray := prog_3_method_5_code
def yX1_multiplied : MethodName := ⟨RX1, "multiplied", "(JI)J"⟩
abbrev cX1_checkOf : ByteArray := prog_3_method_6_code
def yX1_checkOf : MethodName := ⟨RX1, "checkOf", "(JI)I"⟩
abbrev cX1_spread : ByteArray := prog_3_method_7_code
def yX1_spread : MethodName := ⟨RX1, "spread", "(JI)J"⟩
abbrev cX1_alikeFrom : ByteArray := prog_3_method_8_code
def yX1_alikeFrom : MethodName := ⟨RX1, "alikeFrom", "(JI)J"⟩
abbrev cX1_mirrored : ByteArray := prog_3_method_9_code
def yX1_mirrored : MethodName := ⟨RX1, "mirrored", "(JII)J"⟩
abbrev cX1_firstUnlike : ByteArray := prog_3_method_10_code
def yX1_firstUnlike : MethodName := ⟨RX1, "firstUnlike", "(JJI)I"⟩
abbrev cX1_missedSlips : ByteArray := prog_3_method_11_code
def yX1_missedSlips : MethodName := ⟨RX1, "missedSlips", "(JI)I"⟩
def RX2 : String := "TurnedAbout$Law"
def TX2 : u_T := fun k => match k with
  | 0 => ("TurnedAbout$Law", "place", "I", true)
  | _ => ("TurnedAbout$Law", "a", "I", true)
def tyX2 : Nat → FieldType := fun k => match k with
  | 0 => .int
  | _ => .int
theorem nmX2 : ∀ a, a < 2 → ∀ b, b < 2 → a ≠ b → (TX2 a).2.1 ≠ (TX2 b).2.1 := by decide +kernel
theorem tyX2_ok : ∀ k, k < 2 → parseFieldDescriptor (TX2 k).2.2.1 = some (tyX2 k) := by decide +kernel
abbrev cX2_init : ByteArray := prog_4_method_1_code
def yX2_init : MethodName := ⟨RX2, "<init>", "(II)V"⟩
abbrev cX2_kindNumber : ByteArray := prog_4_method_2_code
def yX2_kindNumber : MethodName := ⟨RX2, "kindNumber", "()I"⟩
abbrev cX2_isUnder : ByteArray := prog_4_method_3_code
def yX2_isUnder : MethodName := ⟨RX2, "isUnder", "(I)Z"⟩
abbrev cX2_reckon : ByteArray := prog_4_method_4_code
def yX2_reckon : MethodName := ⟨RX2, "reckon", "(JLTurnedAbout$State;)J"⟩
abbrev cX2_onward : ByteArray := prog_4_method_5_code
def yX2_onward : MethodName := ⟨RX2, "onward", "(JLTurnedAbout$State;)J"⟩
abbrev cX2_turns : ByteArray := prog_4_method_6_code
def yX2_turns : MethodName := ⟨RX2, "turns", "(I[I)I"⟩
abbrev cX2_adds : ByteArray := prog_4_method_7_code
def yX2_adds : MethodName := ⟨RX2, "adds", "(I[I)I"⟩
abbrev cX2_reads : ByteArray := prog_4_method_8_code
def yX2_reads : MethodName := ⟨RX2, "reads", "(I[I)I"⟩
def RX3 : String := "TurnedAbout$Order"
def TX3 : u_T := fun k => match k with
  | 0 => ("TurnedAbout$Law", "place", "I", true)
  | _ => ("TurnedAbout$Law", "a", "I", true)
def tyX3 : Nat → FieldType := fun k => match k with
  | 0 => .int
  | _ => .int
theorem nmX3 : ∀ a, a < 2 → ∀ b, b < 2 → a ≠ b → (TX3 a).2.1 ≠ (TX3 b).2.1 := by decide +kernel
theorem tyX3_ok : ∀ k, k < 2 → parseFieldDescriptor (TX3 k).2.2.1 = some (tyX3 k) := by decide +kernel
abbrev cX3_init : ByteArray := prog_5_method_1_code
def yX3_init : MethodName := ⟨RX3, "<init>", "(II)V"⟩
abbrev cX3_kindNumber : ByteArray := prog_5_method_2_code
def yX3_kindNumber : MethodName := ⟨RX3, "kindNumber", "()I"⟩
abbrev cX3_isUnder : ByteArray := prog_5_method_3_code
def yX3_isUnder : MethodName := ⟨RX3, "isUnder", "(I)Z"⟩
abbrev cX3_reckon : ByteArray := prog_5_method_4_code
def yX3_reckon : MethodName := ⟨RX3, "reckon", "(JLTurnedAbout$State;)J"⟩
abbrev cX3_adds : ByteArray := prog_5_method_5_code
def yX3_adds : MethodName := ⟨RX3, "adds", "(I[I)I"⟩
def RX4 : String := "TurnedAbout$Reader"
def TX4 : u_T := fun k => match k with
  | 0 => ("TurnedAbout$Reader", "state", "LTurnedAbout$State;", true)
  | 1 => ("TurnedAbout$Reader", "letters", "LTurnedAbout$Shelf;", false)
  | 2 => ("TurnedAbout$Reader", "at", "I", false)
  | 3 => ("TurnedAbout$Reader", "numberRead", "I", false)
  | 4 => ("TurnedAbout$Reader", "numberPlace", "I", false)
  | _ => ("TurnedAbout$Reader", "faultPlace", "I", false)
def tyX4 : Nat → FieldType := fun k => match k with
  | 0 => .object "TurnedAbout$State"
  | 1 => .object "TurnedAbout$Shelf"
  | 2 => .int
  | 3 => .int
  | 4 => .int
  | _ => .int
theorem nmX4 : ∀ a, a < 6 → ∀ b, b < 6 → a ≠ b → (TX4 a).2.1 ≠ (TX4 b).2.1 := by decide +kernel
theorem tyX4_ok : ∀ k, k < 6 → parseFieldDescriptor (TX4 k).2.2.1 = some (tyX4 k) := by decide +kernel
abbrev cX4_init : ByteArray := prog_6_method_1_code
def yX4_init : MethodName := ⟨RX4, "<init>", "()V"⟩
abbrev cX4_read : ByteArray := prog_6_method_2_code
def yX4_read : MethodName := ⟨RX4, "read", "(LTurnedAbout$Shelf;LTurnedAbout$State;)I"⟩
abbrev cX4_readItem : ByteArray := prog_6_method_3_code
def yX4_readItem : MethodName := ⟨RX4, "readItem", "()Z"⟩
abbrev cX4_readBase : ByteArray := prog_6_method_4_code
def yX4_readBase : MethodName := ⟨RX4, "readBase", "()Z"⟩
abbrev cX4_readLaw : ByteArray := prog_6_method_5_code
def yX4_readLaw : MethodName := ⟨RX4, "readLaw", "()Z"⟩
abbrev cX4_readValue : ByteArray := prog_6_method_6_code
def yX4_readValue : MethodName := ⟨RX4, "readValue", "()Z"⟩
abbrev cX4_readWrite : ByteArray := prog_6_method_7_code
def yX4_readWrite : MethodName := ⟨RX4, "readWrite", "()Z"⟩
abbrev cX4_readGo : ByteArray := prog_6_method_8_code
def yX4_readGo : MethodName := ⟨RX4, "readGo", "()Z"⟩
abbrev cX4_readWord : ByteArray := prog_6_method_9_code
def yX4_readWord : MethodName := ⟨RX4, "readWord", "(Ljava/lang/String;)Z"⟩
abbrev cX4_readSign : ByteArray := prog_6_method_10_code
def yX4_readSign : MethodName := ⟨RX4, "readSign", "(I)Z"⟩
abbrev cX4_readNumber : ByteArray := prog_6_method_11_code
def yX4_readNumber : MethodName := ⟨RX4, "readNumber", "(II)Z"⟩
abbrev cX4_isDigit : ByteArray := prog_6_method_12_code
def yX4_isDigit : MethodName := ⟨RX4, "isDigit", "(I)Z"⟩
abbrev cX4_failAt : ByteArray := prog_6_method_13_code
def yX4_failAt : MethodName := ⟨RX4, "failAt", "(I)Z"⟩
def RX5 : String := "TurnedAbout$Shelf"
def TX5 : u_T := fun k => match k with
  | 0 => ("TurnedAbout$Shelf", "elements", "[J", true)
  | 1 => ("TurnedAbout$Shelf", "sort", "I", false)
  | 2 => ("TurnedAbout$Shelf", "length", "I", false)
  | _ => ("TurnedAbout$Shelf", "law", "I", false)
def tyX5 : Nat → FieldType := fun k => match k with
  | 0 => .array .long
  | 1 => .int
  | 2 => .int
  | _ => .int
theorem nmX5 : ∀ a, a < 4 → ∀ b, b < 4 → a ≠ b → (TX5 a).2.1 ≠ (TX5 b).2.1 := by decide +kernel
theorem tyX5_ok : ∀ k, k < 4 → parseFieldDescriptor (TX5 k).2.2.1 = some (tyX5 k) := by decide +kernel
abbrev cX5_init : ByteArray := prog_7_method_1_code
def yX5_init : MethodName := ⟨RX5, "<init>", "()V"⟩
abbrev cX5_holdRow : ByteArray := prog_7_method_2_code
def yX5_holdRow : MethodName := ⟨RX5, "holdRow", "(II)V"⟩
abbrev cX5_holdLaw : ByteArray := prog_7_method_3_code
def yX5_holdLaw : MethodName := ⟨RX5, "holdLaw", "(I)V"⟩
abbrev cX5_refusalOfRow : ByteArray := prog_7_method_4_code
def yX5_refusalOfRow : MethodName := ⟨RX5, "refusalOfRow", "()I"⟩
abbrev cX5_has : ByteArray := prog_7_method_5_code
def yX5_has : MethodName := ⟨RX5, "has", "(II)Z"⟩
abbrev cX5_elementAt : ByteArray := prog_7_method_6_code
def yX5_elementAt : MethodName := ⟨RX5, "elementAt", "(I)J"⟩
abbrev cX5_letterAt : ByteArray := prog_7_method_7_code
def yX5_letterAt : MethodName := ⟨RX5, "letterAt", "(I)I"⟩
abbrev cX5_put : ByteArray := prog_7_method_8_code
def yX5_put : MethodName := ⟨RX5, "put", "(IJ)V"⟩
abbrev cX5_lowestBits : ByteArray := prog_7_method_9_code
def yX5_lowestBits : MethodName := ⟨RX5, "lowestBits", "(J)J"⟩
def RX6 : String := "TurnedAbout$Square"
def TX6 : u_T := fun k => match k with
  | 0 => ("TurnedAbout$Law", "place", "I", true)
  | _ => ("TurnedAbout$Law", "a", "I", true)
def tyX6 : Nat → FieldType := fun k => match k with
  | 0 => .int
  | _ => .int
theorem nmX6 : ∀ a, a < 2 → ∀ b, b < 2 → a ≠ b → (TX6 a).2.1 ≠ (TX6 b).2.1 := by decide +kernel
theorem tyX6_ok : ∀ k, k < 2 → parseFieldDescriptor (TX6 k).2.2.1 = some (tyX6 k) := by decide +kernel
abbrev cX6_init : ByteArray := prog_8_method_1_code
def yX6_init : MethodName := ⟨RX6, "<init>", "(II)V"⟩
abbrev cX6_kindNumber : ByteArray := prog_8_method_2_code
def yX6_kindNumber : MethodName := ⟨RX6, "kindNumber", "()I"⟩
abbrev cX6_isUnder : ByteArray := prog_8_method_3_code
def yX6_isUnder : MethodName := ⟨RX6, "isUnder", "(I)Z"⟩
abbrev cX6_reckon : ByteArray := prog_8_method_4_code
def yX6_reckon : MethodName := ⟨RX6, "reckon", "(JLTurnedAbout$State;)J"⟩
abbrev cX6_adds : ByteArray := prog_8_method_5_code
def yX6_adds : MethodName := ⟨RX6, "adds", "(I[I)I"⟩
def RX7 : String := "TurnedAbout$State"
def TX7 : u_T := fun k => match k with
  | 0 => ("TurnedAbout$State", "base", "I", false)
  | 1 => ("TurnedAbout$State", "seed", "I", false)
  | 2 => ("TurnedAbout$State", "lawCount", "I", false)
  | 3 => ("TurnedAbout$State", "slateCount", "I", false)
  | 4 => ("TurnedAbout$State", "rules", "[LTurnedAbout$Law;", true)
  | 5 => ("TurnedAbout$State", "values", "[I", true)
  | _ => ("TurnedAbout$State", "numbers", "[J", true)
def tyX7 : Nat → FieldType := fun k => match k with
  | 0 => .int
  | 1 => .int
  | 2 => .int
  | 3 => .int
  | 4 => .array (.object "TurnedAbout$Law")
  | 5 => .array .int
  | _ => .array .long
theorem nmX7 : ∀ a, a < 7 → ∀ b, b < 7 → a ≠ b → (TX7 a).2.1 ≠ (TX7 b).2.1 := by decide +kernel
theorem tyX7_ok : ∀ k, k < 7 → parseFieldDescriptor (TX7 k).2.2.1 = some (tyX7 k) := by decide +kernel
abbrev cX7_init : ByteArray := prog_9_method_1_code
def yX7_init : MethodName := ⟨RX7, "<init>", "()V"⟩
abbrev cX7_takeOver : ByteArray := prog_9_method_2_code
def yX7_takeOver : MethodName := ⟨RX7, "takeOver", "(LTurnedAbout$State;)V"⟩
abbrev cX7_lawAt : ByteArray := prog_9_method_3_code
def yX7_lawAt : MethodName := ⟨RX7, "lawAt", "(I)LTurnedAbout$Law;"⟩
abbrev cX7_lawsFull : ByteArray := prog_9_method_4_code
def yX7_lawsFull : MethodName := ⟨RX7, "lawsFull", "()Z"⟩
abbrev cX7_addLaw : ByteArray := prog_9_method_5_code
def yX7_addLaw : MethodName := ⟨RX7, "addLaw", "(II)I"⟩
abbrev cX7_newLaw : ByteArray := prog_9_method_6_code
def yX7_newLaw : MethodName := ⟨RX7, "newLaw", "(III)LTurnedAbout$Law;"⟩
abbrev cX7_valueOf : ByteArray := prog_9_method_7_code
def yX7_valueOf : MethodName := ⟨RX7, "valueOf", "(II)I"⟩
abbrev cX7_tellValue : ByteArray := prog_9_method_8_code
def yX7_tellValue : MethodName := ⟨RX7, "tellValue", "(III)V"⟩
abbrev cX7_dearestFigure : ByteArray := prog_9_method_9_code
def yX7_dearestFigure : MethodName := ⟨RX7, "dearestFigure", "(I)I"⟩
abbrev cX7_slateFull : ByteArray := prog_9_method_10_code
def yX7_slateFull : MethodName := ⟨RX7, "slateFull", "()Z"⟩
abbrev cX7_put : ByteArray := prog_9_method_11_code
def yX7_put : MethodName := ⟨RX7, "put", "(J)V"⟩
abbrev cX7_lastNumber : ByteArray := prog_9_method_12_code
def yX7_lastNumber : MethodName := ⟨RX7, "lastNumber", "()J"⟩
abbrev cX7_goBy : ByteArray := prog_9_method_13_code
def yX7_goBy : MethodName := ⟨RX7, "goBy", "(LTurnedAbout$Law;)Z"⟩
abbrev cX7_draw : ByteArray := prog_9_method_14_code
def yX7_draw : MethodName := ⟨RX7, "draw", "(I)I"⟩
def RX8 : String := "TurnedAbout$Take"
def TX8 : u_T := fun k => match k with
  | 0 => ("TurnedAbout$Law", "place", "I", true)
  | _ => ("TurnedAbout$Law", "a", "I", true)
def tyX8 : Nat → FieldType := fun k => match k with
  | 0 => .int
  | _ => .int
theorem nmX8 : ∀ a, a < 2 → ∀ b, b < 2 → a ≠ b → (TX8 a).2.1 ≠ (TX8 b).2.1 := by decide +kernel
theorem tyX8_ok : ∀ k, k < 2 → parseFieldDescriptor (TX8 k).2.2.1 = some (tyX8 k) := by decide +kernel
abbrev cX8_init : ByteArray := prog_10_method_1_code
def yX8_init : MethodName := ⟨RX8, "<init>", "(II)V"⟩
abbrev cX8_kindNumber : ByteArray := prog_10_method_2_code
def yX8_kindNumber : MethodName := ⟨RX8, "kindNumber", "()I"⟩
abbrev cX8_isUnder : ByteArray := prog_10_method_3_code
def yX8_isUnder : MethodName := ⟨RX8, "isUnder", "(I)Z"⟩
abbrev cX8_reckon : ByteArray := prog_10_method_4_code
def yX8_reckon : MethodName := ⟨RX8, "reckon", "(JLTurnedAbout$State;)J"⟩
abbrev cX8_turns : ByteArray := prog_10_method_5_code
def yX8_turns : MethodName := ⟨RX8, "turns", "(I[I)I"⟩
def RX9 : String := "TurnedAbout$Times"
def TX9 : u_T := fun k => match k with
  | 0 => ("TurnedAbout$Law", "place", "I", true)
  | _ => ("TurnedAbout$Law", "a", "I", true)
def tyX9 : Nat → FieldType := fun k => match k with
  | 0 => .int
  | _ => .int
theorem nmX9 : ∀ a, a < 2 → ∀ b, b < 2 → a ≠ b → (TX9 a).2.1 ≠ (TX9 b).2.1 := by decide +kernel
theorem tyX9_ok : ∀ k, k < 2 → parseFieldDescriptor (TX9 k).2.2.1 = some (tyX9 k) := by decide +kernel
abbrev cX9_init : ByteArray := prog_11_method_1_code
def yX9_init : MethodName := ⟨RX9, "<init>", "(II)V"⟩
abbrev cX9_kindNumber : ByteArray := prog_11_method_2_code
def yX9_kindNumber : MethodName := ⟨RX9, "kindNumber", "()I"⟩
abbrev cX9_isUnder : ByteArray := prog_11_method_3_code
def yX9_isUnder : MethodName := ⟨RX9, "isUnder", "(I)Z"⟩
abbrev cX9_reckon : ByteArray := prog_11_method_4_code
def yX9_reckon : MethodName := ⟨RX9, "reckon", "(JLTurnedAbout$State;)J"⟩
abbrev cX9_reads : ByteArray := prog_11_method_5_code
def yX9_reads : MethodName := ⟨RX9, "reads", "(I[I)I"⟩
abbrev cX9_turns : ByteArray := prog_11_method_6_code
def yX9_turns : MethodName := ⟨RX9, "turns", "(I[I)I"⟩
def RX10 : String := "TurnedAbout$Told"
def TX10 : u_T := fun k => match k with
  | 0 => ("TurnedAbout$Law", "place", "I", true)
  | _ => ("TurnedAbout$Law", "a", "I", true)
def tyX10 : Nat → FieldType := fun k => match k with
  | 0 => .int
  | _ => .int
theorem nmX10 : ∀ a, a < 2 → ∀ b, b < 2 → a ≠ b → (TX10 a).2.1 ≠ (TX10 b).2.1 := by decide +kernel
theorem tyX10_ok : ∀ k, k < 2 → parseFieldDescriptor (TX10 k).2.2.1 = some (tyX10 k) := by decide +kernel
abbrev cX10_init : ByteArray := prog_12_method_1_code
def yX10_init : MethodName := ⟨RX10, "<init>", "(II)V"⟩
abbrev cX10_kindNumber : ByteArray := prog_12_method_2_code
def yX10_kindNumber : MethodName := ⟨RX10, "kindNumber", "()I"⟩
abbrev cX10_isUnder : ByteArray := prog_12_method_3_code
def yX10_isUnder : MethodName := ⟨RX10, "isUnder", "(I)Z"⟩
abbrev cX10_reckon : ByteArray := prog_12_method_4_code
def yX10_reckon : MethodName := ⟨RX10, "reckon", "(JLTurnedAbout$State;)J"⟩
abbrev cX10_reads : ByteArray := prog_12_method_5_code
def yX10_reads : MethodName := ⟨RX10, "reads", "(I[I)I"⟩
def RX11 : String := "TurnedAbout"
def TX11 : u_T := fun k => match k with
  | 0 => ("TurnedAbout", "now", "LTurnedAbout$State;", true)
  | 1 => ("TurnedAbout", "imaged", "LTurnedAbout$State;", true)
  | 2 => ("TurnedAbout", "imageTaken", "Z", false)
  | 3 => ("TurnedAbout", "shelves", "[LTurnedAbout$Shelf;", true)
  | 4 => ("TurnedAbout", "refusals", "[I", true)
  | 5 => ("TurnedAbout", "reader", "LTurnedAbout$Reader;", true)
  | 6 => ("TurnedAbout", "latestFault", "I", false)
  | 7 => ("TurnedAbout", "ran", "[I", true)
  | 8 => ("TurnedAbout", "run", "[J", true)
  | 9 => ("TurnedAbout", "roundFound", "[J", true)
  | 10 => ("TurnedAbout", "leasts", "[J", true)
  | _ => ("TurnedAbout", "marks", "[J", true)
def tyX11 : Nat → FieldType := fun k => match k with
  | 0 => .object "TurnedAbout$State"
  | 1 => .object "TurnedAbout$State"
  | 2 => .boolean
  | 3 => .array (.object "TurnedAbout$Shelf")
  | 4 => .array .int
  | 5 => .object "TurnedAbout$Reader"
  | 6 => .int
  | 7 => .array .int
  | 8 => .array .long
  | 9 => .array .long
  | 10 => .array .long
  | _ => .array .long
theorem nmX11 : ∀ a, a < 12 → ∀ b, b < 12 → a ≠ b → (TX11 a).2.1 ≠ (TX11 b).2.1 := by decide +kernel
theorem tyX11_ok : ∀ k, k < 12 → parseFieldDescriptor (TX11 k).2.2.1 = some (tyX11 k) := by decide +kernel
abbrev cX11_init : ByteArray := prog_1_method_1_code
def yX11_init : MethodName := ⟨RX11, "<init>", "()V"⟩
abbrev cX11_row : ByteArray := prog_1_method_2_code
def yX11_row : MethodName := ⟨RX11, "row", "(III)I"⟩
abbrev cX11_set : ByteArray := prog_1_method_3_code
def yX11_set : MethodName := ⟨RX11, "set", "(IIJ)I"⟩
abbrev cX11_copy : ByteArray := prog_1_method_4_code
def yX11_copy : MethodName := ⟨RX11, "copy", "(IIIII)I"⟩
abbrev cX11_element : ByteArray := prog_1_method_5_code
def yX11_element : MethodName := ⟨RX11, "element", "(II)J"⟩
abbrev cX11_show : ByteArray := prog_1_method_6_code
def yX11_show : MethodName := ⟨RX11, "show", "(II)I"⟩
abbrev cX11_holds : ByteArray := prog_1_method_7_code
def yX11_holds : MethodName := ⟨RX11, "holds", "(I)I"⟩
abbrev cX11_says : ByteArray := prog_1_method_8_code
def yX11_says : MethodName := ⟨RX11, "says", "(II)I"⟩
abbrev cX11_saying : ByteArray := prog_1_method_9_code
def yX11_saying : MethodName := ⟨RX11, "saying", "(LTurnedAbout$Law;I)I"⟩
abbrev cX11_shelfAt : ByteArray := prog_1_method_10_code
def yX11_shelfAt : MethodName := ⟨RX11, "shelfAt", "(I)LTurnedAbout$Shelf;"⟩
abbrev cX11_base : ByteArray := prog_1_method_11_code
def yX11_base : MethodName := ⟨RX11, "base", "(I)I"⟩
abbrev cX11_law : ByteArray := prog_1_method_12_code
def yX11_law : MethodName := ⟨RX11, "law", "(II)I"⟩
abbrev cX11_value : ByteArray := prog_1_method_13_code
def yX11_value : MethodName := ⟨RX11, "value", "(III)I"⟩
abbrev cX11_lawOf : ByteArray := prog_1_method_14_code
def yX11_lawOf : MethodName := ⟨RX11, "lawOf", "(II)I"⟩
abbrev cX11_text : ByteArray := prog_1_method_15_code
def yX11_text : MethodName := ⟨RX11, "text", "(I)I"⟩
abbrev cX11_fault : ByteArray := prog_1_method_16_code
def yX11_fault : MethodName := ⟨RX11, "fault", "()I"⟩
abbrev cX11_turned : ByteArray := prog_1_method_17_code
def yX11_turned : MethodName := ⟨RX11, "turned", "(J)J"⟩
abbrev cX11_numberOf : ByteArray := prog_1_method_18_code
def yX11_numberOf : MethodName := ⟨RX11, "numberOf", "(JI)I"⟩
abbrev cX11_waits : ByteArray := prog_1_method_19_code
def yX11_waits : MethodName := ⟨RX11, "waits", "(J)J"⟩
abbrev cX11_slip : ByteArray := prog_1_method_20_code
def yX11_slip : MethodName := ⟨RX11, "slip", "(JJ)I"⟩
abbrev cX11_missed : ByteArray := prog_1_method_21_code
def yX11_missed : MethodName := ⟨RX11, "missed", "(J)I"⟩
abbrev cX11_isNumber : ByteArray := prog_1_method_22_code
def yX11_isNumber : MethodName := ⟨RX11, "isNumber", "(J)Z"⟩
abbrev cX11_isAlike : ByteArray := prog_1_method_23_code
def yX11_isAlike : MethodName := ⟨RX11, "isAlike", "(J)Z"⟩
abbrev cX11_next : ByteArray := prog_1_method_24_code
def yX11_next : MethodName := ⟨RX11, "next", "(IJ)J"⟩
abbrev cX11_after : ByteArray := prog_1_method_25_code
def yX11_after : MethodName := ⟨RX11, "after", "(IJI)J"⟩
abbrev cX11_goes : ByteArray := prog_1_method_26_code
def yX11_goes : MethodName := ⟨RX11, "goes", "(IJ)I"⟩
abbrev cX11_comes : ByteArray := prog_1_method_27_code
def yX11_comes : MethodName := ⟨RX11, "comes", "(IJ)J"⟩
abbrev cX11_round : ByteArray := prog_1_method_28_code
def yX11_round : MethodName := ⟨RX11, "round", "(IJI)J"⟩
abbrev cX11_meet : ByteArray := prog_1_method_29_code
def yX11_meet : MethodName := ⟨RX11, "meet", "(IJJ)J"⟩
abbrev cX11_behind : ByteArray := prog_1_method_30_code
def yX11_behind : MethodName := ⟨RX11, "behind", "(LTurnedAbout$Law;JI)J"⟩
abbrev cX11_countGoes : ByteArray := prog_1_method_31_code
def yX11_countGoes : MethodName := ⟨RX11, "countGoes", "(LTurnedAbout$Law;J)I"⟩
abbrev cX11_keepRun : ByteArray := prog_1_method_32_code
def yX11_keepRun : MethodName := ⟨RX11, "keepRun", "(LTurnedAbout$Law;JI)I"⟩
abbrev cX11_findRound : ByteArray := prog_1_method_33_code
def yX11_findRound : MethodName := ⟨RX11, "findRound", "(LTurnedAbout$Law;J)Z"⟩
abbrev cX11_keepRound : ByteArray := prog_1_method_34_code
def yX11_keepRound : MethodName := ⟨RX11, "keepRound", "(II)Z"⟩
abbrev cX11_isAmong : ByteArray := prog_1_method_35_code
def yX11_isAmong : MethodName := ⟨RX11, "isAmong", "([JIJ)Z"⟩
abbrev cX11_source : ByteArray := prog_1_method_36_code
def yX11_source : MethodName := ⟨RX11, "source", "(IJI)I"⟩
abbrev cX11_began : ByteArray := prog_1_method_37_code
def yX11_began : MethodName := ⟨RX11, "began", "(IJII)I"⟩
abbrev cX11_beginner : ByteArray := prog_1_method_38_code
def yX11_beginner : MethodName := ⟨RX11, "beginner", "(LTurnedAbout$Law;JII)I"⟩
abbrev cX11_barren : ByteArray := prog_1_method_39_code
def yX11_barren : MethodName := ⟨RX11, "barren", "(III)I"⟩
abbrev cX11_mark : ByteArray := prog_1_method_40_code
def yX11_mark : MethodName := ⟨RX11, "mark", "(J)V"⟩
abbrev cX11_isMarked : ByteArray := prog_1_method_41_code
def yX11_isMarked : MethodName := ⟨RX11, "isMarked", "(I)Z"⟩
abbrev cX11_longest : ByteArray := prog_1_method_42_code
def yX11_longest : MethodName := ⟨RX11, "longest", "(II)I"⟩
abbrev cX11_many : ByteArray := prog_1_method_43_code
def yX11_many : MethodName := ⟨RX11, "many", "(IIII)I"⟩
abbrev cX11_rounds : ByteArray := prog_1_method_44_code
def yX11_rounds : MethodName := ⟨RX11, "rounds", "(II)I"⟩
abbrev cX11_fit : ByteArray := prog_1_method_45_code
def yX11_fit : MethodName := ⟨RX11, "fit", "(JJ)I"⟩
abbrev cX11_judge : ByteArray := prog_1_method_46_code
def yX11_judge : MethodName := ⟨RX11, "judge", "(III)I"⟩
abbrev cX11_laws : ByteArray := prog_1_method_47_code
def yX11_laws : MethodName := ⟨RX11, "laws", "(II)I"⟩
abbrev cX11_refusalOfSlate : ByteArray := prog_1_method_48_code
def yX11_refusalOfSlate : MethodName := ⟨RX11, "refusalOfSlate", "(LTurnedAbout$Shelf;I)I"⟩
abbrev cX11_firstWrong : ByteArray := prog_1_method_49_code
def yX11_firstWrong : MethodName := ⟨RX11, "firstWrong", "(LTurnedAbout$Law;LTurnedAbout$Shelf;I)I"⟩
abbrev cX11_write : ByteArray := prog_1_method_50_code
def yX11_write : MethodName := ⟨RX11, "write", "(J)I"⟩
abbrev cX11_slate : ByteArray := prog_1_method_51_code
def yX11_slate : MethodName := ⟨RX11, "slate", "(I)J"⟩
abbrev cX11_on : ByteArray := prog_1_method_52_code
def yX11_on : MethodName := ⟨RX11, "on", "(II)I"⟩
abbrev cX11_wipe : ByteArray := prog_1_method_53_code
def yX11_wipe : MethodName := ⟨RX11, "wipe", "(I)I"⟩
abbrev cX11_lessons : ByteArray := prog_1_method_54_code
def yX11_lessons : MethodName := ⟨RX11, "lessons", "(I)I"⟩
abbrev cX11_holdLesson : ByteArray := prog_1_method_55_code
def yX11_holdLesson : MethodName := ⟨RX11, "holdLesson", "()Z"⟩
abbrev cX11_seed : ByteArray := prog_1_method_56_code
def yX11_seed : MethodName := ⟨RX11, "seed", "(I)I"⟩
abbrev cX11_act : ByteArray := prog_1_method_57_code
def yX11_act : MethodName := ⟨RX11, "act", "(III)I"⟩
abbrev cX11_trace : ByteArray := prog_1_method_58_code
def yX11_trace : MethodName := ⟨RX11, "trace", "(I)I"⟩
abbrev cX11_image : ByteArray := prog_1_method_59_code
def yX11_image : MethodName := ⟨RX11, "image", "()I"⟩
abbrev cX11_restore : ByteArray := prog_1_method_60_code
def yX11_restore : MethodName := ⟨RX11, "restore", "()I"⟩
abbrev cX11_status : ByteArray := prog_1_method_61_code
def yX11_status : MethodName := ⟨RX11, "status", "(I)I"⟩
abbrev cX11_refuse : ByteArray := prog_1_method_62_code
def yX11_refuse : MethodName := ⟨RX11, "refuse", "(I)I"⟩
def RX12 : String := "TurnedAboutModel"
def TX12 : u_T := fun k => match k with
  | 0 => ("TurnedAboutModel", "laws", "I", false)
  | 1 => ("TurnedAboutModel", "many", "I", false)
  | 2 => ("TurnedAboutModel", "ten", "I", false)
  | 3 => ("TurnedAboutModel", "seed", "I", false)
  | 4 => ("TurnedAboutModel", "fault", "I", false)
  | 5 => ("TurnedAboutModel", "refused", "[I", true)
  | 6 => ("TurnedAboutModel", "kind", "[I", true)
  | 7 => ("TurnedAboutModel", "part", "[I", true)
  | 8 => ("TurnedAboutModel", "worth", "[I", true)
  | 9 => ("TurnedAboutModel", "slate", "[J", true)
  | 10 => ("TurnedAboutModel", "held", "[I", true)
  | 11 => ("TurnedAboutModel", "sort", "[I", true)
  | 12 => ("TurnedAboutModel", "size", "[I", true)
  | 13 => ("TurnedAboutModel", "shown", "[I", true)
  | 14 => ("TurnedAboutModel", "cells", "[J", true)
  | 15 => ("TurnedAboutModel", "carried", "[J", true)
  | 16 => ("TurnedAboutModel", "words", "[I", true)
  | 17 => ("TurnedAboutModel", "tell", "[I", true)
  | 18 => ("TurnedAboutModel", "start", "I", false)
  | 19 => ("TurnedAboutModel", "at", "I", false)
  | 20 => ("TurnedAboutModel", "end", "I", false)
  | 21 => ("TurnedAboutModel", "told", "I", false)
  | 22 => ("TurnedAboutModel", "wrongAt", "I", false)
  | 23 => ("TurnedAboutModel", "was", "[I", true)
  | 24 => ("TurnedAboutModel", "kept", "[I", true)
  | 25 => ("TurnedAboutModel", "wasSlate", "[J", true)
  | 26 => ("TurnedAboutModel", "keptSlate", "[J", true)
  | 27 => ("TurnedAboutModel", "figure", "[I", true)
  | 28 => ("TurnedAboutModel", "came", "J", false)
  | 29 => ("TurnedAboutModel", "run", "[J", true)
  | 30 => ("TurnedAboutModel", "other", "[J", true)
  | 31 => ("TurnedAboutModel", "begins", "I", false)
  | 32 => ("TurnedAboutModel", "around", "I", false)
  | 33 => ("TurnedAboutModel", "hit", "[I", true)
  | 34 => ("TurnedAboutModel", "met", "[J", true)
  | 35 => ("TurnedAboutModel", "trace", "[I", true)
  | 36 => ("TurnedAboutModel", "ran", "I", false)
  | _ => ("TurnedAboutModel", "isKept", "Z", false)
def tyX12 : Nat → FieldType := fun k => match k with
  | 0 => .int
  | 1 => .int
  | 2 => .int
  | 3 => .int
  | 4 => .int
  | 5 => .array .int
  | 6 => .array .int
  | 7 => .array .int
  | 8 => .array .int
  | 9 => .array .long
  | 10 => .array .int
  | 11 => .array .int
  | 12 => .array .int
  | 13 => .array .int
  | 14 => .array .long
  | 15 => .array .long
  | 16 => .array .int
  | 17 => .array .int
  | 18 => .int
  | 19 => .int
  | 20 => .int
  | 21 => .int
  | 22 => .int
  | 23 => .array .int
  | 24 => .array .int
  | 25 => .array .long
  | 26 => .array .long
  | 27 => .array .int
  | 28 => .long
  | 29 => .array .long
  | 30 => .array .long
  | 31 => .int
  | 32 => .int
  | 33 => .array .int
  | 34 => .array .long
  | 35 => .array .int
  | 36 => .int
  | _ => .boolean
theorem nmX12 : ∀ a, a < 38 → ∀ b, b < 38 → a ≠ b → (TX12 a).2.1 ≠ (TX12 b).2.1 := by decide +kernel
theorem tyX12_ok : ∀ k, k < 38 → parseFieldDescriptor (TX12 k).2.2.1 = some (tyX12 k) := by decide +kernel
abbrev cX12_init : ByteArray := prog_14_method_1_code
def yX12_init : MethodName := ⟨RX12, "<init>", "()V"⟩
abbrev cX12_no : ByteArray := prog_14_method_2_code
def yX12_no : MethodName := ⟨RX12, "no", "(I)I"⟩
abbrev cX12_noTen : ByteArray := prog_14_method_3_code
def yX12_noTen : MethodName := ⟨RX12, "noTen", "(I)I"⟩
abbrev cX12_isShelf : ByteArray := prog_14_method_4_code
def yX12_isShelf : MethodName := ⟨RX12, "isShelf", "(I)Z"⟩
abbrev cX12_isLaw : ByteArray := prog_14_method_5_code
def yX12_isLaw : MethodName := ⟨RX12, "isLaw", "(I)Z"⟩
abbrev cX12_isNumber : ByteArray := prog_14_method_6_code
def yX12_isNumber : MethodName := ⟨RX12, "isNumber", "(J)Z"⟩
abbrev cX12_row : ByteArray := prog_14_method_7_code
def yX12_row : MethodName := ⟨RX12, "row", "(III)I"⟩
abbrev cX12_set : ByteArray := prog_14_method_8_code
def yX12_set : MethodName := ⟨RX12, "set", "(IIJ)I"⟩
abbrev cX12_copy : ByteArray := prog_14_method_9_code
def yX12_copy : MethodName := ⟨RX12, "copy", "(IIIII)I"⟩
abbrev cX12_element : ByteArray := prog_14_method_10_code
def yX12_element : MethodName := ⟨RX12, "element", "(II)J"⟩
abbrev cX12_show : ByteArray := prog_14_method_11_code
def yX12_show : MethodName := ⟨RX12, "show", "(II)I"⟩
abbrev cX12_holds : ByteArray := prog_14_method_12_code
def yX12_holds : MethodName := ⟨RX12, "holds", "(I)I"⟩
abbrev cX12_greatest : ByteArray := prog_14_method_13_code
def yX12_greatest : MethodName := ⟨RX12, "greatest", "(I)I"⟩
abbrev cX12_says : ByteArray := prog_14_method_14_code
def yX12_says : MethodName := ⟨RX12, "says", "(II)I"⟩
abbrev cX12_wanted : ByteArray := prog_14_method_15_code
def yX12_wanted : MethodName := ⟨RX12, "wanted", "(I)I"⟩
abbrev cX12_bars : ByteArray := prog_14_method_16_code
def yX12_bars : MethodName := ⟨RX12, "bars", "(II)I"⟩
abbrev cX12_base : ByteArray := prog_14_method_17_code
def yX12_base : MethodName := ⟨RX12, "base", "(I)I"⟩
abbrev cX12_adds : ByteArray := prog_14_method_18_code
def yX12_adds : MethodName := ⟨RX12, "adds", "(II)I"⟩
abbrev cX12_law : ByteArray := prog_14_method_19_code
def yX12_law : MethodName := ⟨RX12, "law", "(II)I"⟩
abbrev cX12_value : ByteArray := prog_14_method_20_code
def yX12_value : MethodName := ⟨RX12, "value", "(III)I"⟩
abbrev cX12_lawOf : ByteArray := prog_14_method_21_code
def yX12_lawOf : MethodName := ⟨RX12, "lawOf", "(II)I"⟩
abbrev cX12_wrong : ByteArray := prog_14_method_22_code
def yX12_wrong : MethodName := ⟨RX12, "wrong", "(I)Z"⟩
abbrev cX12_isWordAt : ByteArray := prog_14_method_23_code
def yX12_isWordAt : MethodName := ⟨RX12, "isWordAt", "(I)Z"⟩
abbrev cX12_word : ByteArray := prog_14_method_24_code
def yX12_word : MethodName := ⟨RX12, "word", "()I"⟩
abbrev cX12_isDigit : ByteArray := prog_14_method_25_code
def yX12_isDigit : MethodName := ⟨RX12, "isDigit", "()Z"⟩
abbrev cX12_number : ByteArray := prog_14_method_26_code
def yX12_number : MethodName := ⟨RX12, "number", "()Z"⟩
abbrev cX12_isSo : ByteArray := prog_14_method_27_code
def yX12_isSo : MethodName := ⟨RX12, "isSo", "(II)Z"⟩
abbrev cX12_item : ByteArray := prog_14_method_28_code
def yX12_item : MethodName := ⟨RX12, "item", "()Z"⟩
abbrev cX12_carries : ByteArray := prog_14_method_29_code
def yX12_carries : MethodName := ⟨RX12, "carries", "([II[IIZ)I"⟩
abbrev cX12_all : ByteArray := prog_14_method_30_code
def yX12_all : MethodName := ⟨RX12, "all", "([I[JZ)V"⟩
abbrev cX12_text : ByteArray := prog_14_method_31_code
def yX12_text : MethodName := ⟨RX12, "text", "(I)I"⟩
abbrev cX12_fault : ByteArray := prog_14_method_32_code
def yX12_fault : MethodName := ⟨RX12, "fault", "()I"⟩
abbrev cX12_figures : ByteArray := prog_14_method_33_code
def yX12_figures : MethodName := ⟨RX12, "figures", "(J)I"⟩
abbrev cX12_turnedOf : ByteArray := prog_14_method_34_code
def yX12_turnedOf : MethodName := ⟨RX12, "turnedOf", "(J)J"⟩
abbrev cX12_isAlike : ByteArray := prog_14_method_35_code
def yX12_isAlike : MethodName := ⟨RX12, "isAlike", "(J)Z"⟩
abbrev cX12_checkOf : ByteArray := prog_14_method_36_code
def yX12_checkOf : MethodName := ⟨RX12, "checkOf", "(J)I"⟩
abbrev cX12_turned : ByteArray := prog_14_method_37_code
def yX12_turned : MethodName := ⟨RX12, "turned", "(J)J"⟩
abbrev cX12_numberOf : ByteArray := prog_14_method_38_code
def yX12_numberOf : MethodName := ⟨RX12, "numberOf", "(JI)I"⟩
abbrev cX12_ordered : ByteArray := prog_14_method_39_code
def yX12_ordered : MethodName := ⟨RX12, "ordered", "(J)J"⟩
abbrev cX12_nextOf : ByteArray := prog_14_method_40_code
def yX12_nextOf : MethodName := ⟨RX12, "nextOf", "(IJ)J"⟩
abbrev cX12_next : ByteArray := prog_14_method_41_code
def yX12_next : MethodName := ⟨RX12, "next", "(IJ)J"⟩
abbrev cX12_afterOf : ByteArray := prog_14_method_42_code
def yX12_afterOf : MethodName := ⟨RX12, "afterOf", "(IJI)J"⟩
abbrev cX12_after : ByteArray := prog_14_method_43_code
def yX12_after : MethodName := ⟨RX12, "after", "(IJI)J"⟩
abbrev cX12_goesOf : ByteArray := prog_14_method_44_code
def yX12_goesOf : MethodName := ⟨RX12, "goesOf", "(IJ)I"⟩
abbrev cX12_goes : ByteArray := prog_14_method_45_code
def yX12_goes : MethodName := ⟨RX12, "goes", "(IJ)I"⟩
abbrev cX12_comes : ByteArray := prog_14_method_46_code
def yX12_comes : MethodName := ⟨RX12, "comes", "(IJ)J"⟩
abbrev cX12_roundOf : ByteArray := prog_14_method_47_code
def yX12_roundOf : MethodName := ⟨RX12, "roundOf", "(IJ)J"⟩
abbrev cX12_round : ByteArray := prog_14_method_48_code
def yX12_round : MethodName := ⟨RX12, "round", "(IJI)J"⟩
abbrev cX12_meet : ByteArray := prog_14_method_49_code
def yX12_meet : MethodName := ⟨RX12, "meet", "(IJJ)J"⟩
abbrev cX12_source : ByteArray := prog_14_method_50_code
def yX12_source : MethodName := ⟨RX12, "source", "(IJI)I"⟩
abbrev cX12_barren : ByteArray := prog_14_method_51_code
def yX12_barren : MethodName := ⟨RX12, "barren", "(III)I"⟩
abbrev cX12_longest : ByteArray := prog_14_method_52_code
def yX12_longest : MethodName := ⟨RX12, "longest", "(II)I"⟩
abbrev cX12_many : ByteArray := prog_14_method_53_code
def yX12_many : MethodName := ⟨RX12, "many", "(IIII)I"⟩
abbrev cX12_rounds : ByteArray := prog_14_method_54_code
def yX12_rounds : MethodName := ⟨RX12, "rounds", "(II)I"⟩
abbrev cX12_alikeFrom : ByteArray := prog_14_method_55_code
def yX12_alikeFrom : MethodName := ⟨RX12, "alikeFrom", "(J)J"⟩
abbrev cX12_waits : ByteArray := prog_14_method_56_code
def yX12_waits : MethodName := ⟨RX12, "waits", "(J)J"⟩
abbrev cX12_fit : ByteArray := prog_14_method_57_code
def yX12_fit : MethodName := ⟨RX12, "fit", "(JJ)I"⟩
abbrev cX12_began : ByteArray := prog_14_method_58_code
def yX12_began : MethodName := ⟨RX12, "began", "(IJII)I"⟩
abbrev cX12_slip : ByteArray := prog_14_method_59_code
def yX12_slip : MethodName := ⟨RX12, "slip", "(JJ)I"⟩
abbrev cX12_missed : ByteArray := prog_14_method_60_code
def yX12_missed : MethodName := ⟨RX12, "missed", "(J)I"⟩
abbrev cX12_wrongIn : ByteArray := prog_14_method_61_code
def yX12_wrongIn : MethodName := ⟨RX12, "wrongIn", "(III)I"⟩
abbrev cX12_judge : ByteArray := prog_14_method_62_code
def yX12_judge : MethodName := ⟨RX12, "judge", "(III)I"⟩
abbrev cX12_laws : ByteArray := prog_14_method_63_code
def yX12_laws : MethodName := ⟨RX12, "laws", "(II)I"⟩
abbrev cX12_writes : ByteArray := prog_14_method_64_code
def yX12_writes : MethodName := ⟨RX12, "writes", "(J)I"⟩
abbrev cX12_write : ByteArray := prog_14_method_65_code
def yX12_write : MethodName := ⟨RX12, "write", "(J)I"⟩
abbrev cX12_slate : ByteArray := prog_14_method_66_code
def yX12_slate : MethodName := ⟨RX12, "slate", "(I)J"⟩
abbrev cX12_on : ByteArray := prog_14_method_67_code
def yX12_on : MethodName := ⟨RX12, "on", "(II)I"⟩
abbrev cX12_wipe : ByteArray := prog_14_method_68_code
def yX12_wipe : MethodName := ⟨RX12, "wipe", "(I)I"⟩
abbrev cX12_draw : ByteArray := prog_14_method_69_code
def yX12_draw : MethodName := ⟨RX12, "draw", "(I)I"⟩
abbrev cX12_lessons : ByteArray := prog_14_method_70_code
def yX12_lessons : MethodName := ⟨RX12, "lessons", "(I)I"⟩
abbrev cX12_seed : ByteArray := prog_14_method_71_code
def yX12_seed : MethodName := ⟨RX12, "seed", "(I)I"⟩
abbrev cX12_body : ByteArray := prog_14_method_72_code
def yX12_body : MethodName := ⟨RX12, "body", "(I)V"⟩
abbrev cX12_turning : ByteArray := prog_14_method_73_code
def yX12_turning : MethodName := ⟨RX12, "turning", "(II)I"⟩
abbrev cX12_adding : ByteArray := prog_14_method_74_code
def yX12_adding : MethodName := ⟨RX12, "adding", "(II)I"⟩
abbrev cX12_reading : ByteArray := prog_14_method_75_code
def yX12_reading : MethodName := ⟨RX12, "reading", "(II)I"⟩
abbrev cX12_act : ByteArray := prog_14_method_76_code
def yX12_act : MethodName := ⟨RX12, "act", "(III)I"⟩
abbrev cX12_trace : ByteArray := prog_14_method_77_code
def yX12_trace : MethodName := ⟨RX12, "trace", "(I)I"⟩
abbrev cX12_image : ByteArray := prog_14_method_78_code
def yX12_image : MethodName := ⟨RX12, "image", "()I"⟩
abbrev cX12_restore : ByteArray := prog_14_method_79_code
def yX12_restore : MethodName := ⟨RX12, "restore", "()I"⟩
abbrev cX12_status : ByteArray := prog_14_method_80_code
def yX12_status : MethodName := ⟨RX12, "status", "(I)I"⟩
def RJx145de : String := "java/io/Serializable"
def TJx145de : u_T := fun k => match k with
  | _ => ("", "", "", false)
def tyJx145de : Nat → FieldType := fun k => match k with
  | _ => .int
theorem nmJx145de : ∀ a, a < 0 → ∀ b, b < 0 → a ≠ b → (TJx145de a).2.1 ≠ (TJx145de b).2.1 := by decide +kernel
theorem tyJx145de_ok : ∀ k, k < 0 → parseFieldDescriptor (TJx145de k).2.2.1 = some (tyJx145de k) := by decide +kernel
def RJx9f9b0 : String := "java/lang/CharSequence"
def TJx9f9b0 : u_T := fun k => match k with
  | _ => ("", "", "", false)
def tyJx9f9b0 : Nat → FieldType := fun k => match k with
  | _ => .int
theorem nmJx9f9b0 : ∀ a, a < 0 → ∀ b, b < 0 → a ≠ b → (TJx9f9b0 a).2.1 ≠ (TJx9f9b0 b).2.1 := by decide +kernel
theorem tyJx9f9b0_ok : ∀ k, k < 0 → parseFieldDescriptor (TJx9f9b0 k).2.2.1 = some (tyJx9f9b0 k) := by decide +kernel
def RJxb160c : String := "java/lang/Comparable"
def TJxb160c : u_T := fun k => match k with
  | _ => ("", "", "", false)
def tyJxb160c : Nat → FieldType := fun k => match k with
  | _ => .int
theorem nmJxb160c : ∀ a, a < 0 → ∀ b, b < 0 → a ≠ b → (TJxb160c a).2.1 ≠ (TJxb160c b).2.1 := by decide +kernel
theorem tyJxb160c_ok : ∀ k, k < 0 → parseFieldDescriptor (TJxb160c k).2.2.1 = some (tyJxb160c k) := by decide +kernel
def RJ9 : String := "java/lang/Math"
def TJ9 : u_T := fun k => match k with
  | _ => ("", "", "", false)
def tyJ9 : Nat → FieldType := fun k => match k with
  | _ => .int
theorem nmJ9 : ∀ a, a < 0 → ∀ b, b < 0 → a ≠ b → (TJ9 a).2.1 ≠ (TJ9 b).2.1 := by decide +kernel
theorem tyJ9_ok : ∀ k, k < 0 → parseFieldDescriptor (TJ9 k).2.2.1 = some (tyJ9 k) := by decide +kernel
abbrev cJ9_abs_067f4 : ByteArray := prog_15_method_61_code
def yJ9_abs_067f4 : MethodName := ⟨RJ9, "abs", "(J)J"⟩
abbrev cJ9_max_7cf53 : ByteArray := prog_15_method_65_code
def yJ9_max_7cf53 : MethodName := ⟨RJ9, "max", "(II)I"⟩
abbrev cJ9_min_f86c9 : ByteArray := prog_15_method_70_code
def yJ9_min_f86c9 : MethodName := ⟨RJ9, "min", "(JJ)J"⟩
def RJ0 : String := "java/lang/String"
def TJ0 : u_T := fun k => match k with
  | _ => ("", "", "", false)
def tyJ0 : Nat → FieldType := fun k => match k with
  | _ => .int
theorem nmJ0 : ∀ a, a < 0 → ∀ b, b < 0 → a ≠ b → (TJ0 a).2.1 ≠ (TJ0 b).2.1 := by decide +kernel
theorem tyJ0_ok : ∀ k, k < 0 → parseFieldDescriptor (TJ0 k).2.2.1 = some (tyJ0 k) := by decide +kernel
abbrev cJ0_length_8abf5 : ByteArray := prog_16_method_54_code
def yJ0_length_8abf5 : MethodName := ⟨RJ0, "length", "()I"⟩
abbrev cJ0_charAt_5068e : ByteArray := prog_16_method_56_code
def yJ0_charAt_5068e : MethodName := ⟨RJ0, "charAt", "(I)C"⟩
abbrev cJ0_coder_7d493 : ByteArray := prog_16_method_152_code
def yJ0_coder_7d493 : MethodName := ⟨RJ0, "coder", "()B"⟩
abbrev cJ0_isLatin1_aae02 : ByteArray := prog_16_method_154_code
def yJ0_isLatin1_aae02 : MethodName := ⟨RJ0, "isLatin1", "()Z"⟩
abbrev cJ0_checkIndex_df160 : ByteArray := prog_16_method_155_code
def yJ0_checkIndex_df160 : MethodName := ⟨RJ0, "checkIndex", "(II)V"⟩
def RJ1 : String := "java/lang/StringLatin1"
def TJ1 : u_T := fun k => match k with
  | _ => ("", "", "", false)
def tyJ1 : Nat → FieldType := fun k => match k with
  | _ => .int
theorem nmJ1 : ∀ a, a < 0 → ∀ b, b < 0 → a ≠ b → (TJ1 a).2.1 ≠ (TJ1 b).2.1 := by decide +kernel
theorem tyJ1_ok : ∀ k, k < 0 → parseFieldDescriptor (TJ1 k).2.2.1 = some (tyJ1 k) := by decide +kernel
abbrev cJ1_charAt_3b067 : ByteArray := prog_17_method_2_code
def yJ1_charAt_3b067 : MethodName := ⟨RJ1, "charAt", "([BI)C"⟩
def RJ2 : String := "java/lang/StringUTF16"
def TJ2 : u_T := fun k => match k with
  | _ => ("", "", "", false)
def tyJ2 : Nat → FieldType := fun k => match k with
  | _ => .int
theorem nmJ2 : ∀ a, a < 0 → ∀ b, b < 0 → a ≠ b → (TJ2 a).2.1 ≠ (TJ2 b).2.1 := by decide +kernel
theorem tyJ2_ok : ∀ k, k < 0 → parseFieldDescriptor (TJ2 k).2.2.1 = some (tyJ2 k) := by decide +kernel
abbrev cJ2_getChar_3b067 : ByteArray := prog_18_method_5_code
def yJ2_getChar_3b067 : MethodName := ⟨RJ2, "getChar", "([BI)C"⟩
abbrev cJ2_length_9d52b : ByteArray := prog_18_method_6_code
def yJ2_length_9d52b : MethodName := ⟨RJ2, "length", "([B)I"⟩
abbrev cJ2_charAt_3b067 : ByteArray := prog_18_method_83_code
def yJ2_charAt_3b067 : MethodName := ⟨RJ2, "charAt", "([BI)C"⟩
abbrev cJ2_checkIndex_2214a : ByteArray := prog_18_method_91_code
def yJ2_checkIndex_2214a : MethodName := ⟨RJ2, "checkIndex", "(I[B)V"⟩
def RJ10 : String := "java/lang/System"
def TJ10 : u_T := fun k => match k with
  | _ => ("", "", "", false)
def tyJ10 : Nat → FieldType := fun k => match k with
  | _ => .int
theorem nmJ10 : ∀ a, a < 0 → ∀ b, b < 0 → a ≠ b → (TJ10 a).2.1 ≠ (TJ10 b).2.1 := by decide +kernel
theorem tyJ10_ok : ∀ k, k < 0 → parseFieldDescriptor (TJ10 k).2.2.1 = some (tyJ10 k) := by decide +kernel
def RJxfd54e : String := "java/lang/constant/Constable"
def TJxfd54e : u_T := fun k => match k with
  | _ => ("", "", "", false)
def tyJxfd54e : Nat → FieldType := fun k => match k with
  | _ => .int
theorem nmJxfd54e : ∀ a, a < 0 → ∀ b, b < 0 → a ≠ b → (TJxfd54e a).2.1 ≠ (TJxfd54e b).2.1 := by decide +kernel
theorem tyJxfd54e_ok : ∀ k, k < 0 → parseFieldDescriptor (TJxfd54e k).2.2.1 = some (tyJxfd54e k) := by decide +kernel
def RJx3cf43 : String := "java/lang/constant/ConstantDesc"
def TJx3cf43 : u_T := fun k => match k with
  | _ => ("", "", "", false)
def tyJx3cf43 : Nat → FieldType := fun k => match k with
  | _ => .int
theorem nmJx3cf43 : ∀ a, a < 0 → ∀ b, b < 0 → a ≠ b → (TJx3cf43 a).2.1 ≠ (TJx3cf43 b).2.1 := by decide +kernel
theorem tyJx3cf43_ok : ∀ k, k < 0 → parseFieldDescriptor (TJx3cf43 k).2.2.1 = some (tyJx3cf43 k) := by decide +kernel
def RJ7 : String := "java/util/Arrays"
def TJ7 : u_T := fun k => match k with
  | _ => ("", "", "", false)
def tyJ7 : Nat → FieldType := fun k => match k with
  | _ => .int
theorem nmJ7 : ∀ a, a < 0 → ∀ b, b < 0 → a ≠ b → (TJ7 a).2.1 ≠ (TJ7 b).2.1 := by decide +kernel
theorem tyJ7_ok : ∀ k, k < 0 → parseFieldDescriptor (TJ7 k).2.2.1 = some (tyJ7 k) := by decide +kernel
abbrev cJ7_fill_d0a16 : ByteArray := prog_20_method_101_code
def yJ7_fill_d0a16 : MethodName := ⟨RJ7, "fill", "([JJ)V"⟩
abbrev cJ7_fill_53178 : ByteArray := prog_20_method_103_code
def yJ7_fill_53178 : MethodName := ⟨RJ7, "fill", "([II)V"⟩
def RJ3 : String := "jdk/internal/util/Preconditions"
def TJ3 : u_T := fun k => match k with
  | _ => ("", "", "", false)
def tyJ3 : Nat → FieldType := fun k => match k with
  | _ => .int
theorem nmJ3 : ∀ a, a < 0 → ∀ b, b < 0 → a ≠ b → (TJ3 a).2.1 ≠ (TJ3 b).2.1 := by decide +kernel
theorem tyJ3_ok : ∀ k, k < 0 → parseFieldDescriptor (TJ3 k).2.2.1 = some (tyJ3 k) := by decide +kernel
abbrev cJ3_checkIndex_8e157 : ByteArray := prog_21_method_11_code
def yJ3_checkIndex_8e157 : MethodName := ⟨RJ3, "checkIndex", "(IILjava/util/function/BiFunction;)I"⟩
def RL : String := "TurnedAboutLaw"
abbrev cL_law : ByteArray := code
def yL_law : MethodName := ⟨RL, "law", "([I)Z"⟩
abbrev vwCl : List vw_C := [(RX0, TX0, 2), (RX2, TX2, 2), (RX3, TX3, 2), (RX4, TX4, 6), (RX5, TX5, 4), (RX6, TX6, 2), (RX7, TX7, 7), (RX8, TX8, 2), (RX9, TX9, 2), (RX10, TX10, 2), (RX11, TX11, 12), (RX12, TX12, 38)]
