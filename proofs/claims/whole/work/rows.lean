section
-- ===== PART A: goes FIRST, ahead of the names: the tables' words, and 'selects' of the private methods out of them =====
/-- a private method of a class that the tables say can be made, by its rows of tables_1 -/
def lw_okq (q : MethodName × Nat) : Prop := (q.1.cls ≠ "java/lang/invoke/MethodHandle" ∧ q.1.cls ≠ "java/lang/invoke/VarHandle") ∧ Cond.instantiable q.1.cls q.2 ∈ tables_1 ∧ Cond.privateMethod q.1 ∈ tables_1 ∧ Cond.instanceMethod q.1 ∈ tables_1
theorem lw_p0 : lw_okq (⟨"HomeFinder", "isThere", "(ZI)Z"⟩, 11) := ⟨⟨by decide +kernel, by decide +kernel⟩, List.mem_of_getElem? (i := 23) (by decide +kernel), List.mem_of_getElem? (i := 359) (by decide +kernel), List.mem_of_getElem? (i := 360) (by decide +kernel)⟩
theorem lw_p1 : lw_okq (⟨"HomeFinder$RuleReader", "step", "()V"⟩, 5) := ⟨⟨by decide +kernel, by decide +kernel⟩, List.mem_of_getElem? (i := 159) (by decide +kernel), List.mem_of_getElem? (i := 470) (by decide +kernel), List.mem_of_getElem? (i := 471) (by decide +kernel)⟩
theorem lw_p2 : lw_okq (⟨"HomeFinder$RuleReader", "isAtEnd", "()Z"⟩, 5) := ⟨⟨by decide +kernel, by decide +kernel⟩, List.mem_of_getElem? (i := 159) (by decide +kernel), List.mem_of_getElem? (i := 482) (by decide +kernel), List.mem_of_getElem? (i := 483) (by decide +kernel)⟩
theorem lw_p3 : lw_okq (⟨"HomeFinder$RuleReader", "readHead", "(I)Z"⟩, 5) := ⟨⟨by decide +kernel, by decide +kernel⟩, List.mem_of_getElem? (i := 159) (by decide +kernel), List.mem_of_getElem? (i := 486) (by decide +kernel), List.mem_of_getElem? (i := 487) (by decide +kernel)⟩
theorem lw_p4 : lw_okq (⟨"HomeFinder$RuleReader", "kindOfWord", "()I"⟩, 5) := ⟨⟨by decide +kernel, by decide +kernel⟩, List.mem_of_getElem? (i := 159) (by decide +kernel), List.mem_of_getElem? (i := 490) (by decide +kernel), List.mem_of_getElem? (i := 491) (by decide +kernel)⟩
theorem lw_p5 : lw_okq (⟨"HomeFinder$RuleReader", "isWord", "(Ljava/lang/String;)Z"⟩, 5) := ⟨⟨by decide +kernel, by decide +kernel⟩, List.mem_of_getElem? (i := 159) (by decide +kernel), List.mem_of_getElem? (i := 495) (by decide +kernel), List.mem_of_getElem? (i := 496) (by decide +kernel)⟩
theorem lw_p6 : lw_okq (⟨"HomeFinder$RuleReader", "refuse", "(I)Z"⟩, 5) := ⟨⟨by decide +kernel, by decide +kernel⟩, List.mem_of_getElem? (i := 159) (by decide +kernel), List.mem_of_getElem? (i := 549) (by decide +kernel), List.mem_of_getElem? (i := 550) (by decide +kernel)⟩
theorem lw_p7 : lw_okq (⟨"HomeFinder$RuleReader", "readWeight", "()I"⟩, 5) := ⟨⟨by decide +kernel, by decide +kernel⟩, List.mem_of_getElem? (i := 159) (by decide +kernel), List.mem_of_getElem? (i := 553) (by decide +kernel), List.mem_of_getElem? (i := 554) (by decide +kernel)⟩
theorem lw_p8 : lw_okq (⟨"HomeFinder$RuleReader", "isNumber", "()Z"⟩, 5) := ⟨⟨by decide +kernel, by decide +kernel⟩, List.mem_of_getElem? (i := 159) (by decide +kernel), List.mem_of_getElem? (i := 557) (by decide +kernel), List.mem_of_getElem? (i := 558) (by decide +kernel)⟩
theorem lw_p9 : lw_okq (⟨"HomeFinder$RuleReader", "numberOfWord", "()I"⟩, 5) := ⟨⟨by decide +kernel, by decide +kernel⟩, List.mem_of_getElem? (i := 159) (by decide +kernel), List.mem_of_getElem? (i := 564) (by decide +kernel), List.mem_of_getElem? (i := 565) (by decide +kernel)⟩
theorem lw_p10 : lw_okq (⟨"HomeFinder$RuleReader", "readTerms", "()Z"⟩, 5) := ⟨⟨by decide +kernel, by decide +kernel⟩, List.mem_of_getElem? (i := 159) (by decide +kernel), List.mem_of_getElem? (i := 572) (by decide +kernel), List.mem_of_getElem? (i := 573) (by decide +kernel)⟩
theorem lw_p11 : lw_okq (⟨"HomeFinder$RuleReader", "readTerm", "(I)Z"⟩, 5) := ⟨⟨by decide +kernel, by decide +kernel⟩, List.mem_of_getElem? (i := 159) (by decide +kernel), List.mem_of_getElem? (i := 576) (by decide +kernel), List.mem_of_getElem? (i := 577) (by decide +kernel)⟩
theorem lw_p12 : lw_okq (⟨"HomeFinder$RuleReader", "readSide", "(Z)I"⟩, 5) := ⟨⟨by decide +kernel, by decide +kernel⟩, List.mem_of_getElem? (i := 159) (by decide +kernel), List.mem_of_getElem? (i := 580) (by decide +kernel), List.mem_of_getElem? (i := 581) (by decide +kernel)⟩
theorem lw_p13 : lw_okq (⟨"HomeFinder$RuleReader", "slotOfWord", "()I"⟩, 5) := ⟨⟨by decide +kernel, by decide +kernel⟩, List.mem_of_getElem? (i := 159) (by decide +kernel), List.mem_of_getElem? (i := 584) (by decide +kernel), List.mem_of_getElem? (i := 585) (by decide +kernel)⟩
theorem lw_p14 : lw_okq (⟨"HomeFinder$RuleReader", "readBetweenRules", "()Z"⟩, 5) := ⟨⟨by decide +kernel, by decide +kernel⟩, List.mem_of_getElem? (i := 159) (by decide +kernel), List.mem_of_getElem? (i := 595) (by decide +kernel), List.mem_of_getElem? (i := 596) (by decide +kernel)⟩
theorem lw_p15 : lw_okq (⟨"HomeFinder$Judge", "barOn", "(IIII)I"⟩, 7) := ⟨⟨by decide +kernel, by decide +kernel⟩, List.mem_of_getElem? (i := 183) (by decide +kernel), List.mem_of_getElem? (i := 633) (by decide +kernel), List.mem_of_getElem? (i := 634) (by decide +kernel)⟩
def lw_privs_1 : List (MethodName × Nat) := [(⟨"HomeFinder", "isThere", "(ZI)Z"⟩, 11), (⟨"HomeFinder$RuleReader", "step", "()V"⟩, 5), (⟨"HomeFinder$RuleReader", "isAtEnd", "()Z"⟩, 5), (⟨"HomeFinder$RuleReader", "readHead", "(I)Z"⟩, 5), (⟨"HomeFinder$RuleReader", "kindOfWord", "()I"⟩, 5), (⟨"HomeFinder$RuleReader", "isWord", "(Ljava/lang/String;)Z"⟩, 5), (⟨"HomeFinder$RuleReader", "refuse", "(I)Z"⟩, 5), (⟨"HomeFinder$RuleReader", "readWeight", "()I"⟩, 5), (⟨"HomeFinder$RuleReader", "isNumber", "()Z"⟩, 5), (⟨"HomeFinder$RuleReader", "numberOfWord", "()I"⟩, 5), (⟨"HomeFinder$RuleReader", "readTerms", "()Z"⟩, 5), (⟨"HomeFinder$RuleReader", "readTerm", "(I)Z"⟩, 5), (⟨"HomeFinder$RuleReader", "readSide", "(Z)I"⟩, 5), (⟨"HomeFinder$RuleReader", "slotOfWord", "()I"⟩, 5), (⟨"HomeFinder$RuleReader", "readBetweenRules", "()Z"⟩, 5), (⟨"HomeFinder$Judge", "barOn", "(IIII)I"⟩, 7)]
theorem lw_r1 : ∀ q ∈ lw_privs_1, lw_okq q := List.forall_mem_cons.mpr ⟨lw_p0, List.forall_mem_cons.mpr ⟨lw_p1, List.forall_mem_cons.mpr ⟨lw_p2, List.forall_mem_cons.mpr ⟨lw_p3, List.forall_mem_cons.mpr ⟨lw_p4, List.forall_mem_cons.mpr ⟨lw_p5, List.forall_mem_cons.mpr ⟨lw_p6, List.forall_mem_cons.mpr ⟨lw_p7, List.forall_mem_cons.mpr ⟨lw_p8, List.forall_mem_cons.mpr ⟨lw_p9, List.forall_mem_cons.mpr ⟨lw_p10, List.forall_mem_cons.mpr ⟨lw_p11, List.forall_mem_cons.mpr ⟨lw_p12, List.forall_mem_cons.mpr ⟨lw_p13, List.forall_mem_cons.mpr ⟨lw_p14, List.forall_mem_cons.mpr ⟨lw_p15, fun _ h => absurd h List.not_mem_nil⟩⟩⟩⟩⟩⟩⟩⟩⟩⟩⟩⟩⟩⟩⟩⟩
theorem lw_p16 : lw_okq (⟨"HomeFinder$RuleBook", "isSo", "(ILHomeFinder$Sheet;)Z"⟩, 7) := ⟨⟨by decide +kernel, by decide +kernel⟩, List.mem_of_getElem? (i := 131) (by decide +kernel), List.mem_of_getElem? (i := 666) (by decide +kernel), List.mem_of_getElem? (i := 667) (by decide +kernel)⟩
theorem lw_p17 : lw_okq (⟨"HomeFinder$Judge", "turnBehind", "(II)I"⟩, 7) := ⟨⟨by decide +kernel, by decide +kernel⟩, List.mem_of_getElem? (i := 183) (by decide +kernel), List.mem_of_getElem? (i := 677) (by decide +kernel), List.mem_of_getElem? (i := 678) (by decide +kernel)⟩
theorem lw_p18 : lw_okq (⟨"HomeFinder$Placer", "sumLeastPrices", "()V"⟩, 15) := ⟨⟨by decide +kernel, by decide +kernel⟩, List.mem_of_getElem? (i := 246) (by decide +kernel), List.mem_of_getElem? (i := 735) (by decide +kernel), List.mem_of_getElem? (i := 736) (by decide +kernel)⟩
theorem lw_p19 : lw_okq (⟨"HomeFinder$Placer", "findTogether", "()V"⟩, 15) := ⟨⟨by decide +kernel, by decide +kernel⟩, List.mem_of_getElem? (i := 246) (by decide +kernel), List.mem_of_getElem? (i := 740) (by decide +kernel), List.mem_of_getElem? (i := 741) (by decide +kernel)⟩
theorem lw_p20 : lw_okq (⟨"HomeFinder$Placer", "findPeaks", "()V"⟩, 15) := ⟨⟨by decide +kernel, by decide +kernel⟩, List.mem_of_getElem? (i := 246) (by decide +kernel), List.mem_of_getElem? (i := 749) (by decide +kernel), List.mem_of_getElem? (i := 750) (by decide +kernel)⟩
theorem lw_p21 : lw_okq (⟨"HomeFinder$Placer", "search", "(II)V"⟩, 15) := ⟨⟨by decide +kernel, by decide +kernel⟩, List.mem_of_getElem? (i := 246) (by decide +kernel), List.mem_of_getElem? (i := 761) (by decide +kernel), List.mem_of_getElem? (i := 762) (by decide +kernel)⟩
theorem lw_p22 : lw_okq (⟨"HomeFinder$Placer", "searchWithHome", "(III)V"⟩, 15) := ⟨⟨by decide +kernel, by decide +kernel⟩, List.mem_of_getElem? (i := 246) (by decide +kernel), List.mem_of_getElem? (i := 766) (by decide +kernel), List.mem_of_getElem? (i := 767) (by decide +kernel)⟩
theorem lw_p23 : lw_okq (⟨"HomeFinder$Placer", "countChild", "(II)V"⟩, 15) := ⟨⟨by decide +kernel, by decide +kernel⟩, List.mem_of_getElem? (i := 246) (by decide +kernel), List.mem_of_getElem? (i := 791) (by decide +kernel), List.mem_of_getElem? (i := 792) (by decide +kernel)⟩
theorem lw_p24 : lw_okq (⟨"HomeFinderModel", "isHome", "(I)Z"⟩, 57) := ⟨⟨by decide +kernel, by decide +kernel⟩, List.mem_of_getElem? (i := 848) (by decide +kernel), List.mem_of_getElem? (i := 1045) (by decide +kernel), List.mem_of_getElem? (i := 1046) (by decide +kernel)⟩
theorem lw_p25 : lw_okq (⟨"HomeFinderModel", "isChild", "(I)Z"⟩, 57) := ⟨⟨by decide +kernel, by decide +kernel⟩, List.mem_of_getElem? (i := 848) (by decide +kernel), List.mem_of_getElem? (i := 1049) (by decide +kernel), List.mem_of_getElem? (i := 1050) (by decide +kernel)⟩
theorem lw_p26 : lw_okq (⟨"HomeFinderModel", "valueOf", "(IIII)I"⟩, 57) := ⟨⟨by decide +kernel, by decide +kernel⟩, List.mem_of_getElem? (i := 848) (by decide +kernel), List.mem_of_getElem? (i := 1060) (by decide +kernel), List.mem_of_getElem? (i := 1061) (by decide +kernel)⟩
theorem lw_p27 : lw_okq (⟨"HomeFinderModel", "four", "(I)V"⟩, 57) := ⟨⟨by decide +kernel, by decide +kernel⟩, List.mem_of_getElem? (i := 848) (by decide +kernel), List.mem_of_getElem? (i := 1088) (by decide +kernel), List.mem_of_getElem? (i := 1089) (by decide +kernel)⟩
theorem lw_p28 : lw_okq (⟨"HomeFinderModel", "see", "()I"⟩, 57) := ⟨⟨by decide +kernel, by decide +kernel⟩, List.mem_of_getElem? (i := 848) (by decide +kernel), List.mem_of_getElem? (i := 1100) (by decide +kernel), List.mem_of_getElem? (i := 1101) (by decide +kernel)⟩
theorem lw_p29 : lw_okq (⟨"HomeFinderModel", "rule", "(I)Z"⟩, 57) := ⟨⟨by decide +kernel, by decide +kernel⟩, List.mem_of_getElem? (i := 848) (by decide +kernel), List.mem_of_getElem? (i := 1104) (by decide +kernel), List.mem_of_getElem? (i := 1105) (by decide +kernel)⟩
theorem lw_p30 : lw_okq (⟨"HomeFinderModel", "looks", "()V"⟩, 57) := ⟨⟨by decide +kernel, by decide +kernel⟩, List.mem_of_getElem? (i := 848) (by decide +kernel), List.mem_of_getElem? (i := 1108) (by decide +kernel), List.mem_of_getElem? (i := 1109) (by decide +kernel)⟩
theorem lw_p31 : lw_okq (⟨"HomeFinderModel", "isLetters", "(IIII)Z"⟩, 57) := ⟨⟨by decide +kernel, by decide +kernel⟩, List.mem_of_getElem? (i := 848) (by decide +kernel), List.mem_of_getElem? (i := 1118) (by decide +kernel), List.mem_of_getElem? (i := 1119) (by decide +kernel)⟩
def lw_privs_2 : List (MethodName × Nat) := [(⟨"HomeFinder$RuleBook", "isSo", "(ILHomeFinder$Sheet;)Z"⟩, 7), (⟨"HomeFinder$Judge", "turnBehind", "(II)I"⟩, 7), (⟨"HomeFinder$Placer", "sumLeastPrices", "()V"⟩, 15), (⟨"HomeFinder$Placer", "findTogether", "()V"⟩, 15), (⟨"HomeFinder$Placer", "findPeaks", "()V"⟩, 15), (⟨"HomeFinder$Placer", "search", "(II)V"⟩, 15), (⟨"HomeFinder$Placer", "searchWithHome", "(III)V"⟩, 15), (⟨"HomeFinder$Placer", "countChild", "(II)V"⟩, 15), (⟨"HomeFinderModel", "isHome", "(I)Z"⟩, 57), (⟨"HomeFinderModel", "isChild", "(I)Z"⟩, 57), (⟨"HomeFinderModel", "valueOf", "(IIII)I"⟩, 57), (⟨"HomeFinderModel", "four", "(I)V"⟩, 57), (⟨"HomeFinderModel", "see", "()I"⟩, 57), (⟨"HomeFinderModel", "rule", "(I)Z"⟩, 57), (⟨"HomeFinderModel", "looks", "()V"⟩, 57), (⟨"HomeFinderModel", "isLetters", "(IIII)Z"⟩, 57)]
theorem lw_r2 : ∀ q ∈ lw_privs_2, lw_okq q := List.forall_mem_cons.mpr ⟨lw_p16, List.forall_mem_cons.mpr ⟨lw_p17, List.forall_mem_cons.mpr ⟨lw_p18, List.forall_mem_cons.mpr ⟨lw_p19, List.forall_mem_cons.mpr ⟨lw_p20, List.forall_mem_cons.mpr ⟨lw_p21, List.forall_mem_cons.mpr ⟨lw_p22, List.forall_mem_cons.mpr ⟨lw_p23, List.forall_mem_cons.mpr ⟨lw_p24, List.forall_mem_cons.mpr ⟨lw_p25, List.forall_mem_cons.mpr ⟨lw_p26, List.forall_mem_cons.mpr ⟨lw_p27, List.forall_mem_cons.mpr ⟨lw_p28, List.forall_mem_cons.mpr ⟨lw_p29, List.forall_mem_cons.mpr ⟨lw_p30, List.forall_mem_cons.mpr ⟨lw_p31, fun _ h => absurd h List.not_mem_nil⟩⟩⟩⟩⟩⟩⟩⟩⟩⟩⟩⟩⟩⟩⟩⟩
theorem lw_p32 : lw_okq (⟨"HomeFinderModel", "isNight", "()Z"⟩, 57) := ⟨⟨by decide +kernel, by decide +kernel⟩, List.mem_of_getElem? (i := 848) (by decide +kernel), List.mem_of_getElem? (i := 1122) (by decide +kernel), List.mem_of_getElem? (i := 1123) (by decide +kernel)⟩
theorem lw_p33 : lw_okq (⟨"HomeFinderModel", "fails", "(II)Z"⟩, 57) := ⟨⟨by decide +kernel, by decide +kernel⟩, List.mem_of_getElem? (i := 848) (by decide +kernel), List.mem_of_getElem? (i := 1126) (by decide +kernel), List.mem_of_getElem? (i := 1127) (by decide +kernel)⟩
theorem lw_p34 : lw_okq (⟨"HomeFinderModel", "isNumber", "()Z"⟩, 57) := ⟨⟨by decide +kernel, by decide +kernel⟩, List.mem_of_getElem? (i := 848) (by decide +kernel), List.mem_of_getElem? (i := 1130) (by decide +kernel), List.mem_of_getElem? (i := 1131) (by decide +kernel)⟩
theorem lw_p35 : lw_okq (⟨"HomeFinderModel", "numberHere", "()I"⟩, 57) := ⟨⟨by decide +kernel, by decide +kernel⟩, List.mem_of_getElem? (i := 848) (by decide +kernel), List.mem_of_getElem? (i := 1134) (by decide +kernel), List.mem_of_getElem? (i := 1135) (by decide +kernel)⟩
theorem lw_p36 : lw_okq (⟨"HomeFinderModel", "side", "(Z)Z"⟩, 57) := ⟨⟨by decide +kernel, by decide +kernel⟩, List.mem_of_getElem? (i := 848) (by decide +kernel), List.mem_of_getElem? (i := 1138) (by decide +kernel), List.mem_of_getElem? (i := 1139) (by decide +kernel)⟩
theorem lw_p37 : lw_okq (⟨"HomeFinderModel", "isAnd", "()Z"⟩, 57) := ⟨⟨by decide +kernel, by decide +kernel⟩, List.mem_of_getElem? (i := 848) (by decide +kernel), List.mem_of_getElem? (i := 1142) (by decide +kernel), List.mem_of_getElem? (i := 1143) (by decide +kernel)⟩
theorem lw_p38 : lw_okq (⟨"HomeFinderModel", "barOf", "(II)I"⟩, 57) := ⟨⟨by decide +kernel, by decide +kernel⟩, List.mem_of_getElem? (i := 848) (by decide +kernel), List.mem_of_getElem? (i := 1150) (by decide +kernel), List.mem_of_getElem? (i := 1151) (by decide +kernel)⟩
theorem lw_p39 : lw_okq (⟨"HomeFinderModel", "isSo", "(IIII)Z"⟩, 57) := ⟨⟨by decide +kernel, by decide +kernel⟩, List.mem_of_getElem? (i := 848) (by decide +kernel), List.mem_of_getElem? (i := 1155) (by decide +kernel), List.mem_of_getElem? (i := 1156) (by decide +kernel)⟩
theorem lw_p40 : lw_okq (⟨"HomeFinderModel", "sideOf", "(IIIII)I"⟩, 57) := ⟨⟨by decide +kernel, by decide +kernel⟩, List.mem_of_getElem? (i := 848) (by decide +kernel), List.mem_of_getElem? (i := 1159) (by decide +kernel), List.mem_of_getElem? (i := 1160) (by decide +kernel)⟩
theorem lw_p41 : lw_okq (⟨"HomeFinderModel", "wishOf", "(II)I"⟩, 57) := ⟨⟨by decide +kernel, by decide +kernel⟩, List.mem_of_getElem? (i := 848) (by decide +kernel), List.mem_of_getElem? (i := 1172) (by decide +kernel), List.mem_of_getElem? (i := 1173) (by decide +kernel)⟩
theorem lw_p42 : lw_okq (⟨"HomeFinderModel", "weighs", "(IZ)V"⟩, 57) := ⟨⟨by decide +kernel, by decide +kernel⟩, List.mem_of_getElem? (i := 848) (by decide +kernel), List.mem_of_getElem? (i := 1180) (by decide +kernel), List.mem_of_getElem? (i := 1181) (by decide +kernel)⟩
theorem lw_p43 : lw_okq (⟨"HomeFinderModel", "parted", "()I"⟩, 57) := ⟨⟨by decide +kernel, by decide +kernel⟩, List.mem_of_getElem? (i := 848) (by decide +kernel), List.mem_of_getElem? (i := 1184) (by decide +kernel), List.mem_of_getElem? (i := 1185) (by decide +kernel)⟩
theorem lw_p44 : lw_okq (⟨"HomeFinderModel", "isLet", "(I)Z"⟩, 57) := ⟨⟨by decide +kernel, by decide +kernel⟩, List.mem_of_getElem? (i := 848) (by decide +kernel), List.mem_of_getElem? (i := 1188) (by decide +kernel), List.mem_of_getElem? (i := 1189) (by decide +kernel)⟩
theorem lw_p45 : lw_okq (⟨"HomeFinderModel", "reviewOf", "(II)I"⟩, 57) := ⟨⟨by decide +kernel, by decide +kernel⟩, List.mem_of_getElem? (i := 848) (by decide +kernel), List.mem_of_getElem? (i := 1208) (by decide +kernel), List.mem_of_getElem? (i := 1209) (by decide +kernel)⟩
def lw_privs_3 : List (MethodName × Nat) := [(⟨"HomeFinderModel", "isNight", "()Z"⟩, 57), (⟨"HomeFinderModel", "fails", "(II)Z"⟩, 57), (⟨"HomeFinderModel", "isNumber", "()Z"⟩, 57), (⟨"HomeFinderModel", "numberHere", "()I"⟩, 57), (⟨"HomeFinderModel", "side", "(Z)Z"⟩, 57), (⟨"HomeFinderModel", "isAnd", "()Z"⟩, 57), (⟨"HomeFinderModel", "barOf", "(II)I"⟩, 57), (⟨"HomeFinderModel", "isSo", "(IIII)Z"⟩, 57), (⟨"HomeFinderModel", "sideOf", "(IIIII)I"⟩, 57), (⟨"HomeFinderModel", "wishOf", "(II)I"⟩, 57), (⟨"HomeFinderModel", "weighs", "(IZ)V"⟩, 57), (⟨"HomeFinderModel", "parted", "()I"⟩, 57), (⟨"HomeFinderModel", "isLet", "(I)Z"⟩, 57), (⟨"HomeFinderModel", "reviewOf", "(II)I"⟩, 57)]
theorem lw_r3 : ∀ q ∈ lw_privs_3, lw_okq q := List.forall_mem_cons.mpr ⟨lw_p32, List.forall_mem_cons.mpr ⟨lw_p33, List.forall_mem_cons.mpr ⟨lw_p34, List.forall_mem_cons.mpr ⟨lw_p35, List.forall_mem_cons.mpr ⟨lw_p36, List.forall_mem_cons.mpr ⟨lw_p37, List.forall_mem_cons.mpr ⟨lw_p38, List.forall_mem_cons.mpr ⟨lw_p39, List.forall_mem_cons.mpr ⟨lw_p40, List.forall_mem_cons.mpr ⟨lw_p41, List.forall_mem_cons.mpr ⟨lw_p42, List.forall_mem_cons.mpr ⟨lw_p43, List.forall_mem_cons.mpr ⟨lw_p44, List.forall_mem_cons.mpr ⟨lw_p45, fun _ h => absurd h List.not_mem_nil⟩⟩⟩⟩⟩⟩⟩⟩⟩⟩⟩⟩⟩⟩
def lw_privs : List (MethodName × Nat) := lw_privs_1 ++ (lw_privs_2 ++ (lw_privs_3))
def lw_tbl : List Cond := k2_sels lw_privs ++ tables_1
theorem lw_privs_ok : ∀ q ∈ lw_privs, lw_okq q := by
  show ∀ q ∈ lw_privs_1 ++ (lw_privs_2 ++ (lw_privs_3)), lw_okq q
  exact List.forall_mem_append.mpr ⟨lw_r1, List.forall_mem_append.mpr ⟨lw_r2, lw_r3⟩⟩
end
section
def RX0 : String := "HomeFinder$Children"
def TX0 : u_T := fun k => match k with
  | 0 => ("HomeFinder$Children", "groups", "[I", true)
  | 1 => ("HomeFinder$Children", "needing", "[Z", true)
  | 2 => ("HomeFinder$Children", "firsts", "[I", true)
  | 3 => ("HomeFinder$Children", "lasts", "[I", true)
  | 4 => ("HomeFinder$Children", "nights", "[Z", true)
  | _ => ("HomeFinder$Children", "size", "I", false)
def tyX0 : Nat → FieldType := fun k => match k with
  | 0 => .array .int
  | 1 => .array .boolean
  | 2 => .array .int
  | 3 => .array .int
  | 4 => .array .boolean
  | _ => .int
abbrev wsX00 : List Cond := u_ws RX0 TX0 6
theorem nmX0 : ∀ a, a < 6 → ∀ b, b < 6 → a ≠ b → (TX0 a).2.1 ≠ (TX0 b).2.1 := by decide +kernel
theorem tyX0_ok : ∀ k, k < 6 → parseFieldDescriptor (TX0 k).2.2.1 = some (tyX0 k) := by decide +kernel
abbrev cX0_init : ByteArray := prog_2_method_1_code
def yX0_init : MethodName := ⟨RX0, "<init>", "()V"⟩
abbrev cX0_size : ByteArray := prog_2_method_2_code
def yX0_size : MethodName := ⟨RX0, "size", "()I"⟩
abbrev cX0_has : ByteArray := prog_2_method_3_code
def yX0_has : MethodName := ⟨RX0, "has", "(I)Z"⟩
abbrev cX0_add : ByteArray := prog_2_method_4_code
def yX0_add : MethodName := ⟨RX0, "add", "(I)I"⟩
abbrev cX0_groupOf : ByteArray := prog_2_method_5_code
def yX0_groupOf : MethodName := ⟨RX0, "groupOf", "(I)I"⟩
abbrev cX0_setNeed : ByteArray := prog_2_method_6_code
def yX0_setNeed : MethodName := ⟨RX0, "setNeed", "(IIIZ)V"⟩
abbrev cX0_endNeed : ByteArray := prog_2_method_7_code
def yX0_endNeed : MethodName := ⟨RX0, "endNeed", "(I)Z"⟩
abbrev cX0_hasNeed : ByteArray := prog_2_method_8_code
def yX0_hasNeed : MethodName := ⟨RX0, "hasNeed", "(I)Z"⟩
abbrev cX0_needsOn : ByteArray := prog_2_method_9_code
def yX0_needsOn : MethodName := ⟨RX0, "needsOn", "(II)Z"⟩
abbrev cX0_firstDay : ByteArray := prog_2_method_10_code
def yX0_firstDay : MethodName := ⟨RX0, "firstDay", "(I)I"⟩
abbrev cX0_lastDay : ByteArray := prog_2_method_11_code
def yX0_lastDay : MethodName := ⟨RX0, "lastDay", "(I)I"⟩
abbrev cX0_byNight : ByteArray := prog_2_method_12_code
def yX0_byNight : MethodName := ⟨RX0, "byNight", "(I)Z"⟩
abbrev cX0_reviewDay : ByteArray := prog_2_method_13_code
def yX0_reviewDay : MethodName := ⟨RX0, "reviewDay", "(II)I"⟩
abbrev cX0_hasReviewOn : ByteArray := prog_2_method_14_code
def yX0_hasReviewOn : MethodName := ⟨RX0, "hasReviewOn", "(II)Z"⟩
def RX1 : String := "HomeFinder$Facts"
def TX1 : u_T := fun k => match k with
  | 0 => ("HomeFinder$Facts", "slots", "[I", true)
  | 1 => ("HomeFinder$Facts", "owners", "[I", true)
  | 2 => ("HomeFinder$Facts", "numbers", "[I", true)
  | 3 => ("HomeFinder$Facts", "days", "[I", true)
  | 4 => ("HomeFinder$Facts", "tellings", "[I", true)
  | _ => ("HomeFinder$Facts", "size", "I", false)
def tyX1 : Nat → FieldType := fun k => match k with
  | 0 => .array .int
  | 1 => .array .int
  | 2 => .array .int
  | 3 => .array .int
  | 4 => .array .int
  | _ => .int
abbrev wsX10 : List Cond := u_ws RX1 TX1 6
theorem nmX1 : ∀ a, a < 6 → ∀ b, b < 6 → a ≠ b → (TX1 a).2.1 ≠ (TX1 b).2.1 := by decide +kernel
theorem tyX1_ok : ∀ k, k < 6 → parseFieldDescriptor (TX1 k).2.2.1 = some (tyX1 k) := by decide +kernel
abbrev cX1_init : ByteArray := prog_3_method_1_code
def yX1_init : MethodName := ⟨RX1, "<init>", "()V"⟩
abbrev cX1_size : ByteArray := prog_3_method_2_code
def yX1_size : MethodName := ⟨RX1, "size", "()I"⟩
abbrev cX1_add : ByteArray := prog_3_method_3_code
def yX1_add : MethodName := ⟨RX1, "add", "(IIIII)I"⟩
abbrev cX1_numberOn : ByteArray := prog_3_method_4_code
def yX1_numberOn : MethodName := ⟨RX1, "numberOn", "(IIII)I"⟩
abbrev cX1_layOut : ByteArray := prog_3_method_5_code
def yX1_layOut : MethodName := ⟨RX1, "layOut", "(LHomeFinder$Sheet;IIII)V"⟩
def RX2 : String := "HomeFinder$Homes"
def TX2 : u_T := fun k => match k with
  | 0 => ("HomeFinder$Homes", "bedCounts", "[I", true)
  | 1 => ("HomeFinder$Homes", "closings", "[I", true)
  | _ => ("HomeFinder$Homes", "size", "I", false)
def tyX2 : Nat → FieldType := fun k => match k with
  | 0 => .array .int
  | 1 => .array .int
  | _ => .int
abbrev wsX20 : List Cond := u_ws RX2 TX2 3
theorem nmX2 : ∀ a, a < 3 → ∀ b, b < 3 → a ≠ b → (TX2 a).2.1 ≠ (TX2 b).2.1 := by decide +kernel
theorem tyX2_ok : ∀ k, k < 3 → parseFieldDescriptor (TX2 k).2.2.1 = some (tyX2 k) := by decide +kernel
abbrev cX2_init : ByteArray := prog_4_method_1_code
def yX2_init : MethodName := ⟨RX2, "<init>", "()V"⟩
abbrev cX2_size : ByteArray := prog_4_method_2_code
def yX2_size : MethodName := ⟨RX2, "size", "()I"⟩
abbrev cX2_has : ByteArray := prog_4_method_3_code
def yX2_has : MethodName := ⟨RX2, "has", "(I)Z"⟩
abbrev cX2_add : ByteArray := prog_4_method_4_code
def yX2_add : MethodName := ⟨RX2, "add", "(I)I"⟩
abbrev cX2_bedsOf : ByteArray := prog_4_method_5_code
def yX2_bedsOf : MethodName := ⟨RX2, "bedsOf", "(I)I"⟩
abbrev cX2_closeFrom : ByteArray := prog_4_method_6_code
def yX2_closeFrom : MethodName := ⟨RX2, "closeFrom", "(II)V"⟩
abbrev cX2_closingOf : ByteArray := prog_4_method_7_code
def yX2_closingOf : MethodName := ⟨RX2, "closingOf", "(I)I"⟩
def RX3 : String := "HomeFinder$Judge"
def TX3 : u_T := fun k => match k with
  | 0 => ("HomeFinder$Judge", "children", "LHomeFinder$Children;", true)
  | 1 => ("HomeFinder$Judge", "homes", "LHomeFinder$Homes;", true)
  | 2 => ("HomeFinder$Judge", "papers", "LHomeFinder$Papers;", true)
  | 3 => ("HomeFinder$Judge", "facts", "LHomeFinder$Facts;", true)
  | 4 => ("HomeFinder$Judge", "book", "LHomeFinder$RuleBook;", true)
  | 5 => ("HomeFinder$Judge", "sheet", "LHomeFinder$Sheet;", true)
  | _ => ("HomeFinder$Judge", "barDay", "I", false)
def tyX3 : Nat → FieldType := fun k => match k with
  | 0 => .object "HomeFinder$Children"
  | 1 => .object "HomeFinder$Homes"
  | 2 => .object "HomeFinder$Papers"
  | 3 => .object "HomeFinder$Facts"
  | 4 => .object "HomeFinder$RuleBook"
  | 5 => .object "HomeFinder$Sheet"
  | _ => .int
abbrev wsX30 : List Cond := u_ws RX3 TX3 7
theorem nmX3 : ∀ a, a < 7 → ∀ b, b < 7 → a ≠ b → (TX3 a).2.1 ≠ (TX3 b).2.1 := by decide +kernel
theorem tyX3_ok : ∀ k, k < 7 → parseFieldDescriptor (TX3 k).2.2.1 = some (tyX3 k) := by decide +kernel
abbrev cX3_init : ByteArray := prog_5_method_1_code
def yX3_init : MethodName := ⟨RX3, "<init>", "(LHomeFinder$Children;LHomeFinder$Homes;LHomeFinder$Papers;LHomeFinder$Facts;LHomeFinder$RuleBook;)V"⟩
abbrev cX3_barDay : ByteArray := prog_5_method_2_code
def yX3_barDay : MethodName := ⟨RX3, "barDay", "()I"⟩
abbrev cX3_findBar : ByteArray := prog_5_method_3_code
def yX3_findBar : MethodName := ⟨RX3, "findBar", "(III)I"⟩
abbrev cX3_barOn : ByteArray := prog_5_method_4_code
def yX3_barOn : MethodName := ⟨RX3, "barOn", "(IIII)I"⟩
abbrev cX3_turnBehind : ByteArray := prog_5_method_5_code
def yX3_turnBehind : MethodName := ⟨RX3, "turnBehind", "(II)I"⟩
abbrev cX3_wishOf : ByteArray := prog_5_method_6_code
def yX3_wishOf : MethodName := ⟨RX3, "wishOf", "(III)I"⟩
def RX4 : String := "HomeFinder$Papers"
def TX4 : u_T := fun k => match k with
  | 0 => ("HomeFinder$Papers", "owners", "[I", true)
  | 1 => ("HomeFinder$Papers", "firsts", "[I", true)
  | 2 => ("HomeFinder$Papers", "lasts", "[I", true)
  | _ => ("HomeFinder$Papers", "size", "I", false)
def tyX4 : Nat → FieldType := fun k => match k with
  | 0 => .array .int
  | 1 => .array .int
  | 2 => .array .int
  | _ => .int
abbrev wsX40 : List Cond := u_ws RX4 TX4 4
theorem nmX4 : ∀ a, a < 4 → ∀ b, b < 4 → a ≠ b → (TX4 a).2.1 ≠ (TX4 b).2.1 := by decide +kernel
theorem tyX4_ok : ∀ k, k < 4 → parseFieldDescriptor (TX4 k).2.2.1 = some (tyX4 k) := by decide +kernel
abbrev cX4_init : ByteArray := prog_6_method_1_code
def yX4_init : MethodName := ⟨RX4, "<init>", "()V"⟩
abbrev cX4_size : ByteArray := prog_6_method_2_code
def yX4_size : MethodName := ⟨RX4, "size", "()I"⟩
abbrev cX4_add : ByteArray := prog_6_method_3_code
def yX4_add : MethodName := ⟨RX4, "add", "(III)I"⟩
abbrev cX4_latestEnd : ByteArray := prog_6_method_4_code
def yX4_latestEnd : MethodName := ⟨RX4, "latestEnd", "(II)I"⟩
def RX5 : String := "HomeFinder$Placer"
def TX5 : u_T := fun k => match k with
  | 0 => ("HomeFinder$Placer", "children", "LHomeFinder$Children;", true)
  | 1 => ("HomeFinder$Placer", "homes", "LHomeFinder$Homes;", true)
  | 2 => ("HomeFinder$Placer", "judge", "LHomeFinder$Judge;", true)
  | 3 => ("HomeFinder$Placer", "latest", "LHomeFinder$Placing;", true)
  | 4 => ("HomeFinder$Placer", "wishes", "[I", true)
  | 5 => ("HomeFinder$Placer", "prices", "[I", true)
  | 6 => ("HomeFinder$Placer", "pricesOfNone", "[I", true)
  | 7 => ("HomeFinder$Placer", "leastBehind", "[I", true)
  | 8 => ("HomeFinder$Placer", "together", "[I", true)
  | 9 => ("HomeFinder$Placer", "peaks", "[I", true)
  | 10 => ("HomeFinder$Placer", "residents", "[I", true)
  | 11 => ("HomeFinder$Placer", "homesOfGroup", "[I", true)
  | 12 => ("HomeFinder$Placer", "trial", "[I", true)
  | 13 => ("HomeFinder$Placer", "best", "[I", true)
  | _ => ("HomeFinder$Placer", "bestPrice", "I", false)
def tyX5 : Nat → FieldType := fun k => match k with
  | 0 => .object "HomeFinder$Children"
  | 1 => .object "HomeFinder$Homes"
  | 2 => .object "HomeFinder$Judge"
  | 3 => .object "HomeFinder$Placing"
  | 4 => .array .int
  | 5 => .array .int
  | 6 => .array .int
  | 7 => .array .int
  | 8 => .array .int
  | 9 => .array .int
  | 10 => .array .int
  | 11 => .array .int
  | 12 => .array .int
  | 13 => .array .int
  | _ => .int
abbrev wsX50 : List Cond := u_ws RX5 TX5 15
theorem nmX5 : ∀ a, a < 15 → ∀ b, b < 15 → a ≠ b → (TX5 a).2.1 ≠ (TX5 b).2.1 := by decide +kernel
theorem tyX5_ok : ∀ k, k < 15 → parseFieldDescriptor (TX5 k).2.2.1 = some (tyX5 k) := by decide +kernel
abbrev cX5_init : ByteArray := prog_7_method_1_code
def yX5_init : MethodName := ⟨RX5, "<init>", "(LHomeFinder$Children;LHomeFinder$Homes;LHomeFinder$Judge;LHomeFinder$Placing;)V"⟩
abbrev cX5_weigh : ByteArray := prog_7_method_2_code
def yX5_weigh : MethodName := ⟨RX5, "weigh", "(ZI)V"⟩
abbrev cX5_findBest : ByteArray := prog_7_method_3_code
def yX5_findBest : MethodName := ⟨RX5, "findBest", "()V"⟩
abbrev cX5_sumLeastPrices : ByteArray := prog_7_method_4_code
def yX5_sumLeastPrices : MethodName := ⟨RX5, "sumLeastPrices", "()V"⟩
abbrev cX5_findTogether : ByteArray := prog_7_method_5_code
def yX5_findTogether : MethodName := ⟨RX5, "findTogether", "()V"⟩
abbrev cX5_findPeaks : ByteArray := prog_7_method_6_code
def yX5_findPeaks : MethodName := ⟨RX5, "findPeaks", "()V"⟩
abbrev cX5_search : ByteArray := prog_7_method_7_code
def yX5_search : MethodName := ⟨RX5, "search", "(II)V"⟩
abbrev cX5_searchWithHome : ByteArray := prog_7_method_8_code
def yX5_searchWithHome : MethodName := ⟨RX5, "searchWithHome", "(III)V"⟩
abbrev cX5_settle : ByteArray := prog_7_method_9_code
def yX5_settle : MethodName := ⟨RX5, "settle", "()V"⟩
abbrev cX5_countChild : ByteArray := prog_7_method_10_code
def yX5_countChild : MethodName := ⟨RX5, "countChild", "(II)V"⟩
def RX6 : String := "HomeFinder$Placing"
def TX6 : u_T := fun k => match k with
  | 0 => ("HomeFinder$Placing", "homesOf", "[I", true)
  | _ => ("HomeFinder$Placing", "figures", "[I", true)
def tyX6 : Nat → FieldType := fun k => match k with
  | 0 => .array .int
  | _ => .array .int
abbrev wsX60 : List Cond := u_ws RX6 TX6 2
theorem nmX6 : ∀ a, a < 2 → ∀ b, b < 2 → a ≠ b → (TX6 a).2.1 ≠ (TX6 b).2.1 := by decide +kernel
theorem tyX6_ok : ∀ k, k < 2 → parseFieldDescriptor (TX6 k).2.2.1 = some (tyX6 k) := by decide +kernel
abbrev cX6_init : ByteArray := prog_8_method_1_code
def yX6_init : MethodName := ⟨RX6, "<init>", "()V"⟩
abbrev cX6_homeOf : ByteArray := prog_8_method_2_code
def yX6_homeOf : MethodName := ⟨RX6, "homeOf", "(I)I"⟩
abbrev cX6_figure : ByteArray := prog_8_method_3_code
def yX6_figure : MethodName := ⟨RX6, "figure", "(I)I"⟩
abbrev cX6_setHome : ByteArray := prog_8_method_4_code
def yX6_setHome : MethodName := ⟨RX6, "setHome", "(II)V"⟩
abbrev cX6_clearFigures : ByteArray := prog_8_method_5_code
def yX6_clearFigures : MethodName := ⟨RX6, "clearFigures", "()V"⟩
abbrev cX6_raise : ByteArray := prog_8_method_6_code
def yX6_raise : MethodName := ⟨RX6, "raise", "(II)V"⟩
def RX7 : String := "HomeFinder$RuleBook"
def TX7 : u_T := fun k => match k with
  | 0 => ("HomeFinder$RuleBook", "kinds", "[I", true)
  | 1 => ("HomeFinder$RuleBook", "weights", "[I", true)
  | 2 => ("HomeFinder$RuleBook", "termCounts", "[I", true)
  | 3 => ("HomeFinder$RuleBook", "lefts", "[I", true)
  | 4 => ("HomeFinder$RuleBook", "signs", "[I", true)
  | 5 => ("HomeFinder$RuleBook", "rights", "[I", true)
  | _ => ("HomeFinder$RuleBook", "size", "I", false)
def tyX7 : Nat → FieldType := fun k => match k with
  | 0 => .array .int
  | 1 => .array .int
  | 2 => .array .int
  | 3 => .array .int
  | 4 => .array .int
  | 5 => .array .int
  | _ => .int
abbrev wsX70 : List Cond := u_ws RX7 TX7 7
theorem nmX7 : ∀ a, a < 7 → ∀ b, b < 7 → a ≠ b → (TX7 a).2.1 ≠ (TX7 b).2.1 := by decide +kernel
theorem tyX7_ok : ∀ k, k < 7 → parseFieldDescriptor (TX7 k).2.2.1 = some (tyX7 k) := by decide +kernel
abbrev cX7_init : ByteArray := prog_9_method_1_code
def yX7_init : MethodName := ⟨RX7, "<init>", "()V"⟩
abbrev cX7_size : ByteArray := prog_9_method_2_code
def yX7_size : MethodName := ⟨RX7, "size", "()I"⟩
abbrev cX7_clear : ByteArray := prog_9_method_3_code
def yX7_clear : MethodName := ⟨RX7, "clear", "()V"⟩
abbrev cX7_addRule : ByteArray := prog_9_method_4_code
def yX7_addRule : MethodName := ⟨RX7, "addRule", "(II)V"⟩
abbrev cX7_addTerm : ByteArray := prog_9_method_5_code
def yX7_addTerm : MethodName := ⟨RX7, "addTerm", "(III)V"⟩
abbrev cX7_takeFrom : ByteArray := prog_9_method_6_code
def yX7_takeFrom : MethodName := ⟨RX7, "takeFrom", "(LHomeFinder$RuleBook;)V"⟩
abbrev cX7_firstBroken : ByteArray := prog_9_method_7_code
def yX7_firstBroken : MethodName := ⟨RX7, "firstBroken", "(ILHomeFinder$Sheet;)I"⟩
abbrev cX7_wishSum : ByteArray := prog_9_method_8_code
def yX7_wishSum : MethodName := ⟨RX7, "wishSum", "(LHomeFinder$Sheet;)I"⟩
abbrev cX7_isSo : ByteArray := prog_9_method_9_code
def yX7_isSo : MethodName := ⟨RX7, "isSo", "(ILHomeFinder$Sheet;)Z"⟩
abbrev cX7_signOf : ByteArray := prog_9_method_10_code
def yX7_signOf : MethodName := ⟨RX7, "signOf", "(II)I"⟩
def RX8 : String := "HomeFinder$RuleReader"
def TX8 : u_T := fun k => match k with
  | 0 => ("HomeFinder$RuleReader", "tape", "LHomeFinder$Tape;", true)
  | 1 => ("HomeFinder$RuleReader", "draft", "LHomeFinder$RuleBook;", true)
  | 2 => ("HomeFinder$RuleReader", "start", "I", false)
  | 3 => ("HomeFinder$RuleReader", "stop", "I", false)
  | _ => ("HomeFinder$RuleReader", "fault", "I", false)
def tyX8 : Nat → FieldType := fun k => match k with
  | 0 => .object "HomeFinder$Tape"
  | 1 => .object "HomeFinder$RuleBook"
  | 2 => .int
  | 3 => .int
  | _ => .int
abbrev wsX80 : List Cond := u_ws RX8 TX8 5
theorem nmX8 : ∀ a, a < 5 → ∀ b, b < 5 → a ≠ b → (TX8 a).2.1 ≠ (TX8 b).2.1 := by decide +kernel
theorem tyX8_ok : ∀ k, k < 5 → parseFieldDescriptor (TX8 k).2.2.1 = some (tyX8 k) := by decide +kernel
abbrev cX8_init : ByteArray := prog_10_method_1_code
def yX8_init : MethodName := ⟨RX8, "<init>", "(LHomeFinder$Tape;)V"⟩
abbrev cX8_draft : ByteArray := prog_10_method_2_code
def yX8_draft : MethodName := ⟨RX8, "draft", "()LHomeFinder$RuleBook;"⟩
abbrev cX8_read : ByteArray := prog_10_method_3_code
def yX8_read : MethodName := ⟨RX8, "read", "()I"⟩
abbrev cX8_readHead : ByteArray := prog_10_method_4_code
def yX8_readHead : MethodName := ⟨RX8, "readHead", "(I)Z"⟩
abbrev cX8_readBetweenRules : ByteArray := prog_10_method_5_code
def yX8_readBetweenRules : MethodName := ⟨RX8, "readBetweenRules", "()Z"⟩
abbrev cX8_kindOfWord : ByteArray := prog_10_method_6_code
def yX8_kindOfWord : MethodName := ⟨RX8, "kindOfWord", "()I"⟩
abbrev cX8_readWeight : ByteArray := prog_10_method_7_code
def yX8_readWeight : MethodName := ⟨RX8, "readWeight", "()I"⟩
abbrev cX8_readTerms : ByteArray := prog_10_method_8_code
def yX8_readTerms : MethodName := ⟨RX8, "readTerms", "()Z"⟩
abbrev cX8_readTerm : ByteArray := prog_10_method_9_code
def yX8_readTerm : MethodName := ⟨RX8, "readTerm", "(I)Z"⟩
abbrev cX8_readSide : ByteArray := prog_10_method_10_code
def yX8_readSide : MethodName := ⟨RX8, "readSide", "(Z)I"⟩
abbrev cX8_slotOfWord : ByteArray := prog_10_method_11_code
def yX8_slotOfWord : MethodName := ⟨RX8, "slotOfWord", "()I"⟩
abbrev cX8_numberOfWord : ByteArray := prog_10_method_12_code
def yX8_numberOfWord : MethodName := ⟨RX8, "numberOfWord", "()I"⟩
abbrev cX8_isNumber : ByteArray := prog_10_method_13_code
def yX8_isNumber : MethodName := ⟨RX8, "isNumber", "()Z"⟩
abbrev cX8_isWord : ByteArray := prog_10_method_14_code
def yX8_isWord : MethodName := ⟨RX8, "isWord", "(Ljava/lang/String;)Z"⟩
abbrev cX8_isAtEnd : ByteArray := prog_10_method_15_code
def yX8_isAtEnd : MethodName := ⟨RX8, "isAtEnd", "()Z"⟩
abbrev cX8_step : ByteArray := prog_10_method_16_code
def yX8_step : MethodName := ⟨RX8, "step", "()V"⟩
abbrev cX8_refuse : ByteArray := prog_10_method_17_code
def yX8_refuse : MethodName := ⟨RX8, "refuse", "(I)Z"⟩
abbrev cX8_isOfWord : ByteArray := prog_10_method_18_code
def yX8_isOfWord : MethodName := ⟨RX8, "isOfWord", "(I)Z"⟩
abbrev cX8_isDigit : ByteArray := prog_10_method_19_code
def yX8_isDigit : MethodName := ⟨RX8, "isDigit", "(I)Z"⟩
def RX9 : String := "HomeFinder$Sheet"
def TX9 : u_T := fun k => match k with
  | 0 => ("HomeFinder$Sheet", "numbers", "[I", true)
  | 1 => ("HomeFinder$Sheet", "sinces", "[I", true)
  | 2 => ("HomeFinder$Sheet", "day", "I", false)
  | _ => ("HomeFinder$Sheet", "turn", "I", false)
def tyX9 : Nat → FieldType := fun k => match k with
  | 0 => .array .int
  | 1 => .array .int
  | 2 => .int
  | _ => .int
abbrev wsX90 : List Cond := u_ws RX9 TX9 4
theorem nmX9 : ∀ a, a < 4 → ∀ b, b < 4 → a ≠ b → (TX9 a).2.1 ≠ (TX9 b).2.1 := by decide +kernel
theorem tyX9_ok : ∀ k, k < 4 → parseFieldDescriptor (TX9 k).2.2.1 = some (tyX9 k) := by decide +kernel
abbrev cX9_init : ByteArray := prog_11_method_1_code
def yX9_init : MethodName := ⟨RX9, "<init>", "()V"⟩
abbrev cX9_clear : ByteArray := prog_11_method_2_code
def yX9_clear : MethodName := ⟨RX9, "clear", "(I)V"⟩
abbrev cX9_take : ByteArray := prog_11_method_3_code
def yX9_take : MethodName := ⟨RX9, "take", "(III)V"⟩
abbrev cX9_numberOf : ByteArray := prog_11_method_4_code
def yX9_numberOf : MethodName := ⟨RX9, "numberOf", "(I)I"⟩
abbrev cX9_turn : ByteArray := prog_11_method_5_code
def yX9_turn : MethodName := ⟨RX9, "turn", "()I"⟩
def RX10 : String := "HomeFinder$Tape"
def TX10 : u_T := fun k => match k with
  | 0 => ("HomeFinder$Tape", "bytes", "[I", true)
  | _ => ("HomeFinder$Tape", "size", "I", false)
def tyX10 : Nat → FieldType := fun k => match k with
  | 0 => .array .int
  | _ => .int
abbrev wsX100 : List Cond := u_ws RX10 TX10 2
theorem nmX10 : ∀ a, a < 2 → ∀ b, b < 2 → a ≠ b → (TX10 a).2.1 ≠ (TX10 b).2.1 := by decide +kernel
theorem tyX10_ok : ∀ k, k < 2 → parseFieldDescriptor (TX10 k).2.2.1 = some (tyX10 k) := by decide +kernel
abbrev cX10_init : ByteArray := prog_12_method_1_code
def yX10_init : MethodName := ⟨RX10, "<init>", "()V"⟩
abbrev cX10_size : ByteArray := prog_12_method_2_code
def yX10_size : MethodName := ⟨RX10, "size", "()I"⟩
abbrev cX10_add : ByteArray := prog_12_method_3_code
def yX10_add : MethodName := ⟨RX10, "add", "(I)V"⟩
abbrev cX10_cut : ByteArray := prog_12_method_4_code
def yX10_cut : MethodName := ⟨RX10, "cut", "(I)Z"⟩
abbrev cX10_byteAt : ByteArray := prog_12_method_5_code
def yX10_byteAt : MethodName := ⟨RX10, "byteAt", "(I)I"⟩
def RX11 : String := "HomeFinder"
def TX11 : u_T := fun k => match k with
  | 0 => ("HomeFinder", "children", "LHomeFinder$Children;", true)
  | 1 => ("HomeFinder", "homes", "LHomeFinder$Homes;", true)
  | 2 => ("HomeFinder", "papers", "LHomeFinder$Papers;", true)
  | 3 => ("HomeFinder", "facts", "LHomeFinder$Facts;", true)
  | 4 => ("HomeFinder", "tape", "LHomeFinder$Tape;", true)
  | 5 => ("HomeFinder", "book", "LHomeFinder$RuleBook;", true)
  | 6 => ("HomeFinder", "reader", "LHomeFinder$RuleReader;", true)
  | 7 => ("HomeFinder", "judge", "LHomeFinder$Judge;", true)
  | 8 => ("HomeFinder", "latest", "LHomeFinder$Placing;", true)
  | 9 => ("HomeFinder", "placer", "LHomeFinder$Placer;", true)
  | _ => ("HomeFinder", "today", "I", false)
def tyX11 : Nat → FieldType := fun k => match k with
  | 0 => .object "HomeFinder$Children"
  | 1 => .object "HomeFinder$Homes"
  | 2 => .object "HomeFinder$Papers"
  | 3 => .object "HomeFinder$Facts"
  | 4 => .object "HomeFinder$Tape"
  | 5 => .object "HomeFinder$RuleBook"
  | 6 => .object "HomeFinder$RuleReader"
  | 7 => .object "HomeFinder$Judge"
  | 8 => .object "HomeFinder$Placing"
  | 9 => .object "HomeFinder$Placer"
  | _ => .int
abbrev wsX110 : List Cond := u_ws RX11 TX11 11
theorem nmX11 : ∀ a, a < 11 → ∀ b, b < 11 → a ≠ b → (TX11 a).2.1 ≠ (TX11 b).2.1 := by decide +kernel
theorem tyX11_ok : ∀ k, k < 11 → parseFieldDescriptor (TX11 k).2.2.1 = some (tyX11 k) := by decide +kernel
abbrev cX11_init : ByteArray := prog_1_method_1_code
def yX11_init : MethodName := ⟨RX11, "<init>", "()V"⟩
abbrev cX11_clock : ByteArray := prog_1_method_2_code
def yX11_clock : MethodName := ⟨RX11, "clock", "(I)Z"⟩
abbrev cX11_child : ByteArray := prog_1_method_3_code
def yX11_child : MethodName := ⟨RX11, "child", "(I)I"⟩
abbrev cX11_home : ByteArray := prog_1_method_4_code
def yX11_home : MethodName := ⟨RX11, "home", "(I)I"⟩
abbrev cX11_fact : ByteArray := prog_1_method_5_code
def yX11_fact : MethodName := ⟨RX11, "fact", "(ZIIII)I"⟩
abbrev cX11_value : ByteArray := prog_1_method_6_code
def yX11_value : MethodName := ⟨RX11, "value", "(ZIIII)I"⟩
abbrev cX11_paper : ByteArray := prog_1_method_7_code
def yX11_paper : MethodName := ⟨RX11, "paper", "(III)I"⟩
abbrev cX11_until : ByteArray := prog_1_method_8_code
def yX11_until : MethodName := ⟨RX11, "until", "(II)I"⟩
abbrev cX11_close : ByteArray := prog_1_method_9_code
def yX11_close : MethodName := ⟨RX11, "close", "(II)Z"⟩
abbrev cX11_need : ByteArray := prog_1_method_10_code
def yX11_need : MethodName := ⟨RX11, "need", "(IIIZ)Z"⟩
abbrev cX11_ends : ByteArray := prog_1_method_11_code
def yX11_ends : MethodName := ⟨RX11, "ends", "(I)Z"⟩
abbrev cX11_feed : ByteArray := prog_1_method_12_code
def yX11_feed : MethodName := ⟨RX11, "feed", "(IIIII)I"⟩
abbrev cX11_end : ByteArray := prog_1_method_13_code
def yX11_end : MethodName := ⟨RX11, "end", "(I)I"⟩
abbrev cX11_rules : ByteArray := prog_1_method_14_code
def yX11_rules : MethodName := ⟨RX11, "rules", "()I"⟩
abbrev cX11_bars : ByteArray := prog_1_method_15_code
def yX11_bars : MethodName := ⟨RX11, "bars", "(II)I"⟩
abbrev cX11_barred : ByteArray := prog_1_method_16_code
def yX11_barred : MethodName := ⟨RX11, "barred", "(II)I"⟩
abbrev cX11_wish : ByteArray := prog_1_method_17_code
def yX11_wish : MethodName := ⟨RX11, "wish", "(II)I"⟩
abbrev cX11_place : ByteArray := prog_1_method_18_code
def yX11_place : MethodName := ⟨RX11, "place", "(Z)I"⟩
abbrev cX11_at : ByteArray := prog_1_method_19_code
def yX11_at : MethodName := ⟨RX11, "at", "(I)I"⟩
abbrev cX11_placed : ByteArray := prog_1_method_20_code
def yX11_placed : MethodName := ⟨RX11, "placed", "(I)I"⟩
abbrev cX11_beds : ByteArray := prog_1_method_21_code
def yX11_beds : MethodName := ⟨RX11, "beds", "(II)I"⟩
abbrev cX11_review : ByteArray := prog_1_method_22_code
def yX11_review : MethodName := ⟨RX11, "review", "(II)I"⟩
abbrev cX11_reviews : ByteArray := prog_1_method_23_code
def yX11_reviews : MethodName := ⟨RX11, "reviews", "(I)I"⟩
abbrev cX11_count : ByteArray := prog_1_method_24_code
def yX11_count : MethodName := ⟨RX11, "count", "(I)I"⟩
abbrev cX11_isThere : ByteArray := prog_1_method_25_code
def yX11_isThere : MethodName := ⟨RX11, "isThere", "(ZI)Z"⟩
abbrev cX11_isDay : ByteArray := prog_1_method_26_code
def yX11_isDay : MethodName := ⟨RX11, "isDay", "(I)Z"⟩
abbrev cX11_isField : ByteArray := prog_1_method_27_code
def yX11_isField : MethodName := ⟨RX11, "isField", "(I)Z"⟩
abbrev cX11_slotOf : ByteArray := prog_1_method_28_code
def yX11_slotOf : MethodName := ⟨RX11, "slotOf", "(ZI)I"⟩
def RX12 : String := "HomeFinderModel"
def TX12 : u_T := fun k => match k with
  | 0 => ("HomeFinderModel", "clock", "I", false)
  | 1 => ("HomeFinderModel", "children", "I", false)
  | 2 => ("HomeFinderModel", "group", "[I", true)
  | 3 => ("HomeFinderModel", "hasNeed", "[Z", true)
  | 4 => ("HomeFinderModel", "needFirst", "[I", true)
  | 5 => ("HomeFinderModel", "needLast", "[I", true)
  | 6 => ("HomeFinderModel", "byNight", "[Z", true)
  | 7 => ("HomeFinderModel", "homes", "I", false)
  | 8 => ("HomeFinderModel", "bedsOf", "[I", true)
  | 9 => ("HomeFinderModel", "closed", "[I", true)
  | 10 => ("HomeFinderModel", "papers", "I", false)
  | 11 => ("HomeFinderModel", "paperOf", "[I", true)
  | 12 => ("HomeFinderModel", "paperFirst", "[I", true)
  | 13 => ("HomeFinderModel", "paperLast", "[I", true)
  | 14 => ("HomeFinderModel", "facts", "I", false)
  | 15 => ("HomeFinderModel", "factOf", "[I", true)
  | 16 => ("HomeFinderModel", "factField", "[I", true)
  | 17 => ("HomeFinderModel", "factNumber", "[I", true)
  | 18 => ("HomeFinderModel", "factDay", "[I", true)
  | 19 => ("HomeFinderModel", "factKnown", "[I", true)
  | 20 => ("HomeFinderModel", "tape", "[B", true)
  | 21 => ("HomeFinderModel", "taped", "I", false)
  | 22 => ("HomeFinderModel", "next", "I", false)
  | 23 => ("HomeFinderModel", "fault", "I", false)
  | 24 => ("HomeFinderModel", "rules", "I", false)
  | 25 => ("HomeFinderModel", "kind", "[I", true)
  | 26 => ("HomeFinderModel", "weight", "[I", true)
  | 27 => ("HomeFinderModel", "terms", "[I", true)
  | 28 => ("HomeFinderModel", "sideOne", "[I", true)
  | 29 => ("HomeFinderModel", "numberOne", "[I", true)
  | 30 => ("HomeFinderModel", "signOf", "[I", true)
  | 31 => ("HomeFinderModel", "sideTwo", "[I", true)
  | 32 => ("HomeFinderModel", "numberTwo", "[I", true)
  | 33 => ("HomeFinderModel", "readKind", "[I", true)
  | 34 => ("HomeFinderModel", "readWeight", "[I", true)
  | 35 => ("HomeFinderModel", "readTerms", "[I", true)
  | 36 => ("HomeFinderModel", "readSideOne", "[I", true)
  | 37 => ("HomeFinderModel", "readNumberOne", "[I", true)
  | 38 => ("HomeFinderModel", "readSign", "[I", true)
  | 39 => ("HomeFinderModel", "readSideTwo", "[I", true)
  | 40 => ("HomeFinderModel", "readNumberTwo", "[I", true)
  | 41 => ("HomeFinderModel", "from", "I", false)
  | 42 => ("HomeFinderModel", "length", "I", false)
  | 43 => ("HomeFinderModel", "sideIs", "I", false)
  | 44 => ("HomeFinderModel", "sideNumber", "I", false)
  | 45 => ("HomeFinderModel", "barDay", "I", false)
  | 46 => ("HomeFinderModel", "at", "[I", true)
  | 47 => ("HomeFinderModel", "choice", "[I", true)
  | 48 => ("HomeFinderModel", "best", "[I", true)
  | 49 => ("HomeFinderModel", "fits", "[Z", true)
  | 50 => ("HomeFinderModel", "wishes", "[I", true)
  | 51 => ("HomeFinderModel", "bestWithout", "I", false)
  | 52 => ("HomeFinderModel", "bestParted", "I", false)
  | 53 => ("HomeFinderModel", "bestMoved", "I", false)
  | 54 => ("HomeFinderModel", "bestWishes", "I", false)
  | 55 => ("HomeFinderModel", "hasPlaced", "Z", false)
  | _ => ("HomeFinderModel", "needs", "I", false)
def tyX12 : Nat → FieldType := fun k => match k with
  | 0 => .int
  | 1 => .int
  | 2 => .array .int
  | 3 => .array .boolean
  | 4 => .array .int
  | 5 => .array .int
  | 6 => .array .boolean
  | 7 => .int
  | 8 => .array .int
  | 9 => .array .int
  | 10 => .int
  | 11 => .array .int
  | 12 => .array .int
  | 13 => .array .int
  | 14 => .int
  | 15 => .array .int
  | 16 => .array .int
  | 17 => .array .int
  | 18 => .array .int
  | 19 => .array .int
  | 20 => .array .byte
  | 21 => .int
  | 22 => .int
  | 23 => .int
  | 24 => .int
  | 25 => .array .int
  | 26 => .array .int
  | 27 => .array .int
  | 28 => .array .int
  | 29 => .array .int
  | 30 => .array .int
  | 31 => .array .int
  | 32 => .array .int
  | 33 => .array .int
  | 34 => .array .int
  | 35 => .array .int
  | 36 => .array .int
  | 37 => .array .int
  | 38 => .array .int
  | 39 => .array .int
  | 40 => .array .int
  | 41 => .int
  | 42 => .int
  | 43 => .int
  | 44 => .int
  | 45 => .int
  | 46 => .array .int
  | 47 => .array .int
  | 48 => .array .int
  | 49 => .array .boolean
  | 50 => .array .int
  | 51 => .int
  | 52 => .int
  | 53 => .int
  | 54 => .int
  | 55 => .boolean
  | _ => .int
abbrev wsX120 : List Cond := u_ws RX12 TX12 57
theorem nmX12 : ∀ a, a < 57 → ∀ b, b < 57 → a ≠ b → (TX12 a).2.1 ≠ (TX12 b).2.1 := by decide +kernel
theorem tyX12_ok : ∀ k, k < 57 → parseFieldDescriptor (TX12 k).2.2.1 = some (tyX12 k) := by decide +kernel
abbrev cX12_init : ByteArray := prog_14_method_1_code
def yX12_init : MethodName := ⟨RX12, "<init>", "()V"⟩
abbrev cX12_in : ByteArray := prog_14_method_2_code
def yX12_in : MethodName := ⟨RX12, "in", "(III)Z"⟩
abbrev cX12_isDay : ByteArray := prog_14_method_3_code
def yX12_isDay : MethodName := ⟨RX12, "isDay", "(I)Z"⟩
abbrev cX12_clock : ByteArray := prog_14_method_4_code
def yX12_clock : MethodName := ⟨RX12, "clock", "(I)Z"⟩
abbrev cX12_child : ByteArray := prog_14_method_5_code
def yX12_child : MethodName := ⟨RX12, "child", "(I)I"⟩
abbrev cX12_home : ByteArray := prog_14_method_6_code
def yX12_home : MethodName := ⟨RX12, "home", "(I)I"⟩
abbrev cX12_isChild : ByteArray := prog_14_method_7_code
def yX12_isChild : MethodName := ⟨RX12, "isChild", "(I)Z"⟩
abbrev cX12_isHome : ByteArray := prog_14_method_8_code
def yX12_isHome : MethodName := ⟨RX12, "isHome", "(I)Z"⟩
abbrev cX12_fact : ByteArray := prog_14_method_9_code
def yX12_fact : MethodName := ⟨RX12, "fact", "(ZIIII)I"⟩
abbrev cX12_valueOf : ByteArray := prog_14_method_10_code
def yX12_valueOf : MethodName := ⟨RX12, "valueOf", "(IIII)I"⟩
abbrev cX12_value : ByteArray := prog_14_method_11_code
def yX12_value : MethodName := ⟨RX12, "value", "(ZIIII)I"⟩
abbrev cX12_paper : ByteArray := prog_14_method_12_code
def yX12_paper : MethodName := ⟨RX12, "paper", "(III)I"⟩
abbrev cX12_until : ByteArray := prog_14_method_13_code
def yX12_until : MethodName := ⟨RX12, "until", "(II)I"⟩
abbrev cX12_close : ByteArray := prog_14_method_14_code
def yX12_close : MethodName := ⟨RX12, "close", "(II)Z"⟩
abbrev cX12_need : ByteArray := prog_14_method_15_code
def yX12_need : MethodName := ⟨RX12, "need", "(IIIZ)Z"⟩
abbrev cX12_ends : ByteArray := prog_14_method_16_code
def yX12_ends : MethodName := ⟨RX12, "ends", "(I)Z"⟩
abbrev cX12_four : ByteArray := prog_14_method_17_code
def yX12_four : MethodName := ⟨RX12, "four", "(I)V"⟩
abbrev cX12_feed : ByteArray := prog_14_method_18_code
def yX12_feed : MethodName := ⟨RX12, "feed", "(IIIII)I"⟩
abbrev cX12_end : ByteArray := prog_14_method_19_code
def yX12_end : MethodName := ⟨RX12, "end", "(I)I"⟩
abbrev cX12_fails : ByteArray := prog_14_method_20_code
def yX12_fails : MethodName := ⟨RX12, "fails", "(II)Z"⟩
abbrev cX12_see : ByteArray := prog_14_method_21_code
def yX12_see : MethodName := ⟨RX12, "see", "()I"⟩
abbrev cX12_isDigit : ByteArray := prog_14_method_22_code
def yX12_isDigit : MethodName := ⟨RX12, "isDigit", "(I)Z"⟩
abbrev cX12_isWordByte : ByteArray := prog_14_method_23_code
def yX12_isWordByte : MethodName := ⟨RX12, "isWordByte", "(I)Z"⟩
abbrev cX12_looks : ByteArray := prog_14_method_24_code
def yX12_looks : MethodName := ⟨RX12, "looks", "()V"⟩
abbrev cX12_isLetters : ByteArray := prog_14_method_25_code
def yX12_isLetters : MethodName := ⟨RX12, "isLetters", "(IIII)Z"⟩
abbrev cX12_isAnd : ByteArray := prog_14_method_26_code
def yX12_isAnd : MethodName := ⟨RX12, "isAnd", "()Z"⟩
abbrev cX12_isNight : ByteArray := prog_14_method_27_code
def yX12_isNight : MethodName := ⟨RX12, "isNight", "()Z"⟩
abbrev cX12_isNumber : ByteArray := prog_14_method_28_code
def yX12_isNumber : MethodName := ⟨RX12, "isNumber", "()Z"⟩
abbrev cX12_numberHere : ByteArray := prog_14_method_29_code
def yX12_numberHere : MethodName := ⟨RX12, "numberHere", "()I"⟩
abbrev cX12_side : ByteArray := prog_14_method_30_code
def yX12_side : MethodName := ⟨RX12, "side", "(Z)Z"⟩
abbrev cX12_rule : ByteArray := prog_14_method_31_code
def yX12_rule : MethodName := ⟨RX12, "rule", "(I)Z"⟩
abbrev cX12_rules : ByteArray := prog_14_method_32_code
def yX12_rules : MethodName := ⟨RX12, "rules", "()I"⟩
abbrev cX12_sideOf : ByteArray := prog_14_method_33_code
def yX12_sideOf : MethodName := ⟨RX12, "sideOf", "(IIIII)I"⟩
abbrev cX12_isSo : ByteArray := prog_14_method_34_code
def yX12_isSo : MethodName := ⟨RX12, "isSo", "(IIII)Z"⟩
abbrev cX12_barOf : ByteArray := prog_14_method_35_code
def yX12_barOf : MethodName := ⟨RX12, "barOf", "(II)I"⟩
abbrev cX12_bars : ByteArray := prog_14_method_36_code
def yX12_bars : MethodName := ⟨RX12, "bars", "(II)I"⟩
abbrev cX12_barred : ByteArray := prog_14_method_37_code
def yX12_barred : MethodName := ⟨RX12, "barred", "(II)I"⟩
abbrev cX12_wishOf : ByteArray := prog_14_method_38_code
def yX12_wishOf : MethodName := ⟨RX12, "wishOf", "(II)I"⟩
abbrev cX12_wish : ByteArray := prog_14_method_39_code
def yX12_wish : MethodName := ⟨RX12, "wish", "(II)I"⟩
abbrev cX12_isLet : ByteArray := prog_14_method_40_code
def yX12_isLet : MethodName := ⟨RX12, "isLet", "(I)Z"⟩
abbrev cX12_parted : ByteArray := prog_14_method_41_code
def yX12_parted : MethodName := ⟨RX12, "parted", "()I"⟩
abbrev cX12_weighs : ByteArray := prog_14_method_42_code
def yX12_weighs : MethodName := ⟨RX12, "weighs", "(IZ)V"⟩
abbrev cX12_place : ByteArray := prog_14_method_43_code
def yX12_place : MethodName := ⟨RX12, "place", "(Z)I"⟩
abbrev cX12_at : ByteArray := prog_14_method_44_code
def yX12_at : MethodName := ⟨RX12, "at", "(I)I"⟩
abbrev cX12_placed : ByteArray := prog_14_method_45_code
def yX12_placed : MethodName := ⟨RX12, "placed", "(I)I"⟩
abbrev cX12_beds : ByteArray := prog_14_method_46_code
def yX12_beds : MethodName := ⟨RX12, "beds", "(II)I"⟩
abbrev cX12_reviewOf : ByteArray := prog_14_method_47_code
def yX12_reviewOf : MethodName := ⟨RX12, "reviewOf", "(II)I"⟩
abbrev cX12_review : ByteArray := prog_14_method_48_code
def yX12_review : MethodName := ⟨RX12, "review", "(II)I"⟩
abbrev cX12_reviews : ByteArray := prog_14_method_49_code
def yX12_reviews : MethodName := ⟨RX12, "reviews", "(I)I"⟩
abbrev cX12_count : ByteArray := prog_14_method_50_code
def yX12_count : MethodName := ⟨RX12, "count", "(I)I"⟩
def RJ6 : String := "java/lang/Integer"
def TJ6 : u_T := fun k => match k with
  | _ => ("", "", "", false)
def tyJ6 : Nat → FieldType := fun k => match k with
  | _ => .int
abbrev wsJ60 : List Cond := u_ws RJ6 TJ6 0
theorem nmJ6 : ∀ a, a < 0 → ∀ b, b < 0 → a ≠ b → (TJ6 a).2.1 ≠ (TJ6 b).2.1 := by decide +kernel
theorem tyJ6_ok : ∀ k, k < 0 → parseFieldDescriptor (TJ6 k).2.2.1 = some (tyJ6 k) := by decide +kernel
abbrev cJ6_bitCount_0f7a4 : ByteArray := prog_15_method_49_code
def yJ6_bitCount_0f7a4 : MethodName := ⟨RJ6, "bitCount", "(I)I"⟩
def RJ9 : String := "java/lang/Math"
def TJ9 : u_T := fun k => match k with
  | _ => ("", "", "", false)
def tyJ9 : Nat → FieldType := fun k => match k with
  | _ => .int
abbrev wsJ90 : List Cond := u_ws RJ9 TJ9 0
theorem nmJ9 : ∀ a, a < 0 → ∀ b, b < 0 → a ≠ b → (TJ9 a).2.1 ≠ (TJ9 b).2.1 := by decide +kernel
theorem tyJ9_ok : ∀ k, k < 0 → parseFieldDescriptor (TJ9 k).2.2.1 = some (tyJ9 k) := by decide +kernel
abbrev cJ9_max_7cf53 : ByteArray := prog_16_method_65_code
def yJ9_max_7cf53 : MethodName := ⟨RJ9, "max", "(II)I"⟩
abbrev cJ9_min_7cf53 : ByteArray := prog_16_method_69_code
def yJ9_min_7cf53 : MethodName := ⟨RJ9, "min", "(II)I"⟩
def RJ0 : String := "java/lang/String"
def TJ0 : u_T := fun k => match k with
  | _ => ("", "", "", false)
def tyJ0 : Nat → FieldType := fun k => match k with
  | _ => .int
abbrev wsJ00 : List Cond := u_ws RJ0 TJ0 0
theorem nmJ0 : ∀ a, a < 0 → ∀ b, b < 0 → a ≠ b → (TJ0 a).2.1 ≠ (TJ0 b).2.1 := by decide +kernel
theorem tyJ0_ok : ∀ k, k < 0 → parseFieldDescriptor (TJ0 k).2.2.1 = some (tyJ0 k) := by decide +kernel
abbrev cJ0_length_8abf5 : ByteArray := prog_17_method_54_code
def yJ0_length_8abf5 : MethodName := ⟨RJ0, "length", "()I"⟩
abbrev cJ0_charAt_5068e : ByteArray := prog_17_method_56_code
def yJ0_charAt_5068e : MethodName := ⟨RJ0, "charAt", "(I)C"⟩
abbrev cJ0_coder_7d493 : ByteArray := prog_17_method_152_code
def yJ0_coder_7d493 : MethodName := ⟨RJ0, "coder", "()B"⟩
abbrev cJ0_isLatin1_aae02 : ByteArray := prog_17_method_154_code
def yJ0_isLatin1_aae02 : MethodName := ⟨RJ0, "isLatin1", "()Z"⟩
abbrev cJ0_checkIndex_df160 : ByteArray := prog_17_method_155_code
def yJ0_checkIndex_df160 : MethodName := ⟨RJ0, "checkIndex", "(II)V"⟩
def RJ1 : String := "java/lang/StringLatin1"
def TJ1 : u_T := fun k => match k with
  | _ => ("", "", "", false)
def tyJ1 : Nat → FieldType := fun k => match k with
  | _ => .int
abbrev wsJ10 : List Cond := u_ws RJ1 TJ1 0
theorem nmJ1 : ∀ a, a < 0 → ∀ b, b < 0 → a ≠ b → (TJ1 a).2.1 ≠ (TJ1 b).2.1 := by decide +kernel
theorem tyJ1_ok : ∀ k, k < 0 → parseFieldDescriptor (TJ1 k).2.2.1 = some (tyJ1 k) := by decide +kernel
abbrev cJ1_charAt_3b067 : ByteArray := prog_18_method_2_code
def yJ1_charAt_3b067 : MethodName := ⟨RJ1, "charAt", "([BI)C"⟩
def RJ2 : String := "java/lang/StringUTF16"
def TJ2 : u_T := fun k => match k with
  | _ => ("", "", "", false)
def tyJ2 : Nat → FieldType := fun k => match k with
  | _ => .int
abbrev wsJ20 : List Cond := u_ws RJ2 TJ2 0
theorem nmJ2 : ∀ a, a < 0 → ∀ b, b < 0 → a ≠ b → (TJ2 a).2.1 ≠ (TJ2 b).2.1 := by decide +kernel
theorem tyJ2_ok : ∀ k, k < 0 → parseFieldDescriptor (TJ2 k).2.2.1 = some (tyJ2 k) := by decide +kernel
abbrev cJ2_getChar_3b067 : ByteArray := prog_19_method_5_code
def yJ2_getChar_3b067 : MethodName := ⟨RJ2, "getChar", "([BI)C"⟩
abbrev cJ2_length_9d52b : ByteArray := prog_19_method_6_code
def yJ2_length_9d52b : MethodName := ⟨RJ2, "length", "([B)I"⟩
abbrev cJ2_charAt_3b067 : ByteArray := prog_19_method_83_code
def yJ2_charAt_3b067 : MethodName := ⟨RJ2, "charAt", "([BI)C"⟩
abbrev cJ2_checkIndex_2214a : ByteArray := prog_19_method_91_code
def yJ2_checkIndex_2214a : MethodName := ⟨RJ2, "checkIndex", "(I[B)V"⟩
def RJ10 : String := "java/lang/System"
def TJ10 : u_T := fun k => match k with
  | _ => ("", "", "", false)
def tyJ10 : Nat → FieldType := fun k => match k with
  | _ => .int
abbrev wsJ100 : List Cond := u_ws RJ10 TJ10 0
theorem nmJ10 : ∀ a, a < 0 → ∀ b, b < 0 → a ≠ b → (TJ10 a).2.1 ≠ (TJ10 b).2.1 := by decide +kernel
theorem tyJ10_ok : ∀ k, k < 0 → parseFieldDescriptor (TJ10 k).2.2.1 = some (tyJ10 k) := by decide +kernel
def RJ7 : String := "java/util/Arrays"
def TJ7 : u_T := fun k => match k with
  | _ => ("", "", "", false)
def tyJ7 : Nat → FieldType := fun k => match k with
  | _ => .int
abbrev wsJ70 : List Cond := u_ws RJ7 TJ7 0
theorem nmJ7 : ∀ a, a < 0 → ∀ b, b < 0 → a ≠ b → (TJ7 a).2.1 ≠ (TJ7 b).2.1 := by decide +kernel
theorem tyJ7_ok : ∀ k, k < 0 → parseFieldDescriptor (TJ7 k).2.2.1 = some (tyJ7 k) := by decide +kernel
abbrev cJ7_fill_53178 : ByteArray := prog_21_method_103_code
def yJ7_fill_53178 : MethodName := ⟨RJ7, "fill", "([II)V"⟩
def RJ3 : String := "jdk/internal/util/Preconditions"
def TJ3 : u_T := fun k => match k with
  | _ => ("", "", "", false)
def tyJ3 : Nat → FieldType := fun k => match k with
  | _ => .int
abbrev wsJ30 : List Cond := u_ws RJ3 TJ3 0
theorem nmJ3 : ∀ a, a < 0 → ∀ b, b < 0 → a ≠ b → (TJ3 a).2.1 ≠ (TJ3 b).2.1 := by decide +kernel
theorem tyJ3_ok : ∀ k, k < 0 → parseFieldDescriptor (TJ3 k).2.2.1 = some (tyJ3 k) := by decide +kernel
abbrev cJ3_checkIndex_8e157 : ByteArray := prog_22_method_11_code
def yJ3_checkIndex_8e157 : MethodName := ⟨RJ3, "checkIndex", "(IILjava/util/function/BiFunction;)I"⟩
def RL : String := "HomeFinderLaw"
abbrev cL_law : ByteArray := code
def yL_law : MethodName := ⟨RL, "law", "([I)Z"⟩
abbrev vwCl : List vw_C := [(RX0, TX0, 6), (RX1, TX1, 6), (RX2, TX2, 3), (RX3, TX3, 7), (RX4, TX4, 4), (RX5, TX5, 15), (RX6, TX6, 2), (RX7, TX7, 7), (RX8, TX8, 5), (RX9, TX9, 4), (RX10, TX10, 2), (RX11, TX11, 11), (RX12, TX12, 57)]
end
section
theorem dX0_init_0 : decode cX0_init 0 = .ok (.aload_n 0, 1) := by decide +kernel
theorem dX0_init_1 : decode cX0_init 1 = .ok (.invokespecial 5, 3) := by decide +kernel
theorem dX0_init_4 : decode cX0_init 4 = .ok (.aload_n 0, 1) := by decide +kernel
theorem dX0_init_5 : decode cX0_init 5 = .ok (.bipush 7, 2) := by decide +kernel
theorem dX0_init_7 : decode cX0_init 7 = .ok (.newarray .int, 2) := by decide +kernel
theorem dX0_init_9 : decode cX0_init 9 = .ok (.putfield 11, 3) := by decide +kernel
theorem dX0_init_12 : decode cX0_init 12 = .ok (.aload_n 0, 1) := by decide +kernel
theorem dX0_init_13 : decode cX0_init 13 = .ok (.bipush 7, 2) := by decide +kernel
theorem dX0_init_15 : decode cX0_init 15 = .ok (.newarray .boolean, 2) := by decide +kernel
theorem dX0_init_17 : decode cX0_init 17 = .ok (.putfield 15, 3) := by decide +kernel
theorem dX0_init_20 : decode cX0_init 20 = .ok (.aload_n 0, 1) := by decide +kernel
theorem dX0_init_21 : decode cX0_init 21 = .ok (.bipush 7, 2) := by decide +kernel
theorem dX0_init_23 : decode cX0_init 23 = .ok (.newarray .int, 2) := by decide +kernel
theorem dX0_init_25 : decode cX0_init 25 = .ok (.putfield 19, 3) := by decide +kernel
theorem dX0_init_28 : decode cX0_init 28 = .ok (.aload_n 0, 1) := by decide +kernel
theorem dX0_init_29 : decode cX0_init 29 = .ok (.bipush 7, 2) := by decide +kernel
theorem dX0_init_31 : decode cX0_init 31 = .ok (.newarray .int, 2) := by decide +kernel
theorem dX0_init_33 : decode cX0_init 33 = .ok (.putfield 22, 3) := by decide +kernel
theorem dX0_init_36 : decode cX0_init 36 = .ok (.aload_n 0, 1) := by decide +kernel
theorem dX0_init_37 : decode cX0_init 37 = .ok (.bipush 7, 2) := by decide +kernel
theorem dX0_init_39 : decode cX0_init 39 = .ok (.newarray .boolean, 2) := by decide +kernel
theorem dX0_init_41 : decode cX0_init 41 = .ok (.putfield 25, 3) := by decide +kernel
theorem dX0_init_44 : decode cX0_init 44 = .ok (.return_, 1) := by decide +kernel
theorem dX0_size_0 : decode cX0_size 0 = .ok (.aload_n 0, 1) := by decide +kernel
theorem dX0_size_1 : decode cX0_size 1 = .ok (.getfield 28, 3) := by decide +kernel
theorem dX0_size_4 : decode cX0_size 4 = .ok (.ireturn, 1) := by decide +kernel
theorem dX0_has_0 : decode cX0_has 0 = .ok (.iload_n 1, 1) := by decide +kernel
theorem dX0_has_1 : decode cX0_has 1 = .ok (.ifCond .lt 15, 3) := by decide +kernel
theorem dX0_has_4 : decode cX0_has 4 = .ok (.iload_n 1, 1) := by decide +kernel
theorem dX0_has_5 : decode cX0_has 5 = .ok (.aload_n 0, 1) := by decide +kernel
theorem dX0_has_6 : decode cX0_has 6 = .ok (.getfield 28, 3) := by decide +kernel
theorem dX0_has_9 : decode cX0_has 9 = .ok (.if_icmp .ge 7, 3) := by decide +kernel
theorem dX0_has_12 : decode cX0_has 12 = .ok (.iconst 1, 1) := by decide +kernel
theorem dX0_has_13 : decode cX0_has 13 = .ok (.goto 4, 3) := by decide +kernel
theorem dX0_has_16 : decode cX0_has 16 = .ok (.iconst 0, 1) := by decide +kernel
theorem dX0_has_17 : decode cX0_has 17 = .ok (.ireturn, 1) := by decide +kernel
theorem dX0_add_0 : decode cX0_add 0 = .ok (.aload_n 0, 1) := by decide +kernel
theorem dX0_add_1 : decode cX0_add 1 = .ok (.getfield 28, 3) := by decide +kernel
theorem dX0_add_4 : decode cX0_add 4 = .ok (.bipush 7, 2) := by decide +kernel
theorem dX0_add_6 : decode cX0_add 6 = .ok (.if_icmp .ge 12, 3) := by decide +kernel
theorem dX0_add_9 : decode cX0_add 9 = .ok (.iload_n 1, 1) := by decide +kernel
theorem dX0_add_10 : decode cX0_add 10 = .ok (.ifCond .lt 8, 3) := by decide +kernel
theorem dX0_add_13 : decode cX0_add 13 = .ok (.iload_n 1, 1) := by decide +kernel
theorem dX0_add_14 : decode cX0_add 14 = .ok (.iconst 3, 1) := by decide +kernel
theorem dX0_add_15 : decode cX0_add 15 = .ok (.if_icmp .le 5, 3) := by decide +kernel
theorem dX0_add_18 : decode cX0_add 18 = .ok (.iconst (-1), 1) := by decide +kernel
theorem dX0_add_19 : decode cX0_add 19 = .ok (.ireturn, 1) := by decide +kernel
theorem dX0_add_20 : decode cX0_add 20 = .ok (.aload_n 0, 1) := by decide +kernel
theorem dX0_add_21 : decode cX0_add 21 = .ok (.getfield 11, 3) := by decide +kernel
theorem dX0_add_24 : decode cX0_add 24 = .ok (.aload_n 0, 1) := by decide +kernel
theorem dX0_add_25 : decode cX0_add 25 = .ok (.getfield 28, 3) := by decide +kernel
theorem dX0_add_28 : decode cX0_add 28 = .ok (.iload_n 1, 1) := by decide +kernel
theorem dX0_add_29 : decode cX0_add 29 = .ok (.iastore, 1) := by decide +kernel
theorem dX0_add_30 : decode cX0_add 30 = .ok (.aload_n 0, 1) := by decide +kernel
theorem dX0_add_31 : decode cX0_add 31 = .ok (.dup, 1) := by decide +kernel
theorem dX0_add_32 : decode cX0_add 32 = .ok (.getfield 28, 3) := by decide +kernel
theorem dX0_add_35 : decode cX0_add 35 = .ok (.iconst 1, 1) := by decide +kernel
theorem dX0_add_36 : decode cX0_add 36 = .ok (.iadd, 1) := by decide +kernel
theorem dX0_add_37 : decode cX0_add 37 = .ok (.putfield 28, 3) := by decide +kernel
theorem dX0_add_40 : decode cX0_add 40 = .ok (.aload_n 0, 1) := by decide +kernel
theorem dX0_add_41 : decode cX0_add 41 = .ok (.getfield 28, 3) := by decide +kernel
theorem dX0_add_44 : decode cX0_add 44 = .ok (.iconst 1, 1) := by decide +kernel
theorem dX0_add_45 : decode cX0_add 45 = .ok (.isub, 1) := by decide +kernel
theorem dX0_add_46 : decode cX0_add 46 = .ok (.ireturn, 1) := by decide +kernel
theorem dX0_groupOf_0 : decode cX0_groupOf 0 = .ok (.aload_n 0, 1) := by decide +kernel
theorem dX0_groupOf_1 : decode cX0_groupOf 1 = .ok (.iload_n 1, 1) := by decide +kernel
theorem dX0_groupOf_2 : decode cX0_groupOf 2 = .ok (.invokevirtual 32, 3) := by decide +kernel
theorem dX0_groupOf_5 : decode cX0_groupOf 5 = .ok (.ifCond .eq 12, 3) := by decide +kernel
theorem dX0_groupOf_8 : decode cX0_groupOf 8 = .ok (.aload_n 0, 1) := by decide +kernel
theorem dX0_groupOf_9 : decode cX0_groupOf 9 = .ok (.getfield 11, 3) := by decide +kernel
theorem dX0_groupOf_12 : decode cX0_groupOf 12 = .ok (.iload_n 1, 1) := by decide +kernel
theorem dX0_groupOf_13 : decode cX0_groupOf 13 = .ok (.iaload, 1) := by decide +kernel
theorem dX0_groupOf_14 : decode cX0_groupOf 14 = .ok (.goto 4, 3) := by decide +kernel
theorem dX0_groupOf_17 : decode cX0_groupOf 17 = .ok (.iconst 0, 1) := by decide +kernel
theorem dX0_groupOf_18 : decode cX0_groupOf 18 = .ok (.ireturn, 1) := by decide +kernel
theorem dX0_setNeed_0 : decode cX0_setNeed 0 = .ok (.aload_n 0, 1) := by decide +kernel
theorem dX0_setNeed_1 : decode cX0_setNeed 1 = .ok (.iload_n 1, 1) := by decide +kernel
theorem dX0_setNeed_2 : decode cX0_setNeed 2 = .ok (.invokevirtual 32, 3) := by decide +kernel
theorem dX0_setNeed_5 : decode cX0_setNeed 5 = .ok (.ifCond .eq 32, 3) := by decide +kernel
theorem dX0_setNeed_8 : decode cX0_setNeed 8 = .ok (.aload_n 0, 1) := by decide +kernel
theorem dX0_setNeed_9 : decode cX0_setNeed 9 = .ok (.getfield 15, 3) := by decide +kernel
theorem dX0_setNeed_12 : decode cX0_setNeed 12 = .ok (.iload_n 1, 1) := by decide +kernel
theorem dX0_setNeed_13 : decode cX0_setNeed 13 = .ok (.iconst 1, 1) := by decide +kernel
theorem dX0_setNeed_14 : decode cX0_setNeed 14 = .ok (.bastore, 1) := by decide +kernel
theorem dX0_setNeed_15 : decode cX0_setNeed 15 = .ok (.aload_n 0, 1) := by decide +kernel
theorem dX0_setNeed_16 : decode cX0_setNeed 16 = .ok (.getfield 19, 3) := by decide +kernel
theorem dX0_setNeed_19 : decode cX0_setNeed 19 = .ok (.iload_n 1, 1) := by decide +kernel
theorem dX0_setNeed_20 : decode cX0_setNeed 20 = .ok (.iload_n 2, 1) := by decide +kernel
theorem dX0_setNeed_21 : decode cX0_setNeed 21 = .ok (.iastore, 1) := by decide +kernel
theorem dX0_setNeed_22 : decode cX0_setNeed 22 = .ok (.aload_n 0, 1) := by decide +kernel
theorem dX0_setNeed_23 : decode cX0_setNeed 23 = .ok (.getfield 22, 3) := by decide +kernel
theorem dX0_setNeed_26 : decode cX0_setNeed 26 = .ok (.iload_n 1, 1) := by decide +kernel
theorem dX0_setNeed_27 : decode cX0_setNeed 27 = .ok (.iload_n 3, 1) := by decide +kernel
theorem dX0_setNeed_28 : decode cX0_setNeed 28 = .ok (.iastore, 1) := by decide +kernel
theorem dX0_setNeed_29 : decode cX0_setNeed 29 = .ok (.aload_n 0, 1) := by decide +kernel
theorem dX0_setNeed_30 : decode cX0_setNeed 30 = .ok (.getfield 25, 3) := by decide +kernel
theorem dX0_setNeed_33 : decode cX0_setNeed 33 = .ok (.iload_n 1, 1) := by decide +kernel
theorem dX0_setNeed_34 : decode cX0_setNeed 34 = .ok (.iload 4, 2) := by decide +kernel
theorem dX0_setNeed_36 : decode cX0_setNeed 36 = .ok (.bastore, 1) := by decide +kernel
theorem dX0_setNeed_37 : decode cX0_setNeed 37 = .ok (.return_, 1) := by decide +kernel
theorem dX0_endNeed_0 : decode cX0_endNeed 0 = .ok (.aload_n 0, 1) := by decide +kernel
theorem dX0_endNeed_1 : decode cX0_endNeed 1 = .ok (.iload_n 1, 1) := by decide +kernel
theorem dX0_endNeed_2 : decode cX0_endNeed 2 = .ok (.invokevirtual 36, 3) := by decide +kernel
theorem dX0_endNeed_5 : decode cX0_endNeed 5 = .ok (.ifCond .ne 5, 3) := by decide +kernel
theorem dX0_endNeed_8 : decode cX0_endNeed 8 = .ok (.iconst 0, 1) := by decide +kernel
theorem dX0_endNeed_9 : decode cX0_endNeed 9 = .ok (.ireturn, 1) := by decide +kernel
theorem dX0_endNeed_10 : decode cX0_endNeed 10 = .ok (.aload_n 0, 1) := by decide +kernel
theorem dX0_endNeed_11 : decode cX0_endNeed 11 = .ok (.getfield 15, 3) := by decide +kernel
theorem dX0_endNeed_14 : decode cX0_endNeed 14 = .ok (.iload_n 1, 1) := by decide +kernel
theorem dX0_endNeed_15 : decode cX0_endNeed 15 = .ok (.iconst 0, 1) := by decide +kernel
theorem dX0_endNeed_16 : decode cX0_endNeed 16 = .ok (.bastore, 1) := by decide +kernel
theorem dX0_endNeed_17 : decode cX0_endNeed 17 = .ok (.iconst 1, 1) := by decide +kernel
theorem dX0_endNeed_18 : decode cX0_endNeed 18 = .ok (.ireturn, 1) := by decide +kernel
theorem dX0_hasNeed_0 : decode cX0_hasNeed 0 = .ok (.aload_n 0, 1) := by decide +kernel
theorem dX0_hasNeed_1 : decode cX0_hasNeed 1 = .ok (.iload_n 1, 1) := by decide +kernel
theorem dX0_hasNeed_2 : decode cX0_hasNeed 2 = .ok (.invokevirtual 32, 3) := by decide +kernel
theorem dX0_hasNeed_5 : decode cX0_hasNeed 5 = .ok (.ifCond .eq 16, 3) := by decide +kernel
theorem dX0_hasNeed_8 : decode cX0_hasNeed 8 = .ok (.aload_n 0, 1) := by decide +kernel
theorem dX0_hasNeed_9 : decode cX0_hasNeed 9 = .ok (.getfield 15, 3) := by decide +kernel
theorem dX0_hasNeed_12 : decode cX0_hasNeed 12 = .ok (.iload_n 1, 1) := by decide +kernel
theorem dX0_hasNeed_13 : decode cX0_hasNeed 13 = .ok (.baload, 1) := by decide +kernel
theorem dX0_hasNeed_14 : decode cX0_hasNeed 14 = .ok (.ifCond .eq 7, 3) := by decide +kernel
theorem dX0_hasNeed_17 : decode cX0_hasNeed 17 = .ok (.iconst 1, 1) := by decide +kernel
theorem dX0_hasNeed_18 : decode cX0_hasNeed 18 = .ok (.goto 4, 3) := by decide +kernel
theorem dX0_hasNeed_21 : decode cX0_hasNeed 21 = .ok (.iconst 0, 1) := by decide +kernel
theorem dX0_hasNeed_22 : decode cX0_hasNeed 22 = .ok (.ireturn, 1) := by decide +kernel
theorem dX0_needsOn_0 : decode cX0_needsOn 0 = .ok (.aload_n 0, 1) := by decide +kernel
theorem dX0_needsOn_1 : decode cX0_needsOn 1 = .ok (.iload_n 1, 1) := by decide +kernel
theorem dX0_needsOn_2 : decode cX0_needsOn 2 = .ok (.invokevirtual 36, 3) := by decide +kernel
theorem dX0_needsOn_5 : decode cX0_needsOn 5 = .ok (.ifCond .eq 27, 3) := by decide +kernel
theorem dX0_needsOn_8 : decode cX0_needsOn 8 = .ok (.aload_n 0, 1) := by decide +kernel
theorem dX0_needsOn_9 : decode cX0_needsOn 9 = .ok (.getfield 19, 3) := by decide +kernel
theorem dX0_needsOn_12 : decode cX0_needsOn 12 = .ok (.iload_n 1, 1) := by decide +kernel
theorem dX0_needsOn_13 : decode cX0_needsOn 13 = .ok (.iaload, 1) := by decide +kernel
theorem dX0_needsOn_14 : decode cX0_needsOn 14 = .ok (.iload_n 2, 1) := by decide +kernel
theorem dX0_needsOn_15 : decode cX0_needsOn 15 = .ok (.if_icmp .gt 17, 3) := by decide +kernel
theorem dX0_needsOn_18 : decode cX0_needsOn 18 = .ok (.iload_n 2, 1) := by decide +kernel
theorem dX0_needsOn_19 : decode cX0_needsOn 19 = .ok (.aload_n 0, 1) := by decide +kernel
theorem dX0_needsOn_20 : decode cX0_needsOn 20 = .ok (.getfield 22, 3) := by decide +kernel
theorem dX0_needsOn_23 : decode cX0_needsOn 23 = .ok (.iload_n 1, 1) := by decide +kernel
theorem dX0_needsOn_24 : decode cX0_needsOn 24 = .ok (.iaload, 1) := by decide +kernel
theorem dX0_needsOn_25 : decode cX0_needsOn 25 = .ok (.if_icmp .gt 7, 3) := by decide +kernel
theorem dX0_needsOn_28 : decode cX0_needsOn 28 = .ok (.iconst 1, 1) := by decide +kernel
theorem dX0_needsOn_29 : decode cX0_needsOn 29 = .ok (.goto 4, 3) := by decide +kernel
theorem dX0_needsOn_32 : decode cX0_needsOn 32 = .ok (.iconst 0, 1) := by decide +kernel
theorem dX0_needsOn_33 : decode cX0_needsOn 33 = .ok (.ireturn, 1) := by decide +kernel
theorem dX0_firstDay_0 : decode cX0_firstDay 0 = .ok (.aload_n 0, 1) := by decide +kernel
theorem dX0_firstDay_1 : decode cX0_firstDay 1 = .ok (.iload_n 1, 1) := by decide +kernel
theorem dX0_firstDay_2 : decode cX0_firstDay 2 = .ok (.invokevirtual 36, 3) := by decide +kernel
theorem dX0_firstDay_5 : decode cX0_firstDay 5 = .ok (.ifCond .eq 12, 3) := by decide +kernel
theorem dX0_firstDay_8 : decode cX0_firstDay 8 = .ok (.aload_n 0, 1) := by decide +kernel
theorem dX0_firstDay_9 : decode cX0_firstDay 9 = .ok (.getfield 19, 3) := by decide +kernel
theorem dX0_firstDay_12 : decode cX0_firstDay 12 = .ok (.iload_n 1, 1) := by decide +kernel
theorem dX0_firstDay_13 : decode cX0_firstDay 13 = .ok (.iaload, 1) := by decide +kernel
theorem dX0_firstDay_14 : decode cX0_firstDay 14 = .ok (.goto 4, 3) := by decide +kernel
theorem dX0_firstDay_17 : decode cX0_firstDay 17 = .ok (.iconst (-1), 1) := by decide +kernel
theorem dX0_firstDay_18 : decode cX0_firstDay 18 = .ok (.ireturn, 1) := by decide +kernel
theorem dX0_lastDay_0 : decode cX0_lastDay 0 = .ok (.aload_n 0, 1) := by decide +kernel
theorem dX0_lastDay_1 : decode cX0_lastDay 1 = .ok (.iload_n 1, 1) := by decide +kernel
theorem dX0_lastDay_2 : decode cX0_lastDay 2 = .ok (.invokevirtual 36, 3) := by decide +kernel
theorem dX0_lastDay_5 : decode cX0_lastDay 5 = .ok (.ifCond .eq 12, 3) := by decide +kernel
theorem dX0_lastDay_8 : decode cX0_lastDay 8 = .ok (.aload_n 0, 1) := by decide +kernel
theorem dX0_lastDay_9 : decode cX0_lastDay 9 = .ok (.getfield 22, 3) := by decide +kernel
theorem dX0_lastDay_12 : decode cX0_lastDay 12 = .ok (.iload_n 1, 1) := by decide +kernel
theorem dX0_lastDay_13 : decode cX0_lastDay 13 = .ok (.iaload, 1) := by decide +kernel
theorem dX0_lastDay_14 : decode cX0_lastDay 14 = .ok (.goto 4, 3) := by decide +kernel
theorem dX0_lastDay_17 : decode cX0_lastDay 17 = .ok (.iconst (-1), 1) := by decide +kernel
theorem dX0_lastDay_18 : decode cX0_lastDay 18 = .ok (.ireturn, 1) := by decide +kernel
theorem dX0_byNight_0 : decode cX0_byNight 0 = .ok (.aload_n 0, 1) := by decide +kernel
theorem dX0_byNight_1 : decode cX0_byNight 1 = .ok (.iload_n 1, 1) := by decide +kernel
theorem dX0_byNight_2 : decode cX0_byNight 2 = .ok (.invokevirtual 36, 3) := by decide +kernel
theorem dX0_byNight_5 : decode cX0_byNight 5 = .ok (.ifCond .eq 16, 3) := by decide +kernel
theorem dX0_byNight_8 : decode cX0_byNight 8 = .ok (.aload_n 0, 1) := by decide +kernel
theorem dX0_byNight_9 : decode cX0_byNight 9 = .ok (.getfield 25, 3) := by decide +kernel
theorem dX0_byNight_12 : decode cX0_byNight 12 = .ok (.iload_n 1, 1) := by decide +kernel
theorem dX0_byNight_13 : decode cX0_byNight 13 = .ok (.baload, 1) := by decide +kernel
theorem dX0_byNight_14 : decode cX0_byNight 14 = .ok (.ifCond .eq 7, 3) := by decide +kernel
theorem dX0_byNight_17 : decode cX0_byNight 17 = .ok (.iconst 1, 1) := by decide +kernel
theorem dX0_byNight_18 : decode cX0_byNight 18 = .ok (.goto 4, 3) := by decide +kernel
theorem dX0_byNight_21 : decode cX0_byNight 21 = .ok (.iconst 0, 1) := by decide +kernel
theorem dX0_byNight_22 : decode cX0_byNight 22 = .ok (.ireturn, 1) := by decide +kernel
theorem dX0_reviewDay_0 : decode cX0_reviewDay 0 = .ok (.aload_n 0, 1) := by decide +kernel
theorem dX0_reviewDay_1 : decode cX0_reviewDay 1 = .ok (.iload_n 1, 1) := by decide +kernel
theorem dX0_reviewDay_2 : decode cX0_reviewDay 2 = .ok (.invokevirtual 36, 3) := by decide +kernel
theorem dX0_reviewDay_5 : decode cX0_reviewDay 5 = .ok (.ifCond .eq 13, 3) := by decide +kernel
theorem dX0_reviewDay_8 : decode cX0_reviewDay 8 = .ok (.iload_n 2, 1) := by decide +kernel
theorem dX0_reviewDay_9 : decode cX0_reviewDay 9 = .ok (.ifCond .lt 9, 3) := by decide +kernel
theorem dX0_reviewDay_12 : decode cX0_reviewDay 12 = .ok (.iload_n 2, 1) := by decide +kernel
theorem dX0_reviewDay_13 : decode cX0_reviewDay 13 = .ok (.bipush 13, 2) := by decide +kernel
theorem dX0_reviewDay_15 : decode cX0_reviewDay 15 = .ok (.if_icmp .lt 5, 3) := by decide +kernel
theorem dX0_reviewDay_18 : decode cX0_reviewDay 18 = .ok (.iconst (-1), 1) := by decide +kernel
theorem dX0_reviewDay_19 : decode cX0_reviewDay 19 = .ok (.ireturn, 1) := by decide +kernel
theorem dX0_reviewDay_20 : decode cX0_reviewDay 20 = .ok (.iload_n 2, 1) := by decide +kernel
theorem dX0_reviewDay_21 : decode cX0_reviewDay 21 = .ok (.ifCond .ne 8, 3) := by decide +kernel
theorem dX0_reviewDay_24 : decode cX0_reviewDay 24 = .ok (.bipush 7, 2) := by decide +kernel
theorem dX0_reviewDay_26 : decode cX0_reviewDay 26 = .ok (.goto 12, 3) := by decide +kernel
theorem dX0_reviewDay_29 : decode cX0_reviewDay 29 = .ok (.bipush 28, 2) := by decide +kernel
theorem dX0_reviewDay_31 : decode cX0_reviewDay 31 = .ok (.bipush 90, 2) := by decide +kernel
theorem dX0_reviewDay_33 : decode cX0_reviewDay 33 = .ok (.iload_n 2, 1) := by decide +kernel
theorem dX0_reviewDay_34 : decode cX0_reviewDay 34 = .ok (.iconst 1, 1) := by decide +kernel
theorem dX0_reviewDay_35 : decode cX0_reviewDay 35 = .ok (.isub, 1) := by decide +kernel
theorem dX0_reviewDay_36 : decode cX0_reviewDay 36 = .ok (.imul, 1) := by decide +kernel
theorem dX0_reviewDay_37 : decode cX0_reviewDay 37 = .ok (.iadd, 1) := by decide +kernel
theorem dX0_reviewDay_38 : decode cX0_reviewDay 38 = .ok (.istore_n 3, 1) := by decide +kernel
theorem dX0_reviewDay_39 : decode cX0_reviewDay 39 = .ok (.aload_n 0, 1) := by decide +kernel
theorem dX0_reviewDay_40 : decode cX0_reviewDay 40 = .ok (.getfield 19, 3) := by decide +kernel
theorem dX0_reviewDay_43 : decode cX0_reviewDay 43 = .ok (.iload_n 1, 1) := by decide +kernel
theorem dX0_reviewDay_44 : decode cX0_reviewDay 44 = .ok (.iaload, 1) := by decide +kernel
theorem dX0_reviewDay_45 : decode cX0_reviewDay 45 = .ok (.iload_n 3, 1) := by decide +kernel
theorem dX0_reviewDay_46 : decode cX0_reviewDay 46 = .ok (.iadd, 1) := by decide +kernel
theorem dX0_reviewDay_47 : decode cX0_reviewDay 47 = .ok (.istore 4, 2) := by decide +kernel
theorem dX0_reviewDay_49 : decode cX0_reviewDay 49 = .ok (.iload 4, 2) := by decide +kernel
theorem dX0_reviewDay_51 : decode cX0_reviewDay 51 = .ok (.aload_n 0, 1) := by decide +kernel
theorem dX0_reviewDay_52 : decode cX0_reviewDay 52 = .ok (.getfield 22, 3) := by decide +kernel
theorem dX0_reviewDay_55 : decode cX0_reviewDay 55 = .ok (.iload_n 1, 1) := by decide +kernel
theorem dX0_reviewDay_56 : decode cX0_reviewDay 56 = .ok (.iaload, 1) := by decide +kernel
theorem dX0_reviewDay_57 : decode cX0_reviewDay 57 = .ok (.if_icmp .gt 8, 3) := by decide +kernel
theorem dX0_reviewDay_60 : decode cX0_reviewDay 60 = .ok (.iload 4, 2) := by decide +kernel
theorem dX0_reviewDay_62 : decode cX0_reviewDay 62 = .ok (.goto 4, 3) := by decide +kernel
theorem dX0_reviewDay_65 : decode cX0_reviewDay 65 = .ok (.iconst (-1), 1) := by decide +kernel
theorem dX0_reviewDay_66 : decode cX0_reviewDay 66 = .ok (.ireturn, 1) := by decide +kernel
theorem dX0_hasReviewOn_0 : decode cX0_hasReviewOn 0 = .ok (.iconst 0, 1) := by decide +kernel
theorem dX0_hasReviewOn_1 : decode cX0_hasReviewOn 1 = .ok (.istore_n 3, 1) := by decide +kernel
theorem dX0_hasReviewOn_2 : decode cX0_hasReviewOn 2 = .ok (.iload_n 3, 1) := by decide +kernel
theorem dX0_hasReviewOn_3 : decode cX0_hasReviewOn 3 = .ok (.bipush 13, 2) := by decide +kernel
theorem dX0_hasReviewOn_5 : decode cX0_hasReviewOn 5 = .ok (.if_icmp .ge 41, 3) := by decide +kernel
theorem dX0_hasReviewOn_8 : decode cX0_hasReviewOn 8 = .ok (.aload_n 0, 1) := by decide +kernel
theorem dX0_hasReviewOn_9 : decode cX0_hasReviewOn 9 = .ok (.iload_n 1, 1) := by decide +kernel
theorem dX0_hasReviewOn_10 : decode cX0_hasReviewOn 10 = .ok (.iload_n 3, 1) := by decide +kernel
theorem dX0_hasReviewOn_11 : decode cX0_hasReviewOn 11 = .ok (.invokevirtual 39, 3) := by decide +kernel
theorem dX0_hasReviewOn_14 : decode cX0_hasReviewOn 14 = .ok (.istore 4, 2) := by decide +kernel
theorem dX0_hasReviewOn_16 : decode cX0_hasReviewOn 16 = .ok (.iload 4, 2) := by decide +kernel
theorem dX0_hasReviewOn_18 : decode cX0_hasReviewOn 18 = .ok (.iconst (-1), 1) := by decide +kernel
theorem dX0_hasReviewOn_19 : decode cX0_hasReviewOn 19 = .ok (.if_icmp .eq 9, 3) := by decide +kernel
theorem dX0_hasReviewOn_22 : decode cX0_hasReviewOn 22 = .ok (.iload 4, 2) := by decide +kernel
theorem dX0_hasReviewOn_24 : decode cX0_hasReviewOn 24 = .ok (.iload_n 2, 1) := by decide +kernel
theorem dX0_hasReviewOn_25 : decode cX0_hasReviewOn 25 = .ok (.if_icmp .ne 15, 3) := by decide +kernel
theorem dX0_hasReviewOn_28 : decode cX0_hasReviewOn 28 = .ok (.iload 4, 2) := by decide +kernel
theorem dX0_hasReviewOn_30 : decode cX0_hasReviewOn 30 = .ok (.iconst (-1), 1) := by decide +kernel
theorem dX0_hasReviewOn_31 : decode cX0_hasReviewOn 31 = .ok (.if_icmp .eq 7, 3) := by decide +kernel
theorem dX0_hasReviewOn_34 : decode cX0_hasReviewOn 34 = .ok (.iconst 1, 1) := by decide +kernel
theorem dX0_hasReviewOn_35 : decode cX0_hasReviewOn 35 = .ok (.goto 4, 3) := by decide +kernel
theorem dX0_hasReviewOn_38 : decode cX0_hasReviewOn 38 = .ok (.iconst 0, 1) := by decide +kernel
theorem dX0_hasReviewOn_39 : decode cX0_hasReviewOn 39 = .ok (.ireturn, 1) := by decide +kernel
theorem dX0_hasReviewOn_40 : decode cX0_hasReviewOn 40 = .ok (.iinc 3 1, 3) := by decide +kernel
theorem dX0_hasReviewOn_43 : decode cX0_hasReviewOn 43 = .ok (.goto (-41), 3) := by decide +kernel
theorem dX0_hasReviewOn_46 : decode cX0_hasReviewOn 46 = .ok (.iconst 0, 1) := by decide +kernel
theorem dX0_hasReviewOn_47 : decode cX0_hasReviewOn 47 = .ok (.ireturn, 1) := by decide +kernel
theorem dX1_init_0 : decode cX1_init 0 = .ok (.aload_n 0, 1) := by decide +kernel
theorem dX1_init_1 : decode cX1_init 1 = .ok (.invokespecial 3, 3) := by decide +kernel
theorem dX1_init_4 : decode cX1_init 4 = .ok (.aload_n 0, 1) := by decide +kernel
theorem dX1_init_5 : decode cX1_init 5 = .ok (.bipush 100, 2) := by decide +kernel
theorem dX1_init_7 : decode cX1_init 7 = .ok (.newarray .int, 2) := by decide +kernel
theorem dX1_init_9 : decode cX1_init 9 = .ok (.putfield 9, 3) := by decide +kernel
theorem dX1_init_12 : decode cX1_init 12 = .ok (.aload_n 0, 1) := by decide +kernel
theorem dX1_init_13 : decode cX1_init 13 = .ok (.bipush 100, 2) := by decide +kernel
theorem dX1_init_15 : decode cX1_init 15 = .ok (.newarray .int, 2) := by decide +kernel
theorem dX1_init_17 : decode cX1_init 17 = .ok (.putfield 15, 3) := by decide +kernel
theorem dX1_init_20 : decode cX1_init 20 = .ok (.aload_n 0, 1) := by decide +kernel
theorem dX1_init_21 : decode cX1_init 21 = .ok (.bipush 100, 2) := by decide +kernel
theorem dX1_init_23 : decode cX1_init 23 = .ok (.newarray .int, 2) := by decide +kernel
theorem dX1_init_25 : decode cX1_init 25 = .ok (.putfield 18, 3) := by decide +kernel
theorem dX1_init_28 : decode cX1_init 28 = .ok (.aload_n 0, 1) := by decide +kernel
theorem dX1_init_29 : decode cX1_init 29 = .ok (.bipush 100, 2) := by decide +kernel
theorem dX1_init_31 : decode cX1_init 31 = .ok (.newarray .int, 2) := by decide +kernel
theorem dX1_init_33 : decode cX1_init 33 = .ok (.putfield 21, 3) := by decide +kernel
theorem dX1_init_36 : decode cX1_init 36 = .ok (.aload_n 0, 1) := by decide +kernel
theorem dX1_init_37 : decode cX1_init 37 = .ok (.bipush 100, 2) := by decide +kernel
theorem dX1_init_39 : decode cX1_init 39 = .ok (.newarray .int, 2) := by decide +kernel
theorem dX1_init_41 : decode cX1_init 41 = .ok (.putfield 24, 3) := by decide +kernel
theorem dX1_init_44 : decode cX1_init 44 = .ok (.return_, 1) := by decide +kernel
theorem dX1_size_0 : decode cX1_size 0 = .ok (.aload_n 0, 1) := by decide +kernel
theorem dX1_size_1 : decode cX1_size 1 = .ok (.getfield 27, 3) := by decide +kernel
theorem dX1_size_4 : decode cX1_size 4 = .ok (.ireturn, 1) := by decide +kernel
theorem dX1_add_0 : decode cX1_add 0 = .ok (.aload_n 0, 1) := by decide +kernel
theorem dX1_add_1 : decode cX1_add 1 = .ok (.getfield 27, 3) := by decide +kernel
theorem dX1_add_4 : decode cX1_add 4 = .ok (.bipush 100, 2) := by decide +kernel
theorem dX1_add_6 : decode cX1_add 6 = .ok (.if_icmp .lt 5, 3) := by decide +kernel
theorem dX1_add_9 : decode cX1_add 9 = .ok (.iconst (-1), 1) := by decide +kernel
theorem dX1_add_10 : decode cX1_add 10 = .ok (.ireturn, 1) := by decide +kernel
theorem dX1_add_11 : decode cX1_add 11 = .ok (.aload_n 0, 1) := by decide +kernel
theorem dX1_add_12 : decode cX1_add 12 = .ok (.getfield 9, 3) := by decide +kernel
theorem dX1_add_15 : decode cX1_add 15 = .ok (.aload_n 0, 1) := by decide +kernel
theorem dX1_add_16 : decode cX1_add 16 = .ok (.getfield 27, 3) := by decide +kernel
theorem dX1_add_19 : decode cX1_add 19 = .ok (.iload_n 1, 1) := by decide +kernel
theorem dX1_add_20 : decode cX1_add 20 = .ok (.iastore, 1) := by decide +kernel
theorem dX1_add_21 : decode cX1_add 21 = .ok (.aload_n 0, 1) := by decide +kernel
theorem dX1_add_22 : decode cX1_add 22 = .ok (.getfield 15, 3) := by decide +kernel
theorem dX1_add_25 : decode cX1_add 25 = .ok (.aload_n 0, 1) := by decide +kernel
theorem dX1_add_26 : decode cX1_add 26 = .ok (.getfield 27, 3) := by decide +kernel
theorem dX1_add_29 : decode cX1_add 29 = .ok (.iload_n 2, 1) := by decide +kernel
theorem dX1_add_30 : decode cX1_add 30 = .ok (.iastore, 1) := by decide +kernel
theorem dX1_add_31 : decode cX1_add 31 = .ok (.aload_n 0, 1) := by decide +kernel
theorem dX1_add_32 : decode cX1_add 32 = .ok (.getfield 18, 3) := by decide +kernel
theorem dX1_add_35 : decode cX1_add 35 = .ok (.aload_n 0, 1) := by decide +kernel
theorem dX1_add_36 : decode cX1_add 36 = .ok (.getfield 27, 3) := by decide +kernel
theorem dX1_add_39 : decode cX1_add 39 = .ok (.iload_n 3, 1) := by decide +kernel
theorem dX1_add_40 : decode cX1_add 40 = .ok (.iastore, 1) := by decide +kernel
theorem dX1_add_41 : decode cX1_add 41 = .ok (.aload_n 0, 1) := by decide +kernel
theorem dX1_add_42 : decode cX1_add 42 = .ok (.getfield 21, 3) := by decide +kernel
theorem dX1_add_45 : decode cX1_add 45 = .ok (.aload_n 0, 1) := by decide +kernel
theorem dX1_add_46 : decode cX1_add 46 = .ok (.getfield 27, 3) := by decide +kernel
theorem dX1_add_49 : decode cX1_add 49 = .ok (.iload 4, 2) := by decide +kernel
theorem dX1_add_51 : decode cX1_add 51 = .ok (.iastore, 1) := by decide +kernel
theorem dX1_add_52 : decode cX1_add 52 = .ok (.aload_n 0, 1) := by decide +kernel
theorem dX1_add_53 : decode cX1_add 53 = .ok (.getfield 24, 3) := by decide +kernel
theorem dX1_add_56 : decode cX1_add 56 = .ok (.aload_n 0, 1) := by decide +kernel
theorem dX1_add_57 : decode cX1_add 57 = .ok (.getfield 27, 3) := by decide +kernel
theorem dX1_add_60 : decode cX1_add 60 = .ok (.iload 5, 2) := by decide +kernel
theorem dX1_add_62 : decode cX1_add 62 = .ok (.iastore, 1) := by decide +kernel
theorem dX1_add_63 : decode cX1_add 63 = .ok (.aload_n 0, 1) := by decide +kernel
theorem dX1_add_64 : decode cX1_add 64 = .ok (.dup, 1) := by decide +kernel
theorem dX1_add_65 : decode cX1_add 65 = .ok (.getfield 27, 3) := by decide +kernel
theorem dX1_add_68 : decode cX1_add 68 = .ok (.iconst 1, 1) := by decide +kernel
theorem dX1_add_69 : decode cX1_add 69 = .ok (.iadd, 1) := by decide +kernel
theorem dX1_add_70 : decode cX1_add 70 = .ok (.putfield 27, 3) := by decide +kernel
theorem dX1_add_73 : decode cX1_add 73 = .ok (.aload_n 0, 1) := by decide +kernel
theorem dX1_add_74 : decode cX1_add 74 = .ok (.getfield 27, 3) := by decide +kernel
theorem dX1_add_77 : decode cX1_add 77 = .ok (.ireturn, 1) := by decide +kernel
theorem dX1_numberOn_0 : decode cX1_numberOn 0 = .ok (.iconst 0, 1) := by decide +kernel
theorem dX1_numberOn_1 : decode cX1_numberOn 1 = .ok (.istore 5, 2) := by decide +kernel
theorem dX1_numberOn_3 : decode cX1_numberOn 3 = .ok (.iconst (-1), 1) := by decide +kernel
theorem dX1_numberOn_4 : decode cX1_numberOn 4 = .ok (.istore 6, 2) := by decide +kernel
theorem dX1_numberOn_6 : decode cX1_numberOn 6 = .ok (.iconst 0, 1) := by decide +kernel
theorem dX1_numberOn_7 : decode cX1_numberOn 7 = .ok (.istore 7, 2) := by decide +kernel
theorem dX1_numberOn_9 : decode cX1_numberOn 9 = .ok (.iload 7, 2) := by decide +kernel
theorem dX1_numberOn_11 : decode cX1_numberOn 11 = .ok (.aload_n 0, 1) := by decide +kernel
theorem dX1_numberOn_12 : decode cX1_numberOn 12 = .ok (.getfield 27, 3) := by decide +kernel
theorem dX1_numberOn_15 : decode cX1_numberOn 15 = .ok (.if_icmp .ge 96, 3) := by decide +kernel
theorem dX1_numberOn_18 : decode cX1_numberOn 18 = .ok (.aload_n 0, 1) := by decide +kernel
theorem dX1_numberOn_19 : decode cX1_numberOn 19 = .ok (.getfield 9, 3) := by decide +kernel
theorem dX1_numberOn_22 : decode cX1_numberOn 22 = .ok (.iload 7, 2) := by decide +kernel
theorem dX1_numberOn_24 : decode cX1_numberOn 24 = .ok (.iaload, 1) := by decide +kernel
theorem dX1_numberOn_25 : decode cX1_numberOn 25 = .ok (.iload_n 1, 1) := by decide +kernel
theorem dX1_numberOn_26 : decode cX1_numberOn 26 = .ok (.if_icmp .ne 30, 3) := by decide +kernel
theorem dX1_numberOn_29 : decode cX1_numberOn 29 = .ok (.aload_n 0, 1) := by decide +kernel
theorem dX1_numberOn_30 : decode cX1_numberOn 30 = .ok (.getfield 15, 3) := by decide +kernel
theorem dX1_numberOn_33 : decode cX1_numberOn 33 = .ok (.iload 7, 2) := by decide +kernel
theorem dX1_numberOn_35 : decode cX1_numberOn 35 = .ok (.iaload, 1) := by decide +kernel
theorem dX1_numberOn_36 : decode cX1_numberOn 36 = .ok (.iload_n 2, 1) := by decide +kernel
theorem dX1_numberOn_37 : decode cX1_numberOn 37 = .ok (.if_icmp .ne 19, 3) := by decide +kernel
theorem dX1_numberOn_40 : decode cX1_numberOn 40 = .ok (.aload_n 0, 1) := by decide +kernel
theorem dX1_numberOn_41 : decode cX1_numberOn 41 = .ok (.getfield 24, 3) := by decide +kernel
theorem dX1_numberOn_44 : decode cX1_numberOn 44 = .ok (.iload 7, 2) := by decide +kernel
theorem dX1_numberOn_46 : decode cX1_numberOn 46 = .ok (.iaload, 1) := by decide +kernel
theorem dX1_numberOn_47 : decode cX1_numberOn 47 = .ok (.iload 4, 2) := by decide +kernel
theorem dX1_numberOn_49 : decode cX1_numberOn 49 = .ok (.if_icmp .gt 7, 3) := by decide +kernel
theorem dX1_numberOn_52 : decode cX1_numberOn 52 = .ok (.iconst 1, 1) := by decide +kernel
theorem dX1_numberOn_53 : decode cX1_numberOn 53 = .ok (.goto 4, 3) := by decide +kernel
theorem dX1_numberOn_56 : decode cX1_numberOn 56 = .ok (.iconst 0, 1) := by decide +kernel
theorem dX1_numberOn_57 : decode cX1_numberOn 57 = .ok (.istore 8, 2) := by decide +kernel
theorem dX1_numberOn_59 : decode cX1_numberOn 59 = .ok (.iload 8, 2) := by decide +kernel
theorem dX1_numberOn_61 : decode cX1_numberOn 61 = .ok (.ifCond .eq 44, 3) := by decide +kernel
theorem dX1_numberOn_64 : decode cX1_numberOn 64 = .ok (.aload_n 0, 1) := by decide +kernel
theorem dX1_numberOn_65 : decode cX1_numberOn 65 = .ok (.getfield 21, 3) := by decide +kernel
theorem dX1_numberOn_68 : decode cX1_numberOn 68 = .ok (.iload 7, 2) := by decide +kernel
theorem dX1_numberOn_70 : decode cX1_numberOn 70 = .ok (.iaload, 1) := by decide +kernel
theorem dX1_numberOn_71 : decode cX1_numberOn 71 = .ok (.iload_n 3, 1) := by decide +kernel
theorem dX1_numberOn_72 : decode cX1_numberOn 72 = .ok (.if_icmp .gt 33, 3) := by decide +kernel
theorem dX1_numberOn_75 : decode cX1_numberOn 75 = .ok (.aload_n 0, 1) := by decide +kernel
theorem dX1_numberOn_76 : decode cX1_numberOn 76 = .ok (.getfield 21, 3) := by decide +kernel
theorem dX1_numberOn_79 : decode cX1_numberOn 79 = .ok (.iload 7, 2) := by decide +kernel
theorem dX1_numberOn_81 : decode cX1_numberOn 81 = .ok (.iaload, 1) := by decide +kernel
theorem dX1_numberOn_82 : decode cX1_numberOn 82 = .ok (.iload 6, 2) := by decide +kernel
theorem dX1_numberOn_84 : decode cX1_numberOn 84 = .ok (.if_icmp .lt 21, 3) := by decide +kernel
theorem dX1_numberOn_87 : decode cX1_numberOn 87 = .ok (.aload_n 0, 1) := by decide +kernel
theorem dX1_numberOn_88 : decode cX1_numberOn 88 = .ok (.getfield 18, 3) := by decide +kernel
theorem dX1_numberOn_91 : decode cX1_numberOn 91 = .ok (.iload 7, 2) := by decide +kernel
theorem dX1_numberOn_93 : decode cX1_numberOn 93 = .ok (.iaload, 1) := by decide +kernel
theorem dX1_numberOn_94 : decode cX1_numberOn 94 = .ok (.istore 5, 2) := by decide +kernel
theorem dX1_numberOn_96 : decode cX1_numberOn 96 = .ok (.aload_n 0, 1) := by decide +kernel
theorem dX1_numberOn_97 : decode cX1_numberOn 97 = .ok (.getfield 21, 3) := by decide +kernel
theorem dX1_numberOn_100 : decode cX1_numberOn 100 = .ok (.iload 7, 2) := by decide +kernel
theorem dX1_numberOn_102 : decode cX1_numberOn 102 = .ok (.iaload, 1) := by decide +kernel
theorem dX1_numberOn_103 : decode cX1_numberOn 103 = .ok (.istore 6, 2) := by decide +kernel
theorem dX1_numberOn_105 : decode cX1_numberOn 105 = .ok (.iinc 7 1, 3) := by decide +kernel
theorem dX1_numberOn_108 : decode cX1_numberOn 108 = .ok (.goto (-99), 3) := by decide +kernel
theorem dX1_numberOn_111 : decode cX1_numberOn 111 = .ok (.iload 5, 2) := by decide +kernel
theorem dX1_numberOn_113 : decode cX1_numberOn 113 = .ok (.ireturn, 1) := by decide +kernel
theorem dX1_layOut_0 : decode cX1_layOut 0 = .ok (.aload_n 1, 1) := by decide +kernel
theorem dX1_layOut_1 : decode cX1_layOut 1 = .ok (.iload 4, 2) := by decide +kernel
theorem dX1_layOut_3 : decode cX1_layOut 3 = .ok (.invokevirtual 31, 3) := by decide +kernel
theorem dX1_layOut_6 : decode cX1_layOut 6 = .ok (.iconst 0, 1) := by decide +kernel
theorem dX1_layOut_7 : decode cX1_layOut 7 = .ok (.istore 6, 2) := by decide +kernel
theorem dX1_layOut_9 : decode cX1_layOut 9 = .ok (.iload 6, 2) := by decide +kernel
theorem dX1_layOut_11 : decode cX1_layOut 11 = .ok (.aload_n 0, 1) := by decide +kernel
theorem dX1_layOut_12 : decode cX1_layOut 12 = .ok (.getfield 27, 3) := by decide +kernel
theorem dX1_layOut_15 : decode cX1_layOut 15 = .ok (.if_icmp .ge 77, 3) := by decide +kernel
theorem dX1_layOut_18 : decode cX1_layOut 18 = .ok (.aload_n 0, 1) := by decide +kernel
theorem dX1_layOut_19 : decode cX1_layOut 19 = .ok (.getfield 9, 3) := by decide +kernel
theorem dX1_layOut_22 : decode cX1_layOut 22 = .ok (.iload 6, 2) := by decide +kernel
theorem dX1_layOut_24 : decode cX1_layOut 24 = .ok (.iaload, 1) := by decide +kernel
theorem dX1_layOut_25 : decode cX1_layOut 25 = .ok (.bipush 8, 2) := by decide +kernel
theorem dX1_layOut_27 : decode cX1_layOut 27 = .ok (.if_icmp .ge 7, 3) := by decide +kernel
theorem dX1_layOut_30 : decode cX1_layOut 30 = .ok (.iload_n 2, 1) := by decide +kernel
theorem dX1_layOut_31 : decode cX1_layOut 31 = .ok (.goto 4, 3) := by decide +kernel
theorem dX1_layOut_34 : decode cX1_layOut 34 = .ok (.iload_n 3, 1) := by decide +kernel
theorem dX1_layOut_35 : decode cX1_layOut 35 = .ok (.istore 7, 2) := by decide +kernel
theorem dX1_layOut_37 : decode cX1_layOut 37 = .ok (.aload_n 0, 1) := by decide +kernel
theorem dX1_layOut_38 : decode cX1_layOut 38 = .ok (.getfield 15, 3) := by decide +kernel
theorem dX1_layOut_41 : decode cX1_layOut 41 = .ok (.iload 6, 2) := by decide +kernel
theorem dX1_layOut_43 : decode cX1_layOut 43 = .ok (.iaload, 1) := by decide +kernel
theorem dX1_layOut_44 : decode cX1_layOut 44 = .ok (.iload 7, 2) := by decide +kernel
theorem dX1_layOut_46 : decode cX1_layOut 46 = .ok (.if_icmp .ne 40, 3) := by decide +kernel
theorem dX1_layOut_49 : decode cX1_layOut 49 = .ok (.aload_n 0, 1) := by decide +kernel
theorem dX1_layOut_50 : decode cX1_layOut 50 = .ok (.getfield 24, 3) := by decide +kernel
theorem dX1_layOut_53 : decode cX1_layOut 53 = .ok (.iload 6, 2) := by decide +kernel
theorem dX1_layOut_55 : decode cX1_layOut 55 = .ok (.iaload, 1) := by decide +kernel
theorem dX1_layOut_56 : decode cX1_layOut 56 = .ok (.iload 5, 2) := by decide +kernel
theorem dX1_layOut_58 : decode cX1_layOut 58 = .ok (.if_icmp .gt 28, 3) := by decide +kernel
theorem dX1_layOut_61 : decode cX1_layOut 61 = .ok (.aload_n 1, 1) := by decide +kernel
theorem dX1_layOut_62 : decode cX1_layOut 62 = .ok (.aload_n 0, 1) := by decide +kernel
theorem dX1_layOut_63 : decode cX1_layOut 63 = .ok (.getfield 9, 3) := by decide +kernel
theorem dX1_layOut_66 : decode cX1_layOut 66 = .ok (.iload 6, 2) := by decide +kernel
theorem dX1_layOut_68 : decode cX1_layOut 68 = .ok (.iaload, 1) := by decide +kernel
theorem dX1_layOut_69 : decode cX1_layOut 69 = .ok (.aload_n 0, 1) := by decide +kernel
theorem dX1_layOut_70 : decode cX1_layOut 70 = .ok (.getfield 18, 3) := by decide +kernel
theorem dX1_layOut_73 : decode cX1_layOut 73 = .ok (.iload 6, 2) := by decide +kernel
theorem dX1_layOut_75 : decode cX1_layOut 75 = .ok (.iaload, 1) := by decide +kernel
theorem dX1_layOut_76 : decode cX1_layOut 76 = .ok (.aload_n 0, 1) := by decide +kernel
theorem dX1_layOut_77 : decode cX1_layOut 77 = .ok (.getfield 21, 3) := by decide +kernel
theorem dX1_layOut_80 : decode cX1_layOut 80 = .ok (.iload 6, 2) := by decide +kernel
theorem dX1_layOut_82 : decode cX1_layOut 82 = .ok (.iaload, 1) := by decide +kernel
theorem dX1_layOut_83 : decode cX1_layOut 83 = .ok (.invokevirtual 37, 3) := by decide +kernel
theorem dX1_layOut_86 : decode cX1_layOut 86 = .ok (.iinc 6 1, 3) := by decide +kernel
theorem dX1_layOut_89 : decode cX1_layOut 89 = .ok (.goto (-80), 3) := by decide +kernel
theorem dX1_layOut_92 : decode cX1_layOut 92 = .ok (.return_, 1) := by decide +kernel
theorem dX2_init_0 : decode cX2_init 0 = .ok (.aload_n 0, 1) := by decide +kernel
theorem dX2_init_1 : decode cX2_init 1 = .ok (.invokespecial 3, 3) := by decide +kernel
theorem dX2_init_4 : decode cX2_init 4 = .ok (.aload_n 0, 1) := by decide +kernel
theorem dX2_init_5 : decode cX2_init 5 = .ok (.iconst 5, 1) := by decide +kernel
theorem dX2_init_6 : decode cX2_init 6 = .ok (.newarray .int, 2) := by decide +kernel
theorem dX2_init_8 : decode cX2_init 8 = .ok (.putfield 9, 3) := by decide +kernel
theorem dX2_init_11 : decode cX2_init 11 = .ok (.aload_n 0, 1) := by decide +kernel
theorem dX2_init_12 : decode cX2_init 12 = .ok (.iconst 5, 1) := by decide +kernel
theorem dX2_init_13 : decode cX2_init 13 = .ok (.newarray .int, 2) := by decide +kernel
theorem dX2_init_15 : decode cX2_init 15 = .ok (.putfield 15, 3) := by decide +kernel
theorem dX2_init_18 : decode cX2_init 18 = .ok (.return_, 1) := by decide +kernel
theorem dX2_size_0 : decode cX2_size 0 = .ok (.aload_n 0, 1) := by decide +kernel
theorem dX2_size_1 : decode cX2_size 1 = .ok (.getfield 18, 3) := by decide +kernel
theorem dX2_size_4 : decode cX2_size 4 = .ok (.ireturn, 1) := by decide +kernel
theorem dX2_has_0 : decode cX2_has 0 = .ok (.iload_n 1, 1) := by decide +kernel
theorem dX2_has_1 : decode cX2_has 1 = .ok (.ifCond .lt 15, 3) := by decide +kernel
theorem dX2_has_4 : decode cX2_has 4 = .ok (.iload_n 1, 1) := by decide +kernel
theorem dX2_has_5 : decode cX2_has 5 = .ok (.aload_n 0, 1) := by decide +kernel
theorem dX2_has_6 : decode cX2_has 6 = .ok (.getfield 18, 3) := by decide +kernel
theorem dX2_has_9 : decode cX2_has 9 = .ok (.if_icmp .ge 7, 3) := by decide +kernel
theorem dX2_has_12 : decode cX2_has 12 = .ok (.iconst 1, 1) := by decide +kernel
theorem dX2_has_13 : decode cX2_has 13 = .ok (.goto 4, 3) := by decide +kernel
theorem dX2_has_16 : decode cX2_has 16 = .ok (.iconst 0, 1) := by decide +kernel
theorem dX2_has_17 : decode cX2_has 17 = .ok (.ireturn, 1) := by decide +kernel
theorem dX2_add_0 : decode cX2_add 0 = .ok (.aload_n 0, 1) := by decide +kernel
theorem dX2_add_1 : decode cX2_add 1 = .ok (.getfield 18, 3) := by decide +kernel
theorem dX2_add_4 : decode cX2_add 4 = .ok (.iconst 5, 1) := by decide +kernel
theorem dX2_add_5 : decode cX2_add 5 = .ok (.if_icmp .ge 14, 3) := by decide +kernel
theorem dX2_add_8 : decode cX2_add 8 = .ok (.iload_n 1, 1) := by decide +kernel
theorem dX2_add_9 : decode cX2_add 9 = .ok (.iconst 1, 1) := by decide +kernel
theorem dX2_add_10 : decode cX2_add 10 = .ok (.if_icmp .lt 9, 3) := by decide +kernel
theorem dX2_add_13 : decode cX2_add 13 = .ok (.iload_n 1, 1) := by decide +kernel
theorem dX2_add_14 : decode cX2_add 14 = .ok (.bipush 6, 2) := by decide +kernel
theorem dX2_add_16 : decode cX2_add 16 = .ok (.if_icmp .le 5, 3) := by decide +kernel
theorem dX2_add_19 : decode cX2_add 19 = .ok (.iconst (-1), 1) := by decide +kernel
theorem dX2_add_20 : decode cX2_add 20 = .ok (.ireturn, 1) := by decide +kernel
theorem dX2_add_21 : decode cX2_add 21 = .ok (.aload_n 0, 1) := by decide +kernel
theorem dX2_add_22 : decode cX2_add 22 = .ok (.getfield 9, 3) := by decide +kernel
theorem dX2_add_25 : decode cX2_add 25 = .ok (.aload_n 0, 1) := by decide +kernel
theorem dX2_add_26 : decode cX2_add 26 = .ok (.getfield 18, 3) := by decide +kernel
theorem dX2_add_29 : decode cX2_add 29 = .ok (.iload_n 1, 1) := by decide +kernel
theorem dX2_add_30 : decode cX2_add 30 = .ok (.iastore, 1) := by decide +kernel
theorem dX2_add_31 : decode cX2_add 31 = .ok (.aload_n 0, 1) := by decide +kernel
theorem dX2_add_32 : decode cX2_add 32 = .ok (.getfield 15, 3) := by decide +kernel
theorem dX2_add_35 : decode cX2_add 35 = .ok (.aload_n 0, 1) := by decide +kernel
theorem dX2_add_36 : decode cX2_add 36 = .ok (.getfield 18, 3) := by decide +kernel
theorem dX2_add_39 : decode cX2_add 39 = .ok (.iconst (-1), 1) := by decide +kernel
theorem dX2_add_40 : decode cX2_add 40 = .ok (.iastore, 1) := by decide +kernel
theorem dX2_add_41 : decode cX2_add 41 = .ok (.aload_n 0, 1) := by decide +kernel
theorem dX2_add_42 : decode cX2_add 42 = .ok (.dup, 1) := by decide +kernel
theorem dX2_add_43 : decode cX2_add 43 = .ok (.getfield 18, 3) := by decide +kernel
theorem dX2_add_46 : decode cX2_add 46 = .ok (.iconst 1, 1) := by decide +kernel
theorem dX2_add_47 : decode cX2_add 47 = .ok (.iadd, 1) := by decide +kernel
theorem dX2_add_48 : decode cX2_add 48 = .ok (.putfield 18, 3) := by decide +kernel
theorem dX2_add_51 : decode cX2_add 51 = .ok (.aload_n 0, 1) := by decide +kernel
theorem dX2_add_52 : decode cX2_add 52 = .ok (.getfield 18, 3) := by decide +kernel
theorem dX2_add_55 : decode cX2_add 55 = .ok (.iconst 1, 1) := by decide +kernel
theorem dX2_add_56 : decode cX2_add 56 = .ok (.isub, 1) := by decide +kernel
theorem dX2_add_57 : decode cX2_add 57 = .ok (.ireturn, 1) := by decide +kernel
theorem dX2_bedsOf_0 : decode cX2_bedsOf 0 = .ok (.aload_n 0, 1) := by decide +kernel
theorem dX2_bedsOf_1 : decode cX2_bedsOf 1 = .ok (.iload_n 1, 1) := by decide +kernel
theorem dX2_bedsOf_2 : decode cX2_bedsOf 2 = .ok (.invokevirtual 22, 3) := by decide +kernel
theorem dX2_bedsOf_5 : decode cX2_bedsOf 5 = .ok (.ifCond .eq 12, 3) := by decide +kernel
theorem dX2_bedsOf_8 : decode cX2_bedsOf 8 = .ok (.aload_n 0, 1) := by decide +kernel
theorem dX2_bedsOf_9 : decode cX2_bedsOf 9 = .ok (.getfield 9, 3) := by decide +kernel
theorem dX2_bedsOf_12 : decode cX2_bedsOf 12 = .ok (.iload_n 1, 1) := by decide +kernel
theorem dX2_bedsOf_13 : decode cX2_bedsOf 13 = .ok (.iaload, 1) := by decide +kernel
theorem dX2_bedsOf_14 : decode cX2_bedsOf 14 = .ok (.goto 4, 3) := by decide +kernel
theorem dX2_bedsOf_17 : decode cX2_bedsOf 17 = .ok (.iconst 0, 1) := by decide +kernel
theorem dX2_bedsOf_18 : decode cX2_bedsOf 18 = .ok (.ireturn, 1) := by decide +kernel
theorem dX2_closeFrom_0 : decode cX2_closeFrom 0 = .ok (.aload_n 0, 1) := by decide +kernel
theorem dX2_closeFrom_1 : decode cX2_closeFrom 1 = .ok (.iload_n 1, 1) := by decide +kernel
theorem dX2_closeFrom_2 : decode cX2_closeFrom 2 = .ok (.invokevirtual 22, 3) := by decide +kernel
theorem dX2_closeFrom_5 : decode cX2_closeFrom 5 = .ok (.ifCond .eq 10, 3) := by decide +kernel
theorem dX2_closeFrom_8 : decode cX2_closeFrom 8 = .ok (.aload_n 0, 1) := by decide +kernel
theorem dX2_closeFrom_9 : decode cX2_closeFrom 9 = .ok (.getfield 15, 3) := by decide +kernel
theorem dX2_closeFrom_12 : decode cX2_closeFrom 12 = .ok (.iload_n 1, 1) := by decide +kernel
theorem dX2_closeFrom_13 : decode cX2_closeFrom 13 = .ok (.iload_n 2, 1) := by decide +kernel
theorem dX2_closeFrom_14 : decode cX2_closeFrom 14 = .ok (.iastore, 1) := by decide +kernel
theorem dX2_closeFrom_15 : decode cX2_closeFrom 15 = .ok (.return_, 1) := by decide +kernel
theorem dX2_closingOf_0 : decode cX2_closingOf 0 = .ok (.aload_n 0, 1) := by decide +kernel
theorem dX2_closingOf_1 : decode cX2_closingOf 1 = .ok (.iload_n 1, 1) := by decide +kernel
theorem dX2_closingOf_2 : decode cX2_closingOf 2 = .ok (.invokevirtual 22, 3) := by decide +kernel
theorem dX2_closingOf_5 : decode cX2_closingOf 5 = .ok (.ifCond .eq 22, 3) := by decide +kernel
theorem dX2_closingOf_8 : decode cX2_closingOf 8 = .ok (.aload_n 0, 1) := by decide +kernel
theorem dX2_closingOf_9 : decode cX2_closingOf 9 = .ok (.getfield 15, 3) := by decide +kernel
theorem dX2_closingOf_12 : decode cX2_closingOf 12 = .ok (.iload_n 1, 1) := by decide +kernel
theorem dX2_closingOf_13 : decode cX2_closingOf 13 = .ok (.iaload, 1) := by decide +kernel
theorem dX2_closingOf_14 : decode cX2_closingOf 14 = .ok (.iconst (-1), 1) := by decide +kernel
theorem dX2_closingOf_15 : decode cX2_closingOf 15 = .ok (.if_icmp .eq 12, 3) := by decide +kernel
theorem dX2_closingOf_18 : decode cX2_closingOf 18 = .ok (.aload_n 0, 1) := by decide +kernel
theorem dX2_closingOf_19 : decode cX2_closingOf 19 = .ok (.getfield 15, 3) := by decide +kernel
theorem dX2_closingOf_22 : decode cX2_closingOf 22 = .ok (.iload_n 1, 1) := by decide +kernel
theorem dX2_closingOf_23 : decode cX2_closingOf 23 = .ok (.iaload, 1) := by decide +kernel
theorem dX2_closingOf_24 : decode cX2_closingOf 24 = .ok (.goto 6, 3) := by decide +kernel
theorem dX2_closingOf_27 : decode cX2_closingOf 27 = .ok (.sipush 1000, 3) := by decide +kernel
theorem dX2_closingOf_30 : decode cX2_closingOf 30 = .ok (.ireturn, 1) := by decide +kernel
theorem dX3_init_0 : decode cX3_init 0 = .ok (.aload_n 0, 1) := by decide +kernel
theorem dX3_init_1 : decode cX3_init 1 = .ok (.invokespecial 3, 3) := by decide +kernel
theorem dX3_init_4 : decode cX3_init 4 = .ok (.aload_n 0, 1) := by decide +kernel
theorem dX3_init_5 : decode cX3_init 5 = .ok (.new 9, 3) := by decide +kernel
theorem dX3_init_8 : decode cX3_init 8 = .ok (.dup, 1) := by decide +kernel
theorem dX3_init_9 : decode cX3_init 9 = .ok (.invokespecial 11, 3) := by decide +kernel
theorem dX3_init_12 : decode cX3_init 12 = .ok (.putfield 12, 3) := by decide +kernel
theorem dX3_init_15 : decode cX3_init 15 = .ok (.aload_n 0, 1) := by decide +kernel
theorem dX3_init_16 : decode cX3_init 16 = .ok (.iconst (-1), 1) := by decide +kernel
theorem dX3_init_17 : decode cX3_init 17 = .ok (.putfield 18, 3) := by decide +kernel
theorem dX3_init_20 : decode cX3_init 20 = .ok (.aload_n 0, 1) := by decide +kernel
theorem dX3_init_21 : decode cX3_init 21 = .ok (.aload_n 1, 1) := by decide +kernel
theorem dX3_init_22 : decode cX3_init 22 = .ok (.putfield 22, 3) := by decide +kernel
theorem dX3_init_25 : decode cX3_init 25 = .ok (.aload_n 0, 1) := by decide +kernel
theorem dX3_init_26 : decode cX3_init 26 = .ok (.aload_n 2, 1) := by decide +kernel
theorem dX3_init_27 : decode cX3_init 27 = .ok (.putfield 26, 3) := by decide +kernel
theorem dX3_init_30 : decode cX3_init 30 = .ok (.aload_n 0, 1) := by decide +kernel
theorem dX3_init_31 : decode cX3_init 31 = .ok (.aload_n 3, 1) := by decide +kernel
theorem dX3_init_32 : decode cX3_init 32 = .ok (.putfield 30, 3) := by decide +kernel
theorem dX3_init_35 : decode cX3_init 35 = .ok (.aload_n 0, 1) := by decide +kernel
theorem dX3_init_36 : decode cX3_init 36 = .ok (.aload 4, 2) := by decide +kernel
theorem dX3_init_38 : decode cX3_init 38 = .ok (.putfield 34, 3) := by decide +kernel
theorem dX3_init_41 : decode cX3_init 41 = .ok (.aload_n 0, 1) := by decide +kernel
theorem dX3_init_42 : decode cX3_init 42 = .ok (.aload 5, 2) := by decide +kernel
theorem dX3_init_44 : decode cX3_init 44 = .ok (.putfield 38, 3) := by decide +kernel
theorem dX3_init_47 : decode cX3_init 47 = .ok (.return_, 1) := by decide +kernel
theorem dX3_barDay_0 : decode cX3_barDay 0 = .ok (.aload_n 0, 1) := by decide +kernel
theorem dX3_barDay_1 : decode cX3_barDay 1 = .ok (.getfield 18, 3) := by decide +kernel
theorem dX3_barDay_4 : decode cX3_barDay 4 = .ok (.ireturn, 1) := by decide +kernel
theorem dX3_findBar_0 : decode cX3_findBar 0 = .ok (.aload_n 0, 1) := by decide +kernel
theorem dX3_findBar_1 : decode cX3_findBar 1 = .ok (.iconst (-1), 1) := by decide +kernel
theorem dX3_findBar_2 : decode cX3_findBar 2 = .ok (.putfield 18, 3) := by decide +kernel
theorem dX3_findBar_5 : decode cX3_findBar 5 = .ok (.aload_n 0, 1) := by decide +kernel
theorem dX3_findBar_6 : decode cX3_findBar 6 = .ok (.getfield 22, 3) := by decide +kernel
theorem dX3_findBar_9 : decode cX3_findBar 9 = .ok (.iload_n 1, 1) := by decide +kernel
theorem dX3_findBar_10 : decode cX3_findBar 10 = .ok (.invokevirtual 42, 3) := by decide +kernel
theorem dX3_findBar_13 : decode cX3_findBar 13 = .ok (.ifCond .eq 14, 3) := by decide +kernel
theorem dX3_findBar_16 : decode cX3_findBar 16 = .ok (.aload_n 0, 1) := by decide +kernel
theorem dX3_findBar_17 : decode cX3_findBar 17 = .ok (.getfield 26, 3) := by decide +kernel
theorem dX3_findBar_20 : decode cX3_findBar 20 = .ok (.iload_n 2, 1) := by decide +kernel
theorem dX3_findBar_21 : decode cX3_findBar 21 = .ok (.invokevirtual 48, 3) := by decide +kernel
theorem dX3_findBar_24 : decode cX3_findBar 24 = .ok (.ifCond .ne 5, 3) := by decide +kernel
theorem dX3_findBar_27 : decode cX3_findBar 27 = .ok (.iconst (-1), 1) := by decide +kernel
theorem dX3_findBar_28 : decode cX3_findBar 28 = .ok (.ireturn, 1) := by decide +kernel
theorem dX3_findBar_29 : decode cX3_findBar 29 = .ok (.aload_n 0, 1) := by decide +kernel
theorem dX3_findBar_30 : decode cX3_findBar 30 = .ok (.getfield 22, 3) := by decide +kernel
theorem dX3_findBar_33 : decode cX3_findBar 33 = .ok (.iload_n 1, 1) := by decide +kernel
theorem dX3_findBar_34 : decode cX3_findBar 34 = .ok (.invokevirtual 53, 3) := by decide +kernel
theorem dX3_findBar_37 : decode cX3_findBar 37 = .ok (.istore 4, 2) := by decide +kernel
theorem dX3_findBar_39 : decode cX3_findBar 39 = .ok (.aload_n 0, 1) := by decide +kernel
theorem dX3_findBar_40 : decode cX3_findBar 40 = .ok (.getfield 22, 3) := by decide +kernel
theorem dX3_findBar_43 : decode cX3_findBar 43 = .ok (.iload_n 1, 1) := by decide +kernel
theorem dX3_findBar_44 : decode cX3_findBar 44 = .ok (.invokevirtual 57, 3) := by decide +kernel
theorem dX3_findBar_47 : decode cX3_findBar 47 = .ok (.istore 5, 2) := by decide +kernel
theorem dX3_findBar_49 : decode cX3_findBar 49 = .ok (.iload 5, 2) := by decide +kernel
theorem dX3_findBar_51 : decode cX3_findBar 51 = .ok (.istore 6, 2) := by decide +kernel
theorem dX3_findBar_53 : decode cX3_findBar 53 = .ok (.iload 6, 2) := by decide +kernel
theorem dX3_findBar_55 : decode cX3_findBar 55 = .ok (.iload 4, 2) := by decide +kernel
theorem dX3_findBar_57 : decode cX3_findBar 57 = .ok (.if_icmp .gt 50, 3) := by decide +kernel
theorem dX3_findBar_60 : decode cX3_findBar 60 = .ok (.iload 6, 2) := by decide +kernel
theorem dX3_findBar_62 : decode cX3_findBar 62 = .ok (.iload 5, 2) := by decide +kernel
theorem dX3_findBar_64 : decode cX3_findBar 64 = .ok (.if_icmp .ne 37, 3) := by decide +kernel
theorem dX3_findBar_67 : decode cX3_findBar 67 = .ok (.aload_n 0, 1) := by decide +kernel
theorem dX3_findBar_68 : decode cX3_findBar 68 = .ok (.iload_n 1, 1) := by decide +kernel
theorem dX3_findBar_69 : decode cX3_findBar 69 = .ok (.iload_n 2, 1) := by decide +kernel
theorem dX3_findBar_70 : decode cX3_findBar 70 = .ok (.iload 6, 2) := by decide +kernel
theorem dX3_findBar_72 : decode cX3_findBar 72 = .ok (.iload_n 3, 1) := by decide +kernel
theorem dX3_findBar_73 : decode cX3_findBar 73 = .ok (.invokevirtual 60, 3) := by decide +kernel
theorem dX3_findBar_76 : decode cX3_findBar 76 = .ok (.istore 7, 2) := by decide +kernel
theorem dX3_findBar_78 : decode cX3_findBar 78 = .ok (.iload 7, 2) := by decide +kernel
theorem dX3_findBar_80 : decode cX3_findBar 80 = .ok (.ifCond .eq 12, 3) := by decide +kernel
theorem dX3_findBar_83 : decode cX3_findBar 83 = .ok (.aload_n 0, 1) := by decide +kernel
theorem dX3_findBar_84 : decode cX3_findBar 84 = .ok (.iload 6, 2) := by decide +kernel
theorem dX3_findBar_86 : decode cX3_findBar 86 = .ok (.putfield 18, 3) := by decide +kernel
theorem dX3_findBar_89 : decode cX3_findBar 89 = .ok (.iload 7, 2) := by decide +kernel
theorem dX3_findBar_91 : decode cX3_findBar 91 = .ok (.ireturn, 1) := by decide +kernel
theorem dX3_findBar_92 : decode cX3_findBar 92 = .ok (.aload_n 0, 1) := by decide +kernel
theorem dX3_findBar_93 : decode cX3_findBar 93 = .ok (.iload_n 2, 1) := by decide +kernel
theorem dX3_findBar_94 : decode cX3_findBar 94 = .ok (.iload 6, 2) := by decide +kernel
theorem dX3_findBar_96 : decode cX3_findBar 96 = .ok (.invokevirtual 64, 3) := by decide +kernel
theorem dX3_findBar_99 : decode cX3_findBar 99 = .ok (.istore 5, 2) := by decide +kernel
theorem dX3_findBar_101 : decode cX3_findBar 101 = .ok (.iinc 6 1, 3) := by decide +kernel
theorem dX3_findBar_104 : decode cX3_findBar 104 = .ok (.goto (-51), 3) := by decide +kernel
theorem dX3_findBar_107 : decode cX3_findBar 107 = .ok (.iconst 0, 1) := by decide +kernel
theorem dX3_findBar_108 : decode cX3_findBar 108 = .ok (.ireturn, 1) := by decide +kernel
theorem dX3_barOn_0 : decode cX3_barOn 0 = .ok (.aload_n 0, 1) := by decide +kernel
theorem dX3_barOn_1 : decode cX3_barOn 1 = .ok (.getfield 26, 3) := by decide +kernel
theorem dX3_barOn_4 : decode cX3_barOn 4 = .ok (.iload_n 2, 1) := by decide +kernel
theorem dX3_barOn_5 : decode cX3_barOn 5 = .ok (.invokevirtual 68, 3) := by decide +kernel
theorem dX3_barOn_8 : decode cX3_barOn 8 = .ok (.iload_n 3, 1) := by decide +kernel
theorem dX3_barOn_9 : decode cX3_barOn 9 = .ok (.if_icmp .gt 5, 3) := by decide +kernel
theorem dX3_barOn_12 : decode cX3_barOn 12 = .ok (.iconst 1, 1) := by decide +kernel
theorem dX3_barOn_13 : decode cX3_barOn 13 = .ok (.ireturn, 1) := by decide +kernel
theorem dX3_barOn_14 : decode cX3_barOn 14 = .ok (.aload_n 0, 1) := by decide +kernel
theorem dX3_barOn_15 : decode cX3_barOn 15 = .ok (.getfield 30, 3) := by decide +kernel
theorem dX3_barOn_18 : decode cX3_barOn 18 = .ok (.iload_n 2, 1) := by decide +kernel
theorem dX3_barOn_19 : decode cX3_barOn 19 = .ok (.iload_n 3, 1) := by decide +kernel
theorem dX3_barOn_20 : decode cX3_barOn 20 = .ok (.invokevirtual 71, 3) := by decide +kernel
theorem dX3_barOn_23 : decode cX3_barOn 23 = .ok (.iconst (-1), 1) := by decide +kernel
theorem dX3_barOn_24 : decode cX3_barOn 24 = .ok (.if_icmp .ne 5, 3) := by decide +kernel
theorem dX3_barOn_27 : decode cX3_barOn 27 = .ok (.iconst 2, 1) := by decide +kernel
theorem dX3_barOn_28 : decode cX3_barOn 28 = .ok (.ireturn, 1) := by decide +kernel
theorem dX3_barOn_29 : decode cX3_barOn 29 = .ok (.aload_n 0, 1) := by decide +kernel
theorem dX3_barOn_30 : decode cX3_barOn 30 = .ok (.getfield 34, 3) := by decide +kernel
theorem dX3_barOn_33 : decode cX3_barOn 33 = .ok (.aload_n 0, 1) := by decide +kernel
theorem dX3_barOn_34 : decode cX3_barOn 34 = .ok (.getfield 12, 3) := by decide +kernel
theorem dX3_barOn_37 : decode cX3_barOn 37 = .ok (.iload_n 1, 1) := by decide +kernel
theorem dX3_barOn_38 : decode cX3_barOn 38 = .ok (.iload_n 2, 1) := by decide +kernel
theorem dX3_barOn_39 : decode cX3_barOn 39 = .ok (.iload_n 3, 1) := by decide +kernel
theorem dX3_barOn_40 : decode cX3_barOn 40 = .ok (.iload 4, 2) := by decide +kernel
theorem dX3_barOn_42 : decode cX3_barOn 42 = .ok (.invokevirtual 76, 3) := by decide +kernel
theorem dX3_barOn_45 : decode cX3_barOn 45 = .ok (.aload_n 0, 1) := by decide +kernel
theorem dX3_barOn_46 : decode cX3_barOn 46 = .ok (.getfield 22, 3) := by decide +kernel
theorem dX3_barOn_49 : decode cX3_barOn 49 = .ok (.iload_n 1, 1) := by decide +kernel
theorem dX3_barOn_50 : decode cX3_barOn 50 = .ok (.invokevirtual 82, 3) := by decide +kernel
theorem dX3_barOn_53 : decode cX3_barOn 53 = .ok (.ifCond .eq 7, 3) := by decide +kernel
theorem dX3_barOn_56 : decode cX3_barOn 56 = .ok (.iconst 1, 1) := by decide +kernel
theorem dX3_barOn_57 : decode cX3_barOn 57 = .ok (.goto 4, 3) := by decide +kernel
theorem dX3_barOn_60 : decode cX3_barOn 60 = .ok (.iconst 0, 1) := by decide +kernel
theorem dX3_barOn_61 : decode cX3_barOn 61 = .ok (.istore 5, 2) := by decide +kernel
theorem dX3_barOn_63 : decode cX3_barOn 63 = .ok (.aload_n 0, 1) := by decide +kernel
theorem dX3_barOn_64 : decode cX3_barOn 64 = .ok (.getfield 38, 3) := by decide +kernel
theorem dX3_barOn_67 : decode cX3_barOn 67 = .ok (.iload 5, 2) := by decide +kernel
theorem dX3_barOn_69 : decode cX3_barOn 69 = .ok (.aload_n 0, 1) := by decide +kernel
theorem dX3_barOn_70 : decode cX3_barOn 70 = .ok (.getfield 12, 3) := by decide +kernel
theorem dX3_barOn_73 : decode cX3_barOn 73 = .ok (.invokevirtual 87, 3) := by decide +kernel
theorem dX3_barOn_76 : decode cX3_barOn 76 = .ok (.istore 6, 2) := by decide +kernel
theorem dX3_barOn_78 : decode cX3_barOn 78 = .ok (.iload 6, 2) := by decide +kernel
theorem dX3_barOn_80 : decode cX3_barOn 80 = .ok (.iconst (-1), 1) := by decide +kernel
theorem dX3_barOn_81 : decode cX3_barOn 81 = .ok (.if_icmp .ne 7, 3) := by decide +kernel
theorem dX3_barOn_84 : decode cX3_barOn 84 = .ok (.iconst 0, 1) := by decide +kernel
theorem dX3_barOn_85 : decode cX3_barOn 85 = .ok (.goto 8, 3) := by decide +kernel
theorem dX3_barOn_88 : decode cX3_barOn 88 = .ok (.bipush 10, 2) := by decide +kernel
theorem dX3_barOn_90 : decode cX3_barOn 90 = .ok (.iload 6, 2) := by decide +kernel
theorem dX3_barOn_92 : decode cX3_barOn 92 = .ok (.iadd, 1) := by decide +kernel
theorem dX3_barOn_93 : decode cX3_barOn 93 = .ok (.ireturn, 1) := by decide +kernel
theorem dX3_turnBehind_0 : decode cX3_turnBehind 0 = .ok (.aload_n 0, 1) := by decide +kernel
theorem dX3_turnBehind_1 : decode cX3_turnBehind 1 = .ok (.getfield 26, 3) := by decide +kernel
theorem dX3_turnBehind_4 : decode cX3_turnBehind 4 = .ok (.iload_n 1, 1) := by decide +kernel
theorem dX3_turnBehind_5 : decode cX3_turnBehind 5 = .ok (.invokevirtual 68, 3) := by decide +kernel
theorem dX3_turnBehind_8 : decode cX3_turnBehind 8 = .ok (.aload_n 0, 1) := by decide +kernel
theorem dX3_turnBehind_9 : decode cX3_turnBehind 9 = .ok (.getfield 30, 3) := by decide +kernel
theorem dX3_turnBehind_12 : decode cX3_turnBehind 12 = .ok (.iload_n 1, 1) := by decide +kernel
theorem dX3_turnBehind_13 : decode cX3_turnBehind 13 = .ok (.iload_n 2, 1) := by decide +kernel
theorem dX3_turnBehind_14 : decode cX3_turnBehind 14 = .ok (.invokevirtual 71, 3) := by decide +kernel
theorem dX3_turnBehind_17 : decode cX3_turnBehind 17 = .ok (.iconst 1, 1) := by decide +kernel
theorem dX3_turnBehind_18 : decode cX3_turnBehind 18 = .ok (.iadd, 1) := by decide +kernel
theorem dX3_turnBehind_19 : decode cX3_turnBehind 19 = .ok (.invokestatic 91, 3) := by decide +kernel
theorem dX3_turnBehind_22 : decode cX3_turnBehind 22 = .ok (.istore_n 3, 1) := by decide +kernel
theorem dX3_turnBehind_23 : decode cX3_turnBehind 23 = .ok (.iload_n 3, 1) := by decide +kernel
theorem dX3_turnBehind_24 : decode cX3_turnBehind 24 = .ok (.aload_n 0, 1) := by decide +kernel
theorem dX3_turnBehind_25 : decode cX3_turnBehind 25 = .ok (.getfield 12, 3) := by decide +kernel
theorem dX3_turnBehind_28 : decode cX3_turnBehind 28 = .ok (.invokevirtual 96, 3) := by decide +kernel
theorem dX3_turnBehind_31 : decode cX3_turnBehind 31 = .ok (.invokestatic 91, 3) := by decide +kernel
theorem dX3_turnBehind_34 : decode cX3_turnBehind 34 = .ok (.ireturn, 1) := by decide +kernel
theorem dX3_wishOf_0 : decode cX3_wishOf 0 = .ok (.aload_n 0, 1) := by decide +kernel
theorem dX3_wishOf_1 : decode cX3_wishOf 1 = .ok (.getfield 22, 3) := by decide +kernel
theorem dX3_wishOf_4 : decode cX3_wishOf 4 = .ok (.iload_n 1, 1) := by decide +kernel
theorem dX3_wishOf_5 : decode cX3_wishOf 5 = .ok (.invokevirtual 42, 3) := by decide +kernel
theorem dX3_wishOf_8 : decode cX3_wishOf 8 = .ok (.ifCond .eq 14, 3) := by decide +kernel
theorem dX3_wishOf_11 : decode cX3_wishOf 11 = .ok (.aload_n 0, 1) := by decide +kernel
theorem dX3_wishOf_12 : decode cX3_wishOf 12 = .ok (.getfield 26, 3) := by decide +kernel
theorem dX3_wishOf_15 : decode cX3_wishOf 15 = .ok (.iload_n 2, 1) := by decide +kernel
theorem dX3_wishOf_16 : decode cX3_wishOf 16 = .ok (.invokevirtual 48, 3) := by decide +kernel
theorem dX3_wishOf_19 : decode cX3_wishOf 19 = .ok (.ifCond .ne 5, 3) := by decide +kernel
theorem dX3_wishOf_22 : decode cX3_wishOf 22 = .ok (.iconst (-1), 1) := by decide +kernel
theorem dX3_wishOf_23 : decode cX3_wishOf 23 = .ok (.ireturn, 1) := by decide +kernel
theorem dX3_wishOf_24 : decode cX3_wishOf 24 = .ok (.aload_n 0, 1) := by decide +kernel
theorem dX3_wishOf_25 : decode cX3_wishOf 25 = .ok (.getfield 34, 3) := by decide +kernel
theorem dX3_wishOf_28 : decode cX3_wishOf 28 = .ok (.aload_n 0, 1) := by decide +kernel
theorem dX3_wishOf_29 : decode cX3_wishOf 29 = .ok (.getfield 12, 3) := by decide +kernel
theorem dX3_wishOf_32 : decode cX3_wishOf 32 = .ok (.iload_n 1, 1) := by decide +kernel
theorem dX3_wishOf_33 : decode cX3_wishOf 33 = .ok (.iload_n 2, 1) := by decide +kernel
theorem dX3_wishOf_34 : decode cX3_wishOf 34 = .ok (.aload_n 0, 1) := by decide +kernel
theorem dX3_wishOf_35 : decode cX3_wishOf 35 = .ok (.getfield 22, 3) := by decide +kernel
theorem dX3_wishOf_38 : decode cX3_wishOf 38 = .ok (.iload_n 1, 1) := by decide +kernel
theorem dX3_wishOf_39 : decode cX3_wishOf 39 = .ok (.invokevirtual 57, 3) := by decide +kernel
theorem dX3_wishOf_42 : decode cX3_wishOf 42 = .ok (.iload_n 3, 1) := by decide +kernel
theorem dX3_wishOf_43 : decode cX3_wishOf 43 = .ok (.invokevirtual 76, 3) := by decide +kernel
theorem dX3_wishOf_46 : decode cX3_wishOf 46 = .ok (.aload_n 0, 1) := by decide +kernel
theorem dX3_wishOf_47 : decode cX3_wishOf 47 = .ok (.getfield 38, 3) := by decide +kernel
theorem dX3_wishOf_50 : decode cX3_wishOf 50 = .ok (.aload_n 0, 1) := by decide +kernel
theorem dX3_wishOf_51 : decode cX3_wishOf 51 = .ok (.getfield 12, 3) := by decide +kernel
theorem dX3_wishOf_54 : decode cX3_wishOf 54 = .ok (.invokevirtual 100, 3) := by decide +kernel
theorem dX3_wishOf_57 : decode cX3_wishOf 57 = .ok (.ireturn, 1) := by decide +kernel
theorem dX4_init_0 : decode cX4_init 0 = .ok (.aload_n 0, 1) := by decide +kernel
theorem dX4_init_1 : decode cX4_init 1 = .ok (.invokespecial 3, 3) := by decide +kernel
theorem dX4_init_4 : decode cX4_init 4 = .ok (.aload_n 0, 1) := by decide +kernel
theorem dX4_init_5 : decode cX4_init 5 = .ok (.bipush 30, 2) := by decide +kernel
theorem dX4_init_7 : decode cX4_init 7 = .ok (.newarray .int, 2) := by decide +kernel
theorem dX4_init_9 : decode cX4_init 9 = .ok (.putfield 9, 3) := by decide +kernel
theorem dX4_init_12 : decode cX4_init 12 = .ok (.aload_n 0, 1) := by decide +kernel
theorem dX4_init_13 : decode cX4_init 13 = .ok (.bipush 30, 2) := by decide +kernel
theorem dX4_init_15 : decode cX4_init 15 = .ok (.newarray .int, 2) := by decide +kernel
theorem dX4_init_17 : decode cX4_init 17 = .ok (.putfield 15, 3) := by decide +kernel
theorem dX4_init_20 : decode cX4_init 20 = .ok (.aload_n 0, 1) := by decide +kernel
theorem dX4_init_21 : decode cX4_init 21 = .ok (.bipush 30, 2) := by decide +kernel
theorem dX4_init_23 : decode cX4_init 23 = .ok (.newarray .int, 2) := by decide +kernel
theorem dX4_init_25 : decode cX4_init 25 = .ok (.putfield 18, 3) := by decide +kernel
theorem dX4_init_28 : decode cX4_init 28 = .ok (.return_, 1) := by decide +kernel
theorem dX4_size_0 : decode cX4_size 0 = .ok (.aload_n 0, 1) := by decide +kernel
theorem dX4_size_1 : decode cX4_size 1 = .ok (.getfield 21, 3) := by decide +kernel
theorem dX4_size_4 : decode cX4_size 4 = .ok (.ireturn, 1) := by decide +kernel
theorem dX4_add_0 : decode cX4_add 0 = .ok (.aload_n 0, 1) := by decide +kernel
theorem dX4_add_1 : decode cX4_add 1 = .ok (.getfield 21, 3) := by decide +kernel
theorem dX4_add_4 : decode cX4_add 4 = .ok (.bipush 30, 2) := by decide +kernel
theorem dX4_add_6 : decode cX4_add 6 = .ok (.if_icmp .lt 5, 3) := by decide +kernel
theorem dX4_add_9 : decode cX4_add 9 = .ok (.iconst (-1), 1) := by decide +kernel
theorem dX4_add_10 : decode cX4_add 10 = .ok (.ireturn, 1) := by decide +kernel
theorem dX4_add_11 : decode cX4_add 11 = .ok (.aload_n 0, 1) := by decide +kernel
theorem dX4_add_12 : decode cX4_add 12 = .ok (.getfield 9, 3) := by decide +kernel
theorem dX4_add_15 : decode cX4_add 15 = .ok (.aload_n 0, 1) := by decide +kernel
theorem dX4_add_16 : decode cX4_add 16 = .ok (.getfield 21, 3) := by decide +kernel
theorem dX4_add_19 : decode cX4_add 19 = .ok (.iload_n 1, 1) := by decide +kernel
theorem dX4_add_20 : decode cX4_add 20 = .ok (.iastore, 1) := by decide +kernel
theorem dX4_add_21 : decode cX4_add 21 = .ok (.aload_n 0, 1) := by decide +kernel
theorem dX4_add_22 : decode cX4_add 22 = .ok (.getfield 15, 3) := by decide +kernel
theorem dX4_add_25 : decode cX4_add 25 = .ok (.aload_n 0, 1) := by decide +kernel
theorem dX4_add_26 : decode cX4_add 26 = .ok (.getfield 21, 3) := by decide +kernel
theorem dX4_add_29 : decode cX4_add 29 = .ok (.iload_n 2, 1) := by decide +kernel
theorem dX4_add_30 : decode cX4_add 30 = .ok (.iastore, 1) := by decide +kernel
theorem dX4_add_31 : decode cX4_add 31 = .ok (.aload_n 0, 1) := by decide +kernel
theorem dX4_add_32 : decode cX4_add 32 = .ok (.getfield 18, 3) := by decide +kernel
theorem dX4_add_35 : decode cX4_add 35 = .ok (.aload_n 0, 1) := by decide +kernel
theorem dX4_add_36 : decode cX4_add 36 = .ok (.getfield 21, 3) := by decide +kernel
theorem dX4_add_39 : decode cX4_add 39 = .ok (.iload_n 3, 1) := by decide +kernel
theorem dX4_add_40 : decode cX4_add 40 = .ok (.iastore, 1) := by decide +kernel
theorem dX4_add_41 : decode cX4_add 41 = .ok (.aload_n 0, 1) := by decide +kernel
theorem dX4_add_42 : decode cX4_add 42 = .ok (.dup, 1) := by decide +kernel
theorem dX4_add_43 : decode cX4_add 43 = .ok (.getfield 21, 3) := by decide +kernel
theorem dX4_add_46 : decode cX4_add 46 = .ok (.iconst 1, 1) := by decide +kernel
theorem dX4_add_47 : decode cX4_add 47 = .ok (.iadd, 1) := by decide +kernel
theorem dX4_add_48 : decode cX4_add 48 = .ok (.putfield 21, 3) := by decide +kernel
theorem dX4_add_51 : decode cX4_add 51 = .ok (.aload_n 0, 1) := by decide +kernel
theorem dX4_add_52 : decode cX4_add 52 = .ok (.getfield 21, 3) := by decide +kernel
theorem dX4_add_55 : decode cX4_add 55 = .ok (.iconst 1, 1) := by decide +kernel
theorem dX4_add_56 : decode cX4_add 56 = .ok (.isub, 1) := by decide +kernel
theorem dX4_add_57 : decode cX4_add 57 = .ok (.ireturn, 1) := by decide +kernel
theorem dX4_latestEnd_0 : decode cX4_latestEnd 0 = .ok (.iconst (-1), 1) := by decide +kernel
theorem dX4_latestEnd_1 : decode cX4_latestEnd 1 = .ok (.istore_n 3, 1) := by decide +kernel
theorem dX4_latestEnd_2 : decode cX4_latestEnd 2 = .ok (.iconst 0, 1) := by decide +kernel
theorem dX4_latestEnd_3 : decode cX4_latestEnd 3 = .ok (.istore 4, 2) := by decide +kernel
theorem dX4_latestEnd_5 : decode cX4_latestEnd 5 = .ok (.iload 4, 2) := by decide +kernel
theorem dX4_latestEnd_7 : decode cX4_latestEnd 7 = .ok (.aload_n 0, 1) := by decide +kernel
theorem dX4_latestEnd_8 : decode cX4_latestEnd 8 = .ok (.getfield 21, 3) := by decide +kernel
theorem dX4_latestEnd_11 : decode cX4_latestEnd 11 = .ok (.if_icmp .ge 54, 3) := by decide +kernel
theorem dX4_latestEnd_14 : decode cX4_latestEnd 14 = .ok (.aload_n 0, 1) := by decide +kernel
theorem dX4_latestEnd_15 : decode cX4_latestEnd 15 = .ok (.getfield 9, 3) := by decide +kernel
theorem dX4_latestEnd_18 : decode cX4_latestEnd 18 = .ok (.iload 4, 2) := by decide +kernel
theorem dX4_latestEnd_20 : decode cX4_latestEnd 20 = .ok (.iaload, 1) := by decide +kernel
theorem dX4_latestEnd_21 : decode cX4_latestEnd 21 = .ok (.iload_n 1, 1) := by decide +kernel
theorem dX4_latestEnd_22 : decode cX4_latestEnd 22 = .ok (.if_icmp .ne 37, 3) := by decide +kernel
theorem dX4_latestEnd_25 : decode cX4_latestEnd 25 = .ok (.aload_n 0, 1) := by decide +kernel
theorem dX4_latestEnd_26 : decode cX4_latestEnd 26 = .ok (.getfield 15, 3) := by decide +kernel
theorem dX4_latestEnd_29 : decode cX4_latestEnd 29 = .ok (.iload 4, 2) := by decide +kernel
theorem dX4_latestEnd_31 : decode cX4_latestEnd 31 = .ok (.iaload, 1) := by decide +kernel
theorem dX4_latestEnd_32 : decode cX4_latestEnd 32 = .ok (.iload_n 2, 1) := by decide +kernel
theorem dX4_latestEnd_33 : decode cX4_latestEnd 33 = .ok (.if_icmp .gt 26, 3) := by decide +kernel
theorem dX4_latestEnd_36 : decode cX4_latestEnd 36 = .ok (.iload_n 2, 1) := by decide +kernel
theorem dX4_latestEnd_37 : decode cX4_latestEnd 37 = .ok (.aload_n 0, 1) := by decide +kernel
theorem dX4_latestEnd_38 : decode cX4_latestEnd 38 = .ok (.getfield 18, 3) := by decide +kernel
theorem dX4_latestEnd_41 : decode cX4_latestEnd 41 = .ok (.iload 4, 2) := by decide +kernel
theorem dX4_latestEnd_43 : decode cX4_latestEnd 43 = .ok (.iaload, 1) := by decide +kernel
theorem dX4_latestEnd_44 : decode cX4_latestEnd 44 = .ok (.if_icmp .gt 15, 3) := by decide +kernel
theorem dX4_latestEnd_47 : decode cX4_latestEnd 47 = .ok (.iload_n 3, 1) := by decide +kernel
theorem dX4_latestEnd_48 : decode cX4_latestEnd 48 = .ok (.aload_n 0, 1) := by decide +kernel
theorem dX4_latestEnd_49 : decode cX4_latestEnd 49 = .ok (.getfield 18, 3) := by decide +kernel
theorem dX4_latestEnd_52 : decode cX4_latestEnd 52 = .ok (.iload 4, 2) := by decide +kernel
theorem dX4_latestEnd_54 : decode cX4_latestEnd 54 = .ok (.iaload, 1) := by decide +kernel
theorem dX4_latestEnd_55 : decode cX4_latestEnd 55 = .ok (.invokestatic 25, 3) := by decide +kernel
theorem dX4_latestEnd_58 : decode cX4_latestEnd 58 = .ok (.istore_n 3, 1) := by decide +kernel
theorem dX4_latestEnd_59 : decode cX4_latestEnd 59 = .ok (.iinc 4 1, 3) := by decide +kernel
theorem dX4_latestEnd_62 : decode cX4_latestEnd 62 = .ok (.goto (-57), 3) := by decide +kernel
theorem dX4_latestEnd_65 : decode cX4_latestEnd 65 = .ok (.iload_n 3, 1) := by decide +kernel
theorem dX4_latestEnd_66 : decode cX4_latestEnd 66 = .ok (.ireturn, 1) := by decide +kernel
theorem dX5_init_0 : decode cX5_init 0 = .ok (.aload_n 0, 1) := by decide +kernel
theorem dX5_init_1 : decode cX5_init 1 = .ok (.invokespecial 7, 3) := by decide +kernel
theorem dX5_init_4 : decode cX5_init 4 = .ok (.aload_n 0, 1) := by decide +kernel
theorem dX5_init_5 : decode cX5_init 5 = .ok (.bipush 35, 2) := by decide +kernel
theorem dX5_init_7 : decode cX5_init 7 = .ok (.newarray .int, 2) := by decide +kernel
theorem dX5_init_9 : decode cX5_init 9 = .ok (.putfield 13, 3) := by decide +kernel
theorem dX5_init_12 : decode cX5_init 12 = .ok (.aload_n 0, 1) := by decide +kernel
theorem dX5_init_13 : decode cX5_init 13 = .ok (.bipush 35, 2) := by decide +kernel
theorem dX5_init_15 : decode cX5_init 15 = .ok (.newarray .int, 2) := by decide +kernel
theorem dX5_init_17 : decode cX5_init 17 = .ok (.putfield 17, 3) := by decide +kernel
theorem dX5_init_20 : decode cX5_init 20 = .ok (.aload_n 0, 1) := by decide +kernel
theorem dX5_init_21 : decode cX5_init 21 = .ok (.bipush 7, 2) := by decide +kernel
theorem dX5_init_23 : decode cX5_init 23 = .ok (.newarray .int, 2) := by decide +kernel
theorem dX5_init_25 : decode cX5_init 25 = .ok (.putfield 20, 3) := by decide +kernel
theorem dX5_init_28 : decode cX5_init 28 = .ok (.aload_n 0, 1) := by decide +kernel
theorem dX5_init_29 : decode cX5_init 29 = .ok (.bipush 8, 2) := by decide +kernel
theorem dX5_init_31 : decode cX5_init 31 = .ok (.newarray .int, 2) := by decide +kernel
theorem dX5_init_33 : decode cX5_init 33 = .ok (.putfield 23, 3) := by decide +kernel
theorem dX5_init_36 : decode cX5_init 36 = .ok (.aload_n 0, 1) := by decide +kernel
theorem dX5_init_37 : decode cX5_init 37 = .ok (.bipush 7, 2) := by decide +kernel
theorem dX5_init_39 : decode cX5_init 39 = .ok (.newarray .int, 2) := by decide +kernel
theorem dX5_init_41 : decode cX5_init 41 = .ok (.putfield 26, 3) := by decide +kernel
theorem dX5_init_44 : decode cX5_init 44 = .ok (.aload_n 0, 1) := by decide +kernel
theorem dX5_init_45 : decode cX5_init 45 = .ok (.sipush 128, 3) := by decide +kernel
theorem dX5_init_48 : decode cX5_init 48 = .ok (.newarray .int, 2) := by decide +kernel
theorem dX5_init_50 : decode cX5_init 50 = .ok (.putfield 29, 3) := by decide +kernel
theorem dX5_init_53 : decode cX5_init 53 = .ok (.aload_n 0, 1) := by decide +kernel
theorem dX5_init_54 : decode cX5_init 54 = .ok (.iconst 5, 1) := by decide +kernel
theorem dX5_init_55 : decode cX5_init 55 = .ok (.newarray .int, 2) := by decide +kernel
theorem dX5_init_57 : decode cX5_init 57 = .ok (.putfield 32, 3) := by decide +kernel
theorem dX5_init_60 : decode cX5_init 60 = .ok (.aload_n 0, 1) := by decide +kernel
theorem dX5_init_61 : decode cX5_init 61 = .ok (.iconst 4, 1) := by decide +kernel
theorem dX5_init_62 : decode cX5_init 62 = .ok (.newarray .int, 2) := by decide +kernel
theorem dX5_init_64 : decode cX5_init 64 = .ok (.putfield 35, 3) := by decide +kernel
theorem dX5_init_67 : decode cX5_init 67 = .ok (.aload_n 0, 1) := by decide +kernel
theorem dX5_init_68 : decode cX5_init 68 = .ok (.bipush 7, 2) := by decide +kernel
theorem dX5_init_70 : decode cX5_init 70 = .ok (.newarray .int, 2) := by decide +kernel
theorem dX5_init_72 : decode cX5_init 72 = .ok (.putfield 38, 3) := by decide +kernel
theorem dX5_init_75 : decode cX5_init 75 = .ok (.aload_n 0, 1) := by decide +kernel
theorem dX5_init_76 : decode cX5_init 76 = .ok (.bipush 7, 2) := by decide +kernel
theorem dX5_init_78 : decode cX5_init 78 = .ok (.newarray .int, 2) := by decide +kernel
theorem dX5_init_80 : decode cX5_init 80 = .ok (.putfield 41, 3) := by decide +kernel
theorem dX5_init_83 : decode cX5_init 83 = .ok (.aload_n 0, 1) := by decide +kernel
theorem dX5_init_84 : decode cX5_init 84 = .ok (.aload_n 1, 1) := by decide +kernel
theorem dX5_init_85 : decode cX5_init 85 = .ok (.putfield 44, 3) := by decide +kernel
theorem dX5_init_88 : decode cX5_init 88 = .ok (.aload_n 0, 1) := by decide +kernel
theorem dX5_init_89 : decode cX5_init 89 = .ok (.aload_n 2, 1) := by decide +kernel
theorem dX5_init_90 : decode cX5_init 90 = .ok (.putfield 48, 3) := by decide +kernel
theorem dX5_init_93 : decode cX5_init 93 = .ok (.aload_n 0, 1) := by decide +kernel
theorem dX5_init_94 : decode cX5_init 94 = .ok (.aload_n 3, 1) := by decide +kernel
theorem dX5_init_95 : decode cX5_init 95 = .ok (.putfield 52, 3) := by decide +kernel
theorem dX5_init_98 : decode cX5_init 98 = .ok (.aload_n 0, 1) := by decide +kernel
theorem dX5_init_99 : decode cX5_init 99 = .ok (.aload 4, 2) := by decide +kernel
theorem dX5_init_101 : decode cX5_init 101 = .ok (.putfield 56, 3) := by decide +kernel
theorem dX5_init_104 : decode cX5_init 104 = .ok (.return_, 1) := by decide +kernel
theorem dX5_weigh_0 : decode cX5_weigh 0 = .ok (.iload_n 1, 1) := by decide +kernel
theorem dX5_weigh_1 : decode cX5_weigh 1 = .ok (.ifCond .eq 9, 3) := by decide +kernel
theorem dX5_weigh_4 : decode cX5_weigh 4 = .ok (.sipush 16384, 3) := by decide +kernel
theorem dX5_weigh_7 : decode cX5_weigh 7 = .ok (.goto 4, 3) := by decide +kernel
theorem dX5_weigh_10 : decode cX5_weigh 10 = .ok (.iconst 0, 1) := by decide +kernel
theorem dX5_weigh_11 : decode cX5_weigh 11 = .ok (.istore_n 3, 1) := by decide +kernel
theorem dX5_weigh_12 : decode cX5_weigh 12 = .ok (.iconst 0, 1) := by decide +kernel
theorem dX5_weigh_13 : decode cX5_weigh 13 = .ok (.istore 4, 2) := by decide +kernel
theorem dX5_weigh_15 : decode cX5_weigh 15 = .ok (.iload 4, 2) := by decide +kernel
theorem dX5_weigh_17 : decode cX5_weigh 17 = .ok (.aload_n 0, 1) := by decide +kernel
theorem dX5_weigh_18 : decode cX5_weigh 18 = .ok (.getfield 44, 3) := by decide +kernel
theorem dX5_weigh_21 : decode cX5_weigh 21 = .ok (.invokevirtual 60, 3) := by decide +kernel
theorem dX5_weigh_24 : decode cX5_weigh 24 = .ok (.if_icmp .ge 188, 3) := by decide +kernel
theorem dX5_weigh_27 : decode cX5_weigh 27 = .ok (.aload_n 0, 1) := by decide +kernel
theorem dX5_weigh_28 : decode cX5_weigh 28 = .ok (.getfield 56, 3) := by decide +kernel
theorem dX5_weigh_31 : decode cX5_weigh 31 = .ok (.iload 4, 2) := by decide +kernel
theorem dX5_weigh_33 : decode cX5_weigh 33 = .ok (.invokevirtual 66, 3) := by decide +kernel
theorem dX5_weigh_36 : decode cX5_weigh 36 = .ok (.istore 5, 2) := by decide +kernel
theorem dX5_weigh_38 : decode cX5_weigh 38 = .ok (.iconst 0, 1) := by decide +kernel
theorem dX5_weigh_39 : decode cX5_weigh 39 = .ok (.istore 6, 2) := by decide +kernel
theorem dX5_weigh_41 : decode cX5_weigh 41 = .ok (.iload 6, 2) := by decide +kernel
theorem dX5_weigh_43 : decode cX5_weigh 43 = .ok (.aload_n 0, 1) := by decide +kernel
theorem dX5_weigh_44 : decode cX5_weigh 44 = .ok (.getfield 48, 3) := by decide +kernel
theorem dX5_weigh_47 : decode cX5_weigh 47 = .ok (.invokevirtual 72, 3) := by decide +kernel
theorem dX5_weigh_50 : decode cX5_weigh 50 = .ok (.if_icmp .ge 115, 3) := by decide +kernel
theorem dX5_weigh_53 : decode cX5_weigh 53 = .ok (.iload 4, 2) := by decide +kernel
theorem dX5_weigh_55 : decode cX5_weigh 55 = .ok (.iconst 5, 1) := by decide +kernel
theorem dX5_weigh_56 : decode cX5_weigh 56 = .ok (.imul, 1) := by decide +kernel
theorem dX5_weigh_57 : decode cX5_weigh 57 = .ok (.iload 6, 2) := by decide +kernel
theorem dX5_weigh_59 : decode cX5_weigh 59 = .ok (.iadd, 1) := by decide +kernel
theorem dX5_weigh_60 : decode cX5_weigh 60 = .ok (.istore 7, 2) := by decide +kernel
theorem dX5_weigh_62 : decode cX5_weigh 62 = .ok (.aload_n 0, 1) := by decide +kernel
theorem dX5_weigh_63 : decode cX5_weigh 63 = .ok (.getfield 52, 3) := by decide +kernel
theorem dX5_weigh_66 : decode cX5_weigh 66 = .ok (.iload 4, 2) := by decide +kernel
theorem dX5_weigh_68 : decode cX5_weigh 68 = .ok (.iload 6, 2) := by decide +kernel
theorem dX5_weigh_70 : decode cX5_weigh 70 = .ok (.iload_n 2, 1) := by decide +kernel
theorem dX5_weigh_71 : decode cX5_weigh 71 = .ok (.invokevirtual 75, 3) := by decide +kernel
theorem dX5_weigh_74 : decode cX5_weigh 74 = .ok (.ifCond .ne 7, 3) := by decide +kernel
theorem dX5_weigh_77 : decode cX5_weigh 77 = .ok (.iconst 1, 1) := by decide +kernel
theorem dX5_weigh_78 : decode cX5_weigh 78 = .ok (.goto 4, 3) := by decide +kernel
theorem dX5_weigh_81 : decode cX5_weigh 81 = .ok (.iconst 0, 1) := by decide +kernel
theorem dX5_weigh_82 : decode cX5_weigh 82 = .ok (.istore 8, 2) := by decide +kernel
theorem dX5_weigh_84 : decode cX5_weigh 84 = .ok (.aload_n 0, 1) := by decide +kernel
theorem dX5_weigh_85 : decode cX5_weigh 85 = .ok (.getfield 13, 3) := by decide +kernel
theorem dX5_weigh_88 : decode cX5_weigh 88 = .ok (.iload 7, 2) := by decide +kernel
theorem dX5_weigh_90 : decode cX5_weigh 90 = .ok (.iload 8, 2) := by decide +kernel
theorem dX5_weigh_92 : decode cX5_weigh 92 = .ok (.ifCond .eq 18, 3) := by decide +kernel
theorem dX5_weigh_95 : decode cX5_weigh 95 = .ok (.aload_n 0, 1) := by decide +kernel
theorem dX5_weigh_96 : decode cX5_weigh 96 = .ok (.getfield 52, 3) := by decide +kernel
theorem dX5_weigh_99 : decode cX5_weigh 99 = .ok (.iload 4, 2) := by decide +kernel
theorem dX5_weigh_101 : decode cX5_weigh 101 = .ok (.iload 6, 2) := by decide +kernel
theorem dX5_weigh_103 : decode cX5_weigh 103 = .ok (.iload_n 2, 1) := by decide +kernel
theorem dX5_weigh_104 : decode cX5_weigh 104 = .ok (.invokevirtual 81, 3) := by decide +kernel
theorem dX5_weigh_107 : decode cX5_weigh 107 = .ok (.goto 4, 3) := by decide +kernel
theorem dX5_weigh_110 : decode cX5_weigh 110 = .ok (.iconst 0, 1) := by decide +kernel
theorem dX5_weigh_111 : decode cX5_weigh 111 = .ok (.iastore, 1) := by decide +kernel
theorem dX5_weigh_112 : decode cX5_weigh 112 = .ok (.iload 5, 2) := by decide +kernel
theorem dX5_weigh_114 : decode cX5_weigh 114 = .ok (.iconst (-1), 1) := by decide +kernel
theorem dX5_weigh_115 : decode cX5_weigh 115 = .ok (.if_icmp .eq 14, 3) := by decide +kernel
theorem dX5_weigh_118 : decode cX5_weigh 118 = .ok (.iload 5, 2) := by decide +kernel
theorem dX5_weigh_120 : decode cX5_weigh 120 = .ok (.iload 6, 2) := by decide +kernel
theorem dX5_weigh_122 : decode cX5_weigh 122 = .ok (.if_icmp .eq 7, 3) := by decide +kernel
theorem dX5_weigh_125 : decode cX5_weigh 125 = .ok (.iload_n 3, 1) := by decide +kernel
theorem dX5_weigh_126 : decode cX5_weigh 126 = .ok (.goto 4, 3) := by decide +kernel
theorem dX5_weigh_129 : decode cX5_weigh 129 = .ok (.iconst 0, 1) := by decide +kernel
theorem dX5_weigh_130 : decode cX5_weigh 130 = .ok (.istore 9, 2) := by decide +kernel
theorem dX5_weigh_132 : decode cX5_weigh 132 = .ok (.aload_n 0, 1) := by decide +kernel
theorem dX5_weigh_133 : decode cX5_weigh 133 = .ok (.getfield 17, 3) := by decide +kernel
theorem dX5_weigh_136 : decode cX5_weigh 136 = .ok (.iload 7, 2) := by decide +kernel
theorem dX5_weigh_138 : decode cX5_weigh 138 = .ok (.iload 8, 2) := by decide +kernel
theorem dX5_weigh_140 : decode cX5_weigh 140 = .ok (.ifCond .eq 16, 3) := by decide +kernel
theorem dX5_weigh_143 : decode cX5_weigh 143 = .ok (.iload 9, 2) := by decide +kernel
theorem dX5_weigh_145 : decode cX5_weigh 145 = .ok (.aload_n 0, 1) := by decide +kernel
theorem dX5_weigh_146 : decode cX5_weigh 146 = .ok (.getfield 13, 3) := by decide +kernel
theorem dX5_weigh_149 : decode cX5_weigh 149 = .ok (.iload 7, 2) := by decide +kernel
theorem dX5_weigh_151 : decode cX5_weigh 151 = .ok (.iaload, 1) := by decide +kernel
theorem dX5_weigh_152 : decode cX5_weigh 152 = .ok (.isub, 1) := by decide +kernel
theorem dX5_weigh_153 : decode cX5_weigh 153 = .ok (.goto 5, 3) := by decide +kernel
theorem dX5_weigh_156 : decode cX5_weigh 156 = .ok (.ldc 84, 2) := by decide +kernel
theorem dX5_weigh_158 : decode cX5_weigh 158 = .ok (.iastore, 1) := by decide +kernel
theorem dX5_weigh_159 : decode cX5_weigh 159 = .ok (.iinc 6 1, 3) := by decide +kernel
theorem dX5_weigh_162 : decode cX5_weigh 162 = .ok (.goto (-121), 3) := by decide +kernel
theorem dX5_weigh_165 : decode cX5_weigh 165 = .ok (.ldc 85, 2) := by decide +kernel
theorem dX5_weigh_167 : decode cX5_weigh 167 = .ok (.iload 5, 2) := by decide +kernel
theorem dX5_weigh_169 : decode cX5_weigh 169 = .ok (.iconst (-1), 1) := by decide +kernel
theorem dX5_weigh_170 : decode cX5_weigh 170 = .ok (.if_icmp .eq 7, 3) := by decide +kernel
theorem dX5_weigh_173 : decode cX5_weigh 173 = .ok (.iload_n 3, 1) := by decide +kernel
theorem dX5_weigh_174 : decode cX5_weigh 174 = .ok (.goto 4, 3) := by decide +kernel
theorem dX5_weigh_177 : decode cX5_weigh 177 = .ok (.iconst 0, 1) := by decide +kernel
theorem dX5_weigh_178 : decode cX5_weigh 178 = .ok (.iadd, 1) := by decide +kernel
theorem dX5_weigh_179 : decode cX5_weigh 179 = .ok (.istore 6, 2) := by decide +kernel
theorem dX5_weigh_181 : decode cX5_weigh 181 = .ok (.aload_n 0, 1) := by decide +kernel
theorem dX5_weigh_182 : decode cX5_weigh 182 = .ok (.getfield 20, 3) := by decide +kernel
theorem dX5_weigh_185 : decode cX5_weigh 185 = .ok (.iload 4, 2) := by decide +kernel
theorem dX5_weigh_187 : decode cX5_weigh 187 = .ok (.aload_n 0, 1) := by decide +kernel
theorem dX5_weigh_188 : decode cX5_weigh 188 = .ok (.getfield 44, 3) := by decide +kernel
theorem dX5_weigh_191 : decode cX5_weigh 191 = .ok (.iload 4, 2) := by decide +kernel
theorem dX5_weigh_193 : decode cX5_weigh 193 = .ok (.invokevirtual 86, 3) := by decide +kernel
theorem dX5_weigh_196 : decode cX5_weigh 196 = .ok (.ifCond .eq 8, 3) := by decide +kernel
theorem dX5_weigh_199 : decode cX5_weigh 199 = .ok (.iload 6, 2) := by decide +kernel
theorem dX5_weigh_201 : decode cX5_weigh 201 = .ok (.goto 4, 3) := by decide +kernel
theorem dX5_weigh_204 : decode cX5_weigh 204 = .ok (.iconst 0, 1) := by decide +kernel
theorem dX5_weigh_205 : decode cX5_weigh 205 = .ok (.iastore, 1) := by decide +kernel
theorem dX5_weigh_206 : decode cX5_weigh 206 = .ok (.iinc 4 1, 3) := by decide +kernel
theorem dX5_weigh_209 : decode cX5_weigh 209 = .ok (.goto (-194), 3) := by decide +kernel
theorem dX5_weigh_212 : decode cX5_weigh 212 = .ok (.return_, 1) := by decide +kernel
theorem dX5_findBest_0 : decode cX5_findBest 0 = .ok (.aload_n 0, 1) := by decide +kernel
theorem dX5_findBest_1 : decode cX5_findBest 1 = .ok (.invokevirtual 90, 3) := by decide +kernel
theorem dX5_findBest_4 : decode cX5_findBest 4 = .ok (.aload_n 0, 1) := by decide +kernel
theorem dX5_findBest_5 : decode cX5_findBest 5 = .ok (.invokevirtual 93, 3) := by decide +kernel
theorem dX5_findBest_8 : decode cX5_findBest 8 = .ok (.aload_n 0, 1) := by decide +kernel
theorem dX5_findBest_9 : decode cX5_findBest 9 = .ok (.invokevirtual 96, 3) := by decide +kernel
theorem dX5_findBest_12 : decode cX5_findBest 12 = .ok (.aload_n 0, 1) := by decide +kernel
theorem dX5_findBest_13 : decode cX5_findBest 13 = .ok (.getfield 32, 3) := by decide +kernel
theorem dX5_findBest_16 : decode cX5_findBest 16 = .ok (.iconst 0, 1) := by decide +kernel
theorem dX5_findBest_17 : decode cX5_findBest 17 = .ok (.invokestatic 99, 3) := by decide +kernel
theorem dX5_findBest_20 : decode cX5_findBest 20 = .ok (.aload_n 0, 1) := by decide +kernel
theorem dX5_findBest_21 : decode cX5_findBest 21 = .ok (.getfield 35, 3) := by decide +kernel
theorem dX5_findBest_24 : decode cX5_findBest 24 = .ok (.iconst 0, 1) := by decide +kernel
theorem dX5_findBest_25 : decode cX5_findBest 25 = .ok (.invokestatic 99, 3) := by decide +kernel
theorem dX5_findBest_28 : decode cX5_findBest 28 = .ok (.aload_n 0, 1) := by decide +kernel
theorem dX5_findBest_29 : decode cX5_findBest 29 = .ok (.ldc 84, 2) := by decide +kernel
theorem dX5_findBest_31 : decode cX5_findBest 31 = .ok (.putfield 105, 3) := by decide +kernel
theorem dX5_findBest_34 : decode cX5_findBest 34 = .ok (.aload_n 0, 1) := by decide +kernel
theorem dX5_findBest_35 : decode cX5_findBest 35 = .ok (.iconst 0, 1) := by decide +kernel
theorem dX5_findBest_36 : decode cX5_findBest 36 = .ok (.iconst 0, 1) := by decide +kernel
theorem dX5_findBest_37 : decode cX5_findBest 37 = .ok (.invokevirtual 109, 3) := by decide +kernel
theorem dX5_findBest_40 : decode cX5_findBest 40 = .ok (.return_, 1) := by decide +kernel
theorem dX5_sumLeastPrices_0 : decode cX5_sumLeastPrices 0 = .ok (.aload_n 0, 1) := by decide +kernel
theorem dX5_sumLeastPrices_1 : decode cX5_sumLeastPrices 1 = .ok (.getfield 23, 3) := by decide +kernel
theorem dX5_sumLeastPrices_4 : decode cX5_sumLeastPrices 4 = .ok (.aload_n 0, 1) := by decide +kernel
theorem dX5_sumLeastPrices_5 : decode cX5_sumLeastPrices 5 = .ok (.getfield 44, 3) := by decide +kernel
theorem dX5_sumLeastPrices_8 : decode cX5_sumLeastPrices 8 = .ok (.invokevirtual 60, 3) := by decide +kernel
theorem dX5_sumLeastPrices_11 : decode cX5_sumLeastPrices 11 = .ok (.iconst 0, 1) := by decide +kernel
theorem dX5_sumLeastPrices_12 : decode cX5_sumLeastPrices 12 = .ok (.iastore, 1) := by decide +kernel
theorem dX5_sumLeastPrices_13 : decode cX5_sumLeastPrices 13 = .ok (.aload_n 0, 1) := by decide +kernel
theorem dX5_sumLeastPrices_14 : decode cX5_sumLeastPrices 14 = .ok (.getfield 44, 3) := by decide +kernel
theorem dX5_sumLeastPrices_17 : decode cX5_sumLeastPrices 17 = .ok (.invokevirtual 60, 3) := by decide +kernel
theorem dX5_sumLeastPrices_20 : decode cX5_sumLeastPrices 20 = .ok (.iconst 1, 1) := by decide +kernel
theorem dX5_sumLeastPrices_21 : decode cX5_sumLeastPrices 21 = .ok (.isub, 1) := by decide +kernel
theorem dX5_sumLeastPrices_22 : decode cX5_sumLeastPrices 22 = .ok (.istore_n 1, 1) := by decide +kernel
theorem dX5_sumLeastPrices_23 : decode cX5_sumLeastPrices 23 = .ok (.iload_n 1, 1) := by decide +kernel
theorem dX5_sumLeastPrices_24 : decode cX5_sumLeastPrices 24 = .ok (.ifCond .lt 66, 3) := by decide +kernel
theorem dX5_sumLeastPrices_27 : decode cX5_sumLeastPrices 27 = .ok (.aload_n 0, 1) := by decide +kernel
theorem dX5_sumLeastPrices_28 : decode cX5_sumLeastPrices 28 = .ok (.getfield 20, 3) := by decide +kernel
theorem dX5_sumLeastPrices_31 : decode cX5_sumLeastPrices 31 = .ok (.iload_n 1, 1) := by decide +kernel
theorem dX5_sumLeastPrices_32 : decode cX5_sumLeastPrices 32 = .ok (.iaload, 1) := by decide +kernel
theorem dX5_sumLeastPrices_33 : decode cX5_sumLeastPrices 33 = .ok (.istore_n 2, 1) := by decide +kernel
theorem dX5_sumLeastPrices_34 : decode cX5_sumLeastPrices 34 = .ok (.iconst 0, 1) := by decide +kernel
theorem dX5_sumLeastPrices_35 : decode cX5_sumLeastPrices 35 = .ok (.istore_n 3, 1) := by decide +kernel
theorem dX5_sumLeastPrices_36 : decode cX5_sumLeastPrices 36 = .ok (.iload_n 3, 1) := by decide +kernel
theorem dX5_sumLeastPrices_37 : decode cX5_sumLeastPrices 37 = .ok (.aload_n 0, 1) := by decide +kernel
theorem dX5_sumLeastPrices_38 : decode cX5_sumLeastPrices 38 = .ok (.getfield 48, 3) := by decide +kernel
theorem dX5_sumLeastPrices_41 : decode cX5_sumLeastPrices 41 = .ok (.invokevirtual 72, 3) := by decide +kernel
theorem dX5_sumLeastPrices_44 : decode cX5_sumLeastPrices 44 = .ok (.if_icmp .ge 24, 3) := by decide +kernel
theorem dX5_sumLeastPrices_47 : decode cX5_sumLeastPrices 47 = .ok (.iload_n 2, 1) := by decide +kernel
theorem dX5_sumLeastPrices_48 : decode cX5_sumLeastPrices 48 = .ok (.aload_n 0, 1) := by decide +kernel
theorem dX5_sumLeastPrices_49 : decode cX5_sumLeastPrices 49 = .ok (.getfield 17, 3) := by decide +kernel
theorem dX5_sumLeastPrices_52 : decode cX5_sumLeastPrices 52 = .ok (.iload_n 1, 1) := by decide +kernel
theorem dX5_sumLeastPrices_53 : decode cX5_sumLeastPrices 53 = .ok (.iconst 5, 1) := by decide +kernel
theorem dX5_sumLeastPrices_54 : decode cX5_sumLeastPrices 54 = .ok (.imul, 1) := by decide +kernel
theorem dX5_sumLeastPrices_55 : decode cX5_sumLeastPrices 55 = .ok (.iload_n 3, 1) := by decide +kernel
theorem dX5_sumLeastPrices_56 : decode cX5_sumLeastPrices 56 = .ok (.iadd, 1) := by decide +kernel
theorem dX5_sumLeastPrices_57 : decode cX5_sumLeastPrices 57 = .ok (.iaload, 1) := by decide +kernel
theorem dX5_sumLeastPrices_58 : decode cX5_sumLeastPrices 58 = .ok (.invokestatic 113, 3) := by decide +kernel
theorem dX5_sumLeastPrices_61 : decode cX5_sumLeastPrices 61 = .ok (.istore_n 2, 1) := by decide +kernel
theorem dX5_sumLeastPrices_62 : decode cX5_sumLeastPrices 62 = .ok (.iinc 3 1, 3) := by decide +kernel
theorem dX5_sumLeastPrices_65 : decode cX5_sumLeastPrices 65 = .ok (.goto (-29), 3) := by decide +kernel
theorem dX5_sumLeastPrices_68 : decode cX5_sumLeastPrices 68 = .ok (.aload_n 0, 1) := by decide +kernel
theorem dX5_sumLeastPrices_69 : decode cX5_sumLeastPrices 69 = .ok (.getfield 23, 3) := by decide +kernel
theorem dX5_sumLeastPrices_72 : decode cX5_sumLeastPrices 72 = .ok (.iload_n 1, 1) := by decide +kernel
theorem dX5_sumLeastPrices_73 : decode cX5_sumLeastPrices 73 = .ok (.aload_n 0, 1) := by decide +kernel
theorem dX5_sumLeastPrices_74 : decode cX5_sumLeastPrices 74 = .ok (.getfield 23, 3) := by decide +kernel
theorem dX5_sumLeastPrices_77 : decode cX5_sumLeastPrices 77 = .ok (.iload_n 1, 1) := by decide +kernel
theorem dX5_sumLeastPrices_78 : decode cX5_sumLeastPrices 78 = .ok (.iconst 1, 1) := by decide +kernel
theorem dX5_sumLeastPrices_79 : decode cX5_sumLeastPrices 79 = .ok (.iadd, 1) := by decide +kernel
theorem dX5_sumLeastPrices_80 : decode cX5_sumLeastPrices 80 = .ok (.iaload, 1) := by decide +kernel
theorem dX5_sumLeastPrices_81 : decode cX5_sumLeastPrices 81 = .ok (.iload_n 2, 1) := by decide +kernel
theorem dX5_sumLeastPrices_82 : decode cX5_sumLeastPrices 82 = .ok (.iadd, 1) := by decide +kernel
theorem dX5_sumLeastPrices_83 : decode cX5_sumLeastPrices 83 = .ok (.iastore, 1) := by decide +kernel
theorem dX5_sumLeastPrices_84 : decode cX5_sumLeastPrices 84 = .ok (.iinc 1 (-1), 3) := by decide +kernel
theorem dX5_sumLeastPrices_87 : decode cX5_sumLeastPrices 87 = .ok (.goto (-64), 3) := by decide +kernel
theorem dX5_sumLeastPrices_90 : decode cX5_sumLeastPrices 90 = .ok (.return_, 1) := by decide +kernel
theorem dX5_findTogether_0 : decode cX5_findTogether 0 = .ok (.iconst 0, 1) := by decide +kernel
theorem dX5_findTogether_1 : decode cX5_findTogether 1 = .ok (.istore_n 1, 1) := by decide +kernel
theorem dX5_findTogether_2 : decode cX5_findTogether 2 = .ok (.iload_n 1, 1) := by decide +kernel
theorem dX5_findTogether_3 : decode cX5_findTogether 3 = .ok (.aload_n 0, 1) := by decide +kernel
theorem dX5_findTogether_4 : decode cX5_findTogether 4 = .ok (.getfield 44, 3) := by decide +kernel
theorem dX5_findTogether_7 : decode cX5_findTogether 7 = .ok (.invokevirtual 60, 3) := by decide +kernel
theorem dX5_findTogether_10 : decode cX5_findTogether 10 = .ok (.if_icmp .ge 62, 3) := by decide +kernel
theorem dX5_findTogether_13 : decode cX5_findTogether 13 = .ok (.iconst 0, 1) := by decide +kernel
theorem dX5_findTogether_14 : decode cX5_findTogether 14 = .ok (.istore_n 2, 1) := by decide +kernel
theorem dX5_findTogether_15 : decode cX5_findTogether 15 = .ok (.iconst 0, 1) := by decide +kernel
theorem dX5_findTogether_16 : decode cX5_findTogether 16 = .ok (.istore_n 3, 1) := by decide +kernel
theorem dX5_findTogether_17 : decode cX5_findTogether 17 = .ok (.iload_n 3, 1) := by decide +kernel
theorem dX5_findTogether_18 : decode cX5_findTogether 18 = .ok (.aload_n 0, 1) := by decide +kernel
theorem dX5_findTogether_19 : decode cX5_findTogether 19 = .ok (.getfield 44, 3) := by decide +kernel
theorem dX5_findTogether_22 : decode cX5_findTogether 22 = .ok (.invokevirtual 60, 3) := by decide +kernel
theorem dX5_findTogether_25 : decode cX5_findTogether 25 = .ok (.if_icmp .ge 34, 3) := by decide +kernel
theorem dX5_findTogether_28 : decode cX5_findTogether 28 = .ok (.aload_n 0, 1) := by decide +kernel
theorem dX5_findTogether_29 : decode cX5_findTogether 29 = .ok (.getfield 44, 3) := by decide +kernel
theorem dX5_findTogether_32 : decode cX5_findTogether 32 = .ok (.iload_n 3, 1) := by decide +kernel
theorem dX5_findTogether_33 : decode cX5_findTogether 33 = .ok (.aload_n 0, 1) := by decide +kernel
theorem dX5_findTogether_34 : decode cX5_findTogether 34 = .ok (.getfield 44, 3) := by decide +kernel
theorem dX5_findTogether_37 : decode cX5_findTogether 37 = .ok (.iload_n 1, 1) := by decide +kernel
theorem dX5_findTogether_38 : decode cX5_findTogether 38 = .ok (.invokevirtual 119, 3) := by decide +kernel
theorem dX5_findTogether_41 : decode cX5_findTogether 41 = .ok (.invokevirtual 122, 3) := by decide +kernel
theorem dX5_findTogether_44 : decode cX5_findTogether 44 = .ok (.ifCond .eq 9, 3) := by decide +kernel
theorem dX5_findTogether_47 : decode cX5_findTogether 47 = .ok (.iload_n 2, 1) := by decide +kernel
theorem dX5_findTogether_48 : decode cX5_findTogether 48 = .ok (.iconst 1, 1) := by decide +kernel
theorem dX5_findTogether_49 : decode cX5_findTogether 49 = .ok (.iload_n 3, 1) := by decide +kernel
theorem dX5_findTogether_50 : decode cX5_findTogether 50 = .ok (.ishl, 1) := by decide +kernel
theorem dX5_findTogether_51 : decode cX5_findTogether 51 = .ok (.ior, 1) := by decide +kernel
theorem dX5_findTogether_52 : decode cX5_findTogether 52 = .ok (.istore_n 2, 1) := by decide +kernel
theorem dX5_findTogether_53 : decode cX5_findTogether 53 = .ok (.iinc 3 1, 3) := by decide +kernel
theorem dX5_findTogether_56 : decode cX5_findTogether 56 = .ok (.goto (-39), 3) := by decide +kernel
theorem dX5_findTogether_59 : decode cX5_findTogether 59 = .ok (.aload_n 0, 1) := by decide +kernel
theorem dX5_findTogether_60 : decode cX5_findTogether 60 = .ok (.getfield 26, 3) := by decide +kernel
theorem dX5_findTogether_63 : decode cX5_findTogether 63 = .ok (.iload_n 1, 1) := by decide +kernel
theorem dX5_findTogether_64 : decode cX5_findTogether 64 = .ok (.iload_n 2, 1) := by decide +kernel
theorem dX5_findTogether_65 : decode cX5_findTogether 65 = .ok (.iastore, 1) := by decide +kernel
theorem dX5_findTogether_66 : decode cX5_findTogether 66 = .ok (.iinc 1 1, 3) := by decide +kernel
theorem dX5_findTogether_69 : decode cX5_findTogether 69 = .ok (.goto (-67), 3) := by decide +kernel
theorem dX5_findTogether_72 : decode cX5_findTogether 72 = .ok (.return_, 1) := by decide +kernel
theorem dX5_findPeaks_0 : decode cX5_findPeaks 0 = .ok (.iconst 0, 1) := by decide +kernel
theorem dX5_findPeaks_1 : decode cX5_findPeaks 1 = .ok (.istore_n 1, 1) := by decide +kernel
theorem dX5_findPeaks_2 : decode cX5_findPeaks 2 = .ok (.iload_n 1, 1) := by decide +kernel
theorem dX5_findPeaks_3 : decode cX5_findPeaks 3 = .ok (.iconst 1, 1) := by decide +kernel
theorem dX5_findPeaks_4 : decode cX5_findPeaks 4 = .ok (.aload_n 0, 1) := by decide +kernel
theorem dX5_findPeaks_5 : decode cX5_findPeaks 5 = .ok (.getfield 44, 3) := by decide +kernel
theorem dX5_findPeaks_8 : decode cX5_findPeaks 8 = .ok (.invokevirtual 60, 3) := by decide +kernel
theorem dX5_findPeaks_11 : decode cX5_findPeaks 11 = .ok (.ishl, 1) := by decide +kernel
theorem dX5_findPeaks_12 : decode cX5_findPeaks 12 = .ok (.if_icmp .ge 62, 3) := by decide +kernel
theorem dX5_findPeaks_15 : decode cX5_findPeaks 15 = .ok (.iconst 0, 1) := by decide +kernel
theorem dX5_findPeaks_16 : decode cX5_findPeaks 16 = .ok (.istore_n 2, 1) := by decide +kernel
theorem dX5_findPeaks_17 : decode cX5_findPeaks 17 = .ok (.iconst 0, 1) := by decide +kernel
theorem dX5_findPeaks_18 : decode cX5_findPeaks 18 = .ok (.istore_n 3, 1) := by decide +kernel
theorem dX5_findPeaks_19 : decode cX5_findPeaks 19 = .ok (.iload_n 3, 1) := by decide +kernel
theorem dX5_findPeaks_20 : decode cX5_findPeaks 20 = .ok (.aload_n 0, 1) := by decide +kernel
theorem dX5_findPeaks_21 : decode cX5_findPeaks 21 = .ok (.getfield 44, 3) := by decide +kernel
theorem dX5_findPeaks_24 : decode cX5_findPeaks 24 = .ok (.invokevirtual 60, 3) := by decide +kernel
theorem dX5_findPeaks_27 : decode cX5_findPeaks 27 = .ok (.if_icmp .ge 34, 3) := by decide +kernel
theorem dX5_findPeaks_30 : decode cX5_findPeaks 30 = .ok (.iload_n 1, 1) := by decide +kernel
theorem dX5_findPeaks_31 : decode cX5_findPeaks 31 = .ok (.iload_n 3, 1) := by decide +kernel
theorem dX5_findPeaks_32 : decode cX5_findPeaks 32 = .ok (.ishr, 1) := by decide +kernel
theorem dX5_findPeaks_33 : decode cX5_findPeaks 33 = .ok (.iconst 1, 1) := by decide +kernel
theorem dX5_findPeaks_34 : decode cX5_findPeaks 34 = .ok (.iand, 1) := by decide +kernel
theorem dX5_findPeaks_35 : decode cX5_findPeaks 35 = .ok (.iconst 1, 1) := by decide +kernel
theorem dX5_findPeaks_36 : decode cX5_findPeaks 36 = .ok (.if_icmp .ne 19, 3) := by decide +kernel
theorem dX5_findPeaks_39 : decode cX5_findPeaks 39 = .ok (.iload_n 2, 1) := by decide +kernel
theorem dX5_findPeaks_40 : decode cX5_findPeaks 40 = .ok (.aload_n 0, 1) := by decide +kernel
theorem dX5_findPeaks_41 : decode cX5_findPeaks 41 = .ok (.getfield 26, 3) := by decide +kernel
theorem dX5_findPeaks_44 : decode cX5_findPeaks 44 = .ok (.iload_n 3, 1) := by decide +kernel
theorem dX5_findPeaks_45 : decode cX5_findPeaks 45 = .ok (.iaload, 1) := by decide +kernel
theorem dX5_findPeaks_46 : decode cX5_findPeaks 46 = .ok (.iload_n 1, 1) := by decide +kernel
theorem dX5_findPeaks_47 : decode cX5_findPeaks 47 = .ok (.iand, 1) := by decide +kernel
theorem dX5_findPeaks_48 : decode cX5_findPeaks 48 = .ok (.invokestatic 126, 3) := by decide +kernel
theorem dX5_findPeaks_51 : decode cX5_findPeaks 51 = .ok (.invokestatic 129, 3) := by decide +kernel
theorem dX5_findPeaks_54 : decode cX5_findPeaks 54 = .ok (.istore_n 2, 1) := by decide +kernel
theorem dX5_findPeaks_55 : decode cX5_findPeaks 55 = .ok (.iinc 3 1, 3) := by decide +kernel
theorem dX5_findPeaks_58 : decode cX5_findPeaks 58 = .ok (.goto (-39), 3) := by decide +kernel
theorem dX5_findPeaks_61 : decode cX5_findPeaks 61 = .ok (.aload_n 0, 1) := by decide +kernel
theorem dX5_findPeaks_62 : decode cX5_findPeaks 62 = .ok (.getfield 29, 3) := by decide +kernel
theorem dX5_findPeaks_65 : decode cX5_findPeaks 65 = .ok (.iload_n 1, 1) := by decide +kernel
theorem dX5_findPeaks_66 : decode cX5_findPeaks 66 = .ok (.iload_n 2, 1) := by decide +kernel
theorem dX5_findPeaks_67 : decode cX5_findPeaks 67 = .ok (.iastore, 1) := by decide +kernel
theorem dX5_findPeaks_68 : decode cX5_findPeaks 68 = .ok (.iinc 1 1, 3) := by decide +kernel
theorem dX5_findPeaks_71 : decode cX5_findPeaks 71 = .ok (.goto (-69), 3) := by decide +kernel
theorem dX5_findPeaks_74 : decode cX5_findPeaks 74 = .ok (.return_, 1) := by decide +kernel
theorem dX5_search_0 : decode cX5_search 0 = .ok (.iload_n 1, 1) := by decide +kernel
theorem dX5_search_1 : decode cX5_search 1 = .ok (.aload_n 0, 1) := by decide +kernel
theorem dX5_search_2 : decode cX5_search 2 = .ok (.getfield 44, 3) := by decide +kernel
theorem dX5_search_5 : decode cX5_search 5 = .ok (.invokevirtual 60, 3) := by decide +kernel
theorem dX5_search_8 : decode cX5_search 8 = .ok (.if_icmp .gt 18, 3) := by decide +kernel
theorem dX5_search_11 : decode cX5_search 11 = .ok (.iload_n 2, 1) := by decide +kernel
theorem dX5_search_12 : decode cX5_search 12 = .ok (.aload_n 0, 1) := by decide +kernel
theorem dX5_search_13 : decode cX5_search 13 = .ok (.getfield 23, 3) := by decide +kernel
theorem dX5_search_16 : decode cX5_search 16 = .ok (.iload_n 1, 1) := by decide +kernel
theorem dX5_search_17 : decode cX5_search 17 = .ok (.iaload, 1) := by decide +kernel
theorem dX5_search_18 : decode cX5_search 18 = .ok (.iadd, 1) := by decide +kernel
theorem dX5_search_19 : decode cX5_search 19 = .ok (.aload_n 0, 1) := by decide +kernel
theorem dX5_search_20 : decode cX5_search 20 = .ok (.getfield 105, 3) := by decide +kernel
theorem dX5_search_23 : decode cX5_search 23 = .ok (.if_icmp .lt 4, 3) := by decide +kernel
theorem dX5_search_26 : decode cX5_search 26 = .ok (.return_, 1) := by decide +kernel
theorem dX5_search_27 : decode cX5_search 27 = .ok (.iload_n 1, 1) := by decide +kernel
theorem dX5_search_28 : decode cX5_search 28 = .ok (.aload_n 0, 1) := by decide +kernel
theorem dX5_search_29 : decode cX5_search 29 = .ok (.getfield 44, 3) := by decide +kernel
theorem dX5_search_32 : decode cX5_search 32 = .ok (.invokevirtual 60, 3) := by decide +kernel
theorem dX5_search_35 : decode cX5_search 35 = .ok (.if_icmp .ne 24, 3) := by decide +kernel
theorem dX5_search_38 : decode cX5_search 38 = .ok (.aload_n 0, 1) := by decide +kernel
theorem dX5_search_39 : decode cX5_search 39 = .ok (.iload_n 2, 1) := by decide +kernel
theorem dX5_search_40 : decode cX5_search 40 = .ok (.putfield 105, 3) := by decide +kernel
theorem dX5_search_43 : decode cX5_search 43 = .ok (.aload_n 0, 1) := by decide +kernel
theorem dX5_search_44 : decode cX5_search 44 = .ok (.getfield 38, 3) := by decide +kernel
theorem dX5_search_47 : decode cX5_search 47 = .ok (.iconst 0, 1) := by decide +kernel
theorem dX5_search_48 : decode cX5_search 48 = .ok (.aload_n 0, 1) := by decide +kernel
theorem dX5_search_49 : decode cX5_search 49 = .ok (.getfield 41, 3) := by decide +kernel
theorem dX5_search_52 : decode cX5_search 52 = .ok (.iconst 0, 1) := by decide +kernel
theorem dX5_search_53 : decode cX5_search 53 = .ok (.bipush 7, 2) := by decide +kernel
theorem dX5_search_55 : decode cX5_search 55 = .ok (.invokestatic 132, 3) := by decide +kernel
theorem dX5_search_58 : decode cX5_search 58 = .ok (.return_, 1) := by decide +kernel
theorem dX5_search_59 : decode cX5_search 59 = .ok (.iconst 0, 1) := by decide +kernel
theorem dX5_search_60 : decode cX5_search 60 = .ok (.istore_n 3, 1) := by decide +kernel
theorem dX5_search_61 : decode cX5_search 61 = .ok (.iload_n 3, 1) := by decide +kernel
theorem dX5_search_62 : decode cX5_search 62 = .ok (.aload_n 0, 1) := by decide +kernel
theorem dX5_search_63 : decode cX5_search 63 = .ok (.getfield 48, 3) := by decide +kernel
theorem dX5_search_66 : decode cX5_search 66 = .ok (.invokevirtual 72, 3) := by decide +kernel
theorem dX5_search_69 : decode cX5_search 69 = .ok (.if_icmp .ge 31, 3) := by decide +kernel
theorem dX5_search_72 : decode cX5_search 72 = .ok (.aload_n 0, 1) := by decide +kernel
theorem dX5_search_73 : decode cX5_search 73 = .ok (.getfield 17, 3) := by decide +kernel
theorem dX5_search_76 : decode cX5_search 76 = .ok (.iload_n 1, 1) := by decide +kernel
theorem dX5_search_77 : decode cX5_search 77 = .ok (.iconst 5, 1) := by decide +kernel
theorem dX5_search_78 : decode cX5_search 78 = .ok (.imul, 1) := by decide +kernel
theorem dX5_search_79 : decode cX5_search 79 = .ok (.iload_n 3, 1) := by decide +kernel
theorem dX5_search_80 : decode cX5_search 80 = .ok (.iadd, 1) := by decide +kernel
theorem dX5_search_81 : decode cX5_search 81 = .ok (.iaload, 1) := by decide +kernel
theorem dX5_search_82 : decode cX5_search 82 = .ok (.ldc 84, 2) := by decide +kernel
theorem dX5_search_84 : decode cX5_search 84 = .ok (.if_icmp .eq 10, 3) := by decide +kernel
theorem dX5_search_87 : decode cX5_search 87 = .ok (.aload_n 0, 1) := by decide +kernel
theorem dX5_search_88 : decode cX5_search 88 = .ok (.iload_n 1, 1) := by decide +kernel
theorem dX5_search_89 : decode cX5_search 89 = .ok (.iload_n 3, 1) := by decide +kernel
theorem dX5_search_90 : decode cX5_search 90 = .ok (.iload_n 2, 1) := by decide +kernel
theorem dX5_search_91 : decode cX5_search 91 = .ok (.invokevirtual 138, 3) := by decide +kernel
theorem dX5_search_94 : decode cX5_search 94 = .ok (.iinc 3 1, 3) := by decide +kernel
theorem dX5_search_97 : decode cX5_search 97 = .ok (.goto (-36), 3) := by decide +kernel
theorem dX5_search_100 : decode cX5_search 100 = .ok (.aload_n 0, 1) := by decide +kernel
theorem dX5_search_101 : decode cX5_search 101 = .ok (.getfield 38, 3) := by decide +kernel
theorem dX5_search_104 : decode cX5_search 104 = .ok (.iload_n 1, 1) := by decide +kernel
theorem dX5_search_105 : decode cX5_search 105 = .ok (.iconst (-1), 1) := by decide +kernel
theorem dX5_search_106 : decode cX5_search 106 = .ok (.iastore, 1) := by decide +kernel
theorem dX5_search_107 : decode cX5_search 107 = .ok (.aload_n 0, 1) := by decide +kernel
theorem dX5_search_108 : decode cX5_search 108 = .ok (.iload_n 1, 1) := by decide +kernel
theorem dX5_search_109 : decode cX5_search 109 = .ok (.iconst 1, 1) := by decide +kernel
theorem dX5_search_110 : decode cX5_search 110 = .ok (.iadd, 1) := by decide +kernel
theorem dX5_search_111 : decode cX5_search 111 = .ok (.iload_n 2, 1) := by decide +kernel
theorem dX5_search_112 : decode cX5_search 112 = .ok (.aload_n 0, 1) := by decide +kernel
theorem dX5_search_113 : decode cX5_search 113 = .ok (.getfield 20, 3) := by decide +kernel
theorem dX5_search_116 : decode cX5_search 116 = .ok (.iload_n 1, 1) := by decide +kernel
theorem dX5_search_117 : decode cX5_search 117 = .ok (.iaload, 1) := by decide +kernel
theorem dX5_search_118 : decode cX5_search 118 = .ok (.iadd, 1) := by decide +kernel
theorem dX5_search_119 : decode cX5_search 119 = .ok (.invokevirtual 109, 3) := by decide +kernel
theorem dX5_search_122 : decode cX5_search 122 = .ok (.return_, 1) := by decide +kernel
theorem dX5_searchWithHome_0 : decode cX5_searchWithHome 0 = .ok (.aload_n 0, 1) := by decide +kernel
theorem dX5_searchWithHome_1 : decode cX5_searchWithHome 1 = .ok (.getfield 32, 3) := by decide +kernel
theorem dX5_searchWithHome_4 : decode cX5_searchWithHome 4 = .ok (.iload_n 2, 1) := by decide +kernel
theorem dX5_searchWithHome_5 : decode cX5_searchWithHome 5 = .ok (.iaload, 1) := by decide +kernel
theorem dX5_searchWithHome_6 : decode cX5_searchWithHome 6 = .ok (.istore 4, 2) := by decide +kernel
theorem dX5_searchWithHome_8 : decode cX5_searchWithHome 8 = .ok (.iload 4, 2) := by decide +kernel
theorem dX5_searchWithHome_10 : decode cX5_searchWithHome 10 = .ok (.iconst 1, 1) := by decide +kernel
theorem dX5_searchWithHome_11 : decode cX5_searchWithHome 11 = .ok (.iload_n 1, 1) := by decide +kernel
theorem dX5_searchWithHome_12 : decode cX5_searchWithHome 12 = .ok (.ishl, 1) := by decide +kernel
theorem dX5_searchWithHome_13 : decode cX5_searchWithHome 13 = .ok (.ior, 1) := by decide +kernel
theorem dX5_searchWithHome_14 : decode cX5_searchWithHome 14 = .ok (.istore 5, 2) := by decide +kernel
theorem dX5_searchWithHome_16 : decode cX5_searchWithHome 16 = .ok (.aload_n 0, 1) := by decide +kernel
theorem dX5_searchWithHome_17 : decode cX5_searchWithHome 17 = .ok (.getfield 29, 3) := by decide +kernel
theorem dX5_searchWithHome_20 : decode cX5_searchWithHome 20 = .ok (.iload 5, 2) := by decide +kernel
theorem dX5_searchWithHome_22 : decode cX5_searchWithHome 22 = .ok (.iaload, 1) := by decide +kernel
theorem dX5_searchWithHome_23 : decode cX5_searchWithHome 23 = .ok (.aload_n 0, 1) := by decide +kernel
theorem dX5_searchWithHome_24 : decode cX5_searchWithHome 24 = .ok (.getfield 48, 3) := by decide +kernel
theorem dX5_searchWithHome_27 : decode cX5_searchWithHome 27 = .ok (.iload_n 2, 1) := by decide +kernel
theorem dX5_searchWithHome_28 : decode cX5_searchWithHome 28 = .ok (.invokevirtual 142, 3) := by decide +kernel
theorem dX5_searchWithHome_31 : decode cX5_searchWithHome 31 = .ok (.if_icmp .le 4, 3) := by decide +kernel
theorem dX5_searchWithHome_34 : decode cX5_searchWithHome 34 = .ok (.return_, 1) := by decide +kernel
theorem dX5_searchWithHome_35 : decode cX5_searchWithHome 35 = .ok (.aload_n 0, 1) := by decide +kernel
theorem dX5_searchWithHome_36 : decode cX5_searchWithHome 36 = .ok (.getfield 44, 3) := by decide +kernel
theorem dX5_searchWithHome_39 : decode cX5_searchWithHome 39 = .ok (.iload_n 1, 1) := by decide +kernel
theorem dX5_searchWithHome_40 : decode cX5_searchWithHome 40 = .ok (.invokevirtual 145, 3) := by decide +kernel
theorem dX5_searchWithHome_43 : decode cX5_searchWithHome 43 = .ok (.istore 6, 2) := by decide +kernel
theorem dX5_searchWithHome_45 : decode cX5_searchWithHome 45 = .ok (.aload_n 0, 1) := by decide +kernel
theorem dX5_searchWithHome_46 : decode cX5_searchWithHome 46 = .ok (.getfield 35, 3) := by decide +kernel
theorem dX5_searchWithHome_49 : decode cX5_searchWithHome 49 = .ok (.iload 6, 2) := by decide +kernel
theorem dX5_searchWithHome_51 : decode cX5_searchWithHome 51 = .ok (.iaload, 1) := by decide +kernel
theorem dX5_searchWithHome_52 : decode cX5_searchWithHome 52 = .ok (.istore 7, 2) := by decide +kernel
theorem dX5_searchWithHome_54 : decode cX5_searchWithHome 54 = .ok (.iload 6, 2) := by decide +kernel
theorem dX5_searchWithHome_56 : decode cX5_searchWithHome 56 = .ok (.ifCond .ne 7, 3) := by decide +kernel
theorem dX5_searchWithHome_59 : decode cX5_searchWithHome 59 = .ok (.iconst 0, 1) := by decide +kernel
theorem dX5_searchWithHome_60 : decode cX5_searchWithHome 60 = .ok (.goto 9, 3) := by decide +kernel
theorem dX5_searchWithHome_63 : decode cX5_searchWithHome 63 = .ok (.iload 7, 2) := by decide +kernel
theorem dX5_searchWithHome_65 : decode cX5_searchWithHome 65 = .ok (.iconst 1, 1) := by decide +kernel
theorem dX5_searchWithHome_66 : decode cX5_searchWithHome 66 = .ok (.iload_n 2, 1) := by decide +kernel
theorem dX5_searchWithHome_67 : decode cX5_searchWithHome 67 = .ok (.ishl, 1) := by decide +kernel
theorem dX5_searchWithHome_68 : decode cX5_searchWithHome 68 = .ok (.ior, 1) := by decide +kernel
theorem dX5_searchWithHome_69 : decode cX5_searchWithHome 69 = .ok (.istore 8, 2) := by decide +kernel
theorem dX5_searchWithHome_71 : decode cX5_searchWithHome 71 = .ok (.iload 7, 2) := by decide +kernel
theorem dX5_searchWithHome_73 : decode cX5_searchWithHome 73 = .ok (.invokestatic 126, 3) := by decide +kernel
theorem dX5_searchWithHome_76 : decode cX5_searchWithHome 76 = .ok (.iconst 1, 1) := by decide +kernel
theorem dX5_searchWithHome_77 : decode cX5_searchWithHome 77 = .ok (.if_icmp .ne 14, 3) := by decide +kernel
theorem dX5_searchWithHome_80 : decode cX5_searchWithHome 80 = .ok (.iload 8, 2) := by decide +kernel
theorem dX5_searchWithHome_82 : decode cX5_searchWithHome 82 = .ok (.iload 7, 2) := by decide +kernel
theorem dX5_searchWithHome_84 : decode cX5_searchWithHome 84 = .ok (.if_icmp .eq 7, 3) := by decide +kernel
theorem dX5_searchWithHome_87 : decode cX5_searchWithHome 87 = .ok (.iconst 1, 1) := by decide +kernel
theorem dX5_searchWithHome_88 : decode cX5_searchWithHome 88 = .ok (.goto 4, 3) := by decide +kernel
theorem dX5_searchWithHome_91 : decode cX5_searchWithHome 91 = .ok (.iconst 0, 1) := by decide +kernel
theorem dX5_searchWithHome_92 : decode cX5_searchWithHome 92 = .ok (.istore 9, 2) := by decide +kernel
theorem dX5_searchWithHome_94 : decode cX5_searchWithHome 94 = .ok (.aload_n 0, 1) := by decide +kernel
theorem dX5_searchWithHome_95 : decode cX5_searchWithHome 95 = .ok (.getfield 32, 3) := by decide +kernel
theorem dX5_searchWithHome_98 : decode cX5_searchWithHome 98 = .ok (.iload_n 2, 1) := by decide +kernel
theorem dX5_searchWithHome_99 : decode cX5_searchWithHome 99 = .ok (.iload 5, 2) := by decide +kernel
theorem dX5_searchWithHome_101 : decode cX5_searchWithHome 101 = .ok (.iastore, 1) := by decide +kernel
theorem dX5_searchWithHome_102 : decode cX5_searchWithHome 102 = .ok (.aload_n 0, 1) := by decide +kernel
theorem dX5_searchWithHome_103 : decode cX5_searchWithHome 103 = .ok (.getfield 35, 3) := by decide +kernel
theorem dX5_searchWithHome_106 : decode cX5_searchWithHome 106 = .ok (.iload 6, 2) := by decide +kernel
theorem dX5_searchWithHome_108 : decode cX5_searchWithHome 108 = .ok (.iload 8, 2) := by decide +kernel
theorem dX5_searchWithHome_110 : decode cX5_searchWithHome 110 = .ok (.iastore, 1) := by decide +kernel
theorem dX5_searchWithHome_111 : decode cX5_searchWithHome 111 = .ok (.aload_n 0, 1) := by decide +kernel
theorem dX5_searchWithHome_112 : decode cX5_searchWithHome 112 = .ok (.getfield 38, 3) := by decide +kernel
theorem dX5_searchWithHome_115 : decode cX5_searchWithHome 115 = .ok (.iload_n 1, 1) := by decide +kernel
theorem dX5_searchWithHome_116 : decode cX5_searchWithHome 116 = .ok (.iload_n 2, 1) := by decide +kernel
theorem dX5_searchWithHome_117 : decode cX5_searchWithHome 117 = .ok (.iastore, 1) := by decide +kernel
theorem dX5_searchWithHome_118 : decode cX5_searchWithHome 118 = .ok (.aload_n 0, 1) := by decide +kernel
theorem dX5_searchWithHome_119 : decode cX5_searchWithHome 119 = .ok (.getfield 17, 3) := by decide +kernel
theorem dX5_searchWithHome_122 : decode cX5_searchWithHome 122 = .ok (.iload_n 1, 1) := by decide +kernel
theorem dX5_searchWithHome_123 : decode cX5_searchWithHome 123 = .ok (.iconst 5, 1) := by decide +kernel
theorem dX5_searchWithHome_124 : decode cX5_searchWithHome 124 = .ok (.imul, 1) := by decide +kernel
theorem dX5_searchWithHome_125 : decode cX5_searchWithHome 125 = .ok (.iload_n 2, 1) := by decide +kernel
theorem dX5_searchWithHome_126 : decode cX5_searchWithHome 126 = .ok (.iadd, 1) := by decide +kernel
theorem dX5_searchWithHome_127 : decode cX5_searchWithHome 127 = .ok (.iaload, 1) := by decide +kernel
theorem dX5_searchWithHome_128 : decode cX5_searchWithHome 128 = .ok (.iload 9, 2) := by decide +kernel
theorem dX5_searchWithHome_130 : decode cX5_searchWithHome 130 = .ok (.ifCond .eq 8, 3) := by decide +kernel
theorem dX5_searchWithHome_133 : decode cX5_searchWithHome 133 = .ok (.ldc 148, 2) := by decide +kernel
theorem dX5_searchWithHome_135 : decode cX5_searchWithHome 135 = .ok (.goto 4, 3) := by decide +kernel
theorem dX5_searchWithHome_138 : decode cX5_searchWithHome 138 = .ok (.iconst 0, 1) := by decide +kernel
theorem dX5_searchWithHome_139 : decode cX5_searchWithHome 139 = .ok (.iadd, 1) := by decide +kernel
theorem dX5_searchWithHome_140 : decode cX5_searchWithHome 140 = .ok (.istore 10, 2) := by decide +kernel
theorem dX5_searchWithHome_142 : decode cX5_searchWithHome 142 = .ok (.aload_n 0, 1) := by decide +kernel
theorem dX5_searchWithHome_143 : decode cX5_searchWithHome 143 = .ok (.iload_n 1, 1) := by decide +kernel
theorem dX5_searchWithHome_144 : decode cX5_searchWithHome 144 = .ok (.iconst 1, 1) := by decide +kernel
theorem dX5_searchWithHome_145 : decode cX5_searchWithHome 145 = .ok (.iadd, 1) := by decide +kernel
theorem dX5_searchWithHome_146 : decode cX5_searchWithHome 146 = .ok (.iload_n 3, 1) := by decide +kernel
theorem dX5_searchWithHome_147 : decode cX5_searchWithHome 147 = .ok (.iload 10, 2) := by decide +kernel
theorem dX5_searchWithHome_149 : decode cX5_searchWithHome 149 = .ok (.iadd, 1) := by decide +kernel
theorem dX5_searchWithHome_150 : decode cX5_searchWithHome 150 = .ok (.invokevirtual 109, 3) := by decide +kernel
theorem dX5_searchWithHome_153 : decode cX5_searchWithHome 153 = .ok (.aload_n 0, 1) := by decide +kernel
theorem dX5_searchWithHome_154 : decode cX5_searchWithHome 154 = .ok (.getfield 32, 3) := by decide +kernel
theorem dX5_searchWithHome_157 : decode cX5_searchWithHome 157 = .ok (.iload_n 2, 1) := by decide +kernel
theorem dX5_searchWithHome_158 : decode cX5_searchWithHome 158 = .ok (.iload 4, 2) := by decide +kernel
theorem dX5_searchWithHome_160 : decode cX5_searchWithHome 160 = .ok (.iastore, 1) := by decide +kernel
theorem dX5_searchWithHome_161 : decode cX5_searchWithHome 161 = .ok (.aload_n 0, 1) := by decide +kernel
theorem dX5_searchWithHome_162 : decode cX5_searchWithHome 162 = .ok (.getfield 35, 3) := by decide +kernel
theorem dX5_searchWithHome_165 : decode cX5_searchWithHome 165 = .ok (.iload 6, 2) := by decide +kernel
theorem dX5_searchWithHome_167 : decode cX5_searchWithHome 167 = .ok (.iload 7, 2) := by decide +kernel
theorem dX5_searchWithHome_169 : decode cX5_searchWithHome 169 = .ok (.iastore, 1) := by decide +kernel
theorem dX5_searchWithHome_170 : decode cX5_searchWithHome 170 = .ok (.return_, 1) := by decide +kernel
theorem dX5_settle_0 : decode cX5_settle 0 = .ok (.aload_n 0, 1) := by decide +kernel
theorem dX5_settle_1 : decode cX5_settle 1 = .ok (.getfield 56, 3) := by decide +kernel
theorem dX5_settle_4 : decode cX5_settle 4 = .ok (.invokevirtual 149, 3) := by decide +kernel
theorem dX5_settle_7 : decode cX5_settle 7 = .ok (.aload_n 0, 1) := by decide +kernel
theorem dX5_settle_8 : decode cX5_settle 8 = .ok (.getfield 35, 3) := by decide +kernel
theorem dX5_settle_11 : decode cX5_settle 11 = .ok (.iconst 0, 1) := by decide +kernel
theorem dX5_settle_12 : decode cX5_settle 12 = .ok (.invokestatic 99, 3) := by decide +kernel
theorem dX5_settle_15 : decode cX5_settle 15 = .ok (.iconst 0, 1) := by decide +kernel
theorem dX5_settle_16 : decode cX5_settle 16 = .ok (.istore_n 1, 1) := by decide +kernel
theorem dX5_settle_17 : decode cX5_settle 17 = .ok (.iload_n 1, 1) := by decide +kernel
theorem dX5_settle_18 : decode cX5_settle 18 = .ok (.aload_n 0, 1) := by decide +kernel
theorem dX5_settle_19 : decode cX5_settle 19 = .ok (.getfield 44, 3) := by decide +kernel
theorem dX5_settle_22 : decode cX5_settle 22 = .ok (.invokevirtual 60, 3) := by decide +kernel
theorem dX5_settle_25 : decode cX5_settle 25 = .ok (.if_icmp .ge 54, 3) := by decide +kernel
theorem dX5_settle_28 : decode cX5_settle 28 = .ok (.aload_n 0, 1) := by decide +kernel
theorem dX5_settle_29 : decode cX5_settle 29 = .ok (.getfield 44, 3) := by decide +kernel
theorem dX5_settle_32 : decode cX5_settle 32 = .ok (.iload_n 1, 1) := by decide +kernel
theorem dX5_settle_33 : decode cX5_settle 33 = .ok (.invokevirtual 86, 3) := by decide +kernel
theorem dX5_settle_36 : decode cX5_settle 36 = .ok (.ifCond .eq 23, 3) := by decide +kernel
theorem dX5_settle_39 : decode cX5_settle 39 = .ok (.aload_n 0, 1) := by decide +kernel
theorem dX5_settle_40 : decode cX5_settle 40 = .ok (.getfield 56, 3) := by decide +kernel
theorem dX5_settle_43 : decode cX5_settle 43 = .ok (.iconst 0, 1) := by decide +kernel
theorem dX5_settle_44 : decode cX5_settle 44 = .ok (.iconst 1, 1) := by decide +kernel
theorem dX5_settle_45 : decode cX5_settle 45 = .ok (.invokevirtual 152, 3) := by decide +kernel
theorem dX5_settle_48 : decode cX5_settle 48 = .ok (.aload_n 0, 1) := by decide +kernel
theorem dX5_settle_49 : decode cX5_settle 49 = .ok (.iload_n 1, 1) := by decide +kernel
theorem dX5_settle_50 : decode cX5_settle 50 = .ok (.aload_n 0, 1) := by decide +kernel
theorem dX5_settle_51 : decode cX5_settle 51 = .ok (.getfield 41, 3) := by decide +kernel
theorem dX5_settle_54 : decode cX5_settle 54 = .ok (.iload_n 1, 1) := by decide +kernel
theorem dX5_settle_55 : decode cX5_settle 55 = .ok (.iaload, 1) := by decide +kernel
theorem dX5_settle_56 : decode cX5_settle 56 = .ok (.invokevirtual 155, 3) := by decide +kernel
theorem dX5_settle_59 : decode cX5_settle 59 = .ok (.aload_n 0, 1) := by decide +kernel
theorem dX5_settle_60 : decode cX5_settle 60 = .ok (.getfield 56, 3) := by decide +kernel
theorem dX5_settle_63 : decode cX5_settle 63 = .ok (.iload_n 1, 1) := by decide +kernel
theorem dX5_settle_64 : decode cX5_settle 64 = .ok (.aload_n 0, 1) := by decide +kernel
theorem dX5_settle_65 : decode cX5_settle 65 = .ok (.getfield 41, 3) := by decide +kernel
theorem dX5_settle_68 : decode cX5_settle 68 = .ok (.iload_n 1, 1) := by decide +kernel
theorem dX5_settle_69 : decode cX5_settle 69 = .ok (.iaload, 1) := by decide +kernel
theorem dX5_settle_70 : decode cX5_settle 70 = .ok (.invokevirtual 158, 3) := by decide +kernel
theorem dX5_settle_73 : decode cX5_settle 73 = .ok (.iinc 1 1, 3) := by decide +kernel
theorem dX5_settle_76 : decode cX5_settle 76 = .ok (.goto (-59), 3) := by decide +kernel
theorem dX5_settle_79 : decode cX5_settle 79 = .ok (.iconst 1, 1) := by decide +kernel
theorem dX5_settle_80 : decode cX5_settle 80 = .ok (.istore_n 1, 1) := by decide +kernel
theorem dX5_settle_81 : decode cX5_settle 81 = .ok (.iload_n 1, 1) := by decide +kernel
theorem dX5_settle_82 : decode cX5_settle 82 = .ok (.iconst 3, 1) := by decide +kernel
theorem dX5_settle_83 : decode cX5_settle 83 = .ok (.if_icmp .gt 35, 3) := by decide +kernel
theorem dX5_settle_86 : decode cX5_settle 86 = .ok (.aload_n 0, 1) := by decide +kernel
theorem dX5_settle_87 : decode cX5_settle 87 = .ok (.getfield 56, 3) := by decide +kernel
theorem dX5_settle_90 : decode cX5_settle 90 = .ok (.iconst 2, 1) := by decide +kernel
theorem dX5_settle_91 : decode cX5_settle 91 = .ok (.aload_n 0, 1) := by decide +kernel
theorem dX5_settle_92 : decode cX5_settle 92 = .ok (.getfield 35, 3) := by decide +kernel
theorem dX5_settle_95 : decode cX5_settle 95 = .ok (.iload_n 1, 1) := by decide +kernel
theorem dX5_settle_96 : decode cX5_settle 96 = .ok (.iaload, 1) := by decide +kernel
theorem dX5_settle_97 : decode cX5_settle 97 = .ok (.invokestatic 126, 3) := by decide +kernel
theorem dX5_settle_100 : decode cX5_settle 100 = .ok (.iconst 1, 1) := by decide +kernel
theorem dX5_settle_101 : decode cX5_settle 101 = .ok (.if_icmp .le 7, 3) := by decide +kernel
theorem dX5_settle_104 : decode cX5_settle 104 = .ok (.iconst 1, 1) := by decide +kernel
theorem dX5_settle_105 : decode cX5_settle 105 = .ok (.goto 4, 3) := by decide +kernel
theorem dX5_settle_108 : decode cX5_settle 108 = .ok (.iconst 0, 1) := by decide +kernel
theorem dX5_settle_109 : decode cX5_settle 109 = .ok (.invokevirtual 152, 3) := by decide +kernel
theorem dX5_settle_112 : decode cX5_settle 112 = .ok (.iinc 1 1, 3) := by decide +kernel
theorem dX5_settle_115 : decode cX5_settle 115 = .ok (.goto (-34), 3) := by decide +kernel
theorem dX5_settle_118 : decode cX5_settle 118 = .ok (.return_, 1) := by decide +kernel
theorem dX5_countChild_0 : decode cX5_countChild 0 = .ok (.aload_n 0, 1) := by decide +kernel
theorem dX5_countChild_1 : decode cX5_countChild 1 = .ok (.getfield 56, 3) := by decide +kernel
theorem dX5_countChild_4 : decode cX5_countChild 4 = .ok (.iload_n 1, 1) := by decide +kernel
theorem dX5_countChild_5 : decode cX5_countChild 5 = .ok (.invokevirtual 66, 3) := by decide +kernel
theorem dX5_countChild_8 : decode cX5_countChild 8 = .ok (.istore_n 3, 1) := by decide +kernel
theorem dX5_countChild_9 : decode cX5_countChild 9 = .ok (.iload_n 3, 1) := by decide +kernel
theorem dX5_countChild_10 : decode cX5_countChild 10 = .ok (.iconst (-1), 1) := by decide +kernel
theorem dX5_countChild_11 : decode cX5_countChild 11 = .ok (.if_icmp .eq 17, 3) := by decide +kernel
theorem dX5_countChild_14 : decode cX5_countChild 14 = .ok (.iload_n 3, 1) := by decide +kernel
theorem dX5_countChild_15 : decode cX5_countChild 15 = .ok (.iload_n 2, 1) := by decide +kernel
theorem dX5_countChild_16 : decode cX5_countChild 16 = .ok (.if_icmp .eq 12, 3) := by decide +kernel
theorem dX5_countChild_19 : decode cX5_countChild 19 = .ok (.aload_n 0, 1) := by decide +kernel
theorem dX5_countChild_20 : decode cX5_countChild 20 = .ok (.getfield 56, 3) := by decide +kernel
theorem dX5_countChild_23 : decode cX5_countChild 23 = .ok (.iconst 3, 1) := by decide +kernel
theorem dX5_countChild_24 : decode cX5_countChild 24 = .ok (.iconst 1, 1) := by decide +kernel
theorem dX5_countChild_25 : decode cX5_countChild 25 = .ok (.invokevirtual 152, 3) := by decide +kernel
theorem dX5_countChild_28 : decode cX5_countChild 28 = .ok (.iload_n 2, 1) := by decide +kernel
theorem dX5_countChild_29 : decode cX5_countChild 29 = .ok (.iconst (-1), 1) := by decide +kernel
theorem dX5_countChild_30 : decode cX5_countChild 30 = .ok (.if_icmp .ne 15, 3) := by decide +kernel
theorem dX5_countChild_33 : decode cX5_countChild 33 = .ok (.aload_n 0, 1) := by decide +kernel
theorem dX5_countChild_34 : decode cX5_countChild 34 = .ok (.getfield 56, 3) := by decide +kernel
theorem dX5_countChild_37 : decode cX5_countChild 37 = .ok (.iconst 1, 1) := by decide +kernel
theorem dX5_countChild_38 : decode cX5_countChild 38 = .ok (.iconst 1, 1) := by decide +kernel
theorem dX5_countChild_39 : decode cX5_countChild 39 = .ok (.invokevirtual 152, 3) := by decide +kernel
theorem dX5_countChild_42 : decode cX5_countChild 42 = .ok (.goto 40, 3) := by decide +kernel
theorem dX5_countChild_45 : decode cX5_countChild 45 = .ok (.aload_n 0, 1) := by decide +kernel
theorem dX5_countChild_46 : decode cX5_countChild 46 = .ok (.getfield 35, 3) := by decide +kernel
theorem dX5_countChild_49 : decode cX5_countChild 49 = .ok (.aload_n 0, 1) := by decide +kernel
theorem dX5_countChild_50 : decode cX5_countChild 50 = .ok (.getfield 44, 3) := by decide +kernel
theorem dX5_countChild_53 : decode cX5_countChild 53 = .ok (.iload_n 1, 1) := by decide +kernel
theorem dX5_countChild_54 : decode cX5_countChild 54 = .ok (.invokevirtual 145, 3) := by decide +kernel
theorem dX5_countChild_57 : decode cX5_countChild 57 = .ok (.dup2, 1) := by decide +kernel
theorem dX5_countChild_58 : decode cX5_countChild 58 = .ok (.iaload, 1) := by decide +kernel
theorem dX5_countChild_59 : decode cX5_countChild 59 = .ok (.iconst 1, 1) := by decide +kernel
theorem dX5_countChild_60 : decode cX5_countChild 60 = .ok (.iload_n 2, 1) := by decide +kernel
theorem dX5_countChild_61 : decode cX5_countChild 61 = .ok (.ishl, 1) := by decide +kernel
theorem dX5_countChild_62 : decode cX5_countChild 62 = .ok (.ior, 1) := by decide +kernel
theorem dX5_countChild_63 : decode cX5_countChild 63 = .ok (.iastore, 1) := by decide +kernel
theorem dX5_countChild_64 : decode cX5_countChild 64 = .ok (.aload_n 0, 1) := by decide +kernel
theorem dX5_countChild_65 : decode cX5_countChild 65 = .ok (.getfield 56, 3) := by decide +kernel
theorem dX5_countChild_68 : decode cX5_countChild 68 = .ok (.iconst 4, 1) := by decide +kernel
theorem dX5_countChild_69 : decode cX5_countChild 69 = .ok (.aload_n 0, 1) := by decide +kernel
theorem dX5_countChild_70 : decode cX5_countChild 70 = .ok (.getfield 13, 3) := by decide +kernel
theorem dX5_countChild_73 : decode cX5_countChild 73 = .ok (.iload_n 1, 1) := by decide +kernel
theorem dX5_countChild_74 : decode cX5_countChild 74 = .ok (.iconst 5, 1) := by decide +kernel
theorem dX5_countChild_75 : decode cX5_countChild 75 = .ok (.imul, 1) := by decide +kernel
theorem dX5_countChild_76 : decode cX5_countChild 76 = .ok (.iload_n 2, 1) := by decide +kernel
theorem dX5_countChild_77 : decode cX5_countChild 77 = .ok (.iadd, 1) := by decide +kernel
theorem dX5_countChild_78 : decode cX5_countChild 78 = .ok (.iaload, 1) := by decide +kernel
theorem dX5_countChild_79 : decode cX5_countChild 79 = .ok (.invokevirtual 152, 3) := by decide +kernel
theorem dX5_countChild_82 : decode cX5_countChild 82 = .ok (.return_, 1) := by decide +kernel
theorem dX6_init_0 : decode cX6_init 0 = .ok (.aload_n 0, 1) := by decide +kernel
theorem dX6_init_1 : decode cX6_init 1 = .ok (.invokespecial 3, 3) := by decide +kernel
theorem dX6_init_4 : decode cX6_init 4 = .ok (.aload_n 0, 1) := by decide +kernel
theorem dX6_init_5 : decode cX6_init 5 = .ok (.bipush 7, 2) := by decide +kernel
theorem dX6_init_7 : decode cX6_init 7 = .ok (.newarray .int, 2) := by decide +kernel
theorem dX6_init_9 : decode cX6_init 9 = .ok (.putfield 9, 3) := by decide +kernel
theorem dX6_init_12 : decode cX6_init 12 = .ok (.aload_n 0, 1) := by decide +kernel
theorem dX6_init_13 : decode cX6_init 13 = .ok (.iconst 5, 1) := by decide +kernel
theorem dX6_init_14 : decode cX6_init 14 = .ok (.newarray .int, 2) := by decide +kernel
theorem dX6_init_16 : decode cX6_init 16 = .ok (.putfield 15, 3) := by decide +kernel
theorem dX6_init_19 : decode cX6_init 19 = .ok (.aload_n 0, 1) := by decide +kernel
theorem dX6_init_20 : decode cX6_init 20 = .ok (.getfield 9, 3) := by decide +kernel
theorem dX6_init_23 : decode cX6_init 23 = .ok (.iconst (-1), 1) := by decide +kernel
theorem dX6_init_24 : decode cX6_init 24 = .ok (.invokestatic 18, 3) := by decide +kernel
theorem dX6_init_27 : decode cX6_init 27 = .ok (.aload_n 0, 1) := by decide +kernel
theorem dX6_init_28 : decode cX6_init 28 = .ok (.getfield 15, 3) := by decide +kernel
theorem dX6_init_31 : decode cX6_init 31 = .ok (.iconst (-1), 1) := by decide +kernel
theorem dX6_init_32 : decode cX6_init 32 = .ok (.invokestatic 18, 3) := by decide +kernel
theorem dX6_init_35 : decode cX6_init 35 = .ok (.return_, 1) := by decide +kernel
theorem dX6_homeOf_0 : decode cX6_homeOf 0 = .ok (.iload_n 1, 1) := by decide +kernel
theorem dX6_homeOf_1 : decode cX6_homeOf 1 = .ok (.ifCond .lt 18, 3) := by decide +kernel
theorem dX6_homeOf_4 : decode cX6_homeOf 4 = .ok (.iload_n 1, 1) := by decide +kernel
theorem dX6_homeOf_5 : decode cX6_homeOf 5 = .ok (.bipush 7, 2) := by decide +kernel
theorem dX6_homeOf_7 : decode cX6_homeOf 7 = .ok (.if_icmp .ge 12, 3) := by decide +kernel
theorem dX6_homeOf_10 : decode cX6_homeOf 10 = .ok (.aload_n 0, 1) := by decide +kernel
theorem dX6_homeOf_11 : decode cX6_homeOf 11 = .ok (.getfield 9, 3) := by decide +kernel
theorem dX6_homeOf_14 : decode cX6_homeOf 14 = .ok (.iload_n 1, 1) := by decide +kernel
theorem dX6_homeOf_15 : decode cX6_homeOf 15 = .ok (.iaload, 1) := by decide +kernel
theorem dX6_homeOf_16 : decode cX6_homeOf 16 = .ok (.goto 4, 3) := by decide +kernel
theorem dX6_homeOf_19 : decode cX6_homeOf 19 = .ok (.iconst (-1), 1) := by decide +kernel
theorem dX6_homeOf_20 : decode cX6_homeOf 20 = .ok (.ireturn, 1) := by decide +kernel
theorem dX6_figure_0 : decode cX6_figure 0 = .ok (.iload_n 1, 1) := by decide +kernel
theorem dX6_figure_1 : decode cX6_figure 1 = .ok (.ifCond .lt 17, 3) := by decide +kernel
theorem dX6_figure_4 : decode cX6_figure 4 = .ok (.iload_n 1, 1) := by decide +kernel
theorem dX6_figure_5 : decode cX6_figure 5 = .ok (.iconst 5, 1) := by decide +kernel
theorem dX6_figure_6 : decode cX6_figure 6 = .ok (.if_icmp .ge 12, 3) := by decide +kernel
theorem dX6_figure_9 : decode cX6_figure 9 = .ok (.aload_n 0, 1) := by decide +kernel
theorem dX6_figure_10 : decode cX6_figure 10 = .ok (.getfield 15, 3) := by decide +kernel
theorem dX6_figure_13 : decode cX6_figure 13 = .ok (.iload_n 1, 1) := by decide +kernel
theorem dX6_figure_14 : decode cX6_figure 14 = .ok (.iaload, 1) := by decide +kernel
theorem dX6_figure_15 : decode cX6_figure 15 = .ok (.goto 4, 3) := by decide +kernel
theorem dX6_figure_18 : decode cX6_figure 18 = .ok (.iconst (-1), 1) := by decide +kernel
theorem dX6_figure_19 : decode cX6_figure 19 = .ok (.ireturn, 1) := by decide +kernel
theorem dX6_setHome_0 : decode cX6_setHome 0 = .ok (.iload_n 1, 1) := by decide +kernel
theorem dX6_setHome_1 : decode cX6_setHome 1 = .ok (.ifCond .lt 16, 3) := by decide +kernel
theorem dX6_setHome_4 : decode cX6_setHome 4 = .ok (.iload_n 1, 1) := by decide +kernel
theorem dX6_setHome_5 : decode cX6_setHome 5 = .ok (.bipush 7, 2) := by decide +kernel
theorem dX6_setHome_7 : decode cX6_setHome 7 = .ok (.if_icmp .ge 10, 3) := by decide +kernel
theorem dX6_setHome_10 : decode cX6_setHome 10 = .ok (.aload_n 0, 1) := by decide +kernel
theorem dX6_setHome_11 : decode cX6_setHome 11 = .ok (.getfield 9, 3) := by decide +kernel
theorem dX6_setHome_14 : decode cX6_setHome 14 = .ok (.iload_n 1, 1) := by decide +kernel
theorem dX6_setHome_15 : decode cX6_setHome 15 = .ok (.iload_n 2, 1) := by decide +kernel
theorem dX6_setHome_16 : decode cX6_setHome 16 = .ok (.iastore, 1) := by decide +kernel
theorem dX6_setHome_17 : decode cX6_setHome 17 = .ok (.return_, 1) := by decide +kernel
theorem dX6_clearFigures_0 : decode cX6_clearFigures 0 = .ok (.aload_n 0, 1) := by decide +kernel
theorem dX6_clearFigures_1 : decode cX6_clearFigures 1 = .ok (.getfield 15, 3) := by decide +kernel
theorem dX6_clearFigures_4 : decode cX6_clearFigures 4 = .ok (.iconst 0, 1) := by decide +kernel
theorem dX6_clearFigures_5 : decode cX6_clearFigures 5 = .ok (.invokestatic 18, 3) := by decide +kernel
theorem dX6_clearFigures_8 : decode cX6_clearFigures 8 = .ok (.return_, 1) := by decide +kernel
theorem dX6_raise_0 : decode cX6_raise 0 = .ok (.iload_n 1, 1) := by decide +kernel
theorem dX6_raise_1 : decode cX6_raise 1 = .ok (.ifCond .lt 18, 3) := by decide +kernel
theorem dX6_raise_4 : decode cX6_raise 4 = .ok (.iload_n 1, 1) := by decide +kernel
theorem dX6_raise_5 : decode cX6_raise 5 = .ok (.iconst 5, 1) := by decide +kernel
theorem dX6_raise_6 : decode cX6_raise 6 = .ok (.if_icmp .ge 13, 3) := by decide +kernel
theorem dX6_raise_9 : decode cX6_raise 9 = .ok (.aload_n 0, 1) := by decide +kernel
theorem dX6_raise_10 : decode cX6_raise 10 = .ok (.getfield 15, 3) := by decide +kernel
theorem dX6_raise_13 : decode cX6_raise 13 = .ok (.iload_n 1, 1) := by decide +kernel
theorem dX6_raise_14 : decode cX6_raise 14 = .ok (.dup2, 1) := by decide +kernel
theorem dX6_raise_15 : decode cX6_raise 15 = .ok (.iaload, 1) := by decide +kernel
theorem dX6_raise_16 : decode cX6_raise 16 = .ok (.iload_n 2, 1) := by decide +kernel
theorem dX6_raise_17 : decode cX6_raise 17 = .ok (.iadd, 1) := by decide +kernel
theorem dX6_raise_18 : decode cX6_raise 18 = .ok (.iastore, 1) := by decide +kernel
theorem dX6_raise_19 : decode cX6_raise 19 = .ok (.return_, 1) := by decide +kernel
theorem dX7_init_0 : decode cX7_init 0 = .ok (.aload_n 0, 1) := by decide +kernel
theorem dX7_init_1 : decode cX7_init 1 = .ok (.invokespecial 3, 3) := by decide +kernel
theorem dX7_init_4 : decode cX7_init 4 = .ok (.aload_n 0, 1) := by decide +kernel
theorem dX7_init_5 : decode cX7_init 5 = .ok (.bipush 20, 2) := by decide +kernel
theorem dX7_init_7 : decode cX7_init 7 = .ok (.newarray .int, 2) := by decide +kernel
theorem dX7_init_9 : decode cX7_init 9 = .ok (.putfield 11, 3) := by decide +kernel
theorem dX7_init_12 : decode cX7_init 12 = .ok (.aload_n 0, 1) := by decide +kernel
theorem dX7_init_13 : decode cX7_init 13 = .ok (.bipush 20, 2) := by decide +kernel
theorem dX7_init_15 : decode cX7_init 15 = .ok (.newarray .int, 2) := by decide +kernel
theorem dX7_init_17 : decode cX7_init 17 = .ok (.putfield 15, 3) := by decide +kernel
theorem dX7_init_20 : decode cX7_init 20 = .ok (.aload_n 0, 1) := by decide +kernel
theorem dX7_init_21 : decode cX7_init 21 = .ok (.bipush 20, 2) := by decide +kernel
theorem dX7_init_23 : decode cX7_init 23 = .ok (.newarray .int, 2) := by decide +kernel
theorem dX7_init_25 : decode cX7_init 25 = .ok (.putfield 18, 3) := by decide +kernel
theorem dX7_init_28 : decode cX7_init 28 = .ok (.aload_n 0, 1) := by decide +kernel
theorem dX7_init_29 : decode cX7_init 29 = .ok (.bipush 120, 2) := by decide +kernel
theorem dX7_init_31 : decode cX7_init 31 = .ok (.newarray .int, 2) := by decide +kernel
theorem dX7_init_33 : decode cX7_init 33 = .ok (.putfield 21, 3) := by decide +kernel
theorem dX7_init_36 : decode cX7_init 36 = .ok (.aload_n 0, 1) := by decide +kernel
theorem dX7_init_37 : decode cX7_init 37 = .ok (.bipush 120, 2) := by decide +kernel
theorem dX7_init_39 : decode cX7_init 39 = .ok (.newarray .int, 2) := by decide +kernel
theorem dX7_init_41 : decode cX7_init 41 = .ok (.putfield 24, 3) := by decide +kernel
theorem dX7_init_44 : decode cX7_init 44 = .ok (.aload_n 0, 1) := by decide +kernel
theorem dX7_init_45 : decode cX7_init 45 = .ok (.bipush 120, 2) := by decide +kernel
theorem dX7_init_47 : decode cX7_init 47 = .ok (.newarray .int, 2) := by decide +kernel
theorem dX7_init_49 : decode cX7_init 49 = .ok (.putfield 27, 3) := by decide +kernel
theorem dX7_init_52 : decode cX7_init 52 = .ok (.return_, 1) := by decide +kernel
theorem dX7_size_0 : decode cX7_size 0 = .ok (.aload_n 0, 1) := by decide +kernel
theorem dX7_size_1 : decode cX7_size 1 = .ok (.getfield 30, 3) := by decide +kernel
theorem dX7_size_4 : decode cX7_size 4 = .ok (.ireturn, 1) := by decide +kernel
theorem dX7_clear_0 : decode cX7_clear 0 = .ok (.aload_n 0, 1) := by decide +kernel
theorem dX7_clear_1 : decode cX7_clear 1 = .ok (.iconst 0, 1) := by decide +kernel
theorem dX7_clear_2 : decode cX7_clear 2 = .ok (.putfield 30, 3) := by decide +kernel
theorem dX7_clear_5 : decode cX7_clear 5 = .ok (.return_, 1) := by decide +kernel
theorem dX7_addRule_0 : decode cX7_addRule 0 = .ok (.aload_n 0, 1) := by decide +kernel
theorem dX7_addRule_1 : decode cX7_addRule 1 = .ok (.getfield 30, 3) := by decide +kernel
theorem dX7_addRule_4 : decode cX7_addRule 4 = .ok (.bipush 20, 2) := by decide +kernel
theorem dX7_addRule_6 : decode cX7_addRule 6 = .ok (.if_icmp .ge 43, 3) := by decide +kernel
theorem dX7_addRule_9 : decode cX7_addRule 9 = .ok (.aload_n 0, 1) := by decide +kernel
theorem dX7_addRule_10 : decode cX7_addRule 10 = .ok (.getfield 11, 3) := by decide +kernel
theorem dX7_addRule_13 : decode cX7_addRule 13 = .ok (.aload_n 0, 1) := by decide +kernel
theorem dX7_addRule_14 : decode cX7_addRule 14 = .ok (.getfield 30, 3) := by decide +kernel
theorem dX7_addRule_17 : decode cX7_addRule 17 = .ok (.iload_n 1, 1) := by decide +kernel
theorem dX7_addRule_18 : decode cX7_addRule 18 = .ok (.iastore, 1) := by decide +kernel
theorem dX7_addRule_19 : decode cX7_addRule 19 = .ok (.aload_n 0, 1) := by decide +kernel
theorem dX7_addRule_20 : decode cX7_addRule 20 = .ok (.getfield 15, 3) := by decide +kernel
theorem dX7_addRule_23 : decode cX7_addRule 23 = .ok (.aload_n 0, 1) := by decide +kernel
theorem dX7_addRule_24 : decode cX7_addRule 24 = .ok (.getfield 30, 3) := by decide +kernel
theorem dX7_addRule_27 : decode cX7_addRule 27 = .ok (.iload_n 2, 1) := by decide +kernel
theorem dX7_addRule_28 : decode cX7_addRule 28 = .ok (.iastore, 1) := by decide +kernel
theorem dX7_addRule_29 : decode cX7_addRule 29 = .ok (.aload_n 0, 1) := by decide +kernel
theorem dX7_addRule_30 : decode cX7_addRule 30 = .ok (.getfield 18, 3) := by decide +kernel
theorem dX7_addRule_33 : decode cX7_addRule 33 = .ok (.aload_n 0, 1) := by decide +kernel
theorem dX7_addRule_34 : decode cX7_addRule 34 = .ok (.getfield 30, 3) := by decide +kernel
theorem dX7_addRule_37 : decode cX7_addRule 37 = .ok (.iconst 0, 1) := by decide +kernel
theorem dX7_addRule_38 : decode cX7_addRule 38 = .ok (.iastore, 1) := by decide +kernel
theorem dX7_addRule_39 : decode cX7_addRule 39 = .ok (.aload_n 0, 1) := by decide +kernel
theorem dX7_addRule_40 : decode cX7_addRule 40 = .ok (.dup, 1) := by decide +kernel
theorem dX7_addRule_41 : decode cX7_addRule 41 = .ok (.getfield 30, 3) := by decide +kernel
theorem dX7_addRule_44 : decode cX7_addRule 44 = .ok (.iconst 1, 1) := by decide +kernel
theorem dX7_addRule_45 : decode cX7_addRule 45 = .ok (.iadd, 1) := by decide +kernel
theorem dX7_addRule_46 : decode cX7_addRule 46 = .ok (.putfield 30, 3) := by decide +kernel
theorem dX7_addRule_49 : decode cX7_addRule 49 = .ok (.return_, 1) := by decide +kernel
theorem dX7_addTerm_0 : decode cX7_addTerm 0 = .ok (.aload_n 0, 1) := by decide +kernel
theorem dX7_addTerm_1 : decode cX7_addTerm 1 = .ok (.getfield 30, 3) := by decide +kernel
theorem dX7_addTerm_4 : decode cX7_addTerm 4 = .ok (.iconst 1, 1) := by decide +kernel
theorem dX7_addTerm_5 : decode cX7_addTerm 5 = .ok (.isub, 1) := by decide +kernel
theorem dX7_addTerm_6 : decode cX7_addTerm 6 = .ok (.istore 4, 2) := by decide +kernel
theorem dX7_addTerm_8 : decode cX7_addTerm 8 = .ok (.iload 4, 2) := by decide +kernel
theorem dX7_addTerm_10 : decode cX7_addTerm 10 = .ok (.ifCond .lt 15, 3) := by decide +kernel
theorem dX7_addTerm_13 : decode cX7_addTerm 13 = .ok (.aload_n 0, 1) := by decide +kernel
theorem dX7_addTerm_14 : decode cX7_addTerm 14 = .ok (.getfield 18, 3) := by decide +kernel
theorem dX7_addTerm_17 : decode cX7_addTerm 17 = .ok (.iload 4, 2) := by decide +kernel
theorem dX7_addTerm_19 : decode cX7_addTerm 19 = .ok (.iaload, 1) := by decide +kernel
theorem dX7_addTerm_20 : decode cX7_addTerm 20 = .ok (.bipush 6, 2) := by decide +kernel
theorem dX7_addTerm_22 : decode cX7_addTerm 22 = .ok (.if_icmp .lt 4, 3) := by decide +kernel
theorem dX7_addTerm_25 : decode cX7_addTerm 25 = .ok (.return_, 1) := by decide +kernel
theorem dX7_addTerm_26 : decode cX7_addTerm 26 = .ok (.iload 4, 2) := by decide +kernel
theorem dX7_addTerm_28 : decode cX7_addTerm 28 = .ok (.bipush 6, 2) := by decide +kernel
theorem dX7_addTerm_30 : decode cX7_addTerm 30 = .ok (.imul, 1) := by decide +kernel
theorem dX7_addTerm_31 : decode cX7_addTerm 31 = .ok (.aload_n 0, 1) := by decide +kernel
theorem dX7_addTerm_32 : decode cX7_addTerm 32 = .ok (.getfield 18, 3) := by decide +kernel
theorem dX7_addTerm_35 : decode cX7_addTerm 35 = .ok (.iload 4, 2) := by decide +kernel
theorem dX7_addTerm_37 : decode cX7_addTerm 37 = .ok (.iaload, 1) := by decide +kernel
theorem dX7_addTerm_38 : decode cX7_addTerm 38 = .ok (.iadd, 1) := by decide +kernel
theorem dX7_addTerm_39 : decode cX7_addTerm 39 = .ok (.istore 5, 2) := by decide +kernel
theorem dX7_addTerm_41 : decode cX7_addTerm 41 = .ok (.aload_n 0, 1) := by decide +kernel
theorem dX7_addTerm_42 : decode cX7_addTerm 42 = .ok (.getfield 21, 3) := by decide +kernel
theorem dX7_addTerm_45 : decode cX7_addTerm 45 = .ok (.iload 5, 2) := by decide +kernel
theorem dX7_addTerm_47 : decode cX7_addTerm 47 = .ok (.iload_n 1, 1) := by decide +kernel
theorem dX7_addTerm_48 : decode cX7_addTerm 48 = .ok (.iastore, 1) := by decide +kernel
theorem dX7_addTerm_49 : decode cX7_addTerm 49 = .ok (.aload_n 0, 1) := by decide +kernel
theorem dX7_addTerm_50 : decode cX7_addTerm 50 = .ok (.getfield 24, 3) := by decide +kernel
theorem dX7_addTerm_53 : decode cX7_addTerm 53 = .ok (.iload 5, 2) := by decide +kernel
theorem dX7_addTerm_55 : decode cX7_addTerm 55 = .ok (.iload_n 2, 1) := by decide +kernel
theorem dX7_addTerm_56 : decode cX7_addTerm 56 = .ok (.iastore, 1) := by decide +kernel
theorem dX7_addTerm_57 : decode cX7_addTerm 57 = .ok (.aload_n 0, 1) := by decide +kernel
theorem dX7_addTerm_58 : decode cX7_addTerm 58 = .ok (.getfield 27, 3) := by decide +kernel
theorem dX7_addTerm_61 : decode cX7_addTerm 61 = .ok (.iload 5, 2) := by decide +kernel
theorem dX7_addTerm_63 : decode cX7_addTerm 63 = .ok (.iload_n 3, 1) := by decide +kernel
theorem dX7_addTerm_64 : decode cX7_addTerm 64 = .ok (.iastore, 1) := by decide +kernel
theorem dX7_addTerm_65 : decode cX7_addTerm 65 = .ok (.aload_n 0, 1) := by decide +kernel
theorem dX7_addTerm_66 : decode cX7_addTerm 66 = .ok (.getfield 18, 3) := by decide +kernel
theorem dX7_addTerm_69 : decode cX7_addTerm 69 = .ok (.iload 4, 2) := by decide +kernel
theorem dX7_addTerm_71 : decode cX7_addTerm 71 = .ok (.dup2, 1) := by decide +kernel
theorem dX7_addTerm_72 : decode cX7_addTerm 72 = .ok (.iaload, 1) := by decide +kernel
theorem dX7_addTerm_73 : decode cX7_addTerm 73 = .ok (.iconst 1, 1) := by decide +kernel
theorem dX7_addTerm_74 : decode cX7_addTerm 74 = .ok (.iadd, 1) := by decide +kernel
theorem dX7_addTerm_75 : decode cX7_addTerm 75 = .ok (.iastore, 1) := by decide +kernel
theorem dX7_addTerm_76 : decode cX7_addTerm 76 = .ok (.return_, 1) := by decide +kernel
theorem dX7_takeFrom_0 : decode cX7_takeFrom 0 = .ok (.aload_n 1, 1) := by decide +kernel
theorem dX7_takeFrom_1 : decode cX7_takeFrom 1 = .ok (.getfield 11, 3) := by decide +kernel
theorem dX7_takeFrom_4 : decode cX7_takeFrom 4 = .ok (.iconst 0, 1) := by decide +kernel
theorem dX7_takeFrom_5 : decode cX7_takeFrom 5 = .ok (.aload_n 0, 1) := by decide +kernel
theorem dX7_takeFrom_6 : decode cX7_takeFrom 6 = .ok (.getfield 11, 3) := by decide +kernel
theorem dX7_takeFrom_9 : decode cX7_takeFrom 9 = .ok (.iconst 0, 1) := by decide +kernel
theorem dX7_takeFrom_10 : decode cX7_takeFrom 10 = .ok (.bipush 20, 2) := by decide +kernel
theorem dX7_takeFrom_12 : decode cX7_takeFrom 12 = .ok (.invokestatic 34, 3) := by decide +kernel
theorem dX7_takeFrom_15 : decode cX7_takeFrom 15 = .ok (.aload_n 1, 1) := by decide +kernel
theorem dX7_takeFrom_16 : decode cX7_takeFrom 16 = .ok (.getfield 15, 3) := by decide +kernel
theorem dX7_takeFrom_19 : decode cX7_takeFrom 19 = .ok (.iconst 0, 1) := by decide +kernel
theorem dX7_takeFrom_20 : decode cX7_takeFrom 20 = .ok (.aload_n 0, 1) := by decide +kernel
theorem dX7_takeFrom_21 : decode cX7_takeFrom 21 = .ok (.getfield 15, 3) := by decide +kernel
theorem dX7_takeFrom_24 : decode cX7_takeFrom 24 = .ok (.iconst 0, 1) := by decide +kernel
theorem dX7_takeFrom_25 : decode cX7_takeFrom 25 = .ok (.bipush 20, 2) := by decide +kernel
theorem dX7_takeFrom_27 : decode cX7_takeFrom 27 = .ok (.invokestatic 34, 3) := by decide +kernel
theorem dX7_takeFrom_30 : decode cX7_takeFrom 30 = .ok (.aload_n 1, 1) := by decide +kernel
theorem dX7_takeFrom_31 : decode cX7_takeFrom 31 = .ok (.getfield 18, 3) := by decide +kernel
theorem dX7_takeFrom_34 : decode cX7_takeFrom 34 = .ok (.iconst 0, 1) := by decide +kernel
theorem dX7_takeFrom_35 : decode cX7_takeFrom 35 = .ok (.aload_n 0, 1) := by decide +kernel
theorem dX7_takeFrom_36 : decode cX7_takeFrom 36 = .ok (.getfield 18, 3) := by decide +kernel
theorem dX7_takeFrom_39 : decode cX7_takeFrom 39 = .ok (.iconst 0, 1) := by decide +kernel
theorem dX7_takeFrom_40 : decode cX7_takeFrom 40 = .ok (.bipush 20, 2) := by decide +kernel
theorem dX7_takeFrom_42 : decode cX7_takeFrom 42 = .ok (.invokestatic 34, 3) := by decide +kernel
theorem dX7_takeFrom_45 : decode cX7_takeFrom 45 = .ok (.aload_n 1, 1) := by decide +kernel
theorem dX7_takeFrom_46 : decode cX7_takeFrom 46 = .ok (.getfield 21, 3) := by decide +kernel
theorem dX7_takeFrom_49 : decode cX7_takeFrom 49 = .ok (.iconst 0, 1) := by decide +kernel
theorem dX7_takeFrom_50 : decode cX7_takeFrom 50 = .ok (.aload_n 0, 1) := by decide +kernel
theorem dX7_takeFrom_51 : decode cX7_takeFrom 51 = .ok (.getfield 21, 3) := by decide +kernel
theorem dX7_takeFrom_54 : decode cX7_takeFrom 54 = .ok (.iconst 0, 1) := by decide +kernel
theorem dX7_takeFrom_55 : decode cX7_takeFrom 55 = .ok (.bipush 120, 2) := by decide +kernel
theorem dX7_takeFrom_57 : decode cX7_takeFrom 57 = .ok (.invokestatic 34, 3) := by decide +kernel
theorem dX7_takeFrom_60 : decode cX7_takeFrom 60 = .ok (.aload_n 1, 1) := by decide +kernel
theorem dX7_takeFrom_61 : decode cX7_takeFrom 61 = .ok (.getfield 24, 3) := by decide +kernel
theorem dX7_takeFrom_64 : decode cX7_takeFrom 64 = .ok (.iconst 0, 1) := by decide +kernel
theorem dX7_takeFrom_65 : decode cX7_takeFrom 65 = .ok (.aload_n 0, 1) := by decide +kernel
theorem dX7_takeFrom_66 : decode cX7_takeFrom 66 = .ok (.getfield 24, 3) := by decide +kernel
theorem dX7_takeFrom_69 : decode cX7_takeFrom 69 = .ok (.iconst 0, 1) := by decide +kernel
theorem dX7_takeFrom_70 : decode cX7_takeFrom 70 = .ok (.bipush 120, 2) := by decide +kernel
theorem dX7_takeFrom_72 : decode cX7_takeFrom 72 = .ok (.invokestatic 34, 3) := by decide +kernel
theorem dX7_takeFrom_75 : decode cX7_takeFrom 75 = .ok (.aload_n 1, 1) := by decide +kernel
theorem dX7_takeFrom_76 : decode cX7_takeFrom 76 = .ok (.getfield 27, 3) := by decide +kernel
theorem dX7_takeFrom_79 : decode cX7_takeFrom 79 = .ok (.iconst 0, 1) := by decide +kernel
theorem dX7_takeFrom_80 : decode cX7_takeFrom 80 = .ok (.aload_n 0, 1) := by decide +kernel
theorem dX7_takeFrom_81 : decode cX7_takeFrom 81 = .ok (.getfield 27, 3) := by decide +kernel
theorem dX7_takeFrom_84 : decode cX7_takeFrom 84 = .ok (.iconst 0, 1) := by decide +kernel
theorem dX7_takeFrom_85 : decode cX7_takeFrom 85 = .ok (.bipush 120, 2) := by decide +kernel
theorem dX7_takeFrom_87 : decode cX7_takeFrom 87 = .ok (.invokestatic 34, 3) := by decide +kernel
theorem dX7_takeFrom_90 : decode cX7_takeFrom 90 = .ok (.aload_n 0, 1) := by decide +kernel
theorem dX7_takeFrom_91 : decode cX7_takeFrom 91 = .ok (.aload_n 1, 1) := by decide +kernel
theorem dX7_takeFrom_92 : decode cX7_takeFrom 92 = .ok (.getfield 30, 3) := by decide +kernel
theorem dX7_takeFrom_95 : decode cX7_takeFrom 95 = .ok (.putfield 30, 3) := by decide +kernel
theorem dX7_takeFrom_98 : decode cX7_takeFrom 98 = .ok (.return_, 1) := by decide +kernel
theorem dX7_firstBroken_0 : decode cX7_firstBroken 0 = .ok (.iconst 0, 1) := by decide +kernel
theorem dX7_firstBroken_1 : decode cX7_firstBroken 1 = .ok (.istore_n 3, 1) := by decide +kernel
theorem dX7_firstBroken_2 : decode cX7_firstBroken 2 = .ok (.iload_n 3, 1) := by decide +kernel
theorem dX7_firstBroken_3 : decode cX7_firstBroken 3 = .ok (.aload_n 0, 1) := by decide +kernel
theorem dX7_firstBroken_4 : decode cX7_firstBroken 4 = .ok (.getfield 30, 3) := by decide +kernel
theorem dX7_firstBroken_7 : decode cX7_firstBroken 7 = .ok (.if_icmp .ge 30, 3) := by decide +kernel
theorem dX7_firstBroken_10 : decode cX7_firstBroken 10 = .ok (.aload_n 0, 1) := by decide +kernel
theorem dX7_firstBroken_11 : decode cX7_firstBroken 11 = .ok (.getfield 11, 3) := by decide +kernel
theorem dX7_firstBroken_14 : decode cX7_firstBroken 14 = .ok (.iload_n 3, 1) := by decide +kernel
theorem dX7_firstBroken_15 : decode cX7_firstBroken 15 = .ok (.iaload, 1) := by decide +kernel
theorem dX7_firstBroken_16 : decode cX7_firstBroken 16 = .ok (.iload_n 1, 1) := by decide +kernel
theorem dX7_firstBroken_17 : decode cX7_firstBroken 17 = .ok (.if_icmp .ne 14, 3) := by decide +kernel
theorem dX7_firstBroken_20 : decode cX7_firstBroken 20 = .ok (.aload_n 0, 1) := by decide +kernel
theorem dX7_firstBroken_21 : decode cX7_firstBroken 21 = .ok (.iload_n 3, 1) := by decide +kernel
theorem dX7_firstBroken_22 : decode cX7_firstBroken 22 = .ok (.aload_n 2, 1) := by decide +kernel
theorem dX7_firstBroken_23 : decode cX7_firstBroken 23 = .ok (.invokevirtual 40, 3) := by decide +kernel
theorem dX7_firstBroken_26 : decode cX7_firstBroken 26 = .ok (.ifCond .ne 5, 3) := by decide +kernel
theorem dX7_firstBroken_29 : decode cX7_firstBroken 29 = .ok (.iload_n 3, 1) := by decide +kernel
theorem dX7_firstBroken_30 : decode cX7_firstBroken 30 = .ok (.ireturn, 1) := by decide +kernel
theorem dX7_firstBroken_31 : decode cX7_firstBroken 31 = .ok (.iinc 3 1, 3) := by decide +kernel
theorem dX7_firstBroken_34 : decode cX7_firstBroken 34 = .ok (.goto (-32), 3) := by decide +kernel
theorem dX7_firstBroken_37 : decode cX7_firstBroken 37 = .ok (.iconst (-1), 1) := by decide +kernel
theorem dX7_firstBroken_38 : decode cX7_firstBroken 38 = .ok (.ireturn, 1) := by decide +kernel
theorem dX7_wishSum_0 : decode cX7_wishSum 0 = .ok (.iconst 0, 1) := by decide +kernel
theorem dX7_wishSum_1 : decode cX7_wishSum 1 = .ok (.istore_n 2, 1) := by decide +kernel
theorem dX7_wishSum_2 : decode cX7_wishSum 2 = .ok (.iconst 0, 1) := by decide +kernel
theorem dX7_wishSum_3 : decode cX7_wishSum 3 = .ok (.istore_n 3, 1) := by decide +kernel
theorem dX7_wishSum_4 : decode cX7_wishSum 4 = .ok (.iload_n 3, 1) := by decide +kernel
theorem dX7_wishSum_5 : decode cX7_wishSum 5 = .ok (.aload_n 0, 1) := by decide +kernel
theorem dX7_wishSum_6 : decode cX7_wishSum 6 = .ok (.getfield 30, 3) := by decide +kernel
theorem dX7_wishSum_9 : decode cX7_wishSum 9 = .ok (.if_icmp .ge 37, 3) := by decide +kernel
theorem dX7_wishSum_12 : decode cX7_wishSum 12 = .ok (.aload_n 0, 1) := by decide +kernel
theorem dX7_wishSum_13 : decode cX7_wishSum 13 = .ok (.getfield 11, 3) := by decide +kernel
theorem dX7_wishSum_16 : decode cX7_wishSum 16 = .ok (.iload_n 3, 1) := by decide +kernel
theorem dX7_wishSum_17 : decode cX7_wishSum 17 = .ok (.iaload, 1) := by decide +kernel
theorem dX7_wishSum_18 : decode cX7_wishSum 18 = .ok (.iconst 2, 1) := by decide +kernel
theorem dX7_wishSum_19 : decode cX7_wishSum 19 = .ok (.if_icmp .ne 21, 3) := by decide +kernel
theorem dX7_wishSum_22 : decode cX7_wishSum 22 = .ok (.aload_n 0, 1) := by decide +kernel
theorem dX7_wishSum_23 : decode cX7_wishSum 23 = .ok (.iload_n 3, 1) := by decide +kernel
theorem dX7_wishSum_24 : decode cX7_wishSum 24 = .ok (.aload_n 1, 1) := by decide +kernel
theorem dX7_wishSum_25 : decode cX7_wishSum 25 = .ok (.invokevirtual 40, 3) := by decide +kernel
theorem dX7_wishSum_28 : decode cX7_wishSum 28 = .ok (.ifCond .eq 12, 3) := by decide +kernel
theorem dX7_wishSum_31 : decode cX7_wishSum 31 = .ok (.iload_n 2, 1) := by decide +kernel
theorem dX7_wishSum_32 : decode cX7_wishSum 32 = .ok (.aload_n 0, 1) := by decide +kernel
theorem dX7_wishSum_33 : decode cX7_wishSum 33 = .ok (.getfield 15, 3) := by decide +kernel
theorem dX7_wishSum_36 : decode cX7_wishSum 36 = .ok (.iload_n 3, 1) := by decide +kernel
theorem dX7_wishSum_37 : decode cX7_wishSum 37 = .ok (.iaload, 1) := by decide +kernel
theorem dX7_wishSum_38 : decode cX7_wishSum 38 = .ok (.iadd, 1) := by decide +kernel
theorem dX7_wishSum_39 : decode cX7_wishSum 39 = .ok (.istore_n 2, 1) := by decide +kernel
theorem dX7_wishSum_40 : decode cX7_wishSum 40 = .ok (.iinc 3 1, 3) := by decide +kernel
theorem dX7_wishSum_43 : decode cX7_wishSum 43 = .ok (.goto (-39), 3) := by decide +kernel
theorem dX7_wishSum_46 : decode cX7_wishSum 46 = .ok (.iload_n 2, 1) := by decide +kernel
theorem dX7_wishSum_47 : decode cX7_wishSum 47 = .ok (.ireturn, 1) := by decide +kernel
theorem dX7_isSo_0 : decode cX7_isSo 0 = .ok (.iload_n 1, 1) := by decide +kernel
theorem dX7_isSo_1 : decode cX7_isSo 1 = .ok (.bipush 6, 2) := by decide +kernel
theorem dX7_isSo_3 : decode cX7_isSo 3 = .ok (.imul, 1) := by decide +kernel
theorem dX7_isSo_4 : decode cX7_isSo 4 = .ok (.istore_n 3, 1) := by decide +kernel
theorem dX7_isSo_5 : decode cX7_isSo 5 = .ok (.iload_n 3, 1) := by decide +kernel
theorem dX7_isSo_6 : decode cX7_isSo 6 = .ok (.istore 4, 2) := by decide +kernel
theorem dX7_isSo_8 : decode cX7_isSo 8 = .ok (.iload 4, 2) := by decide +kernel
theorem dX7_isSo_10 : decode cX7_isSo 10 = .ok (.iload_n 3, 1) := by decide +kernel
theorem dX7_isSo_11 : decode cX7_isSo 11 = .ok (.aload_n 0, 1) := by decide +kernel
theorem dX7_isSo_12 : decode cX7_isSo 12 = .ok (.getfield 18, 3) := by decide +kernel
theorem dX7_isSo_15 : decode cX7_isSo 15 = .ok (.iload_n 1, 1) := by decide +kernel
theorem dX7_isSo_16 : decode cX7_isSo 16 = .ok (.iaload, 1) := by decide +kernel
theorem dX7_isSo_17 : decode cX7_isSo 17 = .ok (.iadd, 1) := by decide +kernel
theorem dX7_isSo_18 : decode cX7_isSo 18 = .ok (.if_icmp .ge 54, 3) := by decide +kernel
theorem dX7_isSo_21 : decode cX7_isSo 21 = .ok (.aload_n 2, 1) := by decide +kernel
theorem dX7_isSo_22 : decode cX7_isSo 22 = .ok (.aload_n 0, 1) := by decide +kernel
theorem dX7_isSo_23 : decode cX7_isSo 23 = .ok (.getfield 21, 3) := by decide +kernel
theorem dX7_isSo_26 : decode cX7_isSo 26 = .ok (.iload 4, 2) := by decide +kernel
theorem dX7_isSo_28 : decode cX7_isSo 28 = .ok (.iaload, 1) := by decide +kernel
theorem dX7_isSo_29 : decode cX7_isSo 29 = .ok (.invokevirtual 44, 3) := by decide +kernel
theorem dX7_isSo_32 : decode cX7_isSo 32 = .ok (.istore 5, 2) := by decide +kernel
theorem dX7_isSo_34 : decode cX7_isSo 34 = .ok (.aload_n 2, 1) := by decide +kernel
theorem dX7_isSo_35 : decode cX7_isSo 35 = .ok (.aload_n 0, 1) := by decide +kernel
theorem dX7_isSo_36 : decode cX7_isSo 36 = .ok (.getfield 27, 3) := by decide +kernel
theorem dX7_isSo_39 : decode cX7_isSo 39 = .ok (.iload 4, 2) := by decide +kernel
theorem dX7_isSo_41 : decode cX7_isSo 41 = .ok (.iaload, 1) := by decide +kernel
theorem dX7_isSo_42 : decode cX7_isSo 42 = .ok (.invokevirtual 44, 3) := by decide +kernel
theorem dX7_isSo_45 : decode cX7_isSo 45 = .ok (.istore 6, 2) := by decide +kernel
theorem dX7_isSo_47 : decode cX7_isSo 47 = .ok (.iload 5, 2) := by decide +kernel
theorem dX7_isSo_49 : decode cX7_isSo 49 = .ok (.iload 6, 2) := by decide +kernel
theorem dX7_isSo_51 : decode cX7_isSo 51 = .ok (.invokestatic 50, 3) := by decide +kernel
theorem dX7_isSo_54 : decode cX7_isSo 54 = .ok (.aload_n 0, 1) := by decide +kernel
theorem dX7_isSo_55 : decode cX7_isSo 55 = .ok (.getfield 24, 3) := by decide +kernel
theorem dX7_isSo_58 : decode cX7_isSo 58 = .ok (.iload 4, 2) := by decide +kernel
theorem dX7_isSo_60 : decode cX7_isSo 60 = .ok (.iaload, 1) := by decide +kernel
theorem dX7_isSo_61 : decode cX7_isSo 61 = .ok (.if_icmp .eq 5, 3) := by decide +kernel
theorem dX7_isSo_64 : decode cX7_isSo 64 = .ok (.iconst 0, 1) := by decide +kernel
theorem dX7_isSo_65 : decode cX7_isSo 65 = .ok (.ireturn, 1) := by decide +kernel
theorem dX7_isSo_66 : decode cX7_isSo 66 = .ok (.iinc 4 1, 3) := by decide +kernel
theorem dX7_isSo_69 : decode cX7_isSo 69 = .ok (.goto (-61), 3) := by decide +kernel
theorem dX7_isSo_72 : decode cX7_isSo 72 = .ok (.iconst 1, 1) := by decide +kernel
theorem dX7_isSo_73 : decode cX7_isSo 73 = .ok (.ireturn, 1) := by decide +kernel
theorem dX7_signOf_0 : decode cX7_signOf 0 = .ok (.iload_n 0, 1) := by decide +kernel
theorem dX7_signOf_1 : decode cX7_signOf 1 = .ok (.iload_n 1, 1) := by decide +kernel
theorem dX7_signOf_2 : decode cX7_signOf 2 = .ok (.if_icmp .ne 6, 3) := by decide +kernel
theorem dX7_signOf_5 : decode cX7_signOf 5 = .ok (.bipush 61, 2) := by decide +kernel
theorem dX7_signOf_7 : decode cX7_signOf 7 = .ok (.ireturn, 1) := by decide +kernel
theorem dX7_signOf_8 : decode cX7_signOf 8 = .ok (.iload_n 0, 1) := by decide +kernel
theorem dX7_signOf_9 : decode cX7_signOf 9 = .ok (.iload_n 1, 1) := by decide +kernel
theorem dX7_signOf_10 : decode cX7_signOf 10 = .ok (.if_icmp .ge 8, 3) := by decide +kernel
theorem dX7_signOf_13 : decode cX7_signOf 13 = .ok (.bipush 60, 2) := by decide +kernel
theorem dX7_signOf_15 : decode cX7_signOf 15 = .ok (.goto 5, 3) := by decide +kernel
theorem dX7_signOf_18 : decode cX7_signOf 18 = .ok (.bipush 62, 2) := by decide +kernel
theorem dX7_signOf_20 : decode cX7_signOf 20 = .ok (.ireturn, 1) := by decide +kernel
theorem dX8_init_0 : decode cX8_init 0 = .ok (.aload_n 0, 1) := by decide +kernel
theorem dX8_init_1 : decode cX8_init 1 = .ok (.invokespecial 3, 3) := by decide +kernel
theorem dX8_init_4 : decode cX8_init 4 = .ok (.aload_n 0, 1) := by decide +kernel
theorem dX8_init_5 : decode cX8_init 5 = .ok (.new 9, 3) := by decide +kernel
theorem dX8_init_8 : decode cX8_init 8 = .ok (.dup, 1) := by decide +kernel
theorem dX8_init_9 : decode cX8_init 9 = .ok (.invokespecial 11, 3) := by decide +kernel
theorem dX8_init_12 : decode cX8_init 12 = .ok (.putfield 12, 3) := by decide +kernel
theorem dX8_init_15 : decode cX8_init 15 = .ok (.aload_n 0, 1) := by decide +kernel
theorem dX8_init_16 : decode cX8_init 16 = .ok (.aload_n 1, 1) := by decide +kernel
theorem dX8_init_17 : decode cX8_init 17 = .ok (.putfield 18, 3) := by decide +kernel
theorem dX8_init_20 : decode cX8_init 20 = .ok (.return_, 1) := by decide +kernel
theorem dX8_draft_0 : decode cX8_draft 0 = .ok (.aload_n 0, 1) := by decide +kernel
theorem dX8_draft_1 : decode cX8_draft 1 = .ok (.getfield 12, 3) := by decide +kernel
theorem dX8_draft_4 : decode cX8_draft 4 = .ok (.areturn, 1) := by decide +kernel
theorem dX8_read_0 : decode cX8_read 0 = .ok (.aload_n 0, 1) := by decide +kernel
theorem dX8_read_1 : decode cX8_read 1 = .ok (.getfield 12, 3) := by decide +kernel
theorem dX8_read_4 : decode cX8_read 4 = .ok (.invokevirtual 22, 3) := by decide +kernel
theorem dX8_read_7 : decode cX8_read 7 = .ok (.aload_n 0, 1) := by decide +kernel
theorem dX8_read_8 : decode cX8_read 8 = .ok (.iconst (-1), 1) := by decide +kernel
theorem dX8_read_9 : decode cX8_read 9 = .ok (.putfield 25, 3) := by decide +kernel
theorem dX8_read_12 : decode cX8_read 12 = .ok (.aload_n 0, 1) := by decide +kernel
theorem dX8_read_13 : decode cX8_read 13 = .ok (.iconst 0, 1) := by decide +kernel
theorem dX8_read_14 : decode cX8_read 14 = .ok (.putfield 29, 3) := by decide +kernel
theorem dX8_read_17 : decode cX8_read 17 = .ok (.aload_n 0, 1) := by decide +kernel
theorem dX8_read_18 : decode cX8_read 18 = .ok (.invokevirtual 32, 3) := by decide +kernel
theorem dX8_read_21 : decode cX8_read 21 = .ok (.aload_n 0, 1) := by decide +kernel
theorem dX8_read_22 : decode cX8_read 22 = .ok (.invokevirtual 35, 3) := by decide +kernel
theorem dX8_read_25 : decode cX8_read 25 = .ok (.ifCond .ne 7, 3) := by decide +kernel
theorem dX8_read_28 : decode cX8_read 28 = .ok (.iconst 1, 1) := by decide +kernel
theorem dX8_read_29 : decode cX8_read 29 = .ok (.goto 4, 3) := by decide +kernel
theorem dX8_read_32 : decode cX8_read 32 = .ok (.iconst 0, 1) := by decide +kernel
theorem dX8_read_33 : decode cX8_read 33 = .ok (.istore_n 1, 1) := by decide +kernel
theorem dX8_read_34 : decode cX8_read 34 = .ok (.iconst 0, 1) := by decide +kernel
theorem dX8_read_35 : decode cX8_read 35 = .ok (.istore_n 2, 1) := by decide +kernel
theorem dX8_read_36 : decode cX8_read 36 = .ok (.iload_n 1, 1) := by decide +kernel
theorem dX8_read_37 : decode cX8_read 37 = .ok (.ifCond .eq 43, 3) := by decide +kernel
theorem dX8_read_40 : decode cX8_read 40 = .ok (.iload_n 2, 1) := by decide +kernel
theorem dX8_read_41 : decode cX8_read 41 = .ok (.bipush 20, 2) := by decide +kernel
theorem dX8_read_43 : decode cX8_read 43 = .ok (.if_icmp .gt 37, 3) := by decide +kernel
theorem dX8_read_46 : decode cX8_read 46 = .ok (.aload_n 0, 1) := by decide +kernel
theorem dX8_read_47 : decode cX8_read 47 = .ok (.iload_n 2, 1) := by decide +kernel
theorem dX8_read_48 : decode cX8_read 48 = .ok (.invokevirtual 39, 3) := by decide +kernel
theorem dX8_read_51 : decode cX8_read 51 = .ok (.ifCond .eq 21, 3) := by decide +kernel
theorem dX8_read_54 : decode cX8_read 54 = .ok (.aload_n 0, 1) := by decide +kernel
theorem dX8_read_55 : decode cX8_read 55 = .ok (.invokevirtual 43, 3) := by decide +kernel
theorem dX8_read_58 : decode cX8_read 58 = .ok (.ifCond .eq 14, 3) := by decide +kernel
theorem dX8_read_61 : decode cX8_read 61 = .ok (.aload_n 0, 1) := by decide +kernel
theorem dX8_read_62 : decode cX8_read 62 = .ok (.invokevirtual 46, 3) := by decide +kernel
theorem dX8_read_65 : decode cX8_read 65 = .ok (.ifCond .eq 7, 3) := by decide +kernel
theorem dX8_read_68 : decode cX8_read 68 = .ok (.iconst 1, 1) := by decide +kernel
theorem dX8_read_69 : decode cX8_read 69 = .ok (.goto 4, 3) := by decide +kernel
theorem dX8_read_72 : decode cX8_read 72 = .ok (.iconst 0, 1) := by decide +kernel
theorem dX8_read_73 : decode cX8_read 73 = .ok (.istore_n 1, 1) := by decide +kernel
theorem dX8_read_74 : decode cX8_read 74 = .ok (.iinc 2 1, 3) := by decide +kernel
theorem dX8_read_77 : decode cX8_read 77 = .ok (.goto (-41), 3) := by decide +kernel
theorem dX8_read_80 : decode cX8_read 80 = .ok (.aload_n 0, 1) := by decide +kernel
theorem dX8_read_81 : decode cX8_read 81 = .ok (.getfield 25, 3) := by decide +kernel
theorem dX8_read_84 : decode cX8_read 84 = .ok (.ireturn, 1) := by decide +kernel
theorem dX8_readHead_0 : decode cX8_readHead 0 = .ok (.aload_n 0, 1) := by decide +kernel
theorem dX8_readHead_1 : decode cX8_readHead 1 = .ok (.invokevirtual 49, 3) := by decide +kernel
theorem dX8_readHead_4 : decode cX8_readHead 4 = .ok (.istore_n 2, 1) := by decide +kernel
theorem dX8_readHead_5 : decode cX8_readHead 5 = .ok (.iload_n 2, 1) := by decide +kernel
theorem dX8_readHead_6 : decode cX8_readHead 6 = .ok (.iconst (-1), 1) := by decide +kernel
theorem dX8_readHead_7 : decode cX8_readHead 7 = .ok (.if_icmp .ne 9, 3) := by decide +kernel
theorem dX8_readHead_10 : decode cX8_readHead 10 = .ok (.aload_n 0, 1) := by decide +kernel
theorem dX8_readHead_11 : decode cX8_readHead 11 = .ok (.iconst 0, 1) := by decide +kernel
theorem dX8_readHead_12 : decode cX8_readHead 12 = .ok (.invokevirtual 53, 3) := by decide +kernel
theorem dX8_readHead_15 : decode cX8_readHead 15 = .ok (.ireturn, 1) := by decide +kernel
theorem dX8_readHead_16 : decode cX8_readHead 16 = .ok (.iload_n 1, 1) := by decide +kernel
theorem dX8_readHead_17 : decode cX8_readHead 17 = .ok (.bipush 20, 2) := by decide +kernel
theorem dX8_readHead_19 : decode cX8_readHead 19 = .ok (.if_icmp .lt 9, 3) := by decide +kernel
theorem dX8_readHead_22 : decode cX8_readHead 22 = .ok (.aload_n 0, 1) := by decide +kernel
theorem dX8_readHead_23 : decode cX8_readHead 23 = .ok (.iconst 2, 1) := by decide +kernel
theorem dX8_readHead_24 : decode cX8_readHead 24 = .ok (.invokevirtual 53, 3) := by decide +kernel
theorem dX8_readHead_27 : decode cX8_readHead 27 = .ok (.ireturn, 1) := by decide +kernel
theorem dX8_readHead_28 : decode cX8_readHead 28 = .ok (.aload_n 0, 1) := by decide +kernel
theorem dX8_readHead_29 : decode cX8_readHead 29 = .ok (.invokevirtual 32, 3) := by decide +kernel
theorem dX8_readHead_32 : decode cX8_readHead 32 = .ok (.iload_n 2, 1) := by decide +kernel
theorem dX8_readHead_33 : decode cX8_readHead 33 = .ok (.iconst 2, 1) := by decide +kernel
theorem dX8_readHead_34 : decode cX8_readHead 34 = .ok (.if_icmp .ne 10, 3) := by decide +kernel
theorem dX8_readHead_37 : decode cX8_readHead 37 = .ok (.aload_n 0, 1) := by decide +kernel
theorem dX8_readHead_38 : decode cX8_readHead 38 = .ok (.invokevirtual 56, 3) := by decide +kernel
theorem dX8_readHead_41 : decode cX8_readHead 41 = .ok (.goto 4, 3) := by decide +kernel
theorem dX8_readHead_44 : decode cX8_readHead 44 = .ok (.iconst 0, 1) := by decide +kernel
theorem dX8_readHead_45 : decode cX8_readHead 45 = .ok (.istore_n 3, 1) := by decide +kernel
theorem dX8_readHead_46 : decode cX8_readHead 46 = .ok (.iload_n 3, 1) := by decide +kernel
theorem dX8_readHead_47 : decode cX8_readHead 47 = .ok (.iconst (-1), 1) := by decide +kernel
theorem dX8_readHead_48 : decode cX8_readHead 48 = .ok (.if_icmp .ne 5, 3) := by decide +kernel
theorem dX8_readHead_51 : decode cX8_readHead 51 = .ok (.iconst 0, 1) := by decide +kernel
theorem dX8_readHead_52 : decode cX8_readHead 52 = .ok (.ireturn, 1) := by decide +kernel
theorem dX8_readHead_53 : decode cX8_readHead 53 = .ok (.aload_n 0, 1) := by decide +kernel
theorem dX8_readHead_54 : decode cX8_readHead 54 = .ok (.getfield 12, 3) := by decide +kernel
theorem dX8_readHead_57 : decode cX8_readHead 57 = .ok (.iload_n 2, 1) := by decide +kernel
theorem dX8_readHead_58 : decode cX8_readHead 58 = .ok (.iload_n 3, 1) := by decide +kernel
theorem dX8_readHead_59 : decode cX8_readHead 59 = .ok (.invokevirtual 59, 3) := by decide +kernel
theorem dX8_readHead_62 : decode cX8_readHead 62 = .ok (.iconst 1, 1) := by decide +kernel
theorem dX8_readHead_63 : decode cX8_readHead 63 = .ok (.ireturn, 1) := by decide +kernel
theorem dX8_readBetweenRules_0 : decode cX8_readBetweenRules 0 = .ok (.aload_n 0, 1) := by decide +kernel
theorem dX8_readBetweenRules_1 : decode cX8_readBetweenRules 1 = .ok (.invokevirtual 35, 3) := by decide +kernel
theorem dX8_readBetweenRules_4 : decode cX8_readBetweenRules 4 = .ok (.ifCond .eq 5, 3) := by decide +kernel
theorem dX8_readBetweenRules_7 : decode cX8_readBetweenRules 7 = .ok (.iconst 0, 1) := by decide +kernel
theorem dX8_readBetweenRules_8 : decode cX8_readBetweenRules 8 = .ok (.ireturn, 1) := by decide +kernel
theorem dX8_readBetweenRules_9 : decode cX8_readBetweenRules 9 = .ok (.aload_n 0, 1) := by decide +kernel
theorem dX8_readBetweenRules_10 : decode cX8_readBetweenRules 10 = .ok (.getfield 18, 3) := by decide +kernel
theorem dX8_readBetweenRules_13 : decode cX8_readBetweenRules 13 = .ok (.aload_n 0, 1) := by decide +kernel
theorem dX8_readBetweenRules_14 : decode cX8_readBetweenRules 14 = .ok (.getfield 63, 3) := by decide +kernel
theorem dX8_readBetweenRules_17 : decode cX8_readBetweenRules 17 = .ok (.invokevirtual 66, 3) := by decide +kernel
theorem dX8_readBetweenRules_20 : decode cX8_readBetweenRules 20 = .ok (.bipush 59, 2) := by decide +kernel
theorem dX8_readBetweenRules_22 : decode cX8_readBetweenRules 22 = .ok (.if_icmp .eq 9, 3) := by decide +kernel
theorem dX8_readBetweenRules_25 : decode cX8_readBetweenRules 25 = .ok (.aload_n 0, 1) := by decide +kernel
theorem dX8_readBetweenRules_26 : decode cX8_readBetweenRules 26 = .ok (.iconst 0, 1) := by decide +kernel
theorem dX8_readBetweenRules_27 : decode cX8_readBetweenRules 27 = .ok (.invokevirtual 53, 3) := by decide +kernel
theorem dX8_readBetweenRules_30 : decode cX8_readBetweenRules 30 = .ok (.ireturn, 1) := by decide +kernel
theorem dX8_readBetweenRules_31 : decode cX8_readBetweenRules 31 = .ok (.aload_n 0, 1) := by decide +kernel
theorem dX8_readBetweenRules_32 : decode cX8_readBetweenRules 32 = .ok (.invokevirtual 32, 3) := by decide +kernel
theorem dX8_readBetweenRules_35 : decode cX8_readBetweenRules 35 = .ok (.iconst 1, 1) := by decide +kernel
theorem dX8_readBetweenRules_36 : decode cX8_readBetweenRules 36 = .ok (.ireturn, 1) := by decide +kernel
theorem dX8_kindOfWord_0 : decode cX8_kindOfWord 0 = .ok (.aload_n 0, 1) := by decide +kernel
theorem dX8_kindOfWord_1 : decode cX8_kindOfWord 1 = .ok (.ldc 72, 2) := by decide +kernel
theorem dX8_kindOfWord_3 : decode cX8_kindOfWord 3 = .ok (.invokevirtual 74, 3) := by decide +kernel
theorem dX8_kindOfWord_6 : decode cX8_kindOfWord 6 = .ok (.ifCond .eq 5, 3) := by decide +kernel
theorem dX8_kindOfWord_9 : decode cX8_kindOfWord 9 = .ok (.iconst 0, 1) := by decide +kernel
theorem dX8_kindOfWord_10 : decode cX8_kindOfWord 10 = .ok (.ireturn, 1) := by decide +kernel
theorem dX8_kindOfWord_11 : decode cX8_kindOfWord 11 = .ok (.aload_n 0, 1) := by decide +kernel
theorem dX8_kindOfWord_12 : decode cX8_kindOfWord 12 = .ok (.ldc 78, 2) := by decide +kernel
theorem dX8_kindOfWord_14 : decode cX8_kindOfWord 14 = .ok (.invokevirtual 74, 3) := by decide +kernel
theorem dX8_kindOfWord_17 : decode cX8_kindOfWord 17 = .ok (.ifCond .eq 5, 3) := by decide +kernel
theorem dX8_kindOfWord_20 : decode cX8_kindOfWord 20 = .ok (.iconst 1, 1) := by decide +kernel
theorem dX8_kindOfWord_21 : decode cX8_kindOfWord 21 = .ok (.ireturn, 1) := by decide +kernel
theorem dX8_kindOfWord_22 : decode cX8_kindOfWord 22 = .ok (.aload_n 0, 1) := by decide +kernel
theorem dX8_kindOfWord_23 : decode cX8_kindOfWord 23 = .ok (.ldc 80, 2) := by decide +kernel
theorem dX8_kindOfWord_25 : decode cX8_kindOfWord 25 = .ok (.invokevirtual 74, 3) := by decide +kernel
theorem dX8_kindOfWord_28 : decode cX8_kindOfWord 28 = .ok (.ifCond .eq 7, 3) := by decide +kernel
theorem dX8_kindOfWord_31 : decode cX8_kindOfWord 31 = .ok (.iconst 2, 1) := by decide +kernel
theorem dX8_kindOfWord_32 : decode cX8_kindOfWord 32 = .ok (.goto 4, 3) := by decide +kernel
theorem dX8_kindOfWord_35 : decode cX8_kindOfWord 35 = .ok (.iconst (-1), 1) := by decide +kernel
theorem dX8_kindOfWord_36 : decode cX8_kindOfWord 36 = .ok (.ireturn, 1) := by decide +kernel
theorem dX8_readWeight_0 : decode cX8_readWeight 0 = .ok (.aload_n 0, 1) := by decide +kernel
theorem dX8_readWeight_1 : decode cX8_readWeight 1 = .ok (.invokevirtual 82, 3) := by decide +kernel
theorem dX8_readWeight_4 : decode cX8_readWeight 4 = .ok (.ifCond .eq 10, 3) := by decide +kernel
theorem dX8_readWeight_7 : decode cX8_readWeight 7 = .ok (.aload_n 0, 1) := by decide +kernel
theorem dX8_readWeight_8 : decode cX8_readWeight 8 = .ok (.invokevirtual 85, 3) := by decide +kernel
theorem dX8_readWeight_11 : decode cX8_readWeight 11 = .ok (.goto 4, 3) := by decide +kernel
theorem dX8_readWeight_14 : decode cX8_readWeight 14 = .ok (.iconst (-1), 1) := by decide +kernel
theorem dX8_readWeight_15 : decode cX8_readWeight 15 = .ok (.istore_n 1, 1) := by decide +kernel
theorem dX8_readWeight_16 : decode cX8_readWeight 16 = .ok (.aload_n 0, 1) := by decide +kernel
theorem dX8_readWeight_17 : decode cX8_readWeight 17 = .ok (.invokevirtual 82, 3) := by decide +kernel
theorem dX8_readWeight_20 : decode cX8_readWeight 20 = .ok (.ifCond .ne 12, 3) := by decide +kernel
theorem dX8_readWeight_23 : decode cX8_readWeight 23 = .ok (.aload_n 0, 1) := by decide +kernel
theorem dX8_readWeight_24 : decode cX8_readWeight 24 = .ok (.iconst 0, 1) := by decide +kernel
theorem dX8_readWeight_25 : decode cX8_readWeight 25 = .ok (.invokevirtual 53, 3) := by decide +kernel
theorem dX8_readWeight_28 : decode cX8_readWeight 28 = .ok (.pop, 1) := by decide +kernel
theorem dX8_readWeight_29 : decode cX8_readWeight 29 = .ok (.goto 29, 3) := by decide +kernel
theorem dX8_readWeight_32 : decode cX8_readWeight 32 = .ok (.iload_n 1, 1) := by decide +kernel
theorem dX8_readWeight_33 : decode cX8_readWeight 33 = .ok (.iconst 1, 1) := by decide +kernel
theorem dX8_readWeight_34 : decode cX8_readWeight 34 = .ok (.if_icmp .lt 9, 3) := by decide +kernel
theorem dX8_readWeight_37 : decode cX8_readWeight 37 = .ok (.iload_n 1, 1) := by decide +kernel
theorem dX8_readWeight_38 : decode cX8_readWeight 38 = .ok (.bipush 100, 2) := by decide +kernel
theorem dX8_readWeight_40 : decode cX8_readWeight 40 = .ok (.if_icmp .le 14, 3) := by decide +kernel
theorem dX8_readWeight_43 : decode cX8_readWeight 43 = .ok (.aload_n 0, 1) := by decide +kernel
theorem dX8_readWeight_44 : decode cX8_readWeight 44 = .ok (.iconst 1, 1) := by decide +kernel
theorem dX8_readWeight_45 : decode cX8_readWeight 45 = .ok (.invokevirtual 53, 3) := by decide +kernel
theorem dX8_readWeight_48 : decode cX8_readWeight 48 = .ok (.pop, 1) := by decide +kernel
theorem dX8_readWeight_49 : decode cX8_readWeight 49 = .ok (.iconst (-1), 1) := by decide +kernel
theorem dX8_readWeight_50 : decode cX8_readWeight 50 = .ok (.istore_n 1, 1) := by decide +kernel
theorem dX8_readWeight_51 : decode cX8_readWeight 51 = .ok (.goto 7, 3) := by decide +kernel
theorem dX8_readWeight_54 : decode cX8_readWeight 54 = .ok (.aload_n 0, 1) := by decide +kernel
theorem dX8_readWeight_55 : decode cX8_readWeight 55 = .ok (.invokevirtual 32, 3) := by decide +kernel
theorem dX8_readWeight_58 : decode cX8_readWeight 58 = .ok (.iload_n 1, 1) := by decide +kernel
theorem dX8_readWeight_59 : decode cX8_readWeight 59 = .ok (.ireturn, 1) := by decide +kernel
theorem dX8_readTerms_0 : decode cX8_readTerms 0 = .ok (.iconst 0, 1) := by decide +kernel
theorem dX8_readTerms_1 : decode cX8_readTerms 1 = .ok (.istore_n 1, 1) := by decide +kernel
theorem dX8_readTerms_2 : decode cX8_readTerms 2 = .ok (.iload_n 1, 1) := by decide +kernel
theorem dX8_readTerms_3 : decode cX8_readTerms 3 = .ok (.bipush 6, 2) := by decide +kernel
theorem dX8_readTerms_5 : decode cX8_readTerms 5 = .ok (.if_icmp .gt 34, 3) := by decide +kernel
theorem dX8_readTerms_8 : decode cX8_readTerms 8 = .ok (.aload_n 0, 1) := by decide +kernel
theorem dX8_readTerms_9 : decode cX8_readTerms 9 = .ok (.iload_n 1, 1) := by decide +kernel
theorem dX8_readTerms_10 : decode cX8_readTerms 10 = .ok (.invokevirtual 88, 3) := by decide +kernel
theorem dX8_readTerms_13 : decode cX8_readTerms 13 = .ok (.ifCond .ne 5, 3) := by decide +kernel
theorem dX8_readTerms_16 : decode cX8_readTerms 16 = .ok (.iconst 0, 1) := by decide +kernel
theorem dX8_readTerms_17 : decode cX8_readTerms 17 = .ok (.ireturn, 1) := by decide +kernel
theorem dX8_readTerms_18 : decode cX8_readTerms 18 = .ok (.aload_n 0, 1) := by decide +kernel
theorem dX8_readTerms_19 : decode cX8_readTerms 19 = .ok (.ldc 91, 2) := by decide +kernel
theorem dX8_readTerms_21 : decode cX8_readTerms 21 = .ok (.invokevirtual 74, 3) := by decide +kernel
theorem dX8_readTerms_24 : decode cX8_readTerms 24 = .ok (.ifCond .ne 5, 3) := by decide +kernel
theorem dX8_readTerms_27 : decode cX8_readTerms 27 = .ok (.iconst 1, 1) := by decide +kernel
theorem dX8_readTerms_28 : decode cX8_readTerms 28 = .ok (.ireturn, 1) := by decide +kernel
theorem dX8_readTerms_29 : decode cX8_readTerms 29 = .ok (.aload_n 0, 1) := by decide +kernel
theorem dX8_readTerms_30 : decode cX8_readTerms 30 = .ok (.invokevirtual 32, 3) := by decide +kernel
theorem dX8_readTerms_33 : decode cX8_readTerms 33 = .ok (.iinc 1 1, 3) := by decide +kernel
theorem dX8_readTerms_36 : decode cX8_readTerms 36 = .ok (.goto (-34), 3) := by decide +kernel
theorem dX8_readTerms_39 : decode cX8_readTerms 39 = .ok (.iconst 0, 1) := by decide +kernel
theorem dX8_readTerms_40 : decode cX8_readTerms 40 = .ok (.ireturn, 1) := by decide +kernel
theorem dX8_readTerm_0 : decode cX8_readTerm 0 = .ok (.aload_n 0, 1) := by decide +kernel
theorem dX8_readTerm_1 : decode cX8_readTerm 1 = .ok (.iload_n 1, 1) := by decide +kernel
theorem dX8_readTerm_2 : decode cX8_readTerm 2 = .ok (.bipush 6, 2) := by decide +kernel
theorem dX8_readTerm_4 : decode cX8_readTerm 4 = .ok (.if_icmp .lt 7, 3) := by decide +kernel
theorem dX8_readTerm_7 : decode cX8_readTerm 7 = .ok (.iconst 1, 1) := by decide +kernel
theorem dX8_readTerm_8 : decode cX8_readTerm 8 = .ok (.goto 4, 3) := by decide +kernel
theorem dX8_readTerm_11 : decode cX8_readTerm 11 = .ok (.iconst 0, 1) := by decide +kernel
theorem dX8_readTerm_12 : decode cX8_readTerm 12 = .ok (.invokevirtual 93, 3) := by decide +kernel
theorem dX8_readTerm_15 : decode cX8_readTerm 15 = .ok (.istore_n 2, 1) := by decide +kernel
theorem dX8_readTerm_16 : decode cX8_readTerm 16 = .ok (.iload_n 2, 1) := by decide +kernel
theorem dX8_readTerm_17 : decode cX8_readTerm 17 = .ok (.iconst (-1), 1) := by decide +kernel
theorem dX8_readTerm_18 : decode cX8_readTerm 18 = .ok (.if_icmp .ne 5, 3) := by decide +kernel
theorem dX8_readTerm_21 : decode cX8_readTerm 21 = .ok (.iconst 0, 1) := by decide +kernel
theorem dX8_readTerm_22 : decode cX8_readTerm 22 = .ok (.ireturn, 1) := by decide +kernel
theorem dX8_readTerm_23 : decode cX8_readTerm 23 = .ok (.aload_n 0, 1) := by decide +kernel
theorem dX8_readTerm_24 : decode cX8_readTerm 24 = .ok (.getfield 18, 3) := by decide +kernel
theorem dX8_readTerm_27 : decode cX8_readTerm 27 = .ok (.aload_n 0, 1) := by decide +kernel
theorem dX8_readTerm_28 : decode cX8_readTerm 28 = .ok (.getfield 63, 3) := by decide +kernel
theorem dX8_readTerm_31 : decode cX8_readTerm 31 = .ok (.invokevirtual 66, 3) := by decide +kernel
theorem dX8_readTerm_34 : decode cX8_readTerm 34 = .ok (.istore_n 3, 1) := by decide +kernel
theorem dX8_readTerm_35 : decode cX8_readTerm 35 = .ok (.iload_n 3, 1) := by decide +kernel
theorem dX8_readTerm_36 : decode cX8_readTerm 36 = .ok (.bipush 60, 2) := by decide +kernel
theorem dX8_readTerm_38 : decode cX8_readTerm 38 = .ok (.if_icmp .eq 21, 3) := by decide +kernel
theorem dX8_readTerm_41 : decode cX8_readTerm 41 = .ok (.iload_n 3, 1) := by decide +kernel
theorem dX8_readTerm_42 : decode cX8_readTerm 42 = .ok (.bipush 62, 2) := by decide +kernel
theorem dX8_readTerm_44 : decode cX8_readTerm 44 = .ok (.if_icmp .eq 15, 3) := by decide +kernel
theorem dX8_readTerm_47 : decode cX8_readTerm 47 = .ok (.iload_n 3, 1) := by decide +kernel
theorem dX8_readTerm_48 : decode cX8_readTerm 48 = .ok (.bipush 61, 2) := by decide +kernel
theorem dX8_readTerm_50 : decode cX8_readTerm 50 = .ok (.if_icmp .eq 9, 3) := by decide +kernel
theorem dX8_readTerm_53 : decode cX8_readTerm 53 = .ok (.aload_n 0, 1) := by decide +kernel
theorem dX8_readTerm_54 : decode cX8_readTerm 54 = .ok (.iconst 0, 1) := by decide +kernel
theorem dX8_readTerm_55 : decode cX8_readTerm 55 = .ok (.invokevirtual 53, 3) := by decide +kernel
theorem dX8_readTerm_58 : decode cX8_readTerm 58 = .ok (.ireturn, 1) := by decide +kernel
theorem dX8_readTerm_59 : decode cX8_readTerm 59 = .ok (.aload_n 0, 1) := by decide +kernel
theorem dX8_readTerm_60 : decode cX8_readTerm 60 = .ok (.invokevirtual 32, 3) := by decide +kernel
theorem dX8_readTerm_63 : decode cX8_readTerm 63 = .ok (.aload_n 0, 1) := by decide +kernel
theorem dX8_readTerm_64 : decode cX8_readTerm 64 = .ok (.iconst 0, 1) := by decide +kernel
theorem dX8_readTerm_65 : decode cX8_readTerm 65 = .ok (.invokevirtual 93, 3) := by decide +kernel
theorem dX8_readTerm_68 : decode cX8_readTerm 68 = .ok (.istore 4, 2) := by decide +kernel
theorem dX8_readTerm_70 : decode cX8_readTerm 70 = .ok (.iload 4, 2) := by decide +kernel
theorem dX8_readTerm_72 : decode cX8_readTerm 72 = .ok (.iconst (-1), 1) := by decide +kernel
theorem dX8_readTerm_73 : decode cX8_readTerm 73 = .ok (.if_icmp .ne 5, 3) := by decide +kernel
theorem dX8_readTerm_76 : decode cX8_readTerm 76 = .ok (.iconst 0, 1) := by decide +kernel
theorem dX8_readTerm_77 : decode cX8_readTerm 77 = .ok (.ireturn, 1) := by decide +kernel
theorem dX8_readTerm_78 : decode cX8_readTerm 78 = .ok (.aload_n 0, 1) := by decide +kernel
theorem dX8_readTerm_79 : decode cX8_readTerm 79 = .ok (.getfield 12, 3) := by decide +kernel
theorem dX8_readTerm_82 : decode cX8_readTerm 82 = .ok (.iload_n 2, 1) := by decide +kernel
theorem dX8_readTerm_83 : decode cX8_readTerm 83 = .ok (.iload_n 3, 1) := by decide +kernel
theorem dX8_readTerm_84 : decode cX8_readTerm 84 = .ok (.iload 4, 2) := by decide +kernel
theorem dX8_readTerm_86 : decode cX8_readTerm 86 = .ok (.invokevirtual 97, 3) := by decide +kernel
theorem dX8_readTerm_89 : decode cX8_readTerm 89 = .ok (.iconst 1, 1) := by decide +kernel
theorem dX8_readTerm_90 : decode cX8_readTerm 90 = .ok (.ireturn, 1) := by decide +kernel
theorem dX8_readSide_0 : decode cX8_readSide 0 = .ok (.aload_n 0, 1) := by decide +kernel
theorem dX8_readSide_1 : decode cX8_readSide 1 = .ok (.invokevirtual 82, 3) := by decide +kernel
theorem dX8_readSide_4 : decode cX8_readSide 4 = .ok (.istore_n 2, 1) := by decide +kernel
theorem dX8_readSide_5 : decode cX8_readSide 5 = .ok (.iload_n 2, 1) := by decide +kernel
theorem dX8_readSide_6 : decode cX8_readSide 6 = .ok (.ifCond .eq 7, 3) := by decide +kernel
theorem dX8_readSide_9 : decode cX8_readSide 9 = .ok (.iconst (-1), 1) := by decide +kernel
theorem dX8_readSide_10 : decode cX8_readSide 10 = .ok (.goto 7, 3) := by decide +kernel
theorem dX8_readSide_13 : decode cX8_readSide 13 = .ok (.aload_n 0, 1) := by decide +kernel
theorem dX8_readSide_14 : decode cX8_readSide 14 = .ok (.invokevirtual 101, 3) := by decide +kernel
theorem dX8_readSide_17 : decode cX8_readSide 17 = .ok (.istore_n 3, 1) := by decide +kernel
theorem dX8_readSide_18 : decode cX8_readSide 18 = .ok (.iload_n 2, 1) := by decide +kernel
theorem dX8_readSide_19 : decode cX8_readSide 19 = .ok (.ifCond .ne 16, 3) := by decide +kernel
theorem dX8_readSide_22 : decode cX8_readSide 22 = .ok (.iload_n 3, 1) := by decide +kernel
theorem dX8_readSide_23 : decode cX8_readSide 23 = .ok (.iconst (-1), 1) := by decide +kernel
theorem dX8_readSide_24 : decode cX8_readSide 24 = .ok (.if_icmp .ne 11, 3) := by decide +kernel
theorem dX8_readSide_27 : decode cX8_readSide 27 = .ok (.aload_n 0, 1) := by decide +kernel
theorem dX8_readSide_28 : decode cX8_readSide 28 = .ok (.iconst 0, 1) := by decide +kernel
theorem dX8_readSide_29 : decode cX8_readSide 29 = .ok (.invokevirtual 53, 3) := by decide +kernel
theorem dX8_readSide_32 : decode cX8_readSide 32 = .ok (.pop, 1) := by decide +kernel
theorem dX8_readSide_33 : decode cX8_readSide 33 = .ok (.iconst (-1), 1) := by decide +kernel
theorem dX8_readSide_34 : decode cX8_readSide 34 = .ok (.ireturn, 1) := by decide +kernel
theorem dX8_readSide_35 : decode cX8_readSide 35 = .ok (.iload_n 2, 1) := by decide +kernel
theorem dX8_readSide_36 : decode cX8_readSide 36 = .ok (.ifCond .eq 10, 3) := by decide +kernel
theorem dX8_readSide_39 : decode cX8_readSide 39 = .ok (.aload_n 0, 1) := by decide +kernel
theorem dX8_readSide_40 : decode cX8_readSide 40 = .ok (.invokevirtual 85, 3) := by decide +kernel
theorem dX8_readSide_43 : decode cX8_readSide 43 = .ok (.goto 8, 3) := by decide +kernel
theorem dX8_readSide_46 : decode cX8_readSide 46 = .ok (.sipush 10000, 3) := by decide +kernel
theorem dX8_readSide_49 : decode cX8_readSide 49 = .ok (.iload_n 3, 1) := by decide +kernel
theorem dX8_readSide_50 : decode cX8_readSide 50 = .ok (.iadd, 1) := by decide +kernel
theorem dX8_readSide_51 : decode cX8_readSide 51 = .ok (.istore 4, 2) := by decide +kernel
theorem dX8_readSide_53 : decode cX8_readSide 53 = .ok (.iload 4, 2) := by decide +kernel
theorem dX8_readSide_55 : decode cX8_readSide 55 = .ok (.iconst (-1), 1) := by decide +kernel
theorem dX8_readSide_56 : decode cX8_readSide 56 = .ok (.if_icmp .eq 7, 3) := by decide +kernel
theorem dX8_readSide_59 : decode cX8_readSide 59 = .ok (.iload_n 1, 1) := by decide +kernel
theorem dX8_readSide_60 : decode cX8_readSide 60 = .ok (.ifCond .eq 21, 3) := by decide +kernel
theorem dX8_readSide_63 : decode cX8_readSide 63 = .ok (.aload_n 0, 1) := by decide +kernel
theorem dX8_readSide_64 : decode cX8_readSide 64 = .ok (.iload 4, 2) := by decide +kernel
theorem dX8_readSide_66 : decode cX8_readSide 66 = .ok (.iconst (-1), 1) := by decide +kernel
theorem dX8_readSide_67 : decode cX8_readSide 67 = .ok (.if_icmp .ne 7, 3) := by decide +kernel
theorem dX8_readSide_70 : decode cX8_readSide 70 = .ok (.iconst 1, 1) := by decide +kernel
theorem dX8_readSide_71 : decode cX8_readSide 71 = .ok (.goto 4, 3) := by decide +kernel
theorem dX8_readSide_74 : decode cX8_readSide 74 = .ok (.iconst 2, 1) := by decide +kernel
theorem dX8_readSide_75 : decode cX8_readSide 75 = .ok (.invokevirtual 53, 3) := by decide +kernel
theorem dX8_readSide_78 : decode cX8_readSide 78 = .ok (.pop, 1) := by decide +kernel
theorem dX8_readSide_79 : decode cX8_readSide 79 = .ok (.iconst (-1), 1) := by decide +kernel
theorem dX8_readSide_80 : decode cX8_readSide 80 = .ok (.ireturn, 1) := by decide +kernel
theorem dX8_readSide_81 : decode cX8_readSide 81 = .ok (.aload_n 0, 1) := by decide +kernel
theorem dX8_readSide_82 : decode cX8_readSide 82 = .ok (.invokevirtual 32, 3) := by decide +kernel
theorem dX8_readSide_85 : decode cX8_readSide 85 = .ok (.iload 4, 2) := by decide +kernel
theorem dX8_readSide_87 : decode cX8_readSide 87 = .ok (.ireturn, 1) := by decide +kernel
theorem dX8_slotOfWord_0 : decode cX8_slotOfWord 0 = .ok (.aload_n 0, 1) := by decide +kernel
theorem dX8_slotOfWord_1 : decode cX8_slotOfWord 1 = .ok (.getfield 18, 3) := by decide +kernel
theorem dX8_slotOfWord_4 : decode cX8_slotOfWord 4 = .ok (.aload_n 0, 1) := by decide +kernel
theorem dX8_slotOfWord_5 : decode cX8_slotOfWord 5 = .ok (.getfield 63, 3) := by decide +kernel
theorem dX8_slotOfWord_8 : decode cX8_slotOfWord 8 = .ok (.invokevirtual 66, 3) := by decide +kernel
theorem dX8_slotOfWord_11 : decode cX8_slotOfWord 11 = .ok (.istore_n 1, 1) := by decide +kernel
theorem dX8_slotOfWord_12 : decode cX8_slotOfWord 12 = .ok (.aload_n 0, 1) := by decide +kernel
theorem dX8_slotOfWord_13 : decode cX8_slotOfWord 13 = .ok (.getfield 18, 3) := by decide +kernel
theorem dX8_slotOfWord_16 : decode cX8_slotOfWord 16 = .ok (.aload_n 0, 1) := by decide +kernel
theorem dX8_slotOfWord_17 : decode cX8_slotOfWord 17 = .ok (.getfield 63, 3) := by decide +kernel
theorem dX8_slotOfWord_20 : decode cX8_slotOfWord 20 = .ok (.iconst 1, 1) := by decide +kernel
theorem dX8_slotOfWord_21 : decode cX8_slotOfWord 21 = .ok (.iadd, 1) := by decide +kernel
theorem dX8_slotOfWord_22 : decode cX8_slotOfWord 22 = .ok (.invokevirtual 66, 3) := by decide +kernel
theorem dX8_slotOfWord_25 : decode cX8_slotOfWord 25 = .ok (.bipush 48, 2) := by decide +kernel
theorem dX8_slotOfWord_27 : decode cX8_slotOfWord 27 = .ok (.isub, 1) := by decide +kernel
theorem dX8_slotOfWord_28 : decode cX8_slotOfWord 28 = .ok (.istore_n 2, 1) := by decide +kernel
theorem dX8_slotOfWord_29 : decode cX8_slotOfWord 29 = .ok (.aload_n 0, 1) := by decide +kernel
theorem dX8_slotOfWord_30 : decode cX8_slotOfWord 30 = .ok (.getfield 29, 3) := by decide +kernel
theorem dX8_slotOfWord_33 : decode cX8_slotOfWord 33 = .ok (.aload_n 0, 1) := by decide +kernel
theorem dX8_slotOfWord_34 : decode cX8_slotOfWord 34 = .ok (.getfield 63, 3) := by decide +kernel
theorem dX8_slotOfWord_37 : decode cX8_slotOfWord 37 = .ok (.isub, 1) := by decide +kernel
theorem dX8_slotOfWord_38 : decode cX8_slotOfWord 38 = .ok (.iconst 2, 1) := by decide +kernel
theorem dX8_slotOfWord_39 : decode cX8_slotOfWord 39 = .ok (.if_icmp .ne 19, 3) := by decide +kernel
theorem dX8_slotOfWord_42 : decode cX8_slotOfWord 42 = .ok (.iload_n 1, 1) := by decide +kernel
theorem dX8_slotOfWord_43 : decode cX8_slotOfWord 43 = .ok (.bipush 99, 2) := by decide +kernel
theorem dX8_slotOfWord_45 : decode cX8_slotOfWord 45 = .ok (.if_icmp .eq 9, 3) := by decide +kernel
theorem dX8_slotOfWord_48 : decode cX8_slotOfWord 48 = .ok (.iload_n 1, 1) := by decide +kernel
theorem dX8_slotOfWord_49 : decode cX8_slotOfWord 49 = .ok (.bipush 104, 2) := by decide +kernel
theorem dX8_slotOfWord_51 : decode cX8_slotOfWord 51 = .ok (.if_icmp .ne 7, 3) := by decide +kernel
theorem dX8_slotOfWord_54 : decode cX8_slotOfWord 54 = .ok (.iconst 1, 1) := by decide +kernel
theorem dX8_slotOfWord_55 : decode cX8_slotOfWord 55 = .ok (.goto 4, 3) := by decide +kernel
theorem dX8_slotOfWord_58 : decode cX8_slotOfWord 58 = .ok (.iconst 0, 1) := by decide +kernel
theorem dX8_slotOfWord_59 : decode cX8_slotOfWord 59 = .ok (.istore_n 3, 1) := by decide +kernel
theorem dX8_slotOfWord_60 : decode cX8_slotOfWord 60 = .ok (.iload_n 3, 1) := by decide +kernel
theorem dX8_slotOfWord_61 : decode cX8_slotOfWord 61 = .ok (.ifCond .eq 28, 3) := by decide +kernel
theorem dX8_slotOfWord_64 : decode cX8_slotOfWord 64 = .ok (.iload_n 2, 1) := by decide +kernel
theorem dX8_slotOfWord_65 : decode cX8_slotOfWord 65 = .ok (.invokestatic 106, 3) := by decide +kernel
theorem dX8_slotOfWord_68 : decode cX8_slotOfWord 68 = .ok (.ifCond .eq 21, 3) := by decide +kernel
theorem dX8_slotOfWord_71 : decode cX8_slotOfWord 71 = .ok (.iload_n 1, 1) := by decide +kernel
theorem dX8_slotOfWord_72 : decode cX8_slotOfWord 72 = .ok (.bipush 104, 2) := by decide +kernel
theorem dX8_slotOfWord_74 : decode cX8_slotOfWord 74 = .ok (.if_icmp .ne 7, 3) := by decide +kernel
theorem dX8_slotOfWord_77 : decode cX8_slotOfWord 77 = .ok (.iconst 1, 1) := by decide +kernel
theorem dX8_slotOfWord_78 : decode cX8_slotOfWord 78 = .ok (.goto 4, 3) := by decide +kernel
theorem dX8_slotOfWord_81 : decode cX8_slotOfWord 81 = .ok (.iconst 0, 1) := by decide +kernel
theorem dX8_slotOfWord_82 : decode cX8_slotOfWord 82 = .ok (.iload_n 2, 1) := by decide +kernel
theorem dX8_slotOfWord_83 : decode cX8_slotOfWord 83 = .ok (.invokestatic 109, 3) := by decide +kernel
theorem dX8_slotOfWord_86 : decode cX8_slotOfWord 86 = .ok (.goto 4, 3) := by decide +kernel
theorem dX8_slotOfWord_89 : decode cX8_slotOfWord 89 = .ok (.iconst (-1), 1) := by decide +kernel
theorem dX8_slotOfWord_90 : decode cX8_slotOfWord 90 = .ok (.ireturn, 1) := by decide +kernel
theorem dX8_numberOfWord_0 : decode cX8_numberOfWord 0 = .ok (.aload_n 0, 1) := by decide +kernel
theorem dX8_numberOfWord_1 : decode cX8_numberOfWord 1 = .ok (.getfield 29, 3) := by decide +kernel
theorem dX8_numberOfWord_4 : decode cX8_numberOfWord 4 = .ok (.aload_n 0, 1) := by decide +kernel
theorem dX8_numberOfWord_5 : decode cX8_numberOfWord 5 = .ok (.getfield 63, 3) := by decide +kernel
theorem dX8_numberOfWord_8 : decode cX8_numberOfWord 8 = .ok (.isub, 1) := by decide +kernel
theorem dX8_numberOfWord_9 : decode cX8_numberOfWord 9 = .ok (.iconst 4, 1) := by decide +kernel
theorem dX8_numberOfWord_10 : decode cX8_numberOfWord 10 = .ok (.if_icmp .le 5, 3) := by decide +kernel
theorem dX8_numberOfWord_13 : decode cX8_numberOfWord 13 = .ok (.iconst (-1), 1) := by decide +kernel
theorem dX8_numberOfWord_14 : decode cX8_numberOfWord 14 = .ok (.ireturn, 1) := by decide +kernel
theorem dX8_numberOfWord_15 : decode cX8_numberOfWord 15 = .ok (.iconst 0, 1) := by decide +kernel
theorem dX8_numberOfWord_16 : decode cX8_numberOfWord 16 = .ok (.istore_n 1, 1) := by decide +kernel
theorem dX8_numberOfWord_17 : decode cX8_numberOfWord 17 = .ok (.aload_n 0, 1) := by decide +kernel
theorem dX8_numberOfWord_18 : decode cX8_numberOfWord 18 = .ok (.getfield 63, 3) := by decide +kernel
theorem dX8_numberOfWord_21 : decode cX8_numberOfWord 21 = .ok (.istore_n 2, 1) := by decide +kernel
theorem dX8_numberOfWord_22 : decode cX8_numberOfWord 22 = .ok (.iload_n 2, 1) := by decide +kernel
theorem dX8_numberOfWord_23 : decode cX8_numberOfWord 23 = .ok (.aload_n 0, 1) := by decide +kernel
theorem dX8_numberOfWord_24 : decode cX8_numberOfWord 24 = .ok (.getfield 29, 3) := by decide +kernel
theorem dX8_numberOfWord_27 : decode cX8_numberOfWord 27 = .ok (.if_icmp .ge 26, 3) := by decide +kernel
theorem dX8_numberOfWord_30 : decode cX8_numberOfWord 30 = .ok (.iload_n 1, 1) := by decide +kernel
theorem dX8_numberOfWord_31 : decode cX8_numberOfWord 31 = .ok (.bipush 10, 2) := by decide +kernel
theorem dX8_numberOfWord_33 : decode cX8_numberOfWord 33 = .ok (.imul, 1) := by decide +kernel
theorem dX8_numberOfWord_34 : decode cX8_numberOfWord 34 = .ok (.aload_n 0, 1) := by decide +kernel
theorem dX8_numberOfWord_35 : decode cX8_numberOfWord 35 = .ok (.getfield 18, 3) := by decide +kernel
theorem dX8_numberOfWord_38 : decode cX8_numberOfWord 38 = .ok (.iload_n 2, 1) := by decide +kernel
theorem dX8_numberOfWord_39 : decode cX8_numberOfWord 39 = .ok (.invokevirtual 66, 3) := by decide +kernel
theorem dX8_numberOfWord_42 : decode cX8_numberOfWord 42 = .ok (.iadd, 1) := by decide +kernel
theorem dX8_numberOfWord_43 : decode cX8_numberOfWord 43 = .ok (.bipush 48, 2) := by decide +kernel
theorem dX8_numberOfWord_45 : decode cX8_numberOfWord 45 = .ok (.isub, 1) := by decide +kernel
theorem dX8_numberOfWord_46 : decode cX8_numberOfWord 46 = .ok (.istore_n 1, 1) := by decide +kernel
theorem dX8_numberOfWord_47 : decode cX8_numberOfWord 47 = .ok (.iinc 2 1, 3) := by decide +kernel
theorem dX8_numberOfWord_50 : decode cX8_numberOfWord 50 = .ok (.goto (-28), 3) := by decide +kernel
theorem dX8_numberOfWord_53 : decode cX8_numberOfWord 53 = .ok (.iload_n 1, 1) := by decide +kernel
theorem dX8_numberOfWord_54 : decode cX8_numberOfWord 54 = .ok (.ireturn, 1) := by decide +kernel
theorem dX8_isNumber_0 : decode cX8_isNumber 0 = .ok (.aload_n 0, 1) := by decide +kernel
theorem dX8_isNumber_1 : decode cX8_isNumber 1 = .ok (.getfield 63, 3) := by decide +kernel
theorem dX8_isNumber_4 : decode cX8_isNumber 4 = .ok (.istore_n 1, 1) := by decide +kernel
theorem dX8_isNumber_5 : decode cX8_isNumber 5 = .ok (.iload_n 1, 1) := by decide +kernel
theorem dX8_isNumber_6 : decode cX8_isNumber 6 = .ok (.aload_n 0, 1) := by decide +kernel
theorem dX8_isNumber_7 : decode cX8_isNumber 7 = .ok (.getfield 29, 3) := by decide +kernel
theorem dX8_isNumber_10 : decode cX8_isNumber 10 = .ok (.if_icmp .ge 25, 3) := by decide +kernel
theorem dX8_isNumber_13 : decode cX8_isNumber 13 = .ok (.aload_n 0, 1) := by decide +kernel
theorem dX8_isNumber_14 : decode cX8_isNumber 14 = .ok (.getfield 18, 3) := by decide +kernel
theorem dX8_isNumber_17 : decode cX8_isNumber 17 = .ok (.iload_n 1, 1) := by decide +kernel
theorem dX8_isNumber_18 : decode cX8_isNumber 18 = .ok (.invokevirtual 66, 3) := by decide +kernel
theorem dX8_isNumber_21 : decode cX8_isNumber 21 = .ok (.invokestatic 113, 3) := by decide +kernel
theorem dX8_isNumber_24 : decode cX8_isNumber 24 = .ok (.ifCond .ne 5, 3) := by decide +kernel
theorem dX8_isNumber_27 : decode cX8_isNumber 27 = .ok (.iconst 0, 1) := by decide +kernel
theorem dX8_isNumber_28 : decode cX8_isNumber 28 = .ok (.ireturn, 1) := by decide +kernel
theorem dX8_isNumber_29 : decode cX8_isNumber 29 = .ok (.iinc 1 1, 3) := by decide +kernel
theorem dX8_isNumber_32 : decode cX8_isNumber 32 = .ok (.goto (-27), 3) := by decide +kernel
theorem dX8_isNumber_35 : decode cX8_isNumber 35 = .ok (.aload_n 0, 1) := by decide +kernel
theorem dX8_isNumber_36 : decode cX8_isNumber 36 = .ok (.getfield 29, 3) := by decide +kernel
theorem dX8_isNumber_39 : decode cX8_isNumber 39 = .ok (.aload_n 0, 1) := by decide +kernel
theorem dX8_isNumber_40 : decode cX8_isNumber 40 = .ok (.getfield 63, 3) := by decide +kernel
theorem dX8_isNumber_43 : decode cX8_isNumber 43 = .ok (.if_icmp .le 7, 3) := by decide +kernel
theorem dX8_isNumber_46 : decode cX8_isNumber 46 = .ok (.iconst 1, 1) := by decide +kernel
theorem dX8_isNumber_47 : decode cX8_isNumber 47 = .ok (.goto 4, 3) := by decide +kernel
theorem dX8_isNumber_50 : decode cX8_isNumber 50 = .ok (.iconst 0, 1) := by decide +kernel
theorem dX8_isNumber_51 : decode cX8_isNumber 51 = .ok (.ireturn, 1) := by decide +kernel
theorem dX8_isWord_0 : decode cX8_isWord 0 = .ok (.aload_n 0, 1) := by decide +kernel
theorem dX8_isWord_1 : decode cX8_isWord 1 = .ok (.getfield 29, 3) := by decide +kernel
theorem dX8_isWord_4 : decode cX8_isWord 4 = .ok (.aload_n 0, 1) := by decide +kernel
theorem dX8_isWord_5 : decode cX8_isWord 5 = .ok (.getfield 63, 3) := by decide +kernel
theorem dX8_isWord_8 : decode cX8_isWord 8 = .ok (.isub, 1) := by decide +kernel
theorem dX8_isWord_9 : decode cX8_isWord 9 = .ok (.aload_n 1, 1) := by decide +kernel
theorem dX8_isWord_10 : decode cX8_isWord 10 = .ok (.invokevirtual 116, 3) := by decide +kernel
theorem dX8_isWord_13 : decode cX8_isWord 13 = .ok (.if_icmp .eq 5, 3) := by decide +kernel
theorem dX8_isWord_16 : decode cX8_isWord 16 = .ok (.iconst 0, 1) := by decide +kernel
theorem dX8_isWord_17 : decode cX8_isWord 17 = .ok (.ireturn, 1) := by decide +kernel
theorem dX8_isWord_18 : decode cX8_isWord 18 = .ok (.iconst 0, 1) := by decide +kernel
theorem dX8_isWord_19 : decode cX8_isWord 19 = .ok (.istore_n 2, 1) := by decide +kernel
theorem dX8_isWord_20 : decode cX8_isWord 20 = .ok (.iload_n 2, 1) := by decide +kernel
theorem dX8_isWord_21 : decode cX8_isWord 21 = .ok (.aload_n 1, 1) := by decide +kernel
theorem dX8_isWord_22 : decode cX8_isWord 22 = .ok (.invokevirtual 116, 3) := by decide +kernel
theorem dX8_isWord_25 : decode cX8_isWord 25 = .ok (.if_icmp .ge 32, 3) := by decide +kernel
theorem dX8_isWord_28 : decode cX8_isWord 28 = .ok (.aload_n 0, 1) := by decide +kernel
theorem dX8_isWord_29 : decode cX8_isWord 29 = .ok (.getfield 18, 3) := by decide +kernel
theorem dX8_isWord_32 : decode cX8_isWord 32 = .ok (.aload_n 0, 1) := by decide +kernel
theorem dX8_isWord_33 : decode cX8_isWord 33 = .ok (.getfield 63, 3) := by decide +kernel
theorem dX8_isWord_36 : decode cX8_isWord 36 = .ok (.iload_n 2, 1) := by decide +kernel
theorem dX8_isWord_37 : decode cX8_isWord 37 = .ok (.iadd, 1) := by decide +kernel
theorem dX8_isWord_38 : decode cX8_isWord 38 = .ok (.invokevirtual 66, 3) := by decide +kernel
theorem dX8_isWord_41 : decode cX8_isWord 41 = .ok (.aload_n 1, 1) := by decide +kernel
theorem dX8_isWord_42 : decode cX8_isWord 42 = .ok (.iload_n 2, 1) := by decide +kernel
theorem dX8_isWord_43 : decode cX8_isWord 43 = .ok (.invokevirtual 121, 3) := by decide +kernel
theorem dX8_isWord_46 : decode cX8_isWord 46 = .ok (.if_icmp .eq 5, 3) := by decide +kernel
theorem dX8_isWord_49 : decode cX8_isWord 49 = .ok (.iconst 0, 1) := by decide +kernel
theorem dX8_isWord_50 : decode cX8_isWord 50 = .ok (.ireturn, 1) := by decide +kernel
theorem dX8_isWord_51 : decode cX8_isWord 51 = .ok (.iinc 2 1, 3) := by decide +kernel
theorem dX8_isWord_54 : decode cX8_isWord 54 = .ok (.goto (-34), 3) := by decide +kernel
theorem dX8_isWord_57 : decode cX8_isWord 57 = .ok (.iconst 1, 1) := by decide +kernel
theorem dX8_isWord_58 : decode cX8_isWord 58 = .ok (.ireturn, 1) := by decide +kernel
theorem dX8_isAtEnd_0 : decode cX8_isAtEnd 0 = .ok (.aload_n 0, 1) := by decide +kernel
theorem dX8_isAtEnd_1 : decode cX8_isAtEnd 1 = .ok (.getfield 63, 3) := by decide +kernel
theorem dX8_isAtEnd_4 : decode cX8_isAtEnd 4 = .ok (.aload_n 0, 1) := by decide +kernel
theorem dX8_isAtEnd_5 : decode cX8_isAtEnd 5 = .ok (.getfield 18, 3) := by decide +kernel
theorem dX8_isAtEnd_8 : decode cX8_isAtEnd 8 = .ok (.invokevirtual 125, 3) := by decide +kernel
theorem dX8_isAtEnd_11 : decode cX8_isAtEnd 11 = .ok (.if_icmp .lt 7, 3) := by decide +kernel
theorem dX8_isAtEnd_14 : decode cX8_isAtEnd 14 = .ok (.iconst 1, 1) := by decide +kernel
theorem dX8_isAtEnd_15 : decode cX8_isAtEnd 15 = .ok (.goto 4, 3) := by decide +kernel
theorem dX8_isAtEnd_18 : decode cX8_isAtEnd 18 = .ok (.iconst 0, 1) := by decide +kernel
theorem dX8_isAtEnd_19 : decode cX8_isAtEnd 19 = .ok (.ireturn, 1) := by decide +kernel
theorem dX8_step_0 : decode cX8_step 0 = .ok (.aload_n 0, 1) := by decide +kernel
theorem dX8_step_1 : decode cX8_step 1 = .ok (.aload_n 0, 1) := by decide +kernel
theorem dX8_step_2 : decode cX8_step 2 = .ok (.getfield 29, 3) := by decide +kernel
theorem dX8_step_5 : decode cX8_step 5 = .ok (.putfield 63, 3) := by decide +kernel
theorem dX8_step_8 : decode cX8_step 8 = .ok (.aload_n 0, 1) := by decide +kernel
theorem dX8_step_9 : decode cX8_step 9 = .ok (.getfield 63, 3) := by decide +kernel
theorem dX8_step_12 : decode cX8_step 12 = .ok (.aload_n 0, 1) := by decide +kernel
theorem dX8_step_13 : decode cX8_step 13 = .ok (.getfield 18, 3) := by decide +kernel
theorem dX8_step_16 : decode cX8_step 16 = .ok (.invokevirtual 125, 3) := by decide +kernel
theorem dX8_step_19 : decode cX8_step 19 = .ok (.if_icmp .ge 32, 3) := by decide +kernel
theorem dX8_step_22 : decode cX8_step 22 = .ok (.aload_n 0, 1) := by decide +kernel
theorem dX8_step_23 : decode cX8_step 23 = .ok (.getfield 18, 3) := by decide +kernel
theorem dX8_step_26 : decode cX8_step 26 = .ok (.aload_n 0, 1) := by decide +kernel
theorem dX8_step_27 : decode cX8_step 27 = .ok (.getfield 63, 3) := by decide +kernel
theorem dX8_step_30 : decode cX8_step 30 = .ok (.invokevirtual 66, 3) := by decide +kernel
theorem dX8_step_33 : decode cX8_step 33 = .ok (.bipush 32, 2) := by decide +kernel
theorem dX8_step_35 : decode cX8_step 35 = .ok (.if_icmp .ne 16, 3) := by decide +kernel
theorem dX8_step_38 : decode cX8_step 38 = .ok (.aload_n 0, 1) := by decide +kernel
theorem dX8_step_39 : decode cX8_step 39 = .ok (.dup, 1) := by decide +kernel
theorem dX8_step_40 : decode cX8_step 40 = .ok (.getfield 63, 3) := by decide +kernel
theorem dX8_step_43 : decode cX8_step 43 = .ok (.iconst 1, 1) := by decide +kernel
theorem dX8_step_44 : decode cX8_step 44 = .ok (.iadd, 1) := by decide +kernel
theorem dX8_step_45 : decode cX8_step 45 = .ok (.putfield 63, 3) := by decide +kernel
theorem dX8_step_48 : decode cX8_step 48 = .ok (.goto (-40), 3) := by decide +kernel
theorem dX8_step_51 : decode cX8_step 51 = .ok (.aload_n 0, 1) := by decide +kernel
theorem dX8_step_52 : decode cX8_step 52 = .ok (.aload_n 0, 1) := by decide +kernel
theorem dX8_step_53 : decode cX8_step 53 = .ok (.getfield 63, 3) := by decide +kernel
theorem dX8_step_56 : decode cX8_step 56 = .ok (.putfield 29, 3) := by decide +kernel
theorem dX8_step_59 : decode cX8_step 59 = .ok (.aload_n 0, 1) := by decide +kernel
theorem dX8_step_60 : decode cX8_step 60 = .ok (.getfield 29, 3) := by decide +kernel
theorem dX8_step_63 : decode cX8_step 63 = .ok (.aload_n 0, 1) := by decide +kernel
theorem dX8_step_64 : decode cX8_step 64 = .ok (.getfield 18, 3) := by decide +kernel
theorem dX8_step_67 : decode cX8_step 67 = .ok (.invokevirtual 125, 3) := by decide +kernel
theorem dX8_step_70 : decode cX8_step 70 = .ok (.if_icmp .ge 33, 3) := by decide +kernel
theorem dX8_step_73 : decode cX8_step 73 = .ok (.aload_n 0, 1) := by decide +kernel
theorem dX8_step_74 : decode cX8_step 74 = .ok (.getfield 18, 3) := by decide +kernel
theorem dX8_step_77 : decode cX8_step 77 = .ok (.aload_n 0, 1) := by decide +kernel
theorem dX8_step_78 : decode cX8_step 78 = .ok (.getfield 29, 3) := by decide +kernel
theorem dX8_step_81 : decode cX8_step 81 = .ok (.invokevirtual 66, 3) := by decide +kernel
theorem dX8_step_84 : decode cX8_step 84 = .ok (.invokestatic 128, 3) := by decide +kernel
theorem dX8_step_87 : decode cX8_step 87 = .ok (.ifCond .eq 16, 3) := by decide +kernel
theorem dX8_step_90 : decode cX8_step 90 = .ok (.aload_n 0, 1) := by decide +kernel
theorem dX8_step_91 : decode cX8_step 91 = .ok (.dup, 1) := by decide +kernel
theorem dX8_step_92 : decode cX8_step 92 = .ok (.getfield 29, 3) := by decide +kernel
theorem dX8_step_95 : decode cX8_step 95 = .ok (.iconst 1, 1) := by decide +kernel
theorem dX8_step_96 : decode cX8_step 96 = .ok (.iadd, 1) := by decide +kernel
theorem dX8_step_97 : decode cX8_step 97 = .ok (.putfield 29, 3) := by decide +kernel
theorem dX8_step_100 : decode cX8_step 100 = .ok (.goto (-41), 3) := by decide +kernel
theorem dX8_step_103 : decode cX8_step 103 = .ok (.aload_n 0, 1) := by decide +kernel
theorem dX8_step_104 : decode cX8_step 104 = .ok (.getfield 29, 3) := by decide +kernel
theorem dX8_step_107 : decode cX8_step 107 = .ok (.aload_n 0, 1) := by decide +kernel
theorem dX8_step_108 : decode cX8_step 108 = .ok (.getfield 63, 3) := by decide +kernel
theorem dX8_step_111 : decode cX8_step 111 = .ok (.if_icmp .ne 27, 3) := by decide +kernel
theorem dX8_step_114 : decode cX8_step 114 = .ok (.aload_n 0, 1) := by decide +kernel
theorem dX8_step_115 : decode cX8_step 115 = .ok (.getfield 63, 3) := by decide +kernel
theorem dX8_step_118 : decode cX8_step 118 = .ok (.aload_n 0, 1) := by decide +kernel
theorem dX8_step_119 : decode cX8_step 119 = .ok (.getfield 18, 3) := by decide +kernel
theorem dX8_step_122 : decode cX8_step 122 = .ok (.invokevirtual 125, 3) := by decide +kernel
theorem dX8_step_125 : decode cX8_step 125 = .ok (.if_icmp .ge 13, 3) := by decide +kernel
theorem dX8_step_128 : decode cX8_step 128 = .ok (.aload_n 0, 1) := by decide +kernel
theorem dX8_step_129 : decode cX8_step 129 = .ok (.dup, 1) := by decide +kernel
theorem dX8_step_130 : decode cX8_step 130 = .ok (.getfield 29, 3) := by decide +kernel
theorem dX8_step_133 : decode cX8_step 133 = .ok (.iconst 1, 1) := by decide +kernel
theorem dX8_step_134 : decode cX8_step 134 = .ok (.iadd, 1) := by decide +kernel
theorem dX8_step_135 : decode cX8_step 135 = .ok (.putfield 29, 3) := by decide +kernel
theorem dX8_step_138 : decode cX8_step 138 = .ok (.return_, 1) := by decide +kernel
theorem dX8_refuse_0 : decode cX8_refuse 0 = .ok (.aload_n 0, 1) := by decide +kernel
theorem dX8_refuse_1 : decode cX8_refuse 1 = .ok (.iconst 1, 1) := by decide +kernel
theorem dX8_refuse_2 : decode cX8_refuse 2 = .ok (.bipush 8, 2) := by decide +kernel
theorem dX8_refuse_4 : decode cX8_refuse 4 = .ok (.aload_n 0, 1) := by decide +kernel
theorem dX8_refuse_5 : decode cX8_refuse 5 = .ok (.getfield 63, 3) := by decide +kernel
theorem dX8_refuse_8 : decode cX8_refuse 8 = .ok (.imul, 1) := by decide +kernel
theorem dX8_refuse_9 : decode cX8_refuse 9 = .ok (.iadd, 1) := by decide +kernel
theorem dX8_refuse_10 : decode cX8_refuse 10 = .ok (.iload_n 1, 1) := by decide +kernel
theorem dX8_refuse_11 : decode cX8_refuse 11 = .ok (.iadd, 1) := by decide +kernel
theorem dX8_refuse_12 : decode cX8_refuse 12 = .ok (.putfield 25, 3) := by decide +kernel
theorem dX8_refuse_15 : decode cX8_refuse 15 = .ok (.iconst 0, 1) := by decide +kernel
theorem dX8_refuse_16 : decode cX8_refuse 16 = .ok (.ireturn, 1) := by decide +kernel
theorem dX8_isOfWord_0 : decode cX8_isOfWord 0 = .ok (.iload_n 0, 1) := by decide +kernel
theorem dX8_isOfWord_1 : decode cX8_isOfWord 1 = .ok (.bipush 97, 2) := by decide +kernel
theorem dX8_isOfWord_3 : decode cX8_isOfWord 3 = .ok (.if_icmp .lt 9, 3) := by decide +kernel
theorem dX8_isOfWord_6 : decode cX8_isOfWord 6 = .ok (.iload_n 0, 1) := by decide +kernel
theorem dX8_isOfWord_7 : decode cX8_isOfWord 7 = .ok (.bipush 122, 2) := by decide +kernel
theorem dX8_isOfWord_9 : decode cX8_isOfWord 9 = .ok (.if_icmp .le 15, 3) := by decide +kernel
theorem dX8_isOfWord_12 : decode cX8_isOfWord 12 = .ok (.iload_n 0, 1) := by decide +kernel
theorem dX8_isOfWord_13 : decode cX8_isOfWord 13 = .ok (.bipush 48, 2) := by decide +kernel
theorem dX8_isOfWord_15 : decode cX8_isOfWord 15 = .ok (.if_icmp .lt 13, 3) := by decide +kernel
theorem dX8_isOfWord_18 : decode cX8_isOfWord 18 = .ok (.iload_n 0, 1) := by decide +kernel
theorem dX8_isOfWord_19 : decode cX8_isOfWord 19 = .ok (.bipush 57, 2) := by decide +kernel
theorem dX8_isOfWord_21 : decode cX8_isOfWord 21 = .ok (.if_icmp .gt 7, 3) := by decide +kernel
theorem dX8_isOfWord_24 : decode cX8_isOfWord 24 = .ok (.iconst 1, 1) := by decide +kernel
theorem dX8_isOfWord_25 : decode cX8_isOfWord 25 = .ok (.goto 4, 3) := by decide +kernel
theorem dX8_isOfWord_28 : decode cX8_isOfWord 28 = .ok (.iconst 0, 1) := by decide +kernel
theorem dX8_isOfWord_29 : decode cX8_isOfWord 29 = .ok (.ireturn, 1) := by decide +kernel
theorem dX8_isDigit_0 : decode cX8_isDigit 0 = .ok (.iload_n 0, 1) := by decide +kernel
theorem dX8_isDigit_1 : decode cX8_isDigit 1 = .ok (.bipush 48, 2) := by decide +kernel
theorem dX8_isDigit_3 : decode cX8_isDigit 3 = .ok (.if_icmp .lt 13, 3) := by decide +kernel
theorem dX8_isDigit_6 : decode cX8_isDigit 6 = .ok (.iload_n 0, 1) := by decide +kernel
theorem dX8_isDigit_7 : decode cX8_isDigit 7 = .ok (.bipush 57, 2) := by decide +kernel
theorem dX8_isDigit_9 : decode cX8_isDigit 9 = .ok (.if_icmp .gt 7, 3) := by decide +kernel
theorem dX8_isDigit_12 : decode cX8_isDigit 12 = .ok (.iconst 1, 1) := by decide +kernel
theorem dX8_isDigit_13 : decode cX8_isDigit 13 = .ok (.goto 4, 3) := by decide +kernel
theorem dX8_isDigit_16 : decode cX8_isDigit 16 = .ok (.iconst 0, 1) := by decide +kernel
theorem dX8_isDigit_17 : decode cX8_isDigit 17 = .ok (.ireturn, 1) := by decide +kernel
theorem dX9_init_0 : decode cX9_init 0 = .ok (.aload_n 0, 1) := by decide +kernel
theorem dX9_init_1 : decode cX9_init 1 = .ok (.invokespecial 3, 3) := by decide +kernel
theorem dX9_init_4 : decode cX9_init 4 = .ok (.aload_n 0, 1) := by decide +kernel
theorem dX9_init_5 : decode cX9_init 5 = .ok (.bipush 16, 2) := by decide +kernel
theorem dX9_init_7 : decode cX9_init 7 = .ok (.newarray .int, 2) := by decide +kernel
theorem dX9_init_9 : decode cX9_init 9 = .ok (.putfield 11, 3) := by decide +kernel
theorem dX9_init_12 : decode cX9_init 12 = .ok (.aload_n 0, 1) := by decide +kernel
theorem dX9_init_13 : decode cX9_init 13 = .ok (.bipush 16, 2) := by decide +kernel
theorem dX9_init_15 : decode cX9_init 15 = .ok (.newarray .int, 2) := by decide +kernel
theorem dX9_init_17 : decode cX9_init 17 = .ok (.putfield 15, 3) := by decide +kernel
theorem dX9_init_20 : decode cX9_init 20 = .ok (.return_, 1) := by decide +kernel
theorem dX9_clear_0 : decode cX9_clear 0 = .ok (.aload_n 0, 1) := by decide +kernel
theorem dX9_clear_1 : decode cX9_clear 1 = .ok (.getfield 11, 3) := by decide +kernel
theorem dX9_clear_4 : decode cX9_clear 4 = .ok (.iconst 0, 1) := by decide +kernel
theorem dX9_clear_5 : decode cX9_clear 5 = .ok (.invokestatic 18, 3) := by decide +kernel
theorem dX9_clear_8 : decode cX9_clear 8 = .ok (.aload_n 0, 1) := by decide +kernel
theorem dX9_clear_9 : decode cX9_clear 9 = .ok (.getfield 15, 3) := by decide +kernel
theorem dX9_clear_12 : decode cX9_clear 12 = .ok (.iconst (-1), 1) := by decide +kernel
theorem dX9_clear_13 : decode cX9_clear 13 = .ok (.invokestatic 18, 3) := by decide +kernel
theorem dX9_clear_16 : decode cX9_clear 16 = .ok (.aload_n 0, 1) := by decide +kernel
theorem dX9_clear_17 : decode cX9_clear 17 = .ok (.iload_n 1, 1) := by decide +kernel
theorem dX9_clear_18 : decode cX9_clear 18 = .ok (.putfield 24, 3) := by decide +kernel
theorem dX9_clear_21 : decode cX9_clear 21 = .ok (.aload_n 0, 1) := by decide +kernel
theorem dX9_clear_22 : decode cX9_clear 22 = .ok (.sipush 1000, 3) := by decide +kernel
theorem dX9_clear_25 : decode cX9_clear 25 = .ok (.putfield 28, 3) := by decide +kernel
theorem dX9_clear_28 : decode cX9_clear 28 = .ok (.return_, 1) := by decide +kernel
theorem dX9_take_0 : decode cX9_take 0 = .ok (.iload_n 3, 1) := by decide +kernel
theorem dX9_take_1 : decode cX9_take 1 = .ok (.aload_n 0, 1) := by decide +kernel
theorem dX9_take_2 : decode cX9_take 2 = .ok (.getfield 24, 3) := by decide +kernel
theorem dX9_take_5 : decode cX9_take 5 = .ok (.if_icmp .le 18, 3) := by decide +kernel
theorem dX9_take_8 : decode cX9_take 8 = .ok (.aload_n 0, 1) := by decide +kernel
theorem dX9_take_9 : decode cX9_take 9 = .ok (.aload_n 0, 1) := by decide +kernel
theorem dX9_take_10 : decode cX9_take 10 = .ok (.getfield 28, 3) := by decide +kernel
theorem dX9_take_13 : decode cX9_take 13 = .ok (.iload_n 3, 1) := by decide +kernel
theorem dX9_take_14 : decode cX9_take 14 = .ok (.invokestatic 31, 3) := by decide +kernel
theorem dX9_take_17 : decode cX9_take 17 = .ok (.putfield 28, 3) := by decide +kernel
theorem dX9_take_20 : decode cX9_take 20 = .ok (.goto 37, 3) := by decide +kernel
theorem dX9_take_23 : decode cX9_take 23 = .ok (.iload_n 1, 1) := by decide +kernel
theorem dX9_take_24 : decode cX9_take 24 = .ok (.ifCond .lt 33, 3) := by decide +kernel
theorem dX9_take_27 : decode cX9_take 27 = .ok (.iload_n 1, 1) := by decide +kernel
theorem dX9_take_28 : decode cX9_take 28 = .ok (.bipush 16, 2) := by decide +kernel
theorem dX9_take_30 : decode cX9_take 30 = .ok (.if_icmp .ge 27, 3) := by decide +kernel
theorem dX9_take_33 : decode cX9_take 33 = .ok (.iload_n 3, 1) := by decide +kernel
theorem dX9_take_34 : decode cX9_take 34 = .ok (.aload_n 0, 1) := by decide +kernel
theorem dX9_take_35 : decode cX9_take 35 = .ok (.getfield 15, 3) := by decide +kernel
theorem dX9_take_38 : decode cX9_take 38 = .ok (.iload_n 1, 1) := by decide +kernel
theorem dX9_take_39 : decode cX9_take 39 = .ok (.iaload, 1) := by decide +kernel
theorem dX9_take_40 : decode cX9_take 40 = .ok (.if_icmp .lt 17, 3) := by decide +kernel
theorem dX9_take_43 : decode cX9_take 43 = .ok (.aload_n 0, 1) := by decide +kernel
theorem dX9_take_44 : decode cX9_take 44 = .ok (.getfield 11, 3) := by decide +kernel
theorem dX9_take_47 : decode cX9_take 47 = .ok (.iload_n 1, 1) := by decide +kernel
theorem dX9_take_48 : decode cX9_take 48 = .ok (.iload_n 2, 1) := by decide +kernel
theorem dX9_take_49 : decode cX9_take 49 = .ok (.iastore, 1) := by decide +kernel
theorem dX9_take_50 : decode cX9_take 50 = .ok (.aload_n 0, 1) := by decide +kernel
theorem dX9_take_51 : decode cX9_take 51 = .ok (.getfield 15, 3) := by decide +kernel
theorem dX9_take_54 : decode cX9_take 54 = .ok (.iload_n 1, 1) := by decide +kernel
theorem dX9_take_55 : decode cX9_take 55 = .ok (.iload_n 3, 1) := by decide +kernel
theorem dX9_take_56 : decode cX9_take 56 = .ok (.iastore, 1) := by decide +kernel
theorem dX9_take_57 : decode cX9_take 57 = .ok (.return_, 1) := by decide +kernel
theorem dX9_numberOf_0 : decode cX9_numberOf 0 = .ok (.iload_n 1, 1) := by decide +kernel
theorem dX9_numberOf_1 : decode cX9_numberOf 1 = .ok (.sipush 10000, 3) := by decide +kernel
theorem dX9_numberOf_4 : decode cX9_numberOf 4 = .ok (.isub, 1) := by decide +kernel
theorem dX9_numberOf_5 : decode cX9_numberOf 5 = .ok (.istore_n 2, 1) := by decide +kernel
theorem dX9_numberOf_6 : decode cX9_numberOf 6 = .ok (.iload_n 2, 1) := by decide +kernel
theorem dX9_numberOf_7 : decode cX9_numberOf 7 = .ok (.ifCond .lt 18, 3) := by decide +kernel
theorem dX9_numberOf_10 : decode cX9_numberOf 10 = .ok (.iload_n 2, 1) := by decide +kernel
theorem dX9_numberOf_11 : decode cX9_numberOf 11 = .ok (.bipush 16, 2) := by decide +kernel
theorem dX9_numberOf_13 : decode cX9_numberOf 13 = .ok (.if_icmp .ge 12, 3) := by decide +kernel
theorem dX9_numberOf_16 : decode cX9_numberOf 16 = .ok (.aload_n 0, 1) := by decide +kernel
theorem dX9_numberOf_17 : decode cX9_numberOf 17 = .ok (.getfield 11, 3) := by decide +kernel
theorem dX9_numberOf_20 : decode cX9_numberOf 20 = .ok (.iload_n 2, 1) := by decide +kernel
theorem dX9_numberOf_21 : decode cX9_numberOf 21 = .ok (.iaload, 1) := by decide +kernel
theorem dX9_numberOf_22 : decode cX9_numberOf 22 = .ok (.goto 4, 3) := by decide +kernel
theorem dX9_numberOf_25 : decode cX9_numberOf 25 = .ok (.iload_n 1, 1) := by decide +kernel
theorem dX9_numberOf_26 : decode cX9_numberOf 26 = .ok (.ireturn, 1) := by decide +kernel
theorem dX9_turn_0 : decode cX9_turn 0 = .ok (.aload_n 0, 1) := by decide +kernel
theorem dX9_turn_1 : decode cX9_turn 1 = .ok (.getfield 28, 3) := by decide +kernel
theorem dX9_turn_4 : decode cX9_turn 4 = .ok (.ireturn, 1) := by decide +kernel
theorem dX10_init_0 : decode cX10_init 0 = .ok (.aload_n 0, 1) := by decide +kernel
theorem dX10_init_1 : decode cX10_init 1 = .ok (.invokespecial 3, 3) := by decide +kernel
theorem dX10_init_4 : decode cX10_init 4 = .ok (.aload_n 0, 1) := by decide +kernel
theorem dX10_init_5 : decode cX10_init 5 = .ok (.sipush 500, 3) := by decide +kernel
theorem dX10_init_8 : decode cX10_init 8 = .ok (.newarray .int, 2) := by decide +kernel
theorem dX10_init_10 : decode cX10_init 10 = .ok (.putfield 9, 3) := by decide +kernel
theorem dX10_init_13 : decode cX10_init 13 = .ok (.return_, 1) := by decide +kernel
theorem dX10_size_0 : decode cX10_size 0 = .ok (.aload_n 0, 1) := by decide +kernel
theorem dX10_size_1 : decode cX10_size 1 = .ok (.getfield 15, 3) := by decide +kernel
theorem dX10_size_4 : decode cX10_size 4 = .ok (.ireturn, 1) := by decide +kernel
theorem dX10_add_0 : decode cX10_add 0 = .ok (.aload_n 0, 1) := by decide +kernel
theorem dX10_add_1 : decode cX10_add 1 = .ok (.getfield 15, 3) := by decide +kernel
theorem dX10_add_4 : decode cX10_add 4 = .ok (.iconst 4, 1) := by decide +kernel
theorem dX10_add_5 : decode cX10_add 5 = .ok (.iadd, 1) := by decide +kernel
theorem dX10_add_6 : decode cX10_add 6 = .ok (.sipush 500, 3) := by decide +kernel
theorem dX10_add_9 : decode cX10_add 9 = .ok (.if_icmp .le 4, 3) := by decide +kernel
theorem dX10_add_12 : decode cX10_add 12 = .ok (.return_, 1) := by decide +kernel
theorem dX10_add_13 : decode cX10_add 13 = .ok (.bipush 24, 2) := by decide +kernel
theorem dX10_add_15 : decode cX10_add 15 = .ok (.istore_n 2, 1) := by decide +kernel
theorem dX10_add_16 : decode cX10_add 16 = .ok (.iload_n 2, 1) := by decide +kernel
theorem dX10_add_17 : decode cX10_add 17 = .ok (.ifCond .lt 35, 3) := by decide +kernel
theorem dX10_add_20 : decode cX10_add 20 = .ok (.aload_n 0, 1) := by decide +kernel
theorem dX10_add_21 : decode cX10_add 21 = .ok (.getfield 9, 3) := by decide +kernel
theorem dX10_add_24 : decode cX10_add 24 = .ok (.aload_n 0, 1) := by decide +kernel
theorem dX10_add_25 : decode cX10_add 25 = .ok (.getfield 15, 3) := by decide +kernel
theorem dX10_add_28 : decode cX10_add 28 = .ok (.iload_n 1, 1) := by decide +kernel
theorem dX10_add_29 : decode cX10_add 29 = .ok (.iload_n 2, 1) := by decide +kernel
theorem dX10_add_30 : decode cX10_add 30 = .ok (.iushr, 1) := by decide +kernel
theorem dX10_add_31 : decode cX10_add 31 = .ok (.sipush 255, 3) := by decide +kernel
theorem dX10_add_34 : decode cX10_add 34 = .ok (.iand, 1) := by decide +kernel
theorem dX10_add_35 : decode cX10_add 35 = .ok (.iastore, 1) := by decide +kernel
theorem dX10_add_36 : decode cX10_add 36 = .ok (.aload_n 0, 1) := by decide +kernel
theorem dX10_add_37 : decode cX10_add 37 = .ok (.dup, 1) := by decide +kernel
theorem dX10_add_38 : decode cX10_add 38 = .ok (.getfield 15, 3) := by decide +kernel
theorem dX10_add_41 : decode cX10_add 41 = .ok (.iconst 1, 1) := by decide +kernel
theorem dX10_add_42 : decode cX10_add 42 = .ok (.iadd, 1) := by decide +kernel
theorem dX10_add_43 : decode cX10_add 43 = .ok (.putfield 15, 3) := by decide +kernel
theorem dX10_add_46 : decode cX10_add 46 = .ok (.iinc 2 (-8), 3) := by decide +kernel
theorem dX10_add_49 : decode cX10_add 49 = .ok (.goto (-33), 3) := by decide +kernel
theorem dX10_add_52 : decode cX10_add 52 = .ok (.return_, 1) := by decide +kernel
theorem dX10_cut_0 : decode cX10_cut 0 = .ok (.iload_n 1, 1) := by decide +kernel
theorem dX10_cut_1 : decode cX10_cut 1 = .ok (.ifCond .lt 11, 3) := by decide +kernel
theorem dX10_cut_4 : decode cX10_cut 4 = .ok (.iload_n 1, 1) := by decide +kernel
theorem dX10_cut_5 : decode cX10_cut 5 = .ok (.aload_n 0, 1) := by decide +kernel
theorem dX10_cut_6 : decode cX10_cut 6 = .ok (.getfield 15, 3) := by decide +kernel
theorem dX10_cut_9 : decode cX10_cut 9 = .ok (.if_icmp .le 5, 3) := by decide +kernel
theorem dX10_cut_12 : decode cX10_cut 12 = .ok (.iconst 0, 1) := by decide +kernel
theorem dX10_cut_13 : decode cX10_cut 13 = .ok (.ireturn, 1) := by decide +kernel
theorem dX10_cut_14 : decode cX10_cut 14 = .ok (.aload_n 0, 1) := by decide +kernel
theorem dX10_cut_15 : decode cX10_cut 15 = .ok (.iload_n 1, 1) := by decide +kernel
theorem dX10_cut_16 : decode cX10_cut 16 = .ok (.putfield 15, 3) := by decide +kernel
theorem dX10_cut_19 : decode cX10_cut 19 = .ok (.iconst 1, 1) := by decide +kernel
theorem dX10_cut_20 : decode cX10_cut 20 = .ok (.ireturn, 1) := by decide +kernel
theorem dX10_byteAt_0 : decode cX10_byteAt 0 = .ok (.iload_n 1, 1) := by decide +kernel
theorem dX10_byteAt_1 : decode cX10_byteAt 1 = .ok (.ifCond .lt 20, 3) := by decide +kernel
theorem dX10_byteAt_4 : decode cX10_byteAt 4 = .ok (.iload_n 1, 1) := by decide +kernel
theorem dX10_byteAt_5 : decode cX10_byteAt 5 = .ok (.aload_n 0, 1) := by decide +kernel
theorem dX10_byteAt_6 : decode cX10_byteAt 6 = .ok (.getfield 15, 3) := by decide +kernel
theorem dX10_byteAt_9 : decode cX10_byteAt 9 = .ok (.if_icmp .ge 12, 3) := by decide +kernel
theorem dX10_byteAt_12 : decode cX10_byteAt 12 = .ok (.aload_n 0, 1) := by decide +kernel
theorem dX10_byteAt_13 : decode cX10_byteAt 13 = .ok (.getfield 9, 3) := by decide +kernel
theorem dX10_byteAt_16 : decode cX10_byteAt 16 = .ok (.iload_n 1, 1) := by decide +kernel
theorem dX10_byteAt_17 : decode cX10_byteAt 17 = .ok (.iaload, 1) := by decide +kernel
theorem dX10_byteAt_18 : decode cX10_byteAt 18 = .ok (.goto 4, 3) := by decide +kernel
theorem dX10_byteAt_21 : decode cX10_byteAt 21 = .ok (.iconst (-1), 1) := by decide +kernel
theorem dX10_byteAt_22 : decode cX10_byteAt 22 = .ok (.ireturn, 1) := by decide +kernel
theorem dX11_init_0 : decode cX11_init 0 = .ok (.aload_n 0, 1) := by decide +kernel
theorem dX11_init_1 : decode cX11_init 1 = .ok (.invokespecial 1, 3) := by decide +kernel
theorem dX11_init_4 : decode cX11_init 4 = .ok (.aload_n 0, 1) := by decide +kernel
theorem dX11_init_5 : decode cX11_init 5 = .ok (.new 7, 3) := by decide +kernel
theorem dX11_init_8 : decode cX11_init 8 = .ok (.dup, 1) := by decide +kernel
theorem dX11_init_9 : decode cX11_init 9 = .ok (.invokespecial 9, 3) := by decide +kernel
theorem dX11_init_12 : decode cX11_init 12 = .ok (.putfield 10, 3) := by decide +kernel
theorem dX11_init_15 : decode cX11_init 15 = .ok (.aload_n 0, 1) := by decide +kernel
theorem dX11_init_16 : decode cX11_init 16 = .ok (.new 16, 3) := by decide +kernel
theorem dX11_init_19 : decode cX11_init 19 = .ok (.dup, 1) := by decide +kernel
theorem dX11_init_20 : decode cX11_init 20 = .ok (.invokespecial 18, 3) := by decide +kernel
theorem dX11_init_23 : decode cX11_init 23 = .ok (.putfield 19, 3) := by decide +kernel
theorem dX11_init_26 : decode cX11_init 26 = .ok (.aload_n 0, 1) := by decide +kernel
theorem dX11_init_27 : decode cX11_init 27 = .ok (.new 23, 3) := by decide +kernel
theorem dX11_init_30 : decode cX11_init 30 = .ok (.dup, 1) := by decide +kernel
theorem dX11_init_31 : decode cX11_init 31 = .ok (.invokespecial 25, 3) := by decide +kernel
theorem dX11_init_34 : decode cX11_init 34 = .ok (.putfield 26, 3) := by decide +kernel
theorem dX11_init_37 : decode cX11_init 37 = .ok (.aload_n 0, 1) := by decide +kernel
theorem dX11_init_38 : decode cX11_init 38 = .ok (.new 30, 3) := by decide +kernel
theorem dX11_init_41 : decode cX11_init 41 = .ok (.dup, 1) := by decide +kernel
theorem dX11_init_42 : decode cX11_init 42 = .ok (.invokespecial 32, 3) := by decide +kernel
theorem dX11_init_45 : decode cX11_init 45 = .ok (.putfield 33, 3) := by decide +kernel
theorem dX11_init_48 : decode cX11_init 48 = .ok (.aload_n 0, 1) := by decide +kernel
theorem dX11_init_49 : decode cX11_init 49 = .ok (.new 37, 3) := by decide +kernel
theorem dX11_init_52 : decode cX11_init 52 = .ok (.dup, 1) := by decide +kernel
theorem dX11_init_53 : decode cX11_init 53 = .ok (.invokespecial 39, 3) := by decide +kernel
theorem dX11_init_56 : decode cX11_init 56 = .ok (.putfield 40, 3) := by decide +kernel
theorem dX11_init_59 : decode cX11_init 59 = .ok (.aload_n 0, 1) := by decide +kernel
theorem dX11_init_60 : decode cX11_init 60 = .ok (.new 44, 3) := by decide +kernel
theorem dX11_init_63 : decode cX11_init 63 = .ok (.dup, 1) := by decide +kernel
theorem dX11_init_64 : decode cX11_init 64 = .ok (.invokespecial 46, 3) := by decide +kernel
theorem dX11_init_67 : decode cX11_init 67 = .ok (.putfield 47, 3) := by decide +kernel
theorem dX11_init_70 : decode cX11_init 70 = .ok (.aload_n 0, 1) := by decide +kernel
theorem dX11_init_71 : decode cX11_init 71 = .ok (.new 51, 3) := by decide +kernel
theorem dX11_init_74 : decode cX11_init 74 = .ok (.dup, 1) := by decide +kernel
theorem dX11_init_75 : decode cX11_init 75 = .ok (.aload_n 0, 1) := by decide +kernel
theorem dX11_init_76 : decode cX11_init 76 = .ok (.getfield 40, 3) := by decide +kernel
theorem dX11_init_79 : decode cX11_init 79 = .ok (.invokespecial 53, 3) := by decide +kernel
theorem dX11_init_82 : decode cX11_init 82 = .ok (.putfield 56, 3) := by decide +kernel
theorem dX11_init_85 : decode cX11_init 85 = .ok (.aload_n 0, 1) := by decide +kernel
theorem dX11_init_86 : decode cX11_init 86 = .ok (.new 60, 3) := by decide +kernel
theorem dX11_init_89 : decode cX11_init 89 = .ok (.dup, 1) := by decide +kernel
theorem dX11_init_90 : decode cX11_init 90 = .ok (.aload_n 0, 1) := by decide +kernel
theorem dX11_init_91 : decode cX11_init 91 = .ok (.getfield 10, 3) := by decide +kernel
theorem dX11_init_94 : decode cX11_init 94 = .ok (.aload_n 0, 1) := by decide +kernel
theorem dX11_init_95 : decode cX11_init 95 = .ok (.getfield 19, 3) := by decide +kernel
theorem dX11_init_98 : decode cX11_init 98 = .ok (.aload_n 0, 1) := by decide +kernel
theorem dX11_init_99 : decode cX11_init 99 = .ok (.getfield 26, 3) := by decide +kernel
theorem dX11_init_102 : decode cX11_init 102 = .ok (.aload_n 0, 1) := by decide +kernel
theorem dX11_init_103 : decode cX11_init 103 = .ok (.getfield 33, 3) := by decide +kernel
theorem dX11_init_106 : decode cX11_init 106 = .ok (.aload_n 0, 1) := by decide +kernel
theorem dX11_init_107 : decode cX11_init 107 = .ok (.getfield 47, 3) := by decide +kernel
theorem dX11_init_110 : decode cX11_init 110 = .ok (.invokespecial 62, 3) := by decide +kernel
theorem dX11_init_113 : decode cX11_init 113 = .ok (.putfield 65, 3) := by decide +kernel
theorem dX11_init_116 : decode cX11_init 116 = .ok (.aload_n 0, 1) := by decide +kernel
theorem dX11_init_117 : decode cX11_init 117 = .ok (.new 69, 3) := by decide +kernel
theorem dX11_init_120 : decode cX11_init 120 = .ok (.dup, 1) := by decide +kernel
theorem dX11_init_121 : decode cX11_init 121 = .ok (.invokespecial 71, 3) := by decide +kernel
theorem dX11_init_124 : decode cX11_init 124 = .ok (.putfield 72, 3) := by decide +kernel
theorem dX11_init_127 : decode cX11_init 127 = .ok (.aload_n 0, 1) := by decide +kernel
theorem dX11_init_128 : decode cX11_init 128 = .ok (.new 76, 3) := by decide +kernel
theorem dX11_init_131 : decode cX11_init 131 = .ok (.dup, 1) := by decide +kernel
theorem dX11_init_132 : decode cX11_init 132 = .ok (.aload_n 0, 1) := by decide +kernel
theorem dX11_init_133 : decode cX11_init 133 = .ok (.getfield 10, 3) := by decide +kernel
theorem dX11_init_136 : decode cX11_init 136 = .ok (.aload_n 0, 1) := by decide +kernel
theorem dX11_init_137 : decode cX11_init 137 = .ok (.getfield 19, 3) := by decide +kernel
theorem dX11_init_140 : decode cX11_init 140 = .ok (.aload_n 0, 1) := by decide +kernel
theorem dX11_init_141 : decode cX11_init 141 = .ok (.getfield 65, 3) := by decide +kernel
theorem dX11_init_144 : decode cX11_init 144 = .ok (.aload_n 0, 1) := by decide +kernel
theorem dX11_init_145 : decode cX11_init 145 = .ok (.getfield 72, 3) := by decide +kernel
theorem dX11_init_148 : decode cX11_init 148 = .ok (.invokespecial 78, 3) := by decide +kernel
theorem dX11_init_151 : decode cX11_init 151 = .ok (.putfield 81, 3) := by decide +kernel
theorem dX11_init_154 : decode cX11_init 154 = .ok (.aload_n 0, 1) := by decide +kernel
theorem dX11_init_155 : decode cX11_init 155 = .ok (.iconst 0, 1) := by decide +kernel
theorem dX11_init_156 : decode cX11_init 156 = .ok (.putfield 85, 3) := by decide +kernel
theorem dX11_init_159 : decode cX11_init 159 = .ok (.return_, 1) := by decide +kernel
theorem dX11_clock_0 : decode cX11_clock 0 = .ok (.iload_n 1, 1) := by decide +kernel
theorem dX11_clock_1 : decode cX11_clock 1 = .ok (.invokestatic 89, 3) := by decide +kernel
theorem dX11_clock_4 : decode cX11_clock 4 = .ok (.ifCond .eq 11, 3) := by decide +kernel
theorem dX11_clock_7 : decode cX11_clock 7 = .ok (.iload_n 1, 1) := by decide +kernel
theorem dX11_clock_8 : decode cX11_clock 8 = .ok (.aload_n 0, 1) := by decide +kernel
theorem dX11_clock_9 : decode cX11_clock 9 = .ok (.getfield 85, 3) := by decide +kernel
theorem dX11_clock_12 : decode cX11_clock 12 = .ok (.if_icmp .ge 5, 3) := by decide +kernel
theorem dX11_clock_15 : decode cX11_clock 15 = .ok (.iconst 0, 1) := by decide +kernel
theorem dX11_clock_16 : decode cX11_clock 16 = .ok (.ireturn, 1) := by decide +kernel
theorem dX11_clock_17 : decode cX11_clock 17 = .ok (.aload_n 0, 1) := by decide +kernel
theorem dX11_clock_18 : decode cX11_clock 18 = .ok (.iload_n 1, 1) := by decide +kernel
theorem dX11_clock_19 : decode cX11_clock 19 = .ok (.putfield 85, 3) := by decide +kernel
theorem dX11_clock_22 : decode cX11_clock 22 = .ok (.iconst 1, 1) := by decide +kernel
theorem dX11_clock_23 : decode cX11_clock 23 = .ok (.ireturn, 1) := by decide +kernel
theorem dX11_child_0 : decode cX11_child 0 = .ok (.aload_n 0, 1) := by decide +kernel
theorem dX11_child_1 : decode cX11_child 1 = .ok (.getfield 10, 3) := by decide +kernel
theorem dX11_child_4 : decode cX11_child 4 = .ok (.iload_n 1, 1) := by decide +kernel
theorem dX11_child_5 : decode cX11_child 5 = .ok (.invokevirtual 93, 3) := by decide +kernel
theorem dX11_child_8 : decode cX11_child 8 = .ok (.ireturn, 1) := by decide +kernel
theorem dX11_home_0 : decode cX11_home 0 = .ok (.aload_n 0, 1) := by decide +kernel
theorem dX11_home_1 : decode cX11_home 1 = .ok (.getfield 19, 3) := by decide +kernel
theorem dX11_home_4 : decode cX11_home 4 = .ok (.iload_n 1, 1) := by decide +kernel
theorem dX11_home_5 : decode cX11_home 5 = .ok (.invokevirtual 97, 3) := by decide +kernel
theorem dX11_home_8 : decode cX11_home 8 = .ok (.ireturn, 1) := by decide +kernel
theorem dX11_fact_0 : decode cX11_fact 0 = .ok (.aload_n 0, 1) := by decide +kernel
theorem dX11_fact_1 : decode cX11_fact 1 = .ok (.iload_n 1, 1) := by decide +kernel
theorem dX11_fact_2 : decode cX11_fact 2 = .ok (.iload_n 2, 1) := by decide +kernel
theorem dX11_fact_3 : decode cX11_fact 3 = .ok (.invokevirtual 98, 3) := by decide +kernel
theorem dX11_fact_6 : decode cX11_fact 6 = .ok (.ifCond .eq 22, 3) := by decide +kernel
theorem dX11_fact_9 : decode cX11_fact 9 = .ok (.iload_n 3, 1) := by decide +kernel
theorem dX11_fact_10 : decode cX11_fact 10 = .ok (.invokestatic 102, 3) := by decide +kernel
theorem dX11_fact_13 : decode cX11_fact 13 = .ok (.ifCond .eq 15, 3) := by decide +kernel
theorem dX11_fact_16 : decode cX11_fact 16 = .ok (.iload 5, 2) := by decide +kernel
theorem dX11_fact_18 : decode cX11_fact 18 = .ok (.invokestatic 89, 3) := by decide +kernel
theorem dX11_fact_21 : decode cX11_fact 21 = .ok (.ifCond .eq 7, 3) := by decide +kernel
theorem dX11_fact_24 : decode cX11_fact 24 = .ok (.iconst 1, 1) := by decide +kernel
theorem dX11_fact_25 : decode cX11_fact 25 = .ok (.goto 4, 3) := by decide +kernel
theorem dX11_fact_28 : decode cX11_fact 28 = .ok (.iconst 0, 1) := by decide +kernel
theorem dX11_fact_29 : decode cX11_fact 29 = .ok (.istore 6, 2) := by decide +kernel
theorem dX11_fact_31 : decode cX11_fact 31 = .ok (.iload 6, 2) := by decide +kernel
theorem dX11_fact_33 : decode cX11_fact 33 = .ok (.ifCond .eq 19, 3) := by decide +kernel
theorem dX11_fact_36 : decode cX11_fact 36 = .ok (.iload 4, 2) := by decide +kernel
theorem dX11_fact_38 : decode cX11_fact 38 = .ok (.sipush (-999), 3) := by decide +kernel
theorem dX11_fact_41 : decode cX11_fact 41 = .ok (.if_icmp .lt 11, 3) := by decide +kernel
theorem dX11_fact_44 : decode cX11_fact 44 = .ok (.iload 4, 2) := by decide +kernel
theorem dX11_fact_46 : decode cX11_fact 46 = .ok (.sipush 9999, 3) := by decide +kernel
theorem dX11_fact_49 : decode cX11_fact 49 = .ok (.if_icmp .le 5, 3) := by decide +kernel
theorem dX11_fact_52 : decode cX11_fact 52 = .ok (.iconst (-1), 1) := by decide +kernel
theorem dX11_fact_53 : decode cX11_fact 53 = .ok (.ireturn, 1) := by decide +kernel
theorem dX11_fact_54 : decode cX11_fact 54 = .ok (.aload_n 0, 1) := by decide +kernel
theorem dX11_fact_55 : decode cX11_fact 55 = .ok (.getfield 33, 3) := by decide +kernel
theorem dX11_fact_58 : decode cX11_fact 58 = .ok (.iload_n 1, 1) := by decide +kernel
theorem dX11_fact_59 : decode cX11_fact 59 = .ok (.iload_n 3, 1) := by decide +kernel
theorem dX11_fact_60 : decode cX11_fact 60 = .ok (.invokestatic 105, 3) := by decide +kernel
theorem dX11_fact_63 : decode cX11_fact 63 = .ok (.iload_n 2, 1) := by decide +kernel
theorem dX11_fact_64 : decode cX11_fact 64 = .ok (.iload 4, 2) := by decide +kernel
theorem dX11_fact_66 : decode cX11_fact 66 = .ok (.iload 5, 2) := by decide +kernel
theorem dX11_fact_68 : decode cX11_fact 68 = .ok (.aload_n 0, 1) := by decide +kernel
theorem dX11_fact_69 : decode cX11_fact 69 = .ok (.getfield 85, 3) := by decide +kernel
theorem dX11_fact_72 : decode cX11_fact 72 = .ok (.invokevirtual 109, 3) := by decide +kernel
theorem dX11_fact_75 : decode cX11_fact 75 = .ok (.ireturn, 1) := by decide +kernel
theorem dX11_value_0 : decode cX11_value 0 = .ok (.aload_n 0, 1) := by decide +kernel
theorem dX11_value_1 : decode cX11_value 1 = .ok (.iload_n 1, 1) := by decide +kernel
theorem dX11_value_2 : decode cX11_value 2 = .ok (.iload_n 2, 1) := by decide +kernel
theorem dX11_value_3 : decode cX11_value 3 = .ok (.invokevirtual 98, 3) := by decide +kernel
theorem dX11_value_6 : decode cX11_value 6 = .ok (.ifCond .eq 26, 3) := by decide +kernel
theorem dX11_value_9 : decode cX11_value 9 = .ok (.iload_n 3, 1) := by decide +kernel
theorem dX11_value_10 : decode cX11_value 10 = .ok (.invokestatic 102, 3) := by decide +kernel
theorem dX11_value_13 : decode cX11_value 13 = .ok (.ifCond .eq 19, 3) := by decide +kernel
theorem dX11_value_16 : decode cX11_value 16 = .ok (.iload 4, 2) := by decide +kernel
theorem dX11_value_18 : decode cX11_value 18 = .ok (.invokestatic 89, 3) := by decide +kernel
theorem dX11_value_21 : decode cX11_value 21 = .ok (.ifCond .eq 11, 3) := by decide +kernel
theorem dX11_value_24 : decode cX11_value 24 = .ok (.iload 5, 2) := by decide +kernel
theorem dX11_value_26 : decode cX11_value 26 = .ok (.invokestatic 89, 3) := by decide +kernel
theorem dX11_value_29 : decode cX11_value 29 = .ok (.ifCond .ne 7, 3) := by decide +kernel
theorem dX11_value_32 : decode cX11_value 32 = .ok (.sipush (-1000), 3) := by decide +kernel
theorem dX11_value_35 : decode cX11_value 35 = .ok (.ireturn, 1) := by decide +kernel
theorem dX11_value_36 : decode cX11_value 36 = .ok (.aload_n 0, 1) := by decide +kernel
theorem dX11_value_37 : decode cX11_value 37 = .ok (.getfield 33, 3) := by decide +kernel
theorem dX11_value_40 : decode cX11_value 40 = .ok (.iload_n 1, 1) := by decide +kernel
theorem dX11_value_41 : decode cX11_value 41 = .ok (.iload_n 3, 1) := by decide +kernel
theorem dX11_value_42 : decode cX11_value 42 = .ok (.invokestatic 105, 3) := by decide +kernel
theorem dX11_value_45 : decode cX11_value 45 = .ok (.iload_n 2, 1) := by decide +kernel
theorem dX11_value_46 : decode cX11_value 46 = .ok (.iload 4, 2) := by decide +kernel
theorem dX11_value_48 : decode cX11_value 48 = .ok (.iload 5, 2) := by decide +kernel
theorem dX11_value_50 : decode cX11_value 50 = .ok (.invokevirtual 112, 3) := by decide +kernel
theorem dX11_value_53 : decode cX11_value 53 = .ok (.ireturn, 1) := by decide +kernel
theorem dX11_paper_0 : decode cX11_paper 0 = .ok (.aload_n 0, 1) := by decide +kernel
theorem dX11_paper_1 : decode cX11_paper 1 = .ok (.getfield 19, 3) := by decide +kernel
theorem dX11_paper_4 : decode cX11_paper 4 = .ok (.iload_n 1, 1) := by decide +kernel
theorem dX11_paper_5 : decode cX11_paper 5 = .ok (.invokevirtual 116, 3) := by decide +kernel
theorem dX11_paper_8 : decode cX11_paper 8 = .ok (.ifCond .eq 22, 3) := by decide +kernel
theorem dX11_paper_11 : decode cX11_paper 11 = .ok (.iload_n 2, 1) := by decide +kernel
theorem dX11_paper_12 : decode cX11_paper 12 = .ok (.invokestatic 89, 3) := by decide +kernel
theorem dX11_paper_15 : decode cX11_paper 15 = .ok (.ifCond .eq 15, 3) := by decide +kernel
theorem dX11_paper_18 : decode cX11_paper 18 = .ok (.iload_n 3, 1) := by decide +kernel
theorem dX11_paper_19 : decode cX11_paper 19 = .ok (.invokestatic 89, 3) := by decide +kernel
theorem dX11_paper_22 : decode cX11_paper 22 = .ok (.ifCond .eq 8, 3) := by decide +kernel
theorem dX11_paper_25 : decode cX11_paper 25 = .ok (.iload_n 2, 1) := by decide +kernel
theorem dX11_paper_26 : decode cX11_paper 26 = .ok (.iload_n 3, 1) := by decide +kernel
theorem dX11_paper_27 : decode cX11_paper 27 = .ok (.if_icmp .le 5, 3) := by decide +kernel
theorem dX11_paper_30 : decode cX11_paper 30 = .ok (.iconst (-1), 1) := by decide +kernel
theorem dX11_paper_31 : decode cX11_paper 31 = .ok (.ireturn, 1) := by decide +kernel
theorem dX11_paper_32 : decode cX11_paper 32 = .ok (.aload_n 0, 1) := by decide +kernel
theorem dX11_paper_33 : decode cX11_paper 33 = .ok (.getfield 26, 3) := by decide +kernel
theorem dX11_paper_36 : decode cX11_paper 36 = .ok (.iload_n 1, 1) := by decide +kernel
theorem dX11_paper_37 : decode cX11_paper 37 = .ok (.iload_n 2, 1) := by decide +kernel
theorem dX11_paper_38 : decode cX11_paper 38 = .ok (.iload_n 3, 1) := by decide +kernel
theorem dX11_paper_39 : decode cX11_paper 39 = .ok (.invokevirtual 119, 3) := by decide +kernel
theorem dX11_paper_42 : decode cX11_paper 42 = .ok (.ireturn, 1) := by decide +kernel
theorem dX11_until_0 : decode cX11_until 0 = .ok (.aload_n 0, 1) := by decide +kernel
theorem dX11_until_1 : decode cX11_until 1 = .ok (.getfield 19, 3) := by decide +kernel
theorem dX11_until_4 : decode cX11_until 4 = .ok (.iload_n 1, 1) := by decide +kernel
theorem dX11_until_5 : decode cX11_until 5 = .ok (.invokevirtual 116, 3) := by decide +kernel
theorem dX11_until_8 : decode cX11_until 8 = .ok (.ifCond .eq 22, 3) := by decide +kernel
theorem dX11_until_11 : decode cX11_until 11 = .ok (.iload_n 2, 1) := by decide +kernel
theorem dX11_until_12 : decode cX11_until 12 = .ok (.invokestatic 89, 3) := by decide +kernel
theorem dX11_until_15 : decode cX11_until 15 = .ok (.ifCond .eq 15, 3) := by decide +kernel
theorem dX11_until_18 : decode cX11_until 18 = .ok (.aload_n 0, 1) := by decide +kernel
theorem dX11_until_19 : decode cX11_until 19 = .ok (.getfield 26, 3) := by decide +kernel
theorem dX11_until_22 : decode cX11_until 22 = .ok (.iload_n 1, 1) := by decide +kernel
theorem dX11_until_23 : decode cX11_until 23 = .ok (.iload_n 2, 1) := by decide +kernel
theorem dX11_until_24 : decode cX11_until 24 = .ok (.invokevirtual 122, 3) := by decide +kernel
theorem dX11_until_27 : decode cX11_until 27 = .ok (.goto 4, 3) := by decide +kernel
theorem dX11_until_30 : decode cX11_until 30 = .ok (.iconst (-1), 1) := by decide +kernel
theorem dX11_until_31 : decode cX11_until 31 = .ok (.ireturn, 1) := by decide +kernel
theorem dX11_close_0 : decode cX11_close 0 = .ok (.aload_n 0, 1) := by decide +kernel
theorem dX11_close_1 : decode cX11_close 1 = .ok (.getfield 19, 3) := by decide +kernel
theorem dX11_close_4 : decode cX11_close 4 = .ok (.iload_n 1, 1) := by decide +kernel
theorem dX11_close_5 : decode cX11_close 5 = .ok (.invokevirtual 116, 3) := by decide +kernel
theorem dX11_close_8 : decode cX11_close 8 = .ok (.ifCond .eq 15, 3) := by decide +kernel
theorem dX11_close_11 : decode cX11_close 11 = .ok (.iload_n 2, 1) := by decide +kernel
theorem dX11_close_12 : decode cX11_close 12 = .ok (.iconst (-1), 1) := by decide +kernel
theorem dX11_close_13 : decode cX11_close 13 = .ok (.if_icmp .eq 12, 3) := by decide +kernel
theorem dX11_close_16 : decode cX11_close 16 = .ok (.iload_n 2, 1) := by decide +kernel
theorem dX11_close_17 : decode cX11_close 17 = .ok (.invokestatic 89, 3) := by decide +kernel
theorem dX11_close_20 : decode cX11_close 20 = .ok (.ifCond .ne 5, 3) := by decide +kernel
theorem dX11_close_23 : decode cX11_close 23 = .ok (.iconst 0, 1) := by decide +kernel
theorem dX11_close_24 : decode cX11_close 24 = .ok (.ireturn, 1) := by decide +kernel
theorem dX11_close_25 : decode cX11_close 25 = .ok (.aload_n 0, 1) := by decide +kernel
theorem dX11_close_26 : decode cX11_close 26 = .ok (.getfield 19, 3) := by decide +kernel
theorem dX11_close_29 : decode cX11_close 29 = .ok (.iload_n 1, 1) := by decide +kernel
theorem dX11_close_30 : decode cX11_close 30 = .ok (.iload_n 2, 1) := by decide +kernel
theorem dX11_close_31 : decode cX11_close 31 = .ok (.invokevirtual 126, 3) := by decide +kernel
theorem dX11_close_34 : decode cX11_close 34 = .ok (.iconst 1, 1) := by decide +kernel
theorem dX11_close_35 : decode cX11_close 35 = .ok (.ireturn, 1) := by decide +kernel
theorem dX11_need_0 : decode cX11_need 0 = .ok (.aload_n 0, 1) := by decide +kernel
theorem dX11_need_1 : decode cX11_need 1 = .ok (.getfield 10, 3) := by decide +kernel
theorem dX11_need_4 : decode cX11_need 4 = .ok (.iload_n 1, 1) := by decide +kernel
theorem dX11_need_5 : decode cX11_need 5 = .ok (.invokevirtual 130, 3) := by decide +kernel
theorem dX11_need_8 : decode cX11_need 8 = .ok (.ifCond .eq 26, 3) := by decide +kernel
theorem dX11_need_11 : decode cX11_need 11 = .ok (.iload_n 2, 1) := by decide +kernel
theorem dX11_need_12 : decode cX11_need 12 = .ok (.invokestatic 89, 3) := by decide +kernel
theorem dX11_need_15 : decode cX11_need 15 = .ok (.ifCond .eq 19, 3) := by decide +kernel
theorem dX11_need_18 : decode cX11_need 18 = .ok (.iload_n 3, 1) := by decide +kernel
theorem dX11_need_19 : decode cX11_need 19 = .ok (.invokestatic 89, 3) := by decide +kernel
theorem dX11_need_22 : decode cX11_need 22 = .ok (.ifCond .eq 12, 3) := by decide +kernel
theorem dX11_need_25 : decode cX11_need 25 = .ok (.iload_n 2, 1) := by decide +kernel
theorem dX11_need_26 : decode cX11_need 26 = .ok (.iload_n 3, 1) := by decide +kernel
theorem dX11_need_27 : decode cX11_need 27 = .ok (.if_icmp .gt 7, 3) := by decide +kernel
theorem dX11_need_30 : decode cX11_need 30 = .ok (.iconst 1, 1) := by decide +kernel
theorem dX11_need_31 : decode cX11_need 31 = .ok (.goto 4, 3) := by decide +kernel
theorem dX11_need_34 : decode cX11_need 34 = .ok (.iconst 0, 1) := by decide +kernel
theorem dX11_need_35 : decode cX11_need 35 = .ok (.istore 5, 2) := by decide +kernel
theorem dX11_need_37 : decode cX11_need 37 = .ok (.iload 5, 2) := by decide +kernel
theorem dX11_need_39 : decode cX11_need 39 = .ok (.ifCond .eq 13, 3) := by decide +kernel
theorem dX11_need_42 : decode cX11_need 42 = .ok (.iload_n 3, 1) := by decide +kernel
theorem dX11_need_43 : decode cX11_need 43 = .ok (.iload_n 2, 1) := by decide +kernel
theorem dX11_need_44 : decode cX11_need 44 = .ok (.isub, 1) := by decide +kernel
theorem dX11_need_45 : decode cX11_need 45 = .ok (.iconst 1, 1) := by decide +kernel
theorem dX11_need_46 : decode cX11_need 46 = .ok (.iadd, 1) := by decide +kernel
theorem dX11_need_47 : decode cX11_need 47 = .ok (.bipush 60, 2) := by decide +kernel
theorem dX11_need_49 : decode cX11_need 49 = .ok (.if_icmp .le 5, 3) := by decide +kernel
theorem dX11_need_52 : decode cX11_need 52 = .ok (.iconst 0, 1) := by decide +kernel
theorem dX11_need_53 : decode cX11_need 53 = .ok (.ireturn, 1) := by decide +kernel
theorem dX11_need_54 : decode cX11_need 54 = .ok (.aload_n 0, 1) := by decide +kernel
theorem dX11_need_55 : decode cX11_need 55 = .ok (.getfield 10, 3) := by decide +kernel
theorem dX11_need_58 : decode cX11_need 58 = .ok (.iload_n 1, 1) := by decide +kernel
theorem dX11_need_59 : decode cX11_need 59 = .ok (.iload_n 2, 1) := by decide +kernel
theorem dX11_need_60 : decode cX11_need 60 = .ok (.iload_n 3, 1) := by decide +kernel
theorem dX11_need_61 : decode cX11_need 61 = .ok (.iload 4, 2) := by decide +kernel
theorem dX11_need_63 : decode cX11_need 63 = .ok (.invokevirtual 131, 3) := by decide +kernel
theorem dX11_need_66 : decode cX11_need 66 = .ok (.iconst 1, 1) := by decide +kernel
theorem dX11_need_67 : decode cX11_need 67 = .ok (.ireturn, 1) := by decide +kernel
theorem dX11_ends_0 : decode cX11_ends 0 = .ok (.aload_n 0, 1) := by decide +kernel
theorem dX11_ends_1 : decode cX11_ends 1 = .ok (.getfield 10, 3) := by decide +kernel
theorem dX11_ends_4 : decode cX11_ends 4 = .ok (.iload_n 1, 1) := by decide +kernel
theorem dX11_ends_5 : decode cX11_ends 5 = .ok (.invokevirtual 135, 3) := by decide +kernel
theorem dX11_ends_8 : decode cX11_ends 8 = .ok (.ireturn, 1) := by decide +kernel
theorem dX11_feed_0 : decode cX11_feed 0 = .ok (.aload_n 0, 1) := by decide +kernel
theorem dX11_feed_1 : decode cX11_feed 1 = .ok (.getfield 40, 3) := by decide +kernel
theorem dX11_feed_4 : decode cX11_feed 4 = .ok (.invokevirtual 138, 3) := by decide +kernel
theorem dX11_feed_7 : decode cX11_feed 7 = .ok (.bipush 20, 2) := by decide +kernel
theorem dX11_feed_9 : decode cX11_feed 9 = .ok (.iadd, 1) := by decide +kernel
theorem dX11_feed_10 : decode cX11_feed 10 = .ok (.sipush 500, 3) := by decide +kernel
theorem dX11_feed_13 : decode cX11_feed 13 = .ok (.if_icmp .le 5, 3) := by decide +kernel
theorem dX11_feed_16 : decode cX11_feed 16 = .ok (.iconst (-1), 1) := by decide +kernel
theorem dX11_feed_17 : decode cX11_feed 17 = .ok (.ireturn, 1) := by decide +kernel
theorem dX11_feed_18 : decode cX11_feed 18 = .ok (.aload_n 0, 1) := by decide +kernel
theorem dX11_feed_19 : decode cX11_feed 19 = .ok (.getfield 40, 3) := by decide +kernel
theorem dX11_feed_22 : decode cX11_feed 22 = .ok (.iload_n 1, 1) := by decide +kernel
theorem dX11_feed_23 : decode cX11_feed 23 = .ok (.invokevirtual 142, 3) := by decide +kernel
theorem dX11_feed_26 : decode cX11_feed 26 = .ok (.aload_n 0, 1) := by decide +kernel
theorem dX11_feed_27 : decode cX11_feed 27 = .ok (.getfield 40, 3) := by decide +kernel
theorem dX11_feed_30 : decode cX11_feed 30 = .ok (.iload_n 2, 1) := by decide +kernel
theorem dX11_feed_31 : decode cX11_feed 31 = .ok (.invokevirtual 142, 3) := by decide +kernel
theorem dX11_feed_34 : decode cX11_feed 34 = .ok (.aload_n 0, 1) := by decide +kernel
theorem dX11_feed_35 : decode cX11_feed 35 = .ok (.getfield 40, 3) := by decide +kernel
theorem dX11_feed_38 : decode cX11_feed 38 = .ok (.iload_n 3, 1) := by decide +kernel
theorem dX11_feed_39 : decode cX11_feed 39 = .ok (.invokevirtual 142, 3) := by decide +kernel
theorem dX11_feed_42 : decode cX11_feed 42 = .ok (.aload_n 0, 1) := by decide +kernel
theorem dX11_feed_43 : decode cX11_feed 43 = .ok (.getfield 40, 3) := by decide +kernel
theorem dX11_feed_46 : decode cX11_feed 46 = .ok (.iload 4, 2) := by decide +kernel
theorem dX11_feed_48 : decode cX11_feed 48 = .ok (.invokevirtual 142, 3) := by decide +kernel
theorem dX11_feed_51 : decode cX11_feed 51 = .ok (.aload_n 0, 1) := by decide +kernel
theorem dX11_feed_52 : decode cX11_feed 52 = .ok (.getfield 40, 3) := by decide +kernel
theorem dX11_feed_55 : decode cX11_feed 55 = .ok (.iload 5, 2) := by decide +kernel
theorem dX11_feed_57 : decode cX11_feed 57 = .ok (.invokevirtual 142, 3) := by decide +kernel
theorem dX11_feed_60 : decode cX11_feed 60 = .ok (.aload_n 0, 1) := by decide +kernel
theorem dX11_feed_61 : decode cX11_feed 61 = .ok (.getfield 40, 3) := by decide +kernel
theorem dX11_feed_64 : decode cX11_feed 64 = .ok (.invokevirtual 138, 3) := by decide +kernel
theorem dX11_feed_67 : decode cX11_feed 67 = .ok (.ireturn, 1) := by decide +kernel
theorem dX11_end_0 : decode cX11_end 0 = .ok (.aload_n 0, 1) := by decide +kernel
theorem dX11_end_1 : decode cX11_end 1 = .ok (.getfield 40, 3) := by decide +kernel
theorem dX11_end_4 : decode cX11_end 4 = .ok (.iload_n 1, 1) := by decide +kernel
theorem dX11_end_5 : decode cX11_end 5 = .ok (.invokevirtual 145, 3) := by decide +kernel
theorem dX11_end_8 : decode cX11_end 8 = .ok (.ifCond .eq 7, 3) := by decide +kernel
theorem dX11_end_11 : decode cX11_end 11 = .ok (.iload_n 1, 1) := by decide +kernel
theorem dX11_end_12 : decode cX11_end 12 = .ok (.goto 4, 3) := by decide +kernel
theorem dX11_end_15 : decode cX11_end 15 = .ok (.iconst (-1), 1) := by decide +kernel
theorem dX11_end_16 : decode cX11_end 16 = .ok (.ireturn, 1) := by decide +kernel
theorem dX11_rules_0 : decode cX11_rules 0 = .ok (.aload_n 0, 1) := by decide +kernel
theorem dX11_rules_1 : decode cX11_rules 1 = .ok (.getfield 56, 3) := by decide +kernel
theorem dX11_rules_4 : decode cX11_rules 4 = .ok (.invokevirtual 148, 3) := by decide +kernel
theorem dX11_rules_7 : decode cX11_rules 7 = .ok (.istore_n 1, 1) := by decide +kernel
theorem dX11_rules_8 : decode cX11_rules 8 = .ok (.aload_n 0, 1) := by decide +kernel
theorem dX11_rules_9 : decode cX11_rules 9 = .ok (.getfield 40, 3) := by decide +kernel
theorem dX11_rules_12 : decode cX11_rules 12 = .ok (.iconst 0, 1) := by decide +kernel
theorem dX11_rules_13 : decode cX11_rules 13 = .ok (.invokevirtual 145, 3) := by decide +kernel
theorem dX11_rules_16 : decode cX11_rules 16 = .ok (.pop, 1) := by decide +kernel
theorem dX11_rules_17 : decode cX11_rules 17 = .ok (.iload_n 1, 1) := by decide +kernel
theorem dX11_rules_18 : decode cX11_rules 18 = .ok (.iconst (-1), 1) := by decide +kernel
theorem dX11_rules_19 : decode cX11_rules 19 = .ok (.if_icmp .eq 8, 3) := by decide +kernel
theorem dX11_rules_22 : decode cX11_rules 22 = .ok (.bipush (-2), 2) := by decide +kernel
theorem dX11_rules_24 : decode cX11_rules 24 = .ok (.iload_n 1, 1) := by decide +kernel
theorem dX11_rules_25 : decode cX11_rules 25 = .ok (.isub, 1) := by decide +kernel
theorem dX11_rules_26 : decode cX11_rules 26 = .ok (.ireturn, 1) := by decide +kernel
theorem dX11_rules_27 : decode cX11_rules 27 = .ok (.aload_n 0, 1) := by decide +kernel
theorem dX11_rules_28 : decode cX11_rules 28 = .ok (.getfield 47, 3) := by decide +kernel
theorem dX11_rules_31 : decode cX11_rules 31 = .ok (.aload_n 0, 1) := by decide +kernel
theorem dX11_rules_32 : decode cX11_rules 32 = .ok (.getfield 56, 3) := by decide +kernel
theorem dX11_rules_35 : decode cX11_rules 35 = .ok (.invokevirtual 151, 3) := by decide +kernel
theorem dX11_rules_38 : decode cX11_rules 38 = .ok (.invokevirtual 155, 3) := by decide +kernel
theorem dX11_rules_41 : decode cX11_rules 41 = .ok (.aload_n 0, 1) := by decide +kernel
theorem dX11_rules_42 : decode cX11_rules 42 = .ok (.getfield 47, 3) := by decide +kernel
theorem dX11_rules_45 : decode cX11_rules 45 = .ok (.invokevirtual 159, 3) := by decide +kernel
theorem dX11_rules_48 : decode cX11_rules 48 = .ok (.ireturn, 1) := by decide +kernel
theorem dX11_bars_0 : decode cX11_bars 0 = .ok (.aload_n 0, 1) := by decide +kernel
theorem dX11_bars_1 : decode cX11_bars 1 = .ok (.getfield 65, 3) := by decide +kernel
theorem dX11_bars_4 : decode cX11_bars 4 = .ok (.iload_n 1, 1) := by decide +kernel
theorem dX11_bars_5 : decode cX11_bars 5 = .ok (.iload_n 2, 1) := by decide +kernel
theorem dX11_bars_6 : decode cX11_bars 6 = .ok (.aload_n 0, 1) := by decide +kernel
theorem dX11_bars_7 : decode cX11_bars 7 = .ok (.getfield 85, 3) := by decide +kernel
theorem dX11_bars_10 : decode cX11_bars 10 = .ok (.invokevirtual 160, 3) := by decide +kernel
theorem dX11_bars_13 : decode cX11_bars 13 = .ok (.ireturn, 1) := by decide +kernel
theorem dX11_barred_0 : decode cX11_barred 0 = .ok (.aload_n 0, 1) := by decide +kernel
theorem dX11_barred_1 : decode cX11_barred 1 = .ok (.getfield 65, 3) := by decide +kernel
theorem dX11_barred_4 : decode cX11_barred 4 = .ok (.iload_n 1, 1) := by decide +kernel
theorem dX11_barred_5 : decode cX11_barred 5 = .ok (.iload_n 2, 1) := by decide +kernel
theorem dX11_barred_6 : decode cX11_barred 6 = .ok (.aload_n 0, 1) := by decide +kernel
theorem dX11_barred_7 : decode cX11_barred 7 = .ok (.getfield 85, 3) := by decide +kernel
theorem dX11_barred_10 : decode cX11_barred 10 = .ok (.invokevirtual 160, 3) := by decide +kernel
theorem dX11_barred_13 : decode cX11_barred 13 = .ok (.pop, 1) := by decide +kernel
theorem dX11_barred_14 : decode cX11_barred 14 = .ok (.aload_n 0, 1) := by decide +kernel
theorem dX11_barred_15 : decode cX11_barred 15 = .ok (.getfield 65, 3) := by decide +kernel
theorem dX11_barred_18 : decode cX11_barred 18 = .ok (.invokevirtual 163, 3) := by decide +kernel
theorem dX11_barred_21 : decode cX11_barred 21 = .ok (.ireturn, 1) := by decide +kernel
theorem dX11_wish_0 : decode cX11_wish 0 = .ok (.aload_n 0, 1) := by decide +kernel
theorem dX11_wish_1 : decode cX11_wish 1 = .ok (.getfield 65, 3) := by decide +kernel
theorem dX11_wish_4 : decode cX11_wish 4 = .ok (.iload_n 1, 1) := by decide +kernel
theorem dX11_wish_5 : decode cX11_wish 5 = .ok (.iload_n 2, 1) := by decide +kernel
theorem dX11_wish_6 : decode cX11_wish 6 = .ok (.aload_n 0, 1) := by decide +kernel
theorem dX11_wish_7 : decode cX11_wish 7 = .ok (.getfield 85, 3) := by decide +kernel
theorem dX11_wish_10 : decode cX11_wish 10 = .ok (.invokevirtual 166, 3) := by decide +kernel
theorem dX11_wish_13 : decode cX11_wish 13 = .ok (.ireturn, 1) := by decide +kernel
theorem dX11_place_0 : decode cX11_place 0 = .ok (.aload_n 0, 1) := by decide +kernel
theorem dX11_place_1 : decode cX11_place 1 = .ok (.getfield 81, 3) := by decide +kernel
theorem dX11_place_4 : decode cX11_place 4 = .ok (.iload_n 1, 1) := by decide +kernel
theorem dX11_place_5 : decode cX11_place 5 = .ok (.aload_n 0, 1) := by decide +kernel
theorem dX11_place_6 : decode cX11_place 6 = .ok (.getfield 85, 3) := by decide +kernel
theorem dX11_place_9 : decode cX11_place 9 = .ok (.invokevirtual 169, 3) := by decide +kernel
theorem dX11_place_12 : decode cX11_place 12 = .ok (.aload_n 0, 1) := by decide +kernel
theorem dX11_place_13 : decode cX11_place 13 = .ok (.getfield 81, 3) := by decide +kernel
theorem dX11_place_16 : decode cX11_place 16 = .ok (.invokevirtual 173, 3) := by decide +kernel
theorem dX11_place_19 : decode cX11_place 19 = .ok (.aload_n 0, 1) := by decide +kernel
theorem dX11_place_20 : decode cX11_place 20 = .ok (.getfield 81, 3) := by decide +kernel
theorem dX11_place_23 : decode cX11_place 23 = .ok (.invokevirtual 176, 3) := by decide +kernel
theorem dX11_place_26 : decode cX11_place 26 = .ok (.aload_n 0, 1) := by decide +kernel
theorem dX11_place_27 : decode cX11_place 27 = .ok (.getfield 72, 3) := by decide +kernel
theorem dX11_place_30 : decode cX11_place 30 = .ok (.iconst 1, 1) := by decide +kernel
theorem dX11_place_31 : decode cX11_place 31 = .ok (.invokevirtual 179, 3) := by decide +kernel
theorem dX11_place_34 : decode cX11_place 34 = .ok (.ireturn, 1) := by decide +kernel
theorem dX11_at_0 : decode cX11_at 0 = .ok (.aload_n 0, 1) := by decide +kernel
theorem dX11_at_1 : decode cX11_at 1 = .ok (.getfield 72, 3) := by decide +kernel
theorem dX11_at_4 : decode cX11_at 4 = .ok (.iload_n 1, 1) := by decide +kernel
theorem dX11_at_5 : decode cX11_at 5 = .ok (.invokevirtual 182, 3) := by decide +kernel
theorem dX11_at_8 : decode cX11_at 8 = .ok (.ireturn, 1) := by decide +kernel
theorem dX11_placed_0 : decode cX11_placed 0 = .ok (.aload_n 0, 1) := by decide +kernel
theorem dX11_placed_1 : decode cX11_placed 1 = .ok (.getfield 72, 3) := by decide +kernel
theorem dX11_placed_4 : decode cX11_placed 4 = .ok (.iload_n 1, 1) := by decide +kernel
theorem dX11_placed_5 : decode cX11_placed 5 = .ok (.invokevirtual 179, 3) := by decide +kernel
theorem dX11_placed_8 : decode cX11_placed 8 = .ok (.ireturn, 1) := by decide +kernel
theorem dX11_beds_0 : decode cX11_beds 0 = .ok (.aload_n 0, 1) := by decide +kernel
theorem dX11_beds_1 : decode cX11_beds 1 = .ok (.getfield 19, 3) := by decide +kernel
theorem dX11_beds_4 : decode cX11_beds 4 = .ok (.iload_n 1, 1) := by decide +kernel
theorem dX11_beds_5 : decode cX11_beds 5 = .ok (.invokevirtual 116, 3) := by decide +kernel
theorem dX11_beds_8 : decode cX11_beds 8 = .ok (.ifCond .eq 10, 3) := by decide +kernel
theorem dX11_beds_11 : decode cX11_beds 11 = .ok (.iload_n 2, 1) := by decide +kernel
theorem dX11_beds_12 : decode cX11_beds 12 = .ok (.invokestatic 89, 3) := by decide +kernel
theorem dX11_beds_15 : decode cX11_beds 15 = .ok (.ifCond .ne 5, 3) := by decide +kernel
theorem dX11_beds_18 : decode cX11_beds 18 = .ok (.iconst (-1), 1) := by decide +kernel
theorem dX11_beds_19 : decode cX11_beds 19 = .ok (.ireturn, 1) := by decide +kernel
theorem dX11_beds_20 : decode cX11_beds 20 = .ok (.iconst 0, 1) := by decide +kernel
theorem dX11_beds_21 : decode cX11_beds 21 = .ok (.istore_n 3, 1) := by decide +kernel
theorem dX11_beds_22 : decode cX11_beds 22 = .ok (.iconst 0, 1) := by decide +kernel
theorem dX11_beds_23 : decode cX11_beds 23 = .ok (.istore 4, 2) := by decide +kernel
theorem dX11_beds_25 : decode cX11_beds 25 = .ok (.iload 4, 2) := by decide +kernel
theorem dX11_beds_27 : decode cX11_beds 27 = .ok (.aload_n 0, 1) := by decide +kernel
theorem dX11_beds_28 : decode cX11_beds 28 = .ok (.getfield 10, 3) := by decide +kernel
theorem dX11_beds_31 : decode cX11_beds 31 = .ok (.invokevirtual 185, 3) := by decide +kernel
theorem dX11_beds_34 : decode cX11_beds 34 = .ok (.if_icmp .ge 38, 3) := by decide +kernel
theorem dX11_beds_37 : decode cX11_beds 37 = .ok (.aload_n 0, 1) := by decide +kernel
theorem dX11_beds_38 : decode cX11_beds 38 = .ok (.getfield 72, 3) := by decide +kernel
theorem dX11_beds_41 : decode cX11_beds 41 = .ok (.iload 4, 2) := by decide +kernel
theorem dX11_beds_43 : decode cX11_beds 43 = .ok (.invokevirtual 182, 3) := by decide +kernel
theorem dX11_beds_46 : decode cX11_beds 46 = .ok (.iload_n 1, 1) := by decide +kernel
theorem dX11_beds_47 : decode cX11_beds 47 = .ok (.if_icmp .ne 19, 3) := by decide +kernel
theorem dX11_beds_50 : decode cX11_beds 50 = .ok (.aload_n 0, 1) := by decide +kernel
theorem dX11_beds_51 : decode cX11_beds 51 = .ok (.getfield 10, 3) := by decide +kernel
theorem dX11_beds_54 : decode cX11_beds 54 = .ok (.iload 4, 2) := by decide +kernel
theorem dX11_beds_56 : decode cX11_beds 56 = .ok (.iload_n 2, 1) := by decide +kernel
theorem dX11_beds_57 : decode cX11_beds 57 = .ok (.invokevirtual 186, 3) := by decide +kernel
theorem dX11_beds_60 : decode cX11_beds 60 = .ok (.ifCond .eq 6, 3) := by decide +kernel
theorem dX11_beds_63 : decode cX11_beds 63 = .ok (.iinc 3 1, 3) := by decide +kernel
theorem dX11_beds_66 : decode cX11_beds 66 = .ok (.iinc 4 1, 3) := by decide +kernel
theorem dX11_beds_69 : decode cX11_beds 69 = .ok (.goto (-44), 3) := by decide +kernel
theorem dX11_beds_72 : decode cX11_beds 72 = .ok (.iload_n 3, 1) := by decide +kernel
theorem dX11_beds_73 : decode cX11_beds 73 = .ok (.ireturn, 1) := by decide +kernel
theorem dX11_review_0 : decode cX11_review 0 = .ok (.aload_n 0, 1) := by decide +kernel
theorem dX11_review_1 : decode cX11_review 1 = .ok (.getfield 72, 3) := by decide +kernel
theorem dX11_review_4 : decode cX11_review 4 = .ok (.iload_n 1, 1) := by decide +kernel
theorem dX11_review_5 : decode cX11_review 5 = .ok (.invokevirtual 182, 3) := by decide +kernel
theorem dX11_review_8 : decode cX11_review 8 = .ok (.iconst (-1), 1) := by decide +kernel
theorem dX11_review_9 : decode cX11_review 9 = .ok (.if_icmp .ne 7, 3) := by decide +kernel
theorem dX11_review_12 : decode cX11_review 12 = .ok (.iconst (-1), 1) := by decide +kernel
theorem dX11_review_13 : decode cX11_review 13 = .ok (.goto 12, 3) := by decide +kernel
theorem dX11_review_16 : decode cX11_review 16 = .ok (.aload_n 0, 1) := by decide +kernel
theorem dX11_review_17 : decode cX11_review 17 = .ok (.getfield 10, 3) := by decide +kernel
theorem dX11_review_20 : decode cX11_review 20 = .ok (.iload_n 1, 1) := by decide +kernel
theorem dX11_review_21 : decode cX11_review 21 = .ok (.iload_n 2, 1) := by decide +kernel
theorem dX11_review_22 : decode cX11_review 22 = .ok (.invokevirtual 190, 3) := by decide +kernel
theorem dX11_review_25 : decode cX11_review 25 = .ok (.ireturn, 1) := by decide +kernel
theorem dX11_reviews_0 : decode cX11_reviews 0 = .ok (.iload_n 1, 1) := by decide +kernel
theorem dX11_reviews_1 : decode cX11_reviews 1 = .ok (.invokestatic 89, 3) := by decide +kernel
theorem dX11_reviews_4 : decode cX11_reviews 4 = .ok (.ifCond .ne 5, 3) := by decide +kernel
theorem dX11_reviews_7 : decode cX11_reviews 7 = .ok (.iconst (-1), 1) := by decide +kernel
theorem dX11_reviews_8 : decode cX11_reviews 8 = .ok (.ireturn, 1) := by decide +kernel
theorem dX11_reviews_9 : decode cX11_reviews 9 = .ok (.iconst 0, 1) := by decide +kernel
theorem dX11_reviews_10 : decode cX11_reviews 10 = .ok (.istore_n 2, 1) := by decide +kernel
theorem dX11_reviews_11 : decode cX11_reviews 11 = .ok (.iconst 0, 1) := by decide +kernel
theorem dX11_reviews_12 : decode cX11_reviews 12 = .ok (.istore_n 3, 1) := by decide +kernel
theorem dX11_reviews_13 : decode cX11_reviews 13 = .ok (.iload_n 3, 1) := by decide +kernel
theorem dX11_reviews_14 : decode cX11_reviews 14 = .ok (.aload_n 0, 1) := by decide +kernel
theorem dX11_reviews_15 : decode cX11_reviews 15 = .ok (.getfield 10, 3) := by decide +kernel
theorem dX11_reviews_18 : decode cX11_reviews 18 = .ok (.invokevirtual 185, 3) := by decide +kernel
theorem dX11_reviews_21 : decode cX11_reviews 21 = .ok (.if_icmp .ge 36, 3) := by decide +kernel
theorem dX11_reviews_24 : decode cX11_reviews 24 = .ok (.aload_n 0, 1) := by decide +kernel
theorem dX11_reviews_25 : decode cX11_reviews 25 = .ok (.getfield 72, 3) := by decide +kernel
theorem dX11_reviews_28 : decode cX11_reviews 28 = .ok (.iload_n 3, 1) := by decide +kernel
theorem dX11_reviews_29 : decode cX11_reviews 29 = .ok (.invokevirtual 182, 3) := by decide +kernel
theorem dX11_reviews_32 : decode cX11_reviews 32 = .ok (.iconst (-1), 1) := by decide +kernel
theorem dX11_reviews_33 : decode cX11_reviews 33 = .ok (.if_icmp .eq 18, 3) := by decide +kernel
theorem dX11_reviews_36 : decode cX11_reviews 36 = .ok (.aload_n 0, 1) := by decide +kernel
theorem dX11_reviews_37 : decode cX11_reviews 37 = .ok (.getfield 10, 3) := by decide +kernel
theorem dX11_reviews_40 : decode cX11_reviews 40 = .ok (.iload_n 3, 1) := by decide +kernel
theorem dX11_reviews_41 : decode cX11_reviews 41 = .ok (.iload_n 1, 1) := by decide +kernel
theorem dX11_reviews_42 : decode cX11_reviews 42 = .ok (.invokevirtual 193, 3) := by decide +kernel
theorem dX11_reviews_45 : decode cX11_reviews 45 = .ok (.ifCond .eq 6, 3) := by decide +kernel
theorem dX11_reviews_48 : decode cX11_reviews 48 = .ok (.iinc 2 1, 3) := by decide +kernel
theorem dX11_reviews_51 : decode cX11_reviews 51 = .ok (.iinc 3 1, 3) := by decide +kernel
theorem dX11_reviews_54 : decode cX11_reviews 54 = .ok (.goto (-41), 3) := by decide +kernel
theorem dX11_reviews_57 : decode cX11_reviews 57 = .ok (.iload_n 2, 1) := by decide +kernel
theorem dX11_reviews_58 : decode cX11_reviews 58 = .ok (.ireturn, 1) := by decide +kernel
theorem dX11_count_0 : decode cX11_count 0 = .ok (.iload_n 1, 1) := by decide +kernel
theorem dX11_count_1 : decode cX11_count 1 = .ok (.tableswitch 96 0 6 #[43, 51, 59, 67, 75, 83, 88], 43) := by decide +kernel
theorem dX11_count_44 : decode cX11_count 44 = .ok (.aload_n 0, 1) := by decide +kernel
theorem dX11_count_45 : decode cX11_count 45 = .ok (.getfield 10, 3) := by decide +kernel
theorem dX11_count_48 : decode cX11_count 48 = .ok (.invokevirtual 185, 3) := by decide +kernel
theorem dX11_count_51 : decode cX11_count 51 = .ok (.ireturn, 1) := by decide +kernel
theorem dX11_count_52 : decode cX11_count 52 = .ok (.aload_n 0, 1) := by decide +kernel
theorem dX11_count_53 : decode cX11_count 53 = .ok (.getfield 19, 3) := by decide +kernel
theorem dX11_count_56 : decode cX11_count 56 = .ok (.invokevirtual 196, 3) := by decide +kernel
theorem dX11_count_59 : decode cX11_count 59 = .ok (.ireturn, 1) := by decide +kernel
theorem dX11_count_60 : decode cX11_count 60 = .ok (.aload_n 0, 1) := by decide +kernel
theorem dX11_count_61 : decode cX11_count 61 = .ok (.getfield 33, 3) := by decide +kernel
theorem dX11_count_64 : decode cX11_count 64 = .ok (.invokevirtual 197, 3) := by decide +kernel
theorem dX11_count_67 : decode cX11_count 67 = .ok (.ireturn, 1) := by decide +kernel
theorem dX11_count_68 : decode cX11_count 68 = .ok (.aload_n 0, 1) := by decide +kernel
theorem dX11_count_69 : decode cX11_count 69 = .ok (.getfield 26, 3) := by decide +kernel
theorem dX11_count_72 : decode cX11_count 72 = .ok (.invokevirtual 198, 3) := by decide +kernel
theorem dX11_count_75 : decode cX11_count 75 = .ok (.ireturn, 1) := by decide +kernel
theorem dX11_count_76 : decode cX11_count 76 = .ok (.aload_n 0, 1) := by decide +kernel
theorem dX11_count_77 : decode cX11_count 77 = .ok (.getfield 47, 3) := by decide +kernel
theorem dX11_count_80 : decode cX11_count 80 = .ok (.invokevirtual 159, 3) := by decide +kernel
theorem dX11_count_83 : decode cX11_count 83 = .ok (.ireturn, 1) := by decide +kernel
theorem dX11_count_84 : decode cX11_count 84 = .ok (.aload_n 0, 1) := by decide +kernel
theorem dX11_count_85 : decode cX11_count 85 = .ok (.getfield 85, 3) := by decide +kernel
theorem dX11_count_88 : decode cX11_count 88 = .ok (.ireturn, 1) := by decide +kernel
theorem dX11_count_89 : decode cX11_count 89 = .ok (.aload_n 0, 1) := by decide +kernel
theorem dX11_count_90 : decode cX11_count 90 = .ok (.getfield 40, 3) := by decide +kernel
theorem dX11_count_93 : decode cX11_count 93 = .ok (.invokevirtual 138, 3) := by decide +kernel
theorem dX11_count_96 : decode cX11_count 96 = .ok (.ireturn, 1) := by decide +kernel
theorem dX11_count_97 : decode cX11_count 97 = .ok (.iconst (-1), 1) := by decide +kernel
theorem dX11_count_98 : decode cX11_count 98 = .ok (.ireturn, 1) := by decide +kernel
theorem dX11_isThere_0 : decode cX11_isThere 0 = .ok (.iload_n 1, 1) := by decide +kernel
theorem dX11_isThere_1 : decode cX11_isThere 1 = .ok (.ifCond .eq 14, 3) := by decide +kernel
theorem dX11_isThere_4 : decode cX11_isThere 4 = .ok (.aload_n 0, 1) := by decide +kernel
theorem dX11_isThere_5 : decode cX11_isThere 5 = .ok (.getfield 19, 3) := by decide +kernel
theorem dX11_isThere_8 : decode cX11_isThere 8 = .ok (.iload_n 2, 1) := by decide +kernel
theorem dX11_isThere_9 : decode cX11_isThere 9 = .ok (.invokevirtual 116, 3) := by decide +kernel
theorem dX11_isThere_12 : decode cX11_isThere 12 = .ok (.goto 11, 3) := by decide +kernel
theorem dX11_isThere_15 : decode cX11_isThere 15 = .ok (.aload_n 0, 1) := by decide +kernel
theorem dX11_isThere_16 : decode cX11_isThere 16 = .ok (.getfield 10, 3) := by decide +kernel
theorem dX11_isThere_19 : decode cX11_isThere 19 = .ok (.iload_n 2, 1) := by decide +kernel
theorem dX11_isThere_20 : decode cX11_isThere 20 = .ok (.invokevirtual 130, 3) := by decide +kernel
theorem dX11_isThere_23 : decode cX11_isThere 23 = .ok (.ireturn, 1) := by decide +kernel
theorem dX11_isDay_0 : decode cX11_isDay 0 = .ok (.iload_n 0, 1) := by decide +kernel
theorem dX11_isDay_1 : decode cX11_isDay 1 = .ok (.ifCond .lt 14, 3) := by decide +kernel
theorem dX11_isDay_4 : decode cX11_isDay 4 = .ok (.iload_n 0, 1) := by decide +kernel
theorem dX11_isDay_5 : decode cX11_isDay 5 = .ok (.sipush 999, 3) := by decide +kernel
theorem dX11_isDay_8 : decode cX11_isDay 8 = .ok (.if_icmp .gt 7, 3) := by decide +kernel
theorem dX11_isDay_11 : decode cX11_isDay 11 = .ok (.iconst 1, 1) := by decide +kernel
theorem dX11_isDay_12 : decode cX11_isDay 12 = .ok (.goto 4, 3) := by decide +kernel
theorem dX11_isDay_15 : decode cX11_isDay 15 = .ok (.iconst 0, 1) := by decide +kernel
theorem dX11_isDay_16 : decode cX11_isDay 16 = .ok (.ireturn, 1) := by decide +kernel
theorem dX11_isField_0 : decode cX11_isField 0 = .ok (.iload_n 0, 1) := by decide +kernel
theorem dX11_isField_1 : decode cX11_isField 1 = .ok (.ifCond .lt 13, 3) := by decide +kernel
theorem dX11_isField_4 : decode cX11_isField 4 = .ok (.iload_n 0, 1) := by decide +kernel
theorem dX11_isField_5 : decode cX11_isField 5 = .ok (.bipush 8, 2) := by decide +kernel
theorem dX11_isField_7 : decode cX11_isField 7 = .ok (.if_icmp .ge 7, 3) := by decide +kernel
theorem dX11_isField_10 : decode cX11_isField 10 = .ok (.iconst 1, 1) := by decide +kernel
theorem dX11_isField_11 : decode cX11_isField 11 = .ok (.goto 4, 3) := by decide +kernel
theorem dX11_isField_14 : decode cX11_isField 14 = .ok (.iconst 0, 1) := by decide +kernel
theorem dX11_isField_15 : decode cX11_isField 15 = .ok (.ireturn, 1) := by decide +kernel
theorem dX11_slotOf_0 : decode cX11_slotOf 0 = .ok (.iload_n 0, 1) := by decide +kernel
theorem dX11_slotOf_1 : decode cX11_slotOf 1 = .ok (.ifCond .eq 10, 3) := by decide +kernel
theorem dX11_slotOf_4 : decode cX11_slotOf 4 = .ok (.bipush 8, 2) := by decide +kernel
theorem dX11_slotOf_6 : decode cX11_slotOf 6 = .ok (.iload_n 1, 1) := by decide +kernel
theorem dX11_slotOf_7 : decode cX11_slotOf 7 = .ok (.iadd, 1) := by decide +kernel
theorem dX11_slotOf_8 : decode cX11_slotOf 8 = .ok (.goto 4, 3) := by decide +kernel
theorem dX11_slotOf_11 : decode cX11_slotOf 11 = .ok (.iload_n 1, 1) := by decide +kernel
theorem dX11_slotOf_12 : decode cX11_slotOf 12 = .ok (.ireturn, 1) := by decide +kernel
theorem dJ6_bitCount_0f7a4_0 : decode cJ6_bitCount_0f7a4 0 = .ok (.iload_n 0, 1) := by decide +kernel
theorem dJ6_bitCount_0f7a4_1 : decode cJ6_bitCount_0f7a4 1 = .ok (.iload_n 0, 1) := by decide +kernel
theorem dJ6_bitCount_0f7a4_2 : decode cJ6_bitCount_0f7a4 2 = .ok (.iconst 1, 1) := by decide +kernel
theorem dJ6_bitCount_0f7a4_3 : decode cJ6_bitCount_0f7a4 3 = .ok (.iushr, 1) := by decide +kernel
theorem dJ6_bitCount_0f7a4_4 : decode cJ6_bitCount_0f7a4 4 = .ok (.ldc_w 265, 3) := by decide +kernel
theorem dJ6_bitCount_0f7a4_7 : decode cJ6_bitCount_0f7a4 7 = .ok (.iand, 1) := by decide +kernel
theorem dJ6_bitCount_0f7a4_8 : decode cJ6_bitCount_0f7a4 8 = .ok (.isub, 1) := by decide +kernel
theorem dJ6_bitCount_0f7a4_9 : decode cJ6_bitCount_0f7a4 9 = .ok (.istore_n 0, 1) := by decide +kernel
theorem dJ6_bitCount_0f7a4_10 : decode cJ6_bitCount_0f7a4 10 = .ok (.iload_n 0, 1) := by decide +kernel
theorem dJ6_bitCount_0f7a4_11 : decode cJ6_bitCount_0f7a4 11 = .ok (.ldc_w 266, 3) := by decide +kernel
theorem dJ6_bitCount_0f7a4_14 : decode cJ6_bitCount_0f7a4 14 = .ok (.iand, 1) := by decide +kernel
theorem dJ6_bitCount_0f7a4_15 : decode cJ6_bitCount_0f7a4 15 = .ok (.iload_n 0, 1) := by decide +kernel
theorem dJ6_bitCount_0f7a4_16 : decode cJ6_bitCount_0f7a4 16 = .ok (.iconst 2, 1) := by decide +kernel
theorem dJ6_bitCount_0f7a4_17 : decode cJ6_bitCount_0f7a4 17 = .ok (.iushr, 1) := by decide +kernel
theorem dJ6_bitCount_0f7a4_18 : decode cJ6_bitCount_0f7a4 18 = .ok (.ldc_w 266, 3) := by decide +kernel
theorem dJ6_bitCount_0f7a4_21 : decode cJ6_bitCount_0f7a4 21 = .ok (.iand, 1) := by decide +kernel
theorem dJ6_bitCount_0f7a4_22 : decode cJ6_bitCount_0f7a4 22 = .ok (.iadd, 1) := by decide +kernel
theorem dJ6_bitCount_0f7a4_23 : decode cJ6_bitCount_0f7a4 23 = .ok (.istore_n 0, 1) := by decide +kernel
theorem dJ6_bitCount_0f7a4_24 : decode cJ6_bitCount_0f7a4 24 = .ok (.iload_n 0, 1) := by decide +kernel
theorem dJ6_bitCount_0f7a4_25 : decode cJ6_bitCount_0f7a4 25 = .ok (.iload_n 0, 1) := by decide +kernel
theorem dJ6_bitCount_0f7a4_26 : decode cJ6_bitCount_0f7a4 26 = .ok (.iconst 4, 1) := by decide +kernel
theorem dJ6_bitCount_0f7a4_27 : decode cJ6_bitCount_0f7a4 27 = .ok (.iushr, 1) := by decide +kernel
theorem dJ6_bitCount_0f7a4_28 : decode cJ6_bitCount_0f7a4 28 = .ok (.iadd, 1) := by decide +kernel
theorem dJ6_bitCount_0f7a4_29 : decode cJ6_bitCount_0f7a4 29 = .ok (.ldc_w 267, 3) := by decide +kernel
theorem dJ6_bitCount_0f7a4_32 : decode cJ6_bitCount_0f7a4 32 = .ok (.iand, 1) := by decide +kernel
theorem dJ6_bitCount_0f7a4_33 : decode cJ6_bitCount_0f7a4 33 = .ok (.istore_n 0, 1) := by decide +kernel
theorem dJ6_bitCount_0f7a4_34 : decode cJ6_bitCount_0f7a4 34 = .ok (.iload_n 0, 1) := by decide +kernel
theorem dJ6_bitCount_0f7a4_35 : decode cJ6_bitCount_0f7a4 35 = .ok (.iload_n 0, 1) := by decide +kernel
theorem dJ6_bitCount_0f7a4_36 : decode cJ6_bitCount_0f7a4 36 = .ok (.bipush 8, 2) := by decide +kernel
theorem dJ6_bitCount_0f7a4_38 : decode cJ6_bitCount_0f7a4 38 = .ok (.iushr, 1) := by decide +kernel
theorem dJ6_bitCount_0f7a4_39 : decode cJ6_bitCount_0f7a4 39 = .ok (.iadd, 1) := by decide +kernel
theorem dJ6_bitCount_0f7a4_40 : decode cJ6_bitCount_0f7a4 40 = .ok (.istore_n 0, 1) := by decide +kernel
theorem dJ6_bitCount_0f7a4_41 : decode cJ6_bitCount_0f7a4 41 = .ok (.iload_n 0, 1) := by decide +kernel
theorem dJ6_bitCount_0f7a4_42 : decode cJ6_bitCount_0f7a4 42 = .ok (.iload_n 0, 1) := by decide +kernel
theorem dJ6_bitCount_0f7a4_43 : decode cJ6_bitCount_0f7a4 43 = .ok (.bipush 16, 2) := by decide +kernel
theorem dJ6_bitCount_0f7a4_45 : decode cJ6_bitCount_0f7a4 45 = .ok (.iushr, 1) := by decide +kernel
theorem dJ6_bitCount_0f7a4_46 : decode cJ6_bitCount_0f7a4 46 = .ok (.iadd, 1) := by decide +kernel
theorem dJ6_bitCount_0f7a4_47 : decode cJ6_bitCount_0f7a4 47 = .ok (.istore_n 0, 1) := by decide +kernel
theorem dJ6_bitCount_0f7a4_48 : decode cJ6_bitCount_0f7a4 48 = .ok (.iload_n 0, 1) := by decide +kernel
theorem dJ6_bitCount_0f7a4_49 : decode cJ6_bitCount_0f7a4 49 = .ok (.bipush 63, 2) := by decide +kernel
theorem dJ6_bitCount_0f7a4_51 : decode cJ6_bitCount_0f7a4 51 = .ok (.iand, 1) := by decide +kernel
theorem dJ6_bitCount_0f7a4_52 : decode cJ6_bitCount_0f7a4 52 = .ok (.ireturn, 1) := by decide +kernel
theorem dJ9_max_7cf53_0 : decode cJ9_max_7cf53 0 = .ok (.iload_n 0, 1) := by decide +kernel
theorem dJ9_max_7cf53_1 : decode cJ9_max_7cf53 1 = .ok (.iload_n 1, 1) := by decide +kernel
theorem dJ9_max_7cf53_2 : decode cJ9_max_7cf53 2 = .ok (.if_icmp .lt 7, 3) := by decide +kernel
theorem dJ9_max_7cf53_5 : decode cJ9_max_7cf53 5 = .ok (.iload_n 0, 1) := by decide +kernel
theorem dJ9_max_7cf53_6 : decode cJ9_max_7cf53 6 = .ok (.goto 4, 3) := by decide +kernel
theorem dJ9_max_7cf53_9 : decode cJ9_max_7cf53 9 = .ok (.iload_n 1, 1) := by decide +kernel
theorem dJ9_max_7cf53_10 : decode cJ9_max_7cf53 10 = .ok (.ireturn, 1) := by decide +kernel
theorem dJ9_min_7cf53_0 : decode cJ9_min_7cf53 0 = .ok (.iload_n 0, 1) := by decide +kernel
theorem dJ9_min_7cf53_1 : decode cJ9_min_7cf53 1 = .ok (.iload_n 1, 1) := by decide +kernel
theorem dJ9_min_7cf53_2 : decode cJ9_min_7cf53 2 = .ok (.if_icmp .gt 7, 3) := by decide +kernel
theorem dJ9_min_7cf53_5 : decode cJ9_min_7cf53 5 = .ok (.iload_n 0, 1) := by decide +kernel
theorem dJ9_min_7cf53_6 : decode cJ9_min_7cf53 6 = .ok (.goto 4, 3) := by decide +kernel
theorem dJ9_min_7cf53_9 : decode cJ9_min_7cf53 9 = .ok (.iload_n 1, 1) := by decide +kernel
theorem dJ9_min_7cf53_10 : decode cJ9_min_7cf53 10 = .ok (.ireturn, 1) := by decide +kernel
theorem dJ0_length_8abf5_0 : decode cJ0_length_8abf5 0 = .ok (.aload_n 0, 1) := by decide +kernel
theorem dJ0_length_8abf5_1 : decode cJ0_length_8abf5 1 = .ok (.getfield 9, 3) := by decide +kernel
theorem dJ0_length_8abf5_4 : decode cJ0_length_8abf5 4 = .ok (.arraylength, 1) := by decide +kernel
theorem dJ0_length_8abf5_5 : decode cJ0_length_8abf5 5 = .ok (.aload_n 0, 1) := by decide +kernel
theorem dJ0_length_8abf5_6 : decode cJ0_length_8abf5 6 = .ok (.invokevirtual 335, 3) := by decide +kernel
theorem dJ0_length_8abf5_9 : decode cJ0_length_8abf5 9 = .ok (.ishr, 1) := by decide +kernel
theorem dJ0_length_8abf5_10 : decode cJ0_length_8abf5 10 = .ok (.ireturn, 1) := by decide +kernel
theorem dJ0_charAt_5068e_0 : decode cJ0_charAt_5068e 0 = .ok (.aload_n 0, 1) := by decide +kernel
theorem dJ0_charAt_5068e_1 : decode cJ0_charAt_5068e 1 = .ok (.invokevirtual 492, 3) := by decide +kernel
theorem dJ0_charAt_5068e_4 : decode cJ0_charAt_5068e 4 = .ok (.ifCond .eq 12, 3) := by decide +kernel
theorem dJ0_charAt_5068e_7 : decode cJ0_charAt_5068e 7 = .ok (.aload_n 0, 1) := by decide +kernel
theorem dJ0_charAt_5068e_8 : decode cJ0_charAt_5068e 8 = .ok (.getfield 9, 3) := by decide +kernel
theorem dJ0_charAt_5068e_11 : decode cJ0_charAt_5068e 11 = .ok (.iload_n 1, 1) := by decide +kernel
theorem dJ0_charAt_5068e_12 : decode cJ0_charAt_5068e 12 = .ok (.invokestatic 495, 3) := by decide +kernel
theorem dJ0_charAt_5068e_15 : decode cJ0_charAt_5068e 15 = .ok (.ireturn, 1) := by decide +kernel
theorem dJ0_charAt_5068e_16 : decode cJ0_charAt_5068e 16 = .ok (.aload_n 0, 1) := by decide +kernel
theorem dJ0_charAt_5068e_17 : decode cJ0_charAt_5068e 17 = .ok (.getfield 9, 3) := by decide +kernel
theorem dJ0_charAt_5068e_20 : decode cJ0_charAt_5068e 20 = .ok (.iload_n 1, 1) := by decide +kernel
theorem dJ0_charAt_5068e_21 : decode cJ0_charAt_5068e 21 = .ok (.invokestatic 498, 3) := by decide +kernel
theorem dJ0_charAt_5068e_24 : decode cJ0_charAt_5068e 24 = .ok (.ireturn, 1) := by decide +kernel
theorem dJ0_coder_7d493_0 : decode cJ0_coder_7d493 0 = .ok (.getstatic 38, 3) := by decide +kernel
theorem dJ0_coder_7d493_3 : decode cJ0_coder_7d493 3 = .ok (.ifCond .eq 10, 3) := by decide +kernel
theorem dJ0_coder_7d493_6 : decode cJ0_coder_7d493 6 = .ok (.aload_n 0, 1) := by decide +kernel
theorem dJ0_coder_7d493_7 : decode cJ0_coder_7d493 7 = .ok (.getfield 15, 3) := by decide +kernel
theorem dJ0_coder_7d493_10 : decode cJ0_coder_7d493 10 = .ok (.goto 4, 3) := by decide +kernel
theorem dJ0_coder_7d493_13 : decode cJ0_coder_7d493 13 = .ok (.iconst 1, 1) := by decide +kernel
theorem dJ0_coder_7d493_14 : decode cJ0_coder_7d493 14 = .ok (.ireturn, 1) := by decide +kernel
theorem dJ0_isLatin1_aae02_0 : decode cJ0_isLatin1_aae02 0 = .ok (.getstatic 38, 3) := by decide +kernel
theorem dJ0_isLatin1_aae02_3 : decode cJ0_isLatin1_aae02 3 = .ok (.ifCond .eq 14, 3) := by decide +kernel
theorem dJ0_isLatin1_aae02_6 : decode cJ0_isLatin1_aae02 6 = .ok (.aload_n 0, 1) := by decide +kernel
theorem dJ0_isLatin1_aae02_7 : decode cJ0_isLatin1_aae02 7 = .ok (.getfield 15, 3) := by decide +kernel
theorem dJ0_isLatin1_aae02_10 : decode cJ0_isLatin1_aae02 10 = .ok (.ifCond .ne 7, 3) := by decide +kernel
theorem dJ0_isLatin1_aae02_13 : decode cJ0_isLatin1_aae02 13 = .ok (.iconst 1, 1) := by decide +kernel
theorem dJ0_isLatin1_aae02_14 : decode cJ0_isLatin1_aae02 14 = .ok (.goto 4, 3) := by decide +kernel
theorem dJ0_isLatin1_aae02_17 : decode cJ0_isLatin1_aae02 17 = .ok (.iconst 0, 1) := by decide +kernel
theorem dJ0_isLatin1_aae02_18 : decode cJ0_isLatin1_aae02 18 = .ok (.ireturn, 1) := by decide +kernel
theorem dJ0_checkIndex_df160_0 : decode cJ0_checkIndex_df160 0 = .ok (.iload_n 0, 1) := by decide +kernel
theorem dJ0_checkIndex_df160_1 : decode cJ0_checkIndex_df160 1 = .ok (.iload_n 1, 1) := by decide +kernel
theorem dJ0_checkIndex_df160_2 : decode cJ0_checkIndex_df160 2 = .ok (.getstatic 1053, 3) := by decide +kernel
theorem dJ0_checkIndex_df160_5 : decode cJ0_checkIndex_df160 5 = .ok (.invokestatic 1059, 3) := by decide +kernel
theorem dJ0_checkIndex_df160_8 : decode cJ0_checkIndex_df160 8 = .ok (.pop, 1) := by decide +kernel
theorem dJ0_checkIndex_df160_9 : decode cJ0_checkIndex_df160 9 = .ok (.return_, 1) := by decide +kernel
theorem dJ1_charAt_3b067_0 : decode cJ1_charAt_3b067 0 = .ok (.iload_n 1, 1) := by decide +kernel
theorem dJ1_charAt_3b067_1 : decode cJ1_charAt_3b067 1 = .ok (.aload_n 0, 1) := by decide +kernel
theorem dJ1_charAt_3b067_2 : decode cJ1_charAt_3b067 2 = .ok (.arraylength, 1) := by decide +kernel
theorem dJ1_charAt_3b067_3 : decode cJ1_charAt_3b067 3 = .ok (.invokestatic 9, 3) := by decide +kernel
theorem dJ1_charAt_3b067_6 : decode cJ1_charAt_3b067 6 = .ok (.aload_n 0, 1) := by decide +kernel
theorem dJ1_charAt_3b067_7 : decode cJ1_charAt_3b067 7 = .ok (.iload_n 1, 1) := by decide +kernel
theorem dJ1_charAt_3b067_8 : decode cJ1_charAt_3b067 8 = .ok (.baload, 1) := by decide +kernel
theorem dJ1_charAt_3b067_9 : decode cJ1_charAt_3b067 9 = .ok (.sipush 255, 3) := by decide +kernel
theorem dJ1_charAt_3b067_12 : decode cJ1_charAt_3b067 12 = .ok (.iand, 1) := by decide +kernel
theorem dJ1_charAt_3b067_13 : decode cJ1_charAt_3b067 13 = .ok (.i2c, 1) := by decide +kernel
theorem dJ1_charAt_3b067_14 : decode cJ1_charAt_3b067 14 = .ok (.ireturn, 1) := by decide +kernel
theorem dJ2_getChar_3b067_0 : decode cJ2_getChar_3b067 0 = .ok (.getstatic 44, 3) := by decide +kernel
theorem dJ2_getChar_3b067_3 : decode cJ2_getChar_3b067 3 = .ok (.ifCond .ne 25, 3) := by decide +kernel
theorem dJ2_getChar_3b067_6 : decode cJ2_getChar_3b067 6 = .ok (.iload_n 1, 1) := by decide +kernel
theorem dJ2_getChar_3b067_7 : decode cJ2_getChar_3b067 7 = .ok (.ifCond .lt 11, 3) := by decide +kernel
theorem dJ2_getChar_3b067_10 : decode cJ2_getChar_3b067 10 = .ok (.iload_n 1, 1) := by decide +kernel
theorem dJ2_getChar_3b067_11 : decode cJ2_getChar_3b067 11 = .ok (.aload_n 0, 1) := by decide +kernel
theorem dJ2_getChar_3b067_12 : decode cJ2_getChar_3b067 12 = .ok (.invokestatic 48, 3) := by decide +kernel
theorem dJ2_getChar_3b067_15 : decode cJ2_getChar_3b067 15 = .ok (.if_icmp .lt 13, 3) := by decide +kernel
theorem dJ2_getChar_3b067_18 : decode cJ2_getChar_3b067 18 = .ok (.new 52, 3) := by decide +kernel
theorem dJ2_getChar_3b067_21 : decode cJ2_getChar_3b067 21 = .ok (.dup, 1) := by decide +kernel
theorem dJ2_getChar_3b067_22 : decode cJ2_getChar_3b067 22 = .ok (.ldc 54, 2) := by decide +kernel
theorem dJ2_getChar_3b067_24 : decode cJ2_getChar_3b067 24 = .ok (.invokespecial 56, 3) := by decide +kernel
theorem dJ2_getChar_3b067_27 : decode cJ2_getChar_3b067 27 = .ok (.athrow, 1) := by decide +kernel
theorem dJ2_getChar_3b067_28 : decode cJ2_getChar_3b067 28 = .ok (.iload_n 1, 1) := by decide +kernel
theorem dJ2_getChar_3b067_29 : decode cJ2_getChar_3b067 29 = .ok (.iconst 1, 1) := by decide +kernel
theorem dJ2_getChar_3b067_30 : decode cJ2_getChar_3b067 30 = .ok (.ishl, 1) := by decide +kernel
theorem dJ2_getChar_3b067_31 : decode cJ2_getChar_3b067 31 = .ok (.istore_n 1, 1) := by decide +kernel
theorem dJ2_getChar_3b067_32 : decode cJ2_getChar_3b067 32 = .ok (.aload_n 0, 1) := by decide +kernel
theorem dJ2_getChar_3b067_33 : decode cJ2_getChar_3b067 33 = .ok (.iload_n 1, 1) := by decide +kernel
theorem dJ2_getChar_3b067_34 : decode cJ2_getChar_3b067 34 = .ok (.iinc 1 1, 3) := by decide +kernel
theorem dJ2_getChar_3b067_37 : decode cJ2_getChar_3b067 37 = .ok (.baload, 1) := by decide +kernel
theorem dJ2_getChar_3b067_38 : decode cJ2_getChar_3b067 38 = .ok (.sipush 255, 3) := by decide +kernel
theorem dJ2_getChar_3b067_41 : decode cJ2_getChar_3b067 41 = .ok (.iand, 1) := by decide +kernel
theorem dJ2_getChar_3b067_42 : decode cJ2_getChar_3b067 42 = .ok (.getstatic 59, 3) := by decide +kernel
theorem dJ2_getChar_3b067_45 : decode cJ2_getChar_3b067 45 = .ok (.ishl, 1) := by decide +kernel
theorem dJ2_getChar_3b067_46 : decode cJ2_getChar_3b067 46 = .ok (.aload_n 0, 1) := by decide +kernel
theorem dJ2_getChar_3b067_47 : decode cJ2_getChar_3b067 47 = .ok (.iload_n 1, 1) := by decide +kernel
theorem dJ2_getChar_3b067_48 : decode cJ2_getChar_3b067 48 = .ok (.baload, 1) := by decide +kernel
theorem dJ2_getChar_3b067_49 : decode cJ2_getChar_3b067 49 = .ok (.sipush 255, 3) := by decide +kernel
theorem dJ2_getChar_3b067_52 : decode cJ2_getChar_3b067 52 = .ok (.iand, 1) := by decide +kernel
theorem dJ2_getChar_3b067_53 : decode cJ2_getChar_3b067 53 = .ok (.getstatic 63, 3) := by decide +kernel
theorem dJ2_getChar_3b067_56 : decode cJ2_getChar_3b067 56 = .ok (.ishl, 1) := by decide +kernel
theorem dJ2_getChar_3b067_57 : decode cJ2_getChar_3b067 57 = .ok (.ior, 1) := by decide +kernel
theorem dJ2_getChar_3b067_58 : decode cJ2_getChar_3b067 58 = .ok (.i2c, 1) := by decide +kernel
theorem dJ2_getChar_3b067_59 : decode cJ2_getChar_3b067 59 = .ok (.ireturn, 1) := by decide +kernel
theorem dJ2_length_9d52b_0 : decode cJ2_length_9d52b 0 = .ok (.aload_n 0, 1) := by decide +kernel
theorem dJ2_length_9d52b_1 : decode cJ2_length_9d52b 1 = .ok (.arraylength, 1) := by decide +kernel
theorem dJ2_length_9d52b_2 : decode cJ2_length_9d52b 2 = .ok (.iconst 1, 1) := by decide +kernel
theorem dJ2_length_9d52b_3 : decode cJ2_length_9d52b 3 = .ok (.ishr, 1) := by decide +kernel
theorem dJ2_length_9d52b_4 : decode cJ2_length_9d52b 4 = .ok (.ireturn, 1) := by decide +kernel
theorem dJ2_charAt_3b067_0 : decode cJ2_charAt_3b067 0 = .ok (.iload_n 1, 1) := by decide +kernel
theorem dJ2_charAt_3b067_1 : decode cJ2_charAt_3b067 1 = .ok (.aload_n 0, 1) := by decide +kernel
theorem dJ2_charAt_3b067_2 : decode cJ2_charAt_3b067 2 = .ok (.invokestatic 67, 3) := by decide +kernel
theorem dJ2_charAt_3b067_5 : decode cJ2_charAt_3b067 5 = .ok (.aload_n 0, 1) := by decide +kernel
theorem dJ2_charAt_3b067_6 : decode cJ2_charAt_3b067 6 = .ok (.iload_n 1, 1) := by decide +kernel
theorem dJ2_charAt_3b067_7 : decode cJ2_charAt_3b067 7 = .ok (.invokestatic 71, 3) := by decide +kernel
theorem dJ2_charAt_3b067_10 : decode cJ2_charAt_3b067 10 = .ok (.ireturn, 1) := by decide +kernel
theorem dJ2_checkIndex_2214a_0 : decode cJ2_checkIndex_2214a 0 = .ok (.iload_n 0, 1) := by decide +kernel
theorem dJ2_checkIndex_2214a_1 : decode cJ2_checkIndex_2214a 1 = .ok (.aload_n 1, 1) := by decide +kernel
theorem dJ2_checkIndex_2214a_2 : decode cJ2_checkIndex_2214a 2 = .ok (.invokestatic 48, 3) := by decide +kernel
theorem dJ2_checkIndex_2214a_5 : decode cJ2_checkIndex_2214a 5 = .ok (.invokestatic 414, 3) := by decide +kernel
theorem dJ2_checkIndex_2214a_8 : decode cJ2_checkIndex_2214a 8 = .ok (.return_, 1) := by decide +kernel
theorem dJ7_fill_53178_0 : decode cJ7_fill_53178 0 = .ok (.iconst 0, 1) := by decide +kernel
theorem dJ7_fill_53178_1 : decode cJ7_fill_53178 1 = .ok (.istore_n 2, 1) := by decide +kernel
theorem dJ7_fill_53178_2 : decode cJ7_fill_53178 2 = .ok (.aload_n 0, 1) := by decide +kernel
theorem dJ7_fill_53178_3 : decode cJ7_fill_53178 3 = .ok (.arraylength, 1) := by decide +kernel
theorem dJ7_fill_53178_4 : decode cJ7_fill_53178 4 = .ok (.istore_n 3, 1) := by decide +kernel
theorem dJ7_fill_53178_5 : decode cJ7_fill_53178 5 = .ok (.iload_n 2, 1) := by decide +kernel
theorem dJ7_fill_53178_6 : decode cJ7_fill_53178 6 = .ok (.iload_n 3, 1) := by decide +kernel
theorem dJ7_fill_53178_7 : decode cJ7_fill_53178 7 = .ok (.if_icmp .ge 13, 3) := by decide +kernel
theorem dJ7_fill_53178_10 : decode cJ7_fill_53178 10 = .ok (.aload_n 0, 1) := by decide +kernel
theorem dJ7_fill_53178_11 : decode cJ7_fill_53178 11 = .ok (.iload_n 2, 1) := by decide +kernel
theorem dJ7_fill_53178_12 : decode cJ7_fill_53178 12 = .ok (.iload_n 1, 1) := by decide +kernel
theorem dJ7_fill_53178_13 : decode cJ7_fill_53178 13 = .ok (.iastore, 1) := by decide +kernel
theorem dJ7_fill_53178_14 : decode cJ7_fill_53178 14 = .ok (.iinc 2 1, 3) := by decide +kernel
theorem dJ7_fill_53178_17 : decode cJ7_fill_53178 17 = .ok (.goto (-12), 3) := by decide +kernel
theorem dJ7_fill_53178_20 : decode cJ7_fill_53178 20 = .ok (.return_, 1) := by decide +kernel
theorem dJ3_checkIndex_8e157_0 : decode cJ3_checkIndex_8e157 0 = .ok (.iload_n 0, 1) := by decide +kernel
theorem dJ3_checkIndex_8e157_1 : decode cJ3_checkIndex_8e157 1 = .ok (.ifCond .lt 8, 3) := by decide +kernel
theorem dJ3_checkIndex_8e157_4 : decode cJ3_checkIndex_8e157 4 = .ok (.iload_n 0, 1) := by decide +kernel
theorem dJ3_checkIndex_8e157_5 : decode cJ3_checkIndex_8e157 5 = .ok (.iload_n 1, 1) := by decide +kernel
theorem dJ3_checkIndex_8e157_6 : decode cJ3_checkIndex_8e157 6 = .ok (.if_icmp .lt 10, 3) := by decide +kernel
theorem dJ3_checkIndex_8e157_9 : decode cJ3_checkIndex_8e157 9 = .ok (.aload_n 2, 1) := by decide +kernel
theorem dJ3_checkIndex_8e157_10 : decode cJ3_checkIndex_8e157 10 = .ok (.iload_n 0, 1) := by decide +kernel
theorem dJ3_checkIndex_8e157_11 : decode cJ3_checkIndex_8e157 11 = .ok (.iload_n 1, 1) := by decide +kernel
theorem dJ3_checkIndex_8e157_12 : decode cJ3_checkIndex_8e157 12 = .ok (.invokestatic 95, 3) := by decide +kernel
theorem dJ3_checkIndex_8e157_15 : decode cJ3_checkIndex_8e157 15 = .ok (.athrow, 1) := by decide +kernel
theorem dJ3_checkIndex_8e157_16 : decode cJ3_checkIndex_8e157 16 = .ok (.iload_n 0, 1) := by decide +kernel
theorem dJ3_checkIndex_8e157_17 : decode cJ3_checkIndex_8e157 17 = .ok (.ireturn, 1) := by decide +kernel
end
section
theorem dL_law_0 : decode cL_law 0 = .ok (.new 7, 3) := by decide +kernel
theorem dL_law_3 : decode cL_law 3 = .ok (.dup, 1) := by decide +kernel
theorem dL_law_4 : decode cL_law 4 = .ok (.invokespecial 9, 3) := by decide +kernel
theorem dL_law_7 : decode cL_law 7 = .ok (.astore_n 1, 1) := by decide +kernel
theorem dL_law_8 : decode cL_law 8 = .ok (.new 10, 3) := by decide +kernel
theorem dL_law_11 : decode cL_law 11 = .ok (.dup, 1) := by decide +kernel
theorem dL_law_12 : decode cL_law 12 = .ok (.invokespecial 12, 3) := by decide +kernel
theorem dL_law_15 : decode cL_law 15 = .ok (.astore_n 2, 1) := by decide +kernel
theorem dL_law_16 : decode cL_law 16 = .ok (.iconst 0, 1) := by decide +kernel
theorem dL_law_17 : decode cL_law 17 = .ok (.istore_n 3, 1) := by decide +kernel
theorem dL_law_18 : decode cL_law 18 = .ok (.iload_n 3, 1) := by decide +kernel
theorem dL_law_19 : decode cL_law 19 = .ok (.aload_n 0, 1) := by decide +kernel
theorem dL_law_20 : decode cL_law 20 = .ok (.arraylength, 1) := by decide +kernel
theorem dL_law_21 : decode cL_law 21 = .ok (.bipush 6, 2) := by decide +kernel
theorem dL_law_23 : decode cL_law 23 = .ok (.isub, 1) := by decide +kernel
theorem dL_law_24 : decode cL_law 24 = .ok (.if_icmp .gt 945, 3) := by decide +kernel
theorem dL_law_27 : decode cL_law 27 = .ok (.aload_n 0, 1) := by decide +kernel
theorem dL_law_28 : decode cL_law 28 = .ok (.iload_n 3, 1) := by decide +kernel
theorem dL_law_29 : decode cL_law 29 = .ok (.iaload, 1) := by decide +kernel
theorem dL_law_30 : decode cL_law 30 = .ok (.bipush 31, 2) := by decide +kernel
theorem dL_law_32 : decode cL_law 32 = .ok (.iand, 1) := by decide +kernel
theorem dL_law_33 : decode cL_law 33 = .ok (.tableswitch 930 0 22 #[107, 130, 153, 176, 255, 334, 377, 410, 443, 512, 535, 598, 621, 634, 667, 700, 733, 772, 795, 818, 851, 884, 907], 107) := by decide +kernel
theorem dL_law_140 : decode cL_law 140 = .ok (.aload_n 1, 1) := by decide +kernel
theorem dL_law_141 : decode cL_law 141 = .ok (.aload_n 0, 1) := by decide +kernel
theorem dL_law_142 : decode cL_law 142 = .ok (.iload_n 3, 1) := by decide +kernel
theorem dL_law_143 : decode cL_law 143 = .ok (.iconst 1, 1) := by decide +kernel
theorem dL_law_144 : decode cL_law 144 = .ok (.iadd, 1) := by decide +kernel
theorem dL_law_145 : decode cL_law 145 = .ok (.iaload, 1) := by decide +kernel
theorem dL_law_146 : decode cL_law 146 = .ok (.invokevirtual 13, 3) := by decide +kernel
theorem dL_law_149 : decode cL_law 149 = .ok (.aload_n 2, 1) := by decide +kernel
theorem dL_law_150 : decode cL_law 150 = .ok (.aload_n 0, 1) := by decide +kernel
theorem dL_law_151 : decode cL_law 151 = .ok (.iload_n 3, 1) := by decide +kernel
theorem dL_law_152 : decode cL_law 152 = .ok (.iconst 1, 1) := by decide +kernel
theorem dL_law_153 : decode cL_law 153 = .ok (.iadd, 1) := by decide +kernel
theorem dL_law_154 : decode cL_law 154 = .ok (.iaload, 1) := by decide +kernel
theorem dL_law_155 : decode cL_law 155 = .ok (.invokevirtual 17, 3) := by decide +kernel
theorem dL_law_158 : decode cL_law 158 = .ok (.if_icmp .eq 805, 3) := by decide +kernel
theorem dL_law_161 : decode cL_law 161 = .ok (.iconst 0, 1) := by decide +kernel
theorem dL_law_162 : decode cL_law 162 = .ok (.ireturn, 1) := by decide +kernel
theorem dL_law_163 : decode cL_law 163 = .ok (.aload_n 1, 1) := by decide +kernel
theorem dL_law_164 : decode cL_law 164 = .ok (.aload_n 0, 1) := by decide +kernel
theorem dL_law_165 : decode cL_law 165 = .ok (.iload_n 3, 1) := by decide +kernel
theorem dL_law_166 : decode cL_law 166 = .ok (.iconst 1, 1) := by decide +kernel
theorem dL_law_167 : decode cL_law 167 = .ok (.iadd, 1) := by decide +kernel
theorem dL_law_168 : decode cL_law 168 = .ok (.iaload, 1) := by decide +kernel
theorem dL_law_169 : decode cL_law 169 = .ok (.invokevirtual 18, 3) := by decide +kernel
theorem dL_law_172 : decode cL_law 172 = .ok (.aload_n 2, 1) := by decide +kernel
theorem dL_law_173 : decode cL_law 173 = .ok (.aload_n 0, 1) := by decide +kernel
theorem dL_law_174 : decode cL_law 174 = .ok (.iload_n 3, 1) := by decide +kernel
theorem dL_law_175 : decode cL_law 175 = .ok (.iconst 1, 1) := by decide +kernel
theorem dL_law_176 : decode cL_law 176 = .ok (.iadd, 1) := by decide +kernel
theorem dL_law_177 : decode cL_law 177 = .ok (.iaload, 1) := by decide +kernel
theorem dL_law_178 : decode cL_law 178 = .ok (.invokevirtual 22, 3) := by decide +kernel
theorem dL_law_181 : decode cL_law 181 = .ok (.if_icmp .eq 782, 3) := by decide +kernel
theorem dL_law_184 : decode cL_law 184 = .ok (.iconst 0, 1) := by decide +kernel
theorem dL_law_185 : decode cL_law 185 = .ok (.ireturn, 1) := by decide +kernel
theorem dL_law_186 : decode cL_law 186 = .ok (.aload_n 1, 1) := by decide +kernel
theorem dL_law_187 : decode cL_law 187 = .ok (.aload_n 0, 1) := by decide +kernel
theorem dL_law_188 : decode cL_law 188 = .ok (.iload_n 3, 1) := by decide +kernel
theorem dL_law_189 : decode cL_law 189 = .ok (.iconst 1, 1) := by decide +kernel
theorem dL_law_190 : decode cL_law 190 = .ok (.iadd, 1) := by decide +kernel
theorem dL_law_191 : decode cL_law 191 = .ok (.iaload, 1) := by decide +kernel
theorem dL_law_192 : decode cL_law 192 = .ok (.invokevirtual 23, 3) := by decide +kernel
theorem dL_law_195 : decode cL_law 195 = .ok (.aload_n 2, 1) := by decide +kernel
theorem dL_law_196 : decode cL_law 196 = .ok (.aload_n 0, 1) := by decide +kernel
theorem dL_law_197 : decode cL_law 197 = .ok (.iload_n 3, 1) := by decide +kernel
theorem dL_law_198 : decode cL_law 198 = .ok (.iconst 1, 1) := by decide +kernel
theorem dL_law_199 : decode cL_law 199 = .ok (.iadd, 1) := by decide +kernel
theorem dL_law_200 : decode cL_law 200 = .ok (.iaload, 1) := by decide +kernel
theorem dL_law_201 : decode cL_law 201 = .ok (.invokevirtual 26, 3) := by decide +kernel
theorem dL_law_204 : decode cL_law 204 = .ok (.if_icmp .eq 759, 3) := by decide +kernel
theorem dL_law_207 : decode cL_law 207 = .ok (.iconst 0, 1) := by decide +kernel
theorem dL_law_208 : decode cL_law 208 = .ok (.ireturn, 1) := by decide +kernel
theorem dL_law_209 : decode cL_law 209 = .ok (.aload_n 1, 1) := by decide +kernel
theorem dL_law_210 : decode cL_law 210 = .ok (.aload_n 0, 1) := by decide +kernel
theorem dL_law_211 : decode cL_law 211 = .ok (.iload_n 3, 1) := by decide +kernel
theorem dL_law_212 : decode cL_law 212 = .ok (.iconst 1, 1) := by decide +kernel
theorem dL_law_213 : decode cL_law 213 = .ok (.iadd, 1) := by decide +kernel
theorem dL_law_214 : decode cL_law 214 = .ok (.iaload, 1) := by decide +kernel
theorem dL_law_215 : decode cL_law 215 = .ok (.ifCond .eq 7, 3) := by decide +kernel
theorem dL_law_218 : decode cL_law 218 = .ok (.iconst 1, 1) := by decide +kernel
theorem dL_law_219 : decode cL_law 219 = .ok (.goto 4, 3) := by decide +kernel
theorem dL_law_222 : decode cL_law 222 = .ok (.iconst 0, 1) := by decide +kernel
theorem dL_law_223 : decode cL_law 223 = .ok (.aload_n 0, 1) := by decide +kernel
theorem dL_law_224 : decode cL_law 224 = .ok (.iload_n 3, 1) := by decide +kernel
theorem dL_law_225 : decode cL_law 225 = .ok (.iconst 2, 1) := by decide +kernel
theorem dL_law_226 : decode cL_law 226 = .ok (.iadd, 1) := by decide +kernel
theorem dL_law_227 : decode cL_law 227 = .ok (.iaload, 1) := by decide +kernel
theorem dL_law_228 : decode cL_law 228 = .ok (.aload_n 0, 1) := by decide +kernel
theorem dL_law_229 : decode cL_law 229 = .ok (.iload_n 3, 1) := by decide +kernel
theorem dL_law_230 : decode cL_law 230 = .ok (.iconst 3, 1) := by decide +kernel
theorem dL_law_231 : decode cL_law 231 = .ok (.iadd, 1) := by decide +kernel
theorem dL_law_232 : decode cL_law 232 = .ok (.iaload, 1) := by decide +kernel
theorem dL_law_233 : decode cL_law 233 = .ok (.aload_n 0, 1) := by decide +kernel
theorem dL_law_234 : decode cL_law 234 = .ok (.iload_n 3, 1) := by decide +kernel
theorem dL_law_235 : decode cL_law 235 = .ok (.iconst 4, 1) := by decide +kernel
theorem dL_law_236 : decode cL_law 236 = .ok (.iadd, 1) := by decide +kernel
theorem dL_law_237 : decode cL_law 237 = .ok (.iaload, 1) := by decide +kernel
theorem dL_law_238 : decode cL_law 238 = .ok (.aload_n 0, 1) := by decide +kernel
theorem dL_law_239 : decode cL_law 239 = .ok (.iload_n 3, 1) := by decide +kernel
theorem dL_law_240 : decode cL_law 240 = .ok (.iconst 5, 1) := by decide +kernel
theorem dL_law_241 : decode cL_law 241 = .ok (.iadd, 1) := by decide +kernel
theorem dL_law_242 : decode cL_law 242 = .ok (.iaload, 1) := by decide +kernel
theorem dL_law_243 : decode cL_law 243 = .ok (.invokevirtual 27, 3) := by decide +kernel
theorem dL_law_246 : decode cL_law 246 = .ok (.aload_n 2, 1) := by decide +kernel
theorem dL_law_247 : decode cL_law 247 = .ok (.aload_n 0, 1) := by decide +kernel
theorem dL_law_248 : decode cL_law 248 = .ok (.iload_n 3, 1) := by decide +kernel
theorem dL_law_249 : decode cL_law 249 = .ok (.iconst 1, 1) := by decide +kernel
theorem dL_law_250 : decode cL_law 250 = .ok (.iadd, 1) := by decide +kernel
theorem dL_law_251 : decode cL_law 251 = .ok (.iaload, 1) := by decide +kernel
theorem dL_law_252 : decode cL_law 252 = .ok (.ifCond .eq 7, 3) := by decide +kernel
theorem dL_law_255 : decode cL_law 255 = .ok (.iconst 1, 1) := by decide +kernel
theorem dL_law_256 : decode cL_law 256 = .ok (.goto 4, 3) := by decide +kernel
theorem dL_law_259 : decode cL_law 259 = .ok (.iconst 0, 1) := by decide +kernel
theorem dL_law_260 : decode cL_law 260 = .ok (.aload_n 0, 1) := by decide +kernel
theorem dL_law_261 : decode cL_law 261 = .ok (.iload_n 3, 1) := by decide +kernel
theorem dL_law_262 : decode cL_law 262 = .ok (.iconst 2, 1) := by decide +kernel
theorem dL_law_263 : decode cL_law 263 = .ok (.iadd, 1) := by decide +kernel
theorem dL_law_264 : decode cL_law 264 = .ok (.iaload, 1) := by decide +kernel
theorem dL_law_265 : decode cL_law 265 = .ok (.aload_n 0, 1) := by decide +kernel
theorem dL_law_266 : decode cL_law 266 = .ok (.iload_n 3, 1) := by decide +kernel
theorem dL_law_267 : decode cL_law 267 = .ok (.iconst 3, 1) := by decide +kernel
theorem dL_law_268 : decode cL_law 268 = .ok (.iadd, 1) := by decide +kernel
theorem dL_law_269 : decode cL_law 269 = .ok (.iaload, 1) := by decide +kernel
theorem dL_law_270 : decode cL_law 270 = .ok (.aload_n 0, 1) := by decide +kernel
theorem dL_law_271 : decode cL_law 271 = .ok (.iload_n 3, 1) := by decide +kernel
theorem dL_law_272 : decode cL_law 272 = .ok (.iconst 4, 1) := by decide +kernel
theorem dL_law_273 : decode cL_law 273 = .ok (.iadd, 1) := by decide +kernel
theorem dL_law_274 : decode cL_law 274 = .ok (.iaload, 1) := by decide +kernel
theorem dL_law_275 : decode cL_law 275 = .ok (.aload_n 0, 1) := by decide +kernel
theorem dL_law_276 : decode cL_law 276 = .ok (.iload_n 3, 1) := by decide +kernel
theorem dL_law_277 : decode cL_law 277 = .ok (.iconst 5, 1) := by decide +kernel
theorem dL_law_278 : decode cL_law 278 = .ok (.iadd, 1) := by decide +kernel
theorem dL_law_279 : decode cL_law 279 = .ok (.iaload, 1) := by decide +kernel
theorem dL_law_280 : decode cL_law 280 = .ok (.invokevirtual 31, 3) := by decide +kernel
theorem dL_law_283 : decode cL_law 283 = .ok (.if_icmp .eq 680, 3) := by decide +kernel
theorem dL_law_286 : decode cL_law 286 = .ok (.iconst 0, 1) := by decide +kernel
theorem dL_law_287 : decode cL_law 287 = .ok (.ireturn, 1) := by decide +kernel
theorem dL_law_288 : decode cL_law 288 = .ok (.aload_n 1, 1) := by decide +kernel
theorem dL_law_289 : decode cL_law 289 = .ok (.aload_n 0, 1) := by decide +kernel
theorem dL_law_290 : decode cL_law 290 = .ok (.iload_n 3, 1) := by decide +kernel
theorem dL_law_291 : decode cL_law 291 = .ok (.iconst 1, 1) := by decide +kernel
theorem dL_law_292 : decode cL_law 292 = .ok (.iadd, 1) := by decide +kernel
theorem dL_law_293 : decode cL_law 293 = .ok (.iaload, 1) := by decide +kernel
theorem dL_law_294 : decode cL_law 294 = .ok (.ifCond .eq 7, 3) := by decide +kernel
theorem dL_law_297 : decode cL_law 297 = .ok (.iconst 1, 1) := by decide +kernel
theorem dL_law_298 : decode cL_law 298 = .ok (.goto 4, 3) := by decide +kernel
theorem dL_law_301 : decode cL_law 301 = .ok (.iconst 0, 1) := by decide +kernel
theorem dL_law_302 : decode cL_law 302 = .ok (.aload_n 0, 1) := by decide +kernel
theorem dL_law_303 : decode cL_law 303 = .ok (.iload_n 3, 1) := by decide +kernel
theorem dL_law_304 : decode cL_law 304 = .ok (.iconst 2, 1) := by decide +kernel
theorem dL_law_305 : decode cL_law 305 = .ok (.iadd, 1) := by decide +kernel
theorem dL_law_306 : decode cL_law 306 = .ok (.iaload, 1) := by decide +kernel
theorem dL_law_307 : decode cL_law 307 = .ok (.aload_n 0, 1) := by decide +kernel
theorem dL_law_308 : decode cL_law 308 = .ok (.iload_n 3, 1) := by decide +kernel
theorem dL_law_309 : decode cL_law 309 = .ok (.iconst 3, 1) := by decide +kernel
theorem dL_law_310 : decode cL_law 310 = .ok (.iadd, 1) := by decide +kernel
theorem dL_law_311 : decode cL_law 311 = .ok (.iaload, 1) := by decide +kernel
theorem dL_law_312 : decode cL_law 312 = .ok (.aload_n 0, 1) := by decide +kernel
theorem dL_law_313 : decode cL_law 313 = .ok (.iload_n 3, 1) := by decide +kernel
theorem dL_law_314 : decode cL_law 314 = .ok (.iconst 4, 1) := by decide +kernel
theorem dL_law_315 : decode cL_law 315 = .ok (.iadd, 1) := by decide +kernel
theorem dL_law_316 : decode cL_law 316 = .ok (.iaload, 1) := by decide +kernel
theorem dL_law_317 : decode cL_law 317 = .ok (.aload_n 0, 1) := by decide +kernel
theorem dL_law_318 : decode cL_law 318 = .ok (.iload_n 3, 1) := by decide +kernel
theorem dL_law_319 : decode cL_law 319 = .ok (.iconst 5, 1) := by decide +kernel
theorem dL_law_320 : decode cL_law 320 = .ok (.iadd, 1) := by decide +kernel
theorem dL_law_321 : decode cL_law 321 = .ok (.iaload, 1) := by decide +kernel
theorem dL_law_322 : decode cL_law 322 = .ok (.invokevirtual 32, 3) := by decide +kernel
theorem dL_law_325 : decode cL_law 325 = .ok (.aload_n 2, 1) := by decide +kernel
theorem dL_law_326 : decode cL_law 326 = .ok (.aload_n 0, 1) := by decide +kernel
theorem dL_law_327 : decode cL_law 327 = .ok (.iload_n 3, 1) := by decide +kernel
theorem dL_law_328 : decode cL_law 328 = .ok (.iconst 1, 1) := by decide +kernel
theorem dL_law_329 : decode cL_law 329 = .ok (.iadd, 1) := by decide +kernel
theorem dL_law_330 : decode cL_law 330 = .ok (.iaload, 1) := by decide +kernel
theorem dL_law_331 : decode cL_law 331 = .ok (.ifCond .eq 7, 3) := by decide +kernel
theorem dL_law_334 : decode cL_law 334 = .ok (.iconst 1, 1) := by decide +kernel
theorem dL_law_335 : decode cL_law 335 = .ok (.goto 4, 3) := by decide +kernel
theorem dL_law_338 : decode cL_law 338 = .ok (.iconst 0, 1) := by decide +kernel
theorem dL_law_339 : decode cL_law 339 = .ok (.aload_n 0, 1) := by decide +kernel
theorem dL_law_340 : decode cL_law 340 = .ok (.iload_n 3, 1) := by decide +kernel
theorem dL_law_341 : decode cL_law 341 = .ok (.iconst 2, 1) := by decide +kernel
theorem dL_law_342 : decode cL_law 342 = .ok (.iadd, 1) := by decide +kernel
theorem dL_law_343 : decode cL_law 343 = .ok (.iaload, 1) := by decide +kernel
theorem dL_law_344 : decode cL_law 344 = .ok (.aload_n 0, 1) := by decide +kernel
theorem dL_law_345 : decode cL_law 345 = .ok (.iload_n 3, 1) := by decide +kernel
theorem dL_law_346 : decode cL_law 346 = .ok (.iconst 3, 1) := by decide +kernel
theorem dL_law_347 : decode cL_law 347 = .ok (.iadd, 1) := by decide +kernel
theorem dL_law_348 : decode cL_law 348 = .ok (.iaload, 1) := by decide +kernel
theorem dL_law_349 : decode cL_law 349 = .ok (.aload_n 0, 1) := by decide +kernel
theorem dL_law_350 : decode cL_law 350 = .ok (.iload_n 3, 1) := by decide +kernel
theorem dL_law_351 : decode cL_law 351 = .ok (.iconst 4, 1) := by decide +kernel
theorem dL_law_352 : decode cL_law 352 = .ok (.iadd, 1) := by decide +kernel
theorem dL_law_353 : decode cL_law 353 = .ok (.iaload, 1) := by decide +kernel
theorem dL_law_354 : decode cL_law 354 = .ok (.aload_n 0, 1) := by decide +kernel
theorem dL_law_355 : decode cL_law 355 = .ok (.iload_n 3, 1) := by decide +kernel
theorem dL_law_356 : decode cL_law 356 = .ok (.iconst 5, 1) := by decide +kernel
theorem dL_law_357 : decode cL_law 357 = .ok (.iadd, 1) := by decide +kernel
theorem dL_law_358 : decode cL_law 358 = .ok (.iaload, 1) := by decide +kernel
theorem dL_law_359 : decode cL_law 359 = .ok (.invokevirtual 35, 3) := by decide +kernel
theorem dL_law_362 : decode cL_law 362 = .ok (.if_icmp .eq 601, 3) := by decide +kernel
theorem dL_law_365 : decode cL_law 365 = .ok (.iconst 0, 1) := by decide +kernel
theorem dL_law_366 : decode cL_law 366 = .ok (.ireturn, 1) := by decide +kernel
theorem dL_law_367 : decode cL_law 367 = .ok (.aload_n 1, 1) := by decide +kernel
theorem dL_law_368 : decode cL_law 368 = .ok (.aload_n 0, 1) := by decide +kernel
theorem dL_law_369 : decode cL_law 369 = .ok (.iload_n 3, 1) := by decide +kernel
theorem dL_law_370 : decode cL_law 370 = .ok (.iconst 1, 1) := by decide +kernel
theorem dL_law_371 : decode cL_law 371 = .ok (.iadd, 1) := by decide +kernel
theorem dL_law_372 : decode cL_law 372 = .ok (.iaload, 1) := by decide +kernel
theorem dL_law_373 : decode cL_law 373 = .ok (.aload_n 0, 1) := by decide +kernel
theorem dL_law_374 : decode cL_law 374 = .ok (.iload_n 3, 1) := by decide +kernel
theorem dL_law_375 : decode cL_law 375 = .ok (.iconst 2, 1) := by decide +kernel
theorem dL_law_376 : decode cL_law 376 = .ok (.iadd, 1) := by decide +kernel
theorem dL_law_377 : decode cL_law 377 = .ok (.iaload, 1) := by decide +kernel
theorem dL_law_378 : decode cL_law 378 = .ok (.aload_n 0, 1) := by decide +kernel
theorem dL_law_379 : decode cL_law 379 = .ok (.iload_n 3, 1) := by decide +kernel
theorem dL_law_380 : decode cL_law 380 = .ok (.iconst 3, 1) := by decide +kernel
theorem dL_law_381 : decode cL_law 381 = .ok (.iadd, 1) := by decide +kernel
theorem dL_law_382 : decode cL_law 382 = .ok (.iaload, 1) := by decide +kernel
theorem dL_law_383 : decode cL_law 383 = .ok (.invokevirtual 36, 3) := by decide +kernel
theorem dL_law_386 : decode cL_law 386 = .ok (.aload_n 2, 1) := by decide +kernel
theorem dL_law_387 : decode cL_law 387 = .ok (.aload_n 0, 1) := by decide +kernel
theorem dL_law_388 : decode cL_law 388 = .ok (.iload_n 3, 1) := by decide +kernel
theorem dL_law_389 : decode cL_law 389 = .ok (.iconst 1, 1) := by decide +kernel
theorem dL_law_390 : decode cL_law 390 = .ok (.iadd, 1) := by decide +kernel
theorem dL_law_391 : decode cL_law 391 = .ok (.iaload, 1) := by decide +kernel
theorem dL_law_392 : decode cL_law 392 = .ok (.aload_n 0, 1) := by decide +kernel
theorem dL_law_393 : decode cL_law 393 = .ok (.iload_n 3, 1) := by decide +kernel
theorem dL_law_394 : decode cL_law 394 = .ok (.iconst 2, 1) := by decide +kernel
theorem dL_law_395 : decode cL_law 395 = .ok (.iadd, 1) := by decide +kernel
theorem dL_law_396 : decode cL_law 396 = .ok (.iaload, 1) := by decide +kernel
theorem dL_law_397 : decode cL_law 397 = .ok (.aload_n 0, 1) := by decide +kernel
theorem dL_law_398 : decode cL_law 398 = .ok (.iload_n 3, 1) := by decide +kernel
theorem dL_law_399 : decode cL_law 399 = .ok (.iconst 3, 1) := by decide +kernel
theorem dL_law_400 : decode cL_law 400 = .ok (.iadd, 1) := by decide +kernel
theorem dL_law_401 : decode cL_law 401 = .ok (.iaload, 1) := by decide +kernel
theorem dL_law_402 : decode cL_law 402 = .ok (.invokevirtual 40, 3) := by decide +kernel
theorem dL_law_405 : decode cL_law 405 = .ok (.if_icmp .eq 558, 3) := by decide +kernel
theorem dL_law_408 : decode cL_law 408 = .ok (.iconst 0, 1) := by decide +kernel
theorem dL_law_409 : decode cL_law 409 = .ok (.ireturn, 1) := by decide +kernel
theorem dL_law_410 : decode cL_law 410 = .ok (.aload_n 1, 1) := by decide +kernel
theorem dL_law_411 : decode cL_law 411 = .ok (.aload_n 0, 1) := by decide +kernel
theorem dL_law_412 : decode cL_law 412 = .ok (.iload_n 3, 1) := by decide +kernel
theorem dL_law_413 : decode cL_law 413 = .ok (.iconst 1, 1) := by decide +kernel
theorem dL_law_414 : decode cL_law 414 = .ok (.iadd, 1) := by decide +kernel
theorem dL_law_415 : decode cL_law 415 = .ok (.iaload, 1) := by decide +kernel
theorem dL_law_416 : decode cL_law 416 = .ok (.aload_n 0, 1) := by decide +kernel
theorem dL_law_417 : decode cL_law 417 = .ok (.iload_n 3, 1) := by decide +kernel
theorem dL_law_418 : decode cL_law 418 = .ok (.iconst 2, 1) := by decide +kernel
theorem dL_law_419 : decode cL_law 419 = .ok (.iadd, 1) := by decide +kernel
theorem dL_law_420 : decode cL_law 420 = .ok (.iaload, 1) := by decide +kernel
theorem dL_law_421 : decode cL_law 421 = .ok (.invokevirtual 41, 3) := by decide +kernel
theorem dL_law_424 : decode cL_law 424 = .ok (.aload_n 2, 1) := by decide +kernel
theorem dL_law_425 : decode cL_law 425 = .ok (.aload_n 0, 1) := by decide +kernel
theorem dL_law_426 : decode cL_law 426 = .ok (.iload_n 3, 1) := by decide +kernel
theorem dL_law_427 : decode cL_law 427 = .ok (.iconst 1, 1) := by decide +kernel
theorem dL_law_428 : decode cL_law 428 = .ok (.iadd, 1) := by decide +kernel
theorem dL_law_429 : decode cL_law 429 = .ok (.iaload, 1) := by decide +kernel
theorem dL_law_430 : decode cL_law 430 = .ok (.aload_n 0, 1) := by decide +kernel
theorem dL_law_431 : decode cL_law 431 = .ok (.iload_n 3, 1) := by decide +kernel
theorem dL_law_432 : decode cL_law 432 = .ok (.iconst 2, 1) := by decide +kernel
theorem dL_law_433 : decode cL_law 433 = .ok (.iadd, 1) := by decide +kernel
theorem dL_law_434 : decode cL_law 434 = .ok (.iaload, 1) := by decide +kernel
theorem dL_law_435 : decode cL_law 435 = .ok (.invokevirtual 45, 3) := by decide +kernel
theorem dL_law_438 : decode cL_law 438 = .ok (.if_icmp .eq 525, 3) := by decide +kernel
theorem dL_law_441 : decode cL_law 441 = .ok (.iconst 0, 1) := by decide +kernel
theorem dL_law_442 : decode cL_law 442 = .ok (.ireturn, 1) := by decide +kernel
theorem dL_law_443 : decode cL_law 443 = .ok (.aload_n 1, 1) := by decide +kernel
theorem dL_law_444 : decode cL_law 444 = .ok (.aload_n 0, 1) := by decide +kernel
theorem dL_law_445 : decode cL_law 445 = .ok (.iload_n 3, 1) := by decide +kernel
theorem dL_law_446 : decode cL_law 446 = .ok (.iconst 1, 1) := by decide +kernel
theorem dL_law_447 : decode cL_law 447 = .ok (.iadd, 1) := by decide +kernel
theorem dL_law_448 : decode cL_law 448 = .ok (.iaload, 1) := by decide +kernel
theorem dL_law_449 : decode cL_law 449 = .ok (.aload_n 0, 1) := by decide +kernel
theorem dL_law_450 : decode cL_law 450 = .ok (.iload_n 3, 1) := by decide +kernel
theorem dL_law_451 : decode cL_law 451 = .ok (.iconst 2, 1) := by decide +kernel
theorem dL_law_452 : decode cL_law 452 = .ok (.iadd, 1) := by decide +kernel
theorem dL_law_453 : decode cL_law 453 = .ok (.iaload, 1) := by decide +kernel
theorem dL_law_454 : decode cL_law 454 = .ok (.invokevirtual 46, 3) := by decide +kernel
theorem dL_law_457 : decode cL_law 457 = .ok (.aload_n 2, 1) := by decide +kernel
theorem dL_law_458 : decode cL_law 458 = .ok (.aload_n 0, 1) := by decide +kernel
theorem dL_law_459 : decode cL_law 459 = .ok (.iload_n 3, 1) := by decide +kernel
theorem dL_law_460 : decode cL_law 460 = .ok (.iconst 1, 1) := by decide +kernel
theorem dL_law_461 : decode cL_law 461 = .ok (.iadd, 1) := by decide +kernel
theorem dL_law_462 : decode cL_law 462 = .ok (.iaload, 1) := by decide +kernel
theorem dL_law_463 : decode cL_law 463 = .ok (.aload_n 0, 1) := by decide +kernel
theorem dL_law_464 : decode cL_law 464 = .ok (.iload_n 3, 1) := by decide +kernel
theorem dL_law_465 : decode cL_law 465 = .ok (.iconst 2, 1) := by decide +kernel
theorem dL_law_466 : decode cL_law 466 = .ok (.iadd, 1) := by decide +kernel
theorem dL_law_467 : decode cL_law 467 = .ok (.iaload, 1) := by decide +kernel
theorem dL_law_468 : decode cL_law 468 = .ok (.invokevirtual 50, 3) := by decide +kernel
theorem dL_law_471 : decode cL_law 471 = .ok (.if_icmp .eq 492, 3) := by decide +kernel
theorem dL_law_474 : decode cL_law 474 = .ok (.iconst 0, 1) := by decide +kernel
theorem dL_law_475 : decode cL_law 475 = .ok (.ireturn, 1) := by decide +kernel
theorem dL_law_476 : decode cL_law 476 = .ok (.aload_n 1, 1) := by decide +kernel
theorem dL_law_477 : decode cL_law 477 = .ok (.aload_n 0, 1) := by decide +kernel
theorem dL_law_478 : decode cL_law 478 = .ok (.iload_n 3, 1) := by decide +kernel
theorem dL_law_479 : decode cL_law 479 = .ok (.iconst 1, 1) := by decide +kernel
theorem dL_law_480 : decode cL_law 480 = .ok (.iadd, 1) := by decide +kernel
theorem dL_law_481 : decode cL_law 481 = .ok (.iaload, 1) := by decide +kernel
theorem dL_law_482 : decode cL_law 482 = .ok (.aload_n 0, 1) := by decide +kernel
theorem dL_law_483 : decode cL_law 483 = .ok (.iload_n 3, 1) := by decide +kernel
theorem dL_law_484 : decode cL_law 484 = .ok (.iconst 2, 1) := by decide +kernel
theorem dL_law_485 : decode cL_law 485 = .ok (.iadd, 1) := by decide +kernel
theorem dL_law_486 : decode cL_law 486 = .ok (.iaload, 1) := by decide +kernel
theorem dL_law_487 : decode cL_law 487 = .ok (.aload_n 0, 1) := by decide +kernel
theorem dL_law_488 : decode cL_law 488 = .ok (.iload_n 3, 1) := by decide +kernel
theorem dL_law_489 : decode cL_law 489 = .ok (.iconst 3, 1) := by decide +kernel
theorem dL_law_490 : decode cL_law 490 = .ok (.iadd, 1) := by decide +kernel
theorem dL_law_491 : decode cL_law 491 = .ok (.iaload, 1) := by decide +kernel
theorem dL_law_492 : decode cL_law 492 = .ok (.aload_n 0, 1) := by decide +kernel
theorem dL_law_493 : decode cL_law 493 = .ok (.iload_n 3, 1) := by decide +kernel
theorem dL_law_494 : decode cL_law 494 = .ok (.iconst 4, 1) := by decide +kernel
theorem dL_law_495 : decode cL_law 495 = .ok (.iadd, 1) := by decide +kernel
theorem dL_law_496 : decode cL_law 496 = .ok (.iaload, 1) := by decide +kernel
theorem dL_law_497 : decode cL_law 497 = .ok (.ifCond .eq 7, 3) := by decide +kernel
theorem dL_law_500 : decode cL_law 500 = .ok (.iconst 1, 1) := by decide +kernel
theorem dL_law_501 : decode cL_law 501 = .ok (.goto 4, 3) := by decide +kernel
theorem dL_law_504 : decode cL_law 504 = .ok (.iconst 0, 1) := by decide +kernel
theorem dL_law_505 : decode cL_law 505 = .ok (.invokevirtual 51, 3) := by decide +kernel
theorem dL_law_508 : decode cL_law 508 = .ok (.aload_n 2, 1) := by decide +kernel
theorem dL_law_509 : decode cL_law 509 = .ok (.aload_n 0, 1) := by decide +kernel
theorem dL_law_510 : decode cL_law 510 = .ok (.iload_n 3, 1) := by decide +kernel
theorem dL_law_511 : decode cL_law 511 = .ok (.iconst 1, 1) := by decide +kernel
theorem dL_law_512 : decode cL_law 512 = .ok (.iadd, 1) := by decide +kernel
theorem dL_law_513 : decode cL_law 513 = .ok (.iaload, 1) := by decide +kernel
theorem dL_law_514 : decode cL_law 514 = .ok (.aload_n 0, 1) := by decide +kernel
theorem dL_law_515 : decode cL_law 515 = .ok (.iload_n 3, 1) := by decide +kernel
theorem dL_law_516 : decode cL_law 516 = .ok (.iconst 2, 1) := by decide +kernel
theorem dL_law_517 : decode cL_law 517 = .ok (.iadd, 1) := by decide +kernel
theorem dL_law_518 : decode cL_law 518 = .ok (.iaload, 1) := by decide +kernel
theorem dL_law_519 : decode cL_law 519 = .ok (.aload_n 0, 1) := by decide +kernel
theorem dL_law_520 : decode cL_law 520 = .ok (.iload_n 3, 1) := by decide +kernel
theorem dL_law_521 : decode cL_law 521 = .ok (.iconst 3, 1) := by decide +kernel
theorem dL_law_522 : decode cL_law 522 = .ok (.iadd, 1) := by decide +kernel
theorem dL_law_523 : decode cL_law 523 = .ok (.iaload, 1) := by decide +kernel
theorem dL_law_524 : decode cL_law 524 = .ok (.aload_n 0, 1) := by decide +kernel
theorem dL_law_525 : decode cL_law 525 = .ok (.iload_n 3, 1) := by decide +kernel
theorem dL_law_526 : decode cL_law 526 = .ok (.iconst 4, 1) := by decide +kernel
theorem dL_law_527 : decode cL_law 527 = .ok (.iadd, 1) := by decide +kernel
theorem dL_law_528 : decode cL_law 528 = .ok (.iaload, 1) := by decide +kernel
theorem dL_law_529 : decode cL_law 529 = .ok (.ifCond .eq 7, 3) := by decide +kernel
theorem dL_law_532 : decode cL_law 532 = .ok (.iconst 1, 1) := by decide +kernel
theorem dL_law_533 : decode cL_law 533 = .ok (.goto 4, 3) := by decide +kernel
theorem dL_law_536 : decode cL_law 536 = .ok (.iconst 0, 1) := by decide +kernel
theorem dL_law_537 : decode cL_law 537 = .ok (.invokevirtual 55, 3) := by decide +kernel
theorem dL_law_540 : decode cL_law 540 = .ok (.if_icmp .eq 423, 3) := by decide +kernel
theorem dL_law_543 : decode cL_law 543 = .ok (.iconst 0, 1) := by decide +kernel
theorem dL_law_544 : decode cL_law 544 = .ok (.ireturn, 1) := by decide +kernel
theorem dL_law_545 : decode cL_law 545 = .ok (.aload_n 1, 1) := by decide +kernel
theorem dL_law_546 : decode cL_law 546 = .ok (.aload_n 0, 1) := by decide +kernel
theorem dL_law_547 : decode cL_law 547 = .ok (.iload_n 3, 1) := by decide +kernel
theorem dL_law_548 : decode cL_law 548 = .ok (.iconst 1, 1) := by decide +kernel
theorem dL_law_549 : decode cL_law 549 = .ok (.iadd, 1) := by decide +kernel
theorem dL_law_550 : decode cL_law 550 = .ok (.iaload, 1) := by decide +kernel
theorem dL_law_551 : decode cL_law 551 = .ok (.invokevirtual 56, 3) := by decide +kernel
theorem dL_law_554 : decode cL_law 554 = .ok (.aload_n 2, 1) := by decide +kernel
theorem dL_law_555 : decode cL_law 555 = .ok (.aload_n 0, 1) := by decide +kernel
theorem dL_law_556 : decode cL_law 556 = .ok (.iload_n 3, 1) := by decide +kernel
theorem dL_law_557 : decode cL_law 557 = .ok (.iconst 1, 1) := by decide +kernel
theorem dL_law_558 : decode cL_law 558 = .ok (.iadd, 1) := by decide +kernel
theorem dL_law_559 : decode cL_law 559 = .ok (.iaload, 1) := by decide +kernel
theorem dL_law_560 : decode cL_law 560 = .ok (.invokevirtual 59, 3) := by decide +kernel
theorem dL_law_563 : decode cL_law 563 = .ok (.if_icmp .eq 400, 3) := by decide +kernel
theorem dL_law_566 : decode cL_law 566 = .ok (.iconst 0, 1) := by decide +kernel
theorem dL_law_567 : decode cL_law 567 = .ok (.ireturn, 1) := by decide +kernel
theorem dL_law_568 : decode cL_law 568 = .ok (.aload_n 1, 1) := by decide +kernel
theorem dL_law_569 : decode cL_law 569 = .ok (.aload_n 0, 1) := by decide +kernel
theorem dL_law_570 : decode cL_law 570 = .ok (.iload_n 3, 1) := by decide +kernel
theorem dL_law_571 : decode cL_law 571 = .ok (.iconst 1, 1) := by decide +kernel
theorem dL_law_572 : decode cL_law 572 = .ok (.iadd, 1) := by decide +kernel
theorem dL_law_573 : decode cL_law 573 = .ok (.iaload, 1) := by decide +kernel
theorem dL_law_574 : decode cL_law 574 = .ok (.aload_n 0, 1) := by decide +kernel
theorem dL_law_575 : decode cL_law 575 = .ok (.iload_n 3, 1) := by decide +kernel
theorem dL_law_576 : decode cL_law 576 = .ok (.iconst 2, 1) := by decide +kernel
theorem dL_law_577 : decode cL_law 577 = .ok (.iadd, 1) := by decide +kernel
theorem dL_law_578 : decode cL_law 578 = .ok (.iaload, 1) := by decide +kernel
theorem dL_law_579 : decode cL_law 579 = .ok (.aload_n 0, 1) := by decide +kernel
theorem dL_law_580 : decode cL_law 580 = .ok (.iload_n 3, 1) := by decide +kernel
theorem dL_law_581 : decode cL_law 581 = .ok (.iconst 3, 1) := by decide +kernel
theorem dL_law_582 : decode cL_law 582 = .ok (.iadd, 1) := by decide +kernel
theorem dL_law_583 : decode cL_law 583 = .ok (.iaload, 1) := by decide +kernel
theorem dL_law_584 : decode cL_law 584 = .ok (.aload_n 0, 1) := by decide +kernel
theorem dL_law_585 : decode cL_law 585 = .ok (.iload_n 3, 1) := by decide +kernel
theorem dL_law_586 : decode cL_law 586 = .ok (.iconst 4, 1) := by decide +kernel
theorem dL_law_587 : decode cL_law 587 = .ok (.iadd, 1) := by decide +kernel
theorem dL_law_588 : decode cL_law 588 = .ok (.iaload, 1) := by decide +kernel
theorem dL_law_589 : decode cL_law 589 = .ok (.aload_n 0, 1) := by decide +kernel
theorem dL_law_590 : decode cL_law 590 = .ok (.iload_n 3, 1) := by decide +kernel
theorem dL_law_591 : decode cL_law 591 = .ok (.iconst 5, 1) := by decide +kernel
theorem dL_law_592 : decode cL_law 592 = .ok (.iadd, 1) := by decide +kernel
theorem dL_law_593 : decode cL_law 593 = .ok (.iaload, 1) := by decide +kernel
theorem dL_law_594 : decode cL_law 594 = .ok (.invokevirtual 60, 3) := by decide +kernel
theorem dL_law_597 : decode cL_law 597 = .ok (.aload_n 2, 1) := by decide +kernel
theorem dL_law_598 : decode cL_law 598 = .ok (.aload_n 0, 1) := by decide +kernel
theorem dL_law_599 : decode cL_law 599 = .ok (.iload_n 3, 1) := by decide +kernel
theorem dL_law_600 : decode cL_law 600 = .ok (.iconst 1, 1) := by decide +kernel
theorem dL_law_601 : decode cL_law 601 = .ok (.iadd, 1) := by decide +kernel
theorem dL_law_602 : decode cL_law 602 = .ok (.iaload, 1) := by decide +kernel
theorem dL_law_603 : decode cL_law 603 = .ok (.aload_n 0, 1) := by decide +kernel
theorem dL_law_604 : decode cL_law 604 = .ok (.iload_n 3, 1) := by decide +kernel
theorem dL_law_605 : decode cL_law 605 = .ok (.iconst 2, 1) := by decide +kernel
theorem dL_law_606 : decode cL_law 606 = .ok (.iadd, 1) := by decide +kernel
theorem dL_law_607 : decode cL_law 607 = .ok (.iaload, 1) := by decide +kernel
theorem dL_law_608 : decode cL_law 608 = .ok (.aload_n 0, 1) := by decide +kernel
theorem dL_law_609 : decode cL_law 609 = .ok (.iload_n 3, 1) := by decide +kernel
theorem dL_law_610 : decode cL_law 610 = .ok (.iconst 3, 1) := by decide +kernel
theorem dL_law_611 : decode cL_law 611 = .ok (.iadd, 1) := by decide +kernel
theorem dL_law_612 : decode cL_law 612 = .ok (.iaload, 1) := by decide +kernel
theorem dL_law_613 : decode cL_law 613 = .ok (.aload_n 0, 1) := by decide +kernel
theorem dL_law_614 : decode cL_law 614 = .ok (.iload_n 3, 1) := by decide +kernel
theorem dL_law_615 : decode cL_law 615 = .ok (.iconst 4, 1) := by decide +kernel
theorem dL_law_616 : decode cL_law 616 = .ok (.iadd, 1) := by decide +kernel
theorem dL_law_617 : decode cL_law 617 = .ok (.iaload, 1) := by decide +kernel
theorem dL_law_618 : decode cL_law 618 = .ok (.aload_n 0, 1) := by decide +kernel
theorem dL_law_619 : decode cL_law 619 = .ok (.iload_n 3, 1) := by decide +kernel
theorem dL_law_620 : decode cL_law 620 = .ok (.iconst 5, 1) := by decide +kernel
theorem dL_law_621 : decode cL_law 621 = .ok (.iadd, 1) := by decide +kernel
theorem dL_law_622 : decode cL_law 622 = .ok (.iaload, 1) := by decide +kernel
theorem dL_law_623 : decode cL_law 623 = .ok (.invokevirtual 64, 3) := by decide +kernel
theorem dL_law_626 : decode cL_law 626 = .ok (.if_icmp .eq 337, 3) := by decide +kernel
theorem dL_law_629 : decode cL_law 629 = .ok (.iconst 0, 1) := by decide +kernel
theorem dL_law_630 : decode cL_law 630 = .ok (.ireturn, 1) := by decide +kernel
theorem dL_law_631 : decode cL_law 631 = .ok (.aload_n 1, 1) := by decide +kernel
theorem dL_law_632 : decode cL_law 632 = .ok (.aload_n 0, 1) := by decide +kernel
theorem dL_law_633 : decode cL_law 633 = .ok (.iload_n 3, 1) := by decide +kernel
theorem dL_law_634 : decode cL_law 634 = .ok (.iconst 1, 1) := by decide +kernel
theorem dL_law_635 : decode cL_law 635 = .ok (.iadd, 1) := by decide +kernel
theorem dL_law_636 : decode cL_law 636 = .ok (.iaload, 1) := by decide +kernel
theorem dL_law_637 : decode cL_law 637 = .ok (.invokevirtual 65, 3) := by decide +kernel
theorem dL_law_640 : decode cL_law 640 = .ok (.aload_n 2, 1) := by decide +kernel
theorem dL_law_641 : decode cL_law 641 = .ok (.aload_n 0, 1) := by decide +kernel
theorem dL_law_642 : decode cL_law 642 = .ok (.iload_n 3, 1) := by decide +kernel
theorem dL_law_643 : decode cL_law 643 = .ok (.iconst 1, 1) := by decide +kernel
theorem dL_law_644 : decode cL_law 644 = .ok (.iadd, 1) := by decide +kernel
theorem dL_law_645 : decode cL_law 645 = .ok (.iaload, 1) := by decide +kernel
theorem dL_law_646 : decode cL_law 646 = .ok (.invokevirtual 68, 3) := by decide +kernel
theorem dL_law_649 : decode cL_law 649 = .ok (.if_icmp .eq 314, 3) := by decide +kernel
theorem dL_law_652 : decode cL_law 652 = .ok (.iconst 0, 1) := by decide +kernel
theorem dL_law_653 : decode cL_law 653 = .ok (.ireturn, 1) := by decide +kernel
theorem dL_law_654 : decode cL_law 654 = .ok (.aload_n 1, 1) := by decide +kernel
theorem dL_law_655 : decode cL_law 655 = .ok (.invokevirtual 69, 3) := by decide +kernel
theorem dL_law_658 : decode cL_law 658 = .ok (.aload_n 2, 1) := by decide +kernel
theorem dL_law_659 : decode cL_law 659 = .ok (.invokevirtual 73, 3) := by decide +kernel
theorem dL_law_662 : decode cL_law 662 = .ok (.if_icmp .eq 301, 3) := by decide +kernel
theorem dL_law_665 : decode cL_law 665 = .ok (.iconst 0, 1) := by decide +kernel
theorem dL_law_666 : decode cL_law 666 = .ok (.ireturn, 1) := by decide +kernel
theorem dL_law_667 : decode cL_law 667 = .ok (.aload_n 1, 1) := by decide +kernel
theorem dL_law_668 : decode cL_law 668 = .ok (.aload_n 0, 1) := by decide +kernel
theorem dL_law_669 : decode cL_law 669 = .ok (.iload_n 3, 1) := by decide +kernel
theorem dL_law_670 : decode cL_law 670 = .ok (.iconst 1, 1) := by decide +kernel
theorem dL_law_671 : decode cL_law 671 = .ok (.iadd, 1) := by decide +kernel
theorem dL_law_672 : decode cL_law 672 = .ok (.iaload, 1) := by decide +kernel
theorem dL_law_673 : decode cL_law 673 = .ok (.aload_n 0, 1) := by decide +kernel
theorem dL_law_674 : decode cL_law 674 = .ok (.iload_n 3, 1) := by decide +kernel
theorem dL_law_675 : decode cL_law 675 = .ok (.iconst 2, 1) := by decide +kernel
theorem dL_law_676 : decode cL_law 676 = .ok (.iadd, 1) := by decide +kernel
theorem dL_law_677 : decode cL_law 677 = .ok (.iaload, 1) := by decide +kernel
theorem dL_law_678 : decode cL_law 678 = .ok (.invokevirtual 74, 3) := by decide +kernel
theorem dL_law_681 : decode cL_law 681 = .ok (.aload_n 2, 1) := by decide +kernel
theorem dL_law_682 : decode cL_law 682 = .ok (.aload_n 0, 1) := by decide +kernel
theorem dL_law_683 : decode cL_law 683 = .ok (.iload_n 3, 1) := by decide +kernel
theorem dL_law_684 : decode cL_law 684 = .ok (.iconst 1, 1) := by decide +kernel
theorem dL_law_685 : decode cL_law 685 = .ok (.iadd, 1) := by decide +kernel
theorem dL_law_686 : decode cL_law 686 = .ok (.iaload, 1) := by decide +kernel
theorem dL_law_687 : decode cL_law 687 = .ok (.aload_n 0, 1) := by decide +kernel
theorem dL_law_688 : decode cL_law 688 = .ok (.iload_n 3, 1) := by decide +kernel
theorem dL_law_689 : decode cL_law 689 = .ok (.iconst 2, 1) := by decide +kernel
theorem dL_law_690 : decode cL_law 690 = .ok (.iadd, 1) := by decide +kernel
theorem dL_law_691 : decode cL_law 691 = .ok (.iaload, 1) := by decide +kernel
theorem dL_law_692 : decode cL_law 692 = .ok (.invokevirtual 77, 3) := by decide +kernel
theorem dL_law_695 : decode cL_law 695 = .ok (.if_icmp .eq 268, 3) := by decide +kernel
theorem dL_law_698 : decode cL_law 698 = .ok (.iconst 0, 1) := by decide +kernel
theorem dL_law_699 : decode cL_law 699 = .ok (.ireturn, 1) := by decide +kernel
theorem dL_law_700 : decode cL_law 700 = .ok (.aload_n 1, 1) := by decide +kernel
theorem dL_law_701 : decode cL_law 701 = .ok (.aload_n 0, 1) := by decide +kernel
theorem dL_law_702 : decode cL_law 702 = .ok (.iload_n 3, 1) := by decide +kernel
theorem dL_law_703 : decode cL_law 703 = .ok (.iconst 1, 1) := by decide +kernel
theorem dL_law_704 : decode cL_law 704 = .ok (.iadd, 1) := by decide +kernel
theorem dL_law_705 : decode cL_law 705 = .ok (.iaload, 1) := by decide +kernel
theorem dL_law_706 : decode cL_law 706 = .ok (.aload_n 0, 1) := by decide +kernel
theorem dL_law_707 : decode cL_law 707 = .ok (.iload_n 3, 1) := by decide +kernel
theorem dL_law_708 : decode cL_law 708 = .ok (.iconst 2, 1) := by decide +kernel
theorem dL_law_709 : decode cL_law 709 = .ok (.iadd, 1) := by decide +kernel
theorem dL_law_710 : decode cL_law 710 = .ok (.iaload, 1) := by decide +kernel
theorem dL_law_711 : decode cL_law 711 = .ok (.invokevirtual 78, 3) := by decide +kernel
theorem dL_law_714 : decode cL_law 714 = .ok (.aload_n 2, 1) := by decide +kernel
theorem dL_law_715 : decode cL_law 715 = .ok (.aload_n 0, 1) := by decide +kernel
theorem dL_law_716 : decode cL_law 716 = .ok (.iload_n 3, 1) := by decide +kernel
theorem dL_law_717 : decode cL_law 717 = .ok (.iconst 1, 1) := by decide +kernel
theorem dL_law_718 : decode cL_law 718 = .ok (.iadd, 1) := by decide +kernel
theorem dL_law_719 : decode cL_law 719 = .ok (.iaload, 1) := by decide +kernel
theorem dL_law_720 : decode cL_law 720 = .ok (.aload_n 0, 1) := by decide +kernel
theorem dL_law_721 : decode cL_law 721 = .ok (.iload_n 3, 1) := by decide +kernel
theorem dL_law_722 : decode cL_law 722 = .ok (.iconst 2, 1) := by decide +kernel
theorem dL_law_723 : decode cL_law 723 = .ok (.iadd, 1) := by decide +kernel
theorem dL_law_724 : decode cL_law 724 = .ok (.iaload, 1) := by decide +kernel
theorem dL_law_725 : decode cL_law 725 = .ok (.invokevirtual 81, 3) := by decide +kernel
theorem dL_law_728 : decode cL_law 728 = .ok (.if_icmp .eq 235, 3) := by decide +kernel
theorem dL_law_731 : decode cL_law 731 = .ok (.iconst 0, 1) := by decide +kernel
theorem dL_law_732 : decode cL_law 732 = .ok (.ireturn, 1) := by decide +kernel
theorem dL_law_733 : decode cL_law 733 = .ok (.aload_n 1, 1) := by decide +kernel
theorem dL_law_734 : decode cL_law 734 = .ok (.aload_n 0, 1) := by decide +kernel
theorem dL_law_735 : decode cL_law 735 = .ok (.iload_n 3, 1) := by decide +kernel
theorem dL_law_736 : decode cL_law 736 = .ok (.iconst 1, 1) := by decide +kernel
theorem dL_law_737 : decode cL_law 737 = .ok (.iadd, 1) := by decide +kernel
theorem dL_law_738 : decode cL_law 738 = .ok (.iaload, 1) := by decide +kernel
theorem dL_law_739 : decode cL_law 739 = .ok (.aload_n 0, 1) := by decide +kernel
theorem dL_law_740 : decode cL_law 740 = .ok (.iload_n 3, 1) := by decide +kernel
theorem dL_law_741 : decode cL_law 741 = .ok (.iconst 2, 1) := by decide +kernel
theorem dL_law_742 : decode cL_law 742 = .ok (.iadd, 1) := by decide +kernel
theorem dL_law_743 : decode cL_law 743 = .ok (.iaload, 1) := by decide +kernel
theorem dL_law_744 : decode cL_law 744 = .ok (.invokevirtual 82, 3) := by decide +kernel
theorem dL_law_747 : decode cL_law 747 = .ok (.aload_n 2, 1) := by decide +kernel
theorem dL_law_748 : decode cL_law 748 = .ok (.aload_n 0, 1) := by decide +kernel
theorem dL_law_749 : decode cL_law 749 = .ok (.iload_n 3, 1) := by decide +kernel
theorem dL_law_750 : decode cL_law 750 = .ok (.iconst 1, 1) := by decide +kernel
theorem dL_law_751 : decode cL_law 751 = .ok (.iadd, 1) := by decide +kernel
theorem dL_law_752 : decode cL_law 752 = .ok (.iaload, 1) := by decide +kernel
theorem dL_law_753 : decode cL_law 753 = .ok (.aload_n 0, 1) := by decide +kernel
theorem dL_law_754 : decode cL_law 754 = .ok (.iload_n 3, 1) := by decide +kernel
theorem dL_law_755 : decode cL_law 755 = .ok (.iconst 2, 1) := by decide +kernel
theorem dL_law_756 : decode cL_law 756 = .ok (.iadd, 1) := by decide +kernel
theorem dL_law_757 : decode cL_law 757 = .ok (.iaload, 1) := by decide +kernel
theorem dL_law_758 : decode cL_law 758 = .ok (.invokevirtual 85, 3) := by decide +kernel
theorem dL_law_761 : decode cL_law 761 = .ok (.if_icmp .eq 202, 3) := by decide +kernel
theorem dL_law_764 : decode cL_law 764 = .ok (.iconst 0, 1) := by decide +kernel
theorem dL_law_765 : decode cL_law 765 = .ok (.ireturn, 1) := by decide +kernel
theorem dL_law_766 : decode cL_law 766 = .ok (.aload_n 1, 1) := by decide +kernel
theorem dL_law_767 : decode cL_law 767 = .ok (.aload_n 0, 1) := by decide +kernel
theorem dL_law_768 : decode cL_law 768 = .ok (.iload_n 3, 1) := by decide +kernel
theorem dL_law_769 : decode cL_law 769 = .ok (.iconst 1, 1) := by decide +kernel
theorem dL_law_770 : decode cL_law 770 = .ok (.iadd, 1) := by decide +kernel
theorem dL_law_771 : decode cL_law 771 = .ok (.iaload, 1) := by decide +kernel
theorem dL_law_772 : decode cL_law 772 = .ok (.ifCond .eq 7, 3) := by decide +kernel
theorem dL_law_775 : decode cL_law 775 = .ok (.iconst 1, 1) := by decide +kernel
theorem dL_law_776 : decode cL_law 776 = .ok (.goto 4, 3) := by decide +kernel
theorem dL_law_779 : decode cL_law 779 = .ok (.iconst 0, 1) := by decide +kernel
theorem dL_law_780 : decode cL_law 780 = .ok (.invokevirtual 86, 3) := by decide +kernel
theorem dL_law_783 : decode cL_law 783 = .ok (.aload_n 2, 1) := by decide +kernel
theorem dL_law_784 : decode cL_law 784 = .ok (.aload_n 0, 1) := by decide +kernel
theorem dL_law_785 : decode cL_law 785 = .ok (.iload_n 3, 1) := by decide +kernel
theorem dL_law_786 : decode cL_law 786 = .ok (.iconst 1, 1) := by decide +kernel
theorem dL_law_787 : decode cL_law 787 = .ok (.iadd, 1) := by decide +kernel
theorem dL_law_788 : decode cL_law 788 = .ok (.iaload, 1) := by decide +kernel
theorem dL_law_789 : decode cL_law 789 = .ok (.ifCond .eq 7, 3) := by decide +kernel
theorem dL_law_792 : decode cL_law 792 = .ok (.iconst 1, 1) := by decide +kernel
theorem dL_law_793 : decode cL_law 793 = .ok (.goto 4, 3) := by decide +kernel
theorem dL_law_796 : decode cL_law 796 = .ok (.iconst 0, 1) := by decide +kernel
theorem dL_law_797 : decode cL_law 797 = .ok (.invokevirtual 90, 3) := by decide +kernel
theorem dL_law_800 : decode cL_law 800 = .ok (.if_icmp .eq 163, 3) := by decide +kernel
theorem dL_law_803 : decode cL_law 803 = .ok (.iconst 0, 1) := by decide +kernel
theorem dL_law_804 : decode cL_law 804 = .ok (.ireturn, 1) := by decide +kernel
theorem dL_law_805 : decode cL_law 805 = .ok (.aload_n 1, 1) := by decide +kernel
theorem dL_law_806 : decode cL_law 806 = .ok (.aload_n 0, 1) := by decide +kernel
theorem dL_law_807 : decode cL_law 807 = .ok (.iload_n 3, 1) := by decide +kernel
theorem dL_law_808 : decode cL_law 808 = .ok (.iconst 1, 1) := by decide +kernel
theorem dL_law_809 : decode cL_law 809 = .ok (.iadd, 1) := by decide +kernel
theorem dL_law_810 : decode cL_law 810 = .ok (.iaload, 1) := by decide +kernel
theorem dL_law_811 : decode cL_law 811 = .ok (.invokevirtual 91, 3) := by decide +kernel
theorem dL_law_814 : decode cL_law 814 = .ok (.aload_n 2, 1) := by decide +kernel
theorem dL_law_815 : decode cL_law 815 = .ok (.aload_n 0, 1) := by decide +kernel
theorem dL_law_816 : decode cL_law 816 = .ok (.iload_n 3, 1) := by decide +kernel
theorem dL_law_817 : decode cL_law 817 = .ok (.iconst 1, 1) := by decide +kernel
theorem dL_law_818 : decode cL_law 818 = .ok (.iadd, 1) := by decide +kernel
theorem dL_law_819 : decode cL_law 819 = .ok (.iaload, 1) := by decide +kernel
theorem dL_law_820 : decode cL_law 820 = .ok (.invokevirtual 94, 3) := by decide +kernel
theorem dL_law_823 : decode cL_law 823 = .ok (.if_icmp .eq 140, 3) := by decide +kernel
theorem dL_law_826 : decode cL_law 826 = .ok (.iconst 0, 1) := by decide +kernel
theorem dL_law_827 : decode cL_law 827 = .ok (.ireturn, 1) := by decide +kernel
theorem dL_law_828 : decode cL_law 828 = .ok (.aload_n 1, 1) := by decide +kernel
theorem dL_law_829 : decode cL_law 829 = .ok (.aload_n 0, 1) := by decide +kernel
theorem dL_law_830 : decode cL_law 830 = .ok (.iload_n 3, 1) := by decide +kernel
theorem dL_law_831 : decode cL_law 831 = .ok (.iconst 1, 1) := by decide +kernel
theorem dL_law_832 : decode cL_law 832 = .ok (.iadd, 1) := by decide +kernel
theorem dL_law_833 : decode cL_law 833 = .ok (.iaload, 1) := by decide +kernel
theorem dL_law_834 : decode cL_law 834 = .ok (.invokevirtual 95, 3) := by decide +kernel
theorem dL_law_837 : decode cL_law 837 = .ok (.aload_n 2, 1) := by decide +kernel
theorem dL_law_838 : decode cL_law 838 = .ok (.aload_n 0, 1) := by decide +kernel
theorem dL_law_839 : decode cL_law 839 = .ok (.iload_n 3, 1) := by decide +kernel
theorem dL_law_840 : decode cL_law 840 = .ok (.iconst 1, 1) := by decide +kernel
theorem dL_law_841 : decode cL_law 841 = .ok (.iadd, 1) := by decide +kernel
theorem dL_law_842 : decode cL_law 842 = .ok (.iaload, 1) := by decide +kernel
theorem dL_law_843 : decode cL_law 843 = .ok (.invokevirtual 98, 3) := by decide +kernel
theorem dL_law_846 : decode cL_law 846 = .ok (.if_icmp .eq 117, 3) := by decide +kernel
theorem dL_law_849 : decode cL_law 849 = .ok (.iconst 0, 1) := by decide +kernel
theorem dL_law_850 : decode cL_law 850 = .ok (.ireturn, 1) := by decide +kernel
theorem dL_law_851 : decode cL_law 851 = .ok (.aload_n 1, 1) := by decide +kernel
theorem dL_law_852 : decode cL_law 852 = .ok (.aload_n 0, 1) := by decide +kernel
theorem dL_law_853 : decode cL_law 853 = .ok (.iload_n 3, 1) := by decide +kernel
theorem dL_law_854 : decode cL_law 854 = .ok (.iconst 1, 1) := by decide +kernel
theorem dL_law_855 : decode cL_law 855 = .ok (.iadd, 1) := by decide +kernel
theorem dL_law_856 : decode cL_law 856 = .ok (.iaload, 1) := by decide +kernel
theorem dL_law_857 : decode cL_law 857 = .ok (.aload_n 0, 1) := by decide +kernel
theorem dL_law_858 : decode cL_law 858 = .ok (.iload_n 3, 1) := by decide +kernel
theorem dL_law_859 : decode cL_law 859 = .ok (.iconst 2, 1) := by decide +kernel
theorem dL_law_860 : decode cL_law 860 = .ok (.iadd, 1) := by decide +kernel
theorem dL_law_861 : decode cL_law 861 = .ok (.iaload, 1) := by decide +kernel
theorem dL_law_862 : decode cL_law 862 = .ok (.invokevirtual 99, 3) := by decide +kernel
theorem dL_law_865 : decode cL_law 865 = .ok (.aload_n 2, 1) := by decide +kernel
theorem dL_law_866 : decode cL_law 866 = .ok (.aload_n 0, 1) := by decide +kernel
theorem dL_law_867 : decode cL_law 867 = .ok (.iload_n 3, 1) := by decide +kernel
theorem dL_law_868 : decode cL_law 868 = .ok (.iconst 1, 1) := by decide +kernel
theorem dL_law_869 : decode cL_law 869 = .ok (.iadd, 1) := by decide +kernel
theorem dL_law_870 : decode cL_law 870 = .ok (.iaload, 1) := by decide +kernel
theorem dL_law_871 : decode cL_law 871 = .ok (.aload_n 0, 1) := by decide +kernel
theorem dL_law_872 : decode cL_law 872 = .ok (.iload_n 3, 1) := by decide +kernel
theorem dL_law_873 : decode cL_law 873 = .ok (.iconst 2, 1) := by decide +kernel
theorem dL_law_874 : decode cL_law 874 = .ok (.iadd, 1) := by decide +kernel
theorem dL_law_875 : decode cL_law 875 = .ok (.iaload, 1) := by decide +kernel
theorem dL_law_876 : decode cL_law 876 = .ok (.invokevirtual 102, 3) := by decide +kernel
theorem dL_law_879 : decode cL_law 879 = .ok (.if_icmp .eq 84, 3) := by decide +kernel
theorem dL_law_882 : decode cL_law 882 = .ok (.iconst 0, 1) := by decide +kernel
theorem dL_law_883 : decode cL_law 883 = .ok (.ireturn, 1) := by decide +kernel
theorem dL_law_884 : decode cL_law 884 = .ok (.aload_n 1, 1) := by decide +kernel
theorem dL_law_885 : decode cL_law 885 = .ok (.aload_n 0, 1) := by decide +kernel
theorem dL_law_886 : decode cL_law 886 = .ok (.iload_n 3, 1) := by decide +kernel
theorem dL_law_887 : decode cL_law 887 = .ok (.iconst 1, 1) := by decide +kernel
theorem dL_law_888 : decode cL_law 888 = .ok (.iadd, 1) := by decide +kernel
theorem dL_law_889 : decode cL_law 889 = .ok (.iaload, 1) := by decide +kernel
theorem dL_law_890 : decode cL_law 890 = .ok (.aload_n 0, 1) := by decide +kernel
theorem dL_law_891 : decode cL_law 891 = .ok (.iload_n 3, 1) := by decide +kernel
theorem dL_law_892 : decode cL_law 892 = .ok (.iconst 2, 1) := by decide +kernel
theorem dL_law_893 : decode cL_law 893 = .ok (.iadd, 1) := by decide +kernel
theorem dL_law_894 : decode cL_law 894 = .ok (.iaload, 1) := by decide +kernel
theorem dL_law_895 : decode cL_law 895 = .ok (.invokevirtual 103, 3) := by decide +kernel
theorem dL_law_898 : decode cL_law 898 = .ok (.aload_n 2, 1) := by decide +kernel
theorem dL_law_899 : decode cL_law 899 = .ok (.aload_n 0, 1) := by decide +kernel
theorem dL_law_900 : decode cL_law 900 = .ok (.iload_n 3, 1) := by decide +kernel
theorem dL_law_901 : decode cL_law 901 = .ok (.iconst 1, 1) := by decide +kernel
theorem dL_law_902 : decode cL_law 902 = .ok (.iadd, 1) := by decide +kernel
theorem dL_law_903 : decode cL_law 903 = .ok (.iaload, 1) := by decide +kernel
theorem dL_law_904 : decode cL_law 904 = .ok (.aload_n 0, 1) := by decide +kernel
theorem dL_law_905 : decode cL_law 905 = .ok (.iload_n 3, 1) := by decide +kernel
theorem dL_law_906 : decode cL_law 906 = .ok (.iconst 2, 1) := by decide +kernel
theorem dL_law_907 : decode cL_law 907 = .ok (.iadd, 1) := by decide +kernel
theorem dL_law_908 : decode cL_law 908 = .ok (.iaload, 1) := by decide +kernel
theorem dL_law_909 : decode cL_law 909 = .ok (.invokevirtual 106, 3) := by decide +kernel
theorem dL_law_912 : decode cL_law 912 = .ok (.if_icmp .eq 51, 3) := by decide +kernel
theorem dL_law_915 : decode cL_law 915 = .ok (.iconst 0, 1) := by decide +kernel
theorem dL_law_916 : decode cL_law 916 = .ok (.ireturn, 1) := by decide +kernel
theorem dL_law_917 : decode cL_law 917 = .ok (.aload_n 1, 1) := by decide +kernel
theorem dL_law_918 : decode cL_law 918 = .ok (.aload_n 0, 1) := by decide +kernel
theorem dL_law_919 : decode cL_law 919 = .ok (.iload_n 3, 1) := by decide +kernel
theorem dL_law_920 : decode cL_law 920 = .ok (.iconst 1, 1) := by decide +kernel
theorem dL_law_921 : decode cL_law 921 = .ok (.iadd, 1) := by decide +kernel
theorem dL_law_922 : decode cL_law 922 = .ok (.iaload, 1) := by decide +kernel
theorem dL_law_923 : decode cL_law 923 = .ok (.invokevirtual 107, 3) := by decide +kernel
theorem dL_law_926 : decode cL_law 926 = .ok (.aload_n 2, 1) := by decide +kernel
theorem dL_law_927 : decode cL_law 927 = .ok (.aload_n 0, 1) := by decide +kernel
theorem dL_law_928 : decode cL_law 928 = .ok (.iload_n 3, 1) := by decide +kernel
theorem dL_law_929 : decode cL_law 929 = .ok (.iconst 1, 1) := by decide +kernel
theorem dL_law_930 : decode cL_law 930 = .ok (.iadd, 1) := by decide +kernel
theorem dL_law_931 : decode cL_law 931 = .ok (.iaload, 1) := by decide +kernel
theorem dL_law_932 : decode cL_law 932 = .ok (.invokevirtual 110, 3) := by decide +kernel
theorem dL_law_935 : decode cL_law 935 = .ok (.if_icmp .eq 28, 3) := by decide +kernel
theorem dL_law_938 : decode cL_law 938 = .ok (.iconst 0, 1) := by decide +kernel
theorem dL_law_939 : decode cL_law 939 = .ok (.ireturn, 1) := by decide +kernel
theorem dL_law_940 : decode cL_law 940 = .ok (.aload_n 1, 1) := by decide +kernel
theorem dL_law_941 : decode cL_law 941 = .ok (.aload_n 0, 1) := by decide +kernel
theorem dL_law_942 : decode cL_law 942 = .ok (.iload_n 3, 1) := by decide +kernel
theorem dL_law_943 : decode cL_law 943 = .ok (.iconst 1, 1) := by decide +kernel
theorem dL_law_944 : decode cL_law 944 = .ok (.iadd, 1) := by decide +kernel
theorem dL_law_945 : decode cL_law 945 = .ok (.iaload, 1) := by decide +kernel
theorem dL_law_946 : decode cL_law 946 = .ok (.invokevirtual 111, 3) := by decide +kernel
theorem dL_law_949 : decode cL_law 949 = .ok (.aload_n 2, 1) := by decide +kernel
theorem dL_law_950 : decode cL_law 950 = .ok (.aload_n 0, 1) := by decide +kernel
theorem dL_law_951 : decode cL_law 951 = .ok (.iload_n 3, 1) := by decide +kernel
theorem dL_law_952 : decode cL_law 952 = .ok (.iconst 1, 1) := by decide +kernel
theorem dL_law_953 : decode cL_law 953 = .ok (.iadd, 1) := by decide +kernel
theorem dL_law_954 : decode cL_law 954 = .ok (.iaload, 1) := by decide +kernel
theorem dL_law_955 : decode cL_law 955 = .ok (.invokevirtual 114, 3) := by decide +kernel
theorem dL_law_958 : decode cL_law 958 = .ok (.if_icmp .eq 5, 3) := by decide +kernel
theorem dL_law_961 : decode cL_law 961 = .ok (.iconst 0, 1) := by decide +kernel
theorem dL_law_962 : decode cL_law 962 = .ok (.ireturn, 1) := by decide +kernel
theorem dL_law_963 : decode cL_law 963 = .ok (.iinc 3 6, 3) := by decide +kernel
theorem dL_law_966 : decode cL_law 966 = .ok (.goto (-948), 3) := by decide +kernel
theorem dL_law_969 : decode cL_law 969 = .ok (.iconst 1, 1) := by decide +kernel
theorem dL_law_970 : decode cL_law 970 = .ok (.ireturn, 1) := by decide +kernel
end
section
theorem dX12_init_0 : decode cX12_init 0 = .ok (.aload_n 0, 1) := by decide +kernel
theorem dX12_init_1 : decode cX12_init 1 = .ok (.invokespecial 1, 3) := by decide +kernel
theorem dX12_init_4 : decode cX12_init 4 = .ok (.aload_n 0, 1) := by decide +kernel
theorem dX12_init_5 : decode cX12_init 5 = .ok (.bipush 7, 2) := by decide +kernel
theorem dX12_init_7 : decode cX12_init 7 = .ok (.newarray .int, 2) := by decide +kernel
theorem dX12_init_9 : decode cX12_init 9 = .ok (.putfield 7, 3) := by decide +kernel
theorem dX12_init_12 : decode cX12_init 12 = .ok (.aload_n 0, 1) := by decide +kernel
theorem dX12_init_13 : decode cX12_init 13 = .ok (.bipush 7, 2) := by decide +kernel
theorem dX12_init_15 : decode cX12_init 15 = .ok (.newarray .boolean, 2) := by decide +kernel
theorem dX12_init_17 : decode cX12_init 17 = .ok (.putfield 13, 3) := by decide +kernel
theorem dX12_init_20 : decode cX12_init 20 = .ok (.aload_n 0, 1) := by decide +kernel
theorem dX12_init_21 : decode cX12_init 21 = .ok (.bipush 7, 2) := by decide +kernel
theorem dX12_init_23 : decode cX12_init 23 = .ok (.newarray .int, 2) := by decide +kernel
theorem dX12_init_25 : decode cX12_init 25 = .ok (.putfield 17, 3) := by decide +kernel
theorem dX12_init_28 : decode cX12_init 28 = .ok (.aload_n 0, 1) := by decide +kernel
theorem dX12_init_29 : decode cX12_init 29 = .ok (.bipush 7, 2) := by decide +kernel
theorem dX12_init_31 : decode cX12_init 31 = .ok (.newarray .int, 2) := by decide +kernel
theorem dX12_init_33 : decode cX12_init 33 = .ok (.putfield 20, 3) := by decide +kernel
theorem dX12_init_36 : decode cX12_init 36 = .ok (.aload_n 0, 1) := by decide +kernel
theorem dX12_init_37 : decode cX12_init 37 = .ok (.bipush 7, 2) := by decide +kernel
theorem dX12_init_39 : decode cX12_init 39 = .ok (.newarray .boolean, 2) := by decide +kernel
theorem dX12_init_41 : decode cX12_init 41 = .ok (.putfield 23, 3) := by decide +kernel
theorem dX12_init_44 : decode cX12_init 44 = .ok (.aload_n 0, 1) := by decide +kernel
theorem dX12_init_45 : decode cX12_init 45 = .ok (.iconst 5, 1) := by decide +kernel
theorem dX12_init_46 : decode cX12_init 46 = .ok (.newarray .int, 2) := by decide +kernel
theorem dX12_init_48 : decode cX12_init 48 = .ok (.putfield 26, 3) := by decide +kernel
theorem dX12_init_51 : decode cX12_init 51 = .ok (.aload_n 0, 1) := by decide +kernel
theorem dX12_init_52 : decode cX12_init 52 = .ok (.iconst 5, 1) := by decide +kernel
theorem dX12_init_53 : decode cX12_init 53 = .ok (.newarray .int, 2) := by decide +kernel
theorem dX12_init_55 : decode cX12_init 55 = .ok (.putfield 29, 3) := by decide +kernel
theorem dX12_init_58 : decode cX12_init 58 = .ok (.aload_n 0, 1) := by decide +kernel
theorem dX12_init_59 : decode cX12_init 59 = .ok (.bipush 30, 2) := by decide +kernel
theorem dX12_init_61 : decode cX12_init 61 = .ok (.newarray .int, 2) := by decide +kernel
theorem dX12_init_63 : decode cX12_init 63 = .ok (.putfield 32, 3) := by decide +kernel
theorem dX12_init_66 : decode cX12_init 66 = .ok (.aload_n 0, 1) := by decide +kernel
theorem dX12_init_67 : decode cX12_init 67 = .ok (.bipush 30, 2) := by decide +kernel
theorem dX12_init_69 : decode cX12_init 69 = .ok (.newarray .int, 2) := by decide +kernel
theorem dX12_init_71 : decode cX12_init 71 = .ok (.putfield 35, 3) := by decide +kernel
theorem dX12_init_74 : decode cX12_init 74 = .ok (.aload_n 0, 1) := by decide +kernel
theorem dX12_init_75 : decode cX12_init 75 = .ok (.bipush 30, 2) := by decide +kernel
theorem dX12_init_77 : decode cX12_init 77 = .ok (.newarray .int, 2) := by decide +kernel
theorem dX12_init_79 : decode cX12_init 79 = .ok (.putfield 38, 3) := by decide +kernel
theorem dX12_init_82 : decode cX12_init 82 = .ok (.aload_n 0, 1) := by decide +kernel
theorem dX12_init_83 : decode cX12_init 83 = .ok (.bipush 100, 2) := by decide +kernel
theorem dX12_init_85 : decode cX12_init 85 = .ok (.newarray .int, 2) := by decide +kernel
theorem dX12_init_87 : decode cX12_init 87 = .ok (.putfield 41, 3) := by decide +kernel
theorem dX12_init_90 : decode cX12_init 90 = .ok (.aload_n 0, 1) := by decide +kernel
theorem dX12_init_91 : decode cX12_init 91 = .ok (.bipush 100, 2) := by decide +kernel
theorem dX12_init_93 : decode cX12_init 93 = .ok (.newarray .int, 2) := by decide +kernel
theorem dX12_init_95 : decode cX12_init 95 = .ok (.putfield 44, 3) := by decide +kernel
theorem dX12_init_98 : decode cX12_init 98 = .ok (.aload_n 0, 1) := by decide +kernel
theorem dX12_init_99 : decode cX12_init 99 = .ok (.bipush 100, 2) := by decide +kernel
theorem dX12_init_101 : decode cX12_init 101 = .ok (.newarray .int, 2) := by decide +kernel
theorem dX12_init_103 : decode cX12_init 103 = .ok (.putfield 47, 3) := by decide +kernel
theorem dX12_init_106 : decode cX12_init 106 = .ok (.aload_n 0, 1) := by decide +kernel
theorem dX12_init_107 : decode cX12_init 107 = .ok (.bipush 100, 2) := by decide +kernel
theorem dX12_init_109 : decode cX12_init 109 = .ok (.newarray .int, 2) := by decide +kernel
theorem dX12_init_111 : decode cX12_init 111 = .ok (.putfield 50, 3) := by decide +kernel
theorem dX12_init_114 : decode cX12_init 114 = .ok (.aload_n 0, 1) := by decide +kernel
theorem dX12_init_115 : decode cX12_init 115 = .ok (.bipush 100, 2) := by decide +kernel
theorem dX12_init_117 : decode cX12_init 117 = .ok (.newarray .int, 2) := by decide +kernel
theorem dX12_init_119 : decode cX12_init 119 = .ok (.putfield 53, 3) := by decide +kernel
theorem dX12_init_122 : decode cX12_init 122 = .ok (.aload_n 0, 1) := by decide +kernel
theorem dX12_init_123 : decode cX12_init 123 = .ok (.sipush 500, 3) := by decide +kernel
theorem dX12_init_126 : decode cX12_init 126 = .ok (.newarray .byte, 2) := by decide +kernel
theorem dX12_init_128 : decode cX12_init 128 = .ok (.putfield 56, 3) := by decide +kernel
theorem dX12_init_131 : decode cX12_init 131 = .ok (.aload_n 0, 1) := by decide +kernel
theorem dX12_init_132 : decode cX12_init 132 = .ok (.bipush 20, 2) := by decide +kernel
theorem dX12_init_134 : decode cX12_init 134 = .ok (.newarray .int, 2) := by decide +kernel
theorem dX12_init_136 : decode cX12_init 136 = .ok (.putfield 60, 3) := by decide +kernel
theorem dX12_init_139 : decode cX12_init 139 = .ok (.aload_n 0, 1) := by decide +kernel
theorem dX12_init_140 : decode cX12_init 140 = .ok (.bipush 20, 2) := by decide +kernel
theorem dX12_init_142 : decode cX12_init 142 = .ok (.newarray .int, 2) := by decide +kernel
theorem dX12_init_144 : decode cX12_init 144 = .ok (.putfield 63, 3) := by decide +kernel
theorem dX12_init_147 : decode cX12_init 147 = .ok (.aload_n 0, 1) := by decide +kernel
theorem dX12_init_148 : decode cX12_init 148 = .ok (.bipush 20, 2) := by decide +kernel
theorem dX12_init_150 : decode cX12_init 150 = .ok (.newarray .int, 2) := by decide +kernel
theorem dX12_init_152 : decode cX12_init 152 = .ok (.putfield 66, 3) := by decide +kernel
theorem dX12_init_155 : decode cX12_init 155 = .ok (.aload_n 0, 1) := by decide +kernel
theorem dX12_init_156 : decode cX12_init 156 = .ok (.bipush 120, 2) := by decide +kernel
theorem dX12_init_158 : decode cX12_init 158 = .ok (.newarray .int, 2) := by decide +kernel
theorem dX12_init_160 : decode cX12_init 160 = .ok (.putfield 69, 3) := by decide +kernel
theorem dX12_init_163 : decode cX12_init 163 = .ok (.aload_n 0, 1) := by decide +kernel
theorem dX12_init_164 : decode cX12_init 164 = .ok (.bipush 120, 2) := by decide +kernel
theorem dX12_init_166 : decode cX12_init 166 = .ok (.newarray .int, 2) := by decide +kernel
theorem dX12_init_168 : decode cX12_init 168 = .ok (.putfield 72, 3) := by decide +kernel
theorem dX12_init_171 : decode cX12_init 171 = .ok (.aload_n 0, 1) := by decide +kernel
theorem dX12_init_172 : decode cX12_init 172 = .ok (.bipush 120, 2) := by decide +kernel
theorem dX12_init_174 : decode cX12_init 174 = .ok (.newarray .int, 2) := by decide +kernel
theorem dX12_init_176 : decode cX12_init 176 = .ok (.putfield 75, 3) := by decide +kernel
theorem dX12_init_179 : decode cX12_init 179 = .ok (.aload_n 0, 1) := by decide +kernel
theorem dX12_init_180 : decode cX12_init 180 = .ok (.bipush 120, 2) := by decide +kernel
theorem dX12_init_182 : decode cX12_init 182 = .ok (.newarray .int, 2) := by decide +kernel
theorem dX12_init_184 : decode cX12_init 184 = .ok (.putfield 78, 3) := by decide +kernel
theorem dX12_init_187 : decode cX12_init 187 = .ok (.aload_n 0, 1) := by decide +kernel
theorem dX12_init_188 : decode cX12_init 188 = .ok (.bipush 120, 2) := by decide +kernel
theorem dX12_init_190 : decode cX12_init 190 = .ok (.newarray .int, 2) := by decide +kernel
theorem dX12_init_192 : decode cX12_init 192 = .ok (.putfield 81, 3) := by decide +kernel
theorem dX12_init_195 : decode cX12_init 195 = .ok (.aload_n 0, 1) := by decide +kernel
theorem dX12_init_196 : decode cX12_init 196 = .ok (.bipush 21, 2) := by decide +kernel
theorem dX12_init_198 : decode cX12_init 198 = .ok (.newarray .int, 2) := by decide +kernel
theorem dX12_init_200 : decode cX12_init 200 = .ok (.putfield 84, 3) := by decide +kernel
theorem dX12_init_203 : decode cX12_init 203 = .ok (.aload_n 0, 1) := by decide +kernel
theorem dX12_init_204 : decode cX12_init 204 = .ok (.bipush 21, 2) := by decide +kernel
theorem dX12_init_206 : decode cX12_init 206 = .ok (.newarray .int, 2) := by decide +kernel
theorem dX12_init_208 : decode cX12_init 208 = .ok (.putfield 87, 3) := by decide +kernel
theorem dX12_init_211 : decode cX12_init 211 = .ok (.aload_n 0, 1) := by decide +kernel
theorem dX12_init_212 : decode cX12_init 212 = .ok (.bipush 21, 2) := by decide +kernel
theorem dX12_init_214 : decode cX12_init 214 = .ok (.newarray .int, 2) := by decide +kernel
theorem dX12_init_216 : decode cX12_init 216 = .ok (.putfield 90, 3) := by decide +kernel
theorem dX12_init_219 : decode cX12_init 219 = .ok (.aload_n 0, 1) := by decide +kernel
theorem dX12_init_220 : decode cX12_init 220 = .ok (.bipush 126, 2) := by decide +kernel
theorem dX12_init_222 : decode cX12_init 222 = .ok (.newarray .int, 2) := by decide +kernel
theorem dX12_init_224 : decode cX12_init 224 = .ok (.putfield 93, 3) := by decide +kernel
theorem dX12_init_227 : decode cX12_init 227 = .ok (.aload_n 0, 1) := by decide +kernel
theorem dX12_init_228 : decode cX12_init 228 = .ok (.bipush 126, 2) := by decide +kernel
theorem dX12_init_230 : decode cX12_init 230 = .ok (.newarray .int, 2) := by decide +kernel
theorem dX12_init_232 : decode cX12_init 232 = .ok (.putfield 96, 3) := by decide +kernel
theorem dX12_init_235 : decode cX12_init 235 = .ok (.aload_n 0, 1) := by decide +kernel
theorem dX12_init_236 : decode cX12_init 236 = .ok (.bipush 126, 2) := by decide +kernel
theorem dX12_init_238 : decode cX12_init 238 = .ok (.newarray .int, 2) := by decide +kernel
theorem dX12_init_240 : decode cX12_init 240 = .ok (.putfield 99, 3) := by decide +kernel
theorem dX12_init_243 : decode cX12_init 243 = .ok (.aload_n 0, 1) := by decide +kernel
theorem dX12_init_244 : decode cX12_init 244 = .ok (.bipush 126, 2) := by decide +kernel
theorem dX12_init_246 : decode cX12_init 246 = .ok (.newarray .int, 2) := by decide +kernel
theorem dX12_init_248 : decode cX12_init 248 = .ok (.putfield 102, 3) := by decide +kernel
theorem dX12_init_251 : decode cX12_init 251 = .ok (.aload_n 0, 1) := by decide +kernel
theorem dX12_init_252 : decode cX12_init 252 = .ok (.bipush 126, 2) := by decide +kernel
theorem dX12_init_254 : decode cX12_init 254 = .ok (.newarray .int, 2) := by decide +kernel
theorem dX12_init_256 : decode cX12_init 256 = .ok (.putfield 105, 3) := by decide +kernel
theorem dX12_init_259 : decode cX12_init 259 = .ok (.aload_n 0, 1) := by decide +kernel
theorem dX12_init_260 : decode cX12_init 260 = .ok (.bipush 7, 2) := by decide +kernel
theorem dX12_init_262 : decode cX12_init 262 = .ok (.newarray .int, 2) := by decide +kernel
theorem dX12_init_264 : decode cX12_init 264 = .ok (.putfield 108, 3) := by decide +kernel
theorem dX12_init_267 : decode cX12_init 267 = .ok (.aload_n 0, 1) := by decide +kernel
theorem dX12_init_268 : decode cX12_init 268 = .ok (.bipush 7, 2) := by decide +kernel
theorem dX12_init_270 : decode cX12_init 270 = .ok (.newarray .int, 2) := by decide +kernel
theorem dX12_init_272 : decode cX12_init 272 = .ok (.putfield 111, 3) := by decide +kernel
theorem dX12_init_275 : decode cX12_init 275 = .ok (.aload_n 0, 1) := by decide +kernel
theorem dX12_init_276 : decode cX12_init 276 = .ok (.bipush 7, 2) := by decide +kernel
theorem dX12_init_278 : decode cX12_init 278 = .ok (.newarray .int, 2) := by decide +kernel
theorem dX12_init_280 : decode cX12_init 280 = .ok (.putfield 114, 3) := by decide +kernel
theorem dX12_init_283 : decode cX12_init 283 = .ok (.aload_n 0, 1) := by decide +kernel
theorem dX12_init_284 : decode cX12_init 284 = .ok (.bipush 35, 2) := by decide +kernel
theorem dX12_init_286 : decode cX12_init 286 = .ok (.newarray .boolean, 2) := by decide +kernel
theorem dX12_init_288 : decode cX12_init 288 = .ok (.putfield 117, 3) := by decide +kernel
theorem dX12_init_291 : decode cX12_init 291 = .ok (.aload_n 0, 1) := by decide +kernel
theorem dX12_init_292 : decode cX12_init 292 = .ok (.bipush 35, 2) := by decide +kernel
theorem dX12_init_294 : decode cX12_init 294 = .ok (.newarray .int, 2) := by decide +kernel
theorem dX12_init_296 : decode cX12_init 296 = .ok (.putfield 120, 3) := by decide +kernel
theorem dX12_init_299 : decode cX12_init 299 = .ok (.return_, 1) := by decide +kernel
theorem dX12_in_0 : decode cX12_in 0 = .ok (.iload_n 0, 1) := by decide +kernel
theorem dX12_in_1 : decode cX12_in 1 = .ok (.iload_n 1, 1) := by decide +kernel
theorem dX12_in_2 : decode cX12_in 2 = .ok (.if_icmp .lt 12, 3) := by decide +kernel
theorem dX12_in_5 : decode cX12_in 5 = .ok (.iload_n 0, 1) := by decide +kernel
theorem dX12_in_6 : decode cX12_in 6 = .ok (.iload_n 2, 1) := by decide +kernel
theorem dX12_in_7 : decode cX12_in 7 = .ok (.if_icmp .gt 7, 3) := by decide +kernel
theorem dX12_in_10 : decode cX12_in 10 = .ok (.iconst 1, 1) := by decide +kernel
theorem dX12_in_11 : decode cX12_in 11 = .ok (.goto 4, 3) := by decide +kernel
theorem dX12_in_14 : decode cX12_in 14 = .ok (.iconst 0, 1) := by decide +kernel
theorem dX12_in_15 : decode cX12_in 15 = .ok (.ireturn, 1) := by decide +kernel
theorem dX12_isDay_0 : decode cX12_isDay 0 = .ok (.iload_n 0, 1) := by decide +kernel
theorem dX12_isDay_1 : decode cX12_isDay 1 = .ok (.iconst 0, 1) := by decide +kernel
theorem dX12_isDay_2 : decode cX12_isDay 2 = .ok (.sipush 999, 3) := by decide +kernel
theorem dX12_isDay_5 : decode cX12_isDay 5 = .ok (.invokestatic 123, 3) := by decide +kernel
theorem dX12_isDay_8 : decode cX12_isDay 8 = .ok (.ireturn, 1) := by decide +kernel
theorem dX12_clock_0 : decode cX12_clock 0 = .ok (.iload_n 1, 1) := by decide +kernel
theorem dX12_clock_1 : decode cX12_clock 1 = .ok (.aload_n 0, 1) := by decide +kernel
theorem dX12_clock_2 : decode cX12_clock 2 = .ok (.getfield 127, 3) := by decide +kernel
theorem dX12_clock_5 : decode cX12_clock 5 = .ok (.sipush 999, 3) := by decide +kernel
theorem dX12_clock_8 : decode cX12_clock 8 = .ok (.invokestatic 123, 3) := by decide +kernel
theorem dX12_clock_11 : decode cX12_clock 11 = .ok (.ifCond .ne 5, 3) := by decide +kernel
theorem dX12_clock_14 : decode cX12_clock 14 = .ok (.iconst 0, 1) := by decide +kernel
theorem dX12_clock_15 : decode cX12_clock 15 = .ok (.ireturn, 1) := by decide +kernel
theorem dX12_clock_16 : decode cX12_clock 16 = .ok (.aload_n 0, 1) := by decide +kernel
theorem dX12_clock_17 : decode cX12_clock 17 = .ok (.iload_n 1, 1) := by decide +kernel
theorem dX12_clock_18 : decode cX12_clock 18 = .ok (.putfield 127, 3) := by decide +kernel
theorem dX12_clock_21 : decode cX12_clock 21 = .ok (.iconst 1, 1) := by decide +kernel
theorem dX12_clock_22 : decode cX12_clock 22 = .ok (.ireturn, 1) := by decide +kernel
theorem dX12_child_0 : decode cX12_child 0 = .ok (.aload_n 0, 1) := by decide +kernel
theorem dX12_child_1 : decode cX12_child 1 = .ok (.getfield 131, 3) := by decide +kernel
theorem dX12_child_4 : decode cX12_child 4 = .ok (.bipush 7, 2) := by decide +kernel
theorem dX12_child_6 : decode cX12_child 6 = .ok (.if_icmp .eq 12, 3) := by decide +kernel
theorem dX12_child_9 : decode cX12_child 9 = .ok (.iload_n 1, 1) := by decide +kernel
theorem dX12_child_10 : decode cX12_child 10 = .ok (.iconst 0, 1) := by decide +kernel
theorem dX12_child_11 : decode cX12_child 11 = .ok (.iconst 3, 1) := by decide +kernel
theorem dX12_child_12 : decode cX12_child 12 = .ok (.invokestatic 123, 3) := by decide +kernel
theorem dX12_child_15 : decode cX12_child 15 = .ok (.ifCond .ne 5, 3) := by decide +kernel
theorem dX12_child_18 : decode cX12_child 18 = .ok (.iconst (-1), 1) := by decide +kernel
theorem dX12_child_19 : decode cX12_child 19 = .ok (.ireturn, 1) := by decide +kernel
theorem dX12_child_20 : decode cX12_child 20 = .ok (.aload_n 0, 1) := by decide +kernel
theorem dX12_child_21 : decode cX12_child 21 = .ok (.getfield 7, 3) := by decide +kernel
theorem dX12_child_24 : decode cX12_child 24 = .ok (.aload_n 0, 1) := by decide +kernel
theorem dX12_child_25 : decode cX12_child 25 = .ok (.getfield 131, 3) := by decide +kernel
theorem dX12_child_28 : decode cX12_child 28 = .ok (.iload_n 1, 1) := by decide +kernel
theorem dX12_child_29 : decode cX12_child 29 = .ok (.iastore, 1) := by decide +kernel
theorem dX12_child_30 : decode cX12_child 30 = .ok (.aload_n 0, 1) := by decide +kernel
theorem dX12_child_31 : decode cX12_child 31 = .ok (.getfield 108, 3) := by decide +kernel
theorem dX12_child_34 : decode cX12_child 34 = .ok (.aload_n 0, 1) := by decide +kernel
theorem dX12_child_35 : decode cX12_child 35 = .ok (.getfield 131, 3) := by decide +kernel
theorem dX12_child_38 : decode cX12_child 38 = .ok (.iconst (-1), 1) := by decide +kernel
theorem dX12_child_39 : decode cX12_child 39 = .ok (.iastore, 1) := by decide +kernel
theorem dX12_child_40 : decode cX12_child 40 = .ok (.aload_n 0, 1) := by decide +kernel
theorem dX12_child_41 : decode cX12_child 41 = .ok (.dup, 1) := by decide +kernel
theorem dX12_child_42 : decode cX12_child 42 = .ok (.getfield 131, 3) := by decide +kernel
theorem dX12_child_45 : decode cX12_child 45 = .ok (.iconst 1, 1) := by decide +kernel
theorem dX12_child_46 : decode cX12_child 46 = .ok (.iadd, 1) := by decide +kernel
theorem dX12_child_47 : decode cX12_child 47 = .ok (.putfield 131, 3) := by decide +kernel
theorem dX12_child_50 : decode cX12_child 50 = .ok (.aload_n 0, 1) := by decide +kernel
theorem dX12_child_51 : decode cX12_child 51 = .ok (.getfield 131, 3) := by decide +kernel
theorem dX12_child_54 : decode cX12_child 54 = .ok (.iconst 1, 1) := by decide +kernel
theorem dX12_child_55 : decode cX12_child 55 = .ok (.isub, 1) := by decide +kernel
theorem dX12_child_56 : decode cX12_child 56 = .ok (.ireturn, 1) := by decide +kernel
theorem dX12_home_0 : decode cX12_home 0 = .ok (.aload_n 0, 1) := by decide +kernel
theorem dX12_home_1 : decode cX12_home 1 = .ok (.getfield 134, 3) := by decide +kernel
theorem dX12_home_4 : decode cX12_home 4 = .ok (.iconst 5, 1) := by decide +kernel
theorem dX12_home_5 : decode cX12_home 5 = .ok (.if_icmp .eq 13, 3) := by decide +kernel
theorem dX12_home_8 : decode cX12_home 8 = .ok (.iload_n 1, 1) := by decide +kernel
theorem dX12_home_9 : decode cX12_home 9 = .ok (.iconst 1, 1) := by decide +kernel
theorem dX12_home_10 : decode cX12_home 10 = .ok (.bipush 6, 2) := by decide +kernel
theorem dX12_home_12 : decode cX12_home 12 = .ok (.invokestatic 123, 3) := by decide +kernel
theorem dX12_home_15 : decode cX12_home 15 = .ok (.ifCond .ne 5, 3) := by decide +kernel
theorem dX12_home_18 : decode cX12_home 18 = .ok (.iconst (-1), 1) := by decide +kernel
theorem dX12_home_19 : decode cX12_home 19 = .ok (.ireturn, 1) := by decide +kernel
theorem dX12_home_20 : decode cX12_home 20 = .ok (.aload_n 0, 1) := by decide +kernel
theorem dX12_home_21 : decode cX12_home 21 = .ok (.getfield 26, 3) := by decide +kernel
theorem dX12_home_24 : decode cX12_home 24 = .ok (.aload_n 0, 1) := by decide +kernel
theorem dX12_home_25 : decode cX12_home 25 = .ok (.getfield 134, 3) := by decide +kernel
theorem dX12_home_28 : decode cX12_home 28 = .ok (.iload_n 1, 1) := by decide +kernel
theorem dX12_home_29 : decode cX12_home 29 = .ok (.iastore, 1) := by decide +kernel
theorem dX12_home_30 : decode cX12_home 30 = .ok (.aload_n 0, 1) := by decide +kernel
theorem dX12_home_31 : decode cX12_home 31 = .ok (.getfield 29, 3) := by decide +kernel
theorem dX12_home_34 : decode cX12_home 34 = .ok (.aload_n 0, 1) := by decide +kernel
theorem dX12_home_35 : decode cX12_home 35 = .ok (.getfield 134, 3) := by decide +kernel
theorem dX12_home_38 : decode cX12_home 38 = .ok (.iconst (-1), 1) := by decide +kernel
theorem dX12_home_39 : decode cX12_home 39 = .ok (.iastore, 1) := by decide +kernel
theorem dX12_home_40 : decode cX12_home 40 = .ok (.aload_n 0, 1) := by decide +kernel
theorem dX12_home_41 : decode cX12_home 41 = .ok (.dup, 1) := by decide +kernel
theorem dX12_home_42 : decode cX12_home 42 = .ok (.getfield 134, 3) := by decide +kernel
theorem dX12_home_45 : decode cX12_home 45 = .ok (.iconst 1, 1) := by decide +kernel
theorem dX12_home_46 : decode cX12_home 46 = .ok (.iadd, 1) := by decide +kernel
theorem dX12_home_47 : decode cX12_home 47 = .ok (.putfield 134, 3) := by decide +kernel
theorem dX12_home_50 : decode cX12_home 50 = .ok (.aload_n 0, 1) := by decide +kernel
theorem dX12_home_51 : decode cX12_home 51 = .ok (.getfield 134, 3) := by decide +kernel
theorem dX12_home_54 : decode cX12_home 54 = .ok (.iconst 1, 1) := by decide +kernel
theorem dX12_home_55 : decode cX12_home 55 = .ok (.isub, 1) := by decide +kernel
theorem dX12_home_56 : decode cX12_home 56 = .ok (.ireturn, 1) := by decide +kernel
theorem dX12_isChild_0 : decode cX12_isChild 0 = .ok (.iload_n 1, 1) := by decide +kernel
theorem dX12_isChild_1 : decode cX12_isChild 1 = .ok (.iconst 0, 1) := by decide +kernel
theorem dX12_isChild_2 : decode cX12_isChild 2 = .ok (.aload_n 0, 1) := by decide +kernel
theorem dX12_isChild_3 : decode cX12_isChild 3 = .ok (.getfield 131, 3) := by decide +kernel
theorem dX12_isChild_6 : decode cX12_isChild 6 = .ok (.iconst 1, 1) := by decide +kernel
theorem dX12_isChild_7 : decode cX12_isChild 7 = .ok (.isub, 1) := by decide +kernel
theorem dX12_isChild_8 : decode cX12_isChild 8 = .ok (.invokestatic 123, 3) := by decide +kernel
theorem dX12_isChild_11 : decode cX12_isChild 11 = .ok (.ireturn, 1) := by decide +kernel
theorem dX12_isHome_0 : decode cX12_isHome 0 = .ok (.iload_n 1, 1) := by decide +kernel
theorem dX12_isHome_1 : decode cX12_isHome 1 = .ok (.iconst 0, 1) := by decide +kernel
theorem dX12_isHome_2 : decode cX12_isHome 2 = .ok (.aload_n 0, 1) := by decide +kernel
theorem dX12_isHome_3 : decode cX12_isHome 3 = .ok (.getfield 134, 3) := by decide +kernel
theorem dX12_isHome_6 : decode cX12_isHome 6 = .ok (.iconst 1, 1) := by decide +kernel
theorem dX12_isHome_7 : decode cX12_isHome 7 = .ok (.isub, 1) := by decide +kernel
theorem dX12_isHome_8 : decode cX12_isHome 8 = .ok (.invokestatic 123, 3) := by decide +kernel
theorem dX12_isHome_11 : decode cX12_isHome 11 = .ok (.ireturn, 1) := by decide +kernel
theorem dX12_fact_0 : decode cX12_fact 0 = .ok (.aload_n 0, 1) := by decide +kernel
theorem dX12_fact_1 : decode cX12_fact 1 = .ok (.getfield 137, 3) := by decide +kernel
theorem dX12_fact_4 : decode cX12_fact 4 = .ok (.bipush 100, 2) := by decide +kernel
theorem dX12_fact_6 : decode cX12_fact 6 = .ok (.if_icmp .eq 58, 3) := by decide +kernel
theorem dX12_fact_9 : decode cX12_fact 9 = .ok (.iload_n 1, 1) := by decide +kernel
theorem dX12_fact_10 : decode cX12_fact 10 = .ok (.ifCond .eq 14, 3) := by decide +kernel
theorem dX12_fact_13 : decode cX12_fact 13 = .ok (.aload_n 0, 1) := by decide +kernel
theorem dX12_fact_14 : decode cX12_fact 14 = .ok (.iload_n 2, 1) := by decide +kernel
theorem dX12_fact_15 : decode cX12_fact 15 = .ok (.invokevirtual 140, 3) := by decide +kernel
theorem dX12_fact_18 : decode cX12_fact 18 = .ok (.ifCond .eq 46, 3) := by decide +kernel
theorem dX12_fact_21 : decode cX12_fact 21 = .ok (.goto 11, 3) := by decide +kernel
theorem dX12_fact_24 : decode cX12_fact 24 = .ok (.aload_n 0, 1) := by decide +kernel
theorem dX12_fact_25 : decode cX12_fact 25 = .ok (.iload_n 2, 1) := by decide +kernel
theorem dX12_fact_26 : decode cX12_fact 26 = .ok (.invokevirtual 144, 3) := by decide +kernel
theorem dX12_fact_29 : decode cX12_fact 29 = .ok (.ifCond .eq 35, 3) := by decide +kernel
theorem dX12_fact_32 : decode cX12_fact 32 = .ok (.iload_n 3, 1) := by decide +kernel
theorem dX12_fact_33 : decode cX12_fact 33 = .ok (.iconst 0, 1) := by decide +kernel
theorem dX12_fact_34 : decode cX12_fact 34 = .ok (.bipush 7, 2) := by decide +kernel
theorem dX12_fact_36 : decode cX12_fact 36 = .ok (.invokestatic 123, 3) := by decide +kernel
theorem dX12_fact_39 : decode cX12_fact 39 = .ok (.ifCond .eq 25, 3) := by decide +kernel
theorem dX12_fact_42 : decode cX12_fact 42 = .ok (.iload 4, 2) := by decide +kernel
theorem dX12_fact_44 : decode cX12_fact 44 = .ok (.sipush (-999), 3) := by decide +kernel
theorem dX12_fact_47 : decode cX12_fact 47 = .ok (.sipush 9999, 3) := by decide +kernel
theorem dX12_fact_50 : decode cX12_fact 50 = .ok (.invokestatic 123, 3) := by decide +kernel
theorem dX12_fact_53 : decode cX12_fact 53 = .ok (.ifCond .eq 11, 3) := by decide +kernel
theorem dX12_fact_56 : decode cX12_fact 56 = .ok (.iload 5, 2) := by decide +kernel
theorem dX12_fact_58 : decode cX12_fact 58 = .ok (.invokestatic 147, 3) := by decide +kernel
theorem dX12_fact_61 : decode cX12_fact 61 = .ok (.ifCond .ne 5, 3) := by decide +kernel
theorem dX12_fact_64 : decode cX12_fact 64 = .ok (.iconst (-1), 1) := by decide +kernel
theorem dX12_fact_65 : decode cX12_fact 65 = .ok (.ireturn, 1) := by decide +kernel
theorem dX12_fact_66 : decode cX12_fact 66 = .ok (.aload_n 0, 1) := by decide +kernel
theorem dX12_fact_67 : decode cX12_fact 67 = .ok (.getfield 41, 3) := by decide +kernel
theorem dX12_fact_70 : decode cX12_fact 70 = .ok (.aload_n 0, 1) := by decide +kernel
theorem dX12_fact_71 : decode cX12_fact 71 = .ok (.getfield 137, 3) := by decide +kernel
theorem dX12_fact_74 : decode cX12_fact 74 = .ok (.iload_n 2, 1) := by decide +kernel
theorem dX12_fact_75 : decode cX12_fact 75 = .ok (.iload_n 1, 1) := by decide +kernel
theorem dX12_fact_76 : decode cX12_fact 76 = .ok (.ifCond .eq 8, 3) := by decide +kernel
theorem dX12_fact_79 : decode cX12_fact 79 = .ok (.bipush 100, 2) := by decide +kernel
theorem dX12_fact_81 : decode cX12_fact 81 = .ok (.goto 4, 3) := by decide +kernel
theorem dX12_fact_84 : decode cX12_fact 84 = .ok (.iconst 0, 1) := by decide +kernel
theorem dX12_fact_85 : decode cX12_fact 85 = .ok (.iadd, 1) := by decide +kernel
theorem dX12_fact_86 : decode cX12_fact 86 = .ok (.iastore, 1) := by decide +kernel
theorem dX12_fact_87 : decode cX12_fact 87 = .ok (.aload_n 0, 1) := by decide +kernel
theorem dX12_fact_88 : decode cX12_fact 88 = .ok (.getfield 44, 3) := by decide +kernel
theorem dX12_fact_91 : decode cX12_fact 91 = .ok (.aload_n 0, 1) := by decide +kernel
theorem dX12_fact_92 : decode cX12_fact 92 = .ok (.getfield 137, 3) := by decide +kernel
theorem dX12_fact_95 : decode cX12_fact 95 = .ok (.iload_n 3, 1) := by decide +kernel
theorem dX12_fact_96 : decode cX12_fact 96 = .ok (.iastore, 1) := by decide +kernel
theorem dX12_fact_97 : decode cX12_fact 97 = .ok (.aload_n 0, 1) := by decide +kernel
theorem dX12_fact_98 : decode cX12_fact 98 = .ok (.getfield 47, 3) := by decide +kernel
theorem dX12_fact_101 : decode cX12_fact 101 = .ok (.aload_n 0, 1) := by decide +kernel
theorem dX12_fact_102 : decode cX12_fact 102 = .ok (.getfield 137, 3) := by decide +kernel
theorem dX12_fact_105 : decode cX12_fact 105 = .ok (.iload 4, 2) := by decide +kernel
theorem dX12_fact_107 : decode cX12_fact 107 = .ok (.iastore, 1) := by decide +kernel
theorem dX12_fact_108 : decode cX12_fact 108 = .ok (.aload_n 0, 1) := by decide +kernel
theorem dX12_fact_109 : decode cX12_fact 109 = .ok (.getfield 50, 3) := by decide +kernel
theorem dX12_fact_112 : decode cX12_fact 112 = .ok (.aload_n 0, 1) := by decide +kernel
theorem dX12_fact_113 : decode cX12_fact 113 = .ok (.getfield 137, 3) := by decide +kernel
theorem dX12_fact_116 : decode cX12_fact 116 = .ok (.iload 5, 2) := by decide +kernel
theorem dX12_fact_118 : decode cX12_fact 118 = .ok (.iastore, 1) := by decide +kernel
theorem dX12_fact_119 : decode cX12_fact 119 = .ok (.aload_n 0, 1) := by decide +kernel
theorem dX12_fact_120 : decode cX12_fact 120 = .ok (.getfield 53, 3) := by decide +kernel
theorem dX12_fact_123 : decode cX12_fact 123 = .ok (.aload_n 0, 1) := by decide +kernel
theorem dX12_fact_124 : decode cX12_fact 124 = .ok (.getfield 137, 3) := by decide +kernel
theorem dX12_fact_127 : decode cX12_fact 127 = .ok (.aload_n 0, 1) := by decide +kernel
theorem dX12_fact_128 : decode cX12_fact 128 = .ok (.getfield 127, 3) := by decide +kernel
theorem dX12_fact_131 : decode cX12_fact 131 = .ok (.iastore, 1) := by decide +kernel
theorem dX12_fact_132 : decode cX12_fact 132 = .ok (.aload_n 0, 1) := by decide +kernel
theorem dX12_fact_133 : decode cX12_fact 133 = .ok (.dup, 1) := by decide +kernel
theorem dX12_fact_134 : decode cX12_fact 134 = .ok (.getfield 137, 3) := by decide +kernel
theorem dX12_fact_137 : decode cX12_fact 137 = .ok (.iconst 1, 1) := by decide +kernel
theorem dX12_fact_138 : decode cX12_fact 138 = .ok (.iadd, 1) := by decide +kernel
theorem dX12_fact_139 : decode cX12_fact 139 = .ok (.putfield 137, 3) := by decide +kernel
theorem dX12_fact_142 : decode cX12_fact 142 = .ok (.aload_n 0, 1) := by decide +kernel
theorem dX12_fact_143 : decode cX12_fact 143 = .ok (.getfield 137, 3) := by decide +kernel
theorem dX12_fact_146 : decode cX12_fact 146 = .ok (.ireturn, 1) := by decide +kernel
theorem dX12_valueOf_0 : decode cX12_valueOf 0 = .ok (.iconst (-1), 1) := by decide +kernel
theorem dX12_valueOf_1 : decode cX12_valueOf 1 = .ok (.istore 5, 2) := by decide +kernel
theorem dX12_valueOf_3 : decode cX12_valueOf 3 = .ok (.iconst 0, 1) := by decide +kernel
theorem dX12_valueOf_4 : decode cX12_valueOf 4 = .ok (.istore 6, 2) := by decide +kernel
theorem dX12_valueOf_6 : decode cX12_valueOf 6 = .ok (.iload 6, 2) := by decide +kernel
theorem dX12_valueOf_8 : decode cX12_valueOf 8 = .ok (.aload_n 0, 1) := by decide +kernel
theorem dX12_valueOf_9 : decode cX12_valueOf 9 = .ok (.getfield 137, 3) := by decide +kernel
theorem dX12_valueOf_12 : decode cX12_valueOf 12 = .ok (.if_icmp .ge 83, 3) := by decide +kernel
theorem dX12_valueOf_15 : decode cX12_valueOf 15 = .ok (.aload_n 0, 1) := by decide +kernel
theorem dX12_valueOf_16 : decode cX12_valueOf 16 = .ok (.getfield 41, 3) := by decide +kernel
theorem dX12_valueOf_19 : decode cX12_valueOf 19 = .ok (.iload 6, 2) := by decide +kernel
theorem dX12_valueOf_21 : decode cX12_valueOf 21 = .ok (.iaload, 1) := by decide +kernel
theorem dX12_valueOf_22 : decode cX12_valueOf 22 = .ok (.iload_n 1, 1) := by decide +kernel
theorem dX12_valueOf_23 : decode cX12_valueOf 23 = .ok (.if_icmp .ne 66, 3) := by decide +kernel
theorem dX12_valueOf_26 : decode cX12_valueOf 26 = .ok (.aload_n 0, 1) := by decide +kernel
theorem dX12_valueOf_27 : decode cX12_valueOf 27 = .ok (.getfield 44, 3) := by decide +kernel
theorem dX12_valueOf_30 : decode cX12_valueOf 30 = .ok (.iload 6, 2) := by decide +kernel
theorem dX12_valueOf_32 : decode cX12_valueOf 32 = .ok (.iaload, 1) := by decide +kernel
theorem dX12_valueOf_33 : decode cX12_valueOf 33 = .ok (.iload_n 2, 1) := by decide +kernel
theorem dX12_valueOf_34 : decode cX12_valueOf 34 = .ok (.if_icmp .ne 55, 3) := by decide +kernel
theorem dX12_valueOf_37 : decode cX12_valueOf 37 = .ok (.aload_n 0, 1) := by decide +kernel
theorem dX12_valueOf_38 : decode cX12_valueOf 38 = .ok (.getfield 50, 3) := by decide +kernel
theorem dX12_valueOf_41 : decode cX12_valueOf 41 = .ok (.iload 6, 2) := by decide +kernel
theorem dX12_valueOf_43 : decode cX12_valueOf 43 = .ok (.iaload, 1) := by decide +kernel
theorem dX12_valueOf_44 : decode cX12_valueOf 44 = .ok (.iload_n 3, 1) := by decide +kernel
theorem dX12_valueOf_45 : decode cX12_valueOf 45 = .ok (.if_icmp .gt 44, 3) := by decide +kernel
theorem dX12_valueOf_48 : decode cX12_valueOf 48 = .ok (.aload_n 0, 1) := by decide +kernel
theorem dX12_valueOf_49 : decode cX12_valueOf 49 = .ok (.getfield 53, 3) := by decide +kernel
theorem dX12_valueOf_52 : decode cX12_valueOf 52 = .ok (.iload 6, 2) := by decide +kernel
theorem dX12_valueOf_54 : decode cX12_valueOf 54 = .ok (.iaload, 1) := by decide +kernel
theorem dX12_valueOf_55 : decode cX12_valueOf 55 = .ok (.iload 4, 2) := by decide +kernel
theorem dX12_valueOf_57 : decode cX12_valueOf 57 = .ok (.if_icmp .le 6, 3) := by decide +kernel
theorem dX12_valueOf_60 : decode cX12_valueOf 60 = .ok (.goto 29, 3) := by decide +kernel
theorem dX12_valueOf_63 : decode cX12_valueOf 63 = .ok (.iload 5, 2) := by decide +kernel
theorem dX12_valueOf_65 : decode cX12_valueOf 65 = .ok (.ifCond .lt 20, 3) := by decide +kernel
theorem dX12_valueOf_68 : decode cX12_valueOf 68 = .ok (.aload_n 0, 1) := by decide +kernel
theorem dX12_valueOf_69 : decode cX12_valueOf 69 = .ok (.getfield 50, 3) := by decide +kernel
theorem dX12_valueOf_72 : decode cX12_valueOf 72 = .ok (.iload 6, 2) := by decide +kernel
theorem dX12_valueOf_74 : decode cX12_valueOf 74 = .ok (.iaload, 1) := by decide +kernel
theorem dX12_valueOf_75 : decode cX12_valueOf 75 = .ok (.aload_n 0, 1) := by decide +kernel
theorem dX12_valueOf_76 : decode cX12_valueOf 76 = .ok (.getfield 50, 3) := by decide +kernel
theorem dX12_valueOf_79 : decode cX12_valueOf 79 = .ok (.iload 5, 2) := by decide +kernel
theorem dX12_valueOf_81 : decode cX12_valueOf 81 = .ok (.iaload, 1) := by decide +kernel
theorem dX12_valueOf_82 : decode cX12_valueOf 82 = .ok (.if_icmp .lt 7, 3) := by decide +kernel
theorem dX12_valueOf_85 : decode cX12_valueOf 85 = .ok (.iload 6, 2) := by decide +kernel
theorem dX12_valueOf_87 : decode cX12_valueOf 87 = .ok (.istore 5, 2) := by decide +kernel
theorem dX12_valueOf_89 : decode cX12_valueOf 89 = .ok (.iinc 6 1, 3) := by decide +kernel
theorem dX12_valueOf_92 : decode cX12_valueOf 92 = .ok (.goto (-86), 3) := by decide +kernel
theorem dX12_valueOf_95 : decode cX12_valueOf 95 = .ok (.iload 5, 2) := by decide +kernel
theorem dX12_valueOf_97 : decode cX12_valueOf 97 = .ok (.ifCond .ge 7, 3) := by decide +kernel
theorem dX12_valueOf_100 : decode cX12_valueOf 100 = .ok (.iconst 0, 1) := by decide +kernel
theorem dX12_valueOf_101 : decode cX12_valueOf 101 = .ok (.goto 10, 3) := by decide +kernel
theorem dX12_valueOf_104 : decode cX12_valueOf 104 = .ok (.aload_n 0, 1) := by decide +kernel
theorem dX12_valueOf_105 : decode cX12_valueOf 105 = .ok (.getfield 47, 3) := by decide +kernel
theorem dX12_valueOf_108 : decode cX12_valueOf 108 = .ok (.iload 5, 2) := by decide +kernel
theorem dX12_valueOf_110 : decode cX12_valueOf 110 = .ok (.iaload, 1) := by decide +kernel
theorem dX12_valueOf_111 : decode cX12_valueOf 111 = .ok (.ireturn, 1) := by decide +kernel
theorem dX12_value_0 : decode cX12_value 0 = .ok (.iload_n 1, 1) := by decide +kernel
theorem dX12_value_1 : decode cX12_value 1 = .ok (.ifCond .eq 14, 3) := by decide +kernel
theorem dX12_value_4 : decode cX12_value 4 = .ok (.aload_n 0, 1) := by decide +kernel
theorem dX12_value_5 : decode cX12_value 5 = .ok (.iload_n 2, 1) := by decide +kernel
theorem dX12_value_6 : decode cX12_value 6 = .ok (.invokevirtual 140, 3) := by decide +kernel
theorem dX12_value_9 : decode cX12_value 9 = .ok (.ifCond .eq 40, 3) := by decide +kernel
theorem dX12_value_12 : decode cX12_value 12 = .ok (.goto 11, 3) := by decide +kernel
theorem dX12_value_15 : decode cX12_value 15 = .ok (.aload_n 0, 1) := by decide +kernel
theorem dX12_value_16 : decode cX12_value 16 = .ok (.iload_n 2, 1) := by decide +kernel
theorem dX12_value_17 : decode cX12_value 17 = .ok (.invokevirtual 144, 3) := by decide +kernel
theorem dX12_value_20 : decode cX12_value 20 = .ok (.ifCond .eq 29, 3) := by decide +kernel
theorem dX12_value_23 : decode cX12_value 23 = .ok (.iload_n 3, 1) := by decide +kernel
theorem dX12_value_24 : decode cX12_value 24 = .ok (.iconst 0, 1) := by decide +kernel
theorem dX12_value_25 : decode cX12_value 25 = .ok (.bipush 7, 2) := by decide +kernel
theorem dX12_value_27 : decode cX12_value 27 = .ok (.invokestatic 123, 3) := by decide +kernel
theorem dX12_value_30 : decode cX12_value 30 = .ok (.ifCond .eq 19, 3) := by decide +kernel
theorem dX12_value_33 : decode cX12_value 33 = .ok (.iload 4, 2) := by decide +kernel
theorem dX12_value_35 : decode cX12_value 35 = .ok (.invokestatic 147, 3) := by decide +kernel
theorem dX12_value_38 : decode cX12_value 38 = .ok (.ifCond .eq 11, 3) := by decide +kernel
theorem dX12_value_41 : decode cX12_value 41 = .ok (.iload 5, 2) := by decide +kernel
theorem dX12_value_43 : decode cX12_value 43 = .ok (.invokestatic 147, 3) := by decide +kernel
theorem dX12_value_46 : decode cX12_value 46 = .ok (.ifCond .ne 7, 3) := by decide +kernel
theorem dX12_value_49 : decode cX12_value 49 = .ok (.sipush (-1000), 3) := by decide +kernel
theorem dX12_value_52 : decode cX12_value 52 = .ok (.ireturn, 1) := by decide +kernel
theorem dX12_value_53 : decode cX12_value 53 = .ok (.aload_n 0, 1) := by decide +kernel
theorem dX12_value_54 : decode cX12_value 54 = .ok (.iload_n 2, 1) := by decide +kernel
theorem dX12_value_55 : decode cX12_value 55 = .ok (.iload_n 1, 1) := by decide +kernel
theorem dX12_value_56 : decode cX12_value 56 = .ok (.ifCond .eq 8, 3) := by decide +kernel
theorem dX12_value_59 : decode cX12_value 59 = .ok (.bipush 100, 2) := by decide +kernel
theorem dX12_value_61 : decode cX12_value 61 = .ok (.goto 4, 3) := by decide +kernel
theorem dX12_value_64 : decode cX12_value 64 = .ok (.iconst 0, 1) := by decide +kernel
theorem dX12_value_65 : decode cX12_value 65 = .ok (.iadd, 1) := by decide +kernel
theorem dX12_value_66 : decode cX12_value 66 = .ok (.iload_n 3, 1) := by decide +kernel
theorem dX12_value_67 : decode cX12_value 67 = .ok (.iload 4, 2) := by decide +kernel
theorem dX12_value_69 : decode cX12_value 69 = .ok (.iload 5, 2) := by decide +kernel
theorem dX12_value_71 : decode cX12_value 71 = .ok (.invokevirtual 150, 3) := by decide +kernel
theorem dX12_value_74 : decode cX12_value 74 = .ok (.ireturn, 1) := by decide +kernel
theorem dX12_paper_0 : decode cX12_paper 0 = .ok (.aload_n 0, 1) := by decide +kernel
theorem dX12_paper_1 : decode cX12_paper 1 = .ok (.getfield 154, 3) := by decide +kernel
theorem dX12_paper_4 : decode cX12_paper 4 = .ok (.bipush 30, 2) := by decide +kernel
theorem dX12_paper_6 : decode cX12_paper 6 = .ok (.if_icmp .eq 29, 3) := by decide +kernel
theorem dX12_paper_9 : decode cX12_paper 9 = .ok (.aload_n 0, 1) := by decide +kernel
theorem dX12_paper_10 : decode cX12_paper 10 = .ok (.iload_n 1, 1) := by decide +kernel
theorem dX12_paper_11 : decode cX12_paper 11 = .ok (.invokevirtual 140, 3) := by decide +kernel
theorem dX12_paper_14 : decode cX12_paper 14 = .ok (.ifCond .eq 21, 3) := by decide +kernel
theorem dX12_paper_17 : decode cX12_paper 17 = .ok (.iload_n 2, 1) := by decide +kernel
theorem dX12_paper_18 : decode cX12_paper 18 = .ok (.invokestatic 147, 3) := by decide +kernel
theorem dX12_paper_21 : decode cX12_paper 21 = .ok (.ifCond .eq 14, 3) := by decide +kernel
theorem dX12_paper_24 : decode cX12_paper 24 = .ok (.iload_n 3, 1) := by decide +kernel
theorem dX12_paper_25 : decode cX12_paper 25 = .ok (.iload_n 2, 1) := by decide +kernel
theorem dX12_paper_26 : decode cX12_paper 26 = .ok (.sipush 999, 3) := by decide +kernel
theorem dX12_paper_29 : decode cX12_paper 29 = .ok (.invokestatic 123, 3) := by decide +kernel
theorem dX12_paper_32 : decode cX12_paper 32 = .ok (.ifCond .ne 5, 3) := by decide +kernel
theorem dX12_paper_35 : decode cX12_paper 35 = .ok (.iconst (-1), 1) := by decide +kernel
theorem dX12_paper_36 : decode cX12_paper 36 = .ok (.ireturn, 1) := by decide +kernel
theorem dX12_paper_37 : decode cX12_paper 37 = .ok (.aload_n 0, 1) := by decide +kernel
theorem dX12_paper_38 : decode cX12_paper 38 = .ok (.getfield 32, 3) := by decide +kernel
theorem dX12_paper_41 : decode cX12_paper 41 = .ok (.aload_n 0, 1) := by decide +kernel
theorem dX12_paper_42 : decode cX12_paper 42 = .ok (.getfield 154, 3) := by decide +kernel
theorem dX12_paper_45 : decode cX12_paper 45 = .ok (.iload_n 1, 1) := by decide +kernel
theorem dX12_paper_46 : decode cX12_paper 46 = .ok (.iastore, 1) := by decide +kernel
theorem dX12_paper_47 : decode cX12_paper 47 = .ok (.aload_n 0, 1) := by decide +kernel
theorem dX12_paper_48 : decode cX12_paper 48 = .ok (.getfield 35, 3) := by decide +kernel
theorem dX12_paper_51 : decode cX12_paper 51 = .ok (.aload_n 0, 1) := by decide +kernel
theorem dX12_paper_52 : decode cX12_paper 52 = .ok (.getfield 154, 3) := by decide +kernel
theorem dX12_paper_55 : decode cX12_paper 55 = .ok (.iload_n 2, 1) := by decide +kernel
theorem dX12_paper_56 : decode cX12_paper 56 = .ok (.iastore, 1) := by decide +kernel
theorem dX12_paper_57 : decode cX12_paper 57 = .ok (.aload_n 0, 1) := by decide +kernel
theorem dX12_paper_58 : decode cX12_paper 58 = .ok (.getfield 38, 3) := by decide +kernel
theorem dX12_paper_61 : decode cX12_paper 61 = .ok (.aload_n 0, 1) := by decide +kernel
theorem dX12_paper_62 : decode cX12_paper 62 = .ok (.getfield 154, 3) := by decide +kernel
theorem dX12_paper_65 : decode cX12_paper 65 = .ok (.iload_n 3, 1) := by decide +kernel
theorem dX12_paper_66 : decode cX12_paper 66 = .ok (.iastore, 1) := by decide +kernel
theorem dX12_paper_67 : decode cX12_paper 67 = .ok (.aload_n 0, 1) := by decide +kernel
theorem dX12_paper_68 : decode cX12_paper 68 = .ok (.dup, 1) := by decide +kernel
theorem dX12_paper_69 : decode cX12_paper 69 = .ok (.getfield 154, 3) := by decide +kernel
theorem dX12_paper_72 : decode cX12_paper 72 = .ok (.iconst 1, 1) := by decide +kernel
theorem dX12_paper_73 : decode cX12_paper 73 = .ok (.iadd, 1) := by decide +kernel
theorem dX12_paper_74 : decode cX12_paper 74 = .ok (.putfield 154, 3) := by decide +kernel
theorem dX12_paper_77 : decode cX12_paper 77 = .ok (.aload_n 0, 1) := by decide +kernel
theorem dX12_paper_78 : decode cX12_paper 78 = .ok (.getfield 154, 3) := by decide +kernel
theorem dX12_paper_81 : decode cX12_paper 81 = .ok (.iconst 1, 1) := by decide +kernel
theorem dX12_paper_82 : decode cX12_paper 82 = .ok (.isub, 1) := by decide +kernel
theorem dX12_paper_83 : decode cX12_paper 83 = .ok (.ireturn, 1) := by decide +kernel
theorem dX12_until_0 : decode cX12_until 0 = .ok (.iconst (-1), 1) := by decide +kernel
theorem dX12_until_1 : decode cX12_until 1 = .ok (.istore_n 3, 1) := by decide +kernel
theorem dX12_until_2 : decode cX12_until 2 = .ok (.aload_n 0, 1) := by decide +kernel
theorem dX12_until_3 : decode cX12_until 3 = .ok (.iload_n 1, 1) := by decide +kernel
theorem dX12_until_4 : decode cX12_until 4 = .ok (.invokevirtual 140, 3) := by decide +kernel
theorem dX12_until_7 : decode cX12_until 7 = .ok (.ifCond .eq 10, 3) := by decide +kernel
theorem dX12_until_10 : decode cX12_until 10 = .ok (.iload_n 2, 1) := by decide +kernel
theorem dX12_until_11 : decode cX12_until 11 = .ok (.invokestatic 147, 3) := by decide +kernel
theorem dX12_until_14 : decode cX12_until 14 = .ok (.ifCond .ne 5, 3) := by decide +kernel
theorem dX12_until_17 : decode cX12_until 17 = .ok (.iload_n 3, 1) := by decide +kernel
theorem dX12_until_18 : decode cX12_until 18 = .ok (.ireturn, 1) := by decide +kernel
theorem dX12_until_19 : decode cX12_until 19 = .ok (.iconst 0, 1) := by decide +kernel
theorem dX12_until_20 : decode cX12_until 20 = .ok (.istore 4, 2) := by decide +kernel
theorem dX12_until_22 : decode cX12_until 22 = .ok (.iload 4, 2) := by decide +kernel
theorem dX12_until_24 : decode cX12_until 24 = .ok (.aload_n 0, 1) := by decide +kernel
theorem dX12_until_25 : decode cX12_until 25 = .ok (.getfield 154, 3) := by decide +kernel
theorem dX12_until_28 : decode cX12_until 28 = .ok (.if_icmp .ge 61, 3) := by decide +kernel
theorem dX12_until_31 : decode cX12_until 31 = .ok (.aload_n 0, 1) := by decide +kernel
theorem dX12_until_32 : decode cX12_until 32 = .ok (.getfield 32, 3) := by decide +kernel
theorem dX12_until_35 : decode cX12_until 35 = .ok (.iload 4, 2) := by decide +kernel
theorem dX12_until_37 : decode cX12_until 37 = .ok (.iaload, 1) := by decide +kernel
theorem dX12_until_38 : decode cX12_until 38 = .ok (.iload_n 1, 1) := by decide +kernel
theorem dX12_until_39 : decode cX12_until 39 = .ok (.if_icmp .ne 44, 3) := by decide +kernel
theorem dX12_until_42 : decode cX12_until 42 = .ok (.aload_n 0, 1) := by decide +kernel
theorem dX12_until_43 : decode cX12_until 43 = .ok (.getfield 35, 3) := by decide +kernel
theorem dX12_until_46 : decode cX12_until 46 = .ok (.iload 4, 2) := by decide +kernel
theorem dX12_until_48 : decode cX12_until 48 = .ok (.iaload, 1) := by decide +kernel
theorem dX12_until_49 : decode cX12_until 49 = .ok (.iload_n 2, 1) := by decide +kernel
theorem dX12_until_50 : decode cX12_until 50 = .ok (.if_icmp .gt 33, 3) := by decide +kernel
theorem dX12_until_53 : decode cX12_until 53 = .ok (.aload_n 0, 1) := by decide +kernel
theorem dX12_until_54 : decode cX12_until 54 = .ok (.getfield 38, 3) := by decide +kernel
theorem dX12_until_57 : decode cX12_until 57 = .ok (.iload 4, 2) := by decide +kernel
theorem dX12_until_59 : decode cX12_until 59 = .ok (.iaload, 1) := by decide +kernel
theorem dX12_until_60 : decode cX12_until 60 = .ok (.iload_n 2, 1) := by decide +kernel
theorem dX12_until_61 : decode cX12_until 61 = .ok (.if_icmp .lt 22, 3) := by decide +kernel
theorem dX12_until_64 : decode cX12_until 64 = .ok (.aload_n 0, 1) := by decide +kernel
theorem dX12_until_65 : decode cX12_until 65 = .ok (.getfield 38, 3) := by decide +kernel
theorem dX12_until_68 : decode cX12_until 68 = .ok (.iload 4, 2) := by decide +kernel
theorem dX12_until_70 : decode cX12_until 70 = .ok (.iaload, 1) := by decide +kernel
theorem dX12_until_71 : decode cX12_until 71 = .ok (.iload_n 3, 1) := by decide +kernel
theorem dX12_until_72 : decode cX12_until 72 = .ok (.if_icmp .le 11, 3) := by decide +kernel
theorem dX12_until_75 : decode cX12_until 75 = .ok (.aload_n 0, 1) := by decide +kernel
theorem dX12_until_76 : decode cX12_until 76 = .ok (.getfield 38, 3) := by decide +kernel
theorem dX12_until_79 : decode cX12_until 79 = .ok (.iload 4, 2) := by decide +kernel
theorem dX12_until_81 : decode cX12_until 81 = .ok (.iaload, 1) := by decide +kernel
theorem dX12_until_82 : decode cX12_until 82 = .ok (.istore_n 3, 1) := by decide +kernel
theorem dX12_until_83 : decode cX12_until 83 = .ok (.iinc 4 1, 3) := by decide +kernel
theorem dX12_until_86 : decode cX12_until 86 = .ok (.goto (-64), 3) := by decide +kernel
theorem dX12_until_89 : decode cX12_until 89 = .ok (.iload_n 3, 1) := by decide +kernel
theorem dX12_until_90 : decode cX12_until 90 = .ok (.ireturn, 1) := by decide +kernel
theorem dX12_close_0 : decode cX12_close 0 = .ok (.aload_n 0, 1) := by decide +kernel
theorem dX12_close_1 : decode cX12_close 1 = .ok (.iload_n 1, 1) := by decide +kernel
theorem dX12_close_2 : decode cX12_close 2 = .ok (.invokevirtual 140, 3) := by decide +kernel
theorem dX12_close_5 : decode cX12_close 5 = .ok (.ifCond .eq 15, 3) := by decide +kernel
theorem dX12_close_8 : decode cX12_close 8 = .ok (.iload_n 2, 1) := by decide +kernel
theorem dX12_close_9 : decode cX12_close 9 = .ok (.iconst (-1), 1) := by decide +kernel
theorem dX12_close_10 : decode cX12_close 10 = .ok (.if_icmp .eq 12, 3) := by decide +kernel
theorem dX12_close_13 : decode cX12_close 13 = .ok (.iload_n 2, 1) := by decide +kernel
theorem dX12_close_14 : decode cX12_close 14 = .ok (.invokestatic 147, 3) := by decide +kernel
theorem dX12_close_17 : decode cX12_close 17 = .ok (.ifCond .ne 5, 3) := by decide +kernel
theorem dX12_close_20 : decode cX12_close 20 = .ok (.iconst 0, 1) := by decide +kernel
theorem dX12_close_21 : decode cX12_close 21 = .ok (.ireturn, 1) := by decide +kernel
theorem dX12_close_22 : decode cX12_close 22 = .ok (.aload_n 0, 1) := by decide +kernel
theorem dX12_close_23 : decode cX12_close 23 = .ok (.getfield 29, 3) := by decide +kernel
theorem dX12_close_26 : decode cX12_close 26 = .ok (.iload_n 1, 1) := by decide +kernel
theorem dX12_close_27 : decode cX12_close 27 = .ok (.iload_n 2, 1) := by decide +kernel
theorem dX12_close_28 : decode cX12_close 28 = .ok (.iastore, 1) := by decide +kernel
theorem dX12_close_29 : decode cX12_close 29 = .ok (.iconst 1, 1) := by decide +kernel
theorem dX12_close_30 : decode cX12_close 30 = .ok (.ireturn, 1) := by decide +kernel
theorem dX12_need_0 : decode cX12_need 0 = .ok (.aload_n 0, 1) := by decide +kernel
theorem dX12_need_1 : decode cX12_need 1 = .ok (.iload_n 1, 1) := by decide +kernel
theorem dX12_need_2 : decode cX12_need 2 = .ok (.invokevirtual 144, 3) := by decide +kernel
theorem dX12_need_5 : decode cX12_need 5 = .ok (.ifCond .eq 29, 3) := by decide +kernel
theorem dX12_need_8 : decode cX12_need 8 = .ok (.iload_n 2, 1) := by decide +kernel
theorem dX12_need_9 : decode cX12_need 9 = .ok (.invokestatic 147, 3) := by decide +kernel
theorem dX12_need_12 : decode cX12_need 12 = .ok (.ifCond .eq 22, 3) := by decide +kernel
theorem dX12_need_15 : decode cX12_need 15 = .ok (.iload_n 3, 1) := by decide +kernel
theorem dX12_need_16 : decode cX12_need 16 = .ok (.iload_n 2, 1) := by decide +kernel
theorem dX12_need_17 : decode cX12_need 17 = .ok (.sipush 999, 3) := by decide +kernel
theorem dX12_need_20 : decode cX12_need 20 = .ok (.invokestatic 123, 3) := by decide +kernel
theorem dX12_need_23 : decode cX12_need 23 = .ok (.ifCond .eq 11, 3) := by decide +kernel
theorem dX12_need_26 : decode cX12_need 26 = .ok (.iload_n 3, 1) := by decide +kernel
theorem dX12_need_27 : decode cX12_need 27 = .ok (.iload_n 2, 1) := by decide +kernel
theorem dX12_need_28 : decode cX12_need 28 = .ok (.isub, 1) := by decide +kernel
theorem dX12_need_29 : decode cX12_need 29 = .ok (.bipush 59, 2) := by decide +kernel
theorem dX12_need_31 : decode cX12_need 31 = .ok (.if_icmp .le 5, 3) := by decide +kernel
theorem dX12_need_34 : decode cX12_need 34 = .ok (.iconst 0, 1) := by decide +kernel
theorem dX12_need_35 : decode cX12_need 35 = .ok (.ireturn, 1) := by decide +kernel
theorem dX12_need_36 : decode cX12_need 36 = .ok (.aload_n 0, 1) := by decide +kernel
theorem dX12_need_37 : decode cX12_need 37 = .ok (.getfield 13, 3) := by decide +kernel
theorem dX12_need_40 : decode cX12_need 40 = .ok (.iload_n 1, 1) := by decide +kernel
theorem dX12_need_41 : decode cX12_need 41 = .ok (.iconst 1, 1) := by decide +kernel
theorem dX12_need_42 : decode cX12_need 42 = .ok (.bastore, 1) := by decide +kernel
theorem dX12_need_43 : decode cX12_need 43 = .ok (.aload_n 0, 1) := by decide +kernel
theorem dX12_need_44 : decode cX12_need 44 = .ok (.getfield 17, 3) := by decide +kernel
theorem dX12_need_47 : decode cX12_need 47 = .ok (.iload_n 1, 1) := by decide +kernel
theorem dX12_need_48 : decode cX12_need 48 = .ok (.iload_n 2, 1) := by decide +kernel
theorem dX12_need_49 : decode cX12_need 49 = .ok (.iastore, 1) := by decide +kernel
theorem dX12_need_50 : decode cX12_need 50 = .ok (.aload_n 0, 1) := by decide +kernel
theorem dX12_need_51 : decode cX12_need 51 = .ok (.getfield 20, 3) := by decide +kernel
theorem dX12_need_54 : decode cX12_need 54 = .ok (.iload_n 1, 1) := by decide +kernel
theorem dX12_need_55 : decode cX12_need 55 = .ok (.iload_n 3, 1) := by decide +kernel
theorem dX12_need_56 : decode cX12_need 56 = .ok (.iastore, 1) := by decide +kernel
theorem dX12_need_57 : decode cX12_need 57 = .ok (.aload_n 0, 1) := by decide +kernel
theorem dX12_need_58 : decode cX12_need 58 = .ok (.getfield 23, 3) := by decide +kernel
theorem dX12_need_61 : decode cX12_need 61 = .ok (.iload_n 1, 1) := by decide +kernel
theorem dX12_need_62 : decode cX12_need 62 = .ok (.iload 4, 2) := by decide +kernel
theorem dX12_need_64 : decode cX12_need 64 = .ok (.bastore, 1) := by decide +kernel
theorem dX12_need_65 : decode cX12_need 65 = .ok (.iconst 1, 1) := by decide +kernel
theorem dX12_need_66 : decode cX12_need 66 = .ok (.ireturn, 1) := by decide +kernel
theorem dX12_ends_0 : decode cX12_ends 0 = .ok (.aload_n 0, 1) := by decide +kernel
theorem dX12_ends_1 : decode cX12_ends 1 = .ok (.iload_n 1, 1) := by decide +kernel
theorem dX12_ends_2 : decode cX12_ends 2 = .ok (.invokevirtual 144, 3) := by decide +kernel
theorem dX12_ends_5 : decode cX12_ends 5 = .ok (.ifCond .eq 12, 3) := by decide +kernel
theorem dX12_ends_8 : decode cX12_ends 8 = .ok (.aload_n 0, 1) := by decide +kernel
theorem dX12_ends_9 : decode cX12_ends 9 = .ok (.getfield 13, 3) := by decide +kernel
theorem dX12_ends_12 : decode cX12_ends 12 = .ok (.iload_n 1, 1) := by decide +kernel
theorem dX12_ends_13 : decode cX12_ends 13 = .ok (.baload, 1) := by decide +kernel
theorem dX12_ends_14 : decode cX12_ends 14 = .ok (.ifCond .ne 5, 3) := by decide +kernel
theorem dX12_ends_17 : decode cX12_ends 17 = .ok (.iconst 0, 1) := by decide +kernel
theorem dX12_ends_18 : decode cX12_ends 18 = .ok (.ireturn, 1) := by decide +kernel
theorem dX12_ends_19 : decode cX12_ends 19 = .ok (.aload_n 0, 1) := by decide +kernel
theorem dX12_ends_20 : decode cX12_ends 20 = .ok (.getfield 13, 3) := by decide +kernel
theorem dX12_ends_23 : decode cX12_ends 23 = .ok (.iload_n 1, 1) := by decide +kernel
theorem dX12_ends_24 : decode cX12_ends 24 = .ok (.iconst 0, 1) := by decide +kernel
theorem dX12_ends_25 : decode cX12_ends 25 = .ok (.bastore, 1) := by decide +kernel
theorem dX12_ends_26 : decode cX12_ends 26 = .ok (.iconst 1, 1) := by decide +kernel
theorem dX12_ends_27 : decode cX12_ends 27 = .ok (.ireturn, 1) := by decide +kernel
theorem dX12_four_0 : decode cX12_four 0 = .ok (.bipush 24, 2) := by decide +kernel
theorem dX12_four_2 : decode cX12_four 2 = .ok (.istore_n 2, 1) := by decide +kernel
theorem dX12_four_3 : decode cX12_four 3 = .ok (.iload_n 2, 1) := by decide +kernel
theorem dX12_four_4 : decode cX12_four 4 = .ok (.ifCond .lt 32, 3) := by decide +kernel
theorem dX12_four_7 : decode cX12_four 7 = .ok (.aload_n 0, 1) := by decide +kernel
theorem dX12_four_8 : decode cX12_four 8 = .ok (.getfield 56, 3) := by decide +kernel
theorem dX12_four_11 : decode cX12_four 11 = .ok (.aload_n 0, 1) := by decide +kernel
theorem dX12_four_12 : decode cX12_four 12 = .ok (.getfield 157, 3) := by decide +kernel
theorem dX12_four_15 : decode cX12_four 15 = .ok (.iload_n 1, 1) := by decide +kernel
theorem dX12_four_16 : decode cX12_four 16 = .ok (.iload_n 2, 1) := by decide +kernel
theorem dX12_four_17 : decode cX12_four 17 = .ok (.ishr, 1) := by decide +kernel
theorem dX12_four_18 : decode cX12_four 18 = .ok (.i2b, 1) := by decide +kernel
theorem dX12_four_19 : decode cX12_four 19 = .ok (.bastore, 1) := by decide +kernel
theorem dX12_four_20 : decode cX12_four 20 = .ok (.aload_n 0, 1) := by decide +kernel
theorem dX12_four_21 : decode cX12_four 21 = .ok (.dup, 1) := by decide +kernel
theorem dX12_four_22 : decode cX12_four 22 = .ok (.getfield 157, 3) := by decide +kernel
theorem dX12_four_25 : decode cX12_four 25 = .ok (.iconst 1, 1) := by decide +kernel
theorem dX12_four_26 : decode cX12_four 26 = .ok (.iadd, 1) := by decide +kernel
theorem dX12_four_27 : decode cX12_four 27 = .ok (.putfield 157, 3) := by decide +kernel
theorem dX12_four_30 : decode cX12_four 30 = .ok (.iinc 2 (-8), 3) := by decide +kernel
theorem dX12_four_33 : decode cX12_four 33 = .ok (.goto (-30), 3) := by decide +kernel
theorem dX12_four_36 : decode cX12_four 36 = .ok (.return_, 1) := by decide +kernel
theorem dX12_feed_0 : decode cX12_feed 0 = .ok (.aload_n 0, 1) := by decide +kernel
theorem dX12_feed_1 : decode cX12_feed 1 = .ok (.getfield 157, 3) := by decide +kernel
theorem dX12_feed_4 : decode cX12_feed 4 = .ok (.bipush 20, 2) := by decide +kernel
theorem dX12_feed_6 : decode cX12_feed 6 = .ok (.iadd, 1) := by decide +kernel
theorem dX12_feed_7 : decode cX12_feed 7 = .ok (.sipush 500, 3) := by decide +kernel
theorem dX12_feed_10 : decode cX12_feed 10 = .ok (.if_icmp .le 5, 3) := by decide +kernel
theorem dX12_feed_13 : decode cX12_feed 13 = .ok (.iconst (-1), 1) := by decide +kernel
theorem dX12_feed_14 : decode cX12_feed 14 = .ok (.ireturn, 1) := by decide +kernel
theorem dX12_feed_15 : decode cX12_feed 15 = .ok (.aload_n 0, 1) := by decide +kernel
theorem dX12_feed_16 : decode cX12_feed 16 = .ok (.iload_n 1, 1) := by decide +kernel
theorem dX12_feed_17 : decode cX12_feed 17 = .ok (.invokevirtual 160, 3) := by decide +kernel
theorem dX12_feed_20 : decode cX12_feed 20 = .ok (.aload_n 0, 1) := by decide +kernel
theorem dX12_feed_21 : decode cX12_feed 21 = .ok (.iload_n 2, 1) := by decide +kernel
theorem dX12_feed_22 : decode cX12_feed 22 = .ok (.invokevirtual 160, 3) := by decide +kernel
theorem dX12_feed_25 : decode cX12_feed 25 = .ok (.aload_n 0, 1) := by decide +kernel
theorem dX12_feed_26 : decode cX12_feed 26 = .ok (.iload_n 3, 1) := by decide +kernel
theorem dX12_feed_27 : decode cX12_feed 27 = .ok (.invokevirtual 160, 3) := by decide +kernel
theorem dX12_feed_30 : decode cX12_feed 30 = .ok (.aload_n 0, 1) := by decide +kernel
theorem dX12_feed_31 : decode cX12_feed 31 = .ok (.iload 4, 2) := by decide +kernel
theorem dX12_feed_33 : decode cX12_feed 33 = .ok (.invokevirtual 160, 3) := by decide +kernel
theorem dX12_feed_36 : decode cX12_feed 36 = .ok (.aload_n 0, 1) := by decide +kernel
theorem dX12_feed_37 : decode cX12_feed 37 = .ok (.iload 5, 2) := by decide +kernel
theorem dX12_feed_39 : decode cX12_feed 39 = .ok (.invokevirtual 160, 3) := by decide +kernel
theorem dX12_feed_42 : decode cX12_feed 42 = .ok (.aload_n 0, 1) := by decide +kernel
theorem dX12_feed_43 : decode cX12_feed 43 = .ok (.getfield 157, 3) := by decide +kernel
theorem dX12_feed_46 : decode cX12_feed 46 = .ok (.ireturn, 1) := by decide +kernel
theorem dX12_end_0 : decode cX12_end 0 = .ok (.iload_n 1, 1) := by decide +kernel
theorem dX12_end_1 : decode cX12_end 1 = .ok (.ifCond .lt 11, 3) := by decide +kernel
theorem dX12_end_4 : decode cX12_end 4 = .ok (.iload_n 1, 1) := by decide +kernel
theorem dX12_end_5 : decode cX12_end 5 = .ok (.aload_n 0, 1) := by decide +kernel
theorem dX12_end_6 : decode cX12_end 6 = .ok (.getfield 157, 3) := by decide +kernel
theorem dX12_end_9 : decode cX12_end 9 = .ok (.if_icmp .le 5, 3) := by decide +kernel
theorem dX12_end_12 : decode cX12_end 12 = .ok (.iconst (-1), 1) := by decide +kernel
theorem dX12_end_13 : decode cX12_end 13 = .ok (.ireturn, 1) := by decide +kernel
theorem dX12_end_14 : decode cX12_end 14 = .ok (.aload_n 0, 1) := by decide +kernel
theorem dX12_end_15 : decode cX12_end 15 = .ok (.iload_n 1, 1) := by decide +kernel
theorem dX12_end_16 : decode cX12_end 16 = .ok (.putfield 157, 3) := by decide +kernel
theorem dX12_end_19 : decode cX12_end 19 = .ok (.iload_n 1, 1) := by decide +kernel
theorem dX12_end_20 : decode cX12_end 20 = .ok (.ireturn, 1) := by decide +kernel
theorem dX12_fails_0 : decode cX12_fails 0 = .ok (.aload_n 0, 1) := by decide +kernel
theorem dX12_fails_1 : decode cX12_fails 1 = .ok (.getfield 164, 3) := by decide +kernel
theorem dX12_fails_4 : decode cX12_fails 4 = .ok (.ifCond .ne 15, 3) := by decide +kernel
theorem dX12_fails_7 : decode cX12_fails 7 = .ok (.aload_n 0, 1) := by decide +kernel
theorem dX12_fails_8 : decode cX12_fails 8 = .ok (.iconst 1, 1) := by decide +kernel
theorem dX12_fails_9 : decode cX12_fails 9 = .ok (.bipush 8, 2) := by decide +kernel
theorem dX12_fails_11 : decode cX12_fails 11 = .ok (.iload_n 2, 1) := by decide +kernel
theorem dX12_fails_12 : decode cX12_fails 12 = .ok (.imul, 1) := by decide +kernel
theorem dX12_fails_13 : decode cX12_fails 13 = .ok (.iadd, 1) := by decide +kernel
theorem dX12_fails_14 : decode cX12_fails 14 = .ok (.iload_n 1, 1) := by decide +kernel
theorem dX12_fails_15 : decode cX12_fails 15 = .ok (.iadd, 1) := by decide +kernel
theorem dX12_fails_16 : decode cX12_fails 16 = .ok (.putfield 164, 3) := by decide +kernel
theorem dX12_fails_19 : decode cX12_fails 19 = .ok (.iconst 0, 1) := by decide +kernel
theorem dX12_fails_20 : decode cX12_fails 20 = .ok (.ireturn, 1) := by decide +kernel
theorem dX12_see_0 : decode cX12_see 0 = .ok (.aload_n 0, 1) := by decide +kernel
theorem dX12_see_1 : decode cX12_see 1 = .ok (.getfield 167, 3) := by decide +kernel
theorem dX12_see_4 : decode cX12_see 4 = .ok (.aload_n 0, 1) := by decide +kernel
theorem dX12_see_5 : decode cX12_see 5 = .ok (.getfield 157, 3) := by decide +kernel
theorem dX12_see_8 : decode cX12_see 8 = .ok (.if_icmp .ge 30, 3) := by decide +kernel
theorem dX12_see_11 : decode cX12_see 11 = .ok (.aload_n 0, 1) := by decide +kernel
theorem dX12_see_12 : decode cX12_see 12 = .ok (.getfield 56, 3) := by decide +kernel
theorem dX12_see_15 : decode cX12_see 15 = .ok (.aload_n 0, 1) := by decide +kernel
theorem dX12_see_16 : decode cX12_see 16 = .ok (.getfield 167, 3) := by decide +kernel
theorem dX12_see_19 : decode cX12_see 19 = .ok (.baload, 1) := by decide +kernel
theorem dX12_see_20 : decode cX12_see 20 = .ok (.bipush 32, 2) := by decide +kernel
theorem dX12_see_22 : decode cX12_see 22 = .ok (.if_icmp .ne 16, 3) := by decide +kernel
theorem dX12_see_25 : decode cX12_see 25 = .ok (.aload_n 0, 1) := by decide +kernel
theorem dX12_see_26 : decode cX12_see 26 = .ok (.dup, 1) := by decide +kernel
theorem dX12_see_27 : decode cX12_see 27 = .ok (.getfield 167, 3) := by decide +kernel
theorem dX12_see_30 : decode cX12_see 30 = .ok (.iconst 1, 1) := by decide +kernel
theorem dX12_see_31 : decode cX12_see 31 = .ok (.iadd, 1) := by decide +kernel
theorem dX12_see_32 : decode cX12_see 32 = .ok (.putfield 167, 3) := by decide +kernel
theorem dX12_see_35 : decode cX12_see 35 = .ok (.goto (-35), 3) := by decide +kernel
theorem dX12_see_38 : decode cX12_see 38 = .ok (.aload_n 0, 1) := by decide +kernel
theorem dX12_see_39 : decode cX12_see 39 = .ok (.getfield 167, 3) := by decide +kernel
theorem dX12_see_42 : decode cX12_see 42 = .ok (.aload_n 0, 1) := by decide +kernel
theorem dX12_see_43 : decode cX12_see 43 = .ok (.getfield 157, 3) := by decide +kernel
theorem dX12_see_46 : decode cX12_see 46 = .ok (.if_icmp .ge 19, 3) := by decide +kernel
theorem dX12_see_49 : decode cX12_see 49 = .ok (.aload_n 0, 1) := by decide +kernel
theorem dX12_see_50 : decode cX12_see 50 = .ok (.getfield 56, 3) := by decide +kernel
theorem dX12_see_53 : decode cX12_see 53 = .ok (.aload_n 0, 1) := by decide +kernel
theorem dX12_see_54 : decode cX12_see 54 = .ok (.getfield 167, 3) := by decide +kernel
theorem dX12_see_57 : decode cX12_see 57 = .ok (.baload, 1) := by decide +kernel
theorem dX12_see_58 : decode cX12_see 58 = .ok (.sipush 255, 3) := by decide +kernel
theorem dX12_see_61 : decode cX12_see 61 = .ok (.iand, 1) := by decide +kernel
theorem dX12_see_62 : decode cX12_see 62 = .ok (.goto 4, 3) := by decide +kernel
theorem dX12_see_65 : decode cX12_see 65 = .ok (.iconst (-1), 1) := by decide +kernel
theorem dX12_see_66 : decode cX12_see 66 = .ok (.ireturn, 1) := by decide +kernel
theorem dX12_isDigit_0 : decode cX12_isDigit 0 = .ok (.iload_n 0, 1) := by decide +kernel
theorem dX12_isDigit_1 : decode cX12_isDigit 1 = .ok (.bipush 48, 2) := by decide +kernel
theorem dX12_isDigit_3 : decode cX12_isDigit 3 = .ok (.if_icmp .lt 13, 3) := by decide +kernel
theorem dX12_isDigit_6 : decode cX12_isDigit 6 = .ok (.iload_n 0, 1) := by decide +kernel
theorem dX12_isDigit_7 : decode cX12_isDigit 7 = .ok (.bipush 57, 2) := by decide +kernel
theorem dX12_isDigit_9 : decode cX12_isDigit 9 = .ok (.if_icmp .gt 7, 3) := by decide +kernel
theorem dX12_isDigit_12 : decode cX12_isDigit 12 = .ok (.iconst 1, 1) := by decide +kernel
theorem dX12_isDigit_13 : decode cX12_isDigit 13 = .ok (.goto 4, 3) := by decide +kernel
theorem dX12_isDigit_16 : decode cX12_isDigit 16 = .ok (.iconst 0, 1) := by decide +kernel
theorem dX12_isDigit_17 : decode cX12_isDigit 17 = .ok (.ireturn, 1) := by decide +kernel
theorem dX12_isWordByte_0 : decode cX12_isWordByte 0 = .ok (.iload_n 0, 1) := by decide +kernel
theorem dX12_isWordByte_1 : decode cX12_isWordByte 1 = .ok (.invokestatic 170, 3) := by decide +kernel
theorem dX12_isWordByte_4 : decode cX12_isWordByte 4 = .ok (.ifCond .ne 15, 3) := by decide +kernel
theorem dX12_isWordByte_7 : decode cX12_isWordByte 7 = .ok (.iload_n 0, 1) := by decide +kernel
theorem dX12_isWordByte_8 : decode cX12_isWordByte 8 = .ok (.bipush 97, 2) := by decide +kernel
theorem dX12_isWordByte_10 : decode cX12_isWordByte 10 = .ok (.if_icmp .lt 13, 3) := by decide +kernel
theorem dX12_isWordByte_13 : decode cX12_isWordByte 13 = .ok (.iload_n 0, 1) := by decide +kernel
theorem dX12_isWordByte_14 : decode cX12_isWordByte 14 = .ok (.bipush 122, 2) := by decide +kernel
theorem dX12_isWordByte_16 : decode cX12_isWordByte 16 = .ok (.if_icmp .gt 7, 3) := by decide +kernel
theorem dX12_isWordByte_19 : decode cX12_isWordByte 19 = .ok (.iconst 1, 1) := by decide +kernel
theorem dX12_isWordByte_20 : decode cX12_isWordByte 20 = .ok (.goto 4, 3) := by decide +kernel
theorem dX12_isWordByte_23 : decode cX12_isWordByte 23 = .ok (.iconst 0, 1) := by decide +kernel
theorem dX12_isWordByte_24 : decode cX12_isWordByte 24 = .ok (.ireturn, 1) := by decide +kernel
theorem dX12_looks_0 : decode cX12_looks 0 = .ok (.aload_n 0, 1) := by decide +kernel
theorem dX12_looks_1 : decode cX12_looks 1 = .ok (.invokevirtual 173, 3) := by decide +kernel
theorem dX12_looks_4 : decode cX12_looks 4 = .ok (.istore_n 1, 1) := by decide +kernel
theorem dX12_looks_5 : decode cX12_looks 5 = .ok (.aload_n 0, 1) := by decide +kernel
theorem dX12_looks_6 : decode cX12_looks 6 = .ok (.aload_n 0, 1) := by decide +kernel
theorem dX12_looks_7 : decode cX12_looks 7 = .ok (.getfield 167, 3) := by decide +kernel
theorem dX12_looks_10 : decode cX12_looks 10 = .ok (.putfield 177, 3) := by decide +kernel
theorem dX12_looks_13 : decode cX12_looks 13 = .ok (.aload_n 0, 1) := by decide +kernel
theorem dX12_looks_14 : decode cX12_looks 14 = .ok (.iconst 0, 1) := by decide +kernel
theorem dX12_looks_15 : decode cX12_looks 15 = .ok (.putfield 180, 3) := by decide +kernel
theorem dX12_looks_18 : decode cX12_looks 18 = .ok (.aload_n 0, 1) := by decide +kernel
theorem dX12_looks_19 : decode cX12_looks 19 = .ok (.getfield 177, 3) := by decide +kernel
theorem dX12_looks_22 : decode cX12_looks 22 = .ok (.aload_n 0, 1) := by decide +kernel
theorem dX12_looks_23 : decode cX12_looks 23 = .ok (.getfield 180, 3) := by decide +kernel
theorem dX12_looks_26 : decode cX12_looks 26 = .ok (.iadd, 1) := by decide +kernel
theorem dX12_looks_27 : decode cX12_looks 27 = .ok (.aload_n 0, 1) := by decide +kernel
theorem dX12_looks_28 : decode cX12_looks 28 = .ok (.getfield 157, 3) := by decide +kernel
theorem dX12_looks_31 : decode cX12_looks 31 = .ok (.if_icmp .ge 36, 3) := by decide +kernel
theorem dX12_looks_34 : decode cX12_looks 34 = .ok (.aload_n 0, 1) := by decide +kernel
theorem dX12_looks_35 : decode cX12_looks 35 = .ok (.getfield 56, 3) := by decide +kernel
theorem dX12_looks_38 : decode cX12_looks 38 = .ok (.aload_n 0, 1) := by decide +kernel
theorem dX12_looks_39 : decode cX12_looks 39 = .ok (.getfield 177, 3) := by decide +kernel
theorem dX12_looks_42 : decode cX12_looks 42 = .ok (.aload_n 0, 1) := by decide +kernel
theorem dX12_looks_43 : decode cX12_looks 43 = .ok (.getfield 180, 3) := by decide +kernel
theorem dX12_looks_46 : decode cX12_looks 46 = .ok (.iadd, 1) := by decide +kernel
theorem dX12_looks_47 : decode cX12_looks 47 = .ok (.baload, 1) := by decide +kernel
theorem dX12_looks_48 : decode cX12_looks 48 = .ok (.invokestatic 183, 3) := by decide +kernel
theorem dX12_looks_51 : decode cX12_looks 51 = .ok (.ifCond .eq 16, 3) := by decide +kernel
theorem dX12_looks_54 : decode cX12_looks 54 = .ok (.aload_n 0, 1) := by decide +kernel
theorem dX12_looks_55 : decode cX12_looks 55 = .ok (.dup, 1) := by decide +kernel
theorem dX12_looks_56 : decode cX12_looks 56 = .ok (.getfield 180, 3) := by decide +kernel
theorem dX12_looks_59 : decode cX12_looks 59 = .ok (.iconst 1, 1) := by decide +kernel
theorem dX12_looks_60 : decode cX12_looks 60 = .ok (.iadd, 1) := by decide +kernel
theorem dX12_looks_61 : decode cX12_looks 61 = .ok (.putfield 180, 3) := by decide +kernel
theorem dX12_looks_64 : decode cX12_looks 64 = .ok (.goto (-46), 3) := by decide +kernel
theorem dX12_looks_67 : decode cX12_looks 67 = .ok (.return_, 1) := by decide +kernel
theorem dX12_isLetters_0 : decode cX12_isLetters 0 = .ok (.aload_n 0, 1) := by decide +kernel
theorem dX12_isLetters_1 : decode cX12_isLetters 1 = .ok (.getfield 180, 3) := by decide +kernel
theorem dX12_isLetters_4 : decode cX12_isLetters 4 = .ok (.iconst 4, 1) := by decide +kernel
theorem dX12_isLetters_5 : decode cX12_isLetters 5 = .ok (.if_icmp .ne 66, 3) := by decide +kernel
theorem dX12_isLetters_8 : decode cX12_isLetters 8 = .ok (.aload_n 0, 1) := by decide +kernel
theorem dX12_isLetters_9 : decode cX12_isLetters 9 = .ok (.getfield 56, 3) := by decide +kernel
theorem dX12_isLetters_12 : decode cX12_isLetters 12 = .ok (.aload_n 0, 1) := by decide +kernel
theorem dX12_isLetters_13 : decode cX12_isLetters 13 = .ok (.getfield 177, 3) := by decide +kernel
theorem dX12_isLetters_16 : decode cX12_isLetters 16 = .ok (.baload, 1) := by decide +kernel
theorem dX12_isLetters_17 : decode cX12_isLetters 17 = .ok (.iload_n 1, 1) := by decide +kernel
theorem dX12_isLetters_18 : decode cX12_isLetters 18 = .ok (.if_icmp .ne 53, 3) := by decide +kernel
theorem dX12_isLetters_21 : decode cX12_isLetters 21 = .ok (.aload_n 0, 1) := by decide +kernel
theorem dX12_isLetters_22 : decode cX12_isLetters 22 = .ok (.getfield 56, 3) := by decide +kernel
theorem dX12_isLetters_25 : decode cX12_isLetters 25 = .ok (.aload_n 0, 1) := by decide +kernel
theorem dX12_isLetters_26 : decode cX12_isLetters 26 = .ok (.getfield 177, 3) := by decide +kernel
theorem dX12_isLetters_29 : decode cX12_isLetters 29 = .ok (.iconst 1, 1) := by decide +kernel
theorem dX12_isLetters_30 : decode cX12_isLetters 30 = .ok (.iadd, 1) := by decide +kernel
theorem dX12_isLetters_31 : decode cX12_isLetters 31 = .ok (.baload, 1) := by decide +kernel
theorem dX12_isLetters_32 : decode cX12_isLetters 32 = .ok (.iload_n 2, 1) := by decide +kernel
theorem dX12_isLetters_33 : decode cX12_isLetters 33 = .ok (.if_icmp .ne 38, 3) := by decide +kernel
theorem dX12_isLetters_36 : decode cX12_isLetters 36 = .ok (.aload_n 0, 1) := by decide +kernel
theorem dX12_isLetters_37 : decode cX12_isLetters 37 = .ok (.getfield 56, 3) := by decide +kernel
theorem dX12_isLetters_40 : decode cX12_isLetters 40 = .ok (.aload_n 0, 1) := by decide +kernel
theorem dX12_isLetters_41 : decode cX12_isLetters 41 = .ok (.getfield 177, 3) := by decide +kernel
theorem dX12_isLetters_44 : decode cX12_isLetters 44 = .ok (.iconst 2, 1) := by decide +kernel
theorem dX12_isLetters_45 : decode cX12_isLetters 45 = .ok (.iadd, 1) := by decide +kernel
theorem dX12_isLetters_46 : decode cX12_isLetters 46 = .ok (.baload, 1) := by decide +kernel
theorem dX12_isLetters_47 : decode cX12_isLetters 47 = .ok (.iload_n 3, 1) := by decide +kernel
theorem dX12_isLetters_48 : decode cX12_isLetters 48 = .ok (.if_icmp .ne 23, 3) := by decide +kernel
theorem dX12_isLetters_51 : decode cX12_isLetters 51 = .ok (.aload_n 0, 1) := by decide +kernel
theorem dX12_isLetters_52 : decode cX12_isLetters 52 = .ok (.getfield 56, 3) := by decide +kernel
theorem dX12_isLetters_55 : decode cX12_isLetters 55 = .ok (.aload_n 0, 1) := by decide +kernel
theorem dX12_isLetters_56 : decode cX12_isLetters 56 = .ok (.getfield 177, 3) := by decide +kernel
theorem dX12_isLetters_59 : decode cX12_isLetters 59 = .ok (.iconst 3, 1) := by decide +kernel
theorem dX12_isLetters_60 : decode cX12_isLetters 60 = .ok (.iadd, 1) := by decide +kernel
theorem dX12_isLetters_61 : decode cX12_isLetters 61 = .ok (.baload, 1) := by decide +kernel
theorem dX12_isLetters_62 : decode cX12_isLetters 62 = .ok (.iload 4, 2) := by decide +kernel
theorem dX12_isLetters_64 : decode cX12_isLetters 64 = .ok (.if_icmp .ne 7, 3) := by decide +kernel
theorem dX12_isLetters_67 : decode cX12_isLetters 67 = .ok (.iconst 1, 1) := by decide +kernel
theorem dX12_isLetters_68 : decode cX12_isLetters 68 = .ok (.goto 4, 3) := by decide +kernel
theorem dX12_isLetters_71 : decode cX12_isLetters 71 = .ok (.iconst 0, 1) := by decide +kernel
theorem dX12_isLetters_72 : decode cX12_isLetters 72 = .ok (.ireturn, 1) := by decide +kernel
theorem dX12_isAnd_0 : decode cX12_isAnd 0 = .ok (.aload_n 0, 1) := by decide +kernel
theorem dX12_isAnd_1 : decode cX12_isAnd 1 = .ok (.getfield 180, 3) := by decide +kernel
theorem dX12_isAnd_4 : decode cX12_isAnd 4 = .ok (.iconst 3, 1) := by decide +kernel
theorem dX12_isAnd_5 : decode cX12_isAnd 5 = .ok (.if_icmp .ne 53, 3) := by decide +kernel
theorem dX12_isAnd_8 : decode cX12_isAnd 8 = .ok (.aload_n 0, 1) := by decide +kernel
theorem dX12_isAnd_9 : decode cX12_isAnd 9 = .ok (.getfield 56, 3) := by decide +kernel
theorem dX12_isAnd_12 : decode cX12_isAnd 12 = .ok (.aload_n 0, 1) := by decide +kernel
theorem dX12_isAnd_13 : decode cX12_isAnd 13 = .ok (.getfield 177, 3) := by decide +kernel
theorem dX12_isAnd_16 : decode cX12_isAnd 16 = .ok (.baload, 1) := by decide +kernel
theorem dX12_isAnd_17 : decode cX12_isAnd 17 = .ok (.bipush 97, 2) := by decide +kernel
theorem dX12_isAnd_19 : decode cX12_isAnd 19 = .ok (.if_icmp .ne 39, 3) := by decide +kernel
theorem dX12_isAnd_22 : decode cX12_isAnd 22 = .ok (.aload_n 0, 1) := by decide +kernel
theorem dX12_isAnd_23 : decode cX12_isAnd 23 = .ok (.getfield 56, 3) := by decide +kernel
theorem dX12_isAnd_26 : decode cX12_isAnd 26 = .ok (.aload_n 0, 1) := by decide +kernel
theorem dX12_isAnd_27 : decode cX12_isAnd 27 = .ok (.getfield 177, 3) := by decide +kernel
theorem dX12_isAnd_30 : decode cX12_isAnd 30 = .ok (.iconst 1, 1) := by decide +kernel
theorem dX12_isAnd_31 : decode cX12_isAnd 31 = .ok (.iadd, 1) := by decide +kernel
theorem dX12_isAnd_32 : decode cX12_isAnd 32 = .ok (.baload, 1) := by decide +kernel
theorem dX12_isAnd_33 : decode cX12_isAnd 33 = .ok (.bipush 110, 2) := by decide +kernel
theorem dX12_isAnd_35 : decode cX12_isAnd 35 = .ok (.if_icmp .ne 23, 3) := by decide +kernel
theorem dX12_isAnd_38 : decode cX12_isAnd 38 = .ok (.aload_n 0, 1) := by decide +kernel
theorem dX12_isAnd_39 : decode cX12_isAnd 39 = .ok (.getfield 56, 3) := by decide +kernel
theorem dX12_isAnd_42 : decode cX12_isAnd 42 = .ok (.aload_n 0, 1) := by decide +kernel
theorem dX12_isAnd_43 : decode cX12_isAnd 43 = .ok (.getfield 177, 3) := by decide +kernel
theorem dX12_isAnd_46 : decode cX12_isAnd 46 = .ok (.iconst 2, 1) := by decide +kernel
theorem dX12_isAnd_47 : decode cX12_isAnd 47 = .ok (.iadd, 1) := by decide +kernel
theorem dX12_isAnd_48 : decode cX12_isAnd 48 = .ok (.baload, 1) := by decide +kernel
theorem dX12_isAnd_49 : decode cX12_isAnd 49 = .ok (.bipush 100, 2) := by decide +kernel
theorem dX12_isAnd_51 : decode cX12_isAnd 51 = .ok (.if_icmp .ne 7, 3) := by decide +kernel
theorem dX12_isAnd_54 : decode cX12_isAnd 54 = .ok (.iconst 1, 1) := by decide +kernel
theorem dX12_isAnd_55 : decode cX12_isAnd 55 = .ok (.goto 4, 3) := by decide +kernel
theorem dX12_isAnd_58 : decode cX12_isAnd 58 = .ok (.iconst 0, 1) := by decide +kernel
theorem dX12_isAnd_59 : decode cX12_isAnd 59 = .ok (.ireturn, 1) := by decide +kernel
theorem dX12_isNight_0 : decode cX12_isNight 0 = .ok (.aload_n 0, 1) := by decide +kernel
theorem dX12_isNight_1 : decode cX12_isNight 1 = .ok (.getfield 180, 3) := by decide +kernel
theorem dX12_isNight_4 : decode cX12_isNight 4 = .ok (.iconst 5, 1) := by decide +kernel
theorem dX12_isNight_5 : decode cX12_isNight 5 = .ok (.if_icmp .ne 85, 3) := by decide +kernel
theorem dX12_isNight_8 : decode cX12_isNight 8 = .ok (.aload_n 0, 1) := by decide +kernel
theorem dX12_isNight_9 : decode cX12_isNight 9 = .ok (.getfield 56, 3) := by decide +kernel
theorem dX12_isNight_12 : decode cX12_isNight 12 = .ok (.aload_n 0, 1) := by decide +kernel
theorem dX12_isNight_13 : decode cX12_isNight 13 = .ok (.getfield 177, 3) := by decide +kernel
theorem dX12_isNight_16 : decode cX12_isNight 16 = .ok (.baload, 1) := by decide +kernel
theorem dX12_isNight_17 : decode cX12_isNight 17 = .ok (.bipush 110, 2) := by decide +kernel
theorem dX12_isNight_19 : decode cX12_isNight 19 = .ok (.if_icmp .ne 71, 3) := by decide +kernel
theorem dX12_isNight_22 : decode cX12_isNight 22 = .ok (.aload_n 0, 1) := by decide +kernel
theorem dX12_isNight_23 : decode cX12_isNight 23 = .ok (.getfield 56, 3) := by decide +kernel
theorem dX12_isNight_26 : decode cX12_isNight 26 = .ok (.aload_n 0, 1) := by decide +kernel
theorem dX12_isNight_27 : decode cX12_isNight 27 = .ok (.getfield 177, 3) := by decide +kernel
theorem dX12_isNight_30 : decode cX12_isNight 30 = .ok (.iconst 1, 1) := by decide +kernel
theorem dX12_isNight_31 : decode cX12_isNight 31 = .ok (.iadd, 1) := by decide +kernel
theorem dX12_isNight_32 : decode cX12_isNight 32 = .ok (.baload, 1) := by decide +kernel
theorem dX12_isNight_33 : decode cX12_isNight 33 = .ok (.bipush 105, 2) := by decide +kernel
theorem dX12_isNight_35 : decode cX12_isNight 35 = .ok (.if_icmp .ne 55, 3) := by decide +kernel
theorem dX12_isNight_38 : decode cX12_isNight 38 = .ok (.aload_n 0, 1) := by decide +kernel
theorem dX12_isNight_39 : decode cX12_isNight 39 = .ok (.getfield 56, 3) := by decide +kernel
theorem dX12_isNight_42 : decode cX12_isNight 42 = .ok (.aload_n 0, 1) := by decide +kernel
theorem dX12_isNight_43 : decode cX12_isNight 43 = .ok (.getfield 177, 3) := by decide +kernel
theorem dX12_isNight_46 : decode cX12_isNight 46 = .ok (.iconst 2, 1) := by decide +kernel
theorem dX12_isNight_47 : decode cX12_isNight 47 = .ok (.iadd, 1) := by decide +kernel
theorem dX12_isNight_48 : decode cX12_isNight 48 = .ok (.baload, 1) := by decide +kernel
theorem dX12_isNight_49 : decode cX12_isNight 49 = .ok (.bipush 103, 2) := by decide +kernel
theorem dX12_isNight_51 : decode cX12_isNight 51 = .ok (.if_icmp .ne 39, 3) := by decide +kernel
theorem dX12_isNight_54 : decode cX12_isNight 54 = .ok (.aload_n 0, 1) := by decide +kernel
theorem dX12_isNight_55 : decode cX12_isNight 55 = .ok (.getfield 56, 3) := by decide +kernel
theorem dX12_isNight_58 : decode cX12_isNight 58 = .ok (.aload_n 0, 1) := by decide +kernel
theorem dX12_isNight_59 : decode cX12_isNight 59 = .ok (.getfield 177, 3) := by decide +kernel
theorem dX12_isNight_62 : decode cX12_isNight 62 = .ok (.iconst 3, 1) := by decide +kernel
theorem dX12_isNight_63 : decode cX12_isNight 63 = .ok (.iadd, 1) := by decide +kernel
theorem dX12_isNight_64 : decode cX12_isNight 64 = .ok (.baload, 1) := by decide +kernel
theorem dX12_isNight_65 : decode cX12_isNight 65 = .ok (.bipush 104, 2) := by decide +kernel
theorem dX12_isNight_67 : decode cX12_isNight 67 = .ok (.if_icmp .ne 23, 3) := by decide +kernel
theorem dX12_isNight_70 : decode cX12_isNight 70 = .ok (.aload_n 0, 1) := by decide +kernel
theorem dX12_isNight_71 : decode cX12_isNight 71 = .ok (.getfield 56, 3) := by decide +kernel
theorem dX12_isNight_74 : decode cX12_isNight 74 = .ok (.aload_n 0, 1) := by decide +kernel
theorem dX12_isNight_75 : decode cX12_isNight 75 = .ok (.getfield 177, 3) := by decide +kernel
theorem dX12_isNight_78 : decode cX12_isNight 78 = .ok (.iconst 4, 1) := by decide +kernel
theorem dX12_isNight_79 : decode cX12_isNight 79 = .ok (.iadd, 1) := by decide +kernel
theorem dX12_isNight_80 : decode cX12_isNight 80 = .ok (.baload, 1) := by decide +kernel
theorem dX12_isNight_81 : decode cX12_isNight 81 = .ok (.bipush 116, 2) := by decide +kernel
theorem dX12_isNight_83 : decode cX12_isNight 83 = .ok (.if_icmp .ne 7, 3) := by decide +kernel
theorem dX12_isNight_86 : decode cX12_isNight 86 = .ok (.iconst 1, 1) := by decide +kernel
theorem dX12_isNight_87 : decode cX12_isNight 87 = .ok (.goto 4, 3) := by decide +kernel
theorem dX12_isNight_90 : decode cX12_isNight 90 = .ok (.iconst 0, 1) := by decide +kernel
theorem dX12_isNight_91 : decode cX12_isNight 91 = .ok (.ireturn, 1) := by decide +kernel
theorem dX12_isNumber_0 : decode cX12_isNumber 0 = .ok (.aload_n 0, 1) := by decide +kernel
theorem dX12_isNumber_1 : decode cX12_isNumber 1 = .ok (.getfield 180, 3) := by decide +kernel
theorem dX12_isNumber_4 : decode cX12_isNumber 4 = .ok (.ifCond .le 7, 3) := by decide +kernel
theorem dX12_isNumber_7 : decode cX12_isNumber 7 = .ok (.iconst 1, 1) := by decide +kernel
theorem dX12_isNumber_8 : decode cX12_isNumber 8 = .ok (.goto 4, 3) := by decide +kernel
theorem dX12_isNumber_11 : decode cX12_isNumber 11 = .ok (.iconst 0, 1) := by decide +kernel
theorem dX12_isNumber_12 : decode cX12_isNumber 12 = .ok (.istore_n 1, 1) := by decide +kernel
theorem dX12_isNumber_13 : decode cX12_isNumber 13 = .ok (.iconst 0, 1) := by decide +kernel
theorem dX12_isNumber_14 : decode cX12_isNumber 14 = .ok (.istore_n 2, 1) := by decide +kernel
theorem dX12_isNumber_15 : decode cX12_isNumber 15 = .ok (.iload_n 2, 1) := by decide +kernel
theorem dX12_isNumber_16 : decode cX12_isNumber 16 = .ok (.aload_n 0, 1) := by decide +kernel
theorem dX12_isNumber_17 : decode cX12_isNumber 17 = .ok (.getfield 180, 3) := by decide +kernel
theorem dX12_isNumber_20 : decode cX12_isNumber 20 = .ok (.if_icmp .ge 36, 3) := by decide +kernel
theorem dX12_isNumber_23 : decode cX12_isNumber 23 = .ok (.iload_n 1, 1) := by decide +kernel
theorem dX12_isNumber_24 : decode cX12_isNumber 24 = .ok (.ifCond .eq 24, 3) := by decide +kernel
theorem dX12_isNumber_27 : decode cX12_isNumber 27 = .ok (.aload_n 0, 1) := by decide +kernel
theorem dX12_isNumber_28 : decode cX12_isNumber 28 = .ok (.getfield 56, 3) := by decide +kernel
theorem dX12_isNumber_31 : decode cX12_isNumber 31 = .ok (.aload_n 0, 1) := by decide +kernel
theorem dX12_isNumber_32 : decode cX12_isNumber 32 = .ok (.getfield 177, 3) := by decide +kernel
theorem dX12_isNumber_35 : decode cX12_isNumber 35 = .ok (.iload_n 2, 1) := by decide +kernel
theorem dX12_isNumber_36 : decode cX12_isNumber 36 = .ok (.iadd, 1) := by decide +kernel
theorem dX12_isNumber_37 : decode cX12_isNumber 37 = .ok (.baload, 1) := by decide +kernel
theorem dX12_isNumber_38 : decode cX12_isNumber 38 = .ok (.invokestatic 170, 3) := by decide +kernel
theorem dX12_isNumber_41 : decode cX12_isNumber 41 = .ok (.ifCond .eq 7, 3) := by decide +kernel
theorem dX12_isNumber_44 : decode cX12_isNumber 44 = .ok (.iconst 1, 1) := by decide +kernel
theorem dX12_isNumber_45 : decode cX12_isNumber 45 = .ok (.goto 4, 3) := by decide +kernel
theorem dX12_isNumber_48 : decode cX12_isNumber 48 = .ok (.iconst 0, 1) := by decide +kernel
theorem dX12_isNumber_49 : decode cX12_isNumber 49 = .ok (.istore_n 1, 1) := by decide +kernel
theorem dX12_isNumber_50 : decode cX12_isNumber 50 = .ok (.iinc 2 1, 3) := by decide +kernel
theorem dX12_isNumber_53 : decode cX12_isNumber 53 = .ok (.goto (-38), 3) := by decide +kernel
theorem dX12_isNumber_56 : decode cX12_isNumber 56 = .ok (.iload_n 1, 1) := by decide +kernel
theorem dX12_isNumber_57 : decode cX12_isNumber 57 = .ok (.ireturn, 1) := by decide +kernel
theorem dX12_numberHere_0 : decode cX12_numberHere 0 = .ok (.iconst 0, 1) := by decide +kernel
theorem dX12_numberHere_1 : decode cX12_numberHere 1 = .ok (.istore_n 1, 1) := by decide +kernel
theorem dX12_numberHere_2 : decode cX12_numberHere 2 = .ok (.iconst 0, 1) := by decide +kernel
theorem dX12_numberHere_3 : decode cX12_numberHere 3 = .ok (.istore_n 2, 1) := by decide +kernel
theorem dX12_numberHere_4 : decode cX12_numberHere 4 = .ok (.iload_n 2, 1) := by decide +kernel
theorem dX12_numberHere_5 : decode cX12_numberHere 5 = .ok (.aload_n 0, 1) := by decide +kernel
theorem dX12_numberHere_6 : decode cX12_numberHere 6 = .ok (.getfield 180, 3) := by decide +kernel
theorem dX12_numberHere_9 : decode cX12_numberHere 9 = .ok (.if_icmp .ge 34, 3) := by decide +kernel
theorem dX12_numberHere_12 : decode cX12_numberHere 12 = .ok (.iload_n 2, 1) := by decide +kernel
theorem dX12_numberHere_13 : decode cX12_numberHere 13 = .ok (.iconst 4, 1) := by decide +kernel
theorem dX12_numberHere_14 : decode cX12_numberHere 14 = .ok (.if_icmp .ge 29, 3) := by decide +kernel
theorem dX12_numberHere_17 : decode cX12_numberHere 17 = .ok (.bipush 10, 2) := by decide +kernel
theorem dX12_numberHere_19 : decode cX12_numberHere 19 = .ok (.iload_n 1, 1) := by decide +kernel
theorem dX12_numberHere_20 : decode cX12_numberHere 20 = .ok (.imul, 1) := by decide +kernel
theorem dX12_numberHere_21 : decode cX12_numberHere 21 = .ok (.aload_n 0, 1) := by decide +kernel
theorem dX12_numberHere_22 : decode cX12_numberHere 22 = .ok (.getfield 56, 3) := by decide +kernel
theorem dX12_numberHere_25 : decode cX12_numberHere 25 = .ok (.aload_n 0, 1) := by decide +kernel
theorem dX12_numberHere_26 : decode cX12_numberHere 26 = .ok (.getfield 177, 3) := by decide +kernel
theorem dX12_numberHere_29 : decode cX12_numberHere 29 = .ok (.iload_n 2, 1) := by decide +kernel
theorem dX12_numberHere_30 : decode cX12_numberHere 30 = .ok (.iadd, 1) := by decide +kernel
theorem dX12_numberHere_31 : decode cX12_numberHere 31 = .ok (.baload, 1) := by decide +kernel
theorem dX12_numberHere_32 : decode cX12_numberHere 32 = .ok (.iadd, 1) := by decide +kernel
theorem dX12_numberHere_33 : decode cX12_numberHere 33 = .ok (.bipush 48, 2) := by decide +kernel
theorem dX12_numberHere_35 : decode cX12_numberHere 35 = .ok (.isub, 1) := by decide +kernel
theorem dX12_numberHere_36 : decode cX12_numberHere 36 = .ok (.istore_n 1, 1) := by decide +kernel
theorem dX12_numberHere_37 : decode cX12_numberHere 37 = .ok (.iinc 2 1, 3) := by decide +kernel
theorem dX12_numberHere_40 : decode cX12_numberHere 40 = .ok (.goto (-36), 3) := by decide +kernel
theorem dX12_numberHere_43 : decode cX12_numberHere 43 = .ok (.iload_n 1, 1) := by decide +kernel
theorem dX12_numberHere_44 : decode cX12_numberHere 44 = .ok (.ireturn, 1) := by decide +kernel
theorem dX12_side_0 : decode cX12_side 0 = .ok (.aload_n 0, 1) := by decide +kernel
theorem dX12_side_1 : decode cX12_side 1 = .ok (.invokevirtual 186, 3) := by decide +kernel
theorem dX12_side_4 : decode cX12_side 4 = .ok (.aload_n 0, 1) := by decide +kernel
theorem dX12_side_5 : decode cX12_side 5 = .ok (.getfield 180, 3) := by decide +kernel
theorem dX12_side_8 : decode cX12_side 8 = .ok (.iconst 2, 1) := by decide +kernel
theorem dX12_side_9 : decode cX12_side 9 = .ok (.if_icmp .ne 67, 3) := by decide +kernel
theorem dX12_side_12 : decode cX12_side 12 = .ok (.aload_n 0, 1) := by decide +kernel
theorem dX12_side_13 : decode cX12_side 13 = .ok (.getfield 56, 3) := by decide +kernel
theorem dX12_side_16 : decode cX12_side 16 = .ok (.aload_n 0, 1) := by decide +kernel
theorem dX12_side_17 : decode cX12_side 17 = .ok (.getfield 177, 3) := by decide +kernel
theorem dX12_side_20 : decode cX12_side 20 = .ok (.baload, 1) := by decide +kernel
theorem dX12_side_21 : decode cX12_side 21 = .ok (.bipush 99, 2) := by decide +kernel
theorem dX12_side_23 : decode cX12_side 23 = .ok (.if_icmp .eq 17, 3) := by decide +kernel
theorem dX12_side_26 : decode cX12_side 26 = .ok (.aload_n 0, 1) := by decide +kernel
theorem dX12_side_27 : decode cX12_side 27 = .ok (.getfield 56, 3) := by decide +kernel
theorem dX12_side_30 : decode cX12_side 30 = .ok (.aload_n 0, 1) := by decide +kernel
theorem dX12_side_31 : decode cX12_side 31 = .ok (.getfield 177, 3) := by decide +kernel
theorem dX12_side_34 : decode cX12_side 34 = .ok (.baload, 1) := by decide +kernel
theorem dX12_side_35 : decode cX12_side 35 = .ok (.bipush 104, 2) := by decide +kernel
theorem dX12_side_37 : decode cX12_side 37 = .ok (.if_icmp .ne 39, 3) := by decide +kernel
theorem dX12_side_40 : decode cX12_side 40 = .ok (.aload_n 0, 1) := by decide +kernel
theorem dX12_side_41 : decode cX12_side 41 = .ok (.getfield 56, 3) := by decide +kernel
theorem dX12_side_44 : decode cX12_side 44 = .ok (.aload_n 0, 1) := by decide +kernel
theorem dX12_side_45 : decode cX12_side 45 = .ok (.getfield 177, 3) := by decide +kernel
theorem dX12_side_48 : decode cX12_side 48 = .ok (.iconst 1, 1) := by decide +kernel
theorem dX12_side_49 : decode cX12_side 49 = .ok (.iadd, 1) := by decide +kernel
theorem dX12_side_50 : decode cX12_side 50 = .ok (.baload, 1) := by decide +kernel
theorem dX12_side_51 : decode cX12_side 51 = .ok (.bipush 48, 2) := by decide +kernel
theorem dX12_side_53 : decode cX12_side 53 = .ok (.if_icmp .lt 23, 3) := by decide +kernel
theorem dX12_side_56 : decode cX12_side 56 = .ok (.aload_n 0, 1) := by decide +kernel
theorem dX12_side_57 : decode cX12_side 57 = .ok (.getfield 56, 3) := by decide +kernel
theorem dX12_side_60 : decode cX12_side 60 = .ok (.aload_n 0, 1) := by decide +kernel
theorem dX12_side_61 : decode cX12_side 61 = .ok (.getfield 177, 3) := by decide +kernel
theorem dX12_side_64 : decode cX12_side 64 = .ok (.iconst 1, 1) := by decide +kernel
theorem dX12_side_65 : decode cX12_side 65 = .ok (.iadd, 1) := by decide +kernel
theorem dX12_side_66 : decode cX12_side 66 = .ok (.baload, 1) := by decide +kernel
theorem dX12_side_67 : decode cX12_side 67 = .ok (.bipush 55, 2) := by decide +kernel
theorem dX12_side_69 : decode cX12_side 69 = .ok (.if_icmp .gt 7, 3) := by decide +kernel
theorem dX12_side_72 : decode cX12_side 72 = .ok (.iconst 1, 1) := by decide +kernel
theorem dX12_side_73 : decode cX12_side 73 = .ok (.goto 4, 3) := by decide +kernel
theorem dX12_side_76 : decode cX12_side 76 = .ok (.iconst 0, 1) := by decide +kernel
theorem dX12_side_77 : decode cX12_side 77 = .ok (.istore_n 2, 1) := by decide +kernel
theorem dX12_side_78 : decode cX12_side 78 = .ok (.iload_n 2, 1) := by decide +kernel
theorem dX12_side_79 : decode cX12_side 79 = .ok (.ifCond .ne 20, 3) := by decide +kernel
theorem dX12_side_82 : decode cX12_side 82 = .ok (.aload_n 0, 1) := by decide +kernel
theorem dX12_side_83 : decode cX12_side 83 = .ok (.invokevirtual 189, 3) := by decide +kernel
theorem dX12_side_86 : decode cX12_side 86 = .ok (.ifCond .ne 13, 3) := by decide +kernel
theorem dX12_side_89 : decode cX12_side 89 = .ok (.aload_n 0, 1) := by decide +kernel
theorem dX12_side_90 : decode cX12_side 90 = .ok (.iconst 0, 1) := by decide +kernel
theorem dX12_side_91 : decode cX12_side 91 = .ok (.aload_n 0, 1) := by decide +kernel
theorem dX12_side_92 : decode cX12_side 92 = .ok (.getfield 177, 3) := by decide +kernel
theorem dX12_side_95 : decode cX12_side 95 = .ok (.invokevirtual 193, 3) := by decide +kernel
theorem dX12_side_98 : decode cX12_side 98 = .ok (.ireturn, 1) := by decide +kernel
theorem dX12_side_99 : decode cX12_side 99 = .ok (.iload_n 2, 1) := by decide +kernel
theorem dX12_side_100 : decode cX12_side 100 = .ok (.ifCond .ne 21, 3) := by decide +kernel
theorem dX12_side_103 : decode cX12_side 103 = .ok (.aload_n 0, 1) := by decide +kernel
theorem dX12_side_104 : decode cX12_side 104 = .ok (.getfield 180, 3) := by decide +kernel
theorem dX12_side_107 : decode cX12_side 107 = .ok (.iconst 4, 1) := by decide +kernel
theorem dX12_side_108 : decode cX12_side 108 = .ok (.if_icmp .le 13, 3) := by decide +kernel
theorem dX12_side_111 : decode cX12_side 111 = .ok (.aload_n 0, 1) := by decide +kernel
theorem dX12_side_112 : decode cX12_side 112 = .ok (.iconst 1, 1) := by decide +kernel
theorem dX12_side_113 : decode cX12_side 113 = .ok (.aload_n 0, 1) := by decide +kernel
theorem dX12_side_114 : decode cX12_side 114 = .ok (.getfield 177, 3) := by decide +kernel
theorem dX12_side_117 : decode cX12_side 117 = .ok (.invokevirtual 193, 3) := by decide +kernel
theorem dX12_side_120 : decode cX12_side 120 = .ok (.ireturn, 1) := by decide +kernel
theorem dX12_side_121 : decode cX12_side 121 = .ok (.iload_n 1, 1) := by decide +kernel
theorem dX12_side_122 : decode cX12_side 122 = .ok (.ifCond .eq 13, 3) := by decide +kernel
theorem dX12_side_125 : decode cX12_side 125 = .ok (.aload_n 0, 1) := by decide +kernel
theorem dX12_side_126 : decode cX12_side 126 = .ok (.iconst 2, 1) := by decide +kernel
theorem dX12_side_127 : decode cX12_side 127 = .ok (.aload_n 0, 1) := by decide +kernel
theorem dX12_side_128 : decode cX12_side 128 = .ok (.getfield 177, 3) := by decide +kernel
theorem dX12_side_131 : decode cX12_side 131 = .ok (.invokevirtual 193, 3) := by decide +kernel
theorem dX12_side_134 : decode cX12_side 134 = .ok (.ireturn, 1) := by decide +kernel
theorem dX12_side_135 : decode cX12_side 135 = .ok (.aload_n 0, 1) := by decide +kernel
theorem dX12_side_136 : decode cX12_side 136 = .ok (.iload_n 2, 1) := by decide +kernel
theorem dX12_side_137 : decode cX12_side 137 = .ok (.ifCond .ne 7, 3) := by decide +kernel
theorem dX12_side_140 : decode cX12_side 140 = .ok (.iconst 0, 1) := by decide +kernel
theorem dX12_side_141 : decode cX12_side 141 = .ok (.goto 38, 3) := by decide +kernel
theorem dX12_side_144 : decode cX12_side 144 = .ok (.aload_n 0, 1) := by decide +kernel
theorem dX12_side_145 : decode cX12_side 145 = .ok (.getfield 56, 3) := by decide +kernel
theorem dX12_side_148 : decode cX12_side 148 = .ok (.aload_n 0, 1) := by decide +kernel
theorem dX12_side_149 : decode cX12_side 149 = .ok (.getfield 177, 3) := by decide +kernel
theorem dX12_side_152 : decode cX12_side 152 = .ok (.iconst 1, 1) := by decide +kernel
theorem dX12_side_153 : decode cX12_side 153 = .ok (.iadd, 1) := by decide +kernel
theorem dX12_side_154 : decode cX12_side 154 = .ok (.baload, 1) := by decide +kernel
theorem dX12_side_155 : decode cX12_side 155 = .ok (.bipush 48, 2) := by decide +kernel
theorem dX12_side_157 : decode cX12_side 157 = .ok (.isub, 1) := by decide +kernel
theorem dX12_side_158 : decode cX12_side 158 = .ok (.aload_n 0, 1) := by decide +kernel
theorem dX12_side_159 : decode cX12_side 159 = .ok (.getfield 56, 3) := by decide +kernel
theorem dX12_side_162 : decode cX12_side 162 = .ok (.aload_n 0, 1) := by decide +kernel
theorem dX12_side_163 : decode cX12_side 163 = .ok (.getfield 177, 3) := by decide +kernel
theorem dX12_side_166 : decode cX12_side 166 = .ok (.baload, 1) := by decide +kernel
theorem dX12_side_167 : decode cX12_side 167 = .ok (.bipush 99, 2) := by decide +kernel
theorem dX12_side_169 : decode cX12_side 169 = .ok (.if_icmp .ne 7, 3) := by decide +kernel
theorem dX12_side_172 : decode cX12_side 172 = .ok (.iconst 1, 1) := by decide +kernel
theorem dX12_side_173 : decode cX12_side 173 = .ok (.goto 5, 3) := by decide +kernel
theorem dX12_side_176 : decode cX12_side 176 = .ok (.bipush 9, 2) := by decide +kernel
theorem dX12_side_178 : decode cX12_side 178 = .ok (.iadd, 1) := by decide +kernel
theorem dX12_side_179 : decode cX12_side 179 = .ok (.putfield 197, 3) := by decide +kernel
theorem dX12_side_182 : decode cX12_side 182 = .ok (.aload_n 0, 1) := by decide +kernel
theorem dX12_side_183 : decode cX12_side 183 = .ok (.iload_n 2, 1) := by decide +kernel
theorem dX12_side_184 : decode cX12_side 184 = .ok (.ifCond .eq 7, 3) := by decide +kernel
theorem dX12_side_187 : decode cX12_side 187 = .ok (.iconst 0, 1) := by decide +kernel
theorem dX12_side_188 : decode cX12_side 188 = .ok (.goto 7, 3) := by decide +kernel
theorem dX12_side_191 : decode cX12_side 191 = .ok (.aload_n 0, 1) := by decide +kernel
theorem dX12_side_192 : decode cX12_side 192 = .ok (.invokevirtual 200, 3) := by decide +kernel
theorem dX12_side_195 : decode cX12_side 195 = .ok (.putfield 203, 3) := by decide +kernel
theorem dX12_side_198 : decode cX12_side 198 = .ok (.aload_n 0, 1) := by decide +kernel
theorem dX12_side_199 : decode cX12_side 199 = .ok (.aload_n 0, 1) := by decide +kernel
theorem dX12_side_200 : decode cX12_side 200 = .ok (.getfield 177, 3) := by decide +kernel
theorem dX12_side_203 : decode cX12_side 203 = .ok (.aload_n 0, 1) := by decide +kernel
theorem dX12_side_204 : decode cX12_side 204 = .ok (.getfield 180, 3) := by decide +kernel
theorem dX12_side_207 : decode cX12_side 207 = .ok (.iadd, 1) := by decide +kernel
theorem dX12_side_208 : decode cX12_side 208 = .ok (.putfield 167, 3) := by decide +kernel
theorem dX12_side_211 : decode cX12_side 211 = .ok (.iconst 1, 1) := by decide +kernel
theorem dX12_side_212 : decode cX12_side 212 = .ok (.ireturn, 1) := by decide +kernel
theorem dX12_rule_0 : decode cX12_rule 0 = .ok (.aload_n 0, 1) := by decide +kernel
theorem dX12_rule_1 : decode cX12_rule 1 = .ok (.invokevirtual 186, 3) := by decide +kernel
theorem dX12_rule_4 : decode cX12_rule 4 = .ok (.aload_n 0, 1) := by decide +kernel
theorem dX12_rule_5 : decode cX12_rule 5 = .ok (.getfield 87, 3) := by decide +kernel
theorem dX12_rule_8 : decode cX12_rule 8 = .ok (.iload_n 1, 1) := by decide +kernel
theorem dX12_rule_9 : decode cX12_rule 9 = .ok (.iconst 0, 1) := by decide +kernel
theorem dX12_rule_10 : decode cX12_rule 10 = .ok (.iastore, 1) := by decide +kernel
theorem dX12_rule_11 : decode cX12_rule 11 = .ok (.aload_n 0, 1) := by decide +kernel
theorem dX12_rule_12 : decode cX12_rule 12 = .ok (.getfield 90, 3) := by decide +kernel
theorem dX12_rule_15 : decode cX12_rule 15 = .ok (.iload_n 1, 1) := by decide +kernel
theorem dX12_rule_16 : decode cX12_rule 16 = .ok (.iconst 0, 1) := by decide +kernel
theorem dX12_rule_17 : decode cX12_rule 17 = .ok (.iastore, 1) := by decide +kernel
theorem dX12_rule_18 : decode cX12_rule 18 = .ok (.aload_n 0, 1) := by decide +kernel
theorem dX12_rule_19 : decode cX12_rule 19 = .ok (.bipush 109, 2) := by decide +kernel
theorem dX12_rule_21 : decode cX12_rule 21 = .ok (.bipush 117, 2) := by decide +kernel
theorem dX12_rule_23 : decode cX12_rule 23 = .ok (.bipush 115, 2) := by decide +kernel
theorem dX12_rule_25 : decode cX12_rule 25 = .ok (.bipush 116, 2) := by decide +kernel
theorem dX12_rule_27 : decode cX12_rule 27 = .ok (.invokevirtual 206, 3) := by decide +kernel
theorem dX12_rule_30 : decode cX12_rule 30 = .ok (.ifCond .eq 13, 3) := by decide +kernel
theorem dX12_rule_33 : decode cX12_rule 33 = .ok (.aload_n 0, 1) := by decide +kernel
theorem dX12_rule_34 : decode cX12_rule 34 = .ok (.getfield 84, 3) := by decide +kernel
theorem dX12_rule_37 : decode cX12_rule 37 = .ok (.iload_n 1, 1) := by decide +kernel
theorem dX12_rule_38 : decode cX12_rule 38 = .ok (.iconst 0, 1) := by decide +kernel
theorem dX12_rule_39 : decode cX12_rule 39 = .ok (.iastore, 1) := by decide +kernel
theorem dX12_rule_40 : decode cX12_rule 40 = .ok (.goto 55, 3) := by decide +kernel
theorem dX12_rule_43 : decode cX12_rule 43 = .ok (.aload_n 0, 1) := by decide +kernel
theorem dX12_rule_44 : decode cX12_rule 44 = .ok (.invokevirtual 210, 3) := by decide +kernel
theorem dX12_rule_47 : decode cX12_rule 47 = .ok (.ifCond .eq 13, 3) := by decide +kernel
theorem dX12_rule_50 : decode cX12_rule 50 = .ok (.aload_n 0, 1) := by decide +kernel
theorem dX12_rule_51 : decode cX12_rule 51 = .ok (.getfield 84, 3) := by decide +kernel
theorem dX12_rule_54 : decode cX12_rule 54 = .ok (.iload_n 1, 1) := by decide +kernel
theorem dX12_rule_55 : decode cX12_rule 55 = .ok (.iconst 1, 1) := by decide +kernel
theorem dX12_rule_56 : decode cX12_rule 56 = .ok (.iastore, 1) := by decide +kernel
theorem dX12_rule_57 : decode cX12_rule 57 = .ok (.goto 38, 3) := by decide +kernel
theorem dX12_rule_60 : decode cX12_rule 60 = .ok (.aload_n 0, 1) := by decide +kernel
theorem dX12_rule_61 : decode cX12_rule 61 = .ok (.bipush 119, 2) := by decide +kernel
theorem dX12_rule_63 : decode cX12_rule 63 = .ok (.bipush 105, 2) := by decide +kernel
theorem dX12_rule_65 : decode cX12_rule 65 = .ok (.bipush 115, 2) := by decide +kernel
theorem dX12_rule_67 : decode cX12_rule 67 = .ok (.bipush 104, 2) := by decide +kernel
theorem dX12_rule_69 : decode cX12_rule 69 = .ok (.invokevirtual 206, 3) := by decide +kernel
theorem dX12_rule_72 : decode cX12_rule 72 = .ok (.ifCond .eq 13, 3) := by decide +kernel
theorem dX12_rule_75 : decode cX12_rule 75 = .ok (.aload_n 0, 1) := by decide +kernel
theorem dX12_rule_76 : decode cX12_rule 76 = .ok (.getfield 84, 3) := by decide +kernel
theorem dX12_rule_79 : decode cX12_rule 79 = .ok (.iload_n 1, 1) := by decide +kernel
theorem dX12_rule_80 : decode cX12_rule 80 = .ok (.iconst 2, 1) := by decide +kernel
theorem dX12_rule_81 : decode cX12_rule 81 = .ok (.iastore, 1) := by decide +kernel
theorem dX12_rule_82 : decode cX12_rule 82 = .ok (.goto 13, 3) := by decide +kernel
theorem dX12_rule_85 : decode cX12_rule 85 = .ok (.aload_n 0, 1) := by decide +kernel
theorem dX12_rule_86 : decode cX12_rule 86 = .ok (.iconst 0, 1) := by decide +kernel
theorem dX12_rule_87 : decode cX12_rule 87 = .ok (.aload_n 0, 1) := by decide +kernel
theorem dX12_rule_88 : decode cX12_rule 88 = .ok (.getfield 177, 3) := by decide +kernel
theorem dX12_rule_91 : decode cX12_rule 91 = .ok (.invokevirtual 193, 3) := by decide +kernel
theorem dX12_rule_94 : decode cX12_rule 94 = .ok (.ireturn, 1) := by decide +kernel
theorem dX12_rule_95 : decode cX12_rule 95 = .ok (.iload_n 1, 1) := by decide +kernel
theorem dX12_rule_96 : decode cX12_rule 96 = .ok (.bipush 20, 2) := by decide +kernel
theorem dX12_rule_98 : decode cX12_rule 98 = .ok (.if_icmp .ne 13, 3) := by decide +kernel
theorem dX12_rule_101 : decode cX12_rule 101 = .ok (.aload_n 0, 1) := by decide +kernel
theorem dX12_rule_102 : decode cX12_rule 102 = .ok (.iconst 2, 1) := by decide +kernel
theorem dX12_rule_103 : decode cX12_rule 103 = .ok (.aload_n 0, 1) := by decide +kernel
theorem dX12_rule_104 : decode cX12_rule 104 = .ok (.getfield 177, 3) := by decide +kernel
theorem dX12_rule_107 : decode cX12_rule 107 = .ok (.invokevirtual 193, 3) := by decide +kernel
theorem dX12_rule_110 : decode cX12_rule 110 = .ok (.ireturn, 1) := by decide +kernel
theorem dX12_rule_111 : decode cX12_rule 111 = .ok (.aload_n 0, 1) := by decide +kernel
theorem dX12_rule_112 : decode cX12_rule 112 = .ok (.aload_n 0, 1) := by decide +kernel
theorem dX12_rule_113 : decode cX12_rule 113 = .ok (.getfield 177, 3) := by decide +kernel
theorem dX12_rule_116 : decode cX12_rule 116 = .ok (.aload_n 0, 1) := by decide +kernel
theorem dX12_rule_117 : decode cX12_rule 117 = .ok (.getfield 180, 3) := by decide +kernel
theorem dX12_rule_120 : decode cX12_rule 120 = .ok (.iadd, 1) := by decide +kernel
theorem dX12_rule_121 : decode cX12_rule 121 = .ok (.putfield 167, 3) := by decide +kernel
theorem dX12_rule_124 : decode cX12_rule 124 = .ok (.aload_n 0, 1) := by decide +kernel
theorem dX12_rule_125 : decode cX12_rule 125 = .ok (.getfield 84, 3) := by decide +kernel
theorem dX12_rule_128 : decode cX12_rule 128 = .ok (.iload_n 1, 1) := by decide +kernel
theorem dX12_rule_129 : decode cX12_rule 129 = .ok (.iaload, 1) := by decide +kernel
theorem dX12_rule_130 : decode cX12_rule 130 = .ok (.iconst 2, 1) := by decide +kernel
theorem dX12_rule_131 : decode cX12_rule 131 = .ok (.if_icmp .ne 78, 3) := by decide +kernel
theorem dX12_rule_134 : decode cX12_rule 134 = .ok (.aload_n 0, 1) := by decide +kernel
theorem dX12_rule_135 : decode cX12_rule 135 = .ok (.invokevirtual 186, 3) := by decide +kernel
theorem dX12_rule_138 : decode cX12_rule 138 = .ok (.aload_n 0, 1) := by decide +kernel
theorem dX12_rule_139 : decode cX12_rule 139 = .ok (.invokevirtual 189, 3) := by decide +kernel
theorem dX12_rule_142 : decode cX12_rule 142 = .ok (.ifCond .ne 13, 3) := by decide +kernel
theorem dX12_rule_145 : decode cX12_rule 145 = .ok (.aload_n 0, 1) := by decide +kernel
theorem dX12_rule_146 : decode cX12_rule 146 = .ok (.iconst 0, 1) := by decide +kernel
theorem dX12_rule_147 : decode cX12_rule 147 = .ok (.aload_n 0, 1) := by decide +kernel
theorem dX12_rule_148 : decode cX12_rule 148 = .ok (.getfield 177, 3) := by decide +kernel
theorem dX12_rule_151 : decode cX12_rule 151 = .ok (.invokevirtual 193, 3) := by decide +kernel
theorem dX12_rule_154 : decode cX12_rule 154 = .ok (.ireturn, 1) := by decide +kernel
theorem dX12_rule_155 : decode cX12_rule 155 = .ok (.aload_n 0, 1) := by decide +kernel
theorem dX12_rule_156 : decode cX12_rule 156 = .ok (.getfield 180, 3) := by decide +kernel
theorem dX12_rule_159 : decode cX12_rule 159 = .ok (.iconst 4, 1) := by decide +kernel
theorem dX12_rule_160 : decode cX12_rule 160 = .ok (.if_icmp .gt 16, 3) := by decide +kernel
theorem dX12_rule_163 : decode cX12_rule 163 = .ok (.aload_n 0, 1) := by decide +kernel
theorem dX12_rule_164 : decode cX12_rule 164 = .ok (.invokevirtual 200, 3) := by decide +kernel
theorem dX12_rule_167 : decode cX12_rule 167 = .ok (.iconst 1, 1) := by decide +kernel
theorem dX12_rule_168 : decode cX12_rule 168 = .ok (.bipush 100, 2) := by decide +kernel
theorem dX12_rule_170 : decode cX12_rule 170 = .ok (.invokestatic 123, 3) := by decide +kernel
theorem dX12_rule_173 : decode cX12_rule 173 = .ok (.ifCond .ne 13, 3) := by decide +kernel
theorem dX12_rule_176 : decode cX12_rule 176 = .ok (.aload_n 0, 1) := by decide +kernel
theorem dX12_rule_177 : decode cX12_rule 177 = .ok (.iconst 1, 1) := by decide +kernel
theorem dX12_rule_178 : decode cX12_rule 178 = .ok (.aload_n 0, 1) := by decide +kernel
theorem dX12_rule_179 : decode cX12_rule 179 = .ok (.getfield 177, 3) := by decide +kernel
theorem dX12_rule_182 : decode cX12_rule 182 = .ok (.invokevirtual 193, 3) := by decide +kernel
theorem dX12_rule_185 : decode cX12_rule 185 = .ok (.ireturn, 1) := by decide +kernel
theorem dX12_rule_186 : decode cX12_rule 186 = .ok (.aload_n 0, 1) := by decide +kernel
theorem dX12_rule_187 : decode cX12_rule 187 = .ok (.getfield 87, 3) := by decide +kernel
theorem dX12_rule_190 : decode cX12_rule 190 = .ok (.iload_n 1, 1) := by decide +kernel
theorem dX12_rule_191 : decode cX12_rule 191 = .ok (.aload_n 0, 1) := by decide +kernel
theorem dX12_rule_192 : decode cX12_rule 192 = .ok (.invokevirtual 200, 3) := by decide +kernel
theorem dX12_rule_195 : decode cX12_rule 195 = .ok (.iastore, 1) := by decide +kernel
theorem dX12_rule_196 : decode cX12_rule 196 = .ok (.aload_n 0, 1) := by decide +kernel
theorem dX12_rule_197 : decode cX12_rule 197 = .ok (.aload_n 0, 1) := by decide +kernel
theorem dX12_rule_198 : decode cX12_rule 198 = .ok (.getfield 177, 3) := by decide +kernel
theorem dX12_rule_201 : decode cX12_rule 201 = .ok (.aload_n 0, 1) := by decide +kernel
theorem dX12_rule_202 : decode cX12_rule 202 = .ok (.getfield 180, 3) := by decide +kernel
theorem dX12_rule_205 : decode cX12_rule 205 = .ok (.iadd, 1) := by decide +kernel
theorem dX12_rule_206 : decode cX12_rule 206 = .ok (.putfield 167, 3) := by decide +kernel
theorem dX12_rule_209 : decode cX12_rule 209 = .ok (.iconst 1, 1) := by decide +kernel
theorem dX12_rule_210 : decode cX12_rule 210 = .ok (.istore_n 2, 1) := by decide +kernel
theorem dX12_rule_211 : decode cX12_rule 211 = .ok (.iload_n 2, 1) := by decide +kernel
theorem dX12_rule_212 : decode cX12_rule 212 = .ok (.ifCond .eq 184, 3) := by decide +kernel
theorem dX12_rule_215 : decode cX12_rule 215 = .ok (.bipush 6, 2) := by decide +kernel
theorem dX12_rule_217 : decode cX12_rule 217 = .ok (.iload_n 1, 1) := by decide +kernel
theorem dX12_rule_218 : decode cX12_rule 218 = .ok (.imul, 1) := by decide +kernel
theorem dX12_rule_219 : decode cX12_rule 219 = .ok (.aload_n 0, 1) := by decide +kernel
theorem dX12_rule_220 : decode cX12_rule 220 = .ok (.getfield 90, 3) := by decide +kernel
theorem dX12_rule_223 : decode cX12_rule 223 = .ok (.iload_n 1, 1) := by decide +kernel
theorem dX12_rule_224 : decode cX12_rule 224 = .ok (.iaload, 1) := by decide +kernel
theorem dX12_rule_225 : decode cX12_rule 225 = .ok (.iadd, 1) := by decide +kernel
theorem dX12_rule_226 : decode cX12_rule 226 = .ok (.istore_n 3, 1) := by decide +kernel
theorem dX12_rule_227 : decode cX12_rule 227 = .ok (.aload_n 0, 1) := by decide +kernel
theorem dX12_rule_228 : decode cX12_rule 228 = .ok (.aload_n 0, 1) := by decide +kernel
theorem dX12_rule_229 : decode cX12_rule 229 = .ok (.getfield 90, 3) := by decide +kernel
theorem dX12_rule_232 : decode cX12_rule 232 = .ok (.iload_n 1, 1) := by decide +kernel
theorem dX12_rule_233 : decode cX12_rule 233 = .ok (.iaload, 1) := by decide +kernel
theorem dX12_rule_234 : decode cX12_rule 234 = .ok (.bipush 6, 2) := by decide +kernel
theorem dX12_rule_236 : decode cX12_rule 236 = .ok (.if_icmp .ne 7, 3) := by decide +kernel
theorem dX12_rule_239 : decode cX12_rule 239 = .ok (.iconst 1, 1) := by decide +kernel
theorem dX12_rule_240 : decode cX12_rule 240 = .ok (.goto 4, 3) := by decide +kernel
theorem dX12_rule_243 : decode cX12_rule 243 = .ok (.iconst 0, 1) := by decide +kernel
theorem dX12_rule_244 : decode cX12_rule 244 = .ok (.invokevirtual 213, 3) := by decide +kernel
theorem dX12_rule_247 : decode cX12_rule 247 = .ok (.ifCond .ne 5, 3) := by decide +kernel
theorem dX12_rule_250 : decode cX12_rule 250 = .ok (.iconst 0, 1) := by decide +kernel
theorem dX12_rule_251 : decode cX12_rule 251 = .ok (.ireturn, 1) := by decide +kernel
theorem dX12_rule_252 : decode cX12_rule 252 = .ok (.aload_n 0, 1) := by decide +kernel
theorem dX12_rule_253 : decode cX12_rule 253 = .ok (.getfield 93, 3) := by decide +kernel
theorem dX12_rule_256 : decode cX12_rule 256 = .ok (.iload_n 3, 1) := by decide +kernel
theorem dX12_rule_257 : decode cX12_rule 257 = .ok (.aload_n 0, 1) := by decide +kernel
theorem dX12_rule_258 : decode cX12_rule 258 = .ok (.getfield 197, 3) := by decide +kernel
theorem dX12_rule_261 : decode cX12_rule 261 = .ok (.iastore, 1) := by decide +kernel
theorem dX12_rule_262 : decode cX12_rule 262 = .ok (.aload_n 0, 1) := by decide +kernel
theorem dX12_rule_263 : decode cX12_rule 263 = .ok (.getfield 96, 3) := by decide +kernel
theorem dX12_rule_266 : decode cX12_rule 266 = .ok (.iload_n 3, 1) := by decide +kernel
theorem dX12_rule_267 : decode cX12_rule 267 = .ok (.aload_n 0, 1) := by decide +kernel
theorem dX12_rule_268 : decode cX12_rule 268 = .ok (.getfield 203, 3) := by decide +kernel
theorem dX12_rule_271 : decode cX12_rule 271 = .ok (.iastore, 1) := by decide +kernel
theorem dX12_rule_272 : decode cX12_rule 272 = .ok (.aload_n 0, 1) := by decide +kernel
theorem dX12_rule_273 : decode cX12_rule 273 = .ok (.invokevirtual 173, 3) := by decide +kernel
theorem dX12_rule_276 : decode cX12_rule 276 = .ok (.istore 4, 2) := by decide +kernel
theorem dX12_rule_278 : decode cX12_rule 278 = .ok (.iload 4, 2) := by decide +kernel
theorem dX12_rule_280 : decode cX12_rule 280 = .ok (.bipush 60, 2) := by decide +kernel
theorem dX12_rule_282 : decode cX12_rule 282 = .ok (.if_icmp .eq 27, 3) := by decide +kernel
theorem dX12_rule_285 : decode cX12_rule 285 = .ok (.iload 4, 2) := by decide +kernel
theorem dX12_rule_287 : decode cX12_rule 287 = .ok (.bipush 62, 2) := by decide +kernel
theorem dX12_rule_289 : decode cX12_rule 289 = .ok (.if_icmp .eq 20, 3) := by decide +kernel
theorem dX12_rule_292 : decode cX12_rule 292 = .ok (.iload 4, 2) := by decide +kernel
theorem dX12_rule_294 : decode cX12_rule 294 = .ok (.bipush 61, 2) := by decide +kernel
theorem dX12_rule_296 : decode cX12_rule 296 = .ok (.if_icmp .eq 13, 3) := by decide +kernel
theorem dX12_rule_299 : decode cX12_rule 299 = .ok (.aload_n 0, 1) := by decide +kernel
theorem dX12_rule_300 : decode cX12_rule 300 = .ok (.iconst 0, 1) := by decide +kernel
theorem dX12_rule_301 : decode cX12_rule 301 = .ok (.aload_n 0, 1) := by decide +kernel
theorem dX12_rule_302 : decode cX12_rule 302 = .ok (.getfield 167, 3) := by decide +kernel
theorem dX12_rule_305 : decode cX12_rule 305 = .ok (.invokevirtual 193, 3) := by decide +kernel
theorem dX12_rule_308 : decode cX12_rule 308 = .ok (.ireturn, 1) := by decide +kernel
theorem dX12_rule_309 : decode cX12_rule 309 = .ok (.aload_n 0, 1) := by decide +kernel
theorem dX12_rule_310 : decode cX12_rule 310 = .ok (.getfield 99, 3) := by decide +kernel
theorem dX12_rule_313 : decode cX12_rule 313 = .ok (.iload_n 3, 1) := by decide +kernel
theorem dX12_rule_314 : decode cX12_rule 314 = .ok (.iload 4, 2) := by decide +kernel
theorem dX12_rule_316 : decode cX12_rule 316 = .ok (.iastore, 1) := by decide +kernel
theorem dX12_rule_317 : decode cX12_rule 317 = .ok (.aload_n 0, 1) := by decide +kernel
theorem dX12_rule_318 : decode cX12_rule 318 = .ok (.dup, 1) := by decide +kernel
theorem dX12_rule_319 : decode cX12_rule 319 = .ok (.getfield 167, 3) := by decide +kernel
theorem dX12_rule_322 : decode cX12_rule 322 = .ok (.iconst 1, 1) := by decide +kernel
theorem dX12_rule_323 : decode cX12_rule 323 = .ok (.iadd, 1) := by decide +kernel
theorem dX12_rule_324 : decode cX12_rule 324 = .ok (.putfield 167, 3) := by decide +kernel
theorem dX12_rule_327 : decode cX12_rule 327 = .ok (.aload_n 0, 1) := by decide +kernel
theorem dX12_rule_328 : decode cX12_rule 328 = .ok (.iconst 0, 1) := by decide +kernel
theorem dX12_rule_329 : decode cX12_rule 329 = .ok (.invokevirtual 213, 3) := by decide +kernel
theorem dX12_rule_332 : decode cX12_rule 332 = .ok (.ifCond .ne 5, 3) := by decide +kernel
theorem dX12_rule_335 : decode cX12_rule 335 = .ok (.iconst 0, 1) := by decide +kernel
theorem dX12_rule_336 : decode cX12_rule 336 = .ok (.ireturn, 1) := by decide +kernel
theorem dX12_rule_337 : decode cX12_rule 337 = .ok (.aload_n 0, 1) := by decide +kernel
theorem dX12_rule_338 : decode cX12_rule 338 = .ok (.getfield 102, 3) := by decide +kernel
theorem dX12_rule_341 : decode cX12_rule 341 = .ok (.iload_n 3, 1) := by decide +kernel
theorem dX12_rule_342 : decode cX12_rule 342 = .ok (.aload_n 0, 1) := by decide +kernel
theorem dX12_rule_343 : decode cX12_rule 343 = .ok (.getfield 197, 3) := by decide +kernel
theorem dX12_rule_346 : decode cX12_rule 346 = .ok (.iastore, 1) := by decide +kernel
theorem dX12_rule_347 : decode cX12_rule 347 = .ok (.aload_n 0, 1) := by decide +kernel
theorem dX12_rule_348 : decode cX12_rule 348 = .ok (.getfield 105, 3) := by decide +kernel
theorem dX12_rule_351 : decode cX12_rule 351 = .ok (.iload_n 3, 1) := by decide +kernel
theorem dX12_rule_352 : decode cX12_rule 352 = .ok (.aload_n 0, 1) := by decide +kernel
theorem dX12_rule_353 : decode cX12_rule 353 = .ok (.getfield 203, 3) := by decide +kernel
theorem dX12_rule_356 : decode cX12_rule 356 = .ok (.iastore, 1) := by decide +kernel
theorem dX12_rule_357 : decode cX12_rule 357 = .ok (.aload_n 0, 1) := by decide +kernel
theorem dX12_rule_358 : decode cX12_rule 358 = .ok (.getfield 90, 3) := by decide +kernel
theorem dX12_rule_361 : decode cX12_rule 361 = .ok (.iload_n 1, 1) := by decide +kernel
theorem dX12_rule_362 : decode cX12_rule 362 = .ok (.dup2, 1) := by decide +kernel
theorem dX12_rule_363 : decode cX12_rule 363 = .ok (.iaload, 1) := by decide +kernel
theorem dX12_rule_364 : decode cX12_rule 364 = .ok (.iconst 1, 1) := by decide +kernel
theorem dX12_rule_365 : decode cX12_rule 365 = .ok (.iadd, 1) := by decide +kernel
theorem dX12_rule_366 : decode cX12_rule 366 = .ok (.iastore, 1) := by decide +kernel
theorem dX12_rule_367 : decode cX12_rule 367 = .ok (.aload_n 0, 1) := by decide +kernel
theorem dX12_rule_368 : decode cX12_rule 368 = .ok (.invokevirtual 186, 3) := by decide +kernel
theorem dX12_rule_371 : decode cX12_rule 371 = .ok (.aload_n 0, 1) := by decide +kernel
theorem dX12_rule_372 : decode cX12_rule 372 = .ok (.invokevirtual 217, 3) := by decide +kernel
theorem dX12_rule_375 : decode cX12_rule 375 = .ok (.istore_n 2, 1) := by decide +kernel
theorem dX12_rule_376 : decode cX12_rule 376 = .ok (.iload_n 2, 1) := by decide +kernel
theorem dX12_rule_377 : decode cX12_rule 377 = .ok (.ifCond .eq 16, 3) := by decide +kernel
theorem dX12_rule_380 : decode cX12_rule 380 = .ok (.aload_n 0, 1) := by decide +kernel
theorem dX12_rule_381 : decode cX12_rule 381 = .ok (.aload_n 0, 1) := by decide +kernel
theorem dX12_rule_382 : decode cX12_rule 382 = .ok (.getfield 177, 3) := by decide +kernel
theorem dX12_rule_385 : decode cX12_rule 385 = .ok (.aload_n 0, 1) := by decide +kernel
theorem dX12_rule_386 : decode cX12_rule 386 = .ok (.getfield 180, 3) := by decide +kernel
theorem dX12_rule_389 : decode cX12_rule 389 = .ok (.iadd, 1) := by decide +kernel
theorem dX12_rule_390 : decode cX12_rule 390 = .ok (.putfield 167, 3) := by decide +kernel
theorem dX12_rule_393 : decode cX12_rule 393 = .ok (.goto (-182), 3) := by decide +kernel
theorem dX12_rule_396 : decode cX12_rule 396 = .ok (.iconst 1, 1) := by decide +kernel
theorem dX12_rule_397 : decode cX12_rule 397 = .ok (.ireturn, 1) := by decide +kernel
theorem dX12_rules_0 : decode cX12_rules 0 = .ok (.aload_n 0, 1) := by decide +kernel
theorem dX12_rules_1 : decode cX12_rules 1 = .ok (.iconst 0, 1) := by decide +kernel
theorem dX12_rules_2 : decode cX12_rules 2 = .ok (.putfield 167, 3) := by decide +kernel
theorem dX12_rules_5 : decode cX12_rules 5 = .ok (.aload_n 0, 1) := by decide +kernel
theorem dX12_rules_6 : decode cX12_rules 6 = .ok (.iconst 0, 1) := by decide +kernel
theorem dX12_rules_7 : decode cX12_rules 7 = .ok (.putfield 164, 3) := by decide +kernel
theorem dX12_rules_10 : decode cX12_rules 10 = .ok (.iconst 0, 1) := by decide +kernel
theorem dX12_rules_11 : decode cX12_rules 11 = .ok (.istore_n 1, 1) := by decide +kernel
theorem dX12_rules_12 : decode cX12_rules 12 = .ok (.iconst 1, 1) := by decide +kernel
theorem dX12_rules_13 : decode cX12_rules 13 = .ok (.istore_n 2, 1) := by decide +kernel
theorem dX12_rules_14 : decode cX12_rules 14 = .ok (.aload_n 0, 1) := by decide +kernel
theorem dX12_rules_15 : decode cX12_rules 15 = .ok (.invokevirtual 173, 3) := by decide +kernel
theorem dX12_rules_18 : decode cX12_rules 18 = .ok (.iconst (-1), 1) := by decide +kernel
theorem dX12_rules_19 : decode cX12_rules 19 = .ok (.if_icmp .eq 7, 3) := by decide +kernel
theorem dX12_rules_22 : decode cX12_rules 22 = .ok (.iconst 1, 1) := by decide +kernel
theorem dX12_rules_23 : decode cX12_rules 23 = .ok (.goto 4, 3) := by decide +kernel
theorem dX12_rules_26 : decode cX12_rules 26 = .ok (.iconst 0, 1) := by decide +kernel
theorem dX12_rules_27 : decode cX12_rules 27 = .ok (.istore_n 3, 1) := by decide +kernel
theorem dX12_rules_28 : decode cX12_rules 28 = .ok (.iload_n 2, 1) := by decide +kernel
theorem dX12_rules_29 : decode cX12_rules 29 = .ok (.ifCond .eq 74, 3) := by decide +kernel
theorem dX12_rules_32 : decode cX12_rules 32 = .ok (.iload_n 3, 1) := by decide +kernel
theorem dX12_rules_33 : decode cX12_rules 33 = .ok (.ifCond .eq 70, 3) := by decide +kernel
theorem dX12_rules_36 : decode cX12_rules 36 = .ok (.aload_n 0, 1) := by decide +kernel
theorem dX12_rules_37 : decode cX12_rules 37 = .ok (.iload_n 1, 1) := by decide +kernel
theorem dX12_rules_38 : decode cX12_rules 38 = .ok (.invokevirtual 220, 3) := by decide +kernel
theorem dX12_rules_41 : decode cX12_rules 41 = .ok (.istore_n 2, 1) := by decide +kernel
theorem dX12_rules_42 : decode cX12_rules 42 = .ok (.iinc 1 1, 3) := by decide +kernel
theorem dX12_rules_45 : decode cX12_rules 45 = .ok (.iload_n 2, 1) := by decide +kernel
theorem dX12_rules_46 : decode cX12_rules 46 = .ok (.ifCond .eq 15, 3) := by decide +kernel
theorem dX12_rules_49 : decode cX12_rules 49 = .ok (.aload_n 0, 1) := by decide +kernel
theorem dX12_rules_50 : decode cX12_rules 50 = .ok (.invokevirtual 173, 3) := by decide +kernel
theorem dX12_rules_53 : decode cX12_rules 53 = .ok (.iconst (-1), 1) := by decide +kernel
theorem dX12_rules_54 : decode cX12_rules 54 = .ok (.if_icmp .eq 7, 3) := by decide +kernel
theorem dX12_rules_57 : decode cX12_rules 57 = .ok (.iconst 1, 1) := by decide +kernel
theorem dX12_rules_58 : decode cX12_rules 58 = .ok (.goto 4, 3) := by decide +kernel
theorem dX12_rules_61 : decode cX12_rules 61 = .ok (.iconst 0, 1) := by decide +kernel
theorem dX12_rules_62 : decode cX12_rules 62 = .ok (.istore_n 3, 1) := by decide +kernel
theorem dX12_rules_63 : decode cX12_rules 63 = .ok (.iload_n 3, 1) := by decide +kernel
theorem dX12_rules_64 : decode cX12_rules 64 = .ok (.ifCond .eq 22, 3) := by decide +kernel
theorem dX12_rules_67 : decode cX12_rules 67 = .ok (.aload_n 0, 1) := by decide +kernel
theorem dX12_rules_68 : decode cX12_rules 68 = .ok (.invokevirtual 173, 3) := by decide +kernel
theorem dX12_rules_71 : decode cX12_rules 71 = .ok (.bipush 59, 2) := by decide +kernel
theorem dX12_rules_73 : decode cX12_rules 73 = .ok (.if_icmp .eq 13, 3) := by decide +kernel
theorem dX12_rules_76 : decode cX12_rules 76 = .ok (.aload_n 0, 1) := by decide +kernel
theorem dX12_rules_77 : decode cX12_rules 77 = .ok (.iconst 0, 1) := by decide +kernel
theorem dX12_rules_78 : decode cX12_rules 78 = .ok (.aload_n 0, 1) := by decide +kernel
theorem dX12_rules_79 : decode cX12_rules 79 = .ok (.getfield 167, 3) := by decide +kernel
theorem dX12_rules_82 : decode cX12_rules 82 = .ok (.invokevirtual 193, 3) := by decide +kernel
theorem dX12_rules_85 : decode cX12_rules 85 = .ok (.istore_n 2, 1) := by decide +kernel
theorem dX12_rules_86 : decode cX12_rules 86 = .ok (.iload_n 3, 1) := by decide +kernel
theorem dX12_rules_87 : decode cX12_rules 87 = .ok (.ifCond .eq (-59), 3) := by decide +kernel
theorem dX12_rules_90 : decode cX12_rules 90 = .ok (.aload_n 0, 1) := by decide +kernel
theorem dX12_rules_91 : decode cX12_rules 91 = .ok (.dup, 1) := by decide +kernel
theorem dX12_rules_92 : decode cX12_rules 92 = .ok (.getfield 167, 3) := by decide +kernel
theorem dX12_rules_95 : decode cX12_rules 95 = .ok (.iconst 1, 1) := by decide +kernel
theorem dX12_rules_96 : decode cX12_rules 96 = .ok (.iadd, 1) := by decide +kernel
theorem dX12_rules_97 : decode cX12_rules 97 = .ok (.putfield 167, 3) := by decide +kernel
theorem dX12_rules_100 : decode cX12_rules 100 = .ok (.goto (-72), 3) := by decide +kernel
theorem dX12_rules_103 : decode cX12_rules 103 = .ok (.aload_n 0, 1) := by decide +kernel
theorem dX12_rules_104 : decode cX12_rules 104 = .ok (.iconst 0, 1) := by decide +kernel
theorem dX12_rules_105 : decode cX12_rules 105 = .ok (.putfield 157, 3) := by decide +kernel
theorem dX12_rules_108 : decode cX12_rules 108 = .ok (.iload_n 2, 1) := by decide +kernel
theorem dX12_rules_109 : decode cX12_rules 109 = .ok (.ifCond .ne 11, 3) := by decide +kernel
theorem dX12_rules_112 : decode cX12_rules 112 = .ok (.bipush (-2), 2) := by decide +kernel
theorem dX12_rules_114 : decode cX12_rules 114 = .ok (.aload_n 0, 1) := by decide +kernel
theorem dX12_rules_115 : decode cX12_rules 115 = .ok (.getfield 164, 3) := by decide +kernel
theorem dX12_rules_118 : decode cX12_rules 118 = .ok (.isub, 1) := by decide +kernel
theorem dX12_rules_119 : decode cX12_rules 119 = .ok (.ireturn, 1) := by decide +kernel
theorem dX12_rules_120 : decode cX12_rules 120 = .ok (.aload_n 0, 1) := by decide +kernel
theorem dX12_rules_121 : decode cX12_rules 121 = .ok (.iload_n 1, 1) := by decide +kernel
theorem dX12_rules_122 : decode cX12_rules 122 = .ok (.putfield 223, 3) := by decide +kernel
theorem dX12_rules_125 : decode cX12_rules 125 = .ok (.iconst 0, 1) := by decide +kernel
theorem dX12_rules_126 : decode cX12_rules 126 = .ok (.istore 4, 2) := by decide +kernel
theorem dX12_rules_128 : decode cX12_rules 128 = .ok (.iload 4, 2) := by decide +kernel
theorem dX12_rules_130 : decode cX12_rules 130 = .ok (.iload_n 1, 1) := by decide +kernel
theorem dX12_rules_131 : decode cX12_rules 131 = .ok (.if_icmp .ge 152, 3) := by decide +kernel
theorem dX12_rules_134 : decode cX12_rules 134 = .ok (.aload_n 0, 1) := by decide +kernel
theorem dX12_rules_135 : decode cX12_rules 135 = .ok (.getfield 60, 3) := by decide +kernel
theorem dX12_rules_138 : decode cX12_rules 138 = .ok (.iload 4, 2) := by decide +kernel
theorem dX12_rules_140 : decode cX12_rules 140 = .ok (.aload_n 0, 1) := by decide +kernel
theorem dX12_rules_141 : decode cX12_rules 141 = .ok (.getfield 84, 3) := by decide +kernel
theorem dX12_rules_144 : decode cX12_rules 144 = .ok (.iload 4, 2) := by decide +kernel
theorem dX12_rules_146 : decode cX12_rules 146 = .ok (.iaload, 1) := by decide +kernel
theorem dX12_rules_147 : decode cX12_rules 147 = .ok (.iastore, 1) := by decide +kernel
theorem dX12_rules_148 : decode cX12_rules 148 = .ok (.aload_n 0, 1) := by decide +kernel
theorem dX12_rules_149 : decode cX12_rules 149 = .ok (.getfield 63, 3) := by decide +kernel
theorem dX12_rules_152 : decode cX12_rules 152 = .ok (.iload 4, 2) := by decide +kernel
theorem dX12_rules_154 : decode cX12_rules 154 = .ok (.aload_n 0, 1) := by decide +kernel
theorem dX12_rules_155 : decode cX12_rules 155 = .ok (.getfield 87, 3) := by decide +kernel
theorem dX12_rules_158 : decode cX12_rules 158 = .ok (.iload 4, 2) := by decide +kernel
theorem dX12_rules_160 : decode cX12_rules 160 = .ok (.iaload, 1) := by decide +kernel
theorem dX12_rules_161 : decode cX12_rules 161 = .ok (.iastore, 1) := by decide +kernel
theorem dX12_rules_162 : decode cX12_rules 162 = .ok (.aload_n 0, 1) := by decide +kernel
theorem dX12_rules_163 : decode cX12_rules 163 = .ok (.getfield 66, 3) := by decide +kernel
theorem dX12_rules_166 : decode cX12_rules 166 = .ok (.iload 4, 2) := by decide +kernel
theorem dX12_rules_168 : decode cX12_rules 168 = .ok (.aload_n 0, 1) := by decide +kernel
theorem dX12_rules_169 : decode cX12_rules 169 = .ok (.getfield 90, 3) := by decide +kernel
theorem dX12_rules_172 : decode cX12_rules 172 = .ok (.iload 4, 2) := by decide +kernel
theorem dX12_rules_174 : decode cX12_rules 174 = .ok (.iaload, 1) := by decide +kernel
theorem dX12_rules_175 : decode cX12_rules 175 = .ok (.iastore, 1) := by decide +kernel
theorem dX12_rules_176 : decode cX12_rules 176 = .ok (.bipush 6, 2) := by decide +kernel
theorem dX12_rules_178 : decode cX12_rules 178 = .ok (.iload 4, 2) := by decide +kernel
theorem dX12_rules_180 : decode cX12_rules 180 = .ok (.imul, 1) := by decide +kernel
theorem dX12_rules_181 : decode cX12_rules 181 = .ok (.istore 5, 2) := by decide +kernel
theorem dX12_rules_183 : decode cX12_rules 183 = .ok (.iload 5, 2) := by decide +kernel
theorem dX12_rules_185 : decode cX12_rules 185 = .ok (.bipush 6, 2) := by decide +kernel
theorem dX12_rules_187 : decode cX12_rules 187 = .ok (.iload 4, 2) := by decide +kernel
theorem dX12_rules_189 : decode cX12_rules 189 = .ok (.imul, 1) := by decide +kernel
theorem dX12_rules_190 : decode cX12_rules 190 = .ok (.aload_n 0, 1) := by decide +kernel
theorem dX12_rules_191 : decode cX12_rules 191 = .ok (.getfield 66, 3) := by decide +kernel
theorem dX12_rules_194 : decode cX12_rules 194 = .ok (.iload 4, 2) := by decide +kernel
theorem dX12_rules_196 : decode cX12_rules 196 = .ok (.iaload, 1) := by decide +kernel
theorem dX12_rules_197 : decode cX12_rules 197 = .ok (.iadd, 1) := by decide +kernel
theorem dX12_rules_198 : decode cX12_rules 198 = .ok (.if_icmp .ge 79, 3) := by decide +kernel
theorem dX12_rules_201 : decode cX12_rules 201 = .ok (.aload_n 0, 1) := by decide +kernel
theorem dX12_rules_202 : decode cX12_rules 202 = .ok (.getfield 69, 3) := by decide +kernel
theorem dX12_rules_205 : decode cX12_rules 205 = .ok (.iload 5, 2) := by decide +kernel
theorem dX12_rules_207 : decode cX12_rules 207 = .ok (.aload_n 0, 1) := by decide +kernel
theorem dX12_rules_208 : decode cX12_rules 208 = .ok (.getfield 93, 3) := by decide +kernel
theorem dX12_rules_211 : decode cX12_rules 211 = .ok (.iload 5, 2) := by decide +kernel
theorem dX12_rules_213 : decode cX12_rules 213 = .ok (.iaload, 1) := by decide +kernel
theorem dX12_rules_214 : decode cX12_rules 214 = .ok (.iastore, 1) := by decide +kernel
theorem dX12_rules_215 : decode cX12_rules 215 = .ok (.aload_n 0, 1) := by decide +kernel
theorem dX12_rules_216 : decode cX12_rules 216 = .ok (.getfield 72, 3) := by decide +kernel
theorem dX12_rules_219 : decode cX12_rules 219 = .ok (.iload 5, 2) := by decide +kernel
theorem dX12_rules_221 : decode cX12_rules 221 = .ok (.aload_n 0, 1) := by decide +kernel
theorem dX12_rules_222 : decode cX12_rules 222 = .ok (.getfield 96, 3) := by decide +kernel
theorem dX12_rules_225 : decode cX12_rules 225 = .ok (.iload 5, 2) := by decide +kernel
theorem dX12_rules_227 : decode cX12_rules 227 = .ok (.iaload, 1) := by decide +kernel
theorem dX12_rules_228 : decode cX12_rules 228 = .ok (.iastore, 1) := by decide +kernel
theorem dX12_rules_229 : decode cX12_rules 229 = .ok (.aload_n 0, 1) := by decide +kernel
theorem dX12_rules_230 : decode cX12_rules 230 = .ok (.getfield 75, 3) := by decide +kernel
theorem dX12_rules_233 : decode cX12_rules 233 = .ok (.iload 5, 2) := by decide +kernel
theorem dX12_rules_235 : decode cX12_rules 235 = .ok (.aload_n 0, 1) := by decide +kernel
theorem dX12_rules_236 : decode cX12_rules 236 = .ok (.getfield 99, 3) := by decide +kernel
theorem dX12_rules_239 : decode cX12_rules 239 = .ok (.iload 5, 2) := by decide +kernel
theorem dX12_rules_241 : decode cX12_rules 241 = .ok (.iaload, 1) := by decide +kernel
theorem dX12_rules_242 : decode cX12_rules 242 = .ok (.iastore, 1) := by decide +kernel
theorem dX12_rules_243 : decode cX12_rules 243 = .ok (.aload_n 0, 1) := by decide +kernel
theorem dX12_rules_244 : decode cX12_rules 244 = .ok (.getfield 78, 3) := by decide +kernel
theorem dX12_rules_247 : decode cX12_rules 247 = .ok (.iload 5, 2) := by decide +kernel
theorem dX12_rules_249 : decode cX12_rules 249 = .ok (.aload_n 0, 1) := by decide +kernel
theorem dX12_rules_250 : decode cX12_rules 250 = .ok (.getfield 102, 3) := by decide +kernel
theorem dX12_rules_253 : decode cX12_rules 253 = .ok (.iload 5, 2) := by decide +kernel
theorem dX12_rules_255 : decode cX12_rules 255 = .ok (.iaload, 1) := by decide +kernel
theorem dX12_rules_256 : decode cX12_rules 256 = .ok (.iastore, 1) := by decide +kernel
theorem dX12_rules_257 : decode cX12_rules 257 = .ok (.aload_n 0, 1) := by decide +kernel
theorem dX12_rules_258 : decode cX12_rules 258 = .ok (.getfield 81, 3) := by decide +kernel
theorem dX12_rules_261 : decode cX12_rules 261 = .ok (.iload 5, 2) := by decide +kernel
theorem dX12_rules_263 : decode cX12_rules 263 = .ok (.aload_n 0, 1) := by decide +kernel
theorem dX12_rules_264 : decode cX12_rules 264 = .ok (.getfield 105, 3) := by decide +kernel
theorem dX12_rules_267 : decode cX12_rules 267 = .ok (.iload 5, 2) := by decide +kernel
theorem dX12_rules_269 : decode cX12_rules 269 = .ok (.iaload, 1) := by decide +kernel
theorem dX12_rules_270 : decode cX12_rules 270 = .ok (.iastore, 1) := by decide +kernel
theorem dX12_rules_271 : decode cX12_rules 271 = .ok (.iinc 5 1, 3) := by decide +kernel
theorem dX12_rules_274 : decode cX12_rules 274 = .ok (.goto (-91), 3) := by decide +kernel
theorem dX12_rules_277 : decode cX12_rules 277 = .ok (.iinc 4 1, 3) := by decide +kernel
theorem dX12_rules_280 : decode cX12_rules 280 = .ok (.goto (-152), 3) := by decide +kernel
theorem dX12_rules_283 : decode cX12_rules 283 = .ok (.iload_n 1, 1) := by decide +kernel
theorem dX12_rules_284 : decode cX12_rules 284 = .ok (.ireturn, 1) := by decide +kernel
theorem dX12_sideOf_0 : decode cX12_sideOf 0 = .ok (.iload_n 1, 1) := by decide +kernel
theorem dX12_sideOf_1 : decode cX12_sideOf 1 = .ok (.ifCond .ne 5, 3) := by decide +kernel
theorem dX12_sideOf_4 : decode cX12_sideOf 4 = .ok (.iload_n 2, 1) := by decide +kernel
theorem dX12_sideOf_5 : decode cX12_sideOf 5 = .ok (.ireturn, 1) := by decide +kernel
theorem dX12_sideOf_6 : decode cX12_sideOf 6 = .ok (.iload_n 1, 1) := by decide +kernel
theorem dX12_sideOf_7 : decode cX12_sideOf 7 = .ok (.bipush 9, 2) := by decide +kernel
theorem dX12_sideOf_9 : decode cX12_sideOf 9 = .ok (.if_icmp .ge 20, 3) := by decide +kernel
theorem dX12_sideOf_12 : decode cX12_sideOf 12 = .ok (.aload_n 0, 1) := by decide +kernel
theorem dX12_sideOf_13 : decode cX12_sideOf 13 = .ok (.iload_n 3, 1) := by decide +kernel
theorem dX12_sideOf_14 : decode cX12_sideOf 14 = .ok (.iload_n 1, 1) := by decide +kernel
theorem dX12_sideOf_15 : decode cX12_sideOf 15 = .ok (.iconst 1, 1) := by decide +kernel
theorem dX12_sideOf_16 : decode cX12_sideOf 16 = .ok (.isub, 1) := by decide +kernel
theorem dX12_sideOf_17 : decode cX12_sideOf 17 = .ok (.iload 5, 2) := by decide +kernel
theorem dX12_sideOf_19 : decode cX12_sideOf 19 = .ok (.aload_n 0, 1) := by decide +kernel
theorem dX12_sideOf_20 : decode cX12_sideOf 20 = .ok (.getfield 127, 3) := by decide +kernel
theorem dX12_sideOf_23 : decode cX12_sideOf 23 = .ok (.invokevirtual 150, 3) := by decide +kernel
theorem dX12_sideOf_26 : decode cX12_sideOf 26 = .ok (.goto 22, 3) := by decide +kernel
theorem dX12_sideOf_29 : decode cX12_sideOf 29 = .ok (.aload_n 0, 1) := by decide +kernel
theorem dX12_sideOf_30 : decode cX12_sideOf 30 = .ok (.bipush 100, 2) := by decide +kernel
theorem dX12_sideOf_32 : decode cX12_sideOf 32 = .ok (.iload 4, 2) := by decide +kernel
theorem dX12_sideOf_34 : decode cX12_sideOf 34 = .ok (.iadd, 1) := by decide +kernel
theorem dX12_sideOf_35 : decode cX12_sideOf 35 = .ok (.iload_n 1, 1) := by decide +kernel
theorem dX12_sideOf_36 : decode cX12_sideOf 36 = .ok (.bipush 9, 2) := by decide +kernel
theorem dX12_sideOf_38 : decode cX12_sideOf 38 = .ok (.isub, 1) := by decide +kernel
theorem dX12_sideOf_39 : decode cX12_sideOf 39 = .ok (.iload 5, 2) := by decide +kernel
theorem dX12_sideOf_41 : decode cX12_sideOf 41 = .ok (.aload_n 0, 1) := by decide +kernel
theorem dX12_sideOf_42 : decode cX12_sideOf 42 = .ok (.getfield 127, 3) := by decide +kernel
theorem dX12_sideOf_45 : decode cX12_sideOf 45 = .ok (.invokevirtual 150, 3) := by decide +kernel
theorem dX12_sideOf_48 : decode cX12_sideOf 48 = .ok (.ireturn, 1) := by decide +kernel
theorem dX12_isSo_0 : decode cX12_isSo 0 = .ok (.bipush 6, 2) := by decide +kernel
theorem dX12_isSo_2 : decode cX12_isSo 2 = .ok (.iload_n 1, 1) := by decide +kernel
theorem dX12_isSo_3 : decode cX12_isSo 3 = .ok (.imul, 1) := by decide +kernel
theorem dX12_isSo_4 : decode cX12_isSo 4 = .ok (.istore 5, 2) := by decide +kernel
theorem dX12_isSo_6 : decode cX12_isSo 6 = .ok (.iload 5, 2) := by decide +kernel
theorem dX12_isSo_8 : decode cX12_isSo 8 = .ok (.bipush 6, 2) := by decide +kernel
theorem dX12_isSo_10 : decode cX12_isSo 10 = .ok (.iload_n 1, 1) := by decide +kernel
theorem dX12_isSo_11 : decode cX12_isSo 11 = .ok (.imul, 1) := by decide +kernel
theorem dX12_isSo_12 : decode cX12_isSo 12 = .ok (.aload_n 0, 1) := by decide +kernel
theorem dX12_isSo_13 : decode cX12_isSo 13 = .ok (.getfield 66, 3) := by decide +kernel
theorem dX12_isSo_16 : decode cX12_isSo 16 = .ok (.iload_n 1, 1) := by decide +kernel
theorem dX12_isSo_17 : decode cX12_isSo 17 = .ok (.iaload, 1) := by decide +kernel
theorem dX12_isSo_18 : decode cX12_isSo 18 = .ok (.iadd, 1) := by decide +kernel
theorem dX12_isSo_19 : decode cX12_isSo 19 = .ok (.if_icmp .ge 110, 3) := by decide +kernel
theorem dX12_isSo_22 : decode cX12_isSo 22 = .ok (.aload_n 0, 1) := by decide +kernel
theorem dX12_isSo_23 : decode cX12_isSo 23 = .ok (.aload_n 0, 1) := by decide +kernel
theorem dX12_isSo_24 : decode cX12_isSo 24 = .ok (.getfield 69, 3) := by decide +kernel
theorem dX12_isSo_27 : decode cX12_isSo 27 = .ok (.iload 5, 2) := by decide +kernel
theorem dX12_isSo_29 : decode cX12_isSo 29 = .ok (.iaload, 1) := by decide +kernel
theorem dX12_isSo_30 : decode cX12_isSo 30 = .ok (.aload_n 0, 1) := by decide +kernel
theorem dX12_isSo_31 : decode cX12_isSo 31 = .ok (.getfield 72, 3) := by decide +kernel
theorem dX12_isSo_34 : decode cX12_isSo 34 = .ok (.iload 5, 2) := by decide +kernel
theorem dX12_isSo_36 : decode cX12_isSo 36 = .ok (.iaload, 1) := by decide +kernel
theorem dX12_isSo_37 : decode cX12_isSo 37 = .ok (.iload_n 2, 1) := by decide +kernel
theorem dX12_isSo_38 : decode cX12_isSo 38 = .ok (.iload_n 3, 1) := by decide +kernel
theorem dX12_isSo_39 : decode cX12_isSo 39 = .ok (.iload 4, 2) := by decide +kernel
theorem dX12_isSo_41 : decode cX12_isSo 41 = .ok (.invokevirtual 226, 3) := by decide +kernel
theorem dX12_isSo_44 : decode cX12_isSo 44 = .ok (.istore 6, 2) := by decide +kernel
theorem dX12_isSo_46 : decode cX12_isSo 46 = .ok (.aload_n 0, 1) := by decide +kernel
theorem dX12_isSo_47 : decode cX12_isSo 47 = .ok (.aload_n 0, 1) := by decide +kernel
theorem dX12_isSo_48 : decode cX12_isSo 48 = .ok (.getfield 78, 3) := by decide +kernel
theorem dX12_isSo_51 : decode cX12_isSo 51 = .ok (.iload 5, 2) := by decide +kernel
theorem dX12_isSo_53 : decode cX12_isSo 53 = .ok (.iaload, 1) := by decide +kernel
theorem dX12_isSo_54 : decode cX12_isSo 54 = .ok (.aload_n 0, 1) := by decide +kernel
theorem dX12_isSo_55 : decode cX12_isSo 55 = .ok (.getfield 81, 3) := by decide +kernel
theorem dX12_isSo_58 : decode cX12_isSo 58 = .ok (.iload 5, 2) := by decide +kernel
theorem dX12_isSo_60 : decode cX12_isSo 60 = .ok (.iaload, 1) := by decide +kernel
theorem dX12_isSo_61 : decode cX12_isSo 61 = .ok (.iload_n 2, 1) := by decide +kernel
theorem dX12_isSo_62 : decode cX12_isSo 62 = .ok (.iload_n 3, 1) := by decide +kernel
theorem dX12_isSo_63 : decode cX12_isSo 63 = .ok (.iload 4, 2) := by decide +kernel
theorem dX12_isSo_65 : decode cX12_isSo 65 = .ok (.invokevirtual 226, 3) := by decide +kernel
theorem dX12_isSo_68 : decode cX12_isSo 68 = .ok (.istore 7, 2) := by decide +kernel
theorem dX12_isSo_70 : decode cX12_isSo 70 = .ok (.aload_n 0, 1) := by decide +kernel
theorem dX12_isSo_71 : decode cX12_isSo 71 = .ok (.getfield 75, 3) := by decide +kernel
theorem dX12_isSo_74 : decode cX12_isSo 74 = .ok (.iload 5, 2) := by decide +kernel
theorem dX12_isSo_76 : decode cX12_isSo 76 = .ok (.iaload, 1) := by decide +kernel
theorem dX12_isSo_77 : decode cX12_isSo 77 = .ok (.bipush 60, 2) := by decide +kernel
theorem dX12_isSo_79 : decode cX12_isSo 79 = .ok (.if_icmp .ne 13, 3) := by decide +kernel
theorem dX12_isSo_82 : decode cX12_isSo 82 = .ok (.iload 6, 2) := by decide +kernel
theorem dX12_isSo_84 : decode cX12_isSo 84 = .ok (.iload 7, 2) := by decide +kernel
theorem dX12_isSo_86 : decode cX12_isSo 86 = .ok (.if_icmp .ge 35, 3) := by decide +kernel
theorem dX12_isSo_89 : decode cX12_isSo 89 = .ok (.goto 34, 3) := by decide +kernel
theorem dX12_isSo_92 : decode cX12_isSo 92 = .ok (.aload_n 0, 1) := by decide +kernel
theorem dX12_isSo_93 : decode cX12_isSo 93 = .ok (.getfield 75, 3) := by decide +kernel
theorem dX12_isSo_96 : decode cX12_isSo 96 = .ok (.iload 5, 2) := by decide +kernel
theorem dX12_isSo_98 : decode cX12_isSo 98 = .ok (.iaload, 1) := by decide +kernel
theorem dX12_isSo_99 : decode cX12_isSo 99 = .ok (.bipush 62, 2) := by decide +kernel
theorem dX12_isSo_101 : decode cX12_isSo 101 = .ok (.if_icmp .ne 13, 3) := by decide +kernel
theorem dX12_isSo_104 : decode cX12_isSo 104 = .ok (.iload 6, 2) := by decide +kernel
theorem dX12_isSo_106 : decode cX12_isSo 106 = .ok (.iload 7, 2) := by decide +kernel
theorem dX12_isSo_108 : decode cX12_isSo 108 = .ok (.if_icmp .le 13, 3) := by decide +kernel
theorem dX12_isSo_111 : decode cX12_isSo 111 = .ok (.goto 12, 3) := by decide +kernel
theorem dX12_isSo_114 : decode cX12_isSo 114 = .ok (.iload 6, 2) := by decide +kernel
theorem dX12_isSo_116 : decode cX12_isSo 116 = .ok (.iload 7, 2) := by decide +kernel
theorem dX12_isSo_118 : decode cX12_isSo 118 = .ok (.if_icmp .eq 5, 3) := by decide +kernel
theorem dX12_isSo_121 : decode cX12_isSo 121 = .ok (.iconst 0, 1) := by decide +kernel
theorem dX12_isSo_122 : decode cX12_isSo 122 = .ok (.ireturn, 1) := by decide +kernel
theorem dX12_isSo_123 : decode cX12_isSo 123 = .ok (.iinc 5 1, 3) := by decide +kernel
theorem dX12_isSo_126 : decode cX12_isSo 126 = .ok (.goto (-120), 3) := by decide +kernel
theorem dX12_isSo_129 : decode cX12_isSo 129 = .ok (.iconst 1, 1) := by decide +kernel
theorem dX12_isSo_130 : decode cX12_isSo 130 = .ok (.ireturn, 1) := by decide +kernel
theorem dX12_barOf_0 : decode cX12_barOf 0 = .ok (.aload_n 0, 1) := by decide +kernel
theorem dX12_barOf_1 : decode cX12_barOf 1 = .ok (.getfield 17, 3) := by decide +kernel
theorem dX12_barOf_4 : decode cX12_barOf 4 = .ok (.iload_n 1, 1) := by decide +kernel
theorem dX12_barOf_5 : decode cX12_barOf 5 = .ok (.iaload, 1) := by decide +kernel
theorem dX12_barOf_6 : decode cX12_barOf 6 = .ok (.istore_n 3, 1) := by decide +kernel
theorem dX12_barOf_7 : decode cX12_barOf 7 = .ok (.iload_n 3, 1) := by decide +kernel
theorem dX12_barOf_8 : decode cX12_barOf 8 = .ok (.aload_n 0, 1) := by decide +kernel
theorem dX12_barOf_9 : decode cX12_barOf 9 = .ok (.getfield 20, 3) := by decide +kernel
theorem dX12_barOf_12 : decode cX12_barOf 12 = .ok (.iload_n 1, 1) := by decide +kernel
theorem dX12_barOf_13 : decode cX12_barOf 13 = .ok (.iaload, 1) := by decide +kernel
theorem dX12_barOf_14 : decode cX12_barOf 14 = .ok (.if_icmp .gt 107, 3) := by decide +kernel
theorem dX12_barOf_17 : decode cX12_barOf 17 = .ok (.aload_n 0, 1) := by decide +kernel
theorem dX12_barOf_18 : decode cX12_barOf 18 = .ok (.iload_n 3, 1) := by decide +kernel
theorem dX12_barOf_19 : decode cX12_barOf 19 = .ok (.putfield 230, 3) := by decide +kernel
theorem dX12_barOf_22 : decode cX12_barOf 22 = .ok (.aload_n 0, 1) := by decide +kernel
theorem dX12_barOf_23 : decode cX12_barOf 23 = .ok (.getfield 29, 3) := by decide +kernel
theorem dX12_barOf_26 : decode cX12_barOf 26 = .ok (.iload_n 2, 1) := by decide +kernel
theorem dX12_barOf_27 : decode cX12_barOf 27 = .ok (.iaload, 1) := by decide +kernel
theorem dX12_barOf_28 : decode cX12_barOf 28 = .ok (.iconst (-1), 1) := by decide +kernel
theorem dX12_barOf_29 : decode cX12_barOf 29 = .ok (.if_icmp .eq 15, 3) := by decide +kernel
theorem dX12_barOf_32 : decode cX12_barOf 32 = .ok (.aload_n 0, 1) := by decide +kernel
theorem dX12_barOf_33 : decode cX12_barOf 33 = .ok (.getfield 29, 3) := by decide +kernel
theorem dX12_barOf_36 : decode cX12_barOf 36 = .ok (.iload_n 2, 1) := by decide +kernel
theorem dX12_barOf_37 : decode cX12_barOf 37 = .ok (.iaload, 1) := by decide +kernel
theorem dX12_barOf_38 : decode cX12_barOf 38 = .ok (.iload_n 3, 1) := by decide +kernel
theorem dX12_barOf_39 : decode cX12_barOf 39 = .ok (.if_icmp .gt 5, 3) := by decide +kernel
theorem dX12_barOf_42 : decode cX12_barOf 42 = .ok (.iconst 1, 1) := by decide +kernel
theorem dX12_barOf_43 : decode cX12_barOf 43 = .ok (.ireturn, 1) := by decide +kernel
theorem dX12_barOf_44 : decode cX12_barOf 44 = .ok (.aload_n 0, 1) := by decide +kernel
theorem dX12_barOf_45 : decode cX12_barOf 45 = .ok (.iload_n 2, 1) := by decide +kernel
theorem dX12_barOf_46 : decode cX12_barOf 46 = .ok (.iload_n 3, 1) := by decide +kernel
theorem dX12_barOf_47 : decode cX12_barOf 47 = .ok (.invokevirtual 233, 3) := by decide +kernel
theorem dX12_barOf_50 : decode cX12_barOf 50 = .ok (.ifCond .ge 5, 3) := by decide +kernel
theorem dX12_barOf_53 : decode cX12_barOf 53 = .ok (.iconst 2, 1) := by decide +kernel
theorem dX12_barOf_54 : decode cX12_barOf 54 = .ok (.ireturn, 1) := by decide +kernel
theorem dX12_barOf_55 : decode cX12_barOf 55 = .ok (.iconst 0, 1) := by decide +kernel
theorem dX12_barOf_56 : decode cX12_barOf 56 = .ok (.istore 4, 2) := by decide +kernel
theorem dX12_barOf_58 : decode cX12_barOf 58 = .ok (.iload 4, 2) := by decide +kernel
theorem dX12_barOf_60 : decode cX12_barOf 60 = .ok (.aload_n 0, 1) := by decide +kernel
theorem dX12_barOf_61 : decode cX12_barOf 61 = .ok (.getfield 223, 3) := by decide +kernel
theorem dX12_barOf_64 : decode cX12_barOf 64 = .ok (.if_icmp .ge 51, 3) := by decide +kernel
theorem dX12_barOf_67 : decode cX12_barOf 67 = .ok (.aload_n 0, 1) := by decide +kernel
theorem dX12_barOf_68 : decode cX12_barOf 68 = .ok (.getfield 60, 3) := by decide +kernel
theorem dX12_barOf_71 : decode cX12_barOf 71 = .ok (.iload 4, 2) := by decide +kernel
theorem dX12_barOf_73 : decode cX12_barOf 73 = .ok (.iaload, 1) := by decide +kernel
theorem dX12_barOf_74 : decode cX12_barOf 74 = .ok (.aload_n 0, 1) := by decide +kernel
theorem dX12_barOf_75 : decode cX12_barOf 75 = .ok (.getfield 23, 3) := by decide +kernel
theorem dX12_barOf_78 : decode cX12_barOf 78 = .ok (.iload_n 1, 1) := by decide +kernel
theorem dX12_barOf_79 : decode cX12_barOf 79 = .ok (.baload, 1) := by decide +kernel
theorem dX12_barOf_80 : decode cX12_barOf 80 = .ok (.ifCond .eq 7, 3) := by decide +kernel
theorem dX12_barOf_83 : decode cX12_barOf 83 = .ok (.iconst 1, 1) := by decide +kernel
theorem dX12_barOf_84 : decode cX12_barOf 84 = .ok (.goto 4, 3) := by decide +kernel
theorem dX12_barOf_87 : decode cX12_barOf 87 = .ok (.iconst 0, 1) := by decide +kernel
theorem dX12_barOf_88 : decode cX12_barOf 88 = .ok (.if_icmp .ne 21, 3) := by decide +kernel
theorem dX12_barOf_91 : decode cX12_barOf 91 = .ok (.aload_n 0, 1) := by decide +kernel
theorem dX12_barOf_92 : decode cX12_barOf 92 = .ok (.iload 4, 2) := by decide +kernel
theorem dX12_barOf_94 : decode cX12_barOf 94 = .ok (.iload_n 1, 1) := by decide +kernel
theorem dX12_barOf_95 : decode cX12_barOf 95 = .ok (.iload_n 2, 1) := by decide +kernel
theorem dX12_barOf_96 : decode cX12_barOf 96 = .ok (.iload_n 3, 1) := by decide +kernel
theorem dX12_barOf_97 : decode cX12_barOf 97 = .ok (.invokevirtual 237, 3) := by decide +kernel
theorem dX12_barOf_100 : decode cX12_barOf 100 = .ok (.ifCond .ne 9, 3) := by decide +kernel
theorem dX12_barOf_103 : decode cX12_barOf 103 = .ok (.bipush 10, 2) := by decide +kernel
theorem dX12_barOf_105 : decode cX12_barOf 105 = .ok (.iload 4, 2) := by decide +kernel
theorem dX12_barOf_107 : decode cX12_barOf 107 = .ok (.iadd, 1) := by decide +kernel
theorem dX12_barOf_108 : decode cX12_barOf 108 = .ok (.ireturn, 1) := by decide +kernel
theorem dX12_barOf_109 : decode cX12_barOf 109 = .ok (.iinc 4 1, 3) := by decide +kernel
theorem dX12_barOf_112 : decode cX12_barOf 112 = .ok (.goto (-54), 3) := by decide +kernel
theorem dX12_barOf_115 : decode cX12_barOf 115 = .ok (.iinc 3 1, 3) := by decide +kernel
theorem dX12_barOf_118 : decode cX12_barOf 118 = .ok (.goto (-111), 3) := by decide +kernel
theorem dX12_barOf_121 : decode cX12_barOf 121 = .ok (.aload_n 0, 1) := by decide +kernel
theorem dX12_barOf_122 : decode cX12_barOf 122 = .ok (.iconst (-1), 1) := by decide +kernel
theorem dX12_barOf_123 : decode cX12_barOf 123 = .ok (.putfield 230, 3) := by decide +kernel
theorem dX12_barOf_126 : decode cX12_barOf 126 = .ok (.iconst 0, 1) := by decide +kernel
theorem dX12_barOf_127 : decode cX12_barOf 127 = .ok (.ireturn, 1) := by decide +kernel
theorem dX12_bars_0 : decode cX12_bars 0 = .ok (.aload_n 0, 1) := by decide +kernel
theorem dX12_bars_1 : decode cX12_bars 1 = .ok (.iload_n 1, 1) := by decide +kernel
theorem dX12_bars_2 : decode cX12_bars 2 = .ok (.invokevirtual 144, 3) := by decide +kernel
theorem dX12_bars_5 : decode cX12_bars 5 = .ok (.ifCond .eq 29, 3) := by decide +kernel
theorem dX12_bars_8 : decode cX12_bars 8 = .ok (.aload_n 0, 1) := by decide +kernel
theorem dX12_bars_9 : decode cX12_bars 9 = .ok (.iload_n 2, 1) := by decide +kernel
theorem dX12_bars_10 : decode cX12_bars 10 = .ok (.invokevirtual 140, 3) := by decide +kernel
theorem dX12_bars_13 : decode cX12_bars 13 = .ok (.ifCond .eq 21, 3) := by decide +kernel
theorem dX12_bars_16 : decode cX12_bars 16 = .ok (.aload_n 0, 1) := by decide +kernel
theorem dX12_bars_17 : decode cX12_bars 17 = .ok (.getfield 13, 3) := by decide +kernel
theorem dX12_bars_20 : decode cX12_bars 20 = .ok (.iload_n 1, 1) := by decide +kernel
theorem dX12_bars_21 : decode cX12_bars 21 = .ok (.baload, 1) := by decide +kernel
theorem dX12_bars_22 : decode cX12_bars 22 = .ok (.ifCond .eq 12, 3) := by decide +kernel
theorem dX12_bars_25 : decode cX12_bars 25 = .ok (.aload_n 0, 1) := by decide +kernel
theorem dX12_bars_26 : decode cX12_bars 26 = .ok (.iload_n 1, 1) := by decide +kernel
theorem dX12_bars_27 : decode cX12_bars 27 = .ok (.iload_n 2, 1) := by decide +kernel
theorem dX12_bars_28 : decode cX12_bars 28 = .ok (.invokevirtual 240, 3) := by decide +kernel
theorem dX12_bars_31 : decode cX12_bars 31 = .ok (.goto 4, 3) := by decide +kernel
theorem dX12_bars_34 : decode cX12_bars 34 = .ok (.iconst (-1), 1) := by decide +kernel
theorem dX12_bars_35 : decode cX12_bars 35 = .ok (.ireturn, 1) := by decide +kernel
theorem dX12_barred_0 : decode cX12_barred 0 = .ok (.aload_n 0, 1) := by decide +kernel
theorem dX12_barred_1 : decode cX12_barred 1 = .ok (.iload_n 1, 1) := by decide +kernel
theorem dX12_barred_2 : decode cX12_barred 2 = .ok (.iload_n 2, 1) := by decide +kernel
theorem dX12_barred_3 : decode cX12_barred 3 = .ok (.invokevirtual 243, 3) := by decide +kernel
theorem dX12_barred_6 : decode cX12_barred 6 = .ok (.ifCond .le 10, 3) := by decide +kernel
theorem dX12_barred_9 : decode cX12_barred 9 = .ok (.aload_n 0, 1) := by decide +kernel
theorem dX12_barred_10 : decode cX12_barred 10 = .ok (.getfield 230, 3) := by decide +kernel
theorem dX12_barred_13 : decode cX12_barred 13 = .ok (.goto 4, 3) := by decide +kernel
theorem dX12_barred_16 : decode cX12_barred 16 = .ok (.iconst (-1), 1) := by decide +kernel
theorem dX12_barred_17 : decode cX12_barred 17 = .ok (.ireturn, 1) := by decide +kernel
theorem dX12_wishOf_0 : decode cX12_wishOf 0 = .ok (.iconst 0, 1) := by decide +kernel
theorem dX12_wishOf_1 : decode cX12_wishOf 1 = .ok (.istore_n 3, 1) := by decide +kernel
theorem dX12_wishOf_2 : decode cX12_wishOf 2 = .ok (.iconst 0, 1) := by decide +kernel
theorem dX12_wishOf_3 : decode cX12_wishOf 3 = .ok (.istore 4, 2) := by decide +kernel
theorem dX12_wishOf_5 : decode cX12_wishOf 5 = .ok (.iload 4, 2) := by decide +kernel
theorem dX12_wishOf_7 : decode cX12_wishOf 7 = .ok (.aload_n 0, 1) := by decide +kernel
theorem dX12_wishOf_8 : decode cX12_wishOf 8 = .ok (.getfield 223, 3) := by decide +kernel
theorem dX12_wishOf_11 : decode cX12_wishOf 11 = .ok (.if_icmp .ge 47, 3) := by decide +kernel
theorem dX12_wishOf_14 : decode cX12_wishOf 14 = .ok (.aload_n 0, 1) := by decide +kernel
theorem dX12_wishOf_15 : decode cX12_wishOf 15 = .ok (.getfield 60, 3) := by decide +kernel
theorem dX12_wishOf_18 : decode cX12_wishOf 18 = .ok (.iload 4, 2) := by decide +kernel
theorem dX12_wishOf_20 : decode cX12_wishOf 20 = .ok (.iaload, 1) := by decide +kernel
theorem dX12_wishOf_21 : decode cX12_wishOf 21 = .ok (.iconst 2, 1) := by decide +kernel
theorem dX12_wishOf_22 : decode cX12_wishOf 22 = .ok (.if_icmp .ne 30, 3) := by decide +kernel
theorem dX12_wishOf_25 : decode cX12_wishOf 25 = .ok (.aload_n 0, 1) := by decide +kernel
theorem dX12_wishOf_26 : decode cX12_wishOf 26 = .ok (.iload 4, 2) := by decide +kernel
theorem dX12_wishOf_28 : decode cX12_wishOf 28 = .ok (.iload_n 1, 1) := by decide +kernel
theorem dX12_wishOf_29 : decode cX12_wishOf 29 = .ok (.iload_n 2, 1) := by decide +kernel
theorem dX12_wishOf_30 : decode cX12_wishOf 30 = .ok (.aload_n 0, 1) := by decide +kernel
theorem dX12_wishOf_31 : decode cX12_wishOf 31 = .ok (.getfield 17, 3) := by decide +kernel
theorem dX12_wishOf_34 : decode cX12_wishOf 34 = .ok (.iload_n 1, 1) := by decide +kernel
theorem dX12_wishOf_35 : decode cX12_wishOf 35 = .ok (.iaload, 1) := by decide +kernel
theorem dX12_wishOf_36 : decode cX12_wishOf 36 = .ok (.invokevirtual 237, 3) := by decide +kernel
theorem dX12_wishOf_39 : decode cX12_wishOf 39 = .ok (.ifCond .eq 13, 3) := by decide +kernel
theorem dX12_wishOf_42 : decode cX12_wishOf 42 = .ok (.iload_n 3, 1) := by decide +kernel
theorem dX12_wishOf_43 : decode cX12_wishOf 43 = .ok (.aload_n 0, 1) := by decide +kernel
theorem dX12_wishOf_44 : decode cX12_wishOf 44 = .ok (.getfield 63, 3) := by decide +kernel
theorem dX12_wishOf_47 : decode cX12_wishOf 47 = .ok (.iload 4, 2) := by decide +kernel
theorem dX12_wishOf_49 : decode cX12_wishOf 49 = .ok (.iaload, 1) := by decide +kernel
theorem dX12_wishOf_50 : decode cX12_wishOf 50 = .ok (.iadd, 1) := by decide +kernel
theorem dX12_wishOf_51 : decode cX12_wishOf 51 = .ok (.istore_n 3, 1) := by decide +kernel
theorem dX12_wishOf_52 : decode cX12_wishOf 52 = .ok (.iinc 4 1, 3) := by decide +kernel
theorem dX12_wishOf_55 : decode cX12_wishOf 55 = .ok (.goto (-50), 3) := by decide +kernel
theorem dX12_wishOf_58 : decode cX12_wishOf 58 = .ok (.iload_n 3, 1) := by decide +kernel
theorem dX12_wishOf_59 : decode cX12_wishOf 59 = .ok (.ireturn, 1) := by decide +kernel
theorem dX12_wish_0 : decode cX12_wish 0 = .ok (.aload_n 0, 1) := by decide +kernel
theorem dX12_wish_1 : decode cX12_wish 1 = .ok (.iload_n 1, 1) := by decide +kernel
theorem dX12_wish_2 : decode cX12_wish 2 = .ok (.invokevirtual 144, 3) := by decide +kernel
theorem dX12_wish_5 : decode cX12_wish 5 = .ok (.ifCond .eq 29, 3) := by decide +kernel
theorem dX12_wish_8 : decode cX12_wish 8 = .ok (.aload_n 0, 1) := by decide +kernel
theorem dX12_wish_9 : decode cX12_wish 9 = .ok (.iload_n 2, 1) := by decide +kernel
theorem dX12_wish_10 : decode cX12_wish 10 = .ok (.invokevirtual 140, 3) := by decide +kernel
theorem dX12_wish_13 : decode cX12_wish 13 = .ok (.ifCond .eq 21, 3) := by decide +kernel
theorem dX12_wish_16 : decode cX12_wish 16 = .ok (.aload_n 0, 1) := by decide +kernel
theorem dX12_wish_17 : decode cX12_wish 17 = .ok (.getfield 13, 3) := by decide +kernel
theorem dX12_wish_20 : decode cX12_wish 20 = .ok (.iload_n 1, 1) := by decide +kernel
theorem dX12_wish_21 : decode cX12_wish 21 = .ok (.baload, 1) := by decide +kernel
theorem dX12_wish_22 : decode cX12_wish 22 = .ok (.ifCond .eq 12, 3) := by decide +kernel
theorem dX12_wish_25 : decode cX12_wish 25 = .ok (.aload_n 0, 1) := by decide +kernel
theorem dX12_wish_26 : decode cX12_wish 26 = .ok (.iload_n 1, 1) := by decide +kernel
theorem dX12_wish_27 : decode cX12_wish 27 = .ok (.iload_n 2, 1) := by decide +kernel
theorem dX12_wish_28 : decode cX12_wish 28 = .ok (.invokevirtual 246, 3) := by decide +kernel
theorem dX12_wish_31 : decode cX12_wish 31 = .ok (.goto 4, 3) := by decide +kernel
theorem dX12_wish_34 : decode cX12_wish 34 = .ok (.iconst (-1), 1) := by decide +kernel
theorem dX12_wish_35 : decode cX12_wish 35 = .ok (.ireturn, 1) := by decide +kernel
theorem dX12_isLet_0 : decode cX12_isLet 0 = .ok (.aload_n 0, 1) := by decide +kernel
theorem dX12_isLet_1 : decode cX12_isLet 1 = .ok (.getfield 111, 3) := by decide +kernel
theorem dX12_isLet_4 : decode cX12_isLet 4 = .ok (.iload_n 1, 1) := by decide +kernel
theorem dX12_isLet_5 : decode cX12_isLet 5 = .ok (.iaload, 1) := by decide +kernel
theorem dX12_isLet_6 : decode cX12_isLet 6 = .ok (.istore_n 2, 1) := by decide +kernel
theorem dX12_isLet_7 : decode cX12_isLet 7 = .ok (.iload_n 2, 1) := by decide +kernel
theorem dX12_isLet_8 : decode cX12_isLet 8 = .ok (.aload_n 0, 1) := by decide +kernel
theorem dX12_isLet_9 : decode cX12_isLet 9 = .ok (.getfield 134, 3) := by decide +kernel
theorem dX12_isLet_12 : decode cX12_isLet 12 = .ok (.if_icmp .ne 5, 3) := by decide +kernel
theorem dX12_isLet_15 : decode cX12_isLet 15 = .ok (.iconst 1, 1) := by decide +kernel
theorem dX12_isLet_16 : decode cX12_isLet 16 = .ok (.ireturn, 1) := by decide +kernel
theorem dX12_isLet_17 : decode cX12_isLet 17 = .ok (.aload_n 0, 1) := by decide +kernel
theorem dX12_isLet_18 : decode cX12_isLet 18 = .ok (.getfield 13, 3) := by decide +kernel
theorem dX12_isLet_21 : decode cX12_isLet 21 = .ok (.iload_n 1, 1) := by decide +kernel
theorem dX12_isLet_22 : decode cX12_isLet 22 = .ok (.baload, 1) := by decide +kernel
theorem dX12_isLet_23 : decode cX12_isLet 23 = .ok (.ifCond .eq 16, 3) := by decide +kernel
theorem dX12_isLet_26 : decode cX12_isLet 26 = .ok (.aload_n 0, 1) := by decide +kernel
theorem dX12_isLet_27 : decode cX12_isLet 27 = .ok (.getfield 117, 3) := by decide +kernel
theorem dX12_isLet_30 : decode cX12_isLet 30 = .ok (.iconst 5, 1) := by decide +kernel
theorem dX12_isLet_31 : decode cX12_isLet 31 = .ok (.iload_n 1, 1) := by decide +kernel
theorem dX12_isLet_32 : decode cX12_isLet 32 = .ok (.imul, 1) := by decide +kernel
theorem dX12_isLet_33 : decode cX12_isLet 33 = .ok (.iload_n 2, 1) := by decide +kernel
theorem dX12_isLet_34 : decode cX12_isLet 34 = .ok (.iadd, 1) := by decide +kernel
theorem dX12_isLet_35 : decode cX12_isLet 35 = .ok (.baload, 1) := by decide +kernel
theorem dX12_isLet_36 : decode cX12_isLet 36 = .ok (.ifCond .ne 5, 3) := by decide +kernel
theorem dX12_isLet_39 : decode cX12_isLet 39 = .ok (.iconst 0, 1) := by decide +kernel
theorem dX12_isLet_40 : decode cX12_isLet 40 = .ok (.ireturn, 1) := by decide +kernel
theorem dX12_isLet_41 : decode cX12_isLet 41 = .ok (.aload_n 0, 1) := by decide +kernel
theorem dX12_isLet_42 : decode cX12_isLet 42 = .ok (.getfield 17, 3) := by decide +kernel
theorem dX12_isLet_45 : decode cX12_isLet 45 = .ok (.iload_n 1, 1) := by decide +kernel
theorem dX12_isLet_46 : decode cX12_isLet 46 = .ok (.iaload, 1) := by decide +kernel
theorem dX12_isLet_47 : decode cX12_isLet 47 = .ok (.istore_n 3, 1) := by decide +kernel
theorem dX12_isLet_48 : decode cX12_isLet 48 = .ok (.iload_n 3, 1) := by decide +kernel
theorem dX12_isLet_49 : decode cX12_isLet 49 = .ok (.aload_n 0, 1) := by decide +kernel
theorem dX12_isLet_50 : decode cX12_isLet 50 = .ok (.getfield 20, 3) := by decide +kernel
theorem dX12_isLet_53 : decode cX12_isLet 53 = .ok (.iload_n 1, 1) := by decide +kernel
theorem dX12_isLet_54 : decode cX12_isLet 54 = .ok (.iaload, 1) := by decide +kernel
theorem dX12_isLet_55 : decode cX12_isLet 55 = .ok (.if_icmp .gt 83, 3) := by decide +kernel
theorem dX12_isLet_58 : decode cX12_isLet 58 = .ok (.iconst 1, 1) := by decide +kernel
theorem dX12_isLet_59 : decode cX12_isLet 59 = .ok (.istore 4, 2) := by decide +kernel
theorem dX12_isLet_61 : decode cX12_isLet 61 = .ok (.iconst 0, 1) := by decide +kernel
theorem dX12_isLet_62 : decode cX12_isLet 62 = .ok (.istore 5, 2) := by decide +kernel
theorem dX12_isLet_64 : decode cX12_isLet 64 = .ok (.iload 5, 2) := by decide +kernel
theorem dX12_isLet_66 : decode cX12_isLet 66 = .ok (.iload_n 1, 1) := by decide +kernel
theorem dX12_isLet_67 : decode cX12_isLet 67 = .ok (.if_icmp .ge 52, 3) := by decide +kernel
theorem dX12_isLet_70 : decode cX12_isLet 70 = .ok (.iload 4, 2) := by decide +kernel
theorem dX12_isLet_72 : decode cX12_isLet 72 = .ok (.aload_n 0, 1) := by decide +kernel
theorem dX12_isLet_73 : decode cX12_isLet 73 = .ok (.getfield 111, 3) := by decide +kernel
theorem dX12_isLet_76 : decode cX12_isLet 76 = .ok (.iload 5, 2) := by decide +kernel
theorem dX12_isLet_78 : decode cX12_isLet 78 = .ok (.iaload, 1) := by decide +kernel
theorem dX12_isLet_79 : decode cX12_isLet 79 = .ok (.iload_n 2, 1) := by decide +kernel
theorem dX12_isLet_80 : decode cX12_isLet 80 = .ok (.if_icmp .ne 29, 3) := by decide +kernel
theorem dX12_isLet_83 : decode cX12_isLet 83 = .ok (.aload_n 0, 1) := by decide +kernel
theorem dX12_isLet_84 : decode cX12_isLet 84 = .ok (.getfield 17, 3) := by decide +kernel
theorem dX12_isLet_87 : decode cX12_isLet 87 = .ok (.iload 5, 2) := by decide +kernel
theorem dX12_isLet_89 : decode cX12_isLet 89 = .ok (.iaload, 1) := by decide +kernel
theorem dX12_isLet_90 : decode cX12_isLet 90 = .ok (.iload_n 3, 1) := by decide +kernel
theorem dX12_isLet_91 : decode cX12_isLet 91 = .ok (.if_icmp .gt 18, 3) := by decide +kernel
theorem dX12_isLet_94 : decode cX12_isLet 94 = .ok (.aload_n 0, 1) := by decide +kernel
theorem dX12_isLet_95 : decode cX12_isLet 95 = .ok (.getfield 20, 3) := by decide +kernel
theorem dX12_isLet_98 : decode cX12_isLet 98 = .ok (.iload 5, 2) := by decide +kernel
theorem dX12_isLet_100 : decode cX12_isLet 100 = .ok (.iaload, 1) := by decide +kernel
theorem dX12_isLet_101 : decode cX12_isLet 101 = .ok (.iload_n 3, 1) := by decide +kernel
theorem dX12_isLet_102 : decode cX12_isLet 102 = .ok (.if_icmp .lt 7, 3) := by decide +kernel
theorem dX12_isLet_105 : decode cX12_isLet 105 = .ok (.iconst 1, 1) := by decide +kernel
theorem dX12_isLet_106 : decode cX12_isLet 106 = .ok (.goto 4, 3) := by decide +kernel
theorem dX12_isLet_109 : decode cX12_isLet 109 = .ok (.iconst 0, 1) := by decide +kernel
theorem dX12_isLet_110 : decode cX12_isLet 110 = .ok (.iadd, 1) := by decide +kernel
theorem dX12_isLet_111 : decode cX12_isLet 111 = .ok (.istore 4, 2) := by decide +kernel
theorem dX12_isLet_113 : decode cX12_isLet 113 = .ok (.iinc 5 1, 3) := by decide +kernel
theorem dX12_isLet_116 : decode cX12_isLet 116 = .ok (.goto (-52), 3) := by decide +kernel
theorem dX12_isLet_119 : decode cX12_isLet 119 = .ok (.iload 4, 2) := by decide +kernel
theorem dX12_isLet_121 : decode cX12_isLet 121 = .ok (.aload_n 0, 1) := by decide +kernel
theorem dX12_isLet_122 : decode cX12_isLet 122 = .ok (.getfield 26, 3) := by decide +kernel
theorem dX12_isLet_125 : decode cX12_isLet 125 = .ok (.iload_n 2, 1) := by decide +kernel
theorem dX12_isLet_126 : decode cX12_isLet 126 = .ok (.iaload, 1) := by decide +kernel
theorem dX12_isLet_127 : decode cX12_isLet 127 = .ok (.if_icmp .le 5, 3) := by decide +kernel
theorem dX12_isLet_130 : decode cX12_isLet 130 = .ok (.iconst 0, 1) := by decide +kernel
theorem dX12_isLet_131 : decode cX12_isLet 131 = .ok (.ireturn, 1) := by decide +kernel
theorem dX12_isLet_132 : decode cX12_isLet 132 = .ok (.iinc 3 1, 3) := by decide +kernel
theorem dX12_isLet_135 : decode cX12_isLet 135 = .ok (.goto (-87), 3) := by decide +kernel
theorem dX12_isLet_138 : decode cX12_isLet 138 = .ok (.iconst 1, 1) := by decide +kernel
theorem dX12_isLet_139 : decode cX12_isLet 139 = .ok (.ireturn, 1) := by decide +kernel
theorem dX12_parted_0 : decode cX12_parted 0 = .ok (.iconst 0, 1) := by decide +kernel
theorem dX12_parted_1 : decode cX12_parted 1 = .ok (.istore_n 1, 1) := by decide +kernel
theorem dX12_parted_2 : decode cX12_parted 2 = .ok (.iconst 1, 1) := by decide +kernel
theorem dX12_parted_3 : decode cX12_parted 3 = .ok (.istore_n 2, 1) := by decide +kernel
theorem dX12_parted_4 : decode cX12_parted 4 = .ok (.iload_n 2, 1) := by decide +kernel
theorem dX12_parted_5 : decode cX12_parted 5 = .ok (.iconst 4, 1) := by decide +kernel
theorem dX12_parted_6 : decode cX12_parted 6 = .ok (.if_icmp .ge 134, 3) := by decide +kernel
theorem dX12_parted_9 : decode cX12_parted 9 = .ok (.iconst 0, 1) := by decide +kernel
theorem dX12_parted_10 : decode cX12_parted 10 = .ok (.istore_n 3, 1) := by decide +kernel
theorem dX12_parted_11 : decode cX12_parted 11 = .ok (.iconst 0, 1) := by decide +kernel
theorem dX12_parted_12 : decode cX12_parted 12 = .ok (.istore 4, 2) := by decide +kernel
theorem dX12_parted_14 : decode cX12_parted 14 = .ok (.iload 4, 2) := by decide +kernel
theorem dX12_parted_16 : decode cX12_parted 16 = .ok (.aload_n 0, 1) := by decide +kernel
theorem dX12_parted_17 : decode cX12_parted 17 = .ok (.getfield 131, 3) := by decide +kernel
theorem dX12_parted_20 : decode cX12_parted 20 = .ok (.if_icmp .ge 102, 3) := by decide +kernel
theorem dX12_parted_23 : decode cX12_parted 23 = .ok (.iconst 0, 1) := by decide +kernel
theorem dX12_parted_24 : decode cX12_parted 24 = .ok (.istore 5, 2) := by decide +kernel
theorem dX12_parted_26 : decode cX12_parted 26 = .ok (.iload 5, 2) := by decide +kernel
theorem dX12_parted_28 : decode cX12_parted 28 = .ok (.iload 4, 2) := by decide +kernel
theorem dX12_parted_30 : decode cX12_parted 30 = .ok (.if_icmp .ge 86, 3) := by decide +kernel
theorem dX12_parted_33 : decode cX12_parted 33 = .ok (.iload_n 3, 1) := by decide +kernel
theorem dX12_parted_34 : decode cX12_parted 34 = .ok (.ifCond .ne 70, 3) := by decide +kernel
theorem dX12_parted_37 : decode cX12_parted 37 = .ok (.aload_n 0, 1) := by decide +kernel
theorem dX12_parted_38 : decode cX12_parted 38 = .ok (.getfield 7, 3) := by decide +kernel
theorem dX12_parted_41 : decode cX12_parted 41 = .ok (.iload 4, 2) := by decide +kernel
theorem dX12_parted_43 : decode cX12_parted 43 = .ok (.iaload, 1) := by decide +kernel
theorem dX12_parted_44 : decode cX12_parted 44 = .ok (.iload_n 2, 1) := by decide +kernel
theorem dX12_parted_45 : decode cX12_parted 45 = .ok (.if_icmp .ne 63, 3) := by decide +kernel
theorem dX12_parted_48 : decode cX12_parted 48 = .ok (.aload_n 0, 1) := by decide +kernel
theorem dX12_parted_49 : decode cX12_parted 49 = .ok (.getfield 7, 3) := by decide +kernel
theorem dX12_parted_52 : decode cX12_parted 52 = .ok (.iload 5, 2) := by decide +kernel
theorem dX12_parted_54 : decode cX12_parted 54 = .ok (.iaload, 1) := by decide +kernel
theorem dX12_parted_55 : decode cX12_parted 55 = .ok (.iload_n 2, 1) := by decide +kernel
theorem dX12_parted_56 : decode cX12_parted 56 = .ok (.if_icmp .ne 52, 3) := by decide +kernel
theorem dX12_parted_59 : decode cX12_parted 59 = .ok (.aload_n 0, 1) := by decide +kernel
theorem dX12_parted_60 : decode cX12_parted 60 = .ok (.getfield 111, 3) := by decide +kernel
theorem dX12_parted_63 : decode cX12_parted 63 = .ok (.iload 4, 2) := by decide +kernel
theorem dX12_parted_65 : decode cX12_parted 65 = .ok (.iaload, 1) := by decide +kernel
theorem dX12_parted_66 : decode cX12_parted 66 = .ok (.aload_n 0, 1) := by decide +kernel
theorem dX12_parted_67 : decode cX12_parted 67 = .ok (.getfield 134, 3) := by decide +kernel
theorem dX12_parted_70 : decode cX12_parted 70 = .ok (.if_icmp .ge 38, 3) := by decide +kernel
theorem dX12_parted_73 : decode cX12_parted 73 = .ok (.aload_n 0, 1) := by decide +kernel
theorem dX12_parted_74 : decode cX12_parted 74 = .ok (.getfield 111, 3) := by decide +kernel
theorem dX12_parted_77 : decode cX12_parted 77 = .ok (.iload 5, 2) := by decide +kernel
theorem dX12_parted_79 : decode cX12_parted 79 = .ok (.iaload, 1) := by decide +kernel
theorem dX12_parted_80 : decode cX12_parted 80 = .ok (.aload_n 0, 1) := by decide +kernel
theorem dX12_parted_81 : decode cX12_parted 81 = .ok (.getfield 134, 3) := by decide +kernel
theorem dX12_parted_84 : decode cX12_parted 84 = .ok (.if_icmp .ge 24, 3) := by decide +kernel
theorem dX12_parted_87 : decode cX12_parted 87 = .ok (.aload_n 0, 1) := by decide +kernel
theorem dX12_parted_88 : decode cX12_parted 88 = .ok (.getfield 111, 3) := by decide +kernel
theorem dX12_parted_91 : decode cX12_parted 91 = .ok (.iload 4, 2) := by decide +kernel
theorem dX12_parted_93 : decode cX12_parted 93 = .ok (.iaload, 1) := by decide +kernel
theorem dX12_parted_94 : decode cX12_parted 94 = .ok (.aload_n 0, 1) := by decide +kernel
theorem dX12_parted_95 : decode cX12_parted 95 = .ok (.getfield 111, 3) := by decide +kernel
theorem dX12_parted_98 : decode cX12_parted 98 = .ok (.iload 5, 2) := by decide +kernel
theorem dX12_parted_100 : decode cX12_parted 100 = .ok (.iaload, 1) := by decide +kernel
theorem dX12_parted_101 : decode cX12_parted 101 = .ok (.if_icmp .eq 7, 3) := by decide +kernel
theorem dX12_parted_104 : decode cX12_parted 104 = .ok (.iconst 1, 1) := by decide +kernel
theorem dX12_parted_105 : decode cX12_parted 105 = .ok (.goto 4, 3) := by decide +kernel
theorem dX12_parted_108 : decode cX12_parted 108 = .ok (.iconst 0, 1) := by decide +kernel
theorem dX12_parted_109 : decode cX12_parted 109 = .ok (.istore_n 3, 1) := by decide +kernel
theorem dX12_parted_110 : decode cX12_parted 110 = .ok (.iinc 5 1, 3) := by decide +kernel
theorem dX12_parted_113 : decode cX12_parted 113 = .ok (.goto (-87), 3) := by decide +kernel
theorem dX12_parted_116 : decode cX12_parted 116 = .ok (.iinc 4 1, 3) := by decide +kernel
theorem dX12_parted_119 : decode cX12_parted 119 = .ok (.goto (-105), 3) := by decide +kernel
theorem dX12_parted_122 : decode cX12_parted 122 = .ok (.iload_n 1, 1) := by decide +kernel
theorem dX12_parted_123 : decode cX12_parted 123 = .ok (.iload_n 3, 1) := by decide +kernel
theorem dX12_parted_124 : decode cX12_parted 124 = .ok (.ifCond .eq 7, 3) := by decide +kernel
theorem dX12_parted_127 : decode cX12_parted 127 = .ok (.iconst 1, 1) := by decide +kernel
theorem dX12_parted_128 : decode cX12_parted 128 = .ok (.goto 4, 3) := by decide +kernel
theorem dX12_parted_131 : decode cX12_parted 131 = .ok (.iconst 0, 1) := by decide +kernel
theorem dX12_parted_132 : decode cX12_parted 132 = .ok (.iadd, 1) := by decide +kernel
theorem dX12_parted_133 : decode cX12_parted 133 = .ok (.istore_n 1, 1) := by decide +kernel
theorem dX12_parted_134 : decode cX12_parted 134 = .ok (.iinc 2 1, 3) := by decide +kernel
theorem dX12_parted_137 : decode cX12_parted 137 = .ok (.goto (-133), 3) := by decide +kernel
theorem dX12_parted_140 : decode cX12_parted 140 = .ok (.iload_n 1, 1) := by decide +kernel
theorem dX12_parted_141 : decode cX12_parted 141 = .ok (.ireturn, 1) := by decide +kernel
theorem dX12_weighs_0 : decode cX12_weighs 0 = .ok (.aload_n 0, 1) := by decide +kernel
theorem dX12_weighs_1 : decode cX12_weighs 1 = .ok (.invokevirtual 249, 3) := by decide +kernel
theorem dX12_weighs_4 : decode cX12_weighs 4 = .ok (.istore_n 3, 1) := by decide +kernel
theorem dX12_weighs_5 : decode cX12_weighs 5 = .ok (.iconst 0, 1) := by decide +kernel
theorem dX12_weighs_6 : decode cX12_weighs 6 = .ok (.istore 4, 2) := by decide +kernel
theorem dX12_weighs_8 : decode cX12_weighs 8 = .ok (.iconst 0, 1) := by decide +kernel
theorem dX12_weighs_9 : decode cX12_weighs 9 = .ok (.istore 5, 2) := by decide +kernel
theorem dX12_weighs_11 : decode cX12_weighs 11 = .ok (.iconst 0, 1) := by decide +kernel
theorem dX12_weighs_12 : decode cX12_weighs 12 = .ok (.istore 6, 2) := by decide +kernel
theorem dX12_weighs_14 : decode cX12_weighs 14 = .ok (.iload 6, 2) := by decide +kernel
theorem dX12_weighs_16 : decode cX12_weighs 16 = .ok (.aload_n 0, 1) := by decide +kernel
theorem dX12_weighs_17 : decode cX12_weighs 17 = .ok (.getfield 131, 3) := by decide +kernel
theorem dX12_weighs_20 : decode cX12_weighs 20 = .ok (.if_icmp .ge 96, 3) := by decide +kernel
theorem dX12_weighs_23 : decode cX12_weighs 23 = .ok (.iload 4, 2) := by decide +kernel
theorem dX12_weighs_25 : decode cX12_weighs 25 = .ok (.aload_n 0, 1) := by decide +kernel
theorem dX12_weighs_26 : decode cX12_weighs 26 = .ok (.getfield 13, 3) := by decide +kernel
theorem dX12_weighs_29 : decode cX12_weighs 29 = .ok (.iload 6, 2) := by decide +kernel
theorem dX12_weighs_31 : decode cX12_weighs 31 = .ok (.baload, 1) := by decide +kernel
theorem dX12_weighs_32 : decode cX12_weighs 32 = .ok (.ifCond .eq 34, 3) := by decide +kernel
theorem dX12_weighs_35 : decode cX12_weighs 35 = .ok (.aload_n 0, 1) := by decide +kernel
theorem dX12_weighs_36 : decode cX12_weighs 36 = .ok (.getfield 108, 3) := by decide +kernel
theorem dX12_weighs_39 : decode cX12_weighs 39 = .ok (.iload 6, 2) := by decide +kernel
theorem dX12_weighs_41 : decode cX12_weighs 41 = .ok (.iaload, 1) := by decide +kernel
theorem dX12_weighs_42 : decode cX12_weighs 42 = .ok (.ifCond .lt 24, 3) := by decide +kernel
theorem dX12_weighs_45 : decode cX12_weighs 45 = .ok (.aload_n 0, 1) := by decide +kernel
theorem dX12_weighs_46 : decode cX12_weighs 46 = .ok (.getfield 108, 3) := by decide +kernel
theorem dX12_weighs_49 : decode cX12_weighs 49 = .ok (.iload 6, 2) := by decide +kernel
theorem dX12_weighs_51 : decode cX12_weighs 51 = .ok (.iaload, 1) := by decide +kernel
theorem dX12_weighs_52 : decode cX12_weighs 52 = .ok (.aload_n 0, 1) := by decide +kernel
theorem dX12_weighs_53 : decode cX12_weighs 53 = .ok (.getfield 111, 3) := by decide +kernel
theorem dX12_weighs_56 : decode cX12_weighs 56 = .ok (.iload 6, 2) := by decide +kernel
theorem dX12_weighs_58 : decode cX12_weighs 58 = .ok (.iaload, 1) := by decide +kernel
theorem dX12_weighs_59 : decode cX12_weighs 59 = .ok (.if_icmp .eq 7, 3) := by decide +kernel
theorem dX12_weighs_62 : decode cX12_weighs 62 = .ok (.iconst 1, 1) := by decide +kernel
theorem dX12_weighs_63 : decode cX12_weighs 63 = .ok (.goto 4, 3) := by decide +kernel
theorem dX12_weighs_66 : decode cX12_weighs 66 = .ok (.iconst 0, 1) := by decide +kernel
theorem dX12_weighs_67 : decode cX12_weighs 67 = .ok (.iadd, 1) := by decide +kernel
theorem dX12_weighs_68 : decode cX12_weighs 68 = .ok (.istore 4, 2) := by decide +kernel
theorem dX12_weighs_70 : decode cX12_weighs 70 = .ok (.iload 5, 2) := by decide +kernel
theorem dX12_weighs_72 : decode cX12_weighs 72 = .ok (.aload_n 0, 1) := by decide +kernel
theorem dX12_weighs_73 : decode cX12_weighs 73 = .ok (.getfield 111, 3) := by decide +kernel
theorem dX12_weighs_76 : decode cX12_weighs 76 = .ok (.iload 6, 2) := by decide +kernel
theorem dX12_weighs_78 : decode cX12_weighs 78 = .ok (.iaload, 1) := by decide +kernel
theorem dX12_weighs_79 : decode cX12_weighs 79 = .ok (.aload_n 0, 1) := by decide +kernel
theorem dX12_weighs_80 : decode cX12_weighs 80 = .ok (.getfield 134, 3) := by decide +kernel
theorem dX12_weighs_83 : decode cX12_weighs 83 = .ok (.if_icmp .ge 23, 3) := by decide +kernel
theorem dX12_weighs_86 : decode cX12_weighs 86 = .ok (.aload_n 0, 1) := by decide +kernel
theorem dX12_weighs_87 : decode cX12_weighs 87 = .ok (.getfield 120, 3) := by decide +kernel
theorem dX12_weighs_90 : decode cX12_weighs 90 = .ok (.iconst 5, 1) := by decide +kernel
theorem dX12_weighs_91 : decode cX12_weighs 91 = .ok (.iload 6, 2) := by decide +kernel
theorem dX12_weighs_93 : decode cX12_weighs 93 = .ok (.imul, 1) := by decide +kernel
theorem dX12_weighs_94 : decode cX12_weighs 94 = .ok (.aload_n 0, 1) := by decide +kernel
theorem dX12_weighs_95 : decode cX12_weighs 95 = .ok (.getfield 111, 3) := by decide +kernel
theorem dX12_weighs_98 : decode cX12_weighs 98 = .ok (.iload 6, 2) := by decide +kernel
theorem dX12_weighs_100 : decode cX12_weighs 100 = .ok (.iaload, 1) := by decide +kernel
theorem dX12_weighs_101 : decode cX12_weighs 101 = .ok (.iadd, 1) := by decide +kernel
theorem dX12_weighs_102 : decode cX12_weighs 102 = .ok (.iaload, 1) := by decide +kernel
theorem dX12_weighs_103 : decode cX12_weighs 103 = .ok (.goto 4, 3) := by decide +kernel
theorem dX12_weighs_106 : decode cX12_weighs 106 = .ok (.iconst 0, 1) := by decide +kernel
theorem dX12_weighs_107 : decode cX12_weighs 107 = .ok (.iadd, 1) := by decide +kernel
theorem dX12_weighs_108 : decode cX12_weighs 108 = .ok (.istore 5, 2) := by decide +kernel
theorem dX12_weighs_110 : decode cX12_weighs 110 = .ok (.iinc 6 1, 3) := by decide +kernel
theorem dX12_weighs_113 : decode cX12_weighs 113 = .ok (.goto (-99), 3) := by decide +kernel
theorem dX12_weighs_116 : decode cX12_weighs 116 = .ok (.iload_n 1, 1) := by decide +kernel
theorem dX12_weighs_117 : decode cX12_weighs 117 = .ok (.aload_n 0, 1) := by decide +kernel
theorem dX12_weighs_118 : decode cX12_weighs 118 = .ok (.getfield 252, 3) := by decide +kernel
theorem dX12_weighs_121 : decode cX12_weighs 121 = .ok (.if_icmp .eq 19, 3) := by decide +kernel
theorem dX12_weighs_124 : decode cX12_weighs 124 = .ok (.iload_n 1, 1) := by decide +kernel
theorem dX12_weighs_125 : decode cX12_weighs 125 = .ok (.aload_n 0, 1) := by decide +kernel
theorem dX12_weighs_126 : decode cX12_weighs 126 = .ok (.getfield 252, 3) := by decide +kernel
theorem dX12_weighs_129 : decode cX12_weighs 129 = .ok (.if_icmp .ge 7, 3) := by decide +kernel
theorem dX12_weighs_132 : decode cX12_weighs 132 = .ok (.iconst 1, 1) := by decide +kernel
theorem dX12_weighs_133 : decode cX12_weighs 133 = .ok (.goto 75, 3) := by decide +kernel
theorem dX12_weighs_136 : decode cX12_weighs 136 = .ok (.iconst 0, 1) := by decide +kernel
theorem dX12_weighs_137 : decode cX12_weighs 137 = .ok (.goto 71, 3) := by decide +kernel
theorem dX12_weighs_140 : decode cX12_weighs 140 = .ok (.iload_n 3, 1) := by decide +kernel
theorem dX12_weighs_141 : decode cX12_weighs 141 = .ok (.aload_n 0, 1) := by decide +kernel
theorem dX12_weighs_142 : decode cX12_weighs 142 = .ok (.getfield 255, 3) := by decide +kernel
theorem dX12_weighs_145 : decode cX12_weighs 145 = .ok (.if_icmp .eq 19, 3) := by decide +kernel
theorem dX12_weighs_148 : decode cX12_weighs 148 = .ok (.iload_n 3, 1) := by decide +kernel
theorem dX12_weighs_149 : decode cX12_weighs 149 = .ok (.aload_n 0, 1) := by decide +kernel
theorem dX12_weighs_150 : decode cX12_weighs 150 = .ok (.getfield 255, 3) := by decide +kernel
theorem dX12_weighs_153 : decode cX12_weighs 153 = .ok (.if_icmp .ge 7, 3) := by decide +kernel
theorem dX12_weighs_156 : decode cX12_weighs 156 = .ok (.iconst 1, 1) := by decide +kernel
theorem dX12_weighs_157 : decode cX12_weighs 157 = .ok (.goto 51, 3) := by decide +kernel
theorem dX12_weighs_160 : decode cX12_weighs 160 = .ok (.iconst 0, 1) := by decide +kernel
theorem dX12_weighs_161 : decode cX12_weighs 161 = .ok (.goto 47, 3) := by decide +kernel
theorem dX12_weighs_164 : decode cX12_weighs 164 = .ok (.iload_n 2, 1) := by decide +kernel
theorem dX12_weighs_165 : decode cX12_weighs 165 = .ok (.ifCond .eq 29, 3) := by decide +kernel
theorem dX12_weighs_168 : decode cX12_weighs 168 = .ok (.iload 4, 2) := by decide +kernel
theorem dX12_weighs_170 : decode cX12_weighs 170 = .ok (.aload_n 0, 1) := by decide +kernel
theorem dX12_weighs_171 : decode cX12_weighs 171 = .ok (.getfield 258, 3) := by decide +kernel
theorem dX12_weighs_174 : decode cX12_weighs 174 = .ok (.if_icmp .eq 20, 3) := by decide +kernel
theorem dX12_weighs_177 : decode cX12_weighs 177 = .ok (.iload 4, 2) := by decide +kernel
theorem dX12_weighs_179 : decode cX12_weighs 179 = .ok (.aload_n 0, 1) := by decide +kernel
theorem dX12_weighs_180 : decode cX12_weighs 180 = .ok (.getfield 258, 3) := by decide +kernel
theorem dX12_weighs_183 : decode cX12_weighs 183 = .ok (.if_icmp .ge 7, 3) := by decide +kernel
theorem dX12_weighs_186 : decode cX12_weighs 186 = .ok (.iconst 1, 1) := by decide +kernel
theorem dX12_weighs_187 : decode cX12_weighs 187 = .ok (.goto 21, 3) := by decide +kernel
theorem dX12_weighs_190 : decode cX12_weighs 190 = .ok (.iconst 0, 1) := by decide +kernel
theorem dX12_weighs_191 : decode cX12_weighs 191 = .ok (.goto 17, 3) := by decide +kernel
theorem dX12_weighs_194 : decode cX12_weighs 194 = .ok (.iload 5, 2) := by decide +kernel
theorem dX12_weighs_196 : decode cX12_weighs 196 = .ok (.aload_n 0, 1) := by decide +kernel
theorem dX12_weighs_197 : decode cX12_weighs 197 = .ok (.getfield 261, 3) := by decide +kernel
theorem dX12_weighs_200 : decode cX12_weighs 200 = .ok (.if_icmp .le 7, 3) := by decide +kernel
theorem dX12_weighs_203 : decode cX12_weighs 203 = .ok (.iconst 1, 1) := by decide +kernel
theorem dX12_weighs_204 : decode cX12_weighs 204 = .ok (.goto 4, 3) := by decide +kernel
theorem dX12_weighs_207 : decode cX12_weighs 207 = .ok (.iconst 0, 1) := by decide +kernel
theorem dX12_weighs_208 : decode cX12_weighs 208 = .ok (.istore 6, 2) := by decide +kernel
theorem dX12_weighs_210 : decode cX12_weighs 210 = .ok (.iload 6, 2) := by decide +kernel
theorem dX12_weighs_212 : decode cX12_weighs 212 = .ok (.ifCond .ne 4, 3) := by decide +kernel
theorem dX12_weighs_215 : decode cX12_weighs 215 = .ok (.return_, 1) := by decide +kernel
theorem dX12_weighs_216 : decode cX12_weighs 216 = .ok (.aload_n 0, 1) := by decide +kernel
theorem dX12_weighs_217 : decode cX12_weighs 217 = .ok (.iload_n 1, 1) := by decide +kernel
theorem dX12_weighs_218 : decode cX12_weighs 218 = .ok (.putfield 252, 3) := by decide +kernel
theorem dX12_weighs_221 : decode cX12_weighs 221 = .ok (.aload_n 0, 1) := by decide +kernel
theorem dX12_weighs_222 : decode cX12_weighs 222 = .ok (.iload_n 3, 1) := by decide +kernel
theorem dX12_weighs_223 : decode cX12_weighs 223 = .ok (.putfield 255, 3) := by decide +kernel
theorem dX12_weighs_226 : decode cX12_weighs 226 = .ok (.aload_n 0, 1) := by decide +kernel
theorem dX12_weighs_227 : decode cX12_weighs 227 = .ok (.iload 4, 2) := by decide +kernel
theorem dX12_weighs_229 : decode cX12_weighs 229 = .ok (.putfield 258, 3) := by decide +kernel
theorem dX12_weighs_232 : decode cX12_weighs 232 = .ok (.aload_n 0, 1) := by decide +kernel
theorem dX12_weighs_233 : decode cX12_weighs 233 = .ok (.iload 5, 2) := by decide +kernel
theorem dX12_weighs_235 : decode cX12_weighs 235 = .ok (.putfield 261, 3) := by decide +kernel
theorem dX12_weighs_238 : decode cX12_weighs 238 = .ok (.iconst 0, 1) := by decide +kernel
theorem dX12_weighs_239 : decode cX12_weighs 239 = .ok (.istore 7, 2) := by decide +kernel
theorem dX12_weighs_241 : decode cX12_weighs 241 = .ok (.iload 7, 2) := by decide +kernel
theorem dX12_weighs_243 : decode cX12_weighs 243 = .ok (.aload_n 0, 1) := by decide +kernel
theorem dX12_weighs_244 : decode cX12_weighs 244 = .ok (.getfield 131, 3) := by decide +kernel
theorem dX12_weighs_247 : decode cX12_weighs 247 = .ok (.if_icmp .ge 23, 3) := by decide +kernel
theorem dX12_weighs_250 : decode cX12_weighs 250 = .ok (.aload_n 0, 1) := by decide +kernel
theorem dX12_weighs_251 : decode cX12_weighs 251 = .ok (.getfield 114, 3) := by decide +kernel
theorem dX12_weighs_254 : decode cX12_weighs 254 = .ok (.iload 7, 2) := by decide +kernel
theorem dX12_weighs_256 : decode cX12_weighs 256 = .ok (.aload_n 0, 1) := by decide +kernel
theorem dX12_weighs_257 : decode cX12_weighs 257 = .ok (.getfield 111, 3) := by decide +kernel
theorem dX12_weighs_260 : decode cX12_weighs 260 = .ok (.iload 7, 2) := by decide +kernel
theorem dX12_weighs_262 : decode cX12_weighs 262 = .ok (.iaload, 1) := by decide +kernel
theorem dX12_weighs_263 : decode cX12_weighs 263 = .ok (.iastore, 1) := by decide +kernel
theorem dX12_weighs_264 : decode cX12_weighs 264 = .ok (.iinc 7 1, 3) := by decide +kernel
theorem dX12_weighs_267 : decode cX12_weighs 267 = .ok (.goto (-26), 3) := by decide +kernel
theorem dX12_weighs_270 : decode cX12_weighs 270 = .ok (.return_, 1) := by decide +kernel
theorem dX12_place_0 : decode cX12_place 0 = .ok (.aload_n 0, 1) := by decide +kernel
theorem dX12_place_1 : decode cX12_place 1 = .ok (.iconst 0, 1) := by decide +kernel
theorem dX12_place_2 : decode cX12_place 2 = .ok (.putfield 264, 3) := by decide +kernel
theorem dX12_place_5 : decode cX12_place 5 = .ok (.iconst 0, 1) := by decide +kernel
theorem dX12_place_6 : decode cX12_place 6 = .ok (.istore_n 2, 1) := by decide +kernel
theorem dX12_place_7 : decode cX12_place 7 = .ok (.iload_n 2, 1) := by decide +kernel
theorem dX12_place_8 : decode cX12_place 8 = .ok (.aload_n 0, 1) := by decide +kernel
theorem dX12_place_9 : decode cX12_place 9 = .ok (.getfield 131, 3) := by decide +kernel
theorem dX12_place_12 : decode cX12_place 12 = .ok (.if_icmp .ge 104, 3) := by decide +kernel
theorem dX12_place_15 : decode cX12_place 15 = .ok (.aload_n 0, 1) := by decide +kernel
theorem dX12_place_16 : decode cX12_place 16 = .ok (.getfield 111, 3) := by decide +kernel
theorem dX12_place_19 : decode cX12_place 19 = .ok (.iload_n 2, 1) := by decide +kernel
theorem dX12_place_20 : decode cX12_place 20 = .ok (.iconst (-1), 1) := by decide +kernel
theorem dX12_place_21 : decode cX12_place 21 = .ok (.iastore, 1) := by decide +kernel
theorem dX12_place_22 : decode cX12_place 22 = .ok (.aload_n 0, 1) := by decide +kernel
theorem dX12_place_23 : decode cX12_place 23 = .ok (.dup, 1) := by decide +kernel
theorem dX12_place_24 : decode cX12_place 24 = .ok (.getfield 264, 3) := by decide +kernel
theorem dX12_place_27 : decode cX12_place 27 = .ok (.aload_n 0, 1) := by decide +kernel
theorem dX12_place_28 : decode cX12_place 28 = .ok (.getfield 13, 3) := by decide +kernel
theorem dX12_place_31 : decode cX12_place 31 = .ok (.iload_n 2, 1) := by decide +kernel
theorem dX12_place_32 : decode cX12_place 32 = .ok (.baload, 1) := by decide +kernel
theorem dX12_place_33 : decode cX12_place 33 = .ok (.ifCond .eq 7, 3) := by decide +kernel
theorem dX12_place_36 : decode cX12_place 36 = .ok (.iconst 1, 1) := by decide +kernel
theorem dX12_place_37 : decode cX12_place 37 = .ok (.goto 4, 3) := by decide +kernel
theorem dX12_place_40 : decode cX12_place 40 = .ok (.iconst 0, 1) := by decide +kernel
theorem dX12_place_41 : decode cX12_place 41 = .ok (.iadd, 1) := by decide +kernel
theorem dX12_place_42 : decode cX12_place 42 = .ok (.putfield 264, 3) := by decide +kernel
theorem dX12_place_45 : decode cX12_place 45 = .ok (.iconst 0, 1) := by decide +kernel
theorem dX12_place_46 : decode cX12_place 46 = .ok (.istore_n 3, 1) := by decide +kernel
theorem dX12_place_47 : decode cX12_place 47 = .ok (.iload_n 3, 1) := by decide +kernel
theorem dX12_place_48 : decode cX12_place 48 = .ok (.aload_n 0, 1) := by decide +kernel
theorem dX12_place_49 : decode cX12_place 49 = .ok (.getfield 134, 3) := by decide +kernel
theorem dX12_place_52 : decode cX12_place 52 = .ok (.if_icmp .ge 58, 3) := by decide +kernel
theorem dX12_place_55 : decode cX12_place 55 = .ok (.aload_n 0, 1) := by decide +kernel
theorem dX12_place_56 : decode cX12_place 56 = .ok (.getfield 13, 3) := by decide +kernel
theorem dX12_place_59 : decode cX12_place 59 = .ok (.iload_n 2, 1) := by decide +kernel
theorem dX12_place_60 : decode cX12_place 60 = .ok (.baload, 1) := by decide +kernel
theorem dX12_place_61 : decode cX12_place 61 = .ok (.ifCond .eq 49, 3) := by decide +kernel
theorem dX12_place_64 : decode cX12_place 64 = .ok (.aload_n 0, 1) := by decide +kernel
theorem dX12_place_65 : decode cX12_place 65 = .ok (.getfield 117, 3) := by decide +kernel
theorem dX12_place_68 : decode cX12_place 68 = .ok (.iconst 5, 1) := by decide +kernel
theorem dX12_place_69 : decode cX12_place 69 = .ok (.iload_n 2, 1) := by decide +kernel
theorem dX12_place_70 : decode cX12_place 70 = .ok (.imul, 1) := by decide +kernel
theorem dX12_place_71 : decode cX12_place 71 = .ok (.iload_n 3, 1) := by decide +kernel
theorem dX12_place_72 : decode cX12_place 72 = .ok (.iadd, 1) := by decide +kernel
theorem dX12_place_73 : decode cX12_place 73 = .ok (.aload_n 0, 1) := by decide +kernel
theorem dX12_place_74 : decode cX12_place 74 = .ok (.iload_n 2, 1) := by decide +kernel
theorem dX12_place_75 : decode cX12_place 75 = .ok (.iload_n 3, 1) := by decide +kernel
theorem dX12_place_76 : decode cX12_place 76 = .ok (.invokevirtual 240, 3) := by decide +kernel
theorem dX12_place_79 : decode cX12_place 79 = .ok (.ifCond .ne 7, 3) := by decide +kernel
theorem dX12_place_82 : decode cX12_place 82 = .ok (.iconst 1, 1) := by decide +kernel
theorem dX12_place_83 : decode cX12_place 83 = .ok (.goto 4, 3) := by decide +kernel
theorem dX12_place_86 : decode cX12_place 86 = .ok (.iconst 0, 1) := by decide +kernel
theorem dX12_place_87 : decode cX12_place 87 = .ok (.bastore, 1) := by decide +kernel
theorem dX12_place_88 : decode cX12_place 88 = .ok (.aload_n 0, 1) := by decide +kernel
theorem dX12_place_89 : decode cX12_place 89 = .ok (.getfield 120, 3) := by decide +kernel
theorem dX12_place_92 : decode cX12_place 92 = .ok (.iconst 5, 1) := by decide +kernel
theorem dX12_place_93 : decode cX12_place 93 = .ok (.iload_n 2, 1) := by decide +kernel
theorem dX12_place_94 : decode cX12_place 94 = .ok (.imul, 1) := by decide +kernel
theorem dX12_place_95 : decode cX12_place 95 = .ok (.iload_n 3, 1) := by decide +kernel
theorem dX12_place_96 : decode cX12_place 96 = .ok (.iadd, 1) := by decide +kernel
theorem dX12_place_97 : decode cX12_place 97 = .ok (.aload_n 0, 1) := by decide +kernel
theorem dX12_place_98 : decode cX12_place 98 = .ok (.iload_n 2, 1) := by decide +kernel
theorem dX12_place_99 : decode cX12_place 99 = .ok (.iload_n 3, 1) := by decide +kernel
theorem dX12_place_100 : decode cX12_place 100 = .ok (.invokevirtual 246, 3) := by decide +kernel
theorem dX12_place_103 : decode cX12_place 103 = .ok (.iastore, 1) := by decide +kernel
theorem dX12_place_104 : decode cX12_place 104 = .ok (.iinc 3 1, 3) := by decide +kernel
theorem dX12_place_107 : decode cX12_place 107 = .ok (.goto (-60), 3) := by decide +kernel
theorem dX12_place_110 : decode cX12_place 110 = .ok (.iinc 2 1, 3) := by decide +kernel
theorem dX12_place_113 : decode cX12_place 113 = .ok (.goto (-106), 3) := by decide +kernel
theorem dX12_place_116 : decode cX12_place 116 = .ok (.aload_n 0, 1) := by decide +kernel
theorem dX12_place_117 : decode cX12_place 117 = .ok (.bipush 99, 2) := by decide +kernel
theorem dX12_place_119 : decode cX12_place 119 = .ok (.putfield 252, 3) := by decide +kernel
theorem dX12_place_122 : decode cX12_place 122 = .ok (.iconst 0, 1) := by decide +kernel
theorem dX12_place_123 : decode cX12_place 123 = .ok (.istore_n 2, 1) := by decide +kernel
theorem dX12_place_124 : decode cX12_place 124 = .ok (.iconst 0, 1) := by decide +kernel
theorem dX12_place_125 : decode cX12_place 125 = .ok (.istore_n 3, 1) := by decide +kernel
theorem dX12_place_126 : decode cX12_place 126 = .ok (.aload_n 0, 1) := by decide +kernel
theorem dX12_place_127 : decode cX12_place 127 = .ok (.getfield 131, 3) := by decide +kernel
theorem dX12_place_130 : decode cX12_place 130 = .ok (.ifCond .ne 9, 3) := by decide +kernel
theorem dX12_place_133 : decode cX12_place 133 = .ok (.aload_n 0, 1) := by decide +kernel
theorem dX12_place_134 : decode cX12_place 134 = .ok (.iconst 0, 1) := by decide +kernel
theorem dX12_place_135 : decode cX12_place 135 = .ok (.iload_n 1, 1) := by decide +kernel
theorem dX12_place_136 : decode cX12_place 136 = .ok (.invokevirtual 267, 3) := by decide +kernel
theorem dX12_place_139 : decode cX12_place 139 = .ok (.aload_n 0, 1) := by decide +kernel
theorem dX12_place_140 : decode cX12_place 140 = .ok (.getfield 131, 3) := by decide +kernel
theorem dX12_place_143 : decode cX12_place 143 = .ok (.ifCond .le 134, 3) := by decide +kernel
theorem dX12_place_146 : decode cX12_place 146 = .ok (.iload_n 2, 1) := by decide +kernel
theorem dX12_place_147 : decode cX12_place 147 = .ok (.ifCond .lt 130, 3) := by decide +kernel
theorem dX12_place_150 : decode cX12_place 150 = .ok (.aload_n 0, 1) := by decide +kernel
theorem dX12_place_151 : decode cX12_place 151 = .ok (.getfield 111, 3) := by decide +kernel
theorem dX12_place_154 : decode cX12_place 154 = .ok (.iload_n 2, 1) := by decide +kernel
theorem dX12_place_155 : decode cX12_place 155 = .ok (.iaload, 1) := by decide +kernel
theorem dX12_place_156 : decode cX12_place 156 = .ok (.aload_n 0, 1) := by decide +kernel
theorem dX12_place_157 : decode cX12_place 157 = .ok (.getfield 134, 3) := by decide +kernel
theorem dX12_place_160 : decode cX12_place 160 = .ok (.if_icmp .ne 33, 3) := by decide +kernel
theorem dX12_place_163 : decode cX12_place 163 = .ok (.iload_n 3, 1) := by decide +kernel
theorem dX12_place_164 : decode cX12_place 164 = .ok (.aload_n 0, 1) := by decide +kernel
theorem dX12_place_165 : decode cX12_place 165 = .ok (.getfield 13, 3) := by decide +kernel
theorem dX12_place_168 : decode cX12_place 168 = .ok (.iload_n 2, 1) := by decide +kernel
theorem dX12_place_169 : decode cX12_place 169 = .ok (.baload, 1) := by decide +kernel
theorem dX12_place_170 : decode cX12_place 170 = .ok (.ifCond .eq 7, 3) := by decide +kernel
theorem dX12_place_173 : decode cX12_place 173 = .ok (.iconst 1, 1) := by decide +kernel
theorem dX12_place_174 : decode cX12_place 174 = .ok (.goto 4, 3) := by decide +kernel
theorem dX12_place_177 : decode cX12_place 177 = .ok (.iconst 0, 1) := by decide +kernel
theorem dX12_place_178 : decode cX12_place 178 = .ok (.isub, 1) := by decide +kernel
theorem dX12_place_179 : decode cX12_place 179 = .ok (.istore_n 3, 1) := by decide +kernel
theorem dX12_place_180 : decode cX12_place 180 = .ok (.aload_n 0, 1) := by decide +kernel
theorem dX12_place_181 : decode cX12_place 181 = .ok (.getfield 111, 3) := by decide +kernel
theorem dX12_place_184 : decode cX12_place 184 = .ok (.iload_n 2, 1) := by decide +kernel
theorem dX12_place_185 : decode cX12_place 185 = .ok (.iconst (-1), 1) := by decide +kernel
theorem dX12_place_186 : decode cX12_place 186 = .ok (.iastore, 1) := by decide +kernel
theorem dX12_place_187 : decode cX12_place 187 = .ok (.iinc 2 (-1), 3) := by decide +kernel
theorem dX12_place_190 : decode cX12_place 190 = .ok (.goto (-51), 3) := by decide +kernel
theorem dX12_place_193 : decode cX12_place 193 = .ok (.aload_n 0, 1) := by decide +kernel
theorem dX12_place_194 : decode cX12_place 194 = .ok (.getfield 111, 3) := by decide +kernel
theorem dX12_place_197 : decode cX12_place 197 = .ok (.iload_n 2, 1) := by decide +kernel
theorem dX12_place_198 : decode cX12_place 198 = .ok (.dup2, 1) := by decide +kernel
theorem dX12_place_199 : decode cX12_place 199 = .ok (.iaload, 1) := by decide +kernel
theorem dX12_place_200 : decode cX12_place 200 = .ok (.iconst 1, 1) := by decide +kernel
theorem dX12_place_201 : decode cX12_place 201 = .ok (.iadd, 1) := by decide +kernel
theorem dX12_place_202 : decode cX12_place 202 = .ok (.iastore, 1) := by decide +kernel
theorem dX12_place_203 : decode cX12_place 203 = .ok (.iload_n 3, 1) := by decide +kernel
theorem dX12_place_204 : decode cX12_place 204 = .ok (.aload_n 0, 1) := by decide +kernel
theorem dX12_place_205 : decode cX12_place 205 = .ok (.getfield 111, 3) := by decide +kernel
theorem dX12_place_208 : decode cX12_place 208 = .ok (.iload_n 2, 1) := by decide +kernel
theorem dX12_place_209 : decode cX12_place 209 = .ok (.iaload, 1) := by decide +kernel
theorem dX12_place_210 : decode cX12_place 210 = .ok (.aload_n 0, 1) := by decide +kernel
theorem dX12_place_211 : decode cX12_place 211 = .ok (.getfield 134, 3) := by decide +kernel
theorem dX12_place_214 : decode cX12_place 214 = .ok (.if_icmp .ne 16, 3) := by decide +kernel
theorem dX12_place_217 : decode cX12_place 217 = .ok (.aload_n 0, 1) := by decide +kernel
theorem dX12_place_218 : decode cX12_place 218 = .ok (.getfield 13, 3) := by decide +kernel
theorem dX12_place_221 : decode cX12_place 221 = .ok (.iload_n 2, 1) := by decide +kernel
theorem dX12_place_222 : decode cX12_place 222 = .ok (.baload, 1) := by decide +kernel
theorem dX12_place_223 : decode cX12_place 223 = .ok (.ifCond .eq 7, 3) := by decide +kernel
theorem dX12_place_226 : decode cX12_place 226 = .ok (.iconst 1, 1) := by decide +kernel
theorem dX12_place_227 : decode cX12_place 227 = .ok (.goto 4, 3) := by decide +kernel
theorem dX12_place_230 : decode cX12_place 230 = .ok (.iconst 0, 1) := by decide +kernel
theorem dX12_place_231 : decode cX12_place 231 = .ok (.iadd, 1) := by decide +kernel
theorem dX12_place_232 : decode cX12_place 232 = .ok (.istore_n 3, 1) := by decide +kernel
theorem dX12_place_233 : decode cX12_place 233 = .ok (.iload_n 3, 1) := by decide +kernel
theorem dX12_place_234 : decode cX12_place 234 = .ok (.aload_n 0, 1) := by decide +kernel
theorem dX12_place_235 : decode cX12_place 235 = .ok (.getfield 252, 3) := by decide +kernel
theorem dX12_place_238 : decode cX12_place 238 = .ok (.if_icmp .gt (-99), 3) := by decide +kernel
theorem dX12_place_241 : decode cX12_place 241 = .ok (.aload_n 0, 1) := by decide +kernel
theorem dX12_place_242 : decode cX12_place 242 = .ok (.iload_n 2, 1) := by decide +kernel
theorem dX12_place_243 : decode cX12_place 243 = .ok (.invokevirtual 271, 3) := by decide +kernel
theorem dX12_place_246 : decode cX12_place 246 = .ok (.ifCond .ne 6, 3) := by decide +kernel
theorem dX12_place_249 : decode cX12_place 249 = .ok (.goto (-110), 3) := by decide +kernel
theorem dX12_place_252 : decode cX12_place 252 = .ok (.iload_n 2, 1) := by decide +kernel
theorem dX12_place_253 : decode cX12_place 253 = .ok (.iconst 1, 1) := by decide +kernel
theorem dX12_place_254 : decode cX12_place 254 = .ok (.iadd, 1) := by decide +kernel
theorem dX12_place_255 : decode cX12_place 255 = .ok (.aload_n 0, 1) := by decide +kernel
theorem dX12_place_256 : decode cX12_place 256 = .ok (.getfield 131, 3) := by decide +kernel
theorem dX12_place_259 : decode cX12_place 259 = .ok (.if_icmp .ge 9, 3) := by decide +kernel
theorem dX12_place_262 : decode cX12_place 262 = .ok (.iinc 2 1, 3) := by decide +kernel
theorem dX12_place_265 : decode cX12_place 265 = .ok (.goto (-126), 3) := by decide +kernel
theorem dX12_place_268 : decode cX12_place 268 = .ok (.aload_n 0, 1) := by decide +kernel
theorem dX12_place_269 : decode cX12_place 269 = .ok (.iload_n 3, 1) := by decide +kernel
theorem dX12_place_270 : decode cX12_place 270 = .ok (.iload_n 1, 1) := by decide +kernel
theorem dX12_place_271 : decode cX12_place 271 = .ok (.invokevirtual 267, 3) := by decide +kernel
theorem dX12_place_274 : decode cX12_place 274 = .ok (.goto (-135), 3) := by decide +kernel
theorem dX12_place_277 : decode cX12_place 277 = .ok (.iconst 0, 1) := by decide +kernel
theorem dX12_place_278 : decode cX12_place 278 = .ok (.istore 4, 2) := by decide +kernel
theorem dX12_place_280 : decode cX12_place 280 = .ok (.iload 4, 2) := by decide +kernel
theorem dX12_place_282 : decode cX12_place 282 = .ok (.aload_n 0, 1) := by decide +kernel
theorem dX12_place_283 : decode cX12_place 283 = .ok (.getfield 131, 3) := by decide +kernel
theorem dX12_place_286 : decode cX12_place 286 = .ok (.if_icmp .ge 41, 3) := by decide +kernel
theorem dX12_place_289 : decode cX12_place 289 = .ok (.aload_n 0, 1) := by decide +kernel
theorem dX12_place_290 : decode cX12_place 290 = .ok (.getfield 108, 3) := by decide +kernel
theorem dX12_place_293 : decode cX12_place 293 = .ok (.iload 4, 2) := by decide +kernel
theorem dX12_place_295 : decode cX12_place 295 = .ok (.aload_n 0, 1) := by decide +kernel
theorem dX12_place_296 : decode cX12_place 296 = .ok (.getfield 114, 3) := by decide +kernel
theorem dX12_place_299 : decode cX12_place 299 = .ok (.iload 4, 2) := by decide +kernel
theorem dX12_place_301 : decode cX12_place 301 = .ok (.iaload, 1) := by decide +kernel
theorem dX12_place_302 : decode cX12_place 302 = .ok (.aload_n 0, 1) := by decide +kernel
theorem dX12_place_303 : decode cX12_place 303 = .ok (.getfield 134, 3) := by decide +kernel
theorem dX12_place_306 : decode cX12_place 306 = .ok (.if_icmp .ge 13, 3) := by decide +kernel
theorem dX12_place_309 : decode cX12_place 309 = .ok (.aload_n 0, 1) := by decide +kernel
theorem dX12_place_310 : decode cX12_place 310 = .ok (.getfield 114, 3) := by decide +kernel
theorem dX12_place_313 : decode cX12_place 313 = .ok (.iload 4, 2) := by decide +kernel
theorem dX12_place_315 : decode cX12_place 315 = .ok (.iaload, 1) := by decide +kernel
theorem dX12_place_316 : decode cX12_place 316 = .ok (.goto 4, 3) := by decide +kernel
theorem dX12_place_319 : decode cX12_place 319 = .ok (.iconst (-1), 1) := by decide +kernel
theorem dX12_place_320 : decode cX12_place 320 = .ok (.iastore, 1) := by decide +kernel
theorem dX12_place_321 : decode cX12_place 321 = .ok (.iinc 4 1, 3) := by decide +kernel
theorem dX12_place_324 : decode cX12_place 324 = .ok (.goto (-44), 3) := by decide +kernel
theorem dX12_place_327 : decode cX12_place 327 = .ok (.aload_n 0, 1) := by decide +kernel
theorem dX12_place_328 : decode cX12_place 328 = .ok (.iconst 1, 1) := by decide +kernel
theorem dX12_place_329 : decode cX12_place 329 = .ok (.putfield 274, 3) := by decide +kernel
theorem dX12_place_332 : decode cX12_place 332 = .ok (.aload_n 0, 1) := by decide +kernel
theorem dX12_place_333 : decode cX12_place 333 = .ok (.getfield 252, 3) := by decide +kernel
theorem dX12_place_336 : decode cX12_place 336 = .ok (.ireturn, 1) := by decide +kernel
theorem dX12_at_0 : decode cX12_at 0 = .ok (.aload_n 0, 1) := by decide +kernel
theorem dX12_at_1 : decode cX12_at 1 = .ok (.iload_n 1, 1) := by decide +kernel
theorem dX12_at_2 : decode cX12_at 2 = .ok (.invokevirtual 144, 3) := by decide +kernel
theorem dX12_at_5 : decode cX12_at 5 = .ok (.ifCond .eq 12, 3) := by decide +kernel
theorem dX12_at_8 : decode cX12_at 8 = .ok (.aload_n 0, 1) := by decide +kernel
theorem dX12_at_9 : decode cX12_at 9 = .ok (.getfield 108, 3) := by decide +kernel
theorem dX12_at_12 : decode cX12_at 12 = .ok (.iload_n 1, 1) := by decide +kernel
theorem dX12_at_13 : decode cX12_at 13 = .ok (.iaload, 1) := by decide +kernel
theorem dX12_at_14 : decode cX12_at 14 = .ok (.goto 4, 3) := by decide +kernel
theorem dX12_at_17 : decode cX12_at 17 = .ok (.iconst (-1), 1) := by decide +kernel
theorem dX12_at_18 : decode cX12_at 18 = .ok (.ireturn, 1) := by decide +kernel
theorem dX12_placed_0 : decode cX12_placed 0 = .ok (.aload_n 0, 1) := by decide +kernel
theorem dX12_placed_1 : decode cX12_placed 1 = .ok (.getfield 274, 3) := by decide +kernel
theorem dX12_placed_4 : decode cX12_placed 4 = .ok (.ifCond .ne 5, 3) := by decide +kernel
theorem dX12_placed_7 : decode cX12_placed 7 = .ok (.iconst (-1), 1) := by decide +kernel
theorem dX12_placed_8 : decode cX12_placed 8 = .ok (.ireturn, 1) := by decide +kernel
theorem dX12_placed_9 : decode cX12_placed 9 = .ok (.iload_n 1, 1) := by decide +kernel
theorem dX12_placed_10 : decode cX12_placed 10 = .ok (.tableswitch 59 0 4 #[34, 39, 44, 49, 54], 34) := by decide +kernel
theorem dX12_placed_44 : decode cX12_placed 44 = .ok (.aload_n 0, 1) := by decide +kernel
theorem dX12_placed_45 : decode cX12_placed 45 = .ok (.getfield 264, 3) := by decide +kernel
theorem dX12_placed_48 : decode cX12_placed 48 = .ok (.ireturn, 1) := by decide +kernel
theorem dX12_placed_49 : decode cX12_placed 49 = .ok (.aload_n 0, 1) := by decide +kernel
theorem dX12_placed_50 : decode cX12_placed 50 = .ok (.getfield 252, 3) := by decide +kernel
theorem dX12_placed_53 : decode cX12_placed 53 = .ok (.ireturn, 1) := by decide +kernel
theorem dX12_placed_54 : decode cX12_placed 54 = .ok (.aload_n 0, 1) := by decide +kernel
theorem dX12_placed_55 : decode cX12_placed 55 = .ok (.getfield 255, 3) := by decide +kernel
theorem dX12_placed_58 : decode cX12_placed 58 = .ok (.ireturn, 1) := by decide +kernel
theorem dX12_placed_59 : decode cX12_placed 59 = .ok (.aload_n 0, 1) := by decide +kernel
theorem dX12_placed_60 : decode cX12_placed 60 = .ok (.getfield 258, 3) := by decide +kernel
theorem dX12_placed_63 : decode cX12_placed 63 = .ok (.ireturn, 1) := by decide +kernel
theorem dX12_placed_64 : decode cX12_placed 64 = .ok (.aload_n 0, 1) := by decide +kernel
theorem dX12_placed_65 : decode cX12_placed 65 = .ok (.getfield 261, 3) := by decide +kernel
theorem dX12_placed_68 : decode cX12_placed 68 = .ok (.ireturn, 1) := by decide +kernel
theorem dX12_placed_69 : decode cX12_placed 69 = .ok (.iconst (-1), 1) := by decide +kernel
theorem dX12_placed_70 : decode cX12_placed 70 = .ok (.ireturn, 1) := by decide +kernel
theorem dX12_beds_0 : decode cX12_beds 0 = .ok (.aload_n 0, 1) := by decide +kernel
theorem dX12_beds_1 : decode cX12_beds 1 = .ok (.iload_n 1, 1) := by decide +kernel
theorem dX12_beds_2 : decode cX12_beds 2 = .ok (.invokevirtual 140, 3) := by decide +kernel
theorem dX12_beds_5 : decode cX12_beds 5 = .ok (.ifCond .eq 10, 3) := by decide +kernel
theorem dX12_beds_8 : decode cX12_beds 8 = .ok (.iload_n 2, 1) := by decide +kernel
theorem dX12_beds_9 : decode cX12_beds 9 = .ok (.invokestatic 147, 3) := by decide +kernel
theorem dX12_beds_12 : decode cX12_beds 12 = .ok (.ifCond .ne 5, 3) := by decide +kernel
theorem dX12_beds_15 : decode cX12_beds 15 = .ok (.iconst (-1), 1) := by decide +kernel
theorem dX12_beds_16 : decode cX12_beds 16 = .ok (.ireturn, 1) := by decide +kernel
theorem dX12_beds_17 : decode cX12_beds 17 = .ok (.iconst 0, 1) := by decide +kernel
theorem dX12_beds_18 : decode cX12_beds 18 = .ok (.istore_n 3, 1) := by decide +kernel
theorem dX12_beds_19 : decode cX12_beds 19 = .ok (.iconst 0, 1) := by decide +kernel
theorem dX12_beds_20 : decode cX12_beds 20 = .ok (.istore 4, 2) := by decide +kernel
theorem dX12_beds_22 : decode cX12_beds 22 = .ok (.iload 4, 2) := by decide +kernel
theorem dX12_beds_24 : decode cX12_beds 24 = .ok (.aload_n 0, 1) := by decide +kernel
theorem dX12_beds_25 : decode cX12_beds 25 = .ok (.getfield 131, 3) := by decide +kernel
theorem dX12_beds_28 : decode cX12_beds 28 = .ok (.if_icmp .ge 60, 3) := by decide +kernel
theorem dX12_beds_31 : decode cX12_beds 31 = .ok (.iload_n 3, 1) := by decide +kernel
theorem dX12_beds_32 : decode cX12_beds 32 = .ok (.aload_n 0, 1) := by decide +kernel
theorem dX12_beds_33 : decode cX12_beds 33 = .ok (.getfield 108, 3) := by decide +kernel
theorem dX12_beds_36 : decode cX12_beds 36 = .ok (.iload 4, 2) := by decide +kernel
theorem dX12_beds_38 : decode cX12_beds 38 = .ok (.iaload, 1) := by decide +kernel
theorem dX12_beds_39 : decode cX12_beds 39 = .ok (.iload_n 1, 1) := by decide +kernel
theorem dX12_beds_40 : decode cX12_beds 40 = .ok (.if_icmp .ne 39, 3) := by decide +kernel
theorem dX12_beds_43 : decode cX12_beds 43 = .ok (.aload_n 0, 1) := by decide +kernel
theorem dX12_beds_44 : decode cX12_beds 44 = .ok (.getfield 13, 3) := by decide +kernel
theorem dX12_beds_47 : decode cX12_beds 47 = .ok (.iload 4, 2) := by decide +kernel
theorem dX12_beds_49 : decode cX12_beds 49 = .ok (.baload, 1) := by decide +kernel
theorem dX12_beds_50 : decode cX12_beds 50 = .ok (.ifCond .eq 29, 3) := by decide +kernel
theorem dX12_beds_53 : decode cX12_beds 53 = .ok (.aload_n 0, 1) := by decide +kernel
theorem dX12_beds_54 : decode cX12_beds 54 = .ok (.getfield 17, 3) := by decide +kernel
theorem dX12_beds_57 : decode cX12_beds 57 = .ok (.iload 4, 2) := by decide +kernel
theorem dX12_beds_59 : decode cX12_beds 59 = .ok (.iaload, 1) := by decide +kernel
theorem dX12_beds_60 : decode cX12_beds 60 = .ok (.iload_n 2, 1) := by decide +kernel
theorem dX12_beds_61 : decode cX12_beds 61 = .ok (.if_icmp .gt 18, 3) := by decide +kernel
theorem dX12_beds_64 : decode cX12_beds 64 = .ok (.aload_n 0, 1) := by decide +kernel
theorem dX12_beds_65 : decode cX12_beds 65 = .ok (.getfield 20, 3) := by decide +kernel
theorem dX12_beds_68 : decode cX12_beds 68 = .ok (.iload 4, 2) := by decide +kernel
theorem dX12_beds_70 : decode cX12_beds 70 = .ok (.iaload, 1) := by decide +kernel
theorem dX12_beds_71 : decode cX12_beds 71 = .ok (.iload_n 2, 1) := by decide +kernel
theorem dX12_beds_72 : decode cX12_beds 72 = .ok (.if_icmp .lt 7, 3) := by decide +kernel
theorem dX12_beds_75 : decode cX12_beds 75 = .ok (.iconst 1, 1) := by decide +kernel
theorem dX12_beds_76 : decode cX12_beds 76 = .ok (.goto 4, 3) := by decide +kernel
theorem dX12_beds_79 : decode cX12_beds 79 = .ok (.iconst 0, 1) := by decide +kernel
theorem dX12_beds_80 : decode cX12_beds 80 = .ok (.iadd, 1) := by decide +kernel
theorem dX12_beds_81 : decode cX12_beds 81 = .ok (.istore_n 3, 1) := by decide +kernel
theorem dX12_beds_82 : decode cX12_beds 82 = .ok (.iinc 4 1, 3) := by decide +kernel
theorem dX12_beds_85 : decode cX12_beds 85 = .ok (.goto (-63), 3) := by decide +kernel
theorem dX12_beds_88 : decode cX12_beds 88 = .ok (.iload_n 3, 1) := by decide +kernel
theorem dX12_beds_89 : decode cX12_beds 89 = .ok (.ireturn, 1) := by decide +kernel
theorem dX12_reviewOf_0 : decode cX12_reviewOf 0 = .ok (.aload_n 0, 1) := by decide +kernel
theorem dX12_reviewOf_1 : decode cX12_reviewOf 1 = .ok (.getfield 108, 3) := by decide +kernel
theorem dX12_reviewOf_4 : decode cX12_reviewOf 4 = .ok (.iload_n 1, 1) := by decide +kernel
theorem dX12_reviewOf_5 : decode cX12_reviewOf 5 = .ok (.iaload, 1) := by decide +kernel
theorem dX12_reviewOf_6 : decode cX12_reviewOf 6 = .ok (.ifCond .lt 12, 3) := by decide +kernel
theorem dX12_reviewOf_9 : decode cX12_reviewOf 9 = .ok (.aload_n 0, 1) := by decide +kernel
theorem dX12_reviewOf_10 : decode cX12_reviewOf 10 = .ok (.getfield 13, 3) := by decide +kernel
theorem dX12_reviewOf_13 : decode cX12_reviewOf 13 = .ok (.iload_n 1, 1) := by decide +kernel
theorem dX12_reviewOf_14 : decode cX12_reviewOf 14 = .ok (.baload, 1) := by decide +kernel
theorem dX12_reviewOf_15 : decode cX12_reviewOf 15 = .ok (.ifCond .ne 5, 3) := by decide +kernel
theorem dX12_reviewOf_18 : decode cX12_reviewOf 18 = .ok (.iconst (-1), 1) := by decide +kernel
theorem dX12_reviewOf_19 : decode cX12_reviewOf 19 = .ok (.ireturn, 1) := by decide +kernel
theorem dX12_reviewOf_20 : decode cX12_reviewOf 20 = .ok (.aload_n 0, 1) := by decide +kernel
theorem dX12_reviewOf_21 : decode cX12_reviewOf 21 = .ok (.getfield 17, 3) := by decide +kernel
theorem dX12_reviewOf_24 : decode cX12_reviewOf 24 = .ok (.iload_n 1, 1) := by decide +kernel
theorem dX12_reviewOf_25 : decode cX12_reviewOf 25 = .ok (.iaload, 1) := by decide +kernel
theorem dX12_reviewOf_26 : decode cX12_reviewOf 26 = .ok (.iload_n 2, 1) := by decide +kernel
theorem dX12_reviewOf_27 : decode cX12_reviewOf 27 = .ok (.ifCond .ne 8, 3) := by decide +kernel
theorem dX12_reviewOf_30 : decode cX12_reviewOf 30 = .ok (.bipush 7, 2) := by decide +kernel
theorem dX12_reviewOf_32 : decode cX12_reviewOf 32 = .ok (.goto 12, 3) := by decide +kernel
theorem dX12_reviewOf_35 : decode cX12_reviewOf 35 = .ok (.bipush 28, 2) := by decide +kernel
theorem dX12_reviewOf_37 : decode cX12_reviewOf 37 = .ok (.bipush 90, 2) := by decide +kernel
theorem dX12_reviewOf_39 : decode cX12_reviewOf 39 = .ok (.iload_n 2, 1) := by decide +kernel
theorem dX12_reviewOf_40 : decode cX12_reviewOf 40 = .ok (.iconst 1, 1) := by decide +kernel
theorem dX12_reviewOf_41 : decode cX12_reviewOf 41 = .ok (.isub, 1) := by decide +kernel
theorem dX12_reviewOf_42 : decode cX12_reviewOf 42 = .ok (.imul, 1) := by decide +kernel
theorem dX12_reviewOf_43 : decode cX12_reviewOf 43 = .ok (.iadd, 1) := by decide +kernel
theorem dX12_reviewOf_44 : decode cX12_reviewOf 44 = .ok (.iadd, 1) := by decide +kernel
theorem dX12_reviewOf_45 : decode cX12_reviewOf 45 = .ok (.istore_n 3, 1) := by decide +kernel
theorem dX12_reviewOf_46 : decode cX12_reviewOf 46 = .ok (.iload_n 3, 1) := by decide +kernel
theorem dX12_reviewOf_47 : decode cX12_reviewOf 47 = .ok (.aload_n 0, 1) := by decide +kernel
theorem dX12_reviewOf_48 : decode cX12_reviewOf 48 = .ok (.getfield 20, 3) := by decide +kernel
theorem dX12_reviewOf_51 : decode cX12_reviewOf 51 = .ok (.iload_n 1, 1) := by decide +kernel
theorem dX12_reviewOf_52 : decode cX12_reviewOf 52 = .ok (.iaload, 1) := by decide +kernel
theorem dX12_reviewOf_53 : decode cX12_reviewOf 53 = .ok (.if_icmp .gt 7, 3) := by decide +kernel
theorem dX12_reviewOf_56 : decode cX12_reviewOf 56 = .ok (.iload_n 3, 1) := by decide +kernel
theorem dX12_reviewOf_57 : decode cX12_reviewOf 57 = .ok (.goto 4, 3) := by decide +kernel
theorem dX12_reviewOf_60 : decode cX12_reviewOf 60 = .ok (.iconst (-1), 1) := by decide +kernel
theorem dX12_reviewOf_61 : decode cX12_reviewOf 61 = .ok (.ireturn, 1) := by decide +kernel
theorem dX12_review_0 : decode cX12_review 0 = .ok (.aload_n 0, 1) := by decide +kernel
theorem dX12_review_1 : decode cX12_review 1 = .ok (.iload_n 1, 1) := by decide +kernel
theorem dX12_review_2 : decode cX12_review 2 = .ok (.invokevirtual 144, 3) := by decide +kernel
theorem dX12_review_5 : decode cX12_review 5 = .ok (.ifCond .eq 22, 3) := by decide +kernel
theorem dX12_review_8 : decode cX12_review 8 = .ok (.iload_n 2, 1) := by decide +kernel
theorem dX12_review_9 : decode cX12_review 9 = .ok (.iconst 0, 1) := by decide +kernel
theorem dX12_review_10 : decode cX12_review 10 = .ok (.bipush 100, 2) := by decide +kernel
theorem dX12_review_12 : decode cX12_review 12 = .ok (.invokestatic 123, 3) := by decide +kernel
theorem dX12_review_15 : decode cX12_review 15 = .ok (.ifCond .eq 12, 3) := by decide +kernel
theorem dX12_review_18 : decode cX12_review 18 = .ok (.aload_n 0, 1) := by decide +kernel
theorem dX12_review_19 : decode cX12_review 19 = .ok (.iload_n 1, 1) := by decide +kernel
theorem dX12_review_20 : decode cX12_review 20 = .ok (.iload_n 2, 1) := by decide +kernel
theorem dX12_review_21 : decode cX12_review 21 = .ok (.invokevirtual 278, 3) := by decide +kernel
theorem dX12_review_24 : decode cX12_review 24 = .ok (.goto 4, 3) := by decide +kernel
theorem dX12_review_27 : decode cX12_review 27 = .ok (.iconst (-1), 1) := by decide +kernel
theorem dX12_review_28 : decode cX12_review 28 = .ok (.ireturn, 1) := by decide +kernel
theorem dX12_reviews_0 : decode cX12_reviews 0 = .ok (.iload_n 1, 1) := by decide +kernel
theorem dX12_reviews_1 : decode cX12_reviews 1 = .ok (.invokestatic 147, 3) := by decide +kernel
theorem dX12_reviews_4 : decode cX12_reviews 4 = .ok (.ifCond .ne 5, 3) := by decide +kernel
theorem dX12_reviews_7 : decode cX12_reviews 7 = .ok (.iconst (-1), 1) := by decide +kernel
theorem dX12_reviews_8 : decode cX12_reviews 8 = .ok (.ireturn, 1) := by decide +kernel
theorem dX12_reviews_9 : decode cX12_reviews 9 = .ok (.iconst 0, 1) := by decide +kernel
theorem dX12_reviews_10 : decode cX12_reviews 10 = .ok (.istore_n 2, 1) := by decide +kernel
theorem dX12_reviews_11 : decode cX12_reviews 11 = .ok (.iconst 0, 1) := by decide +kernel
theorem dX12_reviews_12 : decode cX12_reviews 12 = .ok (.istore_n 3, 1) := by decide +kernel
theorem dX12_reviews_13 : decode cX12_reviews 13 = .ok (.iload_n 3, 1) := by decide +kernel
theorem dX12_reviews_14 : decode cX12_reviews 14 = .ok (.aload_n 0, 1) := by decide +kernel
theorem dX12_reviews_15 : decode cX12_reviews 15 = .ok (.getfield 131, 3) := by decide +kernel
theorem dX12_reviews_18 : decode cX12_reviews 18 = .ok (.if_icmp .ge 44, 3) := by decide +kernel
theorem dX12_reviews_21 : decode cX12_reviews 21 = .ok (.iconst 0, 1) := by decide +kernel
theorem dX12_reviews_22 : decode cX12_reviews 22 = .ok (.istore 4, 2) := by decide +kernel
theorem dX12_reviews_24 : decode cX12_reviews 24 = .ok (.iload 4, 2) := by decide +kernel
theorem dX12_reviews_26 : decode cX12_reviews 26 = .ok (.bipush 12, 2) := by decide +kernel
theorem dX12_reviews_28 : decode cX12_reviews 28 = .ok (.if_icmp .ge 28, 3) := by decide +kernel
theorem dX12_reviews_31 : decode cX12_reviews 31 = .ok (.iload_n 2, 1) := by decide +kernel
theorem dX12_reviews_32 : decode cX12_reviews 32 = .ok (.aload_n 0, 1) := by decide +kernel
theorem dX12_reviews_33 : decode cX12_reviews 33 = .ok (.iload_n 3, 1) := by decide +kernel
theorem dX12_reviews_34 : decode cX12_reviews 34 = .ok (.iload 4, 2) := by decide +kernel
theorem dX12_reviews_36 : decode cX12_reviews 36 = .ok (.invokevirtual 278, 3) := by decide +kernel
theorem dX12_reviews_39 : decode cX12_reviews 39 = .ok (.iload_n 1, 1) := by decide +kernel
theorem dX12_reviews_40 : decode cX12_reviews 40 = .ok (.if_icmp .ne 7, 3) := by decide +kernel
theorem dX12_reviews_43 : decode cX12_reviews 43 = .ok (.iconst 1, 1) := by decide +kernel
theorem dX12_reviews_44 : decode cX12_reviews 44 = .ok (.goto 4, 3) := by decide +kernel
theorem dX12_reviews_47 : decode cX12_reviews 47 = .ok (.iconst 0, 1) := by decide +kernel
theorem dX12_reviews_48 : decode cX12_reviews 48 = .ok (.iadd, 1) := by decide +kernel
theorem dX12_reviews_49 : decode cX12_reviews 49 = .ok (.istore_n 2, 1) := by decide +kernel
theorem dX12_reviews_50 : decode cX12_reviews 50 = .ok (.iinc 4 1, 3) := by decide +kernel
theorem dX12_reviews_53 : decode cX12_reviews 53 = .ok (.goto (-29), 3) := by decide +kernel
theorem dX12_reviews_56 : decode cX12_reviews 56 = .ok (.iinc 3 1, 3) := by decide +kernel
theorem dX12_reviews_59 : decode cX12_reviews 59 = .ok (.goto (-46), 3) := by decide +kernel
theorem dX12_reviews_62 : decode cX12_reviews 62 = .ok (.iload_n 2, 1) := by decide +kernel
theorem dX12_reviews_63 : decode cX12_reviews 63 = .ok (.ireturn, 1) := by decide +kernel
theorem dX12_count_0 : decode cX12_count 0 = .ok (.iload_n 1, 1) := by decide +kernel
theorem dX12_count_1 : decode cX12_count 1 = .ok (.tableswitch 78 0 6 #[43, 48, 53, 58, 63, 68, 73], 43) := by decide +kernel
theorem dX12_count_44 : decode cX12_count 44 = .ok (.aload_n 0, 1) := by decide +kernel
theorem dX12_count_45 : decode cX12_count 45 = .ok (.getfield 131, 3) := by decide +kernel
theorem dX12_count_48 : decode cX12_count 48 = .ok (.ireturn, 1) := by decide +kernel
theorem dX12_count_49 : decode cX12_count 49 = .ok (.aload_n 0, 1) := by decide +kernel
theorem dX12_count_50 : decode cX12_count 50 = .ok (.getfield 134, 3) := by decide +kernel
theorem dX12_count_53 : decode cX12_count 53 = .ok (.ireturn, 1) := by decide +kernel
theorem dX12_count_54 : decode cX12_count 54 = .ok (.aload_n 0, 1) := by decide +kernel
theorem dX12_count_55 : decode cX12_count 55 = .ok (.getfield 137, 3) := by decide +kernel
theorem dX12_count_58 : decode cX12_count 58 = .ok (.ireturn, 1) := by decide +kernel
theorem dX12_count_59 : decode cX12_count 59 = .ok (.aload_n 0, 1) := by decide +kernel
theorem dX12_count_60 : decode cX12_count 60 = .ok (.getfield 154, 3) := by decide +kernel
theorem dX12_count_63 : decode cX12_count 63 = .ok (.ireturn, 1) := by decide +kernel
theorem dX12_count_64 : decode cX12_count 64 = .ok (.aload_n 0, 1) := by decide +kernel
theorem dX12_count_65 : decode cX12_count 65 = .ok (.getfield 223, 3) := by decide +kernel
theorem dX12_count_68 : decode cX12_count 68 = .ok (.ireturn, 1) := by decide +kernel
theorem dX12_count_69 : decode cX12_count 69 = .ok (.aload_n 0, 1) := by decide +kernel
theorem dX12_count_70 : decode cX12_count 70 = .ok (.getfield 127, 3) := by decide +kernel
theorem dX12_count_73 : decode cX12_count 73 = .ok (.ireturn, 1) := by decide +kernel
theorem dX12_count_74 : decode cX12_count 74 = .ok (.aload_n 0, 1) := by decide +kernel
theorem dX12_count_75 : decode cX12_count 75 = .ok (.getfield 157, 3) := by decide +kernel
theorem dX12_count_78 : decode cX12_count 78 = .ok (.ireturn, 1) := by decide +kernel
theorem dX12_count_79 : decode cX12_count 79 = .ok (.iconst (-1), 1) := by decide +kernel
theorem dX12_count_80 : decode cX12_count 80 = .ok (.ireturn, 1) := by decide +kernel
end
section
/-! The words that every method takes: those of the tables that keep. -/
def hf_TB : List Cond := lw_tbl.filter goodWord
theorem hf_tb {w : Cond} (h : w ∈ lw_tbl) (g : goodWord w = true) : w ∈ hf_TB := List.mem_filter.mpr ⟨h, g⟩
theorem hf_tbG : ∀ w ∈ hf_TB, goodWord w = true := fun _ h => (List.mem_filter.mp h).2
theorem hf_tbL : ∀ w ∈ hf_TB, w ∈ lw_tbl := fun _ h => (List.mem_filter.mp h).1
/-- a method's words -/
abbrev hf_ws (y : MethodName) (cc : ByteArray) (nL : Nat) (rt : Option FieldType) : List Cond := Cond.code y cc nL rt :: hf_TB
/-! A state: whole numbers of objects by object and place; rows by their number and place. -/
abbrev hf_St : Type := (Nat → Nat → Int32) × (Nat → Nat → Int32)
abbrev hf_Tb : Type := List (Nat × List (Option Nat)) × List (Nat × FieldType)
def hf_fv (ad : Nat → Nat) (σ : hf_St) (j k : Nat) (f : Option Nat) : Value := match f with
  | none => .int (σ.1 j k)
  | some r => .ref (ad r)
def hf_wo (ad : Nat → Nat) (σ : hf_St) (j : Nat) (o : Nat × List (Option Nat)) : Nat × va_E := (ad j, .inr (o.1, o.2.mapIdx (fun k f => hf_fv ad σ j k f)))
def hf_wa (ad : Nat → Nat) (cA : Nat → ClassId) (σ : hf_St) (n0 a : Nat) (x : Nat × FieldType) : Nat × va_E := (ad (n0 + a), .inl (cA a, x.1, .inl (σ.2 a)))
def hf_wd (T : hf_Tb) (ad : Nat → Nat) (cA : Nat → ClassId) (σ : hf_St) : va_W := T.1.mapIdx (hf_wo ad σ) ++ T.2.mapIdx (hf_wa ad cA σ T.1.length)
def hf_ty (T : hf_Tb) (cA : Nat → ClassId) : List (ClassId × FieldType) := T.2.mapIdx (fun a x => (cA a, x.2))
def hf_N (T : hf_Tb) : Nat := T.1.length + T.2.length
def hf_A (T : hf_Tb) (ad : Nat → Nat) (sz : Nat) : Nat → Prop := fun q => (∃ j, j < hf_N T ∧ q = ad j) ∨ sz ≤ q
def hf_inj (T : hf_Tb) (ad : Nat → Nat) : Prop := ∀ i j, i < hf_N T → j < hf_N T → ad i = ad j → i = j
def hf_pI (σ : hf_St) (j k : Nat) (v : Int32) : hf_St := (fun j' k' => if j' = j ∧ k' = k then v else σ.1 j' k', σ.2)
def hf_pA (σ : hf_St) (a : Nat) (f : Nat → Int32) : hf_St := (σ.1, fun a' => if a' = a then f else σ.2 a')
theorem hf_pI_1 (σ : hf_St) (j k : Nat) (v : Int32) (j' k' : Nat) : (hf_pI σ j k v).1 j' k' = if j' = j ∧ k' = k then v else σ.1 j' k' := rfl
theorem hf_pI_2 (σ : hf_St) (j k : Nat) (v : Int32) : (hf_pI σ j k v).2 = σ.2 := rfl
theorem hf_pA_1 (σ : hf_St) (a : Nat) (f : Nat → Int32) : (hf_pA σ a f).1 = σ.1 := rfl
theorem hf_pA_2 (σ : hf_St) (a : Nat) (f : Nat → Int32) (a' : Nat) : (hf_pA σ a f).2 a' = if a' = a then f else σ.2 a' := rfl
theorem hf_obj {T : hf_Tb} {ad : Nat → Nat} {cA : Nat → ClassId} {σ : hf_St} {j ci : Nat} {fl : List (Option Nat)} (h : T.1[j]? = some (ci, fl)) : (hf_wd T ad cA σ)[j]? = some (ad j, .inr (ci, fl.mapIdx (fun k f => hf_fv ad σ j k f))) := by
  have hl : j < T.1.length := (List.getElem?_eq_some_iff.mp h).1
  unfold hf_wd
  rw [List.getElem?_append_left (by simpa using hl), List.getElem?_mapIdx, h]
  rfl
theorem hf_arr {T : hf_Tb} {ad : Nat → Nat} {cA : Nat → ClassId} {σ : hf_St} {a n : Nat} {t : FieldType} (h : T.2[a]? = some (n, t)) : (hf_wd T ad cA σ)[T.1.length + a]? = some (ad (T.1.length + a), .inl (cA a, n, .inl (σ.2 a))) := by
  unfold hf_wd
  rw [List.getElem?_append_right (by simp), List.length_mapIdx, Nat.add_sub_cancel_left, List.getElem?_mapIdx, h]
  rfl
theorem hf_tyAt {T : hf_Tb} {cA : Nat → ClassId} {a n : Nat} {t : FieldType} (h : T.2[a]? = some (n, t)) : (hf_ty T cA)[a]? = some (cA a, t) := by
  unfold hf_ty
  rw [List.getElem?_mapIdx, h]
  rfl
theorem hf_len (T : hf_Tb) (ad : Nat → Nat) (cA : Nat → ClassId) (σ : hf_St) : (hf_wd T ad cA σ).length = hf_N T := by
  simp [hf_wd, hf_N]
theorem hf_adr {T : hf_Tb} {ad : Nat → Nat} {cA : Nat → ClassId} {σ : hf_St} {k : Nat} {q : Nat × va_E} (h : (hf_wd T ad cA σ)[k]? = some q) : q.1 = ad k ∧ k < hf_N T := by
  have hk : k < hf_N T := by
    have := (List.getElem?_eq_some_iff.mp h).1
    rwa [hf_len] at this
  refine ⟨?_, hk⟩
  unfold hf_wd at h
  by_cases hl : k < T.1.length
  · rw [List.getElem?_append_left (by simpa using hl), List.getElem?_mapIdx] at h
    cases hx : T.1[k]? with
    | none => simp [hx] at h
    | some x => rw [hx] at h; simp at h; rw [← h]; rfl
  · rw [List.getElem?_append_right (by simpa using Nat.le_of_not_lt hl), List.length_mapIdx, List.getElem?_mapIdx] at h
    cases hx : T.2[k - T.1.length]? with
    | none => simp [hx] at h
    | some x =>
      rw [hx] at h; simp at h; rw [← h]
      show ad (T.1.length + (k - T.1.length)) = ad k
      rw [Nat.add_sub_cancel' (Nat.le_of_not_lt hl)]
theorem hf_dis {T : hf_Tb} {ad : Nat → Nat} {cA : Nat → ClassId} {sz : Nat} (hi : hf_inj T ad) (σ : hf_St) : va_D (hf_A T ad sz) (hf_wd T ad cA σ) := by
  refine ⟨fun i j p q h1 h2 e => ?_, fun k q h => ?_⟩
  · have a1 := hf_adr h1
    have a2 := hf_adr h2
    exact hi i j a1.2 a2.2 (by rw [← a1.1, ← a2.1]; exact e)
  · exact Or.inl ⟨k, (hf_adr h).2, (hf_adr h).1⟩
theorem hf_setI {T : hf_Tb} {ad : Nat → Nat} {cA : Nat → ClassId} {σ : hf_St} {j ci k : Nat} {fl : List (Option Nat)} {v : Int32} (h : T.1[j]? = some (ci, fl)) (hk : fl[k]? = some none) : (hf_wd T ad cA σ).set j (ad j, .inr (ci, (fl.mapIdx (fun k f => hf_fv ad σ j k f)).set k (.int v))) = hf_wd T ad cA (hf_pI σ j k v) := by
  have hl : j < T.1.length := (List.getElem?_eq_some_iff.mp h).1
  have hkl : k < fl.length := (List.getElem?_eq_some_iff.mp hk).1
  refine List.ext_getElem? fun i => ?_
  rw [List.getElem?_set]
  by_cases hij : j = i
  · subst hij
    have hN : j < (hf_wd T ad cA σ).length := by rw [hf_len]; unfold hf_N; omega
    rw [if_pos rfl, if_pos hN, hf_obj h]
    refine congrArg some (Prod.ext rfl (congrArg Sum.inr (Prod.ext rfl ?_)))
    refine List.ext_getElem? fun i => ?_
    rw [List.getElem?_set, List.getElem?_mapIdx, List.getElem?_mapIdx]
    by_cases hik : k = i
    · subst hik
      rw [if_pos rfl, if_pos (by simpa using hkl), hk]
      simp [hf_fv, hf_pI]
    · rw [if_neg hik]
      cases hx : fl[i]? with
      | none => rfl
      | some f =>
        cases f with
        | none => simp [hf_fv, hf_pI, Ne.symm hik]
        | some r => simp [hf_fv]
  · rw [if_neg hij]
    unfold hf_wd
    by_cases hil : i < T.1.length
    · rw [List.getElem?_append_left (by simpa using hil), List.getElem?_append_left (by simpa using hil), List.getElem?_mapIdx, List.getElem?_mapIdx]
      cases hx : T.1[i]? with
      | none => rfl
      | some o =>
        refine congrArg some (Prod.ext rfl (congrArg Sum.inr (Prod.ext rfl ?_)))
        refine List.ext_getElem? fun z => ?_
        show (o.2.mapIdx _)[z]? = (o.2.mapIdx _)[z]?
        rw [List.getElem?_mapIdx, List.getElem?_mapIdx]
        cases hy : o.2[z]? with
        | none => rfl
        | some f =>
          cases f with
          | none => simp [hf_fv, hf_pI, Ne.symm hij]
          | some r => simp [hf_fv]
    · rw [List.getElem?_append_right (by simpa using Nat.le_of_not_lt hil), List.getElem?_append_right (by simpa using Nat.le_of_not_lt hil)]
      simp only [List.length_mapIdx]
      rfl
theorem hf_setA {T : hf_Tb} {ad : Nat → Nat} {cA : Nat → ClassId} {σ : hf_St} {a n : Nat} {t : FieldType} {f : Nat → Int32} (h : T.2[a]? = some (n, t)) : (hf_wd T ad cA σ).set (T.1.length + a) (ad (T.1.length + a), .inl (cA a, n, .inl f)) = hf_wd T ad cA (hf_pA σ a f) := by
  have hl : a < T.2.length := (List.getElem?_eq_some_iff.mp h).1
  refine List.ext_getElem? fun i => ?_
  rw [List.getElem?_set]
  by_cases hij : T.1.length + a = i
  · subst hij
    have hN : T.1.length + a < (hf_wd T ad cA σ).length := by rw [hf_len]; unfold hf_N; omega
    rw [if_pos rfl, if_pos hN, hf_arr h]
    simp [hf_pA]
  · rw [if_neg hij]
    unfold hf_wd
    by_cases hil : i < T.1.length
    · rw [List.getElem?_append_left (by simpa using hil), List.getElem?_append_left (by simpa using hil)]
      rfl
    · rw [List.getElem?_append_right (by simpa using Nat.le_of_not_lt hil), List.getElem?_append_right (by simpa using Nat.le_of_not_lt hil)]
      simp only [List.length_mapIdx, List.getElem?_mapIdx]
      cases hx : T.2[i - T.1.length]? with
      | none => rfl
      | some x =>
        have hne : i - T.1.length ≠ a := fun e => hij (by omega)
        simp [hf_wa, hf_pA, hne]
end
section
/-! The walk: X says that the machine, at this place with this world, comes to the end that K tells. -/
abbrev hf_Cx : Type := Program × Launch × Env × Room × State × MethodId × Array Value × List Frame × Method × Code × va_G
def hf_X {α : Type} (x : hf_Cx) (A : Nat → Prop) (nL : Nat) (z : Nat × Nat) (Q : α → State → Prop) (K : Option α) (w : va_W) (pc : Nat) (lv : List (Nat × Value)) (st : List Value) : Prop := match x with
  | (p, l, e, R, s, m, args, below, meth, c, D) => ∀ v, K = some v → ∀ (H : Heap) (locs : List Loc) (ls : Array Slot), va_P D vwCl w H → va_S A s.heap H locs → lv_has ls nL lv → W p l e R s m args below meth c H locs z.1 z.2 (Q v) (F0 m pc ls st)
def hf_C (x : hf_Cx) (cc : ByteArray) (nL : Nat) (own : String) : Prop := match x with
  | (p, _, _, _, s, m, args, _, _, c, _) => p.tables.exec = Jvm.exec ∧ c.code = cc ∧ c.maxLocals = nL ∧ s.vm.findClass own = some m.cls ∧ ∀ w ∈ hf_TB, w.before args s = true
def hf_stab (T : hf_Tb) (ad : Nat → Nat) (E : State → Prop) : Prop := ∀ s U : State, E s → (s.WarmedH U.vm ∨ s.vm = U.vm) → s.heap.size ≤ U.heap.size → (∀ q, q < s.heap.size → ¬ hf_A T ad s.heap.size q → U.heap[q]? = s.heap[q]?) → E U
def hf_G (x : hf_Cx) (T : hf_Tb) (ad : Nat → Nat) (cA : Nat → ClassId) (E : State → Prop) (A : Nat → Prop) (l0 : Launch) (D0 : va_G) (cc : ByteArray) (nL : Nat) (own : String) (rt : Option FieldType) (d : Nat) : Prop := hf_C x cc nL own ∧ match x with
  | (_, l, _, R, s, _, _, _, meth, _, D) => va_K D vwCl (hf_ty T cA) s ∧ hf_inj T ad ∧ A = hf_A T ad s.heap.size ∧ hf_stab T ad E ∧ E s ∧ meth.locks = false ∧ meth.sig.returnType = rt ∧ d ≤ R.frames ∧ 40 * d ≤ R.locals ∧ l = l0 ∧ D = D0
def hf_rm (d : Nat) : Room := { frames := d, cells := 0, slots := 0, locals := 40 * d }
def hf_Pw (T : hf_Tb) (D : va_G) (ad : Nat → Nat) (cA : Nat → ClassId) (E : State → Prop) (σ : hf_St) (sz : Nat) : State → Prop := fun U => U.heap.size = sz ∧ va_P D vwCl (hf_wd T ad cA σ) U.heap ∧ va_K D vwCl (hf_ty T cA) U ∧ hf_inj T ad ∧ hf_stab T ad E ∧ E U
def hf_Qc (T : hf_Tb) (D : va_G) (ad : Nat → Nat) (cA : Nat → ClassId) (sz : Nat) (r : Option Value × hf_St) : Array Value → State → Outcome → State → Prop := fun _ st oc t => oc = .returned r.1 ∧ va_P D vwCl (hf_wd T ad cA r.2) t.heap ∧ va_F (hf_A T ad sz) st t
def hf_Ct {α : Type} (l : Launch) (D : va_G) (T : hf_Tb) (ad : Nat → Nat) (cA : Nat → ClassId) (E : State → Prop) (d : Nat) (y : MethodName) (cc : ByteArray) (nL : Nat) (rt : Option FieldType) (av : List Value) (σ : hf_St) (G : Option α) (res : α → Option Value × hf_St) : Prop :=
  ∀ v, G = some v → ∀ sz, Met l y (hf_ws y cc nL rt) (hf_rm d) (va_Pc av (hf_Pw T D ad cA E σ sz)) (hf_Qc T D ad cA sz (res v)) 0 0 (hf_A T ad sz)
def hf_Q {α : Type} (x : hf_Cx) (T : hf_Tb) (ad : Nat → Nat) (cA : Nat → ClassId) (A : Nat → Prop) (res : α → Option Value × hf_St) : α → State → Prop := match x with
  | (_, _, _, _, s, _, args, below, _, _, D) => fun v => MQ below (hf_Qc T D ad cA s.heap.size (res v)) args s 0 0 A
/-- a contract out of a walk from the entry -/
theorem hf_met {α : Type} {l : Launch} {D : va_G} {T : hf_Tb} {ad : Nat → Nat} {cA : Nat → ClassId} {E : State → Prop} {d : Nat} {y : MethodName} {cc : ByteArray} {nL : Nat} {rt : Option FieldType} {av : List Value} {σ : hf_St} {G : Option α} {res : α → Option Value × hf_St}
    (hy : plainName y.cls = true) (hav : (lg_sl av).length ≤ nL)
    (h : ∀ (x : hf_Cx) (A : Nat → Prop), hf_G x T ad cA E A l D cc nL y.cls rt d → hf_X x A nL (0, 0) (hf_Q x T ad cA A res) G (hf_wd T ad cA σ) 0 (lv_args 0 av) []) :
    hf_Ct l D T ad cA E d y cc nL rt av σ G res := by
  intro v hv sz
  refine Met.ofW (cc := cc) (maxL := nL) (ret := rt) hy rfl ?_
  intro p e s m args below meth c s₁ B hml hpc
  obtain ⟨rfl, hsz, hP, hK, hinj, hst, hE⟩ := hpc
  subst hsz
  have hts := atoms_spec (ws := hf_ws y cc nL rt) B.pre
  have hown : s.vm.findClass y.cls = some m.cls := findClass_of_methodNamed B.named
  have hl := lv_entry av (n := nL) hav
  rw [lg_entry_eq]
  exact h (p, l, e, hf_rm d, s, m, av.toArray, below, meth, c, D) (hf_A T ad s.heap.size) ⟨⟨B.exec, B.bytes, hml, hown, fun w hw => hts w (List.mem_cons_of_mem _ hw)⟩, hK, hinj, rfl, hst, hE, B.notSynchronized, B.returns, Nat.le_refl _, Nat.le_refl _, rfl, rfl⟩ v hv s.heap [] _ hP va_S.rf hl
/-! How a value is named, a guard, a call's answer. -/
def hf_lt {β : Sort _} {γ : Sort _} (v : β) (K : β → γ) : γ := K v
def hf_gd {α : Type} (c : Prop) [Decidable c] (K : Option α) : Option α := if c then K else none
abbrev hf_ix (i : Int32) (n : Nat) : Prop := 0 ≤ i.toInt ∧ i.toInt < (n : Int)
abbrev hf_z (v : Int32) : Prop := v = 0 ∨ v = 1
section HfRows
variable {α : Type} {x : hf_Cx} {A : Nat → Prop} {nL : Nat} {z : Nat × Nat} {Q : α → State → Prop} {K : Option α} {w : va_W} {pc : Nat} {lv lv' : List (Nat × Value)} {st : List Value} {cc : ByteArray} {own : String}
theorem hf_none {Q : α → State → Prop} : hf_X x A nL z Q none w pc lv st := by
  obtain ⟨p, l, e, R, s, m, args, below, meth, c, D⟩ := x
  intro v hv
  cases hv
theorem hf_let {v : Int32} {K : Int32 → Option α} (k : ∀ y : Int32, hf_X x A nL z Q (K y) w pc lv (.int y :: st)) : hf_X x A nL z Q (hf_lt v K) w pc lv (.int v :: st) := k v
theorem hf_sub (ks : List Nat) (h : lv_pick lv ks = lv') (k : hf_X x A nL z Q K w pc lv' st) : hf_X x A nL z Q K w pc lv st := by
  obtain ⟨p, l, e, R, s, m, args, below, meth, c, D⟩ := x
  exact fun v hv H locs ls hP hS hl => k v hv H locs ls hP hS (lv_sub hl ks h)
theorem hf_iconst (g : hf_C x cc nL own) {n : Int} {v : Int32} (hd : decode cc pc = .ok (.iconst n, 1)) (hv : Int32.ofInt n = v) (k : hf_X x A nL z Q K w (pc + 1) lv (.int v :: st)) : hf_X x A nL z Q K w pc lv st := by
  obtain ⟨p, l, e, R, s, m, args, below, meth, c, D⟩ := x
  exact fun u hu H locs ls hP hS hl => lv_iconst g.1 g.2.1 hd hv (k u hu H locs ls hP hS hl)
theorem hf_bipush (g : hf_C x cc nL own) {n : Int} {v : Int32} (hd : decode cc pc = .ok (.bipush n, 2)) (hv : (Int8.ofInt n).toInt32 = v) (k : hf_X x A nL z Q K w (pc + 2) lv (.int v :: st)) : hf_X x A nL z Q K w pc lv st := by
  obtain ⟨p, l, e, R, s, m, args, below, meth, c, D⟩ := x
  exact fun u hu H locs ls hP hS hl => lv_bipush g.1 g.2.1 hd hv (k u hu H locs ls hP hS hl)
theorem hf_sipush (g : hf_C x cc nL own) {n : Int} {v : Int32} (hd : decode cc pc = .ok (.sipush n, 3)) (hv : (Int16.ofInt n).toInt32 = v) (k : hf_X x A nL z Q K w (pc + 3) lv (.int v :: st)) : hf_X x A nL z Q K w pc lv st := by
  obtain ⟨p, l, e, R, s, m, args, below, meth, c, D⟩ := x
  exact fun u hu H locs ls hP hS hl => lv_sipush g.1 g.2.1 hd hv (k u hu H locs ls hP hS hl)
theorem hf_ldc (g : hf_C x cc nL own) {index : Nat} {v : Int32} (hc : Cond.constant own index v ∈ hf_TB) (hd : decode cc pc = .ok (.ldc index, 2)) (k : hf_X x A nL z Q K w (pc + 2) lv (.int v :: st)) : hf_X x A nL z Q K w pc lv st := by
  obtain ⟨p, l, e, R, s, m, args, below, meth, c, D⟩ := x
  exact fun u hu H locs ls hP hS hl => lv_ldc g.1 g.2.1 g.2.2.2.1 (g.2.2.2.2 _ hc) hd (k u hu H locs ls hP hS hl)
theorem hf_ldcw (g : hf_C x cc nL own) {index : Nat} {v : Int32} (hc : Cond.constant own index v ∈ hf_TB) (hd : decode cc pc = .ok (.ldc_w index, 3)) (k : hf_X x A nL z Q K w (pc + 3) lv (.int v :: st)) : hf_X x A nL z Q K w pc lv st := by
  obtain ⟨p, l, e, R, s, m, args, below, meth, c, D⟩ := x
  exact fun u hu H locs ls hP hS hl => lv_ldcw g.1 g.2.1 g.2.2.2.1 (g.2.2.2.2 _ hc) hd (k u hu H locs ls hP hS hl)
theorem hf_iload_n (g : hf_C x cc nL own) {k : Fin 4} {i q : Nat} {v : Int32} (hd : decode cc pc = .ok (.iload_n k, 1)) (hi : (k : Nat) = i) (hq : lv[q]? = some (i, .int v)) (kk : hf_X x A nL z Q K w (pc + 1) lv (.int v :: st)) : hf_X x A nL z Q K w pc lv st := by
  obtain ⟨p, l, e, R, s, m, args, below, meth, c, D⟩ := x
  exact fun u hu H locs ls hP hS hl => lv_iload_n g.1 g.2.1 hd hi (lv_at hl q hq) (kk u hu H locs ls hP hS hl)
theorem hf_iload (g : hf_C x cc nL own) {i q : Nat} {v : Int32} (hd : decode cc pc = .ok (.iload i, 2)) (hq : lv[q]? = some (i, .int v)) (kk : hf_X x A nL z Q K w (pc + 2) lv (.int v :: st)) : hf_X x A nL z Q K w pc lv st := by
  obtain ⟨p, l, e, R, s, m, args, below, meth, c, D⟩ := x
  exact fun u hu H locs ls hP hS hl => lv_iload g.1 g.2.1 hd (lv_at hl q hq) (kk u hu H locs ls hP hS hl)
theorem hf_aload_n (g : hf_C x cc nL own) {k : Fin 4} {i q : Nat} {v : Nat} (hd : decode cc pc = .ok (.aload_n k, 1)) (hi : (k : Nat) = i) (hq : lv[q]? = some (i, .ref v)) (kk : hf_X x A nL z Q K w (pc + 1) lv (.ref v :: st)) : hf_X x A nL z Q K w pc lv st := by
  obtain ⟨p, l, e, R, s, m, args, below, meth, c, D⟩ := x
  exact fun u hu H locs ls hP hS hl => lv_aload_n g.1 g.2.1 hd hi (lv_at hl q hq) (kk u hu H locs ls hP hS hl)
theorem hf_aload (g : hf_C x cc nL own) {i q : Nat} {v : Nat} (hd : decode cc pc = .ok (.aload i, 2)) (hq : lv[q]? = some (i, .ref v)) (kk : hf_X x A nL z Q K w (pc + 2) lv (.ref v :: st)) : hf_X x A nL z Q K w pc lv st := by
  obtain ⟨p, l, e, R, s, m, args, below, meth, c, D⟩ := x
  exact fun u hu H locs ls hP hS hl => lv_aload g.1 g.2.1 hd (lv_at hl q hq) (kk u hu H locs ls hP hS hl)
theorem hf_istore_n (g : hf_C x cc nL own) {k : Fin 4} {i : Nat} {v : Int32} (hd : decode cc pc = .ok (.istore_n k, 1)) (hi : (k : Nat) = i) (hn : i < nL) (h : (i, Value.int v) :: lv.filter (fun q => !(q.1 == i) && !(q.1 + 1 == i && q.2.category == 2)) = lv') (kk : hf_X x A nL z Q K w (pc + 1) lv' st) : hf_X x A nL z Q K w pc lv (.int v :: st) := by
  obtain ⟨p, l, e, R, s, m, args, below, meth, c, D⟩ := x
  exact fun u hu H locs ls hP hS hl => lv_istore_n g.1 g.2.1 hd hi hl hn h (fun ls hl => kk u hu H locs ls hP hS hl)
theorem hf_istore (g : hf_C x cc nL own) {i : Nat} {v : Int32} (hd : decode cc pc = .ok (.istore i, 2)) (hn : i < nL) (h : (i, Value.int v) :: lv.filter (fun q => !(q.1 == i) && !(q.1 + 1 == i && q.2.category == 2)) = lv') (kk : hf_X x A nL z Q K w (pc + 2) lv' st) : hf_X x A nL z Q K w pc lv (.int v :: st) := by
  obtain ⟨p, l, e, R, s, m, args, below, meth, c, D⟩ := x
  exact fun u hu H locs ls hP hS hl => lv_istore g.1 g.2.1 hd hl hn h (fun ls hl => kk u hu H locs ls hP hS hl)
theorem hf_astore_n (g : hf_C x cc nL own) {k : Fin 4} {i : Nat} {v : Nat} (hd : decode cc pc = .ok (.astore_n k, 1)) (hi : (k : Nat) = i) (hn : i < nL) (h : (i, Value.ref v) :: lv.filter (fun q => !(q.1 == i) && !(q.1 + 1 == i && q.2.category == 2)) = lv') (kk : hf_X x A nL z Q K w (pc + 1) lv' st) : hf_X x A nL z Q K w pc lv (.ref v :: st) := by
  obtain ⟨p, l, e, R, s, m, args, below, meth, c, D⟩ := x
  exact fun u hu H locs ls hP hS hl => lv_astore_n g.1 g.2.1 hd hi hl hn h (fun ls hl => kk u hu H locs ls hP hS hl)
theorem hf_iinc (g : hf_C x cc nL own) {i q : Nat} {n : Int} {v v' : Int32} (hd : decode cc pc = .ok (.iinc i n, 3)) (hq : lv[q]? = some (i, .int v)) (hv : v + Int32.ofInt n = v') (hn : i < nL) (h : (i, Value.int v') :: lv.filter (fun q => !(q.1 == i) && !(q.1 + 1 == i && q.2.category == 2)) = lv') (kk : hf_X x A nL z Q K w (pc + 3) lv' st) : hf_X x A nL z Q K w pc lv st := by
  obtain ⟨p, l, e, R, s, m, args, below, meth, c, D⟩ := x
  exact fun u hu H locs ls hP hS hl => lv_iinc g.1 g.2.1 hd hl hq hv hn h (fun ls hl => kk u hu H locs ls hP hS hl)
theorem hf_iadd (g : hf_C x cc nL own) {a b : Int32} (hd : decode cc pc = .ok (.iadd, 1)) (kk : hf_X x A nL z Q K w (pc + 1) lv (.int (a + b) :: st)) : hf_X x A nL z Q K w pc lv (.int b :: .int a :: st) := by
  obtain ⟨p, l, e, R, s, m, args, below, meth, c, D⟩ := x
  exact fun u hu H locs ls hP hS hl => lv_iadd g.1 g.2.1 hd (kk u hu H locs ls hP hS hl)
theorem hf_isub (g : hf_C x cc nL own) {a b : Int32} (hd : decode cc pc = .ok (.isub, 1)) (kk : hf_X x A nL z Q K w (pc + 1) lv (.int (a - b) :: st)) : hf_X x A nL z Q K w pc lv (.int b :: .int a :: st) := by
  obtain ⟨p, l, e, R, s, m, args, below, meth, c, D⟩ := x
  exact fun u hu H locs ls hP hS hl => lv_isub g.1 g.2.1 hd (kk u hu H locs ls hP hS hl)
theorem hf_imul (g : hf_C x cc nL own) {a b : Int32} (hd : decode cc pc = .ok (.imul, 1)) (kk : hf_X x A nL z Q K w (pc + 1) lv (.int (a * b) :: st)) : hf_X x A nL z Q K w pc lv (.int b :: .int a :: st) := by
  obtain ⟨p, l, e, R, s, m, args, below, meth, c, D⟩ := x
  exact fun u hu H locs ls hP hS hl => lv_imul g.1 g.2.1 hd (kk u hu H locs ls hP hS hl)
theorem hf_iand (g : hf_C x cc nL own) {a b : Int32} (hd : decode cc pc = .ok (.iand, 1)) (kk : hf_X x A nL z Q K w (pc + 1) lv (.int (a &&& b) :: st)) : hf_X x A nL z Q K w pc lv (.int b :: .int a :: st) := by
  obtain ⟨p, l, e, R, s, m, args, below, meth, c, D⟩ := x
  exact fun u hu H locs ls hP hS hl => lv_iand g.1 g.2.1 hd (kk u hu H locs ls hP hS hl)
theorem hf_ior (g : hf_C x cc nL own) {a b : Int32} (hd : decode cc pc = .ok (.ior, 1)) (kk : hf_X x A nL z Q K w (pc + 1) lv (.int (a ||| b) :: st)) : hf_X x A nL z Q K w pc lv (.int b :: .int a :: st) := by
  obtain ⟨p, l, e, R, s, m, args, below, meth, c, D⟩ := x
  exact fun u hu H locs ls hP hS hl => lv_ior g.1 g.2.1 hd (kk u hu H locs ls hP hS hl)
theorem hf_ishl (g : hf_C x cc nL own) {a b : Int32} (hd : decode cc pc = .ok (.ishl, 1)) (kk : hf_X x A nL z Q K w (pc + 1) lv (.int (a <<< (b &&& 31)) :: st)) : hf_X x A nL z Q K w pc lv (.int b :: .int a :: st) := by
  obtain ⟨p, l, e, R, s, m, args, below, meth, c, D⟩ := x
  exact fun u hu H locs ls hP hS hl => lv_ishl g.1 g.2.1 hd (kk u hu H locs ls hP hS hl)
theorem hf_ishr (g : hf_C x cc nL own) {a b : Int32} (hd : decode cc pc = .ok (.ishr, 1)) (kk : hf_X x A nL z Q K w (pc + 1) lv (.int (a >>> (b &&& 31)) :: st)) : hf_X x A nL z Q K w pc lv (.int b :: .int a :: st) := by
  obtain ⟨p, l, e, R, s, m, args, below, meth, c, D⟩ := x
  exact fun u hu H locs ls hP hS hl => lv_ishr g.1 g.2.1 hd (kk u hu H locs ls hP hS hl)
/-- the shift that brings zeros -/
def hf_ush (a b : Int32) : Int32 := (a.toUInt32 >>> (b.toUInt32 &&& Int32.toUInt32 31)).toInt32
theorem hf_iushr (g : hf_C x cc nL own) {a b : Int32} (hd : decode cc pc = .ok (.iushr, 1)) (kk : hf_X x A nL z Q K w (pc + 1) lv (.int (hf_ush a b) :: st)) : hf_X x A nL z Q K w pc lv (.int b :: .int a :: st) := by
  obtain ⟨p, l, e, R, s, m, args, below, meth, c, D⟩ := x
  exact fun u hu H locs ls hP hS hl => lv_iushr g.1 g.2.1 hd rfl (kk u hu H locs ls hP hS hl)
theorem hf_i2b (g : hf_C x cc nL own) {a : Int32} (hd : decode cc pc = .ok (.i2b, 1)) (kk : hf_X x A nL z Q K w (pc + 1) lv (.int a.toInt8.toInt32 :: st)) : hf_X x A nL z Q K w pc lv (.int a :: st) := by
  obtain ⟨p, l, e, R, s, m, args, below, meth, c, D⟩ := x
  exact fun u hu H locs ls hP hS hl => lv_i2b g.1 g.2.1 hd rfl (kk u hu H locs ls hP hS hl)
theorem hf_dup (g : hf_C x cc nL own) {a : Value} (hd : decode cc pc = .ok (.dup, 1)) (ha : a.category = 1) (kk : hf_X x A nL z Q K w (pc + 1) lv (a :: a :: st)) : hf_X x A nL z Q K w pc lv (a :: st) := by
  obtain ⟨p, l, e, R, s, m, args, below, meth, c, D⟩ := x
  exact fun u hu H locs ls hP hS hl => lv_dup g.1 g.2.1 hd ha (kk u hu H locs ls hP hS hl)
theorem hf_dup2 (g : hf_C x cc nL own) {a b : Value} (hd : decode cc pc = .ok (.dup2, 1)) (ha : a.category = 1) (hb : b.category = 1) (kk : hf_X x A nL z Q K w (pc + 1) lv (a :: b :: a :: b :: st)) : hf_X x A nL z Q K w pc lv (a :: b :: st) := by
  obtain ⟨p, l, e, R, s, m, args, below, meth, c, D⟩ := x
  exact fun u hu H locs ls hP hS hl => lv_dup2_11 g.1 g.2.1 hd ha hb (kk u hu H locs ls hP hS hl)
theorem hf_pop (g : hf_C x cc nL own) {a : Value} (hd : decode cc pc = .ok (.pop, 1)) (ha : a.category = 1) (kk : hf_X x A nL z Q K w (pc + 1) lv st) : hf_X x A nL z Q K w pc lv (a :: st) := by
  obtain ⟨p, l, e, R, s, m, args, below, meth, c, D⟩ := x
  exact fun u hu H locs ls hP hS hl => lv_pop g.1 g.2.1 hd ha (kk u hu H locs ls hP hS hl)
theorem hf_goto (g : hf_C x cc nL own) {off : Int} {tgt : Nat} (hd : decode cc pc = .ok (.goto off, 3)) (ht : (pc : Int) + off = (tgt : Int)) (kk : hf_X x A nL z Q K w tgt lv st) : hf_X x A nL z Q K w pc lv st := by
  obtain ⟨p, l, e, R, s, m, args, below, meth, c, D⟩ := x
  exact fun u hu H locs ls hP hS hl => lv_goto g.1 g.2.1 hd ht (kk u hu H locs ls hP hS hl)
theorem hf_if_eq (g : hf_C x cc nL own) {a : Int32} {off : Int} {tgt : Nat} {Kt Kf : Option α} (hd : decode cc pc = .ok (.ifCond .eq off, 3)) (ht : (pc : Int) + off = (tgt : Int)) (kt : hf_X x A nL z Q Kt w tgt lv st) (kf : hf_X x A nL z Q Kf w (pc + 3) lv st) : hf_X x A nL z Q (if a = 0 then Kt else Kf) w pc lv (.int a :: st) := by
  obtain ⟨p, l, e, R, s, m, args, below, meth, c, D⟩ := x
  exact fun u hu H locs ls hP hS hl => lv_if_eq g.1 g.2.1 hd ht (fun hc => (kt u (by rw [if_pos hc] at hu; exact hu) H locs ls hP hS hl)) (fun hc => (kf u (by rw [if_neg hc] at hu; exact hu) H locs ls hP hS hl))
theorem hf_icmp_eq (g : hf_C x cc nL own) {a b : Int32} {off : Int} {tgt : Nat} {Kt Kf : Option α} (hd : decode cc pc = .ok (.if_icmp .eq off, 3)) (ht : (pc : Int) + off = (tgt : Int)) (kt : hf_X x A nL z Q Kt w tgt lv st) (kf : hf_X x A nL z Q Kf w (pc + 3) lv st) : hf_X x A nL z Q (if a = b then Kt else Kf) w pc lv (.int b :: .int a :: st) := by
  obtain ⟨p, l, e, R, s, m, args, below, meth, c, D⟩ := x
  exact fun u hu H locs ls hP hS hl => lv_icmp_eq g.1 g.2.1 hd ht (fun hc => (kt u (by rw [if_pos hc] at hu; exact hu) H locs ls hP hS hl)) (fun hc => (kf u (by rw [if_neg hc] at hu; exact hu) H locs ls hP hS hl))
theorem hf_if_ne (g : hf_C x cc nL own) {a : Int32} {off : Int} {tgt : Nat} {Kt Kf : Option α} (hd : decode cc pc = .ok (.ifCond .ne off, 3)) (ht : (pc : Int) + off = (tgt : Int)) (kt : hf_X x A nL z Q Kt w tgt lv st) (kf : hf_X x A nL z Q Kf w (pc + 3) lv st) : hf_X x A nL z Q (if a = 0 then Kf else Kt) w pc lv (.int a :: st) := by
  obtain ⟨p, l, e, R, s, m, args, below, meth, c, D⟩ := x
  exact fun u hu H locs ls hP hS hl => lv_if_ne g.1 g.2.1 hd ht (fun hc => (kt u (by rw [if_neg hc] at hu; exact hu) H locs ls hP hS hl)) (fun hc => (kf u (by rw [if_pos hc] at hu; exact hu) H locs ls hP hS hl))
theorem hf_icmp_ne (g : hf_C x cc nL own) {a b : Int32} {off : Int} {tgt : Nat} {Kt Kf : Option α} (hd : decode cc pc = .ok (.if_icmp .ne off, 3)) (ht : (pc : Int) + off = (tgt : Int)) (kt : hf_X x A nL z Q Kt w tgt lv st) (kf : hf_X x A nL z Q Kf w (pc + 3) lv st) : hf_X x A nL z Q (if a = b then Kf else Kt) w pc lv (.int b :: .int a :: st) := by
  obtain ⟨p, l, e, R, s, m, args, below, meth, c, D⟩ := x
  exact fun u hu H locs ls hP hS hl => lv_icmp_ne g.1 g.2.1 hd ht (fun hc => (kt u (by rw [if_neg hc] at hu; exact hu) H locs ls hP hS hl)) (fun hc => (kf u (by rw [if_pos hc] at hu; exact hu) H locs ls hP hS hl))
theorem hf_if_lt (g : hf_C x cc nL own) {a : Int32} {off : Int} {tgt : Nat} {Kt Kf : Option α} (hd : decode cc pc = .ok (.ifCond .lt off, 3)) (ht : (pc : Int) + off = (tgt : Int)) (kt : hf_X x A nL z Q Kt w tgt lv st) (kf : hf_X x A nL z Q Kf w (pc + 3) lv st) : hf_X x A nL z Q (if a < 0 then Kt else Kf) w pc lv (.int a :: st) := by
  obtain ⟨p, l, e, R, s, m, args, below, meth, c, D⟩ := x
  exact fun u hu H locs ls hP hS hl => lv_if_lt g.1 g.2.1 hd ht (fun hc => (kt u (by rw [if_pos hc] at hu; exact hu) H locs ls hP hS hl)) (fun hc => (kf u (by rw [if_neg hc] at hu; exact hu) H locs ls hP hS hl))
theorem hf_icmp_lt (g : hf_C x cc nL own) {a b : Int32} {off : Int} {tgt : Nat} {Kt Kf : Option α} (hd : decode cc pc = .ok (.if_icmp .lt off, 3)) (ht : (pc : Int) + off = (tgt : Int)) (kt : hf_X x A nL z Q Kt w tgt lv st) (kf : hf_X x A nL z Q Kf w (pc + 3) lv st) : hf_X x A nL z Q (if a < b then Kt else Kf) w pc lv (.int b :: .int a :: st) := by
  obtain ⟨p, l, e, R, s, m, args, below, meth, c, D⟩ := x
  exact fun u hu H locs ls hP hS hl => lv_icmp_lt g.1 g.2.1 hd ht (fun hc => (kt u (by rw [if_pos hc] at hu; exact hu) H locs ls hP hS hl)) (fun hc => (kf u (by rw [if_neg hc] at hu; exact hu) H locs ls hP hS hl))
theorem hf_if_ge (g : hf_C x cc nL own) {a : Int32} {off : Int} {tgt : Nat} {Kt Kf : Option α} (hd : decode cc pc = .ok (.ifCond .ge off, 3)) (ht : (pc : Int) + off = (tgt : Int)) (kt : hf_X x A nL z Q Kt w tgt lv st) (kf : hf_X x A nL z Q Kf w (pc + 3) lv st) : hf_X x A nL z Q (if 0 ≤ a then Kt else Kf) w pc lv (.int a :: st) := by
  obtain ⟨p, l, e, R, s, m, args, below, meth, c, D⟩ := x
  exact fun u hu H locs ls hP hS hl => lv_if_ge g.1 g.2.1 hd ht (fun hc => (kt u (by rw [if_pos hc] at hu; exact hu) H locs ls hP hS hl)) (fun hc => (kf u (by rw [if_neg hc] at hu; exact hu) H locs ls hP hS hl))
theorem hf_icmp_ge (g : hf_C x cc nL own) {a b : Int32} {off : Int} {tgt : Nat} {Kt Kf : Option α} (hd : decode cc pc = .ok (.if_icmp .ge off, 3)) (ht : (pc : Int) + off = (tgt : Int)) (kt : hf_X x A nL z Q Kt w tgt lv st) (kf : hf_X x A nL z Q Kf w (pc + 3) lv st) : hf_X x A nL z Q (if b ≤ a then Kt else Kf) w pc lv (.int b :: .int a :: st) := by
  obtain ⟨p, l, e, R, s, m, args, below, meth, c, D⟩ := x
  exact fun u hu H locs ls hP hS hl => lv_icmp_ge g.1 g.2.1 hd ht (fun hc => (kt u (by rw [if_pos hc] at hu; exact hu) H locs ls hP hS hl)) (fun hc => (kf u (by rw [if_neg hc] at hu; exact hu) H locs ls hP hS hl))
theorem hf_if_gt (g : hf_C x cc nL own) {a : Int32} {off : Int} {tgt : Nat} {Kt Kf : Option α} (hd : decode cc pc = .ok (.ifCond .gt off, 3)) (ht : (pc : Int) + off = (tgt : Int)) (kt : hf_X x A nL z Q Kt w tgt lv st) (kf : hf_X x A nL z Q Kf w (pc + 3) lv st) : hf_X x A nL z Q (if 0 < a then Kt else Kf) w pc lv (.int a :: st) := by
  obtain ⟨p, l, e, R, s, m, args, below, meth, c, D⟩ := x
  exact fun u hu H locs ls hP hS hl => lv_if_gt g.1 g.2.1 hd ht (fun hc => (kt u (by rw [if_pos hc] at hu; exact hu) H locs ls hP hS hl)) (fun hc => (kf u (by rw [if_neg hc] at hu; exact hu) H locs ls hP hS hl))
theorem hf_icmp_gt (g : hf_C x cc nL own) {a b : Int32} {off : Int} {tgt : Nat} {Kt Kf : Option α} (hd : decode cc pc = .ok (.if_icmp .gt off, 3)) (ht : (pc : Int) + off = (tgt : Int)) (kt : hf_X x A nL z Q Kt w tgt lv st) (kf : hf_X x A nL z Q Kf w (pc + 3) lv st) : hf_X x A nL z Q (if b < a then Kt else Kf) w pc lv (.int b :: .int a :: st) := by
  obtain ⟨p, l, e, R, s, m, args, below, meth, c, D⟩ := x
  exact fun u hu H locs ls hP hS hl => lv_icmp_gt g.1 g.2.1 hd ht (fun hc => (kt u (by rw [if_pos hc] at hu; exact hu) H locs ls hP hS hl)) (fun hc => (kf u (by rw [if_neg hc] at hu; exact hu) H locs ls hP hS hl))
theorem hf_if_le (g : hf_C x cc nL own) {a : Int32} {off : Int} {tgt : Nat} {Kt Kf : Option α} (hd : decode cc pc = .ok (.ifCond .le off, 3)) (ht : (pc : Int) + off = (tgt : Int)) (kt : hf_X x A nL z Q Kt w tgt lv st) (kf : hf_X x A nL z Q Kf w (pc + 3) lv st) : hf_X x A nL z Q (if a ≤ 0 then Kt else Kf) w pc lv (.int a :: st) := by
  obtain ⟨p, l, e, R, s, m, args, below, meth, c, D⟩ := x
  exact fun u hu H locs ls hP hS hl => lv_if_le g.1 g.2.1 hd ht (fun hc => (kt u (by rw [if_pos hc] at hu; exact hu) H locs ls hP hS hl)) (fun hc => (kf u (by rw [if_neg hc] at hu; exact hu) H locs ls hP hS hl))
theorem hf_icmp_le (g : hf_C x cc nL own) {a b : Int32} {off : Int} {tgt : Nat} {Kt Kf : Option α} (hd : decode cc pc = .ok (.if_icmp .le off, 3)) (ht : (pc : Int) + off = (tgt : Int)) (kt : hf_X x A nL z Q Kt w tgt lv st) (kf : hf_X x A nL z Q Kf w (pc + 3) lv st) : hf_X x A nL z Q (if a ≤ b then Kt else Kf) w pc lv (.int b :: .int a :: st) := by
  obtain ⟨p, l, e, R, s, m, args, below, meth, c, D⟩ := x
  exact fun u hu H locs ls hP hS hl => lv_icmp_le g.1 g.2.1 hd ht (fun hc => (kt u (by rw [if_pos hc] at hu; exact hu) H locs ls hP hS hl)) (fun hc => (kf u (by rw [if_neg hc] at hu; exact hu) H locs ls hP hS hl))
/-- a switch over a table: the ends by their places, else the last -/
def hf_sw (a : Int32) (lo : Int) : List (Option α) → Option α → Option α
  | [], Kd => Kd
  | Kx :: Ks, Kd => if a.toInt = lo then Kx else hf_sw a (lo + 1) Ks Kd
def hf_all2 {β γ : Type} (P : β → γ → Prop) : List β → List γ → Prop
  | [], [] => True
  | b :: bs, c :: cs => P b c ∧ hf_all2 P bs cs
  | _, _ => False
theorem hf_all2_at {β γ : Type} {P : β → γ → Prop} : ∀ {bs : List β} {cs : List γ}, hf_all2 P bs cs → ∀ {i : Nat} {b : β}, bs[i]? = some b → ∃ c, cs[i]? = some c ∧ P b c
  | [], [], _, i, b, h => by simp at h
  | b :: bs, c :: cs, hp, 0, b', h => by simp at h; exact ⟨c, rfl, h ▸ hp.1⟩
  | b :: bs, c :: cs, hp, i + 1, b', h => by simpa using hf_all2_at hp.2 (i := i) (by simpa using h)
  | [], _ :: _, hp, _, _, _ => absurd hp (by simp [hf_all2])
  | _ :: _, [], hp, _, _, _ => absurd hp (by simp [hf_all2])
theorem hf_all2_len {β γ : Type} {P : β → γ → Prop} : ∀ {bs : List β} {cs : List γ}, hf_all2 P bs cs → bs.length = cs.length
  | [], [], _ => rfl
  | b :: bs, c :: cs, hp => by simp [hf_all2_len hp.2]
  | [], _ :: _, hp => absurd hp (by simp [hf_all2])
  | _ :: _, [], hp => absurd hp (by simp [hf_all2])
theorem hf_sw_in {a : Int32} : ∀ {Ks : List (Option α)} {lo : Int} {Kd : Option α}, lo ≤ a.toInt → a.toInt < lo + Ks.length → Ks[(a.toInt - lo).toNat]? = some (hf_sw a lo Ks Kd)
  | [], lo, Kd, h1, h2 => by simp at h2; omega
  | Kx :: Ks, lo, Kd, h1, h2 => by
    by_cases h : a.toInt = lo
    · have e : (a.toInt - lo).toNat = 0 := by omega
      rw [e]
      simp [hf_sw, h]
    · have e : (a.toInt - lo).toNat = (a.toInt - (lo + 1)).toNat + 1 := by omega
      have := hf_sw_in (a := a) (Ks := Ks) (lo := lo + 1) (Kd := Kd) (by omega) (by simp at h2; omega)
      rw [e, List.getElem?_cons_succ, this]
      simp [hf_sw, h]
theorem hf_sw_out {a : Int32} : ∀ {Ks : List (Option α)} {lo : Int} {Kd : Option α}, (a.toInt < lo ∨ lo + Ks.length ≤ a.toInt) → hf_sw a lo Ks Kd = Kd
  | [], lo, Kd, h => rfl
  | Kx :: Ks, lo, Kd, h => by
    have hne : ¬ a.toInt = lo := by simp at h; omega
    rw [hf_sw, if_neg hne]
    exact hf_sw_out (by simp at h ⊢; omega)
theorem hf_switch (g : hf_C x cc nL own) {a : Int32} {dflt lo hi : Int} {offs : Array Int} {len : Nat} {Ks : List (Option α)} {Kd : Option α} (tgs : List Nat) (td : Nat) (hd : decode cc pc = .ok (.tableswitch dflt lo hi offs, len)) (ht : offs.toList.map (fun o => (pc : Int) + o) = tgs.map (fun t : Nat => (t : Int))) (hlen : lo + (Ks.length : Int) = hi + 1) (htd : (pc : Int) + dflt = (td : Int))
    (k : hf_all2 (fun Kx t => hf_X x A nL z Q Kx w t lv st) Ks tgs) (kd : hf_X x A nL z Q Kd w td lv st) : hf_X x A nL z Q (hf_sw a lo Ks Kd) w pc lv (.int a :: st) := by
  obtain ⟨p, l, e, R, s, m, args, below, meth, c, D⟩ := x
  intro u hu H locs ls hP hS hl
  by_cases hin : lo ≤ a.toInt ∧ a.toInt < lo + Ks.length
  · have h1 := hf_sw_in (Kd := Kd) hin.1 hin.2
    obtain ⟨t, ht1, ht2⟩ := hf_all2_at k h1
    have h3 : (offs.toList.map (fun o => (pc : Int) + o))[(a.toInt - lo).toNat]? = some (t : Int) := by rw [ht, List.getElem?_map, ht1]; rfl
    rw [List.getElem?_map] at h3
    cases ho : offs.toList[(a.toInt - lo).toNat]? with
    | none => rw [ho] at h3; cases h3
    | some o =>
      rw [ho] at h3
      have h4 : (pc : Int) + o = (t : Int) := by simpa using h3
      exact lv_tableIn g.1 g.2.1 hd (by omega) (by omega) (by rw [← Array.getElem?_toList]; exact ho) h4 (ht2 u hu H locs ls hP hS hl)
  · have hout : a.toInt < lo ∨ lo + (Ks.length : Int) ≤ a.toInt := by omega
    rw [hf_sw_out hout] at hu
    exact lv_tableOut g.1 g.2.1 hd (by omega) htd (kd u hu H locs ls hP hS hl)
end HfRows
end
section
/-! Rows over the world: fields, rows of numbers, returns, calls. -/
/-- the words of a field's link: own's entry idx is field k of the objects of kind ci -/
def hf_kF (own : String) (idx ci k : Nat) : Prop := ∃ (C : String) (F : u_T) (N : Nat), vwCl[ci]? = some (C, F, N) ∧ k < N ∧ (∀ w ∈ u_ws C F N, w ∈ hf_TB) ∧ Cond.fieldLink own idx (F k).1 (F k).2.1 (F k).2.2.1 ∈ hf_TB
/-- for a write -/
def hf_kP (own : String) (idx ci k : Nat) (ty : FieldType) : Prop := ∃ (C : String) (F : u_T) (N : Nat) (ty0 : Nat → FieldType), vwCl[ci]? = some (C, F, N) ∧ k < N ∧ (∀ w ∈ u_ws C F N, w ∈ hf_TB) ∧ Cond.fieldLink own idx (F k).1 (F k).2.1 (F k).2.2.1 ∈ hf_TB ∧ (∀ k, k < N → parseFieldDescriptor (F k).2.2.1 = some (ty0 k)) ∧ (∀ a, a < N → ∀ b, b < N → a ≠ b → (F a).2.1 ≠ (F b).2.1) ∧ (F k).2.2.2 = false ∧ ty0 k = ty
section HfHeap
variable {α : Type} {x : hf_Cx} {T : hf_Tb} {ad : Nat → Nat} {cA : Nat → ClassId} {E : State → Prop} {A : Nat → Prop} {l0 : Launch} {D0 : va_G} {nL : Nat} {z : Nat × Nat} {Q : α → State → Prop} {K : Option α} {σ : hf_St} {pc : Nat} {lv lv' : List (Nat × Value)} {st : List Value} {cc : ByteArray} {own : String} {rt : Option FieldType} {d : Nat}
theorem hf_getI (g : hf_G x T ad cA E A l0 D0 cc nL own rt d) {j k ci idx : Nat} {fl : List (Option Nat)} (hj : T.1[j]? = some (ci, fl)) (hk : fl[k]? = some none) (hf : hf_kF own idx ci k) (hd : decode cc pc = .ok (.getfield idx, 3)) (kk : hf_X x A nL z Q K (hf_wd T ad cA σ) (pc + 3) lv (.int (σ.1 j k) :: st)) : hf_X x A nL z Q K (hf_wd T ad cA σ) pc lv (.ref (ad j) :: st) := by
  obtain ⟨p, l, e, R, s, m, args, below, meth, c, D⟩ := x
  obtain ⟨C, F, N, hci, hkN, hin, hfl⟩ := hf
  obtain ⟨⟨hx, hb, hml, hown, hts⟩, hK, -⟩ := id g
  intro u hu H locs ls hP hS hl
  exact va_get (D := D) (ci := ci) (v := .int (σ.1 j k)) hx hb hts hin hown hK hP j (hf_obj hj) hci k hkN (hts _ hfl) (fun _ h9 => h9) (by rw [List.getElem?_mapIdx, hk]; rfl) hd (kk u hu H locs ls hP hS hl)
theorem hf_getR (g : hf_G x T ad cA E A l0 D0 cc nL own rt d) {j k ci idx r : Nat} {fl : List (Option Nat)} (hj : T.1[j]? = some (ci, fl)) (hk : fl[k]? = some (some r)) (hf : hf_kF own idx ci k) (hd : decode cc pc = .ok (.getfield idx, 3)) (kk : hf_X x A nL z Q K (hf_wd T ad cA σ) (pc + 3) lv (.ref (ad r) :: st)) : hf_X x A nL z Q K (hf_wd T ad cA σ) pc lv (.ref (ad j) :: st) := by
  obtain ⟨p, l, e, R, s, m, args, below, meth, c, D⟩ := x
  obtain ⟨C, F, N, hci, hkN, hin, hfl⟩ := hf
  obtain ⟨⟨hx, hb, hml, hown, hts⟩, hK, -⟩ := id g
  intro u hu H locs ls hP hS hl
  exact va_get (D := D) (ci := ci) (v := .ref (ad r)) hx hb hts hin hown hK hP j (hf_obj hj) hci k hkN (hts _ hfl) (fun _ h9 => h9) (by rw [List.getElem?_mapIdx, hk]; rfl) hd (kk u hu H locs ls hP hS hl)
theorem hf_putI (g : hf_G x T ad cA E A l0 D0 cc nL own rt d) {j k ci idx : Nat} {fl : List (Option Nat)} {ty : FieldType} {v : Int32} {K : hf_St → Option α} (hj : T.1[j]? = some (ci, fl)) (hk : fl[k]? = some none) (hf : hf_kP own idx ci k ty) (hn : narrow ty (.int v) = .int v) (hfit : fits ty (.int v) = true) (hd : decode cc pc = .ok (.putfield idx, 3)) (kk : ∀ σ', hf_X x A nL z Q (K σ') (hf_wd T ad cA σ') (pc + 3) lv st) : hf_X x A nL z Q (hf_lt (hf_pI σ j k v) K) (hf_wd T ad cA σ) pc lv (.int v :: .ref (ad j) :: st) := by
  obtain ⟨p, l, e, R, s, m, args, below, meth, c, D⟩ := x
  obtain ⟨C, F, N, ty0, hci, hkN, hin, hfl, hty, hnm, hfin, hty0⟩ := hf
  obtain ⟨⟨hx, hb, hml, hown, hts⟩, hK, hinj, hA, -⟩ := id g
  intro u hu H locs ls hP hS hl
  refine va_put (D := D) (ci := ci) (v := .int v) (ty := ty) hx hb hts hin ty0 hty hnm hown hK hP (by rw [hA]; exact hf_dis hinj σ) hS j (hf_obj hj) hci k hkN (hts _ hfl) (fun _ h9 => h9) hfin (by rw [hty k hkN, hty0]) hn hfit (by simpa using (List.getElem?_eq_some_iff.mp hk).1) hd (fun H1 locs1 hP1 hD1 hS1 => ?_)
  rw [hf_setI hj hk] at hP1
  exact kk _ u hu H1 locs1 ls hP1 hS1 hl
theorem hf_iald (g : hf_G x T ad cA E A l0 D0 cc nL own rt d) {a r n : Nat} {i : Int32} (ha : T.2[a]? = some (n, .int)) (hr : T.1.length + a = r) (hd : decode cc pc = .ok (.iaload, 1)) (kk : hf_X x A nL z Q K (hf_wd T ad cA σ) (pc + 1) lv (.int (σ.2 a i.toNatClampNeg) :: st)) : hf_X x A nL z Q (hf_gd (hf_ix i n) K) (hf_wd T ad cA σ) pc lv (.int i :: .ref (ad r) :: st) := by
  obtain ⟨p, l, e, R, s, m, args, below, meth, c, D⟩ := x
  subst hr
  obtain ⟨⟨hx, hb, hml, hown, hts⟩, hK, -⟩ := id g
  intro u hu H locs ls hP hS hl
  by_cases hi : hf_ix i n
  · rw [hf_gd, if_pos hi] at hu
    exact va_iald hx hb hK hP (T.1.length + a) a (hf_arr ha) (hf_tyAt ha) (vp_in_iff.mpr hi) hd (kk u hu H locs ls hP hS hl)
  · rw [hf_gd, if_neg hi] at hu
    cases hu
theorem hf_zald (g : hf_G x T ad cA E A l0 D0 cc nL own rt d) {a r n : Nat} {i : Int32} (ha : T.2[a]? = some (n, .boolean)) (hr : T.1.length + a = r) (hd : decode cc pc = .ok (.baload, 1)) (kk : hf_X x A nL z Q K (hf_wd T ad cA σ) (pc + 1) lv (.int (σ.2 a i.toNatClampNeg) :: st)) : hf_X x A nL z Q (hf_gd (hf_ix i n) K) (hf_wd T ad cA σ) pc lv (.int i :: .ref (ad r) :: st) := by
  obtain ⟨p, l, e, R, s, m, args, below, meth, c, D⟩ := x
  subst hr
  obtain ⟨⟨hx, hb, hml, hown, hts⟩, hK, -⟩ := id g
  intro u hu H locs ls hP hS hl
  by_cases hi : hf_ix i n
  · rw [hf_gd, if_pos hi] at hu
    exact va_zald hx hb hK hP (T.1.length + a) a (hf_arr ha) (hf_tyAt ha) (vp_in_iff.mpr hi) hd (kk u hu H locs ls hP hS hl)
  · rw [hf_gd, if_neg hi] at hu
    cases hu
theorem hf_bald (g : hf_G x T ad cA E A l0 D0 cc nL own rt d) {a r n : Nat} {i : Int32} (ha : T.2[a]? = some (n, .byte)) (hr : T.1.length + a = r) (hd : decode cc pc = .ok (.baload, 1)) (kk : hf_X x A nL z Q K (hf_wd T ad cA σ) (pc + 1) lv (.int (σ.2 a i.toNatClampNeg) :: st)) : hf_X x A nL z Q (hf_gd (hf_ix i n) K) (hf_wd T ad cA σ) pc lv (.int i :: .ref (ad r) :: st) := by
  obtain ⟨p, l, e, R, s, m, args, below, meth, c, D⟩ := x
  subst hr
  obtain ⟨⟨hx, hb, hml, hown, hts⟩, hK, -⟩ := id g
  intro u hu H locs ls hP hS hl
  by_cases hi : hf_ix i n
  · rw [hf_gd, if_pos hi] at hu
    exact va_bald hx hb hK hP (T.1.length + a) a (hf_arr ha) (hf_tyAt ha) (vp_in_iff.mpr hi) hd (kk u hu H locs ls hP hS hl)
  · rw [hf_gd, if_neg hi] at hu
    cases hu
theorem hf_iast (g : hf_G x T ad cA E A l0 D0 cc nL own rt d) {a r n : Nat} {i v : Int32} {K : hf_St → Option α} (ha : T.2[a]? = some (n, .int)) (hr : T.1.length + a = r) (hd : decode cc pc = .ok (.iastore, 1)) (kk : ∀ σ', hf_X x A nL z Q (K σ') (hf_wd T ad cA σ') (pc + 1) lv st) : hf_X x A nL z Q (hf_gd (hf_ix i n) (hf_lt (hf_pA σ a (upd (σ.2 a) i.toNatClampNeg v)) K)) (hf_wd T ad cA σ) pc lv (.int v :: .int i :: .ref (ad r) :: st) := by
  obtain ⟨p, l, e, R, s, m, args, below, meth, c, D⟩ := x
  subst hr
  obtain ⟨⟨hx, hb, hml, hown, hts⟩, hK, hinj, hA, -⟩ := id g
  intro u hu H locs ls hP hS hl
  by_cases hi : hf_ix i n
  · rw [hf_gd, if_pos hi] at hu
    refine va_iast hx hb hK hP (by rw [hA]; exact hf_dis hinj σ) hS (T.1.length + a) a (hf_arr ha) (hf_tyAt ha) (vp_in_iff.mpr hi) hd (fun H1 locs1 hP1 hD1 hS1 => ?_)
    rw [hf_setA ha] at hP1
    exact kk _ u hu H1 locs1 ls hP1 hS1 hl
  · rw [hf_gd, if_neg hi] at hu
    cases hu
theorem hf_zast (g : hf_G x T ad cA E A l0 D0 cc nL own rt d) {a r n : Nat} {i v : Int32} {K : hf_St → Option α} (ha : T.2[a]? = some (n, .boolean)) (hr : T.1.length + a = r) (hd : decode cc pc = .ok (.bastore, 1)) (kk : ∀ σ', hf_X x A nL z Q (K σ') (hf_wd T ad cA σ') (pc + 1) lv st) : hf_X x A nL z Q (hf_gd (hf_ix i n) (hf_lt (hf_pA σ a (upd (σ.2 a) i.toNatClampNeg (vp_nar .boolean v))) K)) (hf_wd T ad cA σ) pc lv (.int v :: .int i :: .ref (ad r) :: st) := by
  obtain ⟨p, l, e, R, s, m, args, below, meth, c, D⟩ := x
  subst hr
  obtain ⟨⟨hx, hb, hml, hown, hts⟩, hK, hinj, hA, -⟩ := id g
  intro u hu H locs ls hP hS hl
  by_cases hi : hf_ix i n
  · rw [hf_gd, if_pos hi] at hu
    refine va_zast hx hb hK hP (by rw [hA]; exact hf_dis hinj σ) hS (T.1.length + a) a (hf_arr ha) (hf_tyAt ha) (vp_in_iff.mpr hi) hd (fun H1 locs1 hP1 hD1 hS1 => ?_)
    rw [hf_setA ha] at hP1
    exact kk _ u hu H1 locs1 ls hP1 hS1 hl
  · rw [hf_gd, if_neg hi] at hu
    cases hu
theorem hf_bast (g : hf_G x T ad cA E A l0 D0 cc nL own rt d) {a r n : Nat} {i v : Int32} {K : hf_St → Option α} (ha : T.2[a]? = some (n, .byte)) (hr : T.1.length + a = r) (hd : decode cc pc = .ok (.bastore, 1)) (kk : ∀ σ', hf_X x A nL z Q (K σ') (hf_wd T ad cA σ') (pc + 1) lv st) : hf_X x A nL z Q (hf_gd (hf_ix i n) (hf_lt (hf_pA σ a (upd (σ.2 a) i.toNatClampNeg (vp_nar .byte v))) K)) (hf_wd T ad cA σ) pc lv (.int v :: .int i :: .ref (ad r) :: st) := by
  obtain ⟨p, l, e, R, s, m, args, below, meth, c, D⟩ := x
  subst hr
  obtain ⟨⟨hx, hb, hml, hown, hts⟩, hK, hinj, hA, -⟩ := id g
  intro u hu H locs ls hP hS hl
  by_cases hi : hf_ix i n
  · rw [hf_gd, if_pos hi] at hu
    refine va_bast hx hb hK hP (by rw [hA]; exact hf_dis hinj σ) hS (T.1.length + a) a (hf_arr ha) (hf_tyAt ha) (vp_in_iff.mpr hi) hd (fun H1 locs1 hP1 hD1 hS1 => ?_)
    rw [hf_setA ha] at hP1
    exact kk _ u hu H1 locs1 ls hP1 hS1 hl
  · rw [hf_gd, if_neg hi] at hu
    cases hu
theorem hf_alen (g : hf_G x T ad cA E A l0 D0 cc nL own rt d) {a r n : Nat} {t : FieldType} (ha : T.2[a]? = some (n, t)) (hr : T.1.length + a = r) (hd : decode cc pc = .ok (.arraylength, 1)) (kk : hf_X x A nL z Q K (hf_wd T ad cA σ) (pc + 1) lv (.int (nI n) :: st)) : hf_X x A nL z Q K (hf_wd T ad cA σ) pc lv (.ref (ad r) :: st) := by
  obtain ⟨p, l, e, R, s, m, args, below, meth, c, D⟩ := x
  subst hr
  obtain ⟨⟨hx, hb, hml, hown, hts⟩, hK, -⟩ := id g
  intro u hu H locs ls hP hS hl
  exact va_alen hx hb hK hP (T.1.length + a) a (hf_arr ha) (hf_tyAt ha) rfl hd (kk u hu H locs ls hP hS hl)
/-! returns -/
theorem hf_iret {res : α → Option Value × hf_St} (g : hf_G x T ad cA E A l0 D0 cc nL own (some .int) d) {v : α} {r : Int32} (hd : decode cc pc = .ok (.ireturn, 1)) (hv : res v = (some (.int r), σ)) : hf_X x A nL (0, 0) (hf_Q x T ad cA A res) (some v) (hf_wd T ad cA σ) pc lv [.int r] := by
  obtain ⟨p, l, e, R, s, m, args, below, meth, c, D⟩ := x
  obtain ⟨⟨hx, hb, hml, hown, hts⟩, hK, hinj, hA, hst, hE, hlk, hr, -⟩ := id g
  subst hA
  intro u hu H locs ls hP hS hl
  cases hu
  exact W.iret (v := r) hx hb hr (fun t ht hW => ⟨by rw [hv], by rw [hv, ht]; exact hP, hS.F ht⟩) hS.2.2 hd hlk
theorem hf_zret {res : α → Option Value × hf_St} (g : hf_G x T ad cA E A l0 D0 cc nL own (some .boolean) d) {v : α} {r : Int32} (hd : decode cc pc = .ok (.ireturn, 1)) (hv : res v = (some (.int r), σ)) : hf_X x A nL (0, 0) (hf_Q x T ad cA A res) (hf_gd (hf_z r) (some v)) (hf_wd T ad cA σ) pc lv [.int r] := by
  obtain ⟨p, l, e, R, s, m, args, below, meth, c, D⟩ := x
  obtain ⟨⟨hx, hb, hml, hown, hts⟩, hK, hinj, hA, hst, hE, hlk, hr, -⟩ := id g
  subst hA
  intro u hu H locs ls hP hS hl
  by_cases hz : hf_z r
  · rw [hf_gd, if_pos hz] at hu
    cases hu
    exact W.zret (v := r) (ty := .boolean) hx hb hr (by rcases hz with rfl | rfl <;> rfl) (fun t ht hW => ⟨by rw [hv], by rw [hv, ht]; exact hP, hS.F ht⟩) hS.2.2 hd hlk
  · rw [hf_gd, if_neg hz] at hu
    cases hu
theorem hf_vret {res : α → Option Value × hf_St} (g : hf_G x T ad cA E A l0 D0 cc nL own none d) {v : α} (hd : decode cc pc = .ok (.return_, 1)) (hv : res v = (none, σ)) : hf_X x A nL (0, 0) (hf_Q x T ad cA A res) (some v) (hf_wd T ad cA σ) pc lv [] := by
  obtain ⟨p, l, e, R, s, m, args, below, meth, c, D⟩ := x
  obtain ⟨⟨hx, hb, hml, hown, hts⟩, hK, hinj, hA, hst, hE, hlk, hr, -⟩ := id g
  subst hA
  intro u hu H locs ls hP hS hl
  cases hu
  exact W.vret hx hb hr (fun t ht hW => ⟨by rw [hv], by rw [hv, ht]; exact hP, hS.F ht⟩) hS.2.2 hd hlk
theorem hf_aret {res : α → Option Value × hf_St} {ty : FieldType} (g : hf_G x T ad cA E A l0 D0 cc nL own (some ty) d) {v : α} {q : Nat} (hty : (∃ n, ty = .object n) ∨ ∃ t, ty = .array t) (hd : decode cc pc = .ok (.areturn, 1)) (hv : res v = (some (.ref q), σ)) : hf_X x A nL (0, 0) (hf_Q x T ad cA A res) (some v) (hf_wd T ad cA σ) pc lv [.ref q] := by
  obtain ⟨p, l, e, R, s, m, args, below, meth, c, D⟩ := x
  obtain ⟨⟨hx, hb, hml, hown, hts⟩, hK, hinj, hA, hst, hE, hlk, hr, -⟩ := id g
  subst hA
  intro u hu H locs ls hP hS hl
  cases hu
  exact W.aret (v := .ref q) hx hb hr hty (Or.inr ⟨q, rfl⟩) (fun t ht hW => ⟨by rw [hv], by rw [hv, ht]; exact hP, hS.F ht⟩) hS.2.2 hd hlk
/-! calls -/
theorem hf_A_mono {T : hf_Tb} {ad : Nat → Nat} {a b : Nat} (h : a ≤ b) : ∀ q, hf_A T ad b q → hf_A T ad a q := fun _ hq => hq.elim Or.inl (fun h2 => Or.inr (Nat.le_trans h h2))
/-- what the callee finds -/
theorem hf_pre {l : Launch} {D : va_G} {s : State} {H : Heap} {locs : List Loc} (hK : va_K D vwCl (hf_ty T cA) s) (hinj : hf_inj T ad) (hst : hf_stab T ad E) (hE : E s) (hP : va_P D vwCl (hf_wd T ad cA σ) H) (hS : va_S (hf_A T ad s.heap.size) s.heap H locs) : ∀ U : State, U.heap = H → s.WarmedH U.vm → hf_Pw T D ad cA E σ H.size U :=
  fun U hU hW => ⟨by rw [hU], by rw [hU]; exact hP, va_K.moved hW.alike hK, hinj, hst, hst s U hE (Or.inl hW) (by rw [hU]; exact hS.1) (fun q h1 h2 => by rw [hU]; exact hS.2.1 q h1 h2)⟩
theorem hf_blind {D : va_G} {av : List Value} {sz : Nat} : FrameBlind (va_Pc av (hf_Pw T D ad cA E σ sz)) :=
  fun a U g mk q => by
    obtain ⟨q0, q1, q2, q3, q4, q5, q6⟩ := q
    exact ⟨q0, q1, q2, va_K.moved (u := U) (U := U.calling g mk a) (Vm.Alike.refl U.vm) q3, q4, q5, q5 U (U.calling g mk a) q6 (Or.inr rfl) (Nat.le_refl _) (fun _ _ _ => rfl)⟩
theorem hf_back {p : Program} {l : Launch} {e : Env} {R : Room} {s : State} {m : MethodId} {args : Array Value} {below : List Frame} {meth : Method} {c : Code} {D : va_G} {β : Type} {av : List Value} {G' : Option β} {res' : β → Option Value × hf_St} {Kb : β → Option α} {st0 : List Value}
    (run : ∀ (v : β), G' = some v → ∀ (H : Heap) (locs : List Loc) (ls : Array Slot), va_P D vwCl (hf_wd T ad cA σ) H → va_S (hf_A T ad s.heap.size) s.heap H locs → lv_has ls nL lv → va_Run p l e R s m args below meth c H locs z.1 z.2 0 0 (F0 m pc ls st0) st (hf_Qc T D ad cA H.size (res' v) av.toArray) (hf_A T ad H.size))
    (k : ∀ v, hf_X (p, l, e, R, s, m, args, below, meth, c, D) (hf_A T ad s.heap.size) nL z Q (Kb v) (hf_wd T ad cA (res' v).2) (pc + 3) lv ((res' v).1.toList ++ st)) : hf_X (p, l, e, R, s, m, args, below, meth, c, D) (hf_A T ad s.heap.size) nL z Q (G'.bind Kb) (hf_wd T ad cA σ) pc lv st0 := by
  intro u hu H locs ls hP hS hl T0 hT0 X0
  cases hG : G' with
  | none => rw [hG] at hu; cases hu
  | some v =>
    rw [hG] at hu
    obtain ⟨rv, st₀, t, T', L, h0, X', hL, e1, e2, ⟨hq1, hq2, hq3, hq4⟩, hst⟩ := run v hG H locs ls hP hS hl T0 hT0 X0
    cases hq1
    rw [h0] at hq3 hq4
    have hS' : va_S (hf_A T ad s.heap.size) s.heap T'.heap (locs ++ L) := by
      refine ⟨Nat.le_trans hS.1 (by rw [e1]; exact hq3), fun q h1 h2 => ?_, fun q hq => ?_⟩
      · rw [e1, hq4 q (Nat.lt_of_lt_of_le h1 hS.1) (fun z => h2 (hf_A_mono hS.1 q z))]
        exact hS.2.1 q h1 h2
      · rcases List.mem_append.mp hq with h | h
        · exact hS.2.2 q h
        · exact hf_A_mono hS.1 _ (hL q h)
    obtain ⟨t2, a1, b1⟩ := k v u hu T'.heap (locs ++ L) ls (by rw [e1]; exact hq2) hS' hl T' rfl X'
    exact ⟨t2, hst t2 a1, b1⟩
/-- the words of a call of a method of the own objects -/
def hf_kV (own : String) (idx : Nat) (C : String) (y : MethodName) (cc : ByteArray) (nL : Nat) (rt : Option FieldType) (n : Nat) : Prop := GoodIn hf_TB (wsV own idx C y (hf_ws y cc nL rt)) ∧ y.cls = C ∧ y.cls ≠ "java/lang/invoke/MethodHandle" ∧ y.cls ≠ "java/lang/invoke/VarHandle" ∧ (parseMethodDescriptor y.desc).map (fun d => d.parameters.length) = some n
def hf_kS (own : String) (idx : Nat) (y : MethodName) (cc : ByteArray) (nL : Nat) (rt : Option FieldType) (n : Nat) : Prop := GoodIn hf_TB (va_wsS own idx y (hf_ws y cc nL rt)) ∧ y.cls ≠ "java/lang/invoke/MethodHandle" ∧ y.cls ≠ "java/lang/invoke/VarHandle" ∧ (parseMethodDescriptor y.desc).map (fun d => d.parameters.length) = some n
theorem hf_callV (g : hf_G x T ad cA E A l0 D0 cc nL own rt d) {β : Type} {d' : Nat} {y : MethodName} {cc' : ByteArray} {nL' : Nat} {rt' : Option FieldType} {As : List Value} {G' : Option β} {res' : β → Option Value × hf_St} {Kb : β → Option α} {st0 : List Value} {C : String} {idx n j ci : Nat} {fl : List (Option Nat)} {F : u_T} {N : Nat}
    (hc : hf_Ct l0 D0 T ad cA E d' y cc' nL' rt' (.ref (ad j) :: As) σ G' res') (kw : hf_kV own idx C y cc' nL' rt' n) (hdd : d' + 1 ≤ d) (hn' : nL' ≤ 21) (hj : T.1[j]? = some (ci, fl)) (hci : vwCl[ci]? = some (C, F, N)) (hn : As.length = n) (hst0 : st0 = As.reverse ++ .ref (ad j) :: st) (hcat : (st.map fun v => v.category).sum ≤ 8) (hd : decode cc pc = .ok (.invokevirtual idx, 3))
    (k : ∀ v, hf_X x A nL z Q (Kb v) (hf_wd T ad cA (res' v).2) (pc + 3) lv ((res' v).1.toList ++ st)) (hz : z.1 ≤ x.2.2.2.1.cells ∧ z.2 ≤ x.2.2.2.1.slots) : hf_X x A nL z Q (G'.bind Kb) (hf_wd T ad cA σ) pc lv st0 := by
  obtain ⟨p, l, e, R, s, m, args, below, meth, c, D⟩ := x
  obtain ⟨⟨hx, hb, hml, hown, hts⟩, hK, hinj, hA, hst, hE, hlk, hr, hR1, hR2, rfl, rfl⟩ := id g
  subst hA
  refine hf_back (av := .ref (ad j) :: As) (fun v hv H locs ls hP hS hl => ?_) k
  refine va_runV (Ts := hf_TB) (C := C) (own := own) (index := idx) ⟨hx, hb, hml, hown, hts⟩ (hc v hv H.size) (cwV n hts kw.1 rfl rfl rfl kw.2 ⟨?_, ?_⟩) ⟨hf_blind, va_recv (q := (C, F, N)) hK hP hci (hf_obj hj), fun U hU hW => ⟨rfl, hf_pre (l := l) hK hinj hst hE hP hS U hU hW⟩⟩ rfl hn hl.1 hst0 (lv_room hcat) hd hz
  · exact Nat.le_trans hdd hR1
  · show 8 + (nL' + 11) + 40 * d' ≤ R.locals
    omega
theorem hf_callS (g : hf_G x T ad cA E A l0 D0 cc nL own rt d) {β : Type} {d' : Nat} {y : MethodName} {cc' : ByteArray} {nL' : Nat} {rt' : Option FieldType} {As : List Value} {G' : Option β} {res' : β → Option Value × hf_St} {Kb : β → Option α} {st0 : List Value} {idx n : Nat}
    (hc : hf_Ct l0 D0 T ad cA E d' y cc' nL' rt' As σ G' res') (kw : hf_kS own idx y cc' nL' rt' n) (hdd : d' + 1 ≤ d) (hn' : nL' ≤ 21) (hn : As.length = n) (hst0 : st0 = As.reverse ++ st) (hcat : (st.map fun v => v.category).sum ≤ 8) (hd : decode cc pc = .ok (.invokestatic idx, 3))
    (k : ∀ v, hf_X x A nL z Q (Kb v) (hf_wd T ad cA (res' v).2) (pc + 3) lv ((res' v).1.toList ++ st)) (hz : z.1 ≤ x.2.2.2.1.cells ∧ z.2 ≤ x.2.2.2.1.slots) : hf_X x A nL z Q (G'.bind Kb) (hf_wd T ad cA σ) pc lv st0 := by
  obtain ⟨p, l, e, R, s, m, args, below, meth, c, D⟩ := x
  obtain ⟨⟨hx, hb, hml, hown, hts⟩, hK, hinj, hA, hst, hE, hlk, hr, hR1, hR2, rfl, rfl⟩ := id g
  subst hA
  refine hf_back (av := As) (fun v hv H locs ls hP hS hl => ?_) k
  refine va_runS (Ts := hf_TB) (own := own) (index := idx) ⟨hx, hb, hml, hown, hts⟩ (hc v hv H.size) (va_cwS n hts kw.1 rfl rfl rfl kw.2 ⟨?_, ?_⟩) ⟨hf_blind, fun U hU hW => ⟨rfl, hf_pre (l := l) hK hinj hst hE hP hS U hU hW⟩⟩ rfl hn hl.1 hst0 (lv_room hcat) hd hz
  · exact Nat.le_trans hdd hR1
  · show 8 + (nL' + 11) + 40 * d' ≤ R.locals
    omega
theorem hf_callSN (g : hf_G x T ad cA E A l0 D0 cc nL own rt d) {β : Type} {d' : Nat} {y : MethodName} {cc' : ByteArray} {nL' : Nat} {rt' : Option FieldType} {As : List Value} {G' : Option β} {res' : β → Option Value × hf_St} {Kb : β → Option α} {st0 : List Value} {idx n : Nat} {host : String}
    (hc : hf_Ct l0 D0 T ad cA E d' y cc' nL' rt' As σ G' res') (hl : ∀ U, E U → va_Nw (.methodLinkNest own idx y host) U) (kc : Cond.code y cc' nL' rt' ∈ hf_TB) (ki : Cond.initialized y.cls ∈ hf_TB) (ks : Cond.static y ∈ hf_TB) (kw : y.cls ≠ "java/lang/invoke/MethodHandle" ∧ y.cls ≠ "java/lang/invoke/VarHandle" ∧ (parseMethodDescriptor y.desc).map (fun d => d.parameters.length) = some n) (hdd : d' + 1 ≤ d) (hn' : nL' ≤ 21) (hn : As.length = n) (hst0 : st0 = As.reverse ++ st) (hcat : (st.map fun v => v.category).sum ≤ 8) (hd : decode cc pc = .ok (.invokestatic idx, 3))
    (k : ∀ v, hf_X x A nL z Q (Kb v) (hf_wd T ad cA (res' v).2) (pc + 3) lv ((res' v).1.toList ++ st)) (hz : z.1 ≤ x.2.2.2.1.cells ∧ z.2 ≤ x.2.2.2.1.slots) : hf_X x A nL z Q (G'.bind Kb) (hf_wd T ad cA σ) pc lv st0 := by
  obtain ⟨p, l, e, R, s, m, args, below, meth, c, D⟩ := x
  obtain ⟨⟨hx, hb, hml, hown, hts⟩, hK, hinj, hA, hst, hE, hlk, hr, hR1, hR2, rfl, rfl⟩ := id g
  subst hA
  refine hf_back (av := As) (fun v hv H locs ls hP hS hl2 => ?_) k
  have hG : GoodIn hf_TB (hf_ws y cc' nL' rt') := fun w hw => by
    rcases List.mem_cons.mp hw with rfl | h
    · exact ⟨kc, good_of_word (hf_tbG _ kc)⟩
    · exact ⟨h, good_of_word (hf_tbG _ h)⟩
  refine va_runSN (Ts := hf_TB) (own := own) (index := idx) ⟨hx, hb, hml, hown, hts⟩ (hc v hv H.size) ⟨va_cnB n hts hG rfl rfl rfl (hl s hE) (hts _ ki) kw ⟨?_, ?_⟩, hts _ ks, trivial⟩ ⟨hf_blind, fun U hU hW => ⟨rfl, hf_pre (l := l) hK hinj hst hE hP hS U hU hW⟩⟩ rfl hn hl2.1 hst0 (lv_room hcat) hd hz
  · exact Nat.le_trans hdd hR1
  · show 8 + (nL' + 11) + 40 * d' ≤ R.locals
    omega
end HfHeap
end
section
/-! Answers by their kinds: a number and the same state; a number and a state; a state alone. -/
abbrev hf_rp (σ : hf_St) : Int32 → Option Value × hf_St := fun r => (some (.int r), σ)
abbrev hf_ri : Int32 × hf_St → Option Value × hf_St := fun v => (some (.int v.1), v.2)
abbrev hf_rv : hf_St → Option Value × hf_St := fun σ => (none, σ)
def hf_b1 {α : Type} (G : Option Int32) (K : Int32 → Option α) : Option α := G.bind K
def hf_b2 {α : Type} (G : Option (Int32 × hf_St)) (K : Int32 → hf_St → Option α) : Option α := G.bind (fun v => K v.1 v.2)
def hf_b0 {α : Type} (G : Option hf_St) (K : hf_St → Option α) : Option α := G.bind K
def hf_max (a b : Int32) : Int32 := if a < b then b else a
def hf_min (a b : Int32) : Int32 := if b < a then b else a
def hf_fuel : Nat := 1000000
theorem hf_kF_of {own C : String} {F : u_T} {N idx ci k : Nat} (h1 : vwCl[ci]? = some (C, F, N)) (h2 : k < N) (h3 : ∀ w ∈ u_ws C F N, w ∈ hf_TB) (h4 : Cond.fieldLink own idx (F k).1 (F k).2.1 (F k).2.2.1 ∈ lw_tbl) : hf_kF own idx ci k := ⟨C, F, N, h1, h2, h3, hf_tb h4 rfl⟩
theorem hf_kP_of {own C : String} {F : u_T} {N idx ci k : Nat} {ty0 : Nat → FieldType} {ty : FieldType} (h1 : vwCl[ci]? = some (C, F, N)) (h2 : k < N) (h3 : ∀ w ∈ u_ws C F N, w ∈ hf_TB) (h4 : Cond.fieldLink own idx (F k).1 (F k).2.1 (F k).2.2.1 ∈ lw_tbl) (h5 : ∀ k, k < N → parseFieldDescriptor (F k).2.2.1 = some (ty0 k)) (h6 : ∀ a, a < N → ∀ b, b < N → a ≠ b → (F a).2.1 ≠ (F b).2.1) (h7 : (F k).2.2.2 = false) (h8 : ty0 k = ty) : hf_kP own idx ci k ty := ⟨C, F, N, ty0, h1, h2, h3, hf_tb h4 rfl, h5, h6, h7, h8⟩
theorem hf_gw {y : MethodName} {cc : ByteArray} {nL : Nat} {rt : Option FieldType} (h : Cond.code y cc nL rt ∈ lw_tbl) : GoodIn hf_TB (hf_ws y cc nL rt) := fun w hw => by
  rcases List.mem_cons.mp hw with rfl | h2
  · exact ⟨hf_tb h rfl, good_of_word rfl⟩
  · exact ⟨h2, good_of_word (hf_tbG _ h2)⟩
theorem hf_kV_of {own C : String} {idx n nL : Nat} {y : MethodName} {cc : ByteArray} {rt : Option FieldType} (h1 : Cond.methodLink own idx y ∈ lw_tbl) (h2 : Cond.instanceMethod y ∈ lw_tbl) (h3 : Cond.selects C y y ∈ lw_tbl) (h4 : Cond.initialized C ∈ lw_tbl) (h5 : Cond.code y cc nL rt ∈ lw_tbl) (hd : y.cls = C ∧ y.cls ≠ "java/lang/invoke/MethodHandle" ∧ y.cls ≠ "java/lang/invoke/VarHandle" ∧ (parseMethodDescriptor y.desc).map (fun d => d.parameters.length) = some n) : hf_kV own idx C y cc nL rt n := by
  refine ⟨fun w hw => ?_, hd⟩
  rcases List.mem_append.mp hw with h | h
  · simp only [List.mem_cons, List.not_mem_nil, or_false] at h
    rcases h with rfl | rfl | rfl | rfl
    · exact ⟨hf_tb h1 rfl, good_of_word rfl⟩
    · exact ⟨hf_tb h2 rfl, good_of_word rfl⟩
    · exact ⟨hf_tb h3 rfl, good_of_word rfl⟩
    · exact ⟨hf_tb h4 rfl, good_of_word rfl⟩
  · exact hf_gw h5 w h
theorem hf_kS_of {own : String} {idx n nL : Nat} {y : MethodName} {cc : ByteArray} {rt : Option FieldType} (h1 : Cond.methodLink own idx y ∈ lw_tbl) (h2 : Cond.static y ∈ lw_tbl) (h4 : Cond.initialized y.cls ∈ lw_tbl) (h5 : Cond.code y cc nL rt ∈ lw_tbl) (hd : y.cls ≠ "java/lang/invoke/MethodHandle" ∧ y.cls ≠ "java/lang/invoke/VarHandle" ∧ (parseMethodDescriptor y.desc).map (fun d => d.parameters.length) = some n) : hf_kS own idx y cc nL rt n := by
  refine ⟨fun w hw => ?_, hd⟩
  rcases List.mem_append.mp hw with h | h
  · simp only [List.mem_cons, List.not_mem_nil, or_false] at h
    rcases h with rfl | rfl | rfl
    · exact ⟨hf_tb h1 rfl, good_of_word rfl⟩
    · exact ⟨hf_tb h2 rfl, good_of_word rfl⟩
    · exact ⟨hf_tb h4 rfl, good_of_word rfl⟩
  · exact hf_gw h5 w h
section HfCalls
variable {α : Type} {x : hf_Cx} {T : hf_Tb} {ad : Nat → Nat} {cA : Nat → ClassId} {E : State → Prop} {A : Nat → Prop} {l0 : Launch} {D0 : va_G} {nL : Nat} {Q : α → State → Prop} {K : Option α} {σ : hf_St} {pc : Nat} {lv : List (Nat × Value)} {st st0 : List Value} {cc : ByteArray} {own : String} {rt : Option FieldType} {d d' : Nat} {y : MethodName} {cc' : ByteArray} {nL' : Nat} {rt' : Option FieldType} {As : List Value} {C : String} {idx n j ci : Nat} {fl : List (Option Nat)} {F : u_T} {N : Nat}
theorem hf_callV1 (g : hf_G x T ad cA E A l0 D0 cc nL own rt d) {G' : Option Int32} {Kb : Int32 → Option α} (hc : hf_Ct l0 D0 T ad cA E d' y cc' nL' rt' (.ref (ad j) :: As) σ G' (hf_rp σ)) (kw : hf_kV own idx C y cc' nL' rt' n) (hdd : d' + 1 ≤ d) (hn' : nL' ≤ 21) (hj : T.1[j]? = some (ci, fl)) (hci : vwCl[ci]? = some (C, F, N)) (hn : As.length = n) (hst0 : st0 = As.reverse ++ .ref (ad j) :: st) (hcat : (st.map fun v => v.category).sum ≤ 8) (hd : decode cc pc = .ok (.invokevirtual idx, 3))
    (k : ∀ v : Int32, hf_X x A nL (0, 0) Q (Kb v) (hf_wd T ad cA σ) (pc + 3) lv (.int v :: st)) : hf_X x A nL (0, 0) Q (hf_b1 G' Kb) (hf_wd T ad cA σ) pc lv st0 := hf_callV g hc kw hdd hn' hj hci hn hst0 hcat hd (fun v => k v) ⟨Nat.zero_le _, Nat.zero_le _⟩
theorem hf_callV2 (g : hf_G x T ad cA E A l0 D0 cc nL own rt d) {G' : Option (Int32 × hf_St)} {Kb : Int32 → hf_St → Option α} (hc : hf_Ct l0 D0 T ad cA E d' y cc' nL' rt' (.ref (ad j) :: As) σ G' hf_ri) (kw : hf_kV own idx C y cc' nL' rt' n) (hdd : d' + 1 ≤ d) (hn' : nL' ≤ 21) (hj : T.1[j]? = some (ci, fl)) (hci : vwCl[ci]? = some (C, F, N)) (hn : As.length = n) (hst0 : st0 = As.reverse ++ .ref (ad j) :: st) (hcat : (st.map fun v => v.category).sum ≤ 8) (hd : decode cc pc = .ok (.invokevirtual idx, 3))
    (k : ∀ (v : Int32) (σ' : hf_St), hf_X x A nL (0, 0) Q (Kb v σ') (hf_wd T ad cA σ') (pc + 3) lv (.int v :: st)) : hf_X x A nL (0, 0) Q (hf_b2 G' Kb) (hf_wd T ad cA σ) pc lv st0 := hf_callV g hc kw hdd hn' hj hci hn hst0 hcat hd (fun v => k v.1 v.2) ⟨Nat.zero_le _, Nat.zero_le _⟩
theorem hf_callV0 (g : hf_G x T ad cA E A l0 D0 cc nL own rt d) {G' : Option hf_St} {Kb : hf_St → Option α} (hc : hf_Ct l0 D0 T ad cA E d' y cc' nL' rt' (.ref (ad j) :: As) σ G' hf_rv) (kw : hf_kV own idx C y cc' nL' rt' n) (hdd : d' + 1 ≤ d) (hn' : nL' ≤ 21) (hj : T.1[j]? = some (ci, fl)) (hci : vwCl[ci]? = some (C, F, N)) (hn : As.length = n) (hst0 : st0 = As.reverse ++ .ref (ad j) :: st) (hcat : (st.map fun v => v.category).sum ≤ 8) (hd : decode cc pc = .ok (.invokevirtual idx, 3))
    (k : ∀ σ' : hf_St, hf_X x A nL (0, 0) Q (Kb σ') (hf_wd T ad cA σ') (pc + 3) lv st) : hf_X x A nL (0, 0) Q (hf_b0 G' Kb) (hf_wd T ad cA σ) pc lv st0 := hf_callV g hc kw hdd hn' hj hci hn hst0 hcat hd (fun v => k v) ⟨Nat.zero_le _, Nat.zero_le _⟩
theorem hf_callVr (g : hf_G x T ad cA E A l0 D0 cc nL own rt d) {q : Nat} (hc : hf_Ct l0 D0 T ad cA E d' y cc' nL' rt' (.ref (ad j) :: As) σ (some ()) (fun _ : Unit => (some (.ref q), σ))) (kw : hf_kV own idx C y cc' nL' rt' n) (hdd : d' + 1 ≤ d) (hn' : nL' ≤ 21) (hj : T.1[j]? = some (ci, fl)) (hci : vwCl[ci]? = some (C, F, N)) (hn : As.length = n) (hst0 : st0 = As.reverse ++ .ref (ad j) :: st) (hcat : (st.map fun v => v.category).sum ≤ 8) (hd : decode cc pc = .ok (.invokevirtual idx, 3))
    (k : hf_X x A nL (0, 0) Q K (hf_wd T ad cA σ) (pc + 3) lv (.ref q :: st)) : hf_X x A nL (0, 0) Q K (hf_wd T ad cA σ) pc lv st0 := hf_callV (Kb := fun _ => K) g hc kw hdd hn' hj hci hn hst0 hcat hd (fun _ => k) ⟨Nat.zero_le _, Nat.zero_le _⟩
theorem hf_callS1 (g : hf_G x T ad cA E A l0 D0 cc nL own rt d) {G' : Option Int32} {Kb : Int32 → Option α} (hc : hf_Ct l0 D0 T ad cA E d' y cc' nL' rt' As σ G' (hf_rp σ)) (kw : hf_kS own idx y cc' nL' rt' n) (hdd : d' + 1 ≤ d) (hn' : nL' ≤ 21) (hn : As.length = n) (hst0 : st0 = As.reverse ++ st) (hcat : (st.map fun v => v.category).sum ≤ 8) (hd : decode cc pc = .ok (.invokestatic idx, 3))
    (k : ∀ v : Int32, hf_X x A nL (0, 0) Q (Kb v) (hf_wd T ad cA σ) (pc + 3) lv (.int v :: st)) : hf_X x A nL (0, 0) Q (hf_b1 G' Kb) (hf_wd T ad cA σ) pc lv st0 := hf_callS g hc kw hdd hn' hn hst0 hcat hd (fun v => k v) ⟨Nat.zero_le _, Nat.zero_le _⟩
theorem hf_callS0 (g : hf_G x T ad cA E A l0 D0 cc nL own rt d) {G' : Option hf_St} {Kb : hf_St → Option α} (hc : hf_Ct l0 D0 T ad cA E d' y cc' nL' rt' As σ G' hf_rv) (kw : hf_kS own idx y cc' nL' rt' n) (hdd : d' + 1 ≤ d) (hn' : nL' ≤ 21) (hn : As.length = n) (hst0 : st0 = As.reverse ++ st) (hcat : (st.map fun v => v.category).sum ≤ 8) (hd : decode cc pc = .ok (.invokestatic idx, 3))
    (k : ∀ σ' : hf_St, hf_X x A nL (0, 0) Q (Kb σ') (hf_wd T ad cA σ') (pc + 3) lv st) : hf_X x A nL (0, 0) Q (hf_b0 G' Kb) (hf_wd T ad cA σ) pc lv st0 := hf_callS g hc kw hdd hn' hn hst0 hcat hd (fun v => k v) ⟨Nat.zero_le _, Nat.zero_le _⟩
/-- the words of a call of Math.max or Math.min -/
def hf_kM (own : String) (idx : Nat) (y : MethodName) (cc : ByteArray) : Prop := Cond.methodLink own idx y ∈ hf_TB ∧ Cond.static y ∈ hf_TB ∧ Cond.initialized "java/lang/Math" ∈ hf_TB ∧ Cond.code y cc 2 (some .int) ∈ hf_TB
theorem hf_mmax (g : hf_G x T ad cA E A l0 D0 cc nL own rt d) {w : va_W} {a b : Int32} (kw : hf_kM own idx Lib.Math.max.name Lib.Math.max.code) (hd1 : 1 ≤ d) (hcat : (st.map fun v => v.category).sum ≤ 8) (hd : decode cc pc = .ok (.invokestatic idx, 3)) (k : hf_X x A nL (0, 0) Q K w (pc + 3) lv (.int (hf_max a b) :: st)) : hf_X x A nL (0, 0) Q K w pc lv (.int b :: .int a :: st) := by
  obtain ⟨p, l, e, R, s, m, args, below, meth, c, D⟩ := x
  obtain ⟨⟨hx, hb, hml, hown, hts⟩, hK, hinj, hA, hst, hE, hlk, hr, hR1, hR2, -⟩ := id g
  intro u hu H locs ls hP hS hl
  exact va_mmax hx hb (by rw [hml, hl.1]) hown (hts _ kw.1) (hts _ kw.2.1) (hts _ kw.2.2.1) (hts _ kw.2.2.2) (by omega) (by omega) (Nat.zero_le _) (Nat.zero_le _) hd (k u hu H locs ls hP hS hl)
theorem hf_mmin (g : hf_G x T ad cA E A l0 D0 cc nL own rt d) {w : va_W} {a b : Int32} (kw : hf_kM own idx Lib.Math.min.name Lib.Math.min.code) (hd1 : 1 ≤ d) (hcat : (st.map fun v => v.category).sum ≤ 8) (hd : decode cc pc = .ok (.invokestatic idx, 3)) (k : hf_X x A nL (0, 0) Q K w (pc + 3) lv (.int (hf_min a b) :: st)) : hf_X x A nL (0, 0) Q K w pc lv (.int b :: .int a :: st) := by
  obtain ⟨p, l, e, R, s, m, args, below, meth, c, D⟩ := x
  obtain ⟨⟨hx, hb, hml, hown, hts⟩, hK, hinj, hA, hst, hE, hlk, hr, hR1, hR2, -⟩ := id g
  intro u hu H locs ls hP hS hl
  exact va_mmin hx hb (by rw [hml, hl.1]) hown (hts _ kw.1) (hts _ kw.2.1) (hts _ kw.2.2.1) (hts _ kw.2.2.2) (by omega) (by omega) (Nat.zero_le _) (Nat.zero_le _) hd (k u hu H locs ls hP hS hl)
/-- the words of a call of System.arraycopy -/
def hf_kA (own : String) (idx : Nat) : Prop := Cond.methodLink own idx arraycopyName ∈ hf_TB ∧ Cond.native arraycopyName ∈ hf_TB ∧ Cond.static arraycopyName ∈ hf_TB ∧ Cond.initialized "java/lang/System" ∈ hf_TB
theorem hf_copy (g : hf_G x T ad cA E A l0 D0 cc nL own rt d) {K : hf_St → Option α} {a0 a1 r0 r1 n0 n1 : Nat} {sp dp n : Int32} (kw : hf_kA own idx) (ha0 : T.2[a0]? = some (n0, .int)) (ha1 : T.2[a1]? = some (n1, .int)) (hr0 : T.1.length + a0 = r0) (hr1 : T.1.length + a1 = r1) (h1 : ¬ sp < 0) (h2 : ¬ dp < 0) (h3 : ¬ n < 0) (h4 : sp.toNatClampNeg + n.toNatClampNeg ≤ n0) (h5 : dp.toNatClampNeg + n.toNatClampNeg ≤ n1) (hd1 : 1 ≤ d) (hcat : (st.map fun v => v.category).sum ≤ 8) (hd : decode cc pc = .ok (.invokestatic idx, 3)) (k : ∀ σ', hf_X x A nL (0, 0) Q (K σ') (hf_wd T ad cA σ') (pc + 3) lv st) : hf_X x A nL (0, 0) Q (hf_lt (hf_pA σ a1 (va_cpy (σ.2 a0) (σ.2 a1) sp.toNatClampNeg dp.toNatClampNeg n.toNatClampNeg)) K) (hf_wd T ad cA σ) pc lv (.int n :: .int dp :: .ref (ad r1) :: .int sp :: .ref (ad r0) :: st) := by
  obtain ⟨p, l, e, R, s, m, args, below, meth, c, D⟩ := x
  subst hr0; subst hr1
  obtain ⟨⟨hx, hb, hml, hown, hts⟩, hK, hinj, hA, hst, hE, hlk, hr, hR1, hR2, -⟩ := id g
  intro u hu H locs ls hP hS hl
  refine va_copyi hx hb (by rw [hml, hl.1]) hown (hts _ kw.1) (hts _ kw.2.1) (hts _ kw.2.2.1) (hts _ kw.2.2.2) hK hP (by rw [hA]; exact hf_dis hinj σ) hS (T.1.length + a0) (T.1.length + a1) a0 a1 (hf_arr ha0) (hf_arr ha1) (hf_tyAt ha0) (hf_tyAt ha1) rfl h1 h2 h3 h4 h5 (fun _ _ => rfl) (by omega) ?_ hd (fun H1 locs1 hP1 hD1 hS1 => ?_)
  · have : nativeFrameWords "java/lang/System" "arraycopy" 5 ≤ 20 := by decide
    omega
  · rw [hf_setA ha1] at hP1
    exact k _ u hu H1 locs1 ls hP1 hS1 hl
end HfCalls
end
