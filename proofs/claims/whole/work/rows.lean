section
-- ===== PART A: goes FIRST, ahead of the names: the tables' words, and 'selects' of the private methods out of them =====
/-- a private method of a class that the tables say can be made, by its rows of tables_1 -/
def lw_okq (q : MethodName × Nat) : Prop := (q.1.cls ≠ "java/lang/invoke/MethodHandle" ∧ q.1.cls ≠ "java/lang/invoke/VarHandle") ∧ Cond.instantiable q.1.cls q.2 ∈ tables_1 ∧ Cond.privateMethod q.1 ∈ tables_1 ∧ Cond.instanceMethod q.1 ∈ tables_1
theorem lw_p0 : lw_okq (⟨"BagPhrases$Reader", "reads", "(I)Z"⟩, 6) := ⟨⟨by decide +kernel, by decide +kernel⟩, List.mem_of_getElem? (i := 26) (by decide +kernel), List.mem_of_getElem? (i := 401) (by decide +kernel), List.mem_of_getElem? (i := 402) (by decide +kernel)⟩
theorem lw_p1 : lw_okq (⟨"BagPhrases$Reader", "readsHead", "(I)Z"⟩, 6) := ⟨⟨by decide +kernel, by decide +kernel⟩, List.mem_of_getElem? (i := 26) (by decide +kernel), List.mem_of_getElem? (i := 405) (by decide +kernel), List.mem_of_getElem? (i := 406) (by decide +kernel)⟩
theorem lw_p2 : lw_okq (⟨"BagPhrases$Reader", "awaits", "(I)Z"⟩, 6) := ⟨⟨by decide +kernel, by decide +kernel⟩, List.mem_of_getElem? (i := 26) (by decide +kernel), List.mem_of_getElem? (i := 413) (by decide +kernel), List.mem_of_getElem? (i := 414) (by decide +kernel)⟩
theorem lw_p3 : lw_okq (⟨"BagPhrases$Reader", "readsSpelling", "(I)Z"⟩, 6) := ⟨⟨by decide +kernel, by decide +kernel⟩, List.mem_of_getElem? (i := 26) (by decide +kernel), List.mem_of_getElem? (i := 425) (by decide +kernel), List.mem_of_getElem? (i := 426) (by decide +kernel)⟩
theorem lw_p4 : lw_okq (⟨"BagPhrases$Reader", "readsRank", "(I)Z"⟩, 6) := ⟨⟨by decide +kernel, by decide +kernel⟩, List.mem_of_getElem? (i := 26) (by decide +kernel), List.mem_of_getElem? (i := 443) (by decide +kernel), List.mem_of_getElem? (i := 444) (by decide +kernel)⟩
theorem lw_p5 : lw_okq (⟨"BagPhrases$Reader", "turned", "(III)Z"⟩, 6) := ⟨⟨by decide +kernel, by decide +kernel⟩, List.mem_of_getElem? (i := 26) (by decide +kernel), List.mem_of_getElem? (i := 447) (by decide +kernel), List.mem_of_getElem? (i := 448) (by decide +kernel)⟩
theorem lw_p6 : lw_okq (⟨"BagPhrases$Reader", "readsLeader", "(I)Z"⟩, 6) := ⟨⟨by decide +kernel, by decide +kernel⟩, List.mem_of_getElem? (i := 26) (by decide +kernel), List.mem_of_getElem? (i := 458) (by decide +kernel), List.mem_of_getElem? (i := 459) (by decide +kernel)⟩
theorem lw_p7 : lw_okq (⟨"BagPhrases", "outdate", "()V"⟩, 17) := ⟨⟨by decide +kernel, by decide +kernel⟩, List.mem_of_getElem? (i := 18) (by decide +kernel), List.mem_of_getElem? (i := 478) (by decide +kernel), List.mem_of_getElem? (i := 479) (by decide +kernel)⟩
theorem lw_p8 : lw_okq (⟨"BagPhrases", "fitting", "()I"⟩, 17) := ⟨⟨by decide +kernel, by decide +kernel⟩, List.mem_of_getElem? (i := 18) (by decide +kernel), List.mem_of_getElem? (i := 495) (by decide +kernel), List.mem_of_getElem? (i := 496) (by decide +kernel)⟩
theorem lw_p9 : lw_okq (⟨"BagPhrases$Lattice", "measure", "()V"⟩, 12) := ⟨⟨by decide +kernel, by decide +kernel⟩, List.mem_of_getElem? (i := 174) (by decide +kernel), List.mem_of_getElem? (i := 519) (by decide +kernel), List.mem_of_getElem? (i := 520) (by decide +kernel)⟩
theorem lw_p10 : lw_okq (⟨"BagPhrases$Lattice", "listSteps", "(J)V"⟩, 12) := ⟨⟨by decide +kernel, by decide +kernel⟩, List.mem_of_getElem? (i := 174) (by decide +kernel), List.mem_of_getElem? (i := 524) (by decide +kernel), List.mem_of_getElem? (i := 525) (by decide +kernel)⟩
theorem lw_p11 : lw_okq (⟨"BagPhrases$Lattice", "spread", "(I)V"⟩, 12) := ⟨⟨by decide +kernel, by decide +kernel⟩, List.mem_of_getElem? (i := 174) (by decide +kernel), List.mem_of_getElem? (i := 533) (by decide +kernel), List.mem_of_getElem? (i := 534) (by decide +kernel)⟩
theorem lw_p12 : lw_okq (⟨"BagPhrases$Lattice", "letBehind", "(I)I"⟩, 12) := ⟨⟨by decide +kernel, by decide +kernel⟩, List.mem_of_getElem? (i := 174) (by decide +kernel), List.mem_of_getElem? (i := 537) (by decide +kernel), List.mem_of_getElem? (i := 538) (by decide +kernel)⟩
theorem lw_p13 : lw_okq (⟨"BagPhrases$Lattice", "gather", "(LBagPhrases$Way;II[J)V"⟩, 12) := ⟨⟨by decide +kernel, by decide +kernel⟩, List.mem_of_getElem? (i := 174) (by decide +kernel), List.mem_of_getElem? (i := 575) (by decide +kernel), List.mem_of_getElem? (i := 576) (by decide +kernel)⟩
theorem lw_p14 : lw_okq (⟨"BagPhrases$Lattice", "headsOf", "(LBagPhrases$Way;I)J"⟩, 12) := ⟨⟨by decide +kernel, by decide +kernel⟩, List.mem_of_getElem? (i := 174) (by decide +kernel), List.mem_of_getElem? (i := 598) (by decide +kernel), List.mem_of_getElem? (i := 599) (by decide +kernel)⟩
theorem lw_p15 : lw_okq (⟨"BagPhrases$Phrases", "countLengths", "()V"⟩, 14) := ⟨⟨by decide +kernel, by decide +kernel⟩, List.mem_of_getElem? (i := 158) (by decide +kernel), List.mem_of_getElem? (i := 623) (by decide +kernel), List.mem_of_getElem? (i := 624) (by decide +kernel)⟩
def lw_privs_1 : List (MethodName × Nat) := [(⟨"BagPhrases$Reader", "reads", "(I)Z"⟩, 6), (⟨"BagPhrases$Reader", "readsHead", "(I)Z"⟩, 6), (⟨"BagPhrases$Reader", "awaits", "(I)Z"⟩, 6), (⟨"BagPhrases$Reader", "readsSpelling", "(I)Z"⟩, 6), (⟨"BagPhrases$Reader", "readsRank", "(I)Z"⟩, 6), (⟨"BagPhrases$Reader", "turned", "(III)Z"⟩, 6), (⟨"BagPhrases$Reader", "readsLeader", "(I)Z"⟩, 6), (⟨"BagPhrases", "outdate", "()V"⟩, 17), (⟨"BagPhrases", "fitting", "()I"⟩, 17), (⟨"BagPhrases$Lattice", "measure", "()V"⟩, 12), (⟨"BagPhrases$Lattice", "listSteps", "(J)V"⟩, 12), (⟨"BagPhrases$Lattice", "spread", "(I)V"⟩, 12), (⟨"BagPhrases$Lattice", "letBehind", "(I)I"⟩, 12), (⟨"BagPhrases$Lattice", "gather", "(LBagPhrases$Way;II[J)V"⟩, 12), (⟨"BagPhrases$Lattice", "headsOf", "(LBagPhrases$Way;I)J"⟩, 12), (⟨"BagPhrases$Phrases", "countLengths", "()V"⟩, 14)]
theorem lw_r1 : ∀ q ∈ lw_privs_1, lw_okq q := List.forall_mem_cons.mpr ⟨lw_p0, List.forall_mem_cons.mpr ⟨lw_p1, List.forall_mem_cons.mpr ⟨lw_p2, List.forall_mem_cons.mpr ⟨lw_p3, List.forall_mem_cons.mpr ⟨lw_p4, List.forall_mem_cons.mpr ⟨lw_p5, List.forall_mem_cons.mpr ⟨lw_p6, List.forall_mem_cons.mpr ⟨lw_p7, List.forall_mem_cons.mpr ⟨lw_p8, List.forall_mem_cons.mpr ⟨lw_p9, List.forall_mem_cons.mpr ⟨lw_p10, List.forall_mem_cons.mpr ⟨lw_p11, List.forall_mem_cons.mpr ⟨lw_p12, List.forall_mem_cons.mpr ⟨lw_p13, List.forall_mem_cons.mpr ⟨lw_p14, List.forall_mem_cons.mpr ⟨lw_p15, fun _ h => absurd h List.not_mem_nil⟩⟩⟩⟩⟩⟩⟩⟩⟩⟩⟩⟩⟩⟩⟩⟩
theorem lw_p16 : lw_okq (⟨"BagPhrases", "makings", "(I)I"⟩, 17) := ⟨⟨by decide +kernel, by decide +kernel⟩, List.mem_of_getElem? (i := 18) (by decide +kernel), List.mem_of_getElem? (i := 659) (by decide +kernel), List.mem_of_getElem? (i := 660) (by decide +kernel)⟩
theorem lw_p17 : lw_okq (⟨"BagPhrases", "perform", "(III)V"⟩, 17) := ⟨⟨by decide +kernel, by decide +kernel⟩, List.mem_of_getElem? (i := 18) (by decide +kernel), List.mem_of_getElem? (i := 682) (by decide +kernel), List.mem_of_getElem? (i := 683) (by decide +kernel)⟩
theorem lw_p18 : lw_okq (⟨"BagPhrases$Doings", "forgetFirst", "()V"⟩, 4) := ⟨⟨by decide +kernel, by decide +kernel⟩, List.mem_of_getElem? (i := 137) (by decide +kernel), List.mem_of_getElem? (i := 691) (by decide +kernel), List.mem_of_getElem? (i := 692) (by decide +kernel)⟩
theorem lw_p19 : lw_okq (⟨"BagPhrases$Phrases", "firstReaching", "(JII)I"⟩, 14) := ⟨⟨by decide +kernel, by decide +kernel⟩, List.mem_of_getElem? (i := 158) (by decide +kernel), List.mem_of_getElem? (i := 755) (by decide +kernel), List.mem_of_getElem? (i := 756) (by decide +kernel)⟩
theorem lw_p20 : lw_okq (⟨"BagPhrases$Phrases", "reaches", "(JIII)Z"⟩, 14) := ⟨⟨by decide +kernel, by decide +kernel⟩, List.mem_of_getElem? (i := 158) (by decide +kernel), List.mem_of_getElem? (i := 759) (by decide +kernel), List.mem_of_getElem? (i := 760) (by decide +kernel)⟩
theorem lw_p21 : lw_okq (⟨"BagPhrases$Phrases", "cameToBy", "(II)I"⟩, 14) := ⟨⟨by decide +kernel, by decide +kernel⟩, List.mem_of_getElem? (i := 158) (by decide +kernel), List.mem_of_getElem? (i := 763) (by decide +kernel), List.mem_of_getElem? (i := 764) (by decide +kernel)⟩
theorem lw_p22 : lw_okq (⟨"BagPhrases$Phrases", "waysBy", "(III)J"⟩, 14) := ⟨⟨by decide +kernel, by decide +kernel⟩, List.mem_of_getElem? (i := 158) (by decide +kernel), List.mem_of_getElem? (i := 783) (by decide +kernel), List.mem_of_getElem? (i := 784) (by decide +kernel)⟩
theorem lw_p23 : lw_okq (⟨"BagPhrases", "examineRow", "()V"⟩, 17) := ⟨⟨by decide +kernel, by decide +kernel⟩, List.mem_of_getElem? (i := 18) (by decide +kernel), List.mem_of_getElem? (i := 799) (by decide +kernel), List.mem_of_getElem? (i := 800) (by decide +kernel)⟩
theorem lw_p24 : lw_okq (⟨"BagPhrases", "explain", "(IIII)V"⟩, 17) := ⟨⟨by decide +kernel, by decide +kernel⟩, List.mem_of_getElem? (i := 18) (by decide +kernel), List.mem_of_getElem? (i := 803) (by decide +kernel), List.mem_of_getElem? (i := 804) (by decide +kernel)⟩
theorem lw_p25 : lw_okq (⟨"BagPhrases", "passesAt", "(II)Z"⟩, 17) := ⟨⟨by decide +kernel, by decide +kernel⟩, List.mem_of_getElem? (i := 18) (by decide +kernel), List.mem_of_getElem? (i := 808) (by decide +kernel), List.mem_of_getElem? (i := 809) (by decide +kernel)⟩
theorem lw_p26 : lw_okq (⟨"BagPhrases", "examineEnd", "()V"⟩, 17) := ⟨⟨by decide +kernel, by decide +kernel⟩, List.mem_of_getElem? (i := 18) (by decide +kernel), List.mem_of_getElem? (i := 816) (by decide +kernel), List.mem_of_getElem? (i := 817) (by decide +kernel)⟩
theorem lw_p27 : lw_okq (⟨"BagPhrases", "lettersMending", "(II)I"⟩, 17) := ⟨⟨by decide +kernel, by decide +kernel⟩, List.mem_of_getElem? (i := 18) (by decide +kernel), List.mem_of_getElem? (i := 833) (by decide +kernel), List.mem_of_getElem? (i := 834) (by decide +kernel)⟩
theorem lw_p28 : lw_okq (⟨"BagPhrases", "comesTrue", "(I)Z"⟩, 17) := ⟨⟨by decide +kernel, by decide +kernel⟩, List.mem_of_getElem? (i := 18) (by decide +kernel), List.mem_of_getElem? (i := 850) (by decide +kernel), List.mem_of_getElem? (i := 851) (by decide +kernel)⟩
theorem lw_p29 : lw_okq (⟨"BagPhrases", "performed", "(III)Z"⟩, 17) := ⟨⟨by decide +kernel, by decide +kernel⟩, List.mem_of_getElem? (i := 18) (by decide +kernel), List.mem_of_getElem? (i := 854) (by decide +kernel), List.mem_of_getElem? (i := 855) (by decide +kernel)⟩
theorem lw_p30 : lw_okq (⟨"BagPhrases", "foundAgrees", "()Z"⟩, 17) := ⟨⟨by decide +kernel, by decide +kernel⟩, List.mem_of_getElem? (i := 18) (by decide +kernel), List.mem_of_getElem? (i := 871) (by decide +kernel), List.mem_of_getElem? (i := 872) (by decide +kernel)⟩
theorem lw_p31 : lw_okq (⟨"BagPhrases", "isSo", "(II)Z"⟩, 17) := ⟨⟨by decide +kernel, by decide +kernel⟩, List.mem_of_getElem? (i := 18) (by decide +kernel), List.mem_of_getElem? (i := 875) (by decide +kernel), List.mem_of_getElem? (i := 876) (by decide +kernel)⟩
def lw_privs_2 : List (MethodName × Nat) := [(⟨"BagPhrases", "makings", "(I)I"⟩, 17), (⟨"BagPhrases", "perform", "(III)V"⟩, 17), (⟨"BagPhrases$Doings", "forgetFirst", "()V"⟩, 4), (⟨"BagPhrases$Phrases", "firstReaching", "(JII)I"⟩, 14), (⟨"BagPhrases$Phrases", "reaches", "(JIII)Z"⟩, 14), (⟨"BagPhrases$Phrases", "cameToBy", "(II)I"⟩, 14), (⟨"BagPhrases$Phrases", "waysBy", "(III)J"⟩, 14), (⟨"BagPhrases", "examineRow", "()V"⟩, 17), (⟨"BagPhrases", "explain", "(IIII)V"⟩, 17), (⟨"BagPhrases", "passesAt", "(II)Z"⟩, 17), (⟨"BagPhrases", "examineEnd", "()V"⟩, 17), (⟨"BagPhrases", "lettersMending", "(II)I"⟩, 17), (⟨"BagPhrases", "comesTrue", "(I)Z"⟩, 17), (⟨"BagPhrases", "performed", "(III)Z"⟩, 17), (⟨"BagPhrases", "foundAgrees", "()Z"⟩, 17), (⟨"BagPhrases", "isSo", "(II)Z"⟩, 17)]
theorem lw_r2 : ∀ q ∈ lw_privs_2, lw_okq q := List.forall_mem_cons.mpr ⟨lw_p16, List.forall_mem_cons.mpr ⟨lw_p17, List.forall_mem_cons.mpr ⟨lw_p18, List.forall_mem_cons.mpr ⟨lw_p19, List.forall_mem_cons.mpr ⟨lw_p20, List.forall_mem_cons.mpr ⟨lw_p21, List.forall_mem_cons.mpr ⟨lw_p22, List.forall_mem_cons.mpr ⟨lw_p23, List.forall_mem_cons.mpr ⟨lw_p24, List.forall_mem_cons.mpr ⟨lw_p25, List.forall_mem_cons.mpr ⟨lw_p26, List.forall_mem_cons.mpr ⟨lw_p27, List.forall_mem_cons.mpr ⟨lw_p28, List.forall_mem_cons.mpr ⟨lw_p29, List.forall_mem_cons.mpr ⟨lw_p30, List.forall_mem_cons.mpr ⟨lw_p31, fun _ h => absurd h List.not_mem_nil⟩⟩⟩⟩⟩⟩⟩⟩⟩⟩⟩⟩⟩⟩⟩⟩
theorem lw_p32 : lw_okq (⟨"BagPhrases$Chances", "countSets", "()V"⟩, 10) := ⟨⟨by decide +kernel, by decide +kernel⟩, List.mem_of_getElem? (i := 277) (by decide +kernel), List.mem_of_getElem? (i := 902) (by decide +kernel), List.mem_of_getElem? (i := 903) (by decide +kernel)⟩
theorem lw_p33 : lw_okq (⟨"BagPhrases$Chances", "openSets", "()V"⟩, 10) := ⟨⟨by decide +kernel, by decide +kernel⟩, List.mem_of_getElem? (i := 277) (by decide +kernel), List.mem_of_getElem? (i := 906) (by decide +kernel), List.mem_of_getElem? (i := 907) (by decide +kernel)⟩
theorem lw_p34 : lw_okq (⟨"BagPhrases$Chances", "listComing", "()V"⟩, 10) := ⟨⟨by decide +kernel, by decide +kernel⟩, List.mem_of_getElem? (i := 277) (by decide +kernel), List.mem_of_getElem? (i := 911) (by decide +kernel), List.mem_of_getElem? (i := 912) (by decide +kernel)⟩
theorem lw_p35 : lw_okq (⟨"BagPhrases$Chances", "isOpened", "(I)Z"⟩, 10) := ⟨⟨by decide +kernel, by decide +kernel⟩, List.mem_of_getElem? (i := 277) (by decide +kernel), List.mem_of_getElem? (i := 919) (by decide +kernel), List.mem_of_getElem? (i := 920) (by decide +kernel)⟩
theorem lw_p36 : lw_okq (⟨"BagPhrases$Chances", "wordsOf", "(I)I"⟩, 10) := ⟨⟨by decide +kernel, by decide +kernel⟩, List.mem_of_getElem? (i := 277) (by decide +kernel), List.mem_of_getElem? (i := 923) (by decide +kernel), List.mem_of_getElem? (i := 924) (by decide +kernel)⟩
theorem lw_p37 : lw_okq (⟨"BagPhrasesModel", "readText", "()I"⟩, 45) := ⟨⟨by decide +kernel, by decide +kernel⟩, List.mem_of_getElem? (i := 972) (by decide +kernel), List.mem_of_getElem? (i := 1133) (by decide +kernel), List.mem_of_getElem? (i := 1134) (by decide +kernel)⟩
theorem lw_p38 : lw_okq (⟨"BagPhrasesModel", "takeSign", "(I)Z"⟩, 45) := ⟨⟨by decide +kernel, by decide +kernel⟩, List.mem_of_getElem? (i := 972) (by decide +kernel), List.mem_of_getElem? (i := 1137) (by decide +kernel), List.mem_of_getElem? (i := 1138) (by decide +kernel)⟩
theorem lw_p39 : lw_okq (⟨"BagPhrasesModel", "takeIn", "(I)Z"⟩, 45) := ⟨⟨by decide +kernel, by decide +kernel⟩, List.mem_of_getElem? (i := 972) (by decide +kernel), List.mem_of_getElem? (i := 1144) (by decide +kernel), List.mem_of_getElem? (i := 1145) (by decide +kernel)⟩
theorem lw_p40 : lw_okq (⟨"BagPhrasesModel", "takeOfWord", "(I)Z"⟩, 45) := ⟨⟨by decide +kernel, by decide +kernel⟩, List.mem_of_getElem? (i := 972) (by decide +kernel), List.mem_of_getElem? (i := 1148) (by decide +kernel), List.mem_of_getElem? (i := 1149) (by decide +kernel)⟩
theorem lw_p41 : lw_okq (⟨"BagPhrasesModel", "takeOfBag", "(I)Z"⟩, 45) := ⟨⟨by decide +kernel, by decide +kernel⟩, List.mem_of_getElem? (i := 972) (by decide +kernel), List.mem_of_getElem? (i := 1158) (by decide +kernel), List.mem_of_getElem? (i := 1159) (by decide +kernel)⟩
theorem lw_p42 : lw_okq (⟨"BagPhrasesModel", "takeKind", "(II)Z"⟩, 45) := ⟨⟨by decide +kernel, by decide +kernel⟩, List.mem_of_getElem? (i := 972) (by decide +kernel), List.mem_of_getElem? (i := 1162) (by decide +kernel), List.mem_of_getElem? (i := 1163) (by decide +kernel)⟩
theorem lw_p43 : lw_okq (⟨"BagPhrasesModel", "takeOfPair", "(I)Z"⟩, 45) := ⟨⟨by decide +kernel, by decide +kernel⟩, List.mem_of_getElem? (i := 972) (by decide +kernel), List.mem_of_getElem? (i := 1173) (by decide +kernel), List.mem_of_getElem? (i := 1174) (by decide +kernel)⟩
theorem lw_p44 : lw_okq (⟨"BagPhrasesModel", "look", "([I)V"⟩, 45) := ⟨⟨by decide +kernel, by decide +kernel⟩, List.mem_of_getElem? (i := 972) (by decide +kernel), List.mem_of_getElem? (i := 1188) (by decide +kernel), List.mem_of_getElem? (i := 1189) (by decide +kernel)⟩
theorem lw_p45 : lw_okq (⟨"BagPhrasesModel", "unlike", "()I"⟩, 45) := ⟨⟨by decide +kernel, by decide +kernel⟩, List.mem_of_getElem? (i := 972) (by decide +kernel), List.mem_of_getElem? (i := 1192) (by decide +kernel), List.mem_of_getElem? (i := 1193) (by decide +kernel)⟩
theorem lw_p46 : lw_okq (⟨"BagPhrasesModel", "makeable", "()I"⟩, 45) := ⟨⟨by decide +kernel, by decide +kernel⟩, List.mem_of_getElem? (i := 972) (by decide +kernel), List.mem_of_getElem? (i := 1196) (by decide +kernel), List.mem_of_getElem? (i := 1197) (by decide +kernel)⟩
theorem lw_p47 : lw_okq (⟨"BagPhrasesModel", "madeOf", "(I)I"⟩, 45) := ⟨⟨by decide +kernel, by decide +kernel⟩, List.mem_of_getElem? (i := 972) (by decide +kernel), List.mem_of_getElem? (i := 1200) (by decide +kernel), List.mem_of_getElem? (i := 1201) (by decide +kernel)⟩
def lw_privs_3 : List (MethodName × Nat) := [(⟨"BagPhrases$Chances", "countSets", "()V"⟩, 10), (⟨"BagPhrases$Chances", "openSets", "()V"⟩, 10), (⟨"BagPhrases$Chances", "listComing", "()V"⟩, 10), (⟨"BagPhrases$Chances", "isOpened", "(I)Z"⟩, 10), (⟨"BagPhrases$Chances", "wordsOf", "(I)I"⟩, 10), (⟨"BagPhrasesModel", "readText", "()I"⟩, 45), (⟨"BagPhrasesModel", "takeSign", "(I)Z"⟩, 45), (⟨"BagPhrasesModel", "takeIn", "(I)Z"⟩, 45), (⟨"BagPhrasesModel", "takeOfWord", "(I)Z"⟩, 45), (⟨"BagPhrasesModel", "takeOfBag", "(I)Z"⟩, 45), (⟨"BagPhrasesModel", "takeKind", "(II)Z"⟩, 45), (⟨"BagPhrasesModel", "takeOfPair", "(I)Z"⟩, 45), (⟨"BagPhrasesModel", "look", "([I)V"⟩, 45), (⟨"BagPhrasesModel", "unlike", "()I"⟩, 45), (⟨"BagPhrasesModel", "makeable", "()I"⟩, 45), (⟨"BagPhrasesModel", "madeOf", "(I)I"⟩, 45)]
theorem lw_r3 : ∀ q ∈ lw_privs_3, lw_okq q := List.forall_mem_cons.mpr ⟨lw_p32, List.forall_mem_cons.mpr ⟨lw_p33, List.forall_mem_cons.mpr ⟨lw_p34, List.forall_mem_cons.mpr ⟨lw_p35, List.forall_mem_cons.mpr ⟨lw_p36, List.forall_mem_cons.mpr ⟨lw_p37, List.forall_mem_cons.mpr ⟨lw_p38, List.forall_mem_cons.mpr ⟨lw_p39, List.forall_mem_cons.mpr ⟨lw_p40, List.forall_mem_cons.mpr ⟨lw_p41, List.forall_mem_cons.mpr ⟨lw_p42, List.forall_mem_cons.mpr ⟨lw_p43, List.forall_mem_cons.mpr ⟨lw_p44, List.forall_mem_cons.mpr ⟨lw_p45, List.forall_mem_cons.mpr ⟨lw_p46, List.forall_mem_cons.mpr ⟨lw_p47, fun _ h => absurd h List.not_mem_nil⟩⟩⟩⟩⟩⟩⟩⟩⟩⟩⟩⟩⟩⟩⟩⟩
theorem lw_p48 : lw_okq (⟨"BagPhrasesModel", "inPhrases", "()I"⟩, 45) := ⟨⟨by decide +kernel, by decide +kernel⟩, List.mem_of_getElem? (i := 972) (by decide +kernel), List.mem_of_getElem? (i := 1204) (by decide +kernel), List.mem_of_getElem? (i := 1205) (by decide +kernel)⟩
theorem lw_p49 : lw_okq (⟨"BagPhrasesModel", "withWord", "([II)J"⟩, 45) := ⟨⟨by decide +kernel, by decide +kernel⟩, List.mem_of_getElem? (i := 972) (by decide +kernel), List.mem_of_getElem? (i := 1208) (by decide +kernel), List.mem_of_getElem? (i := 1209) (by decide +kernel)⟩
theorem lw_p50 : lw_okq (⟨"BagPhrasesModel", "manyOf", "([I)J"⟩, 45) := ⟨⟨by decide +kernel, by decide +kernel⟩, List.mem_of_getElem? (i := 972) (by decide +kernel), List.mem_of_getElem? (i := 1212) (by decide +kernel), List.mem_of_getElem? (i := 1213) (by decide +kernel)⟩
theorem lw_p51 : lw_okq (⟨"BagPhrasesModel", "layWays", "()V"⟩, 45) := ⟨⟨by decide +kernel, by decide +kernel⟩, List.mem_of_getElem? (i := 972) (by decide +kernel), List.mem_of_getElem? (i := 1216) (by decide +kernel), List.mem_of_getElem? (i := 1217) (by decide +kernel)⟩
theorem lw_p52 : lw_okq (⟨"BagPhrasesModel", "mayCome", "(III)Z"⟩, 45) := ⟨⟨by decide +kernel, by decide +kernel⟩, List.mem_of_getElem? (i := 972) (by decide +kernel), List.mem_of_getElem? (i := 1220) (by decide +kernel), List.mem_of_getElem? (i := 1221) (by decide +kernel)⟩
theorem lw_p53 : lw_okq (⟨"BagPhrasesModel", "endsAs", "([JII)J"⟩, 45) := ⟨⟨by decide +kernel, by decide +kernel⟩, List.mem_of_getElem? (i := 972) (by decide +kernel), List.mem_of_getElem? (i := 1224) (by decide +kernel), List.mem_of_getElem? (i := 1225) (by decide +kernel)⟩
theorem lw_p54 : lw_okq (⟨"BagPhrasesModel", "all", "()J"⟩, 45) := ⟨⟨by decide +kernel, by decide +kernel⟩, List.mem_of_getElem? (i := 972) (by decide +kernel), List.mem_of_getElem? (i := 1228) (by decide +kernel), List.mem_of_getElem? (i := 1229) (by decide +kernel)⟩
theorem lw_p55 : lw_okq (⟨"BagPhrasesModel", "few", "(Z)I"⟩, 45) := ⟨⟨by decide +kernel, by decide +kernel⟩, List.mem_of_getElem? (i := 972) (by decide +kernel), List.mem_of_getElem? (i := 1232) (by decide +kernel), List.mem_of_getElem? (i := 1233) (by decide +kernel)⟩
theorem lw_p56 : lw_okq (⟨"BagPhrasesModel", "manyBy", "(I)J"⟩, 45) := ⟨⟨by decide +kernel, by decide +kernel⟩, List.mem_of_getElem? (i := 972) (by decide +kernel), List.mem_of_getElem? (i := 1236) (by decide +kernel), List.mem_of_getElem? (i := 1237) (by decide +kernel)⟩
theorem lw_p57 : lw_okq (⟨"BagPhrasesModel", "isWord", "(I)Z"⟩, 45) := ⟨⟨by decide +kernel, by decide +kernel⟩, List.mem_of_getElem? (i := 972) (by decide +kernel), List.mem_of_getElem? (i := 1244) (by decide +kernel), List.mem_of_getElem? (i := 1245) (by decide +kernel)⟩
theorem lw_p58 : lw_okq (⟨"BagPhrasesModel", "rarest", "(I)I"⟩, 45) := ⟨⟨by decide +kernel, by decide +kernel⟩, List.mem_of_getElem? (i := 972) (by decide +kernel), List.mem_of_getElem? (i := 1248) (by decide +kernel), List.mem_of_getElem? (i := 1249) (by decide +kernel)⟩
theorem lw_p59 : lw_okq (⟨"BagPhrasesModel", "havers", "(I)I"⟩, 45) := ⟨⟨by decide +kernel, by decide +kernel⟩, List.mem_of_getElem? (i := 972) (by decide +kernel), List.mem_of_getElem? (i := 1252) (by decide +kernel), List.mem_of_getElem? (i := 1253) (by decide +kernel)⟩
theorem lw_p60 : lw_okq (⟨"BagPhrasesModel", "twins", "(I)I"⟩, 45) := ⟨⟨by decide +kernel, by decide +kernel⟩, List.mem_of_getElem? (i := 972) (by decide +kernel), List.mem_of_getElem? (i := 1256) (by decide +kernel), List.mem_of_getElem? (i := 1257) (by decide +kernel)⟩
theorem lw_p61 : lw_okq (⟨"BagPhrasesModel", "lettersOf", "(I)I"⟩, 45) := ⟨⟨by decide +kernel, by decide +kernel⟩, List.mem_of_getElem? (i := 972) (by decide +kernel), List.mem_of_getElem? (i := 1260) (by decide +kernel), List.mem_of_getElem? (i := 1261) (by decide +kernel)⟩
theorem lw_p62 : lw_okq (⟨"BagPhrasesModel", "note", "()V"⟩, 45) := ⟨⟨by decide +kernel, by decide +kernel⟩, List.mem_of_getElem? (i := 972) (by decide +kernel), List.mem_of_getElem? (i := 1276) (by decide +kernel), List.mem_of_getElem? (i := 1277) (by decide +kernel)⟩
theorem lw_p63 : lw_okq (⟨"BagPhrasesModel", "findBest", "()I"⟩, 45) := ⟨⟨by decide +kernel, by decide +kernel⟩, List.mem_of_getElem? (i := 972) (by decide +kernel), List.mem_of_getElem? (i := 1318) (by decide +kernel), List.mem_of_getElem? (i := 1319) (by decide +kernel)⟩
def lw_privs_4 : List (MethodName × Nat) := [(⟨"BagPhrasesModel", "inPhrases", "()I"⟩, 45), (⟨"BagPhrasesModel", "withWord", "([II)J"⟩, 45), (⟨"BagPhrasesModel", "manyOf", "([I)J"⟩, 45), (⟨"BagPhrasesModel", "layWays", "()V"⟩, 45), (⟨"BagPhrasesModel", "mayCome", "(III)Z"⟩, 45), (⟨"BagPhrasesModel", "endsAs", "([JII)J"⟩, 45), (⟨"BagPhrasesModel", "all", "()J"⟩, 45), (⟨"BagPhrasesModel", "few", "(Z)I"⟩, 45), (⟨"BagPhrasesModel", "manyBy", "(I)J"⟩, 45), (⟨"BagPhrasesModel", "isWord", "(I)Z"⟩, 45), (⟨"BagPhrasesModel", "rarest", "(I)I"⟩, 45), (⟨"BagPhrasesModel", "havers", "(I)I"⟩, 45), (⟨"BagPhrasesModel", "twins", "(I)I"⟩, 45), (⟨"BagPhrasesModel", "lettersOf", "(I)I"⟩, 45), (⟨"BagPhrasesModel", "note", "()V"⟩, 45), (⟨"BagPhrasesModel", "findBest", "()I"⟩, 45)]
theorem lw_r4 : ∀ q ∈ lw_privs_4, lw_okq q := List.forall_mem_cons.mpr ⟨lw_p48, List.forall_mem_cons.mpr ⟨lw_p49, List.forall_mem_cons.mpr ⟨lw_p50, List.forall_mem_cons.mpr ⟨lw_p51, List.forall_mem_cons.mpr ⟨lw_p52, List.forall_mem_cons.mpr ⟨lw_p53, List.forall_mem_cons.mpr ⟨lw_p54, List.forall_mem_cons.mpr ⟨lw_p55, List.forall_mem_cons.mpr ⟨lw_p56, List.forall_mem_cons.mpr ⟨lw_p57, List.forall_mem_cons.mpr ⟨lw_p58, List.forall_mem_cons.mpr ⟨lw_p59, List.forall_mem_cons.mpr ⟨lw_p60, List.forall_mem_cons.mpr ⟨lw_p61, List.forall_mem_cons.mpr ⟨lw_p62, List.forall_mem_cons.mpr ⟨lw_p63, fun _ h => absurd h List.not_mem_nil⟩⟩⟩⟩⟩⟩⟩⟩⟩⟩⟩⟩⟩⟩⟩⟩
theorem lw_p64 : lw_okq (⟨"BagPhrasesModel", "layBest", "()V"⟩, 45) := ⟨⟨by decide +kernel, by decide +kernel⟩, List.mem_of_getElem? (i := 972) (by decide +kernel), List.mem_of_getElem? (i := 1322) (by decide +kernel), List.mem_of_getElem? (i := 1323) (by decide +kernel)⟩
theorem lw_p65 : lw_okq (⟨"BagPhrasesModel", "bestWith", "(II)I"⟩, 45) := ⟨⟨by decide +kernel, by decide +kernel⟩, List.mem_of_getElem? (i := 972) (by decide +kernel), List.mem_of_getElem? (i := 1326) (by decide +kernel), List.mem_of_getElem? (i := 1327) (by decide +kernel)⟩
theorem lw_p66 : lw_okq (⟨"BagPhrasesModel", "worthOf", "(I)I"⟩, 45) := ⟨⟨by decide +kernel, by decide +kernel⟩, List.mem_of_getElem? (i := 972) (by decide +kernel), List.mem_of_getElem? (i := 1330) (by decide +kernel), List.mem_of_getElem? (i := 1331) (by decide +kernel)⟩
theorem lw_p67 : lw_okq (⟨"BagPhrasesModel", "find", "(J)I"⟩, 45) := ⟨⟨by decide +kernel, by decide +kernel⟩, List.mem_of_getElem? (i := 972) (by decide +kernel), List.mem_of_getElem? (i := 1338) (by decide +kernel), List.mem_of_getElem? (i := 1339) (by decide +kernel)⟩
theorem lw_p68 : lw_okq (⟨"BagPhrasesModel", "reason", "()I"⟩, 45) := ⟨⟨by decide +kernel, by decide +kernel⟩, List.mem_of_getElem? (i := 972) (by decide +kernel), List.mem_of_getElem? (i := 1354) (by decide +kernel), List.mem_of_getElem? (i := 1355) (by decide +kernel)⟩
theorem lw_p69 : lw_okq (⟨"BagPhrasesModel", "wantedBy", "(I)I"⟩, 45) := ⟨⟨by decide +kernel, by decide +kernel⟩, List.mem_of_getElem? (i := 972) (by decide +kernel), List.mem_of_getElem? (i := 1358) (by decide +kernel), List.mem_of_getElem? (i := 1359) (by decide +kernel)⟩
theorem lw_p70 : lw_okq (⟨"BagPhrasesModel", "judged", "(IIII)Z"⟩, 45) := ⟨⟨by decide +kernel, by decide +kernel⟩, List.mem_of_getElem? (i := 972) (by decide +kernel), List.mem_of_getElem? (i := 1380) (by decide +kernel), List.mem_of_getElem? (i := 1381) (by decide +kernel)⟩
theorem lw_p71 : lw_okq (⟨"BagPhrasesModel", "isSo", "(III)Z"⟩, 45) := ⟨⟨by decide +kernel, by decide +kernel⟩, List.mem_of_getElem? (i := 972) (by decide +kernel), List.mem_of_getElem? (i := 1397) (by decide +kernel), List.mem_of_getElem? (i := 1398) (by decide +kernel)⟩
theorem lw_p72 : lw_okq (⟨"BagPhrasesModel", "unbarred", "()I"⟩, 45) := ⟨⟨by decide +kernel, by decide +kernel⟩, List.mem_of_getElem? (i := 972) (by decide +kernel), List.mem_of_getElem? (i := 1405) (by decide +kernel), List.mem_of_getElem? (i := 1406) (by decide +kernel)⟩
theorem lw_p73 : lw_okq (⟨"BagPhrasesModel", "layWorth", "()V"⟩, 45) := ⟨⟨by decide +kernel, by decide +kernel⟩, List.mem_of_getElem? (i := 972) (by decide +kernel), List.mem_of_getElem? (i := 1413) (by decide +kernel), List.mem_of_getElem? (i := 1414) (by decide +kernel)⟩
theorem lw_p74 : lw_okq (⟨"BagPhrasesModel", "someOf", "(I)I"⟩, 45) := ⟨⟨by decide +kernel, by decide +kernel⟩, List.mem_of_getElem? (i := 972) (by decide +kernel), List.mem_of_getElem? (i := 1417) (by decide +kernel), List.mem_of_getElem? (i := 1418) (by decide +kernel)⟩
theorem lw_p75 : lw_okq (⟨"BagPhrasesModel", "bitOf", "(I)I"⟩, 45) := ⟨⟨by decide +kernel, by decide +kernel⟩, List.mem_of_getElem? (i := 972) (by decide +kernel), List.mem_of_getElem? (i := 1424) (by decide +kernel), List.mem_of_getElem? (i := 1425) (by decide +kernel)⟩
def lw_privs_5 : List (MethodName × Nat) := [(⟨"BagPhrasesModel", "layBest", "()V"⟩, 45), (⟨"BagPhrasesModel", "bestWith", "(II)I"⟩, 45), (⟨"BagPhrasesModel", "worthOf", "(I)I"⟩, 45), (⟨"BagPhrasesModel", "find", "(J)I"⟩, 45), (⟨"BagPhrasesModel", "reason", "()I"⟩, 45), (⟨"BagPhrasesModel", "wantedBy", "(I)I"⟩, 45), (⟨"BagPhrasesModel", "judged", "(IIII)Z"⟩, 45), (⟨"BagPhrasesModel", "isSo", "(III)Z"⟩, 45), (⟨"BagPhrasesModel", "unbarred", "()I"⟩, 45), (⟨"BagPhrasesModel", "layWorth", "()V"⟩, 45), (⟨"BagPhrasesModel", "someOf", "(I)I"⟩, 45), (⟨"BagPhrasesModel", "bitOf", "(I)I"⟩, 45)]
theorem lw_r5 : ∀ q ∈ lw_privs_5, lw_okq q := List.forall_mem_cons.mpr ⟨lw_p64, List.forall_mem_cons.mpr ⟨lw_p65, List.forall_mem_cons.mpr ⟨lw_p66, List.forall_mem_cons.mpr ⟨lw_p67, List.forall_mem_cons.mpr ⟨lw_p68, List.forall_mem_cons.mpr ⟨lw_p69, List.forall_mem_cons.mpr ⟨lw_p70, List.forall_mem_cons.mpr ⟨lw_p71, List.forall_mem_cons.mpr ⟨lw_p72, List.forall_mem_cons.mpr ⟨lw_p73, List.forall_mem_cons.mpr ⟨lw_p74, List.forall_mem_cons.mpr ⟨lw_p75, fun _ h => absurd h List.not_mem_nil⟩⟩⟩⟩⟩⟩⟩⟩⟩⟩⟩⟩
def lw_privs : List (MethodName × Nat) := lw_privs_1 ++ (lw_privs_2 ++ (lw_privs_3 ++ (lw_privs_4 ++ (lw_privs_5))))
def lw_tbl : List Cond := k2_sels lw_privs ++ tables_1
theorem lw_privs_ok : ∀ q ∈ lw_privs, lw_okq q := by
  show ∀ q ∈ lw_privs_1 ++ (lw_privs_2 ++ (lw_privs_3 ++ (lw_privs_4 ++ (lw_privs_5)))), lw_okq q
  exact List.forall_mem_append.mpr ⟨lw_r1, List.forall_mem_append.mpr ⟨lw_r2, List.forall_mem_append.mpr ⟨lw_r3, List.forall_mem_append.mpr ⟨lw_r4, lw_r5⟩⟩⟩⟩
end
section
def RX0 : String := "BagPhrases$Chances"
def TX0 : u_T := fun k => match k with
  | 0 => ("BagPhrases$Chances", "words", "LBagPhrases$Lexicon;", true)
  | 1 => ("BagPhrases$Chances", "now", "LBagPhrases$Setting;", true)
  | 2 => ("BagPhrases$Chances", "phrases", "LBagPhrases$Phrases;", true)
  | 3 => ("BagPhrases$Chances", "families", "LBagPhrases$Families;", true)
  | 4 => ("BagPhrases$Chances", "coming", "[I", true)
  | 5 => ("BagPhrases$Chances", "opened", "[J", true)
  | 6 => ("BagPhrases$Chances", "counts", "[J", true)
  | 7 => ("BagPhrases$Chances", "comingSize", "I", false)
  | 8 => ("BagPhrases$Chances", "openedKnown", "Z", false)
  | _ => ("BagPhrases$Chances", "countsKnown", "Z", false)
def tyX0 : Nat → FieldType := fun k => match k with
  | 0 => .object "BagPhrases$Lexicon"
  | 1 => .object "BagPhrases$Setting"
  | 2 => .object "BagPhrases$Phrases"
  | 3 => .object "BagPhrases$Families"
  | 4 => .array .int
  | 5 => .array .long
  | 6 => .array .long
  | 7 => .int
  | 8 => .boolean
  | _ => .boolean
abbrev wsX00 : List Cond := u_ws RX0 TX0 10
theorem nmX0 : ∀ a, a < 10 → ∀ b, b < 10 → a ≠ b → (TX0 a).2.1 ≠ (TX0 b).2.1 := by decide +kernel
theorem tyX0_ok : ∀ k, k < 10 → parseFieldDescriptor (TX0 k).2.2.1 = some (tyX0 k) := by decide +kernel
abbrev cX0_init : ByteArray := prog_2_method_1_code
def yX0_init : MethodName := ⟨RX0, "<init>", "(LBagPhrases$Lexicon;LBagPhrases$Setting;LBagPhrases$Phrases;)V"⟩
abbrev cX0_outdate : ByteArray := prog_2_method_2_code
def yX0_outdate : MethodName := ⟨RX0, "outdate", "()V"⟩
abbrev cX0_areFew : ByteArray := prog_2_method_3_code
def yX0_areFew : MethodName := ⟨RX0, "areFew", "()Z"⟩
abbrev cX0_orders : ByteArray := prog_2_method_4_code
def yX0_orders : MethodName := ⟨RX0, "orders", "()J"⟩
abbrev cX0_listComing : ByteArray := prog_2_method_5_code
def yX0_listComing : MethodName := ⟨RX0, "listComing", "()V"⟩
abbrev cX0_openSets : ByteArray := prog_2_method_6_code
def yX0_openSets : MethodName := ⟨RX0, "openSets", "()V"⟩
abbrev cX0_isOpened : ByteArray := prog_2_method_7_code
def yX0_isOpened : MethodName := ⟨RX0, "isOpened", "(I)Z"⟩
abbrev cX0_countSets : ByteArray := prog_2_method_8_code
def yX0_countSets : MethodName := ⟨RX0, "countSets", "()V"⟩
abbrev cX0_wordsOf : ByteArray := prog_2_method_9_code
def yX0_wordsOf : MethodName := ⟨RX0, "wordsOf", "(I)I"⟩
abbrev cX0_shareOf : ByteArray := prog_2_method_10_code
def yX0_shareOf : MethodName := ⟨RX0, "shareOf", "(I)J"⟩
abbrev cX0_hopeAt : ByteArray := prog_2_method_11_code
def yX0_hopeAt : MethodName := ⟨RX0, "hopeAt", "(I)J"⟩
abbrev cX0_hopeBelow : ByteArray := prog_2_method_12_code
def yX0_hopeBelow : MethodName := ⟨RX0, "hopeBelow", "()J"⟩
abbrev cX0_power : ByteArray := prog_2_method_13_code
def yX0_power : MethodName := ⟨RX0, "power", "(II)J"⟩
def RX1 : String := "BagPhrases$Counting"
def TX1 : u_T := fun k => match k with
  | _ => ("", "", "", false)
def tyX1 : Nat → FieldType := fun k => match k with
  | _ => .int
abbrev wsX10 : List Cond := u_ws RX1 TX1 0
theorem nmX1 : ∀ a, a < 0 → ∀ b, b < 0 → a ≠ b → (TX1 a).2.1 ≠ (TX1 b).2.1 := by decide +kernel
theorem tyX1_ok : ∀ k, k < 0 → parseFieldDescriptor (TX1 k).2.2.1 = some (tyX1 k) := by decide +kernel
abbrev cX1_init : ByteArray := prog_3_method_1_code
def yX1_init : MethodName := ⟨RX1, "<init>", "()V"⟩
abbrev cX1_none : ByteArray := prog_3_method_2_code
def yX1_none : MethodName := ⟨RX1, "none", "()J"⟩
abbrev cX1_ended : ByteArray := prog_3_method_3_code
def yX1_ended : MethodName := ⟨RX1, "ended", "()J"⟩
abbrev cX1_joined : ByteArray := prog_3_method_4_code
def yX1_joined : MethodName := ⟨RX1, "joined", "(JJ)J"⟩
abbrev cX1_with : ByteArray := prog_3_method_5_code
def yX1_with : MethodName := ⟨RX1, "with", "(JJI)J"⟩
def RX2 : String := "BagPhrases$Doings"
def TX2 : u_T := fun k => match k with
  | 0 => ("BagPhrases$Doings", "acts", "[I", true)
  | 1 => ("BagPhrases$Doings", "subjects", "[I", true)
  | 2 => ("BagPhrases$Doings", "details", "[I", true)
  | _ => ("BagPhrases$Doings", "size", "I", false)
def tyX2 : Nat → FieldType := fun k => match k with
  | 0 => .array .int
  | 1 => .array .int
  | 2 => .array .int
  | _ => .int
abbrev wsX20 : List Cond := u_ws RX2 TX2 4
theorem nmX2 : ∀ a, a < 4 → ∀ b, b < 4 → a ≠ b → (TX2 a).2.1 ≠ (TX2 b).2.1 := by decide +kernel
theorem tyX2_ok : ∀ k, k < 4 → parseFieldDescriptor (TX2 k).2.2.1 = some (tyX2 k) := by decide +kernel
abbrev cX2_init : ByteArray := prog_4_method_1_code
def yX2_init : MethodName := ⟨RX2, "<init>", "()V"⟩
abbrev cX2_note : ByteArray := prog_4_method_2_code
def yX2_note : MethodName := ⟨RX2, "note", "(III)V"⟩
abbrev cX2_forgetFirst : ByteArray := prog_4_method_3_code
def yX2_forgetFirst : MethodName := ⟨RX2, "forgetFirst", "()V"⟩
abbrev cX2_undoLast : ByteArray := prog_4_method_4_code
def yX2_undoLast : MethodName := ⟨RX2, "undoLast", "(LBagPhrases$Setting;)Z"⟩
def RX3 : String := "BagPhrases$Families"
def TX3 : u_T := fun k => match k with
  | _ => ("BagPhrases$Families", "setsWith", "[J", true)
def tyX3 : Nat → FieldType := fun k => match k with
  | _ => .array .long
abbrev wsX30 : List Cond := u_ws RX3 TX3 1
theorem nmX3 : ∀ a, a < 1 → ∀ b, b < 1 → a ≠ b → (TX3 a).2.1 ≠ (TX3 b).2.1 := by decide +kernel
theorem tyX3_ok : ∀ k, k < 1 → parseFieldDescriptor (TX3 k).2.2.1 = some (tyX3 k) := by decide +kernel
abbrev cX3_init : ByteArray := prog_5_method_1_code
def yX3_init : MethodName := ⟨RX3, "<init>", "()V"⟩
abbrev cX3_none : ByteArray := prog_5_method_2_code
def yX3_none : MethodName := ⟨RX3, "none", "()J"⟩
abbrev cX3_ended : ByteArray := prog_5_method_3_code
def yX3_ended : MethodName := ⟨RX3, "ended", "()J"⟩
abbrev cX3_joined : ByteArray := prog_5_method_4_code
def yX3_joined : MethodName := ⟨RX3, "joined", "(JJ)J"⟩
abbrev cX3_with : ByteArray := prog_5_method_5_code
def yX3_with : MethodName := ⟨RX3, "with", "(JJI)J"⟩
def RX4 : String := "BagPhrases$Lattice"
def TX4 : u_T := fun k => match k with
  | 0 => ("BagPhrases$Lattice", "words", "LBagPhrases$Lexicon;", true)
  | 1 => ("BagPhrases$Lattice", "now", "LBagPhrases$Setting;", true)
  | 2 => ("BagPhrases$Lattice", "packs", "[J", true)
  | 3 => ("BagPhrases$Lattice", "cameBy", "[I", true)
  | 4 => ("BagPhrases$Lattice", "fits", "[I", true)
  | 5 => ("BagPhrases$Lattice", "order", "[I", true)
  | 6 => ("BagPhrases$Lattice", "weights", "[I", true)
  | 7 => ("BagPhrases$Lattice", "steps", "[I", true)
  | 8 => ("BagPhrases$Lattice", "heads", "[J", true)
  | 9 => ("BagPhrases$Lattice", "orderSize", "I", false)
  | 10 => ("BagPhrases$Lattice", "usable", "I", false)
  | _ => ("BagPhrases$Lattice", "top", "I", false)
def tyX4 : Nat → FieldType := fun k => match k with
  | 0 => .object "BagPhrases$Lexicon"
  | 1 => .object "BagPhrases$Setting"
  | 2 => .array .long
  | 3 => .array .int
  | 4 => .array .int
  | 5 => .array .int
  | 6 => .array .int
  | 7 => .array .int
  | 8 => .array .long
  | 9 => .int
  | 10 => .int
  | _ => .int
abbrev wsX40 : List Cond := u_ws RX4 TX4 12
theorem nmX4 : ∀ a, a < 12 → ∀ b, b < 12 → a ≠ b → (TX4 a).2.1 ≠ (TX4 b).2.1 := by decide +kernel
theorem tyX4_ok : ∀ k, k < 12 → parseFieldDescriptor (TX4 k).2.2.1 = some (tyX4 k) := by decide +kernel
abbrev cX4_init : ByteArray := prog_6_method_1_code
def yX4_init : MethodName := ⟨RX4, "<init>", "(LBagPhrases$Lexicon;LBagPhrases$Setting;)V"⟩
abbrev cX4_lay : ByteArray := prog_6_method_2_code
def yX4_lay : MethodName := ⟨RX4, "lay", "()V"⟩
abbrev cX4_reachesEnd : ByteArray := prog_6_method_3_code
def yX4_reachesEnd : MethodName := ⟨RX4, "reachesEnd", "()Z"⟩
abbrev cX4_measure : ByteArray := prog_6_method_4_code
def yX4_measure : MethodName := ⟨RX4, "measure", "()V"⟩
abbrev cX4_listSteps : ByteArray := prog_6_method_5_code
def yX4_listSteps : MethodName := ⟨RX4, "listSteps", "(J)V"⟩
abbrev cX4_spread : ByteArray := prog_6_method_6_code
def yX4_spread : MethodName := ⟨RX4, "spread", "(I)V"⟩
abbrev cX4_letBehind : ByteArray := prog_6_method_7_code
def yX4_letBehind : MethodName := ⟨RX4, "letBehind", "(I)I"⟩
abbrev cX4_ground : ByteArray := prog_6_method_8_code
def yX4_ground : MethodName := ⟨RX4, "ground", "(LBagPhrases$Way;[J)V"⟩
abbrev cX4_empty : ByteArray := prog_6_method_9_code
def yX4_empty : MethodName := ⟨RX4, "empty", "(LBagPhrases$Way;[J)V"⟩
abbrev cX4_fold : ByteArray := prog_6_method_10_code
def yX4_fold : MethodName := ⟨RX4, "fold", "(LBagPhrases$Way;I[J[J)J"⟩
abbrev cX4_gather : ByteArray := prog_6_method_11_code
def yX4_gather : MethodName := ⟨RX4, "gather", "(LBagPhrases$Way;II[J)V"⟩
abbrev cX4_headsOf : ByteArray := prog_6_method_12_code
def yX4_headsOf : MethodName := ⟨RX4, "headsOf", "(LBagPhrases$Way;I)J"⟩
abbrev cX4_opens : ByteArray := prog_6_method_13_code
def yX4_opens : MethodName := ⟨RX4, "opens", "(III)Z"⟩
abbrev cX4_tailBehind : ByteArray := prog_6_method_14_code
def yX4_tailBehind : MethodName := ⟨RX4, "tailBehind", "([JII)J"⟩
def RX5 : String := "BagPhrases$Lexicon"
def TX5 : u_T := fun k => match k with
  | 0 => ("BagPhrases$Lexicon", "kinds", "[I", true)
  | 1 => ("BagPhrases$Lexicon", "sizes", "[I", true)
  | 2 => ("BagPhrases$Lexicon", "packs", "[J", true)
  | 3 => ("BagPhrases$Lexicon", "spellings", "[I", true)
  | _ => ("BagPhrases$Lexicon", "count", "I", false)
def tyX5 : Nat → FieldType := fun k => match k with
  | 0 => .array .int
  | 1 => .array .int
  | 2 => .array .long
  | 3 => .array .int
  | _ => .int
abbrev wsX50 : List Cond := u_ws RX5 TX5 5
theorem nmX5 : ∀ a, a < 5 → ∀ b, b < 5 → a ≠ b → (TX5 a).2.1 ≠ (TX5 b).2.1 := by decide +kernel
theorem tyX5_ok : ∀ k, k < 5 → parseFieldDescriptor (TX5 k).2.2.1 = some (tyX5 k) := by decide +kernel
abbrev cX5_init : ByteArray := prog_7_method_1_code
def yX5_init : MethodName := ⟨RX5, "<init>", "()V"⟩
abbrev cX5_copy : ByteArray := prog_7_method_2_code
def yX5_copy : MethodName := ⟨RX5, "copy", "(LBagPhrases$Lexicon;)V"⟩
abbrev cX5_has : ByteArray := prog_7_method_3_code
def yX5_has : MethodName := ⟨RX5, "has", "(I)Z"⟩
abbrev cX5_open : ByteArray := prog_7_method_4_code
def yX5_open : MethodName := ⟨RX5, "open", "()Z"⟩
abbrev cX5_spell : ByteArray := prog_7_method_5_code
def yX5_spell : MethodName := ⟨RX5, "spell", "(I)Z"⟩
abbrev cX5_close : ByteArray := prog_7_method_6_code
def yX5_close : MethodName := ⟨RX5, "close", "(I)Z"⟩
abbrev cX5_spelt : ByteArray := prog_7_method_7_code
def yX5_spelt : MethodName := ⟨RX5, "spelt", "(II)I"⟩
abbrev cX5_amount : ByteArray := prog_7_method_8_code
def yX5_amount : MethodName := ⟨RX5, "amount", "(II)I"⟩
abbrev cX5_wordsWith : ByteArray := prog_7_method_9_code
def yX5_wordsWith : MethodName := ⟨RX5, "wordsWith", "(I)I"⟩
abbrev cX5_rarest : ByteArray := prog_7_method_10_code
def yX5_rarest : MethodName := ⟨RX5, "rarest", "(I)I"⟩
abbrev cX5_twins : ByteArray := prog_7_method_11_code
def yX5_twins : MethodName := ⟨RX5, "twins", "(I)I"⟩
abbrev cX5_letterBits : ByteArray := prog_7_method_12_code
def yX5_letterBits : MethodName := ⟨RX5, "letterBits", "(I)I"⟩
def RX6 : String := "BagPhrases$Phrases"
def TX6 : u_T := fun k => match k with
  | 0 => ("BagPhrases$Phrases", "words", "LBagPhrases$Lexicon;", true)
  | 1 => ("BagPhrases$Phrases", "now", "LBagPhrases$Setting;", true)
  | 2 => ("BagPhrases$Phrases", "lattice", "LBagPhrases$Lattice;", true)
  | 3 => ("BagPhrases$Phrases", "counting", "LBagPhrases$Counting;", true)
  | 4 => ("BagPhrases$Phrases", "worths", "LBagPhrases$Worths;", true)
  | 5 => ("BagPhrases$Phrases", "tails", "[J", true)
  | 6 => ("BagPhrases$Phrases", "byWords", "[J", true)
  | 7 => ("BagPhrases$Phrases", "found", "[I", true)
  | 8 => ("BagPhrases$Phrases", "spare", "[J", false)
  | 9 => ("BagPhrases$Phrases", "other", "[J", false)
  | 10 => ("BagPhrases$Phrases", "foundSize", "I", false)
  | 11 => ("BagPhrases$Phrases", "total", "J", false)
  | 12 => ("BagPhrases$Phrases", "fresh", "Z", false)
  | _ => ("BagPhrases$Phrases", "lengthsKnown", "Z", false)
def tyX6 : Nat → FieldType := fun k => match k with
  | 0 => .object "BagPhrases$Lexicon"
  | 1 => .object "BagPhrases$Setting"
  | 2 => .object "BagPhrases$Lattice"
  | 3 => .object "BagPhrases$Counting"
  | 4 => .object "BagPhrases$Worths"
  | 5 => .array .long
  | 6 => .array .long
  | 7 => .array .int
  | 8 => .array .long
  | 9 => .array .long
  | 10 => .int
  | 11 => .long
  | 12 => .boolean
  | _ => .boolean
abbrev wsX60 : List Cond := u_ws RX6 TX6 14
theorem nmX6 : ∀ a, a < 14 → ∀ b, b < 14 → a ≠ b → (TX6 a).2.1 ≠ (TX6 b).2.1 := by decide +kernel
theorem tyX6_ok : ∀ k, k < 14 → parseFieldDescriptor (TX6 k).2.2.1 = some (tyX6 k) := by decide +kernel
abbrev cX6_init : ByteArray := prog_8_method_1_code
def yX6_init : MethodName := ⟨RX6, "<init>", "(LBagPhrases$Lexicon;LBagPhrases$Setting;)V"⟩
abbrev cX6_refresh : ByteArray := prog_8_method_2_code
def yX6_refresh : MethodName := ⟨RX6, "refresh", "()V"⟩
abbrev cX6_exist : ByteArray := prog_8_method_3_code
def yX6_exist : MethodName := ⟨RX6, "exist", "()Z"⟩
abbrev cX6_count : ByteArray := prog_8_method_4_code
def yX6_count : MethodName := ⟨RX6, "count", "()J"⟩
abbrev cX6_countWithin : ByteArray := prog_8_method_5_code
def yX6_countWithin : MethodName := ⟨RX6, "countWithin", "(I)J"⟩
abbrev cX6_foldWithin : ByteArray := prog_8_method_6_code
def yX6_foldWithin : MethodName := ⟨RX6, "foldWithin", "(LBagPhrases$Way;I)J"⟩
abbrev cX6_countOf : ByteArray := prog_8_method_7_code
def yX6_countOf : MethodName := ⟨RX6, "countOf", "(I)J"⟩
abbrev cX6_countLengths : ByteArray := prog_8_method_8_code
def yX6_countLengths : MethodName := ⟨RX6, "countLengths", "()V"⟩
abbrev cX6_endNowhere : ByteArray := prog_8_method_9_code
def yX6_endNowhere : MethodName := ⟨RX6, "endNowhere", "([J)V"⟩
abbrev cX6_fewestWords : ByteArray := prog_8_method_10_code
def yX6_fewestWords : MethodName := ⟨RX6, "fewestWords", "()I"⟩
abbrev cX6_mostWords : ByteArray := prog_8_method_11_code
def yX6_mostWords : MethodName := ⟨RX6, "mostWords", "()I"⟩
abbrev cX6_wordsInPhrases : ByteArray := prog_8_method_12_code
def yX6_wordsInPhrases : MethodName := ⟨RX6, "wordsInPhrases", "()I"⟩
abbrev cX6_waysBy : ByteArray := prog_8_method_13_code
def yX6_waysBy : MethodName := ⟨RX6, "waysBy", "(III)J"⟩
abbrev cX6_findNumbered : ByteArray := prog_8_method_14_code
def yX6_findNumbered : MethodName := ⟨RX6, "findNumbered", "(J)V"⟩
abbrev cX6_findBest : ByteArray := prog_8_method_15_code
def yX6_findBest : MethodName := ⟨RX6, "findBest", "()Z"⟩
abbrev cX6_firstReaching : ByteArray := prog_8_method_16_code
def yX6_firstReaching : MethodName := ⟨RX6, "firstReaching", "(JII)I"⟩
abbrev cX6_reaches : ByteArray := prog_8_method_17_code
def yX6_reaches : MethodName := ⟨RX6, "reaches", "(JIII)Z"⟩
abbrev cX6_cameToBy : ByteArray := prog_8_method_18_code
def yX6_cameToBy : MethodName := ⟨RX6, "cameToBy", "(II)I"⟩
abbrev cX6_foundWord : ByteArray := prog_8_method_19_code
def yX6_foundWord : MethodName := ⟨RX6, "foundWord", "(I)I"⟩
abbrev cX6_foundHas : ByteArray := prog_8_method_20_code
def yX6_foundHas : MethodName := ⟨RX6, "foundHas", "(I)Z"⟩
abbrev cX6_foundWorth : ByteArray := prog_8_method_21_code
def yX6_foundWorth : MethodName := ⟨RX6, "foundWorth", "()I"⟩
abbrev cX6_numberOf : ByteArray := prog_8_method_22_code
def yX6_numberOf : MethodName := ⟨RX6, "numberOf", "([II)J"⟩
def RX7 : String := "BagPhrases$Reader"
def TX7 : u_T := fun k => match k with
  | 0 => ("BagPhrases$Reader", "signs", "[I", true)
  | 1 => ("BagPhrases$Reader", "words", "LBagPhrases$Lexicon;", true)
  | 2 => ("BagPhrases$Reader", "setting", "LBagPhrases$Setting;", true)
  | 3 => ("BagPhrases$Reader", "size", "I", false)
  | 4 => ("BagPhrases$Reader", "awaited", "I", false)
  | _ => ("BagPhrases$Reader", "leader", "I", false)
def tyX7 : Nat → FieldType := fun k => match k with
  | 0 => .array .int
  | 1 => .object "BagPhrases$Lexicon"
  | 2 => .object "BagPhrases$Setting"
  | 3 => .int
  | 4 => .int
  | _ => .int
abbrev wsX70 : List Cond := u_ws RX7 TX7 6
theorem nmX7 : ∀ a, a < 6 → ∀ b, b < 6 → a ≠ b → (TX7 a).2.1 ≠ (TX7 b).2.1 := by decide +kernel
theorem tyX7_ok : ∀ k, k < 6 → parseFieldDescriptor (TX7 k).2.2.1 = some (tyX7 k) := by decide +kernel
abbrev cX7_init : ByteArray := prog_9_method_1_code
def yX7_init : MethodName := ⟨RX7, "<init>", "()V"⟩
abbrev cX7_append : ByteArray := prog_9_method_2_code
def yX7_append : MethodName := ⟨RX7, "append", "(I)Z"⟩
abbrev cX7_firstFault : ByteArray := prog_9_method_3_code
def yX7_firstFault : MethodName := ⟨RX7, "firstFault", "()I"⟩
abbrev cX7_reads : ByteArray := prog_9_method_4_code
def yX7_reads : MethodName := ⟨RX7, "reads", "(I)Z"⟩
abbrev cX7_readsHead : ByteArray := prog_9_method_5_code
def yX7_readsHead : MethodName := ⟨RX7, "readsHead", "(I)Z"⟩
abbrev cX7_readsSpelling : ByteArray := prog_9_method_6_code
def yX7_readsSpelling : MethodName := ⟨RX7, "readsSpelling", "(I)Z"⟩
abbrev cX7_readsRank : ByteArray := prog_9_method_7_code
def yX7_readsRank : MethodName := ⟨RX7, "readsRank", "(I)Z"⟩
abbrev cX7_readsLeader : ByteArray := prog_9_method_8_code
def yX7_readsLeader : MethodName := ⟨RX7, "readsLeader", "(I)Z"⟩
abbrev cX7_isFreeKind : ByteArray := prog_9_method_9_code
def yX7_isFreeKind : MethodName := ⟨RX7, "isFreeKind", "(II)Z"⟩
abbrev cX7_turned : ByteArray := prog_9_method_10_code
def yX7_turned : MethodName := ⟨RX7, "turned", "(III)Z"⟩
abbrev cX7_awaits : ByteArray := prog_9_method_11_code
def yX7_awaits : MethodName := ⟨RX7, "awaits", "(I)Z"⟩
def RX8 : String := "BagPhrases$Setting"
def TX8 : u_T := fun k => match k with
  | 0 => ("BagPhrases$Setting", "bag", "[I", true)
  | 1 => ("BagPhrases$Setting", "ranks", "[I", true)
  | 2 => ("BagPhrases$Setting", "follow", "[I", true)
  | 3 => ("BagPhrases$Setting", "begin", "I", false)
  | 4 => ("BagPhrases$Setting", "end", "I", false)
  | _ => ("BagPhrases$Setting", "barred", "I", false)
def tyX8 : Nat → FieldType := fun k => match k with
  | 0 => .array .int
  | 1 => .array .int
  | 2 => .array .int
  | 3 => .int
  | 4 => .int
  | _ => .int
abbrev wsX80 : List Cond := u_ws RX8 TX8 6
theorem nmX8 : ∀ a, a < 6 → ∀ b, b < 6 → a ≠ b → (TX8 a).2.1 ≠ (TX8 b).2.1 := by decide +kernel
theorem tyX8_ok : ∀ k, k < 6 → parseFieldDescriptor (TX8 k).2.2.1 = some (tyX8 k) := by decide +kernel
abbrev cX8_init : ByteArray := prog_10_method_1_code
def yX8_init : MethodName := ⟨RX8, "<init>", "()V"⟩
abbrev cX8_copy : ByteArray := prog_10_method_2_code
def yX8_copy : MethodName := ⟨RX8, "copy", "(LBagPhrases$Setting;)V"⟩
abbrev cX8_change : ByteArray := prog_10_method_3_code
def yX8_change : MethodName := ⟨RX8, "change", "(III)V"⟩
abbrev cX8_blank : ByteArray := prog_10_method_4_code
def yX8_blank : MethodName := ⟨RX8, "blank", "()V"⟩
abbrev cX8_letters : ByteArray := prog_10_method_5_code
def yX8_letters : MethodName := ⟨RX8, "letters", "()I"⟩
abbrev cX8_unlike : ByteArray := prog_10_method_6_code
def yX8_unlike : MethodName := ⟨RX8, "unlike", "()I"⟩
abbrev cX8_packed : ByteArray := prog_10_method_7_code
def yX8_packed : MethodName := ⟨RX8, "packed", "()J"⟩
abbrev cX8_allFollow : ByteArray := prog_10_method_8_code
def yX8_allFollow : MethodName := ⟨RX8, "allFollow", "()Z"⟩
def RX9 : String := "BagPhrases$Way"
def TX9 : u_T := fun k => match k with
  | _ => ("", "", "", false)
def tyX9 : Nat → FieldType := fun k => match k with
  | _ => .int
abbrev wsX90 : List Cond := u_ws RX9 TX9 0
theorem nmX9 : ∀ a, a < 0 → ∀ b, b < 0 → a ≠ b → (TX9 a).2.1 ≠ (TX9 b).2.1 := by decide +kernel
theorem tyX9_ok : ∀ k, k < 0 → parseFieldDescriptor (TX9 k).2.2.1 = some (tyX9 k) := by decide +kernel
abbrev cX9_init : ByteArray := prog_11_method_1_code
def yX9_init : MethodName := ⟨RX9, "<init>", "()V"⟩
def RX10 : String := "BagPhrases$Worths"
def TX10 : u_T := fun k => match k with
  | _ => ("BagPhrases$Worths", "ranks", "[I", true)
def tyX10 : Nat → FieldType := fun k => match k with
  | _ => .array .int
abbrev wsX100 : List Cond := u_ws RX10 TX10 1
theorem nmX10 : ∀ a, a < 1 → ∀ b, b < 1 → a ≠ b → (TX10 a).2.1 ≠ (TX10 b).2.1 := by decide +kernel
theorem tyX10_ok : ∀ k, k < 1 → parseFieldDescriptor (TX10 k).2.2.1 = some (tyX10 k) := by decide +kernel
abbrev cX10_init : ByteArray := prog_12_method_1_code
def yX10_init : MethodName := ⟨RX10, "<init>", "([I)V"⟩
abbrev cX10_none : ByteArray := prog_12_method_2_code
def yX10_none : MethodName := ⟨RX10, "none", "()J"⟩
abbrev cX10_ended : ByteArray := prog_12_method_3_code
def yX10_ended : MethodName := ⟨RX10, "ended", "()J"⟩
abbrev cX10_joined : ByteArray := prog_12_method_4_code
def yX10_joined : MethodName := ⟨RX10, "joined", "(JJ)J"⟩
abbrev cX10_with : ByteArray := prog_12_method_5_code
def yX10_with : MethodName := ⟨RX10, "with", "(JJI)J"⟩
def RX11 : String := "BagPhrases"
def TX11 : u_T := fun k => match k with
  | 0 => ("BagPhrases", "text", "LBagPhrases$Reader;", true)
  | 1 => ("BagPhrases", "words", "LBagPhrases$Lexicon;", true)
  | 2 => ("BagPhrases", "now", "LBagPhrases$Setting;", true)
  | 3 => ("BagPhrases", "spare", "LBagPhrases$Setting;", true)
  | 4 => ("BagPhrases", "slots", "[LBagPhrases$Setting;", true)
  | 5 => ("BagPhrases", "kept", "[Z", true)
  | 6 => ("BagPhrases", "doings", "LBagPhrases$Doings;", true)
  | 7 => ("BagPhrases", "phrases", "LBagPhrases$Phrases;", true)
  | 8 => ("BagPhrases", "chances", "LBagPhrases$Chances;", true)
  | 9 => ("BagPhrases", "rowWords", "[I", true)
  | 10 => ("BagPhrases", "judged", "[I", true)
  | 11 => ("BagPhrases", "reason", "[I", true)
  | 12 => ("BagPhrases", "remains", "[I", true)
  | 13 => ("BagPhrases", "seen", "[I", true)
  | 14 => ("BagPhrases", "rowSize", "I", false)
  | 15 => ("BagPhrases", "seenSize", "I", false)
  | _ => ("BagPhrases", "theSeed", "J", false)
def tyX11 : Nat → FieldType := fun k => match k with
  | 0 => .object "BagPhrases$Reader"
  | 1 => .object "BagPhrases$Lexicon"
  | 2 => .object "BagPhrases$Setting"
  | 3 => .object "BagPhrases$Setting"
  | 4 => .array (.object "BagPhrases$Setting")
  | 5 => .array .boolean
  | 6 => .object "BagPhrases$Doings"
  | 7 => .object "BagPhrases$Phrases"
  | 8 => .object "BagPhrases$Chances"
  | 9 => .array .int
  | 10 => .array .int
  | 11 => .array .int
  | 12 => .array .int
  | 13 => .array .int
  | 14 => .int
  | 15 => .int
  | _ => .long
abbrev wsX110 : List Cond := u_ws RX11 TX11 17
theorem nmX11 : ∀ a, a < 17 → ∀ b, b < 17 → a ≠ b → (TX11 a).2.1 ≠ (TX11 b).2.1 := by decide +kernel
theorem tyX11_ok : ∀ k, k < 17 → parseFieldDescriptor (TX11 k).2.2.1 = some (tyX11 k) := by decide +kernel
abbrev cX11_init : ByteArray := prog_1_method_1_code
def yX11_init : MethodName := ⟨RX11, "<init>", "()V"⟩
abbrev cX11_write : ByteArray := prog_1_method_2_code
def yX11_write : MethodName := ⟨RX11, "write", "(I)I"⟩
abbrev cX11_wipe : ByteArray := prog_1_method_3_code
def yX11_wipe : MethodName := ⟨RX11, "wipe", "()I"⟩
abbrev cX11_fault : ByteArray := prog_1_method_4_code
def yX11_fault : MethodName := ⟨RX11, "fault", "()I"⟩
abbrev cX11_house : ByteArray := prog_1_method_5_code
def yX11_house : MethodName := ⟨RX11, "house", "()I"⟩
abbrev cX11_about : ByteArray := prog_1_method_6_code
def yX11_about : MethodName := ⟨RX11, "about", "(I)I"⟩
abbrev cX11_word : ByteArray := prog_1_method_7_code
def yX11_word : MethodName := ⟨RX11, "word", "(II)I"⟩
abbrev cX11_letter : ByteArray := prog_1_method_8_code
def yX11_letter : MethodName := ⟨RX11, "letter", "(II)I"⟩
abbrev cX11_put : ByteArray := prog_1_method_9_code
def yX11_put : MethodName := ⟨RX11, "put", "(I)I"⟩
abbrev cX11_take : ByteArray := prog_1_method_10_code
def yX11_take : MethodName := ⟨RX11, "take", "(I)I"⟩
abbrev cX11_bar : ByteArray := prog_1_method_11_code
def yX11_bar : MethodName := ⟨RX11, "bar", "(I)I"⟩
abbrev cX11_rank : ByteArray := prog_1_method_12_code
def yX11_rank : MethodName := ⟨RX11, "rank", "(II)I"⟩
abbrev cX11_allow : ByteArray := prog_1_method_13_code
def yX11_allow : MethodName := ⟨RX11, "allow", "(III)I"⟩
abbrev cX11_undo : ByteArray := prog_1_method_14_code
def yX11_undo : MethodName := ⟨RX11, "undo", "()I"⟩
abbrev cX11_many : ByteArray := prog_1_method_15_code
def yX11_many : MethodName := ⟨RX11, "many", "(I)J"⟩
abbrev cX11_having : ByteArray := prog_1_method_16_code
def yX11_having : MethodName := ⟨RX11, "having", "(I)J"⟩
abbrev cX11_best : ByteArray := prog_1_method_17_code
def yX11_best : MethodName := ⟨RX11, "best", "(I)I"⟩
abbrev cX11_phrase : ByteArray := prog_1_method_18_code
def yX11_phrase : MethodName := ⟨RX11, "phrase", "(JI)I"⟩
abbrev cX11_tell : ByteArray := prog_1_method_19_code
def yX11_tell : MethodName := ⟨RX11, "tell", "(I)I"⟩
abbrev cX11_clear : ByteArray := prog_1_method_20_code
def yX11_clear : MethodName := ⟨RX11, "clear", "()I"⟩
abbrev cX11_why : ByteArray := prog_1_method_21_code
def yX11_why : MethodName := ⟨RX11, "why", "(I)I"⟩
abbrev cX11_number : ByteArray := prog_1_method_22_code
def yX11_number : MethodName := ⟨RX11, "number", "()J"⟩
abbrev cX11_nearly : ByteArray := prog_1_method_23_code
def yX11_nearly : MethodName := ⟨RX11, "nearly", "(I)I"⟩
abbrev cX11_judge : ByteArray := prog_1_method_24_code
def yX11_judge : MethodName := ⟨RX11, "judge", "(IJ)I"⟩
abbrev cX11_see : ByteArray := prog_1_method_25_code
def yX11_see : MethodName := ⟨RX11, "see", "(III)I"⟩
abbrev cX11_unsee : ByteArray := prog_1_method_26_code
def yX11_unsee : MethodName := ⟨RX11, "unsee", "()I"⟩
abbrev cX11_left : ByteArray := prog_1_method_27_code
def yX11_left : MethodName := ⟨RX11, "left", "(I)I"⟩
abbrev cX11_share : ByteArray := prog_1_method_28_code
def yX11_share : MethodName := ⟨RX11, "share", "(IZ)J"⟩
abbrev cX11_hope : ByteArray := prog_1_method_29_code
def yX11_hope : MethodName := ⟨RX11, "hope", "(IZ)I"⟩
abbrev cX11_seed : ByteArray := prog_1_method_30_code
def yX11_seed : MethodName := ⟨RX11, "seed", "(J)J"⟩
abbrev cX11_drawn : ByteArray := prog_1_method_31_code
def yX11_drawn : MethodName := ⟨RX11, "drawn", "(I)I"⟩
abbrev cX11_keep : ByteArray := prog_1_method_32_code
def yX11_keep : MethodName := ⟨RX11, "keep", "(I)I"⟩
abbrev cX11_again : ByteArray := prog_1_method_33_code
def yX11_again : MethodName := ⟨RX11, "again", "(I)I"⟩
abbrev cX11_isLetter : ByteArray := prog_1_method_34_code
def yX11_isLetter : MethodName := ⟨RX11, "isLetter", "(I)Z"⟩
abbrev cX11_isKind : ByteArray := prog_1_method_35_code
def yX11_isKind : MethodName := ⟨RX11, "isKind", "(I)Z"⟩
abbrev cX11_perform : ByteArray := prog_1_method_36_code
def yX11_perform : MethodName := ⟨RX11, "perform", "(III)V"⟩
abbrev cX11_outdate : ByteArray := prog_1_method_37_code
def yX11_outdate : MethodName := ⟨RX11, "outdate", "()V"⟩
abbrev cX11_fitting : ByteArray := prog_1_method_38_code
def yX11_fitting : MethodName := ⟨RX11, "fitting", "()I"⟩
abbrev cX11_holds : ByteArray := prog_1_method_39_code
def yX11_holds : MethodName := ⟨RX11, "holds", "(JJ)Z"⟩
abbrev cX11_makings : ByteArray := prog_1_method_40_code
def yX11_makings : MethodName := ⟨RX11, "makings", "(I)I"⟩
abbrev cX11_explain : ByteArray := prog_1_method_41_code
def yX11_explain : MethodName := ⟨RX11, "explain", "(IIII)V"⟩
abbrev cX11_examineRow : ByteArray := prog_1_method_42_code
def yX11_examineRow : MethodName := ⟨RX11, "examineRow", "()V"⟩
abbrev cX11_passesAt : ByteArray := prog_1_method_43_code
def yX11_passesAt : MethodName := ⟨RX11, "passesAt", "(II)Z"⟩
abbrev cX11_examineEnd : ByteArray := prog_1_method_44_code
def yX11_examineEnd : MethodName := ⟨RX11, "examineEnd", "()V"⟩
abbrev cX11_lettersMending : ByteArray := prog_1_method_45_code
def yX11_lettersMending : MethodName := ⟨RX11, "lettersMending", "(II)I"⟩
abbrev cX11_comesTrue : ByteArray := prog_1_method_46_code
def yX11_comesTrue : MethodName := ⟨RX11, "comesTrue", "(I)Z"⟩
abbrev cX11_performed : ByteArray := prog_1_method_47_code
def yX11_performed : MethodName := ⟨RX11, "performed", "(III)Z"⟩
abbrev cX11_foundAgrees : ByteArray := prog_1_method_48_code
def yX11_foundAgrees : MethodName := ⟨RX11, "foundAgrees", "()Z"⟩
abbrev cX11_isSo : ByteArray := prog_1_method_49_code
def yX11_isSo : MethodName := ⟨RX11, "isSo", "(II)Z"⟩
abbrev cX11_leastTerms : ByteArray := prog_1_method_50_code
def yX11_leastTerms : MethodName := ⟨RX11, "leastTerms", "(JJZ)J"⟩
def RX12 : String := "BagPhrasesModel"
def TX12 : u_T := fun k => match k with
  | 0 => ("BagPhrasesModel", "text", "[I", true)
  | 1 => ("BagPhrasesModel", "length", "I", false)
  | 2 => ("BagPhrasesModel", "words", "I", false)
  | 3 => ("BagPhrasesModel", "spelt", "[I", true)
  | 4 => ("BagPhrasesModel", "size", "[I", true)
  | 5 => ("BagPhrasesModel", "kind", "[I", true)
  | 6 => ("BagPhrasesModel", "need", "[I", true)
  | 7 => ("BagPhrasesModel", "now", "[I", true)
  | 8 => ("BagPhrasesModel", "trial", "[I", true)
  | 9 => ("BagPhrasesModel", "diary", "[I", true)
  | 10 => ("BagPhrasesModel", "doings", "I", false)
  | 11 => ("BagPhrasesModel", "next", "I", false)
  | 12 => ("BagPhrasesModel", "kept", "[I", true)
  | 13 => ("BagPhrasesModel", "isKept", "[Z", true)
  | 14 => ("BagPhrasesModel", "told", "[I", true)
  | 15 => ("BagPhrasesModel", "tellings", "I", false)
  | 16 => ("BagPhrasesModel", "seenWhat", "[I", true)
  | 17 => ("BagPhrasesModel", "seenOf", "[I", true)
  | 18 => ("BagPhrasesModel", "seenWas", "[I", true)
  | 19 => ("BagPhrasesModel", "seen", "I", false)
  | 20 => ("BagPhrasesModel", "seed", "J", false)
  | 21 => ("BagPhrasesModel", "readWords", "I", false)
  | 22 => ("BagPhrasesModel", "readSpelt", "[I", true)
  | 23 => ("BagPhrasesModel", "readSize", "[I", true)
  | 24 => ("BagPhrasesModel", "readKind", "[I", true)
  | 25 => ("BagPhrasesModel", "readRow", "[I", true)
  | 26 => ("BagPhrasesModel", "part", "I", false)
  | 27 => ("BagPhrasesModel", "place", "I", false)
  | 28 => ("BagPhrasesModel", "readFirst", "I", false)
  | 29 => ("BagPhrasesModel", "open", "[I", true)
  | 30 => ("BagPhrasesModel", "base", "[I", true)
  | 31 => ("BagPhrasesModel", "whole", "I", false)
  | 32 => ("BagPhrasesModel", "allowed", "I", false)
  | 33 => ("BagPhrasesModel", "price", "[I", true)
  | 34 => ("BagPhrasesModel", "ways", "[J", true)
  | 35 => ("BagPhrasesModel", "layer", "[J", true)
  | 36 => ("BagPhrasesModel", "later", "[J", true)
  | 37 => ("BagPhrasesModel", "best", "[I", true)
  | 38 => ("BagPhrasesModel", "fits", "[Z", true)
  | 39 => ("BagPhrasesModel", "found", "[I", true)
  | 40 => ("BagPhrasesModel", "left", "[I", true)
  | 41 => ("BagPhrasesModel", "whyAt", "I", false)
  | 42 => ("BagPhrasesModel", "whyLetter", "I", false)
  | 43 => ("BagPhrasesModel", "whyMany", "I", false)
  | _ => ("BagPhrasesModel", "worth", "[J", true)
def tyX12 : Nat → FieldType := fun k => match k with
  | 0 => .array .int
  | 1 => .int
  | 2 => .int
  | 3 => .array .int
  | 4 => .array .int
  | 5 => .array .int
  | 6 => .array .int
  | 7 => .array .int
  | 8 => .array .int
  | 9 => .array .int
  | 10 => .int
  | 11 => .int
  | 12 => .array .int
  | 13 => .array .boolean
  | 14 => .array .int
  | 15 => .int
  | 16 => .array .int
  | 17 => .array .int
  | 18 => .array .int
  | 19 => .int
  | 20 => .long
  | 21 => .int
  | 22 => .array .int
  | 23 => .array .int
  | 24 => .array .int
  | 25 => .array .int
  | 26 => .int
  | 27 => .int
  | 28 => .int
  | 29 => .array .int
  | 30 => .array .int
  | 31 => .int
  | 32 => .int
  | 33 => .array .int
  | 34 => .array .long
  | 35 => .array .long
  | 36 => .array .long
  | 37 => .array .int
  | 38 => .array .boolean
  | 39 => .array .int
  | 40 => .array .int
  | 41 => .int
  | 42 => .int
  | 43 => .int
  | _ => .array .long
abbrev wsX120 : List Cond := u_ws RX12 TX12 45
theorem nmX12 : ∀ a, a < 45 → ∀ b, b < 45 → a ≠ b → (TX12 a).2.1 ≠ (TX12 b).2.1 := by decide +kernel
theorem tyX12_ok : ∀ k, k < 45 → parseFieldDescriptor (TX12 k).2.2.1 = some (tyX12 k) := by decide +kernel
abbrev cX12_init : ByteArray := prog_14_method_1_code
def yX12_init : MethodName := ⟨RX12, "<init>", "()V"⟩
abbrev cX12_empty : ByteArray := prog_14_method_3_code
def yX12_empty : MethodName := ⟨RX12, "empty", "([I)V"⟩
abbrev cX12_copy : ByteArray := prog_14_method_4_code
def yX12_copy : MethodName := ⟨RX12, "copy", "([I[I)V"⟩
abbrev cX12_in : ByteArray := prog_14_method_5_code
def yX12_in : MethodName := ⟨RX12, "in", "(JJJ)Z"⟩
abbrev cX12_has : ByteArray := prog_14_method_6_code
def yX12_has : MethodName := ⟨RX12, "has", "(II)Z"⟩
abbrev cX12_ones : ByteArray := prog_14_method_7_code
def yX12_ones : MethodName := ⟨RX12, "ones", "(I)I"⟩
abbrev cX12_power : ByteArray := prog_14_method_8_code
def yX12_power : MethodName := ⟨RX12, "power", "(II)I"⟩
abbrev cX12_factorial : ByteArray := prog_14_method_9_code
def yX12_factorial : MethodName := ⟨RX12, "factorial", "(I)I"⟩
abbrev cX12_fraction : ByteArray := prog_14_method_10_code
def yX12_fraction : MethodName := ⟨RX12, "fraction", "(JJZ)J"⟩
abbrev cX12_isWord : ByteArray := prog_14_method_11_code
def yX12_isWord : MethodName := ⟨RX12, "isWord", "(I)Z"⟩
abbrev cX12_isLetter : ByteArray := prog_14_method_12_code
def yX12_isLetter : MethodName := ⟨RX12, "isLetter", "(I)Z"⟩
abbrev cX12_isKind : ByteArray := prog_14_method_13_code
def yX12_isKind : MethodName := ⟨RX12, "isKind", "(I)Z"⟩
abbrev cX12_bagOf : ByteArray := prog_14_method_14_code
def yX12_bagOf : MethodName := ⟨RX12, "bagOf", "([I)I"⟩
abbrev cX12_write : ByteArray := prog_14_method_15_code
def yX12_write : MethodName := ⟨RX12, "write", "(I)I"⟩
abbrev cX12_wipe : ByteArray := prog_14_method_16_code
def yX12_wipe : MethodName := ⟨RX12, "wipe", "()I"⟩
abbrev cX12_takeSign : ByteArray := prog_14_method_17_code
def yX12_takeSign : MethodName := ⟨RX12, "takeSign", "(I)Z"⟩
abbrev cX12_takeOfWord : ByteArray := prog_14_method_18_code
def yX12_takeOfWord : MethodName := ⟨RX12, "takeOfWord", "(I)Z"⟩
abbrev cX12_takeKind : ByteArray := prog_14_method_19_code
def yX12_takeKind : MethodName := ⟨RX12, "takeKind", "(II)Z"⟩
abbrev cX12_takeOfPair : ByteArray := prog_14_method_20_code
def yX12_takeOfPair : MethodName := ⟨RX12, "takeOfPair", "(I)Z"⟩
abbrev cX12_takeOfBag : ByteArray := prog_14_method_21_code
def yX12_takeOfBag : MethodName := ⟨RX12, "takeOfBag", "(I)Z"⟩
abbrev cX12_takeIn : ByteArray := prog_14_method_22_code
def yX12_takeIn : MethodName := ⟨RX12, "takeIn", "(I)Z"⟩
abbrev cX12_readText : ByteArray := prog_14_method_23_code
def yX12_readText : MethodName := ⟨RX12, "readText", "()I"⟩
abbrev cX12_fault : ByteArray := prog_14_method_24_code
def yX12_fault : MethodName := ⟨RX12, "fault", "()I"⟩
abbrev cX12_house : ByteArray := prog_14_method_25_code
def yX12_house : MethodName := ⟨RX12, "house", "()I"⟩
abbrev cX12_look : ByteArray := prog_14_method_26_code
def yX12_look : MethodName := ⟨RX12, "look", "([I)V"⟩
abbrev cX12_mayCome : ByteArray := prog_14_method_27_code
def yX12_mayCome : MethodName := ⟨RX12, "mayCome", "(III)Z"⟩
abbrev cX12_endsAs : ByteArray := prog_14_method_28_code
def yX12_endsAs : MethodName := ⟨RX12, "endsAs", "([JII)J"⟩
abbrev cX12_layWays : ByteArray := prog_14_method_29_code
def yX12_layWays : MethodName := ⟨RX12, "layWays", "()V"⟩
abbrev cX12_all : ByteArray := prog_14_method_30_code
def yX12_all : MethodName := ⟨RX12, "all", "()J"⟩
abbrev cX12_manyOf : ByteArray := prog_14_method_31_code
def yX12_manyOf : MethodName := ⟨RX12, "manyOf", "([I)J"⟩
abbrev cX12_manyBy : ByteArray := prog_14_method_32_code
def yX12_manyBy : MethodName := ⟨RX12, "manyBy", "(I)J"⟩
abbrev cX12_few : ByteArray := prog_14_method_33_code
def yX12_few : MethodName := ⟨RX12, "few", "(Z)I"⟩
abbrev cX12_inPhrases : ByteArray := prog_14_method_34_code
def yX12_inPhrases : MethodName := ⟨RX12, "inPhrases", "()I"⟩
abbrev cX12_makeable : ByteArray := prog_14_method_35_code
def yX12_makeable : MethodName := ⟨RX12, "makeable", "()I"⟩
abbrev cX12_unlike : ByteArray := prog_14_method_36_code
def yX12_unlike : MethodName := ⟨RX12, "unlike", "()I"⟩
abbrev cX12_about : ByteArray := prog_14_method_37_code
def yX12_about : MethodName := ⟨RX12, "about", "(I)I"⟩
abbrev cX12_havers : ByteArray := prog_14_method_38_code
def yX12_havers : MethodName := ⟨RX12, "havers", "(I)I"⟩
abbrev cX12_rarest : ByteArray := prog_14_method_39_code
def yX12_rarest : MethodName := ⟨RX12, "rarest", "(I)I"⟩
abbrev cX12_twins : ByteArray := prog_14_method_40_code
def yX12_twins : MethodName := ⟨RX12, "twins", "(I)I"⟩
abbrev cX12_madeOf : ByteArray := prog_14_method_41_code
def yX12_madeOf : MethodName := ⟨RX12, "madeOf", "(I)I"⟩
abbrev cX12_lettersOf : ByteArray := prog_14_method_42_code
def yX12_lettersOf : MethodName := ⟨RX12, "lettersOf", "(I)I"⟩
abbrev cX12_word : ByteArray := prog_14_method_43_code
def yX12_word : MethodName := ⟨RX12, "word", "(II)I"⟩
abbrev cX12_letter : ByteArray := prog_14_method_44_code
def yX12_letter : MethodName := ⟨RX12, "letter", "(II)I"⟩
abbrev cX12_note : ByteArray := prog_14_method_45_code
def yX12_note : MethodName := ⟨RX12, "note", "()V"⟩
abbrev cX12_put : ByteArray := prog_14_method_46_code
def yX12_put : MethodName := ⟨RX12, "put", "(I)I"⟩
abbrev cX12_take : ByteArray := prog_14_method_47_code
def yX12_take : MethodName := ⟨RX12, "take", "(I)I"⟩
abbrev cX12_bar : ByteArray := prog_14_method_48_code
def yX12_bar : MethodName := ⟨RX12, "bar", "(I)I"⟩
abbrev cX12_rank : ByteArray := prog_14_method_49_code
def yX12_rank : MethodName := ⟨RX12, "rank", "(II)I"⟩
abbrev cX12_allow : ByteArray := prog_14_method_50_code
def yX12_allow : MethodName := ⟨RX12, "allow", "(III)I"⟩
abbrev cX12_undo : ByteArray := prog_14_method_51_code
def yX12_undo : MethodName := ⟨RX12, "undo", "()I"⟩
abbrev cX12_many : ByteArray := prog_14_method_52_code
def yX12_many : MethodName := ⟨RX12, "many", "(I)J"⟩
abbrev cX12_withWord : ByteArray := prog_14_method_53_code
def yX12_withWord : MethodName := ⟨RX12, "withWord", "([II)J"⟩
abbrev cX12_having : ByteArray := prog_14_method_54_code
def yX12_having : MethodName := ⟨RX12, "having", "(I)J"⟩
abbrev cX12_layBest : ByteArray := prog_14_method_55_code
def yX12_layBest : MethodName := ⟨RX12, "layBest", "()V"⟩
abbrev cX12_bestWith : ByteArray := prog_14_method_56_code
def yX12_bestWith : MethodName := ⟨RX12, "bestWith", "(II)I"⟩
abbrev cX12_findBest : ByteArray := prog_14_method_57_code
def yX12_findBest : MethodName := ⟨RX12, "findBest", "()I"⟩
abbrev cX12_worthOf : ByteArray := prog_14_method_58_code
def yX12_worthOf : MethodName := ⟨RX12, "worthOf", "(I)I"⟩
abbrev cX12_best : ByteArray := prog_14_method_59_code
def yX12_best : MethodName := ⟨RX12, "best", "(I)I"⟩
abbrev cX12_find : ByteArray := prog_14_method_60_code
def yX12_find : MethodName := ⟨RX12, "find", "(J)I"⟩
abbrev cX12_phrase : ByteArray := prog_14_method_61_code
def yX12_phrase : MethodName := ⟨RX12, "phrase", "(JI)I"⟩
abbrev cX12_tell : ByteArray := prog_14_method_62_code
def yX12_tell : MethodName := ⟨RX12, "tell", "(I)I"⟩
abbrev cX12_clear : ByteArray := prog_14_method_63_code
def yX12_clear : MethodName := ⟨RX12, "clear", "()I"⟩
abbrev cX12_wantedBy : ByteArray := prog_14_method_64_code
def yX12_wantedBy : MethodName := ⟨RX12, "wantedBy", "(I)I"⟩
abbrev cX12_reason : ByteArray := prog_14_method_65_code
def yX12_reason : MethodName := ⟨RX12, "reason", "()I"⟩
abbrev cX12_why : ByteArray := prog_14_method_66_code
def yX12_why : MethodName := ⟨RX12, "why", "(I)I"⟩
abbrev cX12_number : ByteArray := prog_14_method_67_code
def yX12_number : MethodName := ⟨RX12, "number", "()J"⟩
abbrev cX12_nearly : ByteArray := prog_14_method_68_code
def yX12_nearly : MethodName := ⟨RX12, "nearly", "(I)I"⟩
abbrev cX12_judged : ByteArray := prog_14_method_69_code
def yX12_judged : MethodName := ⟨RX12, "judged", "(IIII)Z"⟩
abbrev cX12_tenThousands : ByteArray := prog_14_method_70_code
def yX12_tenThousands : MethodName := ⟨RX12, "tenThousands", "(I)J"⟩
abbrev cX12_judge : ByteArray := prog_14_method_71_code
def yX12_judge : MethodName := ⟨RX12, "judge", "(IJ)I"⟩
abbrev cX12_see : ByteArray := prog_14_method_72_code
def yX12_see : MethodName := ⟨RX12, "see", "(III)I"⟩
abbrev cX12_unsee : ByteArray := prog_14_method_73_code
def yX12_unsee : MethodName := ⟨RX12, "unsee", "()I"⟩
abbrev cX12_isSo : ByteArray := prog_14_method_74_code
def yX12_isSo : MethodName := ⟨RX12, "isSo", "(III)Z"⟩
abbrev cX12_left : ByteArray := prog_14_method_75_code
def yX12_left : MethodName := ⟨RX12, "left", "(I)I"⟩
abbrev cX12_someOf : ByteArray := prog_14_method_76_code
def yX12_someOf : MethodName := ⟨RX12, "someOf", "(I)I"⟩
abbrev cX12_unbarred : ByteArray := prog_14_method_77_code
def yX12_unbarred : MethodName := ⟨RX12, "unbarred", "()I"⟩
abbrev cX12_layWorth : ByteArray := prog_14_method_78_code
def yX12_layWorth : MethodName := ⟨RX12, "layWorth", "()V"⟩
abbrev cX12_share : ByteArray := prog_14_method_79_code
def yX12_share : MethodName := ⟨RX12, "share", "(IZ)J"⟩
abbrev cX12_bitOf : ByteArray := prog_14_method_80_code
def yX12_bitOf : MethodName := ⟨RX12, "bitOf", "(I)I"⟩
abbrev cX12_hope : ByteArray := prog_14_method_81_code
def yX12_hope : MethodName := ⟨RX12, "hope", "(IZ)I"⟩
abbrev cX12_seed : ByteArray := prog_14_method_82_code
def yX12_seed : MethodName := ⟨RX12, "seed", "(J)J"⟩
abbrev cX12_drawn : ByteArray := prog_14_method_83_code
def yX12_drawn : MethodName := ⟨RX12, "drawn", "(I)I"⟩
abbrev cX12_keep : ByteArray := prog_14_method_84_code
def yX12_keep : MethodName := ⟨RX12, "keep", "(I)I"⟩
abbrev cX12_again : ByteArray := prog_14_method_85_code
def yX12_again : MethodName := ⟨RX12, "again", "(I)I"⟩
def RJ6 : String := "java/lang/Integer"
def TJ6 : u_T := fun k => match k with
  | _ => ("", "", "", false)
abbrev wsJ60 : List Cond := u_ws RJ6 TJ6 0
abbrev cJ6_bitCount_0f7a4 : ByteArray := prog_15_method_49_code
def yJ6_bitCount_0f7a4 : MethodName := ⟨RJ6, "bitCount", "(I)I"⟩
def RJ9 : String := "java/lang/Math"
def TJ9 : u_T := fun k => match k with
  | _ => ("", "", "", false)
abbrev wsJ90 : List Cond := u_ws RJ9 TJ9 0
abbrev cJ9_abs_067f4 : ByteArray := prog_16_method_61_code
def yJ9_abs_067f4 : MethodName := ⟨RJ9, "abs", "(J)J"⟩
abbrev cJ9_max_f86c9 : ByteArray := prog_16_method_66_code
def yJ9_max_f86c9 : MethodName := ⟨RJ9, "max", "(JJ)J"⟩
abbrev cJ9_min_7cf53 : ByteArray := prog_16_method_69_code
def yJ9_min_7cf53 : MethodName := ⟨RJ9, "min", "(II)I"⟩
def RJ10 : String := "java/lang/System"
def TJ10 : u_T := fun k => match k with
  | _ => ("", "", "", false)
abbrev wsJ100 : List Cond := u_ws RJ10 TJ10 0
def RL : String := "BagPhrasesLaw"
abbrev cL_law : ByteArray := code
abbrev vwCl : List vw_C := [(RX0, TX0, 10), (RX1, TX1, 0), (RX2, TX2, 4), (RX3, TX3, 1), (RX4, TX4, 12), (RX5, TX5, 5), (RX6, TX6, 14), (RX7, TX7, 6), (RX8, TX8, 6), (RX10, TX10, 1), (RX11, TX11, 17), (RX12, TX12, 45)]
end
section
theorem dX0_init_0 : decode cX0_init 0 = .ok (.aload_n 0, 1) := by decide +kernel
theorem dX0_init_1 : decode cX0_init 1 = .ok (.invokespecial 3, 3) := by decide +kernel
theorem dX0_init_4 : decode cX0_init 4 = .ok (.aload_n 0, 1) := by decide +kernel
theorem dX0_init_5 : decode cX0_init 5 = .ok (.new 9, 3) := by decide +kernel
theorem dX0_init_8 : decode cX0_init 8 = .ok (.dup, 1) := by decide +kernel
theorem dX0_init_9 : decode cX0_init 9 = .ok (.invokespecial 11, 3) := by decide +kernel
theorem dX0_init_12 : decode cX0_init 12 = .ok (.putfield 12, 3) := by decide +kernel
theorem dX0_init_15 : decode cX0_init 15 = .ok (.aload_n 0, 1) := by decide +kernel
theorem dX0_init_16 : decode cX0_init 16 = .ok (.bipush 8, 2) := by decide +kernel
theorem dX0_init_18 : decode cX0_init 18 = .ok (.newarray .int, 2) := by decide +kernel
theorem dX0_init_20 : decode cX0_init 20 = .ok (.putfield 18, 3) := by decide +kernel
theorem dX0_init_23 : decode cX0_init 23 = .ok (.aload_n 0, 1) := by decide +kernel
theorem dX0_init_24 : decode cX0_init 24 = .ok (.iconst 4, 1) := by decide +kernel
theorem dX0_init_25 : decode cX0_init 25 = .ok (.newarray .long, 2) := by decide +kernel
theorem dX0_init_27 : decode cX0_init 27 = .ok (.putfield 22, 3) := by decide +kernel
theorem dX0_init_30 : decode cX0_init 30 = .ok (.aload_n 0, 1) := by decide +kernel
theorem dX0_init_31 : decode cX0_init 31 = .ok (.sipush 256, 3) := by decide +kernel
theorem dX0_init_34 : decode cX0_init 34 = .ok (.newarray .long, 2) := by decide +kernel
theorem dX0_init_36 : decode cX0_init 36 = .ok (.putfield 26, 3) := by decide +kernel
theorem dX0_init_39 : decode cX0_init 39 = .ok (.aload_n 0, 1) := by decide +kernel
theorem dX0_init_40 : decode cX0_init 40 = .ok (.iconst 0, 1) := by decide +kernel
theorem dX0_init_41 : decode cX0_init 41 = .ok (.putfield 29, 3) := by decide +kernel
theorem dX0_init_44 : decode cX0_init 44 = .ok (.aload_n 0, 1) := by decide +kernel
theorem dX0_init_45 : decode cX0_init 45 = .ok (.iconst 0, 1) := by decide +kernel
theorem dX0_init_46 : decode cX0_init 46 = .ok (.putfield 33, 3) := by decide +kernel
theorem dX0_init_49 : decode cX0_init 49 = .ok (.aload_n 0, 1) := by decide +kernel
theorem dX0_init_50 : decode cX0_init 50 = .ok (.iconst 0, 1) := by decide +kernel
theorem dX0_init_51 : decode cX0_init 51 = .ok (.putfield 37, 3) := by decide +kernel
theorem dX0_init_54 : decode cX0_init 54 = .ok (.aload_n 0, 1) := by decide +kernel
theorem dX0_init_55 : decode cX0_init 55 = .ok (.aload_n 1, 1) := by decide +kernel
theorem dX0_init_56 : decode cX0_init 56 = .ok (.putfield 40, 3) := by decide +kernel
theorem dX0_init_59 : decode cX0_init 59 = .ok (.aload_n 0, 1) := by decide +kernel
theorem dX0_init_60 : decode cX0_init 60 = .ok (.aload_n 2, 1) := by decide +kernel
theorem dX0_init_61 : decode cX0_init 61 = .ok (.putfield 44, 3) := by decide +kernel
theorem dX0_init_64 : decode cX0_init 64 = .ok (.aload_n 0, 1) := by decide +kernel
theorem dX0_init_65 : decode cX0_init 65 = .ok (.aload_n 3, 1) := by decide +kernel
theorem dX0_init_66 : decode cX0_init 66 = .ok (.putfield 48, 3) := by decide +kernel
theorem dX0_init_69 : decode cX0_init 69 = .ok (.return_, 1) := by decide +kernel
theorem dX0_outdate_0 : decode cX0_outdate 0 = .ok (.aload_n 0, 1) := by decide +kernel
theorem dX0_outdate_1 : decode cX0_outdate 1 = .ok (.iconst 0, 1) := by decide +kernel
theorem dX0_outdate_2 : decode cX0_outdate 2 = .ok (.putfield 33, 3) := by decide +kernel
theorem dX0_outdate_5 : decode cX0_outdate 5 = .ok (.aload_n 0, 1) := by decide +kernel
theorem dX0_outdate_6 : decode cX0_outdate 6 = .ok (.iconst 0, 1) := by decide +kernel
theorem dX0_outdate_7 : decode cX0_outdate 7 = .ok (.putfield 37, 3) := by decide +kernel
theorem dX0_outdate_10 : decode cX0_outdate 10 = .ok (.return_, 1) := by decide +kernel
theorem dX0_areFew_0 : decode cX0_areFew 0 = .ok (.aload_n 0, 1) := by decide +kernel
theorem dX0_areFew_1 : decode cX0_areFew 1 = .ok (.getfield 40, 3) := by decide +kernel
theorem dX0_areFew_4 : decode cX0_areFew 4 = .ok (.getfield 52, 3) := by decide +kernel
theorem dX0_areFew_7 : decode cX0_areFew 7 = .ok (.aload_n 0, 1) := by decide +kernel
theorem dX0_areFew_8 : decode cX0_areFew 8 = .ok (.getfield 44, 3) := by decide +kernel
theorem dX0_areFew_11 : decode cX0_areFew 11 = .ok (.getfield 57, 3) := by decide +kernel
theorem dX0_areFew_14 : decode cX0_areFew 14 = .ok (.invokestatic 62, 3) := by decide +kernel
theorem dX0_areFew_17 : decode cX0_areFew 17 = .ok (.isub, 1) := by decide +kernel
theorem dX0_areFew_18 : decode cX0_areFew 18 = .ok (.bipush 8, 2) := by decide +kernel
theorem dX0_areFew_20 : decode cX0_areFew 20 = .ok (.if_icmp .gt 7, 3) := by decide +kernel
theorem dX0_areFew_23 : decode cX0_areFew 23 = .ok (.iconst 1, 1) := by decide +kernel
theorem dX0_areFew_24 : decode cX0_areFew 24 = .ok (.goto 4, 3) := by decide +kernel
theorem dX0_areFew_27 : decode cX0_areFew 27 = .ok (.iconst 0, 1) := by decide +kernel
theorem dX0_areFew_28 : decode cX0_areFew 28 = .ok (.ireturn, 1) := by decide +kernel
theorem dX0_orders_0 : decode cX0_orders 0 = .ok (.aload_n 0, 1) := by decide +kernel
theorem dX0_orders_1 : decode cX0_orders 1 = .ok (.getfield 29, 3) := by decide +kernel
theorem dX0_orders_4 : decode cX0_orders 4 = .ok (.ifCond .lt 24, 3) := by decide +kernel
theorem dX0_orders_7 : decode cX0_orders 7 = .ok (.aload_n 0, 1) := by decide +kernel
theorem dX0_orders_8 : decode cX0_orders 8 = .ok (.getfield 29, 3) := by decide +kernel
theorem dX0_orders_11 : decode cX0_orders 11 = .ok (.bipush 8, 2) := by decide +kernel
theorem dX0_orders_13 : decode cX0_orders 13 = .ok (.if_icmp .gt 15, 3) := by decide +kernel
theorem dX0_orders_16 : decode cX0_orders 16 = .ok (.getstatic 68, 3) := by decide +kernel
theorem dX0_orders_19 : decode cX0_orders 19 = .ok (.aload_n 0, 1) := by decide +kernel
theorem dX0_orders_20 : decode cX0_orders 20 = .ok (.getfield 29, 3) := by decide +kernel
theorem dX0_orders_23 : decode cX0_orders 23 = .ok (.iaload, 1) := by decide +kernel
theorem dX0_orders_24 : decode cX0_orders 24 = .ok (.i2l, 1) := by decide +kernel
theorem dX0_orders_25 : decode cX0_orders 25 = .ok (.goto 4, 3) := by decide +kernel
theorem dX0_orders_28 : decode cX0_orders 28 = .ok (.lconst 1, 1) := by decide +kernel
theorem dX0_orders_29 : decode cX0_orders 29 = .ok (.lreturn, 1) := by decide +kernel
theorem dX0_listComing_0 : decode cX0_listComing 0 = .ok (.aload_n 0, 1) := by decide +kernel
theorem dX0_listComing_1 : decode cX0_listComing 1 = .ok (.iconst 0, 1) := by decide +kernel
theorem dX0_listComing_2 : decode cX0_listComing 2 = .ok (.putfield 29, 3) := by decide +kernel
theorem dX0_listComing_5 : decode cX0_listComing 5 = .ok (.iconst 0, 1) := by decide +kernel
theorem dX0_listComing_6 : decode cX0_listComing 6 = .ok (.istore_n 1, 1) := by decide +kernel
theorem dX0_listComing_7 : decode cX0_listComing 7 = .ok (.iload_n 1, 1) := by decide +kernel
theorem dX0_listComing_8 : decode cX0_listComing 8 = .ok (.aload_n 0, 1) := by decide +kernel
theorem dX0_listComing_9 : decode cX0_listComing 9 = .ok (.getfield 40, 3) := by decide +kernel
theorem dX0_listComing_12 : decode cX0_listComing 12 = .ok (.getfield 52, 3) := by decide +kernel
theorem dX0_listComing_15 : decode cX0_listComing 15 = .ok (.if_icmp .ge 52, 3) := by decide +kernel
theorem dX0_listComing_18 : decode cX0_listComing 18 = .ok (.aload_n 0, 1) := by decide +kernel
theorem dX0_listComing_19 : decode cX0_listComing 19 = .ok (.getfield 29, 3) := by decide +kernel
theorem dX0_listComing_22 : decode cX0_listComing 22 = .ok (.bipush 8, 2) := by decide +kernel
theorem dX0_listComing_24 : decode cX0_listComing 24 = .ok (.if_icmp .ge 43, 3) := by decide +kernel
theorem dX0_listComing_27 : decode cX0_listComing 27 = .ok (.aload_n 0, 1) := by decide +kernel
theorem dX0_listComing_28 : decode cX0_listComing 28 = .ok (.getfield 44, 3) := by decide +kernel
theorem dX0_listComing_31 : decode cX0_listComing 31 = .ok (.getfield 57, 3) := by decide +kernel
theorem dX0_listComing_34 : decode cX0_listComing 34 = .ok (.iload_n 1, 1) := by decide +kernel
theorem dX0_listComing_35 : decode cX0_listComing 35 = .ok (.ishr, 1) := by decide +kernel
theorem dX0_listComing_36 : decode cX0_listComing 36 = .ok (.iconst 1, 1) := by decide +kernel
theorem dX0_listComing_37 : decode cX0_listComing 37 = .ok (.iand, 1) := by decide +kernel
theorem dX0_listComing_38 : decode cX0_listComing 38 = .ok (.ifCond .ne 23, 3) := by decide +kernel
theorem dX0_listComing_41 : decode cX0_listComing 41 = .ok (.aload_n 0, 1) := by decide +kernel
theorem dX0_listComing_42 : decode cX0_listComing 42 = .ok (.getfield 18, 3) := by decide +kernel
theorem dX0_listComing_45 : decode cX0_listComing 45 = .ok (.aload_n 0, 1) := by decide +kernel
theorem dX0_listComing_46 : decode cX0_listComing 46 = .ok (.getfield 29, 3) := by decide +kernel
theorem dX0_listComing_49 : decode cX0_listComing 49 = .ok (.iload_n 1, 1) := by decide +kernel
theorem dX0_listComing_50 : decode cX0_listComing 50 = .ok (.iastore, 1) := by decide +kernel
theorem dX0_listComing_51 : decode cX0_listComing 51 = .ok (.aload_n 0, 1) := by decide +kernel
theorem dX0_listComing_52 : decode cX0_listComing 52 = .ok (.dup, 1) := by decide +kernel
theorem dX0_listComing_53 : decode cX0_listComing 53 = .ok (.getfield 29, 3) := by decide +kernel
theorem dX0_listComing_56 : decode cX0_listComing 56 = .ok (.iconst 1, 1) := by decide +kernel
theorem dX0_listComing_57 : decode cX0_listComing 57 = .ok (.iadd, 1) := by decide +kernel
theorem dX0_listComing_58 : decode cX0_listComing 58 = .ok (.putfield 29, 3) := by decide +kernel
theorem dX0_listComing_61 : decode cX0_listComing 61 = .ok (.iinc 1 1, 3) := by decide +kernel
theorem dX0_listComing_64 : decode cX0_listComing 64 = .ok (.goto (-57), 3) := by decide +kernel
theorem dX0_listComing_67 : decode cX0_listComing 67 = .ok (.return_, 1) := by decide +kernel
theorem dX0_openSets_0 : decode cX0_openSets 0 = .ok (.aload_n 0, 1) := by decide +kernel
theorem dX0_openSets_1 : decode cX0_openSets 1 = .ok (.getfield 33, 3) := by decide +kernel
theorem dX0_openSets_4 : decode cX0_openSets 4 = .ok (.ifCond .eq 4, 3) := by decide +kernel
theorem dX0_openSets_7 : decode cX0_openSets 7 = .ok (.return_, 1) := by decide +kernel
theorem dX0_openSets_8 : decode cX0_openSets 8 = .ok (.aload_n 0, 1) := by decide +kernel
theorem dX0_openSets_9 : decode cX0_openSets 9 = .ok (.getfield 48, 3) := by decide +kernel
theorem dX0_openSets_12 : decode cX0_openSets 12 = .ok (.invokevirtual 71, 3) := by decide +kernel
theorem dX0_openSets_15 : decode cX0_openSets 15 = .ok (.aload_n 0, 1) := by decide +kernel
theorem dX0_openSets_16 : decode cX0_openSets 16 = .ok (.invokevirtual 76, 3) := by decide +kernel
theorem dX0_openSets_19 : decode cX0_openSets 19 = .ok (.iconst 0, 1) := by decide +kernel
theorem dX0_openSets_20 : decode cX0_openSets 20 = .ok (.istore_n 1, 1) := by decide +kernel
theorem dX0_openSets_21 : decode cX0_openSets 21 = .ok (.iload_n 1, 1) := by decide +kernel
theorem dX0_openSets_22 : decode cX0_openSets 22 = .ok (.iconst 4, 1) := by decide +kernel
theorem dX0_openSets_23 : decode cX0_openSets 23 = .ok (.if_icmp .ge 124, 3) := by decide +kernel
theorem dX0_openSets_26 : decode cX0_openSets 26 = .ok (.iconst 0, 1) := by decide +kernel
theorem dX0_openSets_27 : decode cX0_openSets 27 = .ok (.istore_n 2, 1) := by decide +kernel
theorem dX0_openSets_28 : decode cX0_openSets 28 = .ok (.iload_n 2, 1) := by decide +kernel
theorem dX0_openSets_29 : decode cX0_openSets 29 = .ok (.aload_n 0, 1) := by decide +kernel
theorem dX0_openSets_30 : decode cX0_openSets 30 = .ok (.getfield 29, 3) := by decide +kernel
theorem dX0_openSets_33 : decode cX0_openSets 33 = .ok (.if_icmp .ge 71, 3) := by decide +kernel
theorem dX0_openSets_36 : decode cX0_openSets 36 = .ok (.iload_n 2, 1) := by decide +kernel
theorem dX0_openSets_37 : decode cX0_openSets 37 = .ok (.bipush 6, 2) := by decide +kernel
theorem dX0_openSets_39 : decode cX0_openSets 39 = .ok (.if_icmp .lt 18, 3) := by decide +kernel
theorem dX0_openSets_42 : decode cX0_openSets 42 = .ok (.iload_n 1, 1) := by decide +kernel
theorem dX0_openSets_43 : decode cX0_openSets 43 = .ok (.iload_n 2, 1) := by decide +kernel
theorem dX0_openSets_44 : decode cX0_openSets 44 = .ok (.bipush 6, 2) := by decide +kernel
theorem dX0_openSets_46 : decode cX0_openSets 46 = .ok (.isub, 1) := by decide +kernel
theorem dX0_openSets_47 : decode cX0_openSets 47 = .ok (.ishr, 1) := by decide +kernel
theorem dX0_openSets_48 : decode cX0_openSets 48 = .ok (.iconst 1, 1) := by decide +kernel
theorem dX0_openSets_49 : decode cX0_openSets 49 = .ok (.iand, 1) := by decide +kernel
theorem dX0_openSets_50 : decode cX0_openSets 50 = .ok (.ifCond .eq 7, 3) := by decide +kernel
theorem dX0_openSets_53 : decode cX0_openSets 53 = .ok (.iconst 1, 1) := by decide +kernel
theorem dX0_openSets_54 : decode cX0_openSets 54 = .ok (.goto 4, 3) := by decide +kernel
theorem dX0_openSets_57 : decode cX0_openSets 57 = .ok (.iconst 0, 1) := by decide +kernel
theorem dX0_openSets_58 : decode cX0_openSets 58 = .ok (.istore_n 3, 1) := by decide +kernel
theorem dX0_openSets_59 : decode cX0_openSets 59 = .ok (.aload_n 0, 1) := by decide +kernel
theorem dX0_openSets_60 : decode cX0_openSets 60 = .ok (.getfield 12, 3) := by decide +kernel
theorem dX0_openSets_63 : decode cX0_openSets 63 = .ok (.getfield 79, 3) := by decide +kernel
theorem dX0_openSets_66 : decode cX0_openSets 66 = .ok (.aload_n 0, 1) := by decide +kernel
theorem dX0_openSets_67 : decode cX0_openSets 67 = .ok (.getfield 18, 3) := by decide +kernel
theorem dX0_openSets_70 : decode cX0_openSets 70 = .ok (.iload_n 2, 1) := by decide +kernel
theorem dX0_openSets_71 : decode cX0_openSets 71 = .ok (.iaload, 1) := by decide +kernel
theorem dX0_openSets_72 : decode cX0_openSets 72 = .ok (.iload_n 2, 1) := by decide +kernel
theorem dX0_openSets_73 : decode cX0_openSets 73 = .ok (.bipush 6, 2) := by decide +kernel
theorem dX0_openSets_75 : decode cX0_openSets 75 = .ok (.if_icmp .ge 11, 3) := by decide +kernel
theorem dX0_openSets_78 : decode cX0_openSets 78 = .ok (.getstatic 82, 3) := by decide +kernel
theorem dX0_openSets_81 : decode cX0_openSets 81 = .ok (.iload_n 2, 1) := by decide +kernel
theorem dX0_openSets_82 : decode cX0_openSets 82 = .ok (.laload, 1) := by decide +kernel
theorem dX0_openSets_83 : decode cX0_openSets 83 = .ok (.goto 14, 3) := by decide +kernel
theorem dX0_openSets_86 : decode cX0_openSets 86 = .ok (.iload_n 3, 1) := by decide +kernel
theorem dX0_openSets_87 : decode cX0_openSets 87 = .ok (.ifCond .eq 9, 3) := by decide +kernel
theorem dX0_openSets_90 : decode cX0_openSets 90 = .ok (.ldc2_w 85, 3) := by decide +kernel
theorem dX0_openSets_93 : decode cX0_openSets 93 = .ok (.goto 4, 3) := by decide +kernel
theorem dX0_openSets_96 : decode cX0_openSets 96 = .ok (.lconst 0, 1) := by decide +kernel
theorem dX0_openSets_97 : decode cX0_openSets 97 = .ok (.lastore, 1) := by decide +kernel
theorem dX0_openSets_98 : decode cX0_openSets 98 = .ok (.iinc 2 1, 3) := by decide +kernel
theorem dX0_openSets_101 : decode cX0_openSets 101 = .ok (.goto (-73), 3) := by decide +kernel
theorem dX0_openSets_104 : decode cX0_openSets 104 = .ok (.aload_n 0, 1) := by decide +kernel
theorem dX0_openSets_105 : decode cX0_openSets 105 = .ok (.getfield 22, 3) := by decide +kernel
theorem dX0_openSets_108 : decode cX0_openSets 108 = .ok (.iload_n 1, 1) := by decide +kernel
theorem dX0_openSets_109 : decode cX0_openSets 109 = .ok (.iload_n 1, 1) := by decide +kernel
theorem dX0_openSets_110 : decode cX0_openSets 110 = .ok (.bipush 64, 2) := by decide +kernel
theorem dX0_openSets_112 : decode cX0_openSets 112 = .ok (.imul, 1) := by decide +kernel
theorem dX0_openSets_113 : decode cX0_openSets 113 = .ok (.iconst 1, 1) := by decide +kernel
theorem dX0_openSets_114 : decode cX0_openSets 114 = .ok (.aload_n 0, 1) := by decide +kernel
theorem dX0_openSets_115 : decode cX0_openSets 115 = .ok (.getfield 29, 3) := by decide +kernel
theorem dX0_openSets_118 : decode cX0_openSets 118 = .ok (.ishl, 1) := by decide +kernel
theorem dX0_openSets_119 : decode cX0_openSets 119 = .ok (.if_icmp .ge 20, 3) := by decide +kernel
theorem dX0_openSets_122 : decode cX0_openSets 122 = .ok (.aload_n 0, 1) := by decide +kernel
theorem dX0_openSets_123 : decode cX0_openSets 123 = .ok (.getfield 48, 3) := by decide +kernel
theorem dX0_openSets_126 : decode cX0_openSets 126 = .ok (.aload_n 0, 1) := by decide +kernel
theorem dX0_openSets_127 : decode cX0_openSets 127 = .ok (.getfield 12, 3) := by decide +kernel
theorem dX0_openSets_130 : decode cX0_openSets 130 = .ok (.sipush 1023, 3) := by decide +kernel
theorem dX0_openSets_133 : decode cX0_openSets 133 = .ok (.invokevirtual 87, 3) := by decide +kernel
theorem dX0_openSets_136 : decode cX0_openSets 136 = .ok (.goto 4, 3) := by decide +kernel
theorem dX0_openSets_139 : decode cX0_openSets 139 = .ok (.lconst 0, 1) := by decide +kernel
theorem dX0_openSets_140 : decode cX0_openSets 140 = .ok (.lastore, 1) := by decide +kernel
theorem dX0_openSets_141 : decode cX0_openSets 141 = .ok (.iinc 1 1, 3) := by decide +kernel
theorem dX0_openSets_144 : decode cX0_openSets 144 = .ok (.goto (-123), 3) := by decide +kernel
theorem dX0_openSets_147 : decode cX0_openSets 147 = .ok (.aload_n 0, 1) := by decide +kernel
theorem dX0_openSets_148 : decode cX0_openSets 148 = .ok (.iconst 1, 1) := by decide +kernel
theorem dX0_openSets_149 : decode cX0_openSets 149 = .ok (.putfield 33, 3) := by decide +kernel
theorem dX0_openSets_152 : decode cX0_openSets 152 = .ok (.return_, 1) := by decide +kernel
theorem dX0_isOpened_0 : decode cX0_isOpened 0 = .ok (.aload_n 0, 1) := by decide +kernel
theorem dX0_isOpened_1 : decode cX0_isOpened 1 = .ok (.getfield 22, 3) := by decide +kernel
theorem dX0_isOpened_4 : decode cX0_isOpened 4 = .ok (.iload_n 1, 1) := by decide +kernel
theorem dX0_isOpened_5 : decode cX0_isOpened 5 = .ok (.bipush 64, 2) := by decide +kernel
theorem dX0_isOpened_7 : decode cX0_isOpened 7 = .ok (.idiv, 1) := by decide +kernel
theorem dX0_isOpened_8 : decode cX0_isOpened 8 = .ok (.laload, 1) := by decide +kernel
theorem dX0_isOpened_9 : decode cX0_isOpened 9 = .ok (.iload_n 1, 1) := by decide +kernel
theorem dX0_isOpened_10 : decode cX0_isOpened 10 = .ok (.bipush 64, 2) := by decide +kernel
theorem dX0_isOpened_12 : decode cX0_isOpened 12 = .ok (.irem, 1) := by decide +kernel
theorem dX0_isOpened_13 : decode cX0_isOpened 13 = .ok (.lshr, 1) := by decide +kernel
theorem dX0_isOpened_14 : decode cX0_isOpened 14 = .ok (.lconst 1, 1) := by decide +kernel
theorem dX0_isOpened_15 : decode cX0_isOpened 15 = .ok (.land, 1) := by decide +kernel
theorem dX0_isOpened_16 : decode cX0_isOpened 16 = .ok (.lconst 0, 1) := by decide +kernel
theorem dX0_isOpened_17 : decode cX0_isOpened 17 = .ok (.lcmp, 1) := by decide +kernel
theorem dX0_isOpened_18 : decode cX0_isOpened 18 = .ok (.ifCond .eq 7, 3) := by decide +kernel
theorem dX0_isOpened_21 : decode cX0_isOpened 21 = .ok (.iconst 1, 1) := by decide +kernel
theorem dX0_isOpened_22 : decode cX0_isOpened 22 = .ok (.goto 4, 3) := by decide +kernel
theorem dX0_isOpened_25 : decode cX0_isOpened 25 = .ok (.iconst 0, 1) := by decide +kernel
theorem dX0_isOpened_26 : decode cX0_isOpened 26 = .ok (.ireturn, 1) := by decide +kernel
theorem dX0_countSets_0 : decode cX0_countSets 0 = .ok (.aload_n 0, 1) := by decide +kernel
theorem dX0_countSets_1 : decode cX0_countSets 1 = .ok (.invokevirtual 91, 3) := by decide +kernel
theorem dX0_countSets_4 : decode cX0_countSets 4 = .ok (.aload_n 0, 1) := by decide +kernel
theorem dX0_countSets_5 : decode cX0_countSets 5 = .ok (.getfield 37, 3) := by decide +kernel
theorem dX0_countSets_8 : decode cX0_countSets 8 = .ok (.ifCond .eq 4, 3) := by decide +kernel
theorem dX0_countSets_11 : decode cX0_countSets 11 = .ok (.return_, 1) := by decide +kernel
theorem dX0_countSets_12 : decode cX0_countSets 12 = .ok (.aload_n 0, 1) := by decide +kernel
theorem dX0_countSets_13 : decode cX0_countSets 13 = .ok (.getfield 48, 3) := by decide +kernel
theorem dX0_countSets_16 : decode cX0_countSets 16 = .ok (.invokevirtual 71, 3) := by decide +kernel
theorem dX0_countSets_19 : decode cX0_countSets 19 = .ok (.iconst 0, 1) := by decide +kernel
theorem dX0_countSets_20 : decode cX0_countSets 20 = .ok (.istore_n 1, 1) := by decide +kernel
theorem dX0_countSets_21 : decode cX0_countSets 21 = .ok (.iload_n 1, 1) := by decide +kernel
theorem dX0_countSets_22 : decode cX0_countSets 22 = .ok (.iconst 1, 1) := by decide +kernel
theorem dX0_countSets_23 : decode cX0_countSets 23 = .ok (.aload_n 0, 1) := by decide +kernel
theorem dX0_countSets_24 : decode cX0_countSets 24 = .ok (.getfield 29, 3) := by decide +kernel
theorem dX0_countSets_27 : decode cX0_countSets 27 = .ok (.ishl, 1) := by decide +kernel
theorem dX0_countSets_28 : decode cX0_countSets 28 = .ok (.if_icmp .ge 46, 3) := by decide +kernel
theorem dX0_countSets_31 : decode cX0_countSets 31 = .ok (.aload_n 0, 1) := by decide +kernel
theorem dX0_countSets_32 : decode cX0_countSets 32 = .ok (.getfield 26, 3) := by decide +kernel
theorem dX0_countSets_35 : decode cX0_countSets 35 = .ok (.iload_n 1, 1) := by decide +kernel
theorem dX0_countSets_36 : decode cX0_countSets 36 = .ok (.aload_n 0, 1) := by decide +kernel
theorem dX0_countSets_37 : decode cX0_countSets 37 = .ok (.iload_n 1, 1) := by decide +kernel
theorem dX0_countSets_38 : decode cX0_countSets 38 = .ok (.invokevirtual 94, 3) := by decide +kernel
theorem dX0_countSets_41 : decode cX0_countSets 41 = .ok (.ifCond .eq 25, 3) := by decide +kernel
theorem dX0_countSets_44 : decode cX0_countSets 44 = .ok (.aload_n 0, 1) := by decide +kernel
theorem dX0_countSets_45 : decode cX0_countSets 45 = .ok (.getfield 48, 3) := by decide +kernel
theorem dX0_countSets_48 : decode cX0_countSets 48 = .ok (.aload_n 0, 1) := by decide +kernel
theorem dX0_countSets_49 : decode cX0_countSets 49 = .ok (.getfield 48, 3) := by decide +kernel
theorem dX0_countSets_52 : decode cX0_countSets 52 = .ok (.getfield 98, 3) := by decide +kernel
theorem dX0_countSets_55 : decode cX0_countSets 55 = .ok (.aload_n 0, 1) := by decide +kernel
theorem dX0_countSets_56 : decode cX0_countSets 56 = .ok (.iload_n 1, 1) := by decide +kernel
theorem dX0_countSets_57 : decode cX0_countSets 57 = .ok (.invokevirtual 102, 3) := by decide +kernel
theorem dX0_countSets_60 : decode cX0_countSets 60 = .ok (.invokevirtual 87, 3) := by decide +kernel
theorem dX0_countSets_63 : decode cX0_countSets 63 = .ok (.goto 4, 3) := by decide +kernel
theorem dX0_countSets_66 : decode cX0_countSets 66 = .ok (.lconst 0, 1) := by decide +kernel
theorem dX0_countSets_67 : decode cX0_countSets 67 = .ok (.lastore, 1) := by decide +kernel
theorem dX0_countSets_68 : decode cX0_countSets 68 = .ok (.iinc 1 1, 3) := by decide +kernel
theorem dX0_countSets_71 : decode cX0_countSets 71 = .ok (.goto (-50), 3) := by decide +kernel
theorem dX0_countSets_74 : decode cX0_countSets 74 = .ok (.aload_n 0, 1) := by decide +kernel
theorem dX0_countSets_75 : decode cX0_countSets 75 = .ok (.iconst 1, 1) := by decide +kernel
theorem dX0_countSets_76 : decode cX0_countSets 76 = .ok (.putfield 37, 3) := by decide +kernel
theorem dX0_countSets_79 : decode cX0_countSets 79 = .ok (.return_, 1) := by decide +kernel
theorem dX0_wordsOf_0 : decode cX0_wordsOf 0 = .ok (.iconst 0, 1) := by decide +kernel
theorem dX0_wordsOf_1 : decode cX0_wordsOf 1 = .ok (.istore_n 2, 1) := by decide +kernel
theorem dX0_wordsOf_2 : decode cX0_wordsOf 2 = .ok (.iconst 0, 1) := by decide +kernel
theorem dX0_wordsOf_3 : decode cX0_wordsOf 3 = .ok (.istore_n 3, 1) := by decide +kernel
theorem dX0_wordsOf_4 : decode cX0_wordsOf 4 = .ok (.iload_n 3, 1) := by decide +kernel
theorem dX0_wordsOf_5 : decode cX0_wordsOf 5 = .ok (.aload_n 0, 1) := by decide +kernel
theorem dX0_wordsOf_6 : decode cX0_wordsOf 6 = .ok (.getfield 29, 3) := by decide +kernel
theorem dX0_wordsOf_9 : decode cX0_wordsOf 9 = .ok (.if_icmp .ge 28, 3) := by decide +kernel
theorem dX0_wordsOf_12 : decode cX0_wordsOf 12 = .ok (.iload_n 1, 1) := by decide +kernel
theorem dX0_wordsOf_13 : decode cX0_wordsOf 13 = .ok (.iload_n 3, 1) := by decide +kernel
theorem dX0_wordsOf_14 : decode cX0_wordsOf 14 = .ok (.ishr, 1) := by decide +kernel
theorem dX0_wordsOf_15 : decode cX0_wordsOf 15 = .ok (.iconst 1, 1) := by decide +kernel
theorem dX0_wordsOf_16 : decode cX0_wordsOf 16 = .ok (.iand, 1) := by decide +kernel
theorem dX0_wordsOf_17 : decode cX0_wordsOf 17 = .ok (.ifCond .eq 14, 3) := by decide +kernel
theorem dX0_wordsOf_20 : decode cX0_wordsOf 20 = .ok (.iload_n 2, 1) := by decide +kernel
theorem dX0_wordsOf_21 : decode cX0_wordsOf 21 = .ok (.iconst 1, 1) := by decide +kernel
theorem dX0_wordsOf_22 : decode cX0_wordsOf 22 = .ok (.aload_n 0, 1) := by decide +kernel
theorem dX0_wordsOf_23 : decode cX0_wordsOf 23 = .ok (.getfield 18, 3) := by decide +kernel
theorem dX0_wordsOf_26 : decode cX0_wordsOf 26 = .ok (.iload_n 3, 1) := by decide +kernel
theorem dX0_wordsOf_27 : decode cX0_wordsOf 27 = .ok (.iaload, 1) := by decide +kernel
theorem dX0_wordsOf_28 : decode cX0_wordsOf 28 = .ok (.ishl, 1) := by decide +kernel
theorem dX0_wordsOf_29 : decode cX0_wordsOf 29 = .ok (.ior, 1) := by decide +kernel
theorem dX0_wordsOf_30 : decode cX0_wordsOf 30 = .ok (.istore_n 2, 1) := by decide +kernel
theorem dX0_wordsOf_31 : decode cX0_wordsOf 31 = .ok (.iinc 3 1, 3) := by decide +kernel
theorem dX0_wordsOf_34 : decode cX0_wordsOf 34 = .ok (.goto (-30), 3) := by decide +kernel
theorem dX0_wordsOf_37 : decode cX0_wordsOf 37 = .ok (.iload_n 2, 1) := by decide +kernel
theorem dX0_wordsOf_38 : decode cX0_wordsOf 38 = .ok (.ireturn, 1) := by decide +kernel
theorem dX0_shareOf_0 : decode cX0_shareOf 0 = .ok (.aload_n 0, 1) := by decide +kernel
theorem dX0_shareOf_1 : decode cX0_shareOf 1 = .ok (.invokevirtual 105, 3) := by decide +kernel
theorem dX0_shareOf_4 : decode cX0_shareOf 4 = .ok (.iconst 0, 1) := by decide +kernel
theorem dX0_shareOf_5 : decode cX0_shareOf 5 = .ok (.istore_n 2, 1) := by decide +kernel
theorem dX0_shareOf_6 : decode cX0_shareOf 6 = .ok (.iconst 0, 1) := by decide +kernel
theorem dX0_shareOf_7 : decode cX0_shareOf 7 = .ok (.istore_n 3, 1) := by decide +kernel
theorem dX0_shareOf_8 : decode cX0_shareOf 8 = .ok (.iload_n 3, 1) := by decide +kernel
theorem dX0_shareOf_9 : decode cX0_shareOf 9 = .ok (.aload_n 0, 1) := by decide +kernel
theorem dX0_shareOf_10 : decode cX0_shareOf 10 = .ok (.getfield 29, 3) := by decide +kernel
theorem dX0_shareOf_13 : decode cX0_shareOf 13 = .ok (.if_icmp .ge 23, 3) := by decide +kernel
theorem dX0_shareOf_16 : decode cX0_shareOf 16 = .ok (.aload_n 0, 1) := by decide +kernel
theorem dX0_shareOf_17 : decode cX0_shareOf 17 = .ok (.getfield 18, 3) := by decide +kernel
theorem dX0_shareOf_20 : decode cX0_shareOf 20 = .ok (.iload_n 3, 1) := by decide +kernel
theorem dX0_shareOf_21 : decode cX0_shareOf 21 = .ok (.iaload, 1) := by decide +kernel
theorem dX0_shareOf_22 : decode cX0_shareOf 22 = .ok (.iload_n 1, 1) := by decide +kernel
theorem dX0_shareOf_23 : decode cX0_shareOf 23 = .ok (.if_icmp .ne 7, 3) := by decide +kernel
theorem dX0_shareOf_26 : decode cX0_shareOf 26 = .ok (.iconst 1, 1) := by decide +kernel
theorem dX0_shareOf_27 : decode cX0_shareOf 27 = .ok (.iload_n 3, 1) := by decide +kernel
theorem dX0_shareOf_28 : decode cX0_shareOf 28 = .ok (.ishl, 1) := by decide +kernel
theorem dX0_shareOf_29 : decode cX0_shareOf 29 = .ok (.istore_n 2, 1) := by decide +kernel
theorem dX0_shareOf_30 : decode cX0_shareOf 30 = .ok (.iinc 3 1, 3) := by decide +kernel
theorem dX0_shareOf_33 : decode cX0_shareOf 33 = .ok (.goto (-25), 3) := by decide +kernel
theorem dX0_shareOf_36 : decode cX0_shareOf 36 = .ok (.lconst 0, 1) := by decide +kernel
theorem dX0_shareOf_37 : decode cX0_shareOf 37 = .ok (.lstore_n 3, 1) := by decide +kernel
theorem dX0_shareOf_38 : decode cX0_shareOf 38 = .ok (.iconst 0, 1) := by decide +kernel
theorem dX0_shareOf_39 : decode cX0_shareOf 39 = .ok (.istore 5, 2) := by decide +kernel
theorem dX0_shareOf_41 : decode cX0_shareOf 41 = .ok (.iload 5, 2) := by decide +kernel
theorem dX0_shareOf_43 : decode cX0_shareOf 43 = .ok (.iconst 1, 1) := by decide +kernel
theorem dX0_shareOf_44 : decode cX0_shareOf 44 = .ok (.aload_n 0, 1) := by decide +kernel
theorem dX0_shareOf_45 : decode cX0_shareOf 45 = .ok (.getfield 29, 3) := by decide +kernel
theorem dX0_shareOf_48 : decode cX0_shareOf 48 = .ok (.ishl, 1) := by decide +kernel
theorem dX0_shareOf_49 : decode cX0_shareOf 49 = .ok (.if_icmp .ge 72, 3) := by decide +kernel
theorem dX0_shareOf_52 : decode cX0_shareOf 52 = .ok (.iload 5, 2) := by decide +kernel
theorem dX0_shareOf_54 : decode cX0_shareOf 54 = .ok (.iload_n 2, 1) := by decide +kernel
theorem dX0_shareOf_55 : decode cX0_shareOf 55 = .ok (.iand, 1) := by decide +kernel
theorem dX0_shareOf_56 : decode cX0_shareOf 56 = .ok (.ifCond .eq 59, 3) := by decide +kernel
theorem dX0_shareOf_59 : decode cX0_shareOf 59 = .ok (.iload 5, 2) := by decide +kernel
theorem dX0_shareOf_61 : decode cX0_shareOf 61 = .ok (.invokestatic 62, 3) := by decide +kernel
theorem dX0_shareOf_64 : decode cX0_shareOf 64 = .ok (.iconst 1, 1) := by decide +kernel
theorem dX0_shareOf_65 : decode cX0_shareOf 65 = .ok (.isub, 1) := by decide +kernel
theorem dX0_shareOf_66 : decode cX0_shareOf 66 = .ok (.istore 6, 2) := by decide +kernel
theorem dX0_shareOf_68 : decode cX0_shareOf 68 = .ok (.getstatic 68, 3) := by decide +kernel
theorem dX0_shareOf_71 : decode cX0_shareOf 71 = .ok (.iload 6, 2) := by decide +kernel
theorem dX0_shareOf_73 : decode cX0_shareOf 73 = .ok (.iaload, 1) := by decide +kernel
theorem dX0_shareOf_74 : decode cX0_shareOf 74 = .ok (.i2l, 1) := by decide +kernel
theorem dX0_shareOf_75 : decode cX0_shareOf 75 = .ok (.getstatic 68, 3) := by decide +kernel
theorem dX0_shareOf_78 : decode cX0_shareOf 78 = .ok (.aload_n 0, 1) := by decide +kernel
theorem dX0_shareOf_79 : decode cX0_shareOf 79 = .ok (.getfield 29, 3) := by decide +kernel
theorem dX0_shareOf_82 : decode cX0_shareOf 82 = .ok (.iconst 1, 1) := by decide +kernel
theorem dX0_shareOf_83 : decode cX0_shareOf 83 = .ok (.isub, 1) := by decide +kernel
theorem dX0_shareOf_84 : decode cX0_shareOf 84 = .ok (.iload 6, 2) := by decide +kernel
theorem dX0_shareOf_86 : decode cX0_shareOf 86 = .ok (.isub, 1) := by decide +kernel
theorem dX0_shareOf_87 : decode cX0_shareOf 87 = .ok (.iaload, 1) := by decide +kernel
theorem dX0_shareOf_88 : decode cX0_shareOf 88 = .ok (.i2l, 1) := by decide +kernel
theorem dX0_shareOf_89 : decode cX0_shareOf 89 = .ok (.lmul, 1) := by decide +kernel
theorem dX0_shareOf_90 : decode cX0_shareOf 90 = .ok (.lstore 7, 2) := by decide +kernel
theorem dX0_shareOf_92 : decode cX0_shareOf 92 = .ok (.lload_n 3, 1) := by decide +kernel
theorem dX0_shareOf_93 : decode cX0_shareOf 93 = .ok (.lload 7, 2) := by decide +kernel
theorem dX0_shareOf_95 : decode cX0_shareOf 95 = .ok (.aload_n 0, 1) := by decide +kernel
theorem dX0_shareOf_96 : decode cX0_shareOf 96 = .ok (.getfield 26, 3) := by decide +kernel
theorem dX0_shareOf_99 : decode cX0_shareOf 99 = .ok (.iload 5, 2) := by decide +kernel
theorem dX0_shareOf_101 : decode cX0_shareOf 101 = .ok (.laload, 1) := by decide +kernel
theorem dX0_shareOf_102 : decode cX0_shareOf 102 = .ok (.aload_n 0, 1) := by decide +kernel
theorem dX0_shareOf_103 : decode cX0_shareOf 103 = .ok (.getfield 26, 3) := by decide +kernel
theorem dX0_shareOf_106 : decode cX0_shareOf 106 = .ok (.iload 5, 2) := by decide +kernel
theorem dX0_shareOf_108 : decode cX0_shareOf 108 = .ok (.iload_n 2, 1) := by decide +kernel
theorem dX0_shareOf_109 : decode cX0_shareOf 109 = .ok (.ixor, 1) := by decide +kernel
theorem dX0_shareOf_110 : decode cX0_shareOf 110 = .ok (.laload, 1) := by decide +kernel
theorem dX0_shareOf_111 : decode cX0_shareOf 111 = .ok (.lsub, 1) := by decide +kernel
theorem dX0_shareOf_112 : decode cX0_shareOf 112 = .ok (.lmul, 1) := by decide +kernel
theorem dX0_shareOf_113 : decode cX0_shareOf 113 = .ok (.ladd, 1) := by decide +kernel
theorem dX0_shareOf_114 : decode cX0_shareOf 114 = .ok (.lstore_n 3, 1) := by decide +kernel
theorem dX0_shareOf_115 : decode cX0_shareOf 115 = .ok (.iinc 5 1, 3) := by decide +kernel
theorem dX0_shareOf_118 : decode cX0_shareOf 118 = .ok (.goto (-77), 3) := by decide +kernel
theorem dX0_shareOf_121 : decode cX0_shareOf 121 = .ok (.lload_n 3, 1) := by decide +kernel
theorem dX0_shareOf_122 : decode cX0_shareOf 122 = .ok (.lreturn, 1) := by decide +kernel
theorem dX0_hopeAt_0 : decode cX0_hopeAt 0 = .ok (.aload_n 0, 1) := by decide +kernel
theorem dX0_hopeAt_1 : decode cX0_hopeAt 1 = .ok (.invokevirtual 91, 3) := by decide +kernel
theorem dX0_hopeAt_4 : decode cX0_hopeAt 4 = .ok (.lconst 0, 1) := by decide +kernel
theorem dX0_hopeAt_5 : decode cX0_hopeAt 5 = .ok (.lstore_n 2, 1) := by decide +kernel
theorem dX0_hopeAt_6 : decode cX0_hopeAt 6 = .ok (.iconst 0, 1) := by decide +kernel
theorem dX0_hopeAt_7 : decode cX0_hopeAt 7 = .ok (.istore 4, 2) := by decide +kernel
theorem dX0_hopeAt_9 : decode cX0_hopeAt 9 = .ok (.iload 4, 2) := by decide +kernel
theorem dX0_hopeAt_11 : decode cX0_hopeAt 11 = .ok (.iconst 1, 1) := by decide +kernel
theorem dX0_hopeAt_12 : decode cX0_hopeAt 12 = .ok (.aload_n 0, 1) := by decide +kernel
theorem dX0_hopeAt_13 : decode cX0_hopeAt 13 = .ok (.getfield 29, 3) := by decide +kernel
theorem dX0_hopeAt_16 : decode cX0_hopeAt 16 = .ok (.ishl, 1) := by decide +kernel
theorem dX0_hopeAt_17 : decode cX0_hopeAt 17 = .ok (.if_icmp .ge 49, 3) := by decide +kernel
theorem dX0_hopeAt_20 : decode cX0_hopeAt 20 = .ok (.aload_n 0, 1) := by decide +kernel
theorem dX0_hopeAt_21 : decode cX0_hopeAt 21 = .ok (.iload 4, 2) := by decide +kernel
theorem dX0_hopeAt_23 : decode cX0_hopeAt 23 = .ok (.invokevirtual 94, 3) := by decide +kernel
theorem dX0_hopeAt_26 : decode cX0_hopeAt 26 = .ok (.ifCond .eq 34, 3) := by decide +kernel
theorem dX0_hopeAt_29 : decode cX0_hopeAt 29 = .ok (.iload 4, 2) := by decide +kernel
theorem dX0_hopeAt_31 : decode cX0_hopeAt 31 = .ok (.invokestatic 62, 3) := by decide +kernel
theorem dX0_hopeAt_34 : decode cX0_hopeAt 34 = .ok (.istore 5, 2) := by decide +kernel
theorem dX0_hopeAt_36 : decode cX0_hopeAt 36 = .ok (.lload_n 2, 1) := by decide +kernel
theorem dX0_hopeAt_37 : decode cX0_hopeAt 37 = .ok (.bipush 10, 2) := by decide +kernel
theorem dX0_hopeAt_39 : decode cX0_hopeAt 39 = .ok (.iload_n 1, 1) := by decide +kernel
theorem dX0_hopeAt_40 : decode cX0_hopeAt 40 = .ok (.isub, 1) := by decide +kernel
theorem dX0_hopeAt_41 : decode cX0_hopeAt 41 = .ok (.iload 5, 2) := by decide +kernel
theorem dX0_hopeAt_43 : decode cX0_hopeAt 43 = .ok (.invokestatic 108, 3) := by decide +kernel
theorem dX0_hopeAt_46 : decode cX0_hopeAt 46 = .ok (.iload_n 1, 1) := by decide +kernel
theorem dX0_hopeAt_47 : decode cX0_hopeAt 47 = .ok (.aload_n 0, 1) := by decide +kernel
theorem dX0_hopeAt_48 : decode cX0_hopeAt 48 = .ok (.getfield 29, 3) := by decide +kernel
theorem dX0_hopeAt_51 : decode cX0_hopeAt 51 = .ok (.iload 5, 2) := by decide +kernel
theorem dX0_hopeAt_53 : decode cX0_hopeAt 53 = .ok (.isub, 1) := by decide +kernel
theorem dX0_hopeAt_54 : decode cX0_hopeAt 54 = .ok (.invokestatic 108, 3) := by decide +kernel
theorem dX0_hopeAt_57 : decode cX0_hopeAt 57 = .ok (.lmul, 1) := by decide +kernel
theorem dX0_hopeAt_58 : decode cX0_hopeAt 58 = .ok (.ladd, 1) := by decide +kernel
theorem dX0_hopeAt_59 : decode cX0_hopeAt 59 = .ok (.lstore_n 2, 1) := by decide +kernel
theorem dX0_hopeAt_60 : decode cX0_hopeAt 60 = .ok (.iinc 4 1, 3) := by decide +kernel
theorem dX0_hopeAt_63 : decode cX0_hopeAt 63 = .ok (.goto (-54), 3) := by decide +kernel
theorem dX0_hopeAt_66 : decode cX0_hopeAt 66 = .ok (.lload_n 2, 1) := by decide +kernel
theorem dX0_hopeAt_67 : decode cX0_hopeAt 67 = .ok (.lreturn, 1) := by decide +kernel
theorem dX0_hopeBelow_0 : decode cX0_hopeBelow 0 = .ok (.bipush 10, 2) := by decide +kernel
theorem dX0_hopeBelow_2 : decode cX0_hopeBelow 2 = .ok (.aload_n 0, 1) := by decide +kernel
theorem dX0_hopeBelow_3 : decode cX0_hopeBelow 3 = .ok (.getfield 29, 3) := by decide +kernel
theorem dX0_hopeBelow_6 : decode cX0_hopeBelow 6 = .ok (.invokestatic 108, 3) := by decide +kernel
theorem dX0_hopeBelow_9 : decode cX0_hopeBelow 9 = .ok (.lreturn, 1) := by decide +kernel
theorem dX0_power_0 : decode cX0_power 0 = .ok (.lconst 1, 1) := by decide +kernel
theorem dX0_power_1 : decode cX0_power 1 = .ok (.lstore_n 2, 1) := by decide +kernel
theorem dX0_power_2 : decode cX0_power 2 = .ok (.iconst 0, 1) := by decide +kernel
theorem dX0_power_3 : decode cX0_power 3 = .ok (.istore 4, 2) := by decide +kernel
theorem dX0_power_5 : decode cX0_power 5 = .ok (.iload 4, 2) := by decide +kernel
theorem dX0_power_7 : decode cX0_power 7 = .ok (.iload_n 1, 1) := by decide +kernel
theorem dX0_power_8 : decode cX0_power 8 = .ok (.if_icmp .ge 14, 3) := by decide +kernel
theorem dX0_power_11 : decode cX0_power 11 = .ok (.lload_n 2, 1) := by decide +kernel
theorem dX0_power_12 : decode cX0_power 12 = .ok (.iload_n 0, 1) := by decide +kernel
theorem dX0_power_13 : decode cX0_power 13 = .ok (.i2l, 1) := by decide +kernel
theorem dX0_power_14 : decode cX0_power 14 = .ok (.lmul, 1) := by decide +kernel
theorem dX0_power_15 : decode cX0_power 15 = .ok (.lstore_n 2, 1) := by decide +kernel
theorem dX0_power_16 : decode cX0_power 16 = .ok (.iinc 4 1, 3) := by decide +kernel
theorem dX0_power_19 : decode cX0_power 19 = .ok (.goto (-14), 3) := by decide +kernel
theorem dX0_power_22 : decode cX0_power 22 = .ok (.lload_n 2, 1) := by decide +kernel
theorem dX0_power_23 : decode cX0_power 23 = .ok (.lreturn, 1) := by decide +kernel
theorem dX1_init_0 : decode cX1_init 0 = .ok (.aload_n 0, 1) := by decide +kernel
theorem dX1_init_1 : decode cX1_init 1 = .ok (.invokespecial 1, 3) := by decide +kernel
theorem dX1_init_4 : decode cX1_init 4 = .ok (.return_, 1) := by decide +kernel
theorem dX1_none_0 : decode cX1_none 0 = .ok (.lconst 0, 1) := by decide +kernel
theorem dX1_none_1 : decode cX1_none 1 = .ok (.lreturn, 1) := by decide +kernel
theorem dX1_ended_0 : decode cX1_ended 0 = .ok (.lconst 1, 1) := by decide +kernel
theorem dX1_ended_1 : decode cX1_ended 1 = .ok (.lreturn, 1) := by decide +kernel
theorem dX1_joined_0 : decode cX1_joined 0 = .ok (.lload_n 1, 1) := by decide +kernel
theorem dX1_joined_1 : decode cX1_joined 1 = .ok (.lload_n 3, 1) := by decide +kernel
theorem dX1_joined_2 : decode cX1_joined 2 = .ok (.ladd, 1) := by decide +kernel
theorem dX1_joined_3 : decode cX1_joined 3 = .ok (.lreturn, 1) := by decide +kernel
theorem dX1_with_0 : decode cX1_with 0 = .ok (.lload_n 1, 1) := by decide +kernel
theorem dX1_with_1 : decode cX1_with 1 = .ok (.lload_n 3, 1) := by decide +kernel
theorem dX1_with_2 : decode cX1_with 2 = .ok (.ladd, 1) := by decide +kernel
theorem dX1_with_3 : decode cX1_with 3 = .ok (.lreturn, 1) := by decide +kernel
theorem dX2_init_0 : decode cX2_init 0 = .ok (.aload_n 0, 1) := by decide +kernel
theorem dX2_init_1 : decode cX2_init 1 = .ok (.invokespecial 3, 3) := by decide +kernel
theorem dX2_init_4 : decode cX2_init 4 = .ok (.aload_n 0, 1) := by decide +kernel
theorem dX2_init_5 : decode cX2_init 5 = .ok (.bipush 14, 2) := by decide +kernel
theorem dX2_init_7 : decode cX2_init 7 = .ok (.newarray .int, 2) := by decide +kernel
theorem dX2_init_9 : decode cX2_init 9 = .ok (.putfield 9, 3) := by decide +kernel
theorem dX2_init_12 : decode cX2_init 12 = .ok (.aload_n 0, 1) := by decide +kernel
theorem dX2_init_13 : decode cX2_init 13 = .ok (.bipush 14, 2) := by decide +kernel
theorem dX2_init_15 : decode cX2_init 15 = .ok (.newarray .int, 2) := by decide +kernel
theorem dX2_init_17 : decode cX2_init 17 = .ok (.putfield 15, 3) := by decide +kernel
theorem dX2_init_20 : decode cX2_init 20 = .ok (.aload_n 0, 1) := by decide +kernel
theorem dX2_init_21 : decode cX2_init 21 = .ok (.bipush 14, 2) := by decide +kernel
theorem dX2_init_23 : decode cX2_init 23 = .ok (.newarray .int, 2) := by decide +kernel
theorem dX2_init_25 : decode cX2_init 25 = .ok (.putfield 18, 3) := by decide +kernel
theorem dX2_init_28 : decode cX2_init 28 = .ok (.aload_n 0, 1) := by decide +kernel
theorem dX2_init_29 : decode cX2_init 29 = .ok (.iconst 0, 1) := by decide +kernel
theorem dX2_init_30 : decode cX2_init 30 = .ok (.putfield 21, 3) := by decide +kernel
theorem dX2_init_33 : decode cX2_init 33 = .ok (.return_, 1) := by decide +kernel
theorem dX2_note_0 : decode cX2_note 0 = .ok (.aload_n 0, 1) := by decide +kernel
theorem dX2_note_1 : decode cX2_note 1 = .ok (.getfield 21, 3) := by decide +kernel
theorem dX2_note_4 : decode cX2_note 4 = .ok (.bipush 14, 2) := by decide +kernel
theorem dX2_note_6 : decode cX2_note 6 = .ok (.if_icmp .lt 7, 3) := by decide +kernel
theorem dX2_note_9 : decode cX2_note 9 = .ok (.aload_n 0, 1) := by decide +kernel
theorem dX2_note_10 : decode cX2_note 10 = .ok (.invokevirtual 25, 3) := by decide +kernel
theorem dX2_note_13 : decode cX2_note 13 = .ok (.aload_n 0, 1) := by decide +kernel
theorem dX2_note_14 : decode cX2_note 14 = .ok (.getfield 9, 3) := by decide +kernel
theorem dX2_note_17 : decode cX2_note 17 = .ok (.aload_n 0, 1) := by decide +kernel
theorem dX2_note_18 : decode cX2_note 18 = .ok (.getfield 21, 3) := by decide +kernel
theorem dX2_note_21 : decode cX2_note 21 = .ok (.iload_n 1, 1) := by decide +kernel
theorem dX2_note_22 : decode cX2_note 22 = .ok (.iastore, 1) := by decide +kernel
theorem dX2_note_23 : decode cX2_note 23 = .ok (.aload_n 0, 1) := by decide +kernel
theorem dX2_note_24 : decode cX2_note 24 = .ok (.getfield 15, 3) := by decide +kernel
theorem dX2_note_27 : decode cX2_note 27 = .ok (.aload_n 0, 1) := by decide +kernel
theorem dX2_note_28 : decode cX2_note 28 = .ok (.getfield 21, 3) := by decide +kernel
theorem dX2_note_31 : decode cX2_note 31 = .ok (.iload_n 2, 1) := by decide +kernel
theorem dX2_note_32 : decode cX2_note 32 = .ok (.iastore, 1) := by decide +kernel
theorem dX2_note_33 : decode cX2_note 33 = .ok (.aload_n 0, 1) := by decide +kernel
theorem dX2_note_34 : decode cX2_note 34 = .ok (.getfield 18, 3) := by decide +kernel
theorem dX2_note_37 : decode cX2_note 37 = .ok (.aload_n 0, 1) := by decide +kernel
theorem dX2_note_38 : decode cX2_note 38 = .ok (.getfield 21, 3) := by decide +kernel
theorem dX2_note_41 : decode cX2_note 41 = .ok (.iload_n 3, 1) := by decide +kernel
theorem dX2_note_42 : decode cX2_note 42 = .ok (.iastore, 1) := by decide +kernel
theorem dX2_note_43 : decode cX2_note 43 = .ok (.aload_n 0, 1) := by decide +kernel
theorem dX2_note_44 : decode cX2_note 44 = .ok (.dup, 1) := by decide +kernel
theorem dX2_note_45 : decode cX2_note 45 = .ok (.getfield 21, 3) := by decide +kernel
theorem dX2_note_48 : decode cX2_note 48 = .ok (.iconst 1, 1) := by decide +kernel
theorem dX2_note_49 : decode cX2_note 49 = .ok (.iadd, 1) := by decide +kernel
theorem dX2_note_50 : decode cX2_note 50 = .ok (.putfield 21, 3) := by decide +kernel
theorem dX2_note_53 : decode cX2_note 53 = .ok (.return_, 1) := by decide +kernel
theorem dX2_forgetFirst_0 : decode cX2_forgetFirst 0 = .ok (.aload_n 0, 1) := by decide +kernel
theorem dX2_forgetFirst_1 : decode cX2_forgetFirst 1 = .ok (.bipush 13, 2) := by decide +kernel
theorem dX2_forgetFirst_3 : decode cX2_forgetFirst 3 = .ok (.putfield 21, 3) := by decide +kernel
theorem dX2_forgetFirst_6 : decode cX2_forgetFirst 6 = .ok (.aload_n 0, 1) := by decide +kernel
theorem dX2_forgetFirst_7 : decode cX2_forgetFirst 7 = .ok (.getfield 9, 3) := by decide +kernel
theorem dX2_forgetFirst_10 : decode cX2_forgetFirst 10 = .ok (.iconst 1, 1) := by decide +kernel
theorem dX2_forgetFirst_11 : decode cX2_forgetFirst 11 = .ok (.aload_n 0, 1) := by decide +kernel
theorem dX2_forgetFirst_12 : decode cX2_forgetFirst 12 = .ok (.getfield 9, 3) := by decide +kernel
theorem dX2_forgetFirst_15 : decode cX2_forgetFirst 15 = .ok (.iconst 0, 1) := by decide +kernel
theorem dX2_forgetFirst_16 : decode cX2_forgetFirst 16 = .ok (.aload_n 0, 1) := by decide +kernel
theorem dX2_forgetFirst_17 : decode cX2_forgetFirst 17 = .ok (.getfield 21, 3) := by decide +kernel
theorem dX2_forgetFirst_20 : decode cX2_forgetFirst 20 = .ok (.invokestatic 28, 3) := by decide +kernel
theorem dX2_forgetFirst_23 : decode cX2_forgetFirst 23 = .ok (.aload_n 0, 1) := by decide +kernel
theorem dX2_forgetFirst_24 : decode cX2_forgetFirst 24 = .ok (.getfield 15, 3) := by decide +kernel
theorem dX2_forgetFirst_27 : decode cX2_forgetFirst 27 = .ok (.iconst 1, 1) := by decide +kernel
theorem dX2_forgetFirst_28 : decode cX2_forgetFirst 28 = .ok (.aload_n 0, 1) := by decide +kernel
theorem dX2_forgetFirst_29 : decode cX2_forgetFirst 29 = .ok (.getfield 15, 3) := by decide +kernel
theorem dX2_forgetFirst_32 : decode cX2_forgetFirst 32 = .ok (.iconst 0, 1) := by decide +kernel
theorem dX2_forgetFirst_33 : decode cX2_forgetFirst 33 = .ok (.aload_n 0, 1) := by decide +kernel
theorem dX2_forgetFirst_34 : decode cX2_forgetFirst 34 = .ok (.getfield 21, 3) := by decide +kernel
theorem dX2_forgetFirst_37 : decode cX2_forgetFirst 37 = .ok (.invokestatic 28, 3) := by decide +kernel
theorem dX2_forgetFirst_40 : decode cX2_forgetFirst 40 = .ok (.aload_n 0, 1) := by decide +kernel
theorem dX2_forgetFirst_41 : decode cX2_forgetFirst 41 = .ok (.getfield 18, 3) := by decide +kernel
theorem dX2_forgetFirst_44 : decode cX2_forgetFirst 44 = .ok (.iconst 1, 1) := by decide +kernel
theorem dX2_forgetFirst_45 : decode cX2_forgetFirst 45 = .ok (.aload_n 0, 1) := by decide +kernel
theorem dX2_forgetFirst_46 : decode cX2_forgetFirst 46 = .ok (.getfield 18, 3) := by decide +kernel
theorem dX2_forgetFirst_49 : decode cX2_forgetFirst 49 = .ok (.iconst 0, 1) := by decide +kernel
theorem dX2_forgetFirst_50 : decode cX2_forgetFirst 50 = .ok (.aload_n 0, 1) := by decide +kernel
theorem dX2_forgetFirst_51 : decode cX2_forgetFirst 51 = .ok (.getfield 21, 3) := by decide +kernel
theorem dX2_forgetFirst_54 : decode cX2_forgetFirst 54 = .ok (.invokestatic 28, 3) := by decide +kernel
theorem dX2_forgetFirst_57 : decode cX2_forgetFirst 57 = .ok (.return_, 1) := by decide +kernel
theorem dX2_undoLast_0 : decode cX2_undoLast 0 = .ok (.aload_n 0, 1) := by decide +kernel
theorem dX2_undoLast_1 : decode cX2_undoLast 1 = .ok (.getfield 21, 3) := by decide +kernel
theorem dX2_undoLast_4 : decode cX2_undoLast 4 = .ok (.ifCond .gt 5, 3) := by decide +kernel
theorem dX2_undoLast_7 : decode cX2_undoLast 7 = .ok (.iconst 0, 1) := by decide +kernel
theorem dX2_undoLast_8 : decode cX2_undoLast 8 = .ok (.ireturn, 1) := by decide +kernel
theorem dX2_undoLast_9 : decode cX2_undoLast 9 = .ok (.aload_n 0, 1) := by decide +kernel
theorem dX2_undoLast_10 : decode cX2_undoLast 10 = .ok (.dup, 1) := by decide +kernel
theorem dX2_undoLast_11 : decode cX2_undoLast 11 = .ok (.getfield 21, 3) := by decide +kernel
theorem dX2_undoLast_14 : decode cX2_undoLast 14 = .ok (.iconst 1, 1) := by decide +kernel
theorem dX2_undoLast_15 : decode cX2_undoLast 15 = .ok (.isub, 1) := by decide +kernel
theorem dX2_undoLast_16 : decode cX2_undoLast 16 = .ok (.putfield 21, 3) := by decide +kernel
theorem dX2_undoLast_19 : decode cX2_undoLast 19 = .ok (.aload_n 1, 1) := by decide +kernel
theorem dX2_undoLast_20 : decode cX2_undoLast 20 = .ok (.aload_n 0, 1) := by decide +kernel
theorem dX2_undoLast_21 : decode cX2_undoLast 21 = .ok (.getfield 9, 3) := by decide +kernel
theorem dX2_undoLast_24 : decode cX2_undoLast 24 = .ok (.aload_n 0, 1) := by decide +kernel
theorem dX2_undoLast_25 : decode cX2_undoLast 25 = .ok (.getfield 21, 3) := by decide +kernel
theorem dX2_undoLast_28 : decode cX2_undoLast 28 = .ok (.iaload, 1) := by decide +kernel
theorem dX2_undoLast_29 : decode cX2_undoLast 29 = .ok (.aload_n 0, 1) := by decide +kernel
theorem dX2_undoLast_30 : decode cX2_undoLast 30 = .ok (.getfield 15, 3) := by decide +kernel
theorem dX2_undoLast_33 : decode cX2_undoLast 33 = .ok (.aload_n 0, 1) := by decide +kernel
theorem dX2_undoLast_34 : decode cX2_undoLast 34 = .ok (.getfield 21, 3) := by decide +kernel
theorem dX2_undoLast_37 : decode cX2_undoLast 37 = .ok (.iaload, 1) := by decide +kernel
theorem dX2_undoLast_38 : decode cX2_undoLast 38 = .ok (.aload_n 0, 1) := by decide +kernel
theorem dX2_undoLast_39 : decode cX2_undoLast 39 = .ok (.getfield 18, 3) := by decide +kernel
theorem dX2_undoLast_42 : decode cX2_undoLast 42 = .ok (.aload_n 0, 1) := by decide +kernel
theorem dX2_undoLast_43 : decode cX2_undoLast 43 = .ok (.getfield 21, 3) := by decide +kernel
theorem dX2_undoLast_46 : decode cX2_undoLast 46 = .ok (.iaload, 1) := by decide +kernel
theorem dX2_undoLast_47 : decode cX2_undoLast 47 = .ok (.invokevirtual 34, 3) := by decide +kernel
theorem dX2_undoLast_50 : decode cX2_undoLast 50 = .ok (.iconst 1, 1) := by decide +kernel
theorem dX2_undoLast_51 : decode cX2_undoLast 51 = .ok (.ireturn, 1) := by decide +kernel
theorem dX3_init_0 : decode cX3_init 0 = .ok (.aload_n 0, 1) := by decide +kernel
theorem dX3_init_1 : decode cX3_init 1 = .ok (.invokespecial 3, 3) := by decide +kernel
theorem dX3_init_4 : decode cX3_init 4 = .ok (.aload_n 0, 1) := by decide +kernel
theorem dX3_init_5 : decode cX3_init 5 = .ok (.bipush 10, 2) := by decide +kernel
theorem dX3_init_7 : decode cX3_init 7 = .ok (.newarray .long, 2) := by decide +kernel
theorem dX3_init_9 : decode cX3_init 9 = .ok (.putfield 9, 3) := by decide +kernel
theorem dX3_init_12 : decode cX3_init 12 = .ok (.return_, 1) := by decide +kernel
theorem dX3_none_0 : decode cX3_none 0 = .ok (.lconst 0, 1) := by decide +kernel
theorem dX3_none_1 : decode cX3_none 1 = .ok (.lreturn, 1) := by decide +kernel
theorem dX3_ended_0 : decode cX3_ended 0 = .ok (.ldc2_w 15, 3) := by decide +kernel
theorem dX3_ended_3 : decode cX3_ended 3 = .ok (.lreturn, 1) := by decide +kernel
theorem dX3_joined_0 : decode cX3_joined 0 = .ok (.lload_n 1, 1) := by decide +kernel
theorem dX3_joined_1 : decode cX3_joined 1 = .ok (.lload_n 3, 1) := by decide +kernel
theorem dX3_joined_2 : decode cX3_joined 2 = .ok (.lor, 1) := by decide +kernel
theorem dX3_joined_3 : decode cX3_joined 3 = .ok (.lreturn, 1) := by decide +kernel
theorem dX3_with_0 : decode cX3_with 0 = .ok (.lload_n 1, 1) := by decide +kernel
theorem dX3_with_1 : decode cX3_with 1 = .ok (.lload_n 3, 1) := by decide +kernel
theorem dX3_with_2 : decode cX3_with 2 = .ok (.aload_n 0, 1) := by decide +kernel
theorem dX3_with_3 : decode cX3_with 3 = .ok (.getfield 9, 3) := by decide +kernel
theorem dX3_with_6 : decode cX3_with 6 = .ok (.iload 5, 2) := by decide +kernel
theorem dX3_with_8 : decode cX3_with 8 = .ok (.laload, 1) := by decide +kernel
theorem dX3_with_9 : decode cX3_with 9 = .ok (.land, 1) := by decide +kernel
theorem dX3_with_10 : decode cX3_with 10 = .ok (.lor, 1) := by decide +kernel
theorem dX3_with_11 : decode cX3_with 11 = .ok (.lreturn, 1) := by decide +kernel
theorem dX4_init_0 : decode cX4_init 0 = .ok (.aload_n 0, 1) := by decide +kernel
theorem dX4_init_1 : decode cX4_init 1 = .ok (.invokespecial 3, 3) := by decide +kernel
theorem dX4_init_4 : decode cX4_init 4 = .ok (.aload_n 0, 1) := by decide +kernel
theorem dX4_init_5 : decode cX4_init 5 = .ok (.sipush 1944, 3) := by decide +kernel
theorem dX4_init_8 : decode cX4_init 8 = .ok (.newarray .long, 2) := by decide +kernel
theorem dX4_init_10 : decode cX4_init 10 = .ok (.putfield 9, 3) := by decide +kernel
theorem dX4_init_13 : decode cX4_init 13 = .ok (.aload_n 0, 1) := by decide +kernel
theorem dX4_init_14 : decode cX4_init 14 = .ok (.sipush 1944, 3) := by decide +kernel
theorem dX4_init_17 : decode cX4_init 17 = .ok (.newarray .int, 2) := by decide +kernel
theorem dX4_init_19 : decode cX4_init 19 = .ok (.putfield 15, 3) := by decide +kernel
theorem dX4_init_22 : decode cX4_init 22 = .ok (.aload_n 0, 1) := by decide +kernel
theorem dX4_init_23 : decode cX4_init 23 = .ok (.sipush 1944, 3) := by decide +kernel
theorem dX4_init_26 : decode cX4_init 26 = .ok (.newarray .int, 2) := by decide +kernel
theorem dX4_init_28 : decode cX4_init 28 = .ok (.putfield 19, 3) := by decide +kernel
theorem dX4_init_31 : decode cX4_init 31 = .ok (.aload_n 0, 1) := by decide +kernel
theorem dX4_init_32 : decode cX4_init 32 = .ok (.sipush 1944, 3) := by decide +kernel
theorem dX4_init_35 : decode cX4_init 35 = .ok (.newarray .int, 2) := by decide +kernel
theorem dX4_init_37 : decode cX4_init 37 = .ok (.putfield 22, 3) := by decide +kernel
theorem dX4_init_40 : decode cX4_init 40 = .ok (.aload_n 0, 1) := by decide +kernel
theorem dX4_init_41 : decode cX4_init 41 = .ok (.bipush 8, 2) := by decide +kernel
theorem dX4_init_43 : decode cX4_init 43 = .ok (.newarray .int, 2) := by decide +kernel
theorem dX4_init_45 : decode cX4_init 45 = .ok (.putfield 25, 3) := by decide +kernel
theorem dX4_init_48 : decode cX4_init 48 = .ok (.aload_n 0, 1) := by decide +kernel
theorem dX4_init_49 : decode cX4_init 49 = .ok (.bipush 10, 2) := by decide +kernel
theorem dX4_init_51 : decode cX4_init 51 = .ok (.newarray .int, 2) := by decide +kernel
theorem dX4_init_53 : decode cX4_init 53 = .ok (.putfield 28, 3) := by decide +kernel
theorem dX4_init_56 : decode cX4_init 56 = .ok (.aload_n 0, 1) := by decide +kernel
theorem dX4_init_57 : decode cX4_init 57 = .ok (.iconst 4, 1) := by decide +kernel
theorem dX4_init_58 : decode cX4_init 58 = .ok (.newarray .long, 2) := by decide +kernel
theorem dX4_init_60 : decode cX4_init 60 = .ok (.putfield 31, 3) := by decide +kernel
theorem dX4_init_63 : decode cX4_init 63 = .ok (.aload_n 0, 1) := by decide +kernel
theorem dX4_init_64 : decode cX4_init 64 = .ok (.iconst 0, 1) := by decide +kernel
theorem dX4_init_65 : decode cX4_init 65 = .ok (.putfield 34, 3) := by decide +kernel
theorem dX4_init_68 : decode cX4_init 68 = .ok (.aload_n 0, 1) := by decide +kernel
theorem dX4_init_69 : decode cX4_init 69 = .ok (.iconst 0, 1) := by decide +kernel
theorem dX4_init_70 : decode cX4_init 70 = .ok (.putfield 38, 3) := by decide +kernel
theorem dX4_init_73 : decode cX4_init 73 = .ok (.aload_n 0, 1) := by decide +kernel
theorem dX4_init_74 : decode cX4_init 74 = .ok (.iconst 0, 1) := by decide +kernel
theorem dX4_init_75 : decode cX4_init 75 = .ok (.putfield 41, 3) := by decide +kernel
theorem dX4_init_78 : decode cX4_init 78 = .ok (.aload_n 0, 1) := by decide +kernel
theorem dX4_init_79 : decode cX4_init 79 = .ok (.aload_n 1, 1) := by decide +kernel
theorem dX4_init_80 : decode cX4_init 80 = .ok (.putfield 44, 3) := by decide +kernel
theorem dX4_init_83 : decode cX4_init 83 = .ok (.aload_n 0, 1) := by decide +kernel
theorem dX4_init_84 : decode cX4_init 84 = .ok (.aload_n 2, 1) := by decide +kernel
theorem dX4_init_85 : decode cX4_init 85 = .ok (.putfield 48, 3) := by decide +kernel
theorem dX4_init_88 : decode cX4_init 88 = .ok (.return_, 1) := by decide +kernel
theorem dX4_lay_0 : decode cX4_lay 0 = .ok (.aload_n 0, 1) := by decide +kernel
theorem dX4_lay_1 : decode cX4_lay 1 = .ok (.invokevirtual 52, 3) := by decide +kernel
theorem dX4_lay_4 : decode cX4_lay 4 = .ok (.aload_n 0, 1) := by decide +kernel
theorem dX4_lay_5 : decode cX4_lay 5 = .ok (.iconst 0, 1) := by decide +kernel
theorem dX4_lay_6 : decode cX4_lay 6 = .ok (.putfield 34, 3) := by decide +kernel
theorem dX4_lay_9 : decode cX4_lay 9 = .ok (.iconst 0, 1) := by decide +kernel
theorem dX4_lay_10 : decode cX4_lay 10 = .ok (.istore_n 1, 1) := by decide +kernel
theorem dX4_lay_11 : decode cX4_lay 11 = .ok (.iload_n 1, 1) := by decide +kernel
theorem dX4_lay_12 : decode cX4_lay 12 = .ok (.aload_n 0, 1) := by decide +kernel
theorem dX4_lay_13 : decode cX4_lay 13 = .ok (.getfield 41, 3) := by decide +kernel
theorem dX4_lay_16 : decode cX4_lay 16 = .ok (.if_icmp .gt 16, 3) := by decide +kernel
theorem dX4_lay_19 : decode cX4_lay 19 = .ok (.aload_n 0, 1) := by decide +kernel
theorem dX4_lay_20 : decode cX4_lay 20 = .ok (.getfield 15, 3) := by decide +kernel
theorem dX4_lay_23 : decode cX4_lay 23 = .ok (.iload_n 1, 1) := by decide +kernel
theorem dX4_lay_24 : decode cX4_lay 24 = .ok (.iconst 0, 1) := by decide +kernel
theorem dX4_lay_25 : decode cX4_lay 25 = .ok (.iastore, 1) := by decide +kernel
theorem dX4_lay_26 : decode cX4_lay 26 = .ok (.iinc 1 1, 3) := by decide +kernel
theorem dX4_lay_29 : decode cX4_lay 29 = .ok (.goto (-18), 3) := by decide +kernel
theorem dX4_lay_32 : decode cX4_lay 32 = .ok (.aload_n 0, 1) := by decide +kernel
theorem dX4_lay_33 : decode cX4_lay 33 = .ok (.getfield 9, 3) := by decide +kernel
theorem dX4_lay_36 : decode cX4_lay 36 = .ok (.aload_n 0, 1) := by decide +kernel
theorem dX4_lay_37 : decode cX4_lay 37 = .ok (.getfield 41, 3) := by decide +kernel
theorem dX4_lay_40 : decode cX4_lay 40 = .ok (.aload_n 0, 1) := by decide +kernel
theorem dX4_lay_41 : decode cX4_lay 41 = .ok (.getfield 48, 3) := by decide +kernel
theorem dX4_lay_44 : decode cX4_lay 44 = .ok (.invokevirtual 55, 3) := by decide +kernel
theorem dX4_lay_47 : decode cX4_lay 47 = .ok (.lastore, 1) := by decide +kernel
theorem dX4_lay_48 : decode cX4_lay 48 = .ok (.aload_n 0, 1) := by decide +kernel
theorem dX4_lay_49 : decode cX4_lay 49 = .ok (.aload_n 0, 1) := by decide +kernel
theorem dX4_lay_50 : decode cX4_lay 50 = .ok (.getfield 9, 3) := by decide +kernel
theorem dX4_lay_53 : decode cX4_lay 53 = .ok (.aload_n 0, 1) := by decide +kernel
theorem dX4_lay_54 : decode cX4_lay 54 = .ok (.getfield 41, 3) := by decide +kernel
theorem dX4_lay_57 : decode cX4_lay 57 = .ok (.laload, 1) := by decide +kernel
theorem dX4_lay_58 : decode cX4_lay 58 = .ok (.invokevirtual 61, 3) := by decide +kernel
theorem dX4_lay_61 : decode cX4_lay 61 = .ok (.aload_n 0, 1) := by decide +kernel
theorem dX4_lay_62 : decode cX4_lay 62 = .ok (.getfield 41, 3) := by decide +kernel
theorem dX4_lay_65 : decode cX4_lay 65 = .ok (.ifCond .le 14, 3) := by decide +kernel
theorem dX4_lay_68 : decode cX4_lay 68 = .ok (.aload_n 0, 1) := by decide +kernel
theorem dX4_lay_69 : decode cX4_lay 69 = .ok (.getfield 15, 3) := by decide +kernel
theorem dX4_lay_72 : decode cX4_lay 72 = .ok (.aload_n 0, 1) := by decide +kernel
theorem dX4_lay_73 : decode cX4_lay 73 = .ok (.getfield 41, 3) := by decide +kernel
theorem dX4_lay_76 : decode cX4_lay 76 = .ok (.bipush 16, 2) := by decide +kernel
theorem dX4_lay_78 : decode cX4_lay 78 = .ok (.iastore, 1) := by decide +kernel
theorem dX4_lay_79 : decode cX4_lay 79 = .ok (.aload_n 0, 1) := by decide +kernel
theorem dX4_lay_80 : decode cX4_lay 80 = .ok (.getfield 41, 3) := by decide +kernel
theorem dX4_lay_83 : decode cX4_lay 83 = .ok (.istore_n 1, 1) := by decide +kernel
theorem dX4_lay_84 : decode cX4_lay 84 = .ok (.iload_n 1, 1) := by decide +kernel
theorem dX4_lay_85 : decode cX4_lay 85 = .ok (.ifCond .le 43, 3) := by decide +kernel
theorem dX4_lay_88 : decode cX4_lay 88 = .ok (.aload_n 0, 1) := by decide +kernel
theorem dX4_lay_89 : decode cX4_lay 89 = .ok (.getfield 15, 3) := by decide +kernel
theorem dX4_lay_92 : decode cX4_lay 92 = .ok (.iload_n 1, 1) := by decide +kernel
theorem dX4_lay_93 : decode cX4_lay 93 = .ok (.iaload, 1) := by decide +kernel
theorem dX4_lay_94 : decode cX4_lay 94 = .ok (.ifCond .eq 28, 3) := by decide +kernel
theorem dX4_lay_97 : decode cX4_lay 97 = .ok (.aload_n 0, 1) := by decide +kernel
theorem dX4_lay_98 : decode cX4_lay 98 = .ok (.getfield 22, 3) := by decide +kernel
theorem dX4_lay_101 : decode cX4_lay 101 = .ok (.aload_n 0, 1) := by decide +kernel
theorem dX4_lay_102 : decode cX4_lay 102 = .ok (.getfield 34, 3) := by decide +kernel
theorem dX4_lay_105 : decode cX4_lay 105 = .ok (.iload_n 1, 1) := by decide +kernel
theorem dX4_lay_106 : decode cX4_lay 106 = .ok (.iastore, 1) := by decide +kernel
theorem dX4_lay_107 : decode cX4_lay 107 = .ok (.aload_n 0, 1) := by decide +kernel
theorem dX4_lay_108 : decode cX4_lay 108 = .ok (.dup, 1) := by decide +kernel
theorem dX4_lay_109 : decode cX4_lay 109 = .ok (.getfield 34, 3) := by decide +kernel
theorem dX4_lay_112 : decode cX4_lay 112 = .ok (.iconst 1, 1) := by decide +kernel
theorem dX4_lay_113 : decode cX4_lay 113 = .ok (.iadd, 1) := by decide +kernel
theorem dX4_lay_114 : decode cX4_lay 114 = .ok (.putfield 34, 3) := by decide +kernel
theorem dX4_lay_117 : decode cX4_lay 117 = .ok (.aload_n 0, 1) := by decide +kernel
theorem dX4_lay_118 : decode cX4_lay 118 = .ok (.iload_n 1, 1) := by decide +kernel
theorem dX4_lay_119 : decode cX4_lay 119 = .ok (.invokevirtual 65, 3) := by decide +kernel
theorem dX4_lay_122 : decode cX4_lay 122 = .ok (.iinc 1 (-1), 3) := by decide +kernel
theorem dX4_lay_125 : decode cX4_lay 125 = .ok (.goto (-41), 3) := by decide +kernel
theorem dX4_lay_128 : decode cX4_lay 128 = .ok (.return_, 1) := by decide +kernel
theorem dX4_reachesEnd_0 : decode cX4_reachesEnd 0 = .ok (.aload_n 0, 1) := by decide +kernel
theorem dX4_reachesEnd_1 : decode cX4_reachesEnd 1 = .ok (.getfield 15, 3) := by decide +kernel
theorem dX4_reachesEnd_4 : decode cX4_reachesEnd 4 = .ok (.iconst 0, 1) := by decide +kernel
theorem dX4_reachesEnd_5 : decode cX4_reachesEnd 5 = .ok (.iaload, 1) := by decide +kernel
theorem dX4_reachesEnd_6 : decode cX4_reachesEnd 6 = .ok (.ifCond .eq 7, 3) := by decide +kernel
theorem dX4_reachesEnd_9 : decode cX4_reachesEnd 9 = .ok (.iconst 1, 1) := by decide +kernel
theorem dX4_reachesEnd_10 : decode cX4_reachesEnd 10 = .ok (.goto 4, 3) := by decide +kernel
theorem dX4_reachesEnd_13 : decode cX4_reachesEnd 13 = .ok (.iconst 0, 1) := by decide +kernel
theorem dX4_reachesEnd_14 : decode cX4_reachesEnd 14 = .ok (.ireturn, 1) := by decide +kernel
theorem dX4_measure_0 : decode cX4_measure 0 = .ok (.iconst 1, 1) := by decide +kernel
theorem dX4_measure_1 : decode cX4_measure 1 = .ok (.istore_n 1, 1) := by decide +kernel
theorem dX4_measure_2 : decode cX4_measure 2 = .ok (.iconst 0, 1) := by decide +kernel
theorem dX4_measure_3 : decode cX4_measure 3 = .ok (.istore_n 2, 1) := by decide +kernel
theorem dX4_measure_4 : decode cX4_measure 4 = .ok (.iload_n 2, 1) := by decide +kernel
theorem dX4_measure_5 : decode cX4_measure 5 = .ok (.bipush 8, 2) := by decide +kernel
theorem dX4_measure_7 : decode cX4_measure 7 = .ok (.if_icmp .ge 30, 3) := by decide +kernel
theorem dX4_measure_10 : decode cX4_measure 10 = .ok (.aload_n 0, 1) := by decide +kernel
theorem dX4_measure_11 : decode cX4_measure 11 = .ok (.getfield 25, 3) := by decide +kernel
theorem dX4_measure_14 : decode cX4_measure 14 = .ok (.iload_n 2, 1) := by decide +kernel
theorem dX4_measure_15 : decode cX4_measure 15 = .ok (.iload_n 1, 1) := by decide +kernel
theorem dX4_measure_16 : decode cX4_measure 16 = .ok (.iastore, 1) := by decide +kernel
theorem dX4_measure_17 : decode cX4_measure 17 = .ok (.iload_n 1, 1) := by decide +kernel
theorem dX4_measure_18 : decode cX4_measure 18 = .ok (.aload_n 0, 1) := by decide +kernel
theorem dX4_measure_19 : decode cX4_measure 19 = .ok (.getfield 48, 3) := by decide +kernel
theorem dX4_measure_22 : decode cX4_measure 22 = .ok (.getfield 69, 3) := by decide +kernel
theorem dX4_measure_25 : decode cX4_measure 25 = .ok (.iload_n 2, 1) := by decide +kernel
theorem dX4_measure_26 : decode cX4_measure 26 = .ok (.iaload, 1) := by decide +kernel
theorem dX4_measure_27 : decode cX4_measure 27 = .ok (.iconst 1, 1) := by decide +kernel
theorem dX4_measure_28 : decode cX4_measure 28 = .ok (.iadd, 1) := by decide +kernel
theorem dX4_measure_29 : decode cX4_measure 29 = .ok (.imul, 1) := by decide +kernel
theorem dX4_measure_30 : decode cX4_measure 30 = .ok (.istore_n 1, 1) := by decide +kernel
theorem dX4_measure_31 : decode cX4_measure 31 = .ok (.iinc 2 1, 3) := by decide +kernel
theorem dX4_measure_34 : decode cX4_measure 34 = .ok (.goto (-30), 3) := by decide +kernel
theorem dX4_measure_37 : decode cX4_measure 37 = .ok (.aload_n 0, 1) := by decide +kernel
theorem dX4_measure_38 : decode cX4_measure 38 = .ok (.iload_n 1, 1) := by decide +kernel
theorem dX4_measure_39 : decode cX4_measure 39 = .ok (.iconst 1, 1) := by decide +kernel
theorem dX4_measure_40 : decode cX4_measure 40 = .ok (.if_icmp .lt 16, 3) := by decide +kernel
theorem dX4_measure_43 : decode cX4_measure 43 = .ok (.iload_n 1, 1) := by decide +kernel
theorem dX4_measure_44 : decode cX4_measure 44 = .ok (.sipush 1944, 3) := by decide +kernel
theorem dX4_measure_47 : decode cX4_measure 47 = .ok (.if_icmp .gt 9, 3) := by decide +kernel
theorem dX4_measure_50 : decode cX4_measure 50 = .ok (.iload_n 1, 1) := by decide +kernel
theorem dX4_measure_51 : decode cX4_measure 51 = .ok (.iconst 1, 1) := by decide +kernel
theorem dX4_measure_52 : decode cX4_measure 52 = .ok (.isub, 1) := by decide +kernel
theorem dX4_measure_53 : decode cX4_measure 53 = .ok (.goto 4, 3) := by decide +kernel
theorem dX4_measure_56 : decode cX4_measure 56 = .ok (.iconst 0, 1) := by decide +kernel
theorem dX4_measure_57 : decode cX4_measure 57 = .ok (.putfield 41, 3) := by decide +kernel
theorem dX4_measure_60 : decode cX4_measure 60 = .ok (.return_, 1) := by decide +kernel
theorem dX4_listSteps_0 : decode cX4_listSteps 0 = .ok (.aload_n 0, 1) := by decide +kernel
theorem dX4_listSteps_1 : decode cX4_listSteps 1 = .ok (.iconst 0, 1) := by decide +kernel
theorem dX4_listSteps_2 : decode cX4_listSteps 2 = .ok (.putfield 38, 3) := by decide +kernel
theorem dX4_listSteps_5 : decode cX4_listSteps 5 = .ok (.iconst 0, 1) := by decide +kernel
theorem dX4_listSteps_6 : decode cX4_listSteps 6 = .ok (.istore_n 3, 1) := by decide +kernel
theorem dX4_listSteps_7 : decode cX4_listSteps 7 = .ok (.iload_n 3, 1) := by decide +kernel
theorem dX4_listSteps_8 : decode cX4_listSteps 8 = .ok (.aload_n 0, 1) := by decide +kernel
theorem dX4_listSteps_9 : decode cX4_listSteps 9 = .ok (.getfield 44, 3) := by decide +kernel
theorem dX4_listSteps_12 : decode cX4_listSteps 12 = .ok (.getfield 72, 3) := by decide +kernel
theorem dX4_listSteps_15 : decode cX4_listSteps 15 = .ok (.if_icmp .ge 104, 3) := by decide +kernel
theorem dX4_listSteps_18 : decode cX4_listSteps 18 = .ok (.aload_n 0, 1) := by decide +kernel
theorem dX4_listSteps_19 : decode cX4_listSteps 19 = .ok (.getfield 48, 3) := by decide +kernel
theorem dX4_listSteps_22 : decode cX4_listSteps 22 = .ok (.getfield 77, 3) := by decide +kernel
theorem dX4_listSteps_25 : decode cX4_listSteps 25 = .ok (.iload_n 3, 1) := by decide +kernel
theorem dX4_listSteps_26 : decode cX4_listSteps 26 = .ok (.ishr, 1) := by decide +kernel
theorem dX4_listSteps_27 : decode cX4_listSteps 27 = .ok (.iconst 1, 1) := by decide +kernel
theorem dX4_listSteps_28 : decode cX4_listSteps 28 = .ok (.iand, 1) := by decide +kernel
theorem dX4_listSteps_29 : decode cX4_listSteps 29 = .ok (.ifCond .ne 84, 3) := by decide +kernel
theorem dX4_listSteps_32 : decode cX4_listSteps 32 = .ok (.lload_n 1, 1) := by decide +kernel
theorem dX4_listSteps_33 : decode cX4_listSteps 33 = .ok (.aload_n 0, 1) := by decide +kernel
theorem dX4_listSteps_34 : decode cX4_listSteps 34 = .ok (.getfield 44, 3) := by decide +kernel
theorem dX4_listSteps_37 : decode cX4_listSteps 37 = .ok (.getfield 80, 3) := by decide +kernel
theorem dX4_listSteps_40 : decode cX4_listSteps 40 = .ok (.iload_n 3, 1) := by decide +kernel
theorem dX4_listSteps_41 : decode cX4_listSteps 41 = .ok (.laload, 1) := by decide +kernel
theorem dX4_listSteps_42 : decode cX4_listSteps 42 = .ok (.invokestatic 81, 3) := by decide +kernel
theorem dX4_listSteps_45 : decode cX4_listSteps 45 = .ok (.ifCond .ne 6, 3) := by decide +kernel
theorem dX4_listSteps_48 : decode cX4_listSteps 48 = .ok (.goto 65, 3) := by decide +kernel
theorem dX4_listSteps_51 : decode cX4_listSteps 51 = .ok (.aload_n 0, 1) := by decide +kernel
theorem dX4_listSteps_52 : decode cX4_listSteps 52 = .ok (.dup, 1) := by decide +kernel
theorem dX4_listSteps_53 : decode cX4_listSteps 53 = .ok (.getfield 38, 3) := by decide +kernel
theorem dX4_listSteps_56 : decode cX4_listSteps 56 = .ok (.iconst 1, 1) := by decide +kernel
theorem dX4_listSteps_57 : decode cX4_listSteps 57 = .ok (.iload_n 3, 1) := by decide +kernel
theorem dX4_listSteps_58 : decode cX4_listSteps 58 = .ok (.ishl, 1) := by decide +kernel
theorem dX4_listSteps_59 : decode cX4_listSteps 59 = .ok (.ior, 1) := by decide +kernel
theorem dX4_listSteps_60 : decode cX4_listSteps 60 = .ok (.putfield 38, 3) := by decide +kernel
theorem dX4_listSteps_63 : decode cX4_listSteps 63 = .ok (.iconst 0, 1) := by decide +kernel
theorem dX4_listSteps_64 : decode cX4_listSteps 64 = .ok (.istore 4, 2) := by decide +kernel
theorem dX4_listSteps_66 : decode cX4_listSteps 66 = .ok (.iconst 0, 1) := by decide +kernel
theorem dX4_listSteps_67 : decode cX4_listSteps 67 = .ok (.istore 5, 2) := by decide +kernel
theorem dX4_listSteps_69 : decode cX4_listSteps 69 = .ok (.iload 5, 2) := by decide +kernel
theorem dX4_listSteps_71 : decode cX4_listSteps 71 = .ok (.bipush 8, 2) := by decide +kernel
theorem dX4_listSteps_73 : decode cX4_listSteps 73 = .ok (.if_icmp .ge 32, 3) := by decide +kernel
theorem dX4_listSteps_76 : decode cX4_listSteps 76 = .ok (.iload 4, 2) := by decide +kernel
theorem dX4_listSteps_78 : decode cX4_listSteps 78 = .ok (.aload_n 0, 1) := by decide +kernel
theorem dX4_listSteps_79 : decode cX4_listSteps 79 = .ok (.getfield 44, 3) := by decide +kernel
theorem dX4_listSteps_82 : decode cX4_listSteps 82 = .ok (.iload_n 3, 1) := by decide +kernel
theorem dX4_listSteps_83 : decode cX4_listSteps 83 = .ok (.iload 5, 2) := by decide +kernel
theorem dX4_listSteps_85 : decode cX4_listSteps 85 = .ok (.invokevirtual 85, 3) := by decide +kernel
theorem dX4_listSteps_88 : decode cX4_listSteps 88 = .ok (.aload_n 0, 1) := by decide +kernel
theorem dX4_listSteps_89 : decode cX4_listSteps 89 = .ok (.getfield 25, 3) := by decide +kernel
theorem dX4_listSteps_92 : decode cX4_listSteps 92 = .ok (.iload 5, 2) := by decide +kernel
theorem dX4_listSteps_94 : decode cX4_listSteps 94 = .ok (.iaload, 1) := by decide +kernel
theorem dX4_listSteps_95 : decode cX4_listSteps 95 = .ok (.imul, 1) := by decide +kernel
theorem dX4_listSteps_96 : decode cX4_listSteps 96 = .ok (.iadd, 1) := by decide +kernel
theorem dX4_listSteps_97 : decode cX4_listSteps 97 = .ok (.istore 4, 2) := by decide +kernel
theorem dX4_listSteps_99 : decode cX4_listSteps 99 = .ok (.iinc 5 1, 3) := by decide +kernel
theorem dX4_listSteps_102 : decode cX4_listSteps 102 = .ok (.goto (-33), 3) := by decide +kernel
theorem dX4_listSteps_105 : decode cX4_listSteps 105 = .ok (.aload_n 0, 1) := by decide +kernel
theorem dX4_listSteps_106 : decode cX4_listSteps 106 = .ok (.getfield 28, 3) := by decide +kernel
theorem dX4_listSteps_109 : decode cX4_listSteps 109 = .ok (.iload_n 3, 1) := by decide +kernel
theorem dX4_listSteps_110 : decode cX4_listSteps 110 = .ok (.iload 4, 2) := by decide +kernel
theorem dX4_listSteps_112 : decode cX4_listSteps 112 = .ok (.iastore, 1) := by decide +kernel
theorem dX4_listSteps_113 : decode cX4_listSteps 113 = .ok (.iinc 3 1, 3) := by decide +kernel
theorem dX4_listSteps_116 : decode cX4_listSteps 116 = .ok (.goto (-109), 3) := by decide +kernel
theorem dX4_listSteps_119 : decode cX4_listSteps 119 = .ok (.return_, 1) := by decide +kernel
theorem dX4_spread_0 : decode cX4_spread 0 = .ok (.aload_n 0, 1) := by decide +kernel
theorem dX4_spread_1 : decode cX4_spread 1 = .ok (.aload_n 0, 1) := by decide +kernel
theorem dX4_spread_2 : decode cX4_spread 2 = .ok (.getfield 15, 3) := by decide +kernel
theorem dX4_spread_5 : decode cX4_spread 5 = .ok (.iload_n 1, 1) := by decide +kernel
theorem dX4_spread_6 : decode cX4_spread 6 = .ok (.iaload, 1) := by decide +kernel
theorem dX4_spread_7 : decode cX4_spread 7 = .ok (.invokevirtual 89, 3) := by decide +kernel
theorem dX4_spread_10 : decode cX4_spread 10 = .ok (.istore_n 2, 1) := by decide +kernel
theorem dX4_spread_11 : decode cX4_spread 11 = .ok (.iconst 0, 1) := by decide +kernel
theorem dX4_spread_12 : decode cX4_spread 12 = .ok (.istore_n 3, 1) := by decide +kernel
theorem dX4_spread_13 : decode cX4_spread 13 = .ok (.iconst 0, 1) := by decide +kernel
theorem dX4_spread_14 : decode cX4_spread 14 = .ok (.istore 4, 2) := by decide +kernel
theorem dX4_spread_16 : decode cX4_spread 16 = .ok (.iload 4, 2) := by decide +kernel
theorem dX4_spread_18 : decode cX4_spread 18 = .ok (.aload_n 0, 1) := by decide +kernel
theorem dX4_spread_19 : decode cX4_spread 19 = .ok (.getfield 44, 3) := by decide +kernel
theorem dX4_spread_22 : decode cX4_spread 22 = .ok (.getfield 72, 3) := by decide +kernel
theorem dX4_spread_25 : decode cX4_spread 25 = .ok (.if_icmp .ge 151, 3) := by decide +kernel
theorem dX4_spread_28 : decode cX4_spread 28 = .ok (.aload_n 0, 1) := by decide +kernel
theorem dX4_spread_29 : decode cX4_spread 29 = .ok (.getfield 44, 3) := by decide +kernel
theorem dX4_spread_32 : decode cX4_spread 32 = .ok (.getfield 93, 3) := by decide +kernel
theorem dX4_spread_35 : decode cX4_spread 35 = .ok (.iload 4, 2) := by decide +kernel
theorem dX4_spread_37 : decode cX4_spread 37 = .ok (.iaload, 1) := by decide +kernel
theorem dX4_spread_38 : decode cX4_spread 38 = .ok (.istore 5, 2) := by decide +kernel
theorem dX4_spread_40 : decode cX4_spread 40 = .ok (.aload_n 0, 1) := by decide +kernel
theorem dX4_spread_41 : decode cX4_spread 41 = .ok (.getfield 38, 3) := by decide +kernel
theorem dX4_spread_44 : decode cX4_spread 44 = .ok (.iload 4, 2) := by decide +kernel
theorem dX4_spread_46 : decode cX4_spread 46 = .ok (.ishr, 1) := by decide +kernel
theorem dX4_spread_47 : decode cX4_spread 47 = .ok (.iconst 1, 1) := by decide +kernel
theorem dX4_spread_48 : decode cX4_spread 48 = .ok (.iand, 1) := by decide +kernel
theorem dX4_spread_49 : decode cX4_spread 49 = .ok (.ifCond .eq 121, 3) := by decide +kernel
theorem dX4_spread_52 : decode cX4_spread 52 = .ok (.iload_n 2, 1) := by decide +kernel
theorem dX4_spread_53 : decode cX4_spread 53 = .ok (.iload 5, 2) := by decide +kernel
theorem dX4_spread_55 : decode cX4_spread 55 = .ok (.ishr, 1) := by decide +kernel
theorem dX4_spread_56 : decode cX4_spread 56 = .ok (.iconst 1, 1) := by decide +kernel
theorem dX4_spread_57 : decode cX4_spread 57 = .ok (.iand, 1) := by decide +kernel
theorem dX4_spread_58 : decode cX4_spread 58 = .ok (.ifCond .eq 112, 3) := by decide +kernel
theorem dX4_spread_61 : decode cX4_spread 61 = .ok (.aload_n 0, 1) := by decide +kernel
theorem dX4_spread_62 : decode cX4_spread 62 = .ok (.getfield 9, 3) := by decide +kernel
theorem dX4_spread_65 : decode cX4_spread 65 = .ok (.iload_n 1, 1) := by decide +kernel
theorem dX4_spread_66 : decode cX4_spread 66 = .ok (.laload, 1) := by decide +kernel
theorem dX4_spread_67 : decode cX4_spread 67 = .ok (.aload_n 0, 1) := by decide +kernel
theorem dX4_spread_68 : decode cX4_spread 68 = .ok (.getfield 44, 3) := by decide +kernel
theorem dX4_spread_71 : decode cX4_spread 71 = .ok (.getfield 80, 3) := by decide +kernel
theorem dX4_spread_74 : decode cX4_spread 74 = .ok (.iload 4, 2) := by decide +kernel
theorem dX4_spread_76 : decode cX4_spread 76 = .ok (.laload, 1) := by decide +kernel
theorem dX4_spread_77 : decode cX4_spread 77 = .ok (.invokestatic 81, 3) := by decide +kernel
theorem dX4_spread_80 : decode cX4_spread 80 = .ok (.ifCond .ne 6, 3) := by decide +kernel
theorem dX4_spread_83 : decode cX4_spread 83 = .ok (.goto 87, 3) := by decide +kernel
theorem dX4_spread_86 : decode cX4_spread 86 = .ok (.iload_n 1, 1) := by decide +kernel
theorem dX4_spread_87 : decode cX4_spread 87 = .ok (.aload_n 0, 1) := by decide +kernel
theorem dX4_spread_88 : decode cX4_spread 88 = .ok (.getfield 28, 3) := by decide +kernel
theorem dX4_spread_91 : decode cX4_spread 91 = .ok (.iload 4, 2) := by decide +kernel
theorem dX4_spread_93 : decode cX4_spread 93 = .ok (.iaload, 1) := by decide +kernel
theorem dX4_spread_94 : decode cX4_spread 94 = .ok (.isub, 1) := by decide +kernel
theorem dX4_spread_95 : decode cX4_spread 95 = .ok (.istore 6, 2) := by decide +kernel
theorem dX4_spread_97 : decode cX4_spread 97 = .ok (.iload 6, 2) := by decide +kernel
theorem dX4_spread_99 : decode cX4_spread 99 = .ok (.ifCond .lt 71, 3) := by decide +kernel
theorem dX4_spread_102 : decode cX4_spread 102 = .ok (.iload 6, 2) := by decide +kernel
theorem dX4_spread_104 : decode cX4_spread 104 = .ok (.ifCond .ne 21, 3) := by decide +kernel
theorem dX4_spread_107 : decode cX4_spread 107 = .ok (.aload_n 0, 1) := by decide +kernel
theorem dX4_spread_108 : decode cX4_spread 108 = .ok (.getfield 48, 3) := by decide +kernel
theorem dX4_spread_111 : decode cX4_spread 111 = .ok (.getfield 96, 3) := by decide +kernel
theorem dX4_spread_114 : decode cX4_spread 114 = .ok (.iload 5, 2) := by decide +kernel
theorem dX4_spread_116 : decode cX4_spread 116 = .ok (.ishr, 1) := by decide +kernel
theorem dX4_spread_117 : decode cX4_spread 117 = .ok (.iconst 1, 1) := by decide +kernel
theorem dX4_spread_118 : decode cX4_spread 118 = .ok (.iand, 1) := by decide +kernel
theorem dX4_spread_119 : decode cX4_spread 119 = .ok (.ifCond .ne 6, 3) := by decide +kernel
theorem dX4_spread_122 : decode cX4_spread 122 = .ok (.goto 48, 3) := by decide +kernel
theorem dX4_spread_125 : decode cX4_spread 125 = .ok (.iload_n 3, 1) := by decide +kernel
theorem dX4_spread_126 : decode cX4_spread 126 = .ok (.iconst 1, 1) := by decide +kernel
theorem dX4_spread_127 : decode cX4_spread 127 = .ok (.iload 4, 2) := by decide +kernel
theorem dX4_spread_129 : decode cX4_spread 129 = .ok (.ishl, 1) := by decide +kernel
theorem dX4_spread_130 : decode cX4_spread 130 = .ok (.ior, 1) := by decide +kernel
theorem dX4_spread_131 : decode cX4_spread 131 = .ok (.istore_n 3, 1) := by decide +kernel
theorem dX4_spread_132 : decode cX4_spread 132 = .ok (.aload_n 0, 1) := by decide +kernel
theorem dX4_spread_133 : decode cX4_spread 133 = .ok (.getfield 15, 3) := by decide +kernel
theorem dX4_spread_136 : decode cX4_spread 136 = .ok (.iload 6, 2) := by decide +kernel
theorem dX4_spread_138 : decode cX4_spread 138 = .ok (.dup2, 1) := by decide +kernel
theorem dX4_spread_139 : decode cX4_spread 139 = .ok (.iaload, 1) := by decide +kernel
theorem dX4_spread_140 : decode cX4_spread 140 = .ok (.iconst 1, 1) := by decide +kernel
theorem dX4_spread_141 : decode cX4_spread 141 = .ok (.iload 5, 2) := by decide +kernel
theorem dX4_spread_143 : decode cX4_spread 143 = .ok (.ishl, 1) := by decide +kernel
theorem dX4_spread_144 : decode cX4_spread 144 = .ok (.ior, 1) := by decide +kernel
theorem dX4_spread_145 : decode cX4_spread 145 = .ok (.iastore, 1) := by decide +kernel
theorem dX4_spread_146 : decode cX4_spread 146 = .ok (.aload_n 0, 1) := by decide +kernel
theorem dX4_spread_147 : decode cX4_spread 147 = .ok (.getfield 9, 3) := by decide +kernel
theorem dX4_spread_150 : decode cX4_spread 150 = .ok (.iload 6, 2) := by decide +kernel
theorem dX4_spread_152 : decode cX4_spread 152 = .ok (.aload_n 0, 1) := by decide +kernel
theorem dX4_spread_153 : decode cX4_spread 153 = .ok (.getfield 9, 3) := by decide +kernel
theorem dX4_spread_156 : decode cX4_spread 156 = .ok (.iload_n 1, 1) := by decide +kernel
theorem dX4_spread_157 : decode cX4_spread 157 = .ok (.laload, 1) := by decide +kernel
theorem dX4_spread_158 : decode cX4_spread 158 = .ok (.aload_n 0, 1) := by decide +kernel
theorem dX4_spread_159 : decode cX4_spread 159 = .ok (.getfield 44, 3) := by decide +kernel
theorem dX4_spread_162 : decode cX4_spread 162 = .ok (.getfield 80, 3) := by decide +kernel
theorem dX4_spread_165 : decode cX4_spread 165 = .ok (.iload 4, 2) := by decide +kernel
theorem dX4_spread_167 : decode cX4_spread 167 = .ok (.laload, 1) := by decide +kernel
theorem dX4_spread_168 : decode cX4_spread 168 = .ok (.lsub, 1) := by decide +kernel
theorem dX4_spread_169 : decode cX4_spread 169 = .ok (.lastore, 1) := by decide +kernel
theorem dX4_spread_170 : decode cX4_spread 170 = .ok (.iinc 4 1, 3) := by decide +kernel
theorem dX4_spread_173 : decode cX4_spread 173 = .ok (.goto (-157), 3) := by decide +kernel
theorem dX4_spread_176 : decode cX4_spread 176 = .ok (.aload_n 0, 1) := by decide +kernel
theorem dX4_spread_177 : decode cX4_spread 177 = .ok (.getfield 19, 3) := by decide +kernel
theorem dX4_spread_180 : decode cX4_spread 180 = .ok (.iload_n 1, 1) := by decide +kernel
theorem dX4_spread_181 : decode cX4_spread 181 = .ok (.iload_n 3, 1) := by decide +kernel
theorem dX4_spread_182 : decode cX4_spread 182 = .ok (.iastore, 1) := by decide +kernel
theorem dX4_spread_183 : decode cX4_spread 183 = .ok (.return_, 1) := by decide +kernel
theorem dX4_letBehind_0 : decode cX4_letBehind 0 = .ok (.iload_n 1, 1) := by decide +kernel
theorem dX4_letBehind_1 : decode cX4_letBehind 1 = .ok (.bipush 16, 2) := by decide +kernel
theorem dX4_letBehind_3 : decode cX4_letBehind 3 = .ok (.iand, 1) := by decide +kernel
theorem dX4_letBehind_4 : decode cX4_letBehind 4 = .ok (.ifCond .eq 11, 3) := by decide +kernel
theorem dX4_letBehind_7 : decode cX4_letBehind 7 = .ok (.aload_n 0, 1) := by decide +kernel
theorem dX4_letBehind_8 : decode cX4_letBehind 8 = .ok (.getfield 48, 3) := by decide +kernel
theorem dX4_letBehind_11 : decode cX4_letBehind 11 = .ok (.getfield 99, 3) := by decide +kernel
theorem dX4_letBehind_14 : decode cX4_letBehind 14 = .ok (.ireturn, 1) := by decide +kernel
theorem dX4_letBehind_15 : decode cX4_letBehind 15 = .ok (.iconst 0, 1) := by decide +kernel
theorem dX4_letBehind_16 : decode cX4_letBehind 16 = .ok (.istore_n 2, 1) := by decide +kernel
theorem dX4_letBehind_17 : decode cX4_letBehind 17 = .ok (.iconst 0, 1) := by decide +kernel
theorem dX4_letBehind_18 : decode cX4_letBehind 18 = .ok (.istore_n 3, 1) := by decide +kernel
theorem dX4_letBehind_19 : decode cX4_letBehind 19 = .ok (.iload_n 3, 1) := by decide +kernel
theorem dX4_letBehind_20 : decode cX4_letBehind 20 = .ok (.iconst 4, 1) := by decide +kernel
theorem dX4_letBehind_21 : decode cX4_letBehind 21 = .ok (.if_icmp .ge 29, 3) := by decide +kernel
theorem dX4_letBehind_24 : decode cX4_letBehind 24 = .ok (.iload_n 1, 1) := by decide +kernel
theorem dX4_letBehind_25 : decode cX4_letBehind 25 = .ok (.iload_n 3, 1) := by decide +kernel
theorem dX4_letBehind_26 : decode cX4_letBehind 26 = .ok (.ishr, 1) := by decide +kernel
theorem dX4_letBehind_27 : decode cX4_letBehind 27 = .ok (.iconst 1, 1) := by decide +kernel
theorem dX4_letBehind_28 : decode cX4_letBehind 28 = .ok (.iand, 1) := by decide +kernel
theorem dX4_letBehind_29 : decode cX4_letBehind 29 = .ok (.ifCond .eq 15, 3) := by decide +kernel
theorem dX4_letBehind_32 : decode cX4_letBehind 32 = .ok (.iload_n 2, 1) := by decide +kernel
theorem dX4_letBehind_33 : decode cX4_letBehind 33 = .ok (.aload_n 0, 1) := by decide +kernel
theorem dX4_letBehind_34 : decode cX4_letBehind 34 = .ok (.getfield 48, 3) := by decide +kernel
theorem dX4_letBehind_37 : decode cX4_letBehind 37 = .ok (.getfield 102, 3) := by decide +kernel
theorem dX4_letBehind_40 : decode cX4_letBehind 40 = .ok (.iload_n 3, 1) := by decide +kernel
theorem dX4_letBehind_41 : decode cX4_letBehind 41 = .ok (.iaload, 1) := by decide +kernel
theorem dX4_letBehind_42 : decode cX4_letBehind 42 = .ok (.ior, 1) := by decide +kernel
theorem dX4_letBehind_43 : decode cX4_letBehind 43 = .ok (.istore_n 2, 1) := by decide +kernel
theorem dX4_letBehind_44 : decode cX4_letBehind 44 = .ok (.iinc 3 1, 3) := by decide +kernel
theorem dX4_letBehind_47 : decode cX4_letBehind 47 = .ok (.goto (-28), 3) := by decide +kernel
theorem dX4_letBehind_50 : decode cX4_letBehind 50 = .ok (.iload_n 2, 1) := by decide +kernel
theorem dX4_letBehind_51 : decode cX4_letBehind 51 = .ok (.ireturn, 1) := by decide +kernel
theorem dX4_ground_0 : decode cX4_ground 0 = .ok (.iconst 0, 1) := by decide +kernel
theorem dX4_ground_1 : decode cX4_ground 1 = .ok (.istore_n 3, 1) := by decide +kernel
theorem dX4_ground_2 : decode cX4_ground 2 = .ok (.iload_n 3, 1) := by decide +kernel
theorem dX4_ground_3 : decode cX4_ground 3 = .ok (.iconst 4, 1) := by decide +kernel
theorem dX4_ground_4 : decode cX4_ground 4 = .ok (.if_icmp .ge 37, 3) := by decide +kernel
theorem dX4_ground_7 : decode cX4_ground 7 = .ok (.aload_n 2, 1) := by decide +kernel
theorem dX4_ground_8 : decode cX4_ground 8 = .ok (.iload_n 3, 1) := by decide +kernel
theorem dX4_ground_9 : decode cX4_ground 9 = .ok (.aload_n 0, 1) := by decide +kernel
theorem dX4_ground_10 : decode cX4_ground 10 = .ok (.getfield 48, 3) := by decide +kernel
theorem dX4_ground_13 : decode cX4_ground 13 = .ok (.getfield 96, 3) := by decide +kernel
theorem dX4_ground_16 : decode cX4_ground 16 = .ok (.iload_n 3, 1) := by decide +kernel
theorem dX4_ground_17 : decode cX4_ground 17 = .ok (.ishr, 1) := by decide +kernel
theorem dX4_ground_18 : decode cX4_ground 18 = .ok (.iconst 1, 1) := by decide +kernel
theorem dX4_ground_19 : decode cX4_ground 19 = .ok (.iand, 1) := by decide +kernel
theorem dX4_ground_20 : decode cX4_ground 20 = .ok (.ifCond .eq 10, 3) := by decide +kernel
theorem dX4_ground_23 : decode cX4_ground 23 = .ok (.aload_n 1, 1) := by decide +kernel
theorem dX4_ground_24 : decode cX4_ground 24 = .ok (.invokevirtual 105, 3) := by decide +kernel
theorem dX4_ground_27 : decode cX4_ground 27 = .ok (.goto 7, 3) := by decide +kernel
theorem dX4_ground_30 : decode cX4_ground 30 = .ok (.aload_n 1, 1) := by decide +kernel
theorem dX4_ground_31 : decode cX4_ground 31 = .ok (.invokevirtual 110, 3) := by decide +kernel
theorem dX4_ground_34 : decode cX4_ground 34 = .ok (.lastore, 1) := by decide +kernel
theorem dX4_ground_35 : decode cX4_ground 35 = .ok (.iinc 3 1, 3) := by decide +kernel
theorem dX4_ground_38 : decode cX4_ground 38 = .ok (.goto (-36), 3) := by decide +kernel
theorem dX4_ground_41 : decode cX4_ground 41 = .ok (.return_, 1) := by decide +kernel
theorem dX4_empty_0 : decode cX4_empty 0 = .ok (.iconst 0, 1) := by decide +kernel
theorem dX4_empty_1 : decode cX4_empty 1 = .ok (.istore_n 3, 1) := by decide +kernel
theorem dX4_empty_2 : decode cX4_empty 2 = .ok (.iload_n 3, 1) := by decide +kernel
theorem dX4_empty_3 : decode cX4_empty 3 = .ok (.aload_n 0, 1) := by decide +kernel
theorem dX4_empty_4 : decode cX4_empty 4 = .ok (.getfield 34, 3) := by decide +kernel
theorem dX4_empty_7 : decode cX4_empty 7 = .ok (.if_icmp .ge 53, 3) := by decide +kernel
theorem dX4_empty_10 : decode cX4_empty 10 = .ok (.iconst 0, 1) := by decide +kernel
theorem dX4_empty_11 : decode cX4_empty 11 = .ok (.istore 4, 2) := by decide +kernel
theorem dX4_empty_13 : decode cX4_empty 13 = .ok (.iload 4, 2) := by decide +kernel
theorem dX4_empty_15 : decode cX4_empty 15 = .ok (.iconst 4, 1) := by decide +kernel
theorem dX4_empty_16 : decode cX4_empty 16 = .ok (.if_icmp .ge 38, 3) := by decide +kernel
theorem dX4_empty_19 : decode cX4_empty 19 = .ok (.aload_n 0, 1) := by decide +kernel
theorem dX4_empty_20 : decode cX4_empty 20 = .ok (.getfield 22, 3) := by decide +kernel
theorem dX4_empty_23 : decode cX4_empty 23 = .ok (.iload_n 3, 1) := by decide +kernel
theorem dX4_empty_24 : decode cX4_empty 24 = .ok (.iaload, 1) := by decide +kernel
theorem dX4_empty_25 : decode cX4_empty 25 = .ok (.sipush 1296, 3) := by decide +kernel
theorem dX4_empty_28 : decode cX4_empty 28 = .ok (.if_icmp .ge 26, 3) := by decide +kernel
theorem dX4_empty_31 : decode cX4_empty 31 = .ok (.aload_n 2, 1) := by decide +kernel
theorem dX4_empty_32 : decode cX4_empty 32 = .ok (.aload_n 0, 1) := by decide +kernel
theorem dX4_empty_33 : decode cX4_empty 33 = .ok (.getfield 22, 3) := by decide +kernel
theorem dX4_empty_36 : decode cX4_empty 36 = .ok (.iload_n 3, 1) := by decide +kernel
theorem dX4_empty_37 : decode cX4_empty 37 = .ok (.iaload, 1) := by decide +kernel
theorem dX4_empty_38 : decode cX4_empty 38 = .ok (.iconst 4, 1) := by decide +kernel
theorem dX4_empty_39 : decode cX4_empty 39 = .ok (.imul, 1) := by decide +kernel
theorem dX4_empty_40 : decode cX4_empty 40 = .ok (.iload 4, 2) := by decide +kernel
theorem dX4_empty_42 : decode cX4_empty 42 = .ok (.iadd, 1) := by decide +kernel
theorem dX4_empty_43 : decode cX4_empty 43 = .ok (.aload_n 1, 1) := by decide +kernel
theorem dX4_empty_44 : decode cX4_empty 44 = .ok (.invokevirtual 110, 3) := by decide +kernel
theorem dX4_empty_47 : decode cX4_empty 47 = .ok (.lastore, 1) := by decide +kernel
theorem dX4_empty_48 : decode cX4_empty 48 = .ok (.iinc 4 1, 3) := by decide +kernel
theorem dX4_empty_51 : decode cX4_empty 51 = .ok (.goto (-38), 3) := by decide +kernel
theorem dX4_empty_54 : decode cX4_empty 54 = .ok (.iinc 3 1, 3) := by decide +kernel
theorem dX4_empty_57 : decode cX4_empty 57 = .ok (.goto (-55), 3) := by decide +kernel
theorem dX4_empty_60 : decode cX4_empty 60 = .ok (.return_, 1) := by decide +kernel
theorem dX4_fold_0 : decode cX4_fold 0 = .ok (.aload_n 1, 1) := by decide +kernel
theorem dX4_fold_1 : decode cX4_fold 1 = .ok (.invokevirtual 110, 3) := by decide +kernel
theorem dX4_fold_4 : decode cX4_fold 4 = .ok (.lstore 5, 2) := by decide +kernel
theorem dX4_fold_6 : decode cX4_fold 6 = .ok (.aload_n 0, 1) := by decide +kernel
theorem dX4_fold_7 : decode cX4_fold 7 = .ok (.getfield 41, 3) := by decide +kernel
theorem dX4_fold_10 : decode cX4_fold 10 = .ok (.sipush 1296, 3) := by decide +kernel
theorem dX4_fold_13 : decode cX4_fold 13 = .ok (.if_icmp .lt 6, 3) := by decide +kernel
theorem dX4_fold_16 : decode cX4_fold 16 = .ok (.lload 5, 2) := by decide +kernel
theorem dX4_fold_18 : decode cX4_fold 18 = .ok (.lreturn, 1) := by decide +kernel
theorem dX4_fold_19 : decode cX4_fold 19 = .ok (.aload_n 0, 1) := by decide +kernel
theorem dX4_fold_20 : decode cX4_fold 20 = .ok (.getfield 34, 3) := by decide +kernel
theorem dX4_fold_23 : decode cX4_fold 23 = .ok (.iconst 1, 1) := by decide +kernel
theorem dX4_fold_24 : decode cX4_fold 24 = .ok (.isub, 1) := by decide +kernel
theorem dX4_fold_25 : decode cX4_fold 25 = .ok (.istore 7, 2) := by decide +kernel
theorem dX4_fold_27 : decode cX4_fold 27 = .ok (.iload 7, 2) := by decide +kernel
theorem dX4_fold_29 : decode cX4_fold 29 = .ok (.ifCond .lt 113, 3) := by decide +kernel
theorem dX4_fold_32 : decode cX4_fold 32 = .ok (.aload_n 0, 1) := by decide +kernel
theorem dX4_fold_33 : decode cX4_fold 33 = .ok (.getfield 22, 3) := by decide +kernel
theorem dX4_fold_36 : decode cX4_fold 36 = .ok (.iload 7, 2) := by decide +kernel
theorem dX4_fold_38 : decode cX4_fold 38 = .ok (.iaload, 1) := by decide +kernel
theorem dX4_fold_39 : decode cX4_fold 39 = .ok (.istore 8, 2) := by decide +kernel
theorem dX4_fold_41 : decode cX4_fold 41 = .ok (.aload_n 0, 1) := by decide +kernel
theorem dX4_fold_42 : decode cX4_fold 42 = .ok (.aload_n 1, 1) := by decide +kernel
theorem dX4_fold_43 : decode cX4_fold 43 = .ok (.iload_n 2, 1) := by decide +kernel
theorem dX4_fold_44 : decode cX4_fold 44 = .ok (.aload_n 0, 1) := by decide +kernel
theorem dX4_fold_45 : decode cX4_fold 45 = .ok (.getfield 19, 3) := by decide +kernel
theorem dX4_fold_48 : decode cX4_fold 48 = .ok (.iload 8, 2) := by decide +kernel
theorem dX4_fold_50 : decode cX4_fold 50 = .ok (.iaload, 1) := by decide +kernel
theorem dX4_fold_51 : decode cX4_fold 51 = .ok (.iand, 1) := by decide +kernel
theorem dX4_fold_52 : decode cX4_fold 52 = .ok (.iload 8, 2) := by decide +kernel
theorem dX4_fold_54 : decode cX4_fold 54 = .ok (.aload_n 3, 1) := by decide +kernel
theorem dX4_fold_55 : decode cX4_fold 55 = .ok (.invokevirtual 113, 3) := by decide +kernel
theorem dX4_fold_58 : decode cX4_fold 58 = .ok (.iconst 0, 1) := by decide +kernel
theorem dX4_fold_59 : decode cX4_fold 59 = .ok (.istore 9, 2) := by decide +kernel
theorem dX4_fold_61 : decode cX4_fold 61 = .ok (.iload 9, 2) := by decide +kernel
theorem dX4_fold_63 : decode cX4_fold 63 = .ok (.iconst 4, 1) := by decide +kernel
theorem dX4_fold_64 : decode cX4_fold 64 = .ok (.if_icmp .ge 49, 3) := by decide +kernel
theorem dX4_fold_67 : decode cX4_fold 67 = .ok (.aload_n 0, 1) := by decide +kernel
theorem dX4_fold_68 : decode cX4_fold 68 = .ok (.getfield 15, 3) := by decide +kernel
theorem dX4_fold_71 : decode cX4_fold 71 = .ok (.iload 8, 2) := by decide +kernel
theorem dX4_fold_73 : decode cX4_fold 73 = .ok (.iaload, 1) := by decide +kernel
theorem dX4_fold_74 : decode cX4_fold 74 = .ok (.iload 9, 2) := by decide +kernel
theorem dX4_fold_76 : decode cX4_fold 76 = .ok (.ishr, 1) := by decide +kernel
theorem dX4_fold_77 : decode cX4_fold 77 = .ok (.iconst 1, 1) := by decide +kernel
theorem dX4_fold_78 : decode cX4_fold 78 = .ok (.iand, 1) := by decide +kernel
theorem dX4_fold_79 : decode cX4_fold 79 = .ok (.ifCond .eq 28, 3) := by decide +kernel
theorem dX4_fold_82 : decode cX4_fold 82 = .ok (.aload 4, 2) := by decide +kernel
theorem dX4_fold_84 : decode cX4_fold 84 = .ok (.iload 8, 2) := by decide +kernel
theorem dX4_fold_86 : decode cX4_fold 86 = .ok (.iconst 4, 1) := by decide +kernel
theorem dX4_fold_87 : decode cX4_fold 87 = .ok (.imul, 1) := by decide +kernel
theorem dX4_fold_88 : decode cX4_fold 88 = .ok (.iload 9, 2) := by decide +kernel
theorem dX4_fold_90 : decode cX4_fold 90 = .ok (.iadd, 1) := by decide +kernel
theorem dX4_fold_91 : decode cX4_fold 91 = .ok (.aload_n 0, 1) := by decide +kernel
theorem dX4_fold_92 : decode cX4_fold 92 = .ok (.aload_n 1, 1) := by decide +kernel
theorem dX4_fold_93 : decode cX4_fold 93 = .ok (.aload_n 0, 1) := by decide +kernel
theorem dX4_fold_94 : decode cX4_fold 94 = .ok (.getfield 48, 3) := by decide +kernel
theorem dX4_fold_97 : decode cX4_fold 97 = .ok (.getfield 102, 3) := by decide +kernel
theorem dX4_fold_100 : decode cX4_fold 100 = .ok (.iload 9, 2) := by decide +kernel
theorem dX4_fold_102 : decode cX4_fold 102 = .ok (.iaload, 1) := by decide +kernel
theorem dX4_fold_103 : decode cX4_fold 103 = .ok (.invokevirtual 117, 3) := by decide +kernel
theorem dX4_fold_106 : decode cX4_fold 106 = .ok (.lastore, 1) := by decide +kernel
theorem dX4_fold_107 : decode cX4_fold 107 = .ok (.iinc 9 1, 3) := by decide +kernel
theorem dX4_fold_110 : decode cX4_fold 110 = .ok (.goto (-49), 3) := by decide +kernel
theorem dX4_fold_113 : decode cX4_fold 113 = .ok (.iload 8, 2) := by decide +kernel
theorem dX4_fold_115 : decode cX4_fold 115 = .ok (.aload_n 0, 1) := by decide +kernel
theorem dX4_fold_116 : decode cX4_fold 116 = .ok (.getfield 41, 3) := by decide +kernel
theorem dX4_fold_119 : decode cX4_fold 119 = .ok (.if_icmp .ne 17, 3) := by decide +kernel
theorem dX4_fold_122 : decode cX4_fold 122 = .ok (.aload_n 0, 1) := by decide +kernel
theorem dX4_fold_123 : decode cX4_fold 123 = .ok (.aload_n 1, 1) := by decide +kernel
theorem dX4_fold_124 : decode cX4_fold 124 = .ok (.aload_n 0, 1) := by decide +kernel
theorem dX4_fold_125 : decode cX4_fold 125 = .ok (.getfield 48, 3) := by decide +kernel
theorem dX4_fold_128 : decode cX4_fold 128 = .ok (.getfield 99, 3) := by decide +kernel
theorem dX4_fold_131 : decode cX4_fold 131 = .ok (.invokevirtual 117, 3) := by decide +kernel
theorem dX4_fold_134 : decode cX4_fold 134 = .ok (.lstore 5, 2) := by decide +kernel
theorem dX4_fold_136 : decode cX4_fold 136 = .ok (.iinc 7 (-1), 3) := by decide +kernel
theorem dX4_fold_139 : decode cX4_fold 139 = .ok (.goto (-112), 3) := by decide +kernel
theorem dX4_fold_142 : decode cX4_fold 142 = .ok (.lload 5, 2) := by decide +kernel
theorem dX4_fold_144 : decode cX4_fold 144 = .ok (.lreturn, 1) := by decide +kernel
theorem dX4_gather_0 : decode cX4_gather 0 = .ok (.iconst 0, 1) := by decide +kernel
theorem dX4_gather_1 : decode cX4_gather 1 = .ok (.istore 5, 2) := by decide +kernel
theorem dX4_gather_3 : decode cX4_gather 3 = .ok (.iload 5, 2) := by decide +kernel
theorem dX4_gather_5 : decode cX4_gather 5 = .ok (.iconst 4, 1) := by decide +kernel
theorem dX4_gather_6 : decode cX4_gather 6 = .ok (.if_icmp .ge 20, 3) := by decide +kernel
theorem dX4_gather_9 : decode cX4_gather 9 = .ok (.aload_n 0, 1) := by decide +kernel
theorem dX4_gather_10 : decode cX4_gather 10 = .ok (.getfield 31, 3) := by decide +kernel
theorem dX4_gather_13 : decode cX4_gather 13 = .ok (.iload 5, 2) := by decide +kernel
theorem dX4_gather_15 : decode cX4_gather 15 = .ok (.aload_n 1, 1) := by decide +kernel
theorem dX4_gather_16 : decode cX4_gather 16 = .ok (.invokevirtual 110, 3) := by decide +kernel
theorem dX4_gather_19 : decode cX4_gather 19 = .ok (.lastore, 1) := by decide +kernel
theorem dX4_gather_20 : decode cX4_gather 20 = .ok (.iinc 5 1, 3) := by decide +kernel
theorem dX4_gather_23 : decode cX4_gather 23 = .ok (.goto (-20), 3) := by decide +kernel
theorem dX4_gather_26 : decode cX4_gather 26 = .ok (.iconst 0, 1) := by decide +kernel
theorem dX4_gather_27 : decode cX4_gather 27 = .ok (.istore 5, 2) := by decide +kernel
theorem dX4_gather_29 : decode cX4_gather 29 = .ok (.iload 5, 2) := by decide +kernel
theorem dX4_gather_31 : decode cX4_gather 31 = .ok (.aload_n 0, 1) := by decide +kernel
theorem dX4_gather_32 : decode cX4_gather 32 = .ok (.getfield 44, 3) := by decide +kernel
theorem dX4_gather_35 : decode cX4_gather 35 = .ok (.getfield 72, 3) := by decide +kernel
theorem dX4_gather_38 : decode cX4_gather 38 = .ok (.if_icmp .ge 59, 3) := by decide +kernel
theorem dX4_gather_41 : decode cX4_gather 41 = .ok (.iload_n 2, 1) := by decide +kernel
theorem dX4_gather_42 : decode cX4_gather 42 = .ok (.iload 5, 2) := by decide +kernel
theorem dX4_gather_44 : decode cX4_gather 44 = .ok (.ishr, 1) := by decide +kernel
theorem dX4_gather_45 : decode cX4_gather 45 = .ok (.iconst 1, 1) := by decide +kernel
theorem dX4_gather_46 : decode cX4_gather 46 = .ok (.iand, 1) := by decide +kernel
theorem dX4_gather_47 : decode cX4_gather 47 = .ok (.ifCond .eq 44, 3) := by decide +kernel
theorem dX4_gather_50 : decode cX4_gather 50 = .ok (.aload_n 0, 1) := by decide +kernel
theorem dX4_gather_51 : decode cX4_gather 51 = .ok (.getfield 44, 3) := by decide +kernel
theorem dX4_gather_54 : decode cX4_gather 54 = .ok (.getfield 93, 3) := by decide +kernel
theorem dX4_gather_57 : decode cX4_gather 57 = .ok (.iload 5, 2) := by decide +kernel
theorem dX4_gather_59 : decode cX4_gather 59 = .ok (.iaload, 1) := by decide +kernel
theorem dX4_gather_60 : decode cX4_gather 60 = .ok (.istore 6, 2) := by decide +kernel
theorem dX4_gather_62 : decode cX4_gather 62 = .ok (.aload_n 0, 1) := by decide +kernel
theorem dX4_gather_63 : decode cX4_gather 63 = .ok (.getfield 31, 3) := by decide +kernel
theorem dX4_gather_66 : decode cX4_gather 66 = .ok (.iload 6, 2) := by decide +kernel
theorem dX4_gather_68 : decode cX4_gather 68 = .ok (.aload_n 1, 1) := by decide +kernel
theorem dX4_gather_69 : decode cX4_gather 69 = .ok (.aload_n 0, 1) := by decide +kernel
theorem dX4_gather_70 : decode cX4_gather 70 = .ok (.getfield 31, 3) := by decide +kernel
theorem dX4_gather_73 : decode cX4_gather 73 = .ok (.iload 6, 2) := by decide +kernel
theorem dX4_gather_75 : decode cX4_gather 75 = .ok (.laload, 1) := by decide +kernel
theorem dX4_gather_76 : decode cX4_gather 76 = .ok (.aload_n 0, 1) := by decide +kernel
theorem dX4_gather_77 : decode cX4_gather 77 = .ok (.aload 4, 2) := by decide +kernel
theorem dX4_gather_79 : decode cX4_gather 79 = .ok (.iload_n 3, 1) := by decide +kernel
theorem dX4_gather_80 : decode cX4_gather 80 = .ok (.iload 5, 2) := by decide +kernel
theorem dX4_gather_82 : decode cX4_gather 82 = .ok (.invokevirtual 121, 3) := by decide +kernel
theorem dX4_gather_85 : decode cX4_gather 85 = .ok (.iload 5, 2) := by decide +kernel
theorem dX4_gather_87 : decode cX4_gather 87 = .ok (.invokevirtual 125, 3) := by decide +kernel
theorem dX4_gather_90 : decode cX4_gather 90 = .ok (.lastore, 1) := by decide +kernel
theorem dX4_gather_91 : decode cX4_gather 91 = .ok (.iinc 5 1, 3) := by decide +kernel
theorem dX4_gather_94 : decode cX4_gather 94 = .ok (.goto (-65), 3) := by decide +kernel
theorem dX4_gather_97 : decode cX4_gather 97 = .ok (.return_, 1) := by decide +kernel
theorem dX4_headsOf_0 : decode cX4_headsOf 0 = .ok (.aload_n 1, 1) := by decide +kernel
theorem dX4_headsOf_1 : decode cX4_headsOf 1 = .ok (.invokevirtual 110, 3) := by decide +kernel
theorem dX4_headsOf_4 : decode cX4_headsOf 4 = .ok (.lstore_n 3, 1) := by decide +kernel
theorem dX4_headsOf_5 : decode cX4_headsOf 5 = .ok (.iconst 0, 1) := by decide +kernel
theorem dX4_headsOf_6 : decode cX4_headsOf 6 = .ok (.istore 5, 2) := by decide +kernel
theorem dX4_headsOf_8 : decode cX4_headsOf 8 = .ok (.iload 5, 2) := by decide +kernel
theorem dX4_headsOf_10 : decode cX4_headsOf 10 = .ok (.iconst 4, 1) := by decide +kernel
theorem dX4_headsOf_11 : decode cX4_headsOf 11 = .ok (.if_icmp .ge 31, 3) := by decide +kernel
theorem dX4_headsOf_14 : decode cX4_headsOf 14 = .ok (.iload_n 2, 1) := by decide +kernel
theorem dX4_headsOf_15 : decode cX4_headsOf 15 = .ok (.iload 5, 2) := by decide +kernel
theorem dX4_headsOf_17 : decode cX4_headsOf 17 = .ok (.ishr, 1) := by decide +kernel
theorem dX4_headsOf_18 : decode cX4_headsOf 18 = .ok (.iconst 1, 1) := by decide +kernel
theorem dX4_headsOf_19 : decode cX4_headsOf 19 = .ok (.iand, 1) := by decide +kernel
theorem dX4_headsOf_20 : decode cX4_headsOf 20 = .ok (.ifCond .eq 16, 3) := by decide +kernel
theorem dX4_headsOf_23 : decode cX4_headsOf 23 = .ok (.aload_n 1, 1) := by decide +kernel
theorem dX4_headsOf_24 : decode cX4_headsOf 24 = .ok (.lload_n 3, 1) := by decide +kernel
theorem dX4_headsOf_25 : decode cX4_headsOf 25 = .ok (.aload_n 0, 1) := by decide +kernel
theorem dX4_headsOf_26 : decode cX4_headsOf 26 = .ok (.getfield 31, 3) := by decide +kernel
theorem dX4_headsOf_29 : decode cX4_headsOf 29 = .ok (.iload 5, 2) := by decide +kernel
theorem dX4_headsOf_31 : decode cX4_headsOf 31 = .ok (.laload, 1) := by decide +kernel
theorem dX4_headsOf_32 : decode cX4_headsOf 32 = .ok (.invokevirtual 129, 3) := by decide +kernel
theorem dX4_headsOf_35 : decode cX4_headsOf 35 = .ok (.lstore_n 3, 1) := by decide +kernel
theorem dX4_headsOf_36 : decode cX4_headsOf 36 = .ok (.iinc 5 1, 3) := by decide +kernel
theorem dX4_headsOf_39 : decode cX4_headsOf 39 = .ok (.goto (-31), 3) := by decide +kernel
theorem dX4_headsOf_42 : decode cX4_headsOf 42 = .ok (.lload_n 3, 1) := by decide +kernel
theorem dX4_headsOf_43 : decode cX4_headsOf 43 = .ok (.lreturn, 1) := by decide +kernel
theorem dX4_opens_0 : decode cX4_opens 0 = .ok (.iload_n 1, 1) := by decide +kernel
theorem dX4_opens_1 : decode cX4_opens 1 = .ok (.ifCond .le 43, 3) := by decide +kernel
theorem dX4_opens_4 : decode cX4_opens 4 = .ok (.iload_n 1, 1) := by decide +kernel
theorem dX4_opens_5 : decode cX4_opens 5 = .ok (.sipush 1296, 3) := by decide +kernel
theorem dX4_opens_8 : decode cX4_opens 8 = .ok (.if_icmp .ge 36, 3) := by decide +kernel
theorem dX4_opens_11 : decode cX4_opens 11 = .ok (.aload_n 0, 1) := by decide +kernel
theorem dX4_opens_12 : decode cX4_opens 12 = .ok (.getfield 19, 3) := by decide +kernel
theorem dX4_opens_15 : decode cX4_opens 15 = .ok (.iload_n 1, 1) := by decide +kernel
theorem dX4_opens_16 : decode cX4_opens 16 = .ok (.iaload, 1) := by decide +kernel
theorem dX4_opens_17 : decode cX4_opens 17 = .ok (.iload_n 3, 1) := by decide +kernel
theorem dX4_opens_18 : decode cX4_opens 18 = .ok (.ishr, 1) := by decide +kernel
theorem dX4_opens_19 : decode cX4_opens 19 = .ok (.iconst 1, 1) := by decide +kernel
theorem dX4_opens_20 : decode cX4_opens 20 = .ok (.iand, 1) := by decide +kernel
theorem dX4_opens_21 : decode cX4_opens 21 = .ok (.ifCond .eq 23, 3) := by decide +kernel
theorem dX4_opens_24 : decode cX4_opens 24 = .ok (.iload_n 2, 1) := by decide +kernel
theorem dX4_opens_25 : decode cX4_opens 25 = .ok (.aload_n 0, 1) := by decide +kernel
theorem dX4_opens_26 : decode cX4_opens 26 = .ok (.getfield 44, 3) := by decide +kernel
theorem dX4_opens_29 : decode cX4_opens 29 = .ok (.getfield 93, 3) := by decide +kernel
theorem dX4_opens_32 : decode cX4_opens 32 = .ok (.iload_n 3, 1) := by decide +kernel
theorem dX4_opens_33 : decode cX4_opens 33 = .ok (.iaload, 1) := by decide +kernel
theorem dX4_opens_34 : decode cX4_opens 34 = .ok (.ishr, 1) := by decide +kernel
theorem dX4_opens_35 : decode cX4_opens 35 = .ok (.iconst 1, 1) := by decide +kernel
theorem dX4_opens_36 : decode cX4_opens 36 = .ok (.iand, 1) := by decide +kernel
theorem dX4_opens_37 : decode cX4_opens 37 = .ok (.ifCond .eq 7, 3) := by decide +kernel
theorem dX4_opens_40 : decode cX4_opens 40 = .ok (.iconst 1, 1) := by decide +kernel
theorem dX4_opens_41 : decode cX4_opens 41 = .ok (.goto 4, 3) := by decide +kernel
theorem dX4_opens_44 : decode cX4_opens 44 = .ok (.iconst 0, 1) := by decide +kernel
theorem dX4_opens_45 : decode cX4_opens 45 = .ok (.ireturn, 1) := by decide +kernel
theorem dX4_tailBehind_0 : decode cX4_tailBehind 0 = .ok (.iload_n 2, 1) := by decide +kernel
theorem dX4_tailBehind_1 : decode cX4_tailBehind 1 = .ok (.aload_n 0, 1) := by decide +kernel
theorem dX4_tailBehind_2 : decode cX4_tailBehind 2 = .ok (.getfield 28, 3) := by decide +kernel
theorem dX4_tailBehind_5 : decode cX4_tailBehind 5 = .ok (.iload_n 3, 1) := by decide +kernel
theorem dX4_tailBehind_6 : decode cX4_tailBehind 6 = .ok (.iaload, 1) := by decide +kernel
theorem dX4_tailBehind_7 : decode cX4_tailBehind 7 = .ok (.isub, 1) := by decide +kernel
theorem dX4_tailBehind_8 : decode cX4_tailBehind 8 = .ok (.iconst 4, 1) := by decide +kernel
theorem dX4_tailBehind_9 : decode cX4_tailBehind 9 = .ok (.imul, 1) := by decide +kernel
theorem dX4_tailBehind_10 : decode cX4_tailBehind 10 = .ok (.aload_n 0, 1) := by decide +kernel
theorem dX4_tailBehind_11 : decode cX4_tailBehind 11 = .ok (.getfield 44, 3) := by decide +kernel
theorem dX4_tailBehind_14 : decode cX4_tailBehind 14 = .ok (.getfield 93, 3) := by decide +kernel
theorem dX4_tailBehind_17 : decode cX4_tailBehind 17 = .ok (.iload_n 3, 1) := by decide +kernel
theorem dX4_tailBehind_18 : decode cX4_tailBehind 18 = .ok (.iaload, 1) := by decide +kernel
theorem dX4_tailBehind_19 : decode cX4_tailBehind 19 = .ok (.iadd, 1) := by decide +kernel
theorem dX4_tailBehind_20 : decode cX4_tailBehind 20 = .ok (.istore 4, 2) := by decide +kernel
theorem dX4_tailBehind_22 : decode cX4_tailBehind 22 = .ok (.iload 4, 2) := by decide +kernel
theorem dX4_tailBehind_24 : decode cX4_tailBehind 24 = .ok (.ifCond .lt 17, 3) := by decide +kernel
theorem dX4_tailBehind_27 : decode cX4_tailBehind 27 = .ok (.iload 4, 2) := by decide +kernel
theorem dX4_tailBehind_29 : decode cX4_tailBehind 29 = .ok (.aload_n 1, 1) := by decide +kernel
theorem dX4_tailBehind_30 : decode cX4_tailBehind 30 = .ok (.arraylength, 1) := by decide +kernel
theorem dX4_tailBehind_31 : decode cX4_tailBehind 31 = .ok (.if_icmp .ge 10, 3) := by decide +kernel
theorem dX4_tailBehind_34 : decode cX4_tailBehind 34 = .ok (.aload_n 1, 1) := by decide +kernel
theorem dX4_tailBehind_35 : decode cX4_tailBehind 35 = .ok (.iload 4, 2) := by decide +kernel
theorem dX4_tailBehind_37 : decode cX4_tailBehind 37 = .ok (.laload, 1) := by decide +kernel
theorem dX4_tailBehind_38 : decode cX4_tailBehind 38 = .ok (.goto 4, 3) := by decide +kernel
theorem dX4_tailBehind_41 : decode cX4_tailBehind 41 = .ok (.lconst 0, 1) := by decide +kernel
theorem dX4_tailBehind_42 : decode cX4_tailBehind 42 = .ok (.lreturn, 1) := by decide +kernel
theorem dX5_init_0 : decode cX5_init 0 = .ok (.aload_n 0, 1) := by decide +kernel
theorem dX5_init_1 : decode cX5_init 1 = .ok (.invokespecial 3, 3) := by decide +kernel
theorem dX5_init_4 : decode cX5_init 4 = .ok (.aload_n 0, 1) := by decide +kernel
theorem dX5_init_5 : decode cX5_init 5 = .ok (.bipush 10, 2) := by decide +kernel
theorem dX5_init_7 : decode cX5_init 7 = .ok (.newarray .int, 2) := by decide +kernel
theorem dX5_init_9 : decode cX5_init 9 = .ok (.putfield 9, 3) := by decide +kernel
theorem dX5_init_12 : decode cX5_init 12 = .ok (.aload_n 0, 1) := by decide +kernel
theorem dX5_init_13 : decode cX5_init 13 = .ok (.bipush 10, 2) := by decide +kernel
theorem dX5_init_15 : decode cX5_init 15 = .ok (.newarray .int, 2) := by decide +kernel
theorem dX5_init_17 : decode cX5_init 17 = .ok (.putfield 15, 3) := by decide +kernel
theorem dX5_init_20 : decode cX5_init 20 = .ok (.aload_n 0, 1) := by decide +kernel
theorem dX5_init_21 : decode cX5_init 21 = .ok (.bipush 10, 2) := by decide +kernel
theorem dX5_init_23 : decode cX5_init 23 = .ok (.newarray .long, 2) := by decide +kernel
theorem dX5_init_25 : decode cX5_init 25 = .ok (.putfield 18, 3) := by decide +kernel
theorem dX5_init_28 : decode cX5_init 28 = .ok (.aload_n 0, 1) := by decide +kernel
theorem dX5_init_29 : decode cX5_init 29 = .ok (.bipush 60, 2) := by decide +kernel
theorem dX5_init_31 : decode cX5_init 31 = .ok (.newarray .int, 2) := by decide +kernel
theorem dX5_init_33 : decode cX5_init 33 = .ok (.putfield 22, 3) := by decide +kernel
theorem dX5_init_36 : decode cX5_init 36 = .ok (.aload_n 0, 1) := by decide +kernel
theorem dX5_init_37 : decode cX5_init 37 = .ok (.iconst 0, 1) := by decide +kernel
theorem dX5_init_38 : decode cX5_init 38 = .ok (.putfield 25, 3) := by decide +kernel
theorem dX5_init_41 : decode cX5_init 41 = .ok (.return_, 1) := by decide +kernel
theorem dX5_copy_0 : decode cX5_copy 0 = .ok (.aload_n 0, 1) := by decide +kernel
theorem dX5_copy_1 : decode cX5_copy 1 = .ok (.aload_n 1, 1) := by decide +kernel
theorem dX5_copy_2 : decode cX5_copy 2 = .ok (.getfield 25, 3) := by decide +kernel
theorem dX5_copy_5 : decode cX5_copy 5 = .ok (.putfield 25, 3) := by decide +kernel
theorem dX5_copy_8 : decode cX5_copy 8 = .ok (.aload_n 1, 1) := by decide +kernel
theorem dX5_copy_9 : decode cX5_copy 9 = .ok (.getfield 9, 3) := by decide +kernel
theorem dX5_copy_12 : decode cX5_copy 12 = .ok (.iconst 0, 1) := by decide +kernel
theorem dX5_copy_13 : decode cX5_copy 13 = .ok (.aload_n 0, 1) := by decide +kernel
theorem dX5_copy_14 : decode cX5_copy 14 = .ok (.getfield 9, 3) := by decide +kernel
theorem dX5_copy_17 : decode cX5_copy 17 = .ok (.iconst 0, 1) := by decide +kernel
theorem dX5_copy_18 : decode cX5_copy 18 = .ok (.bipush 10, 2) := by decide +kernel
theorem dX5_copy_20 : decode cX5_copy 20 = .ok (.invokestatic 29, 3) := by decide +kernel
theorem dX5_copy_23 : decode cX5_copy 23 = .ok (.aload_n 1, 1) := by decide +kernel
theorem dX5_copy_24 : decode cX5_copy 24 = .ok (.getfield 15, 3) := by decide +kernel
theorem dX5_copy_27 : decode cX5_copy 27 = .ok (.iconst 0, 1) := by decide +kernel
theorem dX5_copy_28 : decode cX5_copy 28 = .ok (.aload_n 0, 1) := by decide +kernel
theorem dX5_copy_29 : decode cX5_copy 29 = .ok (.getfield 15, 3) := by decide +kernel
theorem dX5_copy_32 : decode cX5_copy 32 = .ok (.iconst 0, 1) := by decide +kernel
theorem dX5_copy_33 : decode cX5_copy 33 = .ok (.bipush 10, 2) := by decide +kernel
theorem dX5_copy_35 : decode cX5_copy 35 = .ok (.invokestatic 29, 3) := by decide +kernel
theorem dX5_copy_38 : decode cX5_copy 38 = .ok (.aload_n 1, 1) := by decide +kernel
theorem dX5_copy_39 : decode cX5_copy 39 = .ok (.getfield 18, 3) := by decide +kernel
theorem dX5_copy_42 : decode cX5_copy 42 = .ok (.iconst 0, 1) := by decide +kernel
theorem dX5_copy_43 : decode cX5_copy 43 = .ok (.aload_n 0, 1) := by decide +kernel
theorem dX5_copy_44 : decode cX5_copy 44 = .ok (.getfield 18, 3) := by decide +kernel
theorem dX5_copy_47 : decode cX5_copy 47 = .ok (.iconst 0, 1) := by decide +kernel
theorem dX5_copy_48 : decode cX5_copy 48 = .ok (.bipush 10, 2) := by decide +kernel
theorem dX5_copy_50 : decode cX5_copy 50 = .ok (.invokestatic 29, 3) := by decide +kernel
theorem dX5_copy_53 : decode cX5_copy 53 = .ok (.aload_n 1, 1) := by decide +kernel
theorem dX5_copy_54 : decode cX5_copy 54 = .ok (.getfield 22, 3) := by decide +kernel
theorem dX5_copy_57 : decode cX5_copy 57 = .ok (.iconst 0, 1) := by decide +kernel
theorem dX5_copy_58 : decode cX5_copy 58 = .ok (.aload_n 0, 1) := by decide +kernel
theorem dX5_copy_59 : decode cX5_copy 59 = .ok (.getfield 22, 3) := by decide +kernel
theorem dX5_copy_62 : decode cX5_copy 62 = .ok (.iconst 0, 1) := by decide +kernel
theorem dX5_copy_63 : decode cX5_copy 63 = .ok (.bipush 60, 2) := by decide +kernel
theorem dX5_copy_65 : decode cX5_copy 65 = .ok (.invokestatic 29, 3) := by decide +kernel
theorem dX5_copy_68 : decode cX5_copy 68 = .ok (.return_, 1) := by decide +kernel
theorem dX5_has_0 : decode cX5_has 0 = .ok (.iload_n 1, 1) := by decide +kernel
theorem dX5_has_1 : decode cX5_has 1 = .ok (.ifCond .lt 15, 3) := by decide +kernel
theorem dX5_has_4 : decode cX5_has 4 = .ok (.iload_n 1, 1) := by decide +kernel
theorem dX5_has_5 : decode cX5_has 5 = .ok (.aload_n 0, 1) := by decide +kernel
theorem dX5_has_6 : decode cX5_has 6 = .ok (.getfield 25, 3) := by decide +kernel
theorem dX5_has_9 : decode cX5_has 9 = .ok (.if_icmp .ge 7, 3) := by decide +kernel
theorem dX5_has_12 : decode cX5_has 12 = .ok (.iconst 1, 1) := by decide +kernel
theorem dX5_has_13 : decode cX5_has 13 = .ok (.goto 4, 3) := by decide +kernel
theorem dX5_has_16 : decode cX5_has 16 = .ok (.iconst 0, 1) := by decide +kernel
theorem dX5_has_17 : decode cX5_has 17 = .ok (.ireturn, 1) := by decide +kernel
theorem dX5_open_0 : decode cX5_open 0 = .ok (.aload_n 0, 1) := by decide +kernel
theorem dX5_open_1 : decode cX5_open 1 = .ok (.getfield 25, 3) := by decide +kernel
theorem dX5_open_4 : decode cX5_open 4 = .ok (.bipush 10, 2) := by decide +kernel
theorem dX5_open_6 : decode cX5_open 6 = .ok (.if_icmp .lt 5, 3) := by decide +kernel
theorem dX5_open_9 : decode cX5_open 9 = .ok (.iconst 0, 1) := by decide +kernel
theorem dX5_open_10 : decode cX5_open 10 = .ok (.ireturn, 1) := by decide +kernel
theorem dX5_open_11 : decode cX5_open 11 = .ok (.aload_n 0, 1) := by decide +kernel
theorem dX5_open_12 : decode cX5_open 12 = .ok (.getfield 15, 3) := by decide +kernel
theorem dX5_open_15 : decode cX5_open 15 = .ok (.aload_n 0, 1) := by decide +kernel
theorem dX5_open_16 : decode cX5_open 16 = .ok (.getfield 25, 3) := by decide +kernel
theorem dX5_open_19 : decode cX5_open 19 = .ok (.iconst 0, 1) := by decide +kernel
theorem dX5_open_20 : decode cX5_open 20 = .ok (.iastore, 1) := by decide +kernel
theorem dX5_open_21 : decode cX5_open 21 = .ok (.aload_n 0, 1) := by decide +kernel
theorem dX5_open_22 : decode cX5_open 22 = .ok (.getfield 18, 3) := by decide +kernel
theorem dX5_open_25 : decode cX5_open 25 = .ok (.aload_n 0, 1) := by decide +kernel
theorem dX5_open_26 : decode cX5_open 26 = .ok (.getfield 25, 3) := by decide +kernel
theorem dX5_open_29 : decode cX5_open 29 = .ok (.lconst 0, 1) := by decide +kernel
theorem dX5_open_30 : decode cX5_open 30 = .ok (.lastore, 1) := by decide +kernel
theorem dX5_open_31 : decode cX5_open 31 = .ok (.aload_n 0, 1) := by decide +kernel
theorem dX5_open_32 : decode cX5_open 32 = .ok (.dup, 1) := by decide +kernel
theorem dX5_open_33 : decode cX5_open 33 = .ok (.getfield 25, 3) := by decide +kernel
theorem dX5_open_36 : decode cX5_open 36 = .ok (.iconst 1, 1) := by decide +kernel
theorem dX5_open_37 : decode cX5_open 37 = .ok (.iadd, 1) := by decide +kernel
theorem dX5_open_38 : decode cX5_open 38 = .ok (.putfield 25, 3) := by decide +kernel
theorem dX5_open_41 : decode cX5_open 41 = .ok (.iconst 1, 1) := by decide +kernel
theorem dX5_open_42 : decode cX5_open 42 = .ok (.ireturn, 1) := by decide +kernel
theorem dX5_spell_0 : decode cX5_spell 0 = .ok (.aload_n 0, 1) := by decide +kernel
theorem dX5_spell_1 : decode cX5_spell 1 = .ok (.getfield 25, 3) := by decide +kernel
theorem dX5_spell_4 : decode cX5_spell 4 = .ok (.iconst 1, 1) := by decide +kernel
theorem dX5_spell_5 : decode cX5_spell 5 = .ok (.isub, 1) := by decide +kernel
theorem dX5_spell_6 : decode cX5_spell 6 = .ok (.istore_n 2, 1) := by decide +kernel
theorem dX5_spell_7 : decode cX5_spell 7 = .ok (.iload_n 2, 1) := by decide +kernel
theorem dX5_spell_8 : decode cX5_spell 8 = .ok (.ifCond .lt 14, 3) := by decide +kernel
theorem dX5_spell_11 : decode cX5_spell 11 = .ok (.aload_n 0, 1) := by decide +kernel
theorem dX5_spell_12 : decode cX5_spell 12 = .ok (.getfield 15, 3) := by decide +kernel
theorem dX5_spell_15 : decode cX5_spell 15 = .ok (.iload_n 2, 1) := by decide +kernel
theorem dX5_spell_16 : decode cX5_spell 16 = .ok (.iaload, 1) := by decide +kernel
theorem dX5_spell_17 : decode cX5_spell 17 = .ok (.bipush 6, 2) := by decide +kernel
theorem dX5_spell_19 : decode cX5_spell 19 = .ok (.if_icmp .lt 5, 3) := by decide +kernel
theorem dX5_spell_22 : decode cX5_spell 22 = .ok (.iconst 0, 1) := by decide +kernel
theorem dX5_spell_23 : decode cX5_spell 23 = .ok (.ireturn, 1) := by decide +kernel
theorem dX5_spell_24 : decode cX5_spell 24 = .ok (.aload_n 0, 1) := by decide +kernel
theorem dX5_spell_25 : decode cX5_spell 25 = .ok (.getfield 22, 3) := by decide +kernel
theorem dX5_spell_28 : decode cX5_spell 28 = .ok (.iload_n 2, 1) := by decide +kernel
theorem dX5_spell_29 : decode cX5_spell 29 = .ok (.bipush 6, 2) := by decide +kernel
theorem dX5_spell_31 : decode cX5_spell 31 = .ok (.imul, 1) := by decide +kernel
theorem dX5_spell_32 : decode cX5_spell 32 = .ok (.aload_n 0, 1) := by decide +kernel
theorem dX5_spell_33 : decode cX5_spell 33 = .ok (.getfield 15, 3) := by decide +kernel
theorem dX5_spell_36 : decode cX5_spell 36 = .ok (.iload_n 2, 1) := by decide +kernel
theorem dX5_spell_37 : decode cX5_spell 37 = .ok (.iaload, 1) := by decide +kernel
theorem dX5_spell_38 : decode cX5_spell 38 = .ok (.iadd, 1) := by decide +kernel
theorem dX5_spell_39 : decode cX5_spell 39 = .ok (.iload_n 1, 1) := by decide +kernel
theorem dX5_spell_40 : decode cX5_spell 40 = .ok (.iastore, 1) := by decide +kernel
theorem dX5_spell_41 : decode cX5_spell 41 = .ok (.aload_n 0, 1) := by decide +kernel
theorem dX5_spell_42 : decode cX5_spell 42 = .ok (.getfield 15, 3) := by decide +kernel
theorem dX5_spell_45 : decode cX5_spell 45 = .ok (.iload_n 2, 1) := by decide +kernel
theorem dX5_spell_46 : decode cX5_spell 46 = .ok (.dup2, 1) := by decide +kernel
theorem dX5_spell_47 : decode cX5_spell 47 = .ok (.iaload, 1) := by decide +kernel
theorem dX5_spell_48 : decode cX5_spell 48 = .ok (.iconst 1, 1) := by decide +kernel
theorem dX5_spell_49 : decode cX5_spell 49 = .ok (.iadd, 1) := by decide +kernel
theorem dX5_spell_50 : decode cX5_spell 50 = .ok (.iastore, 1) := by decide +kernel
theorem dX5_spell_51 : decode cX5_spell 51 = .ok (.aload_n 0, 1) := by decide +kernel
theorem dX5_spell_52 : decode cX5_spell 52 = .ok (.getfield 18, 3) := by decide +kernel
theorem dX5_spell_55 : decode cX5_spell 55 = .ok (.iload_n 2, 1) := by decide +kernel
theorem dX5_spell_56 : decode cX5_spell 56 = .ok (.dup2, 1) := by decide +kernel
theorem dX5_spell_57 : decode cX5_spell 57 = .ok (.laload, 1) := by decide +kernel
theorem dX5_spell_58 : decode cX5_spell 58 = .ok (.lconst 1, 1) := by decide +kernel
theorem dX5_spell_59 : decode cX5_spell 59 = .ok (.iconst 5, 1) := by decide +kernel
theorem dX5_spell_60 : decode cX5_spell 60 = .ok (.iload_n 1, 1) := by decide +kernel
theorem dX5_spell_61 : decode cX5_spell 61 = .ok (.imul, 1) := by decide +kernel
theorem dX5_spell_62 : decode cX5_spell 62 = .ok (.lshl, 1) := by decide +kernel
theorem dX5_spell_63 : decode cX5_spell 63 = .ok (.ladd, 1) := by decide +kernel
theorem dX5_spell_64 : decode cX5_spell 64 = .ok (.lastore, 1) := by decide +kernel
theorem dX5_spell_65 : decode cX5_spell 65 = .ok (.iconst 1, 1) := by decide +kernel
theorem dX5_spell_66 : decode cX5_spell 66 = .ok (.ireturn, 1) := by decide +kernel
theorem dX5_close_0 : decode cX5_close 0 = .ok (.aload_n 0, 1) := by decide +kernel
theorem dX5_close_1 : decode cX5_close 1 = .ok (.getfield 25, 3) := by decide +kernel
theorem dX5_close_4 : decode cX5_close 4 = .ok (.iconst 1, 1) := by decide +kernel
theorem dX5_close_5 : decode cX5_close 5 = .ok (.isub, 1) := by decide +kernel
theorem dX5_close_6 : decode cX5_close 6 = .ok (.istore_n 2, 1) := by decide +kernel
theorem dX5_close_7 : decode cX5_close 7 = .ok (.iload_n 2, 1) := by decide +kernel
theorem dX5_close_8 : decode cX5_close 8 = .ok (.ifCond .lt 12, 3) := by decide +kernel
theorem dX5_close_11 : decode cX5_close 11 = .ok (.aload_n 0, 1) := by decide +kernel
theorem dX5_close_12 : decode cX5_close 12 = .ok (.getfield 15, 3) := by decide +kernel
theorem dX5_close_15 : decode cX5_close 15 = .ok (.iload_n 2, 1) := by decide +kernel
theorem dX5_close_16 : decode cX5_close 16 = .ok (.iaload, 1) := by decide +kernel
theorem dX5_close_17 : decode cX5_close 17 = .ok (.ifCond .ne 5, 3) := by decide +kernel
theorem dX5_close_20 : decode cX5_close 20 = .ok (.iconst 0, 1) := by decide +kernel
theorem dX5_close_21 : decode cX5_close 21 = .ok (.ireturn, 1) := by decide +kernel
theorem dX5_close_22 : decode cX5_close 22 = .ok (.aload_n 0, 1) := by decide +kernel
theorem dX5_close_23 : decode cX5_close 23 = .ok (.getfield 9, 3) := by decide +kernel
theorem dX5_close_26 : decode cX5_close 26 = .ok (.iload_n 2, 1) := by decide +kernel
theorem dX5_close_27 : decode cX5_close 27 = .ok (.iload_n 1, 1) := by decide +kernel
theorem dX5_close_28 : decode cX5_close 28 = .ok (.iastore, 1) := by decide +kernel
theorem dX5_close_29 : decode cX5_close 29 = .ok (.iconst 1, 1) := by decide +kernel
theorem dX5_close_30 : decode cX5_close 30 = .ok (.ireturn, 1) := by decide +kernel
theorem dX5_spelt_0 : decode cX5_spelt 0 = .ok (.aload_n 0, 1) := by decide +kernel
theorem dX5_spelt_1 : decode cX5_spelt 1 = .ok (.getfield 22, 3) := by decide +kernel
theorem dX5_spelt_4 : decode cX5_spelt 4 = .ok (.iload_n 1, 1) := by decide +kernel
theorem dX5_spelt_5 : decode cX5_spelt 5 = .ok (.bipush 6, 2) := by decide +kernel
theorem dX5_spelt_7 : decode cX5_spelt 7 = .ok (.imul, 1) := by decide +kernel
theorem dX5_spelt_8 : decode cX5_spelt 8 = .ok (.iload_n 2, 1) := by decide +kernel
theorem dX5_spelt_9 : decode cX5_spelt 9 = .ok (.iadd, 1) := by decide +kernel
theorem dX5_spelt_10 : decode cX5_spelt 10 = .ok (.iaload, 1) := by decide +kernel
theorem dX5_spelt_11 : decode cX5_spelt 11 = .ok (.ireturn, 1) := by decide +kernel
theorem dX5_amount_0 : decode cX5_amount 0 = .ok (.aload_n 0, 1) := by decide +kernel
theorem dX5_amount_1 : decode cX5_amount 1 = .ok (.getfield 18, 3) := by decide +kernel
theorem dX5_amount_4 : decode cX5_amount 4 = .ok (.iload_n 1, 1) := by decide +kernel
theorem dX5_amount_5 : decode cX5_amount 5 = .ok (.laload, 1) := by decide +kernel
theorem dX5_amount_6 : decode cX5_amount 6 = .ok (.iconst 5, 1) := by decide +kernel
theorem dX5_amount_7 : decode cX5_amount 7 = .ok (.iload_n 2, 1) := by decide +kernel
theorem dX5_amount_8 : decode cX5_amount 8 = .ok (.imul, 1) := by decide +kernel
theorem dX5_amount_9 : decode cX5_amount 9 = .ok (.lshr, 1) := by decide +kernel
theorem dX5_amount_10 : decode cX5_amount 10 = .ok (.l2i, 1) := by decide +kernel
theorem dX5_amount_11 : decode cX5_amount 11 = .ok (.bipush 15, 2) := by decide +kernel
theorem dX5_amount_13 : decode cX5_amount 13 = .ok (.iand, 1) := by decide +kernel
theorem dX5_amount_14 : decode cX5_amount 14 = .ok (.ireturn, 1) := by decide +kernel
theorem dX5_wordsWith_0 : decode cX5_wordsWith 0 = .ok (.iconst 0, 1) := by decide +kernel
theorem dX5_wordsWith_1 : decode cX5_wordsWith 1 = .ok (.istore_n 2, 1) := by decide +kernel
theorem dX5_wordsWith_2 : decode cX5_wordsWith 2 = .ok (.iconst 0, 1) := by decide +kernel
theorem dX5_wordsWith_3 : decode cX5_wordsWith 3 = .ok (.istore_n 3, 1) := by decide +kernel
theorem dX5_wordsWith_4 : decode cX5_wordsWith 4 = .ok (.iload_n 3, 1) := by decide +kernel
theorem dX5_wordsWith_5 : decode cX5_wordsWith 5 = .ok (.aload_n 0, 1) := by decide +kernel
theorem dX5_wordsWith_6 : decode cX5_wordsWith 6 = .ok (.getfield 25, 3) := by decide +kernel
theorem dX5_wordsWith_9 : decode cX5_wordsWith 9 = .ok (.if_icmp .ge 21, 3) := by decide +kernel
theorem dX5_wordsWith_12 : decode cX5_wordsWith 12 = .ok (.aload_n 0, 1) := by decide +kernel
theorem dX5_wordsWith_13 : decode cX5_wordsWith 13 = .ok (.iload_n 3, 1) := by decide +kernel
theorem dX5_wordsWith_14 : decode cX5_wordsWith 14 = .ok (.iload_n 1, 1) := by decide +kernel
theorem dX5_wordsWith_15 : decode cX5_wordsWith 15 = .ok (.invokevirtual 35, 3) := by decide +kernel
theorem dX5_wordsWith_18 : decode cX5_wordsWith 18 = .ok (.ifCond .le 6, 3) := by decide +kernel
theorem dX5_wordsWith_21 : decode cX5_wordsWith 21 = .ok (.iinc 2 1, 3) := by decide +kernel
theorem dX5_wordsWith_24 : decode cX5_wordsWith 24 = .ok (.iinc 3 1, 3) := by decide +kernel
theorem dX5_wordsWith_27 : decode cX5_wordsWith 27 = .ok (.goto (-23), 3) := by decide +kernel
theorem dX5_wordsWith_30 : decode cX5_wordsWith 30 = .ok (.iload_n 2, 1) := by decide +kernel
theorem dX5_wordsWith_31 : decode cX5_wordsWith 31 = .ok (.ireturn, 1) := by decide +kernel
theorem dX5_rarest_0 : decode cX5_rarest 0 = .ok (.bipush (-9), 2) := by decide +kernel
theorem dX5_rarest_2 : decode cX5_rarest 2 = .ok (.istore_n 2, 1) := by decide +kernel
theorem dX5_rarest_3 : decode cX5_rarest 3 = .ok (.bipush 11, 2) := by decide +kernel
theorem dX5_rarest_5 : decode cX5_rarest 5 = .ok (.istore_n 3, 1) := by decide +kernel
theorem dX5_rarest_6 : decode cX5_rarest 6 = .ok (.iconst 0, 1) := by decide +kernel
theorem dX5_rarest_7 : decode cX5_rarest 7 = .ok (.istore 4, 2) := by decide +kernel
theorem dX5_rarest_9 : decode cX5_rarest 9 = .ok (.iload 4, 2) := by decide +kernel
theorem dX5_rarest_11 : decode cX5_rarest 11 = .ok (.bipush 8, 2) := by decide +kernel
theorem dX5_rarest_13 : decode cX5_rarest 13 = .ok (.if_icmp .ge 39, 3) := by decide +kernel
theorem dX5_rarest_16 : decode cX5_rarest 16 = .ok (.aload_n 0, 1) := by decide +kernel
theorem dX5_rarest_17 : decode cX5_rarest 17 = .ok (.iload_n 1, 1) := by decide +kernel
theorem dX5_rarest_18 : decode cX5_rarest 18 = .ok (.iload 4, 2) := by decide +kernel
theorem dX5_rarest_20 : decode cX5_rarest 20 = .ok (.invokevirtual 35, 3) := by decide +kernel
theorem dX5_rarest_23 : decode cX5_rarest 23 = .ok (.ifCond .le 23, 3) := by decide +kernel
theorem dX5_rarest_26 : decode cX5_rarest 26 = .ok (.aload_n 0, 1) := by decide +kernel
theorem dX5_rarest_27 : decode cX5_rarest 27 = .ok (.iload 4, 2) := by decide +kernel
theorem dX5_rarest_29 : decode cX5_rarest 29 = .ok (.invokevirtual 39, 3) := by decide +kernel
theorem dX5_rarest_32 : decode cX5_rarest 32 = .ok (.iload_n 3, 1) := by decide +kernel
theorem dX5_rarest_33 : decode cX5_rarest 33 = .ok (.if_icmp .ge 13, 3) := by decide +kernel
theorem dX5_rarest_36 : decode cX5_rarest 36 = .ok (.iload 4, 2) := by decide +kernel
theorem dX5_rarest_38 : decode cX5_rarest 38 = .ok (.istore_n 2, 1) := by decide +kernel
theorem dX5_rarest_39 : decode cX5_rarest 39 = .ok (.aload_n 0, 1) := by decide +kernel
theorem dX5_rarest_40 : decode cX5_rarest 40 = .ok (.iload 4, 2) := by decide +kernel
theorem dX5_rarest_42 : decode cX5_rarest 42 = .ok (.invokevirtual 39, 3) := by decide +kernel
theorem dX5_rarest_45 : decode cX5_rarest 45 = .ok (.istore_n 3, 1) := by decide +kernel
theorem dX5_rarest_46 : decode cX5_rarest 46 = .ok (.iinc 4 1, 3) := by decide +kernel
theorem dX5_rarest_49 : decode cX5_rarest 49 = .ok (.goto (-40), 3) := by decide +kernel
theorem dX5_rarest_52 : decode cX5_rarest 52 = .ok (.iload_n 2, 1) := by decide +kernel
theorem dX5_rarest_53 : decode cX5_rarest 53 = .ok (.ireturn, 1) := by decide +kernel
theorem dX5_twins_0 : decode cX5_twins 0 = .ok (.iconst 0, 1) := by decide +kernel
theorem dX5_twins_1 : decode cX5_twins 1 = .ok (.istore_n 2, 1) := by decide +kernel
theorem dX5_twins_2 : decode cX5_twins 2 = .ok (.iconst 0, 1) := by decide +kernel
theorem dX5_twins_3 : decode cX5_twins 3 = .ok (.istore_n 3, 1) := by decide +kernel
theorem dX5_twins_4 : decode cX5_twins 4 = .ok (.iload_n 3, 1) := by decide +kernel
theorem dX5_twins_5 : decode cX5_twins 5 = .ok (.aload_n 0, 1) := by decide +kernel
theorem dX5_twins_6 : decode cX5_twins 6 = .ok (.getfield 25, 3) := by decide +kernel
theorem dX5_twins_9 : decode cX5_twins 9 = .ok (.if_icmp .ge 28, 3) := by decide +kernel
theorem dX5_twins_12 : decode cX5_twins 12 = .ok (.aload_n 0, 1) := by decide +kernel
theorem dX5_twins_13 : decode cX5_twins 13 = .ok (.getfield 18, 3) := by decide +kernel
theorem dX5_twins_16 : decode cX5_twins 16 = .ok (.iload_n 3, 1) := by decide +kernel
theorem dX5_twins_17 : decode cX5_twins 17 = .ok (.laload, 1) := by decide +kernel
theorem dX5_twins_18 : decode cX5_twins 18 = .ok (.aload_n 0, 1) := by decide +kernel
theorem dX5_twins_19 : decode cX5_twins 19 = .ok (.getfield 18, 3) := by decide +kernel
theorem dX5_twins_22 : decode cX5_twins 22 = .ok (.iload_n 1, 1) := by decide +kernel
theorem dX5_twins_23 : decode cX5_twins 23 = .ok (.laload, 1) := by decide +kernel
theorem dX5_twins_24 : decode cX5_twins 24 = .ok (.lcmp, 1) := by decide +kernel
theorem dX5_twins_25 : decode cX5_twins 25 = .ok (.ifCond .ne 6, 3) := by decide +kernel
theorem dX5_twins_28 : decode cX5_twins 28 = .ok (.iinc 2 1, 3) := by decide +kernel
theorem dX5_twins_31 : decode cX5_twins 31 = .ok (.iinc 3 1, 3) := by decide +kernel
theorem dX5_twins_34 : decode cX5_twins 34 = .ok (.goto (-30), 3) := by decide +kernel
theorem dX5_twins_37 : decode cX5_twins 37 = .ok (.iload_n 2, 1) := by decide +kernel
theorem dX5_twins_38 : decode cX5_twins 38 = .ok (.ireturn, 1) := by decide +kernel
theorem dX5_letterBits_0 : decode cX5_letterBits 0 = .ok (.iconst 0, 1) := by decide +kernel
theorem dX5_letterBits_1 : decode cX5_letterBits 1 = .ok (.istore_n 2, 1) := by decide +kernel
theorem dX5_letterBits_2 : decode cX5_letterBits 2 = .ok (.iconst 0, 1) := by decide +kernel
theorem dX5_letterBits_3 : decode cX5_letterBits 3 = .ok (.istore_n 3, 1) := by decide +kernel
theorem dX5_letterBits_4 : decode cX5_letterBits 4 = .ok (.iload_n 3, 1) := by decide +kernel
theorem dX5_letterBits_5 : decode cX5_letterBits 5 = .ok (.bipush 8, 2) := by decide +kernel
theorem dX5_letterBits_7 : decode cX5_letterBits 7 = .ok (.if_icmp .ge 24, 3) := by decide +kernel
theorem dX5_letterBits_10 : decode cX5_letterBits 10 = .ok (.aload_n 0, 1) := by decide +kernel
theorem dX5_letterBits_11 : decode cX5_letterBits 11 = .ok (.iload_n 1, 1) := by decide +kernel
theorem dX5_letterBits_12 : decode cX5_letterBits 12 = .ok (.iload_n 3, 1) := by decide +kernel
theorem dX5_letterBits_13 : decode cX5_letterBits 13 = .ok (.invokevirtual 35, 3) := by decide +kernel
theorem dX5_letterBits_16 : decode cX5_letterBits 16 = .ok (.ifCond .le 9, 3) := by decide +kernel
theorem dX5_letterBits_19 : decode cX5_letterBits 19 = .ok (.iload_n 2, 1) := by decide +kernel
theorem dX5_letterBits_20 : decode cX5_letterBits 20 = .ok (.iconst 1, 1) := by decide +kernel
theorem dX5_letterBits_21 : decode cX5_letterBits 21 = .ok (.iload_n 3, 1) := by decide +kernel
theorem dX5_letterBits_22 : decode cX5_letterBits 22 = .ok (.ishl, 1) := by decide +kernel
theorem dX5_letterBits_23 : decode cX5_letterBits 23 = .ok (.ior, 1) := by decide +kernel
theorem dX5_letterBits_24 : decode cX5_letterBits 24 = .ok (.istore_n 2, 1) := by decide +kernel
theorem dX5_letterBits_25 : decode cX5_letterBits 25 = .ok (.iinc 3 1, 3) := by decide +kernel
theorem dX5_letterBits_28 : decode cX5_letterBits 28 = .ok (.goto (-24), 3) := by decide +kernel
theorem dX5_letterBits_31 : decode cX5_letterBits 31 = .ok (.iload_n 2, 1) := by decide +kernel
theorem dX5_letterBits_32 : decode cX5_letterBits 32 = .ok (.ireturn, 1) := by decide +kernel
theorem dX6_init_0 : decode cX6_init 0 = .ok (.aload_n 0, 1) := by decide +kernel
theorem dX6_init_1 : decode cX6_init 1 = .ok (.invokespecial 3, 3) := by decide +kernel
theorem dX6_init_4 : decode cX6_init 4 = .ok (.aload_n 0, 1) := by decide +kernel
theorem dX6_init_5 : decode cX6_init 5 = .ok (.new 9, 3) := by decide +kernel
theorem dX6_init_8 : decode cX6_init 8 = .ok (.dup, 1) := by decide +kernel
theorem dX6_init_9 : decode cX6_init 9 = .ok (.invokespecial 11, 3) := by decide +kernel
theorem dX6_init_12 : decode cX6_init 12 = .ok (.putfield 12, 3) := by decide +kernel
theorem dX6_init_15 : decode cX6_init 15 = .ok (.aload_n 0, 1) := by decide +kernel
theorem dX6_init_16 : decode cX6_init 16 = .ok (.sipush 5184, 3) := by decide +kernel
theorem dX6_init_19 : decode cX6_init 19 = .ok (.newarray .long, 2) := by decide +kernel
theorem dX6_init_21 : decode cX6_init 21 = .ok (.putfield 18, 3) := by decide +kernel
theorem dX6_init_24 : decode cX6_init 24 = .ok (.aload_n 0, 1) := by decide +kernel
theorem dX6_init_25 : decode cX6_init 25 = .ok (.bipush 13, 2) := by decide +kernel
theorem dX6_init_27 : decode cX6_init 27 = .ok (.newarray .long, 2) := by decide +kernel
theorem dX6_init_29 : decode cX6_init 29 = .ok (.putfield 22, 3) := by decide +kernel
theorem dX6_init_32 : decode cX6_init 32 = .ok (.aload_n 0, 1) := by decide +kernel
theorem dX6_init_33 : decode cX6_init 33 = .ok (.bipush 12, 2) := by decide +kernel
theorem dX6_init_35 : decode cX6_init 35 = .ok (.newarray .int, 2) := by decide +kernel
theorem dX6_init_37 : decode cX6_init 37 = .ok (.putfield 25, 3) := by decide +kernel
theorem dX6_init_40 : decode cX6_init 40 = .ok (.aload_n 0, 1) := by decide +kernel
theorem dX6_init_41 : decode cX6_init 41 = .ok (.sipush 5184, 3) := by decide +kernel
theorem dX6_init_44 : decode cX6_init 44 = .ok (.newarray .long, 2) := by decide +kernel
theorem dX6_init_46 : decode cX6_init 46 = .ok (.putfield 29, 3) := by decide +kernel
theorem dX6_init_49 : decode cX6_init 49 = .ok (.aload_n 0, 1) := by decide +kernel
theorem dX6_init_50 : decode cX6_init 50 = .ok (.sipush 5184, 3) := by decide +kernel
theorem dX6_init_53 : decode cX6_init 53 = .ok (.newarray .long, 2) := by decide +kernel
theorem dX6_init_55 : decode cX6_init 55 = .ok (.putfield 32, 3) := by decide +kernel
theorem dX6_init_58 : decode cX6_init 58 = .ok (.aload_n 0, 1) := by decide +kernel
theorem dX6_init_59 : decode cX6_init 59 = .ok (.iconst 0, 1) := by decide +kernel
theorem dX6_init_60 : decode cX6_init 60 = .ok (.putfield 35, 3) := by decide +kernel
theorem dX6_init_63 : decode cX6_init 63 = .ok (.aload_n 0, 1) := by decide +kernel
theorem dX6_init_64 : decode cX6_init 64 = .ok (.lconst 0, 1) := by decide +kernel
theorem dX6_init_65 : decode cX6_init 65 = .ok (.putfield 39, 3) := by decide +kernel
theorem dX6_init_68 : decode cX6_init 68 = .ok (.aload_n 0, 1) := by decide +kernel
theorem dX6_init_69 : decode cX6_init 69 = .ok (.iconst 0, 1) := by decide +kernel
theorem dX6_init_70 : decode cX6_init 70 = .ok (.putfield 43, 3) := by decide +kernel
theorem dX6_init_73 : decode cX6_init 73 = .ok (.aload_n 0, 1) := by decide +kernel
theorem dX6_init_74 : decode cX6_init 74 = .ok (.iconst 0, 1) := by decide +kernel
theorem dX6_init_75 : decode cX6_init 75 = .ok (.putfield 47, 3) := by decide +kernel
theorem dX6_init_78 : decode cX6_init 78 = .ok (.aload_n 0, 1) := by decide +kernel
theorem dX6_init_79 : decode cX6_init 79 = .ok (.aload_n 1, 1) := by decide +kernel
theorem dX6_init_80 : decode cX6_init 80 = .ok (.putfield 50, 3) := by decide +kernel
theorem dX6_init_83 : decode cX6_init 83 = .ok (.aload_n 0, 1) := by decide +kernel
theorem dX6_init_84 : decode cX6_init 84 = .ok (.aload_n 2, 1) := by decide +kernel
theorem dX6_init_85 : decode cX6_init 85 = .ok (.putfield 54, 3) := by decide +kernel
theorem dX6_init_88 : decode cX6_init 88 = .ok (.aload_n 0, 1) := by decide +kernel
theorem dX6_init_89 : decode cX6_init 89 = .ok (.new 58, 3) := by decide +kernel
theorem dX6_init_92 : decode cX6_init 92 = .ok (.dup, 1) := by decide +kernel
theorem dX6_init_93 : decode cX6_init 93 = .ok (.aload_n 1, 1) := by decide +kernel
theorem dX6_init_94 : decode cX6_init 94 = .ok (.aload_n 2, 1) := by decide +kernel
theorem dX6_init_95 : decode cX6_init 95 = .ok (.invokespecial 60, 3) := by decide +kernel
theorem dX6_init_98 : decode cX6_init 98 = .ok (.putfield 63, 3) := by decide +kernel
theorem dX6_init_101 : decode cX6_init 101 = .ok (.aload_n 0, 1) := by decide +kernel
theorem dX6_init_102 : decode cX6_init 102 = .ok (.new 67, 3) := by decide +kernel
theorem dX6_init_105 : decode cX6_init 105 = .ok (.dup, 1) := by decide +kernel
theorem dX6_init_106 : decode cX6_init 106 = .ok (.aload_n 2, 1) := by decide +kernel
theorem dX6_init_107 : decode cX6_init 107 = .ok (.getfield 69, 3) := by decide +kernel
theorem dX6_init_110 : decode cX6_init 110 = .ok (.invokespecial 74, 3) := by decide +kernel
theorem dX6_init_113 : decode cX6_init 113 = .ok (.putfield 77, 3) := by decide +kernel
theorem dX6_init_116 : decode cX6_init 116 = .ok (.return_, 1) := by decide +kernel
theorem dX6_refresh_0 : decode cX6_refresh 0 = .ok (.aload_n 0, 1) := by decide +kernel
theorem dX6_refresh_1 : decode cX6_refresh 1 = .ok (.getfield 43, 3) := by decide +kernel
theorem dX6_refresh_4 : decode cX6_refresh 4 = .ok (.ifCond .eq 4, 3) := by decide +kernel
theorem dX6_refresh_7 : decode cX6_refresh 7 = .ok (.return_, 1) := by decide +kernel
theorem dX6_refresh_8 : decode cX6_refresh 8 = .ok (.aload_n 0, 1) := by decide +kernel
theorem dX6_refresh_9 : decode cX6_refresh 9 = .ok (.getfield 63, 3) := by decide +kernel
theorem dX6_refresh_12 : decode cX6_refresh 12 = .ok (.invokevirtual 81, 3) := by decide +kernel
theorem dX6_refresh_15 : decode cX6_refresh 15 = .ok (.aload_n 0, 1) := by decide +kernel
theorem dX6_refresh_16 : decode cX6_refresh 16 = .ok (.getfield 63, 3) := by decide +kernel
theorem dX6_refresh_19 : decode cX6_refresh 19 = .ok (.aload_n 0, 1) := by decide +kernel
theorem dX6_refresh_20 : decode cX6_refresh 20 = .ok (.getfield 12, 3) := by decide +kernel
theorem dX6_refresh_23 : decode cX6_refresh 23 = .ok (.aload_n 0, 1) := by decide +kernel
theorem dX6_refresh_24 : decode cX6_refresh 24 = .ok (.getfield 18, 3) := by decide +kernel
theorem dX6_refresh_27 : decode cX6_refresh 27 = .ok (.invokevirtual 84, 3) := by decide +kernel
theorem dX6_refresh_30 : decode cX6_refresh 30 = .ok (.aload_n 0, 1) := by decide +kernel
theorem dX6_refresh_31 : decode cX6_refresh 31 = .ok (.aload_n 0, 1) := by decide +kernel
theorem dX6_refresh_32 : decode cX6_refresh 32 = .ok (.getfield 63, 3) := by decide +kernel
theorem dX6_refresh_35 : decode cX6_refresh 35 = .ok (.aload_n 0, 1) := by decide +kernel
theorem dX6_refresh_36 : decode cX6_refresh 36 = .ok (.getfield 12, 3) := by decide +kernel
theorem dX6_refresh_39 : decode cX6_refresh 39 = .ok (.sipush 1023, 3) := by decide +kernel
theorem dX6_refresh_42 : decode cX6_refresh 42 = .ok (.aload_n 0, 1) := by decide +kernel
theorem dX6_refresh_43 : decode cX6_refresh 43 = .ok (.getfield 18, 3) := by decide +kernel
theorem dX6_refresh_46 : decode cX6_refresh 46 = .ok (.aload_n 0, 1) := by decide +kernel
theorem dX6_refresh_47 : decode cX6_refresh 47 = .ok (.getfield 18, 3) := by decide +kernel
theorem dX6_refresh_50 : decode cX6_refresh 50 = .ok (.invokevirtual 88, 3) := by decide +kernel
theorem dX6_refresh_53 : decode cX6_refresh 53 = .ok (.putfield 39, 3) := by decide +kernel
theorem dX6_refresh_56 : decode cX6_refresh 56 = .ok (.aload_n 0, 1) := by decide +kernel
theorem dX6_refresh_57 : decode cX6_refresh 57 = .ok (.iconst 0, 1) := by decide +kernel
theorem dX6_refresh_58 : decode cX6_refresh 58 = .ok (.putfield 47, 3) := by decide +kernel
theorem dX6_refresh_61 : decode cX6_refresh 61 = .ok (.aload_n 0, 1) := by decide +kernel
theorem dX6_refresh_62 : decode cX6_refresh 62 = .ok (.iconst 1, 1) := by decide +kernel
theorem dX6_refresh_63 : decode cX6_refresh 63 = .ok (.putfield 43, 3) := by decide +kernel
theorem dX6_refresh_66 : decode cX6_refresh 66 = .ok (.return_, 1) := by decide +kernel
theorem dX6_exist_0 : decode cX6_exist 0 = .ok (.aload_n 0, 1) := by decide +kernel
theorem dX6_exist_1 : decode cX6_exist 1 = .ok (.iconst 0, 1) := by decide +kernel
theorem dX6_exist_2 : decode cX6_exist 2 = .ok (.putfield 43, 3) := by decide +kernel
theorem dX6_exist_5 : decode cX6_exist 5 = .ok (.aload_n 0, 1) := by decide +kernel
theorem dX6_exist_6 : decode cX6_exist 6 = .ok (.getfield 63, 3) := by decide +kernel
theorem dX6_exist_9 : decode cX6_exist 9 = .ok (.invokevirtual 81, 3) := by decide +kernel
theorem dX6_exist_12 : decode cX6_exist 12 = .ok (.aload_n 0, 1) := by decide +kernel
theorem dX6_exist_13 : decode cX6_exist 13 = .ok (.getfield 63, 3) := by decide +kernel
theorem dX6_exist_16 : decode cX6_exist 16 = .ok (.invokevirtual 92, 3) := by decide +kernel
theorem dX6_exist_19 : decode cX6_exist 19 = .ok (.ireturn, 1) := by decide +kernel
theorem dX6_count_0 : decode cX6_count 0 = .ok (.aload_n 0, 1) := by decide +kernel
theorem dX6_count_1 : decode cX6_count 1 = .ok (.invokevirtual 96, 3) := by decide +kernel
theorem dX6_count_4 : decode cX6_count 4 = .ok (.aload_n 0, 1) := by decide +kernel
theorem dX6_count_5 : decode cX6_count 5 = .ok (.getfield 39, 3) := by decide +kernel
theorem dX6_count_8 : decode cX6_count 8 = .ok (.lreturn, 1) := by decide +kernel
theorem dX6_countWithin_0 : decode cX6_countWithin 0 = .ok (.aload_n 0, 1) := by decide +kernel
theorem dX6_countWithin_1 : decode cX6_countWithin 1 = .ok (.invokevirtual 96, 3) := by decide +kernel
theorem dX6_countWithin_4 : decode cX6_countWithin 4 = .ok (.aload_n 0, 1) := by decide +kernel
theorem dX6_countWithin_5 : decode cX6_countWithin 5 = .ok (.aload_n 0, 1) := by decide +kernel
theorem dX6_countWithin_6 : decode cX6_countWithin 6 = .ok (.getfield 12, 3) := by decide +kernel
theorem dX6_countWithin_9 : decode cX6_countWithin 9 = .ok (.iload_n 1, 1) := by decide +kernel
theorem dX6_countWithin_10 : decode cX6_countWithin 10 = .ok (.invokevirtual 99, 3) := by decide +kernel
theorem dX6_countWithin_13 : decode cX6_countWithin 13 = .ok (.lreturn, 1) := by decide +kernel
theorem dX6_foldWithin_0 : decode cX6_foldWithin 0 = .ok (.aload_n 0, 1) := by decide +kernel
theorem dX6_foldWithin_1 : decode cX6_foldWithin 1 = .ok (.getfield 63, 3) := by decide +kernel
theorem dX6_foldWithin_4 : decode cX6_foldWithin 4 = .ok (.aload_n 1, 1) := by decide +kernel
theorem dX6_foldWithin_5 : decode cX6_foldWithin 5 = .ok (.aload_n 0, 1) := by decide +kernel
theorem dX6_foldWithin_6 : decode cX6_foldWithin 6 = .ok (.getfield 29, 3) := by decide +kernel
theorem dX6_foldWithin_9 : decode cX6_foldWithin 9 = .ok (.invokevirtual 84, 3) := by decide +kernel
theorem dX6_foldWithin_12 : decode cX6_foldWithin 12 = .ok (.aload_n 0, 1) := by decide +kernel
theorem dX6_foldWithin_13 : decode cX6_foldWithin 13 = .ok (.getfield 63, 3) := by decide +kernel
theorem dX6_foldWithin_16 : decode cX6_foldWithin 16 = .ok (.aload_n 1, 1) := by decide +kernel
theorem dX6_foldWithin_17 : decode cX6_foldWithin 17 = .ok (.iload_n 2, 1) := by decide +kernel
theorem dX6_foldWithin_18 : decode cX6_foldWithin 18 = .ok (.aload_n 0, 1) := by decide +kernel
theorem dX6_foldWithin_19 : decode cX6_foldWithin 19 = .ok (.getfield 29, 3) := by decide +kernel
theorem dX6_foldWithin_22 : decode cX6_foldWithin 22 = .ok (.aload_n 0, 1) := by decide +kernel
theorem dX6_foldWithin_23 : decode cX6_foldWithin 23 = .ok (.getfield 29, 3) := by decide +kernel
theorem dX6_foldWithin_26 : decode cX6_foldWithin 26 = .ok (.invokevirtual 88, 3) := by decide +kernel
theorem dX6_foldWithin_29 : decode cX6_foldWithin 29 = .ok (.lreturn, 1) := by decide +kernel
theorem dX6_countOf_0 : decode cX6_countOf 0 = .ok (.aload_n 0, 1) := by decide +kernel
theorem dX6_countOf_1 : decode cX6_countOf 1 = .ok (.invokevirtual 103, 3) := by decide +kernel
theorem dX6_countOf_4 : decode cX6_countOf 4 = .ok (.iload_n 1, 1) := by decide +kernel
theorem dX6_countOf_5 : decode cX6_countOf 5 = .ok (.iconst 1, 1) := by decide +kernel
theorem dX6_countOf_6 : decode cX6_countOf 6 = .ok (.if_icmp .lt 18, 3) := by decide +kernel
theorem dX6_countOf_9 : decode cX6_countOf 9 = .ok (.iload_n 1, 1) := by decide +kernel
theorem dX6_countOf_10 : decode cX6_countOf 10 = .ok (.bipush 12, 2) := by decide +kernel
theorem dX6_countOf_12 : decode cX6_countOf 12 = .ok (.if_icmp .gt 12, 3) := by decide +kernel
theorem dX6_countOf_15 : decode cX6_countOf 15 = .ok (.aload_n 0, 1) := by decide +kernel
theorem dX6_countOf_16 : decode cX6_countOf 16 = .ok (.getfield 22, 3) := by decide +kernel
theorem dX6_countOf_19 : decode cX6_countOf 19 = .ok (.iload_n 1, 1) := by decide +kernel
theorem dX6_countOf_20 : decode cX6_countOf 20 = .ok (.laload, 1) := by decide +kernel
theorem dX6_countOf_21 : decode cX6_countOf 21 = .ok (.goto 4, 3) := by decide +kernel
theorem dX6_countOf_24 : decode cX6_countOf 24 = .ok (.lconst 0, 1) := by decide +kernel
theorem dX6_countOf_25 : decode cX6_countOf 25 = .ok (.lreturn, 1) := by decide +kernel
theorem dX6_countLengths_0 : decode cX6_countLengths 0 = .ok (.aload_n 0, 1) := by decide +kernel
theorem dX6_countLengths_1 : decode cX6_countLengths 1 = .ok (.invokevirtual 96, 3) := by decide +kernel
theorem dX6_countLengths_4 : decode cX6_countLengths 4 = .ok (.aload_n 0, 1) := by decide +kernel
theorem dX6_countLengths_5 : decode cX6_countLengths 5 = .ok (.getfield 47, 3) := by decide +kernel
theorem dX6_countLengths_8 : decode cX6_countLengths 8 = .ok (.ifCond .eq 4, 3) := by decide +kernel
theorem dX6_countLengths_11 : decode cX6_countLengths 11 = .ok (.return_, 1) := by decide +kernel
theorem dX6_countLengths_12 : decode cX6_countLengths 12 = .ok (.aload_n 0, 1) := by decide +kernel
theorem dX6_countLengths_13 : decode cX6_countLengths 13 = .ok (.getfield 63, 3) := by decide +kernel
theorem dX6_countLengths_16 : decode cX6_countLengths 16 = .ok (.aload_n 0, 1) := by decide +kernel
theorem dX6_countLengths_17 : decode cX6_countLengths 17 = .ok (.getfield 12, 3) := by decide +kernel
theorem dX6_countLengths_20 : decode cX6_countLengths 20 = .ok (.aload_n 0, 1) := by decide +kernel
theorem dX6_countLengths_21 : decode cX6_countLengths 21 = .ok (.getfield 29, 3) := by decide +kernel
theorem dX6_countLengths_24 : decode cX6_countLengths 24 = .ok (.invokevirtual 106, 3) := by decide +kernel
theorem dX6_countLengths_27 : decode cX6_countLengths 27 = .ok (.aload_n 0, 1) := by decide +kernel
theorem dX6_countLengths_28 : decode cX6_countLengths 28 = .ok (.getfield 63, 3) := by decide +kernel
theorem dX6_countLengths_31 : decode cX6_countLengths 31 = .ok (.aload_n 0, 1) := by decide +kernel
theorem dX6_countLengths_32 : decode cX6_countLengths 32 = .ok (.getfield 12, 3) := by decide +kernel
theorem dX6_countLengths_35 : decode cX6_countLengths 35 = .ok (.aload_n 0, 1) := by decide +kernel
theorem dX6_countLengths_36 : decode cX6_countLengths 36 = .ok (.getfield 29, 3) := by decide +kernel
theorem dX6_countLengths_39 : decode cX6_countLengths 39 = .ok (.invokevirtual 84, 3) := by decide +kernel
theorem dX6_countLengths_42 : decode cX6_countLengths 42 = .ok (.aload_n 0, 1) := by decide +kernel
theorem dX6_countLengths_43 : decode cX6_countLengths 43 = .ok (.getfield 39, 3) := by decide +kernel
theorem dX6_countLengths_46 : decode cX6_countLengths 46 = .ok (.lstore_n 1, 1) := by decide +kernel
theorem dX6_countLengths_47 : decode cX6_countLengths 47 = .ok (.iconst 1, 1) := by decide +kernel
theorem dX6_countLengths_48 : decode cX6_countLengths 48 = .ok (.istore_n 3, 1) := by decide +kernel
theorem dX6_countLengths_49 : decode cX6_countLengths 49 = .ok (.iload_n 3, 1) := by decide +kernel
theorem dX6_countLengths_50 : decode cX6_countLengths 50 = .ok (.bipush 12, 2) := by decide +kernel
theorem dX6_countLengths_52 : decode cX6_countLengths 52 = .ok (.if_icmp .gt 86, 3) := by decide +kernel
theorem dX6_countLengths_55 : decode cX6_countLengths 55 = .ok (.aload_n 0, 1) := by decide +kernel
theorem dX6_countLengths_56 : decode cX6_countLengths 56 = .ok (.getfield 22, 3) := by decide +kernel
theorem dX6_countLengths_59 : decode cX6_countLengths 59 = .ok (.iload_n 3, 1) := by decide +kernel
theorem dX6_countLengths_60 : decode cX6_countLengths 60 = .ok (.lconst 0, 1) := by decide +kernel
theorem dX6_countLengths_61 : decode cX6_countLengths 61 = .ok (.lastore, 1) := by decide +kernel
theorem dX6_countLengths_62 : decode cX6_countLengths 62 = .ok (.lload_n 1, 1) := by decide +kernel
theorem dX6_countLengths_63 : decode cX6_countLengths 63 = .ok (.lconst 0, 1) := by decide +kernel
theorem dX6_countLengths_64 : decode cX6_countLengths 64 = .ok (.lcmp, 1) := by decide +kernel
theorem dX6_countLengths_65 : decode cX6_countLengths 65 = .ok (.ifCond .le 67, 3) := by decide +kernel
theorem dX6_countLengths_68 : decode cX6_countLengths 68 = .ok (.aload_n 0, 1) := by decide +kernel
theorem dX6_countLengths_69 : decode cX6_countLengths 69 = .ok (.getfield 22, 3) := by decide +kernel
theorem dX6_countLengths_72 : decode cX6_countLengths 72 = .ok (.iload_n 3, 1) := by decide +kernel
theorem dX6_countLengths_73 : decode cX6_countLengths 73 = .ok (.aload_n 0, 1) := by decide +kernel
theorem dX6_countLengths_74 : decode cX6_countLengths 74 = .ok (.getfield 63, 3) := by decide +kernel
theorem dX6_countLengths_77 : decode cX6_countLengths 77 = .ok (.aload_n 0, 1) := by decide +kernel
theorem dX6_countLengths_78 : decode cX6_countLengths 78 = .ok (.getfield 12, 3) := by decide +kernel
theorem dX6_countLengths_81 : decode cX6_countLengths 81 = .ok (.sipush 1023, 3) := by decide +kernel
theorem dX6_countLengths_84 : decode cX6_countLengths 84 = .ok (.aload_n 0, 1) := by decide +kernel
theorem dX6_countLengths_85 : decode cX6_countLengths 85 = .ok (.getfield 29, 3) := by decide +kernel
theorem dX6_countLengths_88 : decode cX6_countLengths 88 = .ok (.aload_n 0, 1) := by decide +kernel
theorem dX6_countLengths_89 : decode cX6_countLengths 89 = .ok (.getfield 32, 3) := by decide +kernel
theorem dX6_countLengths_92 : decode cX6_countLengths 92 = .ok (.invokevirtual 88, 3) := by decide +kernel
theorem dX6_countLengths_95 : decode cX6_countLengths 95 = .ok (.lastore, 1) := by decide +kernel
theorem dX6_countLengths_96 : decode cX6_countLengths 96 = .ok (.lload_n 1, 1) := by decide +kernel
theorem dX6_countLengths_97 : decode cX6_countLengths 97 = .ok (.aload_n 0, 1) := by decide +kernel
theorem dX6_countLengths_98 : decode cX6_countLengths 98 = .ok (.getfield 22, 3) := by decide +kernel
theorem dX6_countLengths_101 : decode cX6_countLengths 101 = .ok (.iload_n 3, 1) := by decide +kernel
theorem dX6_countLengths_102 : decode cX6_countLengths 102 = .ok (.laload, 1) := by decide +kernel
theorem dX6_countLengths_103 : decode cX6_countLengths 103 = .ok (.lsub, 1) := by decide +kernel
theorem dX6_countLengths_104 : decode cX6_countLengths 104 = .ok (.lstore_n 1, 1) := by decide +kernel
theorem dX6_countLengths_105 : decode cX6_countLengths 105 = .ok (.aload_n 0, 1) := by decide +kernel
theorem dX6_countLengths_106 : decode cX6_countLengths 106 = .ok (.getfield 32, 3) := by decide +kernel
theorem dX6_countLengths_109 : decode cX6_countLengths 109 = .ok (.invokestatic 109, 3) := by decide +kernel
theorem dX6_countLengths_112 : decode cX6_countLengths 112 = .ok (.aload_n 0, 1) := by decide +kernel
theorem dX6_countLengths_113 : decode cX6_countLengths 113 = .ok (.getfield 29, 3) := by decide +kernel
theorem dX6_countLengths_116 : decode cX6_countLengths 116 = .ok (.astore 4, 2) := by decide +kernel
theorem dX6_countLengths_118 : decode cX6_countLengths 118 = .ok (.aload_n 0, 1) := by decide +kernel
theorem dX6_countLengths_119 : decode cX6_countLengths 119 = .ok (.aload_n 0, 1) := by decide +kernel
theorem dX6_countLengths_120 : decode cX6_countLengths 120 = .ok (.getfield 32, 3) := by decide +kernel
theorem dX6_countLengths_123 : decode cX6_countLengths 123 = .ok (.putfield 29, 3) := by decide +kernel
theorem dX6_countLengths_126 : decode cX6_countLengths 126 = .ok (.aload_n 0, 1) := by decide +kernel
theorem dX6_countLengths_127 : decode cX6_countLengths 127 = .ok (.aload 4, 2) := by decide +kernel
theorem dX6_countLengths_129 : decode cX6_countLengths 129 = .ok (.putfield 32, 3) := by decide +kernel
theorem dX6_countLengths_132 : decode cX6_countLengths 132 = .ok (.iinc 3 1, 3) := by decide +kernel
theorem dX6_countLengths_135 : decode cX6_countLengths 135 = .ok (.goto (-86), 3) := by decide +kernel
theorem dX6_countLengths_138 : decode cX6_countLengths 138 = .ok (.aload_n 0, 1) := by decide +kernel
theorem dX6_countLengths_139 : decode cX6_countLengths 139 = .ok (.iconst 1, 1) := by decide +kernel
theorem dX6_countLengths_140 : decode cX6_countLengths 140 = .ok (.putfield 47, 3) := by decide +kernel
theorem dX6_countLengths_143 : decode cX6_countLengths 143 = .ok (.return_, 1) := by decide +kernel
theorem dX6_endNowhere_0 : decode cX6_endNowhere 0 = .ok (.iconst 0, 1) := by decide +kernel
theorem dX6_endNowhere_1 : decode cX6_endNowhere 1 = .ok (.istore_n 1, 1) := by decide +kernel
theorem dX6_endNowhere_2 : decode cX6_endNowhere 2 = .ok (.iload_n 1, 1) := by decide +kernel
theorem dX6_endNowhere_3 : decode cX6_endNowhere 3 = .ok (.iconst 4, 1) := by decide +kernel
theorem dX6_endNowhere_4 : decode cX6_endNowhere 4 = .ok (.if_icmp .ge 13, 3) := by decide +kernel
theorem dX6_endNowhere_7 : decode cX6_endNowhere 7 = .ok (.aload_n 0, 1) := by decide +kernel
theorem dX6_endNowhere_8 : decode cX6_endNowhere 8 = .ok (.iload_n 1, 1) := by decide +kernel
theorem dX6_endNowhere_9 : decode cX6_endNowhere 9 = .ok (.lconst 0, 1) := by decide +kernel
theorem dX6_endNowhere_10 : decode cX6_endNowhere 10 = .ok (.lastore, 1) := by decide +kernel
theorem dX6_endNowhere_11 : decode cX6_endNowhere 11 = .ok (.iinc 1 1, 3) := by decide +kernel
theorem dX6_endNowhere_14 : decode cX6_endNowhere 14 = .ok (.goto (-12), 3) := by decide +kernel
theorem dX6_endNowhere_17 : decode cX6_endNowhere 17 = .ok (.return_, 1) := by decide +kernel
theorem dX6_fewestWords_0 : decode cX6_fewestWords 0 = .ok (.aload_n 0, 1) := by decide +kernel
theorem dX6_fewestWords_1 : decode cX6_fewestWords 1 = .ok (.invokevirtual 103, 3) := by decide +kernel
theorem dX6_fewestWords_4 : decode cX6_fewestWords 4 = .ok (.iconst 1, 1) := by decide +kernel
theorem dX6_fewestWords_5 : decode cX6_fewestWords 5 = .ok (.istore_n 1, 1) := by decide +kernel
theorem dX6_fewestWords_6 : decode cX6_fewestWords 6 = .ok (.iload_n 1, 1) := by decide +kernel
theorem dX6_fewestWords_7 : decode cX6_fewestWords 7 = .ok (.bipush 12, 2) := by decide +kernel
theorem dX6_fewestWords_9 : decode cX6_fewestWords 9 = .ok (.if_icmp .gt 22, 3) := by decide +kernel
theorem dX6_fewestWords_12 : decode cX6_fewestWords 12 = .ok (.aload_n 0, 1) := by decide +kernel
theorem dX6_fewestWords_13 : decode cX6_fewestWords 13 = .ok (.getfield 22, 3) := by decide +kernel
theorem dX6_fewestWords_16 : decode cX6_fewestWords 16 = .ok (.iload_n 1, 1) := by decide +kernel
theorem dX6_fewestWords_17 : decode cX6_fewestWords 17 = .ok (.laload, 1) := by decide +kernel
theorem dX6_fewestWords_18 : decode cX6_fewestWords 18 = .ok (.lconst 0, 1) := by decide +kernel
theorem dX6_fewestWords_19 : decode cX6_fewestWords 19 = .ok (.lcmp, 1) := by decide +kernel
theorem dX6_fewestWords_20 : decode cX6_fewestWords 20 = .ok (.ifCond .le 5, 3) := by decide +kernel
theorem dX6_fewestWords_23 : decode cX6_fewestWords 23 = .ok (.iload_n 1, 1) := by decide +kernel
theorem dX6_fewestWords_24 : decode cX6_fewestWords 24 = .ok (.ireturn, 1) := by decide +kernel
theorem dX6_fewestWords_25 : decode cX6_fewestWords 25 = .ok (.iinc 1 1, 3) := by decide +kernel
theorem dX6_fewestWords_28 : decode cX6_fewestWords 28 = .ok (.goto (-22), 3) := by decide +kernel
theorem dX6_fewestWords_31 : decode cX6_fewestWords 31 = .ok (.bipush (-9), 2) := by decide +kernel
theorem dX6_fewestWords_33 : decode cX6_fewestWords 33 = .ok (.ireturn, 1) := by decide +kernel
theorem dX6_mostWords_0 : decode cX6_mostWords 0 = .ok (.aload_n 0, 1) := by decide +kernel
theorem dX6_mostWords_1 : decode cX6_mostWords 1 = .ok (.invokevirtual 103, 3) := by decide +kernel
theorem dX6_mostWords_4 : decode cX6_mostWords 4 = .ok (.bipush 12, 2) := by decide +kernel
theorem dX6_mostWords_6 : decode cX6_mostWords 6 = .ok (.istore_n 1, 1) := by decide +kernel
theorem dX6_mostWords_7 : decode cX6_mostWords 7 = .ok (.iload_n 1, 1) := by decide +kernel
theorem dX6_mostWords_8 : decode cX6_mostWords 8 = .ok (.iconst 1, 1) := by decide +kernel
theorem dX6_mostWords_9 : decode cX6_mostWords 9 = .ok (.if_icmp .lt 22, 3) := by decide +kernel
theorem dX6_mostWords_12 : decode cX6_mostWords 12 = .ok (.aload_n 0, 1) := by decide +kernel
theorem dX6_mostWords_13 : decode cX6_mostWords 13 = .ok (.getfield 22, 3) := by decide +kernel
theorem dX6_mostWords_16 : decode cX6_mostWords 16 = .ok (.iload_n 1, 1) := by decide +kernel
theorem dX6_mostWords_17 : decode cX6_mostWords 17 = .ok (.laload, 1) := by decide +kernel
theorem dX6_mostWords_18 : decode cX6_mostWords 18 = .ok (.lconst 0, 1) := by decide +kernel
theorem dX6_mostWords_19 : decode cX6_mostWords 19 = .ok (.lcmp, 1) := by decide +kernel
theorem dX6_mostWords_20 : decode cX6_mostWords 20 = .ok (.ifCond .le 5, 3) := by decide +kernel
theorem dX6_mostWords_23 : decode cX6_mostWords 23 = .ok (.iload_n 1, 1) := by decide +kernel
theorem dX6_mostWords_24 : decode cX6_mostWords 24 = .ok (.ireturn, 1) := by decide +kernel
theorem dX6_mostWords_25 : decode cX6_mostWords 25 = .ok (.iinc 1 (-1), 3) := by decide +kernel
theorem dX6_mostWords_28 : decode cX6_mostWords 28 = .ok (.goto (-21), 3) := by decide +kernel
theorem dX6_mostWords_31 : decode cX6_mostWords 31 = .ok (.bipush (-9), 2) := by decide +kernel
theorem dX6_mostWords_33 : decode cX6_mostWords 33 = .ok (.ireturn, 1) := by decide +kernel
theorem dX6_wordsInPhrases_0 : decode cX6_wordsInPhrases 0 = .ok (.aload_n 0, 1) := by decide +kernel
theorem dX6_wordsInPhrases_1 : decode cX6_wordsInPhrases 1 = .ok (.invokevirtual 96, 3) := by decide +kernel
theorem dX6_wordsInPhrases_4 : decode cX6_wordsInPhrases 4 = .ok (.iconst 0, 1) := by decide +kernel
theorem dX6_wordsInPhrases_5 : decode cX6_wordsInPhrases 5 = .ok (.istore_n 1, 1) := by decide +kernel
theorem dX6_wordsInPhrases_6 : decode cX6_wordsInPhrases 6 = .ok (.iconst 0, 1) := by decide +kernel
theorem dX6_wordsInPhrases_7 : decode cX6_wordsInPhrases 7 = .ok (.istore_n 2, 1) := by decide +kernel
theorem dX6_wordsInPhrases_8 : decode cX6_wordsInPhrases 8 = .ok (.iload_n 2, 1) := by decide +kernel
theorem dX6_wordsInPhrases_9 : decode cX6_wordsInPhrases 9 = .ok (.aload_n 0, 1) := by decide +kernel
theorem dX6_wordsInPhrases_10 : decode cX6_wordsInPhrases 10 = .ok (.getfield 63, 3) := by decide +kernel
theorem dX6_wordsInPhrases_13 : decode cX6_wordsInPhrases 13 = .ok (.getfield 113, 3) := by decide +kernel
theorem dX6_wordsInPhrases_16 : decode cX6_wordsInPhrases 16 = .ok (.if_icmp .ge 81, 3) := by decide +kernel
theorem dX6_wordsInPhrases_19 : decode cX6_wordsInPhrases 19 = .ok (.aload_n 0, 1) := by decide +kernel
theorem dX6_wordsInPhrases_20 : decode cX6_wordsInPhrases 20 = .ok (.getfield 63, 3) := by decide +kernel
theorem dX6_wordsInPhrases_23 : decode cX6_wordsInPhrases 23 = .ok (.getfield 116, 3) := by decide +kernel
theorem dX6_wordsInPhrases_26 : decode cX6_wordsInPhrases 26 = .ok (.iload_n 2, 1) := by decide +kernel
theorem dX6_wordsInPhrases_27 : decode cX6_wordsInPhrases 27 = .ok (.iaload, 1) := by decide +kernel
theorem dX6_wordsInPhrases_28 : decode cX6_wordsInPhrases 28 = .ok (.istore_n 3, 1) := by decide +kernel
theorem dX6_wordsInPhrases_29 : decode cX6_wordsInPhrases 29 = .ok (.iconst 0, 1) := by decide +kernel
theorem dX6_wordsInPhrases_30 : decode cX6_wordsInPhrases 30 = .ok (.istore 4, 2) := by decide +kernel
theorem dX6_wordsInPhrases_32 : decode cX6_wordsInPhrases 32 = .ok (.iload 4, 2) := by decide +kernel
theorem dX6_wordsInPhrases_34 : decode cX6_wordsInPhrases 34 = .ok (.aload_n 0, 1) := by decide +kernel
theorem dX6_wordsInPhrases_35 : decode cX6_wordsInPhrases 35 = .ok (.getfield 50, 3) := by decide +kernel
theorem dX6_wordsInPhrases_38 : decode cX6_wordsInPhrases 38 = .ok (.getfield 119, 3) := by decide +kernel
theorem dX6_wordsInPhrases_41 : decode cX6_wordsInPhrases 41 = .ok (.if_icmp .ge 50, 3) := by decide +kernel
theorem dX6_wordsInPhrases_44 : decode cX6_wordsInPhrases 44 = .ok (.aload_n 0, 1) := by decide +kernel
theorem dX6_wordsInPhrases_45 : decode cX6_wordsInPhrases 45 = .ok (.getfield 63, 3) := by decide +kernel
theorem dX6_wordsInPhrases_48 : decode cX6_wordsInPhrases 48 = .ok (.iload_n 3, 1) := by decide +kernel
theorem dX6_wordsInPhrases_49 : decode cX6_wordsInPhrases 49 = .ok (.bipush 15, 2) := by decide +kernel
theorem dX6_wordsInPhrases_51 : decode cX6_wordsInPhrases 51 = .ok (.iload 4, 2) := by decide +kernel
theorem dX6_wordsInPhrases_53 : decode cX6_wordsInPhrases 53 = .ok (.invokevirtual 124, 3) := by decide +kernel
theorem dX6_wordsInPhrases_56 : decode cX6_wordsInPhrases 56 = .ok (.ifCond .eq 29, 3) := by decide +kernel
theorem dX6_wordsInPhrases_59 : decode cX6_wordsInPhrases 59 = .ok (.aload_n 0, 1) := by decide +kernel
theorem dX6_wordsInPhrases_60 : decode cX6_wordsInPhrases 60 = .ok (.getfield 63, 3) := by decide +kernel
theorem dX6_wordsInPhrases_63 : decode cX6_wordsInPhrases 63 = .ok (.aload_n 0, 1) := by decide +kernel
theorem dX6_wordsInPhrases_64 : decode cX6_wordsInPhrases 64 = .ok (.getfield 18, 3) := by decide +kernel
theorem dX6_wordsInPhrases_67 : decode cX6_wordsInPhrases 67 = .ok (.iload_n 3, 1) := by decide +kernel
theorem dX6_wordsInPhrases_68 : decode cX6_wordsInPhrases 68 = .ok (.iload 4, 2) := by decide +kernel
theorem dX6_wordsInPhrases_70 : decode cX6_wordsInPhrases 70 = .ok (.invokevirtual 128, 3) := by decide +kernel
theorem dX6_wordsInPhrases_73 : decode cX6_wordsInPhrases 73 = .ok (.lconst 0, 1) := by decide +kernel
theorem dX6_wordsInPhrases_74 : decode cX6_wordsInPhrases 74 = .ok (.lcmp, 1) := by decide +kernel
theorem dX6_wordsInPhrases_75 : decode cX6_wordsInPhrases 75 = .ok (.ifCond .le 10, 3) := by decide +kernel
theorem dX6_wordsInPhrases_78 : decode cX6_wordsInPhrases 78 = .ok (.iload_n 1, 1) := by decide +kernel
theorem dX6_wordsInPhrases_79 : decode cX6_wordsInPhrases 79 = .ok (.iconst 1, 1) := by decide +kernel
theorem dX6_wordsInPhrases_80 : decode cX6_wordsInPhrases 80 = .ok (.iload 4, 2) := by decide +kernel
theorem dX6_wordsInPhrases_82 : decode cX6_wordsInPhrases 82 = .ok (.ishl, 1) := by decide +kernel
theorem dX6_wordsInPhrases_83 : decode cX6_wordsInPhrases 83 = .ok (.ior, 1) := by decide +kernel
theorem dX6_wordsInPhrases_84 : decode cX6_wordsInPhrases 84 = .ok (.istore_n 1, 1) := by decide +kernel
theorem dX6_wordsInPhrases_85 : decode cX6_wordsInPhrases 85 = .ok (.iinc 4 1, 3) := by decide +kernel
theorem dX6_wordsInPhrases_88 : decode cX6_wordsInPhrases 88 = .ok (.goto (-56), 3) := by decide +kernel
theorem dX6_wordsInPhrases_91 : decode cX6_wordsInPhrases 91 = .ok (.iinc 2 1, 3) := by decide +kernel
theorem dX6_wordsInPhrases_94 : decode cX6_wordsInPhrases 94 = .ok (.goto (-86), 3) := by decide +kernel
theorem dX6_wordsInPhrases_97 : decode cX6_wordsInPhrases 97 = .ok (.iload_n 1, 1) := by decide +kernel
theorem dX6_wordsInPhrases_98 : decode cX6_wordsInPhrases 98 = .ok (.ireturn, 1) := by decide +kernel
theorem dX6_waysBy_0 : decode cX6_waysBy 0 = .ok (.aload_n 0, 1) := by decide +kernel
theorem dX6_waysBy_1 : decode cX6_waysBy 1 = .ok (.getfield 63, 3) := by decide +kernel
theorem dX6_waysBy_4 : decode cX6_waysBy 4 = .ok (.iload_n 2, 1) := by decide +kernel
theorem dX6_waysBy_5 : decode cX6_waysBy 5 = .ok (.iload_n 3, 1) := by decide +kernel
theorem dX6_waysBy_6 : decode cX6_waysBy 6 = .ok (.iload_n 1, 1) := by decide +kernel
theorem dX6_waysBy_7 : decode cX6_waysBy 7 = .ok (.invokevirtual 124, 3) := by decide +kernel
theorem dX6_waysBy_10 : decode cX6_waysBy 10 = .ok (.ifCond .eq 19, 3) := by decide +kernel
theorem dX6_waysBy_13 : decode cX6_waysBy 13 = .ok (.aload_n 0, 1) := by decide +kernel
theorem dX6_waysBy_14 : decode cX6_waysBy 14 = .ok (.getfield 63, 3) := by decide +kernel
theorem dX6_waysBy_17 : decode cX6_waysBy 17 = .ok (.aload_n 0, 1) := by decide +kernel
theorem dX6_waysBy_18 : decode cX6_waysBy 18 = .ok (.getfield 18, 3) := by decide +kernel
theorem dX6_waysBy_21 : decode cX6_waysBy 21 = .ok (.iload_n 2, 1) := by decide +kernel
theorem dX6_waysBy_22 : decode cX6_waysBy 22 = .ok (.iload_n 1, 1) := by decide +kernel
theorem dX6_waysBy_23 : decode cX6_waysBy 23 = .ok (.invokevirtual 128, 3) := by decide +kernel
theorem dX6_waysBy_26 : decode cX6_waysBy 26 = .ok (.goto 4, 3) := by decide +kernel
theorem dX6_waysBy_29 : decode cX6_waysBy 29 = .ok (.lconst 0, 1) := by decide +kernel
theorem dX6_waysBy_30 : decode cX6_waysBy 30 = .ok (.lreturn, 1) := by decide +kernel
theorem dX6_findNumbered_0 : decode cX6_findNumbered 0 = .ok (.aload_n 0, 1) := by decide +kernel
theorem dX6_findNumbered_1 : decode cX6_findNumbered 1 = .ok (.invokevirtual 96, 3) := by decide +kernel
theorem dX6_findNumbered_4 : decode cX6_findNumbered 4 = .ok (.aload_n 0, 1) := by decide +kernel
theorem dX6_findNumbered_5 : decode cX6_findNumbered 5 = .ok (.iconst 0, 1) := by decide +kernel
theorem dX6_findNumbered_6 : decode cX6_findNumbered 6 = .ok (.putfield 35, 3) := by decide +kernel
theorem dX6_findNumbered_9 : decode cX6_findNumbered 9 = .ok (.aload_n 0, 1) := by decide +kernel
theorem dX6_findNumbered_10 : decode cX6_findNumbered 10 = .ok (.getfield 63, 3) := by decide +kernel
theorem dX6_findNumbered_13 : decode cX6_findNumbered 13 = .ok (.getfield 132, 3) := by decide +kernel
theorem dX6_findNumbered_16 : decode cX6_findNumbered 16 = .ok (.istore_n 3, 1) := by decide +kernel
theorem dX6_findNumbered_17 : decode cX6_findNumbered 17 = .ok (.aload_n 0, 1) := by decide +kernel
theorem dX6_findNumbered_18 : decode cX6_findNumbered 18 = .ok (.getfield 54, 3) := by decide +kernel
theorem dX6_findNumbered_21 : decode cX6_findNumbered 21 = .ok (.getfield 135, 3) := by decide +kernel
theorem dX6_findNumbered_24 : decode cX6_findNumbered 24 = .ok (.istore 4, 2) := by decide +kernel
theorem dX6_findNumbered_26 : decode cX6_findNumbered 26 = .ok (.lload_n 1, 1) := by decide +kernel
theorem dX6_findNumbered_27 : decode cX6_findNumbered 27 = .ok (.lstore 5, 2) := by decide +kernel
theorem dX6_findNumbered_29 : decode cX6_findNumbered 29 = .ok (.iconst 0, 1) := by decide +kernel
theorem dX6_findNumbered_30 : decode cX6_findNumbered 30 = .ok (.istore 7, 2) := by decide +kernel
theorem dX6_findNumbered_32 : decode cX6_findNumbered 32 = .ok (.iload 7, 2) := by decide +kernel
theorem dX6_findNumbered_34 : decode cX6_findNumbered 34 = .ok (.bipush 12, 2) := by decide +kernel
theorem dX6_findNumbered_36 : decode cX6_findNumbered 36 = .ok (.if_icmp .ge 127, 3) := by decide +kernel
theorem dX6_findNumbered_39 : decode cX6_findNumbered 39 = .ok (.iload_n 3, 1) := by decide +kernel
theorem dX6_findNumbered_40 : decode cX6_findNumbered 40 = .ok (.ifCond .le 123, 3) := by decide +kernel
theorem dX6_findNumbered_43 : decode cX6_findNumbered 43 = .ok (.iconst 0, 1) := by decide +kernel
theorem dX6_findNumbered_44 : decode cX6_findNumbered 44 = .ok (.istore 8, 2) := by decide +kernel
theorem dX6_findNumbered_46 : decode cX6_findNumbered 46 = .ok (.aload_n 0, 1) := by decide +kernel
theorem dX6_findNumbered_47 : decode cX6_findNumbered 47 = .ok (.iconst 0, 1) := by decide +kernel
theorem dX6_findNumbered_48 : decode cX6_findNumbered 48 = .ok (.iload_n 3, 1) := by decide +kernel
theorem dX6_findNumbered_49 : decode cX6_findNumbered 49 = .ok (.iload 4, 2) := by decide +kernel
theorem dX6_findNumbered_51 : decode cX6_findNumbered 51 = .ok (.invokevirtual 138, 3) := by decide +kernel
theorem dX6_findNumbered_54 : decode cX6_findNumbered 54 = .ok (.lstore 9, 2) := by decide +kernel
theorem dX6_findNumbered_56 : decode cX6_findNumbered 56 = .ok (.iload 8, 2) := by decide +kernel
theorem dX6_findNumbered_58 : decode cX6_findNumbered 58 = .ok (.aload_n 0, 1) := by decide +kernel
theorem dX6_findNumbered_59 : decode cX6_findNumbered 59 = .ok (.getfield 50, 3) := by decide +kernel
theorem dX6_findNumbered_62 : decode cX6_findNumbered 62 = .ok (.getfield 119, 3) := by decide +kernel
theorem dX6_findNumbered_65 : decode cX6_findNumbered 65 = .ok (.if_icmp .ge 51, 3) := by decide +kernel
theorem dX6_findNumbered_68 : decode cX6_findNumbered 68 = .ok (.lload 5, 2) := by decide +kernel
theorem dX6_findNumbered_70 : decode cX6_findNumbered 70 = .ok (.lload 9, 2) := by decide +kernel
theorem dX6_findNumbered_72 : decode cX6_findNumbered 72 = .ok (.lcmp, 1) := by decide +kernel
theorem dX6_findNumbered_73 : decode cX6_findNumbered 73 = .ok (.ifCond .lt 43, 3) := by decide +kernel
theorem dX6_findNumbered_76 : decode cX6_findNumbered 76 = .ok (.lload 5, 2) := by decide +kernel
theorem dX6_findNumbered_78 : decode cX6_findNumbered 78 = .ok (.lload 9, 2) := by decide +kernel
theorem dX6_findNumbered_80 : decode cX6_findNumbered 80 = .ok (.lsub, 1) := by decide +kernel
theorem dX6_findNumbered_81 : decode cX6_findNumbered 81 = .ok (.lstore 5, 2) := by decide +kernel
theorem dX6_findNumbered_83 : decode cX6_findNumbered 83 = .ok (.iinc 8 1, 3) := by decide +kernel
theorem dX6_findNumbered_86 : decode cX6_findNumbered 86 = .ok (.iload 8, 2) := by decide +kernel
theorem dX6_findNumbered_88 : decode cX6_findNumbered 88 = .ok (.aload_n 0, 1) := by decide +kernel
theorem dX6_findNumbered_89 : decode cX6_findNumbered 89 = .ok (.getfield 50, 3) := by decide +kernel
theorem dX6_findNumbered_92 : decode cX6_findNumbered 92 = .ok (.getfield 119, 3) := by decide +kernel
theorem dX6_findNumbered_95 : decode cX6_findNumbered 95 = .ok (.if_icmp .ge 15, 3) := by decide +kernel
theorem dX6_findNumbered_98 : decode cX6_findNumbered 98 = .ok (.aload_n 0, 1) := by decide +kernel
theorem dX6_findNumbered_99 : decode cX6_findNumbered 99 = .ok (.iload 8, 2) := by decide +kernel
theorem dX6_findNumbered_101 : decode cX6_findNumbered 101 = .ok (.iload_n 3, 1) := by decide +kernel
theorem dX6_findNumbered_102 : decode cX6_findNumbered 102 = .ok (.iload 4, 2) := by decide +kernel
theorem dX6_findNumbered_104 : decode cX6_findNumbered 104 = .ok (.invokevirtual 138, 3) := by decide +kernel
theorem dX6_findNumbered_107 : decode cX6_findNumbered 107 = .ok (.goto 4, 3) := by decide +kernel
theorem dX6_findNumbered_110 : decode cX6_findNumbered 110 = .ok (.lconst 0, 1) := by decide +kernel
theorem dX6_findNumbered_111 : decode cX6_findNumbered 111 = .ok (.lstore 9, 2) := by decide +kernel
theorem dX6_findNumbered_113 : decode cX6_findNumbered 113 = .ok (.goto (-57), 3) := by decide +kernel
theorem dX6_findNumbered_116 : decode cX6_findNumbered 116 = .ok (.iload 8, 2) := by decide +kernel
theorem dX6_findNumbered_118 : decode cX6_findNumbered 118 = .ok (.aload_n 0, 1) := by decide +kernel
theorem dX6_findNumbered_119 : decode cX6_findNumbered 119 = .ok (.getfield 50, 3) := by decide +kernel
theorem dX6_findNumbered_122 : decode cX6_findNumbered 122 = .ok (.getfield 119, 3) := by decide +kernel
theorem dX6_findNumbered_125 : decode cX6_findNumbered 125 = .ok (.if_icmp .lt 4, 3) := by decide +kernel
theorem dX6_findNumbered_128 : decode cX6_findNumbered 128 = .ok (.return_, 1) := by decide +kernel
theorem dX6_findNumbered_129 : decode cX6_findNumbered 129 = .ok (.aload_n 0, 1) := by decide +kernel
theorem dX6_findNumbered_130 : decode cX6_findNumbered 130 = .ok (.iload 8, 2) := by decide +kernel
theorem dX6_findNumbered_132 : decode cX6_findNumbered 132 = .ok (.iload_n 3, 1) := by decide +kernel
theorem dX6_findNumbered_133 : decode cX6_findNumbered 133 = .ok (.invokevirtual 142, 3) := by decide +kernel
theorem dX6_findNumbered_136 : decode cX6_findNumbered 136 = .ok (.istore_n 3, 1) := by decide +kernel
theorem dX6_findNumbered_137 : decode cX6_findNumbered 137 = .ok (.aload_n 0, 1) := by decide +kernel
theorem dX6_findNumbered_138 : decode cX6_findNumbered 138 = .ok (.getfield 54, 3) := by decide +kernel
theorem dX6_findNumbered_141 : decode cX6_findNumbered 141 = .ok (.getfield 146, 3) := by decide +kernel
theorem dX6_findNumbered_144 : decode cX6_findNumbered 144 = .ok (.aload_n 0, 1) := by decide +kernel
theorem dX6_findNumbered_145 : decode cX6_findNumbered 145 = .ok (.getfield 50, 3) := by decide +kernel
theorem dX6_findNumbered_148 : decode cX6_findNumbered 148 = .ok (.getfield 149, 3) := by decide +kernel
theorem dX6_findNumbered_151 : decode cX6_findNumbered 151 = .ok (.iload 8, 2) := by decide +kernel
theorem dX6_findNumbered_153 : decode cX6_findNumbered 153 = .ok (.iaload, 1) := by decide +kernel
theorem dX6_findNumbered_154 : decode cX6_findNumbered 154 = .ok (.iaload, 1) := by decide +kernel
theorem dX6_findNumbered_155 : decode cX6_findNumbered 155 = .ok (.istore 4, 2) := by decide +kernel
theorem dX6_findNumbered_157 : decode cX6_findNumbered 157 = .ok (.iinc 7 1, 3) := by decide +kernel
theorem dX6_findNumbered_160 : decode cX6_findNumbered 160 = .ok (.goto (-128), 3) := by decide +kernel
theorem dX6_findNumbered_163 : decode cX6_findNumbered 163 = .ok (.return_, 1) := by decide +kernel
theorem dX6_findBest_0 : decode cX6_findBest 0 = .ok (.aload_n 0, 1) := by decide +kernel
theorem dX6_findBest_1 : decode cX6_findBest 1 = .ok (.invokevirtual 96, 3) := by decide +kernel
theorem dX6_findBest_4 : decode cX6_findBest 4 = .ok (.aload_n 0, 1) := by decide +kernel
theorem dX6_findBest_5 : decode cX6_findBest 5 = .ok (.iconst 0, 1) := by decide +kernel
theorem dX6_findBest_6 : decode cX6_findBest 6 = .ok (.putfield 35, 3) := by decide +kernel
theorem dX6_findBest_9 : decode cX6_findBest 9 = .ok (.aload_n 0, 1) := by decide +kernel
theorem dX6_findBest_10 : decode cX6_findBest 10 = .ok (.aload_n 0, 1) := by decide +kernel
theorem dX6_findBest_11 : decode cX6_findBest 11 = .ok (.getfield 77, 3) := by decide +kernel
theorem dX6_findBest_14 : decode cX6_findBest 14 = .ok (.sipush 1023, 3) := by decide +kernel
theorem dX6_findBest_17 : decode cX6_findBest 17 = .ok (.invokevirtual 99, 3) := by decide +kernel
theorem dX6_findBest_20 : decode cX6_findBest 20 = .ok (.lstore_n 1, 1) := by decide +kernel
theorem dX6_findBest_21 : decode cX6_findBest 21 = .ok (.lload_n 1, 1) := by decide +kernel
theorem dX6_findBest_22 : decode cX6_findBest 22 = .ok (.lconst 0, 1) := by decide +kernel
theorem dX6_findBest_23 : decode cX6_findBest 23 = .ok (.lcmp, 1) := by decide +kernel
theorem dX6_findBest_24 : decode cX6_findBest 24 = .ok (.ifCond .lt 7, 3) := by decide +kernel
theorem dX6_findBest_27 : decode cX6_findBest 27 = .ok (.iconst 1, 1) := by decide +kernel
theorem dX6_findBest_28 : decode cX6_findBest 28 = .ok (.goto 4, 3) := by decide +kernel
theorem dX6_findBest_31 : decode cX6_findBest 31 = .ok (.iconst 0, 1) := by decide +kernel
theorem dX6_findBest_32 : decode cX6_findBest 32 = .ok (.istore_n 3, 1) := by decide +kernel
theorem dX6_findBest_33 : decode cX6_findBest 33 = .ok (.aload_n 0, 1) := by decide +kernel
theorem dX6_findBest_34 : decode cX6_findBest 34 = .ok (.getfield 63, 3) := by decide +kernel
theorem dX6_findBest_37 : decode cX6_findBest 37 = .ok (.getfield 132, 3) := by decide +kernel
theorem dX6_findBest_40 : decode cX6_findBest 40 = .ok (.istore 4, 2) := by decide +kernel
theorem dX6_findBest_42 : decode cX6_findBest 42 = .ok (.aload_n 0, 1) := by decide +kernel
theorem dX6_findBest_43 : decode cX6_findBest 43 = .ok (.getfield 54, 3) := by decide +kernel
theorem dX6_findBest_46 : decode cX6_findBest 46 = .ok (.getfield 135, 3) := by decide +kernel
theorem dX6_findBest_49 : decode cX6_findBest 49 = .ok (.istore 5, 2) := by decide +kernel
theorem dX6_findBest_51 : decode cX6_findBest 51 = .ok (.iconst 0, 1) := by decide +kernel
theorem dX6_findBest_52 : decode cX6_findBest 52 = .ok (.istore 6, 2) := by decide +kernel
theorem dX6_findBest_54 : decode cX6_findBest 54 = .ok (.iload 6, 2) := by decide +kernel
theorem dX6_findBest_56 : decode cX6_findBest 56 = .ok (.bipush 12, 2) := by decide +kernel
theorem dX6_findBest_58 : decode cX6_findBest 58 = .ok (.if_icmp .ge 87, 3) := by decide +kernel
theorem dX6_findBest_61 : decode cX6_findBest 61 = .ok (.iload_n 3, 1) := by decide +kernel
theorem dX6_findBest_62 : decode cX6_findBest 62 = .ok (.ifCond .eq 83, 3) := by decide +kernel
theorem dX6_findBest_65 : decode cX6_findBest 65 = .ok (.iload 4, 2) := by decide +kernel
theorem dX6_findBest_67 : decode cX6_findBest 67 = .ok (.ifCond .le 78, 3) := by decide +kernel
theorem dX6_findBest_70 : decode cX6_findBest 70 = .ok (.aload_n 0, 1) := by decide +kernel
theorem dX6_findBest_71 : decode cX6_findBest 71 = .ok (.lload_n 1, 1) := by decide +kernel
theorem dX6_findBest_72 : decode cX6_findBest 72 = .ok (.iload 4, 2) := by decide +kernel
theorem dX6_findBest_74 : decode cX6_findBest 74 = .ok (.iload 5, 2) := by decide +kernel
theorem dX6_findBest_76 : decode cX6_findBest 76 = .ok (.invokevirtual 152, 3) := by decide +kernel
theorem dX6_findBest_79 : decode cX6_findBest 79 = .ok (.istore 7, 2) := by decide +kernel
theorem dX6_findBest_81 : decode cX6_findBest 81 = .ok (.iload 7, 2) := by decide +kernel
theorem dX6_findBest_83 : decode cX6_findBest 83 = .ok (.aload_n 0, 1) := by decide +kernel
theorem dX6_findBest_84 : decode cX6_findBest 84 = .ok (.getfield 50, 3) := by decide +kernel
theorem dX6_findBest_87 : decode cX6_findBest 87 = .ok (.getfield 119, 3) := by decide +kernel
theorem dX6_findBest_90 : decode cX6_findBest 90 = .ok (.if_icmp .lt 5, 3) := by decide +kernel
theorem dX6_findBest_93 : decode cX6_findBest 93 = .ok (.iconst 0, 1) := by decide +kernel
theorem dX6_findBest_94 : decode cX6_findBest 94 = .ok (.ireturn, 1) := by decide +kernel
theorem dX6_findBest_95 : decode cX6_findBest 95 = .ok (.lload_n 1, 1) := by decide +kernel
theorem dX6_findBest_96 : decode cX6_findBest 96 = .ok (.aload_n 0, 1) := by decide +kernel
theorem dX6_findBest_97 : decode cX6_findBest 97 = .ok (.getfield 54, 3) := by decide +kernel
theorem dX6_findBest_100 : decode cX6_findBest 100 = .ok (.getfield 69, 3) := by decide +kernel
theorem dX6_findBest_103 : decode cX6_findBest 103 = .ok (.iload 7, 2) := by decide +kernel
theorem dX6_findBest_105 : decode cX6_findBest 105 = .ok (.iaload, 1) := by decide +kernel
theorem dX6_findBest_106 : decode cX6_findBest 106 = .ok (.i2l, 1) := by decide +kernel
theorem dX6_findBest_107 : decode cX6_findBest 107 = .ok (.lsub, 1) := by decide +kernel
theorem dX6_findBest_108 : decode cX6_findBest 108 = .ok (.lstore_n 1, 1) := by decide +kernel
theorem dX6_findBest_109 : decode cX6_findBest 109 = .ok (.aload_n 0, 1) := by decide +kernel
theorem dX6_findBest_110 : decode cX6_findBest 110 = .ok (.iload 7, 2) := by decide +kernel
theorem dX6_findBest_112 : decode cX6_findBest 112 = .ok (.iload 4, 2) := by decide +kernel
theorem dX6_findBest_114 : decode cX6_findBest 114 = .ok (.invokevirtual 142, 3) := by decide +kernel
theorem dX6_findBest_117 : decode cX6_findBest 117 = .ok (.istore 4, 2) := by decide +kernel
theorem dX6_findBest_119 : decode cX6_findBest 119 = .ok (.aload_n 0, 1) := by decide +kernel
theorem dX6_findBest_120 : decode cX6_findBest 120 = .ok (.getfield 54, 3) := by decide +kernel
theorem dX6_findBest_123 : decode cX6_findBest 123 = .ok (.getfield 146, 3) := by decide +kernel
theorem dX6_findBest_126 : decode cX6_findBest 126 = .ok (.aload_n 0, 1) := by decide +kernel
theorem dX6_findBest_127 : decode cX6_findBest 127 = .ok (.getfield 50, 3) := by decide +kernel
theorem dX6_findBest_130 : decode cX6_findBest 130 = .ok (.getfield 149, 3) := by decide +kernel
theorem dX6_findBest_133 : decode cX6_findBest 133 = .ok (.iload 7, 2) := by decide +kernel
theorem dX6_findBest_135 : decode cX6_findBest 135 = .ok (.iaload, 1) := by decide +kernel
theorem dX6_findBest_136 : decode cX6_findBest 136 = .ok (.iaload, 1) := by decide +kernel
theorem dX6_findBest_137 : decode cX6_findBest 137 = .ok (.istore 5, 2) := by decide +kernel
theorem dX6_findBest_139 : decode cX6_findBest 139 = .ok (.iinc 6 1, 3) := by decide +kernel
theorem dX6_findBest_142 : decode cX6_findBest 142 = .ok (.goto (-88), 3) := by decide +kernel
theorem dX6_findBest_145 : decode cX6_findBest 145 = .ok (.iload_n 3, 1) := by decide +kernel
theorem dX6_findBest_146 : decode cX6_findBest 146 = .ok (.ireturn, 1) := by decide +kernel
theorem dX6_firstReaching_0 : decode cX6_firstReaching 0 = .ok (.iconst 0, 1) := by decide +kernel
theorem dX6_firstReaching_1 : decode cX6_firstReaching 1 = .ok (.istore 5, 2) := by decide +kernel
theorem dX6_firstReaching_3 : decode cX6_firstReaching 3 = .ok (.iload 5, 2) := by decide +kernel
theorem dX6_firstReaching_5 : decode cX6_firstReaching 5 = .ok (.aload_n 0, 1) := by decide +kernel
theorem dX6_firstReaching_6 : decode cX6_firstReaching 6 = .ok (.getfield 50, 3) := by decide +kernel
theorem dX6_firstReaching_9 : decode cX6_firstReaching 9 = .ok (.getfield 119, 3) := by decide +kernel
theorem dX6_firstReaching_12 : decode cX6_firstReaching 12 = .ok (.if_icmp .ge 22, 3) := by decide +kernel
theorem dX6_firstReaching_15 : decode cX6_firstReaching 15 = .ok (.aload_n 0, 1) := by decide +kernel
theorem dX6_firstReaching_16 : decode cX6_firstReaching 16 = .ok (.lload_n 1, 1) := by decide +kernel
theorem dX6_firstReaching_17 : decode cX6_firstReaching 17 = .ok (.iload 5, 2) := by decide +kernel
theorem dX6_firstReaching_19 : decode cX6_firstReaching 19 = .ok (.iload_n 3, 1) := by decide +kernel
theorem dX6_firstReaching_20 : decode cX6_firstReaching 20 = .ok (.iload 4, 2) := by decide +kernel
theorem dX6_firstReaching_22 : decode cX6_firstReaching 22 = .ok (.invokevirtual 156, 3) := by decide +kernel
theorem dX6_firstReaching_25 : decode cX6_firstReaching 25 = .ok (.ifCond .ne 9, 3) := by decide +kernel
theorem dX6_firstReaching_28 : decode cX6_firstReaching 28 = .ok (.iinc 5 1, 3) := by decide +kernel
theorem dX6_firstReaching_31 : decode cX6_firstReaching 31 = .ok (.goto (-28), 3) := by decide +kernel
theorem dX6_firstReaching_34 : decode cX6_firstReaching 34 = .ok (.iload 5, 2) := by decide +kernel
theorem dX6_firstReaching_36 : decode cX6_firstReaching 36 = .ok (.ireturn, 1) := by decide +kernel
theorem dX6_reaches_0 : decode cX6_reaches 0 = .ok (.aload_n 0, 1) := by decide +kernel
theorem dX6_reaches_1 : decode cX6_reaches 1 = .ok (.getfield 63, 3) := by decide +kernel
theorem dX6_reaches_4 : decode cX6_reaches 4 = .ok (.iload 4, 2) := by decide +kernel
theorem dX6_reaches_6 : decode cX6_reaches 6 = .ok (.iload 5, 2) := by decide +kernel
theorem dX6_reaches_8 : decode cX6_reaches 8 = .ok (.iload_n 3, 1) := by decide +kernel
theorem dX6_reaches_9 : decode cX6_reaches 9 = .ok (.invokevirtual 124, 3) := by decide +kernel
theorem dX6_reaches_12 : decode cX6_reaches 12 = .ok (.ifCond .ne 5, 3) := by decide +kernel
theorem dX6_reaches_15 : decode cX6_reaches 15 = .ok (.iconst 0, 1) := by decide +kernel
theorem dX6_reaches_16 : decode cX6_reaches 16 = .ok (.ireturn, 1) := by decide +kernel
theorem dX6_reaches_17 : decode cX6_reaches 17 = .ok (.aload_n 0, 1) := by decide +kernel
theorem dX6_reaches_18 : decode cX6_reaches 18 = .ok (.getfield 63, 3) := by decide +kernel
theorem dX6_reaches_21 : decode cX6_reaches 21 = .ok (.aload_n 0, 1) := by decide +kernel
theorem dX6_reaches_22 : decode cX6_reaches 22 = .ok (.getfield 29, 3) := by decide +kernel
theorem dX6_reaches_25 : decode cX6_reaches 25 = .ok (.iload 4, 2) := by decide +kernel
theorem dX6_reaches_27 : decode cX6_reaches 27 = .ok (.iload_n 3, 1) := by decide +kernel
theorem dX6_reaches_28 : decode cX6_reaches 28 = .ok (.invokevirtual 128, 3) := by decide +kernel
theorem dX6_reaches_31 : decode cX6_reaches 31 = .ok (.lstore 6, 2) := by decide +kernel
theorem dX6_reaches_33 : decode cX6_reaches 33 = .ok (.lload 6, 2) := by decide +kernel
theorem dX6_reaches_35 : decode cX6_reaches 35 = .ok (.lconst 0, 1) := by decide +kernel
theorem dX6_reaches_36 : decode cX6_reaches 36 = .ok (.lcmp, 1) := by decide +kernel
theorem dX6_reaches_37 : decode cX6_reaches 37 = .ok (.ifCond .lt 25, 3) := by decide +kernel
theorem dX6_reaches_40 : decode cX6_reaches 40 = .ok (.lload 6, 2) := by decide +kernel
theorem dX6_reaches_42 : decode cX6_reaches 42 = .ok (.aload_n 0, 1) := by decide +kernel
theorem dX6_reaches_43 : decode cX6_reaches 43 = .ok (.getfield 54, 3) := by decide +kernel
theorem dX6_reaches_46 : decode cX6_reaches 46 = .ok (.getfield 69, 3) := by decide +kernel
theorem dX6_reaches_49 : decode cX6_reaches 49 = .ok (.iload_n 3, 1) := by decide +kernel
theorem dX6_reaches_50 : decode cX6_reaches 50 = .ok (.iaload, 1) := by decide +kernel
theorem dX6_reaches_51 : decode cX6_reaches 51 = .ok (.i2l, 1) := by decide +kernel
theorem dX6_reaches_52 : decode cX6_reaches 52 = .ok (.ladd, 1) := by decide +kernel
theorem dX6_reaches_53 : decode cX6_reaches 53 = .ok (.lload_n 1, 1) := by decide +kernel
theorem dX6_reaches_54 : decode cX6_reaches 54 = .ok (.lcmp, 1) := by decide +kernel
theorem dX6_reaches_55 : decode cX6_reaches 55 = .ok (.ifCond .ne 7, 3) := by decide +kernel
theorem dX6_reaches_58 : decode cX6_reaches 58 = .ok (.iconst 1, 1) := by decide +kernel
theorem dX6_reaches_59 : decode cX6_reaches 59 = .ok (.goto 4, 3) := by decide +kernel
theorem dX6_reaches_62 : decode cX6_reaches 62 = .ok (.iconst 0, 1) := by decide +kernel
theorem dX6_reaches_63 : decode cX6_reaches 63 = .ok (.ireturn, 1) := by decide +kernel
theorem dX6_cameToBy_0 : decode cX6_cameToBy 0 = .ok (.aload_n 0, 1) := by decide +kernel
theorem dX6_cameToBy_1 : decode cX6_cameToBy 1 = .ok (.getfield 25, 3) := by decide +kernel
theorem dX6_cameToBy_4 : decode cX6_cameToBy 4 = .ok (.aload_n 0, 1) := by decide +kernel
theorem dX6_cameToBy_5 : decode cX6_cameToBy 5 = .ok (.getfield 35, 3) := by decide +kernel
theorem dX6_cameToBy_8 : decode cX6_cameToBy 8 = .ok (.iload_n 1, 1) := by decide +kernel
theorem dX6_cameToBy_9 : decode cX6_cameToBy 9 = .ok (.iastore, 1) := by decide +kernel
theorem dX6_cameToBy_10 : decode cX6_cameToBy 10 = .ok (.aload_n 0, 1) := by decide +kernel
theorem dX6_cameToBy_11 : decode cX6_cameToBy 11 = .ok (.dup, 1) := by decide +kernel
theorem dX6_cameToBy_12 : decode cX6_cameToBy 12 = .ok (.getfield 35, 3) := by decide +kernel
theorem dX6_cameToBy_15 : decode cX6_cameToBy 15 = .ok (.iconst 1, 1) := by decide +kernel
theorem dX6_cameToBy_16 : decode cX6_cameToBy 16 = .ok (.iadd, 1) := by decide +kernel
theorem dX6_cameToBy_17 : decode cX6_cameToBy 17 = .ok (.putfield 35, 3) := by decide +kernel
theorem dX6_cameToBy_20 : decode cX6_cameToBy 20 = .ok (.iload_n 2, 1) := by decide +kernel
theorem dX6_cameToBy_21 : decode cX6_cameToBy 21 = .ok (.aload_n 0, 1) := by decide +kernel
theorem dX6_cameToBy_22 : decode cX6_cameToBy 22 = .ok (.getfield 63, 3) := by decide +kernel
theorem dX6_cameToBy_25 : decode cX6_cameToBy 25 = .ok (.getfield 160, 3) := by decide +kernel
theorem dX6_cameToBy_28 : decode cX6_cameToBy 28 = .ok (.iload_n 1, 1) := by decide +kernel
theorem dX6_cameToBy_29 : decode cX6_cameToBy 29 = .ok (.iaload, 1) := by decide +kernel
theorem dX6_cameToBy_30 : decode cX6_cameToBy 30 = .ok (.isub, 1) := by decide +kernel
theorem dX6_cameToBy_31 : decode cX6_cameToBy 31 = .ok (.ireturn, 1) := by decide +kernel
theorem dX6_foundWord_0 : decode cX6_foundWord 0 = .ok (.iload_n 1, 1) := by decide +kernel
theorem dX6_foundWord_1 : decode cX6_foundWord 1 = .ok (.ifCond .lt 20, 3) := by decide +kernel
theorem dX6_foundWord_4 : decode cX6_foundWord 4 = .ok (.iload_n 1, 1) := by decide +kernel
theorem dX6_foundWord_5 : decode cX6_foundWord 5 = .ok (.aload_n 0, 1) := by decide +kernel
theorem dX6_foundWord_6 : decode cX6_foundWord 6 = .ok (.getfield 35, 3) := by decide +kernel
theorem dX6_foundWord_9 : decode cX6_foundWord 9 = .ok (.if_icmp .ge 12, 3) := by decide +kernel
theorem dX6_foundWord_12 : decode cX6_foundWord 12 = .ok (.aload_n 0, 1) := by decide +kernel
theorem dX6_foundWord_13 : decode cX6_foundWord 13 = .ok (.getfield 25, 3) := by decide +kernel
theorem dX6_foundWord_16 : decode cX6_foundWord 16 = .ok (.iload_n 1, 1) := by decide +kernel
theorem dX6_foundWord_17 : decode cX6_foundWord 17 = .ok (.iaload, 1) := by decide +kernel
theorem dX6_foundWord_18 : decode cX6_foundWord 18 = .ok (.goto 5, 3) := by decide +kernel
theorem dX6_foundWord_21 : decode cX6_foundWord 21 = .ok (.bipush (-9), 2) := by decide +kernel
theorem dX6_foundWord_23 : decode cX6_foundWord 23 = .ok (.ireturn, 1) := by decide +kernel
theorem dX6_foundHas_0 : decode cX6_foundHas 0 = .ok (.iconst 0, 1) := by decide +kernel
theorem dX6_foundHas_1 : decode cX6_foundHas 1 = .ok (.istore_n 2, 1) := by decide +kernel
theorem dX6_foundHas_2 : decode cX6_foundHas 2 = .ok (.iload_n 2, 1) := by decide +kernel
theorem dX6_foundHas_3 : decode cX6_foundHas 3 = .ok (.aload_n 0, 1) := by decide +kernel
theorem dX6_foundHas_4 : decode cX6_foundHas 4 = .ok (.getfield 35, 3) := by decide +kernel
theorem dX6_foundHas_7 : decode cX6_foundHas 7 = .ok (.if_icmp .ge 21, 3) := by decide +kernel
theorem dX6_foundHas_10 : decode cX6_foundHas 10 = .ok (.aload_n 0, 1) := by decide +kernel
theorem dX6_foundHas_11 : decode cX6_foundHas 11 = .ok (.getfield 25, 3) := by decide +kernel
theorem dX6_foundHas_14 : decode cX6_foundHas 14 = .ok (.iload_n 2, 1) := by decide +kernel
theorem dX6_foundHas_15 : decode cX6_foundHas 15 = .ok (.iaload, 1) := by decide +kernel
theorem dX6_foundHas_16 : decode cX6_foundHas 16 = .ok (.iload_n 1, 1) := by decide +kernel
theorem dX6_foundHas_17 : decode cX6_foundHas 17 = .ok (.if_icmp .ne 5, 3) := by decide +kernel
theorem dX6_foundHas_20 : decode cX6_foundHas 20 = .ok (.iconst 1, 1) := by decide +kernel
theorem dX6_foundHas_21 : decode cX6_foundHas 21 = .ok (.ireturn, 1) := by decide +kernel
theorem dX6_foundHas_22 : decode cX6_foundHas 22 = .ok (.iinc 2 1, 3) := by decide +kernel
theorem dX6_foundHas_25 : decode cX6_foundHas 25 = .ok (.goto (-23), 3) := by decide +kernel
theorem dX6_foundHas_28 : decode cX6_foundHas 28 = .ok (.iconst 0, 1) := by decide +kernel
theorem dX6_foundHas_29 : decode cX6_foundHas 29 = .ok (.ireturn, 1) := by decide +kernel
theorem dX6_foundWorth_0 : decode cX6_foundWorth 0 = .ok (.iconst 0, 1) := by decide +kernel
theorem dX6_foundWorth_1 : decode cX6_foundWorth 1 = .ok (.istore_n 1, 1) := by decide +kernel
theorem dX6_foundWorth_2 : decode cX6_foundWorth 2 = .ok (.iconst 0, 1) := by decide +kernel
theorem dX6_foundWorth_3 : decode cX6_foundWorth 3 = .ok (.istore_n 2, 1) := by decide +kernel
theorem dX6_foundWorth_4 : decode cX6_foundWorth 4 = .ok (.iload_n 2, 1) := by decide +kernel
theorem dX6_foundWorth_5 : decode cX6_foundWorth 5 = .ok (.aload_n 0, 1) := by decide +kernel
theorem dX6_foundWorth_6 : decode cX6_foundWorth 6 = .ok (.getfield 35, 3) := by decide +kernel
theorem dX6_foundWorth_9 : decode cX6_foundWorth 9 = .ok (.if_icmp .ge 26, 3) := by decide +kernel
theorem dX6_foundWorth_12 : decode cX6_foundWorth 12 = .ok (.iload_n 1, 1) := by decide +kernel
theorem dX6_foundWorth_13 : decode cX6_foundWorth 13 = .ok (.aload_n 0, 1) := by decide +kernel
theorem dX6_foundWorth_14 : decode cX6_foundWorth 14 = .ok (.getfield 54, 3) := by decide +kernel
theorem dX6_foundWorth_17 : decode cX6_foundWorth 17 = .ok (.getfield 69, 3) := by decide +kernel
theorem dX6_foundWorth_20 : decode cX6_foundWorth 20 = .ok (.aload_n 0, 1) := by decide +kernel
theorem dX6_foundWorth_21 : decode cX6_foundWorth 21 = .ok (.getfield 25, 3) := by decide +kernel
theorem dX6_foundWorth_24 : decode cX6_foundWorth 24 = .ok (.iload_n 2, 1) := by decide +kernel
theorem dX6_foundWorth_25 : decode cX6_foundWorth 25 = .ok (.iaload, 1) := by decide +kernel
theorem dX6_foundWorth_26 : decode cX6_foundWorth 26 = .ok (.iaload, 1) := by decide +kernel
theorem dX6_foundWorth_27 : decode cX6_foundWorth 27 = .ok (.iadd, 1) := by decide +kernel
theorem dX6_foundWorth_28 : decode cX6_foundWorth 28 = .ok (.istore_n 1, 1) := by decide +kernel
theorem dX6_foundWorth_29 : decode cX6_foundWorth 29 = .ok (.iinc 2 1, 3) := by decide +kernel
theorem dX6_foundWorth_32 : decode cX6_foundWorth 32 = .ok (.goto (-28), 3) := by decide +kernel
theorem dX6_foundWorth_35 : decode cX6_foundWorth 35 = .ok (.iload_n 1, 1) := by decide +kernel
theorem dX6_foundWorth_36 : decode cX6_foundWorth 36 = .ok (.ireturn, 1) := by decide +kernel
theorem dX6_numberOf_0 : decode cX6_numberOf 0 = .ok (.aload_n 0, 1) := by decide +kernel
theorem dX6_numberOf_1 : decode cX6_numberOf 1 = .ok (.invokevirtual 96, 3) := by decide +kernel
theorem dX6_numberOf_4 : decode cX6_numberOf 4 = .ok (.aload_n 0, 1) := by decide +kernel
theorem dX6_numberOf_5 : decode cX6_numberOf 5 = .ok (.getfield 63, 3) := by decide +kernel
theorem dX6_numberOf_8 : decode cX6_numberOf 8 = .ok (.getfield 132, 3) := by decide +kernel
theorem dX6_numberOf_11 : decode cX6_numberOf 11 = .ok (.istore_n 3, 1) := by decide +kernel
theorem dX6_numberOf_12 : decode cX6_numberOf 12 = .ok (.aload_n 0, 1) := by decide +kernel
theorem dX6_numberOf_13 : decode cX6_numberOf 13 = .ok (.getfield 54, 3) := by decide +kernel
theorem dX6_numberOf_16 : decode cX6_numberOf 16 = .ok (.getfield 135, 3) := by decide +kernel
theorem dX6_numberOf_19 : decode cX6_numberOf 19 = .ok (.istore 4, 2) := by decide +kernel
theorem dX6_numberOf_21 : decode cX6_numberOf 21 = .ok (.lconst 0, 1) := by decide +kernel
theorem dX6_numberOf_22 : decode cX6_numberOf 22 = .ok (.lstore 5, 2) := by decide +kernel
theorem dX6_numberOf_24 : decode cX6_numberOf 24 = .ok (.iconst 0, 1) := by decide +kernel
theorem dX6_numberOf_25 : decode cX6_numberOf 25 = .ok (.istore 7, 2) := by decide +kernel
theorem dX6_numberOf_27 : decode cX6_numberOf 27 = .ok (.iload 7, 2) := by decide +kernel
theorem dX6_numberOf_29 : decode cX6_numberOf 29 = .ok (.iload_n 2, 1) := by decide +kernel
theorem dX6_numberOf_30 : decode cX6_numberOf 30 = .ok (.if_icmp .ge 78, 3) := by decide +kernel
theorem dX6_numberOf_33 : decode cX6_numberOf 33 = .ok (.iconst 0, 1) := by decide +kernel
theorem dX6_numberOf_34 : decode cX6_numberOf 34 = .ok (.istore 8, 2) := by decide +kernel
theorem dX6_numberOf_36 : decode cX6_numberOf 36 = .ok (.iload 8, 2) := by decide +kernel
theorem dX6_numberOf_38 : decode cX6_numberOf 38 = .ok (.aload_n 1, 1) := by decide +kernel
theorem dX6_numberOf_39 : decode cX6_numberOf 39 = .ok (.iload 7, 2) := by decide +kernel
theorem dX6_numberOf_41 : decode cX6_numberOf 41 = .ok (.iaload, 1) := by decide +kernel
theorem dX6_numberOf_42 : decode cX6_numberOf 42 = .ok (.if_icmp .ge 23, 3) := by decide +kernel
theorem dX6_numberOf_45 : decode cX6_numberOf 45 = .ok (.lload 5, 2) := by decide +kernel
theorem dX6_numberOf_47 : decode cX6_numberOf 47 = .ok (.aload_n 0, 1) := by decide +kernel
theorem dX6_numberOf_48 : decode cX6_numberOf 48 = .ok (.iload 8, 2) := by decide +kernel
theorem dX6_numberOf_50 : decode cX6_numberOf 50 = .ok (.iload_n 3, 1) := by decide +kernel
theorem dX6_numberOf_51 : decode cX6_numberOf 51 = .ok (.iload 4, 2) := by decide +kernel
theorem dX6_numberOf_53 : decode cX6_numberOf 53 = .ok (.invokevirtual 138, 3) := by decide +kernel
theorem dX6_numberOf_56 : decode cX6_numberOf 56 = .ok (.ladd, 1) := by decide +kernel
theorem dX6_numberOf_57 : decode cX6_numberOf 57 = .ok (.lstore 5, 2) := by decide +kernel
theorem dX6_numberOf_59 : decode cX6_numberOf 59 = .ok (.iinc 8 1, 3) := by decide +kernel
theorem dX6_numberOf_62 : decode cX6_numberOf 62 = .ok (.goto (-26), 3) := by decide +kernel
theorem dX6_numberOf_65 : decode cX6_numberOf 65 = .ok (.iload_n 3, 1) := by decide +kernel
theorem dX6_numberOf_66 : decode cX6_numberOf 66 = .ok (.aload_n 0, 1) := by decide +kernel
theorem dX6_numberOf_67 : decode cX6_numberOf 67 = .ok (.getfield 63, 3) := by decide +kernel
theorem dX6_numberOf_70 : decode cX6_numberOf 70 = .ok (.getfield 160, 3) := by decide +kernel
theorem dX6_numberOf_73 : decode cX6_numberOf 73 = .ok (.aload_n 1, 1) := by decide +kernel
theorem dX6_numberOf_74 : decode cX6_numberOf 74 = .ok (.iload 7, 2) := by decide +kernel
theorem dX6_numberOf_76 : decode cX6_numberOf 76 = .ok (.iaload, 1) := by decide +kernel
theorem dX6_numberOf_77 : decode cX6_numberOf 77 = .ok (.iaload, 1) := by decide +kernel
theorem dX6_numberOf_78 : decode cX6_numberOf 78 = .ok (.isub, 1) := by decide +kernel
theorem dX6_numberOf_79 : decode cX6_numberOf 79 = .ok (.istore_n 3, 1) := by decide +kernel
theorem dX6_numberOf_80 : decode cX6_numberOf 80 = .ok (.aload_n 0, 1) := by decide +kernel
theorem dX6_numberOf_81 : decode cX6_numberOf 81 = .ok (.getfield 54, 3) := by decide +kernel
theorem dX6_numberOf_84 : decode cX6_numberOf 84 = .ok (.getfield 146, 3) := by decide +kernel
theorem dX6_numberOf_87 : decode cX6_numberOf 87 = .ok (.aload_n 0, 1) := by decide +kernel
theorem dX6_numberOf_88 : decode cX6_numberOf 88 = .ok (.getfield 50, 3) := by decide +kernel
theorem dX6_numberOf_91 : decode cX6_numberOf 91 = .ok (.getfield 149, 3) := by decide +kernel
theorem dX6_numberOf_94 : decode cX6_numberOf 94 = .ok (.aload_n 1, 1) := by decide +kernel
theorem dX6_numberOf_95 : decode cX6_numberOf 95 = .ok (.iload 7, 2) := by decide +kernel
theorem dX6_numberOf_97 : decode cX6_numberOf 97 = .ok (.iaload, 1) := by decide +kernel
theorem dX6_numberOf_98 : decode cX6_numberOf 98 = .ok (.iaload, 1) := by decide +kernel
theorem dX6_numberOf_99 : decode cX6_numberOf 99 = .ok (.iaload, 1) := by decide +kernel
theorem dX6_numberOf_100 : decode cX6_numberOf 100 = .ok (.istore 4, 2) := by decide +kernel
theorem dX6_numberOf_102 : decode cX6_numberOf 102 = .ok (.iinc 7 1, 3) := by decide +kernel
theorem dX6_numberOf_105 : decode cX6_numberOf 105 = .ok (.goto (-78), 3) := by decide +kernel
theorem dX6_numberOf_108 : decode cX6_numberOf 108 = .ok (.lload 5, 2) := by decide +kernel
theorem dX6_numberOf_110 : decode cX6_numberOf 110 = .ok (.lreturn, 1) := by decide +kernel
theorem dX7_init_0 : decode cX7_init 0 = .ok (.aload_n 0, 1) := by decide +kernel
theorem dX7_init_1 : decode cX7_init 1 = .ok (.invokespecial 3, 3) := by decide +kernel
theorem dX7_init_4 : decode cX7_init 4 = .ok (.aload_n 0, 1) := by decide +kernel
theorem dX7_init_5 : decode cX7_init 5 = .ok (.sipush 180, 3) := by decide +kernel
theorem dX7_init_8 : decode cX7_init 8 = .ok (.newarray .int, 2) := by decide +kernel
theorem dX7_init_10 : decode cX7_init 10 = .ok (.putfield 9, 3) := by decide +kernel
theorem dX7_init_13 : decode cX7_init 13 = .ok (.aload_n 0, 1) := by decide +kernel
theorem dX7_init_14 : decode cX7_init 14 = .ok (.new 15, 3) := by decide +kernel
theorem dX7_init_17 : decode cX7_init 17 = .ok (.dup, 1) := by decide +kernel
theorem dX7_init_18 : decode cX7_init 18 = .ok (.invokespecial 17, 3) := by decide +kernel
theorem dX7_init_21 : decode cX7_init 21 = .ok (.putfield 18, 3) := by decide +kernel
theorem dX7_init_24 : decode cX7_init 24 = .ok (.aload_n 0, 1) := by decide +kernel
theorem dX7_init_25 : decode cX7_init 25 = .ok (.new 22, 3) := by decide +kernel
theorem dX7_init_28 : decode cX7_init 28 = .ok (.dup, 1) := by decide +kernel
theorem dX7_init_29 : decode cX7_init 29 = .ok (.invokespecial 24, 3) := by decide +kernel
theorem dX7_init_32 : decode cX7_init 32 = .ok (.putfield 25, 3) := by decide +kernel
theorem dX7_init_35 : decode cX7_init 35 = .ok (.aload_n 0, 1) := by decide +kernel
theorem dX7_init_36 : decode cX7_init 36 = .ok (.iconst 0, 1) := by decide +kernel
theorem dX7_init_37 : decode cX7_init 37 = .ok (.putfield 29, 3) := by decide +kernel
theorem dX7_init_40 : decode cX7_init 40 = .ok (.aload_n 0, 1) := by decide +kernel
theorem dX7_init_41 : decode cX7_init 41 = .ok (.iconst 0, 1) := by decide +kernel
theorem dX7_init_42 : decode cX7_init 42 = .ok (.putfield 33, 3) := by decide +kernel
theorem dX7_init_45 : decode cX7_init 45 = .ok (.aload_n 0, 1) := by decide +kernel
theorem dX7_init_46 : decode cX7_init 46 = .ok (.iconst 0, 1) := by decide +kernel
theorem dX7_init_47 : decode cX7_init 47 = .ok (.putfield 36, 3) := by decide +kernel
theorem dX7_init_50 : decode cX7_init 50 = .ok (.return_, 1) := by decide +kernel
theorem dX7_append_0 : decode cX7_append 0 = .ok (.aload_n 0, 1) := by decide +kernel
theorem dX7_append_1 : decode cX7_append 1 = .ok (.getfield 29, 3) := by decide +kernel
theorem dX7_append_4 : decode cX7_append 4 = .ok (.sipush 180, 3) := by decide +kernel
theorem dX7_append_7 : decode cX7_append 7 = .ok (.if_icmp .lt 5, 3) := by decide +kernel
theorem dX7_append_10 : decode cX7_append 10 = .ok (.iconst 0, 1) := by decide +kernel
theorem dX7_append_11 : decode cX7_append 11 = .ok (.ireturn, 1) := by decide +kernel
theorem dX7_append_12 : decode cX7_append 12 = .ok (.aload_n 0, 1) := by decide +kernel
theorem dX7_append_13 : decode cX7_append 13 = .ok (.getfield 9, 3) := by decide +kernel
theorem dX7_append_16 : decode cX7_append 16 = .ok (.aload_n 0, 1) := by decide +kernel
theorem dX7_append_17 : decode cX7_append 17 = .ok (.getfield 29, 3) := by decide +kernel
theorem dX7_append_20 : decode cX7_append 20 = .ok (.iload_n 1, 1) := by decide +kernel
theorem dX7_append_21 : decode cX7_append 21 = .ok (.iastore, 1) := by decide +kernel
theorem dX7_append_22 : decode cX7_append 22 = .ok (.aload_n 0, 1) := by decide +kernel
theorem dX7_append_23 : decode cX7_append 23 = .ok (.dup, 1) := by decide +kernel
theorem dX7_append_24 : decode cX7_append 24 = .ok (.getfield 29, 3) := by decide +kernel
theorem dX7_append_27 : decode cX7_append 27 = .ok (.iconst 1, 1) := by decide +kernel
theorem dX7_append_28 : decode cX7_append 28 = .ok (.iadd, 1) := by decide +kernel
theorem dX7_append_29 : decode cX7_append 29 = .ok (.putfield 29, 3) := by decide +kernel
theorem dX7_append_32 : decode cX7_append 32 = .ok (.iconst 1, 1) := by decide +kernel
theorem dX7_append_33 : decode cX7_append 33 = .ok (.ireturn, 1) := by decide +kernel
theorem dX7_firstFault_0 : decode cX7_firstFault 0 = .ok (.aload_n 0, 1) := by decide +kernel
theorem dX7_firstFault_1 : decode cX7_firstFault 1 = .ok (.getfield 18, 3) := by decide +kernel
theorem dX7_firstFault_4 : decode cX7_firstFault 4 = .ok (.iconst 0, 1) := by decide +kernel
theorem dX7_firstFault_5 : decode cX7_firstFault 5 = .ok (.putfield 39, 3) := by decide +kernel
theorem dX7_firstFault_8 : decode cX7_firstFault 8 = .ok (.aload_n 0, 1) := by decide +kernel
theorem dX7_firstFault_9 : decode cX7_firstFault 9 = .ok (.getfield 25, 3) := by decide +kernel
theorem dX7_firstFault_12 : decode cX7_firstFault 12 = .ok (.invokevirtual 42, 3) := by decide +kernel
theorem dX7_firstFault_15 : decode cX7_firstFault 15 = .ok (.aload_n 0, 1) := by decide +kernel
theorem dX7_firstFault_16 : decode cX7_firstFault 16 = .ok (.iconst 0, 1) := by decide +kernel
theorem dX7_firstFault_17 : decode cX7_firstFault 17 = .ok (.putfield 33, 3) := by decide +kernel
theorem dX7_firstFault_20 : decode cX7_firstFault 20 = .ok (.iconst 0, 1) := by decide +kernel
theorem dX7_firstFault_21 : decode cX7_firstFault 21 = .ok (.istore_n 1, 1) := by decide +kernel
theorem dX7_firstFault_22 : decode cX7_firstFault 22 = .ok (.iload_n 1, 1) := by decide +kernel
theorem dX7_firstFault_23 : decode cX7_firstFault 23 = .ok (.aload_n 0, 1) := by decide +kernel
theorem dX7_firstFault_24 : decode cX7_firstFault 24 = .ok (.getfield 29, 3) := by decide +kernel
theorem dX7_firstFault_27 : decode cX7_firstFault 27 = .ok (.if_icmp .ge 24, 3) := by decide +kernel
theorem dX7_firstFault_30 : decode cX7_firstFault 30 = .ok (.aload_n 0, 1) := by decide +kernel
theorem dX7_firstFault_31 : decode cX7_firstFault 31 = .ok (.aload_n 0, 1) := by decide +kernel
theorem dX7_firstFault_32 : decode cX7_firstFault 32 = .ok (.getfield 9, 3) := by decide +kernel
theorem dX7_firstFault_35 : decode cX7_firstFault 35 = .ok (.iload_n 1, 1) := by decide +kernel
theorem dX7_firstFault_36 : decode cX7_firstFault 36 = .ok (.iaload, 1) := by decide +kernel
theorem dX7_firstFault_37 : decode cX7_firstFault 37 = .ok (.invokevirtual 45, 3) := by decide +kernel
theorem dX7_firstFault_40 : decode cX7_firstFault 40 = .ok (.ifCond .ne 5, 3) := by decide +kernel
theorem dX7_firstFault_43 : decode cX7_firstFault 43 = .ok (.iload_n 1, 1) := by decide +kernel
theorem dX7_firstFault_44 : decode cX7_firstFault 44 = .ok (.ireturn, 1) := by decide +kernel
theorem dX7_firstFault_45 : decode cX7_firstFault 45 = .ok (.iinc 1 1, 3) := by decide +kernel
theorem dX7_firstFault_48 : decode cX7_firstFault 48 = .ok (.goto (-26), 3) := by decide +kernel
theorem dX7_firstFault_51 : decode cX7_firstFault 51 = .ok (.aload_n 0, 1) := by decide +kernel
theorem dX7_firstFault_52 : decode cX7_firstFault 52 = .ok (.getfield 33, 3) := by decide +kernel
theorem dX7_firstFault_55 : decode cX7_firstFault 55 = .ok (.ifCond .ne 8, 3) := by decide +kernel
theorem dX7_firstFault_58 : decode cX7_firstFault 58 = .ok (.bipush (-9), 2) := by decide +kernel
theorem dX7_firstFault_60 : decode cX7_firstFault 60 = .ok (.goto 7, 3) := by decide +kernel
theorem dX7_firstFault_63 : decode cX7_firstFault 63 = .ok (.aload_n 0, 1) := by decide +kernel
theorem dX7_firstFault_64 : decode cX7_firstFault 64 = .ok (.getfield 29, 3) := by decide +kernel
theorem dX7_firstFault_67 : decode cX7_firstFault 67 = .ok (.ireturn, 1) := by decide +kernel
theorem dX7_reads_0 : decode cX7_reads 0 = .ok (.aload_n 0, 1) := by decide +kernel
theorem dX7_reads_1 : decode cX7_reads 1 = .ok (.getfield 33, 3) := by decide +kernel
theorem dX7_reads_4 : decode cX7_reads 4 = .ok (.tableswitch 163 0 6 #[44, 50, 56, 62, 91, 124, 157], 44) := by decide +kernel
theorem dX7_reads_48 : decode cX7_reads 48 = .ok (.aload_n 0, 1) := by decide +kernel
theorem dX7_reads_49 : decode cX7_reads 49 = .ok (.iload_n 1, 1) := by decide +kernel
theorem dX7_reads_50 : decode cX7_reads 50 = .ok (.invokevirtual 49, 3) := by decide +kernel
theorem dX7_reads_53 : decode cX7_reads 53 = .ok (.ireturn, 1) := by decide +kernel
theorem dX7_reads_54 : decode cX7_reads 54 = .ok (.aload_n 0, 1) := by decide +kernel
theorem dX7_reads_55 : decode cX7_reads 55 = .ok (.iload_n 1, 1) := by decide +kernel
theorem dX7_reads_56 : decode cX7_reads 56 = .ok (.invokevirtual 52, 3) := by decide +kernel
theorem dX7_reads_59 : decode cX7_reads 59 = .ok (.ireturn, 1) := by decide +kernel
theorem dX7_reads_60 : decode cX7_reads 60 = .ok (.aload_n 0, 1) := by decide +kernel
theorem dX7_reads_61 : decode cX7_reads 61 = .ok (.iload_n 1, 1) := by decide +kernel
theorem dX7_reads_62 : decode cX7_reads 62 = .ok (.invokevirtual 55, 3) := by decide +kernel
theorem dX7_reads_65 : decode cX7_reads 65 = .ok (.ireturn, 1) := by decide +kernel
theorem dX7_reads_66 : decode cX7_reads 66 = .ok (.iload_n 1, 1) := by decide +kernel
theorem dX7_reads_67 : decode cX7_reads 67 = .ok (.bipush 97, 2) := by decide +kernel
theorem dX7_reads_69 : decode cX7_reads 69 = .ok (.isub, 1) := by decide +kernel
theorem dX7_reads_70 : decode cX7_reads 70 = .ok (.invokestatic 58, 3) := by decide +kernel
theorem dX7_reads_73 : decode cX7_reads 73 = .ok (.ifCond .eq 20, 3) := by decide +kernel
theorem dX7_reads_76 : decode cX7_reads 76 = .ok (.aload_n 0, 1) := by decide +kernel
theorem dX7_reads_77 : decode cX7_reads 77 = .ok (.iconst 0, 1) := by decide +kernel
theorem dX7_reads_78 : decode cX7_reads 78 = .ok (.iload_n 1, 1) := by decide +kernel
theorem dX7_reads_79 : decode cX7_reads 79 = .ok (.bipush 97, 2) := by decide +kernel
theorem dX7_reads_81 : decode cX7_reads 81 = .ok (.isub, 1) := by decide +kernel
theorem dX7_reads_82 : decode cX7_reads 82 = .ok (.iconst 0, 1) := by decide +kernel
theorem dX7_reads_83 : decode cX7_reads 83 = .ok (.invokevirtual 61, 3) := by decide +kernel
theorem dX7_reads_86 : decode cX7_reads 86 = .ok (.ifCond .eq 7, 3) := by decide +kernel
theorem dX7_reads_89 : decode cX7_reads 89 = .ok (.iconst 1, 1) := by decide +kernel
theorem dX7_reads_90 : decode cX7_reads 90 = .ok (.goto 4, 3) := by decide +kernel
theorem dX7_reads_93 : decode cX7_reads 93 = .ok (.iconst 0, 1) := by decide +kernel
theorem dX7_reads_94 : decode cX7_reads 94 = .ok (.ireturn, 1) := by decide +kernel
theorem dX7_reads_95 : decode cX7_reads 95 = .ok (.iload_n 1, 1) := by decide +kernel
theorem dX7_reads_96 : decode cX7_reads 96 = .ok (.aload_n 0, 1) := by decide +kernel
theorem dX7_reads_97 : decode cX7_reads 97 = .ok (.getfield 25, 3) := by decide +kernel
theorem dX7_reads_100 : decode cX7_reads 100 = .ok (.getfield 65, 3) := by decide +kernel
theorem dX7_reads_103 : decode cX7_reads 103 = .ok (.invokestatic 68, 3) := by decide +kernel
theorem dX7_reads_106 : decode cX7_reads 106 = .ok (.ifCond .eq 20, 3) := by decide +kernel
theorem dX7_reads_109 : decode cX7_reads 109 = .ok (.aload_n 0, 1) := by decide +kernel
theorem dX7_reads_110 : decode cX7_reads 110 = .ok (.iconst 4, 1) := by decide +kernel
theorem dX7_reads_111 : decode cX7_reads 111 = .ok (.iload_n 1, 1) := by decide +kernel
theorem dX7_reads_112 : decode cX7_reads 112 = .ok (.bipush 65, 2) := by decide +kernel
theorem dX7_reads_114 : decode cX7_reads 114 = .ok (.isub, 1) := by decide +kernel
theorem dX7_reads_115 : decode cX7_reads 115 = .ok (.iconst 0, 1) := by decide +kernel
theorem dX7_reads_116 : decode cX7_reads 116 = .ok (.invokevirtual 61, 3) := by decide +kernel
theorem dX7_reads_119 : decode cX7_reads 119 = .ok (.ifCond .eq 7, 3) := by decide +kernel
theorem dX7_reads_122 : decode cX7_reads 122 = .ok (.iconst 1, 1) := by decide +kernel
theorem dX7_reads_123 : decode cX7_reads 123 = .ok (.goto 4, 3) := by decide +kernel
end
section
theorem dX7_reads_126 : decode cX7_reads 126 = .ok (.iconst 0, 1) := by decide +kernel
theorem dX7_reads_127 : decode cX7_reads 127 = .ok (.ireturn, 1) := by decide +kernel
theorem dX7_reads_128 : decode cX7_reads 128 = .ok (.iload_n 1, 1) := by decide +kernel
theorem dX7_reads_129 : decode cX7_reads 129 = .ok (.aload_n 0, 1) := by decide +kernel
theorem dX7_reads_130 : decode cX7_reads 130 = .ok (.getfield 25, 3) := by decide +kernel
theorem dX7_reads_133 : decode cX7_reads 133 = .ok (.getfield 72, 3) := by decide +kernel
theorem dX7_reads_136 : decode cX7_reads 136 = .ok (.invokestatic 68, 3) := by decide +kernel
theorem dX7_reads_139 : decode cX7_reads 139 = .ok (.ifCond .eq 20, 3) := by decide +kernel
theorem dX7_reads_142 : decode cX7_reads 142 = .ok (.aload_n 0, 1) := by decide +kernel
theorem dX7_reads_143 : decode cX7_reads 143 = .ok (.iconst 5, 1) := by decide +kernel
theorem dX7_reads_144 : decode cX7_reads 144 = .ok (.iload_n 1, 1) := by decide +kernel
theorem dX7_reads_145 : decode cX7_reads 145 = .ok (.bipush 65, 2) := by decide +kernel
theorem dX7_reads_147 : decode cX7_reads 147 = .ok (.isub, 1) := by decide +kernel
theorem dX7_reads_148 : decode cX7_reads 148 = .ok (.iconst 0, 1) := by decide +kernel
theorem dX7_reads_149 : decode cX7_reads 149 = .ok (.invokevirtual 61, 3) := by decide +kernel
theorem dX7_reads_152 : decode cX7_reads 152 = .ok (.ifCond .eq 7, 3) := by decide +kernel
theorem dX7_reads_155 : decode cX7_reads 155 = .ok (.iconst 1, 1) := by decide +kernel
theorem dX7_reads_156 : decode cX7_reads 156 = .ok (.goto 4, 3) := by decide +kernel
theorem dX7_reads_159 : decode cX7_reads 159 = .ok (.iconst 0, 1) := by decide +kernel
theorem dX7_reads_160 : decode cX7_reads 160 = .ok (.ireturn, 1) := by decide +kernel
theorem dX7_reads_161 : decode cX7_reads 161 = .ok (.aload_n 0, 1) := by decide +kernel
theorem dX7_reads_162 : decode cX7_reads 162 = .ok (.iload_n 1, 1) := by decide +kernel
theorem dX7_reads_163 : decode cX7_reads 163 = .ok (.invokevirtual 75, 3) := by decide +kernel
theorem dX7_reads_166 : decode cX7_reads 166 = .ok (.ireturn, 1) := by decide +kernel
theorem dX7_reads_167 : decode cX7_reads 167 = .ok (.iload_n 1, 1) := by decide +kernel
theorem dX7_reads_168 : decode cX7_reads 168 = .ok (.aload_n 0, 1) := by decide +kernel
theorem dX7_reads_169 : decode cX7_reads 169 = .ok (.getfield 25, 3) := by decide +kernel
theorem dX7_reads_172 : decode cX7_reads 172 = .ok (.getfield 78, 3) := by decide +kernel
theorem dX7_reads_175 : decode cX7_reads 175 = .ok (.aload_n 0, 1) := by decide +kernel
theorem dX7_reads_176 : decode cX7_reads 176 = .ok (.getfield 36, 3) := by decide +kernel
theorem dX7_reads_179 : decode cX7_reads 179 = .ok (.iaload, 1) := by decide +kernel
theorem dX7_reads_180 : decode cX7_reads 180 = .ok (.invokestatic 68, 3) := by decide +kernel
theorem dX7_reads_183 : decode cX7_reads 183 = .ok (.ifCond .eq 24, 3) := by decide +kernel
theorem dX7_reads_186 : decode cX7_reads 186 = .ok (.aload_n 0, 1) := by decide +kernel
theorem dX7_reads_187 : decode cX7_reads 187 = .ok (.bipush 6, 2) := by decide +kernel
theorem dX7_reads_189 : decode cX7_reads 189 = .ok (.aload_n 0, 1) := by decide +kernel
theorem dX7_reads_190 : decode cX7_reads 190 = .ok (.getfield 36, 3) := by decide +kernel
theorem dX7_reads_193 : decode cX7_reads 193 = .ok (.iload_n 1, 1) := by decide +kernel
theorem dX7_reads_194 : decode cX7_reads 194 = .ok (.bipush 65, 2) := by decide +kernel
theorem dX7_reads_196 : decode cX7_reads 196 = .ok (.isub, 1) := by decide +kernel
theorem dX7_reads_197 : decode cX7_reads 197 = .ok (.invokevirtual 61, 3) := by decide +kernel
theorem dX7_reads_200 : decode cX7_reads 200 = .ok (.ifCond .eq 7, 3) := by decide +kernel
theorem dX7_reads_203 : decode cX7_reads 203 = .ok (.iconst 1, 1) := by decide +kernel
theorem dX7_reads_204 : decode cX7_reads 204 = .ok (.goto 4, 3) := by decide +kernel
theorem dX7_reads_207 : decode cX7_reads 207 = .ok (.iconst 0, 1) := by decide +kernel
theorem dX7_reads_208 : decode cX7_reads 208 = .ok (.ireturn, 1) := by decide +kernel
theorem dX7_readsHead_0 : decode cX7_readsHead 0 = .ok (.iload_n 1, 1) := by decide +kernel
theorem dX7_readsHead_1 : decode cX7_readsHead 1 = .ok (.lookupswitch 178 #[(43, 75), (46, 127), (58, 153), (94, 101), (119, 51)], 51) := by decide +kernel
theorem dX7_readsHead_52 : decode cX7_readsHead 52 = .ok (.aload_n 0, 1) := by decide +kernel
theorem dX7_readsHead_53 : decode cX7_readsHead 53 = .ok (.getfield 18, 3) := by decide +kernel
theorem dX7_readsHead_56 : decode cX7_readsHead 56 = .ok (.invokevirtual 81, 3) := by decide +kernel
theorem dX7_readsHead_59 : decode cX7_readsHead 59 = .ok (.ifCond .eq 15, 3) := by decide +kernel
theorem dX7_readsHead_62 : decode cX7_readsHead 62 = .ok (.aload_n 0, 1) := by decide +kernel
theorem dX7_readsHead_63 : decode cX7_readsHead 63 = .ok (.iconst 1, 1) := by decide +kernel
theorem dX7_readsHead_64 : decode cX7_readsHead 64 = .ok (.invokevirtual 85, 3) := by decide +kernel
theorem dX7_readsHead_67 : decode cX7_readsHead 67 = .ok (.ifCond .eq 7, 3) := by decide +kernel
theorem dX7_readsHead_70 : decode cX7_readsHead 70 = .ok (.iconst 1, 1) := by decide +kernel
theorem dX7_readsHead_71 : decode cX7_readsHead 71 = .ok (.goto 4, 3) := by decide +kernel
theorem dX7_readsHead_74 : decode cX7_readsHead 74 = .ok (.iconst 0, 1) := by decide +kernel
theorem dX7_readsHead_75 : decode cX7_readsHead 75 = .ok (.ireturn, 1) := by decide +kernel
theorem dX7_readsHead_76 : decode cX7_readsHead 76 = .ok (.aload_n 0, 1) := by decide +kernel
theorem dX7_readsHead_77 : decode cX7_readsHead 77 = .ok (.getfield 25, 3) := by decide +kernel
theorem dX7_readsHead_80 : decode cX7_readsHead 80 = .ok (.invokevirtual 88, 3) := by decide +kernel
theorem dX7_readsHead_83 : decode cX7_readsHead 83 = .ok (.bipush 12, 2) := by decide +kernel
theorem dX7_readsHead_85 : decode cX7_readsHead 85 = .ok (.if_icmp .ge 15, 3) := by decide +kernel
theorem dX7_readsHead_88 : decode cX7_readsHead 88 = .ok (.aload_n 0, 1) := by decide +kernel
theorem dX7_readsHead_89 : decode cX7_readsHead 89 = .ok (.iconst 3, 1) := by decide +kernel
theorem dX7_readsHead_90 : decode cX7_readsHead 90 = .ok (.invokevirtual 85, 3) := by decide +kernel
theorem dX7_readsHead_93 : decode cX7_readsHead 93 = .ok (.ifCond .eq 7, 3) := by decide +kernel
theorem dX7_readsHead_96 : decode cX7_readsHead 96 = .ok (.iconst 1, 1) := by decide +kernel
theorem dX7_readsHead_97 : decode cX7_readsHead 97 = .ok (.goto 4, 3) := by decide +kernel
theorem dX7_readsHead_100 : decode cX7_readsHead 100 = .ok (.iconst 0, 1) := by decide +kernel
theorem dX7_readsHead_101 : decode cX7_readsHead 101 = .ok (.ireturn, 1) := by decide +kernel
theorem dX7_readsHead_102 : decode cX7_readsHead 102 = .ok (.aload_n 0, 1) := by decide +kernel
theorem dX7_readsHead_103 : decode cX7_readsHead 103 = .ok (.getfield 25, 3) := by decide +kernel
theorem dX7_readsHead_106 : decode cX7_readsHead 106 = .ok (.getfield 65, 3) := by decide +kernel
theorem dX7_readsHead_109 : decode cX7_readsHead 109 = .ok (.bipush 15, 2) := by decide +kernel
theorem dX7_readsHead_111 : decode cX7_readsHead 111 = .ok (.if_icmp .eq 15, 3) := by decide +kernel
theorem dX7_readsHead_114 : decode cX7_readsHead 114 = .ok (.aload_n 0, 1) := by decide +kernel
theorem dX7_readsHead_115 : decode cX7_readsHead 115 = .ok (.iconst 4, 1) := by decide +kernel
theorem dX7_readsHead_116 : decode cX7_readsHead 116 = .ok (.invokevirtual 85, 3) := by decide +kernel
theorem dX7_readsHead_119 : decode cX7_readsHead 119 = .ok (.ifCond .eq 7, 3) := by decide +kernel
theorem dX7_readsHead_122 : decode cX7_readsHead 122 = .ok (.iconst 1, 1) := by decide +kernel
theorem dX7_readsHead_123 : decode cX7_readsHead 123 = .ok (.goto 4, 3) := by decide +kernel
theorem dX7_readsHead_126 : decode cX7_readsHead 126 = .ok (.iconst 0, 1) := by decide +kernel
theorem dX7_readsHead_127 : decode cX7_readsHead 127 = .ok (.ireturn, 1) := by decide +kernel
theorem dX7_readsHead_128 : decode cX7_readsHead 128 = .ok (.aload_n 0, 1) := by decide +kernel
theorem dX7_readsHead_129 : decode cX7_readsHead 129 = .ok (.getfield 25, 3) := by decide +kernel
theorem dX7_readsHead_132 : decode cX7_readsHead 132 = .ok (.getfield 72, 3) := by decide +kernel
theorem dX7_readsHead_135 : decode cX7_readsHead 135 = .ok (.bipush 15, 2) := by decide +kernel
theorem dX7_readsHead_137 : decode cX7_readsHead 137 = .ok (.if_icmp .eq 15, 3) := by decide +kernel
theorem dX7_readsHead_140 : decode cX7_readsHead 140 = .ok (.aload_n 0, 1) := by decide +kernel
theorem dX7_readsHead_141 : decode cX7_readsHead 141 = .ok (.iconst 5, 1) := by decide +kernel
theorem dX7_readsHead_142 : decode cX7_readsHead 142 = .ok (.invokevirtual 85, 3) := by decide +kernel
theorem dX7_readsHead_145 : decode cX7_readsHead 145 = .ok (.ifCond .eq 7, 3) := by decide +kernel
theorem dX7_readsHead_148 : decode cX7_readsHead 148 = .ok (.iconst 1, 1) := by decide +kernel
theorem dX7_readsHead_149 : decode cX7_readsHead 149 = .ok (.goto 4, 3) := by decide +kernel
theorem dX7_readsHead_152 : decode cX7_readsHead 152 = .ok (.iconst 0, 1) := by decide +kernel
theorem dX7_readsHead_153 : decode cX7_readsHead 153 = .ok (.ireturn, 1) := by decide +kernel
theorem dX7_readsHead_154 : decode cX7_readsHead 154 = .ok (.aload_n 0, 1) := by decide +kernel
theorem dX7_readsHead_155 : decode cX7_readsHead 155 = .ok (.getfield 25, 3) := by decide +kernel
theorem dX7_readsHead_158 : decode cX7_readsHead 158 = .ok (.invokevirtual 92, 3) := by decide +kernel
theorem dX7_readsHead_161 : decode cX7_readsHead 161 = .ok (.ifCond .ne 16, 3) := by decide +kernel
theorem dX7_readsHead_164 : decode cX7_readsHead 164 = .ok (.aload_n 0, 1) := by decide +kernel
theorem dX7_readsHead_165 : decode cX7_readsHead 165 = .ok (.bipush 6, 2) := by decide +kernel
theorem dX7_readsHead_167 : decode cX7_readsHead 167 = .ok (.invokevirtual 85, 3) := by decide +kernel
theorem dX7_readsHead_170 : decode cX7_readsHead 170 = .ok (.ifCond .eq 7, 3) := by decide +kernel
theorem dX7_readsHead_173 : decode cX7_readsHead 173 = .ok (.iconst 1, 1) := by decide +kernel
theorem dX7_readsHead_174 : decode cX7_readsHead 174 = .ok (.goto 4, 3) := by decide +kernel
theorem dX7_readsHead_177 : decode cX7_readsHead 177 = .ok (.iconst 0, 1) := by decide +kernel
theorem dX7_readsHead_178 : decode cX7_readsHead 178 = .ok (.ireturn, 1) := by decide +kernel
theorem dX7_readsHead_179 : decode cX7_readsHead 179 = .ok (.iconst 0, 1) := by decide +kernel
theorem dX7_readsHead_180 : decode cX7_readsHead 180 = .ok (.ireturn, 1) := by decide +kernel
theorem dX7_readsSpelling_0 : decode cX7_readsSpelling 0 = .ok (.iload_n 1, 1) := by decide +kernel
theorem dX7_readsSpelling_1 : decode cX7_readsSpelling 1 = .ok (.bipush 97, 2) := by decide +kernel
theorem dX7_readsSpelling_3 : decode cX7_readsSpelling 3 = .ok (.isub, 1) := by decide +kernel
theorem dX7_readsSpelling_4 : decode cX7_readsSpelling 4 = .ok (.invokestatic 58, 3) := by decide +kernel
theorem dX7_readsSpelling_7 : decode cX7_readsSpelling 7 = .ok (.ifCond .eq 15, 3) := by decide +kernel
theorem dX7_readsSpelling_10 : decode cX7_readsSpelling 10 = .ok (.aload_n 0, 1) := by decide +kernel
theorem dX7_readsSpelling_11 : decode cX7_readsSpelling 11 = .ok (.getfield 18, 3) := by decide +kernel
theorem dX7_readsSpelling_14 : decode cX7_readsSpelling 14 = .ok (.iload_n 1, 1) := by decide +kernel
theorem dX7_readsSpelling_15 : decode cX7_readsSpelling 15 = .ok (.bipush 97, 2) := by decide +kernel
theorem dX7_readsSpelling_17 : decode cX7_readsSpelling 17 = .ok (.isub, 1) := by decide +kernel
theorem dX7_readsSpelling_18 : decode cX7_readsSpelling 18 = .ok (.invokevirtual 95, 3) := by decide +kernel
theorem dX7_readsSpelling_21 : decode cX7_readsSpelling 21 = .ok (.ireturn, 1) := by decide +kernel
theorem dX7_readsSpelling_22 : decode cX7_readsSpelling 22 = .ok (.iload_n 1, 1) := by decide +kernel
theorem dX7_readsSpelling_23 : decode cX7_readsSpelling 23 = .ok (.bipush 65, 2) := by decide +kernel
theorem dX7_readsSpelling_25 : decode cX7_readsSpelling 25 = .ok (.isub, 1) := by decide +kernel
theorem dX7_readsSpelling_26 : decode cX7_readsSpelling 26 = .ok (.invokestatic 98, 3) := by decide +kernel
theorem dX7_readsSpelling_29 : decode cX7_readsSpelling 29 = .ok (.ifCond .eq 29, 3) := by decide +kernel
theorem dX7_readsSpelling_32 : decode cX7_readsSpelling 32 = .ok (.aload_n 0, 1) := by decide +kernel
theorem dX7_readsSpelling_33 : decode cX7_readsSpelling 33 = .ok (.getfield 18, 3) := by decide +kernel
theorem dX7_readsSpelling_36 : decode cX7_readsSpelling 36 = .ok (.iload_n 1, 1) := by decide +kernel
theorem dX7_readsSpelling_37 : decode cX7_readsSpelling 37 = .ok (.bipush 65, 2) := by decide +kernel
theorem dX7_readsSpelling_39 : decode cX7_readsSpelling 39 = .ok (.isub, 1) := by decide +kernel
theorem dX7_readsSpelling_40 : decode cX7_readsSpelling 40 = .ok (.invokevirtual 101, 3) := by decide +kernel
theorem dX7_readsSpelling_43 : decode cX7_readsSpelling 43 = .ok (.ifCond .eq 15, 3) := by decide +kernel
theorem dX7_readsSpelling_46 : decode cX7_readsSpelling 46 = .ok (.aload_n 0, 1) := by decide +kernel
theorem dX7_readsSpelling_47 : decode cX7_readsSpelling 47 = .ok (.iconst 2, 1) := by decide +kernel
theorem dX7_readsSpelling_48 : decode cX7_readsSpelling 48 = .ok (.invokevirtual 85, 3) := by decide +kernel
theorem dX7_readsSpelling_51 : decode cX7_readsSpelling 51 = .ok (.ifCond .eq 7, 3) := by decide +kernel
theorem dX7_readsSpelling_54 : decode cX7_readsSpelling 54 = .ok (.iconst 1, 1) := by decide +kernel
theorem dX7_readsSpelling_55 : decode cX7_readsSpelling 55 = .ok (.goto 4, 3) := by decide +kernel
theorem dX7_readsSpelling_58 : decode cX7_readsSpelling 58 = .ok (.iconst 0, 1) := by decide +kernel
theorem dX7_readsSpelling_59 : decode cX7_readsSpelling 59 = .ok (.ireturn, 1) := by decide +kernel
theorem dX7_readsRank_0 : decode cX7_readsRank 0 = .ok (.aload_n 0, 1) := by decide +kernel
theorem dX7_readsRank_1 : decode cX7_readsRank 1 = .ok (.getfield 18, 3) := by decide +kernel
theorem dX7_readsRank_4 : decode cX7_readsRank 4 = .ok (.getfield 39, 3) := by decide +kernel
theorem dX7_readsRank_7 : decode cX7_readsRank 7 = .ok (.iconst 1, 1) := by decide +kernel
theorem dX7_readsRank_8 : decode cX7_readsRank 8 = .ok (.isub, 1) := by decide +kernel
theorem dX7_readsRank_9 : decode cX7_readsRank 9 = .ok (.istore_n 2, 1) := by decide +kernel
theorem dX7_readsRank_10 : decode cX7_readsRank 10 = .ok (.iload_n 1, 1) := by decide +kernel
theorem dX7_readsRank_11 : decode cX7_readsRank 11 = .ok (.bipush 48, 2) := by decide +kernel
theorem dX7_readsRank_13 : decode cX7_readsRank 13 = .ok (.if_icmp .lt 30, 3) := by decide +kernel
theorem dX7_readsRank_16 : decode cX7_readsRank 16 = .ok (.iload_n 1, 1) := by decide +kernel
theorem dX7_readsRank_17 : decode cX7_readsRank 17 = .ok (.bipush 57, 2) := by decide +kernel
theorem dX7_readsRank_19 : decode cX7_readsRank 19 = .ok (.if_icmp .gt 24, 3) := by decide +kernel
theorem dX7_readsRank_22 : decode cX7_readsRank 22 = .ok (.iload_n 2, 1) := by decide +kernel
theorem dX7_readsRank_23 : decode cX7_readsRank 23 = .ok (.ifCond .lt 20, 3) := by decide +kernel
theorem dX7_readsRank_26 : decode cX7_readsRank 26 = .ok (.aload_n 0, 1) := by decide +kernel
theorem dX7_readsRank_27 : decode cX7_readsRank 27 = .ok (.iconst 3, 1) := by decide +kernel
theorem dX7_readsRank_28 : decode cX7_readsRank 28 = .ok (.iload_n 2, 1) := by decide +kernel
theorem dX7_readsRank_29 : decode cX7_readsRank 29 = .ok (.iload_n 1, 1) := by decide +kernel
theorem dX7_readsRank_30 : decode cX7_readsRank 30 = .ok (.bipush 48, 2) := by decide +kernel
theorem dX7_readsRank_32 : decode cX7_readsRank 32 = .ok (.isub, 1) := by decide +kernel
theorem dX7_readsRank_33 : decode cX7_readsRank 33 = .ok (.invokevirtual 61, 3) := by decide +kernel
theorem dX7_readsRank_36 : decode cX7_readsRank 36 = .ok (.ifCond .eq 7, 3) := by decide +kernel
theorem dX7_readsRank_39 : decode cX7_readsRank 39 = .ok (.iconst 1, 1) := by decide +kernel
theorem dX7_readsRank_40 : decode cX7_readsRank 40 = .ok (.goto 4, 3) := by decide +kernel
theorem dX7_readsRank_43 : decode cX7_readsRank 43 = .ok (.iconst 0, 1) := by decide +kernel
theorem dX7_readsRank_44 : decode cX7_readsRank 44 = .ok (.ireturn, 1) := by decide +kernel
theorem dX7_readsLeader_0 : decode cX7_readsLeader 0 = .ok (.iload_n 1, 1) := by decide +kernel
theorem dX7_readsLeader_1 : decode cX7_readsLeader 1 = .ok (.bipush 65, 2) := by decide +kernel
theorem dX7_readsLeader_3 : decode cX7_readsLeader 3 = .ok (.isub, 1) := by decide +kernel
theorem dX7_readsLeader_4 : decode cX7_readsLeader 4 = .ok (.invokestatic 98, 3) := by decide +kernel
theorem dX7_readsLeader_7 : decode cX7_readsLeader 7 = .ok (.ifCond .eq 20, 3) := by decide +kernel
theorem dX7_readsLeader_10 : decode cX7_readsLeader 10 = .ok (.aload_n 0, 1) := by decide +kernel
theorem dX7_readsLeader_11 : decode cX7_readsLeader 11 = .ok (.getfield 25, 3) := by decide +kernel
theorem dX7_readsLeader_14 : decode cX7_readsLeader 14 = .ok (.getfield 78, 3) := by decide +kernel
theorem dX7_readsLeader_17 : decode cX7_readsLeader 17 = .ok (.iload_n 1, 1) := by decide +kernel
theorem dX7_readsLeader_18 : decode cX7_readsLeader 18 = .ok (.bipush 65, 2) := by decide +kernel
theorem dX7_readsLeader_20 : decode cX7_readsLeader 20 = .ok (.isub, 1) := by decide +kernel
theorem dX7_readsLeader_21 : decode cX7_readsLeader 21 = .ok (.iaload, 1) := by decide +kernel
theorem dX7_readsLeader_22 : decode cX7_readsLeader 22 = .ok (.bipush 15, 2) := by decide +kernel
theorem dX7_readsLeader_24 : decode cX7_readsLeader 24 = .ok (.if_icmp .ne 5, 3) := by decide +kernel
theorem dX7_readsLeader_27 : decode cX7_readsLeader 27 = .ok (.iconst 0, 1) := by decide +kernel
theorem dX7_readsLeader_28 : decode cX7_readsLeader 28 = .ok (.ireturn, 1) := by decide +kernel
theorem dX7_readsLeader_29 : decode cX7_readsLeader 29 = .ok (.aload_n 0, 1) := by decide +kernel
theorem dX7_readsLeader_30 : decode cX7_readsLeader 30 = .ok (.iload_n 1, 1) := by decide +kernel
theorem dX7_readsLeader_31 : decode cX7_readsLeader 31 = .ok (.bipush 65, 2) := by decide +kernel
theorem dX7_readsLeader_33 : decode cX7_readsLeader 33 = .ok (.isub, 1) := by decide +kernel
theorem dX7_readsLeader_34 : decode cX7_readsLeader 34 = .ok (.putfield 36, 3) := by decide +kernel
theorem dX7_readsLeader_37 : decode cX7_readsLeader 37 = .ok (.aload_n 0, 1) := by decide +kernel
theorem dX7_readsLeader_38 : decode cX7_readsLeader 38 = .ok (.bipush 7, 2) := by decide +kernel
theorem dX7_readsLeader_40 : decode cX7_readsLeader 40 = .ok (.invokevirtual 85, 3) := by decide +kernel
theorem dX7_readsLeader_43 : decode cX7_readsLeader 43 = .ok (.ireturn, 1) := by decide +kernel
theorem dX7_isFreeKind_0 : decode cX7_isFreeKind 0 = .ok (.iload_n 0, 1) := by decide +kernel
theorem dX7_isFreeKind_1 : decode cX7_isFreeKind 1 = .ok (.bipush 65, 2) := by decide +kernel
theorem dX7_isFreeKind_3 : decode cX7_isFreeKind 3 = .ok (.isub, 1) := by decide +kernel
theorem dX7_isFreeKind_4 : decode cX7_isFreeKind 4 = .ok (.invokestatic 98, 3) := by decide +kernel
theorem dX7_isFreeKind_7 : decode cX7_isFreeKind 7 = .ok (.ifCond .eq 18, 3) := by decide +kernel
theorem dX7_isFreeKind_10 : decode cX7_isFreeKind 10 = .ok (.iload_n 1, 1) := by decide +kernel
theorem dX7_isFreeKind_11 : decode cX7_isFreeKind 11 = .ok (.iload_n 0, 1) := by decide +kernel
theorem dX7_isFreeKind_12 : decode cX7_isFreeKind 12 = .ok (.bipush 65, 2) := by decide +kernel
theorem dX7_isFreeKind_14 : decode cX7_isFreeKind 14 = .ok (.isub, 1) := by decide +kernel
theorem dX7_isFreeKind_15 : decode cX7_isFreeKind 15 = .ok (.ishr, 1) := by decide +kernel
theorem dX7_isFreeKind_16 : decode cX7_isFreeKind 16 = .ok (.iconst 1, 1) := by decide +kernel
theorem dX7_isFreeKind_17 : decode cX7_isFreeKind 17 = .ok (.iand, 1) := by decide +kernel
theorem dX7_isFreeKind_18 : decode cX7_isFreeKind 18 = .ok (.ifCond .ne 7, 3) := by decide +kernel
theorem dX7_isFreeKind_21 : decode cX7_isFreeKind 21 = .ok (.iconst 1, 1) := by decide +kernel
theorem dX7_isFreeKind_22 : decode cX7_isFreeKind 22 = .ok (.goto 4, 3) := by decide +kernel
theorem dX7_isFreeKind_25 : decode cX7_isFreeKind 25 = .ok (.iconst 0, 1) := by decide +kernel
theorem dX7_isFreeKind_26 : decode cX7_isFreeKind 26 = .ok (.ireturn, 1) := by decide +kernel
theorem dX7_turned_0 : decode cX7_turned 0 = .ok (.aload_n 0, 1) := by decide +kernel
theorem dX7_turned_1 : decode cX7_turned 1 = .ok (.getfield 25, 3) := by decide +kernel
theorem dX7_turned_4 : decode cX7_turned 4 = .ok (.iload_n 1, 1) := by decide +kernel
theorem dX7_turned_5 : decode cX7_turned 5 = .ok (.iload_n 2, 1) := by decide +kernel
theorem dX7_turned_6 : decode cX7_turned 6 = .ok (.iload_n 3, 1) := by decide +kernel
theorem dX7_turned_7 : decode cX7_turned 7 = .ok (.invokevirtual 104, 3) := by decide +kernel
theorem dX7_turned_10 : decode cX7_turned 10 = .ok (.aload_n 0, 1) := by decide +kernel
theorem dX7_turned_11 : decode cX7_turned 11 = .ok (.iconst 0, 1) := by decide +kernel
theorem dX7_turned_12 : decode cX7_turned 12 = .ok (.invokevirtual 85, 3) := by decide +kernel
theorem dX7_turned_15 : decode cX7_turned 15 = .ok (.ireturn, 1) := by decide +kernel
theorem dX7_awaits_0 : decode cX7_awaits 0 = .ok (.aload_n 0, 1) := by decide +kernel
theorem dX7_awaits_1 : decode cX7_awaits 1 = .ok (.iload_n 1, 1) := by decide +kernel
theorem dX7_awaits_2 : decode cX7_awaits 2 = .ok (.putfield 33, 3) := by decide +kernel
theorem dX7_awaits_5 : decode cX7_awaits 5 = .ok (.iconst 1, 1) := by decide +kernel
theorem dX7_awaits_6 : decode cX7_awaits 6 = .ok (.ireturn, 1) := by decide +kernel
theorem dX8_init_0 : decode cX8_init 0 = .ok (.aload_n 0, 1) := by decide +kernel
theorem dX8_init_1 : decode cX8_init 1 = .ok (.invokespecial 3, 3) := by decide +kernel
theorem dX8_init_4 : decode cX8_init 4 = .ok (.aload_n 0, 1) := by decide +kernel
theorem dX8_init_5 : decode cX8_init 5 = .ok (.bipush 8, 2) := by decide +kernel
theorem dX8_init_7 : decode cX8_init 7 = .ok (.newarray .int, 2) := by decide +kernel
theorem dX8_init_9 : decode cX8_init 9 = .ok (.putfield 9, 3) := by decide +kernel
theorem dX8_init_12 : decode cX8_init 12 = .ok (.aload_n 0, 1) := by decide +kernel
theorem dX8_init_13 : decode cX8_init 13 = .ok (.bipush 10, 2) := by decide +kernel
theorem dX8_init_15 : decode cX8_init 15 = .ok (.newarray .int, 2) := by decide +kernel
theorem dX8_init_17 : decode cX8_init 17 = .ok (.putfield 15, 3) := by decide +kernel
theorem dX8_init_20 : decode cX8_init 20 = .ok (.aload_n 0, 1) := by decide +kernel
theorem dX8_init_21 : decode cX8_init 21 = .ok (.iconst 4, 1) := by decide +kernel
theorem dX8_init_22 : decode cX8_init 22 = .ok (.newarray .int, 2) := by decide +kernel
theorem dX8_init_24 : decode cX8_init 24 = .ok (.putfield 18, 3) := by decide +kernel
theorem dX8_init_27 : decode cX8_init 27 = .ok (.aload_n 0, 1) := by decide +kernel
theorem dX8_init_28 : decode cX8_init 28 = .ok (.iconst 0, 1) := by decide +kernel
theorem dX8_init_29 : decode cX8_init 29 = .ok (.putfield 21, 3) := by decide +kernel
theorem dX8_init_32 : decode cX8_init 32 = .ok (.aload_n 0, 1) := by decide +kernel
theorem dX8_init_33 : decode cX8_init 33 = .ok (.iconst 0, 1) := by decide +kernel
theorem dX8_init_34 : decode cX8_init 34 = .ok (.putfield 25, 3) := by decide +kernel
theorem dX8_init_37 : decode cX8_init 37 = .ok (.aload_n 0, 1) := by decide +kernel
theorem dX8_init_38 : decode cX8_init 38 = .ok (.iconst 0, 1) := by decide +kernel
theorem dX8_init_39 : decode cX8_init 39 = .ok (.putfield 28, 3) := by decide +kernel
theorem dX8_init_42 : decode cX8_init 42 = .ok (.return_, 1) := by decide +kernel
theorem dX8_copy_0 : decode cX8_copy 0 = .ok (.aload_n 1, 1) := by decide +kernel
theorem dX8_copy_1 : decode cX8_copy 1 = .ok (.getfield 9, 3) := by decide +kernel
theorem dX8_copy_4 : decode cX8_copy 4 = .ok (.iconst 0, 1) := by decide +kernel
theorem dX8_copy_5 : decode cX8_copy 5 = .ok (.aload_n 0, 1) := by decide +kernel
theorem dX8_copy_6 : decode cX8_copy 6 = .ok (.getfield 9, 3) := by decide +kernel
theorem dX8_copy_9 : decode cX8_copy 9 = .ok (.iconst 0, 1) := by decide +kernel
theorem dX8_copy_10 : decode cX8_copy 10 = .ok (.bipush 8, 2) := by decide +kernel
theorem dX8_copy_12 : decode cX8_copy 12 = .ok (.invokestatic 31, 3) := by decide +kernel
theorem dX8_copy_15 : decode cX8_copy 15 = .ok (.aload_n 1, 1) := by decide +kernel
theorem dX8_copy_16 : decode cX8_copy 16 = .ok (.getfield 15, 3) := by decide +kernel
theorem dX8_copy_19 : decode cX8_copy 19 = .ok (.iconst 0, 1) := by decide +kernel
theorem dX8_copy_20 : decode cX8_copy 20 = .ok (.aload_n 0, 1) := by decide +kernel
theorem dX8_copy_21 : decode cX8_copy 21 = .ok (.getfield 15, 3) := by decide +kernel
theorem dX8_copy_24 : decode cX8_copy 24 = .ok (.iconst 0, 1) := by decide +kernel
theorem dX8_copy_25 : decode cX8_copy 25 = .ok (.bipush 10, 2) := by decide +kernel
theorem dX8_copy_27 : decode cX8_copy 27 = .ok (.invokestatic 31, 3) := by decide +kernel
theorem dX8_copy_30 : decode cX8_copy 30 = .ok (.aload_n 1, 1) := by decide +kernel
theorem dX8_copy_31 : decode cX8_copy 31 = .ok (.getfield 18, 3) := by decide +kernel
theorem dX8_copy_34 : decode cX8_copy 34 = .ok (.iconst 0, 1) := by decide +kernel
theorem dX8_copy_35 : decode cX8_copy 35 = .ok (.aload_n 0, 1) := by decide +kernel
theorem dX8_copy_36 : decode cX8_copy 36 = .ok (.getfield 18, 3) := by decide +kernel
theorem dX8_copy_39 : decode cX8_copy 39 = .ok (.iconst 0, 1) := by decide +kernel
theorem dX8_copy_40 : decode cX8_copy 40 = .ok (.iconst 4, 1) := by decide +kernel
theorem dX8_copy_41 : decode cX8_copy 41 = .ok (.invokestatic 31, 3) := by decide +kernel
theorem dX8_copy_44 : decode cX8_copy 44 = .ok (.aload_n 0, 1) := by decide +kernel
theorem dX8_copy_45 : decode cX8_copy 45 = .ok (.aload_n 1, 1) := by decide +kernel
theorem dX8_copy_46 : decode cX8_copy 46 = .ok (.getfield 21, 3) := by decide +kernel
theorem dX8_copy_49 : decode cX8_copy 49 = .ok (.putfield 21, 3) := by decide +kernel
theorem dX8_copy_52 : decode cX8_copy 52 = .ok (.aload_n 0, 1) := by decide +kernel
theorem dX8_copy_53 : decode cX8_copy 53 = .ok (.aload_n 1, 1) := by decide +kernel
theorem dX8_copy_54 : decode cX8_copy 54 = .ok (.getfield 25, 3) := by decide +kernel
theorem dX8_copy_57 : decode cX8_copy 57 = .ok (.putfield 25, 3) := by decide +kernel
theorem dX8_copy_60 : decode cX8_copy 60 = .ok (.aload_n 0, 1) := by decide +kernel
theorem dX8_copy_61 : decode cX8_copy 61 = .ok (.aload_n 1, 1) := by decide +kernel
theorem dX8_copy_62 : decode cX8_copy 62 = .ok (.getfield 28, 3) := by decide +kernel
theorem dX8_copy_65 : decode cX8_copy 65 = .ok (.putfield 28, 3) := by decide +kernel
theorem dX8_copy_68 : decode cX8_copy 68 = .ok (.return_, 1) := by decide +kernel
theorem dX8_change_0 : decode cX8_change 0 = .ok (.iload_n 1, 1) := by decide +kernel
theorem dX8_change_1 : decode cX8_change 1 = .ok (.tableswitch 120 0 5 #[39, 52, 65, 80, 90, 105], 39) := by decide +kernel
theorem dX8_change_40 : decode cX8_change 40 = .ok (.aload_n 0, 1) := by decide +kernel
theorem dX8_change_41 : decode cX8_change 41 = .ok (.getfield 9, 3) := by decide +kernel
theorem dX8_change_44 : decode cX8_change 44 = .ok (.iload_n 2, 1) := by decide +kernel
theorem dX8_change_45 : decode cX8_change 45 = .ok (.dup2, 1) := by decide +kernel
theorem dX8_change_46 : decode cX8_change 46 = .ok (.iaload, 1) := by decide +kernel
theorem dX8_change_47 : decode cX8_change 47 = .ok (.iconst 1, 1) := by decide +kernel
theorem dX8_change_48 : decode cX8_change 48 = .ok (.iadd, 1) := by decide +kernel
theorem dX8_change_49 : decode cX8_change 49 = .ok (.iastore, 1) := by decide +kernel
theorem dX8_change_50 : decode cX8_change 50 = .ok (.goto 83, 3) := by decide +kernel
theorem dX8_change_53 : decode cX8_change 53 = .ok (.aload_n 0, 1) := by decide +kernel
theorem dX8_change_54 : decode cX8_change 54 = .ok (.getfield 9, 3) := by decide +kernel
theorem dX8_change_57 : decode cX8_change 57 = .ok (.iload_n 2, 1) := by decide +kernel
theorem dX8_change_58 : decode cX8_change 58 = .ok (.dup2, 1) := by decide +kernel
theorem dX8_change_59 : decode cX8_change 59 = .ok (.iaload, 1) := by decide +kernel
theorem dX8_change_60 : decode cX8_change 60 = .ok (.iconst 1, 1) := by decide +kernel
theorem dX8_change_61 : decode cX8_change 61 = .ok (.isub, 1) := by decide +kernel
theorem dX8_change_62 : decode cX8_change 62 = .ok (.iastore, 1) := by decide +kernel
theorem dX8_change_63 : decode cX8_change 63 = .ok (.goto 70, 3) := by decide +kernel
theorem dX8_change_66 : decode cX8_change 66 = .ok (.aload_n 0, 1) := by decide +kernel
theorem dX8_change_67 : decode cX8_change 67 = .ok (.dup, 1) := by decide +kernel
theorem dX8_change_68 : decode cX8_change 68 = .ok (.getfield 28, 3) := by decide +kernel
theorem dX8_change_71 : decode cX8_change 71 = .ok (.iconst 1, 1) := by decide +kernel
theorem dX8_change_72 : decode cX8_change 72 = .ok (.iload_n 2, 1) := by decide +kernel
theorem dX8_change_73 : decode cX8_change 73 = .ok (.ishl, 1) := by decide +kernel
theorem dX8_change_74 : decode cX8_change 74 = .ok (.ixor, 1) := by decide +kernel
theorem dX8_change_75 : decode cX8_change 75 = .ok (.putfield 28, 3) := by decide +kernel
theorem dX8_change_78 : decode cX8_change 78 = .ok (.goto 55, 3) := by decide +kernel
theorem dX8_change_81 : decode cX8_change 81 = .ok (.aload_n 0, 1) := by decide +kernel
theorem dX8_change_82 : decode cX8_change 82 = .ok (.getfield 15, 3) := by decide +kernel
theorem dX8_change_85 : decode cX8_change 85 = .ok (.iload_n 2, 1) := by decide +kernel
theorem dX8_change_86 : decode cX8_change 86 = .ok (.iload_n 3, 1) := by decide +kernel
theorem dX8_change_87 : decode cX8_change 87 = .ok (.iastore, 1) := by decide +kernel
theorem dX8_change_88 : decode cX8_change 88 = .ok (.goto 45, 3) := by decide +kernel
theorem dX8_change_91 : decode cX8_change 91 = .ok (.aload_n 0, 1) := by decide +kernel
theorem dX8_change_92 : decode cX8_change 92 = .ok (.dup, 1) := by decide +kernel
theorem dX8_change_93 : decode cX8_change 93 = .ok (.getfield 21, 3) := by decide +kernel
theorem dX8_change_96 : decode cX8_change 96 = .ok (.iconst 1, 1) := by decide +kernel
theorem dX8_change_97 : decode cX8_change 97 = .ok (.iload_n 2, 1) := by decide +kernel
theorem dX8_change_98 : decode cX8_change 98 = .ok (.ishl, 1) := by decide +kernel
theorem dX8_change_99 : decode cX8_change 99 = .ok (.ixor, 1) := by decide +kernel
theorem dX8_change_100 : decode cX8_change 100 = .ok (.putfield 21, 3) := by decide +kernel
theorem dX8_change_103 : decode cX8_change 103 = .ok (.goto 30, 3) := by decide +kernel
theorem dX8_change_106 : decode cX8_change 106 = .ok (.aload_n 0, 1) := by decide +kernel
theorem dX8_change_107 : decode cX8_change 107 = .ok (.dup, 1) := by decide +kernel
theorem dX8_change_108 : decode cX8_change 108 = .ok (.getfield 25, 3) := by decide +kernel
theorem dX8_change_111 : decode cX8_change 111 = .ok (.iconst 1, 1) := by decide +kernel
theorem dX8_change_112 : decode cX8_change 112 = .ok (.iload_n 2, 1) := by decide +kernel
theorem dX8_change_113 : decode cX8_change 113 = .ok (.ishl, 1) := by decide +kernel
theorem dX8_change_114 : decode cX8_change 114 = .ok (.ixor, 1) := by decide +kernel
theorem dX8_change_115 : decode cX8_change 115 = .ok (.putfield 25, 3) := by decide +kernel
theorem dX8_change_118 : decode cX8_change 118 = .ok (.goto 15, 3) := by decide +kernel
theorem dX8_change_121 : decode cX8_change 121 = .ok (.aload_n 0, 1) := by decide +kernel
theorem dX8_change_122 : decode cX8_change 122 = .ok (.getfield 18, 3) := by decide +kernel
theorem dX8_change_125 : decode cX8_change 125 = .ok (.iload_n 2, 1) := by decide +kernel
theorem dX8_change_126 : decode cX8_change 126 = .ok (.dup2, 1) := by decide +kernel
theorem dX8_change_127 : decode cX8_change 127 = .ok (.iaload, 1) := by decide +kernel
theorem dX8_change_128 : decode cX8_change 128 = .ok (.iconst 1, 1) := by decide +kernel
theorem dX8_change_129 : decode cX8_change 129 = .ok (.iload_n 3, 1) := by decide +kernel
theorem dX8_change_130 : decode cX8_change 130 = .ok (.ishl, 1) := by decide +kernel
theorem dX8_change_131 : decode cX8_change 131 = .ok (.ixor, 1) := by decide +kernel
theorem dX8_change_132 : decode cX8_change 132 = .ok (.iastore, 1) := by decide +kernel
theorem dX8_change_133 : decode cX8_change 133 = .ok (.return_, 1) := by decide +kernel
theorem dX8_blank_0 : decode cX8_blank 0 = .ok (.iconst 0, 1) := by decide +kernel
theorem dX8_blank_1 : decode cX8_blank 1 = .ok (.istore_n 1, 1) := by decide +kernel
theorem dX8_blank_2 : decode cX8_blank 2 = .ok (.iload_n 1, 1) := by decide +kernel
theorem dX8_blank_3 : decode cX8_blank 3 = .ok (.bipush 8, 2) := by decide +kernel
theorem dX8_blank_5 : decode cX8_blank 5 = .ok (.if_icmp .ge 16, 3) := by decide +kernel
theorem dX8_blank_8 : decode cX8_blank 8 = .ok (.aload_n 0, 1) := by decide +kernel
theorem dX8_blank_9 : decode cX8_blank 9 = .ok (.getfield 9, 3) := by decide +kernel
theorem dX8_blank_12 : decode cX8_blank 12 = .ok (.iload_n 1, 1) := by decide +kernel
theorem dX8_blank_13 : decode cX8_blank 13 = .ok (.iconst 0, 1) := by decide +kernel
theorem dX8_blank_14 : decode cX8_blank 14 = .ok (.iastore, 1) := by decide +kernel
theorem dX8_blank_15 : decode cX8_blank 15 = .ok (.iinc 1 1, 3) := by decide +kernel
theorem dX8_blank_18 : decode cX8_blank 18 = .ok (.goto (-16), 3) := by decide +kernel
theorem dX8_blank_21 : decode cX8_blank 21 = .ok (.iconst 0, 1) := by decide +kernel
theorem dX8_blank_22 : decode cX8_blank 22 = .ok (.istore_n 1, 1) := by decide +kernel
theorem dX8_blank_23 : decode cX8_blank 23 = .ok (.iload_n 1, 1) := by decide +kernel
theorem dX8_blank_24 : decode cX8_blank 24 = .ok (.iconst 4, 1) := by decide +kernel
theorem dX8_blank_25 : decode cX8_blank 25 = .ok (.if_icmp .ge 16, 3) := by decide +kernel
theorem dX8_blank_28 : decode cX8_blank 28 = .ok (.aload_n 0, 1) := by decide +kernel
theorem dX8_blank_29 : decode cX8_blank 29 = .ok (.getfield 18, 3) := by decide +kernel
theorem dX8_blank_32 : decode cX8_blank 32 = .ok (.iload_n 1, 1) := by decide +kernel
theorem dX8_blank_33 : decode cX8_blank 33 = .ok (.iconst 0, 1) := by decide +kernel
theorem dX8_blank_34 : decode cX8_blank 34 = .ok (.iastore, 1) := by decide +kernel
theorem dX8_blank_35 : decode cX8_blank 35 = .ok (.iinc 1 1, 3) := by decide +kernel
theorem dX8_blank_38 : decode cX8_blank 38 = .ok (.goto (-15), 3) := by decide +kernel
theorem dX8_blank_41 : decode cX8_blank 41 = .ok (.aload_n 0, 1) := by decide +kernel
theorem dX8_blank_42 : decode cX8_blank 42 = .ok (.iconst 0, 1) := by decide +kernel
theorem dX8_blank_43 : decode cX8_blank 43 = .ok (.putfield 21, 3) := by decide +kernel
theorem dX8_blank_46 : decode cX8_blank 46 = .ok (.aload_n 0, 1) := by decide +kernel
theorem dX8_blank_47 : decode cX8_blank 47 = .ok (.iconst 0, 1) := by decide +kernel
theorem dX8_blank_48 : decode cX8_blank 48 = .ok (.putfield 25, 3) := by decide +kernel
theorem dX8_blank_51 : decode cX8_blank 51 = .ok (.return_, 1) := by decide +kernel
theorem dX8_letters_0 : decode cX8_letters 0 = .ok (.iconst 0, 1) := by decide +kernel
theorem dX8_letters_1 : decode cX8_letters 1 = .ok (.istore_n 1, 1) := by decide +kernel
theorem dX8_letters_2 : decode cX8_letters 2 = .ok (.iconst 0, 1) := by decide +kernel
theorem dX8_letters_3 : decode cX8_letters 3 = .ok (.istore_n 2, 1) := by decide +kernel
theorem dX8_letters_4 : decode cX8_letters 4 = .ok (.iload_n 2, 1) := by decide +kernel
theorem dX8_letters_5 : decode cX8_letters 5 = .ok (.bipush 8, 2) := by decide +kernel
theorem dX8_letters_7 : decode cX8_letters 7 = .ok (.if_icmp .ge 18, 3) := by decide +kernel
theorem dX8_letters_10 : decode cX8_letters 10 = .ok (.iload_n 1, 1) := by decide +kernel
theorem dX8_letters_11 : decode cX8_letters 11 = .ok (.aload_n 0, 1) := by decide +kernel
theorem dX8_letters_12 : decode cX8_letters 12 = .ok (.getfield 9, 3) := by decide +kernel
theorem dX8_letters_15 : decode cX8_letters 15 = .ok (.iload_n 2, 1) := by decide +kernel
theorem dX8_letters_16 : decode cX8_letters 16 = .ok (.iaload, 1) := by decide +kernel
theorem dX8_letters_17 : decode cX8_letters 17 = .ok (.iadd, 1) := by decide +kernel
theorem dX8_letters_18 : decode cX8_letters 18 = .ok (.istore_n 1, 1) := by decide +kernel
theorem dX8_letters_19 : decode cX8_letters 19 = .ok (.iinc 2 1, 3) := by decide +kernel
theorem dX8_letters_22 : decode cX8_letters 22 = .ok (.goto (-18), 3) := by decide +kernel
theorem dX8_letters_25 : decode cX8_letters 25 = .ok (.iload_n 1, 1) := by decide +kernel
theorem dX8_letters_26 : decode cX8_letters 26 = .ok (.ireturn, 1) := by decide +kernel
theorem dX8_unlike_0 : decode cX8_unlike 0 = .ok (.iconst 0, 1) := by decide +kernel
theorem dX8_unlike_1 : decode cX8_unlike 1 = .ok (.istore_n 1, 1) := by decide +kernel
theorem dX8_unlike_2 : decode cX8_unlike 2 = .ok (.iconst 0, 1) := by decide +kernel
theorem dX8_unlike_3 : decode cX8_unlike 3 = .ok (.istore_n 2, 1) := by decide +kernel
theorem dX8_unlike_4 : decode cX8_unlike 4 = .ok (.iload_n 2, 1) := by decide +kernel
theorem dX8_unlike_5 : decode cX8_unlike 5 = .ok (.bipush 8, 2) := by decide +kernel
theorem dX8_unlike_7 : decode cX8_unlike 7 = .ok (.if_icmp .ge 21, 3) := by decide +kernel
theorem dX8_unlike_10 : decode cX8_unlike 10 = .ok (.aload_n 0, 1) := by decide +kernel
theorem dX8_unlike_11 : decode cX8_unlike 11 = .ok (.getfield 9, 3) := by decide +kernel
theorem dX8_unlike_14 : decode cX8_unlike 14 = .ok (.iload_n 2, 1) := by decide +kernel
theorem dX8_unlike_15 : decode cX8_unlike 15 = .ok (.iaload, 1) := by decide +kernel
theorem dX8_unlike_16 : decode cX8_unlike 16 = .ok (.ifCond .le 6, 3) := by decide +kernel
theorem dX8_unlike_19 : decode cX8_unlike 19 = .ok (.iinc 1 1, 3) := by decide +kernel
theorem dX8_unlike_22 : decode cX8_unlike 22 = .ok (.iinc 2 1, 3) := by decide +kernel
theorem dX8_unlike_25 : decode cX8_unlike 25 = .ok (.goto (-21), 3) := by decide +kernel
theorem dX8_unlike_28 : decode cX8_unlike 28 = .ok (.iload_n 1, 1) := by decide +kernel
theorem dX8_unlike_29 : decode cX8_unlike 29 = .ok (.ireturn, 1) := by decide +kernel
theorem dX8_packed_0 : decode cX8_packed 0 = .ok (.lconst 0, 1) := by decide +kernel
theorem dX8_packed_1 : decode cX8_packed 1 = .ok (.lstore_n 1, 1) := by decide +kernel
theorem dX8_packed_2 : decode cX8_packed 2 = .ok (.iconst 0, 1) := by decide +kernel
theorem dX8_packed_3 : decode cX8_packed 3 = .ok (.istore_n 3, 1) := by decide +kernel
theorem dX8_packed_4 : decode cX8_packed 4 = .ok (.iload_n 3, 1) := by decide +kernel
theorem dX8_packed_5 : decode cX8_packed 5 = .ok (.bipush 8, 2) := by decide +kernel
theorem dX8_packed_7 : decode cX8_packed 7 = .ok (.if_icmp .ge 23, 3) := by decide +kernel
theorem dX8_packed_10 : decode cX8_packed 10 = .ok (.lload_n 1, 1) := by decide +kernel
theorem dX8_packed_11 : decode cX8_packed 11 = .ok (.aload_n 0, 1) := by decide +kernel
theorem dX8_packed_12 : decode cX8_packed 12 = .ok (.getfield 9, 3) := by decide +kernel
theorem dX8_packed_15 : decode cX8_packed 15 = .ok (.iload_n 3, 1) := by decide +kernel
theorem dX8_packed_16 : decode cX8_packed 16 = .ok (.iaload, 1) := by decide +kernel
theorem dX8_packed_17 : decode cX8_packed 17 = .ok (.i2l, 1) := by decide +kernel
theorem dX8_packed_18 : decode cX8_packed 18 = .ok (.iconst 5, 1) := by decide +kernel
theorem dX8_packed_19 : decode cX8_packed 19 = .ok (.iload_n 3, 1) := by decide +kernel
theorem dX8_packed_20 : decode cX8_packed 20 = .ok (.imul, 1) := by decide +kernel
theorem dX8_packed_21 : decode cX8_packed 21 = .ok (.lshl, 1) := by decide +kernel
theorem dX8_packed_22 : decode cX8_packed 22 = .ok (.lor, 1) := by decide +kernel
theorem dX8_packed_23 : decode cX8_packed 23 = .ok (.lstore_n 1, 1) := by decide +kernel
theorem dX8_packed_24 : decode cX8_packed 24 = .ok (.iinc 3 1, 3) := by decide +kernel
theorem dX8_packed_27 : decode cX8_packed 27 = .ok (.goto (-23), 3) := by decide +kernel
theorem dX8_packed_30 : decode cX8_packed 30 = .ok (.lload_n 1, 1) := by decide +kernel
theorem dX8_packed_31 : decode cX8_packed 31 = .ok (.lreturn, 1) := by decide +kernel
theorem dX8_allFollow_0 : decode cX8_allFollow 0 = .ok (.iconst 0, 1) := by decide +kernel
theorem dX8_allFollow_1 : decode cX8_allFollow 1 = .ok (.istore_n 1, 1) := by decide +kernel
theorem dX8_allFollow_2 : decode cX8_allFollow 2 = .ok (.iload_n 1, 1) := by decide +kernel
theorem dX8_allFollow_3 : decode cX8_allFollow 3 = .ok (.iconst 4, 1) := by decide +kernel
theorem dX8_allFollow_4 : decode cX8_allFollow 4 = .ok (.if_icmp .ge 22, 3) := by decide +kernel
theorem dX8_allFollow_7 : decode cX8_allFollow 7 = .ok (.aload_n 0, 1) := by decide +kernel
theorem dX8_allFollow_8 : decode cX8_allFollow 8 = .ok (.getfield 18, 3) := by decide +kernel
theorem dX8_allFollow_11 : decode cX8_allFollow 11 = .ok (.iload_n 1, 1) := by decide +kernel
theorem dX8_allFollow_12 : decode cX8_allFollow 12 = .ok (.iaload, 1) := by decide +kernel
theorem dX8_allFollow_13 : decode cX8_allFollow 13 = .ok (.bipush 15, 2) := by decide +kernel
theorem dX8_allFollow_15 : decode cX8_allFollow 15 = .ok (.if_icmp .eq 5, 3) := by decide +kernel
theorem dX8_allFollow_18 : decode cX8_allFollow 18 = .ok (.iconst 0, 1) := by decide +kernel
theorem dX8_allFollow_19 : decode cX8_allFollow 19 = .ok (.ireturn, 1) := by decide +kernel
theorem dX8_allFollow_20 : decode cX8_allFollow 20 = .ok (.iinc 1 1, 3) := by decide +kernel
theorem dX8_allFollow_23 : decode cX8_allFollow 23 = .ok (.goto (-21), 3) := by decide +kernel
theorem dX8_allFollow_26 : decode cX8_allFollow 26 = .ok (.iconst 1, 1) := by decide +kernel
theorem dX8_allFollow_27 : decode cX8_allFollow 27 = .ok (.ireturn, 1) := by decide +kernel
theorem dX9_init_0 : decode cX9_init 0 = .ok (.aload_n 0, 1) := by decide +kernel
theorem dX9_init_1 : decode cX9_init 1 = .ok (.invokespecial 1, 3) := by decide +kernel
theorem dX9_init_4 : decode cX9_init 4 = .ok (.return_, 1) := by decide +kernel
theorem dX10_init_0 : decode cX10_init 0 = .ok (.aload_n 0, 1) := by decide +kernel
theorem dX10_init_1 : decode cX10_init 1 = .ok (.invokespecial 1, 3) := by decide +kernel
theorem dX10_init_4 : decode cX10_init 4 = .ok (.aload_n 0, 1) := by decide +kernel
theorem dX10_init_5 : decode cX10_init 5 = .ok (.aload_n 1, 1) := by decide +kernel
theorem dX10_init_6 : decode cX10_init 6 = .ok (.putfield 7, 3) := by decide +kernel
theorem dX10_init_9 : decode cX10_init 9 = .ok (.return_, 1) := by decide +kernel
theorem dX10_none_0 : decode cX10_none 0 = .ok (.ldc2_w 13, 3) := by decide +kernel
theorem dX10_none_3 : decode cX10_none 3 = .ok (.lreturn, 1) := by decide +kernel
theorem dX10_ended_0 : decode cX10_ended 0 = .ok (.lconst 0, 1) := by decide +kernel
theorem dX10_ended_1 : decode cX10_ended 1 = .ok (.lreturn, 1) := by decide +kernel
theorem dX10_joined_0 : decode cX10_joined 0 = .ok (.lload_n 1, 1) := by decide +kernel
theorem dX10_joined_1 : decode cX10_joined 1 = .ok (.lload_n 3, 1) := by decide +kernel
theorem dX10_joined_2 : decode cX10_joined 2 = .ok (.invokestatic 15, 3) := by decide +kernel
theorem dX10_joined_5 : decode cX10_joined 5 = .ok (.lreturn, 1) := by decide +kernel
theorem dX10_with_0 : decode cX10_with 0 = .ok (.lload_n 3, 1) := by decide +kernel
theorem dX10_with_1 : decode cX10_with 1 = .ok (.lconst 0, 1) := by decide +kernel
theorem dX10_with_2 : decode cX10_with 2 = .ok (.lcmp, 1) := by decide +kernel
theorem dX10_with_3 : decode cX10_with 3 = .ok (.ifCond .ge 7, 3) := by decide +kernel
theorem dX10_with_6 : decode cX10_with 6 = .ok (.lload_n 1, 1) := by decide +kernel
theorem dX10_with_7 : decode cX10_with 7 = .ok (.goto 17, 3) := by decide +kernel
theorem dX10_with_10 : decode cX10_with 10 = .ok (.lload_n 1, 1) := by decide +kernel
theorem dX10_with_11 : decode cX10_with 11 = .ok (.lload_n 3, 1) := by decide +kernel
theorem dX10_with_12 : decode cX10_with 12 = .ok (.aload_n 0, 1) := by decide +kernel
theorem dX10_with_13 : decode cX10_with 13 = .ok (.getfield 7, 3) := by decide +kernel
theorem dX10_with_16 : decode cX10_with 16 = .ok (.iload 5, 2) := by decide +kernel
theorem dX10_with_18 : decode cX10_with 18 = .ok (.iaload, 1) := by decide +kernel
theorem dX10_with_19 : decode cX10_with 19 = .ok (.i2l, 1) := by decide +kernel
theorem dX10_with_20 : decode cX10_with 20 = .ok (.ladd, 1) := by decide +kernel
theorem dX10_with_21 : decode cX10_with 21 = .ok (.invokestatic 15, 3) := by decide +kernel
theorem dX10_with_24 : decode cX10_with 24 = .ok (.lreturn, 1) := by decide +kernel
theorem dX11_init_0 : decode cX11_init 0 = .ok (.aload_n 0, 1) := by decide +kernel
theorem dX11_init_1 : decode cX11_init 1 = .ok (.invokespecial 1, 3) := by decide +kernel
theorem dX11_init_4 : decode cX11_init 4 = .ok (.aload_n 0, 1) := by decide +kernel
theorem dX11_init_5 : decode cX11_init 5 = .ok (.new 7, 3) := by decide +kernel
theorem dX11_init_8 : decode cX11_init 8 = .ok (.dup, 1) := by decide +kernel
theorem dX11_init_9 : decode cX11_init 9 = .ok (.invokespecial 9, 3) := by decide +kernel
theorem dX11_init_12 : decode cX11_init 12 = .ok (.putfield 10, 3) := by decide +kernel
theorem dX11_init_15 : decode cX11_init 15 = .ok (.aload_n 0, 1) := by decide +kernel
theorem dX11_init_16 : decode cX11_init 16 = .ok (.new 16, 3) := by decide +kernel
theorem dX11_init_19 : decode cX11_init 19 = .ok (.dup, 1) := by decide +kernel
theorem dX11_init_20 : decode cX11_init 20 = .ok (.invokespecial 18, 3) := by decide +kernel
theorem dX11_init_23 : decode cX11_init 23 = .ok (.putfield 19, 3) := by decide +kernel
theorem dX11_init_26 : decode cX11_init 26 = .ok (.aload_n 0, 1) := by decide +kernel
theorem dX11_init_27 : decode cX11_init 27 = .ok (.new 23, 3) := by decide +kernel
theorem dX11_init_30 : decode cX11_init 30 = .ok (.dup, 1) := by decide +kernel
theorem dX11_init_31 : decode cX11_init 31 = .ok (.invokespecial 25, 3) := by decide +kernel
theorem dX11_init_34 : decode cX11_init 34 = .ok (.putfield 26, 3) := by decide +kernel
theorem dX11_init_37 : decode cX11_init 37 = .ok (.aload_n 0, 1) := by decide +kernel
theorem dX11_init_38 : decode cX11_init 38 = .ok (.new 23, 3) := by decide +kernel
theorem dX11_init_41 : decode cX11_init 41 = .ok (.dup, 1) := by decide +kernel
theorem dX11_init_42 : decode cX11_init 42 = .ok (.invokespecial 25, 3) := by decide +kernel
theorem dX11_init_45 : decode cX11_init 45 = .ok (.putfield 30, 3) := by decide +kernel
theorem dX11_init_48 : decode cX11_init 48 = .ok (.aload_n 0, 1) := by decide +kernel
theorem dX11_init_49 : decode cX11_init 49 = .ok (.iconst 2, 1) := by decide +kernel
theorem dX11_init_50 : decode cX11_init 50 = .ok (.anewarray 23, 3) := by decide +kernel
theorem dX11_init_53 : decode cX11_init 53 = .ok (.dup, 1) := by decide +kernel
theorem dX11_init_54 : decode cX11_init 54 = .ok (.iconst 0, 1) := by decide +kernel
theorem dX11_init_55 : decode cX11_init 55 = .ok (.new 23, 3) := by decide +kernel
theorem dX11_init_58 : decode cX11_init 58 = .ok (.dup, 1) := by decide +kernel
theorem dX11_init_59 : decode cX11_init 59 = .ok (.invokespecial 25, 3) := by decide +kernel
theorem dX11_init_62 : decode cX11_init 62 = .ok (.aastore, 1) := by decide +kernel
theorem dX11_init_63 : decode cX11_init 63 = .ok (.dup, 1) := by decide +kernel
theorem dX11_init_64 : decode cX11_init 64 = .ok (.iconst 1, 1) := by decide +kernel
theorem dX11_init_65 : decode cX11_init 65 = .ok (.new 23, 3) := by decide +kernel
theorem dX11_init_68 : decode cX11_init 68 = .ok (.dup, 1) := by decide +kernel
theorem dX11_init_69 : decode cX11_init 69 = .ok (.invokespecial 25, 3) := by decide +kernel
theorem dX11_init_72 : decode cX11_init 72 = .ok (.aastore, 1) := by decide +kernel
theorem dX11_init_73 : decode cX11_init 73 = .ok (.putfield 33, 3) := by decide +kernel
theorem dX11_init_76 : decode cX11_init 76 = .ok (.aload_n 0, 1) := by decide +kernel
theorem dX11_init_77 : decode cX11_init 77 = .ok (.iconst 2, 1) := by decide +kernel
theorem dX11_init_78 : decode cX11_init 78 = .ok (.newarray .boolean, 2) := by decide +kernel
theorem dX11_init_80 : decode cX11_init 80 = .ok (.putfield 37, 3) := by decide +kernel
theorem dX11_init_83 : decode cX11_init 83 = .ok (.aload_n 0, 1) := by decide +kernel
theorem dX11_init_84 : decode cX11_init 84 = .ok (.new 41, 3) := by decide +kernel
theorem dX11_init_87 : decode cX11_init 87 = .ok (.dup, 1) := by decide +kernel
theorem dX11_init_88 : decode cX11_init 88 = .ok (.invokespecial 43, 3) := by decide +kernel
theorem dX11_init_91 : decode cX11_init 91 = .ok (.putfield 44, 3) := by decide +kernel
theorem dX11_init_94 : decode cX11_init 94 = .ok (.aload_n 0, 1) := by decide +kernel
theorem dX11_init_95 : decode cX11_init 95 = .ok (.new 48, 3) := by decide +kernel
theorem dX11_init_98 : decode cX11_init 98 = .ok (.dup, 1) := by decide +kernel
theorem dX11_init_99 : decode cX11_init 99 = .ok (.aload_n 0, 1) := by decide +kernel
theorem dX11_init_100 : decode cX11_init 100 = .ok (.getfield 19, 3) := by decide +kernel
theorem dX11_init_103 : decode cX11_init 103 = .ok (.aload_n 0, 1) := by decide +kernel
theorem dX11_init_104 : decode cX11_init 104 = .ok (.getfield 26, 3) := by decide +kernel
theorem dX11_init_107 : decode cX11_init 107 = .ok (.invokespecial 50, 3) := by decide +kernel
theorem dX11_init_110 : decode cX11_init 110 = .ok (.putfield 53, 3) := by decide +kernel
theorem dX11_init_113 : decode cX11_init 113 = .ok (.aload_n 0, 1) := by decide +kernel
theorem dX11_init_114 : decode cX11_init 114 = .ok (.new 57, 3) := by decide +kernel
theorem dX11_init_117 : decode cX11_init 117 = .ok (.dup, 1) := by decide +kernel
theorem dX11_init_118 : decode cX11_init 118 = .ok (.aload_n 0, 1) := by decide +kernel
theorem dX11_init_119 : decode cX11_init 119 = .ok (.getfield 19, 3) := by decide +kernel
theorem dX11_init_122 : decode cX11_init 122 = .ok (.aload_n 0, 1) := by decide +kernel
theorem dX11_init_123 : decode cX11_init 123 = .ok (.getfield 26, 3) := by decide +kernel
theorem dX11_init_126 : decode cX11_init 126 = .ok (.aload_n 0, 1) := by decide +kernel
theorem dX11_init_127 : decode cX11_init 127 = .ok (.getfield 53, 3) := by decide +kernel
theorem dX11_init_130 : decode cX11_init 130 = .ok (.invokespecial 59, 3) := by decide +kernel
theorem dX11_init_133 : decode cX11_init 133 = .ok (.putfield 62, 3) := by decide +kernel
theorem dX11_init_136 : decode cX11_init 136 = .ok (.aload_n 0, 1) := by decide +kernel
theorem dX11_init_137 : decode cX11_init 137 = .ok (.bipush 12, 2) := by decide +kernel
theorem dX11_init_139 : decode cX11_init 139 = .ok (.newarray .int, 2) := by decide +kernel
theorem dX11_init_141 : decode cX11_init 141 = .ok (.putfield 66, 3) := by decide +kernel
theorem dX11_init_144 : decode cX11_init 144 = .ok (.aload_n 0, 1) := by decide +kernel
theorem dX11_init_145 : decode cX11_init 145 = .ok (.iconst 4, 1) := by decide +kernel
theorem dX11_init_146 : decode cX11_init 146 = .ok (.newarray .int, 2) := by decide +kernel
theorem dX11_init_148 : decode cX11_init 148 = .ok (.putfield 70, 3) := by decide +kernel
theorem dX11_init_151 : decode cX11_init 151 = .ok (.aload_n 0, 1) := by decide +kernel
theorem dX11_init_152 : decode cX11_init 152 = .ok (.iconst 4, 1) := by decide +kernel
theorem dX11_init_153 : decode cX11_init 153 = .ok (.newarray .int, 2) := by decide +kernel
theorem dX11_init_155 : decode cX11_init 155 = .ok (.putfield 73, 3) := by decide +kernel
theorem dX11_init_158 : decode cX11_init 158 = .ok (.aload_n 0, 1) := by decide +kernel
theorem dX11_init_159 : decode cX11_init 159 = .ok (.bipush 8, 2) := by decide +kernel
theorem dX11_init_161 : decode cX11_init 161 = .ok (.newarray .int, 2) := by decide +kernel
theorem dX11_init_163 : decode cX11_init 163 = .ok (.putfield 76, 3) := by decide +kernel
theorem dX11_init_166 : decode cX11_init 166 = .ok (.aload_n 0, 1) := by decide +kernel
theorem dX11_init_167 : decode cX11_init 167 = .ok (.bipush 18, 2) := by decide +kernel
theorem dX11_init_169 : decode cX11_init 169 = .ok (.newarray .int, 2) := by decide +kernel
theorem dX11_init_171 : decode cX11_init 171 = .ok (.putfield 79, 3) := by decide +kernel
theorem dX11_init_174 : decode cX11_init 174 = .ok (.aload_n 0, 1) := by decide +kernel
theorem dX11_init_175 : decode cX11_init 175 = .ok (.iconst 0, 1) := by decide +kernel
theorem dX11_init_176 : decode cX11_init 176 = .ok (.putfield 82, 3) := by decide +kernel
theorem dX11_init_179 : decode cX11_init 179 = .ok (.aload_n 0, 1) := by decide +kernel
theorem dX11_init_180 : decode cX11_init 180 = .ok (.iconst 0, 1) := by decide +kernel
theorem dX11_init_181 : decode cX11_init 181 = .ok (.putfield 86, 3) := by decide +kernel
theorem dX11_init_184 : decode cX11_init 184 = .ok (.aload_n 0, 1) := by decide +kernel
theorem dX11_init_185 : decode cX11_init 185 = .ok (.lconst 0, 1) := by decide +kernel
theorem dX11_init_186 : decode cX11_init 186 = .ok (.putfield 89, 3) := by decide +kernel
theorem dX11_init_189 : decode cX11_init 189 = .ok (.return_, 1) := by decide +kernel
theorem dX11_write_0 : decode cX11_write 0 = .ok (.iload_n 1, 1) := by decide +kernel
theorem dX11_write_1 : decode cX11_write 1 = .ok (.ifCond .lt 10, 3) := by decide +kernel
theorem dX11_write_4 : decode cX11_write 4 = .ok (.iload_n 1, 1) := by decide +kernel
theorem dX11_write_5 : decode cX11_write 5 = .ok (.sipush 255, 3) := by decide +kernel
theorem dX11_write_8 : decode cX11_write 8 = .ok (.if_icmp .le 6, 3) := by decide +kernel
theorem dX11_write_11 : decode cX11_write 11 = .ok (.bipush (-2), 2) := by decide +kernel
theorem dX11_write_13 : decode cX11_write 13 = .ok (.ireturn, 1) := by decide +kernel
theorem dX11_write_14 : decode cX11_write 14 = .ok (.aload_n 0, 1) := by decide +kernel
theorem dX11_write_15 : decode cX11_write 15 = .ok (.getfield 10, 3) := by decide +kernel
theorem dX11_write_18 : decode cX11_write 18 = .ok (.iload_n 1, 1) := by decide +kernel
theorem dX11_write_19 : decode cX11_write 19 = .ok (.invokevirtual 93, 3) := by decide +kernel
theorem dX11_write_22 : decode cX11_write 22 = .ok (.ifCond .eq 13, 3) := by decide +kernel
theorem dX11_write_25 : decode cX11_write 25 = .ok (.aload_n 0, 1) := by decide +kernel
theorem dX11_write_26 : decode cX11_write 26 = .ok (.getfield 10, 3) := by decide +kernel
theorem dX11_write_29 : decode cX11_write 29 = .ok (.getfield 97, 3) := by decide +kernel
theorem dX11_write_32 : decode cX11_write 32 = .ok (.goto 5, 3) := by decide +kernel
theorem dX11_write_35 : decode cX11_write 35 = .ok (.bipush (-4), 2) := by decide +kernel
theorem dX11_write_37 : decode cX11_write 37 = .ok (.ireturn, 1) := by decide +kernel
theorem dX11_wipe_0 : decode cX11_wipe 0 = .ok (.aload_n 0, 1) := by decide +kernel
theorem dX11_wipe_1 : decode cX11_wipe 1 = .ok (.getfield 10, 3) := by decide +kernel
theorem dX11_wipe_4 : decode cX11_wipe 4 = .ok (.getfield 97, 3) := by decide +kernel
theorem dX11_wipe_7 : decode cX11_wipe 7 = .ok (.istore_n 1, 1) := by decide +kernel
theorem dX11_wipe_8 : decode cX11_wipe 8 = .ok (.aload_n 0, 1) := by decide +kernel
theorem dX11_wipe_9 : decode cX11_wipe 9 = .ok (.getfield 10, 3) := by decide +kernel
theorem dX11_wipe_12 : decode cX11_wipe 12 = .ok (.iconst 0, 1) := by decide +kernel
theorem dX11_wipe_13 : decode cX11_wipe 13 = .ok (.putfield 97, 3) := by decide +kernel
theorem dX11_wipe_16 : decode cX11_wipe 16 = .ok (.iload_n 1, 1) := by decide +kernel
theorem dX11_wipe_17 : decode cX11_wipe 17 = .ok (.ireturn, 1) := by decide +kernel
theorem dX11_fault_0 : decode cX11_fault 0 = .ok (.aload_n 0, 1) := by decide +kernel
theorem dX11_fault_1 : decode cX11_fault 1 = .ok (.getfield 10, 3) := by decide +kernel
theorem dX11_fault_4 : decode cX11_fault 4 = .ok (.invokevirtual 100, 3) := by decide +kernel
theorem dX11_fault_7 : decode cX11_fault 7 = .ok (.ireturn, 1) := by decide +kernel
theorem dX11_house_0 : decode cX11_house 0 = .ok (.aload_n 0, 1) := by decide +kernel
theorem dX11_house_1 : decode cX11_house 1 = .ok (.getfield 10, 3) := by decide +kernel
theorem dX11_house_4 : decode cX11_house 4 = .ok (.invokevirtual 100, 3) := by decide +kernel
theorem dX11_house_7 : decode cX11_house 7 = .ok (.bipush (-9), 2) := by decide +kernel
theorem dX11_house_9 : decode cX11_house 9 = .ok (.if_icmp .eq 6, 3) := by decide +kernel
theorem dX11_house_12 : decode cX11_house 12 = .ok (.bipush (-3), 2) := by decide +kernel
theorem dX11_house_14 : decode cX11_house 14 = .ok (.ireturn, 1) := by decide +kernel
theorem dX11_house_15 : decode cX11_house 15 = .ok (.aload_n 0, 1) := by decide +kernel
theorem dX11_house_16 : decode cX11_house 16 = .ok (.getfield 19, 3) := by decide +kernel
theorem dX11_house_19 : decode cX11_house 19 = .ok (.aload_n 0, 1) := by decide +kernel
theorem dX11_house_20 : decode cX11_house 20 = .ok (.getfield 10, 3) := by decide +kernel
theorem dX11_house_23 : decode cX11_house 23 = .ok (.getfield 104, 3) := by decide +kernel
theorem dX11_house_26 : decode cX11_house 26 = .ok (.invokevirtual 105, 3) := by decide +kernel
theorem dX11_house_29 : decode cX11_house 29 = .ok (.aload_n 0, 1) := by decide +kernel
theorem dX11_house_30 : decode cX11_house 30 = .ok (.getfield 26, 3) := by decide +kernel
theorem dX11_house_33 : decode cX11_house 33 = .ok (.aload_n 0, 1) := by decide +kernel
theorem dX11_house_34 : decode cX11_house 34 = .ok (.getfield 10, 3) := by decide +kernel
theorem dX11_house_37 : decode cX11_house 37 = .ok (.getfield 109, 3) := by decide +kernel
theorem dX11_house_40 : decode cX11_house 40 = .ok (.invokevirtual 112, 3) := by decide +kernel
theorem dX11_house_43 : decode cX11_house 43 = .ok (.aload_n 0, 1) := by decide +kernel
theorem dX11_house_44 : decode cX11_house 44 = .ok (.getfield 44, 3) := by decide +kernel
theorem dX11_house_47 : decode cX11_house 47 = .ok (.iconst 0, 1) := by decide +kernel
theorem dX11_house_48 : decode cX11_house 48 = .ok (.putfield 115, 3) := by decide +kernel
theorem dX11_house_51 : decode cX11_house 51 = .ok (.aload_n 0, 1) := by decide +kernel
theorem dX11_house_52 : decode cX11_house 52 = .ok (.iconst 0, 1) := by decide +kernel
theorem dX11_house_53 : decode cX11_house 53 = .ok (.putfield 82, 3) := by decide +kernel
theorem dX11_house_56 : decode cX11_house 56 = .ok (.iconst 0, 1) := by decide +kernel
theorem dX11_house_57 : decode cX11_house 57 = .ok (.istore_n 1, 1) := by decide +kernel
theorem dX11_house_58 : decode cX11_house 58 = .ok (.iload_n 1, 1) := by decide +kernel
theorem dX11_house_59 : decode cX11_house 59 = .ok (.iconst 2, 1) := by decide +kernel
theorem dX11_house_60 : decode cX11_house 60 = .ok (.if_icmp .ge 16, 3) := by decide +kernel
theorem dX11_house_63 : decode cX11_house 63 = .ok (.aload_n 0, 1) := by decide +kernel
theorem dX11_house_64 : decode cX11_house 64 = .ok (.getfield 37, 3) := by decide +kernel
theorem dX11_house_67 : decode cX11_house 67 = .ok (.iload_n 1, 1) := by decide +kernel
theorem dX11_house_68 : decode cX11_house 68 = .ok (.iconst 0, 1) := by decide +kernel
theorem dX11_house_69 : decode cX11_house 69 = .ok (.bastore, 1) := by decide +kernel
theorem dX11_house_70 : decode cX11_house 70 = .ok (.iinc 1 1, 3) := by decide +kernel
theorem dX11_house_73 : decode cX11_house 73 = .ok (.goto (-15), 3) := by decide +kernel
theorem dX11_house_76 : decode cX11_house 76 = .ok (.aload_n 0, 1) := by decide +kernel
theorem dX11_house_77 : decode cX11_house 77 = .ok (.invokevirtual 116, 3) := by decide +kernel
theorem dX11_house_80 : decode cX11_house 80 = .ok (.aload_n 0, 1) := by decide +kernel
theorem dX11_house_81 : decode cX11_house 81 = .ok (.getfield 19, 3) := by decide +kernel
theorem dX11_house_84 : decode cX11_house 84 = .ok (.getfield 119, 3) := by decide +kernel
theorem dX11_house_87 : decode cX11_house 87 = .ok (.ireturn, 1) := by decide +kernel
theorem dX11_about_0 : decode cX11_about 0 = .ok (.iload_n 1, 1) := by decide +kernel
theorem dX11_about_1 : decode cX11_about 1 = .ok (.tableswitch 174 0 13 #[71, 79, 87, 95, 103, 111, 119, 124, 132, 140, 148, 156, 161, 169], 71) := by decide +kernel
theorem dX11_about_72 : decode cX11_about 72 = .ok (.aload_n 0, 1) := by decide +kernel
theorem dX11_about_73 : decode cX11_about 73 = .ok (.getfield 19, 3) := by decide +kernel
theorem dX11_about_76 : decode cX11_about 76 = .ok (.getfield 119, 3) := by decide +kernel
theorem dX11_about_79 : decode cX11_about 79 = .ok (.ireturn, 1) := by decide +kernel
theorem dX11_about_80 : decode cX11_about 80 = .ok (.aload_n 0, 1) := by decide +kernel
theorem dX11_about_81 : decode cX11_about 81 = .ok (.getfield 26, 3) := by decide +kernel
theorem dX11_about_84 : decode cX11_about 84 = .ok (.invokevirtual 122, 3) := by decide +kernel
theorem dX11_about_87 : decode cX11_about 87 = .ok (.ireturn, 1) := by decide +kernel
theorem dX11_about_88 : decode cX11_about 88 = .ok (.aload_n 0, 1) := by decide +kernel
theorem dX11_about_89 : decode cX11_about 89 = .ok (.getfield 26, 3) := by decide +kernel
theorem dX11_about_92 : decode cX11_about 92 = .ok (.invokevirtual 125, 3) := by decide +kernel
theorem dX11_about_95 : decode cX11_about 95 = .ok (.ireturn, 1) := by decide +kernel
theorem dX11_about_96 : decode cX11_about 96 = .ok (.aload_n 0, 1) := by decide +kernel
theorem dX11_about_97 : decode cX11_about 97 = .ok (.getfield 26, 3) := by decide +kernel
theorem dX11_about_100 : decode cX11_about 100 = .ok (.getfield 128, 3) := by decide +kernel
theorem dX11_about_103 : decode cX11_about 103 = .ok (.ireturn, 1) := by decide +kernel
theorem dX11_about_104 : decode cX11_about 104 = .ok (.aload_n 0, 1) := by decide +kernel
theorem dX11_about_105 : decode cX11_about 105 = .ok (.getfield 26, 3) := by decide +kernel
theorem dX11_about_108 : decode cX11_about 108 = .ok (.getfield 131, 3) := by decide +kernel
theorem dX11_about_111 : decode cX11_about 111 = .ok (.ireturn, 1) := by decide +kernel
theorem dX11_about_112 : decode cX11_about 112 = .ok (.aload_n 0, 1) := by decide +kernel
theorem dX11_about_113 : decode cX11_about 113 = .ok (.getfield 26, 3) := by decide +kernel
theorem dX11_about_116 : decode cX11_about 116 = .ok (.getfield 134, 3) := by decide +kernel
theorem dX11_about_119 : decode cX11_about 119 = .ok (.ireturn, 1) := by decide +kernel
theorem dX11_about_120 : decode cX11_about 120 = .ok (.aload_n 0, 1) := by decide +kernel
theorem dX11_about_121 : decode cX11_about 121 = .ok (.invokevirtual 137, 3) := by decide +kernel
theorem dX11_about_124 : decode cX11_about 124 = .ok (.ireturn, 1) := by decide +kernel
theorem dX11_about_125 : decode cX11_about 125 = .ok (.aload_n 0, 1) := by decide +kernel
theorem dX11_about_126 : decode cX11_about 126 = .ok (.getfield 53, 3) := by decide +kernel
theorem dX11_about_129 : decode cX11_about 129 = .ok (.invokevirtual 140, 3) := by decide +kernel
theorem dX11_about_132 : decode cX11_about 132 = .ok (.ireturn, 1) := by decide +kernel
theorem dX11_about_133 : decode cX11_about 133 = .ok (.aload_n 0, 1) := by decide +kernel
theorem dX11_about_134 : decode cX11_about 134 = .ok (.getfield 53, 3) := by decide +kernel
theorem dX11_about_137 : decode cX11_about 137 = .ok (.invokevirtual 143, 3) := by decide +kernel
theorem dX11_about_140 : decode cX11_about 140 = .ok (.ireturn, 1) := by decide +kernel
theorem dX11_about_141 : decode cX11_about 141 = .ok (.aload_n 0, 1) := by decide +kernel
theorem dX11_about_142 : decode cX11_about 142 = .ok (.getfield 53, 3) := by decide +kernel
theorem dX11_about_145 : decode cX11_about 145 = .ok (.invokevirtual 146, 3) := by decide +kernel
theorem dX11_about_148 : decode cX11_about 148 = .ok (.ireturn, 1) := by decide +kernel
theorem dX11_about_149 : decode cX11_about 149 = .ok (.aload_n 0, 1) := by decide +kernel
theorem dX11_about_150 : decode cX11_about 150 = .ok (.getfield 44, 3) := by decide +kernel
theorem dX11_about_153 : decode cX11_about 153 = .ok (.getfield 115, 3) := by decide +kernel
theorem dX11_about_156 : decode cX11_about 156 = .ok (.ireturn, 1) := by decide +kernel
theorem dX11_about_157 : decode cX11_about 157 = .ok (.aload_n 0, 1) := by decide +kernel
theorem dX11_about_158 : decode cX11_about 158 = .ok (.getfield 86, 3) := by decide +kernel
theorem dX11_about_161 : decode cX11_about 161 = .ok (.ireturn, 1) := by decide +kernel
theorem dX11_about_162 : decode cX11_about 162 = .ok (.aload_n 0, 1) := by decide +kernel
theorem dX11_about_163 : decode cX11_about 163 = .ok (.getfield 10, 3) := by decide +kernel
theorem dX11_about_166 : decode cX11_about 166 = .ok (.getfield 97, 3) := by decide +kernel
theorem dX11_about_169 : decode cX11_about 169 = .ok (.ireturn, 1) := by decide +kernel
theorem dX11_about_170 : decode cX11_about 170 = .ok (.aload_n 0, 1) := by decide +kernel
theorem dX11_about_171 : decode cX11_about 171 = .ok (.getfield 82, 3) := by decide +kernel
theorem dX11_about_174 : decode cX11_about 174 = .ok (.ireturn, 1) := by decide +kernel
theorem dX11_about_175 : decode cX11_about 175 = .ok (.bipush (-2), 2) := by decide +kernel
theorem dX11_about_177 : decode cX11_about 177 = .ok (.ireturn, 1) := by decide +kernel
theorem dX11_word_0 : decode cX11_word 0 = .ok (.aload_n 0, 1) := by decide +kernel
theorem dX11_word_1 : decode cX11_word 1 = .ok (.getfield 19, 3) := by decide +kernel
theorem dX11_word_4 : decode cX11_word 4 = .ok (.iload_n 1, 1) := by decide +kernel
theorem dX11_word_5 : decode cX11_word 5 = .ok (.invokevirtual 149, 3) := by decide +kernel
theorem dX11_word_8 : decode cX11_word 8 = .ok (.ifCond .ne 5, 3) := by decide +kernel
theorem dX11_word_11 : decode cX11_word 11 = .ok (.iconst (-1), 1) := by decide +kernel
theorem dX11_word_12 : decode cX11_word 12 = .ok (.ireturn, 1) := by decide +kernel
theorem dX11_word_13 : decode cX11_word 13 = .ok (.iload_n 2, 1) := by decide +kernel
theorem dX11_word_14 : decode cX11_word 14 = .ok (.tableswitch 121 0 7 #[46, 56, 66, 76, 88, 97, 106, 112], 46) := by decide +kernel
theorem dX11_word_60 : decode cX11_word 60 = .ok (.aload_n 0, 1) := by decide +kernel
theorem dX11_word_61 : decode cX11_word 61 = .ok (.getfield 19, 3) := by decide +kernel
theorem dX11_word_64 : decode cX11_word 64 = .ok (.getfield 152, 3) := by decide +kernel
theorem dX11_word_67 : decode cX11_word 67 = .ok (.iload_n 1, 1) := by decide +kernel
theorem dX11_word_68 : decode cX11_word 68 = .ok (.iaload, 1) := by decide +kernel
theorem dX11_word_69 : decode cX11_word 69 = .ok (.ireturn, 1) := by decide +kernel
theorem dX11_word_70 : decode cX11_word 70 = .ok (.aload_n 0, 1) := by decide +kernel
theorem dX11_word_71 : decode cX11_word 71 = .ok (.getfield 19, 3) := by decide +kernel
theorem dX11_word_74 : decode cX11_word 74 = .ok (.getfield 155, 3) := by decide +kernel
theorem dX11_word_77 : decode cX11_word 77 = .ok (.iload_n 1, 1) := by decide +kernel
theorem dX11_word_78 : decode cX11_word 78 = .ok (.iaload, 1) := by decide +kernel
theorem dX11_word_79 : decode cX11_word 79 = .ok (.ireturn, 1) := by decide +kernel
theorem dX11_word_80 : decode cX11_word 80 = .ok (.aload_n 0, 1) := by decide +kernel
theorem dX11_word_81 : decode cX11_word 81 = .ok (.getfield 26, 3) := by decide +kernel
theorem dX11_word_84 : decode cX11_word 84 = .ok (.getfield 158, 3) := by decide +kernel
theorem dX11_word_87 : decode cX11_word 87 = .ok (.iload_n 1, 1) := by decide +kernel
theorem dX11_word_88 : decode cX11_word 88 = .ok (.iaload, 1) := by decide +kernel
theorem dX11_word_89 : decode cX11_word 89 = .ok (.ireturn, 1) := by decide +kernel
theorem dX11_word_90 : decode cX11_word 90 = .ok (.aload_n 0, 1) := by decide +kernel
theorem dX11_word_91 : decode cX11_word 91 = .ok (.getfield 26, 3) := by decide +kernel
theorem dX11_word_94 : decode cX11_word 94 = .ok (.getfield 128, 3) := by decide +kernel
theorem dX11_word_97 : decode cX11_word 97 = .ok (.iload_n 1, 1) := by decide +kernel
theorem dX11_word_98 : decode cX11_word 98 = .ok (.ishr, 1) := by decide +kernel
theorem dX11_word_99 : decode cX11_word 99 = .ok (.iconst 1, 1) := by decide +kernel
theorem dX11_word_100 : decode cX11_word 100 = .ok (.iand, 1) := by decide +kernel
theorem dX11_word_101 : decode cX11_word 101 = .ok (.ireturn, 1) := by decide +kernel
theorem dX11_word_102 : decode cX11_word 102 = .ok (.aload_n 0, 1) := by decide +kernel
theorem dX11_word_103 : decode cX11_word 103 = .ok (.getfield 19, 3) := by decide +kernel
theorem dX11_word_106 : decode cX11_word 106 = .ok (.iload_n 1, 1) := by decide +kernel
theorem dX11_word_107 : decode cX11_word 107 = .ok (.invokevirtual 161, 3) := by decide +kernel
theorem dX11_word_110 : decode cX11_word 110 = .ok (.ireturn, 1) := by decide +kernel
theorem dX11_word_111 : decode cX11_word 111 = .ok (.aload_n 0, 1) := by decide +kernel
theorem dX11_word_112 : decode cX11_word 112 = .ok (.getfield 19, 3) := by decide +kernel
theorem dX11_word_115 : decode cX11_word 115 = .ok (.iload_n 1, 1) := by decide +kernel
theorem dX11_word_116 : decode cX11_word 116 = .ok (.invokevirtual 165, 3) := by decide +kernel
theorem dX11_word_119 : decode cX11_word 119 = .ok (.ireturn, 1) := by decide +kernel
theorem dX11_word_120 : decode cX11_word 120 = .ok (.aload_n 0, 1) := by decide +kernel
theorem dX11_word_121 : decode cX11_word 121 = .ok (.iload_n 1, 1) := by decide +kernel
theorem dX11_word_122 : decode cX11_word 122 = .ok (.invokevirtual 168, 3) := by decide +kernel
theorem dX11_word_125 : decode cX11_word 125 = .ok (.ireturn, 1) := by decide +kernel
theorem dX11_word_126 : decode cX11_word 126 = .ok (.aload_n 0, 1) := by decide +kernel
theorem dX11_word_127 : decode cX11_word 127 = .ok (.getfield 19, 3) := by decide +kernel
theorem dX11_word_130 : decode cX11_word 130 = .ok (.iload_n 1, 1) := by decide +kernel
theorem dX11_word_131 : decode cX11_word 131 = .ok (.invokevirtual 171, 3) := by decide +kernel
theorem dX11_word_134 : decode cX11_word 134 = .ok (.ireturn, 1) := by decide +kernel
theorem dX11_word_135 : decode cX11_word 135 = .ok (.bipush (-2), 2) := by decide +kernel
theorem dX11_word_137 : decode cX11_word 137 = .ok (.ireturn, 1) := by decide +kernel
theorem dX11_letter_0 : decode cX11_letter 0 = .ok (.iload_n 1, 1) := by decide +kernel
theorem dX11_letter_1 : decode cX11_letter 1 = .ok (.invokestatic 174, 3) := by decide +kernel
theorem dX11_letter_4 : decode cX11_letter 4 = .ok (.ifCond .eq 15, 3) := by decide +kernel
theorem dX11_letter_7 : decode cX11_letter 7 = .ok (.iload_n 2, 1) := by decide +kernel
theorem dX11_letter_8 : decode cX11_letter 8 = .ok (.iconst 2, 1) := by decide +kernel
theorem dX11_letter_9 : decode cX11_letter 9 = .ok (.if_icmp .ne 12, 3) := by decide +kernel
theorem dX11_letter_12 : decode cX11_letter 12 = .ok (.iload_n 1, 1) := by decide +kernel
theorem dX11_letter_13 : decode cX11_letter 13 = .ok (.invokestatic 177, 3) := by decide +kernel
theorem dX11_letter_16 : decode cX11_letter 16 = .ok (.ifCond .ne 5, 3) := by decide +kernel
theorem dX11_letter_19 : decode cX11_letter 19 = .ok (.iconst (-1), 1) := by decide +kernel
theorem dX11_letter_20 : decode cX11_letter 20 = .ok (.ireturn, 1) := by decide +kernel
theorem dX11_letter_21 : decode cX11_letter 21 = .ok (.iload_n 2, 1) := by decide +kernel
theorem dX11_letter_22 : decode cX11_letter 22 = .ok (.tableswitch 55 0 2 #[26, 36, 45], 26) := by decide +kernel
theorem dX11_letter_48 : decode cX11_letter 48 = .ok (.aload_n 0, 1) := by decide +kernel
theorem dX11_letter_49 : decode cX11_letter 49 = .ok (.getfield 26, 3) := by decide +kernel
theorem dX11_letter_52 : decode cX11_letter 52 = .ok (.getfield 180, 3) := by decide +kernel
theorem dX11_letter_55 : decode cX11_letter 55 = .ok (.iload_n 1, 1) := by decide +kernel
theorem dX11_letter_56 : decode cX11_letter 56 = .ok (.iaload, 1) := by decide +kernel
theorem dX11_letter_57 : decode cX11_letter 57 = .ok (.ireturn, 1) := by decide +kernel
theorem dX11_letter_58 : decode cX11_letter 58 = .ok (.aload_n 0, 1) := by decide +kernel
theorem dX11_letter_59 : decode cX11_letter 59 = .ok (.getfield 19, 3) := by decide +kernel
theorem dX11_letter_62 : decode cX11_letter 62 = .ok (.iload_n 1, 1) := by decide +kernel
theorem dX11_letter_63 : decode cX11_letter 63 = .ok (.invokevirtual 183, 3) := by decide +kernel
theorem dX11_letter_66 : decode cX11_letter 66 = .ok (.ireturn, 1) := by decide +kernel
theorem dX11_letter_67 : decode cX11_letter 67 = .ok (.aload_n 0, 1) := by decide +kernel
theorem dX11_letter_68 : decode cX11_letter 68 = .ok (.getfield 26, 3) := by decide +kernel
theorem dX11_letter_71 : decode cX11_letter 71 = .ok (.getfield 186, 3) := by decide +kernel
theorem dX11_letter_74 : decode cX11_letter 74 = .ok (.iload_n 1, 1) := by decide +kernel
theorem dX11_letter_75 : decode cX11_letter 75 = .ok (.iaload, 1) := by decide +kernel
theorem dX11_letter_76 : decode cX11_letter 76 = .ok (.ireturn, 1) := by decide +kernel
theorem dX11_letter_77 : decode cX11_letter 77 = .ok (.bipush (-2), 2) := by decide +kernel
theorem dX11_letter_79 : decode cX11_letter 79 = .ok (.ireturn, 1) := by decide +kernel
theorem dX11_put_0 : decode cX11_put 0 = .ok (.iload_n 1, 1) := by decide +kernel
theorem dX11_put_1 : decode cX11_put 1 = .ok (.invokestatic 174, 3) := by decide +kernel
theorem dX11_put_4 : decode cX11_put 4 = .ok (.ifCond .ne 5, 3) := by decide +kernel
theorem dX11_put_7 : decode cX11_put 7 = .ok (.iconst (-1), 1) := by decide +kernel
theorem dX11_put_8 : decode cX11_put 8 = .ok (.ireturn, 1) := by decide +kernel
theorem dX11_put_9 : decode cX11_put 9 = .ok (.aload_n 0, 1) := by decide +kernel
theorem dX11_put_10 : decode cX11_put 10 = .ok (.getfield 26, 3) := by decide +kernel
theorem dX11_put_13 : decode cX11_put 13 = .ok (.invokevirtual 122, 3) := by decide +kernel
theorem dX11_put_16 : decode cX11_put 16 = .ok (.bipush 12, 2) := by decide +kernel
theorem dX11_put_18 : decode cX11_put 18 = .ok (.if_icmp .lt 6, 3) := by decide +kernel
theorem dX11_put_21 : decode cX11_put 21 = .ok (.bipush (-4), 2) := by decide +kernel
theorem dX11_put_23 : decode cX11_put 23 = .ok (.ireturn, 1) := by decide +kernel
theorem dX11_put_24 : decode cX11_put 24 = .ok (.aload_n 0, 1) := by decide +kernel
theorem dX11_put_25 : decode cX11_put 25 = .ok (.iconst 0, 1) := by decide +kernel
theorem dX11_put_26 : decode cX11_put 26 = .ok (.iload_n 1, 1) := by decide +kernel
theorem dX11_put_27 : decode cX11_put 27 = .ok (.iconst 0, 1) := by decide +kernel
theorem dX11_put_28 : decode cX11_put 28 = .ok (.invokevirtual 189, 3) := by decide +kernel
theorem dX11_put_31 : decode cX11_put 31 = .ok (.aload_n 0, 1) := by decide +kernel
theorem dX11_put_32 : decode cX11_put 32 = .ok (.getfield 44, 3) := by decide +kernel
theorem dX11_put_35 : decode cX11_put 35 = .ok (.iconst 1, 1) := by decide +kernel
theorem dX11_put_36 : decode cX11_put 36 = .ok (.iload_n 1, 1) := by decide +kernel
theorem dX11_put_37 : decode cX11_put 37 = .ok (.iconst 0, 1) := by decide +kernel
theorem dX11_put_38 : decode cX11_put 38 = .ok (.invokevirtual 193, 3) := by decide +kernel
theorem dX11_put_41 : decode cX11_put 41 = .ok (.aload_n 0, 1) := by decide +kernel
theorem dX11_put_42 : decode cX11_put 42 = .ok (.getfield 26, 3) := by decide +kernel
theorem dX11_put_45 : decode cX11_put 45 = .ok (.invokevirtual 122, 3) := by decide +kernel
theorem dX11_put_48 : decode cX11_put 48 = .ok (.ireturn, 1) := by decide +kernel
theorem dX11_take_0 : decode cX11_take 0 = .ok (.iload_n 1, 1) := by decide +kernel
theorem dX11_take_1 : decode cX11_take 1 = .ok (.invokestatic 174, 3) := by decide +kernel
theorem dX11_take_4 : decode cX11_take 4 = .ok (.ifCond .ne 5, 3) := by decide +kernel
theorem dX11_take_7 : decode cX11_take 7 = .ok (.iconst (-1), 1) := by decide +kernel
theorem dX11_take_8 : decode cX11_take 8 = .ok (.ireturn, 1) := by decide +kernel
theorem dX11_take_9 : decode cX11_take 9 = .ok (.aload_n 0, 1) := by decide +kernel
theorem dX11_take_10 : decode cX11_take 10 = .ok (.getfield 26, 3) := by decide +kernel
theorem dX11_take_13 : decode cX11_take 13 = .ok (.getfield 180, 3) := by decide +kernel
theorem dX11_take_16 : decode cX11_take 16 = .ok (.iload_n 1, 1) := by decide +kernel
theorem dX11_take_17 : decode cX11_take 17 = .ok (.iaload, 1) := by decide +kernel
theorem dX11_take_18 : decode cX11_take 18 = .ok (.ifCond .ne 6, 3) := by decide +kernel
theorem dX11_take_21 : decode cX11_take 21 = .ok (.bipush (-3), 2) := by decide +kernel
theorem dX11_take_23 : decode cX11_take 23 = .ok (.ireturn, 1) := by decide +kernel
theorem dX11_take_24 : decode cX11_take 24 = .ok (.aload_n 0, 1) := by decide +kernel
theorem dX11_take_25 : decode cX11_take 25 = .ok (.iconst 1, 1) := by decide +kernel
theorem dX11_take_26 : decode cX11_take 26 = .ok (.iload_n 1, 1) := by decide +kernel
theorem dX11_take_27 : decode cX11_take 27 = .ok (.iconst 0, 1) := by decide +kernel
theorem dX11_take_28 : decode cX11_take 28 = .ok (.invokevirtual 189, 3) := by decide +kernel
theorem dX11_take_31 : decode cX11_take 31 = .ok (.aload_n 0, 1) := by decide +kernel
theorem dX11_take_32 : decode cX11_take 32 = .ok (.getfield 44, 3) := by decide +kernel
theorem dX11_take_35 : decode cX11_take 35 = .ok (.iconst 0, 1) := by decide +kernel
theorem dX11_take_36 : decode cX11_take 36 = .ok (.iload_n 1, 1) := by decide +kernel
theorem dX11_take_37 : decode cX11_take 37 = .ok (.iconst 0, 1) := by decide +kernel
theorem dX11_take_38 : decode cX11_take 38 = .ok (.invokevirtual 193, 3) := by decide +kernel
theorem dX11_take_41 : decode cX11_take 41 = .ok (.aload_n 0, 1) := by decide +kernel
theorem dX11_take_42 : decode cX11_take 42 = .ok (.getfield 26, 3) := by decide +kernel
theorem dX11_take_45 : decode cX11_take 45 = .ok (.invokevirtual 122, 3) := by decide +kernel
theorem dX11_take_48 : decode cX11_take 48 = .ok (.ireturn, 1) := by decide +kernel
theorem dX11_bar_0 : decode cX11_bar 0 = .ok (.aload_n 0, 1) := by decide +kernel
theorem dX11_bar_1 : decode cX11_bar 1 = .ok (.getfield 19, 3) := by decide +kernel
theorem dX11_bar_4 : decode cX11_bar 4 = .ok (.iload_n 1, 1) := by decide +kernel
theorem dX11_bar_5 : decode cX11_bar 5 = .ok (.invokevirtual 149, 3) := by decide +kernel
theorem dX11_bar_8 : decode cX11_bar 8 = .ok (.ifCond .ne 5, 3) := by decide +kernel
theorem dX11_bar_11 : decode cX11_bar 11 = .ok (.iconst (-1), 1) := by decide +kernel
theorem dX11_bar_12 : decode cX11_bar 12 = .ok (.ireturn, 1) := by decide +kernel
theorem dX11_bar_13 : decode cX11_bar 13 = .ok (.aload_n 0, 1) := by decide +kernel
theorem dX11_bar_14 : decode cX11_bar 14 = .ok (.iconst 2, 1) := by decide +kernel
theorem dX11_bar_15 : decode cX11_bar 15 = .ok (.iload_n 1, 1) := by decide +kernel
theorem dX11_bar_16 : decode cX11_bar 16 = .ok (.iconst 0, 1) := by decide +kernel
theorem dX11_bar_17 : decode cX11_bar 17 = .ok (.invokevirtual 189, 3) := by decide +kernel
theorem dX11_bar_20 : decode cX11_bar 20 = .ok (.aload_n 0, 1) := by decide +kernel
theorem dX11_bar_21 : decode cX11_bar 21 = .ok (.getfield 44, 3) := by decide +kernel
theorem dX11_bar_24 : decode cX11_bar 24 = .ok (.iconst 2, 1) := by decide +kernel
theorem dX11_bar_25 : decode cX11_bar 25 = .ok (.iload_n 1, 1) := by decide +kernel
theorem dX11_bar_26 : decode cX11_bar 26 = .ok (.iconst 0, 1) := by decide +kernel
theorem dX11_bar_27 : decode cX11_bar 27 = .ok (.invokevirtual 193, 3) := by decide +kernel
theorem dX11_bar_30 : decode cX11_bar 30 = .ok (.aload_n 0, 1) := by decide +kernel
theorem dX11_bar_31 : decode cX11_bar 31 = .ok (.getfield 26, 3) := by decide +kernel
theorem dX11_bar_34 : decode cX11_bar 34 = .ok (.getfield 128, 3) := by decide +kernel
theorem dX11_bar_37 : decode cX11_bar 37 = .ok (.iload_n 1, 1) := by decide +kernel
theorem dX11_bar_38 : decode cX11_bar 38 = .ok (.ishr, 1) := by decide +kernel
theorem dX11_bar_39 : decode cX11_bar 39 = .ok (.iconst 1, 1) := by decide +kernel
theorem dX11_bar_40 : decode cX11_bar 40 = .ok (.iand, 1) := by decide +kernel
theorem dX11_bar_41 : decode cX11_bar 41 = .ok (.ireturn, 1) := by decide +kernel
theorem dX11_rank_0 : decode cX11_rank 0 = .ok (.aload_n 0, 1) := by decide +kernel
theorem dX11_rank_1 : decode cX11_rank 1 = .ok (.getfield 19, 3) := by decide +kernel
theorem dX11_rank_4 : decode cX11_rank 4 = .ok (.iload_n 1, 1) := by decide +kernel
theorem dX11_rank_5 : decode cX11_rank 5 = .ok (.invokevirtual 149, 3) := by decide +kernel
theorem dX11_rank_8 : decode cX11_rank 8 = .ok (.ifCond .ne 5, 3) := by decide +kernel
theorem dX11_rank_11 : decode cX11_rank 11 = .ok (.iconst (-1), 1) := by decide +kernel
theorem dX11_rank_12 : decode cX11_rank 12 = .ok (.ireturn, 1) := by decide +kernel
theorem dX11_rank_13 : decode cX11_rank 13 = .ok (.iload_n 2, 1) := by decide +kernel
theorem dX11_rank_14 : decode cX11_rank 14 = .ok (.ifCond .lt 9, 3) := by decide +kernel
theorem dX11_rank_17 : decode cX11_rank 17 = .ok (.iload_n 2, 1) := by decide +kernel
theorem dX11_rank_18 : decode cX11_rank 18 = .ok (.bipush 9, 2) := by decide +kernel
theorem dX11_rank_20 : decode cX11_rank 20 = .ok (.if_icmp .le 6, 3) := by decide +kernel
theorem dX11_rank_23 : decode cX11_rank 23 = .ok (.bipush (-2), 2) := by decide +kernel
theorem dX11_rank_25 : decode cX11_rank 25 = .ok (.ireturn, 1) := by decide +kernel
theorem dX11_rank_26 : decode cX11_rank 26 = .ok (.aload_n 0, 1) := by decide +kernel
theorem dX11_rank_27 : decode cX11_rank 27 = .ok (.getfield 26, 3) := by decide +kernel
theorem dX11_rank_30 : decode cX11_rank 30 = .ok (.getfield 158, 3) := by decide +kernel
theorem dX11_rank_33 : decode cX11_rank 33 = .ok (.iload_n 1, 1) := by decide +kernel
theorem dX11_rank_34 : decode cX11_rank 34 = .ok (.iaload, 1) := by decide +kernel
theorem dX11_rank_35 : decode cX11_rank 35 = .ok (.istore_n 3, 1) := by decide +kernel
theorem dX11_rank_36 : decode cX11_rank 36 = .ok (.aload_n 0, 1) := by decide +kernel
theorem dX11_rank_37 : decode cX11_rank 37 = .ok (.iconst 3, 1) := by decide +kernel
theorem dX11_rank_38 : decode cX11_rank 38 = .ok (.iload_n 1, 1) := by decide +kernel
theorem dX11_rank_39 : decode cX11_rank 39 = .ok (.iload_n 2, 1) := by decide +kernel
theorem dX11_rank_40 : decode cX11_rank 40 = .ok (.invokevirtual 189, 3) := by decide +kernel
theorem dX11_rank_43 : decode cX11_rank 43 = .ok (.aload_n 0, 1) := by decide +kernel
theorem dX11_rank_44 : decode cX11_rank 44 = .ok (.getfield 44, 3) := by decide +kernel
theorem dX11_rank_47 : decode cX11_rank 47 = .ok (.iconst 3, 1) := by decide +kernel
theorem dX11_rank_48 : decode cX11_rank 48 = .ok (.iload_n 1, 1) := by decide +kernel
theorem dX11_rank_49 : decode cX11_rank 49 = .ok (.iload_n 3, 1) := by decide +kernel
theorem dX11_rank_50 : decode cX11_rank 50 = .ok (.invokevirtual 193, 3) := by decide +kernel
theorem dX11_rank_53 : decode cX11_rank 53 = .ok (.iload_n 3, 1) := by decide +kernel
theorem dX11_rank_54 : decode cX11_rank 54 = .ok (.ireturn, 1) := by decide +kernel
theorem dX11_allow_0 : decode cX11_allow 0 = .ok (.iload_n 2, 1) := by decide +kernel
theorem dX11_allow_1 : decode cX11_allow 1 = .ok (.invokestatic 177, 3) := by decide +kernel
theorem dX11_allow_4 : decode cX11_allow 4 = .ok (.ifCond .eq 10, 3) := by decide +kernel
theorem dX11_allow_7 : decode cX11_allow 7 = .ok (.iload_n 3, 1) := by decide +kernel
theorem dX11_allow_8 : decode cX11_allow 8 = .ok (.invokestatic 177, 3) := by decide +kernel
theorem dX11_allow_11 : decode cX11_allow 11 = .ok (.ifCond .ne 5, 3) := by decide +kernel
theorem dX11_allow_14 : decode cX11_allow 14 = .ok (.iconst (-1), 1) := by decide +kernel
theorem dX11_allow_15 : decode cX11_allow 15 = .ok (.ireturn, 1) := by decide +kernel
theorem dX11_allow_16 : decode cX11_allow 16 = .ok (.iload_n 1, 1) := by decide +kernel
theorem dX11_allow_17 : decode cX11_allow 17 = .ok (.ifCond .lt 8, 3) := by decide +kernel
theorem dX11_allow_20 : decode cX11_allow 20 = .ok (.iload_n 1, 1) := by decide +kernel
theorem dX11_allow_21 : decode cX11_allow 21 = .ok (.iconst 2, 1) := by decide +kernel
theorem dX11_allow_22 : decode cX11_allow 22 = .ok (.if_icmp .le 6, 3) := by decide +kernel
theorem dX11_allow_25 : decode cX11_allow 25 = .ok (.bipush (-2), 2) := by decide +kernel
theorem dX11_allow_27 : decode cX11_allow 27 = .ok (.ireturn, 1) := by decide +kernel
theorem dX11_allow_28 : decode cX11_allow 28 = .ok (.aload_n 0, 1) := by decide +kernel
theorem dX11_allow_29 : decode cX11_allow 29 = .ok (.iconst 4, 1) := by decide +kernel
theorem dX11_allow_30 : decode cX11_allow 30 = .ok (.iload_n 1, 1) := by decide +kernel
theorem dX11_allow_31 : decode cX11_allow 31 = .ok (.iadd, 1) := by decide +kernel
theorem dX11_allow_32 : decode cX11_allow 32 = .ok (.iload_n 2, 1) := by decide +kernel
theorem dX11_allow_33 : decode cX11_allow 33 = .ok (.iload_n 3, 1) := by decide +kernel
theorem dX11_allow_34 : decode cX11_allow 34 = .ok (.invokevirtual 189, 3) := by decide +kernel
theorem dX11_allow_37 : decode cX11_allow 37 = .ok (.aload_n 0, 1) := by decide +kernel
theorem dX11_allow_38 : decode cX11_allow 38 = .ok (.getfield 44, 3) := by decide +kernel
theorem dX11_allow_41 : decode cX11_allow 41 = .ok (.iconst 4, 1) := by decide +kernel
theorem dX11_allow_42 : decode cX11_allow 42 = .ok (.iload_n 1, 1) := by decide +kernel
theorem dX11_allow_43 : decode cX11_allow 43 = .ok (.iadd, 1) := by decide +kernel
theorem dX11_allow_44 : decode cX11_allow 44 = .ok (.iload_n 2, 1) := by decide +kernel
theorem dX11_allow_45 : decode cX11_allow 45 = .ok (.iload_n 3, 1) := by decide +kernel
theorem dX11_allow_46 : decode cX11_allow 46 = .ok (.invokevirtual 193, 3) := by decide +kernel
theorem dX11_allow_49 : decode cX11_allow 49 = .ok (.iload_n 1, 1) := by decide +kernel
theorem dX11_allow_50 : decode cX11_allow 50 = .ok (.lookupswitch 50 #[(0, 26), (1, 38)], 26) := by decide +kernel
theorem dX11_allow_76 : decode cX11_allow 76 = .ok (.aload_n 0, 1) := by decide +kernel
theorem dX11_allow_77 : decode cX11_allow 77 = .ok (.getfield 26, 3) := by decide +kernel
theorem dX11_allow_80 : decode cX11_allow 80 = .ok (.getfield 131, 3) := by decide +kernel
theorem dX11_allow_83 : decode cX11_allow 83 = .ok (.iload_n 2, 1) := by decide +kernel
theorem dX11_allow_84 : decode cX11_allow 84 = .ok (.ishr, 1) := by decide +kernel
theorem dX11_allow_85 : decode cX11_allow 85 = .ok (.iconst 1, 1) := by decide +kernel
theorem dX11_allow_86 : decode cX11_allow 86 = .ok (.iand, 1) := by decide +kernel
theorem dX11_allow_87 : decode cX11_allow 87 = .ok (.ireturn, 1) := by decide +kernel
theorem dX11_allow_88 : decode cX11_allow 88 = .ok (.aload_n 0, 1) := by decide +kernel
theorem dX11_allow_89 : decode cX11_allow 89 = .ok (.getfield 26, 3) := by decide +kernel
theorem dX11_allow_92 : decode cX11_allow 92 = .ok (.getfield 134, 3) := by decide +kernel
theorem dX11_allow_95 : decode cX11_allow 95 = .ok (.iload_n 2, 1) := by decide +kernel
theorem dX11_allow_96 : decode cX11_allow 96 = .ok (.ishr, 1) := by decide +kernel
theorem dX11_allow_97 : decode cX11_allow 97 = .ok (.iconst 1, 1) := by decide +kernel
theorem dX11_allow_98 : decode cX11_allow 98 = .ok (.iand, 1) := by decide +kernel
theorem dX11_allow_99 : decode cX11_allow 99 = .ok (.ireturn, 1) := by decide +kernel
theorem dX11_allow_100 : decode cX11_allow 100 = .ok (.aload_n 0, 1) := by decide +kernel
theorem dX11_allow_101 : decode cX11_allow 101 = .ok (.getfield 26, 3) := by decide +kernel
theorem dX11_allow_104 : decode cX11_allow 104 = .ok (.getfield 186, 3) := by decide +kernel
theorem dX11_allow_107 : decode cX11_allow 107 = .ok (.iload_n 2, 1) := by decide +kernel
theorem dX11_allow_108 : decode cX11_allow 108 = .ok (.iaload, 1) := by decide +kernel
theorem dX11_allow_109 : decode cX11_allow 109 = .ok (.iload_n 3, 1) := by decide +kernel
theorem dX11_allow_110 : decode cX11_allow 110 = .ok (.ishr, 1) := by decide +kernel
theorem dX11_allow_111 : decode cX11_allow 111 = .ok (.iconst 1, 1) := by decide +kernel
theorem dX11_allow_112 : decode cX11_allow 112 = .ok (.iand, 1) := by decide +kernel
theorem dX11_allow_113 : decode cX11_allow 113 = .ok (.ireturn, 1) := by decide +kernel
theorem dX11_undo_0 : decode cX11_undo 0 = .ok (.aload_n 0, 1) := by decide +kernel
theorem dX11_undo_1 : decode cX11_undo 1 = .ok (.getfield 44, 3) := by decide +kernel
theorem dX11_undo_4 : decode cX11_undo 4 = .ok (.aload_n 0, 1) := by decide +kernel
theorem dX11_undo_5 : decode cX11_undo 5 = .ok (.getfield 26, 3) := by decide +kernel
theorem dX11_undo_8 : decode cX11_undo 8 = .ok (.invokevirtual 196, 3) := by decide +kernel
theorem dX11_undo_11 : decode cX11_undo 11 = .ok (.ifCond .ne 6, 3) := by decide +kernel
theorem dX11_undo_14 : decode cX11_undo 14 = .ok (.bipush (-3), 2) := by decide +kernel
theorem dX11_undo_16 : decode cX11_undo 16 = .ok (.ireturn, 1) := by decide +kernel
theorem dX11_undo_17 : decode cX11_undo 17 = .ok (.aload_n 0, 1) := by decide +kernel
theorem dX11_undo_18 : decode cX11_undo 18 = .ok (.invokevirtual 116, 3) := by decide +kernel
theorem dX11_undo_21 : decode cX11_undo 21 = .ok (.aload_n 0, 1) := by decide +kernel
theorem dX11_undo_22 : decode cX11_undo 22 = .ok (.getfield 44, 3) := by decide +kernel
theorem dX11_undo_25 : decode cX11_undo 25 = .ok (.getfield 115, 3) := by decide +kernel
theorem dX11_undo_28 : decode cX11_undo 28 = .ok (.ireturn, 1) := by decide +kernel
theorem dX11_many_0 : decode cX11_many 0 = .ok (.iload_n 1, 1) := by decide +kernel
theorem dX11_many_1 : decode cX11_many 1 = .ok (.ifCond .lt 9, 3) := by decide +kernel
theorem dX11_many_4 : decode cX11_many 4 = .ok (.iload_n 1, 1) := by decide +kernel
theorem dX11_many_5 : decode cX11_many 5 = .ok (.bipush 12, 2) := by decide +kernel
theorem dX11_many_7 : decode cX11_many 7 = .ok (.if_icmp .le 7, 3) := by decide +kernel
theorem dX11_many_10 : decode cX11_many 10 = .ok (.ldc2_w 200, 3) := by decide +kernel
theorem dX11_many_13 : decode cX11_many 13 = .ok (.lreturn, 1) := by decide +kernel
theorem dX11_many_14 : decode cX11_many 14 = .ok (.iload_n 1, 1) := by decide +kernel
theorem dX11_many_15 : decode cX11_many 15 = .ok (.ifCond .ne 13, 3) := by decide +kernel
theorem dX11_many_18 : decode cX11_many 18 = .ok (.aload_n 0, 1) := by decide +kernel
theorem dX11_many_19 : decode cX11_many 19 = .ok (.getfield 53, 3) := by decide +kernel
theorem dX11_many_22 : decode cX11_many 22 = .ok (.invokevirtual 202, 3) := by decide +kernel
theorem dX11_many_25 : decode cX11_many 25 = .ok (.goto 11, 3) := by decide +kernel
theorem dX11_many_28 : decode cX11_many 28 = .ok (.aload_n 0, 1) := by decide +kernel
theorem dX11_many_29 : decode cX11_many 29 = .ok (.getfield 53, 3) := by decide +kernel
theorem dX11_many_32 : decode cX11_many 32 = .ok (.iload_n 1, 1) := by decide +kernel
theorem dX11_many_33 : decode cX11_many 33 = .ok (.invokevirtual 205, 3) := by decide +kernel
theorem dX11_many_36 : decode cX11_many 36 = .ok (.lreturn, 1) := by decide +kernel
theorem dX11_having_0 : decode cX11_having 0 = .ok (.aload_n 0, 1) := by decide +kernel
theorem dX11_having_1 : decode cX11_having 1 = .ok (.getfield 19, 3) := by decide +kernel
theorem dX11_having_4 : decode cX11_having 4 = .ok (.iload_n 1, 1) := by decide +kernel
theorem dX11_having_5 : decode cX11_having 5 = .ok (.invokevirtual 149, 3) := by decide +kernel
theorem dX11_having_8 : decode cX11_having 8 = .ok (.ifCond .ne 7, 3) := by decide +kernel
theorem dX11_having_11 : decode cX11_having 11 = .ok (.ldc2_w 209, 3) := by decide +kernel
theorem dX11_having_14 : decode cX11_having 14 = .ok (.lreturn, 1) := by decide +kernel
theorem dX11_having_15 : decode cX11_having 15 = .ok (.aload_n 0, 1) := by decide +kernel
theorem dX11_having_16 : decode cX11_having 16 = .ok (.getfield 53, 3) := by decide +kernel
theorem dX11_having_19 : decode cX11_having 19 = .ok (.invokevirtual 202, 3) := by decide +kernel
theorem dX11_having_22 : decode cX11_having 22 = .ok (.aload_n 0, 1) := by decide +kernel
theorem dX11_having_23 : decode cX11_having 23 = .ok (.getfield 53, 3) := by decide +kernel
theorem dX11_having_26 : decode cX11_having 26 = .ok (.sipush 1023, 3) := by decide +kernel
theorem dX11_having_29 : decode cX11_having 29 = .ok (.iconst 1, 1) := by decide +kernel
theorem dX11_having_30 : decode cX11_having 30 = .ok (.iload_n 1, 1) := by decide +kernel
theorem dX11_having_31 : decode cX11_having 31 = .ok (.ishl, 1) := by decide +kernel
theorem dX11_having_32 : decode cX11_having 32 = .ok (.iconst (-1), 1) := by decide +kernel
theorem dX11_having_33 : decode cX11_having 33 = .ok (.ixor, 1) := by decide +kernel
theorem dX11_having_34 : decode cX11_having 34 = .ok (.iand, 1) := by decide +kernel
theorem dX11_having_35 : decode cX11_having 35 = .ok (.invokevirtual 211, 3) := by decide +kernel
theorem dX11_having_38 : decode cX11_having 38 = .ok (.lsub, 1) := by decide +kernel
theorem dX11_having_39 : decode cX11_having 39 = .ok (.lreturn, 1) := by decide +kernel
theorem dX11_best_0 : decode cX11_best 0 = .ok (.iload_n 1, 1) := by decide +kernel
theorem dX11_best_1 : decode cX11_best 1 = .ok (.ifCond .lt 9, 3) := by decide +kernel
theorem dX11_best_4 : decode cX11_best 4 = .ok (.iload_n 1, 1) := by decide +kernel
theorem dX11_best_5 : decode cX11_best 5 = .ok (.bipush 13, 2) := by decide +kernel
theorem dX11_best_7 : decode cX11_best 7 = .ok (.if_icmp .le 6, 3) := by decide +kernel
theorem dX11_best_10 : decode cX11_best 10 = .ok (.bipush (-2), 2) := by decide +kernel
theorem dX11_best_12 : decode cX11_best 12 = .ok (.ireturn, 1) := by decide +kernel
theorem dX11_best_13 : decode cX11_best 13 = .ok (.aload_n 0, 1) := by decide +kernel
theorem dX11_best_14 : decode cX11_best 14 = .ok (.getfield 53, 3) := by decide +kernel
theorem dX11_best_17 : decode cX11_best 17 = .ok (.invokevirtual 214, 3) := by decide +kernel
theorem dX11_best_20 : decode cX11_best 20 = .ok (.ifCond .ne 6, 3) := by decide +kernel
theorem dX11_best_23 : decode cX11_best 23 = .ok (.bipush (-9), 2) := by decide +kernel
theorem dX11_best_25 : decode cX11_best 25 = .ok (.ireturn, 1) := by decide +kernel
theorem dX11_best_26 : decode cX11_best 26 = .ok (.iload_n 1, 1) := by decide +kernel
theorem dX11_best_27 : decode cX11_best 27 = .ok (.lookupswitch 41 #[(0, 25), (1, 33)], 25) := by decide +kernel
theorem dX11_best_52 : decode cX11_best 52 = .ok (.aload_n 0, 1) := by decide +kernel
theorem dX11_best_53 : decode cX11_best 53 = .ok (.getfield 53, 3) := by decide +kernel
theorem dX11_best_56 : decode cX11_best 56 = .ok (.invokevirtual 218, 3) := by decide +kernel
theorem dX11_best_59 : decode cX11_best 59 = .ok (.ireturn, 1) := by decide +kernel
theorem dX11_best_60 : decode cX11_best 60 = .ok (.aload_n 0, 1) := by decide +kernel
theorem dX11_best_61 : decode cX11_best 61 = .ok (.getfield 53, 3) := by decide +kernel
theorem dX11_best_64 : decode cX11_best 64 = .ok (.getfield 221, 3) := by decide +kernel
theorem dX11_best_67 : decode cX11_best 67 = .ok (.ireturn, 1) := by decide +kernel
theorem dX11_best_68 : decode cX11_best 68 = .ok (.aload_n 0, 1) := by decide +kernel
theorem dX11_best_69 : decode cX11_best 69 = .ok (.getfield 53, 3) := by decide +kernel
theorem dX11_best_72 : decode cX11_best 72 = .ok (.iload_n 1, 1) := by decide +kernel
theorem dX11_best_73 : decode cX11_best 73 = .ok (.iconst 2, 1) := by decide +kernel
theorem dX11_best_74 : decode cX11_best 74 = .ok (.isub, 1) := by decide +kernel
theorem dX11_best_75 : decode cX11_best 75 = .ok (.invokevirtual 224, 3) := by decide +kernel
theorem dX11_best_78 : decode cX11_best 78 = .ok (.ireturn, 1) := by decide +kernel
theorem dX11_phrase_0 : decode cX11_phrase 0 = .ok (.lload_n 1, 1) := by decide +kernel
theorem dX11_phrase_1 : decode cX11_phrase 1 = .ok (.lconst 0, 1) := by decide +kernel
theorem dX11_phrase_2 : decode cX11_phrase 2 = .ok (.lcmp, 1) := by decide +kernel
theorem dX11_phrase_3 : decode cX11_phrase 3 = .ok (.ifCond .lt 15, 3) := by decide +kernel
theorem dX11_phrase_6 : decode cX11_phrase 6 = .ok (.lload_n 1, 1) := by decide +kernel
theorem dX11_phrase_7 : decode cX11_phrase 7 = .ok (.aload_n 0, 1) := by decide +kernel
theorem dX11_phrase_8 : decode cX11_phrase 8 = .ok (.getfield 53, 3) := by decide +kernel
theorem dX11_phrase_11 : decode cX11_phrase 11 = .ok (.invokevirtual 202, 3) := by decide +kernel
theorem dX11_phrase_14 : decode cX11_phrase 14 = .ok (.lcmp, 1) := by decide +kernel
theorem dX11_phrase_15 : decode cX11_phrase 15 = .ok (.ifCond .lt 5, 3) := by decide +kernel
theorem dX11_phrase_18 : decode cX11_phrase 18 = .ok (.iconst (-1), 1) := by decide +kernel
theorem dX11_phrase_19 : decode cX11_phrase 19 = .ok (.ireturn, 1) := by decide +kernel
theorem dX11_phrase_20 : decode cX11_phrase 20 = .ok (.iload_n 3, 1) := by decide +kernel
theorem dX11_phrase_21 : decode cX11_phrase 21 = .ok (.ifCond .lt 9, 3) := by decide +kernel
theorem dX11_phrase_24 : decode cX11_phrase 24 = .ok (.iload_n 3, 1) := by decide +kernel
theorem dX11_phrase_25 : decode cX11_phrase 25 = .ok (.bipush 13, 2) := by decide +kernel
theorem dX11_phrase_27 : decode cX11_phrase 27 = .ok (.if_icmp .le 6, 3) := by decide +kernel
theorem dX11_phrase_30 : decode cX11_phrase 30 = .ok (.bipush (-2), 2) := by decide +kernel
theorem dX11_phrase_32 : decode cX11_phrase 32 = .ok (.ireturn, 1) := by decide +kernel
theorem dX11_phrase_33 : decode cX11_phrase 33 = .ok (.aload_n 0, 1) := by decide +kernel
theorem dX11_phrase_34 : decode cX11_phrase 34 = .ok (.getfield 53, 3) := by decide +kernel
theorem dX11_phrase_37 : decode cX11_phrase 37 = .ok (.lload_n 1, 1) := by decide +kernel
theorem dX11_phrase_38 : decode cX11_phrase 38 = .ok (.invokevirtual 227, 3) := by decide +kernel
theorem dX11_phrase_41 : decode cX11_phrase 41 = .ok (.iload_n 3, 1) := by decide +kernel
theorem dX11_phrase_42 : decode cX11_phrase 42 = .ok (.ifCond .ne 11, 3) := by decide +kernel
theorem dX11_phrase_45 : decode cX11_phrase 45 = .ok (.aload_n 0, 1) := by decide +kernel
theorem dX11_phrase_46 : decode cX11_phrase 46 = .ok (.getfield 53, 3) := by decide +kernel
theorem dX11_phrase_49 : decode cX11_phrase 49 = .ok (.getfield 221, 3) := by decide +kernel
theorem dX11_phrase_52 : decode cX11_phrase 52 = .ok (.ireturn, 1) := by decide +kernel
theorem dX11_phrase_53 : decode cX11_phrase 53 = .ok (.iload_n 3, 1) := by decide +kernel
theorem dX11_phrase_54 : decode cX11_phrase 54 = .ok (.bipush 12, 2) := by decide +kernel
theorem dX11_phrase_56 : decode cX11_phrase 56 = .ok (.if_icmp .le 13, 3) := by decide +kernel
theorem dX11_phrase_59 : decode cX11_phrase 59 = .ok (.aload_n 0, 1) := by decide +kernel
theorem dX11_phrase_60 : decode cX11_phrase 60 = .ok (.getfield 53, 3) := by decide +kernel
theorem dX11_phrase_63 : decode cX11_phrase 63 = .ok (.invokevirtual 218, 3) := by decide +kernel
theorem dX11_phrase_66 : decode cX11_phrase 66 = .ok (.goto 13, 3) := by decide +kernel
theorem dX11_phrase_69 : decode cX11_phrase 69 = .ok (.aload_n 0, 1) := by decide +kernel
theorem dX11_phrase_70 : decode cX11_phrase 70 = .ok (.getfield 53, 3) := by decide +kernel
theorem dX11_phrase_73 : decode cX11_phrase 73 = .ok (.iload_n 3, 1) := by decide +kernel
theorem dX11_phrase_74 : decode cX11_phrase 74 = .ok (.iconst 1, 1) := by decide +kernel
theorem dX11_phrase_75 : decode cX11_phrase 75 = .ok (.isub, 1) := by decide +kernel
theorem dX11_phrase_76 : decode cX11_phrase 76 = .ok (.invokevirtual 224, 3) := by decide +kernel
theorem dX11_phrase_79 : decode cX11_phrase 79 = .ok (.ireturn, 1) := by decide +kernel
theorem dX11_tell_0 : decode cX11_tell 0 = .ok (.aload_n 0, 1) := by decide +kernel
theorem dX11_tell_1 : decode cX11_tell 1 = .ok (.getfield 19, 3) := by decide +kernel
theorem dX11_tell_4 : decode cX11_tell 4 = .ok (.iload_n 1, 1) := by decide +kernel
theorem dX11_tell_5 : decode cX11_tell 5 = .ok (.invokevirtual 149, 3) := by decide +kernel
theorem dX11_tell_8 : decode cX11_tell 8 = .ok (.ifCond .ne 5, 3) := by decide +kernel
theorem dX11_tell_11 : decode cX11_tell 11 = .ok (.iconst (-1), 1) := by decide +kernel
theorem dX11_tell_12 : decode cX11_tell 12 = .ok (.ireturn, 1) := by decide +kernel
theorem dX11_tell_13 : decode cX11_tell 13 = .ok (.aload_n 0, 1) := by decide +kernel
theorem dX11_tell_14 : decode cX11_tell 14 = .ok (.getfield 82, 3) := by decide +kernel
theorem dX11_tell_17 : decode cX11_tell 17 = .ok (.bipush 12, 2) := by decide +kernel
theorem dX11_tell_19 : decode cX11_tell 19 = .ok (.if_icmp .lt 6, 3) := by decide +kernel
theorem dX11_tell_22 : decode cX11_tell 22 = .ok (.bipush (-4), 2) := by decide +kernel
theorem dX11_tell_24 : decode cX11_tell 24 = .ok (.ireturn, 1) := by decide +kernel
theorem dX11_tell_25 : decode cX11_tell 25 = .ok (.aload_n 0, 1) := by decide +kernel
theorem dX11_tell_26 : decode cX11_tell 26 = .ok (.getfield 66, 3) := by decide +kernel
theorem dX11_tell_29 : decode cX11_tell 29 = .ok (.aload_n 0, 1) := by decide +kernel
theorem dX11_tell_30 : decode cX11_tell 30 = .ok (.getfield 82, 3) := by decide +kernel
theorem dX11_tell_33 : decode cX11_tell 33 = .ok (.iload_n 1, 1) := by decide +kernel
theorem dX11_tell_34 : decode cX11_tell 34 = .ok (.iastore, 1) := by decide +kernel
theorem dX11_tell_35 : decode cX11_tell 35 = .ok (.aload_n 0, 1) := by decide +kernel
theorem dX11_tell_36 : decode cX11_tell 36 = .ok (.dup, 1) := by decide +kernel
theorem dX11_tell_37 : decode cX11_tell 37 = .ok (.getfield 82, 3) := by decide +kernel
theorem dX11_tell_40 : decode cX11_tell 40 = .ok (.iconst 1, 1) := by decide +kernel
theorem dX11_tell_41 : decode cX11_tell 41 = .ok (.iadd, 1) := by decide +kernel
theorem dX11_tell_42 : decode cX11_tell 42 = .ok (.putfield 82, 3) := by decide +kernel
theorem dX11_tell_45 : decode cX11_tell 45 = .ok (.aload_n 0, 1) := by decide +kernel
theorem dX11_tell_46 : decode cX11_tell 46 = .ok (.getfield 82, 3) := by decide +kernel
theorem dX11_tell_49 : decode cX11_tell 49 = .ok (.ireturn, 1) := by decide +kernel
theorem dX11_clear_0 : decode cX11_clear 0 = .ok (.aload_n 0, 1) := by decide +kernel
theorem dX11_clear_1 : decode cX11_clear 1 = .ok (.getfield 82, 3) := by decide +kernel
theorem dX11_clear_4 : decode cX11_clear 4 = .ok (.istore_n 1, 1) := by decide +kernel
theorem dX11_clear_5 : decode cX11_clear 5 = .ok (.aload_n 0, 1) := by decide +kernel
theorem dX11_clear_6 : decode cX11_clear 6 = .ok (.iconst 0, 1) := by decide +kernel
theorem dX11_clear_7 : decode cX11_clear 7 = .ok (.putfield 82, 3) := by decide +kernel
theorem dX11_clear_10 : decode cX11_clear 10 = .ok (.iload_n 1, 1) := by decide +kernel
theorem dX11_clear_11 : decode cX11_clear 11 = .ok (.ireturn, 1) := by decide +kernel
theorem dX11_why_0 : decode cX11_why 0 = .ok (.iload_n 1, 1) := by decide +kernel
theorem dX11_why_1 : decode cX11_why 1 = .ok (.ifCond .lt 8, 3) := by decide +kernel
theorem dX11_why_4 : decode cX11_why 4 = .ok (.iload_n 1, 1) := by decide +kernel
theorem dX11_why_5 : decode cX11_why 5 = .ok (.iconst 3, 1) := by decide +kernel
theorem dX11_why_6 : decode cX11_why 6 = .ok (.if_icmp .le 6, 3) := by decide +kernel
theorem dX11_why_9 : decode cX11_why 9 = .ok (.bipush (-2), 2) := by decide +kernel
theorem dX11_why_11 : decode cX11_why 11 = .ok (.ireturn, 1) := by decide +kernel
theorem dX11_why_12 : decode cX11_why 12 = .ok (.aload_n 0, 1) := by decide +kernel
theorem dX11_why_13 : decode cX11_why 13 = .ok (.invokevirtual 231, 3) := by decide +kernel
theorem dX11_why_16 : decode cX11_why 16 = .ok (.aload_n 0, 1) := by decide +kernel
theorem dX11_why_17 : decode cX11_why 17 = .ok (.getfield 73, 3) := by decide +kernel
theorem dX11_why_20 : decode cX11_why 20 = .ok (.iload_n 1, 1) := by decide +kernel
theorem dX11_why_21 : decode cX11_why 21 = .ok (.iaload, 1) := by decide +kernel
theorem dX11_why_22 : decode cX11_why 22 = .ok (.ireturn, 1) := by decide +kernel
theorem dX11_number_0 : decode cX11_number 0 = .ok (.aload_n 0, 1) := by decide +kernel
theorem dX11_number_1 : decode cX11_number 1 = .ok (.invokevirtual 231, 3) := by decide +kernel
theorem dX11_number_4 : decode cX11_number 4 = .ok (.aload_n 0, 1) := by decide +kernel
theorem dX11_number_5 : decode cX11_number 5 = .ok (.getfield 73, 3) := by decide +kernel
theorem dX11_number_8 : decode cX11_number 8 = .ok (.iconst 0, 1) := by decide +kernel
theorem dX11_number_9 : decode cX11_number 9 = .ok (.iaload, 1) := by decide +kernel
theorem dX11_number_10 : decode cX11_number 10 = .ok (.ifCond .ne 21, 3) := by decide +kernel
theorem dX11_number_13 : decode cX11_number 13 = .ok (.aload_n 0, 1) := by decide +kernel
theorem dX11_number_14 : decode cX11_number 14 = .ok (.getfield 53, 3) := by decide +kernel
theorem dX11_number_17 : decode cX11_number 17 = .ok (.aload_n 0, 1) := by decide +kernel
theorem dX11_number_18 : decode cX11_number 18 = .ok (.getfield 66, 3) := by decide +kernel
theorem dX11_number_21 : decode cX11_number 21 = .ok (.aload_n 0, 1) := by decide +kernel
theorem dX11_number_22 : decode cX11_number 22 = .ok (.getfield 82, 3) := by decide +kernel
theorem dX11_number_25 : decode cX11_number 25 = .ok (.invokevirtual 234, 3) := by decide +kernel
theorem dX11_number_28 : decode cX11_number 28 = .ok (.goto 6, 3) := by decide +kernel
theorem dX11_number_31 : decode cX11_number 31 = .ok (.ldc2_w 238, 3) := by decide +kernel
theorem dX11_number_34 : decode cX11_number 34 = .ok (.lreturn, 1) := by decide +kernel
theorem dX11_nearly_0 : decode cX11_nearly 0 = .ok (.iload_n 1, 1) := by decide +kernel
theorem dX11_nearly_1 : decode cX11_nearly 1 = .ok (.lookupswitch 41 #[(0, 27), (1, 34)], 27) := by decide +kernel
theorem dX11_nearly_28 : decode cX11_nearly 28 = .ok (.aload_n 0, 1) := by decide +kernel
theorem dX11_nearly_29 : decode cX11_nearly 29 = .ok (.iconst 0, 1) := by decide +kernel
theorem dX11_nearly_30 : decode cX11_nearly 30 = .ok (.iconst 1, 1) := by decide +kernel
theorem dX11_nearly_31 : decode cX11_nearly 31 = .ok (.invokevirtual 240, 3) := by decide +kernel
theorem dX11_nearly_34 : decode cX11_nearly 34 = .ok (.ireturn, 1) := by decide +kernel
theorem dX11_nearly_35 : decode cX11_nearly 35 = .ok (.aload_n 0, 1) := by decide +kernel
theorem dX11_nearly_36 : decode cX11_nearly 36 = .ok (.iconst 1, 1) := by decide +kernel
theorem dX11_nearly_37 : decode cX11_nearly 37 = .ok (.iconst 0, 1) := by decide +kernel
theorem dX11_nearly_38 : decode cX11_nearly 38 = .ok (.invokevirtual 240, 3) := by decide +kernel
theorem dX11_nearly_41 : decode cX11_nearly 41 = .ok (.ireturn, 1) := by decide +kernel
theorem dX11_nearly_42 : decode cX11_nearly 42 = .ok (.bipush (-2), 2) := by decide +kernel
theorem dX11_nearly_44 : decode cX11_nearly 44 = .ok (.ireturn, 1) := by decide +kernel
theorem dX11_judge_0 : decode cX11_judge 0 = .ok (.iload_n 1, 1) := by decide +kernel
theorem dX11_judge_1 : decode cX11_judge 1 = .ok (.iconst 1, 1) := by decide +kernel
theorem dX11_judge_2 : decode cX11_judge 2 = .ok (.if_icmp .lt 14, 3) := by decide +kernel
theorem dX11_judge_5 : decode cX11_judge 5 = .ok (.iload_n 1, 1) := by decide +kernel
theorem dX11_judge_6 : decode cX11_judge 6 = .ok (.iconst 4, 1) := by decide +kernel
theorem dX11_judge_7 : decode cX11_judge 7 = .ok (.if_icmp .gt 9, 3) := by decide +kernel
theorem dX11_judge_10 : decode cX11_judge 10 = .ok (.lload_n 2, 1) := by decide +kernel
theorem dX11_judge_11 : decode cX11_judge 11 = .ok (.lconst 0, 1) := by decide +kernel
theorem dX11_judge_12 : decode cX11_judge 12 = .ok (.lcmp, 1) := by decide +kernel
theorem dX11_judge_13 : decode cX11_judge 13 = .ok (.ifCond .ge 6, 3) := by decide +kernel
theorem dX11_judge_16 : decode cX11_judge 16 = .ok (.bipush (-2), 2) := by decide +kernel
theorem dX11_judge_18 : decode cX11_judge 18 = .ok (.ireturn, 1) := by decide +kernel
theorem dX11_judge_19 : decode cX11_judge 19 = .ok (.lload_n 2, 1) := by decide +kernel
theorem dX11_judge_20 : decode cX11_judge 20 = .ok (.lstore 4, 2) := by decide +kernel
theorem dX11_judge_22 : decode cX11_judge 22 = .ok (.iload_n 1, 1) := by decide +kernel
theorem dX11_judge_23 : decode cX11_judge 23 = .ok (.iconst 1, 1) := by decide +kernel
theorem dX11_judge_24 : decode cX11_judge 24 = .ok (.isub, 1) := by decide +kernel
theorem dX11_judge_25 : decode cX11_judge 25 = .ok (.istore 6, 2) := by decide +kernel
theorem dX11_judge_27 : decode cX11_judge 27 = .ok (.iload 6, 2) := by decide +kernel
theorem dX11_judge_29 : decode cX11_judge 29 = .ok (.ifCond .lt 31, 3) := by decide +kernel
theorem dX11_judge_32 : decode cX11_judge 32 = .ok (.aload_n 0, 1) := by decide +kernel
theorem dX11_judge_33 : decode cX11_judge 33 = .ok (.getfield 70, 3) := by decide +kernel
theorem dX11_judge_36 : decode cX11_judge 36 = .ok (.iload 6, 2) := by decide +kernel
theorem dX11_judge_38 : decode cX11_judge 38 = .ok (.lload 4, 2) := by decide +kernel
theorem dX11_judge_40 : decode cX11_judge 40 = .ok (.ldc2_w 244, 3) := by decide +kernel
theorem dX11_judge_43 : decode cX11_judge 43 = .ok (.lrem, 1) := by decide +kernel
theorem dX11_judge_44 : decode cX11_judge 44 = .ok (.l2i, 1) := by decide +kernel
theorem dX11_judge_45 : decode cX11_judge 45 = .ok (.iastore, 1) := by decide +kernel
theorem dX11_judge_46 : decode cX11_judge 46 = .ok (.lload 4, 2) := by decide +kernel
theorem dX11_judge_48 : decode cX11_judge 48 = .ok (.ldc2_w 244, 3) := by decide +kernel
theorem dX11_judge_51 : decode cX11_judge 51 = .ok (.ldiv, 1) := by decide +kernel
theorem dX11_judge_52 : decode cX11_judge 52 = .ok (.lstore 4, 2) := by decide +kernel
theorem dX11_judge_54 : decode cX11_judge 54 = .ok (.iinc 6 (-1), 3) := by decide +kernel
theorem dX11_judge_57 : decode cX11_judge 57 = .ok (.goto (-30), 3) := by decide +kernel
theorem dX11_judge_60 : decode cX11_judge 60 = .ok (.lload 4, 2) := by decide +kernel
theorem dX11_judge_62 : decode cX11_judge 62 = .ok (.lconst 0, 1) := by decide +kernel
theorem dX11_judge_63 : decode cX11_judge 63 = .ok (.lcmp, 1) := by decide +kernel
theorem dX11_judge_64 : decode cX11_judge 64 = .ok (.ifCond .eq 6, 3) := by decide +kernel
theorem dX11_judge_67 : decode cX11_judge 67 = .ok (.bipush (-2), 2) := by decide +kernel
theorem dX11_judge_69 : decode cX11_judge 69 = .ok (.ireturn, 1) := by decide +kernel
theorem dX11_judge_70 : decode cX11_judge 70 = .ok (.aload_n 0, 1) := by decide +kernel
theorem dX11_judge_71 : decode cX11_judge 71 = .ok (.getfield 30, 3) := by decide +kernel
theorem dX11_judge_74 : decode cX11_judge 74 = .ok (.aload_n 0, 1) := by decide +kernel
theorem dX11_judge_75 : decode cX11_judge 75 = .ok (.getfield 26, 3) := by decide +kernel
theorem dX11_judge_78 : decode cX11_judge 78 = .ok (.invokevirtual 112, 3) := by decide +kernel
theorem dX11_judge_81 : decode cX11_judge 81 = .ok (.iconst 0, 1) := by decide +kernel
theorem dX11_judge_82 : decode cX11_judge 82 = .ok (.istore 6, 2) := by decide +kernel
theorem dX11_judge_84 : decode cX11_judge 84 = .ok (.iload 6, 2) := by decide +kernel
theorem dX11_judge_86 : decode cX11_judge 86 = .ok (.iload_n 1, 1) := by decide +kernel
theorem dX11_judge_87 : decode cX11_judge 87 = .ok (.if_icmp .ge 23, 3) := by decide +kernel
theorem dX11_judge_90 : decode cX11_judge 90 = .ok (.aload_n 0, 1) := by decide +kernel
theorem dX11_judge_91 : decode cX11_judge 91 = .ok (.aload_n 0, 1) := by decide +kernel
theorem dX11_judge_92 : decode cX11_judge 92 = .ok (.getfield 70, 3) := by decide +kernel
theorem dX11_judge_95 : decode cX11_judge 95 = .ok (.iload 6, 2) := by decide +kernel
theorem dX11_judge_97 : decode cX11_judge 97 = .ok (.iaload, 1) := by decide +kernel
theorem dX11_judge_98 : decode cX11_judge 98 = .ok (.invokevirtual 246, 3) := by decide +kernel
theorem dX11_judge_101 : decode cX11_judge 101 = .ok (.ifCond .eq 9, 3) := by decide +kernel
theorem dX11_judge_104 : decode cX11_judge 104 = .ok (.iinc 6 1, 3) := by decide +kernel
theorem dX11_judge_107 : decode cX11_judge 107 = .ok (.goto (-23), 3) := by decide +kernel
theorem dX11_judge_110 : decode cX11_judge 110 = .ok (.aload_n 0, 1) := by decide +kernel
theorem dX11_judge_111 : decode cX11_judge 111 = .ok (.getfield 26, 3) := by decide +kernel
theorem dX11_judge_114 : decode cX11_judge 114 = .ok (.aload_n 0, 1) := by decide +kernel
theorem dX11_judge_115 : decode cX11_judge 115 = .ok (.getfield 30, 3) := by decide +kernel
theorem dX11_judge_118 : decode cX11_judge 118 = .ok (.invokevirtual 112, 3) := by decide +kernel
theorem dX11_judge_121 : decode cX11_judge 121 = .ok (.aload_n 0, 1) := by decide +kernel
theorem dX11_judge_122 : decode cX11_judge 122 = .ok (.invokevirtual 116, 3) := by decide +kernel
theorem dX11_judge_125 : decode cX11_judge 125 = .ok (.iload 6, 2) := by decide +kernel
theorem dX11_judge_127 : decode cX11_judge 127 = .ok (.iload_n 1, 1) := by decide +kernel
theorem dX11_judge_128 : decode cX11_judge 128 = .ok (.if_icmp .ge 8, 3) := by decide +kernel
theorem dX11_judge_131 : decode cX11_judge 131 = .ok (.iload 6, 2) := by decide +kernel
theorem dX11_judge_133 : decode cX11_judge 133 = .ok (.goto 5, 3) := by decide +kernel
theorem dX11_judge_136 : decode cX11_judge 136 = .ok (.bipush (-9), 2) := by decide +kernel
theorem dX11_judge_138 : decode cX11_judge 138 = .ok (.ireturn, 1) := by decide +kernel
theorem dX11_see_0 : decode cX11_see 0 = .ok (.iload_n 1, 1) := by decide +kernel
theorem dX11_see_1 : decode cX11_see 1 = .ok (.ifCond .lt 27, 3) := by decide +kernel
theorem dX11_see_4 : decode cX11_see 4 = .ok (.iload_n 1, 1) := by decide +kernel
theorem dX11_see_5 : decode cX11_see 5 = .ok (.iconst 3, 1) := by decide +kernel
theorem dX11_see_6 : decode cX11_see 6 = .ok (.if_icmp .gt 22, 3) := by decide +kernel
theorem dX11_see_9 : decode cX11_see 9 = .ok (.iload_n 2, 1) := by decide +kernel
theorem dX11_see_10 : decode cX11_see 10 = .ok (.ifCond .lt 18, 3) := by decide +kernel
theorem dX11_see_13 : decode cX11_see 13 = .ok (.iload_n 2, 1) := by decide +kernel
theorem dX11_see_14 : decode cX11_see 14 = .ok (.bipush 12, 2) := by decide +kernel
theorem dX11_see_16 : decode cX11_see 16 = .ok (.if_icmp .gt 12, 3) := by decide +kernel
theorem dX11_see_19 : decode cX11_see 19 = .ok (.iload_n 3, 1) := by decide +kernel
theorem dX11_see_20 : decode cX11_see 20 = .ok (.ifCond .lt 8, 3) := by decide +kernel
theorem dX11_see_23 : decode cX11_see 23 = .ok (.iload_n 3, 1) := by decide +kernel
theorem dX11_see_24 : decode cX11_see 24 = .ok (.iconst 1, 1) := by decide +kernel
theorem dX11_see_25 : decode cX11_see 25 = .ok (.if_icmp .le 6, 3) := by decide +kernel
theorem dX11_see_28 : decode cX11_see 28 = .ok (.bipush (-2), 2) := by decide +kernel
theorem dX11_see_30 : decode cX11_see 30 = .ok (.ireturn, 1) := by decide +kernel
theorem dX11_see_31 : decode cX11_see 31 = .ok (.aload_n 0, 1) := by decide +kernel
theorem dX11_see_32 : decode cX11_see 32 = .ok (.getfield 86, 3) := by decide +kernel
theorem dX11_see_35 : decode cX11_see 35 = .ok (.bipush 6, 2) := by decide +kernel
theorem dX11_see_37 : decode cX11_see 37 = .ok (.if_icmp .lt 6, 3) := by decide +kernel
theorem dX11_see_40 : decode cX11_see 40 = .ok (.bipush (-4), 2) := by decide +kernel
theorem dX11_see_42 : decode cX11_see 42 = .ok (.ireturn, 1) := by decide +kernel
theorem dX11_see_43 : decode cX11_see 43 = .ok (.aload_n 0, 1) := by decide +kernel
theorem dX11_see_44 : decode cX11_see 44 = .ok (.getfield 79, 3) := by decide +kernel
theorem dX11_see_47 : decode cX11_see 47 = .ok (.aload_n 0, 1) := by decide +kernel
theorem dX11_see_48 : decode cX11_see 48 = .ok (.getfield 86, 3) := by decide +kernel
theorem dX11_see_51 : decode cX11_see 51 = .ok (.iconst 3, 1) := by decide +kernel
theorem dX11_see_52 : decode cX11_see 52 = .ok (.imul, 1) := by decide +kernel
theorem dX11_see_53 : decode cX11_see 53 = .ok (.iload_n 1, 1) := by decide +kernel
theorem dX11_see_54 : decode cX11_see 54 = .ok (.iastore, 1) := by decide +kernel
theorem dX11_see_55 : decode cX11_see 55 = .ok (.aload_n 0, 1) := by decide +kernel
theorem dX11_see_56 : decode cX11_see 56 = .ok (.getfield 79, 3) := by decide +kernel
theorem dX11_see_59 : decode cX11_see 59 = .ok (.aload_n 0, 1) := by decide +kernel
theorem dX11_see_60 : decode cX11_see 60 = .ok (.getfield 86, 3) := by decide +kernel
theorem dX11_see_63 : decode cX11_see 63 = .ok (.iconst 3, 1) := by decide +kernel
theorem dX11_see_64 : decode cX11_see 64 = .ok (.imul, 1) := by decide +kernel
theorem dX11_see_65 : decode cX11_see 65 = .ok (.iconst 1, 1) := by decide +kernel
theorem dX11_see_66 : decode cX11_see 66 = .ok (.iadd, 1) := by decide +kernel
theorem dX11_see_67 : decode cX11_see 67 = .ok (.iload_n 2, 1) := by decide +kernel
theorem dX11_see_68 : decode cX11_see 68 = .ok (.iastore, 1) := by decide +kernel
theorem dX11_see_69 : decode cX11_see 69 = .ok (.aload_n 0, 1) := by decide +kernel
theorem dX11_see_70 : decode cX11_see 70 = .ok (.getfield 79, 3) := by decide +kernel
theorem dX11_see_73 : decode cX11_see 73 = .ok (.aload_n 0, 1) := by decide +kernel
theorem dX11_see_74 : decode cX11_see 74 = .ok (.getfield 86, 3) := by decide +kernel
theorem dX11_see_77 : decode cX11_see 77 = .ok (.iconst 3, 1) := by decide +kernel
theorem dX11_see_78 : decode cX11_see 78 = .ok (.imul, 1) := by decide +kernel
theorem dX11_see_79 : decode cX11_see 79 = .ok (.iconst 2, 1) := by decide +kernel
theorem dX11_see_80 : decode cX11_see 80 = .ok (.iadd, 1) := by decide +kernel
theorem dX11_see_81 : decode cX11_see 81 = .ok (.iload_n 3, 1) := by decide +kernel
theorem dX11_see_82 : decode cX11_see 82 = .ok (.iastore, 1) := by decide +kernel
theorem dX11_see_83 : decode cX11_see 83 = .ok (.aload_n 0, 1) := by decide +kernel
theorem dX11_see_84 : decode cX11_see 84 = .ok (.dup, 1) := by decide +kernel
theorem dX11_see_85 : decode cX11_see 85 = .ok (.getfield 86, 3) := by decide +kernel
theorem dX11_see_88 : decode cX11_see 88 = .ok (.iconst 1, 1) := by decide +kernel
theorem dX11_see_89 : decode cX11_see 89 = .ok (.iadd, 1) := by decide +kernel
theorem dX11_see_90 : decode cX11_see 90 = .ok (.putfield 86, 3) := by decide +kernel
theorem dX11_see_93 : decode cX11_see 93 = .ok (.aload_n 0, 1) := by decide +kernel
theorem dX11_see_94 : decode cX11_see 94 = .ok (.getfield 86, 3) := by decide +kernel
theorem dX11_see_97 : decode cX11_see 97 = .ok (.ireturn, 1) := by decide +kernel
theorem dX11_unsee_0 : decode cX11_unsee 0 = .ok (.aload_n 0, 1) := by decide +kernel
theorem dX11_unsee_1 : decode cX11_unsee 1 = .ok (.getfield 86, 3) := by decide +kernel
theorem dX11_unsee_4 : decode cX11_unsee 4 = .ok (.istore_n 1, 1) := by decide +kernel
theorem dX11_unsee_5 : decode cX11_unsee 5 = .ok (.aload_n 0, 1) := by decide +kernel
theorem dX11_unsee_6 : decode cX11_unsee 6 = .ok (.iconst 0, 1) := by decide +kernel
theorem dX11_unsee_7 : decode cX11_unsee 7 = .ok (.putfield 86, 3) := by decide +kernel
theorem dX11_unsee_10 : decode cX11_unsee 10 = .ok (.iload_n 1, 1) := by decide +kernel
theorem dX11_unsee_11 : decode cX11_unsee 11 = .ok (.ireturn, 1) := by decide +kernel
theorem dX11_left_0 : decode cX11_left 0 = .ok (.iload_n 1, 1) := by decide +kernel
theorem dX11_left_1 : decode cX11_left 1 = .ok (.ifCond .lt 8, 3) := by decide +kernel
theorem dX11_left_4 : decode cX11_left 4 = .ok (.iload_n 1, 1) := by decide +kernel
theorem dX11_left_5 : decode cX11_left 5 = .ok (.iconst 1, 1) := by decide +kernel
theorem dX11_left_6 : decode cX11_left 6 = .ok (.if_icmp .le 6, 3) := by decide +kernel
theorem dX11_left_9 : decode cX11_left 9 = .ok (.bipush (-2), 2) := by decide +kernel
theorem dX11_left_11 : decode cX11_left 11 = .ok (.ireturn, 1) := by decide +kernel
theorem dX11_left_12 : decode cX11_left 12 = .ok (.aload_n 0, 1) := by decide +kernel
theorem dX11_left_13 : decode cX11_left 13 = .ok (.getfield 53, 3) := by decide +kernel
theorem dX11_left_16 : decode cX11_left 16 = .ok (.invokevirtual 202, 3) := by decide +kernel
theorem dX11_left_19 : decode cX11_left 19 = .ok (.lstore_n 2, 1) := by decide +kernel
theorem dX11_left_20 : decode cX11_left 20 = .ok (.lload_n 2, 1) := by decide +kernel
theorem dX11_left_21 : decode cX11_left 21 = .ok (.ldc2_w 249, 3) := by decide +kernel
theorem dX11_left_24 : decode cX11_left 24 = .ok (.lcmp, 1) := by decide +kernel
theorem dX11_left_25 : decode cX11_left 25 = .ok (.ifCond .le 6, 3) := by decide +kernel
theorem dX11_left_28 : decode cX11_left 28 = .ok (.bipush (-3), 2) := by decide +kernel
theorem dX11_left_30 : decode cX11_left 30 = .ok (.ireturn, 1) := by decide +kernel
theorem dX11_left_31 : decode cX11_left 31 = .ok (.iconst 0, 1) := by decide +kernel
theorem dX11_left_32 : decode cX11_left 32 = .ok (.istore 4, 2) := by decide +kernel
theorem dX11_left_34 : decode cX11_left 34 = .ok (.iconst 0, 1) := by decide +kernel
theorem dX11_left_35 : decode cX11_left 35 = .ok (.istore 5, 2) := by decide +kernel
theorem dX11_left_37 : decode cX11_left 37 = .ok (.iload 5, 2) := by decide +kernel
theorem dX11_left_39 : decode cX11_left 39 = .ok (.i2l, 1) := by decide +kernel
theorem dX11_left_40 : decode cX11_left 40 = .ok (.lload_n 2, 1) := by decide +kernel
theorem dX11_left_41 : decode cX11_left 41 = .ok (.lcmp, 1) := by decide +kernel
theorem dX11_left_42 : decode cX11_left 42 = .ok (.ifCond .ge 37, 3) := by decide +kernel
theorem dX11_left_45 : decode cX11_left 45 = .ok (.aload_n 0, 1) := by decide +kernel
theorem dX11_left_46 : decode cX11_left 46 = .ok (.getfield 53, 3) := by decide +kernel
theorem dX11_left_49 : decode cX11_left 49 = .ok (.iload 5, 2) := by decide +kernel
theorem dX11_left_51 : decode cX11_left 51 = .ok (.i2l, 1) := by decide +kernel
theorem dX11_left_52 : decode cX11_left 52 = .ok (.invokevirtual 227, 3) := by decide +kernel
theorem dX11_left_55 : decode cX11_left 55 = .ok (.aload_n 0, 1) := by decide +kernel
theorem dX11_left_56 : decode cX11_left 56 = .ok (.invokevirtual 251, 3) := by decide +kernel
theorem dX11_left_59 : decode cX11_left 59 = .ok (.ifCond .eq 14, 3) := by decide +kernel
theorem dX11_left_62 : decode cX11_left 62 = .ok (.iload_n 1, 1) := by decide +kernel
theorem dX11_left_63 : decode cX11_left 63 = .ok (.iconst 1, 1) := by decide +kernel
theorem dX11_left_64 : decode cX11_left 64 = .ok (.if_icmp .ne 6, 3) := by decide +kernel
theorem dX11_left_67 : decode cX11_left 67 = .ok (.iload 5, 2) := by decide +kernel
theorem dX11_left_69 : decode cX11_left 69 = .ok (.ireturn, 1) := by decide +kernel
theorem dX11_left_70 : decode cX11_left 70 = .ok (.iinc 4 1, 3) := by decide +kernel
theorem dX11_left_73 : decode cX11_left 73 = .ok (.iinc 5 1, 3) := by decide +kernel
theorem dX11_left_76 : decode cX11_left 76 = .ok (.goto (-39), 3) := by decide +kernel
theorem dX11_left_79 : decode cX11_left 79 = .ok (.iload_n 1, 1) := by decide +kernel
theorem dX11_left_80 : decode cX11_left 80 = .ok (.ifCond .ne 8, 3) := by decide +kernel
theorem dX11_left_83 : decode cX11_left 83 = .ok (.iload 4, 2) := by decide +kernel
theorem dX11_left_85 : decode cX11_left 85 = .ok (.goto 5, 3) := by decide +kernel
theorem dX11_left_88 : decode cX11_left 88 = .ok (.bipush (-9), 2) := by decide +kernel
theorem dX11_left_90 : decode cX11_left 90 = .ok (.ireturn, 1) := by decide +kernel
theorem dX11_share_0 : decode cX11_share 0 = .ok (.aload_n 0, 1) := by decide +kernel
theorem dX11_share_1 : decode cX11_share 1 = .ok (.getfield 19, 3) := by decide +kernel
theorem dX11_share_4 : decode cX11_share 4 = .ok (.iload_n 1, 1) := by decide +kernel
theorem dX11_share_5 : decode cX11_share 5 = .ok (.invokevirtual 149, 3) := by decide +kernel
theorem dX11_share_8 : decode cX11_share 8 = .ok (.ifCond .ne 7, 3) := by decide +kernel
theorem dX11_share_11 : decode cX11_share 11 = .ok (.ldc2_w 209, 3) := by decide +kernel
theorem dX11_share_14 : decode cX11_share 14 = .ok (.lreturn, 1) := by decide +kernel
theorem dX11_share_15 : decode cX11_share 15 = .ok (.aload_n 0, 1) := by decide +kernel
theorem dX11_share_16 : decode cX11_share 16 = .ok (.getfield 26, 3) := by decide +kernel
theorem dX11_share_19 : decode cX11_share 19 = .ok (.getfield 128, 3) := by decide +kernel
theorem dX11_share_22 : decode cX11_share 22 = .ok (.iload_n 1, 1) := by decide +kernel
theorem dX11_share_23 : decode cX11_share 23 = .ok (.ishr, 1) := by decide +kernel
theorem dX11_share_24 : decode cX11_share 24 = .ok (.iconst 1, 1) := by decide +kernel
theorem dX11_share_25 : decode cX11_share 25 = .ok (.iand, 1) := by decide +kernel
theorem dX11_share_26 : decode cX11_share 26 = .ok (.ifCond .ne 13, 3) := by decide +kernel
theorem dX11_share_29 : decode cX11_share 29 = .ok (.aload_n 0, 1) := by decide +kernel
theorem dX11_share_30 : decode cX11_share 30 = .ok (.getfield 62, 3) := by decide +kernel
theorem dX11_share_33 : decode cX11_share 33 = .ok (.invokevirtual 254, 3) := by decide +kernel
theorem dX11_share_36 : decode cX11_share 36 = .ok (.ifCond .ne 7, 3) := by decide +kernel
theorem dX11_share_39 : decode cX11_share 39 = .ok (.ldc2_w 257, 3) := by decide +kernel
theorem dX11_share_42 : decode cX11_share 42 = .ok (.lreturn, 1) := by decide +kernel
theorem dX11_share_43 : decode cX11_share 43 = .ok (.aload_n 0, 1) := by decide +kernel
theorem dX11_share_44 : decode cX11_share 44 = .ok (.getfield 62, 3) := by decide +kernel
theorem dX11_share_47 : decode cX11_share 47 = .ok (.iload_n 1, 1) := by decide +kernel
theorem dX11_share_48 : decode cX11_share 48 = .ok (.invokevirtual 259, 3) := by decide +kernel
theorem dX11_share_51 : decode cX11_share 51 = .ok (.aload_n 0, 1) := by decide +kernel
theorem dX11_share_52 : decode cX11_share 52 = .ok (.getfield 62, 3) := by decide +kernel
theorem dX11_share_55 : decode cX11_share 55 = .ok (.invokevirtual 262, 3) := by decide +kernel
theorem dX11_share_58 : decode cX11_share 58 = .ok (.iload_n 2, 1) := by decide +kernel
theorem dX11_share_59 : decode cX11_share 59 = .ok (.invokestatic 265, 3) := by decide +kernel
theorem dX11_share_62 : decode cX11_share 62 = .ok (.lreturn, 1) := by decide +kernel
theorem dX11_hope_0 : decode cX11_hope 0 = .ok (.iload_n 1, 1) := by decide +kernel
theorem dX11_hope_1 : decode cX11_hope 1 = .ok (.ifCond .lt 9, 3) := by decide +kernel
theorem dX11_hope_4 : decode cX11_hope 4 = .ok (.iload_n 1, 1) := by decide +kernel
theorem dX11_hope_5 : decode cX11_hope 5 = .ok (.bipush 10, 2) := by decide +kernel
theorem dX11_hope_7 : decode cX11_hope 7 = .ok (.if_icmp .le 6, 3) := by decide +kernel
theorem dX11_hope_10 : decode cX11_hope 10 = .ok (.bipush (-2), 2) := by decide +kernel
theorem dX11_hope_12 : decode cX11_hope 12 = .ok (.ireturn, 1) := by decide +kernel
theorem dX11_hope_13 : decode cX11_hope 13 = .ok (.aload_n 0, 1) := by decide +kernel
theorem dX11_hope_14 : decode cX11_hope 14 = .ok (.getfield 62, 3) := by decide +kernel
theorem dX11_hope_17 : decode cX11_hope 17 = .ok (.invokevirtual 254, 3) := by decide +kernel
theorem dX11_hope_20 : decode cX11_hope 20 = .ok (.ifCond .ne 6, 3) := by decide +kernel
theorem dX11_hope_23 : decode cX11_hope 23 = .ok (.bipush (-3), 2) := by decide +kernel
theorem dX11_hope_25 : decode cX11_hope 25 = .ok (.ireturn, 1) := by decide +kernel
theorem dX11_hope_26 : decode cX11_hope 26 = .ok (.aload_n 0, 1) := by decide +kernel
theorem dX11_hope_27 : decode cX11_hope 27 = .ok (.getfield 62, 3) := by decide +kernel
theorem dX11_hope_30 : decode cX11_hope 30 = .ok (.iload_n 1, 1) := by decide +kernel
theorem dX11_hope_31 : decode cX11_hope 31 = .ok (.invokevirtual 269, 3) := by decide +kernel
theorem dX11_hope_34 : decode cX11_hope 34 = .ok (.aload_n 0, 1) := by decide +kernel
theorem dX11_hope_35 : decode cX11_hope 35 = .ok (.getfield 62, 3) := by decide +kernel
theorem dX11_hope_38 : decode cX11_hope 38 = .ok (.invokevirtual 272, 3) := by decide +kernel
theorem dX11_hope_41 : decode cX11_hope 41 = .ok (.iload_n 2, 1) := by decide +kernel
theorem dX11_hope_42 : decode cX11_hope 42 = .ok (.invokestatic 265, 3) := by decide +kernel
theorem dX11_hope_45 : decode cX11_hope 45 = .ok (.l2i, 1) := by decide +kernel
theorem dX11_hope_46 : decode cX11_hope 46 = .ok (.ireturn, 1) := by decide +kernel
theorem dX11_seed_0 : decode cX11_seed 0 = .ok (.aload_n 0, 1) := by decide +kernel
theorem dX11_seed_1 : decode cX11_seed 1 = .ok (.getfield 89, 3) := by decide +kernel
theorem dX11_seed_4 : decode cX11_seed 4 = .ok (.lstore_n 3, 1) := by decide +kernel
theorem dX11_seed_5 : decode cX11_seed 5 = .ok (.aload_n 0, 1) := by decide +kernel
theorem dX11_seed_6 : decode cX11_seed 6 = .ok (.lload_n 1, 1) := by decide +kernel
theorem dX11_seed_7 : decode cX11_seed 7 = .ok (.putfield 89, 3) := by decide +kernel
theorem dX11_seed_10 : decode cX11_seed 10 = .ok (.lload_n 3, 1) := by decide +kernel
theorem dX11_seed_11 : decode cX11_seed 11 = .ok (.lreturn, 1) := by decide +kernel
theorem dX11_drawn_0 : decode cX11_drawn 0 = .ok (.iload_n 1, 1) := by decide +kernel
theorem dX11_drawn_1 : decode cX11_drawn 1 = .ok (.iconst 1, 1) := by decide +kernel
theorem dX11_drawn_2 : decode cX11_drawn 2 = .ok (.if_icmp .lt 9, 3) := by decide +kernel
theorem dX11_drawn_5 : decode cX11_drawn 5 = .ok (.iload_n 1, 1) := by decide +kernel
theorem dX11_drawn_6 : decode cX11_drawn 6 = .ok (.bipush 20, 2) := by decide +kernel
theorem dX11_drawn_8 : decode cX11_drawn 8 = .ok (.if_icmp .le 6, 3) := by decide +kernel
theorem dX11_drawn_11 : decode cX11_drawn 11 = .ok (.bipush (-2), 2) := by decide +kernel
theorem dX11_drawn_13 : decode cX11_drawn 13 = .ok (.ireturn, 1) := by decide +kernel
theorem dX11_drawn_14 : decode cX11_drawn 14 = .ok (.aload_n 0, 1) := by decide +kernel
theorem dX11_drawn_15 : decode cX11_drawn 15 = .ok (.getfield 53, 3) := by decide +kernel
theorem dX11_drawn_18 : decode cX11_drawn 18 = .ok (.invokevirtual 202, 3) := by decide +kernel
theorem dX11_drawn_21 : decode cX11_drawn 21 = .ok (.lstore_n 2, 1) := by decide +kernel
theorem dX11_drawn_22 : decode cX11_drawn 22 = .ok (.iconst 0, 1) := by decide +kernel
theorem dX11_drawn_23 : decode cX11_drawn 23 = .ok (.istore 4, 2) := by decide +kernel
theorem dX11_drawn_25 : decode cX11_drawn 25 = .ok (.iconst 0, 1) := by decide +kernel
theorem dX11_drawn_26 : decode cX11_drawn 26 = .ok (.istore 5, 2) := by decide +kernel
theorem dX11_drawn_28 : decode cX11_drawn 28 = .ok (.iload 5, 2) := by decide +kernel
theorem dX11_drawn_30 : decode cX11_drawn 30 = .ok (.iload_n 1, 1) := by decide +kernel
theorem dX11_drawn_31 : decode cX11_drawn 31 = .ok (.if_icmp .ge 59, 3) := by decide +kernel
theorem dX11_drawn_34 : decode cX11_drawn 34 = .ok (.aload_n 0, 1) := by decide +kernel
theorem dX11_drawn_35 : decode cX11_drawn 35 = .ok (.aload_n 0, 1) := by decide +kernel
theorem dX11_drawn_36 : decode cX11_drawn 36 = .ok (.getfield 89, 3) := by decide +kernel
theorem dX11_drawn_39 : decode cX11_drawn 39 = .ok (.ldc2_w 275, 3) := by decide +kernel
theorem dX11_drawn_42 : decode cX11_drawn 42 = .ok (.lmul, 1) := by decide +kernel
theorem dX11_drawn_43 : decode cX11_drawn 43 = .ok (.ldc2_w 277, 3) := by decide +kernel
theorem dX11_drawn_46 : decode cX11_drawn 46 = .ok (.ladd, 1) := by decide +kernel
theorem dX11_drawn_47 : decode cX11_drawn 47 = .ok (.putfield 89, 3) := by decide +kernel
theorem dX11_drawn_50 : decode cX11_drawn 50 = .ok (.lload_n 2, 1) := by decide +kernel
theorem dX11_drawn_51 : decode cX11_drawn 51 = .ok (.lconst 0, 1) := by decide +kernel
theorem dX11_drawn_52 : decode cX11_drawn 52 = .ok (.lcmp, 1) := by decide +kernel
theorem dX11_drawn_53 : decode cX11_drawn 53 = .ok (.ifCond .le 31, 3) := by decide +kernel
theorem dX11_drawn_56 : decode cX11_drawn 56 = .ok (.aload_n 0, 1) := by decide +kernel
theorem dX11_drawn_57 : decode cX11_drawn 57 = .ok (.getfield 53, 3) := by decide +kernel
theorem dX11_drawn_60 : decode cX11_drawn 60 = .ok (.aload_n 0, 1) := by decide +kernel
theorem dX11_drawn_61 : decode cX11_drawn 61 = .ok (.getfield 89, 3) := by decide +kernel
theorem dX11_drawn_64 : decode cX11_drawn 64 = .ok (.bipush 33, 2) := by decide +kernel
theorem dX11_drawn_66 : decode cX11_drawn 66 = .ok (.lushr, 1) := by decide +kernel
theorem dX11_drawn_67 : decode cX11_drawn 67 = .ok (.lload_n 2, 1) := by decide +kernel
theorem dX11_drawn_68 : decode cX11_drawn 68 = .ok (.lrem, 1) := by decide +kernel
theorem dX11_drawn_69 : decode cX11_drawn 69 = .ok (.invokevirtual 227, 3) := by decide +kernel
theorem dX11_drawn_72 : decode cX11_drawn 72 = .ok (.iload 4, 2) := by decide +kernel
theorem dX11_drawn_74 : decode cX11_drawn 74 = .ok (.aload_n 0, 1) := by decide +kernel
theorem dX11_drawn_75 : decode cX11_drawn 75 = .ok (.getfield 53, 3) := by decide +kernel
theorem dX11_drawn_78 : decode cX11_drawn 78 = .ok (.invokevirtual 218, 3) := by decide +kernel
theorem dX11_drawn_81 : decode cX11_drawn 81 = .ok (.iadd, 1) := by decide +kernel
theorem dX11_drawn_82 : decode cX11_drawn 82 = .ok (.istore 4, 2) := by decide +kernel
theorem dX11_drawn_84 : decode cX11_drawn 84 = .ok (.iinc 5 1, 3) := by decide +kernel
theorem dX11_drawn_87 : decode cX11_drawn 87 = .ok (.goto (-59), 3) := by decide +kernel
theorem dX11_drawn_90 : decode cX11_drawn 90 = .ok (.iload 4, 2) := by decide +kernel
theorem dX11_drawn_92 : decode cX11_drawn 92 = .ok (.ireturn, 1) := by decide +kernel
theorem dX11_keep_0 : decode cX11_keep 0 = .ok (.iload_n 1, 1) := by decide +kernel
theorem dX11_keep_1 : decode cX11_keep 1 = .ok (.ifCond .lt 8, 3) := by decide +kernel
theorem dX11_keep_4 : decode cX11_keep 4 = .ok (.iload_n 1, 1) := by decide +kernel
theorem dX11_keep_5 : decode cX11_keep 5 = .ok (.iconst 2, 1) := by decide +kernel
theorem dX11_keep_6 : decode cX11_keep 6 = .ok (.if_icmp .lt 5, 3) := by decide +kernel
theorem dX11_keep_9 : decode cX11_keep 9 = .ok (.iconst (-1), 1) := by decide +kernel
theorem dX11_keep_10 : decode cX11_keep 10 = .ok (.ireturn, 1) := by decide +kernel
theorem dX11_keep_11 : decode cX11_keep 11 = .ok (.aload_n 0, 1) := by decide +kernel
theorem dX11_keep_12 : decode cX11_keep 12 = .ok (.getfield 33, 3) := by decide +kernel
theorem dX11_keep_15 : decode cX11_keep 15 = .ok (.iload_n 1, 1) := by decide +kernel
theorem dX11_keep_16 : decode cX11_keep 16 = .ok (.aaload, 1) := by decide +kernel
theorem dX11_keep_17 : decode cX11_keep 17 = .ok (.aload_n 0, 1) := by decide +kernel
theorem dX11_keep_18 : decode cX11_keep 18 = .ok (.getfield 26, 3) := by decide +kernel
theorem dX11_keep_21 : decode cX11_keep 21 = .ok (.invokevirtual 112, 3) := by decide +kernel
theorem dX11_keep_24 : decode cX11_keep 24 = .ok (.aload_n 0, 1) := by decide +kernel
theorem dX11_keep_25 : decode cX11_keep 25 = .ok (.getfield 37, 3) := by decide +kernel
theorem dX11_keep_28 : decode cX11_keep 28 = .ok (.iload_n 1, 1) := by decide +kernel
theorem dX11_keep_29 : decode cX11_keep 29 = .ok (.iconst 1, 1) := by decide +kernel
theorem dX11_keep_30 : decode cX11_keep 30 = .ok (.bastore, 1) := by decide +kernel
theorem dX11_keep_31 : decode cX11_keep 31 = .ok (.aload_n 0, 1) := by decide +kernel
theorem dX11_keep_32 : decode cX11_keep 32 = .ok (.getfield 19, 3) := by decide +kernel
theorem dX11_keep_35 : decode cX11_keep 35 = .ok (.getfield 119, 3) := by decide +kernel
theorem dX11_keep_38 : decode cX11_keep 38 = .ok (.ireturn, 1) := by decide +kernel
theorem dX11_again_0 : decode cX11_again 0 = .ok (.iload_n 1, 1) := by decide +kernel
theorem dX11_again_1 : decode cX11_again 1 = .ok (.ifCond .lt 8, 3) := by decide +kernel
theorem dX11_again_4 : decode cX11_again 4 = .ok (.iload_n 1, 1) := by decide +kernel
theorem dX11_again_5 : decode cX11_again 5 = .ok (.iconst 2, 1) := by decide +kernel
theorem dX11_again_6 : decode cX11_again 6 = .ok (.if_icmp .lt 5, 3) := by decide +kernel
theorem dX11_again_9 : decode cX11_again 9 = .ok (.iconst (-1), 1) := by decide +kernel
theorem dX11_again_10 : decode cX11_again 10 = .ok (.ireturn, 1) := by decide +kernel
theorem dX11_again_11 : decode cX11_again 11 = .ok (.aload_n 0, 1) := by decide +kernel
theorem dX11_again_12 : decode cX11_again 12 = .ok (.getfield 37, 3) := by decide +kernel
theorem dX11_again_15 : decode cX11_again 15 = .ok (.iload_n 1, 1) := by decide +kernel
theorem dX11_again_16 : decode cX11_again 16 = .ok (.baload, 1) := by decide +kernel
theorem dX11_again_17 : decode cX11_again 17 = .ok (.ifCond .ne 6, 3) := by decide +kernel
theorem dX11_again_20 : decode cX11_again 20 = .ok (.bipush (-3), 2) := by decide +kernel
theorem dX11_again_22 : decode cX11_again 22 = .ok (.ireturn, 1) := by decide +kernel
theorem dX11_again_23 : decode cX11_again 23 = .ok (.aload_n 0, 1) := by decide +kernel
theorem dX11_again_24 : decode cX11_again 24 = .ok (.getfield 26, 3) := by decide +kernel
theorem dX11_again_27 : decode cX11_again 27 = .ok (.aload_n 0, 1) := by decide +kernel
theorem dX11_again_28 : decode cX11_again 28 = .ok (.getfield 33, 3) := by decide +kernel
theorem dX11_again_31 : decode cX11_again 31 = .ok (.iload_n 1, 1) := by decide +kernel
theorem dX11_again_32 : decode cX11_again 32 = .ok (.aaload, 1) := by decide +kernel
theorem dX11_again_33 : decode cX11_again 33 = .ok (.invokevirtual 112, 3) := by decide +kernel
theorem dX11_again_36 : decode cX11_again 36 = .ok (.aload_n 0, 1) := by decide +kernel
theorem dX11_again_37 : decode cX11_again 37 = .ok (.getfield 44, 3) := by decide +kernel
theorem dX11_again_40 : decode cX11_again 40 = .ok (.iconst 0, 1) := by decide +kernel
theorem dX11_again_41 : decode cX11_again 41 = .ok (.putfield 115, 3) := by decide +kernel
theorem dX11_again_44 : decode cX11_again 44 = .ok (.aload_n 0, 1) := by decide +kernel
theorem dX11_again_45 : decode cX11_again 45 = .ok (.invokevirtual 116, 3) := by decide +kernel
theorem dX11_again_48 : decode cX11_again 48 = .ok (.aload_n 0, 1) := by decide +kernel
theorem dX11_again_49 : decode cX11_again 49 = .ok (.getfield 19, 3) := by decide +kernel
theorem dX11_again_52 : decode cX11_again 52 = .ok (.getfield 119, 3) := by decide +kernel
theorem dX11_again_55 : decode cX11_again 55 = .ok (.ireturn, 1) := by decide +kernel
theorem dX11_isLetter_0 : decode cX11_isLetter 0 = .ok (.iload_n 0, 1) := by decide +kernel
theorem dX11_isLetter_1 : decode cX11_isLetter 1 = .ok (.ifCond .lt 13, 3) := by decide +kernel
theorem dX11_isLetter_4 : decode cX11_isLetter 4 = .ok (.iload_n 0, 1) := by decide +kernel
theorem dX11_isLetter_5 : decode cX11_isLetter 5 = .ok (.bipush 8, 2) := by decide +kernel
theorem dX11_isLetter_7 : decode cX11_isLetter 7 = .ok (.if_icmp .ge 7, 3) := by decide +kernel
theorem dX11_isLetter_10 : decode cX11_isLetter 10 = .ok (.iconst 1, 1) := by decide +kernel
theorem dX11_isLetter_11 : decode cX11_isLetter 11 = .ok (.goto 4, 3) := by decide +kernel
theorem dX11_isLetter_14 : decode cX11_isLetter 14 = .ok (.iconst 0, 1) := by decide +kernel
theorem dX11_isLetter_15 : decode cX11_isLetter 15 = .ok (.ireturn, 1) := by decide +kernel
theorem dX11_isKind_0 : decode cX11_isKind 0 = .ok (.iload_n 0, 1) := by decide +kernel
theorem dX11_isKind_1 : decode cX11_isKind 1 = .ok (.ifCond .lt 12, 3) := by decide +kernel
theorem dX11_isKind_4 : decode cX11_isKind 4 = .ok (.iload_n 0, 1) := by decide +kernel
theorem dX11_isKind_5 : decode cX11_isKind 5 = .ok (.iconst 4, 1) := by decide +kernel
theorem dX11_isKind_6 : decode cX11_isKind 6 = .ok (.if_icmp .ge 7, 3) := by decide +kernel
theorem dX11_isKind_9 : decode cX11_isKind 9 = .ok (.iconst 1, 1) := by decide +kernel
theorem dX11_isKind_10 : decode cX11_isKind 10 = .ok (.goto 4, 3) := by decide +kernel
theorem dX11_isKind_13 : decode cX11_isKind 13 = .ok (.iconst 0, 1) := by decide +kernel
theorem dX11_isKind_14 : decode cX11_isKind 14 = .ok (.ireturn, 1) := by decide +kernel
theorem dX11_perform_0 : decode cX11_perform 0 = .ok (.aload_n 0, 1) := by decide +kernel
theorem dX11_perform_1 : decode cX11_perform 1 = .ok (.getfield 26, 3) := by decide +kernel
theorem dX11_perform_4 : decode cX11_perform 4 = .ok (.iload_n 1, 1) := by decide +kernel
theorem dX11_perform_5 : decode cX11_perform 5 = .ok (.iload_n 2, 1) := by decide +kernel
theorem dX11_perform_6 : decode cX11_perform 6 = .ok (.iload_n 3, 1) := by decide +kernel
theorem dX11_perform_7 : decode cX11_perform 7 = .ok (.invokevirtual 279, 3) := by decide +kernel
theorem dX11_perform_10 : decode cX11_perform 10 = .ok (.aload_n 0, 1) := by decide +kernel
theorem dX11_perform_11 : decode cX11_perform 11 = .ok (.invokevirtual 116, 3) := by decide +kernel
theorem dX11_perform_14 : decode cX11_perform 14 = .ok (.return_, 1) := by decide +kernel
theorem dX11_outdate_0 : decode cX11_outdate 0 = .ok (.aload_n 0, 1) := by decide +kernel
theorem dX11_outdate_1 : decode cX11_outdate 1 = .ok (.getfield 53, 3) := by decide +kernel
theorem dX11_outdate_4 : decode cX11_outdate 4 = .ok (.iconst 0, 1) := by decide +kernel
theorem dX11_outdate_5 : decode cX11_outdate 5 = .ok (.putfield 282, 3) := by decide +kernel
theorem dX11_outdate_8 : decode cX11_outdate 8 = .ok (.aload_n 0, 1) := by decide +kernel
theorem dX11_outdate_9 : decode cX11_outdate 9 = .ok (.getfield 62, 3) := by decide +kernel
theorem dX11_outdate_12 : decode cX11_outdate 12 = .ok (.invokevirtual 286, 3) := by decide +kernel
theorem dX11_outdate_15 : decode cX11_outdate 15 = .ok (.return_, 1) := by decide +kernel
theorem dX11_fitting_0 : decode cX11_fitting 0 = .ok (.aload_n 0, 1) := by decide +kernel
theorem dX11_fitting_1 : decode cX11_fitting 1 = .ok (.getfield 26, 3) := by decide +kernel
theorem dX11_fitting_4 : decode cX11_fitting 4 = .ok (.invokevirtual 287, 3) := by decide +kernel
theorem dX11_fitting_7 : decode cX11_fitting 7 = .ok (.lstore_n 1, 1) := by decide +kernel
theorem dX11_fitting_8 : decode cX11_fitting 8 = .ok (.iconst 0, 1) := by decide +kernel
theorem dX11_fitting_9 : decode cX11_fitting 9 = .ok (.istore_n 3, 1) := by decide +kernel
theorem dX11_fitting_10 : decode cX11_fitting 10 = .ok (.iconst 0, 1) := by decide +kernel
theorem dX11_fitting_11 : decode cX11_fitting 11 = .ok (.istore 4, 2) := by decide +kernel
theorem dX11_fitting_13 : decode cX11_fitting 13 = .ok (.iload 4, 2) := by decide +kernel
theorem dX11_fitting_15 : decode cX11_fitting 15 = .ok (.aload_n 0, 1) := by decide +kernel
theorem dX11_fitting_16 : decode cX11_fitting 16 = .ok (.getfield 19, 3) := by decide +kernel
theorem dX11_fitting_19 : decode cX11_fitting 19 = .ok (.getfield 119, 3) := by decide +kernel
theorem dX11_fitting_22 : decode cX11_fitting 22 = .ok (.if_icmp .ge 33, 3) := by decide +kernel
theorem dX11_fitting_25 : decode cX11_fitting 25 = .ok (.lload_n 1, 1) := by decide +kernel
theorem dX11_fitting_26 : decode cX11_fitting 26 = .ok (.aload_n 0, 1) := by decide +kernel
theorem dX11_fitting_27 : decode cX11_fitting 27 = .ok (.getfield 19, 3) := by decide +kernel
theorem dX11_fitting_30 : decode cX11_fitting 30 = .ok (.getfield 290, 3) := by decide +kernel
theorem dX11_fitting_33 : decode cX11_fitting 33 = .ok (.iload 4, 2) := by decide +kernel
theorem dX11_fitting_35 : decode cX11_fitting 35 = .ok (.laload, 1) := by decide +kernel
theorem dX11_fitting_36 : decode cX11_fitting 36 = .ok (.invokestatic 294, 3) := by decide +kernel
theorem dX11_fitting_39 : decode cX11_fitting 39 = .ok (.ifCond .eq 10, 3) := by decide +kernel
theorem dX11_fitting_42 : decode cX11_fitting 42 = .ok (.iload_n 3, 1) := by decide +kernel
theorem dX11_fitting_43 : decode cX11_fitting 43 = .ok (.iconst 1, 1) := by decide +kernel
theorem dX11_fitting_44 : decode cX11_fitting 44 = .ok (.iload 4, 2) := by decide +kernel
theorem dX11_fitting_46 : decode cX11_fitting 46 = .ok (.ishl, 1) := by decide +kernel
theorem dX11_fitting_47 : decode cX11_fitting 47 = .ok (.ior, 1) := by decide +kernel
theorem dX11_fitting_48 : decode cX11_fitting 48 = .ok (.istore_n 3, 1) := by decide +kernel
theorem dX11_fitting_49 : decode cX11_fitting 49 = .ok (.iinc 4 1, 3) := by decide +kernel
theorem dX11_fitting_52 : decode cX11_fitting 52 = .ok (.goto (-39), 3) := by decide +kernel
theorem dX11_fitting_55 : decode cX11_fitting 55 = .ok (.iload_n 3, 1) := by decide +kernel
theorem dX11_fitting_56 : decode cX11_fitting 56 = .ok (.ireturn, 1) := by decide +kernel
theorem dX11_holds_0 : decode cX11_holds 0 = .ok (.lload_n 0, 1) := by decide +kernel
theorem dX11_holds_1 : decode cX11_holds 1 = .ok (.ldc2_w 298, 3) := by decide +kernel
theorem dX11_holds_4 : decode cX11_holds 4 = .ok (.lor, 1) := by decide +kernel
theorem dX11_holds_5 : decode cX11_holds 5 = .ok (.lload_n 2, 1) := by decide +kernel
theorem dX11_holds_6 : decode cX11_holds 6 = .ok (.lsub, 1) := by decide +kernel
theorem dX11_holds_7 : decode cX11_holds 7 = .ok (.ldc2_w 298, 3) := by decide +kernel
theorem dX11_holds_10 : decode cX11_holds 10 = .ok (.land, 1) := by decide +kernel
theorem dX11_holds_11 : decode cX11_holds 11 = .ok (.ldc2_w 298, 3) := by decide +kernel
theorem dX11_holds_14 : decode cX11_holds 14 = .ok (.lcmp, 1) := by decide +kernel
theorem dX11_holds_15 : decode cX11_holds 15 = .ok (.ifCond .ne 7, 3) := by decide +kernel
theorem dX11_holds_18 : decode cX11_holds 18 = .ok (.iconst 1, 1) := by decide +kernel
theorem dX11_holds_19 : decode cX11_holds 19 = .ok (.goto 4, 3) := by decide +kernel
theorem dX11_holds_22 : decode cX11_holds 22 = .ok (.iconst 0, 1) := by decide +kernel
theorem dX11_holds_23 : decode cX11_holds 23 = .ok (.ireturn, 1) := by decide +kernel
theorem dX11_makings_0 : decode cX11_makings 0 = .ok (.bipush 12, 2) := by decide +kernel
theorem dX11_makings_2 : decode cX11_makings 2 = .ok (.istore_n 2, 1) := by decide +kernel
theorem dX11_makings_3 : decode cX11_makings 3 = .ok (.iconst 0, 1) := by decide +kernel
theorem dX11_makings_4 : decode cX11_makings 4 = .ok (.istore_n 3, 1) := by decide +kernel
theorem dX11_makings_5 : decode cX11_makings 5 = .ok (.iload_n 3, 1) := by decide +kernel
theorem dX11_makings_6 : decode cX11_makings 6 = .ok (.bipush 8, 2) := by decide +kernel
theorem dX11_makings_8 : decode cX11_makings 8 = .ok (.if_icmp .ge 42, 3) := by decide +kernel
theorem dX11_makings_11 : decode cX11_makings 11 = .ok (.aload_n 0, 1) := by decide +kernel
theorem dX11_makings_12 : decode cX11_makings 12 = .ok (.getfield 19, 3) := by decide +kernel
theorem dX11_makings_15 : decode cX11_makings 15 = .ok (.iload_n 1, 1) := by decide +kernel
theorem dX11_makings_16 : decode cX11_makings 16 = .ok (.iload_n 3, 1) := by decide +kernel
theorem dX11_makings_17 : decode cX11_makings 17 = .ok (.invokevirtual 300, 3) := by decide +kernel
theorem dX11_makings_20 : decode cX11_makings 20 = .ok (.istore 4, 2) := by decide +kernel
theorem dX11_makings_22 : decode cX11_makings 22 = .ok (.iload 4, 2) := by decide +kernel
theorem dX11_makings_24 : decode cX11_makings 24 = .ok (.ifCond .le 20, 3) := by decide +kernel
theorem dX11_makings_27 : decode cX11_makings 27 = .ok (.iload_n 2, 1) := by decide +kernel
theorem dX11_makings_28 : decode cX11_makings 28 = .ok (.aload_n 0, 1) := by decide +kernel
theorem dX11_makings_29 : decode cX11_makings 29 = .ok (.getfield 26, 3) := by decide +kernel
theorem dX11_makings_32 : decode cX11_makings 32 = .ok (.getfield 180, 3) := by decide +kernel
theorem dX11_makings_35 : decode cX11_makings 35 = .ok (.iload_n 3, 1) := by decide +kernel
theorem dX11_makings_36 : decode cX11_makings 36 = .ok (.iaload, 1) := by decide +kernel
theorem dX11_makings_37 : decode cX11_makings 37 = .ok (.iload 4, 2) := by decide +kernel
theorem dX11_makings_39 : decode cX11_makings 39 = .ok (.idiv, 1) := by decide +kernel
theorem dX11_makings_40 : decode cX11_makings 40 = .ok (.invokestatic 303, 3) := by decide +kernel
theorem dX11_makings_43 : decode cX11_makings 43 = .ok (.istore_n 2, 1) := by decide +kernel
theorem dX11_makings_44 : decode cX11_makings 44 = .ok (.iinc 3 1, 3) := by decide +kernel
theorem dX11_makings_47 : decode cX11_makings 47 = .ok (.goto (-42), 3) := by decide +kernel
theorem dX11_makings_50 : decode cX11_makings 50 = .ok (.iload_n 2, 1) := by decide +kernel
theorem dX11_makings_51 : decode cX11_makings 51 = .ok (.ireturn, 1) := by decide +kernel
theorem dX11_explain_0 : decode cX11_explain 0 = .ok (.aload_n 0, 1) := by decide +kernel
theorem dX11_explain_1 : decode cX11_explain 1 = .ok (.getfield 73, 3) := by decide +kernel
theorem dX11_explain_4 : decode cX11_explain 4 = .ok (.iconst 0, 1) := by decide +kernel
theorem dX11_explain_5 : decode cX11_explain 5 = .ok (.iload_n 1, 1) := by decide +kernel
theorem dX11_explain_6 : decode cX11_explain 6 = .ok (.iastore, 1) := by decide +kernel
theorem dX11_explain_7 : decode cX11_explain 7 = .ok (.aload_n 0, 1) := by decide +kernel
theorem dX11_explain_8 : decode cX11_explain 8 = .ok (.getfield 73, 3) := by decide +kernel
theorem dX11_explain_11 : decode cX11_explain 11 = .ok (.iconst 1, 1) := by decide +kernel
theorem dX11_explain_12 : decode cX11_explain 12 = .ok (.iload_n 2, 1) := by decide +kernel
theorem dX11_explain_13 : decode cX11_explain 13 = .ok (.iastore, 1) := by decide +kernel
theorem dX11_explain_14 : decode cX11_explain 14 = .ok (.aload_n 0, 1) := by decide +kernel
theorem dX11_explain_15 : decode cX11_explain 15 = .ok (.getfield 73, 3) := by decide +kernel
theorem dX11_explain_18 : decode cX11_explain 18 = .ok (.iconst 2, 1) := by decide +kernel
theorem dX11_explain_19 : decode cX11_explain 19 = .ok (.iload_n 3, 1) := by decide +kernel
theorem dX11_explain_20 : decode cX11_explain 20 = .ok (.iastore, 1) := by decide +kernel
theorem dX11_explain_21 : decode cX11_explain 21 = .ok (.aload_n 0, 1) := by decide +kernel
theorem dX11_explain_22 : decode cX11_explain 22 = .ok (.getfield 73, 3) := by decide +kernel
theorem dX11_explain_25 : decode cX11_explain 25 = .ok (.iconst 3, 1) := by decide +kernel
theorem dX11_explain_26 : decode cX11_explain 26 = .ok (.iload 4, 2) := by decide +kernel
theorem dX11_explain_28 : decode cX11_explain 28 = .ok (.iastore, 1) := by decide +kernel
theorem dX11_explain_29 : decode cX11_explain 29 = .ok (.return_, 1) := by decide +kernel
theorem dX11_examineRow_0 : decode cX11_examineRow 0 = .ok (.aload_n 0, 1) := by decide +kernel
theorem dX11_examineRow_1 : decode cX11_examineRow 1 = .ok (.iconst 0, 1) := by decide +kernel
theorem dX11_examineRow_2 : decode cX11_examineRow 2 = .ok (.bipush (-9), 2) := by decide +kernel
theorem dX11_examineRow_4 : decode cX11_examineRow 4 = .ok (.bipush (-9), 2) := by decide +kernel
theorem dX11_examineRow_6 : decode cX11_examineRow 6 = .ok (.iconst 0, 1) := by decide +kernel
theorem dX11_examineRow_7 : decode cX11_examineRow 7 = .ok (.invokevirtual 308, 3) := by decide +kernel
theorem dX11_examineRow_10 : decode cX11_examineRow 10 = .ok (.aload_n 0, 1) := by decide +kernel
theorem dX11_examineRow_11 : decode cX11_examineRow 11 = .ok (.getfield 82, 3) := by decide +kernel
theorem dX11_examineRow_14 : decode cX11_examineRow 14 = .ok (.ifCond .ne 14, 3) := by decide +kernel
theorem dX11_examineRow_17 : decode cX11_examineRow 17 = .ok (.aload_n 0, 1) := by decide +kernel
theorem dX11_examineRow_18 : decode cX11_examineRow 18 = .ok (.bipush 6, 2) := by decide +kernel
theorem dX11_examineRow_20 : decode cX11_examineRow 20 = .ok (.iconst 0, 1) := by decide +kernel
theorem dX11_examineRow_21 : decode cX11_examineRow 21 = .ok (.bipush (-9), 2) := by decide +kernel
theorem dX11_examineRow_23 : decode cX11_examineRow 23 = .ok (.iconst 0, 1) := by decide +kernel
theorem dX11_examineRow_24 : decode cX11_examineRow 24 = .ok (.invokevirtual 308, 3) := by decide +kernel
theorem dX11_examineRow_27 : decode cX11_examineRow 27 = .ok (.return_, 1) := by decide +kernel
theorem dX11_examineRow_28 : decode cX11_examineRow 28 = .ok (.aload_n 0, 1) := by decide +kernel
theorem dX11_examineRow_29 : decode cX11_examineRow 29 = .ok (.getfield 26, 3) := by decide +kernel
theorem dX11_examineRow_32 : decode cX11_examineRow 32 = .ok (.getfield 180, 3) := by decide +kernel
theorem dX11_examineRow_35 : decode cX11_examineRow 35 = .ok (.iconst 0, 1) := by decide +kernel
theorem dX11_examineRow_36 : decode cX11_examineRow 36 = .ok (.aload_n 0, 1) := by decide +kernel
theorem dX11_examineRow_37 : decode cX11_examineRow 37 = .ok (.getfield 76, 3) := by decide +kernel
theorem dX11_examineRow_40 : decode cX11_examineRow 40 = .ok (.iconst 0, 1) := by decide +kernel
theorem dX11_examineRow_41 : decode cX11_examineRow 41 = .ok (.bipush 8, 2) := by decide +kernel
theorem dX11_examineRow_43 : decode cX11_examineRow 43 = .ok (.invokestatic 312, 3) := by decide +kernel
theorem dX11_examineRow_46 : decode cX11_examineRow 46 = .ok (.aload_n 0, 1) := by decide +kernel
theorem dX11_examineRow_47 : decode cX11_examineRow 47 = .ok (.getfield 26, 3) := by decide +kernel
theorem dX11_examineRow_50 : decode cX11_examineRow 50 = .ok (.getfield 131, 3) := by decide +kernel
theorem dX11_examineRow_53 : decode cX11_examineRow 53 = .ok (.istore_n 1, 1) := by decide +kernel
theorem dX11_examineRow_54 : decode cX11_examineRow 54 = .ok (.iconst 0, 1) := by decide +kernel
theorem dX11_examineRow_55 : decode cX11_examineRow 55 = .ok (.istore_n 2, 1) := by decide +kernel
theorem dX11_examineRow_56 : decode cX11_examineRow 56 = .ok (.iload_n 2, 1) := by decide +kernel
theorem dX11_examineRow_57 : decode cX11_examineRow 57 = .ok (.aload_n 0, 1) := by decide +kernel
theorem dX11_examineRow_58 : decode cX11_examineRow 58 = .ok (.getfield 82, 3) := by decide +kernel
theorem dX11_examineRow_61 : decode cX11_examineRow 61 = .ok (.if_icmp .ge 42, 3) := by decide +kernel
theorem dX11_examineRow_64 : decode cX11_examineRow 64 = .ok (.aload_n 0, 1) := by decide +kernel
theorem dX11_examineRow_65 : decode cX11_examineRow 65 = .ok (.iload_n 2, 1) := by decide +kernel
theorem dX11_examineRow_66 : decode cX11_examineRow 66 = .ok (.iload_n 1, 1) := by decide +kernel
theorem dX11_examineRow_67 : decode cX11_examineRow 67 = .ok (.invokevirtual 318, 3) := by decide +kernel
theorem dX11_examineRow_70 : decode cX11_examineRow 70 = .ok (.ifCond .ne 4, 3) := by decide +kernel
theorem dX11_examineRow_73 : decode cX11_examineRow 73 = .ok (.return_, 1) := by decide +kernel
theorem dX11_examineRow_74 : decode cX11_examineRow 74 = .ok (.aload_n 0, 1) := by decide +kernel
theorem dX11_examineRow_75 : decode cX11_examineRow 75 = .ok (.getfield 26, 3) := by decide +kernel
theorem dX11_examineRow_78 : decode cX11_examineRow 78 = .ok (.getfield 186, 3) := by decide +kernel
theorem dX11_examineRow_81 : decode cX11_examineRow 81 = .ok (.aload_n 0, 1) := by decide +kernel
theorem dX11_examineRow_82 : decode cX11_examineRow 82 = .ok (.getfield 19, 3) := by decide +kernel
theorem dX11_examineRow_85 : decode cX11_examineRow 85 = .ok (.getfield 155, 3) := by decide +kernel
theorem dX11_examineRow_88 : decode cX11_examineRow 88 = .ok (.aload_n 0, 1) := by decide +kernel
theorem dX11_examineRow_89 : decode cX11_examineRow 89 = .ok (.getfield 66, 3) := by decide +kernel
theorem dX11_examineRow_92 : decode cX11_examineRow 92 = .ok (.iload_n 2, 1) := by decide +kernel
theorem dX11_examineRow_93 : decode cX11_examineRow 93 = .ok (.iaload, 1) := by decide +kernel
theorem dX11_examineRow_94 : decode cX11_examineRow 94 = .ok (.iaload, 1) := by decide +kernel
theorem dX11_examineRow_95 : decode cX11_examineRow 95 = .ok (.iaload, 1) := by decide +kernel
theorem dX11_examineRow_96 : decode cX11_examineRow 96 = .ok (.istore_n 1, 1) := by decide +kernel
theorem dX11_examineRow_97 : decode cX11_examineRow 97 = .ok (.iinc 2 1, 3) := by decide +kernel
theorem dX11_examineRow_100 : decode cX11_examineRow 100 = .ok (.goto (-44), 3) := by decide +kernel
theorem dX11_examineRow_103 : decode cX11_examineRow 103 = .ok (.aload_n 0, 1) := by decide +kernel
theorem dX11_examineRow_104 : decode cX11_examineRow 104 = .ok (.invokevirtual 322, 3) := by decide +kernel
theorem dX11_examineRow_107 : decode cX11_examineRow 107 = .ok (.return_, 1) := by decide +kernel
theorem dX11_passesAt_0 : decode cX11_passesAt 0 = .ok (.aload_n 0, 1) := by decide +kernel
theorem dX11_passesAt_1 : decode cX11_passesAt 1 = .ok (.getfield 66, 3) := by decide +kernel
theorem dX11_passesAt_4 : decode cX11_passesAt 4 = .ok (.iload_n 1, 1) := by decide +kernel
theorem dX11_passesAt_5 : decode cX11_passesAt 5 = .ok (.iaload, 1) := by decide +kernel
theorem dX11_passesAt_6 : decode cX11_passesAt 6 = .ok (.istore_n 3, 1) := by decide +kernel
theorem dX11_passesAt_7 : decode cX11_passesAt 7 = .ok (.aload_n 0, 1) := by decide +kernel
theorem dX11_passesAt_8 : decode cX11_passesAt 8 = .ok (.getfield 26, 3) := by decide +kernel
theorem dX11_passesAt_11 : decode cX11_passesAt 11 = .ok (.getfield 128, 3) := by decide +kernel
theorem dX11_passesAt_14 : decode cX11_passesAt 14 = .ok (.iload_n 3, 1) := by decide +kernel
theorem dX11_passesAt_15 : decode cX11_passesAt 15 = .ok (.ishr, 1) := by decide +kernel
theorem dX11_passesAt_16 : decode cX11_passesAt 16 = .ok (.iconst 1, 1) := by decide +kernel
theorem dX11_passesAt_17 : decode cX11_passesAt 17 = .ok (.iand, 1) := by decide +kernel
theorem dX11_passesAt_18 : decode cX11_passesAt 18 = .ok (.ifCond .eq 14, 3) := by decide +kernel
theorem dX11_passesAt_21 : decode cX11_passesAt 21 = .ok (.aload_n 0, 1) := by decide +kernel
theorem dX11_passesAt_22 : decode cX11_passesAt 22 = .ok (.iconst 1, 1) := by decide +kernel
theorem dX11_passesAt_23 : decode cX11_passesAt 23 = .ok (.iload_n 1, 1) := by decide +kernel
theorem dX11_passesAt_24 : decode cX11_passesAt 24 = .ok (.bipush (-9), 2) := by decide +kernel
theorem dX11_passesAt_26 : decode cX11_passesAt 26 = .ok (.iconst 0, 1) := by decide +kernel
theorem dX11_passesAt_27 : decode cX11_passesAt 27 = .ok (.invokevirtual 308, 3) := by decide +kernel
theorem dX11_passesAt_30 : decode cX11_passesAt 30 = .ok (.iconst 0, 1) := by decide +kernel
theorem dX11_passesAt_31 : decode cX11_passesAt 31 = .ok (.ireturn, 1) := by decide +kernel
theorem dX11_passesAt_32 : decode cX11_passesAt 32 = .ok (.iload_n 2, 1) := by decide +kernel
theorem dX11_passesAt_33 : decode cX11_passesAt 33 = .ok (.aload_n 0, 1) := by decide +kernel
theorem dX11_passesAt_34 : decode cX11_passesAt 34 = .ok (.getfield 19, 3) := by decide +kernel
theorem dX11_passesAt_37 : decode cX11_passesAt 37 = .ok (.getfield 155, 3) := by decide +kernel
theorem dX11_passesAt_40 : decode cX11_passesAt 40 = .ok (.iload_n 3, 1) := by decide +kernel
theorem dX11_passesAt_41 : decode cX11_passesAt 41 = .ok (.iaload, 1) := by decide +kernel
theorem dX11_passesAt_42 : decode cX11_passesAt 42 = .ok (.ishr, 1) := by decide +kernel
theorem dX11_passesAt_43 : decode cX11_passesAt 43 = .ok (.iconst 1, 1) := by decide +kernel
theorem dX11_passesAt_44 : decode cX11_passesAt 44 = .ok (.iand, 1) := by decide +kernel
theorem dX11_passesAt_45 : decode cX11_passesAt 45 = .ok (.ifCond .ne 14, 3) := by decide +kernel
theorem dX11_passesAt_48 : decode cX11_passesAt 48 = .ok (.aload_n 0, 1) := by decide +kernel
theorem dX11_passesAt_49 : decode cX11_passesAt 49 = .ok (.iconst 2, 1) := by decide +kernel
theorem dX11_passesAt_50 : decode cX11_passesAt 50 = .ok (.iload_n 1, 1) := by decide +kernel
theorem dX11_passesAt_51 : decode cX11_passesAt 51 = .ok (.bipush (-9), 2) := by decide +kernel
theorem dX11_passesAt_53 : decode cX11_passesAt 53 = .ok (.iconst 0, 1) := by decide +kernel
theorem dX11_passesAt_54 : decode cX11_passesAt 54 = .ok (.invokevirtual 308, 3) := by decide +kernel
theorem dX11_passesAt_57 : decode cX11_passesAt 57 = .ok (.iconst 0, 1) := by decide +kernel
theorem dX11_passesAt_58 : decode cX11_passesAt 58 = .ok (.ireturn, 1) := by decide +kernel
theorem dX11_passesAt_59 : decode cX11_passesAt 59 = .ok (.iconst 0, 1) := by decide +kernel
theorem dX11_passesAt_60 : decode cX11_passesAt 60 = .ok (.istore 4, 2) := by decide +kernel
theorem dX11_passesAt_62 : decode cX11_passesAt 62 = .ok (.iload 4, 2) := by decide +kernel
theorem dX11_passesAt_64 : decode cX11_passesAt 64 = .ok (.aload_n 0, 1) := by decide +kernel
theorem dX11_passesAt_65 : decode cX11_passesAt 65 = .ok (.getfield 19, 3) := by decide +kernel
theorem dX11_passesAt_68 : decode cX11_passesAt 68 = .ok (.getfield 152, 3) := by decide +kernel
theorem dX11_passesAt_71 : decode cX11_passesAt 71 = .ok (.iload_n 3, 1) := by decide +kernel
theorem dX11_passesAt_72 : decode cX11_passesAt 72 = .ok (.iaload, 1) := by decide +kernel
theorem dX11_passesAt_73 : decode cX11_passesAt 73 = .ok (.if_icmp .ge 58, 3) := by decide +kernel
theorem dX11_passesAt_76 : decode cX11_passesAt 76 = .ok (.aload_n 0, 1) := by decide +kernel
theorem dX11_passesAt_77 : decode cX11_passesAt 77 = .ok (.getfield 19, 3) := by decide +kernel
theorem dX11_passesAt_80 : decode cX11_passesAt 80 = .ok (.iload_n 3, 1) := by decide +kernel
theorem dX11_passesAt_81 : decode cX11_passesAt 81 = .ok (.iload 4, 2) := by decide +kernel
theorem dX11_passesAt_83 : decode cX11_passesAt 83 = .ok (.invokevirtual 325, 3) := by decide +kernel
theorem dX11_passesAt_86 : decode cX11_passesAt 86 = .ok (.istore 5, 2) := by decide +kernel
theorem dX11_passesAt_88 : decode cX11_passesAt 88 = .ok (.aload_n 0, 1) := by decide +kernel
theorem dX11_passesAt_89 : decode cX11_passesAt 89 = .ok (.getfield 19, 3) := by decide +kernel
theorem dX11_passesAt_92 : decode cX11_passesAt 92 = .ok (.iload_n 3, 1) := by decide +kernel
theorem dX11_passesAt_93 : decode cX11_passesAt 93 = .ok (.iload 5, 2) := by decide +kernel
theorem dX11_passesAt_95 : decode cX11_passesAt 95 = .ok (.invokevirtual 300, 3) := by decide +kernel
theorem dX11_passesAt_98 : decode cX11_passesAt 98 = .ok (.aload_n 0, 1) := by decide +kernel
theorem dX11_passesAt_99 : decode cX11_passesAt 99 = .ok (.getfield 76, 3) := by decide +kernel
theorem dX11_passesAt_102 : decode cX11_passesAt 102 = .ok (.iload 5, 2) := by decide +kernel
theorem dX11_passesAt_104 : decode cX11_passesAt 104 = .ok (.iaload, 1) := by decide +kernel
theorem dX11_passesAt_105 : decode cX11_passesAt 105 = .ok (.isub, 1) := by decide +kernel
theorem dX11_passesAt_106 : decode cX11_passesAt 106 = .ok (.istore 6, 2) := by decide +kernel
theorem dX11_passesAt_108 : decode cX11_passesAt 108 = .ok (.iload 6, 2) := by decide +kernel
theorem dX11_passesAt_110 : decode cX11_passesAt 110 = .ok (.ifCond .le 15, 3) := by decide +kernel
theorem dX11_passesAt_113 : decode cX11_passesAt 113 = .ok (.aload_n 0, 1) := by decide +kernel
theorem dX11_passesAt_114 : decode cX11_passesAt 114 = .ok (.iconst 3, 1) := by decide +kernel
theorem dX11_passesAt_115 : decode cX11_passesAt 115 = .ok (.iload_n 1, 1) := by decide +kernel
theorem dX11_passesAt_116 : decode cX11_passesAt 116 = .ok (.iload 5, 2) := by decide +kernel
theorem dX11_passesAt_118 : decode cX11_passesAt 118 = .ok (.iload 6, 2) := by decide +kernel
theorem dX11_passesAt_120 : decode cX11_passesAt 120 = .ok (.invokevirtual 308, 3) := by decide +kernel
theorem dX11_passesAt_123 : decode cX11_passesAt 123 = .ok (.iconst 0, 1) := by decide +kernel
theorem dX11_passesAt_124 : decode cX11_passesAt 124 = .ok (.ireturn, 1) := by decide +kernel
theorem dX11_passesAt_125 : decode cX11_passesAt 125 = .ok (.iinc 4 1, 3) := by decide +kernel
theorem dX11_passesAt_128 : decode cX11_passesAt 128 = .ok (.goto (-66), 3) := by decide +kernel
theorem dX11_passesAt_131 : decode cX11_passesAt 131 = .ok (.iconst 0, 1) := by decide +kernel
theorem dX11_passesAt_132 : decode cX11_passesAt 132 = .ok (.istore 4, 2) := by decide +kernel
theorem dX11_passesAt_134 : decode cX11_passesAt 134 = .ok (.iload 4, 2) := by decide +kernel
theorem dX11_passesAt_136 : decode cX11_passesAt 136 = .ok (.bipush 8, 2) := by decide +kernel
theorem dX11_passesAt_138 : decode cX11_passesAt 138 = .ok (.if_icmp .ge 29, 3) := by decide +kernel
theorem dX11_passesAt_141 : decode cX11_passesAt 141 = .ok (.aload_n 0, 1) := by decide +kernel
theorem dX11_passesAt_142 : decode cX11_passesAt 142 = .ok (.getfield 76, 3) := by decide +kernel
theorem dX11_passesAt_145 : decode cX11_passesAt 145 = .ok (.iload 4, 2) := by decide +kernel
theorem dX11_passesAt_147 : decode cX11_passesAt 147 = .ok (.dup2, 1) := by decide +kernel
theorem dX11_passesAt_148 : decode cX11_passesAt 148 = .ok (.iaload, 1) := by decide +kernel
theorem dX11_passesAt_149 : decode cX11_passesAt 149 = .ok (.aload_n 0, 1) := by decide +kernel
theorem dX11_passesAt_150 : decode cX11_passesAt 150 = .ok (.getfield 19, 3) := by decide +kernel
theorem dX11_passesAt_153 : decode cX11_passesAt 153 = .ok (.iload_n 3, 1) := by decide +kernel
theorem dX11_passesAt_154 : decode cX11_passesAt 154 = .ok (.iload 4, 2) := by decide +kernel
theorem dX11_passesAt_156 : decode cX11_passesAt 156 = .ok (.invokevirtual 300, 3) := by decide +kernel
theorem dX11_passesAt_159 : decode cX11_passesAt 159 = .ok (.isub, 1) := by decide +kernel
theorem dX11_passesAt_160 : decode cX11_passesAt 160 = .ok (.iastore, 1) := by decide +kernel
theorem dX11_passesAt_161 : decode cX11_passesAt 161 = .ok (.iinc 4 1, 3) := by decide +kernel
theorem dX11_passesAt_164 : decode cX11_passesAt 164 = .ok (.goto (-30), 3) := by decide +kernel
theorem dX11_passesAt_167 : decode cX11_passesAt 167 = .ok (.iconst 1, 1) := by decide +kernel
theorem dX11_passesAt_168 : decode cX11_passesAt 168 = .ok (.ireturn, 1) := by decide +kernel
theorem dX11_examineEnd_0 : decode cX11_examineEnd 0 = .ok (.iconst 0, 1) := by decide +kernel
theorem dX11_examineEnd_1 : decode cX11_examineEnd 1 = .ok (.istore_n 1, 1) := by decide +kernel
theorem dX11_examineEnd_2 : decode cX11_examineEnd 2 = .ok (.iload_n 1, 1) := by decide +kernel
theorem dX11_examineEnd_3 : decode cX11_examineEnd 3 = .ok (.bipush 8, 2) := by decide +kernel
theorem dX11_examineEnd_5 : decode cX11_examineEnd 5 = .ok (.if_icmp .ge 35, 3) := by decide +kernel
theorem dX11_examineEnd_8 : decode cX11_examineEnd 8 = .ok (.aload_n 0, 1) := by decide +kernel
theorem dX11_examineEnd_9 : decode cX11_examineEnd 9 = .ok (.getfield 76, 3) := by decide +kernel
theorem dX11_examineEnd_12 : decode cX11_examineEnd 12 = .ok (.iload_n 1, 1) := by decide +kernel
theorem dX11_examineEnd_13 : decode cX11_examineEnd 13 = .ok (.iaload, 1) := by decide +kernel
theorem dX11_examineEnd_14 : decode cX11_examineEnd 14 = .ok (.ifCond .le 20, 3) := by decide +kernel
theorem dX11_examineEnd_17 : decode cX11_examineEnd 17 = .ok (.aload_n 0, 1) := by decide +kernel
theorem dX11_examineEnd_18 : decode cX11_examineEnd 18 = .ok (.iconst 4, 1) := by decide +kernel
theorem dX11_examineEnd_19 : decode cX11_examineEnd 19 = .ok (.aload_n 0, 1) := by decide +kernel
theorem dX11_examineEnd_20 : decode cX11_examineEnd 20 = .ok (.getfield 82, 3) := by decide +kernel
theorem dX11_examineEnd_23 : decode cX11_examineEnd 23 = .ok (.iload_n 1, 1) := by decide +kernel
theorem dX11_examineEnd_24 : decode cX11_examineEnd 24 = .ok (.aload_n 0, 1) := by decide +kernel
theorem dX11_examineEnd_25 : decode cX11_examineEnd 25 = .ok (.getfield 76, 3) := by decide +kernel
theorem dX11_examineEnd_28 : decode cX11_examineEnd 28 = .ok (.iload_n 1, 1) := by decide +kernel
theorem dX11_examineEnd_29 : decode cX11_examineEnd 29 = .ok (.iaload, 1) := by decide +kernel
theorem dX11_examineEnd_30 : decode cX11_examineEnd 30 = .ok (.invokevirtual 308, 3) := by decide +kernel
theorem dX11_examineEnd_33 : decode cX11_examineEnd 33 = .ok (.return_, 1) := by decide +kernel
theorem dX11_examineEnd_34 : decode cX11_examineEnd 34 = .ok (.iinc 1 1, 3) := by decide +kernel
theorem dX11_examineEnd_37 : decode cX11_examineEnd 37 = .ok (.goto (-35), 3) := by decide +kernel
theorem dX11_examineEnd_40 : decode cX11_examineEnd 40 = .ok (.aload_n 0, 1) := by decide +kernel
theorem dX11_examineEnd_41 : decode cX11_examineEnd 41 = .ok (.getfield 19, 3) := by decide +kernel
theorem dX11_examineEnd_44 : decode cX11_examineEnd 44 = .ok (.getfield 155, 3) := by decide +kernel
theorem dX11_examineEnd_47 : decode cX11_examineEnd 47 = .ok (.aload_n 0, 1) := by decide +kernel
theorem dX11_examineEnd_48 : decode cX11_examineEnd 48 = .ok (.getfield 66, 3) := by decide +kernel
theorem dX11_examineEnd_51 : decode cX11_examineEnd 51 = .ok (.aload_n 0, 1) := by decide +kernel
theorem dX11_examineEnd_52 : decode cX11_examineEnd 52 = .ok (.getfield 82, 3) := by decide +kernel
theorem dX11_examineEnd_55 : decode cX11_examineEnd 55 = .ok (.iconst 1, 1) := by decide +kernel
theorem dX11_examineEnd_56 : decode cX11_examineEnd 56 = .ok (.isub, 1) := by decide +kernel
theorem dX11_examineEnd_57 : decode cX11_examineEnd 57 = .ok (.iaload, 1) := by decide +kernel
theorem dX11_examineEnd_58 : decode cX11_examineEnd 58 = .ok (.iaload, 1) := by decide +kernel
theorem dX11_examineEnd_59 : decode cX11_examineEnd 59 = .ok (.istore_n 1, 1) := by decide +kernel
theorem dX11_examineEnd_60 : decode cX11_examineEnd 60 = .ok (.aload_n 0, 1) := by decide +kernel
theorem dX11_examineEnd_61 : decode cX11_examineEnd 61 = .ok (.getfield 26, 3) := by decide +kernel
theorem dX11_examineEnd_64 : decode cX11_examineEnd 64 = .ok (.getfield 134, 3) := by decide +kernel
theorem dX11_examineEnd_67 : decode cX11_examineEnd 67 = .ok (.iload_n 1, 1) := by decide +kernel
theorem dX11_examineEnd_68 : decode cX11_examineEnd 68 = .ok (.ishr, 1) := by decide +kernel
theorem dX11_examineEnd_69 : decode cX11_examineEnd 69 = .ok (.iconst 1, 1) := by decide +kernel
theorem dX11_examineEnd_70 : decode cX11_examineEnd 70 = .ok (.iand, 1) := by decide +kernel
theorem dX11_examineEnd_71 : decode cX11_examineEnd 71 = .ok (.ifCond .ne 15, 3) := by decide +kernel
theorem dX11_examineEnd_74 : decode cX11_examineEnd 74 = .ok (.aload_n 0, 1) := by decide +kernel
theorem dX11_examineEnd_75 : decode cX11_examineEnd 75 = .ok (.iconst 5, 1) := by decide +kernel
theorem dX11_examineEnd_76 : decode cX11_examineEnd 76 = .ok (.aload_n 0, 1) := by decide +kernel
theorem dX11_examineEnd_77 : decode cX11_examineEnd 77 = .ok (.getfield 82, 3) := by decide +kernel
theorem dX11_examineEnd_80 : decode cX11_examineEnd 80 = .ok (.bipush (-9), 2) := by decide +kernel
theorem dX11_examineEnd_82 : decode cX11_examineEnd 82 = .ok (.iconst 0, 1) := by decide +kernel
theorem dX11_examineEnd_83 : decode cX11_examineEnd 83 = .ok (.invokevirtual 308, 3) := by decide +kernel
theorem dX11_examineEnd_86 : decode cX11_examineEnd 86 = .ok (.return_, 1) := by decide +kernel
theorem dX11_lettersMending_0 : decode cX11_lettersMending 0 = .ok (.iconst 0, 1) := by decide +kernel
theorem dX11_lettersMending_1 : decode cX11_lettersMending 1 = .ok (.istore_n 3, 1) := by decide +kernel
theorem dX11_lettersMending_2 : decode cX11_lettersMending 2 = .ok (.iconst 0, 1) := by decide +kernel
theorem dX11_lettersMending_3 : decode cX11_lettersMending 3 = .ok (.istore 4, 2) := by decide +kernel
theorem dX11_lettersMending_5 : decode cX11_lettersMending 5 = .ok (.iload 4, 2) := by decide +kernel
theorem dX11_lettersMending_7 : decode cX11_lettersMending 7 = .ok (.bipush 8, 2) := by decide +kernel
theorem dX11_lettersMending_9 : decode cX11_lettersMending 9 = .ok (.if_icmp .ge 69, 3) := by decide +kernel
theorem dX11_lettersMending_12 : decode cX11_lettersMending 12 = .ok (.iload_n 1, 1) := by decide +kernel
theorem dX11_lettersMending_13 : decode cX11_lettersMending 13 = .ok (.iconst 1, 1) := by decide +kernel
theorem dX11_lettersMending_14 : decode cX11_lettersMending 14 = .ok (.if_icmp .ne 19, 3) := by decide +kernel
theorem dX11_lettersMending_17 : decode cX11_lettersMending 17 = .ok (.aload_n 0, 1) := by decide +kernel
theorem dX11_lettersMending_18 : decode cX11_lettersMending 18 = .ok (.getfield 26, 3) := by decide +kernel
theorem dX11_lettersMending_21 : decode cX11_lettersMending 21 = .ok (.getfield 180, 3) := by decide +kernel
theorem dX11_lettersMending_24 : decode cX11_lettersMending 24 = .ok (.iload 4, 2) := by decide +kernel
theorem dX11_lettersMending_26 : decode cX11_lettersMending 26 = .ok (.iaload, 1) := by decide +kernel
theorem dX11_lettersMending_27 : decode cX11_lettersMending 27 = .ok (.ifCond .ne 6, 3) := by decide +kernel
theorem dX11_lettersMending_30 : decode cX11_lettersMending 30 = .ok (.goto 42, 3) := by decide +kernel
theorem dX11_lettersMending_33 : decode cX11_lettersMending 33 = .ok (.aload_n 0, 1) := by decide +kernel
theorem dX11_lettersMending_34 : decode cX11_lettersMending 34 = .ok (.getfield 26, 3) := by decide +kernel
theorem dX11_lettersMending_37 : decode cX11_lettersMending 37 = .ok (.iload_n 1, 1) := by decide +kernel
theorem dX11_lettersMending_38 : decode cX11_lettersMending 38 = .ok (.iload 4, 2) := by decide +kernel
theorem dX11_lettersMending_40 : decode cX11_lettersMending 40 = .ok (.iconst 0, 1) := by decide +kernel
theorem dX11_lettersMending_41 : decode cX11_lettersMending 41 = .ok (.invokevirtual 279, 3) := by decide +kernel
theorem dX11_lettersMending_44 : decode cX11_lettersMending 44 = .ok (.aload_n 0, 1) := by decide +kernel
theorem dX11_lettersMending_45 : decode cX11_lettersMending 45 = .ok (.getfield 53, 3) := by decide +kernel
theorem dX11_lettersMending_48 : decode cX11_lettersMending 48 = .ok (.invokevirtual 328, 3) := by decide +kernel
theorem dX11_lettersMending_51 : decode cX11_lettersMending 51 = .ok (.ifCond .eq 10, 3) := by decide +kernel
theorem dX11_lettersMending_54 : decode cX11_lettersMending 54 = .ok (.iload_n 3, 1) := by decide +kernel
theorem dX11_lettersMending_55 : decode cX11_lettersMending 55 = .ok (.iconst 1, 1) := by decide +kernel
theorem dX11_lettersMending_56 : decode cX11_lettersMending 56 = .ok (.iload 4, 2) := by decide +kernel
theorem dX11_lettersMending_58 : decode cX11_lettersMending 58 = .ok (.ishl, 1) := by decide +kernel
theorem dX11_lettersMending_59 : decode cX11_lettersMending 59 = .ok (.ior, 1) := by decide +kernel
theorem dX11_lettersMending_60 : decode cX11_lettersMending 60 = .ok (.istore_n 3, 1) := by decide +kernel
theorem dX11_lettersMending_61 : decode cX11_lettersMending 61 = .ok (.aload_n 0, 1) := by decide +kernel
theorem dX11_lettersMending_62 : decode cX11_lettersMending 62 = .ok (.getfield 26, 3) := by decide +kernel
theorem dX11_lettersMending_65 : decode cX11_lettersMending 65 = .ok (.iload_n 2, 1) := by decide +kernel
theorem dX11_lettersMending_66 : decode cX11_lettersMending 66 = .ok (.iload 4, 2) := by decide +kernel
theorem dX11_lettersMending_68 : decode cX11_lettersMending 68 = .ok (.iconst 0, 1) := by decide +kernel
theorem dX11_lettersMending_69 : decode cX11_lettersMending 69 = .ok (.invokevirtual 279, 3) := by decide +kernel
theorem dX11_lettersMending_72 : decode cX11_lettersMending 72 = .ok (.iinc 4 1, 3) := by decide +kernel
theorem dX11_lettersMending_75 : decode cX11_lettersMending 75 = .ok (.goto (-70), 3) := by decide +kernel
theorem dX11_lettersMending_78 : decode cX11_lettersMending 78 = .ok (.iload_n 3, 1) := by decide +kernel
theorem dX11_lettersMending_79 : decode cX11_lettersMending 79 = .ok (.ireturn, 1) := by decide +kernel
theorem dX11_comesTrue_0 : decode cX11_comesTrue 0 = .ok (.iload_n 1, 1) := by decide +kernel
theorem dX11_comesTrue_1 : decode cX11_comesTrue 1 = .ok (.bipush 100, 2) := by decide +kernel
theorem dX11_comesTrue_3 : decode cX11_comesTrue 3 = .ok (.idiv, 1) := by decide +kernel
theorem dX11_comesTrue_4 : decode cX11_comesTrue 4 = .ok (.bipush 10, 2) := by decide +kernel
theorem dX11_comesTrue_6 : decode cX11_comesTrue 6 = .ok (.irem, 1) := by decide +kernel
theorem dX11_comesTrue_7 : decode cX11_comesTrue 7 = .ok (.istore_n 2, 1) := by decide +kernel
theorem dX11_comesTrue_8 : decode cX11_comesTrue 8 = .ok (.iload_n 1, 1) := by decide +kernel
theorem dX11_comesTrue_9 : decode cX11_comesTrue 9 = .ok (.bipush 100, 2) := by decide +kernel
theorem dX11_comesTrue_11 : decode cX11_comesTrue 11 = .ok (.irem, 1) := by decide +kernel
theorem dX11_comesTrue_12 : decode cX11_comesTrue 12 = .ok (.istore_n 3, 1) := by decide +kernel
theorem dX11_comesTrue_13 : decode cX11_comesTrue 13 = .ok (.iload_n 1, 1) := by decide +kernel
theorem dX11_comesTrue_14 : decode cX11_comesTrue 14 = .ok (.sipush 1000, 3) := by decide +kernel
theorem dX11_comesTrue_17 : decode cX11_comesTrue 17 = .ok (.idiv, 1) := by decide +kernel
theorem dX11_comesTrue_18 : decode cX11_comesTrue 18 = .ok (.tableswitch 286 1 7 #[42, 81, 120, 151, 174, 211, 255], 42) := by decide +kernel
theorem dX11_comesTrue_60 : decode cX11_comesTrue 60 = .ok (.iload_n 2, 1) := by decide +kernel
theorem dX11_comesTrue_61 : decode cX11_comesTrue 61 = .ok (.invokestatic 174, 3) := by decide +kernel
theorem dX11_comesTrue_64 : decode cX11_comesTrue 64 = .ok (.ifCond .eq 33, 3) := by decide +kernel
theorem dX11_comesTrue_67 : decode cX11_comesTrue 67 = .ok (.iload_n 3, 1) := by decide +kernel
theorem dX11_comesTrue_68 : decode cX11_comesTrue 68 = .ok (.ifCond .ne 29, 3) := by decide +kernel
theorem dX11_comesTrue_71 : decode cX11_comesTrue 71 = .ok (.aload_n 0, 1) := by decide +kernel
theorem dX11_comesTrue_72 : decode cX11_comesTrue 72 = .ok (.getfield 26, 3) := by decide +kernel
theorem dX11_comesTrue_75 : decode cX11_comesTrue 75 = .ok (.invokevirtual 122, 3) := by decide +kernel
theorem dX11_comesTrue_78 : decode cX11_comesTrue 78 = .ok (.bipush 12, 2) := by decide +kernel
theorem dX11_comesTrue_80 : decode cX11_comesTrue 80 = .ok (.if_icmp .ge 17, 3) := by decide +kernel
theorem dX11_comesTrue_83 : decode cX11_comesTrue 83 = .ok (.aload_n 0, 1) := by decide +kernel
theorem dX11_comesTrue_84 : decode cX11_comesTrue 84 = .ok (.iconst 0, 1) := by decide +kernel
theorem dX11_comesTrue_85 : decode cX11_comesTrue 85 = .ok (.iload_n 2, 1) := by decide +kernel
theorem dX11_comesTrue_86 : decode cX11_comesTrue 86 = .ok (.iconst 0, 1) := by decide +kernel
theorem dX11_comesTrue_87 : decode cX11_comesTrue 87 = .ok (.invokevirtual 331, 3) := by decide +kernel
theorem dX11_comesTrue_90 : decode cX11_comesTrue 90 = .ok (.ifCond .eq 7, 3) := by decide +kernel
theorem dX11_comesTrue_93 : decode cX11_comesTrue 93 = .ok (.iconst 1, 1) := by decide +kernel
theorem dX11_comesTrue_94 : decode cX11_comesTrue 94 = .ok (.goto 4, 3) := by decide +kernel
theorem dX11_comesTrue_97 : decode cX11_comesTrue 97 = .ok (.iconst 0, 1) := by decide +kernel
theorem dX11_comesTrue_98 : decode cX11_comesTrue 98 = .ok (.ireturn, 1) := by decide +kernel
theorem dX11_comesTrue_99 : decode cX11_comesTrue 99 = .ok (.iload_n 2, 1) := by decide +kernel
theorem dX11_comesTrue_100 : decode cX11_comesTrue 100 = .ok (.invokestatic 174, 3) := by decide +kernel
theorem dX11_comesTrue_103 : decode cX11_comesTrue 103 = .ok (.ifCond .eq 33, 3) := by decide +kernel
theorem dX11_comesTrue_106 : decode cX11_comesTrue 106 = .ok (.iload_n 3, 1) := by decide +kernel
theorem dX11_comesTrue_107 : decode cX11_comesTrue 107 = .ok (.ifCond .ne 29, 3) := by decide +kernel
theorem dX11_comesTrue_110 : decode cX11_comesTrue 110 = .ok (.aload_n 0, 1) := by decide +kernel
theorem dX11_comesTrue_111 : decode cX11_comesTrue 111 = .ok (.getfield 26, 3) := by decide +kernel
theorem dX11_comesTrue_114 : decode cX11_comesTrue 114 = .ok (.getfield 180, 3) := by decide +kernel
theorem dX11_comesTrue_117 : decode cX11_comesTrue 117 = .ok (.iload_n 2, 1) := by decide +kernel
theorem dX11_comesTrue_118 : decode cX11_comesTrue 118 = .ok (.iaload, 1) := by decide +kernel
theorem dX11_comesTrue_119 : decode cX11_comesTrue 119 = .ok (.ifCond .le 17, 3) := by decide +kernel
theorem dX11_comesTrue_122 : decode cX11_comesTrue 122 = .ok (.aload_n 0, 1) := by decide +kernel
theorem dX11_comesTrue_123 : decode cX11_comesTrue 123 = .ok (.iconst 1, 1) := by decide +kernel
theorem dX11_comesTrue_124 : decode cX11_comesTrue 124 = .ok (.iload_n 2, 1) := by decide +kernel
theorem dX11_comesTrue_125 : decode cX11_comesTrue 125 = .ok (.iconst 0, 1) := by decide +kernel
theorem dX11_comesTrue_126 : decode cX11_comesTrue 126 = .ok (.invokevirtual 331, 3) := by decide +kernel
theorem dX11_comesTrue_129 : decode cX11_comesTrue 129 = .ok (.ifCond .eq 7, 3) := by decide +kernel
theorem dX11_comesTrue_132 : decode cX11_comesTrue 132 = .ok (.iconst 1, 1) := by decide +kernel
theorem dX11_comesTrue_133 : decode cX11_comesTrue 133 = .ok (.goto 4, 3) := by decide +kernel
theorem dX11_comesTrue_136 : decode cX11_comesTrue 136 = .ok (.iconst 0, 1) := by decide +kernel
theorem dX11_comesTrue_137 : decode cX11_comesTrue 137 = .ok (.ireturn, 1) := by decide +kernel
theorem dX11_comesTrue_138 : decode cX11_comesTrue 138 = .ok (.aload_n 0, 1) := by decide +kernel
theorem dX11_comesTrue_139 : decode cX11_comesTrue 139 = .ok (.getfield 19, 3) := by decide +kernel
theorem dX11_comesTrue_142 : decode cX11_comesTrue 142 = .ok (.iload_n 2, 1) := by decide +kernel
theorem dX11_comesTrue_143 : decode cX11_comesTrue 143 = .ok (.invokevirtual 149, 3) := by decide +kernel
theorem dX11_comesTrue_146 : decode cX11_comesTrue 146 = .ok (.ifCond .eq 21, 3) := by decide +kernel
theorem dX11_comesTrue_149 : decode cX11_comesTrue 149 = .ok (.iload_n 3, 1) := by decide +kernel
theorem dX11_comesTrue_150 : decode cX11_comesTrue 150 = .ok (.ifCond .ne 17, 3) := by decide +kernel
theorem dX11_comesTrue_153 : decode cX11_comesTrue 153 = .ok (.aload_n 0, 1) := by decide +kernel
theorem dX11_comesTrue_154 : decode cX11_comesTrue 154 = .ok (.iconst 2, 1) := by decide +kernel
theorem dX11_comesTrue_155 : decode cX11_comesTrue 155 = .ok (.iload_n 2, 1) := by decide +kernel
theorem dX11_comesTrue_156 : decode cX11_comesTrue 156 = .ok (.iconst 0, 1) := by decide +kernel
theorem dX11_comesTrue_157 : decode cX11_comesTrue 157 = .ok (.invokevirtual 331, 3) := by decide +kernel
theorem dX11_comesTrue_160 : decode cX11_comesTrue 160 = .ok (.ifCond .eq 7, 3) := by decide +kernel
theorem dX11_comesTrue_163 : decode cX11_comesTrue 163 = .ok (.iconst 1, 1) := by decide +kernel
theorem dX11_comesTrue_164 : decode cX11_comesTrue 164 = .ok (.goto 4, 3) := by decide +kernel
theorem dX11_comesTrue_167 : decode cX11_comesTrue 167 = .ok (.iconst 0, 1) := by decide +kernel
theorem dX11_comesTrue_168 : decode cX11_comesTrue 168 = .ok (.ireturn, 1) := by decide +kernel
theorem dX11_comesTrue_169 : decode cX11_comesTrue 169 = .ok (.iload_n 2, 1) := by decide +kernel
theorem dX11_comesTrue_170 : decode cX11_comesTrue 170 = .ok (.ifCond .ne 20, 3) := by decide +kernel
theorem dX11_comesTrue_173 : decode cX11_comesTrue 173 = .ok (.aload_n 0, 1) := by decide +kernel
theorem dX11_comesTrue_174 : decode cX11_comesTrue 174 = .ok (.getfield 53, 3) := by decide +kernel
theorem dX11_comesTrue_177 : decode cX11_comesTrue 177 = .ok (.invokevirtual 202, 3) := by decide +kernel
theorem dX11_comesTrue_180 : decode cX11_comesTrue 180 = .ok (.iload_n 3, 1) := by decide +kernel
theorem dX11_comesTrue_181 : decode cX11_comesTrue 181 = .ok (.i2l, 1) := by decide +kernel
theorem dX11_comesTrue_182 : decode cX11_comesTrue 182 = .ok (.lcmp, 1) := by decide +kernel
theorem dX11_comesTrue_183 : decode cX11_comesTrue 183 = .ok (.ifCond .ne 7, 3) := by decide +kernel
theorem dX11_comesTrue_186 : decode cX11_comesTrue 186 = .ok (.iconst 1, 1) := by decide +kernel
theorem dX11_comesTrue_187 : decode cX11_comesTrue 187 = .ok (.goto 4, 3) := by decide +kernel
theorem dX11_comesTrue_190 : decode cX11_comesTrue 190 = .ok (.iconst 0, 1) := by decide +kernel
theorem dX11_comesTrue_191 : decode cX11_comesTrue 191 = .ok (.ireturn, 1) := by decide +kernel
theorem dX11_comesTrue_192 : decode cX11_comesTrue 192 = .ok (.aload_n 0, 1) := by decide +kernel
theorem dX11_comesTrue_193 : decode cX11_comesTrue 193 = .ok (.getfield 19, 3) := by decide +kernel
theorem dX11_comesTrue_196 : decode cX11_comesTrue 196 = .ok (.iload_n 2, 1) := by decide +kernel
theorem dX11_comesTrue_197 : decode cX11_comesTrue 197 = .ok (.invokevirtual 149, 3) := by decide +kernel
theorem dX11_comesTrue_200 : decode cX11_comesTrue 200 = .ok (.ifCond .eq 27, 3) := by decide +kernel
theorem dX11_comesTrue_203 : decode cX11_comesTrue 203 = .ok (.iload_n 3, 1) := by decide +kernel
theorem dX11_comesTrue_204 : decode cX11_comesTrue 204 = .ok (.iconst 1, 1) := by decide +kernel
theorem dX11_comesTrue_205 : decode cX11_comesTrue 205 = .ok (.if_icmp .gt 22, 3) := by decide +kernel
theorem dX11_comesTrue_208 : decode cX11_comesTrue 208 = .ok (.aload_n 0, 1) := by decide +kernel
theorem dX11_comesTrue_209 : decode cX11_comesTrue 209 = .ok (.getfield 53, 3) := by decide +kernel
theorem dX11_comesTrue_212 : decode cX11_comesTrue 212 = .ok (.invokevirtual 140, 3) := by decide +kernel
theorem dX11_comesTrue_215 : decode cX11_comesTrue 215 = .ok (.iload_n 2, 1) := by decide +kernel
theorem dX11_comesTrue_216 : decode cX11_comesTrue 216 = .ok (.ishr, 1) := by decide +kernel
theorem dX11_comesTrue_217 : decode cX11_comesTrue 217 = .ok (.iconst 1, 1) := by decide +kernel
theorem dX11_comesTrue_218 : decode cX11_comesTrue 218 = .ok (.iand, 1) := by decide +kernel
theorem dX11_comesTrue_219 : decode cX11_comesTrue 219 = .ok (.iload_n 3, 1) := by decide +kernel
theorem dX11_comesTrue_220 : decode cX11_comesTrue 220 = .ok (.if_icmp .ne 7, 3) := by decide +kernel
theorem dX11_comesTrue_223 : decode cX11_comesTrue 223 = .ok (.iconst 1, 1) := by decide +kernel
theorem dX11_comesTrue_224 : decode cX11_comesTrue 224 = .ok (.goto 4, 3) := by decide +kernel
theorem dX11_comesTrue_227 : decode cX11_comesTrue 227 = .ok (.iconst 0, 1) := by decide +kernel
theorem dX11_comesTrue_228 : decode cX11_comesTrue 228 = .ok (.ireturn, 1) := by decide +kernel
theorem dX11_comesTrue_229 : decode cX11_comesTrue 229 = .ok (.iload_n 2, 1) := by decide +kernel
theorem dX11_comesTrue_230 : decode cX11_comesTrue 230 = .ok (.invokestatic 177, 3) := by decide +kernel
theorem dX11_comesTrue_233 : decode cX11_comesTrue 233 = .ok (.ifCond .eq 38, 3) := by decide +kernel
theorem dX11_comesTrue_236 : decode cX11_comesTrue 236 = .ok (.iload_n 3, 1) := by decide +kernel
theorem dX11_comesTrue_237 : decode cX11_comesTrue 237 = .ok (.bipush 10, 2) := by decide +kernel
theorem dX11_comesTrue_239 : decode cX11_comesTrue 239 = .ok (.idiv, 1) := by decide +kernel
theorem dX11_comesTrue_240 : decode cX11_comesTrue 240 = .ok (.invokestatic 177, 3) := by decide +kernel
theorem dX11_comesTrue_243 : decode cX11_comesTrue 243 = .ok (.ifCond .eq 28, 3) := by decide +kernel
theorem dX11_comesTrue_246 : decode cX11_comesTrue 246 = .ok (.iload_n 3, 1) := by decide +kernel
theorem dX11_comesTrue_247 : decode cX11_comesTrue 247 = .ok (.bipush 10, 2) := by decide +kernel
theorem dX11_comesTrue_249 : decode cX11_comesTrue 249 = .ok (.irem, 1) := by decide +kernel
theorem dX11_comesTrue_250 : decode cX11_comesTrue 250 = .ok (.ifCond .ne 21, 3) := by decide +kernel
theorem dX11_comesTrue_253 : decode cX11_comesTrue 253 = .ok (.aload_n 0, 1) := by decide +kernel
theorem dX11_comesTrue_254 : decode cX11_comesTrue 254 = .ok (.bipush 6, 2) := by decide +kernel
theorem dX11_comesTrue_256 : decode cX11_comesTrue 256 = .ok (.iload_n 2, 1) := by decide +kernel
theorem dX11_comesTrue_257 : decode cX11_comesTrue 257 = .ok (.iload_n 3, 1) := by decide +kernel
theorem dX11_comesTrue_258 : decode cX11_comesTrue 258 = .ok (.bipush 10, 2) := by decide +kernel
theorem dX11_comesTrue_260 : decode cX11_comesTrue 260 = .ok (.idiv, 1) := by decide +kernel
theorem dX11_comesTrue_261 : decode cX11_comesTrue 261 = .ok (.invokevirtual 331, 3) := by decide +kernel
theorem dX11_comesTrue_264 : decode cX11_comesTrue 264 = .ok (.ifCond .eq 7, 3) := by decide +kernel
theorem dX11_comesTrue_267 : decode cX11_comesTrue 267 = .ok (.iconst 1, 1) := by decide +kernel
theorem dX11_comesTrue_268 : decode cX11_comesTrue 268 = .ok (.goto 4, 3) := by decide +kernel
theorem dX11_comesTrue_271 : decode cX11_comesTrue 271 = .ok (.iconst 0, 1) := by decide +kernel
theorem dX11_comesTrue_272 : decode cX11_comesTrue 272 = .ok (.ireturn, 1) := by decide +kernel
theorem dX11_comesTrue_273 : decode cX11_comesTrue 273 = .ok (.iload_n 2, 1) := by decide +kernel
theorem dX11_comesTrue_274 : decode cX11_comesTrue 274 = .ok (.ifCond .ne 28, 3) := by decide +kernel
theorem dX11_comesTrue_277 : decode cX11_comesTrue 277 = .ok (.aload_n 0, 1) := by decide +kernel
theorem dX11_comesTrue_278 : decode cX11_comesTrue 278 = .ok (.getfield 53, 3) := by decide +kernel
theorem dX11_comesTrue_281 : decode cX11_comesTrue 281 = .ok (.invokevirtual 214, 3) := by decide +kernel
theorem dX11_comesTrue_284 : decode cX11_comesTrue 284 = .ok (.ifCond .eq 18, 3) := by decide +kernel
theorem dX11_comesTrue_287 : decode cX11_comesTrue 287 = .ok (.aload_n 0, 1) := by decide +kernel
theorem dX11_comesTrue_288 : decode cX11_comesTrue 288 = .ok (.getfield 53, 3) := by decide +kernel
theorem dX11_comesTrue_291 : decode cX11_comesTrue 291 = .ok (.invokevirtual 218, 3) := by decide +kernel
theorem dX11_comesTrue_294 : decode cX11_comesTrue 294 = .ok (.iload_n 3, 1) := by decide +kernel
theorem dX11_comesTrue_295 : decode cX11_comesTrue 295 = .ok (.if_icmp .ne 7, 3) := by decide +kernel
theorem dX11_comesTrue_298 : decode cX11_comesTrue 298 = .ok (.iconst 1, 1) := by decide +kernel
theorem dX11_comesTrue_299 : decode cX11_comesTrue 299 = .ok (.goto 4, 3) := by decide +kernel
theorem dX11_comesTrue_302 : decode cX11_comesTrue 302 = .ok (.iconst 0, 1) := by decide +kernel
theorem dX11_comesTrue_303 : decode cX11_comesTrue 303 = .ok (.ireturn, 1) := by decide +kernel
theorem dX11_comesTrue_304 : decode cX11_comesTrue 304 = .ok (.iconst 0, 1) := by decide +kernel
theorem dX11_comesTrue_305 : decode cX11_comesTrue 305 = .ok (.ireturn, 1) := by decide +kernel
theorem dX11_performed_0 : decode cX11_performed 0 = .ok (.aload_n 0, 1) := by decide +kernel
theorem dX11_performed_1 : decode cX11_performed 1 = .ok (.iload_n 1, 1) := by decide +kernel
theorem dX11_performed_2 : decode cX11_performed 2 = .ok (.iload_n 2, 1) := by decide +kernel
theorem dX11_performed_3 : decode cX11_performed 3 = .ok (.iload_n 3, 1) := by decide +kernel
theorem dX11_performed_4 : decode cX11_performed 4 = .ok (.invokevirtual 189, 3) := by decide +kernel
theorem dX11_performed_7 : decode cX11_performed 7 = .ok (.iconst 1, 1) := by decide +kernel
theorem dX11_performed_8 : decode cX11_performed 8 = .ok (.ireturn, 1) := by decide +kernel
theorem dX11_foundAgrees_0 : decode cX11_foundAgrees 0 = .ok (.iconst 0, 1) := by decide +kernel
theorem dX11_foundAgrees_1 : decode cX11_foundAgrees 1 = .ok (.istore_n 1, 1) := by decide +kernel
theorem dX11_foundAgrees_2 : decode cX11_foundAgrees 2 = .ok (.iload_n 1, 1) := by decide +kernel
theorem dX11_foundAgrees_3 : decode cX11_foundAgrees 3 = .ok (.aload_n 0, 1) := by decide +kernel
theorem dX11_foundAgrees_4 : decode cX11_foundAgrees 4 = .ok (.getfield 86, 3) := by decide +kernel
theorem dX11_foundAgrees_7 : decode cX11_foundAgrees 7 = .ok (.if_icmp .ge 57, 3) := by decide +kernel
theorem dX11_foundAgrees_10 : decode cX11_foundAgrees 10 = .ok (.aload_n 0, 1) := by decide +kernel
theorem dX11_foundAgrees_11 : decode cX11_foundAgrees 11 = .ok (.getfield 79, 3) := by decide +kernel
theorem dX11_foundAgrees_14 : decode cX11_foundAgrees 14 = .ok (.iload_n 1, 1) := by decide +kernel
theorem dX11_foundAgrees_15 : decode cX11_foundAgrees 15 = .ok (.iconst 3, 1) := by decide +kernel
theorem dX11_foundAgrees_16 : decode cX11_foundAgrees 16 = .ok (.imul, 1) := by decide +kernel
theorem dX11_foundAgrees_17 : decode cX11_foundAgrees 17 = .ok (.iconst 2, 1) := by decide +kernel
theorem dX11_foundAgrees_18 : decode cX11_foundAgrees 18 = .ok (.iadd, 1) := by decide +kernel
theorem dX11_foundAgrees_19 : decode cX11_foundAgrees 19 = .ok (.iaload, 1) := by decide +kernel
theorem dX11_foundAgrees_20 : decode cX11_foundAgrees 20 = .ok (.iconst 1, 1) := by decide +kernel
theorem dX11_foundAgrees_21 : decode cX11_foundAgrees 21 = .ok (.if_icmp .ne 7, 3) := by decide +kernel
theorem dX11_foundAgrees_24 : decode cX11_foundAgrees 24 = .ok (.iconst 1, 1) := by decide +kernel
theorem dX11_foundAgrees_25 : decode cX11_foundAgrees 25 = .ok (.goto 4, 3) := by decide +kernel
theorem dX11_foundAgrees_28 : decode cX11_foundAgrees 28 = .ok (.iconst 0, 1) := by decide +kernel
theorem dX11_foundAgrees_29 : decode cX11_foundAgrees 29 = .ok (.istore_n 2, 1) := by decide +kernel
theorem dX11_foundAgrees_30 : decode cX11_foundAgrees 30 = .ok (.aload_n 0, 1) := by decide +kernel
theorem dX11_foundAgrees_31 : decode cX11_foundAgrees 31 = .ok (.aload_n 0, 1) := by decide +kernel
theorem dX11_foundAgrees_32 : decode cX11_foundAgrees 32 = .ok (.getfield 79, 3) := by decide +kernel
theorem dX11_foundAgrees_35 : decode cX11_foundAgrees 35 = .ok (.iload_n 1, 1) := by decide +kernel
theorem dX11_foundAgrees_36 : decode cX11_foundAgrees 36 = .ok (.iconst 3, 1) := by decide +kernel
theorem dX11_foundAgrees_37 : decode cX11_foundAgrees 37 = .ok (.imul, 1) := by decide +kernel
theorem dX11_foundAgrees_38 : decode cX11_foundAgrees 38 = .ok (.iaload, 1) := by decide +kernel
theorem dX11_foundAgrees_39 : decode cX11_foundAgrees 39 = .ok (.aload_n 0, 1) := by decide +kernel
theorem dX11_foundAgrees_40 : decode cX11_foundAgrees 40 = .ok (.getfield 79, 3) := by decide +kernel
theorem dX11_foundAgrees_43 : decode cX11_foundAgrees 43 = .ok (.iload_n 1, 1) := by decide +kernel
theorem dX11_foundAgrees_44 : decode cX11_foundAgrees 44 = .ok (.iconst 3, 1) := by decide +kernel
theorem dX11_foundAgrees_45 : decode cX11_foundAgrees 45 = .ok (.imul, 1) := by decide +kernel
theorem dX11_foundAgrees_46 : decode cX11_foundAgrees 46 = .ok (.iconst 1, 1) := by decide +kernel
theorem dX11_foundAgrees_47 : decode cX11_foundAgrees 47 = .ok (.iadd, 1) := by decide +kernel
theorem dX11_foundAgrees_48 : decode cX11_foundAgrees 48 = .ok (.iaload, 1) := by decide +kernel
theorem dX11_foundAgrees_49 : decode cX11_foundAgrees 49 = .ok (.invokevirtual 335, 3) := by decide +kernel
theorem dX11_foundAgrees_52 : decode cX11_foundAgrees 52 = .ok (.iload_n 2, 1) := by decide +kernel
theorem dX11_foundAgrees_53 : decode cX11_foundAgrees 53 = .ok (.if_icmp .eq 5, 3) := by decide +kernel
theorem dX11_foundAgrees_56 : decode cX11_foundAgrees 56 = .ok (.iconst 0, 1) := by decide +kernel
theorem dX11_foundAgrees_57 : decode cX11_foundAgrees 57 = .ok (.ireturn, 1) := by decide +kernel
theorem dX11_foundAgrees_58 : decode cX11_foundAgrees 58 = .ok (.iinc 1 1, 3) := by decide +kernel
theorem dX11_foundAgrees_61 : decode cX11_foundAgrees 61 = .ok (.goto (-59), 3) := by decide +kernel
theorem dX11_foundAgrees_64 : decode cX11_foundAgrees 64 = .ok (.iconst 1, 1) := by decide +kernel
theorem dX11_foundAgrees_65 : decode cX11_foundAgrees 65 = .ok (.ireturn, 1) := by decide +kernel
theorem dX11_isSo_0 : decode cX11_isSo 0 = .ok (.iload_n 1, 1) := by decide +kernel
theorem dX11_isSo_1 : decode cX11_isSo 1 = .ok (.tableswitch 71 0 2 #[27, 36, 53], 27) := by decide +kernel
theorem dX11_isSo_28 : decode cX11_isSo 28 = .ok (.aload_n 0, 1) := by decide +kernel
theorem dX11_isSo_29 : decode cX11_isSo 29 = .ok (.getfield 53, 3) := by decide +kernel
theorem dX11_isSo_32 : decode cX11_isSo 32 = .ok (.iload_n 2, 1) := by decide +kernel
theorem dX11_isSo_33 : decode cX11_isSo 33 = .ok (.invokevirtual 338, 3) := by decide +kernel
theorem dX11_isSo_36 : decode cX11_isSo 36 = .ok (.ireturn, 1) := by decide +kernel
theorem dX11_isSo_37 : decode cX11_isSo 37 = .ok (.aload_n 0, 1) := by decide +kernel
theorem dX11_isSo_38 : decode cX11_isSo 38 = .ok (.getfield 53, 3) := by decide +kernel
theorem dX11_isSo_41 : decode cX11_isSo 41 = .ok (.getfield 221, 3) := by decide +kernel
theorem dX11_isSo_44 : decode cX11_isSo 44 = .ok (.iload_n 2, 1) := by decide +kernel
theorem dX11_isSo_45 : decode cX11_isSo 45 = .ok (.if_icmp .ne 7, 3) := by decide +kernel
theorem dX11_isSo_48 : decode cX11_isSo 48 = .ok (.iconst 1, 1) := by decide +kernel
theorem dX11_isSo_49 : decode cX11_isSo 49 = .ok (.goto 4, 3) := by decide +kernel
theorem dX11_isSo_52 : decode cX11_isSo 52 = .ok (.iconst 0, 1) := by decide +kernel
theorem dX11_isSo_53 : decode cX11_isSo 53 = .ok (.ireturn, 1) := by decide +kernel
theorem dX11_isSo_54 : decode cX11_isSo 54 = .ok (.aload_n 0, 1) := by decide +kernel
theorem dX11_isSo_55 : decode cX11_isSo 55 = .ok (.getfield 53, 3) := by decide +kernel
theorem dX11_isSo_58 : decode cX11_isSo 58 = .ok (.iconst 0, 1) := by decide +kernel
theorem dX11_isSo_59 : decode cX11_isSo 59 = .ok (.invokevirtual 224, 3) := by decide +kernel
theorem dX11_isSo_62 : decode cX11_isSo 62 = .ok (.iload_n 2, 1) := by decide +kernel
theorem dX11_isSo_63 : decode cX11_isSo 63 = .ok (.if_icmp .ne 7, 3) := by decide +kernel
theorem dX11_isSo_66 : decode cX11_isSo 66 = .ok (.iconst 1, 1) := by decide +kernel
theorem dX11_isSo_67 : decode cX11_isSo 67 = .ok (.goto 4, 3) := by decide +kernel
theorem dX11_isSo_70 : decode cX11_isSo 70 = .ok (.iconst 0, 1) := by decide +kernel
theorem dX11_isSo_71 : decode cX11_isSo 71 = .ok (.ireturn, 1) := by decide +kernel
theorem dX11_isSo_72 : decode cX11_isSo 72 = .ok (.aload_n 0, 1) := by decide +kernel
theorem dX11_isSo_73 : decode cX11_isSo 73 = .ok (.getfield 53, 3) := by decide +kernel
theorem dX11_isSo_76 : decode cX11_isSo 76 = .ok (.aload_n 0, 1) := by decide +kernel
theorem dX11_isSo_77 : decode cX11_isSo 77 = .ok (.getfield 53, 3) := by decide +kernel
theorem dX11_isSo_80 : decode cX11_isSo 80 = .ok (.getfield 221, 3) := by decide +kernel
theorem dX11_isSo_83 : decode cX11_isSo 83 = .ok (.iconst 1, 1) := by decide +kernel
theorem dX11_isSo_84 : decode cX11_isSo 84 = .ok (.isub, 1) := by decide +kernel
theorem dX11_isSo_85 : decode cX11_isSo 85 = .ok (.invokevirtual 224, 3) := by decide +kernel
theorem dX11_isSo_88 : decode cX11_isSo 88 = .ok (.iload_n 2, 1) := by decide +kernel
theorem dX11_isSo_89 : decode cX11_isSo 89 = .ok (.if_icmp .ne 7, 3) := by decide +kernel
theorem dX11_isSo_92 : decode cX11_isSo 92 = .ok (.iconst 1, 1) := by decide +kernel
theorem dX11_isSo_93 : decode cX11_isSo 93 = .ok (.goto 4, 3) := by decide +kernel
theorem dX11_isSo_96 : decode cX11_isSo 96 = .ok (.iconst 0, 1) := by decide +kernel
theorem dX11_isSo_97 : decode cX11_isSo 97 = .ok (.ireturn, 1) := by decide +kernel
theorem dX11_leastTerms_0 : decode cX11_leastTerms 0 = .ok (.lload_n 0, 1) := by decide +kernel
theorem dX11_leastTerms_1 : decode cX11_leastTerms 1 = .ok (.invokestatic 341, 3) := by decide +kernel
theorem dX11_leastTerms_4 : decode cX11_leastTerms 4 = .ok (.lstore 5, 2) := by decide +kernel
theorem dX11_leastTerms_6 : decode cX11_leastTerms 6 = .ok (.lload_n 2, 1) := by decide +kernel
theorem dX11_leastTerms_7 : decode cX11_leastTerms 7 = .ok (.lstore 7, 2) := by decide +kernel
theorem dX11_leastTerms_9 : decode cX11_leastTerms 9 = .ok (.iconst 0, 1) := by decide +kernel
theorem dX11_leastTerms_10 : decode cX11_leastTerms 10 = .ok (.istore 9, 2) := by decide +kernel
theorem dX11_leastTerms_12 : decode cX11_leastTerms 12 = .ok (.iload 9, 2) := by decide +kernel
theorem dX11_leastTerms_14 : decode cX11_leastTerms 14 = .ok (.bipush 100, 2) := by decide +kernel
theorem dX11_leastTerms_16 : decode cX11_leastTerms 16 = .ok (.if_icmp .ge 31, 3) := by decide +kernel
theorem dX11_leastTerms_19 : decode cX11_leastTerms 19 = .ok (.lload 7, 2) := by decide +kernel
theorem dX11_leastTerms_21 : decode cX11_leastTerms 21 = .ok (.lconst 0, 1) := by decide +kernel
theorem dX11_leastTerms_22 : decode cX11_leastTerms 22 = .ok (.lcmp, 1) := by decide +kernel
theorem dX11_leastTerms_23 : decode cX11_leastTerms 23 = .ok (.ifCond .eq 24, 3) := by decide +kernel
theorem dX11_leastTerms_26 : decode cX11_leastTerms 26 = .ok (.lload 5, 2) := by decide +kernel
theorem dX11_leastTerms_28 : decode cX11_leastTerms 28 = .ok (.lload 7, 2) := by decide +kernel
theorem dX11_leastTerms_30 : decode cX11_leastTerms 30 = .ok (.lrem, 1) := by decide +kernel
theorem dX11_leastTerms_31 : decode cX11_leastTerms 31 = .ok (.lstore 10, 2) := by decide +kernel
theorem dX11_leastTerms_33 : decode cX11_leastTerms 33 = .ok (.lload 7, 2) := by decide +kernel
theorem dX11_leastTerms_35 : decode cX11_leastTerms 35 = .ok (.lstore 5, 2) := by decide +kernel
theorem dX11_leastTerms_37 : decode cX11_leastTerms 37 = .ok (.lload 10, 2) := by decide +kernel
theorem dX11_leastTerms_39 : decode cX11_leastTerms 39 = .ok (.lstore 7, 2) := by decide +kernel
theorem dX11_leastTerms_41 : decode cX11_leastTerms 41 = .ok (.iinc 9 1, 3) := by decide +kernel
theorem dX11_leastTerms_44 : decode cX11_leastTerms 44 = .ok (.goto (-32), 3) := by decide +kernel
theorem dX11_leastTerms_47 : decode cX11_leastTerms 47 = .ok (.lload 5, 2) := by decide +kernel
theorem dX11_leastTerms_49 : decode cX11_leastTerms 49 = .ok (.lconst 0, 1) := by decide +kernel
theorem dX11_leastTerms_50 : decode cX11_leastTerms 50 = .ok (.lcmp, 1) := by decide +kernel
theorem dX11_leastTerms_51 : decode cX11_leastTerms 51 = .ok (.ifCond .ne 14, 3) := by decide +kernel
theorem dX11_leastTerms_54 : decode cX11_leastTerms 54 = .ok (.iload 4, 2) := by decide +kernel
theorem dX11_leastTerms_56 : decode cX11_leastTerms 56 = .ok (.ifCond .eq 7, 3) := by decide +kernel
theorem dX11_leastTerms_59 : decode cX11_leastTerms 59 = .ok (.lload_n 0, 1) := by decide +kernel
theorem dX11_leastTerms_60 : decode cX11_leastTerms 60 = .ok (.goto 4, 3) := by decide +kernel
theorem dX11_leastTerms_63 : decode cX11_leastTerms 63 = .ok (.lload_n 2, 1) := by decide +kernel
theorem dX11_leastTerms_64 : decode cX11_leastTerms 64 = .ok (.lreturn, 1) := by decide +kernel
theorem dX11_leastTerms_65 : decode cX11_leastTerms 65 = .ok (.iload 4, 2) := by decide +kernel
theorem dX11_leastTerms_67 : decode cX11_leastTerms 67 = .ok (.ifCond .eq 7, 3) := by decide +kernel
theorem dX11_leastTerms_70 : decode cX11_leastTerms 70 = .ok (.lload_n 0, 1) := by decide +kernel
theorem dX11_leastTerms_71 : decode cX11_leastTerms 71 = .ok (.goto 4, 3) := by decide +kernel
theorem dX11_leastTerms_74 : decode cX11_leastTerms 74 = .ok (.lload_n 2, 1) := by decide +kernel
theorem dX11_leastTerms_75 : decode cX11_leastTerms 75 = .ok (.lload 5, 2) := by decide +kernel
theorem dX11_leastTerms_77 : decode cX11_leastTerms 77 = .ok (.ldiv, 1) := by decide +kernel
theorem dX11_leastTerms_78 : decode cX11_leastTerms 78 = .ok (.lreturn, 1) := by decide +kernel
theorem dX12_init_0 : decode cX12_init 0 = .ok (.aload_n 0, 1) := by decide +kernel
theorem dX12_init_1 : decode cX12_init 1 = .ok (.invokespecial 1, 3) := by decide +kernel
theorem dX12_init_4 : decode cX12_init 4 = .ok (.aload_n 0, 1) := by decide +kernel
theorem dX12_init_5 : decode cX12_init 5 = .ok (.sipush 180, 3) := by decide +kernel
theorem dX12_init_8 : decode cX12_init 8 = .ok (.newarray .int, 2) := by decide +kernel
theorem dX12_init_10 : decode cX12_init 10 = .ok (.putfield 7, 3) := by decide +kernel
theorem dX12_init_13 : decode cX12_init 13 = .ok (.aload_n 0, 1) := by decide +kernel
theorem dX12_init_14 : decode cX12_init 14 = .ok (.bipush 60, 2) := by decide +kernel
theorem dX12_init_16 : decode cX12_init 16 = .ok (.newarray .int, 2) := by decide +kernel
theorem dX12_init_18 : decode cX12_init 18 = .ok (.putfield 13, 3) := by decide +kernel
theorem dX12_init_21 : decode cX12_init 21 = .ok (.aload_n 0, 1) := by decide +kernel
theorem dX12_init_22 : decode cX12_init 22 = .ok (.bipush 10, 2) := by decide +kernel
theorem dX12_init_24 : decode cX12_init 24 = .ok (.newarray .int, 2) := by decide +kernel
theorem dX12_init_26 : decode cX12_init 26 = .ok (.putfield 16, 3) := by decide +kernel
theorem dX12_init_29 : decode cX12_init 29 = .ok (.aload_n 0, 1) := by decide +kernel
theorem dX12_init_30 : decode cX12_init 30 = .ok (.bipush 10, 2) := by decide +kernel
theorem dX12_init_32 : decode cX12_init 32 = .ok (.newarray .int, 2) := by decide +kernel
theorem dX12_init_34 : decode cX12_init 34 = .ok (.putfield 19, 3) := by decide +kernel
theorem dX12_init_37 : decode cX12_init 37 = .ok (.aload_n 0, 1) := by decide +kernel
theorem dX12_init_38 : decode cX12_init 38 = .ok (.bipush 80, 2) := by decide +kernel
theorem dX12_init_40 : decode cX12_init 40 = .ok (.newarray .int, 2) := by decide +kernel
theorem dX12_init_42 : decode cX12_init 42 = .ok (.putfield 22, 3) := by decide +kernel
theorem dX12_init_45 : decode cX12_init 45 = .ok (.aload_n 0, 1) := by decide +kernel
theorem dX12_init_46 : decode cX12_init 46 = .ok (.bipush 25, 2) := by decide +kernel
theorem dX12_init_48 : decode cX12_init 48 = .ok (.newarray .int, 2) := by decide +kernel
theorem dX12_init_50 : decode cX12_init 50 = .ok (.putfield 25, 3) := by decide +kernel
theorem dX12_init_53 : decode cX12_init 53 = .ok (.aload_n 0, 1) := by decide +kernel
theorem dX12_init_54 : decode cX12_init 54 = .ok (.bipush 25, 2) := by decide +kernel
theorem dX12_init_56 : decode cX12_init 56 = .ok (.newarray .int, 2) := by decide +kernel
theorem dX12_init_58 : decode cX12_init 58 = .ok (.putfield 28, 3) := by decide +kernel
theorem dX12_init_61 : decode cX12_init 61 = .ok (.aload_n 0, 1) := by decide +kernel
theorem dX12_init_62 : decode cX12_init 62 = .ok (.sipush 350, 3) := by decide +kernel
theorem dX12_init_65 : decode cX12_init 65 = .ok (.newarray .int, 2) := by decide +kernel
theorem dX12_init_67 : decode cX12_init 67 = .ok (.putfield 31, 3) := by decide +kernel
theorem dX12_init_70 : decode cX12_init 70 = .ok (.aload_n 0, 1) := by decide +kernel
theorem dX12_init_71 : decode cX12_init 71 = .ok (.bipush 50, 2) := by decide +kernel
theorem dX12_init_73 : decode cX12_init 73 = .ok (.newarray .int, 2) := by decide +kernel
theorem dX12_init_75 : decode cX12_init 75 = .ok (.putfield 34, 3) := by decide +kernel
theorem dX12_init_78 : decode cX12_init 78 = .ok (.aload_n 0, 1) := by decide +kernel
theorem dX12_init_79 : decode cX12_init 79 = .ok (.iconst 2, 1) := by decide +kernel
theorem dX12_init_80 : decode cX12_init 80 = .ok (.newarray .boolean, 2) := by decide +kernel
theorem dX12_init_82 : decode cX12_init 82 = .ok (.putfield 37, 3) := by decide +kernel
theorem dX12_init_85 : decode cX12_init 85 = .ok (.aload_n 0, 1) := by decide +kernel
theorem dX12_init_86 : decode cX12_init 86 = .ok (.bipush 12, 2) := by decide +kernel
theorem dX12_init_88 : decode cX12_init 88 = .ok (.newarray .int, 2) := by decide +kernel
theorem dX12_init_90 : decode cX12_init 90 = .ok (.putfield 41, 3) := by decide +kernel
theorem dX12_init_93 : decode cX12_init 93 = .ok (.aload_n 0, 1) := by decide +kernel
theorem dX12_init_94 : decode cX12_init 94 = .ok (.bipush 6, 2) := by decide +kernel
theorem dX12_init_96 : decode cX12_init 96 = .ok (.newarray .int, 2) := by decide +kernel
theorem dX12_init_98 : decode cX12_init 98 = .ok (.putfield 44, 3) := by decide +kernel
theorem dX12_init_101 : decode cX12_init 101 = .ok (.aload_n 0, 1) := by decide +kernel
theorem dX12_init_102 : decode cX12_init 102 = .ok (.bipush 6, 2) := by decide +kernel
theorem dX12_init_104 : decode cX12_init 104 = .ok (.newarray .int, 2) := by decide +kernel
theorem dX12_init_106 : decode cX12_init 106 = .ok (.putfield 47, 3) := by decide +kernel
theorem dX12_init_109 : decode cX12_init 109 = .ok (.aload_n 0, 1) := by decide +kernel
theorem dX12_init_110 : decode cX12_init 110 = .ok (.bipush 6, 2) := by decide +kernel
theorem dX12_init_112 : decode cX12_init 112 = .ok (.newarray .int, 2) := by decide +kernel
theorem dX12_init_114 : decode cX12_init 114 = .ok (.putfield 50, 3) := by decide +kernel
theorem dX12_init_117 : decode cX12_init 117 = .ok (.aload_n 0, 1) := by decide +kernel
theorem dX12_init_118 : decode cX12_init 118 = .ok (.bipush 60, 2) := by decide +kernel
theorem dX12_init_120 : decode cX12_init 120 = .ok (.newarray .int, 2) := by decide +kernel
theorem dX12_init_122 : decode cX12_init 122 = .ok (.putfield 53, 3) := by decide +kernel
theorem dX12_init_125 : decode cX12_init 125 = .ok (.aload_n 0, 1) := by decide +kernel
theorem dX12_init_126 : decode cX12_init 126 = .ok (.bipush 10, 2) := by decide +kernel
theorem dX12_init_128 : decode cX12_init 128 = .ok (.newarray .int, 2) := by decide +kernel
theorem dX12_init_130 : decode cX12_init 130 = .ok (.putfield 56, 3) := by decide +kernel
theorem dX12_init_133 : decode cX12_init 133 = .ok (.aload_n 0, 1) := by decide +kernel
theorem dX12_init_134 : decode cX12_init 134 = .ok (.bipush 10, 2) := by decide +kernel
theorem dX12_init_136 : decode cX12_init 136 = .ok (.newarray .int, 2) := by decide +kernel
theorem dX12_init_138 : decode cX12_init 138 = .ok (.putfield 59, 3) := by decide +kernel
theorem dX12_init_141 : decode cX12_init 141 = .ok (.aload_n 0, 1) := by decide +kernel
theorem dX12_init_142 : decode cX12_init 142 = .ok (.bipush 25, 2) := by decide +kernel
theorem dX12_init_144 : decode cX12_init 144 = .ok (.newarray .int, 2) := by decide +kernel
theorem dX12_init_146 : decode cX12_init 146 = .ok (.putfield 62, 3) := by decide +kernel
theorem dX12_init_149 : decode cX12_init 149 = .ok (.aload_n 0, 1) := by decide +kernel
theorem dX12_init_150 : decode cX12_init 150 = .ok (.bipush 25, 2) := by decide +kernel
theorem dX12_init_152 : decode cX12_init 152 = .ok (.newarray .int, 2) := by decide +kernel
theorem dX12_init_154 : decode cX12_init 154 = .ok (.putfield 65, 3) := by decide +kernel
theorem dX12_init_157 : decode cX12_init 157 = .ok (.aload_n 0, 1) := by decide +kernel
theorem dX12_init_158 : decode cX12_init 158 = .ok (.bipush 9, 2) := by decide +kernel
theorem dX12_init_160 : decode cX12_init 160 = .ok (.newarray .int, 2) := by decide +kernel
theorem dX12_init_162 : decode cX12_init 162 = .ok (.putfield 68, 3) := by decide +kernel
theorem dX12_init_165 : decode cX12_init 165 = .ok (.aload_n 0, 1) := by decide +kernel
theorem dX12_init_166 : decode cX12_init 166 = .ok (.bipush 10, 2) := by decide +kernel
theorem dX12_init_168 : decode cX12_init 168 = .ok (.newarray .int, 2) := by decide +kernel
theorem dX12_init_170 : decode cX12_init 170 = .ok (.putfield 71, 3) := by decide +kernel
theorem dX12_init_173 : decode cX12_init 173 = .ok (.aload_n 0, 1) := by decide +kernel
theorem dX12_init_174 : decode cX12_init 174 = .ok (.sipush 9720, 3) := by decide +kernel
theorem dX12_init_177 : decode cX12_init 177 = .ok (.newarray .long, 2) := by decide +kernel
theorem dX12_init_179 : decode cX12_init 179 = .ok (.putfield 74, 3) := by decide +kernel
theorem dX12_init_182 : decode cX12_init 182 = .ok (.aload_n 0, 1) := by decide +kernel
theorem dX12_init_183 : decode cX12_init 183 = .ok (.sipush 9720, 3) := by decide +kernel
theorem dX12_init_186 : decode cX12_init 186 = .ok (.newarray .long, 2) := by decide +kernel
end
section
theorem dX12_init_188 : decode cX12_init 188 = .ok (.putfield 78, 3) := by decide +kernel
theorem dX12_init_191 : decode cX12_init 191 = .ok (.aload_n 0, 1) := by decide +kernel
theorem dX12_init_192 : decode cX12_init 192 = .ok (.sipush 9720, 3) := by decide +kernel
theorem dX12_init_195 : decode cX12_init 195 = .ok (.newarray .long, 2) := by decide +kernel
theorem dX12_init_197 : decode cX12_init 197 = .ok (.putfield 81, 3) := by decide +kernel
theorem dX12_init_200 : decode cX12_init 200 = .ok (.aload_n 0, 1) := by decide +kernel
theorem dX12_init_201 : decode cX12_init 201 = .ok (.sipush 9720, 3) := by decide +kernel
theorem dX12_init_204 : decode cX12_init 204 = .ok (.newarray .int, 2) := by decide +kernel
theorem dX12_init_206 : decode cX12_init 206 = .ok (.putfield 84, 3) := by decide +kernel
theorem dX12_init_209 : decode cX12_init 209 = .ok (.aload_n 0, 1) := by decide +kernel
theorem dX12_init_210 : decode cX12_init 210 = .ok (.sipush 19440, 3) := by decide +kernel
theorem dX12_init_213 : decode cX12_init 213 = .ok (.newarray .boolean, 2) := by decide +kernel
theorem dX12_init_215 : decode cX12_init 215 = .ok (.putfield 87, 3) := by decide +kernel
theorem dX12_init_218 : decode cX12_init 218 = .ok (.aload_n 0, 1) := by decide +kernel
theorem dX12_init_219 : decode cX12_init 219 = .ok (.bipush 12, 2) := by decide +kernel
theorem dX12_init_221 : decode cX12_init 221 = .ok (.newarray .int, 2) := by decide +kernel
theorem dX12_init_223 : decode cX12_init 223 = .ok (.putfield 90, 3) := by decide +kernel
theorem dX12_init_226 : decode cX12_init 226 = .ok (.aload_n 0, 1) := by decide +kernel
theorem dX12_init_227 : decode cX12_init 227 = .ok (.bipush 8, 2) := by decide +kernel
theorem dX12_init_229 : decode cX12_init 229 = .ok (.newarray .int, 2) := by decide +kernel
theorem dX12_init_231 : decode cX12_init 231 = .ok (.putfield 93, 3) := by decide +kernel
theorem dX12_init_234 : decode cX12_init 234 = .ok (.aload_n 0, 1) := by decide +kernel
theorem dX12_init_235 : decode cX12_init 235 = .ok (.sipush 256, 3) := by decide +kernel
theorem dX12_init_238 : decode cX12_init 238 = .ok (.newarray .long, 2) := by decide +kernel
theorem dX12_init_240 : decode cX12_init 240 = .ok (.putfield 96, 3) := by decide +kernel
theorem dX12_init_243 : decode cX12_init 243 = .ok (.aload_n 0, 1) := by decide +kernel
theorem dX12_init_244 : decode cX12_init 244 = .ok (.getfield 25, 3) := by decide +kernel
theorem dX12_init_247 : decode cX12_init 247 = .ok (.invokestatic 99, 3) := by decide +kernel
theorem dX12_init_250 : decode cX12_init 250 = .ok (.return_, 1) := by decide +kernel
theorem dX12_empty_0 : decode cX12_empty 0 = .ok (.iconst 0, 1) := by decide +kernel
theorem dX12_empty_1 : decode cX12_empty 1 = .ok (.istore_n 1, 1) := by decide +kernel
theorem dX12_empty_2 : decode cX12_empty 2 = .ok (.iload_n 1, 1) := by decide +kernel
theorem dX12_empty_3 : decode cX12_empty 3 = .ok (.bipush 25, 2) := by decide +kernel
theorem dX12_empty_5 : decode cX12_empty 5 = .ok (.if_icmp .ge 13, 3) := by decide +kernel
theorem dX12_empty_8 : decode cX12_empty 8 = .ok (.aload_n 0, 1) := by decide +kernel
theorem dX12_empty_9 : decode cX12_empty 9 = .ok (.iload_n 1, 1) := by decide +kernel
theorem dX12_empty_10 : decode cX12_empty 10 = .ok (.iconst 0, 1) := by decide +kernel
theorem dX12_empty_11 : decode cX12_empty 11 = .ok (.iastore, 1) := by decide +kernel
theorem dX12_empty_12 : decode cX12_empty 12 = .ok (.iinc 1 1, 3) := by decide +kernel
theorem dX12_empty_15 : decode cX12_empty 15 = .ok (.goto (-13), 3) := by decide +kernel
theorem dX12_empty_18 : decode cX12_empty 18 = .ok (.return_, 1) := by decide +kernel
theorem dX12_copy_0 : decode cX12_copy 0 = .ok (.iconst 0, 1) := by decide +kernel
theorem dX12_copy_1 : decode cX12_copy 1 = .ok (.istore_n 2, 1) := by decide +kernel
theorem dX12_copy_2 : decode cX12_copy 2 = .ok (.iload_n 2, 1) := by decide +kernel
theorem dX12_copy_3 : decode cX12_copy 3 = .ok (.bipush 25, 2) := by decide +kernel
theorem dX12_copy_5 : decode cX12_copy 5 = .ok (.if_icmp .ge 15, 3) := by decide +kernel
theorem dX12_copy_8 : decode cX12_copy 8 = .ok (.aload_n 1, 1) := by decide +kernel
theorem dX12_copy_9 : decode cX12_copy 9 = .ok (.iload_n 2, 1) := by decide +kernel
theorem dX12_copy_10 : decode cX12_copy 10 = .ok (.aload_n 0, 1) := by decide +kernel
theorem dX12_copy_11 : decode cX12_copy 11 = .ok (.iload_n 2, 1) := by decide +kernel
theorem dX12_copy_12 : decode cX12_copy 12 = .ok (.iaload, 1) := by decide +kernel
theorem dX12_copy_13 : decode cX12_copy 13 = .ok (.iastore, 1) := by decide +kernel
theorem dX12_copy_14 : decode cX12_copy 14 = .ok (.iinc 2 1, 3) := by decide +kernel
theorem dX12_copy_17 : decode cX12_copy 17 = .ok (.goto (-15), 3) := by decide +kernel
theorem dX12_copy_20 : decode cX12_copy 20 = .ok (.return_, 1) := by decide +kernel
theorem dX12_in_0 : decode cX12_in 0 = .ok (.lload_n 0, 1) := by decide +kernel
theorem dX12_in_1 : decode cX12_in 1 = .ok (.lload_n 2, 1) := by decide +kernel
theorem dX12_in_2 : decode cX12_in 2 = .ok (.lcmp, 1) := by decide +kernel
theorem dX12_in_3 : decode cX12_in 3 = .ok (.ifCond .lt 14, 3) := by decide +kernel
theorem dX12_in_6 : decode cX12_in 6 = .ok (.lload_n 0, 1) := by decide +kernel
theorem dX12_in_7 : decode cX12_in 7 = .ok (.lload 4, 2) := by decide +kernel
theorem dX12_in_9 : decode cX12_in 9 = .ok (.lcmp, 1) := by decide +kernel
theorem dX12_in_10 : decode cX12_in 10 = .ok (.ifCond .gt 7, 3) := by decide +kernel
theorem dX12_in_13 : decode cX12_in 13 = .ok (.iconst 1, 1) := by decide +kernel
theorem dX12_in_14 : decode cX12_in 14 = .ok (.goto 4, 3) := by decide +kernel
theorem dX12_in_17 : decode cX12_in 17 = .ok (.iconst 0, 1) := by decide +kernel
theorem dX12_in_18 : decode cX12_in 18 = .ok (.ireturn, 1) := by decide +kernel
theorem dX12_has_0 : decode cX12_has 0 = .ok (.iload_n 0, 1) := by decide +kernel
theorem dX12_has_1 : decode cX12_has 1 = .ok (.iload_n 1, 1) := by decide +kernel
theorem dX12_has_2 : decode cX12_has 2 = .ok (.ishr, 1) := by decide +kernel
theorem dX12_has_3 : decode cX12_has 3 = .ok (.iconst 1, 1) := by decide +kernel
theorem dX12_has_4 : decode cX12_has 4 = .ok (.iand, 1) := by decide +kernel
theorem dX12_has_5 : decode cX12_has 5 = .ok (.iconst 1, 1) := by decide +kernel
theorem dX12_has_6 : decode cX12_has 6 = .ok (.if_icmp .ne 7, 3) := by decide +kernel
theorem dX12_has_9 : decode cX12_has 9 = .ok (.iconst 1, 1) := by decide +kernel
theorem dX12_has_10 : decode cX12_has 10 = .ok (.goto 4, 3) := by decide +kernel
theorem dX12_has_13 : decode cX12_has 13 = .ok (.iconst 0, 1) := by decide +kernel
theorem dX12_has_14 : decode cX12_has 14 = .ok (.ireturn, 1) := by decide +kernel
theorem dX12_ones_0 : decode cX12_ones 0 = .ok (.iconst 0, 1) := by decide +kernel
theorem dX12_ones_1 : decode cX12_ones 1 = .ok (.istore_n 1, 1) := by decide +kernel
theorem dX12_ones_2 : decode cX12_ones 2 = .ok (.iconst 0, 1) := by decide +kernel
theorem dX12_ones_3 : decode cX12_ones 3 = .ok (.istore_n 2, 1) := by decide +kernel
theorem dX12_ones_4 : decode cX12_ones 4 = .ok (.iload_n 2, 1) := by decide +kernel
theorem dX12_ones_5 : decode cX12_ones 5 = .ok (.bipush 16, 2) := by decide +kernel
theorem dX12_ones_7 : decode cX12_ones 7 = .ok (.if_icmp .ge 17, 3) := by decide +kernel
theorem dX12_ones_10 : decode cX12_ones 10 = .ok (.iload_n 1, 1) := by decide +kernel
theorem dX12_ones_11 : decode cX12_ones 11 = .ok (.iload_n 0, 1) := by decide +kernel
theorem dX12_ones_12 : decode cX12_ones 12 = .ok (.iload_n 2, 1) := by decide +kernel
theorem dX12_ones_13 : decode cX12_ones 13 = .ok (.ishr, 1) := by decide +kernel
theorem dX12_ones_14 : decode cX12_ones 14 = .ok (.iconst 1, 1) := by decide +kernel
theorem dX12_ones_15 : decode cX12_ones 15 = .ok (.iand, 1) := by decide +kernel
theorem dX12_ones_16 : decode cX12_ones 16 = .ok (.iadd, 1) := by decide +kernel
theorem dX12_ones_17 : decode cX12_ones 17 = .ok (.istore_n 1, 1) := by decide +kernel
theorem dX12_ones_18 : decode cX12_ones 18 = .ok (.iinc 2 1, 3) := by decide +kernel
theorem dX12_ones_21 : decode cX12_ones 21 = .ok (.goto (-17), 3) := by decide +kernel
theorem dX12_ones_24 : decode cX12_ones 24 = .ok (.iload_n 1, 1) := by decide +kernel
theorem dX12_ones_25 : decode cX12_ones 25 = .ok (.ireturn, 1) := by decide +kernel
theorem dX12_power_0 : decode cX12_power 0 = .ok (.iconst 1, 1) := by decide +kernel
theorem dX12_power_1 : decode cX12_power 1 = .ok (.istore_n 2, 1) := by decide +kernel
theorem dX12_power_2 : decode cX12_power 2 = .ok (.iconst 0, 1) := by decide +kernel
theorem dX12_power_3 : decode cX12_power 3 = .ok (.istore_n 3, 1) := by decide +kernel
theorem dX12_power_4 : decode cX12_power 4 = .ok (.iload_n 3, 1) := by decide +kernel
theorem dX12_power_5 : decode cX12_power 5 = .ok (.iload_n 1, 1) := by decide +kernel
theorem dX12_power_6 : decode cX12_power 6 = .ok (.if_icmp .ge 13, 3) := by decide +kernel
theorem dX12_power_9 : decode cX12_power 9 = .ok (.iload_n 2, 1) := by decide +kernel
theorem dX12_power_10 : decode cX12_power 10 = .ok (.iload_n 0, 1) := by decide +kernel
theorem dX12_power_11 : decode cX12_power 11 = .ok (.imul, 1) := by decide +kernel
theorem dX12_power_12 : decode cX12_power 12 = .ok (.istore_n 2, 1) := by decide +kernel
theorem dX12_power_13 : decode cX12_power 13 = .ok (.iinc 3 1, 3) := by decide +kernel
theorem dX12_power_16 : decode cX12_power 16 = .ok (.goto (-12), 3) := by decide +kernel
theorem dX12_power_19 : decode cX12_power 19 = .ok (.iload_n 2, 1) := by decide +kernel
theorem dX12_power_20 : decode cX12_power 20 = .ok (.ireturn, 1) := by decide +kernel
theorem dX12_factorial_0 : decode cX12_factorial 0 = .ok (.iconst 1, 1) := by decide +kernel
theorem dX12_factorial_1 : decode cX12_factorial 1 = .ok (.istore_n 1, 1) := by decide +kernel
theorem dX12_factorial_2 : decode cX12_factorial 2 = .ok (.iconst 2, 1) := by decide +kernel
theorem dX12_factorial_3 : decode cX12_factorial 3 = .ok (.istore_n 2, 1) := by decide +kernel
theorem dX12_factorial_4 : decode cX12_factorial 4 = .ok (.iload_n 2, 1) := by decide +kernel
theorem dX12_factorial_5 : decode cX12_factorial 5 = .ok (.iload_n 0, 1) := by decide +kernel
theorem dX12_factorial_6 : decode cX12_factorial 6 = .ok (.if_icmp .gt 13, 3) := by decide +kernel
theorem dX12_factorial_9 : decode cX12_factorial 9 = .ok (.iload_n 1, 1) := by decide +kernel
theorem dX12_factorial_10 : decode cX12_factorial 10 = .ok (.iload_n 2, 1) := by decide +kernel
theorem dX12_factorial_11 : decode cX12_factorial 11 = .ok (.imul, 1) := by decide +kernel
theorem dX12_factorial_12 : decode cX12_factorial 12 = .ok (.istore_n 1, 1) := by decide +kernel
theorem dX12_factorial_13 : decode cX12_factorial 13 = .ok (.iinc 2 1, 3) := by decide +kernel
theorem dX12_factorial_16 : decode cX12_factorial 16 = .ok (.goto (-12), 3) := by decide +kernel
theorem dX12_factorial_19 : decode cX12_factorial 19 = .ok (.iload_n 1, 1) := by decide +kernel
theorem dX12_factorial_20 : decode cX12_factorial 20 = .ok (.ireturn, 1) := by decide +kernel
theorem dX12_fraction_0 : decode cX12_fraction 0 = .ok (.lload_n 0, 1) := by decide +kernel
theorem dX12_fraction_1 : decode cX12_fraction 1 = .ok (.lconst 0, 1) := by decide +kernel
theorem dX12_fraction_2 : decode cX12_fraction 2 = .ok (.lcmp, 1) := by decide +kernel
theorem dX12_fraction_3 : decode cX12_fraction 3 = .ok (.ifCond .ge 8, 3) := by decide +kernel
theorem dX12_fraction_6 : decode cX12_fraction 6 = .ok (.lload_n 0, 1) := by decide +kernel
theorem dX12_fraction_7 : decode cX12_fraction 7 = .ok (.lneg, 1) := by decide +kernel
theorem dX12_fraction_8 : decode cX12_fraction 8 = .ok (.goto 4, 3) := by decide +kernel
theorem dX12_fraction_11 : decode cX12_fraction 11 = .ok (.lload_n 0, 1) := by decide +kernel
theorem dX12_fraction_12 : decode cX12_fraction 12 = .ok (.lstore 5, 2) := by decide +kernel
theorem dX12_fraction_14 : decode cX12_fraction 14 = .ok (.lload_n 2, 1) := by decide +kernel
theorem dX12_fraction_15 : decode cX12_fraction 15 = .ok (.lstore 7, 2) := by decide +kernel
theorem dX12_fraction_17 : decode cX12_fraction 17 = .ok (.lload 7, 2) := by decide +kernel
theorem dX12_fraction_19 : decode cX12_fraction 19 = .ok (.lconst 0, 1) := by decide +kernel
theorem dX12_fraction_20 : decode cX12_fraction 20 = .ok (.lcmp, 1) := by decide +kernel
theorem dX12_fraction_21 : decode cX12_fraction 21 = .ok (.ifCond .eq 21, 3) := by decide +kernel
theorem dX12_fraction_24 : decode cX12_fraction 24 = .ok (.lload 5, 2) := by decide +kernel
theorem dX12_fraction_26 : decode cX12_fraction 26 = .ok (.lload 7, 2) := by decide +kernel
theorem dX12_fraction_28 : decode cX12_fraction 28 = .ok (.lrem, 1) := by decide +kernel
theorem dX12_fraction_29 : decode cX12_fraction 29 = .ok (.lstore 9, 2) := by decide +kernel
theorem dX12_fraction_31 : decode cX12_fraction 31 = .ok (.lload 7, 2) := by decide +kernel
theorem dX12_fraction_33 : decode cX12_fraction 33 = .ok (.lstore 5, 2) := by decide +kernel
theorem dX12_fraction_35 : decode cX12_fraction 35 = .ok (.lload 9, 2) := by decide +kernel
theorem dX12_fraction_37 : decode cX12_fraction 37 = .ok (.lstore 7, 2) := by decide +kernel
theorem dX12_fraction_39 : decode cX12_fraction 39 = .ok (.goto (-22), 3) := by decide +kernel
theorem dX12_fraction_42 : decode cX12_fraction 42 = .ok (.iload 4, 2) := by decide +kernel
theorem dX12_fraction_44 : decode cX12_fraction 44 = .ok (.ifCond .eq 10, 3) := by decide +kernel
theorem dX12_fraction_47 : decode cX12_fraction 47 = .ok (.lload_n 0, 1) := by decide +kernel
theorem dX12_fraction_48 : decode cX12_fraction 48 = .ok (.lload 5, 2) := by decide +kernel
theorem dX12_fraction_50 : decode cX12_fraction 50 = .ok (.ldiv, 1) := by decide +kernel
theorem dX12_fraction_51 : decode cX12_fraction 51 = .ok (.goto 7, 3) := by decide +kernel
theorem dX12_fraction_54 : decode cX12_fraction 54 = .ok (.lload_n 2, 1) := by decide +kernel
theorem dX12_fraction_55 : decode cX12_fraction 55 = .ok (.lload 5, 2) := by decide +kernel
theorem dX12_fraction_57 : decode cX12_fraction 57 = .ok (.ldiv, 1) := by decide +kernel
theorem dX12_fraction_58 : decode cX12_fraction 58 = .ok (.lreturn, 1) := by decide +kernel
theorem dX12_isWord_0 : decode cX12_isWord 0 = .ok (.iload_n 1, 1) := by decide +kernel
theorem dX12_isWord_1 : decode cX12_isWord 1 = .ok (.i2l, 1) := by decide +kernel
theorem dX12_isWord_2 : decode cX12_isWord 2 = .ok (.lconst 0, 1) := by decide +kernel
theorem dX12_isWord_3 : decode cX12_isWord 3 = .ok (.aload_n 0, 1) := by decide +kernel
theorem dX12_isWord_4 : decode cX12_isWord 4 = .ok (.getfield 103, 3) := by decide +kernel
theorem dX12_isWord_7 : decode cX12_isWord 7 = .ok (.iconst 1, 1) := by decide +kernel
theorem dX12_isWord_8 : decode cX12_isWord 8 = .ok (.isub, 1) := by decide +kernel
theorem dX12_isWord_9 : decode cX12_isWord 9 = .ok (.i2l, 1) := by decide +kernel
theorem dX12_isWord_10 : decode cX12_isWord 10 = .ok (.invokestatic 107, 3) := by decide +kernel
theorem dX12_isWord_13 : decode cX12_isWord 13 = .ok (.ireturn, 1) := by decide +kernel
theorem dX12_isLetter_0 : decode cX12_isLetter 0 = .ok (.iload_n 0, 1) := by decide +kernel
theorem dX12_isLetter_1 : decode cX12_isLetter 1 = .ok (.i2l, 1) := by decide +kernel
theorem dX12_isLetter_2 : decode cX12_isLetter 2 = .ok (.lconst 0, 1) := by decide +kernel
theorem dX12_isLetter_3 : decode cX12_isLetter 3 = .ok (.ldc2_w 111, 3) := by decide +kernel
theorem dX12_isLetter_6 : decode cX12_isLetter 6 = .ok (.invokestatic 107, 3) := by decide +kernel
theorem dX12_isLetter_9 : decode cX12_isLetter 9 = .ok (.ireturn, 1) := by decide +kernel
theorem dX12_isKind_0 : decode cX12_isKind 0 = .ok (.iload_n 0, 1) := by decide +kernel
theorem dX12_isKind_1 : decode cX12_isKind 1 = .ok (.i2l, 1) := by decide +kernel
theorem dX12_isKind_2 : decode cX12_isKind 2 = .ok (.lconst 0, 1) := by decide +kernel
theorem dX12_isKind_3 : decode cX12_isKind 3 = .ok (.ldc2_w 113, 3) := by decide +kernel
theorem dX12_isKind_6 : decode cX12_isKind 6 = .ok (.invokestatic 107, 3) := by decide +kernel
theorem dX12_isKind_9 : decode cX12_isKind 9 = .ok (.ireturn, 1) := by decide +kernel
theorem dX12_bagOf_0 : decode cX12_bagOf 0 = .ok (.iconst 0, 1) := by decide +kernel
theorem dX12_bagOf_1 : decode cX12_bagOf 1 = .ok (.istore_n 1, 1) := by decide +kernel
theorem dX12_bagOf_2 : decode cX12_bagOf 2 = .ok (.iconst 0, 1) := by decide +kernel
theorem dX12_bagOf_3 : decode cX12_bagOf 3 = .ok (.istore_n 2, 1) := by decide +kernel
theorem dX12_bagOf_4 : decode cX12_bagOf 4 = .ok (.iload_n 2, 1) := by decide +kernel
theorem dX12_bagOf_5 : decode cX12_bagOf 5 = .ok (.bipush 8, 2) := by decide +kernel
theorem dX12_bagOf_7 : decode cX12_bagOf 7 = .ok (.if_icmp .ge 15, 3) := by decide +kernel
theorem dX12_bagOf_10 : decode cX12_bagOf 10 = .ok (.iload_n 1, 1) := by decide +kernel
theorem dX12_bagOf_11 : decode cX12_bagOf 11 = .ok (.aload_n 0, 1) := by decide +kernel
theorem dX12_bagOf_12 : decode cX12_bagOf 12 = .ok (.iload_n 2, 1) := by decide +kernel
theorem dX12_bagOf_13 : decode cX12_bagOf 13 = .ok (.iaload, 1) := by decide +kernel
theorem dX12_bagOf_14 : decode cX12_bagOf 14 = .ok (.iadd, 1) := by decide +kernel
theorem dX12_bagOf_15 : decode cX12_bagOf 15 = .ok (.istore_n 1, 1) := by decide +kernel
theorem dX12_bagOf_16 : decode cX12_bagOf 16 = .ok (.iinc 2 1, 3) := by decide +kernel
theorem dX12_bagOf_19 : decode cX12_bagOf 19 = .ok (.goto (-15), 3) := by decide +kernel
theorem dX12_bagOf_22 : decode cX12_bagOf 22 = .ok (.iload_n 1, 1) := by decide +kernel
theorem dX12_bagOf_23 : decode cX12_bagOf 23 = .ok (.ireturn, 1) := by decide +kernel
theorem dX12_write_0 : decode cX12_write 0 = .ok (.iload_n 1, 1) := by decide +kernel
theorem dX12_write_1 : decode cX12_write 1 = .ok (.i2l, 1) := by decide +kernel
theorem dX12_write_2 : decode cX12_write 2 = .ok (.lconst 0, 1) := by decide +kernel
theorem dX12_write_3 : decode cX12_write 3 = .ok (.ldc2_w 115, 3) := by decide +kernel
theorem dX12_write_6 : decode cX12_write 6 = .ok (.invokestatic 107, 3) := by decide +kernel
theorem dX12_write_9 : decode cX12_write 9 = .ok (.ifCond .ne 6, 3) := by decide +kernel
theorem dX12_write_12 : decode cX12_write 12 = .ok (.bipush (-2), 2) := by decide +kernel
theorem dX12_write_14 : decode cX12_write 14 = .ok (.ireturn, 1) := by decide +kernel
theorem dX12_write_15 : decode cX12_write 15 = .ok (.aload_n 0, 1) := by decide +kernel
theorem dX12_write_16 : decode cX12_write 16 = .ok (.getfield 117, 3) := by decide +kernel
theorem dX12_write_19 : decode cX12_write 19 = .ok (.sipush 180, 3) := by decide +kernel
theorem dX12_write_22 : decode cX12_write 22 = .ok (.if_icmp .ne 6, 3) := by decide +kernel
theorem dX12_write_25 : decode cX12_write 25 = .ok (.bipush (-4), 2) := by decide +kernel
theorem dX12_write_27 : decode cX12_write 27 = .ok (.ireturn, 1) := by decide +kernel
theorem dX12_write_28 : decode cX12_write 28 = .ok (.aload_n 0, 1) := by decide +kernel
theorem dX12_write_29 : decode cX12_write 29 = .ok (.getfield 7, 3) := by decide +kernel
theorem dX12_write_32 : decode cX12_write 32 = .ok (.aload_n 0, 1) := by decide +kernel
theorem dX12_write_33 : decode cX12_write 33 = .ok (.getfield 117, 3) := by decide +kernel
theorem dX12_write_36 : decode cX12_write 36 = .ok (.iload_n 1, 1) := by decide +kernel
theorem dX12_write_37 : decode cX12_write 37 = .ok (.iastore, 1) := by decide +kernel
theorem dX12_write_38 : decode cX12_write 38 = .ok (.aload_n 0, 1) := by decide +kernel
theorem dX12_write_39 : decode cX12_write 39 = .ok (.dup, 1) := by decide +kernel
theorem dX12_write_40 : decode cX12_write 40 = .ok (.getfield 117, 3) := by decide +kernel
theorem dX12_write_43 : decode cX12_write 43 = .ok (.iconst 1, 1) := by decide +kernel
theorem dX12_write_44 : decode cX12_write 44 = .ok (.iadd, 1) := by decide +kernel
theorem dX12_write_45 : decode cX12_write 45 = .ok (.putfield 117, 3) := by decide +kernel
theorem dX12_write_48 : decode cX12_write 48 = .ok (.aload_n 0, 1) := by decide +kernel
theorem dX12_write_49 : decode cX12_write 49 = .ok (.getfield 117, 3) := by decide +kernel
theorem dX12_write_52 : decode cX12_write 52 = .ok (.ireturn, 1) := by decide +kernel
theorem dX12_wipe_0 : decode cX12_wipe 0 = .ok (.aload_n 0, 1) := by decide +kernel
theorem dX12_wipe_1 : decode cX12_wipe 1 = .ok (.getfield 117, 3) := by decide +kernel
theorem dX12_wipe_4 : decode cX12_wipe 4 = .ok (.istore_n 1, 1) := by decide +kernel
theorem dX12_wipe_5 : decode cX12_wipe 5 = .ok (.aload_n 0, 1) := by decide +kernel
theorem dX12_wipe_6 : decode cX12_wipe 6 = .ok (.iconst 0, 1) := by decide +kernel
theorem dX12_wipe_7 : decode cX12_wipe 7 = .ok (.putfield 117, 3) := by decide +kernel
theorem dX12_wipe_10 : decode cX12_wipe 10 = .ok (.iload_n 1, 1) := by decide +kernel
theorem dX12_wipe_11 : decode cX12_wipe 11 = .ok (.ireturn, 1) := by decide +kernel
theorem dX12_takeSign_0 : decode cX12_takeSign 0 = .ok (.aload_n 0, 1) := by decide +kernel
theorem dX12_takeSign_1 : decode cX12_takeSign 1 = .ok (.iload_n 1, 1) := by decide +kernel
theorem dX12_takeSign_2 : decode cX12_takeSign 2 = .ok (.putfield 120, 3) := by decide +kernel
theorem dX12_takeSign_5 : decode cX12_takeSign 5 = .ok (.aload_n 0, 1) := by decide +kernel
theorem dX12_takeSign_6 : decode cX12_takeSign 6 = .ok (.iconst 1, 1) := by decide +kernel
theorem dX12_takeSign_7 : decode cX12_takeSign 7 = .ok (.putfield 123, 3) := by decide +kernel
theorem dX12_takeSign_10 : decode cX12_takeSign 10 = .ok (.iload_n 1, 1) := by decide +kernel
theorem dX12_takeSign_11 : decode cX12_takeSign 11 = .ok (.lookupswitch 201 #[(43, 105), (46, 141), (58, 159), (94, 123), (119, 49)], 49) := by decide +kernel
theorem dX12_takeSign_60 : decode cX12_takeSign 60 = .ok (.aload_n 0, 1) := by decide +kernel
theorem dX12_takeSign_61 : decode cX12_takeSign 61 = .ok (.getfield 56, 3) := by decide +kernel
theorem dX12_takeSign_64 : decode cX12_takeSign 64 = .ok (.aload_n 0, 1) := by decide +kernel
theorem dX12_takeSign_65 : decode cX12_takeSign 65 = .ok (.getfield 126, 3) := by decide +kernel
theorem dX12_takeSign_68 : decode cX12_takeSign 68 = .ok (.bipush 10, 2) := by decide +kernel
theorem dX12_takeSign_70 : decode cX12_takeSign 70 = .ok (.if_icmp .ge 10, 3) := by decide +kernel
theorem dX12_takeSign_73 : decode cX12_takeSign 73 = .ok (.aload_n 0, 1) := by decide +kernel
theorem dX12_takeSign_74 : decode cX12_takeSign 74 = .ok (.getfield 126, 3) := by decide +kernel
theorem dX12_takeSign_77 : decode cX12_takeSign 77 = .ok (.goto 4, 3) := by decide +kernel
theorem dX12_takeSign_80 : decode cX12_takeSign 80 = .ok (.iconst 0, 1) := by decide +kernel
theorem dX12_takeSign_81 : decode cX12_takeSign 81 = .ok (.aload_n 0, 1) := by decide +kernel
theorem dX12_takeSign_82 : decode cX12_takeSign 82 = .ok (.getfield 126, 3) := by decide +kernel
theorem dX12_takeSign_85 : decode cX12_takeSign 85 = .ok (.bipush 10, 2) := by decide +kernel
theorem dX12_takeSign_87 : decode cX12_takeSign 87 = .ok (.if_icmp .ge 7, 3) := by decide +kernel
theorem dX12_takeSign_90 : decode cX12_takeSign 90 = .ok (.iconst 0, 1) := by decide +kernel
theorem dX12_takeSign_91 : decode cX12_takeSign 91 = .ok (.goto 9, 3) := by decide +kernel
theorem dX12_takeSign_94 : decode cX12_takeSign 94 = .ok (.aload_n 0, 1) := by decide +kernel
theorem dX12_takeSign_95 : decode cX12_takeSign 95 = .ok (.getfield 56, 3) := by decide +kernel
theorem dX12_takeSign_98 : decode cX12_takeSign 98 = .ok (.iconst 0, 1) := by decide +kernel
theorem dX12_takeSign_99 : decode cX12_takeSign 99 = .ok (.iaload, 1) := by decide +kernel
theorem dX12_takeSign_100 : decode cX12_takeSign 100 = .ok (.iastore, 1) := by decide +kernel
theorem dX12_takeSign_101 : decode cX12_takeSign 101 = .ok (.aload_n 0, 1) := by decide +kernel
theorem dX12_takeSign_102 : decode cX12_takeSign 102 = .ok (.getfield 126, 3) := by decide +kernel
theorem dX12_takeSign_105 : decode cX12_takeSign 105 = .ok (.bipush 10, 2) := by decide +kernel
theorem dX12_takeSign_107 : decode cX12_takeSign 107 = .ok (.if_icmp .ge 7, 3) := by decide +kernel
theorem dX12_takeSign_110 : decode cX12_takeSign 110 = .ok (.iconst 1, 1) := by decide +kernel
theorem dX12_takeSign_111 : decode cX12_takeSign 111 = .ok (.goto 4, 3) := by decide +kernel
theorem dX12_takeSign_114 : decode cX12_takeSign 114 = .ok (.iconst 0, 1) := by decide +kernel
theorem dX12_takeSign_115 : decode cX12_takeSign 115 = .ok (.ireturn, 1) := by decide +kernel
theorem dX12_takeSign_116 : decode cX12_takeSign 116 = .ok (.aload_n 0, 1) := by decide +kernel
theorem dX12_takeSign_117 : decode cX12_takeSign 117 = .ok (.getfield 62, 3) := by decide +kernel
theorem dX12_takeSign_120 : decode cX12_takeSign 120 = .ok (.invokestatic 129, 3) := by decide +kernel
theorem dX12_takeSign_123 : decode cX12_takeSign 123 = .ok (.bipush 12, 2) := by decide +kernel
theorem dX12_takeSign_125 : decode cX12_takeSign 125 = .ok (.if_icmp .ge 7, 3) := by decide +kernel
theorem dX12_takeSign_128 : decode cX12_takeSign 128 = .ok (.iconst 1, 1) := by decide +kernel
theorem dX12_takeSign_129 : decode cX12_takeSign 129 = .ok (.goto 4, 3) := by decide +kernel
theorem dX12_takeSign_132 : decode cX12_takeSign 132 = .ok (.iconst 0, 1) := by decide +kernel
theorem dX12_takeSign_133 : decode cX12_takeSign 133 = .ok (.ireturn, 1) := by decide +kernel
theorem dX12_takeSign_134 : decode cX12_takeSign 134 = .ok (.aload_n 0, 1) := by decide +kernel
theorem dX12_takeSign_135 : decode cX12_takeSign 135 = .ok (.getfield 62, 3) := by decide +kernel
theorem dX12_takeSign_138 : decode cX12_takeSign 138 = .ok (.bipush 19, 2) := by decide +kernel
theorem dX12_takeSign_140 : decode cX12_takeSign 140 = .ok (.iaload, 1) := by decide +kernel
theorem dX12_takeSign_141 : decode cX12_takeSign 141 = .ok (.bipush 15, 2) := by decide +kernel
theorem dX12_takeSign_143 : decode cX12_takeSign 143 = .ok (.if_icmp .eq 7, 3) := by decide +kernel
theorem dX12_takeSign_146 : decode cX12_takeSign 146 = .ok (.iconst 1, 1) := by decide +kernel
theorem dX12_takeSign_147 : decode cX12_takeSign 147 = .ok (.goto 4, 3) := by decide +kernel
theorem dX12_takeSign_150 : decode cX12_takeSign 150 = .ok (.iconst 0, 1) := by decide +kernel
theorem dX12_takeSign_151 : decode cX12_takeSign 151 = .ok (.ireturn, 1) := by decide +kernel
theorem dX12_takeSign_152 : decode cX12_takeSign 152 = .ok (.aload_n 0, 1) := by decide +kernel
theorem dX12_takeSign_153 : decode cX12_takeSign 153 = .ok (.getfield 62, 3) := by decide +kernel
theorem dX12_takeSign_156 : decode cX12_takeSign 156 = .ok (.bipush 20, 2) := by decide +kernel
theorem dX12_takeSign_158 : decode cX12_takeSign 158 = .ok (.iaload, 1) := by decide +kernel
theorem dX12_takeSign_159 : decode cX12_takeSign 159 = .ok (.bipush 15, 2) := by decide +kernel
theorem dX12_takeSign_161 : decode cX12_takeSign 161 = .ok (.if_icmp .eq 7, 3) := by decide +kernel
theorem dX12_takeSign_164 : decode cX12_takeSign 164 = .ok (.iconst 1, 1) := by decide +kernel
theorem dX12_takeSign_165 : decode cX12_takeSign 165 = .ok (.goto 4, 3) := by decide +kernel
theorem dX12_takeSign_168 : decode cX12_takeSign 168 = .ok (.iconst 0, 1) := by decide +kernel
theorem dX12_takeSign_169 : decode cX12_takeSign 169 = .ok (.ireturn, 1) := by decide +kernel
theorem dX12_takeSign_170 : decode cX12_takeSign 170 = .ok (.aload_n 0, 1) := by decide +kernel
theorem dX12_takeSign_171 : decode cX12_takeSign 171 = .ok (.getfield 62, 3) := by decide +kernel
theorem dX12_takeSign_174 : decode cX12_takeSign 174 = .ok (.bipush 21, 2) := by decide +kernel
theorem dX12_takeSign_176 : decode cX12_takeSign 176 = .ok (.iaload, 1) := by decide +kernel
theorem dX12_takeSign_177 : decode cX12_takeSign 177 = .ok (.aload_n 0, 1) := by decide +kernel
theorem dX12_takeSign_178 : decode cX12_takeSign 178 = .ok (.getfield 62, 3) := by decide +kernel
theorem dX12_takeSign_181 : decode cX12_takeSign 181 = .ok (.bipush 22, 2) := by decide +kernel
theorem dX12_takeSign_183 : decode cX12_takeSign 183 = .ok (.iaload, 1) := by decide +kernel
theorem dX12_takeSign_184 : decode cX12_takeSign 184 = .ok (.iadd, 1) := by decide +kernel
theorem dX12_takeSign_185 : decode cX12_takeSign 185 = .ok (.aload_n 0, 1) := by decide +kernel
theorem dX12_takeSign_186 : decode cX12_takeSign 186 = .ok (.getfield 62, 3) := by decide +kernel
theorem dX12_takeSign_189 : decode cX12_takeSign 189 = .ok (.bipush 23, 2) := by decide +kernel
theorem dX12_takeSign_191 : decode cX12_takeSign 191 = .ok (.iaload, 1) := by decide +kernel
theorem dX12_takeSign_192 : decode cX12_takeSign 192 = .ok (.iadd, 1) := by decide +kernel
theorem dX12_takeSign_193 : decode cX12_takeSign 193 = .ok (.aload_n 0, 1) := by decide +kernel
theorem dX12_takeSign_194 : decode cX12_takeSign 194 = .ok (.getfield 62, 3) := by decide +kernel
theorem dX12_takeSign_197 : decode cX12_takeSign 197 = .ok (.bipush 24, 2) := by decide +kernel
theorem dX12_takeSign_199 : decode cX12_takeSign 199 = .ok (.iaload, 1) := by decide +kernel
theorem dX12_takeSign_200 : decode cX12_takeSign 200 = .ok (.iadd, 1) := by decide +kernel
theorem dX12_takeSign_201 : decode cX12_takeSign 201 = .ok (.bipush 60, 2) := by decide +kernel
theorem dX12_takeSign_203 : decode cX12_takeSign 203 = .ok (.if_icmp .eq 7, 3) := by decide +kernel
theorem dX12_takeSign_206 : decode cX12_takeSign 206 = .ok (.iconst 1, 1) := by decide +kernel
theorem dX12_takeSign_207 : decode cX12_takeSign 207 = .ok (.goto 4, 3) := by decide +kernel
theorem dX12_takeSign_210 : decode cX12_takeSign 210 = .ok (.iconst 0, 1) := by decide +kernel
theorem dX12_takeSign_211 : decode cX12_takeSign 211 = .ok (.ireturn, 1) := by decide +kernel
theorem dX12_takeSign_212 : decode cX12_takeSign 212 = .ok (.iconst 0, 1) := by decide +kernel
theorem dX12_takeSign_213 : decode cX12_takeSign 213 = .ok (.ireturn, 1) := by decide +kernel
theorem dX12_takeOfWord_0 : decode cX12_takeOfWord 0 = .ok (.aload_n 0, 1) := by decide +kernel
theorem dX12_takeOfWord_1 : decode cX12_takeOfWord 1 = .ok (.getfield 126, 3) := by decide +kernel
theorem dX12_takeOfWord_4 : decode cX12_takeOfWord 4 = .ok (.istore_n 2, 1) := by decide +kernel
theorem dX12_takeOfWord_5 : decode cX12_takeOfWord 5 = .ok (.aload_n 0, 1) := by decide +kernel
theorem dX12_takeOfWord_6 : decode cX12_takeOfWord 6 = .ok (.getfield 123, 3) := by decide +kernel
theorem dX12_takeOfWord_9 : decode cX12_takeOfWord 9 = .ok (.iconst 2, 1) := by decide +kernel
theorem dX12_takeOfWord_10 : decode cX12_takeOfWord 10 = .ok (.if_icmp .ne 43, 3) := by decide +kernel
theorem dX12_takeOfWord_13 : decode cX12_takeOfWord 13 = .ok (.aload_n 0, 1) := by decide +kernel
theorem dX12_takeOfWord_14 : decode cX12_takeOfWord 14 = .ok (.getfield 62, 3) := by decide +kernel
theorem dX12_takeOfWord_17 : decode cX12_takeOfWord 17 = .ok (.bipush 9, 2) := by decide +kernel
theorem dX12_takeOfWord_19 : decode cX12_takeOfWord 19 = .ok (.iload_n 2, 1) := by decide +kernel
theorem dX12_takeOfWord_20 : decode cX12_takeOfWord 20 = .ok (.iadd, 1) := by decide +kernel
theorem dX12_takeOfWord_21 : decode cX12_takeOfWord 21 = .ok (.iload_n 1, 1) := by decide +kernel
theorem dX12_takeOfWord_22 : decode cX12_takeOfWord 22 = .ok (.bipush 48, 2) := by decide +kernel
theorem dX12_takeOfWord_24 : decode cX12_takeOfWord 24 = .ok (.isub, 1) := by decide +kernel
theorem dX12_takeOfWord_25 : decode cX12_takeOfWord 25 = .ok (.iastore, 1) := by decide +kernel
theorem dX12_takeOfWord_26 : decode cX12_takeOfWord 26 = .ok (.aload_n 0, 1) := by decide +kernel
theorem dX12_takeOfWord_27 : decode cX12_takeOfWord 27 = .ok (.dup, 1) := by decide +kernel
theorem dX12_takeOfWord_28 : decode cX12_takeOfWord 28 = .ok (.getfield 126, 3) := by decide +kernel
theorem dX12_takeOfWord_31 : decode cX12_takeOfWord 31 = .ok (.iconst 1, 1) := by decide +kernel
theorem dX12_takeOfWord_32 : decode cX12_takeOfWord 32 = .ok (.iadd, 1) := by decide +kernel
theorem dX12_takeOfWord_33 : decode cX12_takeOfWord 33 = .ok (.putfield 126, 3) := by decide +kernel
theorem dX12_takeOfWord_36 : decode cX12_takeOfWord 36 = .ok (.aload_n 0, 1) := by decide +kernel
theorem dX12_takeOfWord_37 : decode cX12_takeOfWord 37 = .ok (.iconst 0, 1) := by decide +kernel
theorem dX12_takeOfWord_38 : decode cX12_takeOfWord 38 = .ok (.putfield 123, 3) := by decide +kernel
theorem dX12_takeOfWord_41 : decode cX12_takeOfWord 41 = .ok (.iload_n 1, 1) := by decide +kernel
theorem dX12_takeOfWord_42 : decode cX12_takeOfWord 42 = .ok (.i2l, 1) := by decide +kernel
theorem dX12_takeOfWord_43 : decode cX12_takeOfWord 43 = .ok (.ldc2_w 133, 3) := by decide +kernel
theorem dX12_takeOfWord_46 : decode cX12_takeOfWord 46 = .ok (.ldc2_w 135, 3) := by decide +kernel
theorem dX12_takeOfWord_49 : decode cX12_takeOfWord 49 = .ok (.invokestatic 107, 3) := by decide +kernel
theorem dX12_takeOfWord_52 : decode cX12_takeOfWord 52 = .ok (.ireturn, 1) := by decide +kernel
theorem dX12_takeOfWord_53 : decode cX12_takeOfWord 53 = .ok (.iload_n 1, 1) := by decide +kernel
theorem dX12_takeOfWord_54 : decode cX12_takeOfWord 54 = .ok (.i2l, 1) := by decide +kernel
theorem dX12_takeOfWord_55 : decode cX12_takeOfWord 55 = .ok (.ldc2_w 137, 3) := by decide +kernel
theorem dX12_takeOfWord_58 : decode cX12_takeOfWord 58 = .ok (.ldc2_w 139, 3) := by decide +kernel
theorem dX12_takeOfWord_61 : decode cX12_takeOfWord 61 = .ok (.invokestatic 107, 3) := by decide +kernel
theorem dX12_takeOfWord_64 : decode cX12_takeOfWord 64 = .ok (.ifCond .eq 46, 3) := by decide +kernel
theorem dX12_takeOfWord_67 : decode cX12_takeOfWord 67 = .ok (.aload_n 0, 1) := by decide +kernel
theorem dX12_takeOfWord_68 : decode cX12_takeOfWord 68 = .ok (.getfield 56, 3) := by decide +kernel
theorem dX12_takeOfWord_71 : decode cX12_takeOfWord 71 = .ok (.iload_n 2, 1) := by decide +kernel
theorem dX12_takeOfWord_72 : decode cX12_takeOfWord 72 = .ok (.iaload, 1) := by decide +kernel
theorem dX12_takeOfWord_73 : decode cX12_takeOfWord 73 = .ok (.bipush 6, 2) := by decide +kernel
theorem dX12_takeOfWord_75 : decode cX12_takeOfWord 75 = .ok (.if_icmp .ge 35, 3) := by decide +kernel
theorem dX12_takeOfWord_78 : decode cX12_takeOfWord 78 = .ok (.aload_n 0, 1) := by decide +kernel
theorem dX12_takeOfWord_79 : decode cX12_takeOfWord 79 = .ok (.getfield 53, 3) := by decide +kernel
theorem dX12_takeOfWord_82 : decode cX12_takeOfWord 82 = .ok (.bipush 6, 2) := by decide +kernel
theorem dX12_takeOfWord_84 : decode cX12_takeOfWord 84 = .ok (.iload_n 2, 1) := by decide +kernel
theorem dX12_takeOfWord_85 : decode cX12_takeOfWord 85 = .ok (.imul, 1) := by decide +kernel
theorem dX12_takeOfWord_86 : decode cX12_takeOfWord 86 = .ok (.aload_n 0, 1) := by decide +kernel
theorem dX12_takeOfWord_87 : decode cX12_takeOfWord 87 = .ok (.getfield 56, 3) := by decide +kernel
theorem dX12_takeOfWord_90 : decode cX12_takeOfWord 90 = .ok (.iload_n 2, 1) := by decide +kernel
theorem dX12_takeOfWord_91 : decode cX12_takeOfWord 91 = .ok (.iaload, 1) := by decide +kernel
theorem dX12_takeOfWord_92 : decode cX12_takeOfWord 92 = .ok (.iadd, 1) := by decide +kernel
theorem dX12_takeOfWord_93 : decode cX12_takeOfWord 93 = .ok (.iload_n 1, 1) := by decide +kernel
theorem dX12_takeOfWord_94 : decode cX12_takeOfWord 94 = .ok (.bipush 97, 2) := by decide +kernel
theorem dX12_takeOfWord_96 : decode cX12_takeOfWord 96 = .ok (.isub, 1) := by decide +kernel
theorem dX12_takeOfWord_97 : decode cX12_takeOfWord 97 = .ok (.iastore, 1) := by decide +kernel
theorem dX12_takeOfWord_98 : decode cX12_takeOfWord 98 = .ok (.aload_n 0, 1) := by decide +kernel
theorem dX12_takeOfWord_99 : decode cX12_takeOfWord 99 = .ok (.getfield 56, 3) := by decide +kernel
theorem dX12_takeOfWord_102 : decode cX12_takeOfWord 102 = .ok (.iload_n 2, 1) := by decide +kernel
theorem dX12_takeOfWord_103 : decode cX12_takeOfWord 103 = .ok (.dup2, 1) := by decide +kernel
theorem dX12_takeOfWord_104 : decode cX12_takeOfWord 104 = .ok (.iaload, 1) := by decide +kernel
theorem dX12_takeOfWord_105 : decode cX12_takeOfWord 105 = .ok (.iconst 1, 1) := by decide +kernel
theorem dX12_takeOfWord_106 : decode cX12_takeOfWord 106 = .ok (.iadd, 1) := by decide +kernel
theorem dX12_takeOfWord_107 : decode cX12_takeOfWord 107 = .ok (.iastore, 1) := by decide +kernel
theorem dX12_takeOfWord_108 : decode cX12_takeOfWord 108 = .ok (.iconst 1, 1) := by decide +kernel
theorem dX12_takeOfWord_109 : decode cX12_takeOfWord 109 = .ok (.ireturn, 1) := by decide +kernel
theorem dX12_takeOfWord_110 : decode cX12_takeOfWord 110 = .ok (.aload_n 0, 1) := by decide +kernel
theorem dX12_takeOfWord_111 : decode cX12_takeOfWord 111 = .ok (.getfield 59, 3) := by decide +kernel
theorem dX12_takeOfWord_114 : decode cX12_takeOfWord 114 = .ok (.iload_n 2, 1) := by decide +kernel
theorem dX12_takeOfWord_115 : decode cX12_takeOfWord 115 = .ok (.iload_n 1, 1) := by decide +kernel
theorem dX12_takeOfWord_116 : decode cX12_takeOfWord 116 = .ok (.bipush 65, 2) := by decide +kernel
theorem dX12_takeOfWord_118 : decode cX12_takeOfWord 118 = .ok (.isub, 1) := by decide +kernel
theorem dX12_takeOfWord_119 : decode cX12_takeOfWord 119 = .ok (.iastore, 1) := by decide +kernel
theorem dX12_takeOfWord_120 : decode cX12_takeOfWord 120 = .ok (.aload_n 0, 1) := by decide +kernel
theorem dX12_takeOfWord_121 : decode cX12_takeOfWord 121 = .ok (.iconst 2, 1) := by decide +kernel
theorem dX12_takeOfWord_122 : decode cX12_takeOfWord 122 = .ok (.putfield 123, 3) := by decide +kernel
theorem dX12_takeOfWord_125 : decode cX12_takeOfWord 125 = .ok (.iload_n 1, 1) := by decide +kernel
theorem dX12_takeOfWord_126 : decode cX12_takeOfWord 126 = .ok (.i2l, 1) := by decide +kernel
theorem dX12_takeOfWord_127 : decode cX12_takeOfWord 127 = .ok (.ldc2_w 141, 3) := by decide +kernel
theorem dX12_takeOfWord_130 : decode cX12_takeOfWord 130 = .ok (.ldc2_w 143, 3) := by decide +kernel
theorem dX12_takeOfWord_133 : decode cX12_takeOfWord 133 = .ok (.invokestatic 107, 3) := by decide +kernel
theorem dX12_takeOfWord_136 : decode cX12_takeOfWord 136 = .ok (.ifCond .eq 16, 3) := by decide +kernel
theorem dX12_takeOfWord_139 : decode cX12_takeOfWord 139 = .ok (.aload_n 0, 1) := by decide +kernel
theorem dX12_takeOfWord_140 : decode cX12_takeOfWord 140 = .ok (.getfield 56, 3) := by decide +kernel
theorem dX12_takeOfWord_143 : decode cX12_takeOfWord 143 = .ok (.iload_n 2, 1) := by decide +kernel
theorem dX12_takeOfWord_144 : decode cX12_takeOfWord 144 = .ok (.iaload, 1) := by decide +kernel
theorem dX12_takeOfWord_145 : decode cX12_takeOfWord 145 = .ok (.ifCond .le 7, 3) := by decide +kernel
theorem dX12_takeOfWord_148 : decode cX12_takeOfWord 148 = .ok (.iconst 1, 1) := by decide +kernel
theorem dX12_takeOfWord_149 : decode cX12_takeOfWord 149 = .ok (.goto 4, 3) := by decide +kernel
theorem dX12_takeOfWord_152 : decode cX12_takeOfWord 152 = .ok (.iconst 0, 1) := by decide +kernel
theorem dX12_takeOfWord_153 : decode cX12_takeOfWord 153 = .ok (.ireturn, 1) := by decide +kernel
theorem dX12_takeKind_0 : decode cX12_takeKind 0 = .ok (.iload_n 1, 1) := by decide +kernel
theorem dX12_takeKind_1 : decode cX12_takeKind 1 = .ok (.bipush 65, 2) := by decide +kernel
theorem dX12_takeKind_3 : decode cX12_takeKind 3 = .ok (.isub, 1) := by decide +kernel
theorem dX12_takeKind_4 : decode cX12_takeKind 4 = .ok (.istore_n 3, 1) := by decide +kernel
theorem dX12_takeKind_5 : decode cX12_takeKind 5 = .ok (.iload_n 3, 1) := by decide +kernel
theorem dX12_takeKind_6 : decode cX12_takeKind 6 = .ok (.invokestatic 145, 3) := by decide +kernel
theorem dX12_takeKind_9 : decode cX12_takeKind 9 = .ok (.ifCond .eq 16, 3) := by decide +kernel
theorem dX12_takeKind_12 : decode cX12_takeKind 12 = .ok (.aload_n 0, 1) := by decide +kernel
theorem dX12_takeKind_13 : decode cX12_takeKind 13 = .ok (.getfield 62, 3) := by decide +kernel
theorem dX12_takeKind_16 : decode cX12_takeKind 16 = .ok (.iload_n 2, 1) := by decide +kernel
theorem dX12_takeKind_17 : decode cX12_takeKind 17 = .ok (.iaload, 1) := by decide +kernel
theorem dX12_takeKind_18 : decode cX12_takeKind 18 = .ok (.iload_n 3, 1) := by decide +kernel
theorem dX12_takeKind_19 : decode cX12_takeKind 19 = .ok (.invokestatic 149, 3) := by decide +kernel
theorem dX12_takeKind_22 : decode cX12_takeKind 22 = .ok (.ifCond .eq 5, 3) := by decide +kernel
theorem dX12_takeKind_25 : decode cX12_takeKind 25 = .ok (.iconst 0, 1) := by decide +kernel
theorem dX12_takeKind_26 : decode cX12_takeKind 26 = .ok (.ireturn, 1) := by decide +kernel
theorem dX12_takeKind_27 : decode cX12_takeKind 27 = .ok (.aload_n 0, 1) := by decide +kernel
theorem dX12_takeKind_28 : decode cX12_takeKind 28 = .ok (.getfield 62, 3) := by decide +kernel
theorem dX12_takeKind_31 : decode cX12_takeKind 31 = .ok (.iload_n 2, 1) := by decide +kernel
theorem dX12_takeKind_32 : decode cX12_takeKind 32 = .ok (.dup2, 1) := by decide +kernel
theorem dX12_takeKind_33 : decode cX12_takeKind 33 = .ok (.iaload, 1) := by decide +kernel
theorem dX12_takeKind_34 : decode cX12_takeKind 34 = .ok (.iconst 1, 1) := by decide +kernel
theorem dX12_takeKind_35 : decode cX12_takeKind 35 = .ok (.iload_n 3, 1) := by decide +kernel
theorem dX12_takeKind_36 : decode cX12_takeKind 36 = .ok (.ishl, 1) := by decide +kernel
theorem dX12_takeKind_37 : decode cX12_takeKind 37 = .ok (.ior, 1) := by decide +kernel
theorem dX12_takeKind_38 : decode cX12_takeKind 38 = .ok (.iastore, 1) := by decide +kernel
theorem dX12_takeKind_39 : decode cX12_takeKind 39 = .ok (.aload_n 0, 1) := by decide +kernel
theorem dX12_takeKind_40 : decode cX12_takeKind 40 = .ok (.iconst 0, 1) := by decide +kernel
theorem dX12_takeKind_41 : decode cX12_takeKind 41 = .ok (.putfield 123, 3) := by decide +kernel
theorem dX12_takeKind_44 : decode cX12_takeKind 44 = .ok (.iconst 1, 1) := by decide +kernel
theorem dX12_takeKind_45 : decode cX12_takeKind 45 = .ok (.ireturn, 1) := by decide +kernel
theorem dX12_takeOfPair_0 : decode cX12_takeOfPair 0 = .ok (.iload_n 1, 1) := by decide +kernel
theorem dX12_takeOfPair_1 : decode cX12_takeOfPair 1 = .ok (.bipush 65, 2) := by decide +kernel
theorem dX12_takeOfPair_3 : decode cX12_takeOfPair 3 = .ok (.isub, 1) := by decide +kernel
theorem dX12_takeOfPair_4 : decode cX12_takeOfPair 4 = .ok (.istore_n 2, 1) := by decide +kernel
theorem dX12_takeOfPair_5 : decode cX12_takeOfPair 5 = .ok (.aload_n 0, 1) := by decide +kernel
theorem dX12_takeOfPair_6 : decode cX12_takeOfPair 6 = .ok (.getfield 123, 3) := by decide +kernel
theorem dX12_takeOfPair_9 : decode cX12_takeOfPair 9 = .ok (.iconst 2, 1) := by decide +kernel
theorem dX12_takeOfPair_10 : decode cX12_takeOfPair 10 = .ok (.if_icmp .ne 16, 3) := by decide +kernel
theorem dX12_takeOfPair_13 : decode cX12_takeOfPair 13 = .ok (.aload_n 0, 1) := by decide +kernel
theorem dX12_takeOfPair_14 : decode cX12_takeOfPair 14 = .ok (.iload_n 1, 1) := by decide +kernel
theorem dX12_takeOfPair_15 : decode cX12_takeOfPair 15 = .ok (.bipush 21, 2) := by decide +kernel
theorem dX12_takeOfPair_17 : decode cX12_takeOfPair 17 = .ok (.aload_n 0, 1) := by decide +kernel
theorem dX12_takeOfPair_18 : decode cX12_takeOfPair 18 = .ok (.getfield 153, 3) := by decide +kernel
theorem dX12_takeOfPair_21 : decode cX12_takeOfPair 21 = .ok (.iadd, 1) := by decide +kernel
theorem dX12_takeOfPair_22 : decode cX12_takeOfPair 22 = .ok (.invokevirtual 156, 3) := by decide +kernel
theorem dX12_takeOfPair_25 : decode cX12_takeOfPair 25 = .ok (.ireturn, 1) := by decide +kernel
theorem dX12_takeOfPair_26 : decode cX12_takeOfPair 26 = .ok (.aload_n 0, 1) := by decide +kernel
theorem dX12_takeOfPair_27 : decode cX12_takeOfPair 27 = .ok (.iload_n 2, 1) := by decide +kernel
theorem dX12_takeOfPair_28 : decode cX12_takeOfPair 28 = .ok (.putfield 153, 3) := by decide +kernel
theorem dX12_takeOfPair_31 : decode cX12_takeOfPair 31 = .ok (.aload_n 0, 1) := by decide +kernel
theorem dX12_takeOfPair_32 : decode cX12_takeOfPair 32 = .ok (.iconst 2, 1) := by decide +kernel
theorem dX12_takeOfPair_33 : decode cX12_takeOfPair 33 = .ok (.putfield 123, 3) := by decide +kernel
theorem dX12_takeOfPair_36 : decode cX12_takeOfPair 36 = .ok (.iload_n 2, 1) := by decide +kernel
theorem dX12_takeOfPair_37 : decode cX12_takeOfPair 37 = .ok (.invokestatic 145, 3) := by decide +kernel
theorem dX12_takeOfPair_40 : decode cX12_takeOfPair 40 = .ok (.ifCond .eq 21, 3) := by decide +kernel
theorem dX12_takeOfPair_43 : decode cX12_takeOfPair 43 = .ok (.aload_n 0, 1) := by decide +kernel
theorem dX12_takeOfPair_44 : decode cX12_takeOfPair 44 = .ok (.getfield 62, 3) := by decide +kernel
theorem dX12_takeOfPair_47 : decode cX12_takeOfPair 47 = .ok (.bipush 21, 2) := by decide +kernel
theorem dX12_takeOfPair_49 : decode cX12_takeOfPair 49 = .ok (.iload_n 2, 1) := by decide +kernel
theorem dX12_takeOfPair_50 : decode cX12_takeOfPair 50 = .ok (.iadd, 1) := by decide +kernel
theorem dX12_takeOfPair_51 : decode cX12_takeOfPair 51 = .ok (.iaload, 1) := by decide +kernel
theorem dX12_takeOfPair_52 : decode cX12_takeOfPair 52 = .ok (.bipush 15, 2) := by decide +kernel
theorem dX12_takeOfPair_54 : decode cX12_takeOfPair 54 = .ok (.if_icmp .eq 7, 3) := by decide +kernel
theorem dX12_takeOfPair_57 : decode cX12_takeOfPair 57 = .ok (.iconst 1, 1) := by decide +kernel
theorem dX12_takeOfPair_58 : decode cX12_takeOfPair 58 = .ok (.goto 4, 3) := by decide +kernel
theorem dX12_takeOfPair_61 : decode cX12_takeOfPair 61 = .ok (.iconst 0, 1) := by decide +kernel
theorem dX12_takeOfPair_62 : decode cX12_takeOfPair 62 = .ok (.ireturn, 1) := by decide +kernel
theorem dX12_takeOfBag_0 : decode cX12_takeOfBag 0 = .ok (.iload_n 1, 1) := by decide +kernel
theorem dX12_takeOfBag_1 : decode cX12_takeOfBag 1 = .ok (.i2l, 1) := by decide +kernel
theorem dX12_takeOfBag_2 : decode cX12_takeOfBag 2 = .ok (.ldc2_w 137, 3) := by decide +kernel
theorem dX12_takeOfBag_5 : decode cX12_takeOfBag 5 = .ok (.ldc2_w 139, 3) := by decide +kernel
theorem dX12_takeOfBag_8 : decode cX12_takeOfBag 8 = .ok (.invokestatic 107, 3) := by decide +kernel
theorem dX12_takeOfBag_11 : decode cX12_takeOfBag 11 = .ok (.ifCond .ne 5, 3) := by decide +kernel
theorem dX12_takeOfBag_14 : decode cX12_takeOfBag 14 = .ok (.iconst 0, 1) := by decide +kernel
theorem dX12_takeOfBag_15 : decode cX12_takeOfBag 15 = .ok (.ireturn, 1) := by decide +kernel
theorem dX12_takeOfBag_16 : decode cX12_takeOfBag 16 = .ok (.aload_n 0, 1) := by decide +kernel
theorem dX12_takeOfBag_17 : decode cX12_takeOfBag 17 = .ok (.getfield 62, 3) := by decide +kernel
theorem dX12_takeOfBag_20 : decode cX12_takeOfBag 20 = .ok (.iload_n 1, 1) := by decide +kernel
theorem dX12_takeOfBag_21 : decode cX12_takeOfBag 21 = .ok (.bipush 97, 2) := by decide +kernel
theorem dX12_takeOfBag_23 : decode cX12_takeOfBag 23 = .ok (.isub, 1) := by decide +kernel
theorem dX12_takeOfBag_24 : decode cX12_takeOfBag 24 = .ok (.dup2, 1) := by decide +kernel
theorem dX12_takeOfBag_25 : decode cX12_takeOfBag 25 = .ok (.iaload, 1) := by decide +kernel
theorem dX12_takeOfBag_26 : decode cX12_takeOfBag 26 = .ok (.iconst 1, 1) := by decide +kernel
theorem dX12_takeOfBag_27 : decode cX12_takeOfBag 27 = .ok (.iadd, 1) := by decide +kernel
theorem dX12_takeOfBag_28 : decode cX12_takeOfBag 28 = .ok (.iastore, 1) := by decide +kernel
theorem dX12_takeOfBag_29 : decode cX12_takeOfBag 29 = .ok (.aload_n 0, 1) := by decide +kernel
theorem dX12_takeOfBag_30 : decode cX12_takeOfBag 30 = .ok (.iconst 0, 1) := by decide +kernel
theorem dX12_takeOfBag_31 : decode cX12_takeOfBag 31 = .ok (.putfield 123, 3) := by decide +kernel
theorem dX12_takeOfBag_34 : decode cX12_takeOfBag 34 = .ok (.iconst 1, 1) := by decide +kernel
theorem dX12_takeOfBag_35 : decode cX12_takeOfBag 35 = .ok (.ireturn, 1) := by decide +kernel
theorem dX12_takeIn_0 : decode cX12_takeIn 0 = .ok (.aload_n 0, 1) := by decide +kernel
theorem dX12_takeIn_1 : decode cX12_takeIn 1 = .ok (.getfield 120, 3) := by decide +kernel
theorem dX12_takeIn_4 : decode cX12_takeIn 4 = .ok (.lookupswitch 72 #[(43, 50), (46, 64), (94, 56), (119, 44)], 44) := by decide +kernel
theorem dX12_takeIn_48 : decode cX12_takeIn 48 = .ok (.aload_n 0, 1) := by decide +kernel
theorem dX12_takeIn_49 : decode cX12_takeIn 49 = .ok (.iload_n 1, 1) := by decide +kernel
theorem dX12_takeIn_50 : decode cX12_takeIn 50 = .ok (.invokevirtual 159, 3) := by decide +kernel
theorem dX12_takeIn_53 : decode cX12_takeIn 53 = .ok (.ireturn, 1) := by decide +kernel
theorem dX12_takeIn_54 : decode cX12_takeIn 54 = .ok (.aload_n 0, 1) := by decide +kernel
theorem dX12_takeIn_55 : decode cX12_takeIn 55 = .ok (.iload_n 1, 1) := by decide +kernel
theorem dX12_takeIn_56 : decode cX12_takeIn 56 = .ok (.invokevirtual 162, 3) := by decide +kernel
theorem dX12_takeIn_59 : decode cX12_takeIn 59 = .ok (.ireturn, 1) := by decide +kernel
theorem dX12_takeIn_60 : decode cX12_takeIn 60 = .ok (.aload_n 0, 1) := by decide +kernel
theorem dX12_takeIn_61 : decode cX12_takeIn 61 = .ok (.iload_n 1, 1) := by decide +kernel
theorem dX12_takeIn_62 : decode cX12_takeIn 62 = .ok (.bipush 19, 2) := by decide +kernel
theorem dX12_takeIn_64 : decode cX12_takeIn 64 = .ok (.invokevirtual 156, 3) := by decide +kernel
theorem dX12_takeIn_67 : decode cX12_takeIn 67 = .ok (.ireturn, 1) := by decide +kernel
theorem dX12_takeIn_68 : decode cX12_takeIn 68 = .ok (.aload_n 0, 1) := by decide +kernel
theorem dX12_takeIn_69 : decode cX12_takeIn 69 = .ok (.iload_n 1, 1) := by decide +kernel
theorem dX12_takeIn_70 : decode cX12_takeIn 70 = .ok (.bipush 20, 2) := by decide +kernel
theorem dX12_takeIn_72 : decode cX12_takeIn 72 = .ok (.invokevirtual 156, 3) := by decide +kernel
theorem dX12_takeIn_75 : decode cX12_takeIn 75 = .ok (.ireturn, 1) := by decide +kernel
theorem dX12_takeIn_76 : decode cX12_takeIn 76 = .ok (.aload_n 0, 1) := by decide +kernel
theorem dX12_takeIn_77 : decode cX12_takeIn 77 = .ok (.iload_n 1, 1) := by decide +kernel
theorem dX12_takeIn_78 : decode cX12_takeIn 78 = .ok (.invokevirtual 165, 3) := by decide +kernel
theorem dX12_takeIn_81 : decode cX12_takeIn 81 = .ok (.ireturn, 1) := by decide +kernel
theorem dX12_readText_0 : decode cX12_readText 0 = .ok (.aload_n 0, 1) := by decide +kernel
theorem dX12_readText_1 : decode cX12_readText 1 = .ok (.iconst 0, 1) := by decide +kernel
theorem dX12_readText_2 : decode cX12_readText 2 = .ok (.putfield 126, 3) := by decide +kernel
theorem dX12_readText_5 : decode cX12_readText 5 = .ok (.aload_n 0, 1) := by decide +kernel
theorem dX12_readText_6 : decode cX12_readText 6 = .ok (.getfield 62, 3) := by decide +kernel
theorem dX12_readText_9 : decode cX12_readText 9 = .ok (.invokestatic 99, 3) := by decide +kernel
theorem dX12_readText_12 : decode cX12_readText 12 = .ok (.aload_n 0, 1) := by decide +kernel
theorem dX12_readText_13 : decode cX12_readText 13 = .ok (.iconst 0, 1) := by decide +kernel
theorem dX12_readText_14 : decode cX12_readText 14 = .ok (.putfield 123, 3) := by decide +kernel
theorem dX12_readText_17 : decode cX12_readText 17 = .ok (.iconst 0, 1) := by decide +kernel
theorem dX12_readText_18 : decode cX12_readText 18 = .ok (.istore_n 1, 1) := by decide +kernel
theorem dX12_readText_19 : decode cX12_readText 19 = .ok (.iload_n 1, 1) := by decide +kernel
theorem dX12_readText_20 : decode cX12_readText 20 = .ok (.aload_n 0, 1) := by decide +kernel
theorem dX12_readText_21 : decode cX12_readText 21 = .ok (.getfield 117, 3) := by decide +kernel
theorem dX12_readText_24 : decode cX12_readText 24 = .ok (.if_icmp .ge 47, 3) := by decide +kernel
theorem dX12_readText_27 : decode cX12_readText 27 = .ok (.aload_n 0, 1) := by decide +kernel
theorem dX12_readText_28 : decode cX12_readText 28 = .ok (.getfield 123, 3) := by decide +kernel
theorem dX12_readText_31 : decode cX12_readText 31 = .ok (.ifCond .ne 19, 3) := by decide +kernel
theorem dX12_readText_34 : decode cX12_readText 34 = .ok (.aload_n 0, 1) := by decide +kernel
theorem dX12_readText_35 : decode cX12_readText 35 = .ok (.aload_n 0, 1) := by decide +kernel
theorem dX12_readText_36 : decode cX12_readText 36 = .ok (.getfield 7, 3) := by decide +kernel
theorem dX12_readText_39 : decode cX12_readText 39 = .ok (.iload_n 1, 1) := by decide +kernel
theorem dX12_readText_40 : decode cX12_readText 40 = .ok (.iaload, 1) := by decide +kernel
theorem dX12_readText_41 : decode cX12_readText 41 = .ok (.invokevirtual 168, 3) := by decide +kernel
theorem dX12_readText_44 : decode cX12_readText 44 = .ok (.ifCond .eq 19, 3) := by decide +kernel
theorem dX12_readText_47 : decode cX12_readText 47 = .ok (.goto 18, 3) := by decide +kernel
theorem dX12_readText_50 : decode cX12_readText 50 = .ok (.aload_n 0, 1) := by decide +kernel
theorem dX12_readText_51 : decode cX12_readText 51 = .ok (.aload_n 0, 1) := by decide +kernel
theorem dX12_readText_52 : decode cX12_readText 52 = .ok (.getfield 7, 3) := by decide +kernel
theorem dX12_readText_55 : decode cX12_readText 55 = .ok (.iload_n 1, 1) := by decide +kernel
theorem dX12_readText_56 : decode cX12_readText 56 = .ok (.iaload, 1) := by decide +kernel
theorem dX12_readText_57 : decode cX12_readText 57 = .ok (.invokevirtual 171, 3) := by decide +kernel
theorem dX12_readText_60 : decode cX12_readText 60 = .ok (.ifCond .ne 5, 3) := by decide +kernel
theorem dX12_readText_63 : decode cX12_readText 63 = .ok (.iload_n 1, 1) := by decide +kernel
theorem dX12_readText_64 : decode cX12_readText 64 = .ok (.ireturn, 1) := by decide +kernel
theorem dX12_readText_65 : decode cX12_readText 65 = .ok (.iinc 1 1, 3) := by decide +kernel
theorem dX12_readText_68 : decode cX12_readText 68 = .ok (.goto (-49), 3) := by decide +kernel
theorem dX12_readText_71 : decode cX12_readText 71 = .ok (.aload_n 0, 1) := by decide +kernel
theorem dX12_readText_72 : decode cX12_readText 72 = .ok (.getfield 123, 3) := by decide +kernel
theorem dX12_readText_75 : decode cX12_readText 75 = .ok (.ifCond .ne 8, 3) := by decide +kernel
theorem dX12_readText_78 : decode cX12_readText 78 = .ok (.bipush (-9), 2) := by decide +kernel
theorem dX12_readText_80 : decode cX12_readText 80 = .ok (.goto 7, 3) := by decide +kernel
theorem dX12_readText_83 : decode cX12_readText 83 = .ok (.aload_n 0, 1) := by decide +kernel
theorem dX12_readText_84 : decode cX12_readText 84 = .ok (.getfield 117, 3) := by decide +kernel
theorem dX12_readText_87 : decode cX12_readText 87 = .ok (.ireturn, 1) := by decide +kernel
theorem dX12_fault_0 : decode cX12_fault 0 = .ok (.aload_n 0, 1) := by decide +kernel
theorem dX12_fault_1 : decode cX12_fault 1 = .ok (.invokevirtual 174, 3) := by decide +kernel
theorem dX12_fault_4 : decode cX12_fault 4 = .ok (.ireturn, 1) := by decide +kernel
theorem dX12_house_0 : decode cX12_house 0 = .ok (.aload_n 0, 1) := by decide +kernel
theorem dX12_house_1 : decode cX12_house 1 = .ok (.invokevirtual 174, 3) := by decide +kernel
theorem dX12_house_4 : decode cX12_house 4 = .ok (.bipush (-9), 2) := by decide +kernel
theorem dX12_house_6 : decode cX12_house 6 = .ok (.if_icmp .eq 6, 3) := by decide +kernel
theorem dX12_house_9 : decode cX12_house 9 = .ok (.bipush (-3), 2) := by decide +kernel
theorem dX12_house_11 : decode cX12_house 11 = .ok (.ireturn, 1) := by decide +kernel
theorem dX12_house_12 : decode cX12_house 12 = .ok (.aload_n 0, 1) := by decide +kernel
theorem dX12_house_13 : decode cX12_house 13 = .ok (.aload_n 0, 1) := by decide +kernel
theorem dX12_house_14 : decode cX12_house 14 = .ok (.getfield 126, 3) := by decide +kernel
theorem dX12_house_17 : decode cX12_house 17 = .ok (.putfield 103, 3) := by decide +kernel
theorem dX12_house_20 : decode cX12_house 20 = .ok (.iconst 0, 1) := by decide +kernel
theorem dX12_house_21 : decode cX12_house 21 = .ok (.istore_n 1, 1) := by decide +kernel
theorem dX12_house_22 : decode cX12_house 22 = .ok (.iload_n 1, 1) := by decide +kernel
theorem dX12_house_23 : decode cX12_house 23 = .ok (.bipush 80, 2) := by decide +kernel
theorem dX12_house_25 : decode cX12_house 25 = .ok (.if_icmp .ge 16, 3) := by decide +kernel
theorem dX12_house_28 : decode cX12_house 28 = .ok (.aload_n 0, 1) := by decide +kernel
theorem dX12_house_29 : decode cX12_house 29 = .ok (.getfield 22, 3) := by decide +kernel
theorem dX12_house_32 : decode cX12_house 32 = .ok (.iload_n 1, 1) := by decide +kernel
theorem dX12_house_33 : decode cX12_house 33 = .ok (.iconst 0, 1) := by decide +kernel
theorem dX12_house_34 : decode cX12_house 34 = .ok (.iastore, 1) := by decide +kernel
theorem dX12_house_35 : decode cX12_house 35 = .ok (.iinc 1 1, 3) := by decide +kernel
theorem dX12_house_38 : decode cX12_house 38 = .ok (.goto (-16), 3) := by decide +kernel
theorem dX12_house_41 : decode cX12_house 41 = .ok (.iconst 0, 1) := by decide +kernel
theorem dX12_house_42 : decode cX12_house 42 = .ok (.istore_n 1, 1) := by decide +kernel
theorem dX12_house_43 : decode cX12_house 43 = .ok (.iload_n 1, 1) := by decide +kernel
theorem dX12_house_44 : decode cX12_house 44 = .ok (.aload_n 0, 1) := by decide +kernel
theorem dX12_house_45 : decode cX12_house 45 = .ok (.getfield 103, 3) := by decide +kernel
theorem dX12_house_48 : decode cX12_house 48 = .ok (.if_icmp .ge 98, 3) := by decide +kernel
theorem dX12_house_51 : decode cX12_house 51 = .ok (.aload_n 0, 1) := by decide +kernel
theorem dX12_house_52 : decode cX12_house 52 = .ok (.getfield 16, 3) := by decide +kernel
theorem dX12_house_55 : decode cX12_house 55 = .ok (.iload_n 1, 1) := by decide +kernel
theorem dX12_house_56 : decode cX12_house 56 = .ok (.aload_n 0, 1) := by decide +kernel
theorem dX12_house_57 : decode cX12_house 57 = .ok (.getfield 56, 3) := by decide +kernel
theorem dX12_house_60 : decode cX12_house 60 = .ok (.iload_n 1, 1) := by decide +kernel
theorem dX12_house_61 : decode cX12_house 61 = .ok (.iaload, 1) := by decide +kernel
theorem dX12_house_62 : decode cX12_house 62 = .ok (.iastore, 1) := by decide +kernel
theorem dX12_house_63 : decode cX12_house 63 = .ok (.aload_n 0, 1) := by decide +kernel
theorem dX12_house_64 : decode cX12_house 64 = .ok (.getfield 19, 3) := by decide +kernel
theorem dX12_house_67 : decode cX12_house 67 = .ok (.iload_n 1, 1) := by decide +kernel
theorem dX12_house_68 : decode cX12_house 68 = .ok (.aload_n 0, 1) := by decide +kernel
theorem dX12_house_69 : decode cX12_house 69 = .ok (.getfield 59, 3) := by decide +kernel
theorem dX12_house_72 : decode cX12_house 72 = .ok (.iload_n 1, 1) := by decide +kernel
theorem dX12_house_73 : decode cX12_house 73 = .ok (.iaload, 1) := by decide +kernel
theorem dX12_house_74 : decode cX12_house 74 = .ok (.iastore, 1) := by decide +kernel
theorem dX12_house_75 : decode cX12_house 75 = .ok (.iconst 0, 1) := by decide +kernel
theorem dX12_house_76 : decode cX12_house 76 = .ok (.istore_n 2, 1) := by decide +kernel
theorem dX12_house_77 : decode cX12_house 77 = .ok (.iload_n 2, 1) := by decide +kernel
theorem dX12_house_78 : decode cX12_house 78 = .ok (.aload_n 0, 1) := by decide +kernel
theorem dX12_house_79 : decode cX12_house 79 = .ok (.getfield 16, 3) := by decide +kernel
theorem dX12_house_82 : decode cX12_house 82 = .ok (.iload_n 1, 1) := by decide +kernel
theorem dX12_house_83 : decode cX12_house 83 = .ok (.iaload, 1) := by decide +kernel
theorem dX12_house_84 : decode cX12_house 84 = .ok (.if_icmp .ge 56, 3) := by decide +kernel
theorem dX12_house_87 : decode cX12_house 87 = .ok (.aload_n 0, 1) := by decide +kernel
theorem dX12_house_88 : decode cX12_house 88 = .ok (.getfield 13, 3) := by decide +kernel
theorem dX12_house_91 : decode cX12_house 91 = .ok (.bipush 6, 2) := by decide +kernel
theorem dX12_house_93 : decode cX12_house 93 = .ok (.iload_n 1, 1) := by decide +kernel
theorem dX12_house_94 : decode cX12_house 94 = .ok (.imul, 1) := by decide +kernel
theorem dX12_house_95 : decode cX12_house 95 = .ok (.iload_n 2, 1) := by decide +kernel
theorem dX12_house_96 : decode cX12_house 96 = .ok (.iadd, 1) := by decide +kernel
theorem dX12_house_97 : decode cX12_house 97 = .ok (.aload_n 0, 1) := by decide +kernel
theorem dX12_house_98 : decode cX12_house 98 = .ok (.getfield 53, 3) := by decide +kernel
theorem dX12_house_101 : decode cX12_house 101 = .ok (.bipush 6, 2) := by decide +kernel
theorem dX12_house_103 : decode cX12_house 103 = .ok (.iload_n 1, 1) := by decide +kernel
theorem dX12_house_104 : decode cX12_house 104 = .ok (.imul, 1) := by decide +kernel
theorem dX12_house_105 : decode cX12_house 105 = .ok (.iload_n 2, 1) := by decide +kernel
theorem dX12_house_106 : decode cX12_house 106 = .ok (.iadd, 1) := by decide +kernel
theorem dX12_house_107 : decode cX12_house 107 = .ok (.iaload, 1) := by decide +kernel
theorem dX12_house_108 : decode cX12_house 108 = .ok (.iastore, 1) := by decide +kernel
theorem dX12_house_109 : decode cX12_house 109 = .ok (.aload_n 0, 1) := by decide +kernel
theorem dX12_house_110 : decode cX12_house 110 = .ok (.getfield 22, 3) := by decide +kernel
theorem dX12_house_113 : decode cX12_house 113 = .ok (.bipush 8, 2) := by decide +kernel
theorem dX12_house_115 : decode cX12_house 115 = .ok (.iload_n 1, 1) := by decide +kernel
theorem dX12_house_116 : decode cX12_house 116 = .ok (.imul, 1) := by decide +kernel
theorem dX12_house_117 : decode cX12_house 117 = .ok (.aload_n 0, 1) := by decide +kernel
theorem dX12_house_118 : decode cX12_house 118 = .ok (.getfield 13, 3) := by decide +kernel
theorem dX12_house_121 : decode cX12_house 121 = .ok (.bipush 6, 2) := by decide +kernel
theorem dX12_house_123 : decode cX12_house 123 = .ok (.iload_n 1, 1) := by decide +kernel
theorem dX12_house_124 : decode cX12_house 124 = .ok (.imul, 1) := by decide +kernel
theorem dX12_house_125 : decode cX12_house 125 = .ok (.iload_n 2, 1) := by decide +kernel
theorem dX12_house_126 : decode cX12_house 126 = .ok (.iadd, 1) := by decide +kernel
theorem dX12_house_127 : decode cX12_house 127 = .ok (.iaload, 1) := by decide +kernel
theorem dX12_house_128 : decode cX12_house 128 = .ok (.iadd, 1) := by decide +kernel
theorem dX12_house_129 : decode cX12_house 129 = .ok (.dup2, 1) := by decide +kernel
theorem dX12_house_130 : decode cX12_house 130 = .ok (.iaload, 1) := by decide +kernel
theorem dX12_house_131 : decode cX12_house 131 = .ok (.iconst 1, 1) := by decide +kernel
theorem dX12_house_132 : decode cX12_house 132 = .ok (.iadd, 1) := by decide +kernel
theorem dX12_house_133 : decode cX12_house 133 = .ok (.iastore, 1) := by decide +kernel
theorem dX12_house_134 : decode cX12_house 134 = .ok (.iinc 2 1, 3) := by decide +kernel
theorem dX12_house_137 : decode cX12_house 137 = .ok (.goto (-60), 3) := by decide +kernel
theorem dX12_house_140 : decode cX12_house 140 = .ok (.iinc 1 1, 3) := by decide +kernel
theorem dX12_house_143 : decode cX12_house 143 = .ok (.goto (-100), 3) := by decide +kernel
theorem dX12_house_146 : decode cX12_house 146 = .ok (.aload_n 0, 1) := by decide +kernel
theorem dX12_house_147 : decode cX12_house 147 = .ok (.getfield 62, 3) := by decide +kernel
theorem dX12_house_150 : decode cX12_house 150 = .ok (.aload_n 0, 1) := by decide +kernel
theorem dX12_house_151 : decode cX12_house 151 = .ok (.getfield 25, 3) := by decide +kernel
theorem dX12_house_154 : decode cX12_house 154 = .ok (.invokestatic 178, 3) := by decide +kernel
theorem dX12_house_157 : decode cX12_house 157 = .ok (.aload_n 0, 1) := by decide +kernel
theorem dX12_house_158 : decode cX12_house 158 = .ok (.iconst 0, 1) := by decide +kernel
theorem dX12_house_159 : decode cX12_house 159 = .ok (.putfield 182, 3) := by decide +kernel
theorem dX12_house_162 : decode cX12_house 162 = .ok (.aload_n 0, 1) := by decide +kernel
theorem dX12_house_163 : decode cX12_house 163 = .ok (.iconst 0, 1) := by decide +kernel
theorem dX12_house_164 : decode cX12_house 164 = .ok (.putfield 185, 3) := by decide +kernel
theorem dX12_house_167 : decode cX12_house 167 = .ok (.aload_n 0, 1) := by decide +kernel
theorem dX12_house_168 : decode cX12_house 168 = .ok (.getfield 37, 3) := by decide +kernel
theorem dX12_house_171 : decode cX12_house 171 = .ok (.iconst 0, 1) := by decide +kernel
theorem dX12_house_172 : decode cX12_house 172 = .ok (.iconst 0, 1) := by decide +kernel
theorem dX12_house_173 : decode cX12_house 173 = .ok (.bastore, 1) := by decide +kernel
theorem dX12_house_174 : decode cX12_house 174 = .ok (.aload_n 0, 1) := by decide +kernel
theorem dX12_house_175 : decode cX12_house 175 = .ok (.getfield 37, 3) := by decide +kernel
theorem dX12_house_178 : decode cX12_house 178 = .ok (.iconst 1, 1) := by decide +kernel
theorem dX12_house_179 : decode cX12_house 179 = .ok (.iconst 0, 1) := by decide +kernel
theorem dX12_house_180 : decode cX12_house 180 = .ok (.bastore, 1) := by decide +kernel
theorem dX12_house_181 : decode cX12_house 181 = .ok (.aload_n 0, 1) := by decide +kernel
theorem dX12_house_182 : decode cX12_house 182 = .ok (.getfield 103, 3) := by decide +kernel
theorem dX12_house_185 : decode cX12_house 185 = .ok (.ireturn, 1) := by decide +kernel
theorem dX12_look_0 : decode cX12_look 0 = .ok (.aload_n 1, 1) := by decide +kernel
theorem dX12_look_1 : decode cX12_look 1 = .ok (.aload_n 0, 1) := by decide +kernel
theorem dX12_look_2 : decode cX12_look 2 = .ok (.getfield 65, 3) := by decide +kernel
theorem dX12_look_5 : decode cX12_look 5 = .ok (.invokestatic 178, 3) := by decide +kernel
theorem dX12_look_8 : decode cX12_look 8 = .ok (.aload_n 0, 1) := by decide +kernel
theorem dX12_look_9 : decode cX12_look 9 = .ok (.getfield 68, 3) := by decide +kernel
theorem dX12_look_12 : decode cX12_look 12 = .ok (.iconst 0, 1) := by decide +kernel
theorem dX12_look_13 : decode cX12_look 13 = .ok (.iconst 1, 1) := by decide +kernel
theorem dX12_look_14 : decode cX12_look 14 = .ok (.iastore, 1) := by decide +kernel
theorem dX12_look_15 : decode cX12_look 15 = .ok (.iconst 0, 1) := by decide +kernel
theorem dX12_look_16 : decode cX12_look 16 = .ok (.istore_n 2, 1) := by decide +kernel
theorem dX12_look_17 : decode cX12_look 17 = .ok (.iload_n 2, 1) := by decide +kernel
theorem dX12_look_18 : decode cX12_look 18 = .ok (.bipush 8, 2) := by decide +kernel
theorem dX12_look_20 : decode cX12_look 20 = .ok (.if_icmp .ge 29, 3) := by decide +kernel
theorem dX12_look_23 : decode cX12_look 23 = .ok (.aload_n 0, 1) := by decide +kernel
theorem dX12_look_24 : decode cX12_look 24 = .ok (.getfield 68, 3) := by decide +kernel
theorem dX12_look_27 : decode cX12_look 27 = .ok (.iload_n 2, 1) := by decide +kernel
theorem dX12_look_28 : decode cX12_look 28 = .ok (.iconst 1, 1) := by decide +kernel
theorem dX12_look_29 : decode cX12_look 29 = .ok (.iadd, 1) := by decide +kernel
theorem dX12_look_30 : decode cX12_look 30 = .ok (.aload_n 0, 1) := by decide +kernel
theorem dX12_look_31 : decode cX12_look 31 = .ok (.getfield 68, 3) := by decide +kernel
theorem dX12_look_34 : decode cX12_look 34 = .ok (.iload_n 2, 1) := by decide +kernel
theorem dX12_look_35 : decode cX12_look 35 = .ok (.iaload, 1) := by decide +kernel
theorem dX12_look_36 : decode cX12_look 36 = .ok (.aload_n 1, 1) := by decide +kernel
theorem dX12_look_37 : decode cX12_look 37 = .ok (.iload_n 2, 1) := by decide +kernel
theorem dX12_look_38 : decode cX12_look 38 = .ok (.iaload, 1) := by decide +kernel
theorem dX12_look_39 : decode cX12_look 39 = .ok (.iconst 1, 1) := by decide +kernel
theorem dX12_look_40 : decode cX12_look 40 = .ok (.iadd, 1) := by decide +kernel
theorem dX12_look_41 : decode cX12_look 41 = .ok (.imul, 1) := by decide +kernel
theorem dX12_look_42 : decode cX12_look 42 = .ok (.iastore, 1) := by decide +kernel
theorem dX12_look_43 : decode cX12_look 43 = .ok (.iinc 2 1, 3) := by decide +kernel
theorem dX12_look_46 : decode cX12_look 46 = .ok (.goto (-29), 3) := by decide +kernel
theorem dX12_look_49 : decode cX12_look 49 = .ok (.aload_n 0, 1) := by decide +kernel
theorem dX12_look_50 : decode cX12_look 50 = .ok (.aload_n 0, 1) := by decide +kernel
theorem dX12_look_51 : decode cX12_look 51 = .ok (.getfield 68, 3) := by decide +kernel
theorem dX12_look_54 : decode cX12_look 54 = .ok (.bipush 8, 2) := by decide +kernel
theorem dX12_look_56 : decode cX12_look 56 = .ok (.iaload, 1) := by decide +kernel
theorem dX12_look_57 : decode cX12_look 57 = .ok (.iconst 1, 1) := by decide +kernel
theorem dX12_look_58 : decode cX12_look 58 = .ok (.isub, 1) := by decide +kernel
theorem dX12_look_59 : decode cX12_look 59 = .ok (.putfield 188, 3) := by decide +kernel
theorem dX12_look_62 : decode cX12_look 62 = .ok (.aload_n 0, 1) := by decide +kernel
theorem dX12_look_63 : decode cX12_look 63 = .ok (.iconst 0, 1) := by decide +kernel
theorem dX12_look_64 : decode cX12_look 64 = .ok (.putfield 191, 3) := by decide +kernel
theorem dX12_look_67 : decode cX12_look 67 = .ok (.iconst 0, 1) := by decide +kernel
theorem dX12_look_68 : decode cX12_look 68 = .ok (.istore_n 2, 1) := by decide +kernel
theorem dX12_look_69 : decode cX12_look 69 = .ok (.iload_n 2, 1) := by decide +kernel
theorem dX12_look_70 : decode cX12_look 70 = .ok (.aload_n 0, 1) := by decide +kernel
theorem dX12_look_71 : decode cX12_look 71 = .ok (.getfield 103, 3) := by decide +kernel
theorem dX12_look_74 : decode cX12_look 74 = .ok (.if_icmp .ge 175, 3) := by decide +kernel
theorem dX12_look_77 : decode cX12_look 77 = .ok (.aload_n 0, 1) := by decide +kernel
theorem dX12_look_78 : decode cX12_look 78 = .ok (.dup, 1) := by decide +kernel
theorem dX12_look_79 : decode cX12_look 79 = .ok (.getfield 191, 3) := by decide +kernel
theorem dX12_look_82 : decode cX12_look 82 = .ok (.aload_n 1, 1) := by decide +kernel
theorem dX12_look_83 : decode cX12_look 83 = .ok (.bipush 8, 2) := by decide +kernel
theorem dX12_look_85 : decode cX12_look 85 = .ok (.iaload, 1) := by decide +kernel
theorem dX12_look_86 : decode cX12_look 86 = .ok (.iload_n 2, 1) := by decide +kernel
theorem dX12_look_87 : decode cX12_look 87 = .ok (.invokestatic 149, 3) := by decide +kernel
theorem dX12_look_90 : decode cX12_look 90 = .ok (.ifCond .eq 7, 3) := by decide +kernel
theorem dX12_look_93 : decode cX12_look 93 = .ok (.iconst 0, 1) := by decide +kernel
theorem dX12_look_94 : decode cX12_look 94 = .ok (.goto 6, 3) := by decide +kernel
theorem dX12_look_97 : decode cX12_look 97 = .ok (.iconst 1, 1) := by decide +kernel
theorem dX12_look_98 : decode cX12_look 98 = .ok (.iload_n 2, 1) := by decide +kernel
theorem dX12_look_99 : decode cX12_look 99 = .ok (.ishl, 1) := by decide +kernel
theorem dX12_look_100 : decode cX12_look 100 = .ok (.ior, 1) := by decide +kernel
theorem dX12_look_101 : decode cX12_look 101 = .ok (.putfield 191, 3) := by decide +kernel
theorem dX12_look_104 : decode cX12_look 104 = .ok (.aload_n 0, 1) := by decide +kernel
theorem dX12_look_105 : decode cX12_look 105 = .ok (.getfield 71, 3) := by decide +kernel
theorem dX12_look_108 : decode cX12_look 108 = .ok (.iload_n 2, 1) := by decide +kernel
theorem dX12_look_109 : decode cX12_look 109 = .ok (.iconst 0, 1) := by decide +kernel
theorem dX12_look_110 : decode cX12_look 110 = .ok (.iastore, 1) := by decide +kernel
theorem dX12_look_111 : decode cX12_look 111 = .ok (.iconst 0, 1) := by decide +kernel
theorem dX12_look_112 : decode cX12_look 112 = .ok (.istore_n 3, 1) := by decide +kernel
theorem dX12_look_113 : decode cX12_look 113 = .ok (.iload_n 3, 1) := by decide +kernel
theorem dX12_look_114 : decode cX12_look 114 = .ok (.bipush 8, 2) := by decide +kernel
theorem dX12_look_116 : decode cX12_look 116 = .ok (.if_icmp .ge 36, 3) := by decide +kernel
theorem dX12_look_119 : decode cX12_look 119 = .ok (.aload_n 0, 1) := by decide +kernel
theorem dX12_look_120 : decode cX12_look 120 = .ok (.getfield 71, 3) := by decide +kernel
theorem dX12_look_123 : decode cX12_look 123 = .ok (.iload_n 2, 1) := by decide +kernel
theorem dX12_look_124 : decode cX12_look 124 = .ok (.dup2, 1) := by decide +kernel
theorem dX12_look_125 : decode cX12_look 125 = .ok (.iaload, 1) := by decide +kernel
theorem dX12_look_126 : decode cX12_look 126 = .ok (.aload_n 0, 1) := by decide +kernel
theorem dX12_look_127 : decode cX12_look 127 = .ok (.getfield 68, 3) := by decide +kernel
theorem dX12_look_130 : decode cX12_look 130 = .ok (.iload_n 3, 1) := by decide +kernel
theorem dX12_look_131 : decode cX12_look 131 = .ok (.iaload, 1) := by decide +kernel
theorem dX12_look_132 : decode cX12_look 132 = .ok (.aload_n 0, 1) := by decide +kernel
theorem dX12_look_133 : decode cX12_look 133 = .ok (.getfield 22, 3) := by decide +kernel
theorem dX12_look_136 : decode cX12_look 136 = .ok (.bipush 8, 2) := by decide +kernel
theorem dX12_look_138 : decode cX12_look 138 = .ok (.iload_n 2, 1) := by decide +kernel
theorem dX12_look_139 : decode cX12_look 139 = .ok (.imul, 1) := by decide +kernel
theorem dX12_look_140 : decode cX12_look 140 = .ok (.iload_n 3, 1) := by decide +kernel
theorem dX12_look_141 : decode cX12_look 141 = .ok (.iadd, 1) := by decide +kernel
theorem dX12_look_142 : decode cX12_look 142 = .ok (.iaload, 1) := by decide +kernel
theorem dX12_look_143 : decode cX12_look 143 = .ok (.imul, 1) := by decide +kernel
theorem dX12_look_144 : decode cX12_look 144 = .ok (.iadd, 1) := by decide +kernel
theorem dX12_look_145 : decode cX12_look 145 = .ok (.iastore, 1) := by decide +kernel
theorem dX12_look_146 : decode cX12_look 146 = .ok (.iinc 3 1, 3) := by decide +kernel
theorem dX12_look_149 : decode cX12_look 149 = .ok (.goto (-36), 3) := by decide +kernel
theorem dX12_look_152 : decode cX12_look 152 = .ok (.iconst 0, 1) := by decide +kernel
theorem dX12_look_153 : decode cX12_look 153 = .ok (.istore_n 3, 1) := by decide +kernel
theorem dX12_look_154 : decode cX12_look 154 = .ok (.iload_n 3, 1) := by decide +kernel
theorem dX12_look_155 : decode cX12_look 155 = .ok (.aload_n 0, 1) := by decide +kernel
theorem dX12_look_156 : decode cX12_look 156 = .ok (.getfield 188, 3) := by decide +kernel
theorem dX12_look_159 : decode cX12_look 159 = .ok (.if_icmp .gt 84, 3) := by decide +kernel
theorem dX12_look_162 : decode cX12_look 162 = .ok (.iconst 1, 1) := by decide +kernel
theorem dX12_look_163 : decode cX12_look 163 = .ok (.istore 4, 2) := by decide +kernel
theorem dX12_look_165 : decode cX12_look 165 = .ok (.iconst 0, 1) := by decide +kernel
theorem dX12_look_166 : decode cX12_look 166 = .ok (.istore 5, 2) := by decide +kernel
theorem dX12_look_168 : decode cX12_look 168 = .ok (.iload 5, 2) := by decide +kernel
theorem dX12_look_170 : decode cX12_look 170 = .ok (.bipush 8, 2) := by decide +kernel
theorem dX12_look_172 : decode cX12_look 172 = .ok (.if_icmp .ge 52, 3) := by decide +kernel
theorem dX12_look_175 : decode cX12_look 175 = .ok (.iload 4, 2) := by decide +kernel
theorem dX12_look_177 : decode cX12_look 177 = .ok (.ifCond .eq 38, 3) := by decide +kernel
theorem dX12_look_180 : decode cX12_look 180 = .ok (.iload_n 3, 1) := by decide +kernel
theorem dX12_look_181 : decode cX12_look 181 = .ok (.aload_n 0, 1) := by decide +kernel
theorem dX12_look_182 : decode cX12_look 182 = .ok (.getfield 68, 3) := by decide +kernel
theorem dX12_look_185 : decode cX12_look 185 = .ok (.iload 5, 2) := by decide +kernel
theorem dX12_look_187 : decode cX12_look 187 = .ok (.iaload, 1) := by decide +kernel
theorem dX12_look_188 : decode cX12_look 188 = .ok (.idiv, 1) := by decide +kernel
theorem dX12_look_189 : decode cX12_look 189 = .ok (.aload_n 1, 1) := by decide +kernel
theorem dX12_look_190 : decode cX12_look 190 = .ok (.iload 5, 2) := by decide +kernel
theorem dX12_look_192 : decode cX12_look 192 = .ok (.iaload, 1) := by decide +kernel
theorem dX12_look_193 : decode cX12_look 193 = .ok (.iconst 1, 1) := by decide +kernel
theorem dX12_look_194 : decode cX12_look 194 = .ok (.iadd, 1) := by decide +kernel
theorem dX12_look_195 : decode cX12_look 195 = .ok (.irem, 1) := by decide +kernel
theorem dX12_look_196 : decode cX12_look 196 = .ok (.aload_n 0, 1) := by decide +kernel
theorem dX12_look_197 : decode cX12_look 197 = .ok (.getfield 22, 3) := by decide +kernel
theorem dX12_look_200 : decode cX12_look 200 = .ok (.bipush 8, 2) := by decide +kernel
theorem dX12_look_202 : decode cX12_look 202 = .ok (.iload_n 2, 1) := by decide +kernel
theorem dX12_look_203 : decode cX12_look 203 = .ok (.imul, 1) := by decide +kernel
theorem dX12_look_204 : decode cX12_look 204 = .ok (.iload 5, 2) := by decide +kernel
theorem dX12_look_206 : decode cX12_look 206 = .ok (.iadd, 1) := by decide +kernel
theorem dX12_look_207 : decode cX12_look 207 = .ok (.iaload, 1) := by decide +kernel
theorem dX12_look_208 : decode cX12_look 208 = .ok (.if_icmp .lt 7, 3) := by decide +kernel
theorem dX12_look_211 : decode cX12_look 211 = .ok (.iconst 1, 1) := by decide +kernel
theorem dX12_look_212 : decode cX12_look 212 = .ok (.goto 4, 3) := by decide +kernel
theorem dX12_look_215 : decode cX12_look 215 = .ok (.iconst 0, 1) := by decide +kernel
theorem dX12_look_216 : decode cX12_look 216 = .ok (.istore 4, 2) := by decide +kernel
theorem dX12_look_218 : decode cX12_look 218 = .ok (.iinc 5 1, 3) := by decide +kernel
theorem dX12_look_221 : decode cX12_look 221 = .ok (.goto (-53), 3) := by decide +kernel
theorem dX12_look_224 : decode cX12_look 224 = .ok (.aload_n 0, 1) := by decide +kernel
theorem dX12_look_225 : decode cX12_look 225 = .ok (.getfield 87, 3) := by decide +kernel
theorem dX12_look_228 : decode cX12_look 228 = .ok (.bipush 10, 2) := by decide +kernel
theorem dX12_look_230 : decode cX12_look 230 = .ok (.iload_n 3, 1) := by decide +kernel
theorem dX12_look_231 : decode cX12_look 231 = .ok (.imul, 1) := by decide +kernel
theorem dX12_look_232 : decode cX12_look 232 = .ok (.iload_n 2, 1) := by decide +kernel
theorem dX12_look_233 : decode cX12_look 233 = .ok (.iadd, 1) := by decide +kernel
theorem dX12_look_234 : decode cX12_look 234 = .ok (.iload 4, 2) := by decide +kernel
theorem dX12_look_236 : decode cX12_look 236 = .ok (.bastore, 1) := by decide +kernel
theorem dX12_look_237 : decode cX12_look 237 = .ok (.iinc 3 1, 3) := by decide +kernel
theorem dX12_look_240 : decode cX12_look 240 = .ok (.goto (-86), 3) := by decide +kernel
theorem dX12_look_243 : decode cX12_look 243 = .ok (.iinc 2 1, 3) := by decide +kernel
theorem dX12_look_246 : decode cX12_look 246 = .ok (.goto (-177), 3) := by decide +kernel
theorem dX12_look_249 : decode cX12_look 249 = .ok (.return_, 1) := by decide +kernel
theorem dX12_mayCome_0 : decode cX12_mayCome 0 = .ok (.iload_n 2, 1) := by decide +kernel
theorem dX12_mayCome_1 : decode cX12_mayCome 1 = .ok (.iconst 4, 1) := by decide +kernel
theorem dX12_mayCome_2 : decode cX12_mayCome 2 = .ok (.if_icmp .ne 13, 3) := by decide +kernel
theorem dX12_mayCome_5 : decode cX12_mayCome 5 = .ok (.aload_n 0, 1) := by decide +kernel
theorem dX12_mayCome_6 : decode cX12_mayCome 6 = .ok (.getfield 65, 3) := by decide +kernel
theorem dX12_mayCome_9 : decode cX12_mayCome 9 = .ok (.bipush 19, 2) := by decide +kernel
theorem dX12_mayCome_11 : decode cX12_mayCome 11 = .ok (.iaload, 1) := by decide +kernel
theorem dX12_mayCome_12 : decode cX12_mayCome 12 = .ok (.goto 12, 3) := by decide +kernel
theorem dX12_mayCome_15 : decode cX12_mayCome 15 = .ok (.aload_n 0, 1) := by decide +kernel
theorem dX12_mayCome_16 : decode cX12_mayCome 16 = .ok (.getfield 65, 3) := by decide +kernel
theorem dX12_mayCome_19 : decode cX12_mayCome 19 = .ok (.bipush 21, 2) := by decide +kernel
theorem dX12_mayCome_21 : decode cX12_mayCome 21 = .ok (.iload_n 2, 1) := by decide +kernel
theorem dX12_mayCome_22 : decode cX12_mayCome 22 = .ok (.iadd, 1) := by decide +kernel
theorem dX12_mayCome_23 : decode cX12_mayCome 23 = .ok (.iaload, 1) := by decide +kernel
theorem dX12_mayCome_24 : decode cX12_mayCome 24 = .ok (.aload_n 0, 1) := by decide +kernel
theorem dX12_mayCome_25 : decode cX12_mayCome 25 = .ok (.getfield 19, 3) := by decide +kernel
theorem dX12_mayCome_28 : decode cX12_mayCome 28 = .ok (.iload_n 3, 1) := by decide +kernel
theorem dX12_mayCome_29 : decode cX12_mayCome 29 = .ok (.iaload, 1) := by decide +kernel
theorem dX12_mayCome_30 : decode cX12_mayCome 30 = .ok (.invokestatic 149, 3) := by decide +kernel
theorem dX12_mayCome_33 : decode cX12_mayCome 33 = .ok (.istore 4, 2) := by decide +kernel
theorem dX12_mayCome_35 : decode cX12_mayCome 35 = .ok (.iload 4, 2) := by decide +kernel
theorem dX12_mayCome_37 : decode cX12_mayCome 37 = .ok (.ifCond .eq 32, 3) := by decide +kernel
theorem dX12_mayCome_40 : decode cX12_mayCome 40 = .ok (.aload_n 0, 1) := by decide +kernel
theorem dX12_mayCome_41 : decode cX12_mayCome 41 = .ok (.getfield 191, 3) := by decide +kernel
theorem dX12_mayCome_44 : decode cX12_mayCome 44 = .ok (.iload_n 3, 1) := by decide +kernel
theorem dX12_mayCome_45 : decode cX12_mayCome 45 = .ok (.invokestatic 149, 3) := by decide +kernel
theorem dX12_mayCome_48 : decode cX12_mayCome 48 = .ok (.ifCond .eq 21, 3) := by decide +kernel
theorem dX12_mayCome_51 : decode cX12_mayCome 51 = .ok (.aload_n 0, 1) := by decide +kernel
theorem dX12_mayCome_52 : decode cX12_mayCome 52 = .ok (.getfield 87, 3) := by decide +kernel
theorem dX12_mayCome_55 : decode cX12_mayCome 55 = .ok (.bipush 10, 2) := by decide +kernel
theorem dX12_mayCome_57 : decode cX12_mayCome 57 = .ok (.iload_n 1, 1) := by decide +kernel
theorem dX12_mayCome_58 : decode cX12_mayCome 58 = .ok (.imul, 1) := by decide +kernel
theorem dX12_mayCome_59 : decode cX12_mayCome 59 = .ok (.iload_n 3, 1) := by decide +kernel
theorem dX12_mayCome_60 : decode cX12_mayCome 60 = .ok (.iadd, 1) := by decide +kernel
theorem dX12_mayCome_61 : decode cX12_mayCome 61 = .ok (.baload, 1) := by decide +kernel
theorem dX12_mayCome_62 : decode cX12_mayCome 62 = .ok (.ifCond .eq 7, 3) := by decide +kernel
theorem dX12_mayCome_65 : decode cX12_mayCome 65 = .ok (.iconst 1, 1) := by decide +kernel
theorem dX12_mayCome_66 : decode cX12_mayCome 66 = .ok (.goto 4, 3) := by decide +kernel
theorem dX12_mayCome_69 : decode cX12_mayCome 69 = .ok (.iconst 0, 1) := by decide +kernel
theorem dX12_mayCome_70 : decode cX12_mayCome 70 = .ok (.ireturn, 1) := by decide +kernel
theorem dX12_endsAs_0 : decode cX12_endsAs 0 = .ok (.iload_n 2, 1) := by decide +kernel
theorem dX12_endsAs_1 : decode cX12_endsAs 1 = .ok (.aload_n 0, 1) := by decide +kernel
theorem dX12_endsAs_2 : decode cX12_endsAs 2 = .ok (.getfield 71, 3) := by decide +kernel
theorem dX12_endsAs_5 : decode cX12_endsAs 5 = .ok (.iload_n 3, 1) := by decide +kernel
theorem dX12_endsAs_6 : decode cX12_endsAs 6 = .ok (.iaload, 1) := by decide +kernel
theorem dX12_endsAs_7 : decode cX12_endsAs 7 = .ok (.isub, 1) := by decide +kernel
theorem dX12_endsAs_8 : decode cX12_endsAs 8 = .ok (.istore 4, 2) := by decide +kernel
theorem dX12_endsAs_10 : decode cX12_endsAs 10 = .ok (.iload 4, 2) := by decide +kernel
theorem dX12_endsAs_12 : decode cX12_endsAs 12 = .ok (.ifCond .le 19, 3) := by decide +kernel
theorem dX12_endsAs_15 : decode cX12_endsAs 15 = .ok (.aload_n 1, 1) := by decide +kernel
theorem dX12_endsAs_16 : decode cX12_endsAs 16 = .ok (.iconst 5, 1) := by decide +kernel
theorem dX12_endsAs_17 : decode cX12_endsAs 17 = .ok (.iload 4, 2) := by decide +kernel
theorem dX12_endsAs_19 : decode cX12_endsAs 19 = .ok (.imul, 1) := by decide +kernel
theorem dX12_endsAs_20 : decode cX12_endsAs 20 = .ok (.aload_n 0, 1) := by decide +kernel
theorem dX12_endsAs_21 : decode cX12_endsAs 21 = .ok (.getfield 19, 3) := by decide +kernel
theorem dX12_endsAs_24 : decode cX12_endsAs 24 = .ok (.iload_n 3, 1) := by decide +kernel
theorem dX12_endsAs_25 : decode cX12_endsAs 25 = .ok (.iaload, 1) := by decide +kernel
theorem dX12_endsAs_26 : decode cX12_endsAs 26 = .ok (.iadd, 1) := by decide +kernel
theorem dX12_endsAs_27 : decode cX12_endsAs 27 = .ok (.laload, 1) := by decide +kernel
theorem dX12_endsAs_28 : decode cX12_endsAs 28 = .ok (.goto 27, 3) := by decide +kernel
theorem dX12_endsAs_31 : decode cX12_endsAs 31 = .ok (.aload_n 0, 1) := by decide +kernel
theorem dX12_endsAs_32 : decode cX12_endsAs 32 = .ok (.getfield 65, 3) := by decide +kernel
theorem dX12_endsAs_35 : decode cX12_endsAs 35 = .ok (.bipush 20, 2) := by decide +kernel
theorem dX12_endsAs_37 : decode cX12_endsAs 37 = .ok (.iaload, 1) := by decide +kernel
theorem dX12_endsAs_38 : decode cX12_endsAs 38 = .ok (.aload_n 0, 1) := by decide +kernel
theorem dX12_endsAs_39 : decode cX12_endsAs 39 = .ok (.getfield 19, 3) := by decide +kernel
theorem dX12_endsAs_42 : decode cX12_endsAs 42 = .ok (.iload_n 3, 1) := by decide +kernel
theorem dX12_endsAs_43 : decode cX12_endsAs 43 = .ok (.iaload, 1) := by decide +kernel
theorem dX12_endsAs_44 : decode cX12_endsAs 44 = .ok (.invokestatic 149, 3) := by decide +kernel
theorem dX12_endsAs_47 : decode cX12_endsAs 47 = .ok (.ifCond .eq 7, 3) := by decide +kernel
theorem dX12_endsAs_50 : decode cX12_endsAs 50 = .ok (.lconst 1, 1) := by decide +kernel
theorem dX12_endsAs_51 : decode cX12_endsAs 51 = .ok (.goto 4, 3) := by decide +kernel
theorem dX12_endsAs_54 : decode cX12_endsAs 54 = .ok (.lconst 0, 1) := by decide +kernel
theorem dX12_endsAs_55 : decode cX12_endsAs 55 = .ok (.lreturn, 1) := by decide +kernel
theorem dX12_layWays_0 : decode cX12_layWays 0 = .ok (.iconst 0, 1) := by decide +kernel
theorem dX12_layWays_1 : decode cX12_layWays 1 = .ok (.istore_n 1, 1) := by decide +kernel
theorem dX12_layWays_2 : decode cX12_layWays 2 = .ok (.iload_n 1, 1) := by decide +kernel
theorem dX12_layWays_3 : decode cX12_layWays 3 = .ok (.aload_n 0, 1) := by decide +kernel
theorem dX12_layWays_4 : decode cX12_layWays 4 = .ok (.getfield 188, 3) := by decide +kernel
theorem dX12_layWays_7 : decode cX12_layWays 7 = .ok (.if_icmp .gt 82, 3) := by decide +kernel
theorem dX12_layWays_10 : decode cX12_layWays 10 = .ok (.iconst 0, 1) := by decide +kernel
theorem dX12_layWays_11 : decode cX12_layWays 11 = .ok (.istore_n 2, 1) := by decide +kernel
theorem dX12_layWays_12 : decode cX12_layWays 12 = .ok (.iload_n 2, 1) := by decide +kernel
theorem dX12_layWays_13 : decode cX12_layWays 13 = .ok (.iconst 4, 1) := by decide +kernel
theorem dX12_layWays_14 : decode cX12_layWays 14 = .ok (.if_icmp .gt 69, 3) := by decide +kernel
theorem dX12_layWays_17 : decode cX12_layWays 17 = .ok (.lconst 0, 1) := by decide +kernel
theorem dX12_layWays_18 : decode cX12_layWays 18 = .ok (.lstore_n 3, 1) := by decide +kernel
theorem dX12_layWays_19 : decode cX12_layWays 19 = .ok (.iconst 0, 1) := by decide +kernel
theorem dX12_layWays_20 : decode cX12_layWays 20 = .ok (.istore 5, 2) := by decide +kernel
theorem dX12_layWays_22 : decode cX12_layWays 22 = .ok (.iload 5, 2) := by decide +kernel
theorem dX12_layWays_24 : decode cX12_layWays 24 = .ok (.aload_n 0, 1) := by decide +kernel
theorem dX12_layWays_25 : decode cX12_layWays 25 = .ok (.getfield 103, 3) := by decide +kernel
theorem dX12_layWays_28 : decode cX12_layWays 28 = .ok (.if_icmp .ge 38, 3) := by decide +kernel
theorem dX12_layWays_31 : decode cX12_layWays 31 = .ok (.lload_n 3, 1) := by decide +kernel
theorem dX12_layWays_32 : decode cX12_layWays 32 = .ok (.aload_n 0, 1) := by decide +kernel
theorem dX12_layWays_33 : decode cX12_layWays 33 = .ok (.iload_n 1, 1) := by decide +kernel
theorem dX12_layWays_34 : decode cX12_layWays 34 = .ok (.iload_n 2, 1) := by decide +kernel
theorem dX12_layWays_35 : decode cX12_layWays 35 = .ok (.iload 5, 2) := by decide +kernel
theorem dX12_layWays_37 : decode cX12_layWays 37 = .ok (.invokevirtual 194, 3) := by decide +kernel
theorem dX12_layWays_40 : decode cX12_layWays 40 = .ok (.ifCond .eq 17, 3) := by decide +kernel
theorem dX12_layWays_43 : decode cX12_layWays 43 = .ok (.aload_n 0, 1) := by decide +kernel
theorem dX12_layWays_44 : decode cX12_layWays 44 = .ok (.aload_n 0, 1) := by decide +kernel
theorem dX12_layWays_45 : decode cX12_layWays 45 = .ok (.getfield 74, 3) := by decide +kernel
theorem dX12_layWays_48 : decode cX12_layWays 48 = .ok (.iload_n 1, 1) := by decide +kernel
theorem dX12_layWays_49 : decode cX12_layWays 49 = .ok (.iload 5, 2) := by decide +kernel
theorem dX12_layWays_51 : decode cX12_layWays 51 = .ok (.invokevirtual 198, 3) := by decide +kernel
theorem dX12_layWays_54 : decode cX12_layWays 54 = .ok (.goto 4, 3) := by decide +kernel
theorem dX12_layWays_57 : decode cX12_layWays 57 = .ok (.lconst 0, 1) := by decide +kernel
theorem dX12_layWays_58 : decode cX12_layWays 58 = .ok (.ladd, 1) := by decide +kernel
theorem dX12_layWays_59 : decode cX12_layWays 59 = .ok (.lstore_n 3, 1) := by decide +kernel
theorem dX12_layWays_60 : decode cX12_layWays 60 = .ok (.iinc 5 1, 3) := by decide +kernel
theorem dX12_layWays_63 : decode cX12_layWays 63 = .ok (.goto (-41), 3) := by decide +kernel
theorem dX12_layWays_66 : decode cX12_layWays 66 = .ok (.aload_n 0, 1) := by decide +kernel
theorem dX12_layWays_67 : decode cX12_layWays 67 = .ok (.getfield 74, 3) := by decide +kernel
theorem dX12_layWays_70 : decode cX12_layWays 70 = .ok (.iconst 5, 1) := by decide +kernel
theorem dX12_layWays_71 : decode cX12_layWays 71 = .ok (.iload_n 1, 1) := by decide +kernel
theorem dX12_layWays_72 : decode cX12_layWays 72 = .ok (.imul, 1) := by decide +kernel
theorem dX12_layWays_73 : decode cX12_layWays 73 = .ok (.iload_n 2, 1) := by decide +kernel
theorem dX12_layWays_74 : decode cX12_layWays 74 = .ok (.iadd, 1) := by decide +kernel
theorem dX12_layWays_75 : decode cX12_layWays 75 = .ok (.lload_n 3, 1) := by decide +kernel
theorem dX12_layWays_76 : decode cX12_layWays 76 = .ok (.lastore, 1) := by decide +kernel
theorem dX12_layWays_77 : decode cX12_layWays 77 = .ok (.iinc 2 1, 3) := by decide +kernel
theorem dX12_layWays_80 : decode cX12_layWays 80 = .ok (.goto (-68), 3) := by decide +kernel
theorem dX12_layWays_83 : decode cX12_layWays 83 = .ok (.iinc 1 1, 3) := by decide +kernel
theorem dX12_layWays_86 : decode cX12_layWays 86 = .ok (.goto (-84), 3) := by decide +kernel
theorem dX12_layWays_89 : decode cX12_layWays 89 = .ok (.return_, 1) := by decide +kernel
theorem dX12_all_0 : decode cX12_all 0 = .ok (.aload_n 0, 1) := by decide +kernel
theorem dX12_all_1 : decode cX12_all 1 = .ok (.getfield 74, 3) := by decide +kernel
theorem dX12_all_4 : decode cX12_all 4 = .ok (.iconst 5, 1) := by decide +kernel
theorem dX12_all_5 : decode cX12_all 5 = .ok (.aload_n 0, 1) := by decide +kernel
theorem dX12_all_6 : decode cX12_all 6 = .ok (.getfield 188, 3) := by decide +kernel
theorem dX12_all_9 : decode cX12_all 9 = .ok (.imul, 1) := by decide +kernel
theorem dX12_all_10 : decode cX12_all 10 = .ok (.iconst 4, 1) := by decide +kernel
theorem dX12_all_11 : decode cX12_all 11 = .ok (.iadd, 1) := by decide +kernel
theorem dX12_all_12 : decode cX12_all 12 = .ok (.laload, 1) := by decide +kernel
theorem dX12_all_13 : decode cX12_all 13 = .ok (.lreturn, 1) := by decide +kernel
theorem dX12_manyOf_0 : decode cX12_manyOf 0 = .ok (.aload_n 0, 1) := by decide +kernel
theorem dX12_manyOf_1 : decode cX12_manyOf 1 = .ok (.aload_n 1, 1) := by decide +kernel
theorem dX12_manyOf_2 : decode cX12_manyOf 2 = .ok (.invokevirtual 202, 3) := by decide +kernel
theorem dX12_manyOf_5 : decode cX12_manyOf 5 = .ok (.aload_n 0, 1) := by decide +kernel
theorem dX12_manyOf_6 : decode cX12_manyOf 6 = .ok (.invokevirtual 205, 3) := by decide +kernel
theorem dX12_manyOf_9 : decode cX12_manyOf 9 = .ok (.aload_n 0, 1) := by decide +kernel
theorem dX12_manyOf_10 : decode cX12_manyOf 10 = .ok (.invokevirtual 208, 3) := by decide +kernel
theorem dX12_manyOf_13 : decode cX12_manyOf 13 = .ok (.lreturn, 1) := by decide +kernel
theorem dX12_manyBy_0 : decode cX12_manyBy 0 = .ok (.iconst 0, 1) := by decide +kernel
theorem dX12_manyBy_1 : decode cX12_manyBy 1 = .ok (.istore_n 2, 1) := by decide +kernel
theorem dX12_manyBy_2 : decode cX12_manyBy 2 = .ok (.iload_n 2, 1) := by decide +kernel
theorem dX12_manyBy_3 : decode cX12_manyBy 3 = .ok (.iconst 5, 1) := by decide +kernel
theorem dX12_manyBy_4 : decode cX12_manyBy 4 = .ok (.aload_n 0, 1) := by decide +kernel
theorem dX12_manyBy_5 : decode cX12_manyBy 5 = .ok (.getfield 188, 3) := by decide +kernel
theorem dX12_manyBy_8 : decode cX12_manyBy 8 = .ok (.imul, 1) := by decide +kernel
theorem dX12_manyBy_9 : decode cX12_manyBy 9 = .ok (.iconst 4, 1) := by decide +kernel
theorem dX12_manyBy_10 : decode cX12_manyBy 10 = .ok (.iadd, 1) := by decide +kernel
theorem dX12_manyBy_11 : decode cX12_manyBy 11 = .ok (.if_icmp .gt 16, 3) := by decide +kernel
theorem dX12_manyBy_14 : decode cX12_manyBy 14 = .ok (.aload_n 0, 1) := by decide +kernel
theorem dX12_manyBy_15 : decode cX12_manyBy 15 = .ok (.getfield 78, 3) := by decide +kernel
theorem dX12_manyBy_18 : decode cX12_manyBy 18 = .ok (.iload_n 2, 1) := by decide +kernel
theorem dX12_manyBy_19 : decode cX12_manyBy 19 = .ok (.lconst 0, 1) := by decide +kernel
theorem dX12_manyBy_20 : decode cX12_manyBy 20 = .ok (.lastore, 1) := by decide +kernel
theorem dX12_manyBy_21 : decode cX12_manyBy 21 = .ok (.iinc 2 1, 3) := by decide +kernel
theorem dX12_manyBy_24 : decode cX12_manyBy 24 = .ok (.goto (-22), 3) := by decide +kernel
theorem dX12_manyBy_27 : decode cX12_manyBy 27 = .ok (.iconst 1, 1) := by decide +kernel
theorem dX12_manyBy_28 : decode cX12_manyBy 28 = .ok (.istore_n 2, 1) := by decide +kernel
theorem dX12_manyBy_29 : decode cX12_manyBy 29 = .ok (.iload_n 2, 1) := by decide +kernel
theorem dX12_manyBy_30 : decode cX12_manyBy 30 = .ok (.iload_n 1, 1) := by decide +kernel
theorem dX12_manyBy_31 : decode cX12_manyBy 31 = .ok (.if_icmp .gt 186, 3) := by decide +kernel
theorem dX12_manyBy_34 : decode cX12_manyBy 34 = .ok (.iconst 0, 1) := by decide +kernel
theorem dX12_manyBy_35 : decode cX12_manyBy 35 = .ok (.istore_n 3, 1) := by decide +kernel
theorem dX12_manyBy_36 : decode cX12_manyBy 36 = .ok (.iload_n 3, 1) := by decide +kernel
theorem dX12_manyBy_37 : decode cX12_manyBy 37 = .ok (.iconst 5, 1) := by decide +kernel
theorem dX12_manyBy_38 : decode cX12_manyBy 38 = .ok (.aload_n 0, 1) := by decide +kernel
theorem dX12_manyBy_39 : decode cX12_manyBy 39 = .ok (.getfield 188, 3) := by decide +kernel
theorem dX12_manyBy_42 : decode cX12_manyBy 42 = .ok (.imul, 1) := by decide +kernel
theorem dX12_manyBy_43 : decode cX12_manyBy 43 = .ok (.iconst 4, 1) := by decide +kernel
theorem dX12_manyBy_44 : decode cX12_manyBy 44 = .ok (.iadd, 1) := by decide +kernel
theorem dX12_manyBy_45 : decode cX12_manyBy 45 = .ok (.if_icmp .gt 134, 3) := by decide +kernel
theorem dX12_manyBy_48 : decode cX12_manyBy 48 = .ok (.lconst 0, 1) := by decide +kernel
theorem dX12_manyBy_49 : decode cX12_manyBy 49 = .ok (.lstore 4, 2) := by decide +kernel
theorem dX12_manyBy_51 : decode cX12_manyBy 51 = .ok (.iconst 0, 1) := by decide +kernel
theorem dX12_manyBy_52 : decode cX12_manyBy 52 = .ok (.istore 6, 2) := by decide +kernel
theorem dX12_manyBy_54 : decode cX12_manyBy 54 = .ok (.iload 6, 2) := by decide +kernel
theorem dX12_manyBy_56 : decode cX12_manyBy 56 = .ok (.aload_n 0, 1) := by decide +kernel
theorem dX12_manyBy_57 : decode cX12_manyBy 57 = .ok (.getfield 103, 3) := by decide +kernel
theorem dX12_manyBy_60 : decode cX12_manyBy 60 = .ok (.if_icmp .ge 105, 3) := by decide +kernel
theorem dX12_manyBy_63 : decode cX12_manyBy 63 = .ok (.iload_n 3, 1) := by decide +kernel
theorem dX12_manyBy_64 : decode cX12_manyBy 64 = .ok (.iconst 5, 1) := by decide +kernel
theorem dX12_manyBy_65 : decode cX12_manyBy 65 = .ok (.idiv, 1) := by decide +kernel
theorem dX12_manyBy_66 : decode cX12_manyBy 66 = .ok (.aload_n 0, 1) := by decide +kernel
theorem dX12_manyBy_67 : decode cX12_manyBy 67 = .ok (.getfield 71, 3) := by decide +kernel
theorem dX12_manyBy_70 : decode cX12_manyBy 70 = .ok (.iload 6, 2) := by decide +kernel
theorem dX12_manyBy_72 : decode cX12_manyBy 72 = .ok (.iaload, 1) := by decide +kernel
theorem dX12_manyBy_73 : decode cX12_manyBy 73 = .ok (.isub, 1) := by decide +kernel
theorem dX12_manyBy_74 : decode cX12_manyBy 74 = .ok (.istore 7, 2) := by decide +kernel
theorem dX12_manyBy_76 : decode cX12_manyBy 76 = .ok (.aload_n 0, 1) := by decide +kernel
theorem dX12_manyBy_77 : decode cX12_manyBy 77 = .ok (.iload_n 3, 1) := by decide +kernel
theorem dX12_manyBy_78 : decode cX12_manyBy 78 = .ok (.iconst 5, 1) := by decide +kernel
theorem dX12_manyBy_79 : decode cX12_manyBy 79 = .ok (.idiv, 1) := by decide +kernel
theorem dX12_manyBy_80 : decode cX12_manyBy 80 = .ok (.iload_n 3, 1) := by decide +kernel
theorem dX12_manyBy_81 : decode cX12_manyBy 81 = .ok (.iconst 5, 1) := by decide +kernel
theorem dX12_manyBy_82 : decode cX12_manyBy 82 = .ok (.irem, 1) := by decide +kernel
theorem dX12_manyBy_83 : decode cX12_manyBy 83 = .ok (.iload 6, 2) := by decide +kernel
theorem dX12_manyBy_85 : decode cX12_manyBy 85 = .ok (.invokevirtual 194, 3) := by decide +kernel
theorem dX12_manyBy_88 : decode cX12_manyBy 88 = .ok (.istore 8, 2) := by decide +kernel
theorem dX12_manyBy_90 : decode cX12_manyBy 90 = .ok (.lload 4, 2) := by decide +kernel
theorem dX12_manyBy_92 : decode cX12_manyBy 92 = .ok (.iload 8, 2) := by decide +kernel
theorem dX12_manyBy_94 : decode cX12_manyBy 94 = .ok (.ifCond .ne 7, 3) := by decide +kernel
theorem dX12_manyBy_97 : decode cX12_manyBy 97 = .ok (.lconst 0, 1) := by decide +kernel
theorem dX12_manyBy_98 : decode cX12_manyBy 98 = .ok (.goto 58, 3) := by decide +kernel
theorem dX12_manyBy_101 : decode cX12_manyBy 101 = .ok (.iload 7, 2) := by decide +kernel
theorem dX12_manyBy_103 : decode cX12_manyBy 103 = .ok (.ifCond .le 23, 3) := by decide +kernel
theorem dX12_manyBy_106 : decode cX12_manyBy 106 = .ok (.aload_n 0, 1) := by decide +kernel
theorem dX12_manyBy_107 : decode cX12_manyBy 107 = .ok (.getfield 78, 3) := by decide +kernel
theorem dX12_manyBy_110 : decode cX12_manyBy 110 = .ok (.iconst 5, 1) := by decide +kernel
theorem dX12_manyBy_111 : decode cX12_manyBy 111 = .ok (.iload 7, 2) := by decide +kernel
theorem dX12_manyBy_113 : decode cX12_manyBy 113 = .ok (.imul, 1) := by decide +kernel
theorem dX12_manyBy_114 : decode cX12_manyBy 114 = .ok (.aload_n 0, 1) := by decide +kernel
theorem dX12_manyBy_115 : decode cX12_manyBy 115 = .ok (.getfield 19, 3) := by decide +kernel
theorem dX12_manyBy_118 : decode cX12_manyBy 118 = .ok (.iload 6, 2) := by decide +kernel
theorem dX12_manyBy_120 : decode cX12_manyBy 120 = .ok (.iaload, 1) := by decide +kernel
theorem dX12_manyBy_121 : decode cX12_manyBy 121 = .ok (.iadd, 1) := by decide +kernel
theorem dX12_manyBy_122 : decode cX12_manyBy 122 = .ok (.laload, 1) := by decide +kernel
theorem dX12_manyBy_123 : decode cX12_manyBy 123 = .ok (.goto 33, 3) := by decide +kernel
theorem dX12_manyBy_126 : decode cX12_manyBy 126 = .ok (.iload_n 2, 1) := by decide +kernel
theorem dX12_manyBy_127 : decode cX12_manyBy 127 = .ok (.iconst 1, 1) := by decide +kernel
theorem dX12_manyBy_128 : decode cX12_manyBy 128 = .ok (.if_icmp .ne 27, 3) := by decide +kernel
theorem dX12_manyBy_131 : decode cX12_manyBy 131 = .ok (.aload_n 0, 1) := by decide +kernel
theorem dX12_manyBy_132 : decode cX12_manyBy 132 = .ok (.getfield 65, 3) := by decide +kernel
theorem dX12_manyBy_135 : decode cX12_manyBy 135 = .ok (.bipush 20, 2) := by decide +kernel
theorem dX12_manyBy_137 : decode cX12_manyBy 137 = .ok (.iaload, 1) := by decide +kernel
theorem dX12_manyBy_138 : decode cX12_manyBy 138 = .ok (.aload_n 0, 1) := by decide +kernel
theorem dX12_manyBy_139 : decode cX12_manyBy 139 = .ok (.getfield 19, 3) := by decide +kernel
theorem dX12_manyBy_142 : decode cX12_manyBy 142 = .ok (.iload 6, 2) := by decide +kernel
theorem dX12_manyBy_144 : decode cX12_manyBy 144 = .ok (.iaload, 1) := by decide +kernel
theorem dX12_manyBy_145 : decode cX12_manyBy 145 = .ok (.invokestatic 149, 3) := by decide +kernel
theorem dX12_manyBy_148 : decode cX12_manyBy 148 = .ok (.ifCond .eq 7, 3) := by decide +kernel
theorem dX12_manyBy_151 : decode cX12_manyBy 151 = .ok (.lconst 1, 1) := by decide +kernel
theorem dX12_manyBy_152 : decode cX12_manyBy 152 = .ok (.goto 4, 3) := by decide +kernel
theorem dX12_manyBy_155 : decode cX12_manyBy 155 = .ok (.lconst 0, 1) := by decide +kernel
theorem dX12_manyBy_156 : decode cX12_manyBy 156 = .ok (.ladd, 1) := by decide +kernel
theorem dX12_manyBy_157 : decode cX12_manyBy 157 = .ok (.lstore 4, 2) := by decide +kernel
theorem dX12_manyBy_159 : decode cX12_manyBy 159 = .ok (.iinc 6 1, 3) := by decide +kernel
theorem dX12_manyBy_162 : decode cX12_manyBy 162 = .ok (.goto (-108), 3) := by decide +kernel
theorem dX12_manyBy_165 : decode cX12_manyBy 165 = .ok (.aload_n 0, 1) := by decide +kernel
theorem dX12_manyBy_166 : decode cX12_manyBy 166 = .ok (.getfield 81, 3) := by decide +kernel
theorem dX12_manyBy_169 : decode cX12_manyBy 169 = .ok (.iload_n 3, 1) := by decide +kernel
theorem dX12_manyBy_170 : decode cX12_manyBy 170 = .ok (.lload 4, 2) := by decide +kernel
theorem dX12_manyBy_172 : decode cX12_manyBy 172 = .ok (.lastore, 1) := by decide +kernel
theorem dX12_manyBy_173 : decode cX12_manyBy 173 = .ok (.iinc 3 1, 3) := by decide +kernel
theorem dX12_manyBy_176 : decode cX12_manyBy 176 = .ok (.goto (-140), 3) := by decide +kernel
theorem dX12_manyBy_179 : decode cX12_manyBy 179 = .ok (.iconst 0, 1) := by decide +kernel
theorem dX12_manyBy_180 : decode cX12_manyBy 180 = .ok (.istore_n 3, 1) := by decide +kernel
theorem dX12_manyBy_181 : decode cX12_manyBy 181 = .ok (.iload_n 3, 1) := by decide +kernel
theorem dX12_manyBy_182 : decode cX12_manyBy 182 = .ok (.iconst 5, 1) := by decide +kernel
theorem dX12_manyBy_183 : decode cX12_manyBy 183 = .ok (.aload_n 0, 1) := by decide +kernel
theorem dX12_manyBy_184 : decode cX12_manyBy 184 = .ok (.getfield 188, 3) := by decide +kernel
theorem dX12_manyBy_187 : decode cX12_manyBy 187 = .ok (.imul, 1) := by decide +kernel
theorem dX12_manyBy_188 : decode cX12_manyBy 188 = .ok (.iconst 4, 1) := by decide +kernel
theorem dX12_manyBy_189 : decode cX12_manyBy 189 = .ok (.iadd, 1) := by decide +kernel
theorem dX12_manyBy_190 : decode cX12_manyBy 190 = .ok (.if_icmp .gt 21, 3) := by decide +kernel
theorem dX12_manyBy_193 : decode cX12_manyBy 193 = .ok (.aload_n 0, 1) := by decide +kernel
theorem dX12_manyBy_194 : decode cX12_manyBy 194 = .ok (.getfield 78, 3) := by decide +kernel
theorem dX12_manyBy_197 : decode cX12_manyBy 197 = .ok (.iload_n 3, 1) := by decide +kernel
theorem dX12_manyBy_198 : decode cX12_manyBy 198 = .ok (.aload_n 0, 1) := by decide +kernel
theorem dX12_manyBy_199 : decode cX12_manyBy 199 = .ok (.getfield 81, 3) := by decide +kernel
theorem dX12_manyBy_202 : decode cX12_manyBy 202 = .ok (.iload_n 3, 1) := by decide +kernel
theorem dX12_manyBy_203 : decode cX12_manyBy 203 = .ok (.laload, 1) := by decide +kernel
theorem dX12_manyBy_204 : decode cX12_manyBy 204 = .ok (.lastore, 1) := by decide +kernel
theorem dX12_manyBy_205 : decode cX12_manyBy 205 = .ok (.iinc 3 1, 3) := by decide +kernel
theorem dX12_manyBy_208 : decode cX12_manyBy 208 = .ok (.goto (-27), 3) := by decide +kernel
theorem dX12_manyBy_211 : decode cX12_manyBy 211 = .ok (.iinc 2 1, 3) := by decide +kernel
theorem dX12_manyBy_214 : decode cX12_manyBy 214 = .ok (.goto (-185), 3) := by decide +kernel
theorem dX12_manyBy_217 : decode cX12_manyBy 217 = .ok (.aload_n 0, 1) := by decide +kernel
theorem dX12_manyBy_218 : decode cX12_manyBy 218 = .ok (.getfield 78, 3) := by decide +kernel
theorem dX12_manyBy_221 : decode cX12_manyBy 221 = .ok (.iconst 5, 1) := by decide +kernel
theorem dX12_manyBy_222 : decode cX12_manyBy 222 = .ok (.aload_n 0, 1) := by decide +kernel
theorem dX12_manyBy_223 : decode cX12_manyBy 223 = .ok (.getfield 188, 3) := by decide +kernel
theorem dX12_manyBy_226 : decode cX12_manyBy 226 = .ok (.imul, 1) := by decide +kernel
theorem dX12_manyBy_227 : decode cX12_manyBy 227 = .ok (.iconst 4, 1) := by decide +kernel
theorem dX12_manyBy_228 : decode cX12_manyBy 228 = .ok (.iadd, 1) := by decide +kernel
theorem dX12_manyBy_229 : decode cX12_manyBy 229 = .ok (.laload, 1) := by decide +kernel
theorem dX12_manyBy_230 : decode cX12_manyBy 230 = .ok (.lreturn, 1) := by decide +kernel
theorem dX12_few_0 : decode cX12_few 0 = .ok (.bipush (-9), 2) := by decide +kernel
theorem dX12_few_2 : decode cX12_few 2 = .ok (.istore_n 2, 1) := by decide +kernel
theorem dX12_few_3 : decode cX12_few 3 = .ok (.bipush 12, 2) := by decide +kernel
theorem dX12_few_5 : decode cX12_few 5 = .ok (.istore_n 3, 1) := by decide +kernel
theorem dX12_few_6 : decode cX12_few 6 = .ok (.iload_n 3, 1) := by decide +kernel
theorem dX12_few_7 : decode cX12_few 7 = .ok (.ifCond .le 35, 3) := by decide +kernel
theorem dX12_few_10 : decode cX12_few 10 = .ok (.aload_n 0, 1) := by decide +kernel
theorem dX12_few_11 : decode cX12_few 11 = .ok (.iload_n 3, 1) := by decide +kernel
theorem dX12_few_12 : decode cX12_few 12 = .ok (.invokevirtual 212, 3) := by decide +kernel
theorem dX12_few_15 : decode cX12_few 15 = .ok (.lconst 0, 1) := by decide +kernel
theorem dX12_few_16 : decode cX12_few 16 = .ok (.lcmp, 1) := by decide +kernel
theorem dX12_few_17 : decode cX12_few 17 = .ok (.ifCond .le 17, 3) := by decide +kernel
theorem dX12_few_20 : decode cX12_few 20 = .ok (.iload_n 1, 1) := by decide +kernel
theorem dX12_few_21 : decode cX12_few 21 = .ok (.ifCond .eq 9, 3) := by decide +kernel
theorem dX12_few_24 : decode cX12_few 24 = .ok (.iload_n 2, 1) := by decide +kernel
theorem dX12_few_25 : decode cX12_few 25 = .ok (.bipush (-9), 2) := by decide +kernel
theorem dX12_few_27 : decode cX12_few 27 = .ok (.if_icmp .ne 7, 3) := by decide +kernel
theorem dX12_few_30 : decode cX12_few 30 = .ok (.iload_n 3, 1) := by decide +kernel
theorem dX12_few_31 : decode cX12_few 31 = .ok (.goto 4, 3) := by decide +kernel
theorem dX12_few_34 : decode cX12_few 34 = .ok (.iload_n 2, 1) := by decide +kernel
theorem dX12_few_35 : decode cX12_few 35 = .ok (.istore_n 2, 1) := by decide +kernel
theorem dX12_few_36 : decode cX12_few 36 = .ok (.iinc 3 (-1), 3) := by decide +kernel
theorem dX12_few_39 : decode cX12_few 39 = .ok (.goto (-33), 3) := by decide +kernel
theorem dX12_few_42 : decode cX12_few 42 = .ok (.iload_n 2, 1) := by decide +kernel
theorem dX12_few_43 : decode cX12_few 43 = .ok (.ireturn, 1) := by decide +kernel
theorem dX12_inPhrases_0 : decode cX12_inPhrases 0 = .ok (.iconst 0, 1) := by decide +kernel
theorem dX12_inPhrases_1 : decode cX12_inPhrases 1 = .ok (.istore_n 1, 1) := by decide +kernel
theorem dX12_inPhrases_2 : decode cX12_inPhrases 2 = .ok (.iconst 0, 1) := by decide +kernel
theorem dX12_inPhrases_3 : decode cX12_inPhrases 3 = .ok (.istore_n 2, 1) := by decide +kernel
theorem dX12_inPhrases_4 : decode cX12_inPhrases 4 = .ok (.iload_n 2, 1) := by decide +kernel
theorem dX12_inPhrases_5 : decode cX12_inPhrases 5 = .ok (.aload_n 0, 1) := by decide +kernel
theorem dX12_inPhrases_6 : decode cX12_inPhrases 6 = .ok (.getfield 103, 3) := by decide +kernel
theorem dX12_inPhrases_9 : decode cX12_inPhrases 9 = .ok (.if_icmp .ge 33, 3) := by decide +kernel
theorem dX12_inPhrases_12 : decode cX12_inPhrases 12 = .ok (.iload_n 1, 1) := by decide +kernel
theorem dX12_inPhrases_13 : decode cX12_inPhrases 13 = .ok (.aload_n 0, 1) := by decide +kernel
theorem dX12_inPhrases_14 : decode cX12_inPhrases 14 = .ok (.aload_n 0, 1) := by decide +kernel
theorem dX12_inPhrases_15 : decode cX12_inPhrases 15 = .ok (.getfield 25, 3) := by decide +kernel
theorem dX12_inPhrases_18 : decode cX12_inPhrases 18 = .ok (.iload_n 2, 1) := by decide +kernel
theorem dX12_inPhrases_19 : decode cX12_inPhrases 19 = .ok (.invokevirtual 216, 3) := by decide +kernel
theorem dX12_inPhrases_22 : decode cX12_inPhrases 22 = .ok (.lconst 0, 1) := by decide +kernel
theorem dX12_inPhrases_23 : decode cX12_inPhrases 23 = .ok (.lcmp, 1) := by decide +kernel
theorem dX12_inPhrases_24 : decode cX12_inPhrases 24 = .ok (.ifCond .le 9, 3) := by decide +kernel
theorem dX12_inPhrases_27 : decode cX12_inPhrases 27 = .ok (.iconst 1, 1) := by decide +kernel
theorem dX12_inPhrases_28 : decode cX12_inPhrases 28 = .ok (.iload_n 2, 1) := by decide +kernel
theorem dX12_inPhrases_29 : decode cX12_inPhrases 29 = .ok (.ishl, 1) := by decide +kernel
theorem dX12_inPhrases_30 : decode cX12_inPhrases 30 = .ok (.goto 4, 3) := by decide +kernel
theorem dX12_inPhrases_33 : decode cX12_inPhrases 33 = .ok (.iconst 0, 1) := by decide +kernel
theorem dX12_inPhrases_34 : decode cX12_inPhrases 34 = .ok (.ior, 1) := by decide +kernel
theorem dX12_inPhrases_35 : decode cX12_inPhrases 35 = .ok (.istore_n 1, 1) := by decide +kernel
theorem dX12_inPhrases_36 : decode cX12_inPhrases 36 = .ok (.iinc 2 1, 3) := by decide +kernel
theorem dX12_inPhrases_39 : decode cX12_inPhrases 39 = .ok (.goto (-35), 3) := by decide +kernel
theorem dX12_inPhrases_42 : decode cX12_inPhrases 42 = .ok (.iload_n 1, 1) := by decide +kernel
theorem dX12_inPhrases_43 : decode cX12_inPhrases 43 = .ok (.ireturn, 1) := by decide +kernel
theorem dX12_makeable_0 : decode cX12_makeable 0 = .ok (.iconst 0, 1) := by decide +kernel
theorem dX12_makeable_1 : decode cX12_makeable 1 = .ok (.istore_n 1, 1) := by decide +kernel
theorem dX12_makeable_2 : decode cX12_makeable 2 = .ok (.iconst 0, 1) := by decide +kernel
theorem dX12_makeable_3 : decode cX12_makeable 3 = .ok (.istore_n 2, 1) := by decide +kernel
theorem dX12_makeable_4 : decode cX12_makeable 4 = .ok (.iload_n 2, 1) := by decide +kernel
theorem dX12_makeable_5 : decode cX12_makeable 5 = .ok (.aload_n 0, 1) := by decide +kernel
theorem dX12_makeable_6 : decode cX12_makeable 6 = .ok (.getfield 103, 3) := by decide +kernel
theorem dX12_makeable_9 : decode cX12_makeable 9 = .ok (.if_icmp .ge 27, 3) := by decide +kernel
theorem dX12_makeable_12 : decode cX12_makeable 12 = .ok (.iload_n 1, 1) := by decide +kernel
theorem dX12_makeable_13 : decode cX12_makeable 13 = .ok (.aload_n 0, 1) := by decide +kernel
theorem dX12_makeable_14 : decode cX12_makeable 14 = .ok (.iload_n 2, 1) := by decide +kernel
theorem dX12_makeable_15 : decode cX12_makeable 15 = .ok (.invokevirtual 220, 3) := by decide +kernel
theorem dX12_makeable_18 : decode cX12_makeable 18 = .ok (.ifCond .le 9, 3) := by decide +kernel
theorem dX12_makeable_21 : decode cX12_makeable 21 = .ok (.iconst 1, 1) := by decide +kernel
theorem dX12_makeable_22 : decode cX12_makeable 22 = .ok (.iload_n 2, 1) := by decide +kernel
theorem dX12_makeable_23 : decode cX12_makeable 23 = .ok (.ishl, 1) := by decide +kernel
theorem dX12_makeable_24 : decode cX12_makeable 24 = .ok (.goto 4, 3) := by decide +kernel
theorem dX12_makeable_27 : decode cX12_makeable 27 = .ok (.iconst 0, 1) := by decide +kernel
theorem dX12_makeable_28 : decode cX12_makeable 28 = .ok (.ior, 1) := by decide +kernel
theorem dX12_makeable_29 : decode cX12_makeable 29 = .ok (.istore_n 1, 1) := by decide +kernel
theorem dX12_makeable_30 : decode cX12_makeable 30 = .ok (.iinc 2 1, 3) := by decide +kernel
theorem dX12_makeable_33 : decode cX12_makeable 33 = .ok (.goto (-29), 3) := by decide +kernel
theorem dX12_makeable_36 : decode cX12_makeable 36 = .ok (.iload_n 1, 1) := by decide +kernel
theorem dX12_makeable_37 : decode cX12_makeable 37 = .ok (.ireturn, 1) := by decide +kernel
theorem dX12_unlike_0 : decode cX12_unlike 0 = .ok (.iconst 0, 1) := by decide +kernel
theorem dX12_unlike_1 : decode cX12_unlike 1 = .ok (.istore_n 1, 1) := by decide +kernel
theorem dX12_unlike_2 : decode cX12_unlike 2 = .ok (.iconst 0, 1) := by decide +kernel
theorem dX12_unlike_3 : decode cX12_unlike 3 = .ok (.istore_n 2, 1) := by decide +kernel
theorem dX12_unlike_4 : decode cX12_unlike 4 = .ok (.iload_n 2, 1) := by decide +kernel
theorem dX12_unlike_5 : decode cX12_unlike 5 = .ok (.bipush 8, 2) := by decide +kernel
theorem dX12_unlike_7 : decode cX12_unlike 7 = .ok (.if_icmp .ge 26, 3) := by decide +kernel
theorem dX12_unlike_10 : decode cX12_unlike 10 = .ok (.iload_n 1, 1) := by decide +kernel
theorem dX12_unlike_11 : decode cX12_unlike 11 = .ok (.aload_n 0, 1) := by decide +kernel
theorem dX12_unlike_12 : decode cX12_unlike 12 = .ok (.getfield 25, 3) := by decide +kernel
theorem dX12_unlike_15 : decode cX12_unlike 15 = .ok (.iload_n 2, 1) := by decide +kernel
theorem dX12_unlike_16 : decode cX12_unlike 16 = .ok (.iaload, 1) := by decide +kernel
theorem dX12_unlike_17 : decode cX12_unlike 17 = .ok (.ifCond .le 7, 3) := by decide +kernel
theorem dX12_unlike_20 : decode cX12_unlike 20 = .ok (.iconst 1, 1) := by decide +kernel
theorem dX12_unlike_21 : decode cX12_unlike 21 = .ok (.goto 4, 3) := by decide +kernel
theorem dX12_unlike_24 : decode cX12_unlike 24 = .ok (.iconst 0, 1) := by decide +kernel
theorem dX12_unlike_25 : decode cX12_unlike 25 = .ok (.iadd, 1) := by decide +kernel
theorem dX12_unlike_26 : decode cX12_unlike 26 = .ok (.istore_n 1, 1) := by decide +kernel
theorem dX12_unlike_27 : decode cX12_unlike 27 = .ok (.iinc 2 1, 3) := by decide +kernel
theorem dX12_unlike_30 : decode cX12_unlike 30 = .ok (.goto (-26), 3) := by decide +kernel
theorem dX12_unlike_33 : decode cX12_unlike 33 = .ok (.iload_n 1, 1) := by decide +kernel
theorem dX12_unlike_34 : decode cX12_unlike 34 = .ok (.ireturn, 1) := by decide +kernel
theorem dX12_about_0 : decode cX12_about 0 = .ok (.aload_n 0, 1) := by decide +kernel
theorem dX12_about_1 : decode cX12_about 1 = .ok (.aload_n 0, 1) := by decide +kernel
theorem dX12_about_2 : decode cX12_about 2 = .ok (.getfield 25, 3) := by decide +kernel
theorem dX12_about_5 : decode cX12_about 5 = .ok (.invokevirtual 202, 3) := by decide +kernel
theorem dX12_about_8 : decode cX12_about 8 = .ok (.iload_n 1, 1) := by decide +kernel
theorem dX12_about_9 : decode cX12_about 9 = .ok (.tableswitch 155 0 13 #[71, 76, 84, 89, 97, 105, 113, 118, 123, 129, 135, 140, 145, 150], 71) := by decide +kernel
theorem dX12_about_80 : decode cX12_about 80 = .ok (.aload_n 0, 1) := by decide +kernel
theorem dX12_about_81 : decode cX12_about 81 = .ok (.getfield 103, 3) := by decide +kernel
theorem dX12_about_84 : decode cX12_about 84 = .ok (.ireturn, 1) := by decide +kernel
theorem dX12_about_85 : decode cX12_about 85 = .ok (.aload_n 0, 1) := by decide +kernel
theorem dX12_about_86 : decode cX12_about 86 = .ok (.getfield 25, 3) := by decide +kernel
theorem dX12_about_89 : decode cX12_about 89 = .ok (.invokestatic 129, 3) := by decide +kernel
theorem dX12_about_92 : decode cX12_about 92 = .ok (.ireturn, 1) := by decide +kernel
theorem dX12_about_93 : decode cX12_about 93 = .ok (.aload_n 0, 1) := by decide +kernel
theorem dX12_about_94 : decode cX12_about 94 = .ok (.invokevirtual 224, 3) := by decide +kernel
theorem dX12_about_97 : decode cX12_about 97 = .ok (.ireturn, 1) := by decide +kernel
theorem dX12_about_98 : decode cX12_about 98 = .ok (.aload_n 0, 1) := by decide +kernel
theorem dX12_about_99 : decode cX12_about 99 = .ok (.getfield 25, 3) := by decide +kernel
theorem dX12_about_102 : decode cX12_about 102 = .ok (.bipush 8, 2) := by decide +kernel
theorem dX12_about_104 : decode cX12_about 104 = .ok (.iaload, 1) := by decide +kernel
theorem dX12_about_105 : decode cX12_about 105 = .ok (.ireturn, 1) := by decide +kernel
theorem dX12_about_106 : decode cX12_about 106 = .ok (.aload_n 0, 1) := by decide +kernel
theorem dX12_about_107 : decode cX12_about 107 = .ok (.getfield 25, 3) := by decide +kernel
theorem dX12_about_110 : decode cX12_about 110 = .ok (.bipush 19, 2) := by decide +kernel
theorem dX12_about_112 : decode cX12_about 112 = .ok (.iaload, 1) := by decide +kernel
theorem dX12_about_113 : decode cX12_about 113 = .ok (.ireturn, 1) := by decide +kernel
theorem dX12_about_114 : decode cX12_about 114 = .ok (.aload_n 0, 1) := by decide +kernel
theorem dX12_about_115 : decode cX12_about 115 = .ok (.getfield 25, 3) := by decide +kernel
theorem dX12_about_118 : decode cX12_about 118 = .ok (.bipush 20, 2) := by decide +kernel
theorem dX12_about_120 : decode cX12_about 120 = .ok (.iaload, 1) := by decide +kernel
theorem dX12_about_121 : decode cX12_about 121 = .ok (.ireturn, 1) := by decide +kernel
theorem dX12_about_122 : decode cX12_about 122 = .ok (.aload_n 0, 1) := by decide +kernel
theorem dX12_about_123 : decode cX12_about 123 = .ok (.invokevirtual 227, 3) := by decide +kernel
theorem dX12_about_126 : decode cX12_about 126 = .ok (.ireturn, 1) := by decide +kernel
theorem dX12_about_127 : decode cX12_about 127 = .ok (.aload_n 0, 1) := by decide +kernel
theorem dX12_about_128 : decode cX12_about 128 = .ok (.invokevirtual 230, 3) := by decide +kernel
theorem dX12_about_131 : decode cX12_about 131 = .ok (.ireturn, 1) := by decide +kernel
theorem dX12_about_132 : decode cX12_about 132 = .ok (.aload_n 0, 1) := by decide +kernel
theorem dX12_about_133 : decode cX12_about 133 = .ok (.iconst 0, 1) := by decide +kernel
theorem dX12_about_134 : decode cX12_about 134 = .ok (.invokevirtual 233, 3) := by decide +kernel
theorem dX12_about_137 : decode cX12_about 137 = .ok (.ireturn, 1) := by decide +kernel
theorem dX12_about_138 : decode cX12_about 138 = .ok (.aload_n 0, 1) := by decide +kernel
theorem dX12_about_139 : decode cX12_about 139 = .ok (.iconst 1, 1) := by decide +kernel
theorem dX12_about_140 : decode cX12_about 140 = .ok (.invokevirtual 233, 3) := by decide +kernel
theorem dX12_about_143 : decode cX12_about 143 = .ok (.ireturn, 1) := by decide +kernel
theorem dX12_about_144 : decode cX12_about 144 = .ok (.aload_n 0, 1) := by decide +kernel
theorem dX12_about_145 : decode cX12_about 145 = .ok (.getfield 182, 3) := by decide +kernel
theorem dX12_about_148 : decode cX12_about 148 = .ok (.ireturn, 1) := by decide +kernel
theorem dX12_about_149 : decode cX12_about 149 = .ok (.aload_n 0, 1) := by decide +kernel
theorem dX12_about_150 : decode cX12_about 150 = .ok (.getfield 237, 3) := by decide +kernel
theorem dX12_about_153 : decode cX12_about 153 = .ok (.ireturn, 1) := by decide +kernel
theorem dX12_about_154 : decode cX12_about 154 = .ok (.aload_n 0, 1) := by decide +kernel
theorem dX12_about_155 : decode cX12_about 155 = .ok (.getfield 117, 3) := by decide +kernel
theorem dX12_about_158 : decode cX12_about 158 = .ok (.ireturn, 1) := by decide +kernel
theorem dX12_about_159 : decode cX12_about 159 = .ok (.aload_n 0, 1) := by decide +kernel
theorem dX12_about_160 : decode cX12_about 160 = .ok (.getfield 185, 3) := by decide +kernel
theorem dX12_about_163 : decode cX12_about 163 = .ok (.ireturn, 1) := by decide +kernel
theorem dX12_about_164 : decode cX12_about 164 = .ok (.bipush (-2), 2) := by decide +kernel
theorem dX12_about_166 : decode cX12_about 166 = .ok (.ireturn, 1) := by decide +kernel
theorem dX12_havers_0 : decode cX12_havers 0 = .ok (.iconst 0, 1) := by decide +kernel
theorem dX12_havers_1 : decode cX12_havers 1 = .ok (.istore_n 2, 1) := by decide +kernel
theorem dX12_havers_2 : decode cX12_havers 2 = .ok (.iconst 0, 1) := by decide +kernel
theorem dX12_havers_3 : decode cX12_havers 3 = .ok (.istore_n 3, 1) := by decide +kernel
theorem dX12_havers_4 : decode cX12_havers 4 = .ok (.iload_n 3, 1) := by decide +kernel
theorem dX12_havers_5 : decode cX12_havers 5 = .ok (.aload_n 0, 1) := by decide +kernel
theorem dX12_havers_6 : decode cX12_havers 6 = .ok (.getfield 103, 3) := by decide +kernel
theorem dX12_havers_9 : decode cX12_havers 9 = .ok (.if_icmp .ge 31, 3) := by decide +kernel
theorem dX12_havers_12 : decode cX12_havers 12 = .ok (.iload_n 2, 1) := by decide +kernel
theorem dX12_havers_13 : decode cX12_havers 13 = .ok (.aload_n 0, 1) := by decide +kernel
theorem dX12_havers_14 : decode cX12_havers 14 = .ok (.getfield 22, 3) := by decide +kernel
theorem dX12_havers_17 : decode cX12_havers 17 = .ok (.bipush 8, 2) := by decide +kernel
theorem dX12_havers_19 : decode cX12_havers 19 = .ok (.iload_n 3, 1) := by decide +kernel
theorem dX12_havers_20 : decode cX12_havers 20 = .ok (.imul, 1) := by decide +kernel
theorem dX12_havers_21 : decode cX12_havers 21 = .ok (.iload_n 1, 1) := by decide +kernel
theorem dX12_havers_22 : decode cX12_havers 22 = .ok (.iadd, 1) := by decide +kernel
theorem dX12_havers_23 : decode cX12_havers 23 = .ok (.iaload, 1) := by decide +kernel
theorem dX12_havers_24 : decode cX12_havers 24 = .ok (.ifCond .le 7, 3) := by decide +kernel
theorem dX12_havers_27 : decode cX12_havers 27 = .ok (.iconst 1, 1) := by decide +kernel
theorem dX12_havers_28 : decode cX12_havers 28 = .ok (.goto 4, 3) := by decide +kernel
theorem dX12_havers_31 : decode cX12_havers 31 = .ok (.iconst 0, 1) := by decide +kernel
theorem dX12_havers_32 : decode cX12_havers 32 = .ok (.iadd, 1) := by decide +kernel
theorem dX12_havers_33 : decode cX12_havers 33 = .ok (.istore_n 2, 1) := by decide +kernel
theorem dX12_havers_34 : decode cX12_havers 34 = .ok (.iinc 3 1, 3) := by decide +kernel
theorem dX12_havers_37 : decode cX12_havers 37 = .ok (.goto (-33), 3) := by decide +kernel
theorem dX12_havers_40 : decode cX12_havers 40 = .ok (.iload_n 2, 1) := by decide +kernel
theorem dX12_havers_41 : decode cX12_havers 41 = .ok (.ireturn, 1) := by decide +kernel
theorem dX12_rarest_0 : decode cX12_rarest 0 = .ok (.bipush (-9), 2) := by decide +kernel
theorem dX12_rarest_2 : decode cX12_rarest 2 = .ok (.istore_n 2, 1) := by decide +kernel
theorem dX12_rarest_3 : decode cX12_rarest 3 = .ok (.bipush 7, 2) := by decide +kernel
theorem dX12_rarest_5 : decode cX12_rarest 5 = .ok (.istore_n 3, 1) := by decide +kernel
theorem dX12_rarest_6 : decode cX12_rarest 6 = .ok (.iload_n 3, 1) := by decide +kernel
theorem dX12_rarest_7 : decode cX12_rarest 7 = .ok (.ifCond .lt 48, 3) := by decide +kernel
theorem dX12_rarest_10 : decode cX12_rarest 10 = .ok (.aload_n 0, 1) := by decide +kernel
theorem dX12_rarest_11 : decode cX12_rarest 11 = .ok (.getfield 22, 3) := by decide +kernel
theorem dX12_rarest_14 : decode cX12_rarest 14 = .ok (.bipush 8, 2) := by decide +kernel
theorem dX12_rarest_16 : decode cX12_rarest 16 = .ok (.iload_n 1, 1) := by decide +kernel
theorem dX12_rarest_17 : decode cX12_rarest 17 = .ok (.imul, 1) := by decide +kernel
theorem dX12_rarest_18 : decode cX12_rarest 18 = .ok (.iload_n 3, 1) := by decide +kernel
theorem dX12_rarest_19 : decode cX12_rarest 19 = .ok (.iadd, 1) := by decide +kernel
theorem dX12_rarest_20 : decode cX12_rarest 20 = .ok (.iaload, 1) := by decide +kernel
theorem dX12_rarest_21 : decode cX12_rarest 21 = .ok (.ifCond .le 26, 3) := by decide +kernel
theorem dX12_rarest_24 : decode cX12_rarest 24 = .ok (.iload_n 2, 1) := by decide +kernel
theorem dX12_rarest_25 : decode cX12_rarest 25 = .ok (.bipush (-9), 2) := by decide +kernel
theorem dX12_rarest_27 : decode cX12_rarest 27 = .ok (.if_icmp .eq 16, 3) := by decide +kernel
theorem dX12_rarest_30 : decode cX12_rarest 30 = .ok (.aload_n 0, 1) := by decide +kernel
theorem dX12_rarest_31 : decode cX12_rarest 31 = .ok (.iload_n 3, 1) := by decide +kernel
theorem dX12_rarest_32 : decode cX12_rarest 32 = .ok (.invokevirtual 240, 3) := by decide +kernel
theorem dX12_rarest_35 : decode cX12_rarest 35 = .ok (.aload_n 0, 1) := by decide +kernel
theorem dX12_rarest_36 : decode cX12_rarest 36 = .ok (.iload_n 2, 1) := by decide +kernel
theorem dX12_rarest_37 : decode cX12_rarest 37 = .ok (.invokevirtual 240, 3) := by decide +kernel
theorem dX12_rarest_40 : decode cX12_rarest 40 = .ok (.if_icmp .gt 7, 3) := by decide +kernel
theorem dX12_rarest_43 : decode cX12_rarest 43 = .ok (.iload_n 3, 1) := by decide +kernel
theorem dX12_rarest_44 : decode cX12_rarest 44 = .ok (.goto 4, 3) := by decide +kernel
theorem dX12_rarest_47 : decode cX12_rarest 47 = .ok (.iload_n 2, 1) := by decide +kernel
theorem dX12_rarest_48 : decode cX12_rarest 48 = .ok (.istore_n 2, 1) := by decide +kernel
theorem dX12_rarest_49 : decode cX12_rarest 49 = .ok (.iinc 3 (-1), 3) := by decide +kernel
theorem dX12_rarest_52 : decode cX12_rarest 52 = .ok (.goto (-46), 3) := by decide +kernel
theorem dX12_rarest_55 : decode cX12_rarest 55 = .ok (.iload_n 2, 1) := by decide +kernel
theorem dX12_rarest_56 : decode cX12_rarest 56 = .ok (.ireturn, 1) := by decide +kernel
theorem dX12_twins_0 : decode cX12_twins 0 = .ok (.iconst 0, 1) := by decide +kernel
theorem dX12_twins_1 : decode cX12_twins 1 = .ok (.istore_n 2, 1) := by decide +kernel
theorem dX12_twins_2 : decode cX12_twins 2 = .ok (.iconst 0, 1) := by decide +kernel
theorem dX12_twins_3 : decode cX12_twins 3 = .ok (.istore_n 3, 1) := by decide +kernel
theorem dX12_twins_4 : decode cX12_twins 4 = .ok (.iload_n 3, 1) := by decide +kernel
theorem dX12_twins_5 : decode cX12_twins 5 = .ok (.aload_n 0, 1) := by decide +kernel
theorem dX12_twins_6 : decode cX12_twins 6 = .ok (.getfield 103, 3) := by decide +kernel
theorem dX12_twins_9 : decode cX12_twins 9 = .ok (.if_icmp .ge 80, 3) := by decide +kernel
theorem dX12_twins_12 : decode cX12_twins 12 = .ok (.iconst 1, 1) := by decide +kernel
theorem dX12_twins_13 : decode cX12_twins 13 = .ok (.istore 4, 2) := by decide +kernel
theorem dX12_twins_15 : decode cX12_twins 15 = .ok (.iconst 0, 1) := by decide +kernel
theorem dX12_twins_16 : decode cX12_twins 16 = .ok (.istore 5, 2) := by decide +kernel
theorem dX12_twins_18 : decode cX12_twins 18 = .ok (.iload 5, 2) := by decide +kernel
theorem dX12_twins_20 : decode cX12_twins 20 = .ok (.bipush 8, 2) := by decide +kernel
theorem dX12_twins_22 : decode cX12_twins 22 = .ok (.if_icmp .ge 48, 3) := by decide +kernel
theorem dX12_twins_25 : decode cX12_twins 25 = .ok (.iload 4, 2) := by decide +kernel
theorem dX12_twins_27 : decode cX12_twins 27 = .ok (.ifCond .eq 34, 3) := by decide +kernel
theorem dX12_twins_30 : decode cX12_twins 30 = .ok (.aload_n 0, 1) := by decide +kernel
theorem dX12_twins_31 : decode cX12_twins 31 = .ok (.getfield 22, 3) := by decide +kernel
theorem dX12_twins_34 : decode cX12_twins 34 = .ok (.bipush 8, 2) := by decide +kernel
theorem dX12_twins_36 : decode cX12_twins 36 = .ok (.iload_n 1, 1) := by decide +kernel
theorem dX12_twins_37 : decode cX12_twins 37 = .ok (.imul, 1) := by decide +kernel
theorem dX12_twins_38 : decode cX12_twins 38 = .ok (.iload 5, 2) := by decide +kernel
theorem dX12_twins_40 : decode cX12_twins 40 = .ok (.iadd, 1) := by decide +kernel
theorem dX12_twins_41 : decode cX12_twins 41 = .ok (.iaload, 1) := by decide +kernel
theorem dX12_twins_42 : decode cX12_twins 42 = .ok (.aload_n 0, 1) := by decide +kernel
theorem dX12_twins_43 : decode cX12_twins 43 = .ok (.getfield 22, 3) := by decide +kernel
theorem dX12_twins_46 : decode cX12_twins 46 = .ok (.bipush 8, 2) := by decide +kernel
theorem dX12_twins_48 : decode cX12_twins 48 = .ok (.iload_n 3, 1) := by decide +kernel
theorem dX12_twins_49 : decode cX12_twins 49 = .ok (.imul, 1) := by decide +kernel
theorem dX12_twins_50 : decode cX12_twins 50 = .ok (.iload 5, 2) := by decide +kernel
theorem dX12_twins_52 : decode cX12_twins 52 = .ok (.iadd, 1) := by decide +kernel
theorem dX12_twins_53 : decode cX12_twins 53 = .ok (.iaload, 1) := by decide +kernel
theorem dX12_twins_54 : decode cX12_twins 54 = .ok (.if_icmp .ne 7, 3) := by decide +kernel
theorem dX12_twins_57 : decode cX12_twins 57 = .ok (.iconst 1, 1) := by decide +kernel
theorem dX12_twins_58 : decode cX12_twins 58 = .ok (.goto 4, 3) := by decide +kernel
theorem dX12_twins_61 : decode cX12_twins 61 = .ok (.iconst 0, 1) := by decide +kernel
theorem dX12_twins_62 : decode cX12_twins 62 = .ok (.istore 4, 2) := by decide +kernel
theorem dX12_twins_64 : decode cX12_twins 64 = .ok (.iinc 5 1, 3) := by decide +kernel
theorem dX12_twins_67 : decode cX12_twins 67 = .ok (.goto (-49), 3) := by decide +kernel
theorem dX12_twins_70 : decode cX12_twins 70 = .ok (.iload_n 2, 1) := by decide +kernel
theorem dX12_twins_71 : decode cX12_twins 71 = .ok (.iload 4, 2) := by decide +kernel
theorem dX12_twins_73 : decode cX12_twins 73 = .ok (.ifCond .eq 7, 3) := by decide +kernel
theorem dX12_twins_76 : decode cX12_twins 76 = .ok (.iconst 1, 1) := by decide +kernel
theorem dX12_twins_77 : decode cX12_twins 77 = .ok (.goto 4, 3) := by decide +kernel
theorem dX12_twins_80 : decode cX12_twins 80 = .ok (.iconst 0, 1) := by decide +kernel
theorem dX12_twins_81 : decode cX12_twins 81 = .ok (.iadd, 1) := by decide +kernel
theorem dX12_twins_82 : decode cX12_twins 82 = .ok (.istore_n 2, 1) := by decide +kernel
theorem dX12_twins_83 : decode cX12_twins 83 = .ok (.iinc 3 1, 3) := by decide +kernel
theorem dX12_twins_86 : decode cX12_twins 86 = .ok (.goto (-82), 3) := by decide +kernel
theorem dX12_twins_89 : decode cX12_twins 89 = .ok (.iload_n 2, 1) := by decide +kernel
theorem dX12_twins_90 : decode cX12_twins 90 = .ok (.ireturn, 1) := by decide +kernel
theorem dX12_madeOf_0 : decode cX12_madeOf 0 = .ok (.bipush 12, 2) := by decide +kernel
theorem dX12_madeOf_2 : decode cX12_madeOf 2 = .ok (.istore_n 2, 1) := by decide +kernel
theorem dX12_madeOf_3 : decode cX12_madeOf 3 = .ok (.iconst 0, 1) := by decide +kernel
theorem dX12_madeOf_4 : decode cX12_madeOf 4 = .ok (.istore_n 3, 1) := by decide +kernel
theorem dX12_madeOf_5 : decode cX12_madeOf 5 = .ok (.iload_n 3, 1) := by decide +kernel
theorem dX12_madeOf_6 : decode cX12_madeOf 6 = .ok (.bipush 8, 2) := by decide +kernel
theorem dX12_madeOf_8 : decode cX12_madeOf 8 = .ok (.if_icmp .ge 54, 3) := by decide +kernel
theorem dX12_madeOf_11 : decode cX12_madeOf 11 = .ok (.aload_n 0, 1) := by decide +kernel
theorem dX12_madeOf_12 : decode cX12_madeOf 12 = .ok (.getfield 22, 3) := by decide +kernel
theorem dX12_madeOf_15 : decode cX12_madeOf 15 = .ok (.bipush 8, 2) := by decide +kernel
theorem dX12_madeOf_17 : decode cX12_madeOf 17 = .ok (.iload_n 1, 1) := by decide +kernel
theorem dX12_madeOf_18 : decode cX12_madeOf 18 = .ok (.imul, 1) := by decide +kernel
theorem dX12_madeOf_19 : decode cX12_madeOf 19 = .ok (.iload_n 3, 1) := by decide +kernel
theorem dX12_madeOf_20 : decode cX12_madeOf 20 = .ok (.iadd, 1) := by decide +kernel
theorem dX12_madeOf_21 : decode cX12_madeOf 21 = .ok (.iaload, 1) := by decide +kernel
theorem dX12_madeOf_22 : decode cX12_madeOf 22 = .ok (.istore 4, 2) := by decide +kernel
theorem dX12_madeOf_24 : decode cX12_madeOf 24 = .ok (.iload 4, 2) := by decide +kernel
theorem dX12_madeOf_26 : decode cX12_madeOf 26 = .ok (.ifCond .le 28, 3) := by decide +kernel
theorem dX12_madeOf_29 : decode cX12_madeOf 29 = .ok (.aload_n 0, 1) := by decide +kernel
theorem dX12_madeOf_30 : decode cX12_madeOf 30 = .ok (.getfield 25, 3) := by decide +kernel
theorem dX12_madeOf_33 : decode cX12_madeOf 33 = .ok (.iload_n 3, 1) := by decide +kernel
theorem dX12_madeOf_34 : decode cX12_madeOf 34 = .ok (.iaload, 1) := by decide +kernel
theorem dX12_madeOf_35 : decode cX12_madeOf 35 = .ok (.iload 4, 2) := by decide +kernel
theorem dX12_madeOf_37 : decode cX12_madeOf 37 = .ok (.idiv, 1) := by decide +kernel
theorem dX12_madeOf_38 : decode cX12_madeOf 38 = .ok (.iload_n 2, 1) := by decide +kernel
theorem dX12_madeOf_39 : decode cX12_madeOf 39 = .ok (.if_icmp .ge 15, 3) := by decide +kernel
theorem dX12_madeOf_42 : decode cX12_madeOf 42 = .ok (.aload_n 0, 1) := by decide +kernel
theorem dX12_madeOf_43 : decode cX12_madeOf 43 = .ok (.getfield 25, 3) := by decide +kernel
theorem dX12_madeOf_46 : decode cX12_madeOf 46 = .ok (.iload_n 3, 1) := by decide +kernel
theorem dX12_madeOf_47 : decode cX12_madeOf 47 = .ok (.iaload, 1) := by decide +kernel
theorem dX12_madeOf_48 : decode cX12_madeOf 48 = .ok (.iload 4, 2) := by decide +kernel
theorem dX12_madeOf_50 : decode cX12_madeOf 50 = .ok (.idiv, 1) := by decide +kernel
theorem dX12_madeOf_51 : decode cX12_madeOf 51 = .ok (.goto 4, 3) := by decide +kernel
theorem dX12_madeOf_54 : decode cX12_madeOf 54 = .ok (.iload_n 2, 1) := by decide +kernel
theorem dX12_madeOf_55 : decode cX12_madeOf 55 = .ok (.istore_n 2, 1) := by decide +kernel
theorem dX12_madeOf_56 : decode cX12_madeOf 56 = .ok (.iinc 3 1, 3) := by decide +kernel
theorem dX12_madeOf_59 : decode cX12_madeOf 59 = .ok (.goto (-54), 3) := by decide +kernel
theorem dX12_madeOf_62 : decode cX12_madeOf 62 = .ok (.iload_n 2, 1) := by decide +kernel
theorem dX12_madeOf_63 : decode cX12_madeOf 63 = .ok (.ireturn, 1) := by decide +kernel
theorem dX12_lettersOf_0 : decode cX12_lettersOf 0 = .ok (.iconst 0, 1) := by decide +kernel
theorem dX12_lettersOf_1 : decode cX12_lettersOf 1 = .ok (.istore_n 2, 1) := by decide +kernel
theorem dX12_lettersOf_2 : decode cX12_lettersOf 2 = .ok (.iconst 0, 1) := by decide +kernel
theorem dX12_lettersOf_3 : decode cX12_lettersOf 3 = .ok (.istore_n 3, 1) := by decide +kernel
theorem dX12_lettersOf_4 : decode cX12_lettersOf 4 = .ok (.iload_n 3, 1) := by decide +kernel
theorem dX12_lettersOf_5 : decode cX12_lettersOf 5 = .ok (.bipush 8, 2) := by decide +kernel
theorem dX12_lettersOf_7 : decode cX12_lettersOf 7 = .ok (.if_icmp .ge 33, 3) := by decide +kernel
theorem dX12_lettersOf_10 : decode cX12_lettersOf 10 = .ok (.iload_n 2, 1) := by decide +kernel
theorem dX12_lettersOf_11 : decode cX12_lettersOf 11 = .ok (.aload_n 0, 1) := by decide +kernel
theorem dX12_lettersOf_12 : decode cX12_lettersOf 12 = .ok (.getfield 22, 3) := by decide +kernel
theorem dX12_lettersOf_15 : decode cX12_lettersOf 15 = .ok (.bipush 8, 2) := by decide +kernel
theorem dX12_lettersOf_17 : decode cX12_lettersOf 17 = .ok (.iload_n 1, 1) := by decide +kernel
theorem dX12_lettersOf_18 : decode cX12_lettersOf 18 = .ok (.imul, 1) := by decide +kernel
theorem dX12_lettersOf_19 : decode cX12_lettersOf 19 = .ok (.iload_n 3, 1) := by decide +kernel
theorem dX12_lettersOf_20 : decode cX12_lettersOf 20 = .ok (.iadd, 1) := by decide +kernel
theorem dX12_lettersOf_21 : decode cX12_lettersOf 21 = .ok (.iaload, 1) := by decide +kernel
theorem dX12_lettersOf_22 : decode cX12_lettersOf 22 = .ok (.ifCond .le 9, 3) := by decide +kernel
theorem dX12_lettersOf_25 : decode cX12_lettersOf 25 = .ok (.iconst 1, 1) := by decide +kernel
theorem dX12_lettersOf_26 : decode cX12_lettersOf 26 = .ok (.iload_n 3, 1) := by decide +kernel
theorem dX12_lettersOf_27 : decode cX12_lettersOf 27 = .ok (.ishl, 1) := by decide +kernel
theorem dX12_lettersOf_28 : decode cX12_lettersOf 28 = .ok (.goto 4, 3) := by decide +kernel
theorem dX12_lettersOf_31 : decode cX12_lettersOf 31 = .ok (.iconst 0, 1) := by decide +kernel
theorem dX12_lettersOf_32 : decode cX12_lettersOf 32 = .ok (.ior, 1) := by decide +kernel
theorem dX12_lettersOf_33 : decode cX12_lettersOf 33 = .ok (.istore_n 2, 1) := by decide +kernel
theorem dX12_lettersOf_34 : decode cX12_lettersOf 34 = .ok (.iinc 3 1, 3) := by decide +kernel
theorem dX12_lettersOf_37 : decode cX12_lettersOf 37 = .ok (.goto (-33), 3) := by decide +kernel
theorem dX12_lettersOf_40 : decode cX12_lettersOf 40 = .ok (.iload_n 2, 1) := by decide +kernel
theorem dX12_lettersOf_41 : decode cX12_lettersOf 41 = .ok (.ireturn, 1) := by decide +kernel
theorem dX12_word_0 : decode cX12_word 0 = .ok (.aload_n 0, 1) := by decide +kernel
theorem dX12_word_1 : decode cX12_word 1 = .ok (.iload_n 1, 1) := by decide +kernel
theorem dX12_word_2 : decode cX12_word 2 = .ok (.invokevirtual 243, 3) := by decide +kernel
theorem dX12_word_5 : decode cX12_word 5 = .ok (.ifCond .ne 5, 3) := by decide +kernel
theorem dX12_word_8 : decode cX12_word 8 = .ok (.iconst (-1), 1) := by decide +kernel
theorem dX12_word_9 : decode cX12_word 9 = .ok (.ireturn, 1) := by decide +kernel
theorem dX12_word_10 : decode cX12_word 10 = .ok (.iload_n 2, 1) := by decide +kernel
theorem dX12_word_11 : decode cX12_word 11 = .ok (.tableswitch 105 0 7 #[45, 52, 59, 69, 81, 87, 93, 99], 45) := by decide +kernel
theorem dX12_word_56 : decode cX12_word 56 = .ok (.aload_n 0, 1) := by decide +kernel
theorem dX12_word_57 : decode cX12_word 57 = .ok (.getfield 16, 3) := by decide +kernel
theorem dX12_word_60 : decode cX12_word 60 = .ok (.iload_n 1, 1) := by decide +kernel
theorem dX12_word_61 : decode cX12_word 61 = .ok (.iaload, 1) := by decide +kernel
theorem dX12_word_62 : decode cX12_word 62 = .ok (.ireturn, 1) := by decide +kernel
theorem dX12_word_63 : decode cX12_word 63 = .ok (.aload_n 0, 1) := by decide +kernel
theorem dX12_word_64 : decode cX12_word 64 = .ok (.getfield 19, 3) := by decide +kernel
theorem dX12_word_67 : decode cX12_word 67 = .ok (.iload_n 1, 1) := by decide +kernel
theorem dX12_word_68 : decode cX12_word 68 = .ok (.iaload, 1) := by decide +kernel
theorem dX12_word_69 : decode cX12_word 69 = .ok (.ireturn, 1) := by decide +kernel
theorem dX12_word_70 : decode cX12_word 70 = .ok (.aload_n 0, 1) := by decide +kernel
theorem dX12_word_71 : decode cX12_word 71 = .ok (.getfield 25, 3) := by decide +kernel
theorem dX12_word_74 : decode cX12_word 74 = .ok (.bipush 9, 2) := by decide +kernel
theorem dX12_word_76 : decode cX12_word 76 = .ok (.iload_n 1, 1) := by decide +kernel
theorem dX12_word_77 : decode cX12_word 77 = .ok (.iadd, 1) := by decide +kernel
theorem dX12_word_78 : decode cX12_word 78 = .ok (.iaload, 1) := by decide +kernel
theorem dX12_word_79 : decode cX12_word 79 = .ok (.ireturn, 1) := by decide +kernel
theorem dX12_word_80 : decode cX12_word 80 = .ok (.aload_n 0, 1) := by decide +kernel
theorem dX12_word_81 : decode cX12_word 81 = .ok (.getfield 25, 3) := by decide +kernel
theorem dX12_word_84 : decode cX12_word 84 = .ok (.bipush 8, 2) := by decide +kernel
theorem dX12_word_86 : decode cX12_word 86 = .ok (.iaload, 1) := by decide +kernel
theorem dX12_word_87 : decode cX12_word 87 = .ok (.iload_n 1, 1) := by decide +kernel
theorem dX12_word_88 : decode cX12_word 88 = .ok (.ishr, 1) := by decide +kernel
theorem dX12_word_89 : decode cX12_word 89 = .ok (.iconst 1, 1) := by decide +kernel
theorem dX12_word_90 : decode cX12_word 90 = .ok (.iand, 1) := by decide +kernel
theorem dX12_word_91 : decode cX12_word 91 = .ok (.ireturn, 1) := by decide +kernel
theorem dX12_word_92 : decode cX12_word 92 = .ok (.aload_n 0, 1) := by decide +kernel
theorem dX12_word_93 : decode cX12_word 93 = .ok (.iload_n 1, 1) := by decide +kernel
theorem dX12_word_94 : decode cX12_word 94 = .ok (.invokevirtual 246, 3) := by decide +kernel
theorem dX12_word_97 : decode cX12_word 97 = .ok (.ireturn, 1) := by decide +kernel
theorem dX12_word_98 : decode cX12_word 98 = .ok (.aload_n 0, 1) := by decide +kernel
theorem dX12_word_99 : decode cX12_word 99 = .ok (.iload_n 1, 1) := by decide +kernel
theorem dX12_word_100 : decode cX12_word 100 = .ok (.invokevirtual 249, 3) := by decide +kernel
theorem dX12_word_103 : decode cX12_word 103 = .ok (.ireturn, 1) := by decide +kernel
theorem dX12_word_104 : decode cX12_word 104 = .ok (.aload_n 0, 1) := by decide +kernel
theorem dX12_word_105 : decode cX12_word 105 = .ok (.iload_n 1, 1) := by decide +kernel
theorem dX12_word_106 : decode cX12_word 106 = .ok (.invokevirtual 220, 3) := by decide +kernel
theorem dX12_word_109 : decode cX12_word 109 = .ok (.ireturn, 1) := by decide +kernel
theorem dX12_word_110 : decode cX12_word 110 = .ok (.aload_n 0, 1) := by decide +kernel
theorem dX12_word_111 : decode cX12_word 111 = .ok (.iload_n 1, 1) := by decide +kernel
theorem dX12_word_112 : decode cX12_word 112 = .ok (.invokevirtual 252, 3) := by decide +kernel
theorem dX12_word_115 : decode cX12_word 115 = .ok (.ireturn, 1) := by decide +kernel
theorem dX12_word_116 : decode cX12_word 116 = .ok (.bipush (-2), 2) := by decide +kernel
theorem dX12_word_118 : decode cX12_word 118 = .ok (.ireturn, 1) := by decide +kernel
theorem dX12_letter_0 : decode cX12_letter 0 = .ok (.iload_n 1, 1) := by decide +kernel
theorem dX12_letter_1 : decode cX12_letter 1 = .ok (.invokestatic 255, 3) := by decide +kernel
theorem dX12_letter_4 : decode cX12_letter 4 = .ok (.ifCond .eq 15, 3) := by decide +kernel
theorem dX12_letter_7 : decode cX12_letter 7 = .ok (.iload_n 2, 1) := by decide +kernel
theorem dX12_letter_8 : decode cX12_letter 8 = .ok (.iconst 2, 1) := by decide +kernel
theorem dX12_letter_9 : decode cX12_letter 9 = .ok (.if_icmp .ne 12, 3) := by decide +kernel
theorem dX12_letter_12 : decode cX12_letter 12 = .ok (.iload_n 1, 1) := by decide +kernel
theorem dX12_letter_13 : decode cX12_letter 13 = .ok (.invokestatic 145, 3) := by decide +kernel
theorem dX12_letter_16 : decode cX12_letter 16 = .ok (.ifCond .ne 5, 3) := by decide +kernel
theorem dX12_letter_19 : decode cX12_letter 19 = .ok (.iconst (-1), 1) := by decide +kernel
theorem dX12_letter_20 : decode cX12_letter 20 = .ok (.ireturn, 1) := by decide +kernel
theorem dX12_letter_21 : decode cX12_letter 21 = .ok (.iload_n 2, 1) := by decide +kernel
theorem dX12_letter_22 : decode cX12_letter 22 = .ok (.tableswitch 49 0 2 #[26, 33, 39], 26) := by decide +kernel
theorem dX12_letter_48 : decode cX12_letter 48 = .ok (.aload_n 0, 1) := by decide +kernel
theorem dX12_letter_49 : decode cX12_letter 49 = .ok (.getfield 25, 3) := by decide +kernel
theorem dX12_letter_52 : decode cX12_letter 52 = .ok (.iload_n 1, 1) := by decide +kernel
theorem dX12_letter_53 : decode cX12_letter 53 = .ok (.iaload, 1) := by decide +kernel
theorem dX12_letter_54 : decode cX12_letter 54 = .ok (.ireturn, 1) := by decide +kernel
theorem dX12_letter_55 : decode cX12_letter 55 = .ok (.aload_n 0, 1) := by decide +kernel
theorem dX12_letter_56 : decode cX12_letter 56 = .ok (.iload_n 1, 1) := by decide +kernel
theorem dX12_letter_57 : decode cX12_letter 57 = .ok (.invokevirtual 240, 3) := by decide +kernel
theorem dX12_letter_60 : decode cX12_letter 60 = .ok (.ireturn, 1) := by decide +kernel
theorem dX12_letter_61 : decode cX12_letter 61 = .ok (.aload_n 0, 1) := by decide +kernel
theorem dX12_letter_62 : decode cX12_letter 62 = .ok (.getfield 25, 3) := by decide +kernel
theorem dX12_letter_65 : decode cX12_letter 65 = .ok (.bipush 21, 2) := by decide +kernel
theorem dX12_letter_67 : decode cX12_letter 67 = .ok (.iload_n 1, 1) := by decide +kernel
theorem dX12_letter_68 : decode cX12_letter 68 = .ok (.iadd, 1) := by decide +kernel
theorem dX12_letter_69 : decode cX12_letter 69 = .ok (.iaload, 1) := by decide +kernel
theorem dX12_letter_70 : decode cX12_letter 70 = .ok (.ireturn, 1) := by decide +kernel
theorem dX12_letter_71 : decode cX12_letter 71 = .ok (.bipush (-2), 2) := by decide +kernel
theorem dX12_letter_73 : decode cX12_letter 73 = .ok (.ireturn, 1) := by decide +kernel
theorem dX12_note_0 : decode cX12_note 0 = .ok (.iconst 0, 1) := by decide +kernel
theorem dX12_note_1 : decode cX12_note 1 = .ok (.istore_n 1, 1) := by decide +kernel
theorem dX12_note_2 : decode cX12_note 2 = .ok (.iload_n 1, 1) := by decide +kernel
theorem dX12_note_3 : decode cX12_note 3 = .ok (.bipush 25, 2) := by decide +kernel
theorem dX12_note_5 : decode cX12_note 5 = .ok (.if_icmp .ge 29, 3) := by decide +kernel
theorem dX12_note_8 : decode cX12_note 8 = .ok (.aload_n 0, 1) := by decide +kernel
theorem dX12_note_9 : decode cX12_note 9 = .ok (.getfield 31, 3) := by decide +kernel
theorem dX12_note_12 : decode cX12_note 12 = .ok (.bipush 25, 2) := by decide +kernel
theorem dX12_note_14 : decode cX12_note 14 = .ok (.aload_n 0, 1) := by decide +kernel
theorem dX12_note_15 : decode cX12_note 15 = .ok (.getfield 258, 3) := by decide +kernel
theorem dX12_note_18 : decode cX12_note 18 = .ok (.imul, 1) := by decide +kernel
theorem dX12_note_19 : decode cX12_note 19 = .ok (.iload_n 1, 1) := by decide +kernel
theorem dX12_note_20 : decode cX12_note 20 = .ok (.iadd, 1) := by decide +kernel
theorem dX12_note_21 : decode cX12_note 21 = .ok (.aload_n 0, 1) := by decide +kernel
theorem dX12_note_22 : decode cX12_note 22 = .ok (.getfield 25, 3) := by decide +kernel
theorem dX12_note_25 : decode cX12_note 25 = .ok (.iload_n 1, 1) := by decide +kernel
theorem dX12_note_26 : decode cX12_note 26 = .ok (.iaload, 1) := by decide +kernel
theorem dX12_note_27 : decode cX12_note 27 = .ok (.iastore, 1) := by decide +kernel
theorem dX12_note_28 : decode cX12_note 28 = .ok (.iinc 1 1, 3) := by decide +kernel
theorem dX12_note_31 : decode cX12_note 31 = .ok (.goto (-29), 3) := by decide +kernel
theorem dX12_note_34 : decode cX12_note 34 = .ok (.aload_n 0, 1) := by decide +kernel
theorem dX12_note_35 : decode cX12_note 35 = .ok (.aload_n 0, 1) := by decide +kernel
theorem dX12_note_36 : decode cX12_note 36 = .ok (.getfield 258, 3) := by decide +kernel
theorem dX12_note_39 : decode cX12_note 39 = .ok (.iconst 1, 1) := by decide +kernel
theorem dX12_note_40 : decode cX12_note 40 = .ok (.iadd, 1) := by decide +kernel
theorem dX12_note_41 : decode cX12_note 41 = .ok (.bipush 14, 2) := by decide +kernel
theorem dX12_note_43 : decode cX12_note 43 = .ok (.irem, 1) := by decide +kernel
theorem dX12_note_44 : decode cX12_note 44 = .ok (.putfield 258, 3) := by decide +kernel
theorem dX12_note_47 : decode cX12_note 47 = .ok (.aload_n 0, 1) := by decide +kernel
theorem dX12_note_48 : decode cX12_note 48 = .ok (.aload_n 0, 1) := by decide +kernel
theorem dX12_note_49 : decode cX12_note 49 = .ok (.getfield 182, 3) := by decide +kernel
theorem dX12_note_52 : decode cX12_note 52 = .ok (.bipush 14, 2) := by decide +kernel
theorem dX12_note_54 : decode cX12_note 54 = .ok (.if_icmp .ge 12, 3) := by decide +kernel
theorem dX12_note_57 : decode cX12_note 57 = .ok (.aload_n 0, 1) := by decide +kernel
theorem dX12_note_58 : decode cX12_note 58 = .ok (.getfield 182, 3) := by decide +kernel
theorem dX12_note_61 : decode cX12_note 61 = .ok (.iconst 1, 1) := by decide +kernel
theorem dX12_note_62 : decode cX12_note 62 = .ok (.iadd, 1) := by decide +kernel
theorem dX12_note_63 : decode cX12_note 63 = .ok (.goto 5, 3) := by decide +kernel
theorem dX12_note_66 : decode cX12_note 66 = .ok (.bipush 14, 2) := by decide +kernel
theorem dX12_note_68 : decode cX12_note 68 = .ok (.putfield 182, 3) := by decide +kernel
theorem dX12_note_71 : decode cX12_note 71 = .ok (.return_, 1) := by decide +kernel
theorem dX12_put_0 : decode cX12_put 0 = .ok (.iload_n 1, 1) := by decide +kernel
theorem dX12_put_1 : decode cX12_put 1 = .ok (.invokestatic 255, 3) := by decide +kernel
theorem dX12_put_4 : decode cX12_put 4 = .ok (.ifCond .ne 5, 3) := by decide +kernel
theorem dX12_put_7 : decode cX12_put 7 = .ok (.iconst (-1), 1) := by decide +kernel
theorem dX12_put_8 : decode cX12_put 8 = .ok (.ireturn, 1) := by decide +kernel
theorem dX12_put_9 : decode cX12_put 9 = .ok (.aload_n 0, 1) := by decide +kernel
theorem dX12_put_10 : decode cX12_put 10 = .ok (.getfield 25, 3) := by decide +kernel
theorem dX12_put_13 : decode cX12_put 13 = .ok (.invokestatic 129, 3) := by decide +kernel
theorem dX12_put_16 : decode cX12_put 16 = .ok (.bipush 12, 2) := by decide +kernel
theorem dX12_put_18 : decode cX12_put 18 = .ok (.if_icmp .ne 6, 3) := by decide +kernel
theorem dX12_put_21 : decode cX12_put 21 = .ok (.bipush (-4), 2) := by decide +kernel
theorem dX12_put_23 : decode cX12_put 23 = .ok (.ireturn, 1) := by decide +kernel
theorem dX12_put_24 : decode cX12_put 24 = .ok (.aload_n 0, 1) := by decide +kernel
theorem dX12_put_25 : decode cX12_put 25 = .ok (.invokevirtual 261, 3) := by decide +kernel
theorem dX12_put_28 : decode cX12_put 28 = .ok (.aload_n 0, 1) := by decide +kernel
theorem dX12_put_29 : decode cX12_put 29 = .ok (.getfield 25, 3) := by decide +kernel
theorem dX12_put_32 : decode cX12_put 32 = .ok (.iload_n 1, 1) := by decide +kernel
theorem dX12_put_33 : decode cX12_put 33 = .ok (.dup2, 1) := by decide +kernel
theorem dX12_put_34 : decode cX12_put 34 = .ok (.iaload, 1) := by decide +kernel
theorem dX12_put_35 : decode cX12_put 35 = .ok (.iconst 1, 1) := by decide +kernel
theorem dX12_put_36 : decode cX12_put 36 = .ok (.iadd, 1) := by decide +kernel
theorem dX12_put_37 : decode cX12_put 37 = .ok (.iastore, 1) := by decide +kernel
theorem dX12_put_38 : decode cX12_put 38 = .ok (.aload_n 0, 1) := by decide +kernel
theorem dX12_put_39 : decode cX12_put 39 = .ok (.getfield 25, 3) := by decide +kernel
theorem dX12_put_42 : decode cX12_put 42 = .ok (.invokestatic 129, 3) := by decide +kernel
theorem dX12_put_45 : decode cX12_put 45 = .ok (.ireturn, 1) := by decide +kernel
theorem dX12_take_0 : decode cX12_take 0 = .ok (.iload_n 1, 1) := by decide +kernel
theorem dX12_take_1 : decode cX12_take 1 = .ok (.invokestatic 255, 3) := by decide +kernel
theorem dX12_take_4 : decode cX12_take 4 = .ok (.ifCond .ne 5, 3) := by decide +kernel
theorem dX12_take_7 : decode cX12_take 7 = .ok (.iconst (-1), 1) := by decide +kernel
theorem dX12_take_8 : decode cX12_take 8 = .ok (.ireturn, 1) := by decide +kernel
theorem dX12_take_9 : decode cX12_take 9 = .ok (.aload_n 0, 1) := by decide +kernel
theorem dX12_take_10 : decode cX12_take 10 = .ok (.getfield 25, 3) := by decide +kernel
theorem dX12_take_13 : decode cX12_take 13 = .ok (.iload_n 1, 1) := by decide +kernel
theorem dX12_take_14 : decode cX12_take 14 = .ok (.iaload, 1) := by decide +kernel
theorem dX12_take_15 : decode cX12_take 15 = .ok (.ifCond .ne 6, 3) := by decide +kernel
theorem dX12_take_18 : decode cX12_take 18 = .ok (.bipush (-3), 2) := by decide +kernel
theorem dX12_take_20 : decode cX12_take 20 = .ok (.ireturn, 1) := by decide +kernel
theorem dX12_take_21 : decode cX12_take 21 = .ok (.aload_n 0, 1) := by decide +kernel
theorem dX12_take_22 : decode cX12_take 22 = .ok (.invokevirtual 261, 3) := by decide +kernel
theorem dX12_take_25 : decode cX12_take 25 = .ok (.aload_n 0, 1) := by decide +kernel
theorem dX12_take_26 : decode cX12_take 26 = .ok (.getfield 25, 3) := by decide +kernel
theorem dX12_take_29 : decode cX12_take 29 = .ok (.iload_n 1, 1) := by decide +kernel
theorem dX12_take_30 : decode cX12_take 30 = .ok (.dup2, 1) := by decide +kernel
theorem dX12_take_31 : decode cX12_take 31 = .ok (.iaload, 1) := by decide +kernel
theorem dX12_take_32 : decode cX12_take 32 = .ok (.iconst 1, 1) := by decide +kernel
theorem dX12_take_33 : decode cX12_take 33 = .ok (.isub, 1) := by decide +kernel
theorem dX12_take_34 : decode cX12_take 34 = .ok (.iastore, 1) := by decide +kernel
theorem dX12_take_35 : decode cX12_take 35 = .ok (.aload_n 0, 1) := by decide +kernel
theorem dX12_take_36 : decode cX12_take 36 = .ok (.getfield 25, 3) := by decide +kernel
theorem dX12_take_39 : decode cX12_take 39 = .ok (.invokestatic 129, 3) := by decide +kernel
theorem dX12_take_42 : decode cX12_take 42 = .ok (.ireturn, 1) := by decide +kernel
theorem dX12_bar_0 : decode cX12_bar 0 = .ok (.aload_n 0, 1) := by decide +kernel
theorem dX12_bar_1 : decode cX12_bar 1 = .ok (.iload_n 1, 1) := by decide +kernel
theorem dX12_bar_2 : decode cX12_bar 2 = .ok (.invokevirtual 243, 3) := by decide +kernel
theorem dX12_bar_5 : decode cX12_bar 5 = .ok (.ifCond .ne 5, 3) := by decide +kernel
theorem dX12_bar_8 : decode cX12_bar 8 = .ok (.iconst (-1), 1) := by decide +kernel
theorem dX12_bar_9 : decode cX12_bar 9 = .ok (.ireturn, 1) := by decide +kernel
theorem dX12_bar_10 : decode cX12_bar 10 = .ok (.aload_n 0, 1) := by decide +kernel
theorem dX12_bar_11 : decode cX12_bar 11 = .ok (.invokevirtual 261, 3) := by decide +kernel
theorem dX12_bar_14 : decode cX12_bar 14 = .ok (.aload_n 0, 1) := by decide +kernel
theorem dX12_bar_15 : decode cX12_bar 15 = .ok (.getfield 25, 3) := by decide +kernel
theorem dX12_bar_18 : decode cX12_bar 18 = .ok (.bipush 8, 2) := by decide +kernel
theorem dX12_bar_20 : decode cX12_bar 20 = .ok (.dup2, 1) := by decide +kernel
theorem dX12_bar_21 : decode cX12_bar 21 = .ok (.iaload, 1) := by decide +kernel
theorem dX12_bar_22 : decode cX12_bar 22 = .ok (.iconst 1, 1) := by decide +kernel
theorem dX12_bar_23 : decode cX12_bar 23 = .ok (.iload_n 1, 1) := by decide +kernel
theorem dX12_bar_24 : decode cX12_bar 24 = .ok (.ishl, 1) := by decide +kernel
theorem dX12_bar_25 : decode cX12_bar 25 = .ok (.ixor, 1) := by decide +kernel
theorem dX12_bar_26 : decode cX12_bar 26 = .ok (.iastore, 1) := by decide +kernel
theorem dX12_bar_27 : decode cX12_bar 27 = .ok (.aload_n 0, 1) := by decide +kernel
theorem dX12_bar_28 : decode cX12_bar 28 = .ok (.getfield 25, 3) := by decide +kernel
theorem dX12_bar_31 : decode cX12_bar 31 = .ok (.bipush 8, 2) := by decide +kernel
theorem dX12_bar_33 : decode cX12_bar 33 = .ok (.iaload, 1) := by decide +kernel
theorem dX12_bar_34 : decode cX12_bar 34 = .ok (.iload_n 1, 1) := by decide +kernel
theorem dX12_bar_35 : decode cX12_bar 35 = .ok (.ishr, 1) := by decide +kernel
theorem dX12_bar_36 : decode cX12_bar 36 = .ok (.iconst 1, 1) := by decide +kernel
theorem dX12_bar_37 : decode cX12_bar 37 = .ok (.iand, 1) := by decide +kernel
theorem dX12_bar_38 : decode cX12_bar 38 = .ok (.ireturn, 1) := by decide +kernel
theorem dX12_rank_0 : decode cX12_rank 0 = .ok (.aload_n 0, 1) := by decide +kernel
theorem dX12_rank_1 : decode cX12_rank 1 = .ok (.iload_n 1, 1) := by decide +kernel
theorem dX12_rank_2 : decode cX12_rank 2 = .ok (.invokevirtual 243, 3) := by decide +kernel
theorem dX12_rank_5 : decode cX12_rank 5 = .ok (.ifCond .ne 5, 3) := by decide +kernel
theorem dX12_rank_8 : decode cX12_rank 8 = .ok (.iconst (-1), 1) := by decide +kernel
theorem dX12_rank_9 : decode cX12_rank 9 = .ok (.ireturn, 1) := by decide +kernel
theorem dX12_rank_10 : decode cX12_rank 10 = .ok (.iload_n 2, 1) := by decide +kernel
theorem dX12_rank_11 : decode cX12_rank 11 = .ok (.i2l, 1) := by decide +kernel
theorem dX12_rank_12 : decode cX12_rank 12 = .ok (.lconst 0, 1) := by decide +kernel
theorem dX12_rank_13 : decode cX12_rank 13 = .ok (.ldc2_w 264, 3) := by decide +kernel
theorem dX12_rank_16 : decode cX12_rank 16 = .ok (.invokestatic 107, 3) := by decide +kernel
theorem dX12_rank_19 : decode cX12_rank 19 = .ok (.ifCond .ne 6, 3) := by decide +kernel
theorem dX12_rank_22 : decode cX12_rank 22 = .ok (.bipush (-2), 2) := by decide +kernel
theorem dX12_rank_24 : decode cX12_rank 24 = .ok (.ireturn, 1) := by decide +kernel
theorem dX12_rank_25 : decode cX12_rank 25 = .ok (.aload_n 0, 1) := by decide +kernel
theorem dX12_rank_26 : decode cX12_rank 26 = .ok (.invokevirtual 261, 3) := by decide +kernel
theorem dX12_rank_29 : decode cX12_rank 29 = .ok (.aload_n 0, 1) := by decide +kernel
theorem dX12_rank_30 : decode cX12_rank 30 = .ok (.getfield 25, 3) := by decide +kernel
theorem dX12_rank_33 : decode cX12_rank 33 = .ok (.bipush 9, 2) := by decide +kernel
theorem dX12_rank_35 : decode cX12_rank 35 = .ok (.iload_n 1, 1) := by decide +kernel
theorem dX12_rank_36 : decode cX12_rank 36 = .ok (.iadd, 1) := by decide +kernel
theorem dX12_rank_37 : decode cX12_rank 37 = .ok (.iaload, 1) := by decide +kernel
theorem dX12_rank_38 : decode cX12_rank 38 = .ok (.istore_n 3, 1) := by decide +kernel
theorem dX12_rank_39 : decode cX12_rank 39 = .ok (.aload_n 0, 1) := by decide +kernel
theorem dX12_rank_40 : decode cX12_rank 40 = .ok (.getfield 25, 3) := by decide +kernel
theorem dX12_rank_43 : decode cX12_rank 43 = .ok (.bipush 9, 2) := by decide +kernel
theorem dX12_rank_45 : decode cX12_rank 45 = .ok (.iload_n 1, 1) := by decide +kernel
theorem dX12_rank_46 : decode cX12_rank 46 = .ok (.iadd, 1) := by decide +kernel
theorem dX12_rank_47 : decode cX12_rank 47 = .ok (.iload_n 2, 1) := by decide +kernel
theorem dX12_rank_48 : decode cX12_rank 48 = .ok (.iastore, 1) := by decide +kernel
theorem dX12_rank_49 : decode cX12_rank 49 = .ok (.iload_n 3, 1) := by decide +kernel
theorem dX12_rank_50 : decode cX12_rank 50 = .ok (.ireturn, 1) := by decide +kernel
theorem dX12_allow_0 : decode cX12_allow 0 = .ok (.iload_n 2, 1) := by decide +kernel
theorem dX12_allow_1 : decode cX12_allow 1 = .ok (.invokestatic 145, 3) := by decide +kernel
theorem dX12_allow_4 : decode cX12_allow 4 = .ok (.ifCond .eq 10, 3) := by decide +kernel
theorem dX12_allow_7 : decode cX12_allow 7 = .ok (.iload_n 3, 1) := by decide +kernel
theorem dX12_allow_8 : decode cX12_allow 8 = .ok (.invokestatic 145, 3) := by decide +kernel
theorem dX12_allow_11 : decode cX12_allow 11 = .ok (.ifCond .ne 5, 3) := by decide +kernel
theorem dX12_allow_14 : decode cX12_allow 14 = .ok (.iconst (-1), 1) := by decide +kernel
theorem dX12_allow_15 : decode cX12_allow 15 = .ok (.ireturn, 1) := by decide +kernel
theorem dX12_allow_16 : decode cX12_allow 16 = .ok (.iload_n 1, 1) := by decide +kernel
theorem dX12_allow_17 : decode cX12_allow 17 = .ok (.i2l, 1) := by decide +kernel
theorem dX12_allow_18 : decode cX12_allow 18 = .ok (.lconst 0, 1) := by decide +kernel
theorem dX12_allow_19 : decode cX12_allow 19 = .ok (.ldc2_w 266, 3) := by decide +kernel
theorem dX12_allow_22 : decode cX12_allow 22 = .ok (.invokestatic 107, 3) := by decide +kernel
theorem dX12_allow_25 : decode cX12_allow 25 = .ok (.ifCond .ne 6, 3) := by decide +kernel
theorem dX12_allow_28 : decode cX12_allow 28 = .ok (.bipush (-2), 2) := by decide +kernel
theorem dX12_allow_30 : decode cX12_allow 30 = .ok (.ireturn, 1) := by decide +kernel
theorem dX12_allow_31 : decode cX12_allow 31 = .ok (.aload_n 0, 1) := by decide +kernel
theorem dX12_allow_32 : decode cX12_allow 32 = .ok (.invokevirtual 261, 3) := by decide +kernel
theorem dX12_allow_35 : decode cX12_allow 35 = .ok (.iload_n 1, 1) := by decide +kernel
theorem dX12_allow_36 : decode cX12_allow 36 = .ok (.ifCond .ne 8, 3) := by decide +kernel
theorem dX12_allow_39 : decode cX12_allow 39 = .ok (.bipush 19, 2) := by decide +kernel
theorem dX12_allow_41 : decode cX12_allow 41 = .ok (.goto 17, 3) := by decide +kernel
theorem dX12_allow_44 : decode cX12_allow 44 = .ok (.iload_n 1, 1) := by decide +kernel
theorem dX12_allow_45 : decode cX12_allow 45 = .ok (.iconst 1, 1) := by decide +kernel
theorem dX12_allow_46 : decode cX12_allow 46 = .ok (.if_icmp .ne 8, 3) := by decide +kernel
theorem dX12_allow_49 : decode cX12_allow 49 = .ok (.bipush 20, 2) := by decide +kernel
theorem dX12_allow_51 : decode cX12_allow 51 = .ok (.goto 7, 3) := by decide +kernel
theorem dX12_allow_54 : decode cX12_allow 54 = .ok (.bipush 21, 2) := by decide +kernel
theorem dX12_allow_56 : decode cX12_allow 56 = .ok (.iload_n 2, 1) := by decide +kernel
theorem dX12_allow_57 : decode cX12_allow 57 = .ok (.iadd, 1) := by decide +kernel
theorem dX12_allow_58 : decode cX12_allow 58 = .ok (.istore 4, 2) := by decide +kernel
theorem dX12_allow_60 : decode cX12_allow 60 = .ok (.iload_n 1, 1) := by decide +kernel
theorem dX12_allow_61 : decode cX12_allow 61 = .ok (.iconst 2, 1) := by decide +kernel
theorem dX12_allow_62 : decode cX12_allow 62 = .ok (.if_icmp .ne 7, 3) := by decide +kernel
theorem dX12_allow_65 : decode cX12_allow 65 = .ok (.iload_n 3, 1) := by decide +kernel
theorem dX12_allow_66 : decode cX12_allow 66 = .ok (.goto 4, 3) := by decide +kernel
theorem dX12_allow_69 : decode cX12_allow 69 = .ok (.iload_n 2, 1) := by decide +kernel
theorem dX12_allow_70 : decode cX12_allow 70 = .ok (.istore 5, 2) := by decide +kernel
theorem dX12_allow_72 : decode cX12_allow 72 = .ok (.aload_n 0, 1) := by decide +kernel
theorem dX12_allow_73 : decode cX12_allow 73 = .ok (.getfield 25, 3) := by decide +kernel
theorem dX12_allow_76 : decode cX12_allow 76 = .ok (.iload 4, 2) := by decide +kernel
theorem dX12_allow_78 : decode cX12_allow 78 = .ok (.dup2, 1) := by decide +kernel
theorem dX12_allow_79 : decode cX12_allow 79 = .ok (.iaload, 1) := by decide +kernel
theorem dX12_allow_80 : decode cX12_allow 80 = .ok (.iconst 1, 1) := by decide +kernel
theorem dX12_allow_81 : decode cX12_allow 81 = .ok (.iload 5, 2) := by decide +kernel
theorem dX12_allow_83 : decode cX12_allow 83 = .ok (.ishl, 1) := by decide +kernel
theorem dX12_allow_84 : decode cX12_allow 84 = .ok (.ixor, 1) := by decide +kernel
theorem dX12_allow_85 : decode cX12_allow 85 = .ok (.iastore, 1) := by decide +kernel
theorem dX12_allow_86 : decode cX12_allow 86 = .ok (.aload_n 0, 1) := by decide +kernel
theorem dX12_allow_87 : decode cX12_allow 87 = .ok (.getfield 25, 3) := by decide +kernel
theorem dX12_allow_90 : decode cX12_allow 90 = .ok (.iload 4, 2) := by decide +kernel
theorem dX12_allow_92 : decode cX12_allow 92 = .ok (.iaload, 1) := by decide +kernel
theorem dX12_allow_93 : decode cX12_allow 93 = .ok (.iload 5, 2) := by decide +kernel
theorem dX12_allow_95 : decode cX12_allow 95 = .ok (.ishr, 1) := by decide +kernel
theorem dX12_allow_96 : decode cX12_allow 96 = .ok (.iconst 1, 1) := by decide +kernel
theorem dX12_allow_97 : decode cX12_allow 97 = .ok (.iand, 1) := by decide +kernel
theorem dX12_allow_98 : decode cX12_allow 98 = .ok (.ireturn, 1) := by decide +kernel
theorem dX12_undo_0 : decode cX12_undo 0 = .ok (.aload_n 0, 1) := by decide +kernel
theorem dX12_undo_1 : decode cX12_undo 1 = .ok (.getfield 182, 3) := by decide +kernel
theorem dX12_undo_4 : decode cX12_undo 4 = .ok (.ifCond .ne 6, 3) := by decide +kernel
theorem dX12_undo_7 : decode cX12_undo 7 = .ok (.bipush (-3), 2) := by decide +kernel
theorem dX12_undo_9 : decode cX12_undo 9 = .ok (.ireturn, 1) := by decide +kernel
theorem dX12_undo_10 : decode cX12_undo 10 = .ok (.aload_n 0, 1) := by decide +kernel
theorem dX12_undo_11 : decode cX12_undo 11 = .ok (.dup, 1) := by decide +kernel
theorem dX12_undo_12 : decode cX12_undo 12 = .ok (.getfield 182, 3) := by decide +kernel
theorem dX12_undo_15 : decode cX12_undo 15 = .ok (.iconst 1, 1) := by decide +kernel
theorem dX12_undo_16 : decode cX12_undo 16 = .ok (.isub, 1) := by decide +kernel
theorem dX12_undo_17 : decode cX12_undo 17 = .ok (.putfield 182, 3) := by decide +kernel
theorem dX12_undo_20 : decode cX12_undo 20 = .ok (.aload_n 0, 1) := by decide +kernel
theorem dX12_undo_21 : decode cX12_undo 21 = .ok (.aload_n 0, 1) := by decide +kernel
theorem dX12_undo_22 : decode cX12_undo 22 = .ok (.getfield 258, 3) := by decide +kernel
theorem dX12_undo_25 : decode cX12_undo 25 = .ok (.bipush 14, 2) := by decide +kernel
theorem dX12_undo_27 : decode cX12_undo 27 = .ok (.iadd, 1) := by decide +kernel
theorem dX12_undo_28 : decode cX12_undo 28 = .ok (.iconst 1, 1) := by decide +kernel
theorem dX12_undo_29 : decode cX12_undo 29 = .ok (.isub, 1) := by decide +kernel
theorem dX12_undo_30 : decode cX12_undo 30 = .ok (.bipush 14, 2) := by decide +kernel
theorem dX12_undo_32 : decode cX12_undo 32 = .ok (.irem, 1) := by decide +kernel
theorem dX12_undo_33 : decode cX12_undo 33 = .ok (.putfield 258, 3) := by decide +kernel
theorem dX12_undo_36 : decode cX12_undo 36 = .ok (.iconst 0, 1) := by decide +kernel
theorem dX12_undo_37 : decode cX12_undo 37 = .ok (.istore_n 1, 1) := by decide +kernel
theorem dX12_undo_38 : decode cX12_undo 38 = .ok (.iload_n 1, 1) := by decide +kernel
theorem dX12_undo_39 : decode cX12_undo 39 = .ok (.bipush 25, 2) := by decide +kernel
theorem dX12_undo_41 : decode cX12_undo 41 = .ok (.if_icmp .ge 29, 3) := by decide +kernel
theorem dX12_undo_44 : decode cX12_undo 44 = .ok (.aload_n 0, 1) := by decide +kernel
theorem dX12_undo_45 : decode cX12_undo 45 = .ok (.getfield 25, 3) := by decide +kernel
theorem dX12_undo_48 : decode cX12_undo 48 = .ok (.iload_n 1, 1) := by decide +kernel
theorem dX12_undo_49 : decode cX12_undo 49 = .ok (.aload_n 0, 1) := by decide +kernel
theorem dX12_undo_50 : decode cX12_undo 50 = .ok (.getfield 31, 3) := by decide +kernel
theorem dX12_undo_53 : decode cX12_undo 53 = .ok (.bipush 25, 2) := by decide +kernel
theorem dX12_undo_55 : decode cX12_undo 55 = .ok (.aload_n 0, 1) := by decide +kernel
theorem dX12_undo_56 : decode cX12_undo 56 = .ok (.getfield 258, 3) := by decide +kernel
theorem dX12_undo_59 : decode cX12_undo 59 = .ok (.imul, 1) := by decide +kernel
theorem dX12_undo_60 : decode cX12_undo 60 = .ok (.iload_n 1, 1) := by decide +kernel
theorem dX12_undo_61 : decode cX12_undo 61 = .ok (.iadd, 1) := by decide +kernel
theorem dX12_undo_62 : decode cX12_undo 62 = .ok (.iaload, 1) := by decide +kernel
theorem dX12_undo_63 : decode cX12_undo 63 = .ok (.iastore, 1) := by decide +kernel
theorem dX12_undo_64 : decode cX12_undo 64 = .ok (.iinc 1 1, 3) := by decide +kernel
theorem dX12_undo_67 : decode cX12_undo 67 = .ok (.goto (-29), 3) := by decide +kernel
theorem dX12_undo_70 : decode cX12_undo 70 = .ok (.aload_n 0, 1) := by decide +kernel
theorem dX12_undo_71 : decode cX12_undo 71 = .ok (.getfield 182, 3) := by decide +kernel
theorem dX12_undo_74 : decode cX12_undo 74 = .ok (.ireturn, 1) := by decide +kernel
theorem dX12_many_0 : decode cX12_many 0 = .ok (.iload_n 1, 1) := by decide +kernel
theorem dX12_many_1 : decode cX12_many 1 = .ok (.i2l, 1) := by decide +kernel
theorem dX12_many_2 : decode cX12_many 2 = .ok (.lconst 0, 1) := by decide +kernel
theorem dX12_many_3 : decode cX12_many 3 = .ok (.ldc2_w 268, 3) := by decide +kernel
theorem dX12_many_6 : decode cX12_many 6 = .ok (.invokestatic 107, 3) := by decide +kernel
theorem dX12_many_9 : decode cX12_many 9 = .ok (.ifCond .ne 7, 3) := by decide +kernel
theorem dX12_many_12 : decode cX12_many 12 = .ok (.ldc2_w 270, 3) := by decide +kernel
theorem dX12_many_15 : decode cX12_many 15 = .ok (.lreturn, 1) := by decide +kernel
theorem dX12_many_16 : decode cX12_many 16 = .ok (.aload_n 0, 1) := by decide +kernel
theorem dX12_many_17 : decode cX12_many 17 = .ok (.aload_n 0, 1) := by decide +kernel
theorem dX12_many_18 : decode cX12_many 18 = .ok (.getfield 25, 3) := by decide +kernel
theorem dX12_many_21 : decode cX12_many 21 = .ok (.invokevirtual 272, 3) := by decide +kernel
theorem dX12_many_24 : decode cX12_many 24 = .ok (.lstore_n 2, 1) := by decide +kernel
theorem dX12_many_25 : decode cX12_many 25 = .ok (.iload_n 1, 1) := by decide +kernel
theorem dX12_many_26 : decode cX12_many 26 = .ok (.ifCond .ne 7, 3) := by decide +kernel
theorem dX12_many_29 : decode cX12_many 29 = .ok (.lload_n 2, 1) := by decide +kernel
theorem dX12_many_30 : decode cX12_many 30 = .ok (.goto 8, 3) := by decide +kernel
theorem dX12_many_33 : decode cX12_many 33 = .ok (.aload_n 0, 1) := by decide +kernel
theorem dX12_many_34 : decode cX12_many 34 = .ok (.iload_n 1, 1) := by decide +kernel
theorem dX12_many_35 : decode cX12_many 35 = .ok (.invokevirtual 212, 3) := by decide +kernel
theorem dX12_many_38 : decode cX12_many 38 = .ok (.lreturn, 1) := by decide +kernel
theorem dX12_withWord_0 : decode cX12_withWord 0 = .ok (.aload_n 0, 1) := by decide +kernel
theorem dX12_withWord_1 : decode cX12_withWord 1 = .ok (.aload_n 1, 1) := by decide +kernel
theorem dX12_withWord_2 : decode cX12_withWord 2 = .ok (.invokevirtual 272, 3) := by decide +kernel
theorem dX12_withWord_5 : decode cX12_withWord 5 = .ok (.lstore_n 3, 1) := by decide +kernel
theorem dX12_withWord_6 : decode cX12_withWord 6 = .ok (.aload_n 0, 1) := by decide +kernel
theorem dX12_withWord_7 : decode cX12_withWord 7 = .ok (.dup, 1) := by decide +kernel
theorem dX12_withWord_8 : decode cX12_withWord 8 = .ok (.getfield 191, 3) := by decide +kernel
theorem dX12_withWord_11 : decode cX12_withWord 11 = .ok (.iconst 1, 1) := by decide +kernel
theorem dX12_withWord_12 : decode cX12_withWord 12 = .ok (.iload_n 2, 1) := by decide +kernel
theorem dX12_withWord_13 : decode cX12_withWord 13 = .ok (.ishl, 1) := by decide +kernel
theorem dX12_withWord_14 : decode cX12_withWord 14 = .ok (.iconst (-1), 1) := by decide +kernel
theorem dX12_withWord_15 : decode cX12_withWord 15 = .ok (.ixor, 1) := by decide +kernel
theorem dX12_withWord_16 : decode cX12_withWord 16 = .ok (.iand, 1) := by decide +kernel
theorem dX12_withWord_17 : decode cX12_withWord 17 = .ok (.putfield 191, 3) := by decide +kernel
theorem dX12_withWord_20 : decode cX12_withWord 20 = .ok (.aload_n 0, 1) := by decide +kernel
theorem dX12_withWord_21 : decode cX12_withWord 21 = .ok (.invokevirtual 205, 3) := by decide +kernel
theorem dX12_withWord_24 : decode cX12_withWord 24 = .ok (.lload_n 3, 1) := by decide +kernel
theorem dX12_withWord_25 : decode cX12_withWord 25 = .ok (.aload_n 0, 1) := by decide +kernel
theorem dX12_withWord_26 : decode cX12_withWord 26 = .ok (.invokevirtual 208, 3) := by decide +kernel
theorem dX12_withWord_29 : decode cX12_withWord 29 = .ok (.lsub, 1) := by decide +kernel
theorem dX12_withWord_30 : decode cX12_withWord 30 = .ok (.lreturn, 1) := by decide +kernel
theorem dX12_having_0 : decode cX12_having 0 = .ok (.aload_n 0, 1) := by decide +kernel
theorem dX12_having_1 : decode cX12_having 1 = .ok (.iload_n 1, 1) := by decide +kernel
theorem dX12_having_2 : decode cX12_having 2 = .ok (.invokevirtual 243, 3) := by decide +kernel
theorem dX12_having_5 : decode cX12_having 5 = .ok (.ifCond .eq 15, 3) := by decide +kernel
theorem dX12_having_8 : decode cX12_having 8 = .ok (.aload_n 0, 1) := by decide +kernel
theorem dX12_having_9 : decode cX12_having 9 = .ok (.aload_n 0, 1) := by decide +kernel
theorem dX12_having_10 : decode cX12_having 10 = .ok (.getfield 25, 3) := by decide +kernel
theorem dX12_having_13 : decode cX12_having 13 = .ok (.iload_n 1, 1) := by decide +kernel
theorem dX12_having_14 : decode cX12_having 14 = .ok (.invokevirtual 216, 3) := by decide +kernel
theorem dX12_having_17 : decode cX12_having 17 = .ok (.goto 6, 3) := by decide +kernel
theorem dX12_having_20 : decode cX12_having 20 = .ok (.ldc2_w 276, 3) := by decide +kernel
theorem dX12_having_23 : decode cX12_having 23 = .ok (.lreturn, 1) := by decide +kernel
theorem dX12_layBest_0 : decode cX12_layBest 0 = .ok (.iconst 0, 1) := by decide +kernel
theorem dX12_layBest_1 : decode cX12_layBest 1 = .ok (.istore_n 1, 1) := by decide +kernel
theorem dX12_layBest_2 : decode cX12_layBest 2 = .ok (.iload_n 1, 1) := by decide +kernel
theorem dX12_layBest_3 : decode cX12_layBest 3 = .ok (.iconst 5, 1) := by decide +kernel
theorem dX12_layBest_4 : decode cX12_layBest 4 = .ok (.aload_n 0, 1) := by decide +kernel
theorem dX12_layBest_5 : decode cX12_layBest 5 = .ok (.getfield 188, 3) := by decide +kernel
theorem dX12_layBest_8 : decode cX12_layBest 8 = .ok (.imul, 1) := by decide +kernel
theorem dX12_layBest_9 : decode cX12_layBest 9 = .ok (.iconst 4, 1) := by decide +kernel
theorem dX12_layBest_10 : decode cX12_layBest 10 = .ok (.iadd, 1) := by decide +kernel
theorem dX12_layBest_11 : decode cX12_layBest 11 = .ok (.if_icmp .gt 87, 3) := by decide +kernel
theorem dX12_layBest_14 : decode cX12_layBest 14 = .ok (.aload_n 0, 1) := by decide +kernel
theorem dX12_layBest_15 : decode cX12_layBest 15 = .ok (.getfield 84, 3) := by decide +kernel
theorem dX12_layBest_18 : decode cX12_layBest 18 = .ok (.iload_n 1, 1) := by decide +kernel
theorem dX12_layBest_19 : decode cX12_layBest 19 = .ok (.bipush (-9), 2) := by decide +kernel
theorem dX12_layBest_21 : decode cX12_layBest 21 = .ok (.iastore, 1) := by decide +kernel
theorem dX12_layBest_22 : decode cX12_layBest 22 = .ok (.iconst 0, 1) := by decide +kernel
theorem dX12_layBest_23 : decode cX12_layBest 23 = .ok (.istore_n 2, 1) := by decide +kernel
theorem dX12_layBest_24 : decode cX12_layBest 24 = .ok (.iload_n 2, 1) := by decide +kernel
theorem dX12_layBest_25 : decode cX12_layBest 25 = .ok (.aload_n 0, 1) := by decide +kernel
theorem dX12_layBest_26 : decode cX12_layBest 26 = .ok (.getfield 103, 3) := by decide +kernel
theorem dX12_layBest_29 : decode cX12_layBest 29 = .ok (.if_icmp .ge 63, 3) := by decide +kernel
theorem dX12_layBest_32 : decode cX12_layBest 32 = .ok (.aload_n 0, 1) := by decide +kernel
theorem dX12_layBest_33 : decode cX12_layBest 33 = .ok (.iload_n 1, 1) := by decide +kernel
theorem dX12_layBest_34 : decode cX12_layBest 34 = .ok (.iconst 5, 1) := by decide +kernel
theorem dX12_layBest_35 : decode cX12_layBest 35 = .ok (.idiv, 1) := by decide +kernel
theorem dX12_layBest_36 : decode cX12_layBest 36 = .ok (.iload_n 1, 1) := by decide +kernel
theorem dX12_layBest_37 : decode cX12_layBest 37 = .ok (.iconst 5, 1) := by decide +kernel
theorem dX12_layBest_38 : decode cX12_layBest 38 = .ok (.irem, 1) := by decide +kernel
theorem dX12_layBest_39 : decode cX12_layBest 39 = .ok (.iload_n 2, 1) := by decide +kernel
theorem dX12_layBest_40 : decode cX12_layBest 40 = .ok (.invokevirtual 194, 3) := by decide +kernel
theorem dX12_layBest_43 : decode cX12_layBest 43 = .ok (.ifCond .eq 14, 3) := by decide +kernel
theorem dX12_layBest_46 : decode cX12_layBest 46 = .ok (.aload_n 0, 1) := by decide +kernel
theorem dX12_layBest_47 : decode cX12_layBest 47 = .ok (.iload_n 1, 1) := by decide +kernel
theorem dX12_layBest_48 : decode cX12_layBest 48 = .ok (.iconst 5, 1) := by decide +kernel
theorem dX12_layBest_49 : decode cX12_layBest 49 = .ok (.idiv, 1) := by decide +kernel
theorem dX12_layBest_50 : decode cX12_layBest 50 = .ok (.iload_n 2, 1) := by decide +kernel
theorem dX12_layBest_51 : decode cX12_layBest 51 = .ok (.invokevirtual 278, 3) := by decide +kernel
theorem dX12_layBest_54 : decode cX12_layBest 54 = .ok (.goto 5, 3) := by decide +kernel
theorem dX12_layBest_57 : decode cX12_layBest 57 = .ok (.bipush (-9), 2) := by decide +kernel
theorem dX12_layBest_59 : decode cX12_layBest 59 = .ok (.istore_n 3, 1) := by decide +kernel
theorem dX12_layBest_60 : decode cX12_layBest 60 = .ok (.aload_n 0, 1) := by decide +kernel
theorem dX12_layBest_61 : decode cX12_layBest 61 = .ok (.getfield 84, 3) := by decide +kernel
theorem dX12_layBest_64 : decode cX12_layBest 64 = .ok (.iload_n 1, 1) := by decide +kernel
theorem dX12_layBest_65 : decode cX12_layBest 65 = .ok (.iload_n 3, 1) := by decide +kernel
theorem dX12_layBest_66 : decode cX12_layBest 66 = .ok (.aload_n 0, 1) := by decide +kernel
theorem dX12_layBest_67 : decode cX12_layBest 67 = .ok (.getfield 84, 3) := by decide +kernel
theorem dX12_layBest_70 : decode cX12_layBest 70 = .ok (.iload_n 1, 1) := by decide +kernel
theorem dX12_layBest_71 : decode cX12_layBest 71 = .ok (.iaload, 1) := by decide +kernel
theorem dX12_layBest_72 : decode cX12_layBest 72 = .ok (.if_icmp .le 7, 3) := by decide +kernel
theorem dX12_layBest_75 : decode cX12_layBest 75 = .ok (.iload_n 3, 1) := by decide +kernel
theorem dX12_layBest_76 : decode cX12_layBest 76 = .ok (.goto 9, 3) := by decide +kernel
theorem dX12_layBest_79 : decode cX12_layBest 79 = .ok (.aload_n 0, 1) := by decide +kernel
theorem dX12_layBest_80 : decode cX12_layBest 80 = .ok (.getfield 84, 3) := by decide +kernel
theorem dX12_layBest_83 : decode cX12_layBest 83 = .ok (.iload_n 1, 1) := by decide +kernel
theorem dX12_layBest_84 : decode cX12_layBest 84 = .ok (.iaload, 1) := by decide +kernel
theorem dX12_layBest_85 : decode cX12_layBest 85 = .ok (.iastore, 1) := by decide +kernel
theorem dX12_layBest_86 : decode cX12_layBest 86 = .ok (.iinc 2 1, 3) := by decide +kernel
theorem dX12_layBest_89 : decode cX12_layBest 89 = .ok (.goto (-65), 3) := by decide +kernel
theorem dX12_layBest_92 : decode cX12_layBest 92 = .ok (.iinc 1 1, 3) := by decide +kernel
theorem dX12_layBest_95 : decode cX12_layBest 95 = .ok (.goto (-93), 3) := by decide +kernel
theorem dX12_layBest_98 : decode cX12_layBest 98 = .ok (.return_, 1) := by decide +kernel
theorem dX12_bestWith_0 : decode cX12_bestWith 0 = .ok (.iload_n 1, 1) := by decide +kernel
theorem dX12_bestWith_1 : decode cX12_bestWith 1 = .ok (.aload_n 0, 1) := by decide +kernel
theorem dX12_bestWith_2 : decode cX12_bestWith 2 = .ok (.getfield 71, 3) := by decide +kernel
theorem dX12_bestWith_5 : decode cX12_bestWith 5 = .ok (.iload_n 2, 1) := by decide +kernel
theorem dX12_bestWith_6 : decode cX12_bestWith 6 = .ok (.iaload, 1) := by decide +kernel
theorem dX12_bestWith_7 : decode cX12_bestWith 7 = .ok (.isub, 1) := by decide +kernel
theorem dX12_bestWith_8 : decode cX12_bestWith 8 = .ok (.istore_n 3, 1) := by decide +kernel
theorem dX12_bestWith_9 : decode cX12_bestWith 9 = .ok (.iload_n 3, 1) := by decide +kernel
theorem dX12_bestWith_10 : decode cX12_bestWith 10 = .ok (.ifCond .ne 37, 3) := by decide +kernel
theorem dX12_bestWith_13 : decode cX12_bestWith 13 = .ok (.aload_n 0, 1) := by decide +kernel
theorem dX12_bestWith_14 : decode cX12_bestWith 14 = .ok (.getfield 65, 3) := by decide +kernel
theorem dX12_bestWith_17 : decode cX12_bestWith 17 = .ok (.bipush 20, 2) := by decide +kernel
theorem dX12_bestWith_19 : decode cX12_bestWith 19 = .ok (.iaload, 1) := by decide +kernel
theorem dX12_bestWith_20 : decode cX12_bestWith 20 = .ok (.aload_n 0, 1) := by decide +kernel
theorem dX12_bestWith_21 : decode cX12_bestWith 21 = .ok (.getfield 19, 3) := by decide +kernel
theorem dX12_bestWith_24 : decode cX12_bestWith 24 = .ok (.iload_n 2, 1) := by decide +kernel
theorem dX12_bestWith_25 : decode cX12_bestWith 25 = .ok (.iaload, 1) := by decide +kernel
theorem dX12_bestWith_26 : decode cX12_bestWith 26 = .ok (.invokestatic 149, 3) := by decide +kernel
theorem dX12_bestWith_29 : decode cX12_bestWith 29 = .ok (.ifCond .eq 15, 3) := by decide +kernel
theorem dX12_bestWith_32 : decode cX12_bestWith 32 = .ok (.aload_n 0, 1) := by decide +kernel
theorem dX12_bestWith_33 : decode cX12_bestWith 33 = .ok (.getfield 65, 3) := by decide +kernel
theorem dX12_bestWith_36 : decode cX12_bestWith 36 = .ok (.bipush 9, 2) := by decide +kernel
theorem dX12_bestWith_38 : decode cX12_bestWith 38 = .ok (.iload_n 2, 1) := by decide +kernel
theorem dX12_bestWith_39 : decode cX12_bestWith 39 = .ok (.iadd, 1) := by decide +kernel
theorem dX12_bestWith_40 : decode cX12_bestWith 40 = .ok (.iaload, 1) := by decide +kernel
theorem dX12_bestWith_41 : decode cX12_bestWith 41 = .ok (.goto 5, 3) := by decide +kernel
theorem dX12_bestWith_44 : decode cX12_bestWith 44 = .ok (.bipush (-9), 2) := by decide +kernel
theorem dX12_bestWith_46 : decode cX12_bestWith 46 = .ok (.ireturn, 1) := by decide +kernel
theorem dX12_bestWith_47 : decode cX12_bestWith 47 = .ok (.aload_n 0, 1) := by decide +kernel
theorem dX12_bestWith_48 : decode cX12_bestWith 48 = .ok (.getfield 84, 3) := by decide +kernel
theorem dX12_bestWith_51 : decode cX12_bestWith 51 = .ok (.iconst 5, 1) := by decide +kernel
theorem dX12_bestWith_52 : decode cX12_bestWith 52 = .ok (.iload_n 3, 1) := by decide +kernel
theorem dX12_bestWith_53 : decode cX12_bestWith 53 = .ok (.imul, 1) := by decide +kernel
theorem dX12_bestWith_54 : decode cX12_bestWith 54 = .ok (.aload_n 0, 1) := by decide +kernel
theorem dX12_bestWith_55 : decode cX12_bestWith 55 = .ok (.getfield 19, 3) := by decide +kernel
theorem dX12_bestWith_58 : decode cX12_bestWith 58 = .ok (.iload_n 2, 1) := by decide +kernel
theorem dX12_bestWith_59 : decode cX12_bestWith 59 = .ok (.iaload, 1) := by decide +kernel
theorem dX12_bestWith_60 : decode cX12_bestWith 60 = .ok (.iadd, 1) := by decide +kernel
theorem dX12_bestWith_61 : decode cX12_bestWith 61 = .ok (.iaload, 1) := by decide +kernel
theorem dX12_bestWith_62 : decode cX12_bestWith 62 = .ok (.ifCond .ge 8, 3) := by decide +kernel
theorem dX12_bestWith_65 : decode cX12_bestWith 65 = .ok (.bipush (-9), 2) := by decide +kernel
theorem dX12_bestWith_67 : decode cX12_bestWith 67 = .ok (.goto 28, 3) := by decide +kernel
theorem dX12_bestWith_70 : decode cX12_bestWith 70 = .ok (.aload_n 0, 1) := by decide +kernel
theorem dX12_bestWith_71 : decode cX12_bestWith 71 = .ok (.getfield 84, 3) := by decide +kernel
theorem dX12_bestWith_74 : decode cX12_bestWith 74 = .ok (.iconst 5, 1) := by decide +kernel
theorem dX12_bestWith_75 : decode cX12_bestWith 75 = .ok (.iload_n 3, 1) := by decide +kernel
theorem dX12_bestWith_76 : decode cX12_bestWith 76 = .ok (.imul, 1) := by decide +kernel
theorem dX12_bestWith_77 : decode cX12_bestWith 77 = .ok (.aload_n 0, 1) := by decide +kernel
theorem dX12_bestWith_78 : decode cX12_bestWith 78 = .ok (.getfield 19, 3) := by decide +kernel
theorem dX12_bestWith_81 : decode cX12_bestWith 81 = .ok (.iload_n 2, 1) := by decide +kernel
theorem dX12_bestWith_82 : decode cX12_bestWith 82 = .ok (.iaload, 1) := by decide +kernel
theorem dX12_bestWith_83 : decode cX12_bestWith 83 = .ok (.iadd, 1) := by decide +kernel
theorem dX12_bestWith_84 : decode cX12_bestWith 84 = .ok (.iaload, 1) := by decide +kernel
theorem dX12_bestWith_85 : decode cX12_bestWith 85 = .ok (.aload_n 0, 1) := by decide +kernel
theorem dX12_bestWith_86 : decode cX12_bestWith 86 = .ok (.getfield 65, 3) := by decide +kernel
theorem dX12_bestWith_89 : decode cX12_bestWith 89 = .ok (.bipush 9, 2) := by decide +kernel
theorem dX12_bestWith_91 : decode cX12_bestWith 91 = .ok (.iload_n 2, 1) := by decide +kernel
theorem dX12_bestWith_92 : decode cX12_bestWith 92 = .ok (.iadd, 1) := by decide +kernel
theorem dX12_bestWith_93 : decode cX12_bestWith 93 = .ok (.iaload, 1) := by decide +kernel
theorem dX12_bestWith_94 : decode cX12_bestWith 94 = .ok (.iadd, 1) := by decide +kernel
theorem dX12_bestWith_95 : decode cX12_bestWith 95 = .ok (.ireturn, 1) := by decide +kernel
theorem dX12_findBest_0 : decode cX12_findBest 0 = .ok (.aload_n 0, 1) := by decide +kernel
theorem dX12_findBest_1 : decode cX12_findBest 1 = .ok (.invokevirtual 282, 3) := by decide +kernel
theorem dX12_findBest_4 : decode cX12_findBest 4 = .ok (.aload_n 0, 1) := by decide +kernel
theorem dX12_findBest_5 : decode cX12_findBest 5 = .ok (.getfield 188, 3) := by decide +kernel
theorem dX12_findBest_8 : decode cX12_findBest 8 = .ok (.istore_n 1, 1) := by decide +kernel
theorem dX12_findBest_9 : decode cX12_findBest 9 = .ok (.iconst 4, 1) := by decide +kernel
theorem dX12_findBest_10 : decode cX12_findBest 10 = .ok (.istore_n 2, 1) := by decide +kernel
theorem dX12_findBest_11 : decode cX12_findBest 11 = .ok (.iconst 0, 1) := by decide +kernel
theorem dX12_findBest_12 : decode cX12_findBest 12 = .ok (.istore_n 3, 1) := by decide +kernel
theorem dX12_findBest_13 : decode cX12_findBest 13 = .ok (.iload_n 1, 1) := by decide +kernel
theorem dX12_findBest_14 : decode cX12_findBest 14 = .ok (.ifCond .le 88, 3) := by decide +kernel
theorem dX12_findBest_17 : decode cX12_findBest 17 = .ok (.aload_n 0, 1) := by decide +kernel
theorem dX12_findBest_18 : decode cX12_findBest 18 = .ok (.getfield 84, 3) := by decide +kernel
theorem dX12_findBest_21 : decode cX12_findBest 21 = .ok (.iconst 5, 1) := by decide +kernel
theorem dX12_findBest_22 : decode cX12_findBest 22 = .ok (.iload_n 1, 1) := by decide +kernel
theorem dX12_findBest_23 : decode cX12_findBest 23 = .ok (.imul, 1) := by decide +kernel
theorem dX12_findBest_24 : decode cX12_findBest 24 = .ok (.iload_n 2, 1) := by decide +kernel
theorem dX12_findBest_25 : decode cX12_findBest 25 = .ok (.iadd, 1) := by decide +kernel
theorem dX12_findBest_26 : decode cX12_findBest 26 = .ok (.iaload, 1) := by decide +kernel
theorem dX12_findBest_27 : decode cX12_findBest 27 = .ok (.ifCond .lt 75, 3) := by decide +kernel
theorem dX12_findBest_30 : decode cX12_findBest 30 = .ok (.iconst 0, 1) := by decide +kernel
theorem dX12_findBest_31 : decode cX12_findBest 31 = .ok (.istore 4, 2) := by decide +kernel
theorem dX12_findBest_33 : decode cX12_findBest 33 = .ok (.aload_n 0, 1) := by decide +kernel
theorem dX12_findBest_34 : decode cX12_findBest 34 = .ok (.iload_n 1, 1) := by decide +kernel
theorem dX12_findBest_35 : decode cX12_findBest 35 = .ok (.iload_n 2, 1) := by decide +kernel
theorem dX12_findBest_36 : decode cX12_findBest 36 = .ok (.iload 4, 2) := by decide +kernel
theorem dX12_findBest_38 : decode cX12_findBest 38 = .ok (.invokevirtual 194, 3) := by decide +kernel
theorem dX12_findBest_41 : decode cX12_findBest 41 = .ok (.ifCond .eq 23, 3) := by decide +kernel
theorem dX12_findBest_44 : decode cX12_findBest 44 = .ok (.aload_n 0, 1) := by decide +kernel
theorem dX12_findBest_45 : decode cX12_findBest 45 = .ok (.iload_n 1, 1) := by decide +kernel
theorem dX12_findBest_46 : decode cX12_findBest 46 = .ok (.iload 4, 2) := by decide +kernel
theorem dX12_findBest_48 : decode cX12_findBest 48 = .ok (.invokevirtual 278, 3) := by decide +kernel
theorem dX12_findBest_51 : decode cX12_findBest 51 = .ok (.aload_n 0, 1) := by decide +kernel
theorem dX12_findBest_52 : decode cX12_findBest 52 = .ok (.getfield 84, 3) := by decide +kernel
theorem dX12_findBest_55 : decode cX12_findBest 55 = .ok (.iconst 5, 1) := by decide +kernel
theorem dX12_findBest_56 : decode cX12_findBest 56 = .ok (.iload_n 1, 1) := by decide +kernel
theorem dX12_findBest_57 : decode cX12_findBest 57 = .ok (.imul, 1) := by decide +kernel
theorem dX12_findBest_58 : decode cX12_findBest 58 = .ok (.iload_n 2, 1) := by decide +kernel
theorem dX12_findBest_59 : decode cX12_findBest 59 = .ok (.iadd, 1) := by decide +kernel
theorem dX12_findBest_60 : decode cX12_findBest 60 = .ok (.iaload, 1) := by decide +kernel
theorem dX12_findBest_61 : decode cX12_findBest 61 = .ok (.if_icmp .eq 9, 3) := by decide +kernel
theorem dX12_findBest_64 : decode cX12_findBest 64 = .ok (.iinc 4 1, 3) := by decide +kernel
theorem dX12_findBest_67 : decode cX12_findBest 67 = .ok (.goto (-34), 3) := by decide +kernel
theorem dX12_findBest_70 : decode cX12_findBest 70 = .ok (.aload_n 0, 1) := by decide +kernel
theorem dX12_findBest_71 : decode cX12_findBest 71 = .ok (.getfield 90, 3) := by decide +kernel
theorem dX12_findBest_74 : decode cX12_findBest 74 = .ok (.iload_n 3, 1) := by decide +kernel
theorem dX12_findBest_75 : decode cX12_findBest 75 = .ok (.iload 4, 2) := by decide +kernel
theorem dX12_findBest_77 : decode cX12_findBest 77 = .ok (.iastore, 1) := by decide +kernel
theorem dX12_findBest_78 : decode cX12_findBest 78 = .ok (.iinc 3 1, 3) := by decide +kernel
theorem dX12_findBest_81 : decode cX12_findBest 81 = .ok (.iload_n 1, 1) := by decide +kernel
theorem dX12_findBest_82 : decode cX12_findBest 82 = .ok (.aload_n 0, 1) := by decide +kernel
theorem dX12_findBest_83 : decode cX12_findBest 83 = .ok (.getfield 71, 3) := by decide +kernel
theorem dX12_findBest_86 : decode cX12_findBest 86 = .ok (.iload 4, 2) := by decide +kernel
theorem dX12_findBest_88 : decode cX12_findBest 88 = .ok (.iaload, 1) := by decide +kernel
theorem dX12_findBest_89 : decode cX12_findBest 89 = .ok (.isub, 1) := by decide +kernel
theorem dX12_findBest_90 : decode cX12_findBest 90 = .ok (.istore_n 1, 1) := by decide +kernel
theorem dX12_findBest_91 : decode cX12_findBest 91 = .ok (.aload_n 0, 1) := by decide +kernel
theorem dX12_findBest_92 : decode cX12_findBest 92 = .ok (.getfield 19, 3) := by decide +kernel
theorem dX12_findBest_95 : decode cX12_findBest 95 = .ok (.iload 4, 2) := by decide +kernel
theorem dX12_findBest_97 : decode cX12_findBest 97 = .ok (.iaload, 1) := by decide +kernel
theorem dX12_findBest_98 : decode cX12_findBest 98 = .ok (.istore_n 2, 1) := by decide +kernel
theorem dX12_findBest_99 : decode cX12_findBest 99 = .ok (.goto (-86), 3) := by decide +kernel
theorem dX12_findBest_102 : decode cX12_findBest 102 = .ok (.iload_n 3, 1) := by decide +kernel
theorem dX12_findBest_103 : decode cX12_findBest 103 = .ok (.ifCond .ne 8, 3) := by decide +kernel
theorem dX12_findBest_106 : decode cX12_findBest 106 = .ok (.bipush (-9), 2) := by decide +kernel
theorem dX12_findBest_108 : decode cX12_findBest 108 = .ok (.goto 4, 3) := by decide +kernel
theorem dX12_findBest_111 : decode cX12_findBest 111 = .ok (.iload_n 3, 1) := by decide +kernel
theorem dX12_findBest_112 : decode cX12_findBest 112 = .ok (.ireturn, 1) := by decide +kernel
theorem dX12_worthOf_0 : decode cX12_worthOf 0 = .ok (.iconst 0, 1) := by decide +kernel
theorem dX12_worthOf_1 : decode cX12_worthOf 1 = .ok (.istore_n 2, 1) := by decide +kernel
theorem dX12_worthOf_2 : decode cX12_worthOf 2 = .ok (.iconst 0, 1) := by decide +kernel
theorem dX12_worthOf_3 : decode cX12_worthOf 3 = .ok (.istore_n 3, 1) := by decide +kernel
theorem dX12_worthOf_4 : decode cX12_worthOf 4 = .ok (.iload_n 3, 1) := by decide +kernel
theorem dX12_worthOf_5 : decode cX12_worthOf 5 = .ok (.iload_n 1, 1) := by decide +kernel
theorem dX12_worthOf_6 : decode cX12_worthOf 6 = .ok (.if_icmp .ge 26, 3) := by decide +kernel
theorem dX12_worthOf_9 : decode cX12_worthOf 9 = .ok (.iload_n 2, 1) := by decide +kernel
theorem dX12_worthOf_10 : decode cX12_worthOf 10 = .ok (.aload_n 0, 1) := by decide +kernel
theorem dX12_worthOf_11 : decode cX12_worthOf 11 = .ok (.getfield 65, 3) := by decide +kernel
theorem dX12_worthOf_14 : decode cX12_worthOf 14 = .ok (.bipush 9, 2) := by decide +kernel
theorem dX12_worthOf_16 : decode cX12_worthOf 16 = .ok (.aload_n 0, 1) := by decide +kernel
theorem dX12_worthOf_17 : decode cX12_worthOf 17 = .ok (.getfield 90, 3) := by decide +kernel
theorem dX12_worthOf_20 : decode cX12_worthOf 20 = .ok (.iload_n 3, 1) := by decide +kernel
theorem dX12_worthOf_21 : decode cX12_worthOf 21 = .ok (.iaload, 1) := by decide +kernel
theorem dX12_worthOf_22 : decode cX12_worthOf 22 = .ok (.iadd, 1) := by decide +kernel
theorem dX12_worthOf_23 : decode cX12_worthOf 23 = .ok (.iaload, 1) := by decide +kernel
theorem dX12_worthOf_24 : decode cX12_worthOf 24 = .ok (.iadd, 1) := by decide +kernel
theorem dX12_worthOf_25 : decode cX12_worthOf 25 = .ok (.istore_n 2, 1) := by decide +kernel
theorem dX12_worthOf_26 : decode cX12_worthOf 26 = .ok (.iinc 3 1, 3) := by decide +kernel
theorem dX12_worthOf_29 : decode cX12_worthOf 29 = .ok (.goto (-25), 3) := by decide +kernel
theorem dX12_worthOf_32 : decode cX12_worthOf 32 = .ok (.iload_n 2, 1) := by decide +kernel
theorem dX12_worthOf_33 : decode cX12_worthOf 33 = .ok (.ireturn, 1) := by decide +kernel
theorem dX12_best_0 : decode cX12_best 0 = .ok (.iload_n 1, 1) := by decide +kernel
theorem dX12_best_1 : decode cX12_best 1 = .ok (.i2l, 1) := by decide +kernel
theorem dX12_best_2 : decode cX12_best 2 = .ok (.lconst 0, 1) := by decide +kernel
theorem dX12_best_3 : decode cX12_best 3 = .ok (.ldc2_w 285, 3) := by decide +kernel
theorem dX12_best_6 : decode cX12_best 6 = .ok (.invokestatic 107, 3) := by decide +kernel
theorem dX12_best_9 : decode cX12_best 9 = .ok (.ifCond .ne 6, 3) := by decide +kernel
theorem dX12_best_12 : decode cX12_best 12 = .ok (.bipush (-2), 2) := by decide +kernel
theorem dX12_best_14 : decode cX12_best 14 = .ok (.ireturn, 1) := by decide +kernel
theorem dX12_best_15 : decode cX12_best 15 = .ok (.aload_n 0, 1) := by decide +kernel
theorem dX12_best_16 : decode cX12_best 16 = .ok (.aload_n 0, 1) := by decide +kernel
theorem dX12_best_17 : decode cX12_best 17 = .ok (.getfield 25, 3) := by decide +kernel
theorem dX12_best_20 : decode cX12_best 20 = .ok (.invokevirtual 202, 3) := by decide +kernel
theorem dX12_best_23 : decode cX12_best 23 = .ok (.aload_n 0, 1) := by decide +kernel
theorem dX12_best_24 : decode cX12_best 24 = .ok (.invokevirtual 287, 3) := by decide +kernel
theorem dX12_best_27 : decode cX12_best 27 = .ok (.istore_n 2, 1) := by decide +kernel
theorem dX12_best_28 : decode cX12_best 28 = .ok (.iload_n 2, 1) := by decide +kernel
theorem dX12_best_29 : decode cX12_best 29 = .ok (.bipush (-9), 2) := by decide +kernel
theorem dX12_best_31 : decode cX12_best 31 = .ok (.if_icmp .eq 10, 3) := by decide +kernel
theorem dX12_best_34 : decode cX12_best 34 = .ok (.iload_n 1, 1) := by decide +kernel
theorem dX12_best_35 : decode cX12_best 35 = .ok (.iload_n 2, 1) := by decide +kernel
theorem dX12_best_36 : decode cX12_best 36 = .ok (.iconst 2, 1) := by decide +kernel
theorem dX12_best_37 : decode cX12_best 37 = .ok (.iadd, 1) := by decide +kernel
theorem dX12_best_38 : decode cX12_best 38 = .ok (.if_icmp .lt 6, 3) := by decide +kernel
theorem dX12_best_41 : decode cX12_best 41 = .ok (.bipush (-9), 2) := by decide +kernel
theorem dX12_best_43 : decode cX12_best 43 = .ok (.ireturn, 1) := by decide +kernel
theorem dX12_best_44 : decode cX12_best 44 = .ok (.iload_n 1, 1) := by decide +kernel
theorem dX12_best_45 : decode cX12_best 45 = .ok (.ifCond .ne 11, 3) := by decide +kernel
theorem dX12_best_48 : decode cX12_best 48 = .ok (.aload_n 0, 1) := by decide +kernel
theorem dX12_best_49 : decode cX12_best 49 = .ok (.iload_n 2, 1) := by decide +kernel
theorem dX12_best_50 : decode cX12_best 50 = .ok (.invokevirtual 290, 3) := by decide +kernel
theorem dX12_best_53 : decode cX12_best 53 = .ok (.goto 20, 3) := by decide +kernel
theorem dX12_best_56 : decode cX12_best 56 = .ok (.iload_n 1, 1) := by decide +kernel
theorem dX12_best_57 : decode cX12_best 57 = .ok (.iconst 1, 1) := by decide +kernel
theorem dX12_best_58 : decode cX12_best 58 = .ok (.if_icmp .ne 7, 3) := by decide +kernel
theorem dX12_best_61 : decode cX12_best 61 = .ok (.iload_n 2, 1) := by decide +kernel
theorem dX12_best_62 : decode cX12_best 62 = .ok (.goto 11, 3) := by decide +kernel
theorem dX12_best_65 : decode cX12_best 65 = .ok (.aload_n 0, 1) := by decide +kernel
theorem dX12_best_66 : decode cX12_best 66 = .ok (.getfield 90, 3) := by decide +kernel
theorem dX12_best_69 : decode cX12_best 69 = .ok (.iload_n 1, 1) := by decide +kernel
theorem dX12_best_70 : decode cX12_best 70 = .ok (.iconst 2, 1) := by decide +kernel
theorem dX12_best_71 : decode cX12_best 71 = .ok (.isub, 1) := by decide +kernel
theorem dX12_best_72 : decode cX12_best 72 = .ok (.iaload, 1) := by decide +kernel
theorem dX12_best_73 : decode cX12_best 73 = .ok (.ireturn, 1) := by decide +kernel
theorem dX12_find_0 : decode cX12_find 0 = .ok (.lload_n 1, 1) := by decide +kernel
theorem dX12_find_1 : decode cX12_find 1 = .ok (.lstore_n 3, 1) := by decide +kernel
theorem dX12_find_2 : decode cX12_find 2 = .ok (.aload_n 0, 1) := by decide +kernel
theorem dX12_find_3 : decode cX12_find 3 = .ok (.getfield 188, 3) := by decide +kernel
theorem dX12_find_6 : decode cX12_find 6 = .ok (.istore 5, 2) := by decide +kernel
theorem dX12_find_8 : decode cX12_find 8 = .ok (.iconst 4, 1) := by decide +kernel
theorem dX12_find_9 : decode cX12_find 9 = .ok (.istore 6, 2) := by decide +kernel
theorem dX12_find_11 : decode cX12_find 11 = .ok (.iconst 0, 1) := by decide +kernel
theorem dX12_find_12 : decode cX12_find 12 = .ok (.istore 7, 2) := by decide +kernel
theorem dX12_find_14 : decode cX12_find 14 = .ok (.iload 5, 2) := by decide +kernel
theorem dX12_find_16 : decode cX12_find 16 = .ok (.ifCond .le 91, 3) := by decide +kernel
theorem dX12_find_19 : decode cX12_find 19 = .ok (.iconst (-1), 1) := by decide +kernel
theorem dX12_find_20 : decode cX12_find 20 = .ok (.istore 8, 2) := by decide +kernel
theorem dX12_find_22 : decode cX12_find 22 = .ok (.lconst 0, 1) := by decide +kernel
theorem dX12_find_23 : decode cX12_find 23 = .ok (.lstore 9, 2) := by decide +kernel
theorem dX12_find_25 : decode cX12_find 25 = .ok (.lload_n 3, 1) := by decide +kernel
theorem dX12_find_26 : decode cX12_find 26 = .ok (.lload 9, 2) := by decide +kernel
theorem dX12_find_28 : decode cX12_find 28 = .ok (.lsub, 1) := by decide +kernel
theorem dX12_find_29 : decode cX12_find 29 = .ok (.lstore_n 3, 1) := by decide +kernel
theorem dX12_find_30 : decode cX12_find 30 = .ok (.iinc 8 1, 3) := by decide +kernel
theorem dX12_find_33 : decode cX12_find 33 = .ok (.aload_n 0, 1) := by decide +kernel
theorem dX12_find_34 : decode cX12_find 34 = .ok (.iload 5, 2) := by decide +kernel
theorem dX12_find_36 : decode cX12_find 36 = .ok (.iload 6, 2) := by decide +kernel
theorem dX12_find_38 : decode cX12_find 38 = .ok (.iload 8, 2) := by decide +kernel
theorem dX12_find_40 : decode cX12_find 40 = .ok (.invokevirtual 194, 3) := by decide +kernel
theorem dX12_find_43 : decode cX12_find 43 = .ok (.ifCond .eq 18, 3) := by decide +kernel
theorem dX12_find_46 : decode cX12_find 46 = .ok (.aload_n 0, 1) := by decide +kernel
theorem dX12_find_47 : decode cX12_find 47 = .ok (.aload_n 0, 1) := by decide +kernel
theorem dX12_find_48 : decode cX12_find 48 = .ok (.getfield 74, 3) := by decide +kernel
theorem dX12_find_51 : decode cX12_find 51 = .ok (.iload 5, 2) := by decide +kernel
theorem dX12_find_53 : decode cX12_find 53 = .ok (.iload 8, 2) := by decide +kernel
theorem dX12_find_55 : decode cX12_find 55 = .ok (.invokevirtual 198, 3) := by decide +kernel
theorem dX12_find_58 : decode cX12_find 58 = .ok (.goto 4, 3) := by decide +kernel
theorem dX12_find_61 : decode cX12_find 61 = .ok (.lconst 0, 1) := by decide +kernel
theorem dX12_find_62 : decode cX12_find 62 = .ok (.lstore 9, 2) := by decide +kernel
theorem dX12_find_64 : decode cX12_find 64 = .ok (.lload_n 3, 1) := by decide +kernel
theorem dX12_find_65 : decode cX12_find 65 = .ok (.lload 9, 2) := by decide +kernel
theorem dX12_find_67 : decode cX12_find 67 = .ok (.lcmp, 1) := by decide +kernel
theorem dX12_find_68 : decode cX12_find 68 = .ok (.ifCond .ge (-43), 3) := by decide +kernel
theorem dX12_find_71 : decode cX12_find 71 = .ok (.aload_n 0, 1) := by decide +kernel
theorem dX12_find_72 : decode cX12_find 72 = .ok (.getfield 90, 3) := by decide +kernel
theorem dX12_find_75 : decode cX12_find 75 = .ok (.iload 7, 2) := by decide +kernel
theorem dX12_find_77 : decode cX12_find 77 = .ok (.iload 8, 2) := by decide +kernel
theorem dX12_find_79 : decode cX12_find 79 = .ok (.iastore, 1) := by decide +kernel
theorem dX12_find_80 : decode cX12_find 80 = .ok (.iinc 7 1, 3) := by decide +kernel
theorem dX12_find_83 : decode cX12_find 83 = .ok (.iload 5, 2) := by decide +kernel
theorem dX12_find_85 : decode cX12_find 85 = .ok (.aload_n 0, 1) := by decide +kernel
theorem dX12_find_86 : decode cX12_find 86 = .ok (.getfield 71, 3) := by decide +kernel
theorem dX12_find_89 : decode cX12_find 89 = .ok (.iload 8, 2) := by decide +kernel
theorem dX12_find_91 : decode cX12_find 91 = .ok (.iaload, 1) := by decide +kernel
theorem dX12_find_92 : decode cX12_find 92 = .ok (.isub, 1) := by decide +kernel
theorem dX12_find_93 : decode cX12_find 93 = .ok (.istore 5, 2) := by decide +kernel
theorem dX12_find_95 : decode cX12_find 95 = .ok (.aload_n 0, 1) := by decide +kernel
theorem dX12_find_96 : decode cX12_find 96 = .ok (.getfield 19, 3) := by decide +kernel
theorem dX12_find_99 : decode cX12_find 99 = .ok (.iload 8, 2) := by decide +kernel
theorem dX12_find_101 : decode cX12_find 101 = .ok (.iaload, 1) := by decide +kernel
theorem dX12_find_102 : decode cX12_find 102 = .ok (.istore 6, 2) := by decide +kernel
theorem dX12_find_104 : decode cX12_find 104 = .ok (.goto (-90), 3) := by decide +kernel
theorem dX12_find_107 : decode cX12_find 107 = .ok (.iload 7, 2) := by decide +kernel
theorem dX12_find_109 : decode cX12_find 109 = .ok (.ireturn, 1) := by decide +kernel
theorem dX12_phrase_0 : decode cX12_phrase 0 = .ok (.lload_n 1, 1) := by decide +kernel
theorem dX12_phrase_1 : decode cX12_phrase 1 = .ok (.lconst 0, 1) := by decide +kernel
theorem dX12_phrase_2 : decode cX12_phrase 2 = .ok (.aload_n 0, 1) := by decide +kernel
theorem dX12_phrase_3 : decode cX12_phrase 3 = .ok (.aload_n 0, 1) := by decide +kernel
theorem dX12_phrase_4 : decode cX12_phrase 4 = .ok (.getfield 25, 3) := by decide +kernel
theorem dX12_phrase_7 : decode cX12_phrase 7 = .ok (.invokevirtual 272, 3) := by decide +kernel
theorem dX12_phrase_10 : decode cX12_phrase 10 = .ok (.lconst 1, 1) := by decide +kernel
theorem dX12_phrase_11 : decode cX12_phrase 11 = .ok (.lsub, 1) := by decide +kernel
theorem dX12_phrase_12 : decode cX12_phrase 12 = .ok (.invokestatic 107, 3) := by decide +kernel
theorem dX12_phrase_15 : decode cX12_phrase 15 = .ok (.ifCond .ne 5, 3) := by decide +kernel
theorem dX12_phrase_18 : decode cX12_phrase 18 = .ok (.iconst (-1), 1) := by decide +kernel
theorem dX12_phrase_19 : decode cX12_phrase 19 = .ok (.ireturn, 1) := by decide +kernel
theorem dX12_phrase_20 : decode cX12_phrase 20 = .ok (.iload_n 3, 1) := by decide +kernel
theorem dX12_phrase_21 : decode cX12_phrase 21 = .ok (.i2l, 1) := by decide +kernel
theorem dX12_phrase_22 : decode cX12_phrase 22 = .ok (.lconst 0, 1) := by decide +kernel
theorem dX12_phrase_23 : decode cX12_phrase 23 = .ok (.ldc2_w 285, 3) := by decide +kernel
theorem dX12_phrase_26 : decode cX12_phrase 26 = .ok (.invokestatic 107, 3) := by decide +kernel
theorem dX12_phrase_29 : decode cX12_phrase 29 = .ok (.ifCond .ne 6, 3) := by decide +kernel
theorem dX12_phrase_32 : decode cX12_phrase 32 = .ok (.bipush (-2), 2) := by decide +kernel
theorem dX12_phrase_34 : decode cX12_phrase 34 = .ok (.ireturn, 1) := by decide +kernel
theorem dX12_phrase_35 : decode cX12_phrase 35 = .ok (.aload_n 0, 1) := by decide +kernel
theorem dX12_phrase_36 : decode cX12_phrase 36 = .ok (.lload_n 1, 1) := by decide +kernel
theorem dX12_phrase_37 : decode cX12_phrase 37 = .ok (.invokevirtual 293, 3) := by decide +kernel
theorem dX12_phrase_40 : decode cX12_phrase 40 = .ok (.istore 4, 2) := by decide +kernel
theorem dX12_phrase_42 : decode cX12_phrase 42 = .ok (.iload_n 3, 1) := by decide +kernel
theorem dX12_phrase_43 : decode cX12_phrase 43 = .ok (.ifCond .ne 8, 3) := by decide +kernel
theorem dX12_phrase_46 : decode cX12_phrase 46 = .ok (.iload 4, 2) := by decide +kernel
theorem dX12_phrase_48 : decode cX12_phrase 48 = .ok (.goto 37, 3) := by decide +kernel
theorem dX12_phrase_51 : decode cX12_phrase 51 = .ok (.iload_n 3, 1) := by decide +kernel
theorem dX12_phrase_52 : decode cX12_phrase 52 = .ok (.bipush 13, 2) := by decide +kernel
theorem dX12_phrase_54 : decode cX12_phrase 54 = .ok (.if_icmp .ne 12, 3) := by decide +kernel
theorem dX12_phrase_57 : decode cX12_phrase 57 = .ok (.aload_n 0, 1) := by decide +kernel
theorem dX12_phrase_58 : decode cX12_phrase 58 = .ok (.iload 4, 2) := by decide +kernel
theorem dX12_phrase_60 : decode cX12_phrase 60 = .ok (.invokevirtual 290, 3) := by decide +kernel
theorem dX12_phrase_63 : decode cX12_phrase 63 = .ok (.goto 22, 3) := by decide +kernel
theorem dX12_phrase_66 : decode cX12_phrase 66 = .ok (.iload_n 3, 1) := by decide +kernel
theorem dX12_phrase_67 : decode cX12_phrase 67 = .ok (.iload 4, 2) := by decide +kernel
theorem dX12_phrase_69 : decode cX12_phrase 69 = .ok (.if_icmp .gt 14, 3) := by decide +kernel
theorem dX12_phrase_72 : decode cX12_phrase 72 = .ok (.aload_n 0, 1) := by decide +kernel
theorem dX12_phrase_73 : decode cX12_phrase 73 = .ok (.getfield 90, 3) := by decide +kernel
theorem dX12_phrase_76 : decode cX12_phrase 76 = .ok (.iload_n 3, 1) := by decide +kernel
theorem dX12_phrase_77 : decode cX12_phrase 77 = .ok (.iconst 1, 1) := by decide +kernel
theorem dX12_phrase_78 : decode cX12_phrase 78 = .ok (.isub, 1) := by decide +kernel
theorem dX12_phrase_79 : decode cX12_phrase 79 = .ok (.iaload, 1) := by decide +kernel
theorem dX12_phrase_80 : decode cX12_phrase 80 = .ok (.goto 5, 3) := by decide +kernel
theorem dX12_phrase_83 : decode cX12_phrase 83 = .ok (.bipush (-9), 2) := by decide +kernel
theorem dX12_phrase_85 : decode cX12_phrase 85 = .ok (.ireturn, 1) := by decide +kernel
theorem dX12_tell_0 : decode cX12_tell 0 = .ok (.aload_n 0, 1) := by decide +kernel
theorem dX12_tell_1 : decode cX12_tell 1 = .ok (.iload_n 1, 1) := by decide +kernel
theorem dX12_tell_2 : decode cX12_tell 2 = .ok (.invokevirtual 243, 3) := by decide +kernel
theorem dX12_tell_5 : decode cX12_tell 5 = .ok (.ifCond .ne 5, 3) := by decide +kernel
theorem dX12_tell_8 : decode cX12_tell 8 = .ok (.iconst (-1), 1) := by decide +kernel
theorem dX12_tell_9 : decode cX12_tell 9 = .ok (.ireturn, 1) := by decide +kernel
theorem dX12_tell_10 : decode cX12_tell 10 = .ok (.aload_n 0, 1) := by decide +kernel
theorem dX12_tell_11 : decode cX12_tell 11 = .ok (.getfield 185, 3) := by decide +kernel
theorem dX12_tell_14 : decode cX12_tell 14 = .ok (.bipush 12, 2) := by decide +kernel
theorem dX12_tell_16 : decode cX12_tell 16 = .ok (.if_icmp .ne 6, 3) := by decide +kernel
theorem dX12_tell_19 : decode cX12_tell 19 = .ok (.bipush (-4), 2) := by decide +kernel
theorem dX12_tell_21 : decode cX12_tell 21 = .ok (.ireturn, 1) := by decide +kernel
theorem dX12_tell_22 : decode cX12_tell 22 = .ok (.aload_n 0, 1) := by decide +kernel
theorem dX12_tell_23 : decode cX12_tell 23 = .ok (.getfield 41, 3) := by decide +kernel
theorem dX12_tell_26 : decode cX12_tell 26 = .ok (.aload_n 0, 1) := by decide +kernel
theorem dX12_tell_27 : decode cX12_tell 27 = .ok (.getfield 185, 3) := by decide +kernel
theorem dX12_tell_30 : decode cX12_tell 30 = .ok (.iload_n 1, 1) := by decide +kernel
theorem dX12_tell_31 : decode cX12_tell 31 = .ok (.iastore, 1) := by decide +kernel
theorem dX12_tell_32 : decode cX12_tell 32 = .ok (.aload_n 0, 1) := by decide +kernel
theorem dX12_tell_33 : decode cX12_tell 33 = .ok (.dup, 1) := by decide +kernel
theorem dX12_tell_34 : decode cX12_tell 34 = .ok (.getfield 185, 3) := by decide +kernel
theorem dX12_tell_37 : decode cX12_tell 37 = .ok (.iconst 1, 1) := by decide +kernel
theorem dX12_tell_38 : decode cX12_tell 38 = .ok (.iadd, 1) := by decide +kernel
theorem dX12_tell_39 : decode cX12_tell 39 = .ok (.putfield 185, 3) := by decide +kernel
theorem dX12_tell_42 : decode cX12_tell 42 = .ok (.aload_n 0, 1) := by decide +kernel
theorem dX12_tell_43 : decode cX12_tell 43 = .ok (.getfield 185, 3) := by decide +kernel
theorem dX12_tell_46 : decode cX12_tell 46 = .ok (.ireturn, 1) := by decide +kernel
theorem dX12_clear_0 : decode cX12_clear 0 = .ok (.aload_n 0, 1) := by decide +kernel
theorem dX12_clear_1 : decode cX12_clear 1 = .ok (.getfield 185, 3) := by decide +kernel
theorem dX12_clear_4 : decode cX12_clear 4 = .ok (.istore_n 1, 1) := by decide +kernel
theorem dX12_clear_5 : decode cX12_clear 5 = .ok (.aload_n 0, 1) := by decide +kernel
theorem dX12_clear_6 : decode cX12_clear 6 = .ok (.iconst 0, 1) := by decide +kernel
theorem dX12_clear_7 : decode cX12_clear 7 = .ok (.putfield 185, 3) := by decide +kernel
theorem dX12_clear_10 : decode cX12_clear 10 = .ok (.iload_n 1, 1) := by decide +kernel
theorem dX12_clear_11 : decode cX12_clear 11 = .ok (.ireturn, 1) := by decide +kernel
theorem dX12_wantedBy_0 : decode cX12_wantedBy 0 = .ok (.bipush (-9), 2) := by decide +kernel
theorem dX12_wantedBy_2 : decode cX12_wantedBy 2 = .ok (.istore_n 2, 1) := by decide +kernel
theorem dX12_wantedBy_3 : decode cX12_wantedBy 3 = .ok (.aload_n 0, 1) := by decide +kernel
theorem dX12_wantedBy_4 : decode cX12_wantedBy 4 = .ok (.getfield 16, 3) := by decide +kernel
theorem dX12_wantedBy_7 : decode cX12_wantedBy 7 = .ok (.iload_n 1, 1) := by decide +kernel
theorem dX12_wantedBy_8 : decode cX12_wantedBy 8 = .ok (.iaload, 1) := by decide +kernel
theorem dX12_wantedBy_9 : decode cX12_wantedBy 9 = .ok (.iconst 1, 1) := by decide +kernel
theorem dX12_wantedBy_10 : decode cX12_wantedBy 10 = .ok (.isub, 1) := by decide +kernel
theorem dX12_wantedBy_11 : decode cX12_wantedBy 11 = .ok (.istore_n 3, 1) := by decide +kernel
theorem dX12_wantedBy_12 : decode cX12_wantedBy 12 = .ok (.iload_n 3, 1) := by decide +kernel
theorem dX12_wantedBy_13 : decode cX12_wantedBy 13 = .ok (.ifCond .lt 51, 3) := by decide +kernel
theorem dX12_wantedBy_16 : decode cX12_wantedBy 16 = .ok (.aload_n 0, 1) := by decide +kernel
theorem dX12_wantedBy_17 : decode cX12_wantedBy 17 = .ok (.getfield 13, 3) := by decide +kernel
theorem dX12_wantedBy_20 : decode cX12_wantedBy 20 = .ok (.bipush 6, 2) := by decide +kernel
theorem dX12_wantedBy_22 : decode cX12_wantedBy 22 = .ok (.iload_n 1, 1) := by decide +kernel
theorem dX12_wantedBy_23 : decode cX12_wantedBy 23 = .ok (.imul, 1) := by decide +kernel
theorem dX12_wantedBy_24 : decode cX12_wantedBy 24 = .ok (.iload_n 3, 1) := by decide +kernel
theorem dX12_wantedBy_25 : decode cX12_wantedBy 25 = .ok (.iadd, 1) := by decide +kernel
theorem dX12_wantedBy_26 : decode cX12_wantedBy 26 = .ok (.iaload, 1) := by decide +kernel
theorem dX12_wantedBy_27 : decode cX12_wantedBy 27 = .ok (.istore 4, 2) := by decide +kernel
theorem dX12_wantedBy_29 : decode cX12_wantedBy 29 = .ok (.aload_n 0, 1) := by decide +kernel
theorem dX12_wantedBy_30 : decode cX12_wantedBy 30 = .ok (.getfield 22, 3) := by decide +kernel
theorem dX12_wantedBy_33 : decode cX12_wantedBy 33 = .ok (.bipush 8, 2) := by decide +kernel
theorem dX12_wantedBy_35 : decode cX12_wantedBy 35 = .ok (.iload_n 1, 1) := by decide +kernel
theorem dX12_wantedBy_36 : decode cX12_wantedBy 36 = .ok (.imul, 1) := by decide +kernel
theorem dX12_wantedBy_37 : decode cX12_wantedBy 37 = .ok (.iload 4, 2) := by decide +kernel
theorem dX12_wantedBy_39 : decode cX12_wantedBy 39 = .ok (.iadd, 1) := by decide +kernel
theorem dX12_wantedBy_40 : decode cX12_wantedBy 40 = .ok (.iaload, 1) := by decide +kernel
theorem dX12_wantedBy_41 : decode cX12_wantedBy 41 = .ok (.aload_n 0, 1) := by decide +kernel
theorem dX12_wantedBy_42 : decode cX12_wantedBy 42 = .ok (.getfield 93, 3) := by decide +kernel
theorem dX12_wantedBy_45 : decode cX12_wantedBy 45 = .ok (.iload 4, 2) := by decide +kernel
theorem dX12_wantedBy_47 : decode cX12_wantedBy 47 = .ok (.iaload, 1) := by decide +kernel
theorem dX12_wantedBy_48 : decode cX12_wantedBy 48 = .ok (.if_icmp .le 8, 3) := by decide +kernel
theorem dX12_wantedBy_51 : decode cX12_wantedBy 51 = .ok (.iload 4, 2) := by decide +kernel
theorem dX12_wantedBy_53 : decode cX12_wantedBy 53 = .ok (.goto 4, 3) := by decide +kernel
theorem dX12_wantedBy_56 : decode cX12_wantedBy 56 = .ok (.iload_n 2, 1) := by decide +kernel
theorem dX12_wantedBy_57 : decode cX12_wantedBy 57 = .ok (.istore_n 2, 1) := by decide +kernel
theorem dX12_wantedBy_58 : decode cX12_wantedBy 58 = .ok (.iinc 3 (-1), 3) := by decide +kernel
theorem dX12_wantedBy_61 : decode cX12_wantedBy 61 = .ok (.goto (-49), 3) := by decide +kernel
theorem dX12_wantedBy_64 : decode cX12_wantedBy 64 = .ok (.iload_n 2, 1) := by decide +kernel
end
section
theorem dX12_wantedBy_65 : decode cX12_wantedBy 65 = .ok (.ireturn, 1) := by decide +kernel
theorem dX12_reason_0 : decode cX12_reason 0 = .ok (.aload_n 0, 1) := by decide +kernel
theorem dX12_reason_1 : decode cX12_reason 1 = .ok (.bipush (-9), 2) := by decide +kernel
theorem dX12_reason_3 : decode cX12_reason 3 = .ok (.putfield 297, 3) := by decide +kernel
theorem dX12_reason_6 : decode cX12_reason 6 = .ok (.aload_n 0, 1) := by decide +kernel
theorem dX12_reason_7 : decode cX12_reason 7 = .ok (.iconst 0, 1) := by decide +kernel
theorem dX12_reason_8 : decode cX12_reason 8 = .ok (.putfield 300, 3) := by decide +kernel
theorem dX12_reason_11 : decode cX12_reason 11 = .ok (.iconst 0, 1) := by decide +kernel
theorem dX12_reason_12 : decode cX12_reason 12 = .ok (.istore_n 1, 1) := by decide +kernel
theorem dX12_reason_13 : decode cX12_reason 13 = .ok (.iload_n 1, 1) := by decide +kernel
theorem dX12_reason_14 : decode cX12_reason 14 = .ok (.bipush 8, 2) := by decide +kernel
theorem dX12_reason_16 : decode cX12_reason 16 = .ok (.if_icmp .ge 21, 3) := by decide +kernel
theorem dX12_reason_19 : decode cX12_reason 19 = .ok (.aload_n 0, 1) := by decide +kernel
theorem dX12_reason_20 : decode cX12_reason 20 = .ok (.getfield 93, 3) := by decide +kernel
theorem dX12_reason_23 : decode cX12_reason 23 = .ok (.iload_n 1, 1) := by decide +kernel
theorem dX12_reason_24 : decode cX12_reason 24 = .ok (.aload_n 0, 1) := by decide +kernel
theorem dX12_reason_25 : decode cX12_reason 25 = .ok (.getfield 25, 3) := by decide +kernel
theorem dX12_reason_28 : decode cX12_reason 28 = .ok (.iload_n 1, 1) := by decide +kernel
theorem dX12_reason_29 : decode cX12_reason 29 = .ok (.iaload, 1) := by decide +kernel
theorem dX12_reason_30 : decode cX12_reason 30 = .ok (.iastore, 1) := by decide +kernel
theorem dX12_reason_31 : decode cX12_reason 31 = .ok (.iinc 1 1, 3) := by decide +kernel
theorem dX12_reason_34 : decode cX12_reason 34 = .ok (.goto (-21), 3) := by decide +kernel
theorem dX12_reason_37 : decode cX12_reason 37 = .ok (.iconst 0, 1) := by decide +kernel
theorem dX12_reason_38 : decode cX12_reason 38 = .ok (.istore_n 1, 1) := by decide +kernel
theorem dX12_reason_39 : decode cX12_reason 39 = .ok (.iload_n 1, 1) := by decide +kernel
theorem dX12_reason_40 : decode cX12_reason 40 = .ok (.aload_n 0, 1) := by decide +kernel
theorem dX12_reason_41 : decode cX12_reason 41 = .ok (.getfield 185, 3) := by decide +kernel
theorem dX12_reason_44 : decode cX12_reason 44 = .ok (.if_icmp .ge 165, 3) := by decide +kernel
theorem dX12_reason_47 : decode cX12_reason 47 = .ok (.aload_n 0, 1) := by decide +kernel
theorem dX12_reason_48 : decode cX12_reason 48 = .ok (.getfield 41, 3) := by decide +kernel
theorem dX12_reason_51 : decode cX12_reason 51 = .ok (.iload_n 1, 1) := by decide +kernel
theorem dX12_reason_52 : decode cX12_reason 52 = .ok (.iaload, 1) := by decide +kernel
theorem dX12_reason_53 : decode cX12_reason 53 = .ok (.istore_n 2, 1) := by decide +kernel
theorem dX12_reason_54 : decode cX12_reason 54 = .ok (.aload_n 0, 1) := by decide +kernel
theorem dX12_reason_55 : decode cX12_reason 55 = .ok (.iload_n 1, 1) := by decide +kernel
theorem dX12_reason_56 : decode cX12_reason 56 = .ok (.putfield 303, 3) := by decide +kernel
theorem dX12_reason_59 : decode cX12_reason 59 = .ok (.aload_n 0, 1) := by decide +kernel
theorem dX12_reason_60 : decode cX12_reason 60 = .ok (.getfield 25, 3) := by decide +kernel
theorem dX12_reason_63 : decode cX12_reason 63 = .ok (.bipush 8, 2) := by decide +kernel
theorem dX12_reason_65 : decode cX12_reason 65 = .ok (.iaload, 1) := by decide +kernel
theorem dX12_reason_66 : decode cX12_reason 66 = .ok (.iload_n 2, 1) := by decide +kernel
theorem dX12_reason_67 : decode cX12_reason 67 = .ok (.invokestatic 149, 3) := by decide +kernel
theorem dX12_reason_70 : decode cX12_reason 70 = .ok (.ifCond .eq 5, 3) := by decide +kernel
theorem dX12_reason_73 : decode cX12_reason 73 = .ok (.iconst 1, 1) := by decide +kernel
theorem dX12_reason_74 : decode cX12_reason 74 = .ok (.ireturn, 1) := by decide +kernel
theorem dX12_reason_75 : decode cX12_reason 75 = .ok (.iload_n 1, 1) := by decide +kernel
theorem dX12_reason_76 : decode cX12_reason 76 = .ok (.ifCond .ne 13, 3) := by decide +kernel
theorem dX12_reason_79 : decode cX12_reason 79 = .ok (.aload_n 0, 1) := by decide +kernel
theorem dX12_reason_80 : decode cX12_reason 80 = .ok (.getfield 25, 3) := by decide +kernel
theorem dX12_reason_83 : decode cX12_reason 83 = .ok (.bipush 19, 2) := by decide +kernel
theorem dX12_reason_85 : decode cX12_reason 85 = .ok (.iaload, 1) := by decide +kernel
theorem dX12_reason_86 : decode cX12_reason 86 = .ok (.goto 24, 3) := by decide +kernel
theorem dX12_reason_89 : decode cX12_reason 89 = .ok (.aload_n 0, 1) := by decide +kernel
theorem dX12_reason_90 : decode cX12_reason 90 = .ok (.getfield 25, 3) := by decide +kernel
theorem dX12_reason_93 : decode cX12_reason 93 = .ok (.bipush 21, 2) := by decide +kernel
theorem dX12_reason_95 : decode cX12_reason 95 = .ok (.aload_n 0, 1) := by decide +kernel
theorem dX12_reason_96 : decode cX12_reason 96 = .ok (.getfield 19, 3) := by decide +kernel
theorem dX12_reason_99 : decode cX12_reason 99 = .ok (.aload_n 0, 1) := by decide +kernel
theorem dX12_reason_100 : decode cX12_reason 100 = .ok (.getfield 41, 3) := by decide +kernel
theorem dX12_reason_103 : decode cX12_reason 103 = .ok (.iload_n 1, 1) := by decide +kernel
theorem dX12_reason_104 : decode cX12_reason 104 = .ok (.iconst 1, 1) := by decide +kernel
theorem dX12_reason_105 : decode cX12_reason 105 = .ok (.isub, 1) := by decide +kernel
theorem dX12_reason_106 : decode cX12_reason 106 = .ok (.iaload, 1) := by decide +kernel
theorem dX12_reason_107 : decode cX12_reason 107 = .ok (.iaload, 1) := by decide +kernel
theorem dX12_reason_108 : decode cX12_reason 108 = .ok (.iadd, 1) := by decide +kernel
theorem dX12_reason_109 : decode cX12_reason 109 = .ok (.iaload, 1) := by decide +kernel
theorem dX12_reason_110 : decode cX12_reason 110 = .ok (.aload_n 0, 1) := by decide +kernel
theorem dX12_reason_111 : decode cX12_reason 111 = .ok (.getfield 19, 3) := by decide +kernel
theorem dX12_reason_114 : decode cX12_reason 114 = .ok (.iload_n 2, 1) := by decide +kernel
theorem dX12_reason_115 : decode cX12_reason 115 = .ok (.iaload, 1) := by decide +kernel
theorem dX12_reason_116 : decode cX12_reason 116 = .ok (.invokestatic 149, 3) := by decide +kernel
theorem dX12_reason_119 : decode cX12_reason 119 = .ok (.ifCond .ne 5, 3) := by decide +kernel
theorem dX12_reason_122 : decode cX12_reason 122 = .ok (.iconst 2, 1) := by decide +kernel
theorem dX12_reason_123 : decode cX12_reason 123 = .ok (.ireturn, 1) := by decide +kernel
theorem dX12_reason_124 : decode cX12_reason 124 = .ok (.aload_n 0, 1) := by decide +kernel
theorem dX12_reason_125 : decode cX12_reason 125 = .ok (.iload_n 2, 1) := by decide +kernel
theorem dX12_reason_126 : decode cX12_reason 126 = .ok (.invokevirtual 306, 3) := by decide +kernel
theorem dX12_reason_129 : decode cX12_reason 129 = .ok (.istore_n 3, 1) := by decide +kernel
theorem dX12_reason_130 : decode cX12_reason 130 = .ok (.iload_n 3, 1) := by decide +kernel
theorem dX12_reason_131 : decode cX12_reason 131 = .ok (.bipush (-9), 2) := by decide +kernel
theorem dX12_reason_133 : decode cX12_reason 133 = .ok (.if_icmp .eq 32, 3) := by decide +kernel
theorem dX12_reason_136 : decode cX12_reason 136 = .ok (.aload_n 0, 1) := by decide +kernel
theorem dX12_reason_137 : decode cX12_reason 137 = .ok (.iload_n 3, 1) := by decide +kernel
theorem dX12_reason_138 : decode cX12_reason 138 = .ok (.putfield 297, 3) := by decide +kernel
theorem dX12_reason_141 : decode cX12_reason 141 = .ok (.aload_n 0, 1) := by decide +kernel
theorem dX12_reason_142 : decode cX12_reason 142 = .ok (.aload_n 0, 1) := by decide +kernel
theorem dX12_reason_143 : decode cX12_reason 143 = .ok (.getfield 22, 3) := by decide +kernel
theorem dX12_reason_146 : decode cX12_reason 146 = .ok (.bipush 8, 2) := by decide +kernel
theorem dX12_reason_148 : decode cX12_reason 148 = .ok (.iload_n 2, 1) := by decide +kernel
theorem dX12_reason_149 : decode cX12_reason 149 = .ok (.imul, 1) := by decide +kernel
theorem dX12_reason_150 : decode cX12_reason 150 = .ok (.iload_n 3, 1) := by decide +kernel
theorem dX12_reason_151 : decode cX12_reason 151 = .ok (.iadd, 1) := by decide +kernel
theorem dX12_reason_152 : decode cX12_reason 152 = .ok (.iaload, 1) := by decide +kernel
theorem dX12_reason_153 : decode cX12_reason 153 = .ok (.aload_n 0, 1) := by decide +kernel
theorem dX12_reason_154 : decode cX12_reason 154 = .ok (.getfield 93, 3) := by decide +kernel
theorem dX12_reason_157 : decode cX12_reason 157 = .ok (.iload_n 3, 1) := by decide +kernel
theorem dX12_reason_158 : decode cX12_reason 158 = .ok (.iaload, 1) := by decide +kernel
theorem dX12_reason_159 : decode cX12_reason 159 = .ok (.isub, 1) := by decide +kernel
theorem dX12_reason_160 : decode cX12_reason 160 = .ok (.putfield 300, 3) := by decide +kernel
theorem dX12_reason_163 : decode cX12_reason 163 = .ok (.iconst 3, 1) := by decide +kernel
theorem dX12_reason_164 : decode cX12_reason 164 = .ok (.ireturn, 1) := by decide +kernel
theorem dX12_reason_165 : decode cX12_reason 165 = .ok (.iconst 0, 1) := by decide +kernel
theorem dX12_reason_166 : decode cX12_reason 166 = .ok (.istore 4, 2) := by decide +kernel
theorem dX12_reason_168 : decode cX12_reason 168 = .ok (.iload 4, 2) := by decide +kernel
theorem dX12_reason_170 : decode cX12_reason 170 = .ok (.bipush 8, 2) := by decide +kernel
theorem dX12_reason_172 : decode cX12_reason 172 = .ok (.if_icmp .ge 31, 3) := by decide +kernel
theorem dX12_reason_175 : decode cX12_reason 175 = .ok (.aload_n 0, 1) := by decide +kernel
theorem dX12_reason_176 : decode cX12_reason 176 = .ok (.getfield 93, 3) := by decide +kernel
theorem dX12_reason_179 : decode cX12_reason 179 = .ok (.iload 4, 2) := by decide +kernel
theorem dX12_reason_181 : decode cX12_reason 181 = .ok (.dup2, 1) := by decide +kernel
theorem dX12_reason_182 : decode cX12_reason 182 = .ok (.iaload, 1) := by decide +kernel
theorem dX12_reason_183 : decode cX12_reason 183 = .ok (.aload_n 0, 1) := by decide +kernel
theorem dX12_reason_184 : decode cX12_reason 184 = .ok (.getfield 22, 3) := by decide +kernel
theorem dX12_reason_187 : decode cX12_reason 187 = .ok (.bipush 8, 2) := by decide +kernel
theorem dX12_reason_189 : decode cX12_reason 189 = .ok (.iload_n 2, 1) := by decide +kernel
theorem dX12_reason_190 : decode cX12_reason 190 = .ok (.imul, 1) := by decide +kernel
theorem dX12_reason_191 : decode cX12_reason 191 = .ok (.iload 4, 2) := by decide +kernel
theorem dX12_reason_193 : decode cX12_reason 193 = .ok (.iadd, 1) := by decide +kernel
theorem dX12_reason_194 : decode cX12_reason 194 = .ok (.iaload, 1) := by decide +kernel
theorem dX12_reason_195 : decode cX12_reason 195 = .ok (.isub, 1) := by decide +kernel
theorem dX12_reason_196 : decode cX12_reason 196 = .ok (.iastore, 1) := by decide +kernel
theorem dX12_reason_197 : decode cX12_reason 197 = .ok (.iinc 4 1, 3) := by decide +kernel
theorem dX12_reason_200 : decode cX12_reason 200 = .ok (.goto (-32), 3) := by decide +kernel
theorem dX12_reason_203 : decode cX12_reason 203 = .ok (.iinc 1 1, 3) := by decide +kernel
theorem dX12_reason_206 : decode cX12_reason 206 = .ok (.goto (-167), 3) := by decide +kernel
theorem dX12_reason_209 : decode cX12_reason 209 = .ok (.aload_n 0, 1) := by decide +kernel
theorem dX12_reason_210 : decode cX12_reason 210 = .ok (.aload_n 0, 1) := by decide +kernel
theorem dX12_reason_211 : decode cX12_reason 211 = .ok (.getfield 185, 3) := by decide +kernel
theorem dX12_reason_214 : decode cX12_reason 214 = .ok (.putfield 303, 3) := by decide +kernel
theorem dX12_reason_217 : decode cX12_reason 217 = .ok (.aload_n 0, 1) := by decide +kernel
theorem dX12_reason_218 : decode cX12_reason 218 = .ok (.getfield 185, 3) := by decide +kernel
theorem dX12_reason_221 : decode cX12_reason 221 = .ok (.ifCond .ne 6, 3) := by decide +kernel
theorem dX12_reason_224 : decode cX12_reason 224 = .ok (.bipush 6, 2) := by decide +kernel
theorem dX12_reason_226 : decode cX12_reason 226 = .ok (.ireturn, 1) := by decide +kernel
theorem dX12_reason_227 : decode cX12_reason 227 = .ok (.iconst 0, 1) := by decide +kernel
theorem dX12_reason_228 : decode cX12_reason 228 = .ok (.istore_n 1, 1) := by decide +kernel
theorem dX12_reason_229 : decode cX12_reason 229 = .ok (.iload_n 1, 1) := by decide +kernel
theorem dX12_reason_230 : decode cX12_reason 230 = .ok (.bipush 8, 2) := by decide +kernel
theorem dX12_reason_232 : decode cX12_reason 232 = .ok (.if_icmp .ge 35, 3) := by decide +kernel
theorem dX12_reason_235 : decode cX12_reason 235 = .ok (.aload_n 0, 1) := by decide +kernel
theorem dX12_reason_236 : decode cX12_reason 236 = .ok (.getfield 93, 3) := by decide +kernel
theorem dX12_reason_239 : decode cX12_reason 239 = .ok (.iload_n 1, 1) := by decide +kernel
theorem dX12_reason_240 : decode cX12_reason 240 = .ok (.iaload, 1) := by decide +kernel
theorem dX12_reason_241 : decode cX12_reason 241 = .ok (.ifCond .le 20, 3) := by decide +kernel
theorem dX12_reason_244 : decode cX12_reason 244 = .ok (.aload_n 0, 1) := by decide +kernel
theorem dX12_reason_245 : decode cX12_reason 245 = .ok (.iload_n 1, 1) := by decide +kernel
theorem dX12_reason_246 : decode cX12_reason 246 = .ok (.putfield 297, 3) := by decide +kernel
theorem dX12_reason_249 : decode cX12_reason 249 = .ok (.aload_n 0, 1) := by decide +kernel
theorem dX12_reason_250 : decode cX12_reason 250 = .ok (.aload_n 0, 1) := by decide +kernel
theorem dX12_reason_251 : decode cX12_reason 251 = .ok (.getfield 93, 3) := by decide +kernel
theorem dX12_reason_254 : decode cX12_reason 254 = .ok (.iload_n 1, 1) := by decide +kernel
theorem dX12_reason_255 : decode cX12_reason 255 = .ok (.iaload, 1) := by decide +kernel
theorem dX12_reason_256 : decode cX12_reason 256 = .ok (.putfield 300, 3) := by decide +kernel
theorem dX12_reason_259 : decode cX12_reason 259 = .ok (.iconst 4, 1) := by decide +kernel
theorem dX12_reason_260 : decode cX12_reason 260 = .ok (.ireturn, 1) := by decide +kernel
theorem dX12_reason_261 : decode cX12_reason 261 = .ok (.iinc 1 1, 3) := by decide +kernel
theorem dX12_reason_264 : decode cX12_reason 264 = .ok (.goto (-35), 3) := by decide +kernel
theorem dX12_reason_267 : decode cX12_reason 267 = .ok (.aload_n 0, 1) := by decide +kernel
theorem dX12_reason_268 : decode cX12_reason 268 = .ok (.getfield 25, 3) := by decide +kernel
theorem dX12_reason_271 : decode cX12_reason 271 = .ok (.bipush 20, 2) := by decide +kernel
theorem dX12_reason_273 : decode cX12_reason 273 = .ok (.iaload, 1) := by decide +kernel
theorem dX12_reason_274 : decode cX12_reason 274 = .ok (.aload_n 0, 1) := by decide +kernel
theorem dX12_reason_275 : decode cX12_reason 275 = .ok (.getfield 19, 3) := by decide +kernel
theorem dX12_reason_278 : decode cX12_reason 278 = .ok (.aload_n 0, 1) := by decide +kernel
theorem dX12_reason_279 : decode cX12_reason 279 = .ok (.getfield 41, 3) := by decide +kernel
theorem dX12_reason_282 : decode cX12_reason 282 = .ok (.aload_n 0, 1) := by decide +kernel
theorem dX12_reason_283 : decode cX12_reason 283 = .ok (.getfield 185, 3) := by decide +kernel
theorem dX12_reason_286 : decode cX12_reason 286 = .ok (.iconst 1, 1) := by decide +kernel
theorem dX12_reason_287 : decode cX12_reason 287 = .ok (.isub, 1) := by decide +kernel
theorem dX12_reason_288 : decode cX12_reason 288 = .ok (.iaload, 1) := by decide +kernel
theorem dX12_reason_289 : decode cX12_reason 289 = .ok (.iaload, 1) := by decide +kernel
theorem dX12_reason_290 : decode cX12_reason 290 = .ok (.invokestatic 149, 3) := by decide +kernel
theorem dX12_reason_293 : decode cX12_reason 293 = .ok (.ifCond .ne 5, 3) := by decide +kernel
theorem dX12_reason_296 : decode cX12_reason 296 = .ok (.iconst 5, 1) := by decide +kernel
theorem dX12_reason_297 : decode cX12_reason 297 = .ok (.ireturn, 1) := by decide +kernel
theorem dX12_reason_298 : decode cX12_reason 298 = .ok (.aload_n 0, 1) := by decide +kernel
theorem dX12_reason_299 : decode cX12_reason 299 = .ok (.bipush (-9), 2) := by decide +kernel
theorem dX12_reason_301 : decode cX12_reason 301 = .ok (.putfield 303, 3) := by decide +kernel
theorem dX12_reason_304 : decode cX12_reason 304 = .ok (.iconst 0, 1) := by decide +kernel
theorem dX12_reason_305 : decode cX12_reason 305 = .ok (.ireturn, 1) := by decide +kernel
theorem dX12_why_0 : decode cX12_why 0 = .ok (.iload_n 1, 1) := by decide +kernel
theorem dX12_why_1 : decode cX12_why 1 = .ok (.i2l, 1) := by decide +kernel
theorem dX12_why_2 : decode cX12_why 2 = .ok (.lconst 0, 1) := by decide +kernel
theorem dX12_why_3 : decode cX12_why 3 = .ok (.ldc2_w 113, 3) := by decide +kernel
theorem dX12_why_6 : decode cX12_why 6 = .ok (.invokestatic 107, 3) := by decide +kernel
theorem dX12_why_9 : decode cX12_why 9 = .ok (.ifCond .ne 6, 3) := by decide +kernel
theorem dX12_why_12 : decode cX12_why 12 = .ok (.bipush (-2), 2) := by decide +kernel
theorem dX12_why_14 : decode cX12_why 14 = .ok (.ireturn, 1) := by decide +kernel
theorem dX12_why_15 : decode cX12_why 15 = .ok (.aload_n 0, 1) := by decide +kernel
theorem dX12_why_16 : decode cX12_why 16 = .ok (.invokevirtual 309, 3) := by decide +kernel
theorem dX12_why_19 : decode cX12_why 19 = .ok (.istore_n 2, 1) := by decide +kernel
theorem dX12_why_20 : decode cX12_why 20 = .ok (.iload_n 1, 1) := by decide +kernel
theorem dX12_why_21 : decode cX12_why 21 = .ok (.ifCond .ne 7, 3) := by decide +kernel
theorem dX12_why_24 : decode cX12_why 24 = .ok (.iload_n 2, 1) := by decide +kernel
theorem dX12_why_25 : decode cX12_why 25 = .ok (.goto 31, 3) := by decide +kernel
theorem dX12_why_28 : decode cX12_why 28 = .ok (.iload_n 1, 1) := by decide +kernel
theorem dX12_why_29 : decode cX12_why 29 = .ok (.iconst 1, 1) := by decide +kernel
theorem dX12_why_30 : decode cX12_why 30 = .ok (.if_icmp .ne 10, 3) := by decide +kernel
theorem dX12_why_33 : decode cX12_why 33 = .ok (.aload_n 0, 1) := by decide +kernel
theorem dX12_why_34 : decode cX12_why 34 = .ok (.getfield 303, 3) := by decide +kernel
theorem dX12_why_37 : decode cX12_why 37 = .ok (.goto 19, 3) := by decide +kernel
theorem dX12_why_40 : decode cX12_why 40 = .ok (.iload_n 1, 1) := by decide +kernel
theorem dX12_why_41 : decode cX12_why 41 = .ok (.iconst 2, 1) := by decide +kernel
theorem dX12_why_42 : decode cX12_why 42 = .ok (.if_icmp .ne 10, 3) := by decide +kernel
theorem dX12_why_45 : decode cX12_why 45 = .ok (.aload_n 0, 1) := by decide +kernel
theorem dX12_why_46 : decode cX12_why 46 = .ok (.getfield 297, 3) := by decide +kernel
theorem dX12_why_49 : decode cX12_why 49 = .ok (.goto 7, 3) := by decide +kernel
theorem dX12_why_52 : decode cX12_why 52 = .ok (.aload_n 0, 1) := by decide +kernel
theorem dX12_why_53 : decode cX12_why 53 = .ok (.getfield 300, 3) := by decide +kernel
theorem dX12_why_56 : decode cX12_why 56 = .ok (.ireturn, 1) := by decide +kernel
theorem dX12_number_0 : decode cX12_number 0 = .ok (.aload_n 0, 1) := by decide +kernel
theorem dX12_number_1 : decode cX12_number 1 = .ok (.invokevirtual 309, 3) := by decide +kernel
theorem dX12_number_4 : decode cX12_number 4 = .ok (.ifCond .eq 7, 3) := by decide +kernel
theorem dX12_number_7 : decode cX12_number 7 = .ok (.ldc2_w 312, 3) := by decide +kernel
theorem dX12_number_10 : decode cX12_number 10 = .ok (.lreturn, 1) := by decide +kernel
theorem dX12_number_11 : decode cX12_number 11 = .ok (.aload_n 0, 1) := by decide +kernel
theorem dX12_number_12 : decode cX12_number 12 = .ok (.aload_n 0, 1) := by decide +kernel
theorem dX12_number_13 : decode cX12_number 13 = .ok (.getfield 25, 3) := by decide +kernel
theorem dX12_number_16 : decode cX12_number 16 = .ok (.invokevirtual 272, 3) := by decide +kernel
theorem dX12_number_19 : decode cX12_number 19 = .ok (.pop2, 1) := by decide +kernel
theorem dX12_number_20 : decode cX12_number 20 = .ok (.lconst 0, 1) := by decide +kernel
theorem dX12_number_21 : decode cX12_number 21 = .ok (.lstore_n 1, 1) := by decide +kernel
theorem dX12_number_22 : decode cX12_number 22 = .ok (.aload_n 0, 1) := by decide +kernel
theorem dX12_number_23 : decode cX12_number 23 = .ok (.getfield 188, 3) := by decide +kernel
theorem dX12_number_26 : decode cX12_number 26 = .ok (.istore_n 3, 1) := by decide +kernel
theorem dX12_number_27 : decode cX12_number 27 = .ok (.iconst 4, 1) := by decide +kernel
theorem dX12_number_28 : decode cX12_number 28 = .ok (.istore 4, 2) := by decide +kernel
theorem dX12_number_30 : decode cX12_number 30 = .ok (.iconst 0, 1) := by decide +kernel
theorem dX12_number_31 : decode cX12_number 31 = .ok (.istore 5, 2) := by decide +kernel
theorem dX12_number_33 : decode cX12_number 33 = .ok (.iload 5, 2) := by decide +kernel
theorem dX12_number_35 : decode cX12_number 35 = .ok (.aload_n 0, 1) := by decide +kernel
theorem dX12_number_36 : decode cX12_number 36 = .ok (.getfield 185, 3) := by decide +kernel
theorem dX12_number_39 : decode cX12_number 39 = .ok (.if_icmp .ge 89, 3) := by decide +kernel
theorem dX12_number_42 : decode cX12_number 42 = .ok (.iconst 0, 1) := by decide +kernel
theorem dX12_number_43 : decode cX12_number 43 = .ok (.istore 6, 2) := by decide +kernel
theorem dX12_number_45 : decode cX12_number 45 = .ok (.iload 6, 2) := by decide +kernel
theorem dX12_number_47 : decode cX12_number 47 = .ok (.aload_n 0, 1) := by decide +kernel
theorem dX12_number_48 : decode cX12_number 48 = .ok (.getfield 41, 3) := by decide +kernel
theorem dX12_number_51 : decode cX12_number 51 = .ok (.iload 5, 2) := by decide +kernel
theorem dX12_number_53 : decode cX12_number 53 = .ok (.iaload, 1) := by decide +kernel
theorem dX12_number_54 : decode cX12_number 54 = .ok (.if_icmp .ge 39, 3) := by decide +kernel
theorem dX12_number_57 : decode cX12_number 57 = .ok (.lload_n 1, 1) := by decide +kernel
theorem dX12_number_58 : decode cX12_number 58 = .ok (.aload_n 0, 1) := by decide +kernel
theorem dX12_number_59 : decode cX12_number 59 = .ok (.iload_n 3, 1) := by decide +kernel
theorem dX12_number_60 : decode cX12_number 60 = .ok (.iload 4, 2) := by decide +kernel
theorem dX12_number_62 : decode cX12_number 62 = .ok (.iload 6, 2) := by decide +kernel
theorem dX12_number_64 : decode cX12_number 64 = .ok (.invokevirtual 194, 3) := by decide +kernel
theorem dX12_number_67 : decode cX12_number 67 = .ok (.ifCond .eq 17, 3) := by decide +kernel
theorem dX12_number_70 : decode cX12_number 70 = .ok (.aload_n 0, 1) := by decide +kernel
theorem dX12_number_71 : decode cX12_number 71 = .ok (.aload_n 0, 1) := by decide +kernel
theorem dX12_number_72 : decode cX12_number 72 = .ok (.getfield 74, 3) := by decide +kernel
theorem dX12_number_75 : decode cX12_number 75 = .ok (.iload_n 3, 1) := by decide +kernel
theorem dX12_number_76 : decode cX12_number 76 = .ok (.iload 6, 2) := by decide +kernel
theorem dX12_number_78 : decode cX12_number 78 = .ok (.invokevirtual 198, 3) := by decide +kernel
theorem dX12_number_81 : decode cX12_number 81 = .ok (.goto 4, 3) := by decide +kernel
theorem dX12_number_84 : decode cX12_number 84 = .ok (.lconst 0, 1) := by decide +kernel
theorem dX12_number_85 : decode cX12_number 85 = .ok (.ladd, 1) := by decide +kernel
theorem dX12_number_86 : decode cX12_number 86 = .ok (.lstore_n 1, 1) := by decide +kernel
theorem dX12_number_87 : decode cX12_number 87 = .ok (.iinc 6 1, 3) := by decide +kernel
theorem dX12_number_90 : decode cX12_number 90 = .ok (.goto (-45), 3) := by decide +kernel
theorem dX12_number_93 : decode cX12_number 93 = .ok (.iload_n 3, 1) := by decide +kernel
theorem dX12_number_94 : decode cX12_number 94 = .ok (.aload_n 0, 1) := by decide +kernel
theorem dX12_number_95 : decode cX12_number 95 = .ok (.getfield 71, 3) := by decide +kernel
theorem dX12_number_98 : decode cX12_number 98 = .ok (.aload_n 0, 1) := by decide +kernel
theorem dX12_number_99 : decode cX12_number 99 = .ok (.getfield 41, 3) := by decide +kernel
theorem dX12_number_102 : decode cX12_number 102 = .ok (.iload 5, 2) := by decide +kernel
theorem dX12_number_104 : decode cX12_number 104 = .ok (.iaload, 1) := by decide +kernel
theorem dX12_number_105 : decode cX12_number 105 = .ok (.iaload, 1) := by decide +kernel
theorem dX12_number_106 : decode cX12_number 106 = .ok (.isub, 1) := by decide +kernel
theorem dX12_number_107 : decode cX12_number 107 = .ok (.istore_n 3, 1) := by decide +kernel
theorem dX12_number_108 : decode cX12_number 108 = .ok (.aload_n 0, 1) := by decide +kernel
theorem dX12_number_109 : decode cX12_number 109 = .ok (.getfield 19, 3) := by decide +kernel
theorem dX12_number_112 : decode cX12_number 112 = .ok (.aload_n 0, 1) := by decide +kernel
theorem dX12_number_113 : decode cX12_number 113 = .ok (.getfield 41, 3) := by decide +kernel
theorem dX12_number_116 : decode cX12_number 116 = .ok (.iload 5, 2) := by decide +kernel
theorem dX12_number_118 : decode cX12_number 118 = .ok (.iaload, 1) := by decide +kernel
theorem dX12_number_119 : decode cX12_number 119 = .ok (.iaload, 1) := by decide +kernel
theorem dX12_number_120 : decode cX12_number 120 = .ok (.istore 4, 2) := by decide +kernel
theorem dX12_number_122 : decode cX12_number 122 = .ok (.iinc 5 1, 3) := by decide +kernel
theorem dX12_number_125 : decode cX12_number 125 = .ok (.goto (-92), 3) := by decide +kernel
theorem dX12_number_128 : decode cX12_number 128 = .ok (.lload_n 1, 1) := by decide +kernel
theorem dX12_number_129 : decode cX12_number 129 = .ok (.lreturn, 1) := by decide +kernel
theorem dX12_nearly_0 : decode cX12_nearly 0 = .ok (.iload_n 1, 1) := by decide +kernel
theorem dX12_nearly_1 : decode cX12_nearly 1 = .ok (.i2l, 1) := by decide +kernel
theorem dX12_nearly_2 : decode cX12_nearly 2 = .ok (.lconst 0, 1) := by decide +kernel
theorem dX12_nearly_3 : decode cX12_nearly 3 = .ok (.lconst 1, 1) := by decide +kernel
theorem dX12_nearly_4 : decode cX12_nearly 4 = .ok (.invokestatic 107, 3) := by decide +kernel
theorem dX12_nearly_7 : decode cX12_nearly 7 = .ok (.ifCond .ne 6, 3) := by decide +kernel
theorem dX12_nearly_10 : decode cX12_nearly 10 = .ok (.bipush (-2), 2) := by decide +kernel
theorem dX12_nearly_12 : decode cX12_nearly 12 = .ok (.ireturn, 1) := by decide +kernel
theorem dX12_nearly_13 : decode cX12_nearly 13 = .ok (.aload_n 0, 1) := by decide +kernel
theorem dX12_nearly_14 : decode cX12_nearly 14 = .ok (.getfield 25, 3) := by decide +kernel
theorem dX12_nearly_17 : decode cX12_nearly 17 = .ok (.aload_n 0, 1) := by decide +kernel
theorem dX12_nearly_18 : decode cX12_nearly 18 = .ok (.getfield 28, 3) := by decide +kernel
theorem dX12_nearly_21 : decode cX12_nearly 21 = .ok (.invokestatic 178, 3) := by decide +kernel
theorem dX12_nearly_24 : decode cX12_nearly 24 = .ok (.iconst 0, 1) := by decide +kernel
theorem dX12_nearly_25 : decode cX12_nearly 25 = .ok (.istore_n 2, 1) := by decide +kernel
theorem dX12_nearly_26 : decode cX12_nearly 26 = .ok (.iconst 0, 1) := by decide +kernel
theorem dX12_nearly_27 : decode cX12_nearly 27 = .ok (.istore_n 3, 1) := by decide +kernel
theorem dX12_nearly_28 : decode cX12_nearly 28 = .ok (.iload_n 3, 1) := by decide +kernel
theorem dX12_nearly_29 : decode cX12_nearly 29 = .ok (.bipush 8, 2) := by decide +kernel
theorem dX12_nearly_31 : decode cX12_nearly 31 = .ok (.if_icmp .ge 74, 3) := by decide +kernel
theorem dX12_nearly_34 : decode cX12_nearly 34 = .ok (.iload_n 1, 1) := by decide +kernel
theorem dX12_nearly_35 : decode cX12_nearly 35 = .ok (.ifCond .ne 7, 3) := by decide +kernel
theorem dX12_nearly_38 : decode cX12_nearly 38 = .ok (.iconst 1, 1) := by decide +kernel
theorem dX12_nearly_39 : decode cX12_nearly 39 = .ok (.goto 4, 3) := by decide +kernel
theorem dX12_nearly_42 : decode cX12_nearly 42 = .ok (.iconst (-1), 1) := by decide +kernel
theorem dX12_nearly_43 : decode cX12_nearly 43 = .ok (.istore 4, 2) := by decide +kernel
theorem dX12_nearly_45 : decode cX12_nearly 45 = .ok (.aload_n 0, 1) := by decide +kernel
theorem dX12_nearly_46 : decode cX12_nearly 46 = .ok (.getfield 28, 3) := by decide +kernel
theorem dX12_nearly_49 : decode cX12_nearly 49 = .ok (.iload_n 3, 1) := by decide +kernel
theorem dX12_nearly_50 : decode cX12_nearly 50 = .ok (.dup2, 1) := by decide +kernel
theorem dX12_nearly_51 : decode cX12_nearly 51 = .ok (.iaload, 1) := by decide +kernel
theorem dX12_nearly_52 : decode cX12_nearly 52 = .ok (.iload 4, 2) := by decide +kernel
theorem dX12_nearly_54 : decode cX12_nearly 54 = .ok (.iadd, 1) := by decide +kernel
theorem dX12_nearly_55 : decode cX12_nearly 55 = .ok (.iastore, 1) := by decide +kernel
theorem dX12_nearly_56 : decode cX12_nearly 56 = .ok (.iload_n 2, 1) := by decide +kernel
theorem dX12_nearly_57 : decode cX12_nearly 57 = .ok (.aload_n 0, 1) := by decide +kernel
theorem dX12_nearly_58 : decode cX12_nearly 58 = .ok (.getfield 28, 3) := by decide +kernel
theorem dX12_nearly_61 : decode cX12_nearly 61 = .ok (.iload_n 3, 1) := by decide +kernel
theorem dX12_nearly_62 : decode cX12_nearly 62 = .ok (.iaload, 1) := by decide +kernel
theorem dX12_nearly_63 : decode cX12_nearly 63 = .ok (.ifCond .lt 22, 3) := by decide +kernel
theorem dX12_nearly_66 : decode cX12_nearly 66 = .ok (.aload_n 0, 1) := by decide +kernel
theorem dX12_nearly_67 : decode cX12_nearly 67 = .ok (.aload_n 0, 1) := by decide +kernel
theorem dX12_nearly_68 : decode cX12_nearly 68 = .ok (.getfield 28, 3) := by decide +kernel
theorem dX12_nearly_71 : decode cX12_nearly 71 = .ok (.invokevirtual 272, 3) := by decide +kernel
theorem dX12_nearly_74 : decode cX12_nearly 74 = .ok (.lconst 0, 1) := by decide +kernel
theorem dX12_nearly_75 : decode cX12_nearly 75 = .ok (.lcmp, 1) := by decide +kernel
theorem dX12_nearly_76 : decode cX12_nearly 76 = .ok (.ifCond .le 9, 3) := by decide +kernel
theorem dX12_nearly_79 : decode cX12_nearly 79 = .ok (.iconst 1, 1) := by decide +kernel
theorem dX12_nearly_80 : decode cX12_nearly 80 = .ok (.iload_n 3, 1) := by decide +kernel
theorem dX12_nearly_81 : decode cX12_nearly 81 = .ok (.ishl, 1) := by decide +kernel
theorem dX12_nearly_82 : decode cX12_nearly 82 = .ok (.goto 4, 3) := by decide +kernel
theorem dX12_nearly_85 : decode cX12_nearly 85 = .ok (.iconst 0, 1) := by decide +kernel
theorem dX12_nearly_86 : decode cX12_nearly 86 = .ok (.ior, 1) := by decide +kernel
theorem dX12_nearly_87 : decode cX12_nearly 87 = .ok (.istore_n 2, 1) := by decide +kernel
theorem dX12_nearly_88 : decode cX12_nearly 88 = .ok (.aload_n 0, 1) := by decide +kernel
theorem dX12_nearly_89 : decode cX12_nearly 89 = .ok (.getfield 28, 3) := by decide +kernel
theorem dX12_nearly_92 : decode cX12_nearly 92 = .ok (.iload_n 3, 1) := by decide +kernel
theorem dX12_nearly_93 : decode cX12_nearly 93 = .ok (.dup2, 1) := by decide +kernel
theorem dX12_nearly_94 : decode cX12_nearly 94 = .ok (.iaload, 1) := by decide +kernel
theorem dX12_nearly_95 : decode cX12_nearly 95 = .ok (.iload 4, 2) := by decide +kernel
theorem dX12_nearly_97 : decode cX12_nearly 97 = .ok (.isub, 1) := by decide +kernel
theorem dX12_nearly_98 : decode cX12_nearly 98 = .ok (.iastore, 1) := by decide +kernel
theorem dX12_nearly_99 : decode cX12_nearly 99 = .ok (.iinc 3 1, 3) := by decide +kernel
theorem dX12_nearly_102 : decode cX12_nearly 102 = .ok (.goto (-74), 3) := by decide +kernel
theorem dX12_nearly_105 : decode cX12_nearly 105 = .ok (.iload_n 2, 1) := by decide +kernel
theorem dX12_nearly_106 : decode cX12_nearly 106 = .ok (.ireturn, 1) := by decide +kernel
theorem dX12_judged_0 : decode cX12_judged 0 = .ok (.iload_n 1, 1) := by decide +kernel
theorem dX12_judged_1 : decode cX12_judged 1 = .ok (.tableswitch 330 1 7 #[43, 85, 124, 158, 188, 245, 283], 43) := by decide +kernel
theorem dX12_judged_44 : decode cX12_judged 44 = .ok (.iload_n 2, 1) := by decide +kernel
theorem dX12_judged_45 : decode cX12_judged 45 = .ok (.invokestatic 255, 3) := by decide +kernel
theorem dX12_judged_48 : decode cX12_judged 48 = .ok (.ifCond .eq 24, 3) := by decide +kernel
theorem dX12_judged_51 : decode cX12_judged 51 = .ok (.iload_n 3, 1) := by decide +kernel
theorem dX12_judged_52 : decode cX12_judged 52 = .ok (.ifCond .ne 20, 3) := by decide +kernel
theorem dX12_judged_55 : decode cX12_judged 55 = .ok (.iload 4, 2) := by decide +kernel
theorem dX12_judged_57 : decode cX12_judged 57 = .ok (.ifCond .ne 15, 3) := by decide +kernel
theorem dX12_judged_60 : decode cX12_judged 60 = .ok (.aload_n 0, 1) := by decide +kernel
theorem dX12_judged_61 : decode cX12_judged 61 = .ok (.getfield 28, 3) := by decide +kernel
theorem dX12_judged_64 : decode cX12_judged 64 = .ok (.invokestatic 129, 3) := by decide +kernel
theorem dX12_judged_67 : decode cX12_judged 67 = .ok (.bipush 12, 2) := by decide +kernel
theorem dX12_judged_69 : decode cX12_judged 69 = .ok (.if_icmp .ne 5, 3) := by decide +kernel
theorem dX12_judged_72 : decode cX12_judged 72 = .ok (.iconst 0, 1) := by decide +kernel
theorem dX12_judged_73 : decode cX12_judged 73 = .ok (.ireturn, 1) := by decide +kernel
theorem dX12_judged_74 : decode cX12_judged 74 = .ok (.aload_n 0, 1) := by decide +kernel
theorem dX12_judged_75 : decode cX12_judged 75 = .ok (.getfield 28, 3) := by decide +kernel
theorem dX12_judged_78 : decode cX12_judged 78 = .ok (.iload_n 2, 1) := by decide +kernel
theorem dX12_judged_79 : decode cX12_judged 79 = .ok (.dup2, 1) := by decide +kernel
theorem dX12_judged_80 : decode cX12_judged 80 = .ok (.iaload, 1) := by decide +kernel
theorem dX12_judged_81 : decode cX12_judged 81 = .ok (.iconst 1, 1) := by decide +kernel
theorem dX12_judged_82 : decode cX12_judged 82 = .ok (.iadd, 1) := by decide +kernel
theorem dX12_judged_83 : decode cX12_judged 83 = .ok (.iastore, 1) := by decide +kernel
theorem dX12_judged_84 : decode cX12_judged 84 = .ok (.iconst 1, 1) := by decide +kernel
theorem dX12_judged_85 : decode cX12_judged 85 = .ok (.ireturn, 1) := by decide +kernel
theorem dX12_judged_86 : decode cX12_judged 86 = .ok (.iload_n 2, 1) := by decide +kernel
theorem dX12_judged_87 : decode cX12_judged 87 = .ok (.invokestatic 255, 3) := by decide +kernel
theorem dX12_judged_90 : decode cX12_judged 90 = .ok (.ifCond .eq 21, 3) := by decide +kernel
theorem dX12_judged_93 : decode cX12_judged 93 = .ok (.iload_n 3, 1) := by decide +kernel
theorem dX12_judged_94 : decode cX12_judged 94 = .ok (.ifCond .ne 17, 3) := by decide +kernel
theorem dX12_judged_97 : decode cX12_judged 97 = .ok (.iload 4, 2) := by decide +kernel
theorem dX12_judged_99 : decode cX12_judged 99 = .ok (.ifCond .ne 12, 3) := by decide +kernel
theorem dX12_judged_102 : decode cX12_judged 102 = .ok (.aload_n 0, 1) := by decide +kernel
theorem dX12_judged_103 : decode cX12_judged 103 = .ok (.getfield 28, 3) := by decide +kernel
theorem dX12_judged_106 : decode cX12_judged 106 = .ok (.iload_n 2, 1) := by decide +kernel
theorem dX12_judged_107 : decode cX12_judged 107 = .ok (.iaload, 1) := by decide +kernel
theorem dX12_judged_108 : decode cX12_judged 108 = .ok (.ifCond .ne 5, 3) := by decide +kernel
theorem dX12_judged_111 : decode cX12_judged 111 = .ok (.iconst 0, 1) := by decide +kernel
theorem dX12_judged_112 : decode cX12_judged 112 = .ok (.ireturn, 1) := by decide +kernel
theorem dX12_judged_113 : decode cX12_judged 113 = .ok (.aload_n 0, 1) := by decide +kernel
theorem dX12_judged_114 : decode cX12_judged 114 = .ok (.getfield 28, 3) := by decide +kernel
theorem dX12_judged_117 : decode cX12_judged 117 = .ok (.iload_n 2, 1) := by decide +kernel
theorem dX12_judged_118 : decode cX12_judged 118 = .ok (.dup2, 1) := by decide +kernel
theorem dX12_judged_119 : decode cX12_judged 119 = .ok (.iaload, 1) := by decide +kernel
theorem dX12_judged_120 : decode cX12_judged 120 = .ok (.iconst 1, 1) := by decide +kernel
theorem dX12_judged_121 : decode cX12_judged 121 = .ok (.isub, 1) := by decide +kernel
theorem dX12_judged_122 : decode cX12_judged 122 = .ok (.iastore, 1) := by decide +kernel
theorem dX12_judged_123 : decode cX12_judged 123 = .ok (.iconst 1, 1) := by decide +kernel
theorem dX12_judged_124 : decode cX12_judged 124 = .ok (.ireturn, 1) := by decide +kernel
theorem dX12_judged_125 : decode cX12_judged 125 = .ok (.aload_n 0, 1) := by decide +kernel
theorem dX12_judged_126 : decode cX12_judged 126 = .ok (.iload_n 2, 1) := by decide +kernel
theorem dX12_judged_127 : decode cX12_judged 127 = .ok (.invokevirtual 243, 3) := by decide +kernel
theorem dX12_judged_130 : decode cX12_judged 130 = .ok (.ifCond .eq 12, 3) := by decide +kernel
theorem dX12_judged_133 : decode cX12_judged 133 = .ok (.iload_n 3, 1) := by decide +kernel
theorem dX12_judged_134 : decode cX12_judged 134 = .ok (.ifCond .ne 8, 3) := by decide +kernel
theorem dX12_judged_137 : decode cX12_judged 137 = .ok (.iload 4, 2) := by decide +kernel
theorem dX12_judged_139 : decode cX12_judged 139 = .ok (.ifCond .eq 5, 3) := by decide +kernel
theorem dX12_judged_142 : decode cX12_judged 142 = .ok (.iconst 0, 1) := by decide +kernel
theorem dX12_judged_143 : decode cX12_judged 143 = .ok (.ireturn, 1) := by decide +kernel
theorem dX12_judged_144 : decode cX12_judged 144 = .ok (.aload_n 0, 1) := by decide +kernel
theorem dX12_judged_145 : decode cX12_judged 145 = .ok (.getfield 28, 3) := by decide +kernel
theorem dX12_judged_148 : decode cX12_judged 148 = .ok (.bipush 8, 2) := by decide +kernel
theorem dX12_judged_150 : decode cX12_judged 150 = .ok (.dup2, 1) := by decide +kernel
theorem dX12_judged_151 : decode cX12_judged 151 = .ok (.iaload, 1) := by decide +kernel
theorem dX12_judged_152 : decode cX12_judged 152 = .ok (.iconst 1, 1) := by decide +kernel
theorem dX12_judged_153 : decode cX12_judged 153 = .ok (.iload_n 2, 1) := by decide +kernel
theorem dX12_judged_154 : decode cX12_judged 154 = .ok (.ishl, 1) := by decide +kernel
theorem dX12_judged_155 : decode cX12_judged 155 = .ok (.ixor, 1) := by decide +kernel
theorem dX12_judged_156 : decode cX12_judged 156 = .ok (.iastore, 1) := by decide +kernel
theorem dX12_judged_157 : decode cX12_judged 157 = .ok (.iconst 1, 1) := by decide +kernel
theorem dX12_judged_158 : decode cX12_judged 158 = .ok (.ireturn, 1) := by decide +kernel
theorem dX12_judged_159 : decode cX12_judged 159 = .ok (.iload_n 2, 1) := by decide +kernel
theorem dX12_judged_160 : decode cX12_judged 160 = .ok (.ifCond .ne 27, 3) := by decide +kernel
theorem dX12_judged_163 : decode cX12_judged 163 = .ok (.aload_n 0, 1) := by decide +kernel
theorem dX12_judged_164 : decode cX12_judged 164 = .ok (.aload_n 0, 1) := by decide +kernel
theorem dX12_judged_165 : decode cX12_judged 165 = .ok (.getfield 28, 3) := by decide +kernel
theorem dX12_judged_168 : decode cX12_judged 168 = .ok (.invokevirtual 272, 3) := by decide +kernel
theorem dX12_judged_171 : decode cX12_judged 171 = .ok (.bipush 10, 2) := by decide +kernel
theorem dX12_judged_173 : decode cX12_judged 173 = .ok (.iload_n 3, 1) := by decide +kernel
theorem dX12_judged_174 : decode cX12_judged 174 = .ok (.imul, 1) := by decide +kernel
theorem dX12_judged_175 : decode cX12_judged 175 = .ok (.iload 4, 2) := by decide +kernel
theorem dX12_judged_177 : decode cX12_judged 177 = .ok (.iadd, 1) := by decide +kernel
theorem dX12_judged_178 : decode cX12_judged 178 = .ok (.i2l, 1) := by decide +kernel
theorem dX12_judged_179 : decode cX12_judged 179 = .ok (.lcmp, 1) := by decide +kernel
theorem dX12_judged_180 : decode cX12_judged 180 = .ok (.ifCond .ne 7, 3) := by decide +kernel
theorem dX12_judged_183 : decode cX12_judged 183 = .ok (.iconst 1, 1) := by decide +kernel
theorem dX12_judged_184 : decode cX12_judged 184 = .ok (.goto 4, 3) := by decide +kernel
theorem dX12_judged_187 : decode cX12_judged 187 = .ok (.iconst 0, 1) := by decide +kernel
theorem dX12_judged_188 : decode cX12_judged 188 = .ok (.ireturn, 1) := by decide +kernel
theorem dX12_judged_189 : decode cX12_judged 189 = .ok (.aload_n 0, 1) := by decide +kernel
theorem dX12_judged_190 : decode cX12_judged 190 = .ok (.iload_n 2, 1) := by decide +kernel
theorem dX12_judged_191 : decode cX12_judged 191 = .ok (.invokevirtual 243, 3) := by decide +kernel
theorem dX12_judged_194 : decode cX12_judged 194 = .ok (.ifCond .eq 50, 3) := by decide +kernel
theorem dX12_judged_197 : decode cX12_judged 197 = .ok (.iload_n 3, 1) := by decide +kernel
theorem dX12_judged_198 : decode cX12_judged 198 = .ok (.ifCond .ne 46, 3) := by decide +kernel
theorem dX12_judged_201 : decode cX12_judged 201 = .ok (.iload 4, 2) := by decide +kernel
theorem dX12_judged_203 : decode cX12_judged 203 = .ok (.iconst 2, 1) := by decide +kernel
theorem dX12_judged_204 : decode cX12_judged 204 = .ok (.if_icmp .ge 40, 3) := by decide +kernel
theorem dX12_judged_207 : decode cX12_judged 207 = .ok (.aload_n 0, 1) := by decide +kernel
theorem dX12_judged_208 : decode cX12_judged 208 = .ok (.aload_n 0, 1) := by decide +kernel
theorem dX12_judged_209 : decode cX12_judged 209 = .ok (.getfield 28, 3) := by decide +kernel
theorem dX12_judged_212 : decode cX12_judged 212 = .ok (.iload_n 2, 1) := by decide +kernel
theorem dX12_judged_213 : decode cX12_judged 213 = .ok (.invokevirtual 216, 3) := by decide +kernel
theorem dX12_judged_216 : decode cX12_judged 216 = .ok (.lconst 0, 1) := by decide +kernel
theorem dX12_judged_217 : decode cX12_judged 217 = .ok (.lcmp, 1) := by decide +kernel
theorem dX12_judged_218 : decode cX12_judged 218 = .ok (.ifCond .le 7, 3) := by decide +kernel
theorem dX12_judged_221 : decode cX12_judged 221 = .ok (.iconst 1, 1) := by decide +kernel
theorem dX12_judged_222 : decode cX12_judged 222 = .ok (.goto 4, 3) := by decide +kernel
theorem dX12_judged_225 : decode cX12_judged 225 = .ok (.iconst 0, 1) := by decide +kernel
theorem dX12_judged_226 : decode cX12_judged 226 = .ok (.iload 4, 2) := by decide +kernel
theorem dX12_judged_228 : decode cX12_judged 228 = .ok (.iconst 1, 1) := by decide +kernel
theorem dX12_judged_229 : decode cX12_judged 229 = .ok (.if_icmp .ne 7, 3) := by decide +kernel
theorem dX12_judged_232 : decode cX12_judged 232 = .ok (.iconst 1, 1) := by decide +kernel
theorem dX12_judged_233 : decode cX12_judged 233 = .ok (.goto 4, 3) := by decide +kernel
theorem dX12_judged_236 : decode cX12_judged 236 = .ok (.iconst 0, 1) := by decide +kernel
theorem dX12_judged_237 : decode cX12_judged 237 = .ok (.if_icmp .ne 7, 3) := by decide +kernel
theorem dX12_judged_240 : decode cX12_judged 240 = .ok (.iconst 1, 1) := by decide +kernel
theorem dX12_judged_241 : decode cX12_judged 241 = .ok (.goto 4, 3) := by decide +kernel
theorem dX12_judged_244 : decode cX12_judged 244 = .ok (.iconst 0, 1) := by decide +kernel
theorem dX12_judged_245 : decode cX12_judged 245 = .ok (.ireturn, 1) := by decide +kernel
theorem dX12_judged_246 : decode cX12_judged 246 = .ok (.iload_n 2, 1) := by decide +kernel
theorem dX12_judged_247 : decode cX12_judged 247 = .ok (.invokestatic 145, 3) := by decide +kernel
theorem dX12_judged_250 : decode cX12_judged 250 = .ok (.ifCond .eq 15, 3) := by decide +kernel
theorem dX12_judged_253 : decode cX12_judged 253 = .ok (.iload_n 3, 1) := by decide +kernel
theorem dX12_judged_254 : decode cX12_judged 254 = .ok (.invokestatic 145, 3) := by decide +kernel
theorem dX12_judged_257 : decode cX12_judged 257 = .ok (.ifCond .eq 8, 3) := by decide +kernel
theorem dX12_judged_260 : decode cX12_judged 260 = .ok (.iload 4, 2) := by decide +kernel
theorem dX12_judged_262 : decode cX12_judged 262 = .ok (.ifCond .eq 5, 3) := by decide +kernel
theorem dX12_judged_265 : decode cX12_judged 265 = .ok (.iconst 0, 1) := by decide +kernel
theorem dX12_judged_266 : decode cX12_judged 266 = .ok (.ireturn, 1) := by decide +kernel
theorem dX12_judged_267 : decode cX12_judged 267 = .ok (.aload_n 0, 1) := by decide +kernel
theorem dX12_judged_268 : decode cX12_judged 268 = .ok (.getfield 28, 3) := by decide +kernel
theorem dX12_judged_271 : decode cX12_judged 271 = .ok (.bipush 21, 2) := by decide +kernel
theorem dX12_judged_273 : decode cX12_judged 273 = .ok (.iload_n 2, 1) := by decide +kernel
theorem dX12_judged_274 : decode cX12_judged 274 = .ok (.iadd, 1) := by decide +kernel
theorem dX12_judged_275 : decode cX12_judged 275 = .ok (.dup2, 1) := by decide +kernel
theorem dX12_judged_276 : decode cX12_judged 276 = .ok (.iaload, 1) := by decide +kernel
theorem dX12_judged_277 : decode cX12_judged 277 = .ok (.iconst 1, 1) := by decide +kernel
theorem dX12_judged_278 : decode cX12_judged 278 = .ok (.iload_n 3, 1) := by decide +kernel
theorem dX12_judged_279 : decode cX12_judged 279 = .ok (.ishl, 1) := by decide +kernel
theorem dX12_judged_280 : decode cX12_judged 280 = .ok (.ixor, 1) := by decide +kernel
theorem dX12_judged_281 : decode cX12_judged 281 = .ok (.iastore, 1) := by decide +kernel
theorem dX12_judged_282 : decode cX12_judged 282 = .ok (.iconst 1, 1) := by decide +kernel
theorem dX12_judged_283 : decode cX12_judged 283 = .ok (.ireturn, 1) := by decide +kernel
theorem dX12_judged_284 : decode cX12_judged 284 = .ok (.aload_n 0, 1) := by decide +kernel
theorem dX12_judged_285 : decode cX12_judged 285 = .ok (.aload_n 0, 1) := by decide +kernel
theorem dX12_judged_286 : decode cX12_judged 286 = .ok (.getfield 28, 3) := by decide +kernel
theorem dX12_judged_289 : decode cX12_judged 289 = .ok (.invokevirtual 202, 3) := by decide +kernel
theorem dX12_judged_292 : decode cX12_judged 292 = .ok (.aload_n 0, 1) := by decide +kernel
theorem dX12_judged_293 : decode cX12_judged 293 = .ok (.invokevirtual 287, 3) := by decide +kernel
theorem dX12_judged_296 : decode cX12_judged 296 = .ok (.istore 5, 2) := by decide +kernel
theorem dX12_judged_298 : decode cX12_judged 298 = .ok (.iload_n 2, 1) := by decide +kernel
theorem dX12_judged_299 : decode cX12_judged 299 = .ok (.ifCond .ne 30, 3) := by decide +kernel
theorem dX12_judged_302 : decode cX12_judged 302 = .ok (.iload 5, 2) := by decide +kernel
theorem dX12_judged_304 : decode cX12_judged 304 = .ok (.bipush (-9), 2) := by decide +kernel
theorem dX12_judged_306 : decode cX12_judged 306 = .ok (.if_icmp .eq 23, 3) := by decide +kernel
theorem dX12_judged_309 : decode cX12_judged 309 = .ok (.aload_n 0, 1) := by decide +kernel
theorem dX12_judged_310 : decode cX12_judged 310 = .ok (.iload 5, 2) := by decide +kernel
theorem dX12_judged_312 : decode cX12_judged 312 = .ok (.invokevirtual 290, 3) := by decide +kernel
theorem dX12_judged_315 : decode cX12_judged 315 = .ok (.bipush 10, 2) := by decide +kernel
theorem dX12_judged_317 : decode cX12_judged 317 = .ok (.iload_n 3, 1) := by decide +kernel
theorem dX12_judged_318 : decode cX12_judged 318 = .ok (.imul, 1) := by decide +kernel
theorem dX12_judged_319 : decode cX12_judged 319 = .ok (.iload 4, 2) := by decide +kernel
theorem dX12_judged_321 : decode cX12_judged 321 = .ok (.iadd, 1) := by decide +kernel
theorem dX12_judged_322 : decode cX12_judged 322 = .ok (.if_icmp .ne 7, 3) := by decide +kernel
theorem dX12_judged_325 : decode cX12_judged 325 = .ok (.iconst 1, 1) := by decide +kernel
theorem dX12_judged_326 : decode cX12_judged 326 = .ok (.goto 4, 3) := by decide +kernel
theorem dX12_judged_329 : decode cX12_judged 329 = .ok (.iconst 0, 1) := by decide +kernel
theorem dX12_judged_330 : decode cX12_judged 330 = .ok (.ireturn, 1) := by decide +kernel
theorem dX12_judged_331 : decode cX12_judged 331 = .ok (.iconst 0, 1) := by decide +kernel
theorem dX12_judged_332 : decode cX12_judged 332 = .ok (.ireturn, 1) := by decide +kernel
theorem dX12_tenThousands_0 : decode cX12_tenThousands 0 = .ok (.lconst 1, 1) := by decide +kernel
theorem dX12_tenThousands_1 : decode cX12_tenThousands 1 = .ok (.lstore_n 1, 1) := by decide +kernel
theorem dX12_tenThousands_2 : decode cX12_tenThousands 2 = .ok (.iconst 0, 1) := by decide +kernel
theorem dX12_tenThousands_3 : decode cX12_tenThousands 3 = .ok (.istore_n 3, 1) := by decide +kernel
theorem dX12_tenThousands_4 : decode cX12_tenThousands 4 = .ok (.iload_n 3, 1) := by decide +kernel
theorem dX12_tenThousands_5 : decode cX12_tenThousands 5 = .ok (.iload_n 0, 1) := by decide +kernel
theorem dX12_tenThousands_6 : decode cX12_tenThousands 6 = .ok (.if_icmp .ge 15, 3) := by decide +kernel
theorem dX12_tenThousands_9 : decode cX12_tenThousands 9 = .ok (.lload_n 1, 1) := by decide +kernel
theorem dX12_tenThousands_10 : decode cX12_tenThousands 10 = .ok (.ldc2_w 314, 3) := by decide +kernel
theorem dX12_tenThousands_13 : decode cX12_tenThousands 13 = .ok (.lmul, 1) := by decide +kernel
theorem dX12_tenThousands_14 : decode cX12_tenThousands 14 = .ok (.lstore_n 1, 1) := by decide +kernel
theorem dX12_tenThousands_15 : decode cX12_tenThousands 15 = .ok (.iinc 3 1, 3) := by decide +kernel
theorem dX12_tenThousands_18 : decode cX12_tenThousands 18 = .ok (.goto (-14), 3) := by decide +kernel
theorem dX12_tenThousands_21 : decode cX12_tenThousands 21 = .ok (.lload_n 1, 1) := by decide +kernel
theorem dX12_tenThousands_22 : decode cX12_tenThousands 22 = .ok (.lreturn, 1) := by decide +kernel
theorem dX12_judge_0 : decode cX12_judge 0 = .ok (.iload_n 1, 1) := by decide +kernel
theorem dX12_judge_1 : decode cX12_judge 1 = .ok (.i2l, 1) := by decide +kernel
theorem dX12_judge_2 : decode cX12_judge 2 = .ok (.lconst 1, 1) := by decide +kernel
theorem dX12_judge_3 : decode cX12_judge 3 = .ok (.ldc2_w 316, 3) := by decide +kernel
theorem dX12_judge_6 : decode cX12_judge 6 = .ok (.invokestatic 107, 3) := by decide +kernel
theorem dX12_judge_9 : decode cX12_judge 9 = .ok (.ifCond .eq 17, 3) := by decide +kernel
theorem dX12_judge_12 : decode cX12_judge 12 = .ok (.lload_n 2, 1) := by decide +kernel
theorem dX12_judge_13 : decode cX12_judge 13 = .ok (.lconst 0, 1) := by decide +kernel
theorem dX12_judge_14 : decode cX12_judge 14 = .ok (.iload_n 1, 1) := by decide +kernel
theorem dX12_judge_15 : decode cX12_judge 15 = .ok (.invokestatic 318, 3) := by decide +kernel
theorem dX12_judge_18 : decode cX12_judge 18 = .ok (.lconst 1, 1) := by decide +kernel
theorem dX12_judge_19 : decode cX12_judge 19 = .ok (.lsub, 1) := by decide +kernel
theorem dX12_judge_20 : decode cX12_judge 20 = .ok (.invokestatic 107, 3) := by decide +kernel
theorem dX12_judge_23 : decode cX12_judge 23 = .ok (.ifCond .ne 6, 3) := by decide +kernel
theorem dX12_judge_26 : decode cX12_judge 26 = .ok (.bipush (-2), 2) := by decide +kernel
theorem dX12_judge_28 : decode cX12_judge 28 = .ok (.ireturn, 1) := by decide +kernel
theorem dX12_judge_29 : decode cX12_judge 29 = .ok (.aload_n 0, 1) := by decide +kernel
theorem dX12_judge_30 : decode cX12_judge 30 = .ok (.getfield 25, 3) := by decide +kernel
theorem dX12_judge_33 : decode cX12_judge 33 = .ok (.aload_n 0, 1) := by decide +kernel
theorem dX12_judge_34 : decode cX12_judge 34 = .ok (.getfield 28, 3) := by decide +kernel
theorem dX12_judge_37 : decode cX12_judge 37 = .ok (.invokestatic 178, 3) := by decide +kernel
theorem dX12_judge_40 : decode cX12_judge 40 = .ok (.iconst 0, 1) := by decide +kernel
theorem dX12_judge_41 : decode cX12_judge 41 = .ok (.istore 4, 2) := by decide +kernel
theorem dX12_judge_43 : decode cX12_judge 43 = .ok (.iload 4, 2) := by decide +kernel
theorem dX12_judge_45 : decode cX12_judge 45 = .ok (.iload_n 1, 1) := by decide +kernel
theorem dX12_judge_46 : decode cX12_judge 46 = .ok (.if_icmp .ge 64, 3) := by decide +kernel
theorem dX12_judge_49 : decode cX12_judge 49 = .ok (.lload_n 2, 1) := by decide +kernel
theorem dX12_judge_50 : decode cX12_judge 50 = .ok (.iload_n 1, 1) := by decide +kernel
theorem dX12_judge_51 : decode cX12_judge 51 = .ok (.iconst 1, 1) := by decide +kernel
theorem dX12_judge_52 : decode cX12_judge 52 = .ok (.isub, 1) := by decide +kernel
theorem dX12_judge_53 : decode cX12_judge 53 = .ok (.iload 4, 2) := by decide +kernel
theorem dX12_judge_55 : decode cX12_judge 55 = .ok (.isub, 1) := by decide +kernel
theorem dX12_judge_56 : decode cX12_judge 56 = .ok (.invokestatic 318, 3) := by decide +kernel
theorem dX12_judge_59 : decode cX12_judge 59 = .ok (.ldiv, 1) := by decide +kernel
theorem dX12_judge_60 : decode cX12_judge 60 = .ok (.ldc2_w 314, 3) := by decide +kernel
theorem dX12_judge_63 : decode cX12_judge 63 = .ok (.lrem, 1) := by decide +kernel
theorem dX12_judge_64 : decode cX12_judge 64 = .ok (.l2i, 1) := by decide +kernel
theorem dX12_judge_65 : decode cX12_judge 65 = .ok (.istore 5, 2) := by decide +kernel
theorem dX12_judge_67 : decode cX12_judge 67 = .ok (.aload_n 0, 1) := by decide +kernel
theorem dX12_judge_68 : decode cX12_judge 68 = .ok (.iload 5, 2) := by decide +kernel
theorem dX12_judge_70 : decode cX12_judge 70 = .ok (.sipush 1000, 3) := by decide +kernel
theorem dX12_judge_73 : decode cX12_judge 73 = .ok (.idiv, 1) := by decide +kernel
theorem dX12_judge_74 : decode cX12_judge 74 = .ok (.iload 5, 2) := by decide +kernel
theorem dX12_judge_76 : decode cX12_judge 76 = .ok (.bipush 100, 2) := by decide +kernel
theorem dX12_judge_78 : decode cX12_judge 78 = .ok (.idiv, 1) := by decide +kernel
theorem dX12_judge_79 : decode cX12_judge 79 = .ok (.bipush 10, 2) := by decide +kernel
theorem dX12_judge_81 : decode cX12_judge 81 = .ok (.irem, 1) := by decide +kernel
theorem dX12_judge_82 : decode cX12_judge 82 = .ok (.iload 5, 2) := by decide +kernel
theorem dX12_judge_84 : decode cX12_judge 84 = .ok (.bipush 10, 2) := by decide +kernel
theorem dX12_judge_86 : decode cX12_judge 86 = .ok (.idiv, 1) := by decide +kernel
theorem dX12_judge_87 : decode cX12_judge 87 = .ok (.bipush 10, 2) := by decide +kernel
theorem dX12_judge_89 : decode cX12_judge 89 = .ok (.irem, 1) := by decide +kernel
theorem dX12_judge_90 : decode cX12_judge 90 = .ok (.iload 5, 2) := by decide +kernel
theorem dX12_judge_92 : decode cX12_judge 92 = .ok (.bipush 10, 2) := by decide +kernel
theorem dX12_judge_94 : decode cX12_judge 94 = .ok (.irem, 1) := by decide +kernel
theorem dX12_judge_95 : decode cX12_judge 95 = .ok (.invokevirtual 321, 3) := by decide +kernel
theorem dX12_judge_98 : decode cX12_judge 98 = .ok (.ifCond .ne 6, 3) := by decide +kernel
theorem dX12_judge_101 : decode cX12_judge 101 = .ok (.iload 4, 2) := by decide +kernel
theorem dX12_judge_103 : decode cX12_judge 103 = .ok (.ireturn, 1) := by decide +kernel
theorem dX12_judge_104 : decode cX12_judge 104 = .ok (.iinc 4 1, 3) := by decide +kernel
theorem dX12_judge_107 : decode cX12_judge 107 = .ok (.goto (-64), 3) := by decide +kernel
theorem dX12_judge_110 : decode cX12_judge 110 = .ok (.bipush (-9), 2) := by decide +kernel
theorem dX12_judge_112 : decode cX12_judge 112 = .ok (.ireturn, 1) := by decide +kernel
theorem dX12_see_0 : decode cX12_see 0 = .ok (.iload_n 1, 1) := by decide +kernel
theorem dX12_see_1 : decode cX12_see 1 = .ok (.i2l, 1) := by decide +kernel
theorem dX12_see_2 : decode cX12_see 2 = .ok (.lconst 0, 1) := by decide +kernel
theorem dX12_see_3 : decode cX12_see 3 = .ok (.ldc2_w 113, 3) := by decide +kernel
theorem dX12_see_6 : decode cX12_see 6 = .ok (.invokestatic 107, 3) := by decide +kernel
theorem dX12_see_9 : decode cX12_see 9 = .ok (.ifCond .eq 25, 3) := by decide +kernel
theorem dX12_see_12 : decode cX12_see 12 = .ok (.iload_n 2, 1) := by decide +kernel
theorem dX12_see_13 : decode cX12_see 13 = .ok (.i2l, 1) := by decide +kernel
theorem dX12_see_14 : decode cX12_see 14 = .ok (.lconst 0, 1) := by decide +kernel
theorem dX12_see_15 : decode cX12_see 15 = .ok (.ldc2_w 268, 3) := by decide +kernel
theorem dX12_see_18 : decode cX12_see 18 = .ok (.invokestatic 107, 3) := by decide +kernel
theorem dX12_see_21 : decode cX12_see 21 = .ok (.ifCond .eq 13, 3) := by decide +kernel
theorem dX12_see_24 : decode cX12_see 24 = .ok (.iload_n 3, 1) := by decide +kernel
theorem dX12_see_25 : decode cX12_see 25 = .ok (.i2l, 1) := by decide +kernel
theorem dX12_see_26 : decode cX12_see 26 = .ok (.lconst 0, 1) := by decide +kernel
theorem dX12_see_27 : decode cX12_see 27 = .ok (.lconst 1, 1) := by decide +kernel
theorem dX12_see_28 : decode cX12_see 28 = .ok (.invokestatic 107, 3) := by decide +kernel
theorem dX12_see_31 : decode cX12_see 31 = .ok (.ifCond .ne 6, 3) := by decide +kernel
theorem dX12_see_34 : decode cX12_see 34 = .ok (.bipush (-2), 2) := by decide +kernel
theorem dX12_see_36 : decode cX12_see 36 = .ok (.ireturn, 1) := by decide +kernel
theorem dX12_see_37 : decode cX12_see 37 = .ok (.aload_n 0, 1) := by decide +kernel
theorem dX12_see_38 : decode cX12_see 38 = .ok (.getfield 237, 3) := by decide +kernel
theorem dX12_see_41 : decode cX12_see 41 = .ok (.bipush 6, 2) := by decide +kernel
theorem dX12_see_43 : decode cX12_see 43 = .ok (.if_icmp .ne 6, 3) := by decide +kernel
theorem dX12_see_46 : decode cX12_see 46 = .ok (.bipush (-4), 2) := by decide +kernel
theorem dX12_see_48 : decode cX12_see 48 = .ok (.ireturn, 1) := by decide +kernel
theorem dX12_see_49 : decode cX12_see 49 = .ok (.aload_n 0, 1) := by decide +kernel
theorem dX12_see_50 : decode cX12_see 50 = .ok (.getfield 44, 3) := by decide +kernel
theorem dX12_see_53 : decode cX12_see 53 = .ok (.aload_n 0, 1) := by decide +kernel
theorem dX12_see_54 : decode cX12_see 54 = .ok (.getfield 237, 3) := by decide +kernel
theorem dX12_see_57 : decode cX12_see 57 = .ok (.iload_n 1, 1) := by decide +kernel
theorem dX12_see_58 : decode cX12_see 58 = .ok (.iastore, 1) := by decide +kernel
theorem dX12_see_59 : decode cX12_see 59 = .ok (.aload_n 0, 1) := by decide +kernel
theorem dX12_see_60 : decode cX12_see 60 = .ok (.getfield 47, 3) := by decide +kernel
theorem dX12_see_63 : decode cX12_see 63 = .ok (.aload_n 0, 1) := by decide +kernel
theorem dX12_see_64 : decode cX12_see 64 = .ok (.getfield 237, 3) := by decide +kernel
theorem dX12_see_67 : decode cX12_see 67 = .ok (.iload_n 2, 1) := by decide +kernel
theorem dX12_see_68 : decode cX12_see 68 = .ok (.iastore, 1) := by decide +kernel
theorem dX12_see_69 : decode cX12_see 69 = .ok (.aload_n 0, 1) := by decide +kernel
theorem dX12_see_70 : decode cX12_see 70 = .ok (.getfield 50, 3) := by decide +kernel
theorem dX12_see_73 : decode cX12_see 73 = .ok (.aload_n 0, 1) := by decide +kernel
theorem dX12_see_74 : decode cX12_see 74 = .ok (.getfield 237, 3) := by decide +kernel
theorem dX12_see_77 : decode cX12_see 77 = .ok (.iload_n 3, 1) := by decide +kernel
theorem dX12_see_78 : decode cX12_see 78 = .ok (.iastore, 1) := by decide +kernel
theorem dX12_see_79 : decode cX12_see 79 = .ok (.aload_n 0, 1) := by decide +kernel
theorem dX12_see_80 : decode cX12_see 80 = .ok (.dup, 1) := by decide +kernel
theorem dX12_see_81 : decode cX12_see 81 = .ok (.getfield 237, 3) := by decide +kernel
theorem dX12_see_84 : decode cX12_see 84 = .ok (.iconst 1, 1) := by decide +kernel
theorem dX12_see_85 : decode cX12_see 85 = .ok (.iadd, 1) := by decide +kernel
theorem dX12_see_86 : decode cX12_see 86 = .ok (.putfield 237, 3) := by decide +kernel
theorem dX12_see_89 : decode cX12_see 89 = .ok (.aload_n 0, 1) := by decide +kernel
theorem dX12_see_90 : decode cX12_see 90 = .ok (.getfield 237, 3) := by decide +kernel
theorem dX12_see_93 : decode cX12_see 93 = .ok (.ireturn, 1) := by decide +kernel
theorem dX12_unsee_0 : decode cX12_unsee 0 = .ok (.aload_n 0, 1) := by decide +kernel
theorem dX12_unsee_1 : decode cX12_unsee 1 = .ok (.getfield 237, 3) := by decide +kernel
theorem dX12_unsee_4 : decode cX12_unsee 4 = .ok (.istore_n 1, 1) := by decide +kernel
theorem dX12_unsee_5 : decode cX12_unsee 5 = .ok (.aload_n 0, 1) := by decide +kernel
theorem dX12_unsee_6 : decode cX12_unsee 6 = .ok (.iconst 0, 1) := by decide +kernel
theorem dX12_unsee_7 : decode cX12_unsee 7 = .ok (.putfield 237, 3) := by decide +kernel
theorem dX12_unsee_10 : decode cX12_unsee 10 = .ok (.iload_n 1, 1) := by decide +kernel
theorem dX12_unsee_11 : decode cX12_unsee 11 = .ok (.ireturn, 1) := by decide +kernel
theorem dX12_isSo_0 : decode cX12_isSo 0 = .ok (.iconst 0, 1) := by decide +kernel
theorem dX12_isSo_1 : decode cX12_isSo 1 = .ok (.istore 4, 2) := by decide +kernel
theorem dX12_isSo_3 : decode cX12_isSo 3 = .ok (.iconst 0, 1) := by decide +kernel
theorem dX12_isSo_4 : decode cX12_isSo 4 = .ok (.istore 5, 2) := by decide +kernel
theorem dX12_isSo_6 : decode cX12_isSo 6 = .ok (.iload 5, 2) := by decide +kernel
theorem dX12_isSo_8 : decode cX12_isSo 8 = .ok (.iload_n 1, 1) := by decide +kernel
theorem dX12_isSo_9 : decode cX12_isSo 9 = .ok (.if_icmp .ge 32, 3) := by decide +kernel
theorem dX12_isSo_12 : decode cX12_isSo 12 = .ok (.iload 4, 2) := by decide +kernel
theorem dX12_isSo_14 : decode cX12_isSo 14 = .ok (.ifCond .ne 14, 3) := by decide +kernel
theorem dX12_isSo_17 : decode cX12_isSo 17 = .ok (.aload_n 0, 1) := by decide +kernel
theorem dX12_isSo_18 : decode cX12_isSo 18 = .ok (.getfield 90, 3) := by decide +kernel
theorem dX12_isSo_21 : decode cX12_isSo 21 = .ok (.iload 5, 2) := by decide +kernel
theorem dX12_isSo_23 : decode cX12_isSo 23 = .ok (.iaload, 1) := by decide +kernel
theorem dX12_isSo_24 : decode cX12_isSo 24 = .ok (.iload_n 3, 1) := by decide +kernel
theorem dX12_isSo_25 : decode cX12_isSo 25 = .ok (.if_icmp .ne 7, 3) := by decide +kernel
theorem dX12_isSo_28 : decode cX12_isSo 28 = .ok (.iconst 1, 1) := by decide +kernel
theorem dX12_isSo_29 : decode cX12_isSo 29 = .ok (.goto 4, 3) := by decide +kernel
theorem dX12_isSo_32 : decode cX12_isSo 32 = .ok (.iconst 0, 1) := by decide +kernel
theorem dX12_isSo_33 : decode cX12_isSo 33 = .ok (.istore 4, 2) := by decide +kernel
theorem dX12_isSo_35 : decode cX12_isSo 35 = .ok (.iinc 5 1, 3) := by decide +kernel
theorem dX12_isSo_38 : decode cX12_isSo 38 = .ok (.goto (-32), 3) := by decide +kernel
theorem dX12_isSo_41 : decode cX12_isSo 41 = .ok (.iload_n 2, 1) := by decide +kernel
theorem dX12_isSo_42 : decode cX12_isSo 42 = .ok (.ifCond .ne 8, 3) := by decide +kernel
theorem dX12_isSo_45 : decode cX12_isSo 45 = .ok (.iload 4, 2) := by decide +kernel
theorem dX12_isSo_47 : decode cX12_isSo 47 = .ok (.goto 61, 3) := by decide +kernel
theorem dX12_isSo_50 : decode cX12_isSo 50 = .ok (.iload_n 2, 1) := by decide +kernel
theorem dX12_isSo_51 : decode cX12_isSo 51 = .ok (.iconst 1, 1) := by decide +kernel
theorem dX12_isSo_52 : decode cX12_isSo 52 = .ok (.if_icmp .ne 16, 3) := by decide +kernel
theorem dX12_isSo_55 : decode cX12_isSo 55 = .ok (.iload_n 1, 1) := by decide +kernel
theorem dX12_isSo_56 : decode cX12_isSo 56 = .ok (.iload_n 3, 1) := by decide +kernel
theorem dX12_isSo_57 : decode cX12_isSo 57 = .ok (.if_icmp .ne 7, 3) := by decide +kernel
theorem dX12_isSo_60 : decode cX12_isSo 60 = .ok (.iconst 1, 1) := by decide +kernel
theorem dX12_isSo_61 : decode cX12_isSo 61 = .ok (.goto 47, 3) := by decide +kernel
theorem dX12_isSo_64 : decode cX12_isSo 64 = .ok (.iconst 0, 1) := by decide +kernel
theorem dX12_isSo_65 : decode cX12_isSo 65 = .ok (.goto 43, 3) := by decide +kernel
theorem dX12_isSo_68 : decode cX12_isSo 68 = .ok (.iload_n 2, 1) := by decide +kernel
theorem dX12_isSo_69 : decode cX12_isSo 69 = .ok (.iconst 2, 1) := by decide +kernel
theorem dX12_isSo_70 : decode cX12_isSo 70 = .ok (.if_icmp .ne 21, 3) := by decide +kernel
theorem dX12_isSo_73 : decode cX12_isSo 73 = .ok (.aload_n 0, 1) := by decide +kernel
theorem dX12_isSo_74 : decode cX12_isSo 74 = .ok (.getfield 90, 3) := by decide +kernel
theorem dX12_isSo_77 : decode cX12_isSo 77 = .ok (.iconst 0, 1) := by decide +kernel
theorem dX12_isSo_78 : decode cX12_isSo 78 = .ok (.iaload, 1) := by decide +kernel
theorem dX12_isSo_79 : decode cX12_isSo 79 = .ok (.iload_n 3, 1) := by decide +kernel
theorem dX12_isSo_80 : decode cX12_isSo 80 = .ok (.if_icmp .ne 7, 3) := by decide +kernel
theorem dX12_isSo_83 : decode cX12_isSo 83 = .ok (.iconst 1, 1) := by decide +kernel
theorem dX12_isSo_84 : decode cX12_isSo 84 = .ok (.goto 24, 3) := by decide +kernel
theorem dX12_isSo_87 : decode cX12_isSo 87 = .ok (.iconst 0, 1) := by decide +kernel
theorem dX12_isSo_88 : decode cX12_isSo 88 = .ok (.goto 20, 3) := by decide +kernel
theorem dX12_isSo_91 : decode cX12_isSo 91 = .ok (.aload_n 0, 1) := by decide +kernel
theorem dX12_isSo_92 : decode cX12_isSo 92 = .ok (.getfield 90, 3) := by decide +kernel
theorem dX12_isSo_95 : decode cX12_isSo 95 = .ok (.iload_n 1, 1) := by decide +kernel
theorem dX12_isSo_96 : decode cX12_isSo 96 = .ok (.iconst 1, 1) := by decide +kernel
theorem dX12_isSo_97 : decode cX12_isSo 97 = .ok (.isub, 1) := by decide +kernel
theorem dX12_isSo_98 : decode cX12_isSo 98 = .ok (.iaload, 1) := by decide +kernel
theorem dX12_isSo_99 : decode cX12_isSo 99 = .ok (.iload_n 3, 1) := by decide +kernel
theorem dX12_isSo_100 : decode cX12_isSo 100 = .ok (.if_icmp .ne 7, 3) := by decide +kernel
theorem dX12_isSo_103 : decode cX12_isSo 103 = .ok (.iconst 1, 1) := by decide +kernel
theorem dX12_isSo_104 : decode cX12_isSo 104 = .ok (.goto 4, 3) := by decide +kernel
theorem dX12_isSo_107 : decode cX12_isSo 107 = .ok (.iconst 0, 1) := by decide +kernel
theorem dX12_isSo_108 : decode cX12_isSo 108 = .ok (.ireturn, 1) := by decide +kernel
theorem dX12_left_0 : decode cX12_left 0 = .ok (.iload_n 1, 1) := by decide +kernel
theorem dX12_left_1 : decode cX12_left 1 = .ok (.i2l, 1) := by decide +kernel
theorem dX12_left_2 : decode cX12_left 2 = .ok (.lconst 0, 1) := by decide +kernel
theorem dX12_left_3 : decode cX12_left 3 = .ok (.lconst 1, 1) := by decide +kernel
theorem dX12_left_4 : decode cX12_left 4 = .ok (.invokestatic 107, 3) := by decide +kernel
theorem dX12_left_7 : decode cX12_left 7 = .ok (.ifCond .ne 6, 3) := by decide +kernel
theorem dX12_left_10 : decode cX12_left 10 = .ok (.bipush (-2), 2) := by decide +kernel
theorem dX12_left_12 : decode cX12_left 12 = .ok (.ireturn, 1) := by decide +kernel
theorem dX12_left_13 : decode cX12_left 13 = .ok (.aload_n 0, 1) := by decide +kernel
theorem dX12_left_14 : decode cX12_left 14 = .ok (.aload_n 0, 1) := by decide +kernel
theorem dX12_left_15 : decode cX12_left 15 = .ok (.getfield 25, 3) := by decide +kernel
theorem dX12_left_18 : decode cX12_left 18 = .ok (.invokevirtual 272, 3) := by decide +kernel
theorem dX12_left_21 : decode cX12_left 21 = .ok (.lstore_n 2, 1) := by decide +kernel
theorem dX12_left_22 : decode cX12_left 22 = .ok (.lload_n 2, 1) := by decide +kernel
theorem dX12_left_23 : decode cX12_left 23 = .ok (.ldc2_w 325, 3) := by decide +kernel
theorem dX12_left_26 : decode cX12_left 26 = .ok (.lcmp, 1) := by decide +kernel
theorem dX12_left_27 : decode cX12_left 27 = .ok (.ifCond .le 6, 3) := by decide +kernel
theorem dX12_left_30 : decode cX12_left 30 = .ok (.bipush (-3), 2) := by decide +kernel
theorem dX12_left_32 : decode cX12_left 32 = .ok (.ireturn, 1) := by decide +kernel
theorem dX12_left_33 : decode cX12_left 33 = .ok (.iconst 0, 1) := by decide +kernel
theorem dX12_left_34 : decode cX12_left 34 = .ok (.istore 4, 2) := by decide +kernel
theorem dX12_left_36 : decode cX12_left 36 = .ok (.bipush (-9), 2) := by decide +kernel
theorem dX12_left_38 : decode cX12_left 38 = .ok (.istore 5, 2) := by decide +kernel
theorem dX12_left_40 : decode cX12_left 40 = .ok (.lload_n 2, 1) := by decide +kernel
theorem dX12_left_41 : decode cX12_left 41 = .ok (.l2i, 1) := by decide +kernel
theorem dX12_left_42 : decode cX12_left 42 = .ok (.iconst 1, 1) := by decide +kernel
theorem dX12_left_43 : decode cX12_left 43 = .ok (.isub, 1) := by decide +kernel
theorem dX12_left_44 : decode cX12_left 44 = .ok (.istore 6, 2) := by decide +kernel
theorem dX12_left_46 : decode cX12_left 46 = .ok (.iload 6, 2) := by decide +kernel
theorem dX12_left_48 : decode cX12_left 48 = .ok (.ifCond .lt 119, 3) := by decide +kernel
theorem dX12_left_51 : decode cX12_left 51 = .ok (.aload_n 0, 1) := by decide +kernel
theorem dX12_left_52 : decode cX12_left 52 = .ok (.iload 6, 2) := by decide +kernel
theorem dX12_left_54 : decode cX12_left 54 = .ok (.i2l, 1) := by decide +kernel
theorem dX12_left_55 : decode cX12_left 55 = .ok (.invokevirtual 293, 3) := by decide +kernel
theorem dX12_left_58 : decode cX12_left 58 = .ok (.istore 7, 2) := by decide +kernel
theorem dX12_left_60 : decode cX12_left 60 = .ok (.iconst 1, 1) := by decide +kernel
theorem dX12_left_61 : decode cX12_left 61 = .ok (.istore 8, 2) := by decide +kernel
theorem dX12_left_63 : decode cX12_left 63 = .ok (.iconst 0, 1) := by decide +kernel
theorem dX12_left_64 : decode cX12_left 64 = .ok (.istore 9, 2) := by decide +kernel
theorem dX12_left_66 : decode cX12_left 66 = .ok (.iload 9, 2) := by decide +kernel
theorem dX12_left_68 : decode cX12_left 68 = .ok (.aload_n 0, 1) := by decide +kernel
theorem dX12_left_69 : decode cX12_left 69 = .ok (.getfield 237, 3) := by decide +kernel
theorem dX12_left_72 : decode cX12_left 72 = .ok (.if_icmp .ge 60, 3) := by decide +kernel
theorem dX12_left_75 : decode cX12_left 75 = .ok (.iload 8, 2) := by decide +kernel
theorem dX12_left_77 : decode cX12_left 77 = .ok (.ifCond .eq 46, 3) := by decide +kernel
theorem dX12_left_80 : decode cX12_left 80 = .ok (.aload_n 0, 1) := by decide +kernel
theorem dX12_left_81 : decode cX12_left 81 = .ok (.iload 7, 2) := by decide +kernel
theorem dX12_left_83 : decode cX12_left 83 = .ok (.aload_n 0, 1) := by decide +kernel
theorem dX12_left_84 : decode cX12_left 84 = .ok (.getfield 44, 3) := by decide +kernel
theorem dX12_left_87 : decode cX12_left 87 = .ok (.iload 9, 2) := by decide +kernel
theorem dX12_left_89 : decode cX12_left 89 = .ok (.iaload, 1) := by decide +kernel
theorem dX12_left_90 : decode cX12_left 90 = .ok (.aload_n 0, 1) := by decide +kernel
theorem dX12_left_91 : decode cX12_left 91 = .ok (.getfield 47, 3) := by decide +kernel
theorem dX12_left_94 : decode cX12_left 94 = .ok (.iload 9, 2) := by decide +kernel
theorem dX12_left_96 : decode cX12_left 96 = .ok (.iaload, 1) := by decide +kernel
theorem dX12_left_97 : decode cX12_left 97 = .ok (.invokevirtual 327, 3) := by decide +kernel
theorem dX12_left_100 : decode cX12_left 100 = .ok (.aload_n 0, 1) := by decide +kernel
theorem dX12_left_101 : decode cX12_left 101 = .ok (.getfield 50, 3) := by decide +kernel
theorem dX12_left_104 : decode cX12_left 104 = .ok (.iload 9, 2) := by decide +kernel
theorem dX12_left_106 : decode cX12_left 106 = .ok (.iaload, 1) := by decide +kernel
theorem dX12_left_107 : decode cX12_left 107 = .ok (.iconst 1, 1) := by decide +kernel
theorem dX12_left_108 : decode cX12_left 108 = .ok (.if_icmp .ne 7, 3) := by decide +kernel
theorem dX12_left_111 : decode cX12_left 111 = .ok (.iconst 1, 1) := by decide +kernel
theorem dX12_left_112 : decode cX12_left 112 = .ok (.goto 4, 3) := by decide +kernel
theorem dX12_left_115 : decode cX12_left 115 = .ok (.iconst 0, 1) := by decide +kernel
theorem dX12_left_116 : decode cX12_left 116 = .ok (.if_icmp .ne 7, 3) := by decide +kernel
theorem dX12_left_119 : decode cX12_left 119 = .ok (.iconst 1, 1) := by decide +kernel
theorem dX12_left_120 : decode cX12_left 120 = .ok (.goto 4, 3) := by decide +kernel
theorem dX12_left_123 : decode cX12_left 123 = .ok (.iconst 0, 1) := by decide +kernel
theorem dX12_left_124 : decode cX12_left 124 = .ok (.istore 8, 2) := by decide +kernel
theorem dX12_left_126 : decode cX12_left 126 = .ok (.iinc 9 1, 3) := by decide +kernel
theorem dX12_left_129 : decode cX12_left 129 = .ok (.goto (-63), 3) := by decide +kernel
theorem dX12_left_132 : decode cX12_left 132 = .ok (.iload 4, 2) := by decide +kernel
theorem dX12_left_134 : decode cX12_left 134 = .ok (.iload 8, 2) := by decide +kernel
theorem dX12_left_136 : decode cX12_left 136 = .ok (.ifCond .eq 7, 3) := by decide +kernel
theorem dX12_left_139 : decode cX12_left 139 = .ok (.iconst 1, 1) := by decide +kernel
theorem dX12_left_140 : decode cX12_left 140 = .ok (.goto 4, 3) := by decide +kernel
theorem dX12_left_143 : decode cX12_left 143 = .ok (.iconst 0, 1) := by decide +kernel
theorem dX12_left_144 : decode cX12_left 144 = .ok (.iadd, 1) := by decide +kernel
theorem dX12_left_145 : decode cX12_left 145 = .ok (.istore 4, 2) := by decide +kernel
theorem dX12_left_147 : decode cX12_left 147 = .ok (.iload 8, 2) := by decide +kernel
theorem dX12_left_149 : decode cX12_left 149 = .ok (.ifCond .eq 8, 3) := by decide +kernel
theorem dX12_left_152 : decode cX12_left 152 = .ok (.iload 6, 2) := by decide +kernel
theorem dX12_left_154 : decode cX12_left 154 = .ok (.goto 5, 3) := by decide +kernel
theorem dX12_left_157 : decode cX12_left 157 = .ok (.iload 5, 2) := by decide +kernel
theorem dX12_left_159 : decode cX12_left 159 = .ok (.istore 5, 2) := by decide +kernel
theorem dX12_left_161 : decode cX12_left 161 = .ok (.iinc 6 (-1), 3) := by decide +kernel
theorem dX12_left_164 : decode cX12_left 164 = .ok (.goto (-118), 3) := by decide +kernel
theorem dX12_left_167 : decode cX12_left 167 = .ok (.iload_n 1, 1) := by decide +kernel
theorem dX12_left_168 : decode cX12_left 168 = .ok (.ifCond .ne 8, 3) := by decide +kernel
theorem dX12_left_171 : decode cX12_left 171 = .ok (.iload 4, 2) := by decide +kernel
theorem dX12_left_173 : decode cX12_left 173 = .ok (.goto 5, 3) := by decide +kernel
theorem dX12_left_176 : decode cX12_left 176 = .ok (.iload 5, 2) := by decide +kernel
theorem dX12_left_178 : decode cX12_left 178 = .ok (.ireturn, 1) := by decide +kernel
theorem dX12_someOf_0 : decode cX12_someOf 0 = .ok (.iconst 0, 1) := by decide +kernel
theorem dX12_someOf_1 : decode cX12_someOf 1 = .ok (.istore_n 2, 1) := by decide +kernel
theorem dX12_someOf_2 : decode cX12_someOf 2 = .ok (.iconst 0, 1) := by decide +kernel
theorem dX12_someOf_3 : decode cX12_someOf 3 = .ok (.istore_n 3, 1) := by decide +kernel
theorem dX12_someOf_4 : decode cX12_someOf 4 = .ok (.iconst 0, 1) := by decide +kernel
theorem dX12_someOf_5 : decode cX12_someOf 5 = .ok (.istore 4, 2) := by decide +kernel
theorem dX12_someOf_7 : decode cX12_someOf 7 = .ok (.iload 4, 2) := by decide +kernel
theorem dX12_someOf_9 : decode cX12_someOf 9 = .ok (.aload_n 0, 1) := by decide +kernel
theorem dX12_someOf_10 : decode cX12_someOf 10 = .ok (.getfield 103, 3) := by decide +kernel
theorem dX12_someOf_13 : decode cX12_someOf 13 = .ok (.if_icmp .ge 46, 3) := by decide +kernel
theorem dX12_someOf_16 : decode cX12_someOf 16 = .ok (.aload_n 0, 1) := by decide +kernel
theorem dX12_someOf_17 : decode cX12_someOf 17 = .ok (.getfield 25, 3) := by decide +kernel
theorem dX12_someOf_20 : decode cX12_someOf 20 = .ok (.bipush 8, 2) := by decide +kernel
theorem dX12_someOf_22 : decode cX12_someOf 22 = .ok (.iaload, 1) := by decide +kernel
theorem dX12_someOf_23 : decode cX12_someOf 23 = .ok (.iload 4, 2) := by decide +kernel
theorem dX12_someOf_25 : decode cX12_someOf 25 = .ok (.invokestatic 149, 3) := by decide +kernel
theorem dX12_someOf_28 : decode cX12_someOf 28 = .ok (.ifCond .ne 25, 3) := by decide +kernel
theorem dX12_someOf_31 : decode cX12_someOf 31 = .ok (.iload_n 2, 1) := by decide +kernel
theorem dX12_someOf_32 : decode cX12_someOf 32 = .ok (.iload_n 1, 1) := by decide +kernel
theorem dX12_someOf_33 : decode cX12_someOf 33 = .ok (.iload_n 3, 1) := by decide +kernel
theorem dX12_someOf_34 : decode cX12_someOf 34 = .ok (.invokestatic 149, 3) := by decide +kernel
theorem dX12_someOf_37 : decode cX12_someOf 37 = .ok (.ifCond .eq 10, 3) := by decide +kernel
theorem dX12_someOf_40 : decode cX12_someOf 40 = .ok (.iconst 1, 1) := by decide +kernel
theorem dX12_someOf_41 : decode cX12_someOf 41 = .ok (.iload 4, 2) := by decide +kernel
theorem dX12_someOf_43 : decode cX12_someOf 43 = .ok (.ishl, 1) := by decide +kernel
theorem dX12_someOf_44 : decode cX12_someOf 44 = .ok (.goto 4, 3) := by decide +kernel
theorem dX12_someOf_47 : decode cX12_someOf 47 = .ok (.iconst 0, 1) := by decide +kernel
theorem dX12_someOf_48 : decode cX12_someOf 48 = .ok (.ior, 1) := by decide +kernel
theorem dX12_someOf_49 : decode cX12_someOf 49 = .ok (.istore_n 2, 1) := by decide +kernel
theorem dX12_someOf_50 : decode cX12_someOf 50 = .ok (.iinc 3 1, 3) := by decide +kernel
theorem dX12_someOf_53 : decode cX12_someOf 53 = .ok (.iinc 4 1, 3) := by decide +kernel
theorem dX12_someOf_56 : decode cX12_someOf 56 = .ok (.goto (-49), 3) := by decide +kernel
theorem dX12_someOf_59 : decode cX12_someOf 59 = .ok (.iload_n 2, 1) := by decide +kernel
theorem dX12_someOf_60 : decode cX12_someOf 60 = .ok (.ireturn, 1) := by decide +kernel
theorem dX12_unbarred_0 : decode cX12_unbarred 0 = .ok (.aload_n 0, 1) := by decide +kernel
theorem dX12_unbarred_1 : decode cX12_unbarred 1 = .ok (.getfield 103, 3) := by decide +kernel
theorem dX12_unbarred_4 : decode cX12_unbarred 4 = .ok (.aload_n 0, 1) := by decide +kernel
theorem dX12_unbarred_5 : decode cX12_unbarred 5 = .ok (.getfield 25, 3) := by decide +kernel
theorem dX12_unbarred_8 : decode cX12_unbarred 8 = .ok (.bipush 8, 2) := by decide +kernel
theorem dX12_unbarred_10 : decode cX12_unbarred 10 = .ok (.iaload, 1) := by decide +kernel
theorem dX12_unbarred_11 : decode cX12_unbarred 11 = .ok (.invokestatic 330, 3) := by decide +kernel
theorem dX12_unbarred_14 : decode cX12_unbarred 14 = .ok (.isub, 1) := by decide +kernel
theorem dX12_unbarred_15 : decode cX12_unbarred 15 = .ok (.ireturn, 1) := by decide +kernel
theorem dX12_layWorth_0 : decode cX12_layWorth 0 = .ok (.aload_n 0, 1) := by decide +kernel
theorem dX12_layWorth_1 : decode cX12_layWorth 1 = .ok (.aload_n 0, 1) := by decide +kernel
theorem dX12_layWorth_2 : decode cX12_layWorth 2 = .ok (.getfield 25, 3) := by decide +kernel
theorem dX12_layWorth_5 : decode cX12_layWorth 5 = .ok (.invokevirtual 202, 3) := by decide +kernel
theorem dX12_layWorth_8 : decode cX12_layWorth 8 = .ok (.iconst 0, 1) := by decide +kernel
theorem dX12_layWorth_9 : decode cX12_layWorth 9 = .ok (.istore_n 1, 1) := by decide +kernel
theorem dX12_layWorth_10 : decode cX12_layWorth 10 = .ok (.iload_n 1, 1) := by decide +kernel
theorem dX12_layWorth_11 : decode cX12_layWorth 11 = .ok (.iconst 1, 1) := by decide +kernel
theorem dX12_layWorth_12 : decode cX12_layWorth 12 = .ok (.aload_n 0, 1) := by decide +kernel
theorem dX12_layWorth_13 : decode cX12_layWorth 13 = .ok (.invokevirtual 333, 3) := by decide +kernel
theorem dX12_layWorth_16 : decode cX12_layWorth 16 = .ok (.ishl, 1) := by decide +kernel
theorem dX12_layWorth_17 : decode cX12_layWorth 17 = .ok (.if_icmp .ge 32, 3) := by decide +kernel
theorem dX12_layWorth_20 : decode cX12_layWorth 20 = .ok (.aload_n 0, 1) := by decide +kernel
theorem dX12_layWorth_21 : decode cX12_layWorth 21 = .ok (.aload_n 0, 1) := by decide +kernel
theorem dX12_layWorth_22 : decode cX12_layWorth 22 = .ok (.iload_n 1, 1) := by decide +kernel
theorem dX12_layWorth_23 : decode cX12_layWorth 23 = .ok (.invokevirtual 336, 3) := by decide +kernel
theorem dX12_layWorth_26 : decode cX12_layWorth 26 = .ok (.putfield 191, 3) := by decide +kernel
theorem dX12_layWorth_29 : decode cX12_layWorth 29 = .ok (.aload_n 0, 1) := by decide +kernel
theorem dX12_layWorth_30 : decode cX12_layWorth 30 = .ok (.invokevirtual 205, 3) := by decide +kernel
theorem dX12_layWorth_33 : decode cX12_layWorth 33 = .ok (.aload_n 0, 1) := by decide +kernel
theorem dX12_layWorth_34 : decode cX12_layWorth 34 = .ok (.getfield 96, 3) := by decide +kernel
theorem dX12_layWorth_37 : decode cX12_layWorth 37 = .ok (.iload_n 1, 1) := by decide +kernel
theorem dX12_layWorth_38 : decode cX12_layWorth 38 = .ok (.aload_n 0, 1) := by decide +kernel
theorem dX12_layWorth_39 : decode cX12_layWorth 39 = .ok (.invokevirtual 208, 3) := by decide +kernel
theorem dX12_layWorth_42 : decode cX12_layWorth 42 = .ok (.lastore, 1) := by decide +kernel
theorem dX12_layWorth_43 : decode cX12_layWorth 43 = .ok (.iinc 1 1, 3) := by decide +kernel
theorem dX12_layWorth_46 : decode cX12_layWorth 46 = .ok (.goto (-36), 3) := by decide +kernel
theorem dX12_layWorth_49 : decode cX12_layWorth 49 = .ok (.return_, 1) := by decide +kernel
theorem dX12_share_0 : decode cX12_share 0 = .ok (.aload_n 0, 1) := by decide +kernel
theorem dX12_share_1 : decode cX12_share 1 = .ok (.iload_n 1, 1) := by decide +kernel
theorem dX12_share_2 : decode cX12_share 2 = .ok (.invokevirtual 243, 3) := by decide +kernel
theorem dX12_share_5 : decode cX12_share 5 = .ok (.ifCond .ne 7, 3) := by decide +kernel
theorem dX12_share_8 : decode cX12_share 8 = .ok (.ldc2_w 276, 3) := by decide +kernel
theorem dX12_share_11 : decode cX12_share 11 = .ok (.lreturn, 1) := by decide +kernel
theorem dX12_share_12 : decode cX12_share 12 = .ok (.aload_n 0, 1) := by decide +kernel
theorem dX12_share_13 : decode cX12_share 13 = .ok (.invokevirtual 333, 3) := by decide +kernel
theorem dX12_share_16 : decode cX12_share 16 = .ok (.istore_n 3, 1) := by decide +kernel
theorem dX12_share_17 : decode cX12_share 17 = .ok (.aload_n 0, 1) := by decide +kernel
theorem dX12_share_18 : decode cX12_share 18 = .ok (.getfield 25, 3) := by decide +kernel
theorem dX12_share_21 : decode cX12_share 21 = .ok (.bipush 8, 2) := by decide +kernel
theorem dX12_share_23 : decode cX12_share 23 = .ok (.iaload, 1) := by decide +kernel
theorem dX12_share_24 : decode cX12_share 24 = .ok (.iload_n 1, 1) := by decide +kernel
theorem dX12_share_25 : decode cX12_share 25 = .ok (.invokestatic 149, 3) := by decide +kernel
theorem dX12_share_28 : decode cX12_share 28 = .ok (.ifCond .ne 9, 3) := by decide +kernel
theorem dX12_share_31 : decode cX12_share 31 = .ok (.iload_n 3, 1) := by decide +kernel
theorem dX12_share_32 : decode cX12_share 32 = .ok (.bipush 8, 2) := by decide +kernel
theorem dX12_share_34 : decode cX12_share 34 = .ok (.if_icmp .le 7, 3) := by decide +kernel
theorem dX12_share_37 : decode cX12_share 37 = .ok (.ldc2_w 339, 3) := by decide +kernel
theorem dX12_share_40 : decode cX12_share 40 = .ok (.lreturn, 1) := by decide +kernel
theorem dX12_share_41 : decode cX12_share 41 = .ok (.aload_n 0, 1) := by decide +kernel
theorem dX12_share_42 : decode cX12_share 42 = .ok (.invokevirtual 341, 3) := by decide +kernel
theorem dX12_share_45 : decode cX12_share 45 = .ok (.lconst 0, 1) := by decide +kernel
theorem dX12_share_46 : decode cX12_share 46 = .ok (.lstore 4, 2) := by decide +kernel
theorem dX12_share_48 : decode cX12_share 48 = .ok (.iconst 0, 1) := by decide +kernel
theorem dX12_share_49 : decode cX12_share 49 = .ok (.istore 6, 2) := by decide +kernel
theorem dX12_share_51 : decode cX12_share 51 = .ok (.iload 6, 2) := by decide +kernel
theorem dX12_share_53 : decode cX12_share 53 = .ok (.iconst 1, 1) := by decide +kernel
theorem dX12_share_54 : decode cX12_share 54 = .ok (.iload_n 3, 1) := by decide +kernel
theorem dX12_share_55 : decode cX12_share 55 = .ok (.ishl, 1) := by decide +kernel
theorem dX12_share_56 : decode cX12_share 56 = .ok (.if_icmp .ge 81, 3) := by decide +kernel
theorem dX12_share_59 : decode cX12_share 59 = .ok (.aload_n 0, 1) := by decide +kernel
theorem dX12_share_60 : decode cX12_share 60 = .ok (.iload 6, 2) := by decide +kernel
theorem dX12_share_62 : decode cX12_share 62 = .ok (.invokevirtual 336, 3) := by decide +kernel
theorem dX12_share_65 : decode cX12_share 65 = .ok (.istore 7, 2) := by decide +kernel
theorem dX12_share_67 : decode cX12_share 67 = .ok (.iload 7, 2) := by decide +kernel
theorem dX12_share_69 : decode cX12_share 69 = .ok (.iload_n 1, 1) := by decide +kernel
theorem dX12_share_70 : decode cX12_share 70 = .ok (.invokestatic 149, 3) := by decide +kernel
theorem dX12_share_73 : decode cX12_share 73 = .ok (.ifCond .eq 58, 3) := by decide +kernel
theorem dX12_share_76 : decode cX12_share 76 = .ok (.iload 6, 2) := by decide +kernel
theorem dX12_share_78 : decode cX12_share 78 = .ok (.invokestatic 330, 3) := by decide +kernel
theorem dX12_share_81 : decode cX12_share 81 = .ok (.iconst 1, 1) := by decide +kernel
theorem dX12_share_82 : decode cX12_share 82 = .ok (.isub, 1) := by decide +kernel
theorem dX12_share_83 : decode cX12_share 83 = .ok (.istore 8, 2) := by decide +kernel
theorem dX12_share_85 : decode cX12_share 85 = .ok (.lload 4, 2) := by decide +kernel
theorem dX12_share_87 : decode cX12_share 87 = .ok (.iload 8, 2) := by decide +kernel
theorem dX12_share_89 : decode cX12_share 89 = .ok (.invokestatic 344, 3) := by decide +kernel
theorem dX12_share_92 : decode cX12_share 92 = .ok (.i2l, 1) := by decide +kernel
theorem dX12_share_93 : decode cX12_share 93 = .ok (.iload_n 3, 1) := by decide +kernel
theorem dX12_share_94 : decode cX12_share 94 = .ok (.iconst 1, 1) := by decide +kernel
theorem dX12_share_95 : decode cX12_share 95 = .ok (.isub, 1) := by decide +kernel
theorem dX12_share_96 : decode cX12_share 96 = .ok (.iload 8, 2) := by decide +kernel
theorem dX12_share_98 : decode cX12_share 98 = .ok (.isub, 1) := by decide +kernel
theorem dX12_share_99 : decode cX12_share 99 = .ok (.invokestatic 344, 3) := by decide +kernel
theorem dX12_share_102 : decode cX12_share 102 = .ok (.i2l, 1) := by decide +kernel
theorem dX12_share_103 : decode cX12_share 103 = .ok (.lmul, 1) := by decide +kernel
theorem dX12_share_104 : decode cX12_share 104 = .ok (.aload_n 0, 1) := by decide +kernel
theorem dX12_share_105 : decode cX12_share 105 = .ok (.getfield 96, 3) := by decide +kernel
theorem dX12_share_108 : decode cX12_share 108 = .ok (.iload 6, 2) := by decide +kernel
theorem dX12_share_110 : decode cX12_share 110 = .ok (.laload, 1) := by decide +kernel
theorem dX12_share_111 : decode cX12_share 111 = .ok (.aload_n 0, 1) := by decide +kernel
theorem dX12_share_112 : decode cX12_share 112 = .ok (.getfield 96, 3) := by decide +kernel
theorem dX12_share_115 : decode cX12_share 115 = .ok (.iload 6, 2) := by decide +kernel
theorem dX12_share_117 : decode cX12_share 117 = .ok (.aload_n 0, 1) := by decide +kernel
theorem dX12_share_118 : decode cX12_share 118 = .ok (.iload_n 1, 1) := by decide +kernel
theorem dX12_share_119 : decode cX12_share 119 = .ok (.invokevirtual 347, 3) := by decide +kernel
theorem dX12_share_122 : decode cX12_share 122 = .ok (.iconst (-1), 1) := by decide +kernel
theorem dX12_share_123 : decode cX12_share 123 = .ok (.ixor, 1) := by decide +kernel
theorem dX12_share_124 : decode cX12_share 124 = .ok (.iand, 1) := by decide +kernel
theorem dX12_share_125 : decode cX12_share 125 = .ok (.laload, 1) := by decide +kernel
theorem dX12_share_126 : decode cX12_share 126 = .ok (.lsub, 1) := by decide +kernel
theorem dX12_share_127 : decode cX12_share 127 = .ok (.lmul, 1) := by decide +kernel
theorem dX12_share_128 : decode cX12_share 128 = .ok (.ladd, 1) := by decide +kernel
theorem dX12_share_129 : decode cX12_share 129 = .ok (.lstore 4, 2) := by decide +kernel
theorem dX12_share_131 : decode cX12_share 131 = .ok (.iinc 6 1, 3) := by decide +kernel
theorem dX12_share_134 : decode cX12_share 134 = .ok (.goto (-83), 3) := by decide +kernel
theorem dX12_share_137 : decode cX12_share 137 = .ok (.lload 4, 2) := by decide +kernel
theorem dX12_share_139 : decode cX12_share 139 = .ok (.iload_n 3, 1) := by decide +kernel
theorem dX12_share_140 : decode cX12_share 140 = .ok (.invokestatic 344, 3) := by decide +kernel
theorem dX12_share_143 : decode cX12_share 143 = .ok (.i2l, 1) := by decide +kernel
theorem dX12_share_144 : decode cX12_share 144 = .ok (.iload_n 2, 1) := by decide +kernel
theorem dX12_share_145 : decode cX12_share 145 = .ok (.invokestatic 350, 3) := by decide +kernel
theorem dX12_share_148 : decode cX12_share 148 = .ok (.lreturn, 1) := by decide +kernel
theorem dX12_bitOf_0 : decode cX12_bitOf 0 = .ok (.iconst 0, 1) := by decide +kernel
theorem dX12_bitOf_1 : decode cX12_bitOf 1 = .ok (.istore_n 2, 1) := by decide +kernel
theorem dX12_bitOf_2 : decode cX12_bitOf 2 = .ok (.iconst 0, 1) := by decide +kernel
theorem dX12_bitOf_3 : decode cX12_bitOf 3 = .ok (.istore_n 3, 1) := by decide +kernel
theorem dX12_bitOf_4 : decode cX12_bitOf 4 = .ok (.iload_n 3, 1) := by decide +kernel
theorem dX12_bitOf_5 : decode cX12_bitOf 5 = .ok (.iload_n 1, 1) := by decide +kernel
theorem dX12_bitOf_6 : decode cX12_bitOf 6 = .ok (.if_icmp .ge 31, 3) := by decide +kernel
theorem dX12_bitOf_9 : decode cX12_bitOf 9 = .ok (.iload_n 2, 1) := by decide +kernel
theorem dX12_bitOf_10 : decode cX12_bitOf 10 = .ok (.aload_n 0, 1) := by decide +kernel
theorem dX12_bitOf_11 : decode cX12_bitOf 11 = .ok (.getfield 25, 3) := by decide +kernel
theorem dX12_bitOf_14 : decode cX12_bitOf 14 = .ok (.bipush 8, 2) := by decide +kernel
theorem dX12_bitOf_16 : decode cX12_bitOf 16 = .ok (.iaload, 1) := by decide +kernel
theorem dX12_bitOf_17 : decode cX12_bitOf 17 = .ok (.iload_n 3, 1) := by decide +kernel
theorem dX12_bitOf_18 : decode cX12_bitOf 18 = .ok (.invokestatic 149, 3) := by decide +kernel
theorem dX12_bitOf_21 : decode cX12_bitOf 21 = .ok (.ifCond .eq 7, 3) := by decide +kernel
theorem dX12_bitOf_24 : decode cX12_bitOf 24 = .ok (.iconst 0, 1) := by decide +kernel
theorem dX12_bitOf_25 : decode cX12_bitOf 25 = .ok (.goto 4, 3) := by decide +kernel
theorem dX12_bitOf_28 : decode cX12_bitOf 28 = .ok (.iconst 1, 1) := by decide +kernel
theorem dX12_bitOf_29 : decode cX12_bitOf 29 = .ok (.iadd, 1) := by decide +kernel
theorem dX12_bitOf_30 : decode cX12_bitOf 30 = .ok (.istore_n 2, 1) := by decide +kernel
theorem dX12_bitOf_31 : decode cX12_bitOf 31 = .ok (.iinc 3 1, 3) := by decide +kernel
theorem dX12_bitOf_34 : decode cX12_bitOf 34 = .ok (.goto (-30), 3) := by decide +kernel
theorem dX12_bitOf_37 : decode cX12_bitOf 37 = .ok (.iconst 1, 1) := by decide +kernel
theorem dX12_bitOf_38 : decode cX12_bitOf 38 = .ok (.iload_n 2, 1) := by decide +kernel
theorem dX12_bitOf_39 : decode cX12_bitOf 39 = .ok (.ishl, 1) := by decide +kernel
theorem dX12_bitOf_40 : decode cX12_bitOf 40 = .ok (.ireturn, 1) := by decide +kernel
theorem dX12_hope_0 : decode cX12_hope 0 = .ok (.iload_n 1, 1) := by decide +kernel
theorem dX12_hope_1 : decode cX12_hope 1 = .ok (.i2l, 1) := by decide +kernel
theorem dX12_hope_2 : decode cX12_hope 2 = .ok (.lconst 0, 1) := by decide +kernel
theorem dX12_hope_3 : decode cX12_hope 3 = .ok (.ldc2_w 354, 3) := by decide +kernel
theorem dX12_hope_6 : decode cX12_hope 6 = .ok (.invokestatic 107, 3) := by decide +kernel
theorem dX12_hope_9 : decode cX12_hope 9 = .ok (.ifCond .ne 6, 3) := by decide +kernel
theorem dX12_hope_12 : decode cX12_hope 12 = .ok (.bipush (-2), 2) := by decide +kernel
theorem dX12_hope_14 : decode cX12_hope 14 = .ok (.ireturn, 1) := by decide +kernel
theorem dX12_hope_15 : decode cX12_hope 15 = .ok (.aload_n 0, 1) := by decide +kernel
theorem dX12_hope_16 : decode cX12_hope 16 = .ok (.invokevirtual 333, 3) := by decide +kernel
theorem dX12_hope_19 : decode cX12_hope 19 = .ok (.istore_n 3, 1) := by decide +kernel
theorem dX12_hope_20 : decode cX12_hope 20 = .ok (.iload_n 3, 1) := by decide +kernel
theorem dX12_hope_21 : decode cX12_hope 21 = .ok (.bipush 8, 2) := by decide +kernel
theorem dX12_hope_23 : decode cX12_hope 23 = .ok (.if_icmp .le 6, 3) := by decide +kernel
theorem dX12_hope_26 : decode cX12_hope 26 = .ok (.bipush (-3), 2) := by decide +kernel
theorem dX12_hope_28 : decode cX12_hope 28 = .ok (.ireturn, 1) := by decide +kernel
theorem dX12_hope_29 : decode cX12_hope 29 = .ok (.aload_n 0, 1) := by decide +kernel
theorem dX12_hope_30 : decode cX12_hope 30 = .ok (.invokevirtual 341, 3) := by decide +kernel
theorem dX12_hope_33 : decode cX12_hope 33 = .ok (.iconst 0, 1) := by decide +kernel
theorem dX12_hope_34 : decode cX12_hope 34 = .ok (.istore 4, 2) := by decide +kernel
theorem dX12_hope_36 : decode cX12_hope 36 = .ok (.iconst 0, 1) := by decide +kernel
theorem dX12_hope_37 : decode cX12_hope 37 = .ok (.istore 5, 2) := by decide +kernel
theorem dX12_hope_39 : decode cX12_hope 39 = .ok (.iload 5, 2) := by decide +kernel
theorem dX12_hope_41 : decode cX12_hope 41 = .ok (.iconst 1, 1) := by decide +kernel
theorem dX12_hope_42 : decode cX12_hope 42 = .ok (.iload_n 3, 1) := by decide +kernel
theorem dX12_hope_43 : decode cX12_hope 43 = .ok (.ishl, 1) := by decide +kernel
theorem dX12_hope_44 : decode cX12_hope 44 = .ok (.if_icmp .ge 54, 3) := by decide +kernel
theorem dX12_hope_47 : decode cX12_hope 47 = .ok (.iload 4, 2) := by decide +kernel
theorem dX12_hope_49 : decode cX12_hope 49 = .ok (.aload_n 0, 1) := by decide +kernel
theorem dX12_hope_50 : decode cX12_hope 50 = .ok (.getfield 96, 3) := by decide +kernel
theorem dX12_hope_53 : decode cX12_hope 53 = .ok (.iload 5, 2) := by decide +kernel
theorem dX12_hope_55 : decode cX12_hope 55 = .ok (.laload, 1) := by decide +kernel
theorem dX12_hope_56 : decode cX12_hope 56 = .ok (.lconst 0, 1) := by decide +kernel
theorem dX12_hope_57 : decode cX12_hope 57 = .ok (.lcmp, 1) := by decide +kernel
theorem dX12_hope_58 : decode cX12_hope 58 = .ok (.ifCond .le 30, 3) := by decide +kernel
theorem dX12_hope_61 : decode cX12_hope 61 = .ok (.bipush 10, 2) := by decide +kernel
theorem dX12_hope_63 : decode cX12_hope 63 = .ok (.iload_n 1, 1) := by decide +kernel
theorem dX12_hope_64 : decode cX12_hope 64 = .ok (.isub, 1) := by decide +kernel
theorem dX12_hope_65 : decode cX12_hope 65 = .ok (.iload 5, 2) := by decide +kernel
theorem dX12_hope_67 : decode cX12_hope 67 = .ok (.invokestatic 330, 3) := by decide +kernel
theorem dX12_hope_70 : decode cX12_hope 70 = .ok (.invokestatic 356, 3) := by decide +kernel
theorem dX12_hope_73 : decode cX12_hope 73 = .ok (.iload_n 1, 1) := by decide +kernel
theorem dX12_hope_74 : decode cX12_hope 74 = .ok (.iload_n 3, 1) := by decide +kernel
theorem dX12_hope_75 : decode cX12_hope 75 = .ok (.iload 5, 2) := by decide +kernel
theorem dX12_hope_77 : decode cX12_hope 77 = .ok (.invokestatic 330, 3) := by decide +kernel
theorem dX12_hope_80 : decode cX12_hope 80 = .ok (.isub, 1) := by decide +kernel
theorem dX12_hope_81 : decode cX12_hope 81 = .ok (.invokestatic 356, 3) := by decide +kernel
theorem dX12_hope_84 : decode cX12_hope 84 = .ok (.imul, 1) := by decide +kernel
theorem dX12_hope_85 : decode cX12_hope 85 = .ok (.goto 4, 3) := by decide +kernel
theorem dX12_hope_88 : decode cX12_hope 88 = .ok (.iconst 0, 1) := by decide +kernel
theorem dX12_hope_89 : decode cX12_hope 89 = .ok (.iadd, 1) := by decide +kernel
theorem dX12_hope_90 : decode cX12_hope 90 = .ok (.istore 4, 2) := by decide +kernel
theorem dX12_hope_92 : decode cX12_hope 92 = .ok (.iinc 5 1, 3) := by decide +kernel
theorem dX12_hope_95 : decode cX12_hope 95 = .ok (.goto (-56), 3) := by decide +kernel
theorem dX12_hope_98 : decode cX12_hope 98 = .ok (.iload 4, 2) := by decide +kernel
theorem dX12_hope_100 : decode cX12_hope 100 = .ok (.i2l, 1) := by decide +kernel
theorem dX12_hope_101 : decode cX12_hope 101 = .ok (.bipush 10, 2) := by decide +kernel
theorem dX12_hope_103 : decode cX12_hope 103 = .ok (.iload_n 3, 1) := by decide +kernel
theorem dX12_hope_104 : decode cX12_hope 104 = .ok (.invokestatic 356, 3) := by decide +kernel
theorem dX12_hope_107 : decode cX12_hope 107 = .ok (.i2l, 1) := by decide +kernel
theorem dX12_hope_108 : decode cX12_hope 108 = .ok (.iload_n 2, 1) := by decide +kernel
theorem dX12_hope_109 : decode cX12_hope 109 = .ok (.invokestatic 350, 3) := by decide +kernel
theorem dX12_hope_112 : decode cX12_hope 112 = .ok (.l2i, 1) := by decide +kernel
theorem dX12_hope_113 : decode cX12_hope 113 = .ok (.ireturn, 1) := by decide +kernel
theorem dX12_seed_0 : decode cX12_seed 0 = .ok (.aload_n 0, 1) := by decide +kernel
theorem dX12_seed_1 : decode cX12_seed 1 = .ok (.getfield 359, 3) := by decide +kernel
theorem dX12_seed_4 : decode cX12_seed 4 = .ok (.lstore_n 3, 1) := by decide +kernel
theorem dX12_seed_5 : decode cX12_seed 5 = .ok (.aload_n 0, 1) := by decide +kernel
theorem dX12_seed_6 : decode cX12_seed 6 = .ok (.lload_n 1, 1) := by decide +kernel
theorem dX12_seed_7 : decode cX12_seed 7 = .ok (.putfield 359, 3) := by decide +kernel
theorem dX12_seed_10 : decode cX12_seed 10 = .ok (.lload_n 3, 1) := by decide +kernel
theorem dX12_seed_11 : decode cX12_seed 11 = .ok (.lreturn, 1) := by decide +kernel
theorem dX12_drawn_0 : decode cX12_drawn 0 = .ok (.iload_n 1, 1) := by decide +kernel
theorem dX12_drawn_1 : decode cX12_drawn 1 = .ok (.i2l, 1) := by decide +kernel
theorem dX12_drawn_2 : decode cX12_drawn 2 = .ok (.lconst 1, 1) := by decide +kernel
theorem dX12_drawn_3 : decode cX12_drawn 3 = .ok (.ldc2_w 363, 3) := by decide +kernel
theorem dX12_drawn_6 : decode cX12_drawn 6 = .ok (.invokestatic 107, 3) := by decide +kernel
theorem dX12_drawn_9 : decode cX12_drawn 9 = .ok (.ifCond .ne 6, 3) := by decide +kernel
theorem dX12_drawn_12 : decode cX12_drawn 12 = .ok (.bipush (-2), 2) := by decide +kernel
theorem dX12_drawn_14 : decode cX12_drawn 14 = .ok (.ireturn, 1) := by decide +kernel
theorem dX12_drawn_15 : decode cX12_drawn 15 = .ok (.aload_n 0, 1) := by decide +kernel
theorem dX12_drawn_16 : decode cX12_drawn 16 = .ok (.aload_n 0, 1) := by decide +kernel
theorem dX12_drawn_17 : decode cX12_drawn 17 = .ok (.getfield 25, 3) := by decide +kernel
theorem dX12_drawn_20 : decode cX12_drawn 20 = .ok (.invokevirtual 272, 3) := by decide +kernel
theorem dX12_drawn_23 : decode cX12_drawn 23 = .ok (.lstore_n 2, 1) := by decide +kernel
theorem dX12_drawn_24 : decode cX12_drawn 24 = .ok (.iconst 0, 1) := by decide +kernel
theorem dX12_drawn_25 : decode cX12_drawn 25 = .ok (.istore 4, 2) := by decide +kernel
theorem dX12_drawn_27 : decode cX12_drawn 27 = .ok (.iconst 0, 1) := by decide +kernel
theorem dX12_drawn_28 : decode cX12_drawn 28 = .ok (.istore 5, 2) := by decide +kernel
theorem dX12_drawn_30 : decode cX12_drawn 30 = .ok (.iload 5, 2) := by decide +kernel
theorem dX12_drawn_32 : decode cX12_drawn 32 = .ok (.iload_n 1, 1) := by decide +kernel
theorem dX12_drawn_33 : decode cX12_drawn 33 = .ok (.if_icmp .ge 57, 3) := by decide +kernel
theorem dX12_drawn_36 : decode cX12_drawn 36 = .ok (.aload_n 0, 1) := by decide +kernel
theorem dX12_drawn_37 : decode cX12_drawn 37 = .ok (.aload_n 0, 1) := by decide +kernel
theorem dX12_drawn_38 : decode cX12_drawn 38 = .ok (.getfield 359, 3) := by decide +kernel
theorem dX12_drawn_41 : decode cX12_drawn 41 = .ok (.ldc2_w 365, 3) := by decide +kernel
theorem dX12_drawn_44 : decode cX12_drawn 44 = .ok (.lmul, 1) := by decide +kernel
theorem dX12_drawn_45 : decode cX12_drawn 45 = .ok (.ldc2_w 367, 3) := by decide +kernel
theorem dX12_drawn_48 : decode cX12_drawn 48 = .ok (.ladd, 1) := by decide +kernel
theorem dX12_drawn_49 : decode cX12_drawn 49 = .ok (.putfield 359, 3) := by decide +kernel
theorem dX12_drawn_52 : decode cX12_drawn 52 = .ok (.iload 4, 2) := by decide +kernel
theorem dX12_drawn_54 : decode cX12_drawn 54 = .ok (.lload_n 2, 1) := by decide +kernel
theorem dX12_drawn_55 : decode cX12_drawn 55 = .ok (.lconst 0, 1) := by decide +kernel
theorem dX12_drawn_56 : decode cX12_drawn 56 = .ok (.lcmp, 1) := by decide +kernel
theorem dX12_drawn_57 : decode cX12_drawn 57 = .ok (.ifCond .le 23, 3) := by decide +kernel
theorem dX12_drawn_60 : decode cX12_drawn 60 = .ok (.aload_n 0, 1) := by decide +kernel
theorem dX12_drawn_61 : decode cX12_drawn 61 = .ok (.aload_n 0, 1) := by decide +kernel
theorem dX12_drawn_62 : decode cX12_drawn 62 = .ok (.aload_n 0, 1) := by decide +kernel
theorem dX12_drawn_63 : decode cX12_drawn 63 = .ok (.getfield 359, 3) := by decide +kernel
theorem dX12_drawn_66 : decode cX12_drawn 66 = .ok (.bipush 33, 2) := by decide +kernel
theorem dX12_drawn_68 : decode cX12_drawn 68 = .ok (.lushr, 1) := by decide +kernel
theorem dX12_drawn_69 : decode cX12_drawn 69 = .ok (.lload_n 2, 1) := by decide +kernel
theorem dX12_drawn_70 : decode cX12_drawn 70 = .ok (.lrem, 1) := by decide +kernel
theorem dX12_drawn_71 : decode cX12_drawn 71 = .ok (.invokevirtual 293, 3) := by decide +kernel
theorem dX12_drawn_74 : decode cX12_drawn 74 = .ok (.invokevirtual 290, 3) := by decide +kernel
theorem dX12_drawn_77 : decode cX12_drawn 77 = .ok (.goto 4, 3) := by decide +kernel
theorem dX12_drawn_80 : decode cX12_drawn 80 = .ok (.iconst 0, 1) := by decide +kernel
theorem dX12_drawn_81 : decode cX12_drawn 81 = .ok (.iadd, 1) := by decide +kernel
theorem dX12_drawn_82 : decode cX12_drawn 82 = .ok (.istore 4, 2) := by decide +kernel
theorem dX12_drawn_84 : decode cX12_drawn 84 = .ok (.iinc 5 1, 3) := by decide +kernel
theorem dX12_drawn_87 : decode cX12_drawn 87 = .ok (.goto (-57), 3) := by decide +kernel
theorem dX12_drawn_90 : decode cX12_drawn 90 = .ok (.iload 4, 2) := by decide +kernel
theorem dX12_drawn_92 : decode cX12_drawn 92 = .ok (.ireturn, 1) := by decide +kernel
theorem dX12_keep_0 : decode cX12_keep 0 = .ok (.iload_n 1, 1) := by decide +kernel
theorem dX12_keep_1 : decode cX12_keep 1 = .ok (.i2l, 1) := by decide +kernel
theorem dX12_keep_2 : decode cX12_keep 2 = .ok (.lconst 0, 1) := by decide +kernel
theorem dX12_keep_3 : decode cX12_keep 3 = .ok (.lconst 1, 1) := by decide +kernel
theorem dX12_keep_4 : decode cX12_keep 4 = .ok (.invokestatic 107, 3) := by decide +kernel
theorem dX12_keep_7 : decode cX12_keep 7 = .ok (.ifCond .ne 5, 3) := by decide +kernel
theorem dX12_keep_10 : decode cX12_keep 10 = .ok (.iconst (-1), 1) := by decide +kernel
theorem dX12_keep_11 : decode cX12_keep 11 = .ok (.ireturn, 1) := by decide +kernel
theorem dX12_keep_12 : decode cX12_keep 12 = .ok (.aload_n 0, 1) := by decide +kernel
theorem dX12_keep_13 : decode cX12_keep 13 = .ok (.getfield 37, 3) := by decide +kernel
theorem dX12_keep_16 : decode cX12_keep 16 = .ok (.iload_n 1, 1) := by decide +kernel
theorem dX12_keep_17 : decode cX12_keep 17 = .ok (.iconst 1, 1) := by decide +kernel
theorem dX12_keep_18 : decode cX12_keep 18 = .ok (.bastore, 1) := by decide +kernel
theorem dX12_keep_19 : decode cX12_keep 19 = .ok (.iconst 0, 1) := by decide +kernel
theorem dX12_keep_20 : decode cX12_keep 20 = .ok (.istore_n 2, 1) := by decide +kernel
theorem dX12_keep_21 : decode cX12_keep 21 = .ok (.iload_n 2, 1) := by decide +kernel
theorem dX12_keep_22 : decode cX12_keep 22 = .ok (.bipush 25, 2) := by decide +kernel
theorem dX12_keep_24 : decode cX12_keep 24 = .ok (.if_icmp .ge 26, 3) := by decide +kernel
theorem dX12_keep_27 : decode cX12_keep 27 = .ok (.aload_n 0, 1) := by decide +kernel
theorem dX12_keep_28 : decode cX12_keep 28 = .ok (.getfield 34, 3) := by decide +kernel
theorem dX12_keep_31 : decode cX12_keep 31 = .ok (.bipush 25, 2) := by decide +kernel
theorem dX12_keep_33 : decode cX12_keep 33 = .ok (.iload_n 1, 1) := by decide +kernel
theorem dX12_keep_34 : decode cX12_keep 34 = .ok (.imul, 1) := by decide +kernel
theorem dX12_keep_35 : decode cX12_keep 35 = .ok (.iload_n 2, 1) := by decide +kernel
theorem dX12_keep_36 : decode cX12_keep 36 = .ok (.iadd, 1) := by decide +kernel
theorem dX12_keep_37 : decode cX12_keep 37 = .ok (.aload_n 0, 1) := by decide +kernel
theorem dX12_keep_38 : decode cX12_keep 38 = .ok (.getfield 25, 3) := by decide +kernel
theorem dX12_keep_41 : decode cX12_keep 41 = .ok (.iload_n 2, 1) := by decide +kernel
theorem dX12_keep_42 : decode cX12_keep 42 = .ok (.iaload, 1) := by decide +kernel
theorem dX12_keep_43 : decode cX12_keep 43 = .ok (.iastore, 1) := by decide +kernel
theorem dX12_keep_44 : decode cX12_keep 44 = .ok (.iinc 2 1, 3) := by decide +kernel
theorem dX12_keep_47 : decode cX12_keep 47 = .ok (.goto (-26), 3) := by decide +kernel
theorem dX12_keep_50 : decode cX12_keep 50 = .ok (.aload_n 0, 1) := by decide +kernel
theorem dX12_keep_51 : decode cX12_keep 51 = .ok (.getfield 103, 3) := by decide +kernel
theorem dX12_keep_54 : decode cX12_keep 54 = .ok (.ireturn, 1) := by decide +kernel
theorem dX12_again_0 : decode cX12_again 0 = .ok (.iload_n 1, 1) := by decide +kernel
theorem dX12_again_1 : decode cX12_again 1 = .ok (.i2l, 1) := by decide +kernel
theorem dX12_again_2 : decode cX12_again 2 = .ok (.lconst 0, 1) := by decide +kernel
theorem dX12_again_3 : decode cX12_again 3 = .ok (.lconst 1, 1) := by decide +kernel
theorem dX12_again_4 : decode cX12_again 4 = .ok (.invokestatic 107, 3) := by decide +kernel
theorem dX12_again_7 : decode cX12_again 7 = .ok (.ifCond .ne 5, 3) := by decide +kernel
theorem dX12_again_10 : decode cX12_again 10 = .ok (.iconst (-1), 1) := by decide +kernel
theorem dX12_again_11 : decode cX12_again 11 = .ok (.ireturn, 1) := by decide +kernel
theorem dX12_again_12 : decode cX12_again 12 = .ok (.aload_n 0, 1) := by decide +kernel
theorem dX12_again_13 : decode cX12_again 13 = .ok (.getfield 37, 3) := by decide +kernel
theorem dX12_again_16 : decode cX12_again 16 = .ok (.iload_n 1, 1) := by decide +kernel
theorem dX12_again_17 : decode cX12_again 17 = .ok (.baload, 1) := by decide +kernel
theorem dX12_again_18 : decode cX12_again 18 = .ok (.ifCond .ne 6, 3) := by decide +kernel
theorem dX12_again_21 : decode cX12_again 21 = .ok (.bipush (-3), 2) := by decide +kernel
theorem dX12_again_23 : decode cX12_again 23 = .ok (.ireturn, 1) := by decide +kernel
theorem dX12_again_24 : decode cX12_again 24 = .ok (.iconst 0, 1) := by decide +kernel
theorem dX12_again_25 : decode cX12_again 25 = .ok (.istore_n 2, 1) := by decide +kernel
theorem dX12_again_26 : decode cX12_again 26 = .ok (.iload_n 2, 1) := by decide +kernel
theorem dX12_again_27 : decode cX12_again 27 = .ok (.bipush 25, 2) := by decide +kernel
theorem dX12_again_29 : decode cX12_again 29 = .ok (.if_icmp .ge 26, 3) := by decide +kernel
theorem dX12_again_32 : decode cX12_again 32 = .ok (.aload_n 0, 1) := by decide +kernel
theorem dX12_again_33 : decode cX12_again 33 = .ok (.getfield 25, 3) := by decide +kernel
theorem dX12_again_36 : decode cX12_again 36 = .ok (.iload_n 2, 1) := by decide +kernel
theorem dX12_again_37 : decode cX12_again 37 = .ok (.aload_n 0, 1) := by decide +kernel
theorem dX12_again_38 : decode cX12_again 38 = .ok (.getfield 34, 3) := by decide +kernel
theorem dX12_again_41 : decode cX12_again 41 = .ok (.bipush 25, 2) := by decide +kernel
theorem dX12_again_43 : decode cX12_again 43 = .ok (.iload_n 1, 1) := by decide +kernel
theorem dX12_again_44 : decode cX12_again 44 = .ok (.imul, 1) := by decide +kernel
theorem dX12_again_45 : decode cX12_again 45 = .ok (.iload_n 2, 1) := by decide +kernel
theorem dX12_again_46 : decode cX12_again 46 = .ok (.iadd, 1) := by decide +kernel
theorem dX12_again_47 : decode cX12_again 47 = .ok (.iaload, 1) := by decide +kernel
theorem dX12_again_48 : decode cX12_again 48 = .ok (.iastore, 1) := by decide +kernel
theorem dX12_again_49 : decode cX12_again 49 = .ok (.iinc 2 1, 3) := by decide +kernel
theorem dX12_again_52 : decode cX12_again 52 = .ok (.goto (-26), 3) := by decide +kernel
theorem dX12_again_55 : decode cX12_again 55 = .ok (.aload_n 0, 1) := by decide +kernel
theorem dX12_again_56 : decode cX12_again 56 = .ok (.iconst 0, 1) := by decide +kernel
theorem dX12_again_57 : decode cX12_again 57 = .ok (.putfield 182, 3) := by decide +kernel
theorem dX12_again_60 : decode cX12_again 60 = .ok (.aload_n 0, 1) := by decide +kernel
theorem dX12_again_61 : decode cX12_again 61 = .ok (.getfield 103, 3) := by decide +kernel
theorem dX12_again_64 : decode cX12_again 64 = .ok (.ireturn, 1) := by decide +kernel
theorem dJ6_bitCount_0f7a4_0 : decode cJ6_bitCount_0f7a4 0 = .ok (.iload_n 0, 1) := by decide +kernel
theorem dJ6_bitCount_0f7a4_1 : decode cJ6_bitCount_0f7a4 1 = .ok (.iload_n 0, 1) := by decide +kernel
theorem dJ6_bitCount_0f7a4_2 : decode cJ6_bitCount_0f7a4 2 = .ok (.iconst 1, 1) := by decide +kernel
theorem dJ6_bitCount_0f7a4_3 : decode cJ6_bitCount_0f7a4 3 = .ok (.iushr, 1) := by decide +kernel
theorem dJ6_bitCount_0f7a4_4 : decode cJ6_bitCount_0f7a4 4 = .ok (.ldc_w 265, 3) := by decide +kernel
theorem dJ6_bitCount_0f7a4_7 : decode cJ6_bitCount_0f7a4 7 = .ok (.iand, 1) := by decide +kernel
theorem dJ6_bitCount_0f7a4_8 : decode cJ6_bitCount_0f7a4 8 = .ok (.isub, 1) := by decide +kernel
theorem dJ6_bitCount_0f7a4_9 : decode cJ6_bitCount_0f7a4 9 = .ok (.istore_n 0, 1) := by decide +kernel
theorem dJ6_bitCount_0f7a4_10 : decode cJ6_bitCount_0f7a4 10 = .ok (.iload_n 0, 1) := by decide +kernel
theorem dJ6_bitCount_0f7a4_11 : decode cJ6_bitCount_0f7a4 11 = .ok (.ldc_w 266, 3) := by decide +kernel
theorem dJ6_bitCount_0f7a4_14 : decode cJ6_bitCount_0f7a4 14 = .ok (.iand, 1) := by decide +kernel
theorem dJ6_bitCount_0f7a4_15 : decode cJ6_bitCount_0f7a4 15 = .ok (.iload_n 0, 1) := by decide +kernel
theorem dJ6_bitCount_0f7a4_16 : decode cJ6_bitCount_0f7a4 16 = .ok (.iconst 2, 1) := by decide +kernel
theorem dJ6_bitCount_0f7a4_17 : decode cJ6_bitCount_0f7a4 17 = .ok (.iushr, 1) := by decide +kernel
theorem dJ6_bitCount_0f7a4_18 : decode cJ6_bitCount_0f7a4 18 = .ok (.ldc_w 266, 3) := by decide +kernel
theorem dJ6_bitCount_0f7a4_21 : decode cJ6_bitCount_0f7a4 21 = .ok (.iand, 1) := by decide +kernel
theorem dJ6_bitCount_0f7a4_22 : decode cJ6_bitCount_0f7a4 22 = .ok (.iadd, 1) := by decide +kernel
theorem dJ6_bitCount_0f7a4_23 : decode cJ6_bitCount_0f7a4 23 = .ok (.istore_n 0, 1) := by decide +kernel
theorem dJ6_bitCount_0f7a4_24 : decode cJ6_bitCount_0f7a4 24 = .ok (.iload_n 0, 1) := by decide +kernel
theorem dJ6_bitCount_0f7a4_25 : decode cJ6_bitCount_0f7a4 25 = .ok (.iload_n 0, 1) := by decide +kernel
theorem dJ6_bitCount_0f7a4_26 : decode cJ6_bitCount_0f7a4 26 = .ok (.iconst 4, 1) := by decide +kernel
theorem dJ6_bitCount_0f7a4_27 : decode cJ6_bitCount_0f7a4 27 = .ok (.iushr, 1) := by decide +kernel
theorem dJ6_bitCount_0f7a4_28 : decode cJ6_bitCount_0f7a4 28 = .ok (.iadd, 1) := by decide +kernel
theorem dJ6_bitCount_0f7a4_29 : decode cJ6_bitCount_0f7a4 29 = .ok (.ldc_w 267, 3) := by decide +kernel
theorem dJ6_bitCount_0f7a4_32 : decode cJ6_bitCount_0f7a4 32 = .ok (.iand, 1) := by decide +kernel
theorem dJ6_bitCount_0f7a4_33 : decode cJ6_bitCount_0f7a4 33 = .ok (.istore_n 0, 1) := by decide +kernel
theorem dJ6_bitCount_0f7a4_34 : decode cJ6_bitCount_0f7a4 34 = .ok (.iload_n 0, 1) := by decide +kernel
theorem dJ6_bitCount_0f7a4_35 : decode cJ6_bitCount_0f7a4 35 = .ok (.iload_n 0, 1) := by decide +kernel
theorem dJ6_bitCount_0f7a4_36 : decode cJ6_bitCount_0f7a4 36 = .ok (.bipush 8, 2) := by decide +kernel
theorem dJ6_bitCount_0f7a4_38 : decode cJ6_bitCount_0f7a4 38 = .ok (.iushr, 1) := by decide +kernel
theorem dJ6_bitCount_0f7a4_39 : decode cJ6_bitCount_0f7a4 39 = .ok (.iadd, 1) := by decide +kernel
theorem dJ6_bitCount_0f7a4_40 : decode cJ6_bitCount_0f7a4 40 = .ok (.istore_n 0, 1) := by decide +kernel
theorem dJ6_bitCount_0f7a4_41 : decode cJ6_bitCount_0f7a4 41 = .ok (.iload_n 0, 1) := by decide +kernel
theorem dJ6_bitCount_0f7a4_42 : decode cJ6_bitCount_0f7a4 42 = .ok (.iload_n 0, 1) := by decide +kernel
theorem dJ6_bitCount_0f7a4_43 : decode cJ6_bitCount_0f7a4 43 = .ok (.bipush 16, 2) := by decide +kernel
theorem dJ6_bitCount_0f7a4_45 : decode cJ6_bitCount_0f7a4 45 = .ok (.iushr, 1) := by decide +kernel
theorem dJ6_bitCount_0f7a4_46 : decode cJ6_bitCount_0f7a4 46 = .ok (.iadd, 1) := by decide +kernel
theorem dJ6_bitCount_0f7a4_47 : decode cJ6_bitCount_0f7a4 47 = .ok (.istore_n 0, 1) := by decide +kernel
theorem dJ6_bitCount_0f7a4_48 : decode cJ6_bitCount_0f7a4 48 = .ok (.iload_n 0, 1) := by decide +kernel
theorem dJ6_bitCount_0f7a4_49 : decode cJ6_bitCount_0f7a4 49 = .ok (.bipush 63, 2) := by decide +kernel
theorem dJ6_bitCount_0f7a4_51 : decode cJ6_bitCount_0f7a4 51 = .ok (.iand, 1) := by decide +kernel
theorem dJ6_bitCount_0f7a4_52 : decode cJ6_bitCount_0f7a4 52 = .ok (.ireturn, 1) := by decide +kernel
theorem dJ9_abs_067f4_0 : decode cJ9_abs_067f4 0 = .ok (.lload_n 0, 1) := by decide +kernel
theorem dJ9_abs_067f4_1 : decode cJ9_abs_067f4 1 = .ok (.lconst 0, 1) := by decide +kernel
theorem dJ9_abs_067f4_2 : decode cJ9_abs_067f4 2 = .ok (.lcmp, 1) := by decide +kernel
theorem dJ9_abs_067f4_3 : decode cJ9_abs_067f4 3 = .ok (.ifCond .ge 8, 3) := by decide +kernel
theorem dJ9_abs_067f4_6 : decode cJ9_abs_067f4 6 = .ok (.lload_n 0, 1) := by decide +kernel
theorem dJ9_abs_067f4_7 : decode cJ9_abs_067f4 7 = .ok (.lneg, 1) := by decide +kernel
theorem dJ9_abs_067f4_8 : decode cJ9_abs_067f4 8 = .ok (.goto 4, 3) := by decide +kernel
theorem dJ9_abs_067f4_11 : decode cJ9_abs_067f4 11 = .ok (.lload_n 0, 1) := by decide +kernel
theorem dJ9_abs_067f4_12 : decode cJ9_abs_067f4 12 = .ok (.lreturn, 1) := by decide +kernel
theorem dJ9_max_f86c9_0 : decode cJ9_max_f86c9 0 = .ok (.lload_n 0, 1) := by decide +kernel
theorem dJ9_max_f86c9_1 : decode cJ9_max_f86c9 1 = .ok (.lload_n 2, 1) := by decide +kernel
theorem dJ9_max_f86c9_2 : decode cJ9_max_f86c9 2 = .ok (.lcmp, 1) := by decide +kernel
theorem dJ9_max_f86c9_3 : decode cJ9_max_f86c9 3 = .ok (.ifCond .lt 7, 3) := by decide +kernel
theorem dJ9_max_f86c9_6 : decode cJ9_max_f86c9 6 = .ok (.lload_n 0, 1) := by decide +kernel
theorem dJ9_max_f86c9_7 : decode cJ9_max_f86c9 7 = .ok (.goto 4, 3) := by decide +kernel
theorem dJ9_max_f86c9_10 : decode cJ9_max_f86c9 10 = .ok (.lload_n 2, 1) := by decide +kernel
theorem dJ9_max_f86c9_11 : decode cJ9_max_f86c9 11 = .ok (.lreturn, 1) := by decide +kernel
theorem dJ9_min_7cf53_0 : decode cJ9_min_7cf53 0 = .ok (.iload_n 0, 1) := by decide +kernel
theorem dJ9_min_7cf53_1 : decode cJ9_min_7cf53 1 = .ok (.iload_n 1, 1) := by decide +kernel
theorem dJ9_min_7cf53_2 : decode cJ9_min_7cf53 2 = .ok (.if_icmp .gt 7, 3) := by decide +kernel
theorem dJ9_min_7cf53_5 : decode cJ9_min_7cf53 5 = .ok (.iload_n 0, 1) := by decide +kernel
theorem dJ9_min_7cf53_6 : decode cJ9_min_7cf53 6 = .ok (.goto 4, 3) := by decide +kernel
theorem dJ9_min_7cf53_9 : decode cJ9_min_7cf53 9 = .ok (.iload_n 1, 1) := by decide +kernel
theorem dJ9_min_7cf53_10 : decode cJ9_min_7cf53 10 = .ok (.ireturn, 1) := by decide +kernel
theorem dL_law_0 : decode cL_law 0 = .ok (.new 7, 3) := by decide +kernel
theorem dL_law_3 : decode cL_law 3 = .ok (.dup, 1) := by decide +kernel
theorem dL_law_4 : decode cL_law 4 = .ok (.invokespecial 9, 3) := by decide +kernel
theorem dL_law_7 : decode cL_law 7 = .ok (.astore_n 1, 1) := by decide +kernel
theorem dL_law_8 : decode cL_law 8 = .ok (.new 10, 3) := by decide +kernel
theorem dL_law_11 : decode cL_law 11 = .ok (.dup, 1) := by decide +kernel
theorem dL_law_12 : decode cL_law 12 = .ok (.invokespecial 12, 3) := by decide +kernel
theorem dL_law_15 : decode cL_law 15 = .ok (.astore_n 2, 1) := by decide +kernel
theorem dL_law_16 : decode cL_law 16 = .ok (.iconst 0, 1) := by decide +kernel
theorem dL_law_17 : decode cL_law 17 = .ok (.istore_n 3, 1) := by decide +kernel
theorem dL_law_18 : decode cL_law 18 = .ok (.iload_n 3, 1) := by decide +kernel
theorem dL_law_19 : decode cL_law 19 = .ok (.aload_n 0, 1) := by decide +kernel
theorem dL_law_20 : decode cL_law 20 = .ok (.arraylength, 1) := by decide +kernel
theorem dL_law_21 : decode cL_law 21 = .ok (.iconst 4, 1) := by decide +kernel
theorem dL_law_22 : decode cL_law 22 = .ok (.isub, 1) := by decide +kernel
theorem dL_law_23 : decode cL_law 23 = .ok (.if_icmp .gt 1062, 3) := by decide +kernel
theorem dL_law_26 : decode cL_law 26 = .ok (.aload_n 0, 1) := by decide +kernel
theorem dL_law_27 : decode cL_law 27 = .ok (.iload_n 3, 1) := by decide +kernel
theorem dL_law_28 : decode cL_law 28 = .ok (.iaload, 1) := by decide +kernel
theorem dL_law_29 : decode cL_law 29 = .ok (.bipush 31, 2) := by decide +kernel
theorem dL_law_31 : decode cL_law 31 = .ok (.iand, 1) := by decide +kernel
theorem dL_law_32 : decode cL_law 32 = .ok (.tableswitch 1047 0 31 #[144, 167, 180, 193, 206, 229, 262, 295, 318, 341, 364, 397, 440, 453, 477, 501, 524, 587, 610, 623, 646, 660, 683, 746, 789, 802, 825, 875, 924, 978, 1001, 1024], 144) := by decide +kernel
theorem dL_law_176 : decode cL_law 176 = .ok (.aload_n 1, 1) := by decide +kernel
theorem dL_law_177 : decode cL_law 177 = .ok (.aload_n 0, 1) := by decide +kernel
theorem dL_law_178 : decode cL_law 178 = .ok (.iload_n 3, 1) := by decide +kernel
theorem dL_law_179 : decode cL_law 179 = .ok (.iconst 1, 1) := by decide +kernel
theorem dL_law_180 : decode cL_law 180 = .ok (.iadd, 1) := by decide +kernel
theorem dL_law_181 : decode cL_law 181 = .ok (.iaload, 1) := by decide +kernel
theorem dL_law_182 : decode cL_law 182 = .ok (.invokevirtual 13, 3) := by decide +kernel
theorem dL_law_185 : decode cL_law 185 = .ok (.aload_n 2, 1) := by decide +kernel
theorem dL_law_186 : decode cL_law 186 = .ok (.aload_n 0, 1) := by decide +kernel
theorem dL_law_187 : decode cL_law 187 = .ok (.iload_n 3, 1) := by decide +kernel
theorem dL_law_188 : decode cL_law 188 = .ok (.iconst 1, 1) := by decide +kernel
theorem dL_law_189 : decode cL_law 189 = .ok (.iadd, 1) := by decide +kernel
theorem dL_law_190 : decode cL_law 190 = .ok (.iaload, 1) := by decide +kernel
theorem dL_law_191 : decode cL_law 191 = .ok (.invokevirtual 17, 3) := by decide +kernel
theorem dL_law_194 : decode cL_law 194 = .ok (.if_icmp .eq 885, 3) := by decide +kernel
theorem dL_law_197 : decode cL_law 197 = .ok (.iconst 0, 1) := by decide +kernel
theorem dL_law_198 : decode cL_law 198 = .ok (.ireturn, 1) := by decide +kernel
theorem dL_law_199 : decode cL_law 199 = .ok (.aload_n 1, 1) := by decide +kernel
theorem dL_law_200 : decode cL_law 200 = .ok (.invokevirtual 18, 3) := by decide +kernel
theorem dL_law_203 : decode cL_law 203 = .ok (.aload_n 2, 1) := by decide +kernel
theorem dL_law_204 : decode cL_law 204 = .ok (.invokevirtual 22, 3) := by decide +kernel
theorem dL_law_207 : decode cL_law 207 = .ok (.if_icmp .eq 872, 3) := by decide +kernel
theorem dL_law_210 : decode cL_law 210 = .ok (.iconst 0, 1) := by decide +kernel
theorem dL_law_211 : decode cL_law 211 = .ok (.ireturn, 1) := by decide +kernel
theorem dL_law_212 : decode cL_law 212 = .ok (.aload_n 1, 1) := by decide +kernel
theorem dL_law_213 : decode cL_law 213 = .ok (.invokevirtual 23, 3) := by decide +kernel
theorem dL_law_216 : decode cL_law 216 = .ok (.aload_n 2, 1) := by decide +kernel
theorem dL_law_217 : decode cL_law 217 = .ok (.invokevirtual 26, 3) := by decide +kernel
theorem dL_law_220 : decode cL_law 220 = .ok (.if_icmp .eq 859, 3) := by decide +kernel
theorem dL_law_223 : decode cL_law 223 = .ok (.iconst 0, 1) := by decide +kernel
theorem dL_law_224 : decode cL_law 224 = .ok (.ireturn, 1) := by decide +kernel
theorem dL_law_225 : decode cL_law 225 = .ok (.aload_n 1, 1) := by decide +kernel
theorem dL_law_226 : decode cL_law 226 = .ok (.invokevirtual 27, 3) := by decide +kernel
theorem dL_law_229 : decode cL_law 229 = .ok (.aload_n 2, 1) := by decide +kernel
theorem dL_law_230 : decode cL_law 230 = .ok (.invokevirtual 30, 3) := by decide +kernel
theorem dL_law_233 : decode cL_law 233 = .ok (.if_icmp .eq 846, 3) := by decide +kernel
theorem dL_law_236 : decode cL_law 236 = .ok (.iconst 0, 1) := by decide +kernel
theorem dL_law_237 : decode cL_law 237 = .ok (.ireturn, 1) := by decide +kernel
theorem dL_law_238 : decode cL_law 238 = .ok (.aload_n 1, 1) := by decide +kernel
theorem dL_law_239 : decode cL_law 239 = .ok (.aload_n 0, 1) := by decide +kernel
theorem dL_law_240 : decode cL_law 240 = .ok (.iload_n 3, 1) := by decide +kernel
theorem dL_law_241 : decode cL_law 241 = .ok (.iconst 1, 1) := by decide +kernel
theorem dL_law_242 : decode cL_law 242 = .ok (.iadd, 1) := by decide +kernel
theorem dL_law_243 : decode cL_law 243 = .ok (.iaload, 1) := by decide +kernel
theorem dL_law_244 : decode cL_law 244 = .ok (.invokevirtual 31, 3) := by decide +kernel
theorem dL_law_247 : decode cL_law 247 = .ok (.aload_n 2, 1) := by decide +kernel
theorem dL_law_248 : decode cL_law 248 = .ok (.aload_n 0, 1) := by decide +kernel
theorem dL_law_249 : decode cL_law 249 = .ok (.iload_n 3, 1) := by decide +kernel
theorem dL_law_250 : decode cL_law 250 = .ok (.iconst 1, 1) := by decide +kernel
theorem dL_law_251 : decode cL_law 251 = .ok (.iadd, 1) := by decide +kernel
theorem dL_law_252 : decode cL_law 252 = .ok (.iaload, 1) := by decide +kernel
theorem dL_law_253 : decode cL_law 253 = .ok (.invokevirtual 34, 3) := by decide +kernel
theorem dL_law_256 : decode cL_law 256 = .ok (.if_icmp .eq 823, 3) := by decide +kernel
theorem dL_law_259 : decode cL_law 259 = .ok (.iconst 0, 1) := by decide +kernel
theorem dL_law_260 : decode cL_law 260 = .ok (.ireturn, 1) := by decide +kernel
theorem dL_law_261 : decode cL_law 261 = .ok (.aload_n 1, 1) := by decide +kernel
theorem dL_law_262 : decode cL_law 262 = .ok (.aload_n 0, 1) := by decide +kernel
theorem dL_law_263 : decode cL_law 263 = .ok (.iload_n 3, 1) := by decide +kernel
theorem dL_law_264 : decode cL_law 264 = .ok (.iconst 1, 1) := by decide +kernel
theorem dL_law_265 : decode cL_law 265 = .ok (.iadd, 1) := by decide +kernel
theorem dL_law_266 : decode cL_law 266 = .ok (.iaload, 1) := by decide +kernel
theorem dL_law_267 : decode cL_law 267 = .ok (.aload_n 0, 1) := by decide +kernel
theorem dL_law_268 : decode cL_law 268 = .ok (.iload_n 3, 1) := by decide +kernel
theorem dL_law_269 : decode cL_law 269 = .ok (.iconst 2, 1) := by decide +kernel
theorem dL_law_270 : decode cL_law 270 = .ok (.iadd, 1) := by decide +kernel
theorem dL_law_271 : decode cL_law 271 = .ok (.iaload, 1) := by decide +kernel
theorem dL_law_272 : decode cL_law 272 = .ok (.invokevirtual 35, 3) := by decide +kernel
theorem dL_law_275 : decode cL_law 275 = .ok (.aload_n 2, 1) := by decide +kernel
theorem dL_law_276 : decode cL_law 276 = .ok (.aload_n 0, 1) := by decide +kernel
theorem dL_law_277 : decode cL_law 277 = .ok (.iload_n 3, 1) := by decide +kernel
theorem dL_law_278 : decode cL_law 278 = .ok (.iconst 1, 1) := by decide +kernel
theorem dL_law_279 : decode cL_law 279 = .ok (.iadd, 1) := by decide +kernel
theorem dL_law_280 : decode cL_law 280 = .ok (.iaload, 1) := by decide +kernel
theorem dL_law_281 : decode cL_law 281 = .ok (.aload_n 0, 1) := by decide +kernel
theorem dL_law_282 : decode cL_law 282 = .ok (.iload_n 3, 1) := by decide +kernel
theorem dL_law_283 : decode cL_law 283 = .ok (.iconst 2, 1) := by decide +kernel
theorem dL_law_284 : decode cL_law 284 = .ok (.iadd, 1) := by decide +kernel
theorem dL_law_285 : decode cL_law 285 = .ok (.iaload, 1) := by decide +kernel
theorem dL_law_286 : decode cL_law 286 = .ok (.invokevirtual 39, 3) := by decide +kernel
theorem dL_law_289 : decode cL_law 289 = .ok (.if_icmp .eq 790, 3) := by decide +kernel
theorem dL_law_292 : decode cL_law 292 = .ok (.iconst 0, 1) := by decide +kernel
theorem dL_law_293 : decode cL_law 293 = .ok (.ireturn, 1) := by decide +kernel
theorem dL_law_294 : decode cL_law 294 = .ok (.aload_n 1, 1) := by decide +kernel
theorem dL_law_295 : decode cL_law 295 = .ok (.aload_n 0, 1) := by decide +kernel
theorem dL_law_296 : decode cL_law 296 = .ok (.iload_n 3, 1) := by decide +kernel
theorem dL_law_297 : decode cL_law 297 = .ok (.iconst 1, 1) := by decide +kernel
theorem dL_law_298 : decode cL_law 298 = .ok (.iadd, 1) := by decide +kernel
theorem dL_law_299 : decode cL_law 299 = .ok (.iaload, 1) := by decide +kernel
theorem dL_law_300 : decode cL_law 300 = .ok (.aload_n 0, 1) := by decide +kernel
theorem dL_law_301 : decode cL_law 301 = .ok (.iload_n 3, 1) := by decide +kernel
theorem dL_law_302 : decode cL_law 302 = .ok (.iconst 2, 1) := by decide +kernel
theorem dL_law_303 : decode cL_law 303 = .ok (.iadd, 1) := by decide +kernel
theorem dL_law_304 : decode cL_law 304 = .ok (.iaload, 1) := by decide +kernel
theorem dL_law_305 : decode cL_law 305 = .ok (.invokevirtual 40, 3) := by decide +kernel
theorem dL_law_308 : decode cL_law 308 = .ok (.aload_n 2, 1) := by decide +kernel
theorem dL_law_309 : decode cL_law 309 = .ok (.aload_n 0, 1) := by decide +kernel
theorem dL_law_310 : decode cL_law 310 = .ok (.iload_n 3, 1) := by decide +kernel
theorem dL_law_311 : decode cL_law 311 = .ok (.iconst 1, 1) := by decide +kernel
theorem dL_law_312 : decode cL_law 312 = .ok (.iadd, 1) := by decide +kernel
theorem dL_law_313 : decode cL_law 313 = .ok (.iaload, 1) := by decide +kernel
theorem dL_law_314 : decode cL_law 314 = .ok (.aload_n 0, 1) := by decide +kernel
theorem dL_law_315 : decode cL_law 315 = .ok (.iload_n 3, 1) := by decide +kernel
theorem dL_law_316 : decode cL_law 316 = .ok (.iconst 2, 1) := by decide +kernel
theorem dL_law_317 : decode cL_law 317 = .ok (.iadd, 1) := by decide +kernel
theorem dL_law_318 : decode cL_law 318 = .ok (.iaload, 1) := by decide +kernel
theorem dL_law_319 : decode cL_law 319 = .ok (.invokevirtual 43, 3) := by decide +kernel
theorem dL_law_322 : decode cL_law 322 = .ok (.if_icmp .eq 757, 3) := by decide +kernel
theorem dL_law_325 : decode cL_law 325 = .ok (.iconst 0, 1) := by decide +kernel
theorem dL_law_326 : decode cL_law 326 = .ok (.ireturn, 1) := by decide +kernel
theorem dL_law_327 : decode cL_law 327 = .ok (.aload_n 1, 1) := by decide +kernel
theorem dL_law_328 : decode cL_law 328 = .ok (.aload_n 0, 1) := by decide +kernel
theorem dL_law_329 : decode cL_law 329 = .ok (.iload_n 3, 1) := by decide +kernel
theorem dL_law_330 : decode cL_law 330 = .ok (.iconst 1, 1) := by decide +kernel
theorem dL_law_331 : decode cL_law 331 = .ok (.iadd, 1) := by decide +kernel
theorem dL_law_332 : decode cL_law 332 = .ok (.iaload, 1) := by decide +kernel
theorem dL_law_333 : decode cL_law 333 = .ok (.invokevirtual 44, 3) := by decide +kernel
theorem dL_law_336 : decode cL_law 336 = .ok (.aload_n 2, 1) := by decide +kernel
theorem dL_law_337 : decode cL_law 337 = .ok (.aload_n 0, 1) := by decide +kernel
theorem dL_law_338 : decode cL_law 338 = .ok (.iload_n 3, 1) := by decide +kernel
theorem dL_law_339 : decode cL_law 339 = .ok (.iconst 1, 1) := by decide +kernel
theorem dL_law_340 : decode cL_law 340 = .ok (.iadd, 1) := by decide +kernel
theorem dL_law_341 : decode cL_law 341 = .ok (.iaload, 1) := by decide +kernel
theorem dL_law_342 : decode cL_law 342 = .ok (.invokevirtual 47, 3) := by decide +kernel
theorem dL_law_345 : decode cL_law 345 = .ok (.if_icmp .eq 734, 3) := by decide +kernel
theorem dL_law_348 : decode cL_law 348 = .ok (.iconst 0, 1) := by decide +kernel
theorem dL_law_349 : decode cL_law 349 = .ok (.ireturn, 1) := by decide +kernel
theorem dL_law_350 : decode cL_law 350 = .ok (.aload_n 1, 1) := by decide +kernel
theorem dL_law_351 : decode cL_law 351 = .ok (.aload_n 0, 1) := by decide +kernel
theorem dL_law_352 : decode cL_law 352 = .ok (.iload_n 3, 1) := by decide +kernel
theorem dL_law_353 : decode cL_law 353 = .ok (.iconst 1, 1) := by decide +kernel
theorem dL_law_354 : decode cL_law 354 = .ok (.iadd, 1) := by decide +kernel
theorem dL_law_355 : decode cL_law 355 = .ok (.iaload, 1) := by decide +kernel
theorem dL_law_356 : decode cL_law 356 = .ok (.invokevirtual 48, 3) := by decide +kernel
theorem dL_law_359 : decode cL_law 359 = .ok (.aload_n 2, 1) := by decide +kernel
theorem dL_law_360 : decode cL_law 360 = .ok (.aload_n 0, 1) := by decide +kernel
theorem dL_law_361 : decode cL_law 361 = .ok (.iload_n 3, 1) := by decide +kernel
theorem dL_law_362 : decode cL_law 362 = .ok (.iconst 1, 1) := by decide +kernel
theorem dL_law_363 : decode cL_law 363 = .ok (.iadd, 1) := by decide +kernel
theorem dL_law_364 : decode cL_law 364 = .ok (.iaload, 1) := by decide +kernel
theorem dL_law_365 : decode cL_law 365 = .ok (.invokevirtual 51, 3) := by decide +kernel
theorem dL_law_368 : decode cL_law 368 = .ok (.if_icmp .eq 711, 3) := by decide +kernel
theorem dL_law_371 : decode cL_law 371 = .ok (.iconst 0, 1) := by decide +kernel
theorem dL_law_372 : decode cL_law 372 = .ok (.ireturn, 1) := by decide +kernel
theorem dL_law_373 : decode cL_law 373 = .ok (.aload_n 1, 1) := by decide +kernel
theorem dL_law_374 : decode cL_law 374 = .ok (.aload_n 0, 1) := by decide +kernel
theorem dL_law_375 : decode cL_law 375 = .ok (.iload_n 3, 1) := by decide +kernel
theorem dL_law_376 : decode cL_law 376 = .ok (.iconst 1, 1) := by decide +kernel
theorem dL_law_377 : decode cL_law 377 = .ok (.iadd, 1) := by decide +kernel
theorem dL_law_378 : decode cL_law 378 = .ok (.iaload, 1) := by decide +kernel
theorem dL_law_379 : decode cL_law 379 = .ok (.invokevirtual 52, 3) := by decide +kernel
theorem dL_law_382 : decode cL_law 382 = .ok (.aload_n 2, 1) := by decide +kernel
theorem dL_law_383 : decode cL_law 383 = .ok (.aload_n 0, 1) := by decide +kernel
theorem dL_law_384 : decode cL_law 384 = .ok (.iload_n 3, 1) := by decide +kernel
theorem dL_law_385 : decode cL_law 385 = .ok (.iconst 1, 1) := by decide +kernel
theorem dL_law_386 : decode cL_law 386 = .ok (.iadd, 1) := by decide +kernel
theorem dL_law_387 : decode cL_law 387 = .ok (.iaload, 1) := by decide +kernel
theorem dL_law_388 : decode cL_law 388 = .ok (.invokevirtual 55, 3) := by decide +kernel
theorem dL_law_391 : decode cL_law 391 = .ok (.if_icmp .eq 688, 3) := by decide +kernel
theorem dL_law_394 : decode cL_law 394 = .ok (.iconst 0, 1) := by decide +kernel
theorem dL_law_395 : decode cL_law 395 = .ok (.ireturn, 1) := by decide +kernel
theorem dL_law_396 : decode cL_law 396 = .ok (.aload_n 1, 1) := by decide +kernel
theorem dL_law_397 : decode cL_law 397 = .ok (.aload_n 0, 1) := by decide +kernel
theorem dL_law_398 : decode cL_law 398 = .ok (.iload_n 3, 1) := by decide +kernel
theorem dL_law_399 : decode cL_law 399 = .ok (.iconst 1, 1) := by decide +kernel
theorem dL_law_400 : decode cL_law 400 = .ok (.iadd, 1) := by decide +kernel
theorem dL_law_401 : decode cL_law 401 = .ok (.iaload, 1) := by decide +kernel
theorem dL_law_402 : decode cL_law 402 = .ok (.aload_n 0, 1) := by decide +kernel
theorem dL_law_403 : decode cL_law 403 = .ok (.iload_n 3, 1) := by decide +kernel
theorem dL_law_404 : decode cL_law 404 = .ok (.iconst 2, 1) := by decide +kernel
theorem dL_law_405 : decode cL_law 405 = .ok (.iadd, 1) := by decide +kernel
theorem dL_law_406 : decode cL_law 406 = .ok (.iaload, 1) := by decide +kernel
theorem dL_law_407 : decode cL_law 407 = .ok (.invokevirtual 56, 3) := by decide +kernel
theorem dL_law_410 : decode cL_law 410 = .ok (.aload_n 2, 1) := by decide +kernel
theorem dL_law_411 : decode cL_law 411 = .ok (.aload_n 0, 1) := by decide +kernel
theorem dL_law_412 : decode cL_law 412 = .ok (.iload_n 3, 1) := by decide +kernel
theorem dL_law_413 : decode cL_law 413 = .ok (.iconst 1, 1) := by decide +kernel
theorem dL_law_414 : decode cL_law 414 = .ok (.iadd, 1) := by decide +kernel
theorem dL_law_415 : decode cL_law 415 = .ok (.iaload, 1) := by decide +kernel
theorem dL_law_416 : decode cL_law 416 = .ok (.aload_n 0, 1) := by decide +kernel
theorem dL_law_417 : decode cL_law 417 = .ok (.iload_n 3, 1) := by decide +kernel
theorem dL_law_418 : decode cL_law 418 = .ok (.iconst 2, 1) := by decide +kernel
theorem dL_law_419 : decode cL_law 419 = .ok (.iadd, 1) := by decide +kernel
theorem dL_law_420 : decode cL_law 420 = .ok (.iaload, 1) := by decide +kernel
theorem dL_law_421 : decode cL_law 421 = .ok (.invokevirtual 59, 3) := by decide +kernel
theorem dL_law_424 : decode cL_law 424 = .ok (.if_icmp .eq 655, 3) := by decide +kernel
theorem dL_law_427 : decode cL_law 427 = .ok (.iconst 0, 1) := by decide +kernel
theorem dL_law_428 : decode cL_law 428 = .ok (.ireturn, 1) := by decide +kernel
theorem dL_law_429 : decode cL_law 429 = .ok (.aload_n 1, 1) := by decide +kernel
theorem dL_law_430 : decode cL_law 430 = .ok (.aload_n 0, 1) := by decide +kernel
theorem dL_law_431 : decode cL_law 431 = .ok (.iload_n 3, 1) := by decide +kernel
theorem dL_law_432 : decode cL_law 432 = .ok (.iconst 1, 1) := by decide +kernel
theorem dL_law_433 : decode cL_law 433 = .ok (.iadd, 1) := by decide +kernel
theorem dL_law_434 : decode cL_law 434 = .ok (.iaload, 1) := by decide +kernel
theorem dL_law_435 : decode cL_law 435 = .ok (.aload_n 0, 1) := by decide +kernel
theorem dL_law_436 : decode cL_law 436 = .ok (.iload_n 3, 1) := by decide +kernel
theorem dL_law_437 : decode cL_law 437 = .ok (.iconst 2, 1) := by decide +kernel
theorem dL_law_438 : decode cL_law 438 = .ok (.iadd, 1) := by decide +kernel
theorem dL_law_439 : decode cL_law 439 = .ok (.iaload, 1) := by decide +kernel
theorem dL_law_440 : decode cL_law 440 = .ok (.aload_n 0, 1) := by decide +kernel
theorem dL_law_441 : decode cL_law 441 = .ok (.iload_n 3, 1) := by decide +kernel
theorem dL_law_442 : decode cL_law 442 = .ok (.iconst 3, 1) := by decide +kernel
theorem dL_law_443 : decode cL_law 443 = .ok (.iadd, 1) := by decide +kernel
theorem dL_law_444 : decode cL_law 444 = .ok (.iaload, 1) := by decide +kernel
theorem dL_law_445 : decode cL_law 445 = .ok (.invokevirtual 60, 3) := by decide +kernel
theorem dL_law_448 : decode cL_law 448 = .ok (.aload_n 2, 1) := by decide +kernel
theorem dL_law_449 : decode cL_law 449 = .ok (.aload_n 0, 1) := by decide +kernel
theorem dL_law_450 : decode cL_law 450 = .ok (.iload_n 3, 1) := by decide +kernel
theorem dL_law_451 : decode cL_law 451 = .ok (.iconst 1, 1) := by decide +kernel
theorem dL_law_452 : decode cL_law 452 = .ok (.iadd, 1) := by decide +kernel
theorem dL_law_453 : decode cL_law 453 = .ok (.iaload, 1) := by decide +kernel
theorem dL_law_454 : decode cL_law 454 = .ok (.aload_n 0, 1) := by decide +kernel
theorem dL_law_455 : decode cL_law 455 = .ok (.iload_n 3, 1) := by decide +kernel
theorem dL_law_456 : decode cL_law 456 = .ok (.iconst 2, 1) := by decide +kernel
theorem dL_law_457 : decode cL_law 457 = .ok (.iadd, 1) := by decide +kernel
theorem dL_law_458 : decode cL_law 458 = .ok (.iaload, 1) := by decide +kernel
theorem dL_law_459 : decode cL_law 459 = .ok (.aload_n 0, 1) := by decide +kernel
theorem dL_law_460 : decode cL_law 460 = .ok (.iload_n 3, 1) := by decide +kernel
theorem dL_law_461 : decode cL_law 461 = .ok (.iconst 3, 1) := by decide +kernel
theorem dL_law_462 : decode cL_law 462 = .ok (.iadd, 1) := by decide +kernel
theorem dL_law_463 : decode cL_law 463 = .ok (.iaload, 1) := by decide +kernel
theorem dL_law_464 : decode cL_law 464 = .ok (.invokevirtual 64, 3) := by decide +kernel
theorem dL_law_467 : decode cL_law 467 = .ok (.if_icmp .eq 612, 3) := by decide +kernel
theorem dL_law_470 : decode cL_law 470 = .ok (.iconst 0, 1) := by decide +kernel
theorem dL_law_471 : decode cL_law 471 = .ok (.ireturn, 1) := by decide +kernel
theorem dL_law_472 : decode cL_law 472 = .ok (.aload_n 1, 1) := by decide +kernel
theorem dL_law_473 : decode cL_law 473 = .ok (.invokevirtual 65, 3) := by decide +kernel
theorem dL_law_476 : decode cL_law 476 = .ok (.aload_n 2, 1) := by decide +kernel
theorem dL_law_477 : decode cL_law 477 = .ok (.invokevirtual 68, 3) := by decide +kernel
theorem dL_law_480 : decode cL_law 480 = .ok (.if_icmp .eq 599, 3) := by decide +kernel
theorem dL_law_483 : decode cL_law 483 = .ok (.iconst 0, 1) := by decide +kernel
theorem dL_law_484 : decode cL_law 484 = .ok (.ireturn, 1) := by decide +kernel
theorem dL_law_485 : decode cL_law 485 = .ok (.aload_n 1, 1) := by decide +kernel
theorem dL_law_486 : decode cL_law 486 = .ok (.aload_n 0, 1) := by decide +kernel
theorem dL_law_487 : decode cL_law 487 = .ok (.iload_n 3, 1) := by decide +kernel
theorem dL_law_488 : decode cL_law 488 = .ok (.iconst 1, 1) := by decide +kernel
theorem dL_law_489 : decode cL_law 489 = .ok (.iadd, 1) := by decide +kernel
theorem dL_law_490 : decode cL_law 490 = .ok (.iaload, 1) := by decide +kernel
theorem dL_law_491 : decode cL_law 491 = .ok (.invokevirtual 69, 3) := by decide +kernel
theorem dL_law_494 : decode cL_law 494 = .ok (.aload_n 2, 1) := by decide +kernel
theorem dL_law_495 : decode cL_law 495 = .ok (.aload_n 0, 1) := by decide +kernel
theorem dL_law_496 : decode cL_law 496 = .ok (.iload_n 3, 1) := by decide +kernel
theorem dL_law_497 : decode cL_law 497 = .ok (.iconst 1, 1) := by decide +kernel
theorem dL_law_498 : decode cL_law 498 = .ok (.iadd, 1) := by decide +kernel
theorem dL_law_499 : decode cL_law 499 = .ok (.iaload, 1) := by decide +kernel
theorem dL_law_500 : decode cL_law 500 = .ok (.invokevirtual 73, 3) := by decide +kernel
theorem dL_law_503 : decode cL_law 503 = .ok (.lcmp, 1) := by decide +kernel
theorem dL_law_504 : decode cL_law 504 = .ok (.ifCond .eq 575, 3) := by decide +kernel
theorem dL_law_507 : decode cL_law 507 = .ok (.iconst 0, 1) := by decide +kernel
theorem dL_law_508 : decode cL_law 508 = .ok (.ireturn, 1) := by decide +kernel
theorem dL_law_509 : decode cL_law 509 = .ok (.aload_n 1, 1) := by decide +kernel
theorem dL_law_510 : decode cL_law 510 = .ok (.aload_n 0, 1) := by decide +kernel
theorem dL_law_511 : decode cL_law 511 = .ok (.iload_n 3, 1) := by decide +kernel
theorem dL_law_512 : decode cL_law 512 = .ok (.iconst 1, 1) := by decide +kernel
theorem dL_law_513 : decode cL_law 513 = .ok (.iadd, 1) := by decide +kernel
theorem dL_law_514 : decode cL_law 514 = .ok (.iaload, 1) := by decide +kernel
theorem dL_law_515 : decode cL_law 515 = .ok (.invokevirtual 74, 3) := by decide +kernel
theorem dL_law_518 : decode cL_law 518 = .ok (.aload_n 2, 1) := by decide +kernel
theorem dL_law_519 : decode cL_law 519 = .ok (.aload_n 0, 1) := by decide +kernel
theorem dL_law_520 : decode cL_law 520 = .ok (.iload_n 3, 1) := by decide +kernel
theorem dL_law_521 : decode cL_law 521 = .ok (.iconst 1, 1) := by decide +kernel
theorem dL_law_522 : decode cL_law 522 = .ok (.iadd, 1) := by decide +kernel
theorem dL_law_523 : decode cL_law 523 = .ok (.iaload, 1) := by decide +kernel
theorem dL_law_524 : decode cL_law 524 = .ok (.invokevirtual 77, 3) := by decide +kernel
theorem dL_law_527 : decode cL_law 527 = .ok (.lcmp, 1) := by decide +kernel
theorem dL_law_528 : decode cL_law 528 = .ok (.ifCond .eq 551, 3) := by decide +kernel
theorem dL_law_531 : decode cL_law 531 = .ok (.iconst 0, 1) := by decide +kernel
theorem dL_law_532 : decode cL_law 532 = .ok (.ireturn, 1) := by decide +kernel
theorem dL_law_533 : decode cL_law 533 = .ok (.aload_n 1, 1) := by decide +kernel
theorem dL_law_534 : decode cL_law 534 = .ok (.aload_n 0, 1) := by decide +kernel
theorem dL_law_535 : decode cL_law 535 = .ok (.iload_n 3, 1) := by decide +kernel
theorem dL_law_536 : decode cL_law 536 = .ok (.iconst 1, 1) := by decide +kernel
theorem dL_law_537 : decode cL_law 537 = .ok (.iadd, 1) := by decide +kernel
theorem dL_law_538 : decode cL_law 538 = .ok (.iaload, 1) := by decide +kernel
theorem dL_law_539 : decode cL_law 539 = .ok (.invokevirtual 78, 3) := by decide +kernel
theorem dL_law_542 : decode cL_law 542 = .ok (.aload_n 2, 1) := by decide +kernel
theorem dL_law_543 : decode cL_law 543 = .ok (.aload_n 0, 1) := by decide +kernel
theorem dL_law_544 : decode cL_law 544 = .ok (.iload_n 3, 1) := by decide +kernel
theorem dL_law_545 : decode cL_law 545 = .ok (.iconst 1, 1) := by decide +kernel
theorem dL_law_546 : decode cL_law 546 = .ok (.iadd, 1) := by decide +kernel
theorem dL_law_547 : decode cL_law 547 = .ok (.iaload, 1) := by decide +kernel
theorem dL_law_548 : decode cL_law 548 = .ok (.invokevirtual 81, 3) := by decide +kernel
theorem dL_law_551 : decode cL_law 551 = .ok (.if_icmp .eq 528, 3) := by decide +kernel
theorem dL_law_554 : decode cL_law 554 = .ok (.iconst 0, 1) := by decide +kernel
theorem dL_law_555 : decode cL_law 555 = .ok (.ireturn, 1) := by decide +kernel
theorem dL_law_556 : decode cL_law 556 = .ok (.aload_n 1, 1) := by decide +kernel
theorem dL_law_557 : decode cL_law 557 = .ok (.aload_n 0, 1) := by decide +kernel
theorem dL_law_558 : decode cL_law 558 = .ok (.iload_n 3, 1) := by decide +kernel
theorem dL_law_559 : decode cL_law 559 = .ok (.iconst 1, 1) := by decide +kernel
theorem dL_law_560 : decode cL_law 560 = .ok (.iadd, 1) := by decide +kernel
theorem dL_law_561 : decode cL_law 561 = .ok (.iaload, 1) := by decide +kernel
theorem dL_law_562 : decode cL_law 562 = .ok (.i2l, 1) := by decide +kernel
theorem dL_law_563 : decode cL_law 563 = .ok (.bipush 32, 2) := by decide +kernel
theorem dL_law_565 : decode cL_law 565 = .ok (.lshl, 1) := by decide +kernel
theorem dL_law_566 : decode cL_law 566 = .ok (.aload_n 0, 1) := by decide +kernel
theorem dL_law_567 : decode cL_law 567 = .ok (.iload_n 3, 1) := by decide +kernel
theorem dL_law_568 : decode cL_law 568 = .ok (.iconst 2, 1) := by decide +kernel
theorem dL_law_569 : decode cL_law 569 = .ok (.iadd, 1) := by decide +kernel
theorem dL_law_570 : decode cL_law 570 = .ok (.iaload, 1) := by decide +kernel
theorem dL_law_571 : decode cL_law 571 = .ok (.i2l, 1) := by decide +kernel
theorem dL_law_572 : decode cL_law 572 = .ok (.ldc2_w 82, 3) := by decide +kernel
theorem dL_law_575 : decode cL_law 575 = .ok (.land, 1) := by decide +kernel
theorem dL_law_576 : decode cL_law 576 = .ok (.lor, 1) := by decide +kernel
theorem dL_law_577 : decode cL_law 577 = .ok (.aload_n 0, 1) := by decide +kernel
theorem dL_law_578 : decode cL_law 578 = .ok (.iload_n 3, 1) := by decide +kernel
theorem dL_law_579 : decode cL_law 579 = .ok (.iconst 3, 1) := by decide +kernel
theorem dL_law_580 : decode cL_law 580 = .ok (.iadd, 1) := by decide +kernel
theorem dL_law_581 : decode cL_law 581 = .ok (.iaload, 1) := by decide +kernel
theorem dL_law_582 : decode cL_law 582 = .ok (.invokevirtual 84, 3) := by decide +kernel
theorem dL_law_585 : decode cL_law 585 = .ok (.aload_n 2, 1) := by decide +kernel
theorem dL_law_586 : decode cL_law 586 = .ok (.aload_n 0, 1) := by decide +kernel
theorem dL_law_587 : decode cL_law 587 = .ok (.iload_n 3, 1) := by decide +kernel
theorem dL_law_588 : decode cL_law 588 = .ok (.iconst 1, 1) := by decide +kernel
theorem dL_law_589 : decode cL_law 589 = .ok (.iadd, 1) := by decide +kernel
theorem dL_law_590 : decode cL_law 590 = .ok (.iaload, 1) := by decide +kernel
theorem dL_law_591 : decode cL_law 591 = .ok (.i2l, 1) := by decide +kernel
theorem dL_law_592 : decode cL_law 592 = .ok (.bipush 32, 2) := by decide +kernel
theorem dL_law_594 : decode cL_law 594 = .ok (.lshl, 1) := by decide +kernel
theorem dL_law_595 : decode cL_law 595 = .ok (.aload_n 0, 1) := by decide +kernel
theorem dL_law_596 : decode cL_law 596 = .ok (.iload_n 3, 1) := by decide +kernel
theorem dL_law_597 : decode cL_law 597 = .ok (.iconst 2, 1) := by decide +kernel
theorem dL_law_598 : decode cL_law 598 = .ok (.iadd, 1) := by decide +kernel
theorem dL_law_599 : decode cL_law 599 = .ok (.iaload, 1) := by decide +kernel
theorem dL_law_600 : decode cL_law 600 = .ok (.i2l, 1) := by decide +kernel
theorem dL_law_601 : decode cL_law 601 = .ok (.ldc2_w 82, 3) := by decide +kernel
theorem dL_law_604 : decode cL_law 604 = .ok (.land, 1) := by decide +kernel
theorem dL_law_605 : decode cL_law 605 = .ok (.lor, 1) := by decide +kernel
theorem dL_law_606 : decode cL_law 606 = .ok (.aload_n 0, 1) := by decide +kernel
theorem dL_law_607 : decode cL_law 607 = .ok (.iload_n 3, 1) := by decide +kernel
theorem dL_law_608 : decode cL_law 608 = .ok (.iconst 3, 1) := by decide +kernel
theorem dL_law_609 : decode cL_law 609 = .ok (.iadd, 1) := by decide +kernel
theorem dL_law_610 : decode cL_law 610 = .ok (.iaload, 1) := by decide +kernel
theorem dL_law_611 : decode cL_law 611 = .ok (.invokevirtual 88, 3) := by decide +kernel
theorem dL_law_614 : decode cL_law 614 = .ok (.if_icmp .eq 465, 3) := by decide +kernel
theorem dL_law_617 : decode cL_law 617 = .ok (.iconst 0, 1) := by decide +kernel
theorem dL_law_618 : decode cL_law 618 = .ok (.ireturn, 1) := by decide +kernel
theorem dL_law_619 : decode cL_law 619 = .ok (.aload_n 1, 1) := by decide +kernel
theorem dL_law_620 : decode cL_law 620 = .ok (.aload_n 0, 1) := by decide +kernel
theorem dL_law_621 : decode cL_law 621 = .ok (.iload_n 3, 1) := by decide +kernel
theorem dL_law_622 : decode cL_law 622 = .ok (.iconst 1, 1) := by decide +kernel
theorem dL_law_623 : decode cL_law 623 = .ok (.iadd, 1) := by decide +kernel
theorem dL_law_624 : decode cL_law 624 = .ok (.iaload, 1) := by decide +kernel
theorem dL_law_625 : decode cL_law 625 = .ok (.invokevirtual 89, 3) := by decide +kernel
theorem dL_law_628 : decode cL_law 628 = .ok (.aload_n 2, 1) := by decide +kernel
theorem dL_law_629 : decode cL_law 629 = .ok (.aload_n 0, 1) := by decide +kernel
theorem dL_law_630 : decode cL_law 630 = .ok (.iload_n 3, 1) := by decide +kernel
theorem dL_law_631 : decode cL_law 631 = .ok (.iconst 1, 1) := by decide +kernel
theorem dL_law_632 : decode cL_law 632 = .ok (.iadd, 1) := by decide +kernel
theorem dL_law_633 : decode cL_law 633 = .ok (.iaload, 1) := by decide +kernel
theorem dL_law_634 : decode cL_law 634 = .ok (.invokevirtual 92, 3) := by decide +kernel
theorem dL_law_637 : decode cL_law 637 = .ok (.if_icmp .eq 442, 3) := by decide +kernel
theorem dL_law_640 : decode cL_law 640 = .ok (.iconst 0, 1) := by decide +kernel
theorem dL_law_641 : decode cL_law 641 = .ok (.ireturn, 1) := by decide +kernel
theorem dL_law_642 : decode cL_law 642 = .ok (.aload_n 1, 1) := by decide +kernel
theorem dL_law_643 : decode cL_law 643 = .ok (.invokevirtual 93, 3) := by decide +kernel
theorem dL_law_646 : decode cL_law 646 = .ok (.aload_n 2, 1) := by decide +kernel
theorem dL_law_647 : decode cL_law 647 = .ok (.invokevirtual 96, 3) := by decide +kernel
theorem dL_law_650 : decode cL_law 650 = .ok (.if_icmp .eq 429, 3) := by decide +kernel
theorem dL_law_653 : decode cL_law 653 = .ok (.iconst 0, 1) := by decide +kernel
theorem dL_law_654 : decode cL_law 654 = .ok (.ireturn, 1) := by decide +kernel
theorem dL_law_655 : decode cL_law 655 = .ok (.aload_n 1, 1) := by decide +kernel
theorem dL_law_656 : decode cL_law 656 = .ok (.aload_n 0, 1) := by decide +kernel
theorem dL_law_657 : decode cL_law 657 = .ok (.iload_n 3, 1) := by decide +kernel
theorem dL_law_658 : decode cL_law 658 = .ok (.iconst 1, 1) := by decide +kernel
theorem dL_law_659 : decode cL_law 659 = .ok (.iadd, 1) := by decide +kernel
theorem dL_law_660 : decode cL_law 660 = .ok (.iaload, 1) := by decide +kernel
theorem dL_law_661 : decode cL_law 661 = .ok (.invokevirtual 97, 3) := by decide +kernel
theorem dL_law_664 : decode cL_law 664 = .ok (.aload_n 2, 1) := by decide +kernel
theorem dL_law_665 : decode cL_law 665 = .ok (.aload_n 0, 1) := by decide +kernel
theorem dL_law_666 : decode cL_law 666 = .ok (.iload_n 3, 1) := by decide +kernel
theorem dL_law_667 : decode cL_law 667 = .ok (.iconst 1, 1) := by decide +kernel
theorem dL_law_668 : decode cL_law 668 = .ok (.iadd, 1) := by decide +kernel
theorem dL_law_669 : decode cL_law 669 = .ok (.iaload, 1) := by decide +kernel
theorem dL_law_670 : decode cL_law 670 = .ok (.invokevirtual 100, 3) := by decide +kernel
theorem dL_law_673 : decode cL_law 673 = .ok (.if_icmp .eq 406, 3) := by decide +kernel
theorem dL_law_676 : decode cL_law 676 = .ok (.iconst 0, 1) := by decide +kernel
theorem dL_law_677 : decode cL_law 677 = .ok (.ireturn, 1) := by decide +kernel
theorem dL_law_678 : decode cL_law 678 = .ok (.aload_n 1, 1) := by decide +kernel
theorem dL_law_679 : decode cL_law 679 = .ok (.invokevirtual 101, 3) := by decide +kernel
theorem dL_law_682 : decode cL_law 682 = .ok (.aload_n 2, 1) := by decide +kernel
theorem dL_law_683 : decode cL_law 683 = .ok (.invokevirtual 105, 3) := by decide +kernel
theorem dL_law_686 : decode cL_law 686 = .ok (.lcmp, 1) := by decide +kernel
theorem dL_law_687 : decode cL_law 687 = .ok (.ifCond .eq 392, 3) := by decide +kernel
theorem dL_law_690 : decode cL_law 690 = .ok (.iconst 0, 1) := by decide +kernel
theorem dL_law_691 : decode cL_law 691 = .ok (.ireturn, 1) := by decide +kernel
theorem dL_law_692 : decode cL_law 692 = .ok (.aload_n 1, 1) := by decide +kernel
theorem dL_law_693 : decode cL_law 693 = .ok (.aload_n 0, 1) := by decide +kernel
theorem dL_law_694 : decode cL_law 694 = .ok (.iload_n 3, 1) := by decide +kernel
theorem dL_law_695 : decode cL_law 695 = .ok (.iconst 1, 1) := by decide +kernel
theorem dL_law_696 : decode cL_law 696 = .ok (.iadd, 1) := by decide +kernel
theorem dL_law_697 : decode cL_law 697 = .ok (.iaload, 1) := by decide +kernel
theorem dL_law_698 : decode cL_law 698 = .ok (.invokevirtual 106, 3) := by decide +kernel
theorem dL_law_701 : decode cL_law 701 = .ok (.aload_n 2, 1) := by decide +kernel
theorem dL_law_702 : decode cL_law 702 = .ok (.aload_n 0, 1) := by decide +kernel
theorem dL_law_703 : decode cL_law 703 = .ok (.iload_n 3, 1) := by decide +kernel
theorem dL_law_704 : decode cL_law 704 = .ok (.iconst 1, 1) := by decide +kernel
theorem dL_law_705 : decode cL_law 705 = .ok (.iadd, 1) := by decide +kernel
theorem dL_law_706 : decode cL_law 706 = .ok (.iaload, 1) := by decide +kernel
theorem dL_law_707 : decode cL_law 707 = .ok (.invokevirtual 109, 3) := by decide +kernel
theorem dL_law_710 : decode cL_law 710 = .ok (.if_icmp .eq 369, 3) := by decide +kernel
theorem dL_law_713 : decode cL_law 713 = .ok (.iconst 0, 1) := by decide +kernel
theorem dL_law_714 : decode cL_law 714 = .ok (.ireturn, 1) := by decide +kernel
theorem dL_law_715 : decode cL_law 715 = .ok (.aload_n 1, 1) := by decide +kernel
theorem dL_law_716 : decode cL_law 716 = .ok (.aload_n 0, 1) := by decide +kernel
theorem dL_law_717 : decode cL_law 717 = .ok (.iload_n 3, 1) := by decide +kernel
theorem dL_law_718 : decode cL_law 718 = .ok (.iconst 1, 1) := by decide +kernel
theorem dL_law_719 : decode cL_law 719 = .ok (.iadd, 1) := by decide +kernel
theorem dL_law_720 : decode cL_law 720 = .ok (.iaload, 1) := by decide +kernel
theorem dL_law_721 : decode cL_law 721 = .ok (.aload_n 0, 1) := by decide +kernel
theorem dL_law_722 : decode cL_law 722 = .ok (.iload_n 3, 1) := by decide +kernel
theorem dL_law_723 : decode cL_law 723 = .ok (.iconst 2, 1) := by decide +kernel
theorem dL_law_724 : decode cL_law 724 = .ok (.iadd, 1) := by decide +kernel
theorem dL_law_725 : decode cL_law 725 = .ok (.iaload, 1) := by decide +kernel
theorem dL_law_726 : decode cL_law 726 = .ok (.i2l, 1) := by decide +kernel
theorem dL_law_727 : decode cL_law 727 = .ok (.bipush 32, 2) := by decide +kernel
theorem dL_law_729 : decode cL_law 729 = .ok (.lshl, 1) := by decide +kernel
theorem dL_law_730 : decode cL_law 730 = .ok (.aload_n 0, 1) := by decide +kernel
theorem dL_law_731 : decode cL_law 731 = .ok (.iload_n 3, 1) := by decide +kernel
theorem dL_law_732 : decode cL_law 732 = .ok (.iconst 3, 1) := by decide +kernel
theorem dL_law_733 : decode cL_law 733 = .ok (.iadd, 1) := by decide +kernel
theorem dL_law_734 : decode cL_law 734 = .ok (.iaload, 1) := by decide +kernel
theorem dL_law_735 : decode cL_law 735 = .ok (.i2l, 1) := by decide +kernel
theorem dL_law_736 : decode cL_law 736 = .ok (.ldc2_w 82, 3) := by decide +kernel
theorem dL_law_739 : decode cL_law 739 = .ok (.land, 1) := by decide +kernel
theorem dL_law_740 : decode cL_law 740 = .ok (.lor, 1) := by decide +kernel
theorem dL_law_741 : decode cL_law 741 = .ok (.invokevirtual 110, 3) := by decide +kernel
theorem dL_law_744 : decode cL_law 744 = .ok (.aload_n 2, 1) := by decide +kernel
theorem dL_law_745 : decode cL_law 745 = .ok (.aload_n 0, 1) := by decide +kernel
theorem dL_law_746 : decode cL_law 746 = .ok (.iload_n 3, 1) := by decide +kernel
theorem dL_law_747 : decode cL_law 747 = .ok (.iconst 1, 1) := by decide +kernel
theorem dL_law_748 : decode cL_law 748 = .ok (.iadd, 1) := by decide +kernel
theorem dL_law_749 : decode cL_law 749 = .ok (.iaload, 1) := by decide +kernel
theorem dL_law_750 : decode cL_law 750 = .ok (.aload_n 0, 1) := by decide +kernel
theorem dL_law_751 : decode cL_law 751 = .ok (.iload_n 3, 1) := by decide +kernel
theorem dL_law_752 : decode cL_law 752 = .ok (.iconst 2, 1) := by decide +kernel
theorem dL_law_753 : decode cL_law 753 = .ok (.iadd, 1) := by decide +kernel
theorem dL_law_754 : decode cL_law 754 = .ok (.iaload, 1) := by decide +kernel
theorem dL_law_755 : decode cL_law 755 = .ok (.i2l, 1) := by decide +kernel
theorem dL_law_756 : decode cL_law 756 = .ok (.bipush 32, 2) := by decide +kernel
theorem dL_law_758 : decode cL_law 758 = .ok (.lshl, 1) := by decide +kernel
theorem dL_law_759 : decode cL_law 759 = .ok (.aload_n 0, 1) := by decide +kernel
theorem dL_law_760 : decode cL_law 760 = .ok (.iload_n 3, 1) := by decide +kernel
theorem dL_law_761 : decode cL_law 761 = .ok (.iconst 3, 1) := by decide +kernel
theorem dL_law_762 : decode cL_law 762 = .ok (.iadd, 1) := by decide +kernel
theorem dL_law_763 : decode cL_law 763 = .ok (.iaload, 1) := by decide +kernel
theorem dL_law_764 : decode cL_law 764 = .ok (.i2l, 1) := by decide +kernel
theorem dL_law_765 : decode cL_law 765 = .ok (.ldc2_w 82, 3) := by decide +kernel
theorem dL_law_768 : decode cL_law 768 = .ok (.land, 1) := by decide +kernel
theorem dL_law_769 : decode cL_law 769 = .ok (.lor, 1) := by decide +kernel
theorem dL_law_770 : decode cL_law 770 = .ok (.invokevirtual 114, 3) := by decide +kernel
theorem dL_law_773 : decode cL_law 773 = .ok (.if_icmp .eq 306, 3) := by decide +kernel
theorem dL_law_776 : decode cL_law 776 = .ok (.iconst 0, 1) := by decide +kernel
theorem dL_law_777 : decode cL_law 777 = .ok (.ireturn, 1) := by decide +kernel
theorem dL_law_778 : decode cL_law 778 = .ok (.aload_n 1, 1) := by decide +kernel
theorem dL_law_779 : decode cL_law 779 = .ok (.aload_n 0, 1) := by decide +kernel
theorem dL_law_780 : decode cL_law 780 = .ok (.iload_n 3, 1) := by decide +kernel
theorem dL_law_781 : decode cL_law 781 = .ok (.iconst 1, 1) := by decide +kernel
theorem dL_law_782 : decode cL_law 782 = .ok (.iadd, 1) := by decide +kernel
theorem dL_law_783 : decode cL_law 783 = .ok (.iaload, 1) := by decide +kernel
theorem dL_law_784 : decode cL_law 784 = .ok (.aload_n 0, 1) := by decide +kernel
theorem dL_law_785 : decode cL_law 785 = .ok (.iload_n 3, 1) := by decide +kernel
theorem dL_law_786 : decode cL_law 786 = .ok (.iconst 2, 1) := by decide +kernel
theorem dL_law_787 : decode cL_law 787 = .ok (.iadd, 1) := by decide +kernel
theorem dL_law_788 : decode cL_law 788 = .ok (.iaload, 1) := by decide +kernel
theorem dL_law_789 : decode cL_law 789 = .ok (.aload_n 0, 1) := by decide +kernel
theorem dL_law_790 : decode cL_law 790 = .ok (.iload_n 3, 1) := by decide +kernel
theorem dL_law_791 : decode cL_law 791 = .ok (.iconst 3, 1) := by decide +kernel
theorem dL_law_792 : decode cL_law 792 = .ok (.iadd, 1) := by decide +kernel
theorem dL_law_793 : decode cL_law 793 = .ok (.iaload, 1) := by decide +kernel
theorem dL_law_794 : decode cL_law 794 = .ok (.invokevirtual 115, 3) := by decide +kernel
theorem dL_law_797 : decode cL_law 797 = .ok (.aload_n 2, 1) := by decide +kernel
theorem dL_law_798 : decode cL_law 798 = .ok (.aload_n 0, 1) := by decide +kernel
theorem dL_law_799 : decode cL_law 799 = .ok (.iload_n 3, 1) := by decide +kernel
theorem dL_law_800 : decode cL_law 800 = .ok (.iconst 1, 1) := by decide +kernel
theorem dL_law_801 : decode cL_law 801 = .ok (.iadd, 1) := by decide +kernel
theorem dL_law_802 : decode cL_law 802 = .ok (.iaload, 1) := by decide +kernel
theorem dL_law_803 : decode cL_law 803 = .ok (.aload_n 0, 1) := by decide +kernel
theorem dL_law_804 : decode cL_law 804 = .ok (.iload_n 3, 1) := by decide +kernel
theorem dL_law_805 : decode cL_law 805 = .ok (.iconst 2, 1) := by decide +kernel
theorem dL_law_806 : decode cL_law 806 = .ok (.iadd, 1) := by decide +kernel
theorem dL_law_807 : decode cL_law 807 = .ok (.iaload, 1) := by decide +kernel
theorem dL_law_808 : decode cL_law 808 = .ok (.aload_n 0, 1) := by decide +kernel
theorem dL_law_809 : decode cL_law 809 = .ok (.iload_n 3, 1) := by decide +kernel
theorem dL_law_810 : decode cL_law 810 = .ok (.iconst 3, 1) := by decide +kernel
theorem dL_law_811 : decode cL_law 811 = .ok (.iadd, 1) := by decide +kernel
theorem dL_law_812 : decode cL_law 812 = .ok (.iaload, 1) := by decide +kernel
theorem dL_law_813 : decode cL_law 813 = .ok (.invokevirtual 118, 3) := by decide +kernel
theorem dL_law_816 : decode cL_law 816 = .ok (.if_icmp .eq 263, 3) := by decide +kernel
theorem dL_law_819 : decode cL_law 819 = .ok (.iconst 0, 1) := by decide +kernel
theorem dL_law_820 : decode cL_law 820 = .ok (.ireturn, 1) := by decide +kernel
theorem dL_law_821 : decode cL_law 821 = .ok (.aload_n 1, 1) := by decide +kernel
theorem dL_law_822 : decode cL_law 822 = .ok (.invokevirtual 119, 3) := by decide +kernel
theorem dL_law_825 : decode cL_law 825 = .ok (.aload_n 2, 1) := by decide +kernel
theorem dL_law_826 : decode cL_law 826 = .ok (.invokevirtual 122, 3) := by decide +kernel
theorem dL_law_829 : decode cL_law 829 = .ok (.if_icmp .eq 250, 3) := by decide +kernel
theorem dL_law_832 : decode cL_law 832 = .ok (.iconst 0, 1) := by decide +kernel
theorem dL_law_833 : decode cL_law 833 = .ok (.ireturn, 1) := by decide +kernel
theorem dL_law_834 : decode cL_law 834 = .ok (.aload_n 1, 1) := by decide +kernel
theorem dL_law_835 : decode cL_law 835 = .ok (.aload_n 0, 1) := by decide +kernel
theorem dL_law_836 : decode cL_law 836 = .ok (.iload_n 3, 1) := by decide +kernel
theorem dL_law_837 : decode cL_law 837 = .ok (.iconst 1, 1) := by decide +kernel
theorem dL_law_838 : decode cL_law 838 = .ok (.iadd, 1) := by decide +kernel
theorem dL_law_839 : decode cL_law 839 = .ok (.iaload, 1) := by decide +kernel
theorem dL_law_840 : decode cL_law 840 = .ok (.invokevirtual 123, 3) := by decide +kernel
theorem dL_law_843 : decode cL_law 843 = .ok (.aload_n 2, 1) := by decide +kernel
theorem dL_law_844 : decode cL_law 844 = .ok (.aload_n 0, 1) := by decide +kernel
theorem dL_law_845 : decode cL_law 845 = .ok (.iload_n 3, 1) := by decide +kernel
theorem dL_law_846 : decode cL_law 846 = .ok (.iconst 1, 1) := by decide +kernel
theorem dL_law_847 : decode cL_law 847 = .ok (.iadd, 1) := by decide +kernel
theorem dL_law_848 : decode cL_law 848 = .ok (.iaload, 1) := by decide +kernel
theorem dL_law_849 : decode cL_law 849 = .ok (.invokevirtual 126, 3) := by decide +kernel
theorem dL_law_852 : decode cL_law 852 = .ok (.if_icmp .eq 227, 3) := by decide +kernel
theorem dL_law_855 : decode cL_law 855 = .ok (.iconst 0, 1) := by decide +kernel
theorem dL_law_856 : decode cL_law 856 = .ok (.ireturn, 1) := by decide +kernel
theorem dL_law_857 : decode cL_law 857 = .ok (.aload_n 1, 1) := by decide +kernel
theorem dL_law_858 : decode cL_law 858 = .ok (.aload_n 0, 1) := by decide +kernel
theorem dL_law_859 : decode cL_law 859 = .ok (.iload_n 3, 1) := by decide +kernel
theorem dL_law_860 : decode cL_law 860 = .ok (.iconst 1, 1) := by decide +kernel
theorem dL_law_861 : decode cL_law 861 = .ok (.iadd, 1) := by decide +kernel
theorem dL_law_862 : decode cL_law 862 = .ok (.iaload, 1) := by decide +kernel
theorem dL_law_863 : decode cL_law 863 = .ok (.aload_n 0, 1) := by decide +kernel
theorem dL_law_864 : decode cL_law 864 = .ok (.iload_n 3, 1) := by decide +kernel
theorem dL_law_865 : decode cL_law 865 = .ok (.iconst 2, 1) := by decide +kernel
theorem dL_law_866 : decode cL_law 866 = .ok (.iadd, 1) := by decide +kernel
theorem dL_law_867 : decode cL_law 867 = .ok (.iaload, 1) := by decide +kernel
theorem dL_law_868 : decode cL_law 868 = .ok (.ifCond .eq 7, 3) := by decide +kernel
theorem dL_law_871 : decode cL_law 871 = .ok (.iconst 1, 1) := by decide +kernel
theorem dL_law_872 : decode cL_law 872 = .ok (.goto 4, 3) := by decide +kernel
theorem dL_law_875 : decode cL_law 875 = .ok (.iconst 0, 1) := by decide +kernel
theorem dL_law_876 : decode cL_law 876 = .ok (.invokevirtual 127, 3) := by decide +kernel
theorem dL_law_879 : decode cL_law 879 = .ok (.aload_n 2, 1) := by decide +kernel
theorem dL_law_880 : decode cL_law 880 = .ok (.aload_n 0, 1) := by decide +kernel
theorem dL_law_881 : decode cL_law 881 = .ok (.iload_n 3, 1) := by decide +kernel
theorem dL_law_882 : decode cL_law 882 = .ok (.iconst 1, 1) := by decide +kernel
theorem dL_law_883 : decode cL_law 883 = .ok (.iadd, 1) := by decide +kernel
theorem dL_law_884 : decode cL_law 884 = .ok (.iaload, 1) := by decide +kernel
theorem dL_law_885 : decode cL_law 885 = .ok (.aload_n 0, 1) := by decide +kernel
theorem dL_law_886 : decode cL_law 886 = .ok (.iload_n 3, 1) := by decide +kernel
theorem dL_law_887 : decode cL_law 887 = .ok (.iconst 2, 1) := by decide +kernel
theorem dL_law_888 : decode cL_law 888 = .ok (.iadd, 1) := by decide +kernel
theorem dL_law_889 : decode cL_law 889 = .ok (.iaload, 1) := by decide +kernel
theorem dL_law_890 : decode cL_law 890 = .ok (.ifCond .eq 7, 3) := by decide +kernel
theorem dL_law_893 : decode cL_law 893 = .ok (.iconst 1, 1) := by decide +kernel
theorem dL_law_894 : decode cL_law 894 = .ok (.goto 4, 3) := by decide +kernel
theorem dL_law_897 : decode cL_law 897 = .ok (.iconst 0, 1) := by decide +kernel
theorem dL_law_898 : decode cL_law 898 = .ok (.invokevirtual 131, 3) := by decide +kernel
theorem dL_law_901 : decode cL_law 901 = .ok (.lcmp, 1) := by decide +kernel
theorem dL_law_902 : decode cL_law 902 = .ok (.ifCond .eq 177, 3) := by decide +kernel
theorem dL_law_905 : decode cL_law 905 = .ok (.iconst 0, 1) := by decide +kernel
theorem dL_law_906 : decode cL_law 906 = .ok (.ireturn, 1) := by decide +kernel
theorem dL_law_907 : decode cL_law 907 = .ok (.aload_n 1, 1) := by decide +kernel
theorem dL_law_908 : decode cL_law 908 = .ok (.aload_n 0, 1) := by decide +kernel
theorem dL_law_909 : decode cL_law 909 = .ok (.iload_n 3, 1) := by decide +kernel
theorem dL_law_910 : decode cL_law 910 = .ok (.iconst 1, 1) := by decide +kernel
theorem dL_law_911 : decode cL_law 911 = .ok (.iadd, 1) := by decide +kernel
theorem dL_law_912 : decode cL_law 912 = .ok (.iaload, 1) := by decide +kernel
theorem dL_law_913 : decode cL_law 913 = .ok (.aload_n 0, 1) := by decide +kernel
theorem dL_law_914 : decode cL_law 914 = .ok (.iload_n 3, 1) := by decide +kernel
theorem dL_law_915 : decode cL_law 915 = .ok (.iconst 2, 1) := by decide +kernel
theorem dL_law_916 : decode cL_law 916 = .ok (.iadd, 1) := by decide +kernel
theorem dL_law_917 : decode cL_law 917 = .ok (.iaload, 1) := by decide +kernel
theorem dL_law_918 : decode cL_law 918 = .ok (.ifCond .eq 7, 3) := by decide +kernel
theorem dL_law_921 : decode cL_law 921 = .ok (.iconst 1, 1) := by decide +kernel
theorem dL_law_922 : decode cL_law 922 = .ok (.goto 4, 3) := by decide +kernel
theorem dL_law_925 : decode cL_law 925 = .ok (.iconst 0, 1) := by decide +kernel
theorem dL_law_926 : decode cL_law 926 = .ok (.invokevirtual 132, 3) := by decide +kernel
theorem dL_law_929 : decode cL_law 929 = .ok (.aload_n 2, 1) := by decide +kernel
theorem dL_law_930 : decode cL_law 930 = .ok (.aload_n 0, 1) := by decide +kernel
theorem dL_law_931 : decode cL_law 931 = .ok (.iload_n 3, 1) := by decide +kernel
theorem dL_law_932 : decode cL_law 932 = .ok (.iconst 1, 1) := by decide +kernel
theorem dL_law_933 : decode cL_law 933 = .ok (.iadd, 1) := by decide +kernel
theorem dL_law_934 : decode cL_law 934 = .ok (.iaload, 1) := by decide +kernel
theorem dL_law_935 : decode cL_law 935 = .ok (.aload_n 0, 1) := by decide +kernel
theorem dL_law_936 : decode cL_law 936 = .ok (.iload_n 3, 1) := by decide +kernel
theorem dL_law_937 : decode cL_law 937 = .ok (.iconst 2, 1) := by decide +kernel
theorem dL_law_938 : decode cL_law 938 = .ok (.iadd, 1) := by decide +kernel
theorem dL_law_939 : decode cL_law 939 = .ok (.iaload, 1) := by decide +kernel
theorem dL_law_940 : decode cL_law 940 = .ok (.ifCond .eq 7, 3) := by decide +kernel
theorem dL_law_943 : decode cL_law 943 = .ok (.iconst 1, 1) := by decide +kernel
theorem dL_law_944 : decode cL_law 944 = .ok (.goto 4, 3) := by decide +kernel
theorem dL_law_947 : decode cL_law 947 = .ok (.iconst 0, 1) := by decide +kernel
theorem dL_law_948 : decode cL_law 948 = .ok (.invokevirtual 136, 3) := by decide +kernel
theorem dL_law_951 : decode cL_law 951 = .ok (.if_icmp .eq 128, 3) := by decide +kernel
theorem dL_law_954 : decode cL_law 954 = .ok (.iconst 0, 1) := by decide +kernel
theorem dL_law_955 : decode cL_law 955 = .ok (.ireturn, 1) := by decide +kernel
theorem dL_law_956 : decode cL_law 956 = .ok (.aload_n 1, 1) := by decide +kernel
theorem dL_law_957 : decode cL_law 957 = .ok (.aload_n 0, 1) := by decide +kernel
theorem dL_law_958 : decode cL_law 958 = .ok (.iload_n 3, 1) := by decide +kernel
theorem dL_law_959 : decode cL_law 959 = .ok (.iconst 1, 1) := by decide +kernel
theorem dL_law_960 : decode cL_law 960 = .ok (.iadd, 1) := by decide +kernel
theorem dL_law_961 : decode cL_law 961 = .ok (.iaload, 1) := by decide +kernel
theorem dL_law_962 : decode cL_law 962 = .ok (.i2l, 1) := by decide +kernel
theorem dL_law_963 : decode cL_law 963 = .ok (.bipush 32, 2) := by decide +kernel
theorem dL_law_965 : decode cL_law 965 = .ok (.lshl, 1) := by decide +kernel
theorem dL_law_966 : decode cL_law 966 = .ok (.aload_n 0, 1) := by decide +kernel
theorem dL_law_967 : decode cL_law 967 = .ok (.iload_n 3, 1) := by decide +kernel
theorem dL_law_968 : decode cL_law 968 = .ok (.iconst 2, 1) := by decide +kernel
theorem dL_law_969 : decode cL_law 969 = .ok (.iadd, 1) := by decide +kernel
theorem dL_law_970 : decode cL_law 970 = .ok (.iaload, 1) := by decide +kernel
theorem dL_law_971 : decode cL_law 971 = .ok (.i2l, 1) := by decide +kernel
theorem dL_law_972 : decode cL_law 972 = .ok (.ldc2_w 82, 3) := by decide +kernel
theorem dL_law_975 : decode cL_law 975 = .ok (.land, 1) := by decide +kernel
theorem dL_law_976 : decode cL_law 976 = .ok (.lor, 1) := by decide +kernel
theorem dL_law_977 : decode cL_law 977 = .ok (.invokevirtual 137, 3) := by decide +kernel
theorem dL_law_980 : decode cL_law 980 = .ok (.aload_n 2, 1) := by decide +kernel
theorem dL_law_981 : decode cL_law 981 = .ok (.aload_n 0, 1) := by decide +kernel
theorem dL_law_982 : decode cL_law 982 = .ok (.iload_n 3, 1) := by decide +kernel
theorem dL_law_983 : decode cL_law 983 = .ok (.iconst 1, 1) := by decide +kernel
theorem dL_law_984 : decode cL_law 984 = .ok (.iadd, 1) := by decide +kernel
theorem dL_law_985 : decode cL_law 985 = .ok (.iaload, 1) := by decide +kernel
theorem dL_law_986 : decode cL_law 986 = .ok (.i2l, 1) := by decide +kernel
theorem dL_law_987 : decode cL_law 987 = .ok (.bipush 32, 2) := by decide +kernel
theorem dL_law_989 : decode cL_law 989 = .ok (.lshl, 1) := by decide +kernel
theorem dL_law_990 : decode cL_law 990 = .ok (.aload_n 0, 1) := by decide +kernel
theorem dL_law_991 : decode cL_law 991 = .ok (.iload_n 3, 1) := by decide +kernel
theorem dL_law_992 : decode cL_law 992 = .ok (.iconst 2, 1) := by decide +kernel
theorem dL_law_993 : decode cL_law 993 = .ok (.iadd, 1) := by decide +kernel
theorem dL_law_994 : decode cL_law 994 = .ok (.iaload, 1) := by decide +kernel
theorem dL_law_995 : decode cL_law 995 = .ok (.i2l, 1) := by decide +kernel
theorem dL_law_996 : decode cL_law 996 = .ok (.ldc2_w 82, 3) := by decide +kernel
theorem dL_law_999 : decode cL_law 999 = .ok (.land, 1) := by decide +kernel
theorem dL_law_1000 : decode cL_law 1000 = .ok (.lor, 1) := by decide +kernel
theorem dL_law_1001 : decode cL_law 1001 = .ok (.invokevirtual 141, 3) := by decide +kernel
theorem dL_law_1004 : decode cL_law 1004 = .ok (.lcmp, 1) := by decide +kernel
theorem dL_law_1005 : decode cL_law 1005 = .ok (.ifCond .eq 74, 3) := by decide +kernel
theorem dL_law_1008 : decode cL_law 1008 = .ok (.iconst 0, 1) := by decide +kernel
theorem dL_law_1009 : decode cL_law 1009 = .ok (.ireturn, 1) := by decide +kernel
theorem dL_law_1010 : decode cL_law 1010 = .ok (.aload_n 1, 1) := by decide +kernel
theorem dL_law_1011 : decode cL_law 1011 = .ok (.aload_n 0, 1) := by decide +kernel
theorem dL_law_1012 : decode cL_law 1012 = .ok (.iload_n 3, 1) := by decide +kernel
theorem dL_law_1013 : decode cL_law 1013 = .ok (.iconst 1, 1) := by decide +kernel
theorem dL_law_1014 : decode cL_law 1014 = .ok (.iadd, 1) := by decide +kernel
theorem dL_law_1015 : decode cL_law 1015 = .ok (.iaload, 1) := by decide +kernel
theorem dL_law_1016 : decode cL_law 1016 = .ok (.invokevirtual 142, 3) := by decide +kernel
theorem dL_law_1019 : decode cL_law 1019 = .ok (.aload_n 2, 1) := by decide +kernel
theorem dL_law_1020 : decode cL_law 1020 = .ok (.aload_n 0, 1) := by decide +kernel
theorem dL_law_1021 : decode cL_law 1021 = .ok (.iload_n 3, 1) := by decide +kernel
theorem dL_law_1022 : decode cL_law 1022 = .ok (.iconst 1, 1) := by decide +kernel
theorem dL_law_1023 : decode cL_law 1023 = .ok (.iadd, 1) := by decide +kernel
theorem dL_law_1024 : decode cL_law 1024 = .ok (.iaload, 1) := by decide +kernel
theorem dL_law_1025 : decode cL_law 1025 = .ok (.invokevirtual 145, 3) := by decide +kernel
theorem dL_law_1028 : decode cL_law 1028 = .ok (.if_icmp .eq 51, 3) := by decide +kernel
theorem dL_law_1031 : decode cL_law 1031 = .ok (.iconst 0, 1) := by decide +kernel
theorem dL_law_1032 : decode cL_law 1032 = .ok (.ireturn, 1) := by decide +kernel
theorem dL_law_1033 : decode cL_law 1033 = .ok (.aload_n 1, 1) := by decide +kernel
theorem dL_law_1034 : decode cL_law 1034 = .ok (.aload_n 0, 1) := by decide +kernel
theorem dL_law_1035 : decode cL_law 1035 = .ok (.iload_n 3, 1) := by decide +kernel
theorem dL_law_1036 : decode cL_law 1036 = .ok (.iconst 1, 1) := by decide +kernel
theorem dL_law_1037 : decode cL_law 1037 = .ok (.iadd, 1) := by decide +kernel
theorem dL_law_1038 : decode cL_law 1038 = .ok (.iaload, 1) := by decide +kernel
theorem dL_law_1039 : decode cL_law 1039 = .ok (.invokevirtual 146, 3) := by decide +kernel
theorem dL_law_1042 : decode cL_law 1042 = .ok (.aload_n 2, 1) := by decide +kernel
theorem dL_law_1043 : decode cL_law 1043 = .ok (.aload_n 0, 1) := by decide +kernel
theorem dL_law_1044 : decode cL_law 1044 = .ok (.iload_n 3, 1) := by decide +kernel
theorem dL_law_1045 : decode cL_law 1045 = .ok (.iconst 1, 1) := by decide +kernel
theorem dL_law_1046 : decode cL_law 1046 = .ok (.iadd, 1) := by decide +kernel
theorem dL_law_1047 : decode cL_law 1047 = .ok (.iaload, 1) := by decide +kernel
theorem dL_law_1048 : decode cL_law 1048 = .ok (.invokevirtual 149, 3) := by decide +kernel
theorem dL_law_1051 : decode cL_law 1051 = .ok (.if_icmp .eq 28, 3) := by decide +kernel
theorem dL_law_1054 : decode cL_law 1054 = .ok (.iconst 0, 1) := by decide +kernel
theorem dL_law_1055 : decode cL_law 1055 = .ok (.ireturn, 1) := by decide +kernel
theorem dL_law_1056 : decode cL_law 1056 = .ok (.aload_n 1, 1) := by decide +kernel
theorem dL_law_1057 : decode cL_law 1057 = .ok (.aload_n 0, 1) := by decide +kernel
theorem dL_law_1058 : decode cL_law 1058 = .ok (.iload_n 3, 1) := by decide +kernel
theorem dL_law_1059 : decode cL_law 1059 = .ok (.iconst 1, 1) := by decide +kernel
theorem dL_law_1060 : decode cL_law 1060 = .ok (.iadd, 1) := by decide +kernel
theorem dL_law_1061 : decode cL_law 1061 = .ok (.iaload, 1) := by decide +kernel
theorem dL_law_1062 : decode cL_law 1062 = .ok (.invokevirtual 150, 3) := by decide +kernel
theorem dL_law_1065 : decode cL_law 1065 = .ok (.aload_n 2, 1) := by decide +kernel
theorem dL_law_1066 : decode cL_law 1066 = .ok (.aload_n 0, 1) := by decide +kernel
theorem dL_law_1067 : decode cL_law 1067 = .ok (.iload_n 3, 1) := by decide +kernel
theorem dL_law_1068 : decode cL_law 1068 = .ok (.iconst 1, 1) := by decide +kernel
theorem dL_law_1069 : decode cL_law 1069 = .ok (.iadd, 1) := by decide +kernel
theorem dL_law_1070 : decode cL_law 1070 = .ok (.iaload, 1) := by decide +kernel
theorem dL_law_1071 : decode cL_law 1071 = .ok (.invokevirtual 153, 3) := by decide +kernel
theorem dL_law_1074 : decode cL_law 1074 = .ok (.if_icmp .eq 5, 3) := by decide +kernel
theorem dL_law_1077 : decode cL_law 1077 = .ok (.iconst 0, 1) := by decide +kernel
theorem dL_law_1078 : decode cL_law 1078 = .ok (.ireturn, 1) := by decide +kernel
theorem dL_law_1079 : decode cL_law 1079 = .ok (.iinc 3 4, 3) := by decide +kernel
theorem dL_law_1082 : decode cL_law 1082 = .ok (.goto (-1064), 3) := by decide +kernel
theorem dL_law_1085 : decode cL_law 1085 = .ok (.iconst 1, 1) := by decide +kernel
theorem dL_law_1086 : decode cL_law 1086 = .ok (.ireturn, 1) := by decide +kernel
end
section
/-! the memory of a world: ints and longs by cell and place; booleans are ints -/
abbrev MI : Type := Nat → Nat → Int32
abbrev MJ : Type := Nat → Nat → Int64
def wI (I : MI) (c : Nat) (f : Nat → Int32) : MI := fun x => if x = c then f else I x
def wJ (J : MJ) (c : Nat) (f : Nat → Int64) : MJ := fun x => if x = c then f else J x
abbrev mI (I : MI) (c j : Nat) (v : Int32) : MI := wI I c (upd (I c) j v)
abbrev mJ (J : MJ) (c j : Nat) (v : Int64) : MJ := wJ J c (vp_updL (J c) j v)
theorem wI_s (I : MI) (c : Nat) (f : Nat → Int32) : wI I c f c = f := if_pos rfl
theorem wI_n (I : MI) {x c : Nat} (h : x ≠ c) (f : Nat → Int32) : wI I c f x = I x := if_neg h
theorem wJ_s (J : MJ) (c : Nat) (f : Nat → Int64) : wJ J c f c = f := if_pos rfl
theorem wJ_n (J : MJ) {x c : Nat} (h : x ≠ c) (f : Nat → Int64) : wJ J c f x = J x := if_neg h
/-- a loop: fuel, and its body with what comes behind a jump back -/
def loopP {α : Type} (body : (α → Prop) → α → Prop) : Nat → α → Prop
  | 0, _ => False
  | n + 1, a => body (loopP body n) a
def lpx {α : Type} (body : (α → Prop) → α → Prop) (a : α) : Prop := ∃ n, loopP body n a
/-! worlds: a row of cells, each of a shape -/
abbrev gS : Type := Nat → (Nat → Int32) → (Nat → Int64) → va_E
def gW (S : gS) (n : Nat) (ad : Nat → Nat) (I : MI) (J : MJ) : va_W := (List.range n).map (fun c => (ad c, S c (I c) (J c)))
theorem gW_get {S : gS} {n : Nat} {ad : Nat → Nat} {I : MI} {J : MJ} {c : Nat} (h : c < n) : (gW S n ad I J)[c]? = some (ad c, S c (I c) (J c)) := by
  simp [gW, h]
theorem gW_set {S : gS} {n : Nat} {ad : Nat → Nat} {I I' : MI} {J J' : MJ} {c : Nat} {e : va_E} (he : S c (I' c) (J' c) = e) (hI : ∀ x, x ≠ c → I' x = I x) (hJ : ∀ x, x ≠ c → J' x = J x) : (gW S n ad I J).set c (ad c, e) = gW S n ad I' J' := by
  apply List.ext_getElem?
  intro k
  rw [List.getElem?_set]
  by_cases hk : c = k
  · subst hk
    by_cases hn : c < n
    · simp [gW, hn, he]
    · simp [gW, hn]
  · rw [if_neg hk]
    by_cases hn : k < n
    · rw [gW_get hn, gW_get hn, hI k (fun h => hk h.symm), hJ k (fun h => hk h.symm)]
    · simp [gW, hn]
theorem gW_setI {S : gS} {n : Nat} {ad : Nat → Nat} {I : MI} {J : MJ} {c : Nat} {e : va_E} {f : Nat → Int32} (he : S c f (J c) = e) : (gW S n ad I J).set c (ad c, e) = gW S n ad (wI I c f) J :=
  gW_set (by rw [wI_s]; exact he) (fun _ h => wI_n I h f) (fun _ _ => rfl)
theorem gW_setJ {S : gS} {n : Nat} {ad : Nat → Nat} {I : MI} {J : MJ} {c : Nat} {e : va_E} {f : Nat → Int64} (he : S c (I c) f = e) : (gW S n ad I J).set c (ad c, e) = gW S n ad I (wJ J c f) :=
  gW_set (by rw [wJ_s]; exact he) (fun _ _ => rfl) (fun _ h => wJ_n J h f)
def gA (n : Nat) (ad : Nat → Nat) : Nat → Prop := fun q => ∃ c, c < n ∧ q = ad c
abbrev gT (cy : Nat → ClassId) : List (ClassId × FieldType) := [(cy 0, .int), (cy 1, .long), (cy 2, .boolean), (cy 3, .object "BagPhrases$Setting")]
/-- the world of a contract -/
def gB (S : gS) (n : Nat) (ad : Nat → Nat) (cy : Nat → ClassId) (D : va_G) (E : State → Prop) (I : MI) (J : MJ) (U : State) : Prop :=
  va_P D vwCl (gW S n ad I J) U.heap ∧ va_K D vwCl (gT cy) U ∧ va_D (gA n ad) (gW S n ad I J) ∧ E U
/-- what else holds of the start, and goes on to hold -/
def gEok (n : Nat) (ad : Nat → Nat) (E : State → Prop) : Prop := (∀ u U : State, u.WarmedH U.vm → (∀ q : Nat, q < u.heap.size → ¬ gA n ad q → U.heap[q]? = u.heap[q]?) → E u → E U) ∧ ∀ u U : State, u.vm = U.vm → u.heap = U.heap → E u → E U
/-- the world within a walk -/
def gH (S : gS) (n : Nat) (ad : Nat → Nat) (D : va_G) (s : State) (I : MI) (J : MJ) (H : Heap) (locs : List Loc) : Prop :=
  va_P D vwCl (gW S n ad I J) H ∧ va_D (gA n ad) (gW S n ad I J) ∧ va_S (gA n ad) s.heap H locs
/-- the words that stay: those of the tables that no step can change -/
def lw_g : List Cond := lw_tbl.filter goodWord
theorem lw_good : ∀ w ∈ lw_g, goodWord w = true := fun _ hw => (List.mem_filter.mp hw).2
theorem lw_gin : ∀ w ∈ lw_g, w ∈ lw_tbl := fun _ hw => (List.mem_filter.mp hw).1
theorem lw_t {w : Cond} (i : Nat) (h : tables_1[i]? = some w) (hg : goodWord w = true) : w ∈ lw_g := List.mem_filter.mpr ⟨List.mem_append_right _ (List.mem_of_getElem? h), hg⟩
theorem lw_s {w : Cond} (i : Nat) (h : (k2_sels lw_privs)[i]? = some w) (hg : goodWord w = true) : w ∈ lw_g := List.mem_filter.mpr ⟨List.mem_append_left _ (List.mem_of_getElem? h), hg⟩
def xws (y : MethodName) (cc : ByteArray) (nL : Nat) (rt : Option FieldType) : List Cond := Cond.code y cc nL rt :: lw_g
/-- what a walk knows of its method -/
def gC (own : String) (cc : ByteArray) (nL : Nat) (rt : Option FieldType) (n : Nat) (ad : Nat → Nat) (cy : Nat → ClassId) (D : va_G) (E : State → Prop) (p : Program) (s : State) (m : MethodId) (args : Array Value) (meth : Method) (c : Code) : Prop :=
  p.tables.exec = Jvm.exec ∧ c.code = cc ∧ meth.sig.returnType = rt ∧ c.maxLocals = nL ∧ s.vm.findClass own = some m.cls ∧ (∀ w ∈ lw_g, w.before args s = true) ∧ meth.locks = false ∧ va_K D vwCl (gT cy) s ∧ E s ∧ gEok n ad E
section
variable {p : Program} {l : Launch} {e : Env} {R : Room} {s : State} {m : MethodId} {args : Array Value} {below : List Frame} {meth : Method} {c : Code} {H : Heap} {locs : List Loc} {cells slots : Nat} {Qs : State → Prop}
variable {own : String} {cc : ByteArray} {nL : Nat} {rt : Option FieldType} {S : gS} {n : Nat} {ad : Nat → Nat} {cy : Nat → ClassId} {D : va_G} {E : State → Prop} {I : MI} {J : MJ}
variable {pc : Nat} {ls : Array Slot} {rest : List Value} {k : Nat}
theorem g_met {y : MethodName} {rm : Room} {av : List Value} {Qc : Array Value → State → Outcome → State → Prop} (hE : gEok n ad E) (hy : y.cls = own) (hpl : plainName y.cls = true) (hlen : (lg_sl av).length ≤ nL)
    (body : ∀ (p : Program) (e : Env) (s : State) (m : MethodId) (below : List Frame) (meth : Method) (c : Code) (ls : Array Slot), gC own cc nL rt n ad cy D E p s m av.toArray meth c → gH S n ad D s I J s.heap [] → lv_has ls nL (lv_args 0 av) →
      W p l e rm s m av.toArray below meth c s.heap [] 0 0 (MQ below Qc av.toArray s 0 0 (gA n ad)) (F0 m 0 ls [])) :
    Met l y (xws y cc nL rt) rm (va_Pc av (gB S n ad cy D E I J)) Qc 0 0 (gA n ad) := by
  refine Met.ofW (cc := cc) (maxL := nL) (ret := rt) hpl rfl ?_
  intro p e s m args below meth c s₁ B hml hv
  obtain ⟨rfl, hP, hK, hD, hEs⟩ := hv
  have hts := atoms_spec (ws := xws y cc nL rt) B.pre
  have hl := lv_entry av (n := nL) hlen
  rw [lg_entry_eq]
  exact body p e s m below meth c _ ⟨B.exec, B.bytes, B.returns, hml, by rw [← hy]; exact findClass_of_methodNamed B.named, fun w hw => hts w (List.mem_cons_of_mem _ hw), B.notSynchronized, hK, hEs, hE⟩ ⟨hP, hD, va_S.rf⟩ hl
/-- a field: its class's number, its place -/
def gFl (own : String) (index ci j : Nat) : Prop := ∃ (Cn : String) (T : u_T) (N : Nat), vwCl[ci]? = some (Cn, T, N) ∧ (∀ w ∈ u_ws Cn T N, w ∈ lw_g) ∧ j < N ∧ Cond.fieldLink own index (T j).1 (T j).2.1 (T j).2.2.1 ∈ lw_g
def gFp (own : String) (index ci j : Nat) (ty : FieldType) : Prop := ∃ (Cn : String) (T : u_T) (N : Nat) (ty0 : Nat → FieldType), vwCl[ci]? = some (Cn, T, N) ∧ (∀ w ∈ u_ws Cn T N, w ∈ lw_g) ∧ j < N ∧ Cond.fieldLink own index (T j).1 (T j).2.1 (T j).2.2.1 ∈ lw_g ∧
  (∀ k, k < N → parseFieldDescriptor (T k).2.2.1 = some (ty0 k)) ∧ (∀ a, a < N → ∀ b, b < N → a ≠ b → (T a).2.1 ≠ (T b).2.1) ∧ (T j).2.2.2 = false ∧ ty0 j = ty
theorem g_get {ci j index : Nat} {fs : List Value} {v : Value} (C : gC own cc nL rt n ad cy D E p s m args meth c) (hw : gH S n ad D s I J H locs) (fl : gFl own index ci j) (hk : k < n) (hs : S k (I k) (J k) = .inr (ci, fs)) (hv : fs[j]? = some v) (hd : decode cc pc = .ok (.getfield index, 3))
    (kk : W p l e R s m args below meth c H locs cells slots Qs (F0 m (pc + 3) ls (v :: rest))) : W p l e R s m args below meth c H locs cells slots Qs (F0 m pc ls (.ref (ad k) :: rest)) := by
  obtain ⟨hx, hb, -, -, hown, hts, -, hK, -⟩ := C
  obtain ⟨Cn, T, N, hc, hin, hj, hl⟩ := fl
  exact va_get hx hb hts hin hown hK hw.1 k (by rw [gW_get hk, hs]) hc j hj (hts _ hl) (fun _ h => h) hv hd kk
theorem g_put {ci j index : Nat} {ty : FieldType} {fs : List Value} {v : Value} {I' : MI} {J' : MJ} (C : gC own cc nL rt n ad cy D E p s m args meth c) (hw : gH S n ad D s I J H locs) (fl : gFp own index ci j ty) (hk : k < n) (hs : S k (I k) (J k) = .inr (ci, fs)) (hl : j < fs.length) (hn : narrow ty v = v) (hf : fits ty v = true)
    (hset : (gW S n ad I J).set k (ad k, .inr (ci, fs.set j v)) = gW S n ad I' J') (hd : decode cc pc = .ok (.putfield index, 3))
    (kk : ∀ (H : Heap) (locs : List Loc), gH S n ad D s I' J' H locs → W p l e R s m args below meth c H locs cells slots Qs (F0 m (pc + 3) ls rest)) : W p l e R s m args below meth c H locs cells slots Qs (F0 m pc ls (v :: .ref (ad k) :: rest)) := by
  obtain ⟨hx, hb, -, -, hown, hts, -, hK, -⟩ := C
  obtain ⟨Cn, T, N, ty0, hc, hin, hj, hlk, hty, hnm, hfin, hte⟩ := fl
  refine va_put hx hb hts hin ty0 hty hnm hown hK hw.1 hw.2.1 hw.2.2 k (by rw [gW_get hk, hs]) hc j hj (hts _ hlk) (fun _ h => h) hfin (by rw [hty j hj, hte]) hn hf hl hd (fun H1 locs1 hP hD hS => ?_)
  rw [hset] at hP hD
  exact kk H1 locs1 ⟨hP, hD, hS⟩
theorem g_putI {ci j index : Nat} {ty : FieldType} {fs : (Nat → Int32) → (Nat → Int64) → List Value} {x : Int32} (C : gC own cc nL rt n ad cy D E p s m args meth c) (hw : gH S n ad D s I J H locs) (fl : gFp own index ci j ty) (hk : k < n) (hs : ∀ i q, S k i q = .inr (ci, fs i q)) (hset : ∀ i q, (fs i q).set j (.int x) = fs (upd i j x) q) (hl : j < (fs (I k) (J k)).length) (hn : narrow ty (.int x) = .int x) (hf : fits ty (.int x) = true) (hd : decode cc pc = .ok (.putfield index, 3))
    (kk : ∀ (H : Heap) (locs : List Loc), gH S n ad D s (mI I k j x) J H locs → W p l e R s m args below meth c H locs cells slots Qs (F0 m (pc + 3) ls rest)) : W p l e R s m args below meth c H locs cells slots Qs (F0 m pc ls (.int x :: .ref (ad k) :: rest)) :=
  g_put C hw fl hk (hs _ _) hl hn hf (gW_setI (by rw [hs, hset])) hd kk
theorem g_putJ {ci j index : Nat} {fs : (Nat → Int32) → (Nat → Int64) → List Value} {x : Int64} (C : gC own cc nL rt n ad cy D E p s m args meth c) (hw : gH S n ad D s I J H locs) (fl : gFp own index ci j .long) (hk : k < n) (hs : ∀ i q, S k i q = .inr (ci, fs i q)) (hset : ∀ i q, (fs i q).set j (.long x) = fs i (vp_updL q j x)) (hl : j < (fs (I k) (J k)).length) (hd : decode cc pc = .ok (.putfield index, 3))
    (kk : ∀ (H : Heap) (locs : List Loc), gH S n ad D s I (mJ J k j x) H locs → W p l e R s m args below meth c H locs cells slots Qs (F0 m (pc + 3) ls rest)) : W p l e R s m args below meth c H locs cells slots Qs (F0 m pc ls (.long x :: .ref (ad k) :: rest)) :=
  g_put C hw fl hk (hs _ _) hl rfl rfl (gW_setJ (by rw [hs, hset])) hd kk
theorem g_iald {len : Nat} {x : Int32} (C : gC own cc nL rt n ad cy D E p s m args meth c) (hw : gH S n ad D s I J H locs) (hk : k < n) (hs : ∀ i q, S k i q = .inl (cy 0, len, .inl i)) (hin : vp_in x len) (hd : decode cc pc = .ok (.iaload, 1))
    (kk : W p l e R s m args below meth c H locs cells slots Qs (F0 m (pc + 1) ls (.int (I k x.toNatClampNeg) :: rest))) : W p l e R s m args below meth c H locs cells slots Qs (F0 m pc ls (.int x :: .ref (ad k) :: rest)) :=
  va_iald C.1 C.2.1 C.2.2.2.2.2.2.2.1 hw.1 k 0 (by rw [gW_get hk, hs]) rfl hin hd kk
theorem g_zald {len : Nat} {x : Int32} (C : gC own cc nL rt n ad cy D E p s m args meth c) (hw : gH S n ad D s I J H locs) (hk : k < n) (hs : ∀ i q, S k i q = .inl (cy 2, len, .inl i)) (hin : vp_in x len) (hd : decode cc pc = .ok (.baload, 1))
    (kk : W p l e R s m args below meth c H locs cells slots Qs (F0 m (pc + 1) ls (.int (I k x.toNatClampNeg) :: rest))) : W p l e R s m args below meth c H locs cells slots Qs (F0 m pc ls (.int x :: .ref (ad k) :: rest)) :=
  va_zald C.1 C.2.1 C.2.2.2.2.2.2.2.1 hw.1 k 2 (by rw [gW_get hk, hs]) rfl hin hd kk
theorem g_lald {len : Nat} {x : Int32} (C : gC own cc nL rt n ad cy D E p s m args meth c) (hw : gH S n ad D s I J H locs) (hk : k < n) (hs : ∀ i q, S k i q = .inl (cy 1, len, .inr (.inl q))) (hin : vp_in x len) (hd : decode cc pc = .ok (.laload, 1))
    (kk : W p l e R s m args below meth c H locs cells slots Qs (F0 m (pc + 1) ls (.long (J k x.toNatClampNeg) :: rest))) : W p l e R s m args below meth c H locs cells slots Qs (F0 m pc ls (.int x :: .ref (ad k) :: rest)) :=
  va_lald C.1 C.2.1 C.2.2.2.2.2.2.2.1 hw.1 k 1 (by rw [gW_get hk, hs]) rfl hin hd kk
theorem g_aald {len : Nat} {x : Int32} {f : Nat → Option Nat} (C : gC own cc nL rt n ad cy D E p s m args meth c) (hw : gH S n ad D s I J H locs) (hk : k < n) (hs : ∀ i q, S k i q = .inl (cy 3, len, .inr (.inr (.inr (.inr f))))) (hin : vp_in x len) (hd : decode cc pc = .ok (.aaload, 1))
    (kk : W p l e R s m args below meth c H locs cells slots Qs (F0 m (pc + 1) ls (va_rf (f x.toNatClampNeg) :: rest))) : W p l e R s m args below meth c H locs cells slots Qs (F0 m pc ls (.int x :: .ref (ad k) :: rest)) :=
  va_aldq C.1 C.2.1 C.2.2.2.2.2.2.2.1 hw.1 k 3 (by rw [gW_get hk, hs]) rfl hin hd kk
theorem g_iast {len : Nat} {x v : Int32} (C : gC own cc nL rt n ad cy D E p s m args meth c) (hw : gH S n ad D s I J H locs) (hk : k < n) (hs : ∀ i q, S k i q = .inl (cy 0, len, .inl i)) (hin : vp_in x len) (hd : decode cc pc = .ok (.iastore, 1))
    (kk : ∀ (H : Heap) (locs : List Loc), gH S n ad D s (mI I k x.toNatClampNeg v) J H locs → W p l e R s m args below meth c H locs cells slots Qs (F0 m (pc + 1) ls rest)) : W p l e R s m args below meth c H locs cells slots Qs (F0 m pc ls (.int v :: .int x :: .ref (ad k) :: rest)) := by
  refine va_iast C.1 C.2.1 C.2.2.2.2.2.2.2.1 hw.1 hw.2.1 hw.2.2 k 0 (by rw [gW_get hk, hs]) rfl hin hd (fun H1 locs1 hP hD hS => ?_)
  rw [gW_setI (f := upd (I k) x.toNatClampNeg v) (by rw [hs])] at hP hD
  exact kk H1 locs1 ⟨hP, hD, hS⟩
theorem g_zast {len : Nat} {x v : Int32} (C : gC own cc nL rt n ad cy D E p s m args meth c) (hw : gH S n ad D s I J H locs) (hk : k < n) (hs : ∀ i q, S k i q = .inl (cy 2, len, .inl i)) (hin : vp_in x len) (hd : decode cc pc = .ok (.bastore, 1))
    (kk : ∀ (H : Heap) (locs : List Loc), gH S n ad D s (mI I k x.toNatClampNeg (vp_nar .boolean v)) J H locs → W p l e R s m args below meth c H locs cells slots Qs (F0 m (pc + 1) ls rest)) : W p l e R s m args below meth c H locs cells slots Qs (F0 m pc ls (.int v :: .int x :: .ref (ad k) :: rest)) := by
  refine va_zast C.1 C.2.1 C.2.2.2.2.2.2.2.1 hw.1 hw.2.1 hw.2.2 k 2 (by rw [gW_get hk, hs]) rfl hin hd (fun H1 locs1 hP hD hS => ?_)
  rw [gW_setI (f := upd (I k) x.toNatClampNeg (vp_nar .boolean v)) (by rw [hs])] at hP hD
  exact kk H1 locs1 ⟨hP, hD, hS⟩
theorem g_last {len : Nat} {x : Int32} {v : Int64} (C : gC own cc nL rt n ad cy D E p s m args meth c) (hw : gH S n ad D s I J H locs) (hk : k < n) (hs : ∀ i q, S k i q = .inl (cy 1, len, .inr (.inl q))) (hin : vp_in x len) (hd : decode cc pc = .ok (.lastore, 1))
    (kk : ∀ (H : Heap) (locs : List Loc), gH S n ad D s I (mJ J k x.toNatClampNeg v) H locs → W p l e R s m args below meth c H locs cells slots Qs (F0 m (pc + 1) ls rest)) : W p l e R s m args below meth c H locs cells slots Qs (F0 m pc ls (.long v :: .int x :: .ref (ad k) :: rest)) := by
  refine va_last C.1 C.2.1 C.2.2.2.2.2.2.2.1 hw.1 hw.2.1 hw.2.2 k 1 (by rw [gW_get hk, hs]) rfl hin hd (fun H1 locs1 hP hD hS => ?_)
  rw [gW_setJ (f := vp_updL (J k) x.toNatClampNeg v) (by rw [hs])] at hP hD
  exact kk H1 locs1 ⟨hP, hD, hS⟩
theorem g_alen {len : Nat} {v : Int32} (C : gC own cc nL rt n ad cy D E p s m args meth c) (hw : gH S n ad D s I J H locs) (hk : k < n) (hs : ∀ i q, S k i q = .inl (cy 1, len, .inr (.inl q))) (hv : Int32.ofNat len = v) (hd : decode cc pc = .ok (.arraylength, 1))
    (kk : W p l e R s m args below meth c H locs cells slots Qs (F0 m (pc + 1) ls (.int v :: rest))) : W p l e R s m args below meth c H locs cells slots Qs (F0 m pc ls (.ref (ad k) :: rest)) :=
  va_alen C.1 C.2.1 C.2.2.2.2.2.2.2.1 hw.1 k 1 (by rw [gW_get hk, hs]) rfl hv hd kk
theorem g_alenI {len : Nat} {v : Int32} (C : gC own cc nL rt n ad cy D E p s m args meth c) (hw : gH S n ad D s I J H locs) (hk : k < n) (hs : ∀ i q, S k i q = .inl (cy 0, len, .inl i)) (hv : Int32.ofNat len = v) (hd : decode cc pc = .ok (.arraylength, 1))
    (kk : W p l e R s m args below meth c H locs cells slots Qs (F0 m (pc + 1) ls (.int v :: rest))) : W p l e R s m args below meth c H locs cells slots Qs (F0 m pc ls (.ref (ad k) :: rest)) :=
  va_alen C.1 C.2.1 C.2.2.2.2.2.2.2.1 hw.1 k 0 (by rw [gW_get hk, hs]) rfl hv hd kk
/-! the ends of a method -/
abbrev gQi (S : gS) (n : Nat) (ad : Nat → Nat) (cy : Nat → ClassId) (D : va_G) (E : State → Prop) (Q : Int32 → MI → MJ → Prop) : Array Value → State → Outcome → State → Prop := va_Qi (S := MI × MJ) (fun r u => Q r u.1 u.2) (fun u => gB S n ad cy D E u.1 u.2) (gA n ad)
abbrev gQz (S : gS) (n : Nat) (ad : Nat → Nat) (cy : Nat → ClassId) (D : va_G) (E : State → Prop) (Q : Int32 → MI → MJ → Prop) : Array Value → State → Outcome → State → Prop := va_Qi (S := MI × MJ) (fun r u => (r = 0 ∨ r = 1) ∧ Q r u.1 u.2) (fun u => gB S n ad cy D E u.1 u.2) (gA n ad)
abbrev gQl (S : gS) (n : Nat) (ad : Nat → Nat) (cy : Nat → ClassId) (D : va_G) (E : State → Prop) (Q : Int64 → MI → MJ → Prop) : Array Value → State → Outcome → State → Prop := va_Ql (S := MI × MJ) (fun r u => Q r u.1 u.2) (fun u => gB S n ad cy D E u.1 u.2) (gA n ad)
abbrev gQv (S : gS) (n : Nat) (ad : Nat → Nat) (cy : Nat → ClassId) (D : va_G) (E : State → Prop) (Q : MI → MJ → Prop) : Array Value → State → Outcome → State → Prop := va_Qv (S := MI × MJ) (fun u => Q u.1 u.2) (fun u => gB S n ad cy D E u.1 u.2) (gA n ad)
theorem g_back (C : gC own cc nL rt n ad cy D E p s m args meth c) (hw : gH S n ad D s I J H locs) {t : State} (ht : t.heap = H) (hW : s.WarmedH t.vm) : gB S n ad cy D E I J t := by
  obtain ⟨-, -, -, -, -, -, -, hK, hEs, hE⟩ := C
  exact ⟨by rw [ht]; exact hw.1, va_K.moved hW.alike hK, hw.2.1, hE.1 s t hW (by rw [ht]; exact hw.2.2.2.1) hEs⟩
theorem g_iret {Q : Int32 → MI → MJ → Prop} {v : Int32} (C : gC own cc nL (some .int) n ad cy D E p s m args meth c) (hw : gH S n ad D s I J H locs) (hq : Q v I J) (hd : decode cc pc = .ok (.ireturn, 1)) :
    W p l e R s m args below meth c H locs 0 0 (MQ below (gQi S n ad cy D E Q) args s 0 0 (gA n ad)) (F0 m pc ls [.int v]) :=
  W.iret C.1 C.2.1 C.2.2.1 (fun t ht hW => ⟨⟨v, (I, J), rfl, hq, g_back C hw ht hW⟩, hw.2.2.F ht⟩) hw.2.2.2.2 hd C.2.2.2.2.2.2.1
theorem g_zret {Q : Int32 → MI → MJ → Prop} {v : Int32} (C : gC own cc nL (some .boolean) n ad cy D E p s m args meth c) (hw : gH S n ad D s I J H locs) (hz : v = 0 ∨ v = 1) (hq : Q v I J) (hd : decode cc pc = .ok (.ireturn, 1)) :
    W p l e R s m args below meth c H locs 0 0 (MQ below (gQz S n ad cy D E Q) args s 0 0 (gA n ad)) (F0 m pc ls [.int v]) :=
  W.zret C.1 C.2.1 C.2.2.1 (by rcases hz with rfl | rfl <;> decide) (fun t ht hW => ⟨⟨v, (I, J), rfl, ⟨hz, hq⟩, g_back C hw ht hW⟩, hw.2.2.F ht⟩) hw.2.2.2.2 hd C.2.2.2.2.2.2.1
theorem g_lret {Q : Int64 → MI → MJ → Prop} {v : Int64} (C : gC own cc nL (some .long) n ad cy D E p s m args meth c) (hw : gH S n ad D s I J H locs) (hq : Q v I J) (hd : decode cc pc = .ok (.lreturn, 1)) :
    W p l e R s m args below meth c H locs 0 0 (MQ below (gQl S n ad cy D E Q) args s 0 0 (gA n ad)) (F0 m pc ls [.long v]) :=
  W.lret C.1 C.2.1 C.2.2.1 (fun t ht hW => ⟨⟨v, (I, J), rfl, hq, g_back C hw ht hW⟩, hw.2.2.F ht⟩) hw.2.2.2.2 hd C.2.2.2.2.2.2.1
theorem g_vret {Q : MI → MJ → Prop} (C : gC own cc nL none n ad cy D E p s m args meth c) (hw : gH S n ad D s I J H locs) (hq : Q I J) (hd : decode cc pc = .ok (.return_, 1)) :
    W p l e R s m args below meth c H locs 0 0 (MQ below (gQv S n ad cy D E Q) args s 0 0 (gA n ad)) (F0 m pc ls []) :=
  W.vret C.1 C.2.1 C.2.2.1 (fun t ht hW => ⟨⟨(I, J), rfl, hq, g_back C hw ht hW⟩, hw.2.2.F ht⟩) hw.2.2.2.2 hd C.2.2.2.2.2.2.1
/-! calls -/
def gKv (y : MethodName) (cN : ByteArray) (nN : Nat) (rN : Option FieldType) (nA : Nat) : Prop := Cond.instanceMethod y ∈ lw_g ∧ Cond.selects y.cls y y ∈ lw_g ∧ Cond.initialized y.cls ∈ lw_g ∧ Cond.code y cN nN rN ∈ lw_g ∧ y.cls ≠ "java/lang/invoke/MethodHandle" ∧ y.cls ≠ "java/lang/invoke/VarHandle" ∧ (parseMethodDescriptor y.desc).map (fun d => d.parameters.length) = some nA
def gKs (y : MethodName) (cN : ByteArray) (nN : Nat) (rN : Option FieldType) (nA : Nat) : Prop := Cond.static y ∈ lw_g ∧ Cond.initialized y.cls ∈ lw_g ∧ Cond.code y cN nN rN ∈ lw_g ∧ y.cls ≠ "java/lang/invoke/MethodHandle" ∧ y.cls ≠ "java/lang/invoke/VarHandle" ∧ (parseMethodDescriptor y.desc).map (fun d => d.parameters.length) = some nA
theorem g_goodx {y : MethodName} {cN : ByteArray} {nN : Nat} {rN : Option FieldType} (h : Cond.code y cN nN rN ∈ lw_g) : GoodIn lw_g (xws y cN nN rN) := fun w hw => by
  rcases List.mem_cons.mp hw with rfl | hw
  · exact ⟨h, good_of_word (lw_good _ h)⟩
  · exact ⟨hw, good_of_word (lw_good _ hw)⟩
theorem g_goodl {ws : List Cond} (h : ∀ w ∈ ws, w ∈ lw_g) : GoodIn lw_g ws := fun w hw => ⟨h w hw, good_of_word (lw_good _ (h w hw))⟩
theorem g_goodv {y : MethodName} {cN : ByteArray} {nN nA : Nat} {rN : Option FieldType} {index : Nat} (kf : gKv y cN nN rN nA) (hl : Cond.methodLink own index y ∈ lw_g) : GoodIn lw_g (wsV own index y.cls y (xws y cN nN rN)) := g_goodl (fun w hw => by
  obtain ⟨h1, h2, h3, h4, -⟩ := kf
  simp only [wsV, xws, List.cons_append, List.nil_append, List.mem_cons] at hw
  rcases hw with rfl | rfl | rfl | rfl | rfl | hw <;> assumption)
theorem g_goods {y : MethodName} {cN : ByteArray} {nN nA : Nat} {rN : Option FieldType} {index : Nat} (kf : gKs y cN nN rN nA) (hl : Cond.methodLink own index y ∈ lw_g) : GoodIn lw_g (va_wsS own index y (xws y cN nN rN)) := g_goodl (fun w hw => by
  obtain ⟨h1, h3, h4, -⟩ := kf
  simp only [va_wsS, xws, List.cons_append, List.nil_append, List.mem_cons] at hw
  rcases hw with rfl | rfl | rfl | rfl | hw <;> assumption)
theorem g_pre (C : gC own cc nL rt n ad cy D E p s m args meth c) (hw : gH S n ad D s I J H locs) (As : List Value) : PreS s H (va_Pc As (gB S n ad cy D E I J)) As := by
  obtain ⟨-, -, -, -, -, -, -, hK, hEs, hE⟩ := C
  refine ⟨fun a U g mk q => ?_, fun U hU hW => ⟨rfl, by rw [hU]; exact hw.1, va_K.moved hW.alike hK, hw.2.1, hE.1 s U hW (by rw [hU]; exact hw.2.2.2.1) hEs⟩⟩
  obtain ⟨q0, qP, qK, qD, qE⟩ := q
  exact ⟨q0, qP, va_K.moved (u := U) (U := U.calling g mk a) (Vm.Alike.refl U.vm) qK, qD, hE.2 U _ rfl rfl qE⟩
theorem g_rV {y : MethodName} {cN : ByteArray} {nN nA index : Nat} {rN : Option FieldType} {rm : Room} {Qc : Array Value → State → Outcome → State → Prop} {ci : Nat} {fs : List Value} {T : u_T} {N : Nat} {st : List Value} (As rest : List Value) (C : gC own cc nL rt n ad cy D E p s m args meth c) (hw : gH S n ad D s I J H locs)
    (hM : Met l y (xws y cN nN rN) rm (va_Pc (.ref (ad k) :: As) (gB S n ad cy D E I J)) Qc 0 0 (gA n ad)) (kf : gKv y cN nN rN nA) (hl : Cond.methodLink own index y ∈ lw_g) (hk : k < n) (hs : S k (I k) (J k) = .inr (ci, fs)) (hc : vwCl[ci]? = some (y.cls, T, N))
    (hn : As.length = nA) (hz : ls.size = nL) (hst : st = As.reverse ++ .ref (ad k) :: rest) (hsum : (rest.map fun v => v.category).sum ≤ 8) (hR : (rm.cells = 0 ∧ rm.slots = 0) ∧ rm.frames + 1 ≤ R.frames ∧ 8 + (nN + 11) + rm.locals ≤ R.locals) (hcs : cells ≤ R.cells ∧ slots ≤ R.slots) (hd : decode cc pc = .ok (.invokevirtual index, 3)) :
    va_Run p l e R s m args below meth c H locs cells slots 0 0 (F0 m pc ls st) rest (Qc (Value.ref (ad k) :: As).toArray) (gA n ad) := by
  have hp := g_pre C hw (.ref (ad k) :: As)
  have hK := C.2.2.2.2.2.2.2.1
  have hts := C.2.2.2.2.2.1
  have hr := va_recv hK hw.1 (ci := ci) (q0 := k) hc (by rw [gW_get hk, hs])
  exact va_runV (Ts := lw_g) ⟨C.1, C.2.1, C.2.2.2.1, C.2.2.2.2.1, hts⟩ hM (cwV nA hts (g_goodv kf hl) rfl hR.1.1 hR.1.2 ⟨rfl, kf.2.2.2.2⟩ hR.2) ⟨hp.1, hr, hp.2⟩ rfl hn hz hst (lv_room hsum) hd hcs
theorem g_rS {y : MethodName} {cN : ByteArray} {nN nA index : Nat} {rN : Option FieldType} {rm : Room} {Qc : Array Value → State → Outcome → State → Prop} {st : List Value} (As rest : List Value) (C : gC own cc nL rt n ad cy D E p s m args meth c) (hw : gH S n ad D s I J H locs)
    (hM : Met l y (xws y cN nN rN) rm (va_Pc As (gB S n ad cy D E I J)) Qc 0 0 (gA n ad)) (kf : gKs y cN nN rN nA) (hl : Cond.methodLink own index y ∈ lw_g)
    (hn : As.length = nA) (hz : ls.size = nL) (hst : st = As.reverse ++ rest) (hsum : (rest.map fun v => v.category).sum ≤ 8) (hR : (rm.cells = 0 ∧ rm.slots = 0) ∧ rm.frames + 1 ≤ R.frames ∧ 8 + (nN + 11) + rm.locals ≤ R.locals) (hcs : cells ≤ R.cells ∧ slots ≤ R.slots) (hd : decode cc pc = .ok (.invokestatic index, 3)) :
    va_Run p l e R s m args below meth c H locs cells slots 0 0 (F0 m pc ls st) rest (Qc As.toArray) (gA n ad) := by
  have hts := C.2.2.2.2.2.1
  exact va_runS (Ts := lw_g) ⟨C.1, C.2.1, C.2.2.2.1, C.2.2.2.2.1, hts⟩ hM (va_cwS nA hts (g_goods kf hl) rfl hR.1.1 hR.1.2 kf.2.2.2 hR.2) (g_pre C hw As) rfl hn hz hst (lv_room hsum) hd hcs
theorem g_rN {y : MethodName} {cN : ByteArray} {nN nA index : Nat} {rN : Option FieldType} {rm : Room} {Qc : Array Value → State → Outcome → State → Prop} {host : String} {st : List Value} (As rest : List Value) (C : gC own cc nL rt n ad cy D E p s m args meth c) (hw : gH S n ad D s I J H locs)
    (hM : Met l y (xws y cN nN rN) rm (va_Pc As (gB S n ad cy D E I J)) Qc 0 0 (gA n ad)) (kf : gKs y cN nN rN nA) (hl : va_Nw (.methodLinkNest own index y host) s)
    (hn : As.length = nA) (hz : ls.size = nL) (hst : st = As.reverse ++ rest) (hsum : (rest.map fun v => v.category).sum ≤ 8) (hR : (rm.cells = 0 ∧ rm.slots = 0) ∧ rm.frames + 1 ≤ R.frames ∧ 8 + (nN + 11) + rm.locals ≤ R.locals) (hcs : cells ≤ R.cells ∧ slots ≤ R.slots) (hd : decode cc pc = .ok (.invokestatic index, 3)) :
    va_Run p l e R s m args below meth c H locs cells slots 0 0 (F0 m pc ls st) rest (Qc As.toArray) (gA n ad) := by
  have hts := C.2.2.2.2.2.1
  exact va_runSN (Ts := lw_g) ⟨C.1, C.2.1, C.2.2.2.1, C.2.2.2.2.1, hts⟩ hM ⟨va_cnB nA hts (g_goodx kf.2.2.1) rfl hR.1.1 hR.1.2 hl (hts _ kf.2.1) kf.2.2.2 hR.2, hts _ kf.1, trivial⟩ (g_pre C hw As) rfl hn hz hst (lv_room hsum) hd hcs
/-- a method that the class has from above: x is what the call names, y what is selected -/
def gKu (Cn owner : String) (x y : MethodName) (cN : ByteArray) (nN : Nat) (rN : Option FieldType) (nA : Nat) : Prop := Cond.sameMethod x.cls owner x.name x.desc ∈ lw_g ∧ Cond.selects Cn x y ∈ lw_g ∧ Cond.instanceMethod y ∈ lw_g ∧ Cond.initialized y.cls ∈ lw_g ∧ Cond.code y cN nN rN ∈ lw_g
theorem g_rW {x y : MethodName} {Cn owner : String} {cN : ByteArray} {nN nA index : Nat} {rN : Option FieldType} {rm : Room} {Qc : Array Value → State → Outcome → State → Prop} {ci : Nat} {fs : List Value} {T : u_T} {N : Nat} {st : List Value} (As rest : List Value) (C : gC own cc nL rt n ad cy D E p s m args meth c) (hw : gH S n ad D s I J H locs)
    (hM : Met l y (xws y cN nN rN) rm (va_Pc (.ref (ad k) :: As) (gB S n ad cy D E I J)) Qc 0 0 (gA n ad))
    (cw : va_CU R s args own Cn owner index x y cN nN rN (xws y cN nN rN) rm 0 0 nA) (hk : k < n) (hs : S k (I k) (J k) = .inr (ci, fs)) (hc : vwCl[ci]? = some (Cn, T, N))
    (hn : As.length = nA) (hz : ls.size = nL) (hst : st = As.reverse ++ .ref (ad k) :: rest) (hsum : (rest.map fun v => v.category).sum ≤ 8) (hcs : cells ≤ R.cells ∧ slots ≤ R.slots) (hd : decode cc pc = .ok (.invokevirtual index, 3)) :
    va_Run p l e R s m args below meth c H locs cells slots 0 0 (F0 m pc ls st) rest (Qc (Value.ref (ad k) :: As).toArray) (gA n ad) := by
  have hp := g_pre C hw (.ref (ad k) :: As)
  have hK := C.2.2.2.2.2.2.2.1
  have hr := va_recv hK hw.1 (ci := ci) (q0 := k) hc (by rw [gW_get hk, hs])
  exact va_runU (Ts := lw_g) ⟨C.1, C.2.1, C.2.2.2.1, C.2.2.2.2.1, C.2.2.2.2.2.1⟩ hM cw ⟨hp.1, hr, hp.2⟩ rfl hn hz hst (lv_room hsum) hd hcs
theorem g_ci {Q : Int32 → MI → MJ → Prop} {a : Array Value} {st : List Value} (hw : gH S n ad D s I J H locs) (hr : va_Run p l e R s m args below meth c H locs cells slots 0 0 (F0 m pc ls st) rest (gQi S n ad cy D E Q a) (gA n ad))
    (kk : ∀ (r : Int32) (I : MI) (J : MJ) (H : Heap) (locs : List Loc), Q r I J → gH S n ad D s I J H locs → W p l e R s m args below meth c H locs cells slots Qs (F0 m (pc + 3) ls (.int r :: rest))) : W p l e R s m args below meth c H locs cells slots Qs (F0 m pc ls st) :=
  va_calli hr hw.2.2 (fun _ _ h => h) (fun _ h => h) (fun r u t H1 locs1 ht _ hq hB _ _ hS => kk r u.1 u.2 H1 locs1 hq ⟨by rw [← ht]; exact hB.1, hB.2.2.1, hS⟩)
theorem g_cz {Q : Int32 → MI → MJ → Prop} {a : Array Value} {st : List Value} (hw : gH S n ad D s I J H locs) (hr : va_Run p l e R s m args below meth c H locs cells slots 0 0 (F0 m pc ls st) rest (gQz S n ad cy D E Q a) (gA n ad))
    (kk : ∀ (r : Int32) (I : MI) (J : MJ) (H : Heap) (locs : List Loc), (r = 0 ∨ r = 1) → Q r I J → gH S n ad D s I J H locs → W p l e R s m args below meth c H locs cells slots Qs (F0 m (pc + 3) ls (.int r :: rest))) : W p l e R s m args below meth c H locs cells slots Qs (F0 m pc ls st) :=
  va_calli hr hw.2.2 (fun _ _ h => h) (fun _ h => h) (fun r u t H1 locs1 ht _ hq hB _ _ hS => kk r u.1 u.2 H1 locs1 hq.1 hq.2 ⟨by rw [← ht]; exact hB.1, hB.2.2.1, hS⟩)
theorem g_cl {Q : Int64 → MI → MJ → Prop} {a : Array Value} {st : List Value} (hw : gH S n ad D s I J H locs) (hr : va_Run p l e R s m args below meth c H locs cells slots 0 0 (F0 m pc ls st) rest (gQl S n ad cy D E Q a) (gA n ad))
    (kk : ∀ (r : Int64) (I : MI) (J : MJ) (H : Heap) (locs : List Loc), Q r I J → gH S n ad D s I J H locs → W p l e R s m args below meth c H locs cells slots Qs (F0 m (pc + 3) ls (.long r :: rest))) : W p l e R s m args below meth c H locs cells slots Qs (F0 m pc ls st) :=
  va_calll hr hw.2.2 (fun _ _ h => h) (fun _ h => h) (fun r u t H1 locs1 ht _ hq hB _ _ hS => kk r u.1 u.2 H1 locs1 hq ⟨by rw [← ht]; exact hB.1, hB.2.2.1, hS⟩)
theorem g_cv {Q : MI → MJ → Prop} {a : Array Value} {st : List Value} (hw : gH S n ad D s I J H locs) (hr : va_Run p l e R s m args below meth c H locs cells slots 0 0 (F0 m pc ls st) rest (gQv S n ad cy D E Q a) (gA n ad))
    (kk : ∀ (I : MI) (J : MJ) (H : Heap) (locs : List Loc), Q I J → gH S n ad D s I J H locs → W p l e R s m args below meth c H locs cells slots Qs (F0 m (pc + 3) ls rest)) : W p l e R s m args below meth c H locs cells slots Qs (F0 m pc ls st) :=
  va_callv hr hw.2.2 (fun _ _ h => h) (fun _ h => h) (fun u t H1 locs1 ht _ hq hB _ _ hS => kk u.1 u.2 H1 locs1 hq ⟨by rw [← ht]; exact hB.1, hB.2.2.1, hS⟩)
end
/-! compares of longs, with the jump behind them -/
theorem lgc_gt {x y : Int64} : 0 < lg_cmp x y ↔ y < x := by
  unfold lg_cmp
  by_cases h1 : y < x
  · simp [h1]
  · by_cases h2 : x = y
    · subst h2; simp [Int64.lt_irrefl]
    · simp [h1, h2]
theorem lgc_eq {x y : Int64} : lg_cmp x y = 0 ↔ x = y := by
  unfold lg_cmp
  by_cases h1 : y < x
  · have h3 : x ≠ y := fun h => by subst h; exact absurd h1 (Int64.lt_irrefl)
    simp [h1, h3]
  · by_cases h2 : x = y
    · subst h2; simp [Int64.lt_irrefl]
    · simp [h1, h2]
theorem lgc_lt {x y : Int64} : lg_cmp x y < 0 ↔ x < y := by
  unfold lg_cmp
  by_cases h1 : y < x
  · have h3 : ¬ x < y := by rw [Int64.lt_iff_toInt_lt] at h1 ⊢; omega
    simp [h1, h3]
  · by_cases h2 : x = y
    · subst h2; simp [Int64.lt_irrefl]
    · have h3 : x < y := by
        rw [Int64.lt_iff_toInt_lt] at h1 ⊢
        have h4 : x.toInt ≠ y.toInt := fun h => h2 (Int64.toInt_inj.mp h)
        omega
      simp [h1, h2, h3]
theorem lgc_ge {x y : Int64} : 0 ≤ lg_cmp x y ↔ y ≤ x := by
  have h := @lgc_lt x y
  rw [← Int32.not_lt, h, Int64.not_lt]
theorem lgc_le {x y : Int64} : lg_cmp x y ≤ 0 ↔ x ≤ y := by
  have h := @lgc_gt x y
  rw [← Int32.not_lt, h, Int64.not_lt]
section
variable {p : Program} {l : Launch} {e : Env} {R : Room} {s : State} {m : MethodId} {args : Array Value} {below : List Frame} {meth : Method} {c : Code} {H : Heap} {locs : List Loc} {cells slots : Nat} {Qs : State → Prop} {cc : ByteArray} {pc : Nat} {ls : Array Slot} {rest : List Value}
theorem g_lcmp_ge {x y : Int64} {off : Int} {tgt : Nat} (hx : p.tables.exec = Jvm.exec) (hb : c.code = cc) (hd : decode cc pc = .ok (.lcmp, 1)) (hd2 : decode cc (pc + 1) = .ok (.ifCond .ge off, 3)) (ht : ((pc + 1 : Nat) : Int) + off = (tgt : Int))
    (kt : y ≤ x → W p l e R s m args below meth c H locs cells slots Qs (F0 m tgt ls rest)) (kf : ¬ y ≤ x → W p l e R s m args below meth c H locs cells slots Qs (F0 m (pc + 4) ls rest)) : W p l e R s m args below meth c H locs cells slots Qs (F0 m pc ls (.long y :: .long x :: rest)) :=
  W.lcmp hx hb hd (lv_if_ge hx hb hd2 ht (fun h => kt (lgc_ge.mp h)) (fun h => kf (fun h2 => h (lgc_ge.mpr h2))))
theorem g_lcmp_lt {x y : Int64} {off : Int} {tgt : Nat} (hx : p.tables.exec = Jvm.exec) (hb : c.code = cc) (hd : decode cc pc = .ok (.lcmp, 1)) (hd2 : decode cc (pc + 1) = .ok (.ifCond .lt off, 3)) (ht : ((pc + 1 : Nat) : Int) + off = (tgt : Int))
    (kt : x < y → W p l e R s m args below meth c H locs cells slots Qs (F0 m tgt ls rest)) (kf : ¬ x < y → W p l e R s m args below meth c H locs cells slots Qs (F0 m (pc + 4) ls rest)) : W p l e R s m args below meth c H locs cells slots Qs (F0 m pc ls (.long y :: .long x :: rest)) :=
  W.lcmp hx hb hd (lv_if_lt hx hb hd2 ht (fun h => kt (lgc_lt.mp h)) (fun h => kf (fun h2 => h (lgc_lt.mpr h2))))
theorem g_lcmp_eq {x y : Int64} {off : Int} {tgt : Nat} (hx : p.tables.exec = Jvm.exec) (hb : c.code = cc) (hd : decode cc pc = .ok (.lcmp, 1)) (hd2 : decode cc (pc + 1) = .ok (.ifCond .eq off, 3)) (ht : ((pc + 1 : Nat) : Int) + off = (tgt : Int))
    (kt : x = y → W p l e R s m args below meth c H locs cells slots Qs (F0 m tgt ls rest)) (kf : ¬ x = y → W p l e R s m args below meth c H locs cells slots Qs (F0 m (pc + 4) ls rest)) : W p l e R s m args below meth c H locs cells slots Qs (F0 m pc ls (.long y :: .long x :: rest)) :=
  W.lcmp hx hb hd (lv_if_eq hx hb hd2 ht (fun h => kt (lgc_eq.mp h)) (fun h => kf (fun h2 => h (lgc_eq.mpr h2))))
theorem g_lcmp_ne {x y : Int64} {off : Int} {tgt : Nat} (hx : p.tables.exec = Jvm.exec) (hb : c.code = cc) (hd : decode cc pc = .ok (.lcmp, 1)) (hd2 : decode cc (pc + 1) = .ok (.ifCond .ne off, 3)) (ht : ((pc + 1 : Nat) : Int) + off = (tgt : Int))
    (kt : ¬ x = y → W p l e R s m args below meth c H locs cells slots Qs (F0 m tgt ls rest)) (kf : x = y → W p l e R s m args below meth c H locs cells slots Qs (F0 m (pc + 4) ls rest)) : W p l e R s m args below meth c H locs cells slots Qs (F0 m pc ls (.long y :: .long x :: rest)) :=
  W.lcmp hx hb hd (lv_if_ne hx hb hd2 ht (fun h => kt (fun h2 => h (lgc_eq.mpr h2))) (fun h => kf (lgc_eq.mp h)))
theorem g_lcmp_gt {x y : Int64} {off : Int} {tgt : Nat} (hx : p.tables.exec = Jvm.exec) (hb : c.code = cc) (hd : decode cc pc = .ok (.lcmp, 1)) (hd2 : decode cc (pc + 1) = .ok (.ifCond .gt off, 3)) (ht : ((pc + 1 : Nat) : Int) + off = (tgt : Int))
    (kt : y < x → W p l e R s m args below meth c H locs cells slots Qs (F0 m tgt ls rest)) (kf : ¬ y < x → W p l e R s m args below meth c H locs cells slots Qs (F0 m (pc + 4) ls rest)) : W p l e R s m args below meth c H locs cells slots Qs (F0 m pc ls (.long y :: .long x :: rest)) :=
  W.lcmp hx hb hd (lv_if_gt hx hb hd2 ht (fun h => kt (lgc_gt.mp h)) (fun h => kf (fun h2 => h (lgc_gt.mpr h2))))
theorem g_lcmp_le {x y : Int64} {off : Int} {tgt : Nat} (hx : p.tables.exec = Jvm.exec) (hb : c.code = cc) (hd : decode cc pc = .ok (.lcmp, 1)) (hd2 : decode cc (pc + 1) = .ok (.ifCond .le off, 3)) (ht : ((pc + 1 : Nat) : Int) + off = (tgt : Int))
    (kt : x ≤ y → W p l e R s m args below meth c H locs cells slots Qs (F0 m tgt ls rest)) (kf : ¬ x ≤ y → W p l e R s m args below meth c H locs cells slots Qs (F0 m (pc + 4) ls rest)) : W p l e R s m args below meth c H locs cells slots Qs (F0 m pc ls (.long y :: .long x :: rest)) :=
  W.lcmp hx hb hd (lv_if_le hx hb hd2 ht (fun h => kt (lgc_le.mp h)) (fun h => kf (fun h2 => h (lgc_le.mpr h2))))
end
section
variable {p : Program} {l : Launch} {e : Env} {R : Room} {s : State} {m : MethodId} {args : Array Value} {below : List Frame} {meth : Method} {c : Code} {H : Heap} {locs : List Loc} {cells slots : Nat} {Qs : State → Prop}
variable {own : String} {cc : ByteArray} {nL : Nat} {rt : Option FieldType} {S : gS} {n : Nat} {ad : Nat → Nat} {cy : Nat → ClassId} {D : va_G} {E : State → Prop} {I : MI} {J : MJ}
variable {pc : Nat} {ls : Array Slot} {rest : List Value} {k : Nat}
theorem g_copyi {k0 len0 len1 index : Nat} {sp dp nn : Int32} (C : gC own cc nL rt n ad cy D E p s m args meth c) (hw : gH S n ad D s I J H locs) (hz : ls.size = nL) (hl : Cond.methodLink own index arraycopyName ∈ lw_g) (hnat : Cond.native arraycopyName ∈ lw_g) (hstat : Cond.static arraycopyName ∈ lw_g) (hini : Cond.initialized "java/lang/System" ∈ lw_g)
    (hk0 : k0 < n) (hs0 : ∀ i q, S k0 i q = .inl (cy 0, len0, .inl i)) (hk : k < n) (hs : ∀ i q, S k i q = .inl (cy 0, len1, .inl i)) (h1 : ¬ sp < 0) (h2 : ¬ dp < 0) (h3 : ¬ nn < 0) (h4 : sp.toNatClampNeg + nn.toNatClampNeg ≤ len0) (h5 : dp.toNatClampNeg + nn.toNatClampNeg ≤ len1)
    (hfr : 1 ≤ R.frames) (hlo : (rest.map fun v => v.category).sum + (nativeFrameWords "java/lang/System" "arraycopy" 5 + 11) ≤ R.locals) (hd : decode cc pc = .ok (.invokestatic index, 3))
    (kk : ∀ (H : Heap) (locs : List Loc), gH S n ad D s (wI I k (va_cpy (I k0) (I k) sp.toNatClampNeg dp.toNatClampNeg nn.toNatClampNeg)) J H locs → W p l e R s m args below meth c H locs cells slots Qs (F0 m (pc + 3) ls rest)) : W p l e R s m args below meth c H locs cells slots Qs (F0 m pc ls (.int nn :: .int dp :: .ref (ad k) :: .int sp :: .ref (ad k0) :: rest)) := by
  have hts := C.2.2.2.2.2.1
  refine va_copyi (ty := .int) C.1 C.2.1 (C.2.2.2.1.trans hz.symm) C.2.2.2.2.1 (hts _ hl) (hts _ hnat) (hts _ hstat) (hts _ hini) C.2.2.2.2.2.2.2.1 hw.1 hw.2.1 hw.2.2 k0 k 0 0 (by rw [gW_get hk0, hs0]) (by rw [gW_get hk, hs]) rfl rfl rfl h1 h2 h3 h4 h5 (fun _ _ => rfl) hfr hlo hd (fun H1 locs1 hP hD hS => ?_)
  rw [gW_setI (f := va_cpy (I k0) (I k) sp.toNatClampNeg dp.toNatClampNeg nn.toNatClampNeg) (by rw [hs])] at hP hD
  exact kk H1 locs1 ⟨hP, hD, hS⟩
theorem g_copyl {k0 len0 len1 index : Nat} {sp dp nn : Int32} (C : gC own cc nL rt n ad cy D E p s m args meth c) (hw : gH S n ad D s I J H locs) (hz : ls.size = nL) (hl : Cond.methodLink own index arraycopyName ∈ lw_g) (hnat : Cond.native arraycopyName ∈ lw_g) (hstat : Cond.static arraycopyName ∈ lw_g) (hini : Cond.initialized "java/lang/System" ∈ lw_g)
    (hk0 : k0 < n) (hs0 : ∀ i q, S k0 i q = .inl (cy 1, len0, .inr (.inl q))) (hk : k < n) (hs : ∀ i q, S k i q = .inl (cy 1, len1, .inr (.inl q))) (h1 : ¬ sp < 0) (h2 : ¬ dp < 0) (h3 : ¬ nn < 0) (h4 : sp.toNatClampNeg + nn.toNatClampNeg ≤ len0) (h5 : dp.toNatClampNeg + nn.toNatClampNeg ≤ len1)
    (hfr : 1 ≤ R.frames) (hlo : (rest.map fun v => v.category).sum + (nativeFrameWords "java/lang/System" "arraycopy" 5 + 11) ≤ R.locals) (hd : decode cc pc = .ok (.invokestatic index, 3))
    (kk : ∀ (H : Heap) (locs : List Loc), gH S n ad D s I (wJ J k (va_cpy (J k0) (J k) sp.toNatClampNeg dp.toNatClampNeg nn.toNatClampNeg)) H locs → W p l e R s m args below meth c H locs cells slots Qs (F0 m (pc + 3) ls rest)) : W p l e R s m args below meth c H locs cells slots Qs (F0 m pc ls (.int nn :: .int dp :: .ref (ad k) :: .int sp :: .ref (ad k0) :: rest)) := by
  have hts := C.2.2.2.2.2.1
  refine va_copyl (ty := .long) C.1 C.2.1 (C.2.2.2.1.trans hz.symm) C.2.2.2.2.1 (hts _ hl) (hts _ hnat) (hts _ hstat) (hts _ hini) C.2.2.2.2.2.2.2.1 hw.1 hw.2.1 hw.2.2 k0 k 1 1 (by rw [gW_get hk0, hs0]) (by rw [gW_get hk, hs]) rfl rfl rfl h1 h2 h3 h4 h5 (fun _ _ => rfl) hfr hlo hd (fun H1 locs1 hP hD hS => ?_)
  rw [gW_setJ (f := va_cpy (J k0) (J k) sp.toNatClampNeg dp.toNatClampNeg nn.toNatClampNeg) (by rw [hs])] at hP hD
  exact kk H1 locs1 ⟨hP, hD, hS⟩
end
end
