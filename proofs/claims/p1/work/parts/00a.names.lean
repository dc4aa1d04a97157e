/-- a private method of a class that the tables say can be made, by its rows of tables_1 -/
def lw_okq (q : MethodName × Nat) : Prop := (q.1.cls ≠ "java/lang/invoke/MethodHandle" ∧ q.1.cls ≠ "java/lang/invoke/VarHandle") ∧ Cond.instantiable q.1.cls q.2 ∈ tables_1 ∧ Cond.privateMethod q.1 ∈ tables_1 ∧ Cond.instanceMethod q.1 ∈ tables_1
theorem lw_p0 : lw_okq (⟨"java/util/ArrayList", "add", "(Ljava/lang/Object;[Ljava/lang/Object;I)V"⟩, 3) := ⟨⟨by decide +kernel, by decide +kernel⟩, List.mem_of_getElem? (i := 39) (by decide +kernel), List.mem_of_getElem? (i := 164) (by decide +kernel), List.mem_of_getElem? (i := 165) (by decide +kernel)⟩
theorem lw_p1 : lw_okq (⟨"java/util/ArrayList", "grow", "()[Ljava/lang/Object;"⟩, 3) := ⟨⟨by decide +kernel, by decide +kernel⟩, List.mem_of_getElem? (i := 39) (by decide +kernel), List.mem_of_getElem? (i := 168) (by decide +kernel), List.mem_of_getElem? (i := 169) (by decide +kernel)⟩
theorem lw_p2 : lw_okq (⟨"java/util/ArrayList", "grow", "(I)[Ljava/lang/Object;"⟩, 3) := ⟨⟨by decide +kernel, by decide +kernel⟩, List.mem_of_getElem? (i := 39) (by decide +kernel), List.mem_of_getElem? (i := 172) (by decide +kernel), List.mem_of_getElem? (i := 173) (by decide +kernel)⟩
theorem lw_p3 : lw_okq (⟨"EditsMeet", "shelfAt", "(I)LEditsMeet$Shelf;"⟩, 13) := ⟨⟨by decide +kernel, by decide +kernel⟩, List.mem_of_getElem? (i := 25) (by decide +kernel), List.mem_of_getElem? (i := 650) (by decide +kernel), List.mem_of_getElem? (i := 651) (by decide +kernel)⟩
theorem lw_p4 : lw_okq (⟨"EditsMeet", "refuse", "(I)I"⟩, 13) := ⟨⟨by decide +kernel, by decide +kernel⟩, List.mem_of_getElem? (i := 25) (by decide +kernel), List.mem_of_getElem? (i := 654) (by decide +kernel), List.mem_of_getElem? (i := 655) (by decide +kernel)⟩
theorem lw_p5 : lw_okq (⟨"EditsMeet$Shelf", "lowest", "(J)J"⟩, 6) := ⟨⟨by decide +kernel, by decide +kernel⟩, List.mem_of_getElem? (i := 543) (by decide +kernel), List.mem_of_getElem? (i := 681) (by decide +kernel), List.mem_of_getElem? (i := 682) (by decide +kernel)⟩
theorem lw_p6 : lw_okq (⟨"EditsMeet", "isEdit", "(I)Z"⟩, 13) := ⟨⟨by decide +kernel, by decide +kernel⟩, List.mem_of_getElem? (i := 25) (by decide +kernel), List.mem_of_getElem? (i := 725) (by decide +kernel), List.mem_of_getElem? (i := 726) (by decide +kernel)⟩
theorem lw_p7 : lw_okq (⟨"EditsMeet", "fetched", "(I)I"⟩, 13) := ⟨⟨by decide +kernel, by decide +kernel⟩, List.mem_of_getElem? (i := 25) (by decide +kernel), List.mem_of_getElem? (i := 733) (by decide +kernel), List.mem_of_getElem? (i := 734) (by decide +kernel)⟩
theorem lw_p8 : lw_okq (⟨"EditsMeet$Works", "spare", "()I"⟩, 12) := ⟨⟨by decide +kernel, by decide +kernel⟩, List.mem_of_getElem? (i := 132) (by decide +kernel), List.mem_of_getElem? (i := 745) (by decide +kernel), List.mem_of_getElem? (i := 746) (by decide +kernel)⟩
theorem lw_p9 : lw_okq (⟨"EditsMeet$Works", "forgetRecipes", "()V"⟩, 12) := ⟨⟨by decide +kernel, by decide +kernel⟩, List.mem_of_getElem? (i := 132) (by decide +kernel), List.mem_of_getElem? (i := 749) (by decide +kernel), List.mem_of_getElem? (i := 750) (by decide +kernel)⟩
theorem lw_p10 : lw_okq (⟨"EditsMeet$Works", "note", "(II)V"⟩, 12) := ⟨⟨by decide +kernel, by decide +kernel⟩, List.mem_of_getElem? (i := 132) (by decide +kernel), List.mem_of_getElem? (i := 778) (by decide +kernel), List.mem_of_getElem? (i := 779) (by decide +kernel)⟩
theorem lw_p11 : lw_okq (⟨"EditsMeet$Works", "canBeGivenUp", "(II)Z"⟩, 12) := ⟨⟨by decide +kernel, by decide +kernel⟩, List.mem_of_getElem? (i := 132) (by decide +kernel), List.mem_of_getElem? (i := 840) (by decide +kernel), List.mem_of_getElem? (i := 841) (by decide +kernel)⟩
theorem lw_p12 : lw_okq (⟨"EditsMeet$Trees", "reach", "(I)V"⟩, 16) := ⟨⟨by decide +kernel, by decide +kernel⟩, List.mem_of_getElem? (i := 33) (by decide +kernel), List.mem_of_getElem? (i := 852) (by decide +kernel), List.mem_of_getElem? (i := 853) (by decide +kernel)⟩
theorem lw_p13 : lw_okq (⟨"EditsMeet$Trees", "throwAway", "(I)V"⟩, 16) := ⟨⟨by decide +kernel, by decide +kernel⟩, List.mem_of_getElem? (i := 33) (by decide +kernel), List.mem_of_getElem? (i := 868) (by decide +kernel), List.mem_of_getElem? (i := 869) (by decide +kernel)⟩
theorem lw_p14 : lw_okq (⟨"EditsMeet$Trees", "knowAgain", "(I)V"⟩, 16) := ⟨⟨by decide +kernel, by decide +kernel⟩, List.mem_of_getElem? (i := 33) (by decide +kernel), List.mem_of_getElem? (i := 873) (by decide +kernel), List.mem_of_getElem? (i := 874) (by decide +kernel)⟩
theorem lw_p15 : lw_okq (⟨"EditsMeet$Trees", "knownAt", "(I)I"⟩, 16) := ⟨⟨by decide +kernel, by decide +kernel⟩, List.mem_of_getElem? (i := 33) (by decide +kernel), List.mem_of_getElem? (i := 894) (by decide +kernel), List.mem_of_getElem? (i := 895) (by decide +kernel)⟩
def lw_privs_1 : List (MethodName × Nat) := [(⟨"java/util/ArrayList", "add", "(Ljava/lang/Object;[Ljava/lang/Object;I)V"⟩, 3), (⟨"java/util/ArrayList", "grow", "()[Ljava/lang/Object;"⟩, 3), (⟨"java/util/ArrayList", "grow", "(I)[Ljava/lang/Object;"⟩, 3), (⟨"EditsMeet", "shelfAt", "(I)LEditsMeet$Shelf;"⟩, 13), (⟨"EditsMeet", "refuse", "(I)I"⟩, 13), (⟨"EditsMeet$Shelf", "lowest", "(J)J"⟩, 6), (⟨"EditsMeet", "isEdit", "(I)Z"⟩, 13), (⟨"EditsMeet", "fetched", "(I)I"⟩, 13), (⟨"EditsMeet$Works", "spare", "()I"⟩, 12), (⟨"EditsMeet$Works", "forgetRecipes", "()V"⟩, 12), (⟨"EditsMeet$Works", "note", "(II)V"⟩, 12), (⟨"EditsMeet$Works", "canBeGivenUp", "(II)Z"⟩, 12), (⟨"EditsMeet$Trees", "reach", "(I)V"⟩, 16), (⟨"EditsMeet$Trees", "throwAway", "(I)V"⟩, 16), (⟨"EditsMeet$Trees", "knowAgain", "(I)V"⟩, 16), (⟨"EditsMeet$Trees", "knownAt", "(I)I"⟩, 16)]
theorem lw_r1 : ∀ q ∈ lw_privs_1, lw_okq q := List.forall_mem_cons.mpr ⟨lw_p0, List.forall_mem_cons.mpr ⟨lw_p1, List.forall_mem_cons.mpr ⟨lw_p2, List.forall_mem_cons.mpr ⟨lw_p3, List.forall_mem_cons.mpr ⟨lw_p4, List.forall_mem_cons.mpr ⟨lw_p5, List.forall_mem_cons.mpr ⟨lw_p6, List.forall_mem_cons.mpr ⟨lw_p7, List.forall_mem_cons.mpr ⟨lw_p8, List.forall_mem_cons.mpr ⟨lw_p9, List.forall_mem_cons.mpr ⟨lw_p10, List.forall_mem_cons.mpr ⟨lw_p11, List.forall_mem_cons.mpr ⟨lw_p12, List.forall_mem_cons.mpr ⟨lw_p13, List.forall_mem_cons.mpr ⟨lw_p14, List.forall_mem_cons.mpr ⟨lw_p15, fun _ h => absurd h List.not_mem_nil⟩⟩⟩⟩⟩⟩⟩⟩⟩⟩⟩⟩⟩⟩⟩⟩
theorem lw_p16 : lw_okq (⟨"EditsMeet$Trees", "know", "(II)V"⟩, 16) := ⟨⟨by decide +kernel, by decide +kernel⟩, List.mem_of_getElem? (i := 33) (by decide +kernel), List.mem_of_getElem? (i := 898) (by decide +kernel), List.mem_of_getElem? (i := 899) (by decide +kernel)⟩
theorem lw_p17 : lw_okq (⟨"EditsMeet$Loom", "beginTask", "(I)V"⟩, 13) := ⟨⟨by decide +kernel, by decide +kernel⟩, List.mem_of_getElem? (i := 355) (by decide +kernel), List.mem_of_getElem? (i := 907) (by decide +kernel), List.mem_of_getElem? (i := 908) (by decide +kernel)⟩
theorem lw_p18 : lw_okq (⟨"EditsMeet$Loom", "push", "(II)V"⟩, 13) := ⟨⟨by decide +kernel, by decide +kernel⟩, List.mem_of_getElem? (i := 355) (by decide +kernel), List.mem_of_getElem? (i := 918) (by decide +kernel), List.mem_of_getElem? (i := 919) (by decide +kernel)⟩
theorem lw_p19 : lw_okq (⟨"EditsMeet$Loom", "atOnce", "(III)I"⟩, 13) := ⟨⟨by decide +kernel, by decide +kernel⟩, List.mem_of_getElem? (i := 355) (by decide +kernel), List.mem_of_getElem? (i := 941) (by decide +kernel), List.mem_of_getElem? (i := 942) (by decide +kernel)⟩
theorem lw_p20 : lw_okq (⟨"EditsMeet$Trees", "made", "(JJJ)I"⟩, 16) := ⟨⟨by decide +kernel, by decide +kernel⟩, List.mem_of_getElem? (i := 33) (by decide +kernel), List.mem_of_getElem? (i := 950) (by decide +kernel), List.mem_of_getElem? (i := 951) (by decide +kernel)⟩
theorem lw_p21 : lw_okq (⟨"EditsMeet$Trees", "spare", "()I"⟩, 16) := ⟨⟨by decide +kernel, by decide +kernel⟩, List.mem_of_getElem? (i := 33) (by decide +kernel), List.mem_of_getElem? (i := 954) (by decide +kernel), List.mem_of_getElem? (i := 955) (by decide +kernel)⟩
theorem lw_p22 : lw_okq (⟨"EditsMeet$Trees", "putSize", "(IJJ)Z"⟩, 16) := ⟨⟨by decide +kernel, by decide +kernel⟩, List.mem_of_getElem? (i := 33) (by decide +kernel), List.mem_of_getElem? (i := 958) (by decide +kernel), List.mem_of_getElem? (i := 959) (by decide +kernel)⟩
theorem lw_p23 : lw_okq (⟨"EditsMeet$Seam", "putAhead", "(LEditsMeet$Edge;I)V"⟩, 9) := ⟨⟨by decide +kernel, by decide +kernel⟩, List.mem_of_getElem? (i := 362) (by decide +kernel), List.mem_of_getElem? (i := 1018) (by decide +kernel), List.mem_of_getElem? (i := 1019) (by decide +kernel)⟩
theorem lw_p24 : lw_okq (⟨"EditsMeet$Seam", "putBehind", "(LEditsMeet$Edge;I)V"⟩, 9) := ⟨⟨by decide +kernel, by decide +kernel⟩, List.mem_of_getElem? (i := 362) (by decide +kernel), List.mem_of_getElem? (i := 1039) (by decide +kernel), List.mem_of_getElem? (i := 1040) (by decide +kernel)⟩
theorem lw_p25 : lw_okq (⟨"EditsMeet$Loom", "remembered", "(II)I"⟩, 13) := ⟨⟨by decide +kernel, by decide +kernel⟩, List.mem_of_getElem? (i := 355) (by decide +kernel), List.mem_of_getElem? (i := 1067) (by decide +kernel), List.mem_of_getElem? (i := 1068) (by decide +kernel)⟩
theorem lw_p26 : lw_okq (⟨"EditsMeet$Loom", "keyOf", "(II)J"⟩, 13) := ⟨⟨by decide +kernel, by decide +kernel⟩, List.mem_of_getElem? (i := 355) (by decide +kernel), List.mem_of_getElem? (i := 1071) (by decide +kernel), List.mem_of_getElem? (i := 1072) (by decide +kernel)⟩
theorem lw_p27 : lw_okq (⟨"EditsMeet$Loom", "leafByLeaf", "(III)I"⟩, 13) := ⟨⟨by decide +kernel, by decide +kernel⟩, List.mem_of_getElem? (i := 355) (by decide +kernel), List.mem_of_getElem? (i := 1081) (by decide +kernel), List.mem_of_getElem? (i := 1082) (by decide +kernel)⟩
theorem lw_p28 : lw_okq (⟨"EditsMeet$Loom", "flatten", "(ILEditsMeet$Edge;)V"⟩, 13) := ⟨⟨by decide +kernel, by decide +kernel⟩, List.mem_of_getElem? (i := 355) (by decide +kernel), List.mem_of_getElem? (i := 1086) (by decide +kernel), List.mem_of_getElem? (i := 1087) (by decide +kernel)⟩
theorem lw_p29 : lw_okq (⟨"EditsMeet$Loom", "remember", "(III)V"⟩, 13) := ⟨⟨by decide +kernel, by decide +kernel⟩, List.mem_of_getElem? (i := 355) (by decide +kernel), List.mem_of_getElem? (i := 1110) (by decide +kernel), List.mem_of_getElem? (i := 1111) (by decide +kernel)⟩
theorem lw_p30 : lw_okq (⟨"EditsMeet$Loom", "divide", "(II)V"⟩, 13) := ⟨⟨by decide +kernel, by decide +kernel⟩, List.mem_of_getElem? (i := 355) (by decide +kernel), List.mem_of_getElem? (i := 1114) (by decide +kernel), List.mem_of_getElem? (i := 1115) (by decide +kernel)⟩
theorem lw_p31 : lw_okq (⟨"EditsMeet$Loom", "leads", "(II)Z"⟩, 13) := ⟨⟨by decide +kernel, by decide +kernel⟩, List.mem_of_getElem? (i := 355) (by decide +kernel), List.mem_of_getElem? (i := 1118) (by decide +kernel), List.mem_of_getElem? (i := 1119) (by decide +kernel)⟩
def lw_privs_2 : List (MethodName × Nat) := [(⟨"EditsMeet$Trees", "know", "(II)V"⟩, 16), (⟨"EditsMeet$Loom", "beginTask", "(I)V"⟩, 13), (⟨"EditsMeet$Loom", "push", "(II)V"⟩, 13), (⟨"EditsMeet$Loom", "atOnce", "(III)I"⟩, 13), (⟨"EditsMeet$Trees", "made", "(JJJ)I"⟩, 16), (⟨"EditsMeet$Trees", "spare", "()I"⟩, 16), (⟨"EditsMeet$Trees", "putSize", "(IJJ)Z"⟩, 16), (⟨"EditsMeet$Seam", "putAhead", "(LEditsMeet$Edge;I)V"⟩, 9), (⟨"EditsMeet$Seam", "putBehind", "(LEditsMeet$Edge;I)V"⟩, 9), (⟨"EditsMeet$Loom", "remembered", "(II)I"⟩, 13), (⟨"EditsMeet$Loom", "keyOf", "(II)J"⟩, 13), (⟨"EditsMeet$Loom", "leafByLeaf", "(III)I"⟩, 13), (⟨"EditsMeet$Loom", "flatten", "(ILEditsMeet$Edge;)V"⟩, 13), (⟨"EditsMeet$Loom", "remember", "(III)V"⟩, 13), (⟨"EditsMeet$Loom", "divide", "(II)V"⟩, 13), (⟨"EditsMeet$Loom", "leads", "(II)Z"⟩, 13)]
theorem lw_r2 : ∀ q ∈ lw_privs_2, lw_okq q := List.forall_mem_cons.mpr ⟨lw_p16, List.forall_mem_cons.mpr ⟨lw_p17, List.forall_mem_cons.mpr ⟨lw_p18, List.forall_mem_cons.mpr ⟨lw_p19, List.forall_mem_cons.mpr ⟨lw_p20, List.forall_mem_cons.mpr ⟨lw_p21, List.forall_mem_cons.mpr ⟨lw_p22, List.forall_mem_cons.mpr ⟨lw_p23, List.forall_mem_cons.mpr ⟨lw_p24, List.forall_mem_cons.mpr ⟨lw_p25, List.forall_mem_cons.mpr ⟨lw_p26, List.forall_mem_cons.mpr ⟨lw_p27, List.forall_mem_cons.mpr ⟨lw_p28, List.forall_mem_cons.mpr ⟨lw_p29, List.forall_mem_cons.mpr ⟨lw_p30, List.forall_mem_cons.mpr ⟨lw_p31, fun _ h => absurd h List.not_mem_nil⟩⟩⟩⟩⟩⟩⟩⟩⟩⟩⟩⟩⟩⟩⟩⟩
theorem lw_p32 : lw_okq (⟨"EditsMeet$Seam", "clear", "()V"⟩, 9) := ⟨⟨by decide +kernel, by decide +kernel⟩, List.mem_of_getElem? (i := 362) (by decide +kernel), List.mem_of_getElem? (i := 1141) (by decide +kernel), List.mem_of_getElem? (i := 1142) (by decide +kernel)⟩
theorem lw_p33 : lw_okq (⟨"EditsMeet$Seam", "partLast", "(I)V"⟩, 9) := ⟨⟨by decide +kernel, by decide +kernel⟩, List.mem_of_getElem? (i := 362) (by decide +kernel), List.mem_of_getElem? (i := 1174) (by decide +kernel), List.mem_of_getElem? (i := 1175) (by decide +kernel)⟩
theorem lw_p34 : lw_okq (⟨"EditsMeet$Teller", "sum", "(I)J"⟩, 16) := ⟨⟨by decide +kernel, by decide +kernel⟩, List.mem_of_getElem? (i := 259) (by decide +kernel), List.mem_of_getElem? (i := 1198) (by decide +kernel), List.mem_of_getElem? (i := 1199) (by decide +kernel)⟩
theorem lw_p35 : lw_okq (⟨"EditsMeet$Teller", "atHand", "(I)J"⟩, 16) := ⟨⟨by decide +kernel, by decide +kernel⟩, List.mem_of_getElem? (i := 259) (by decide +kernel), List.mem_of_getElem? (i := 1202) (by decide +kernel), List.mem_of_getElem? (i := 1203) (by decide +kernel)⟩
theorem lw_p36 : lw_okq (⟨"EditsMeet$Teller", "leafSum", "(I)J"⟩, 16) := ⟨⟨by decide +kernel, by decide +kernel⟩, List.mem_of_getElem? (i := 259) (by decide +kernel), List.mem_of_getElem? (i := 1207) (by decide +kernel), List.mem_of_getElem? (i := 1208) (by decide +kernel)⟩
theorem lw_p37 : lw_okq (⟨"EditsMeet$Teller", "open", "(II)V"⟩, 16) := ⟨⟨by decide +kernel, by decide +kernel⟩, List.mem_of_getElem? (i := 259) (by decide +kernel), List.mem_of_getElem? (i := 1232) (by decide +kernel), List.mem_of_getElem? (i := 1233) (by decide +kernel)⟩
theorem lw_p38 : lw_okq (⟨"EditsMeet$Teller", "sumOfRun", "(IJ)J"⟩, 16) := ⟨⟨by decide +kernel, by decide +kernel⟩, List.mem_of_getElem? (i := 259) (by decide +kernel), List.mem_of_getElem? (i := 1240) (by decide +kernel), List.mem_of_getElem? (i := 1241) (by decide +kernel)⟩
theorem lw_p39 : lw_okq (⟨"EditsMeet$Teller", "sumOfPair", "(IJJ)J"⟩, 16) := ⟨⟨by decide +kernel, by decide +kernel⟩, List.mem_of_getElem? (i := 259) (by decide +kernel), List.mem_of_getElem? (i := 1251) (by decide +kernel), List.mem_of_getElem? (i := 1252) (by decide +kernel)⟩
theorem lw_p40 : lw_okq (⟨"EditsMeet$Teller", "note", "(IJ)V"⟩, 16) := ⟨⟨by decide +kernel, by decide +kernel⟩, List.mem_of_getElem? (i := 259) (by decide +kernel), List.mem_of_getElem? (i := 1255) (by decide +kernel), List.mem_of_getElem? (i := 1256) (by decide +kernel)⟩
theorem lw_p41 : lw_okq (⟨"EditsMeet$Tape", "readAct", "()V"⟩, 8) := ⟨⟨by decide +kernel, by decide +kernel⟩, List.mem_of_getElem? (i := 458) (by decide +kernel), List.mem_of_getElem? (i := 1343) (by decide +kernel), List.mem_of_getElem? (i := 1344) (by decide +kernel)⟩
theorem lw_p42 : lw_okq (⟨"EditsMeet$Tape", "signAt", "(I)I"⟩, 8) := ⟨⟨by decide +kernel, by decide +kernel⟩, List.mem_of_getElem? (i := 458) (by decide +kernel), List.mem_of_getElem? (i := 1347) (by decide +kernel), List.mem_of_getElem? (i := 1348) (by decide +kernel)⟩
theorem lw_p43 : lw_okq (⟨"EditsMeet$Tape", "readLetter", "()V"⟩, 8) := ⟨⟨by decide +kernel, by decide +kernel⟩, List.mem_of_getElem? (i := 458) (by decide +kernel), List.mem_of_getElem? (i := 1354) (by decide +kernel), List.mem_of_getElem? (i := 1355) (by decide +kernel)⟩
theorem lw_p44 : lw_okq (⟨"EditsMeet$Tape", "readOver", "(I)V"⟩, 8) := ⟨⟨by decide +kernel, by decide +kernel⟩, List.mem_of_getElem? (i := 458) (by decide +kernel), List.mem_of_getElem? (i := 1358) (by decide +kernel), List.mem_of_getElem? (i := 1359) (by decide +kernel)⟩
theorem lw_p45 : lw_okq (⟨"EditsMeet$Tape", "readNumber", "(I)I"⟩, 8) := ⟨⟨by decide +kernel, by decide +kernel⟩, List.mem_of_getElem? (i := 458) (by decide +kernel), List.mem_of_getElem? (i := 1362) (by decide +kernel), List.mem_of_getElem? (i := 1363) (by decide +kernel)⟩
theorem lw_p46 : lw_okq (⟨"EditsMeet$Tape", "readDot", "()V"⟩, 8) := ⟨⟨by decide +kernel, by decide +kernel⟩, List.mem_of_getElem? (i := 458) (by decide +kernel), List.mem_of_getElem? (i := 1369) (by decide +kernel), List.mem_of_getElem? (i := 1370) (by decide +kernel)⟩
theorem lw_p47 : lw_okq (⟨"EditsMeet", "keep", "(II)I"⟩, 13) := ⟨⟨by decide +kernel, by decide +kernel⟩, List.mem_of_getElem? (i := 25) (by decide +kernel), List.mem_of_getElem? (i := 1383) (by decide +kernel), List.mem_of_getElem? (i := 1384) (by decide +kernel)⟩
def lw_privs_3 : List (MethodName × Nat) := [(⟨"EditsMeet$Seam", "clear", "()V"⟩, 9), (⟨"EditsMeet$Seam", "partLast", "(I)V"⟩, 9), (⟨"EditsMeet$Teller", "sum", "(I)J"⟩, 16), (⟨"EditsMeet$Teller", "atHand", "(I)J"⟩, 16), (⟨"EditsMeet$Teller", "leafSum", "(I)J"⟩, 16), (⟨"EditsMeet$Teller", "open", "(II)V"⟩, 16), (⟨"EditsMeet$Teller", "sumOfRun", "(IJ)J"⟩, 16), (⟨"EditsMeet$Teller", "sumOfPair", "(IJJ)J"⟩, 16), (⟨"EditsMeet$Teller", "note", "(IJ)V"⟩, 16), (⟨"EditsMeet$Tape", "readAct", "()V"⟩, 8), (⟨"EditsMeet$Tape", "signAt", "(I)I"⟩, 8), (⟨"EditsMeet$Tape", "readLetter", "()V"⟩, 8), (⟨"EditsMeet$Tape", "readOver", "(I)V"⟩, 8), (⟨"EditsMeet$Tape", "readNumber", "(I)I"⟩, 8), (⟨"EditsMeet$Tape", "readDot", "()V"⟩, 8), (⟨"EditsMeet", "keep", "(II)I"⟩, 13)]
theorem lw_r3 : ∀ q ∈ lw_privs_3, lw_okq q := List.forall_mem_cons.mpr ⟨lw_p32, List.forall_mem_cons.mpr ⟨lw_p33, List.forall_mem_cons.mpr ⟨lw_p34, List.forall_mem_cons.mpr ⟨lw_p35, List.forall_mem_cons.mpr ⟨lw_p36, List.forall_mem_cons.mpr ⟨lw_p37, List.forall_mem_cons.mpr ⟨lw_p38, List.forall_mem_cons.mpr ⟨lw_p39, List.forall_mem_cons.mpr ⟨lw_p40, List.forall_mem_cons.mpr ⟨lw_p41, List.forall_mem_cons.mpr ⟨lw_p42, List.forall_mem_cons.mpr ⟨lw_p43, List.forall_mem_cons.mpr ⟨lw_p44, List.forall_mem_cons.mpr ⟨lw_p45, List.forall_mem_cons.mpr ⟨lw_p46, List.forall_mem_cons.mpr ⟨lw_p47, fun _ h => absurd h List.not_mem_nil⟩⟩⟩⟩⟩⟩⟩⟩⟩⟩⟩⟩⟩⟩⟩⟩
theorem lw_p48 : lw_okq (⟨"EditsMeet$Teller", "spell", "(I)V"⟩, 16) := ⟨⟨by decide +kernel, by decide +kernel⟩, List.mem_of_getElem? (i := 259) (by decide +kernel), List.mem_of_getElem? (i := 1425) (by decide +kernel), List.mem_of_getElem? (i := 1426) (by decide +kernel)⟩
theorem lw_p49 : lw_okq (⟨"EditsMeet$Teller", "spellSign", "(C)V"⟩, 16) := ⟨⟨by decide +kernel, by decide +kernel⟩, List.mem_of_getElem? (i := 259) (by decide +kernel), List.mem_of_getElem? (i := 1429) (by decide +kernel), List.mem_of_getElem? (i := 1430) (by decide +kernel)⟩
theorem lw_p50 : lw_okq (⟨"EditsMeet$Teller", "spellNumber", "(J)V"⟩, 16) := ⟨⟨by decide +kernel, by decide +kernel⟩, List.mem_of_getElem? (i := 259) (by decide +kernel), List.mem_of_getElem? (i := 1433) (by decide +kernel), List.mem_of_getElem? (i := 1434) (by decide +kernel)⟩
theorem lw_p51 : lw_okq (⟨"EditsMeet", "keepIfNotTooBig", "(II)I"⟩, 13) := ⟨⟨by decide +kernel, by decide +kernel⟩, List.mem_of_getElem? (i := 25) (by decide +kernel), List.mem_of_getElem? (i := 1451) (by decide +kernel), List.mem_of_getElem? (i := 1452) (by decide +kernel)⟩
theorem lw_p52 : lw_okq (⟨"EditsMeet$Teller", "passAlike", "(IIZ)V"⟩, 16) := ⟨⟨by decide +kernel, by decide +kernel⟩, List.mem_of_getElem? (i := 259) (by decide +kernel), List.mem_of_getElem? (i := 1486) (by decide +kernel), List.mem_of_getElem? (i := 1487) (by decide +kernel)⟩
theorem lw_p53 : lw_okq (⟨"EditsMeet$Teller", "passBoth", "(JZ)V"⟩, 16) := ⟨⟨by decide +kernel, by decide +kernel⟩, List.mem_of_getElem? (i := 259) (by decide +kernel), List.mem_of_getElem? (i := 1496) (by decide +kernel), List.mem_of_getElem? (i := 1497) (by decide +kernel)⟩
theorem lw_p54 : lw_okq (⟨"EditsMeet$Client", "drop", "(I)V"⟩, 11) := ⟨⟨by decide +kernel, by decide +kernel⟩, List.mem_of_getElem? (i := 493) (by decide +kernel), List.mem_of_getElem? (i := 1530) (by decide +kernel), List.mem_of_getElem? (i := 1531) (by decide +kernel)⟩
theorem lw_p55 : lw_okq (⟨"EditsMeet$Client", "putCount", "(II)V"⟩, 11) := ⟨⟨by decide +kernel, by decide +kernel⟩, List.mem_of_getElem? (i := 493) (by decide +kernel), List.mem_of_getElem? (i := 1538) (by decide +kernel), List.mem_of_getElem? (i := 1539) (by decide +kernel)⟩
theorem lw_p56 : lw_okq (⟨"EditsMeet$Client", "keep", "(II)V"⟩, 11) := ⟨⟨by decide +kernel, by decide +kernel⟩, List.mem_of_getElem? (i := 493) (by decide +kernel), List.mem_of_getElem? (i := 1547) (by decide +kernel), List.mem_of_getElem? (i := 1548) (by decide +kernel)⟩
theorem lw_p57 : lw_okq (⟨"EditsMeet$Client", "movePlaces", "(IZ)V"⟩, 11) := ⟨⟨by decide +kernel, by decide +kernel⟩, List.mem_of_getElem? (i := 493) (by decide +kernel), List.mem_of_getElem? (i := 1552) (by decide +kernel), List.mem_of_getElem? (i := 1553) (by decide +kernel)⟩
theorem lw_p58 : lw_okq (⟨"EditsMeet", "hasNoRoom", "(LEditsMeet$Client;)Z"⟩, 13) := ⟨⟨by decide +kernel, by decide +kernel⟩, List.mem_of_getElem? (i := 25) (by decide +kernel), List.mem_of_getElem? (i := 1560) (by decide +kernel), List.mem_of_getElem? (i := 1561) (by decide +kernel)⟩
theorem lw_p59 : lw_okq (⟨"EditsMeet$Client", "sendWaiting", "()V"⟩, 11) := ⟨⟨by decide +kernel, by decide +kernel⟩, List.mem_of_getElem? (i := 493) (by decide +kernel), List.mem_of_getElem? (i := 1639) (by decide +kernel), List.mem_of_getElem? (i := 1640) (by decide +kernel)⟩
theorem lw_p60 : lw_okq (⟨"EditsMeet$Client", "passedAt", "(I)I"⟩, 11) := ⟨⟨by decide +kernel, by decide +kernel⟩, List.mem_of_getElem? (i := 493) (by decide +kernel), List.mem_of_getElem? (i := 1643) (by decide +kernel), List.mem_of_getElem? (i := 1644) (by decide +kernel)⟩
theorem lw_p61 : lw_okq (⟨"EditsMeet", "canBe", "(LEditsMeet$Client;I)Z"⟩, 13) := ⟨⟨by decide +kernel, by decide +kernel⟩, List.mem_of_getElem? (i := 25) (by decide +kernel), List.mem_of_getElem? (i := 1727) (by decide +kernel), List.mem_of_getElem? (i := 1728) (by decide +kernel)⟩
theorem lw_p62 : lw_okq (⟨"EditsMeet", "draftByDraws", "(LEditsMeet$Client;I)V"⟩, 13) := ⟨⟨by decide +kernel, by decide +kernel⟩, List.mem_of_getElem? (i := 25) (by decide +kernel), List.mem_of_getElem? (i := 1731) (by decide +kernel), List.mem_of_getElem? (i := 1732) (by decide +kernel)⟩
theorem lw_p63 : lw_okq (⟨"EditsMeet", "editsByNumber", "()I"⟩, 13) := ⟨⟨by decide +kernel, by decide +kernel⟩, List.mem_of_getElem? (i := 25) (by decide +kernel), List.mem_of_getElem? (i := 1765) (by decide +kernel), List.mem_of_getElem? (i := 1766) (by decide +kernel)⟩
def lw_privs_4 : List (MethodName × Nat) := [(⟨"EditsMeet$Teller", "spell", "(I)V"⟩, 16), (⟨"EditsMeet$Teller", "spellSign", "(C)V"⟩, 16), (⟨"EditsMeet$Teller", "spellNumber", "(J)V"⟩, 16), (⟨"EditsMeet", "keepIfNotTooBig", "(II)I"⟩, 13), (⟨"EditsMeet$Teller", "passAlike", "(IIZ)V"⟩, 16), (⟨"EditsMeet$Teller", "passBoth", "(JZ)V"⟩, 16), (⟨"EditsMeet$Client", "drop", "(I)V"⟩, 11), (⟨"EditsMeet$Client", "putCount", "(II)V"⟩, 11), (⟨"EditsMeet$Client", "keep", "(II)V"⟩, 11), (⟨"EditsMeet$Client", "movePlaces", "(IZ)V"⟩, 11), (⟨"EditsMeet", "hasNoRoom", "(LEditsMeet$Client;)Z"⟩, 13), (⟨"EditsMeet$Client", "sendWaiting", "()V"⟩, 11), (⟨"EditsMeet$Client", "passedAt", "(I)I"⟩, 11), (⟨"EditsMeet", "canBe", "(LEditsMeet$Client;I)Z"⟩, 13), (⟨"EditsMeet", "draftByDraws", "(LEditsMeet$Client;I)V"⟩, 13), (⟨"EditsMeet", "editsByNumber", "()I"⟩, 13)]
theorem lw_r4 : ∀ q ∈ lw_privs_4, lw_okq q := List.forall_mem_cons.mpr ⟨lw_p48, List.forall_mem_cons.mpr ⟨lw_p49, List.forall_mem_cons.mpr ⟨lw_p50, List.forall_mem_cons.mpr ⟨lw_p51, List.forall_mem_cons.mpr ⟨lw_p52, List.forall_mem_cons.mpr ⟨lw_p53, List.forall_mem_cons.mpr ⟨lw_p54, List.forall_mem_cons.mpr ⟨lw_p55, List.forall_mem_cons.mpr ⟨lw_p56, List.forall_mem_cons.mpr ⟨lw_p57, List.forall_mem_cons.mpr ⟨lw_p58, List.forall_mem_cons.mpr ⟨lw_p59, List.forall_mem_cons.mpr ⟨lw_p60, List.forall_mem_cons.mpr ⟨lw_p61, List.forall_mem_cons.mpr ⟨lw_p62, List.forall_mem_cons.mpr ⟨lw_p63, fun _ h => absurd h List.not_mem_nil⟩⟩⟩⟩⟩⟩⟩⟩⟩⟩⟩⟩⟩⟩⟩⟩
theorem lw_p64 : lw_okq (⟨"EditsMeet", "shelvesInUse", "()I"⟩, 13) := ⟨⟨by decide +kernel, by decide +kernel⟩, List.mem_of_getElem? (i := 25) (by decide +kernel), List.mem_of_getElem? (i := 1778) (by decide +kernel), List.mem_of_getElem? (i := 1779) (by decide +kernel)⟩
theorem lw_p65 : lw_okq (⟨"EditsMeetModel", "refused", "(I)I"⟩, 33) := ⟨⟨by decide +kernel, by decide +kernel⟩, List.mem_of_getElem? (i := 1782) (by decide +kernel), List.mem_of_getElem? (i := 1898) (by decide +kernel), List.mem_of_getElem? (i := 1899) (by decide +kernel)⟩
theorem lw_p66 : lw_okq (⟨"EditsMeetModel", "isPart", "()Z"⟩, 33) := ⟨⟨by decide +kernel, by decide +kernel⟩, List.mem_of_getElem? (i := 1782) (by decide +kernel), List.mem_of_getElem? (i := 1914) (by decide +kernel), List.mem_of_getElem? (i := 1915) (by decide +kernel)⟩
theorem lw_p67 : lw_okq (⟨"EditsMeetModel", "byteAt", "(I)I"⟩, 33) := ⟨⟨by decide +kernel, by decide +kernel⟩, List.mem_of_getElem? (i := 1782) (by decide +kernel), List.mem_of_getElem? (i := 1918) (by decide +kernel), List.mem_of_getElem? (i := 1919) (by decide +kernel)⟩
theorem lw_p68 : lw_okq (⟨"EditsMeetModel", "adds", "(II)V"⟩, 33) := ⟨⟨by decide +kernel, by decide +kernel⟩, List.mem_of_getElem? (i := 1782) (by decide +kernel), List.mem_of_getElem? (i := 1925) (by decide +kernel), List.mem_of_getElem? (i := 1926) (by decide +kernel)⟩
theorem lw_p69 : lw_okq (⟨"EditsMeetModel", "isNumber", "(I)Z"⟩, 33) := ⟨⟨by decide +kernel, by decide +kernel⟩, List.mem_of_getElem? (i := 1782) (by decide +kernel), List.mem_of_getElem? (i := 1929) (by decide +kernel), List.mem_of_getElem? (i := 1930) (by decide +kernel)⟩
theorem lw_p70 : lw_okq (⟨"EditsMeetModel", "plain", "(I)V"⟩, 33) := ⟨⟨by decide +kernel, by decide +kernel⟩, List.mem_of_getElem? (i := 1782) (by decide +kernel), List.mem_of_getElem? (i := 1938) (by decide +kernel), List.mem_of_getElem? (i := 1939) (by decide +kernel)⟩
theorem lw_p71 : lw_okq (⟨"EditsMeetModel", "comes", "(II)I"⟩, 33) := ⟨⟨by decide +kernel, by decide +kernel⟩, List.mem_of_getElem? (i := 1782) (by decide +kernel), List.mem_of_getElem? (i := 1946) (by decide +kernel), List.mem_of_getElem? (i := 1947) (by decide +kernel)⟩
theorem lw_p72 : lw_okq (⟨"EditsMeetModel", "keepsRow", "(II)V"⟩, 33) := ⟨⟨by decide +kernel, by decide +kernel⟩, List.mem_of_getElem? (i := 1782) (by decide +kernel), List.mem_of_getElem? (i := 1950) (by decide +kernel), List.mem_of_getElem? (i := 1951) (by decide +kernel)⟩
theorem lw_p73 : lw_okq (⟨"EditsMeetModel", "parts", "(I)I"⟩, 33) := ⟨⟨by decide +kernel, by decide +kernel⟩, List.mem_of_getElem? (i := 1782) (by decide +kernel), List.mem_of_getElem? (i := 1957) (by decide +kernel), List.mem_of_getElem? (i := 1958) (by decide +kernel)⟩
theorem lw_p74 : lw_okq (⟨"EditsMeetModel", "isKept", "(I)Z"⟩, 33) := ⟨⟨by decide +kernel, by decide +kernel⟩, List.mem_of_getElem? (i := 1782) (by decide +kernel), List.mem_of_getElem? (i := 1969) (by decide +kernel), List.mem_of_getElem? (i := 1970) (by decide +kernel)⟩
theorem lw_p75 : lw_okq (⟨"EditsMeetModel", "from", "(I)I"⟩, 33) := ⟨⟨by decide +kernel, by decide +kernel⟩, List.mem_of_getElem? (i := 1782) (by decide +kernel), List.mem_of_getElem? (i := 1973) (by decide +kernel), List.mem_of_getElem? (i := 1974) (by decide +kernel)⟩
theorem lw_p76 : lw_okq (⟨"EditsMeetModel", "to", "(I)I"⟩, 33) := ⟨⟨by decide +kernel, by decide +kernel⟩, List.mem_of_getElem? (i := 1782) (by decide +kernel), List.mem_of_getElem? (i := 1980) (by decide +kernel), List.mem_of_getElem? (i := 1981) (by decide +kernel)⟩
theorem lw_p77 : lw_okq (⟨"EditsMeetModel", "letters", "(II)I"⟩, 33) := ⟨⟨by decide +kernel, by decide +kernel⟩, List.mem_of_getElem? (i := 1782) (by decide +kernel), List.mem_of_getElem? (i := 1984) (by decide +kernel), List.mem_of_getElem? (i := 1985) (by decide +kernel)⟩
theorem lw_p78 : lw_okq (⟨"EditsMeetModel", "beginOf", "(II)I"⟩, 33) := ⟨⟨by decide +kernel, by decide +kernel⟩, List.mem_of_getElem? (i := 1782) (by decide +kernel), List.mem_of_getElem? (i := 1993) (by decide +kernel), List.mem_of_getElem? (i := 1994) (by decide +kernel)⟩
theorem lw_p79 : lw_okq (⟨"EditsMeetModel", "tells", "(I)V"⟩, 33) := ⟨⟨by decide +kernel, by decide +kernel⟩, List.mem_of_getElem? (i := 1782) (by decide +kernel), List.mem_of_getElem? (i := 2008) (by decide +kernel), List.mem_of_getElem? (i := 2009) (by decide +kernel)⟩
def lw_privs_5 : List (MethodName × Nat) := [(⟨"EditsMeet", "shelvesInUse", "()I"⟩, 13), (⟨"EditsMeetModel", "refused", "(I)I"⟩, 33), (⟨"EditsMeetModel", "isPart", "()Z"⟩, 33), (⟨"EditsMeetModel", "byteAt", "(I)I"⟩, 33), (⟨"EditsMeetModel", "adds", "(II)V"⟩, 33), (⟨"EditsMeetModel", "isNumber", "(I)Z"⟩, 33), (⟨"EditsMeetModel", "plain", "(I)V"⟩, 33), (⟨"EditsMeetModel", "comes", "(II)I"⟩, 33), (⟨"EditsMeetModel", "keepsRow", "(II)V"⟩, 33), (⟨"EditsMeetModel", "parts", "(I)I"⟩, 33), (⟨"EditsMeetModel", "isKept", "(I)Z"⟩, 33), (⟨"EditsMeetModel", "from", "(I)I"⟩, 33), (⟨"EditsMeetModel", "to", "(I)I"⟩, 33), (⟨"EditsMeetModel", "letters", "(II)I"⟩, 33), (⟨"EditsMeetModel", "beginOf", "(II)I"⟩, 33), (⟨"EditsMeetModel", "tells", "(I)V"⟩, 33)]
theorem lw_r5 : ∀ q ∈ lw_privs_5, lw_okq q := List.forall_mem_cons.mpr ⟨lw_p64, List.forall_mem_cons.mpr ⟨lw_p65, List.forall_mem_cons.mpr ⟨lw_p66, List.forall_mem_cons.mpr ⟨lw_p67, List.forall_mem_cons.mpr ⟨lw_p68, List.forall_mem_cons.mpr ⟨lw_p69, List.forall_mem_cons.mpr ⟨lw_p70, List.forall_mem_cons.mpr ⟨lw_p71, List.forall_mem_cons.mpr ⟨lw_p72, List.forall_mem_cons.mpr ⟨lw_p73, List.forall_mem_cons.mpr ⟨lw_p74, List.forall_mem_cons.mpr ⟨lw_p75, List.forall_mem_cons.mpr ⟨lw_p76, List.forall_mem_cons.mpr ⟨lw_p77, List.forall_mem_cons.mpr ⟨lw_p78, List.forall_mem_cons.mpr ⟨lw_p79, fun _ h => absurd h List.not_mem_nil⟩⟩⟩⟩⟩⟩⟩⟩⟩⟩⟩⟩⟩⟩⟩⟩
theorem lw_p80 : lw_okq (⟨"EditsMeetModel", "tellsPart", "(II)V"⟩, 33) := ⟨⟨by decide +kernel, by decide +kernel⟩, List.mem_of_getElem? (i := 1782) (by decide +kernel), List.mem_of_getElem? (i := 2012) (by decide +kernel), List.mem_of_getElem? (i := 2013) (by decide +kernel)⟩
theorem lw_p81 : lw_okq (⟨"EditsMeetModel", "tellsNumber", "(I)V"⟩, 33) := ⟨⟨by decide +kernel, by decide +kernel⟩, List.mem_of_getElem? (i := 1782) (by decide +kernel), List.mem_of_getElem? (i := 2016) (by decide +kernel), List.mem_of_getElem? (i := 2017) (by decide +kernel)⟩
theorem lw_p82 : lw_okq (⟨"EditsMeetModel", "takesRow", "(II)V"⟩, 33) := ⟨⟨by decide +kernel, by decide +kernel⟩, List.mem_of_getElem? (i := 1782) (by decide +kernel), List.mem_of_getElem? (i := 2024) (by decide +kernel), List.mem_of_getElem? (i := 2025) (by decide +kernel)⟩
theorem lw_p83 : lw_okq (⟨"EditsMeetModel", "behindRow", "(III)V"⟩, 33) := ⟨⟨by decide +kernel, by decide +kernel⟩, List.mem_of_getElem? (i := 1782) (by decide +kernel), List.mem_of_getElem? (i := 2028) (by decide +kernel), List.mem_of_getElem? (i := 2029) (by decide +kernel)⟩
theorem lw_p84 : lw_okq (⟨"EditsMeetModel", "together", "(III)V"⟩, 33) := ⟨⟨by decide +kernel, by decide +kernel⟩, List.mem_of_getElem? (i := 1782) (by decide +kernel), List.mem_of_getElem? (i := 2032) (by decide +kernel), List.mem_of_getElem? (i := 2033) (by decide +kernel)⟩
theorem lw_p85 : lw_okq (⟨"EditsMeetModel", "made", "(II)I"⟩, 33) := ⟨⟨by decide +kernel, by decide +kernel⟩, List.mem_of_getElem? (i := 1782) (by decide +kernel), List.mem_of_getElem? (i := 2039) (by decide +kernel), List.mem_of_getElem? (i := 2040) (by decide +kernel)⟩
theorem lw_p86 : lw_okq (⟨"EditsMeetModel", "isTooLarge", "(I)Z"⟩, 33) := ⟨⟨by decide +kernel, by decide +kernel⟩, List.mem_of_getElem? (i := 1782) (by decide +kernel), List.mem_of_getElem? (i := 2043) (by decide +kernel), List.mem_of_getElem? (i := 2044) (by decide +kernel)⟩
theorem lw_p87 : lw_okq (⟨"EditsMeetModel", "overRow", "(IIII)V"⟩, 33) := ⟨⟨by decide +kernel, by decide +kernel⟩, List.mem_of_getElem? (i := 1782) (by decide +kernel), List.mem_of_getElem? (i := 2051) (by decide +kernel), List.mem_of_getElem? (i := 2052) (by decide +kernel)⟩
theorem lw_p88 : lw_okq (⟨"EditsMeetModel", "overOne", "(IIII)V"⟩, 33) := ⟨⟨by decide +kernel, by decide +kernel⟩, List.mem_of_getElem? (i := 1782) (by decide +kernel), List.mem_of_getElem? (i := 2055) (by decide +kernel), List.mem_of_getElem? (i := 2056) (by decide +kernel)⟩
theorem lw_p89 : lw_okq (⟨"EditsMeetModel", "turnedRow", "(III)V"⟩, 33) := ⟨⟨by decide +kernel, by decide +kernel⟩, List.mem_of_getElem? (i := 1782) (by decide +kernel), List.mem_of_getElem? (i := 2066) (by decide +kernel), List.mem_of_getElem? (i := 2067) (by decide +kernel)⟩
theorem lw_p90 : lw_okq (⟨"EditsMeetModel", "isFull", "(II)Z"⟩, 33) := ⟨⟨by decide +kernel, by decide +kernel⟩, List.mem_of_getElem? (i := 1782) (by decide +kernel), List.mem_of_getElem? (i := 2079) (by decide +kernel), List.mem_of_getElem? (i := 2080) (by decide +kernel)⟩
theorem lw_p91 : lw_okq (⟨"EditsMeetModel", "resultLength", "(I)I"⟩, 33) := ⟨⟨by decide +kernel, by decide +kernel⟩, List.mem_of_getElem? (i := 1782) (by decide +kernel), List.mem_of_getElem? (i := 2083) (by decide +kernel), List.mem_of_getElem? (i := 2084) (by decide +kernel)⟩
theorem lw_p92 : lw_okq (⟨"EditsMeetModel", "done", "(IIZ)V"⟩, 33) := ⟨⟨by decide +kernel, by decide +kernel⟩, List.mem_of_getElem? (i := 1782) (by decide +kernel), List.mem_of_getElem? (i := 2087) (by decide +kernel), List.mem_of_getElem? (i := 2088) (by decide +kernel)⟩
theorem lw_p93 : lw_okq (⟨"EditsMeetModel", "makes", "(II)V"⟩, 33) := ⟨⟨by decide +kernel, by decide +kernel⟩, List.mem_of_getElem? (i := 1782) (by decide +kernel), List.mem_of_getElem? (i := 2091) (by decide +kernel), List.mem_of_getElem? (i := 2092) (by decide +kernel)⟩
theorem lw_p94 : lw_okq (⟨"EditsMeetModel", "cursorGoes", "(IIZ)V"⟩, 33) := ⟨⟨by decide +kernel, by decide +kernel⟩, List.mem_of_getElem? (i := 1782) (by decide +kernel), List.mem_of_getElem? (i := 2095) (by decide +kernel), List.mem_of_getElem? (i := 2096) (by decide +kernel)⟩
theorem lw_p95 : lw_okq (⟨"EditsMeetModel", "st", "(II)I"⟩, 33) := ⟨⟨by decide +kernel, by decide +kernel⟩, List.mem_of_getElem? (i := 1782) (by decide +kernel), List.mem_of_getElem? (i := 2099) (by decide +kernel), List.mem_of_getElem? (i := 2100) (by decide +kernel)⟩
def lw_privs_6 : List (MethodName × Nat) := [(⟨"EditsMeetModel", "tellsPart", "(II)V"⟩, 33), (⟨"EditsMeetModel", "tellsNumber", "(I)V"⟩, 33), (⟨"EditsMeetModel", "takesRow", "(II)V"⟩, 33), (⟨"EditsMeetModel", "behindRow", "(III)V"⟩, 33), (⟨"EditsMeetModel", "together", "(III)V"⟩, 33), (⟨"EditsMeetModel", "made", "(II)I"⟩, 33), (⟨"EditsMeetModel", "isTooLarge", "(I)Z"⟩, 33), (⟨"EditsMeetModel", "overRow", "(IIII)V"⟩, 33), (⟨"EditsMeetModel", "overOne", "(IIII)V"⟩, 33), (⟨"EditsMeetModel", "turnedRow", "(III)V"⟩, 33), (⟨"EditsMeetModel", "isFull", "(II)Z"⟩, 33), (⟨"EditsMeetModel", "resultLength", "(I)I"⟩, 33), (⟨"EditsMeetModel", "done", "(IIZ)V"⟩, 33), (⟨"EditsMeetModel", "makes", "(II)V"⟩, 33), (⟨"EditsMeetModel", "cursorGoes", "(IIZ)V"⟩, 33), (⟨"EditsMeetModel", "st", "(II)I"⟩, 33)]
theorem lw_r6 : ∀ q ∈ lw_privs_6, lw_okq q := List.forall_mem_cons.mpr ⟨lw_p80, List.forall_mem_cons.mpr ⟨lw_p81, List.forall_mem_cons.mpr ⟨lw_p82, List.forall_mem_cons.mpr ⟨lw_p83, List.forall_mem_cons.mpr ⟨lw_p84, List.forall_mem_cons.mpr ⟨lw_p85, List.forall_mem_cons.mpr ⟨lw_p86, List.forall_mem_cons.mpr ⟨lw_p87, List.forall_mem_cons.mpr ⟨lw_p88, List.forall_mem_cons.mpr ⟨lw_p89, List.forall_mem_cons.mpr ⟨lw_p90, List.forall_mem_cons.mpr ⟨lw_p91, List.forall_mem_cons.mpr ⟨lw_p92, List.forall_mem_cons.mpr ⟨lw_p93, List.forall_mem_cons.mpr ⟨lw_p94, List.forall_mem_cons.mpr ⟨lw_p95, fun _ h => absurd h List.not_mem_nil⟩⟩⟩⟩⟩⟩⟩⟩⟩⟩⟩⟩⟩⟩⟩⟩
theorem lw_p96 : lw_okq (⟨"EditsMeetModel", "goesAlong", "(IIZ)I"⟩, 33) := ⟨⟨by decide +kernel, by decide +kernel⟩, List.mem_of_getElem? (i := 1782) (by decide +kernel), List.mem_of_getElem? (i := 2103) (by decide +kernel), List.mem_of_getElem? (i := 2104) (by decide +kernel)⟩
theorem lw_p97 : lw_okq (⟨"EditsMeetModel", "pushes", "(III)V"⟩, 33) := ⟨⟨by decide +kernel, by decide +kernel⟩, List.mem_of_getElem? (i := 1782) (by decide +kernel), List.mem_of_getElem? (i := 2107) (by decide +kernel), List.mem_of_getElem? (i := 2108) (by decide +kernel)⟩
theorem lw_p98 : lw_okq (⟨"EditsMeetModel", "copiesRow", "(II)V"⟩, 33) := ⟨⟨by decide +kernel, by decide +kernel⟩, List.mem_of_getElem? (i := 1782) (by decide +kernel), List.mem_of_getElem? (i := 2111) (by decide +kernel), List.mem_of_getElem? (i := 2112) (by decide +kernel)⟩
theorem lw_p99 : lw_okq (⟨"EditsMeetModel", "inserts", "(III)V"⟩, 33) := ⟨⟨by decide +kernel, by decide +kernel⟩, List.mem_of_getElem? (i := 1782) (by decide +kernel), List.mem_of_getElem? (i := 2121) (by decide +kernel), List.mem_of_getElem? (i := 2122) (by decide +kernel)⟩
theorem lw_p100 : lw_okq (⟨"EditsMeetModel", "isStretch", "(III)Z"⟩, 33) := ⟨⟨by decide +kernel, by decide +kernel⟩, List.mem_of_getElem? (i := 1782) (by decide +kernel), List.mem_of_getElem? (i := 2129) (by decide +kernel), List.mem_of_getElem? (i := 2130) (by decide +kernel)⟩
theorem lw_p101 : lw_okq (⟨"EditsMeetModel", "keepsAllBut", "(IIII)V"⟩, 33) := ⟨⟨by decide +kernel, by decide +kernel⟩, List.mem_of_getElem? (i := 1782) (by decide +kernel), List.mem_of_getElem? (i := 2133) (by decide +kernel), List.mem_of_getElem? (i := 2134) (by decide +kernel)⟩
theorem lw_p102 : lw_okq (⟨"EditsMeetModel", "serves", "(I)I"⟩, 33) := ⟨⟨by decide +kernel, by decide +kernel⟩, List.mem_of_getElem? (i := 1782) (by decide +kernel), List.mem_of_getElem? (i := 2145) (by decide +kernel), List.mem_of_getElem? (i := 2146) (by decide +kernel)⟩
theorem lw_p103 : lw_okq (⟨"EditsMeetModel", "keepsWork", "(II)V"⟩, 33) := ⟨⟨by decide +kernel, by decide +kernel⟩, List.mem_of_getElem? (i := 1782) (by decide +kernel), List.mem_of_getElem? (i := 2149) (by decide +kernel), List.mem_of_getElem? (i := 2150) (by decide +kernel)⟩
theorem lw_p104 : lw_okq (⟨"EditsMeetModel", "hears", "(I)V"⟩, 33) := ⟨⟨by decide +kernel, by decide +kernel⟩, List.mem_of_getElem? (i := 1782) (by decide +kernel), List.mem_of_getElem? (i := 2157) (by decide +kernel), List.mem_of_getElem? (i := 2158) (by decide +kernel)⟩
theorem lw_p105 : lw_okq (⟨"EditsMeetModel", "crosses", "(I)V"⟩, 33) := ⟨⟨by decide +kernel, by decide +kernel⟩, List.mem_of_getElem? (i := 1782) (by decide +kernel), List.mem_of_getElem? (i := 2161) (by decide +kernel), List.mem_of_getElem? (i := 2162) (by decide +kernel)⟩
theorem lw_p106 : lw_okq (⟨"EditsMeetModel", "hearAll", "()V"⟩, 33) := ⟨⟨by decide +kernel, by decide +kernel⟩, List.mem_of_getElem? (i := 1782) (by decide +kernel), List.mem_of_getElem? (i := 2169) (by decide +kernel), List.mem_of_getElem? (i := 2170) (by decide +kernel)⟩
theorem lw_p107 : lw_okq (⟨"EditsMeetModel", "isAnySent", "()Z"⟩, 33) := ⟨⟨by decide +kernel, by decide +kernel⟩, List.mem_of_getElem? (i := 1782) (by decide +kernel), List.mem_of_getElem? (i := 2173) (by decide +kernel), List.mem_of_getElem? (i := 2174) (by decide +kernel)⟩
theorem lw_p108 : lw_okq (⟨"EditsMeetModel", "again", "(II)I"⟩, 33) := ⟨⟨by decide +kernel, by decide +kernel⟩, List.mem_of_getElem? (i := 1782) (by decide +kernel), List.mem_of_getElem? (i := 2181) (by decide +kernel), List.mem_of_getElem? (i := 2182) (by decide +kernel)⟩
theorem lw_p109 : lw_okq (⟨"EditsMeetModel", "firstApart", "(II)I"⟩, 33) := ⟨⟨by decide +kernel, by decide +kernel⟩, List.mem_of_getElem? (i := 1782) (by decide +kernel), List.mem_of_getElem? (i := 2226) (by decide +kernel), List.mem_of_getElem? (i := 2227) (by decide +kernel)⟩
theorem lw_p110 : lw_okq (⟨"EditsMeetModel", "draw", "(I)I"⟩, 33) := ⟨⟨by decide +kernel, by decide +kernel⟩, List.mem_of_getElem? (i := 1782) (by decide +kernel), List.mem_of_getElem? (i := 2284) (by decide +kernel), List.mem_of_getElem? (i := 2285) (by decide +kernel)⟩
theorem lw_p111 : lw_okq (⟨"EditsMeetModel", "isDay", "(II)Z"⟩, 33) := ⟨⟨by decide +kernel, by decide +kernel⟩, List.mem_of_getElem? (i := 1782) (by decide +kernel), List.mem_of_getElem? (i := 2289) (by decide +kernel), List.mem_of_getElem? (i := 2290) (by decide +kernel)⟩
def lw_privs_7 : List (MethodName × Nat) := [(⟨"EditsMeetModel", "goesAlong", "(IIZ)I"⟩, 33), (⟨"EditsMeetModel", "pushes", "(III)V"⟩, 33), (⟨"EditsMeetModel", "copiesRow", "(II)V"⟩, 33), (⟨"EditsMeetModel", "inserts", "(III)V"⟩, 33), (⟨"EditsMeetModel", "isStretch", "(III)Z"⟩, 33), (⟨"EditsMeetModel", "keepsAllBut", "(IIII)V"⟩, 33), (⟨"EditsMeetModel", "serves", "(I)I"⟩, 33), (⟨"EditsMeetModel", "keepsWork", "(II)V"⟩, 33), (⟨"EditsMeetModel", "hears", "(I)V"⟩, 33), (⟨"EditsMeetModel", "crosses", "(I)V"⟩, 33), (⟨"EditsMeetModel", "hearAll", "()V"⟩, 33), (⟨"EditsMeetModel", "isAnySent", "()Z"⟩, 33), (⟨"EditsMeetModel", "again", "(II)I"⟩, 33), (⟨"EditsMeetModel", "firstApart", "(II)I"⟩, 33), (⟨"EditsMeetModel", "draw", "(I)I"⟩, 33), (⟨"EditsMeetModel", "isDay", "(II)Z"⟩, 33)]
theorem lw_r7 : ∀ q ∈ lw_privs_7, lw_okq q := List.forall_mem_cons.mpr ⟨lw_p96, List.forall_mem_cons.mpr ⟨lw_p97, List.forall_mem_cons.mpr ⟨lw_p98, List.forall_mem_cons.mpr ⟨lw_p99, List.forall_mem_cons.mpr ⟨lw_p100, List.forall_mem_cons.mpr ⟨lw_p101, List.forall_mem_cons.mpr ⟨lw_p102, List.forall_mem_cons.mpr ⟨lw_p103, List.forall_mem_cons.mpr ⟨lw_p104, List.forall_mem_cons.mpr ⟨lw_p105, List.forall_mem_cons.mpr ⟨lw_p106, List.forall_mem_cons.mpr ⟨lw_p107, List.forall_mem_cons.mpr ⟨lw_p108, List.forall_mem_cons.mpr ⟨lw_p109, List.forall_mem_cons.mpr ⟨lw_p110, List.forall_mem_cons.mpr ⟨lw_p111, fun _ h => absurd h List.not_mem_nil⟩⟩⟩⟩⟩⟩⟩⟩⟩⟩⟩⟩⟩⟩⟩⟩
def lw_privs : List (MethodName × Nat) := lw_privs_1 ++ (lw_privs_2 ++ (lw_privs_3 ++ (lw_privs_4 ++ (lw_privs_5 ++ (lw_privs_6 ++ (lw_privs_7))))))
def lw_tbl : List Cond := k2_sels lw_privs ++ tables_1
theorem lw_privs_ok : ∀ q ∈ lw_privs, lw_okq q := by
  show ∀ q ∈ lw_privs_1 ++ (lw_privs_2 ++ (lw_privs_3 ++ (lw_privs_4 ++ (lw_privs_5 ++ (lw_privs_6 ++ (lw_privs_7)))))), lw_okq q
  exact List.forall_mem_append.mpr ⟨lw_r1, List.forall_mem_append.mpr ⟨lw_r2, List.forall_mem_append.mpr ⟨lw_r3, List.forall_mem_append.mpr ⟨lw_r4, List.forall_mem_append.mpr ⟨lw_r5, List.forall_mem_append.mpr ⟨lw_r6, lw_r7⟩⟩⟩⟩⟩⟩
def RX0 : String := "EditsMeet$Client"
def TX0 : u_T := fun k => match k with
  | 0 => ("EditsMeet$Client", "number", "I", true)
  | 1 => ("EditsMeet$Client", "works", "LEditsMeet$Works;", true)
  | 2 => ("EditsMeet$Client", "held", "LEditsMeet$Slots;", true)
  | 3 => ("EditsMeet$Client", "undos", "I", false)
  | 4 => ("EditsMeet$Client", "redos", "I", false)
  | 5 => ("EditsMeet$Client", "hasSent", "Z", false)
  | 6 => ("EditsMeet$Client", "isServed", "Z", false)
  | 7 => ("EditsMeet$Client", "hasWaiting", "Z", false)
  | 8 => ("EditsMeet$Client", "revision", "I", false)
  | 9 => ("EditsMeet$Client", "place", "J", false)
  | _ => ("EditsMeet$Client", "otherPlace", "J", false)
def tyX0 : Nat → FieldType := fun k => match k with
  | 0 => .int
  | 1 => .object "EditsMeet$Works"
  | 2 => .object "EditsMeet$Slots"
  | 3 => .int
  | 4 => .int
  | 5 => .boolean
  | 6 => .boolean
  | 7 => .boolean
  | 8 => .int
  | 9 => .long
  | _ => .long
abbrev wsX00 : List Cond := u_ws RX0 TX0 11
theorem nmX0 : ∀ a, a < 11 → ∀ b, b < 11 → a ≠ b → (TX0 a).2.1 ≠ (TX0 b).2.1 := by decide +kernel
theorem tyX0_ok : ∀ k, k < 11 → parseFieldDescriptor (TX0 k).2.2.1 = some (tyX0 k) := by decide +kernel
abbrev cX0_init : ByteArray := prog_2_method_1_code
def yX0_init : MethodName := ⟨RX0, "<init>", "(ILEditsMeet$Works;)V"⟩
abbrev cX0_ownText : ByteArray := prog_2_method_2_code
def yX0_ownText : MethodName := ⟨RX0, "ownText", "()I"⟩
abbrev cX0_size : ByteArray := prog_2_method_3_code
def yX0_size : MethodName := ⟨RX0, "size", "()J"⟩
abbrev cX0_isUnserved : ByteArray := prog_2_method_4_code
def yX0_isUnserved : MethodName := ⟨RX0, "isUnserved", "()Z"⟩
abbrev cX0_isTooLongBy : ByteArray := prog_2_method_5_code
def yX0_isTooLongBy : MethodName := ⟨RX0, "isTooLongBy", "(I)Z"⟩
abbrev cX0_has : ByteArray := prog_2_method_6_code
def yX0_has : MethodName := ⟨RX0, "has", "(I)Z"⟩
abbrev cX0_told : ByteArray := prog_2_method_7_code
def yX0_told : MethodName := ⟨RX0, "told", "(I)I"⟩
abbrev cX0_countOf : ByteArray := prog_2_method_8_code
def yX0_countOf : MethodName := ⟨RX0, "countOf", "(I)I"⟩
abbrev cX0_latest : ByteArray := prog_2_method_9_code
def yX0_latest : MethodName := ⟨RX0, "latest", "(I)I"⟩
abbrev cX0_slotOf : ByteArray := prog_2_method_10_code
def yX0_slotOf : MethodName := ⟨RX0, "slotOf", "(II)I"⟩
abbrev cX0_keep : ByteArray := prog_2_method_11_code
def yX0_keep : MethodName := ⟨RX0, "keep", "(II)V"⟩
abbrev cX0_drop : ByteArray := prog_2_method_12_code
def yX0_drop : MethodName := ⟨RX0, "drop", "(I)V"⟩
abbrev cX0_clear : ByteArray := prog_2_method_13_code
def yX0_clear : MethodName := ⟨RX0, "clear", "(I)V"⟩
abbrev cX0_putCount : ByteArray := prog_2_method_14_code
def yX0_putCount : MethodName := ⟨RX0, "putCount", "(II)V"⟩
abbrev cX0_draftLatest : ByteArray := prog_2_method_15_code
def yX0_draftLatest : MethodName := ⟨RX0, "draftLatest", "(ILEditsMeet$Loom;)V"⟩
abbrev cX0_doDraft : ByteArray := prog_2_method_16_code
def yX0_doDraft : MethodName := ⟨RX0, "doDraft", "(ILEditsMeet$Loom;)V"⟩
abbrev cX0_hearNext : ByteArray := prog_2_method_17_code
def yX0_hearNext : MethodName := ⟨RX0, "hearNext", "(LEditsMeet$Slots;[ILEditsMeet$Loom;)V"⟩
abbrev cX0_passedAt : ByteArray := prog_2_method_18_code
def yX0_passedAt : MethodName := ⟨RX0, "passedAt", "(I)I"⟩
abbrev cX0_movePlaces : ByteArray := prog_2_method_19_code
def yX0_movePlaces : MethodName := ⟨RX0, "movePlaces", "(IZ)V"⟩
abbrev cX0_sendWaiting : ByteArray := prog_2_method_20_code
def yX0_sendWaiting : MethodName := ⟨RX0, "sendWaiting", "()V"⟩
abbrev cX0_like : ByteArray := prog_2_method_21_code
def yX0_like : MethodName := ⟨RX0, "like", "(LEditsMeet$Client;)V"⟩
def RX1 : String := "EditsMeet$Edge"
def TX1 : u_T := fun k => match k with
  | 0 => ("EditsMeet$Edge", "trees", "LEditsMeet$Trees;", true)
  | 1 => ("EditsMeet$Edge", "isLeft", "Z", true)
  | 2 => ("EditsMeet$Edge", "bases", "[I", true)
  | 3 => ("EditsMeet$Edge", "counts", "[J", true)
  | 4 => ("EditsMeet$Edge", "dues", "[I", true)
  | 5 => ("EditsMeet$Edge", "top", "I", false)
  | 6 => ("EditsMeet$Edge", "spine", "[I", true)
  | 7 => ("EditsMeet$Edge", "depth", "I", false)
  | _ => ("EditsMeet$Edge", "mixed", "I", false)
def tyX1 : Nat → FieldType := fun k => match k with
  | 0 => .object "EditsMeet$Trees"
  | 1 => .boolean
  | 2 => .array .int
  | 3 => .array .long
  | 4 => .array .int
  | 5 => .int
  | 6 => .array .int
  | 7 => .int
  | _ => .int
abbrev wsX10 : List Cond := u_ws RX1 TX1 9
theorem nmX1 : ∀ a, a < 9 → ∀ b, b < 9 → a ≠ b → (TX1 a).2.1 ≠ (TX1 b).2.1 := by decide +kernel
theorem tyX1_ok : ∀ k, k < 9 → parseFieldDescriptor (TX1 k).2.2.1 = some (tyX1 k) := by decide +kernel
abbrev cX1_init : ByteArray := prog_3_method_1_code
def yX1_init : MethodName := ⟨RX1, "<init>", "(LEditsMeet$Trees;Z)V"⟩
abbrev cX1_start : ByteArray := prog_3_method_2_code
def yX1_start : MethodName := ⟨RX1, "start", "(I)V"⟩
abbrev cX1_push : ByteArray := prog_3_method_3_code
def yX1_push : MethodName := ⟨RX1, "push", "(II)V"⟩
abbrev cX1_put : ByteArray := prog_3_method_4_code
def yX1_put : MethodName := ⟨RX1, "put", "(IJI)V"⟩
abbrev cX1_base : ByteArray := prog_3_method_5_code
def yX1_base : MethodName := ⟨RX1, "base", "()I"⟩
abbrev cX1_count : ByteArray := prog_3_method_6_code
def yX1_count : MethodName := ⟨RX1, "count", "()J"⟩
abbrev cX1_isDue : ByteArray := prog_3_method_7_code
def yX1_isDue : MethodName := ⟨RX1, "isDue", "(I)Z"⟩
abbrev cX1_next : ByteArray := prog_3_method_8_code
def yX1_next : MethodName := ⟨RX1, "next", "(I)I"⟩
abbrev cX1_sink : ByteArray := prog_3_method_9_code
def yX1_sink : MethodName := ⟨RX1, "sink", "(I)V"⟩
abbrev cX1_drop : ByteArray := prog_3_method_10_code
def yX1_drop : MethodName := ⟨RX1, "drop", "(J)V"⟩
def RX2 : String := "EditsMeet$Loom"
def TX2 : u_T := fun k => match k with
  | 0 => ("EditsMeet$Loom", "works", "LEditsMeet$Works;", true)
  | 1 => ("EditsMeet$Loom", "trees", "LEditsMeet$Trees;", true)
  | 2 => ("EditsMeet$Loom", "seam", "LEditsMeet$Seam;", true)
  | 3 => ("EditsMeet$Loom", "hand", "LEditsMeet$Slots;", true)
  | 4 => ("EditsMeet$Loom", "frames", "LEditsMeet$Slots;", true)
  | 5 => ("EditsMeet$Loom", "made", "LEditsMeet$Slots;", true)
  | 6 => ("EditsMeet$Loom", "memory", "[J", true)
  | 7 => ("EditsMeet$Loom", "first", "LEditsMeet$Edge;", true)
  | 8 => ("EditsMeet$Loom", "second", "LEditsMeet$Edge;", true)
  | 9 => ("EditsMeet$Loom", "path", "[I", true)
  | 10 => ("EditsMeet$Loom", "tasks", "[I", true)
  | 11 => ("EditsMeet$Loom", "open", "I", false)
  | _ => ("EditsMeet$Loom", "top", "I", false)
def tyX2 : Nat → FieldType := fun k => match k with
  | 0 => .object "EditsMeet$Works"
  | 1 => .object "EditsMeet$Trees"
  | 2 => .object "EditsMeet$Seam"
  | 3 => .object "EditsMeet$Slots"
  | 4 => .object "EditsMeet$Slots"
  | 5 => .object "EditsMeet$Slots"
  | 6 => .array .long
  | 7 => .object "EditsMeet$Edge"
  | 8 => .object "EditsMeet$Edge"
  | 9 => .array .int
  | 10 => .array .int
  | 11 => .int
  | _ => .int
abbrev wsX20 : List Cond := u_ws RX2 TX2 13
theorem nmX2 : ∀ a, a < 13 → ∀ b, b < 13 → a ≠ b → (TX2 a).2.1 ≠ (TX2 b).2.1 := by decide +kernel
theorem tyX2_ok : ∀ k, k < 13 → parseFieldDescriptor (TX2 k).2.2.1 = some (tyX2 k) := by decide +kernel
abbrev cX2_init : ByteArray := prog_4_method_1_code
def yX2_init : MethodName := ⟨RX2, "<init>", "(LEditsMeet$Works;)V"⟩
abbrev cX2_draft : ByteArray := prog_4_method_2_code
def yX2_draft : MethodName := ⟨RX2, "draft", "(JIJJ)V"⟩
abbrev cX2_weave : ByteArray := prog_4_method_3_code
def yX2_weave : MethodName := ⟨RX2, "weave", "(III)I"⟩
abbrev cX2_beginTask : ByteArray := prog_4_method_4_code
def yX2_beginTask : MethodName := ⟨RX2, "beginTask", "(I)V"⟩
abbrev cX2_push : ByteArray := prog_4_method_5_code
def yX2_push : MethodName := ⟨RX2, "push", "(II)V"⟩
abbrev cX2_divide : ByteArray := prog_4_method_6_code
def yX2_divide : MethodName := ⟨RX2, "divide", "(II)V"⟩
abbrev cX2_leads : ByteArray := prog_4_method_7_code
def yX2_leads : MethodName := ⟨RX2, "leads", "(II)Z"⟩
abbrev cX2_atOnce : ByteArray := prog_4_method_8_code
def yX2_atOnce : MethodName := ⟨RX2, "atOnce", "(III)I"⟩
abbrev cX2_woven : ByteArray := prog_4_method_9_code
def yX2_woven : MethodName := ⟨RX2, "woven", "(III)I"⟩
abbrev cX2_leafByLeaf : ByteArray := prog_4_method_10_code
def yX2_leafByLeaf : MethodName := ⟨RX2, "leafByLeaf", "(III)I"⟩
abbrev cX2_isAlone : ByteArray := prog_4_method_11_code
def yX2_isAlone : MethodName := ⟨RX2, "isAlone", "(IZII)Z"⟩
abbrev cX2_flatten : ByteArray := prog_4_method_12_code
def yX2_flatten : MethodName := ⟨RX2, "flatten", "(ILEditsMeet$Edge;)V"⟩
abbrev cX2_keyOf : ByteArray := prog_4_method_13_code
def yX2_keyOf : MethodName := ⟨RX2, "keyOf", "(II)J"⟩
abbrev cX2_remembered : ByteArray := prog_4_method_14_code
def yX2_remembered : MethodName := ⟨RX2, "remembered", "(II)I"⟩
abbrev cX2_remember : ByteArray := prog_4_method_15_code
def yX2_remember : MethodName := ⟨RX2, "remember", "(III)V"⟩
abbrev cX2_tidy : ByteArray := prog_4_method_16_code
def yX2_tidy : MethodName := ⟨RX2, "tidy", "(I)V"⟩
def RX3 : String := "EditsMeet$Meeting"
def TX3 : u_T := fun k => match k with
  | 0 => ("EditsMeet$Meeting", "works", "LEditsMeet$Works;", true)
  | 1 => ("EditsMeet$Meeting", "revisions", "LEditsMeet$Slots;", true)
  | 2 => ("EditsMeet$Meeting", "authors", "[I", true)
  | 3 => ("EditsMeet$Meeting", "clients", "[LEditsMeet$Client;", true)
  | 4 => ("EditsMeet$Meeting", "server", "LEditsMeet$Slots;", true)
  | 5 => ("EditsMeet$Meeting", "count", "I", false)
  | _ => ("EditsMeet$Meeting", "seed", "I", false)
def tyX3 : Nat → FieldType := fun k => match k with
  | 0 => .object "EditsMeet$Works"
  | 1 => .object "EditsMeet$Slots"
  | 2 => .array .int
  | 3 => .array (.object "EditsMeet$Client")
  | 4 => .object "EditsMeet$Slots"
  | 5 => .int
  | _ => .int
abbrev wsX30 : List Cond := u_ws RX3 TX3 7
theorem nmX3 : ∀ a, a < 7 → ∀ b, b < 7 → a ≠ b → (TX3 a).2.1 ≠ (TX3 b).2.1 := by decide +kernel
theorem tyX3_ok : ∀ k, k < 7 → parseFieldDescriptor (TX3 k).2.2.1 = some (tyX3 k) := by decide +kernel
abbrev cX3_init : ByteArray := prog_5_method_1_code
def yX3_init : MethodName := ⟨RX3, "<init>", "(LEditsMeet$Works;LEditsMeet$Slots;[I)V"⟩
abbrev cX3_authorAt : ByteArray := prog_5_method_2_code
def yX3_authorAt : MethodName := ⟨RX3, "authorAt", "(I)I"⟩
abbrev cX3_clientAt : ByteArray := prog_5_method_3_code
def yX3_clientAt : MethodName := ⟨RX3, "clientAt", "(I)LEditsMeet$Client;"⟩
abbrev cX3_hasText : ByteArray := prog_5_method_4_code
def yX3_hasText : MethodName := ⟨RX3, "hasText", "(I)Z"⟩
abbrev cX3_textAt : ByteArray := prog_5_method_5_code
def yX3_textAt : MethodName := ⟨RX3, "textAt", "(I)I"⟩
abbrev cX3_takeSent : ByteArray := prog_5_method_6_code
def yX3_takeSent : MethodName := ⟨RX3, "takeSent", "(ILEditsMeet$Loom;)V"⟩
abbrev cX3_isSettled : ByteArray := prog_5_method_7_code
def yX3_isSettled : MethodName := ⟨RX3, "isSettled", "()Z"⟩
abbrev cX3_clientsAlike : ByteArray := prog_5_method_8_code
def yX3_clientsAlike : MethodName := ⟨RX3, "clientsAlike", "(LEditsMeet$Loom;)I"⟩
abbrev cX3_clientsSending : ByteArray := prog_5_method_9_code
def yX3_clientsSending : MethodName := ⟨RX3, "clientsSending", "()I"⟩
abbrev cX3_allLetters : ByteArray := prog_5_method_10_code
def yX3_allLetters : MethodName := ⟨RX3, "allLetters", "()J"⟩
abbrev cX3_draw : ByteArray := prog_5_method_11_code
def yX3_draw : MethodName := ⟨RX3, "draw", "(J)J"⟩
abbrev cX3_like : ByteArray := prog_5_method_12_code
def yX3_like : MethodName := ⟨RX3, "like", "(LEditsMeet$Meeting;)V"⟩
def RX4 : String := "EditsMeet$Seam"
def TX4 : u_T := fun k => match k with
  | 0 => ("EditsMeet$Seam", "trees", "LEditsMeet$Trees;", true)
  | 1 => ("EditsMeet$Seam", "left", "LEditsMeet$Edge;", true)
  | 2 => ("EditsMeet$Seam", "right", "LEditsMeet$Edge;", true)
  | 3 => ("EditsMeet$Seam", "bare", "LEditsMeet$Edge;", true)
  | 4 => ("EditsMeet$Seam", "bases", "[I", true)
  | 5 => ("EditsMeet$Seam", "counts", "[J", true)
  | 6 => ("EditsMeet$Seam", "mixes", "[I", true)
  | 7 => ("EditsMeet$Seam", "start", "I", false)
  | _ => ("EditsMeet$Seam", "size", "I", false)
def tyX4 : Nat → FieldType := fun k => match k with
  | 0 => .object "EditsMeet$Trees"
  | 1 => .object "EditsMeet$Edge"
  | 2 => .object "EditsMeet$Edge"
  | 3 => .object "EditsMeet$Edge"
  | 4 => .array .int
  | 5 => .array .long
  | 6 => .array .int
  | 7 => .int
  | _ => .int
abbrev wsX40 : List Cond := u_ws RX4 TX4 9
theorem nmX4 : ∀ a, a < 9 → ∀ b, b < 9 → a ≠ b → (TX4 a).2.1 ≠ (TX4 b).2.1 := by decide +kernel
theorem tyX4_ok : ∀ k, k < 9 → parseFieldDescriptor (TX4 k).2.2.1 = some (tyX4 k) := by decide +kernel
abbrev cX4_init : ByteArray := prog_6_method_1_code
def yX4_init : MethodName := ⟨RX4, "<init>", "(LEditsMeet$Trees;)V"⟩
abbrev cX4_join : ByteArray := prog_6_method_2_code
def yX4_join : MethodName := ⟨RX4, "join", "(II)I"⟩
abbrev cX4_place : ByteArray := prog_6_method_3_code
def yX4_place : MethodName := ⟨RX4, "place", "(II)V"⟩
abbrev cX4_settle : ByteArray := prog_6_method_4_code
def yX4_settle : MethodName := ⟨RX4, "settle", "(LEditsMeet$Edge;LEditsMeet$Edge;)I"⟩
abbrev cX4_putAhead : ByteArray := prog_6_method_5_code
def yX4_putAhead : MethodName := ⟨RX4, "putAhead", "(LEditsMeet$Edge;I)V"⟩
abbrev cX4_putBehind : ByteArray := prog_6_method_6_code
def yX4_putBehind : MethodName := ⟨RX4, "putBehind", "(LEditsMeet$Edge;I)V"⟩
abbrev cX4_put : ByteArray := prog_6_method_7_code
def yX4_put : MethodName := ⟨RX4, "put", "(IJI)V"⟩
abbrev cX4_mixed : ByteArray := prog_6_method_8_code
def yX4_mixed : MethodName := ⟨RX4, "mixed", "(I)I"⟩
abbrev cX4_arePair : ByteArray := prog_6_method_9_code
def yX4_arePair : MethodName := ⟨RX4, "arePair", "(III)Z"⟩
abbrev cX4_partAt : ByteArray := prog_6_method_10_code
def yX4_partAt : MethodName := ⟨RX4, "partAt", "(IIJ)V"⟩
abbrev cX4_partLetters : ByteArray := prog_6_method_11_code
def yX4_partLetters : MethodName := ⟨RX4, "partLetters", "(I)V"⟩
abbrev cX4_partLast : ByteArray := prog_6_method_12_code
def yX4_partLast : MethodName := ⟨RX4, "partLast", "(I)V"⟩
abbrev cX4_partInTwo : ByteArray := prog_6_method_13_code
def yX4_partInTwo : MethodName := ⟨RX4, "partInTwo", "(I)V"⟩
abbrev cX4_clear : ByteArray := prog_6_method_14_code
def yX4_clear : MethodName := ⟨RX4, "clear", "()V"⟩
def RX5 : String := "EditsMeet$Shelf"
def TX5 : u_T := fun k => match k with
  | 0 => ("EditsMeet$Shelf", "elements", "[J", true)
  | 1 => ("EditsMeet$Shelf", "held", "I", false)
  | 2 => ("EditsMeet$Shelf", "size", "J", false)
  | 3 => ("EditsMeet$Shelf", "on", "I", false)
  | 4 => ("EditsMeet$Shelf", "off", "I", false)
  | _ => ("EditsMeet$Shelf", "firstLetter", "I", false)
def tyX5 : Nat → FieldType := fun k => match k with
  | 0 => .array .long
  | 1 => .int
  | 2 => .long
  | 3 => .int
  | 4 => .int
  | _ => .int
abbrev wsX50 : List Cond := u_ws RX5 TX5 6
theorem nmX5 : ∀ a, a < 6 → ∀ b, b < 6 → a ≠ b → (TX5 a).2.1 ≠ (TX5 b).2.1 := by decide +kernel
theorem tyX5_ok : ∀ k, k < 6 → parseFieldDescriptor (TX5 k).2.2.1 = some (tyX5 k) := by decide +kernel
abbrev cX5_init : ByteArray := prog_7_method_1_code
def yX5_init : MethodName := ⟨RX5, "<init>", "()V"⟩
abbrev cX5_holdsNothing : ByteArray := prog_7_method_2_code
def yX5_holdsNothing : MethodName := ⟨RX5, "holdsNothing", "()Z"⟩
abbrev cX5_holdsRow : ByteArray := prog_7_method_3_code
def yX5_holdsRow : MethodName := ⟨RX5, "holdsRow", "()Z"⟩
abbrev cX5_holdsPart : ByteArray := prog_7_method_4_code
def yX5_holdsPart : MethodName := ⟨RX5, "holdsPart", "()Z"⟩
abbrev cX5_holdNothing : ByteArray := prog_7_method_5_code
def yX5_holdNothing : MethodName := ⟨RX5, "holdNothing", "()V"⟩
abbrev cX5_holdRow : ByteArray := prog_7_method_6_code
def yX5_holdRow : MethodName := ⟨RX5, "holdRow", "(II)V"⟩
abbrev cX5_holdPart : ByteArray := prog_7_method_7_code
def yX5_holdPart : MethodName := ⟨RX5, "holdPart", "(LEditsMeet$Teller;II)V"⟩
abbrev cX5_kind : ByteArray := prog_7_method_8_code
def yX5_kind : MethodName := ⟨RX5, "kind", "()I"⟩
abbrev cX5_answersAs : ByteArray := prog_7_method_9_code
def yX5_answersAs : MethodName := ⟨RX5, "answersAs", "(I)I"⟩
abbrev cX5_at : ByteArray := prog_7_method_10_code
def yX5_at : MethodName := ⟨RX5, "at", "(I)J"⟩
abbrev cX5_put : ByteArray := prog_7_method_11_code
def yX5_put : MethodName := ⟨RX5, "put", "(IJ)V"⟩
abbrev cX5_lowest : ByteArray := prog_7_method_12_code
def yX5_lowest : MethodName := ⟨RX5, "lowest", "(J)J"⟩
abbrev cX5_takeFrom : ByteArray := prog_7_method_13_code
def yX5_takeFrom : MethodName := ⟨RX5, "takeFrom", "(LEditsMeet$Shelf;III)V"⟩
def RX6 : String := "EditsMeet$Slots"
def TX6 : u_T := fun k => match k with
  | _ => ("EditsMeet$Slots", "nodes", "[I", true)
def tyX6 : Nat → FieldType := fun k => match k with
  | _ => .array .int
abbrev wsX60 : List Cond := u_ws RX6 TX6 1
theorem nmX6 : ∀ a, a < 1 → ∀ b, b < 1 → a ≠ b → (TX6 a).2.1 ≠ (TX6 b).2.1 := by decide +kernel
theorem tyX6_ok : ∀ k, k < 1 → parseFieldDescriptor (TX6 k).2.2.1 = some (tyX6 k) := by decide +kernel
abbrev cX6_init : ByteArray := prog_8_method_1_code
def yX6_init : MethodName := ⟨RX6, "<init>", "(I)V"⟩
abbrev cX6_at : ByteArray := prog_8_method_2_code
def yX6_at : MethodName := ⟨RX6, "at", "(I)I"⟩
abbrev cX6_put : ByteArray := prog_8_method_3_code
def yX6_put : MethodName := ⟨RX6, "put", "(II)V"⟩
abbrev cX6_dropFrom : ByteArray := prog_8_method_4_code
def yX6_dropFrom : MethodName := ⟨RX6, "dropFrom", "(I)V"⟩
abbrev cX6_like : ByteArray := prog_8_method_5_code
def yX6_like : MethodName := ⟨RX6, "like", "(LEditsMeet$Slots;)V"⟩
def RX7 : String := "EditsMeet$Tape"
def TX7 : u_T := fun k => match k with
  | 0 => ("EditsMeet$Tape", "loom", "LEditsMeet$Loom;", true)
  | 1 => ("EditsMeet$Tape", "bytes", "[I", true)
  | 2 => ("EditsMeet$Tape", "size", "I", false)
  | 3 => ("EditsMeet$Tape", "place", "I", false)
  | 4 => ("EditsMeet$Tape", "fault", "I", false)
  | 5 => ("EditsMeet$Tape", "isInLetters", "Z", false)
  | 6 => ("EditsMeet$Tape", "act", "I", false)
  | _ => ("EditsMeet$Tape", "n", "I", false)
def tyX7 : Nat → FieldType := fun k => match k with
  | 0 => .object "EditsMeet$Loom"
  | 1 => .array .int
  | 2 => .int
  | 3 => .int
  | 4 => .int
  | 5 => .boolean
  | 6 => .int
  | _ => .int
abbrev wsX70 : List Cond := u_ws RX7 TX7 8
theorem nmX7 : ∀ a, a < 8 → ∀ b, b < 8 → a ≠ b → (TX7 a).2.1 ≠ (TX7 b).2.1 := by decide +kernel
theorem tyX7_ok : ∀ k, k < 8 → parseFieldDescriptor (TX7 k).2.2.1 = some (tyX7 k) := by decide +kernel
abbrev cX7_init : ByteArray := prog_9_method_1_code
def yX7_init : MethodName := ⟨RX7, "<init>", "(LEditsMeet$Loom;)V"⟩
abbrev cX7_add : ByteArray := prog_9_method_2_code
def yX7_add : MethodName := ⟨RX7, "add", "(I)V"⟩
abbrev cX7_reads : ByteArray := prog_9_method_3_code
def yX7_reads : MethodName := ⟨RX7, "reads", "()I"⟩
abbrev cX7_readAct : ByteArray := prog_9_method_4_code
def yX7_readAct : MethodName := ⟨RX7, "readAct", "()V"⟩
abbrev cX7_readLetter : ByteArray := prog_9_method_5_code
def yX7_readLetter : MethodName := ⟨RX7, "readLetter", "()V"⟩
abbrev cX7_readOver : ByteArray := prog_9_method_6_code
def yX7_readOver : MethodName := ⟨RX7, "readOver", "(I)V"⟩
abbrev cX7_readDot : ByteArray := prog_9_method_7_code
def yX7_readDot : MethodName := ⟨RX7, "readDot", "()V"⟩
abbrev cX7_readNumber : ByteArray := prog_9_method_8_code
def yX7_readNumber : MethodName := ⟨RX7, "readNumber", "(I)I"⟩
abbrev cX7_signAt : ByteArray := prog_9_method_9_code
def yX7_signAt : MethodName := ⟨RX7, "signAt", "(I)I"⟩
abbrev cX7_isLetter : ByteArray := prog_9_method_10_code
def yX7_isLetter : MethodName := ⟨RX7, "isLetter", "(I)Z"⟩
abbrev cX7_isDigit : ByteArray := prog_9_method_11_code
def yX7_isDigit : MethodName := ⟨RX7, "isDigit", "(I)Z"⟩
def RX8 : String := "EditsMeet$Teller"
def TX8 : u_T := fun k => match k with
  | 0 => ("EditsMeet$Teller", "trees", "LEditsMeet$Trees;", true)
  | 1 => ("EditsMeet$Teller", "one", "LEditsMeet$Edge;", true)
  | 2 => ("EditsMeet$Teller", "other", "LEditsMeet$Edge;", true)
  | 3 => ("EditsMeet$Teller", "trail", "[I", true)
  | 4 => ("EditsMeet$Teller", "sums", "[J", true)
  | 5 => ("EditsMeet$Teller", "notes", "[J", true)
  | 6 => ("EditsMeet$Teller", "bucketBits", "I", false)
  | 7 => ("EditsMeet$Teller", "sought", "I", false)
  | 8 => ("EditsMeet$Teller", "noted", "I", false)
  | 9 => ("EditsMeet$Teller", "signs", "[C", true)
  | 10 => ("EditsMeet$Teller", "signCount", "I", false)
  | 11 => ("EditsMeet$Teller", "leaf", "I", false)
  | 12 => ("EditsMeet$Teller", "inLeaf", "J", false)
  | 13 => ("EditsMeet$Teller", "placed", "J", false)
  | 14 => ("EditsMeet$Teller", "passed", "J", false)
  | _ => ("EditsMeet$Teller", "last", "I", false)
def tyX8 : Nat → FieldType := fun k => match k with
  | 0 => .object "EditsMeet$Trees"
  | 1 => .object "EditsMeet$Edge"
  | 2 => .object "EditsMeet$Edge"
  | 3 => .array .int
  | 4 => .array .long
  | 5 => .array .long
  | 6 => .int
  | 7 => .int
  | 8 => .int
  | 9 => .array .char
  | 10 => .int
  | 11 => .int
  | 12 => .long
  | 13 => .long
  | 14 => .long
  | _ => .int
abbrev wsX80 : List Cond := u_ws RX8 TX8 16
theorem nmX8 : ∀ a, a < 16 → ∀ b, b < 16 → a ≠ b → (TX8 a).2.1 ≠ (TX8 b).2.1 := by decide +kernel
theorem tyX8_ok : ∀ k, k < 16 → parseFieldDescriptor (TX8 k).2.2.1 = some (tyX8 k) := by decide +kernel
abbrev cX8_init : ByteArray := prog_10_method_1_code
def yX8_init : MethodName := ⟨RX8, "<init>", "(LEditsMeet$Trees;)V"⟩
abbrev cX8_sumOf : ByteArray := prog_10_method_2_code
def yX8_sumOf : MethodName := ⟨RX8, "sumOf", "(II)J"⟩
abbrev cX8_lettersMarked : ByteArray := prog_10_method_3_code
def yX8_lettersMarked : MethodName := ⟨RX8, "lettersMarked", "(II)I"⟩
abbrev cX8_sum : ByteArray := prog_10_method_4_code
def yX8_sum : MethodName := ⟨RX8, "sum", "(I)J"⟩
abbrev cX8_open : ByteArray := prog_10_method_5_code
def yX8_open : MethodName := ⟨RX8, "open", "(II)V"⟩
abbrev cX8_atHand : ByteArray := prog_10_method_6_code
def yX8_atHand : MethodName := ⟨RX8, "atHand", "(I)J"⟩
abbrev cX8_note : ByteArray := prog_10_method_7_code
def yX8_note : MethodName := ⟨RX8, "note", "(IJ)V"⟩
abbrev cX8_sumOfPair : ByteArray := prog_10_method_8_code
def yX8_sumOfPair : MethodName := ⟨RX8, "sumOfPair", "(IJJ)J"⟩
abbrev cX8_sumOfRun : ByteArray := prog_10_method_9_code
def yX8_sumOfRun : MethodName := ⟨RX8, "sumOfRun", "(IJ)J"⟩
abbrev cX8_leafSum : ByteArray := prog_10_method_10_code
def yX8_leafSum : MethodName := ⟨RX8, "leafSum", "(I)J"⟩
abbrev cX8_digits : ByteArray := prog_10_method_11_code
def yX8_digits : MethodName := ⟨RX8, "digits", "(J)I"⟩
abbrev cX8_signsOfMark : ByteArray := prog_10_method_12_code
def yX8_signsOfMark : MethodName := ⟨RX8, "signsOfMark", "(I)I"⟩
abbrev cX8_lettersWith : ByteArray := prog_10_method_13_code
def yX8_lettersWith : MethodName := ⟨RX8, "lettersWith", "(II)J"⟩
abbrev cX8_kindOf : ByteArray := prog_10_method_14_code
def yX8_kindOf : MethodName := ⟨RX8, "kindOf", "(I)I"⟩
abbrev cX8_seek : ByteArray := prog_10_method_15_code
def yX8_seek : MethodName := ⟨RX8, "seek", "(IJ)V"⟩
abbrev cX8_kind : ByteArray := prog_10_method_16_code
def yX8_kind : MethodName := ⟨RX8, "kind", "()I"⟩
abbrev cX8_sizeOf : ByteArray := prog_10_method_17_code
def yX8_sizeOf : MethodName := ⟨RX8, "sizeOf", "(IJ)J"⟩
abbrev cX8_on : ByteArray := prog_10_method_18_code
def yX8_on : MethodName := ⟨RX8, "on", "()I"⟩
abbrev cX8_off : ByteArray := prog_10_method_19_code
def yX8_off : MethodName := ⟨RX8, "off", "()I"⟩
abbrev cX8_firstLetter : ByteArray := prog_10_method_20_code
def yX8_firstLetter : MethodName := ⟨RX8, "firstLetter", "()I"⟩
abbrev cX8_signAt : ByteArray := prog_10_method_21_code
def yX8_signAt : MethodName := ⟨RX8, "signAt", "(II)I"⟩
abbrev cX8_spell : ByteArray := prog_10_method_22_code
def yX8_spell : MethodName := ⟨RX8, "spell", "(I)V"⟩
abbrev cX8_spellSign : ByteArray := prog_10_method_23_code
def yX8_spellSign : MethodName := ⟨RX8, "spellSign", "(C)V"⟩
abbrev cX8_spellNumber : ByteArray := prog_10_method_24_code
def yX8_spellNumber : MethodName := ⟨RX8, "spellNumber", "(J)V"⟩
abbrev cX8_firstUnlikePart : ByteArray := prog_10_method_25_code
def yX8_firstUnlikePart : MethodName := ⟨RX8, "firstUnlikePart", "(II)J"⟩
abbrev cX8_firstUnlikePlace : ByteArray := prog_10_method_26_code
def yX8_firstUnlikePlace : MethodName := ⟨RX8, "firstUnlikePlace", "(II)J"⟩
abbrev cX8_passAlike : ByteArray := prog_10_method_27_code
def yX8_passAlike : MethodName := ⟨RX8, "passAlike", "(IIZ)V"⟩
abbrev cX8_passBoth : ByteArray := prog_10_method_28_code
def yX8_passBoth : MethodName := ⟨RX8, "passBoth", "(JZ)V"⟩
def RX9 : String := "EditsMeet$Trees"
def TX9 : u_T := fun k => match k with
  | 0 => ("EditsMeet$Trees", "holders", "Ljava/util/ArrayList;", true)
  | 1 => ("EditsMeet$Trees", "trail", "[I", true)
  | 2 => ("EditsMeet$Trees", "few", "[I", true)
  | 3 => ("EditsMeet$Trees", "shapes", "[J", true)
  | 4 => ("EditsMeet$Trees", "sizes", "[J", true)
  | 5 => ("EditsMeet$Trees", "bigFrom", "[J", true)
  | 6 => ("EditsMeet$Trees", "bigTo", "[J", true)
  | 7 => ("EditsMeet$Trees", "known", "[J", true)
  | 8 => ("EditsMeet$Trees", "free", "I", false)
  | 9 => ("EditsMeet$Trees", "next", "I", false)
  | 10 => ("EditsMeet$Trees", "nextBig", "I", false)
  | 11 => ("EditsMeet$Trees", "freeBig", "I", false)
  | 12 => ("EditsMeet$Trees", "used", "I", false)
  | 13 => ("EditsMeet$Trees", "tries", "I", false)
  | 14 => ("EditsMeet$Trees", "tidied", "I", false)
  | _ => ("EditsMeet$Trees", "hasFailed", "Z", false)
def tyX9 : Nat → FieldType := fun k => match k with
  | 0 => .object "java/util/ArrayList"
  | 1 => .array .int
  | 2 => .array .int
  | 3 => .array .long
  | 4 => .array .long
  | 5 => .array .long
  | 6 => .array .long
  | 7 => .array .long
  | 8 => .int
  | 9 => .int
  | 10 => .int
  | 11 => .int
  | 12 => .int
  | 13 => .int
  | 14 => .int
  | _ => .boolean
abbrev wsX90 : List Cond := u_ws RX9 TX9 16
theorem nmX9 : ∀ a, a < 16 → ∀ b, b < 16 → a ≠ b → (TX9 a).2.1 ≠ (TX9 b).2.1 := by decide +kernel
theorem tyX9_ok : ∀ k, k < 16 → parseFieldDescriptor (TX9 k).2.2.1 = some (tyX9 k) := by decide +kernel
abbrev cX9_init : ByteArray := prog_11_method_1_code
def yX9_init : MethodName := ⟨RX9, "<init>", "()V"⟩
abbrev cX9_newSlots : ByteArray := prog_11_method_2_code
def yX9_newSlots : MethodName := ⟨RX9, "newSlots", "(I)LEditsMeet$Slots;"⟩
abbrev cX9_left : ByteArray := prog_11_method_3_code
def yX9_left : MethodName := ⟨RX9, "left", "(I)I"⟩
abbrev cX9_right : ByteArray := prog_11_method_4_code
def yX9_right : MethodName := ⟨RX9, "right", "(I)I"⟩
abbrev cX9_level : ByteArray := prog_11_method_5_code
def yX9_level : MethodName := ⟨RX9, "level", "(I)I"⟩
abbrev cX9_leaves : ByteArray := prog_11_method_6_code
def yX9_leaves : MethodName := ⟨RX9, "leaves", "(I)I"⟩
abbrev cX9_base : ByteArray := prog_11_method_7_code
def yX9_base : MethodName := ⟨RX9, "base", "(I)I"⟩
abbrev cX9_times : ByteArray := prog_11_method_8_code
def yX9_times : MethodName := ⟨RX9, "times", "(I)J"⟩
abbrev cX9_isPair : ByteArray := prog_11_method_9_code
def yX9_isPair : MethodName := ⟨RX9, "isPair", "(I)Z"⟩
abbrev cX9_isLeaf : ByteArray := prog_11_method_10_code
def yX9_isLeaf : MethodName := ⟨RX9, "isLeaf", "(I)Z"⟩
abbrev cX9_act : ByteArray := prog_11_method_11_code
def yX9_act : MethodName := ⟨RX9, "act", "(I)I"⟩
abbrev cX9_from : ByteArray := prog_11_method_12_code
def yX9_from : MethodName := ⟨RX9, "from", "(I)J"⟩
abbrev cX9_to : ByteArray := prog_11_method_13_code
def yX9_to : MethodName := ⟨RX9, "to", "(I)J"⟩
abbrev cX9_size : ByteArray := prog_11_method_14_code
def yX9_size : MethodName := ⟨RX9, "size", "(II)J"⟩
abbrev cX9_count : ByteArray := prog_11_method_15_code
def yX9_count : MethodName := ⟨RX9, "count", "(I)J"⟩
abbrev cX9_beginsWithLetter : ByteArray := prog_11_method_16_code
def yX9_beginsWithLetter : MethodName := ⟨RX9, "beginsWithLetter", "(I)Z"⟩
abbrev cX9_endsWithLetter : ByteArray := prog_11_method_17_code
def yX9_endsWithLetter : MethodName := ⟨RX9, "endsWithLetter", "(I)Z"⟩
abbrev cX9_endsWithDelete : ByteArray := prog_11_method_18_code
def yX9_endsWithDelete : MethodName := ⟨RX9, "endsWithDelete", "(I)Z"⟩
abbrev cX9_seam : ByteArray := prog_11_method_19_code
def yX9_seam : MethodName := ⟨RX9, "seam", "(II)I"⟩
abbrev cX9_actAt : ByteArray := prog_11_method_20_code
def yX9_actAt : MethodName := ⟨RX9, "actAt", "(IJ)I"⟩
abbrev cX9_placeAfter : ByteArray := prog_11_method_21_code
def yX9_placeAfter : MethodName := ⟨RX9, "placeAfter", "(IJZ)J"⟩
abbrev cX9_leaf : ByteArray := prog_11_method_22_code
def yX9_leaf : MethodName := ⟨RX9, "leaf", "(IJ)I"⟩
abbrev cX9_run : ByteArray := prog_11_method_23_code
def yX9_run : MethodName := ⟨RX9, "run", "(IJ)I"⟩
abbrev cX9_pair : ByteArray := prog_11_method_24_code
def yX9_pair : MethodName := ⟨RX9, "pair", "(III)I"⟩
abbrev cX9_made : ByteArray := prog_11_method_25_code
def yX9_made : MethodName := ⟨RX9, "made", "(JJJ)I"⟩
abbrev cX9_spare : ByteArray := prog_11_method_26_code
def yX9_spare : MethodName := ⟨RX9, "spare", "()I"⟩
abbrev cX9_putSize : ByteArray := prog_11_method_27_code
def yX9_putSize : MethodName := ⟨RX9, "putSize", "(IJJ)Z"⟩
abbrev cX9_placeOf : ByteArray := prog_11_method_28_code
def yX9_placeOf : MethodName := ⟨RX9, "placeOf", "(JJ)I"⟩
abbrev cX9_knownAt : ByteArray := prog_11_method_29_code
def yX9_knownAt : MethodName := ⟨RX9, "knownAt", "(I)I"⟩
abbrev cX9_know : ByteArray := prog_11_method_30_code
def yX9_know : MethodName := ⟨RX9, "know", "(II)V"⟩
abbrev cX9_isScarce : ByteArray := prog_11_method_31_code
def yX9_isScarce : MethodName := ⟨RX9, "isScarce", "()Z"⟩
abbrev cX9_endTidying : ByteArray := prog_11_method_32_code
def yX9_endTidying : MethodName := ⟨RX9, "endTidying", "()V"⟩
abbrev cX9_failed : ByteArray := prog_11_method_33_code
def yX9_failed : MethodName := ⟨RX9, "failed", "()Z"⟩
abbrev cX9_isRoomy : ByteArray := prog_11_method_34_code
def yX9_isRoomy : MethodName := ⟨RX9, "isRoomy", "()Z"⟩
abbrev cX9_hasFewNodes : ByteArray := prog_11_method_35_code
def yX9_hasFewNodes : MethodName := ⟨RX9, "hasFewNodes", "(II)Z"⟩
abbrev cX9_tidy : ByteArray := prog_11_method_36_code
def yX9_tidy : MethodName := ⟨RX9, "tidy", "()V"⟩
abbrev cX9_throwAway : ByteArray := prog_11_method_37_code
def yX9_throwAway : MethodName := ⟨RX9, "throwAway", "(I)V"⟩
abbrev cX9_knowAgain : ByteArray := prog_11_method_38_code
def yX9_knowAgain : MethodName := ⟨RX9, "knowAgain", "(I)V"⟩
abbrev cX9_reach : ByteArray := prog_11_method_39_code
def yX9_reach : MethodName := ⟨RX9, "reach", "(I)V"⟩
def RX10 : String := "EditsMeet$Works"
def TX10 : u_T := fun k => match k with
  | 0 => ("EditsMeet$Works", "trees", "LEditsMeet$Trees;", true)
  | 1 => ("EditsMeet$Works", "holders", "Ljava/util/ArrayList;", true)
  | 2 => ("EditsMeet$Works", "nodes", "LEditsMeet$Slots;", true)
  | 3 => ("EditsMeet$Works", "recipes", "[J", true)
  | 4 => ("EditsMeet$Works", "from", "[J", true)
  | 5 => ("EditsMeet$Works", "to", "[J", true)
  | 6 => ("EditsMeet$Works", "states", "[I", true)
  | 7 => ("EditsMeet$Works", "marks", "[I", true)
  | 8 => ("EditsMeet$Works", "usedAt", "[I", true)
  | 9 => ("EditsMeet$Works", "trail", "[I", true)
  | 10 => ("EditsMeet$Works", "next", "I", false)
  | _ => ("EditsMeet$Works", "clock", "I", false)
def tyX10 : Nat → FieldType := fun k => match k with
  | 0 => .object "EditsMeet$Trees"
  | 1 => .object "java/util/ArrayList"
  | 2 => .object "EditsMeet$Slots"
  | 3 => .array .long
  | 4 => .array .long
  | 5 => .array .long
  | 6 => .array .int
  | 7 => .array .int
  | 8 => .array .int
  | 9 => .array .int
  | 10 => .int
  | _ => .int
abbrev wsX100 : List Cond := u_ws RX10 TX10 12
theorem nmX10 : ∀ a, a < 12 → ∀ b, b < 12 → a ≠ b → (TX10 a).2.1 ≠ (TX10 b).2.1 := by decide +kernel
theorem tyX10_ok : ∀ k, k < 12 → parseFieldDescriptor (TX10 k).2.2.1 = some (tyX10 k) := by decide +kernel
abbrev cX10_init : ByteArray := prog_12_method_1_code
def yX10_init : MethodName := ⟨RX10, "<init>", "(LEditsMeet$Trees;)V"⟩
abbrev cX10_newSlots : ByteArray := prog_12_method_2_code
def yX10_newSlots : MethodName := ⟨RX10, "newSlots", "(I)LEditsMeet$Slots;"⟩
abbrev cX10_isWork : ByteArray := prog_12_method_3_code
def yX10_isWork : MethodName := ⟨RX10, "isWork", "(I)Z"⟩
abbrev cX10_node : ByteArray := prog_12_method_4_code
def yX10_node : MethodName := ⟨RX10, "node", "(I)I"⟩
abbrev cX10_from : ByteArray := prog_12_method_5_code
def yX10_from : MethodName := ⟨RX10, "from", "(I)J"⟩
abbrev cX10_to : ByteArray := prog_12_method_6_code
def yX10_to : MethodName := ⟨RX10, "to", "(I)J"⟩
abbrev cX10_isThere : ByteArray := prog_12_method_7_code
def yX10_isThere : MethodName := ⟨RX10, "isThere", "(I)Z"⟩
abbrev cX10_way : ByteArray := prog_12_method_8_code
def yX10_way : MethodName := ⟨RX10, "way", "(I)I"⟩
abbrev cX10_one : ByteArray := prog_12_method_9_code
def yX10_one : MethodName := ⟨RX10, "one", "(I)I"⟩
abbrev cX10_two : ByteArray := prog_12_method_10_code
def yX10_two : MethodName := ⟨RX10, "two", "(I)I"⟩
abbrev cX10_use : ByteArray := prog_12_method_11_code
def yX10_use : MethodName := ⟨RX10, "use", "(I)V"⟩
abbrev cX10_begin : ByteArray := prog_12_method_12_code
def yX10_begin : MethodName := ⟨RX10, "begin", "(III)I"⟩
abbrev cX10_known : ByteArray := prog_12_method_13_code
def yX10_known : MethodName := ⟨RX10, "known", "(I)I"⟩
abbrev cX10_put : ByteArray := prog_12_method_14_code
def yX10_put : MethodName := ⟨RX10, "put", "(II)V"⟩
abbrev cX10_spare : ByteArray := prog_12_method_15_code
def yX10_spare : MethodName := ⟨RX10, "spare", "()I"⟩
abbrev cX10_forgetRecipes : ByteArray := prog_12_method_16_code
def yX10_forgetRecipes : MethodName := ⟨RX10, "forgetRecipes", "()V"⟩
abbrev cX10_collect : ByteArray := prog_12_method_17_code
def yX10_collect : MethodName := ⟨RX10, "collect", "()V"⟩
abbrev cX10_note : ByteArray := prog_12_method_18_code
def yX10_note : MethodName := ⟨RX10, "note", "(II)V"⟩
abbrev cX10_pin : ByteArray := prog_12_method_19_code
def yX10_pin : MethodName := ⟨RX10, "pin", "(LEditsMeet$Slots;[II)V"⟩
abbrev cX10_sweep : ByteArray := prog_12_method_20_code
def yX10_sweep : MethodName := ⟨RX10, "sweep", "()V"⟩
abbrev cX10_giveUp : ByteArray := prog_12_method_21_code
def yX10_giveUp : MethodName := ⟨RX10, "giveUp", "(I)V"⟩
abbrev cX10_canBeGivenUp : ByteArray := prog_12_method_22_code
def yX10_canBeGivenUp : MethodName := ⟨RX10, "canBeGivenUp", "(II)Z"⟩
def RX11 : String := "EditsMeet"
def TX11 : u_T := fun k => match k with
  | 0 => ("EditsMeet", "trees", "LEditsMeet$Trees;", true)
  | 1 => ("EditsMeet", "works", "LEditsMeet$Works;", true)
  | 2 => ("EditsMeet", "teller", "LEditsMeet$Teller;", true)
  | 3 => ("EditsMeet", "loom", "LEditsMeet$Loom;", true)
  | 4 => ("EditsMeet", "tape", "LEditsMeet$Tape;", true)
  | 5 => ("EditsMeet", "edits", "LEditsMeet$Slots;", true)
  | 6 => ("EditsMeet", "areEdits", "[Z", true)
  | 7 => ("EditsMeet", "shelves", "[LEditsMeet$Shelf;", true)
  | 8 => ("EditsMeet", "refusals", "[I", true)
  | 9 => ("EditsMeet", "meeting", "LEditsMeet$Meeting;", true)
  | 10 => ("EditsMeet", "imaged", "LEditsMeet$Meeting;", true)
  | 11 => ("EditsMeet", "ahead", "LEditsMeet$Client;", true)
  | _ => ("EditsMeet", "hasImage", "Z", false)
def tyX11 : Nat → FieldType := fun k => match k with
  | 0 => .object "EditsMeet$Trees"
  | 1 => .object "EditsMeet$Works"
  | 2 => .object "EditsMeet$Teller"
  | 3 => .object "EditsMeet$Loom"
  | 4 => .object "EditsMeet$Tape"
  | 5 => .object "EditsMeet$Slots"
  | 6 => .array .boolean
  | 7 => .array (.object "EditsMeet$Shelf")
  | 8 => .array .int
  | 9 => .object "EditsMeet$Meeting"
  | 10 => .object "EditsMeet$Meeting"
  | 11 => .object "EditsMeet$Client"
  | _ => .boolean
abbrev wsX110 : List Cond := u_ws RX11 TX11 13
theorem nmX11 : ∀ a, a < 13 → ∀ b, b < 13 → a ≠ b → (TX11 a).2.1 ≠ (TX11 b).2.1 := by decide +kernel
theorem tyX11_ok : ∀ k, k < 13 → parseFieldDescriptor (TX11 k).2.2.1 = some (tyX11 k) := by decide +kernel
abbrev cX11_init : ByteArray := prog_1_method_1_code
def yX11_init : MethodName := ⟨RX11, "<init>", "()V"⟩
abbrev cX11_row : ByteArray := prog_1_method_2_code
def yX11_row : MethodName := ⟨RX11, "row", "(III)I"⟩
abbrev cX11_set : ByteArray := prog_1_method_3_code
def yX11_set : MethodName := ⟨RX11, "set", "(IIJ)I"⟩
abbrev cX11_copy : ByteArray := prog_1_method_4_code
def yX11_copy : MethodName := ⟨RX11, "copy", "(IIIII)I"⟩
abbrev cX11_element : ByteArray := prog_1_method_5_code
def yX11_element : MethodName := ⟨RX11, "element", "(II)J"⟩
abbrev cX11_holds : ByteArray := prog_1_method_6_code
def yX11_holds : MethodName := ⟨RX11, "holds", "(I)I"⟩
abbrev cX11_show : ByteArray := prog_1_method_7_code
def yX11_show : MethodName := ⟨RX11, "show", "(III)I"⟩
abbrev cX11_says : ByteArray := prog_1_method_8_code
def yX11_says : MethodName := ⟨RX11, "says", "(II)I"⟩
abbrev cX11_shelfAt : ByteArray := prog_1_method_9_code
def yX11_shelfAt : MethodName := ⟨RX11, "shelfAt", "(I)LEditsMeet$Shelf;"⟩
abbrev cX11_isStretch : ByteArray := prog_1_method_10_code
def yX11_isStretch : MethodName := ⟨RX11, "isStretch", "(IIJ)Z"⟩
abbrev cX11_told : ByteArray := prog_1_method_11_code
def yX11_told : MethodName := ⟨RX11, "told", "(J)I"⟩
abbrev cX11_isUnder : ByteArray := prog_1_method_12_code
def yX11_isUnder : MethodName := ⟨RX11, "isUnder", "(II)Z"⟩
abbrev cX11_feed : ByteArray := prog_1_method_13_code
def yX11_feed : MethodName := ⟨RX11, "feed", "(I)I"⟩
abbrev cX11_wipe : ByteArray := prog_1_method_14_code
def yX11_wipe : MethodName := ⟨RX11, "wipe", "()I"⟩
abbrev cX11_edit : ByteArray := prog_1_method_15_code
def yX11_edit : MethodName := ⟨RX11, "edit", "(I)I"⟩
abbrev cX11_of : ByteArray := prog_1_method_16_code
def yX11_of : MethodName := ⟨RX11, "of", "(II)I"⟩
abbrev cX11_part : ByteArray := prog_1_method_17_code
def yX11_part : MethodName := ⟨RX11, "part", "(III)I"⟩
abbrev cX11_letter : ByteArray := prog_1_method_18_code
def yX11_letter : MethodName := ⟨RX11, "letter", "(III)I"⟩
abbrev cX11_spelled : ByteArray := prog_1_method_19_code
def yX11_spelled : MethodName := ⟨RX11, "spelled", "(II)I"⟩
abbrev cX11_behind : ByteArray := prog_1_method_20_code
def yX11_behind : MethodName := ⟨RX11, "behind", "(III)I"⟩
abbrev cX11_over : ByteArray := prog_1_method_21_code
def yX11_over : MethodName := ⟨RX11, "over", "(IIII)I"⟩
abbrev cX11_turned : ByteArray := prog_1_method_22_code
def yX11_turned : MethodName := ⟨RX11, "turned", "(III)I"⟩
abbrev cX11_differ : ByteArray := prog_1_method_23_code
def yX11_differ : MethodName := ⟨RX11, "differ", "(II)I"⟩
abbrev cX11_isNumber : ByteArray := prog_1_method_24_code
def yX11_isNumber : MethodName := ⟨RX11, "isNumber", "(I)Z"⟩
abbrev cX11_isEdit : ByteArray := prog_1_method_25_code
def yX11_isEdit : MethodName := ⟨RX11, "isEdit", "(I)Z"⟩
abbrev cX11_fetched : ByteArray := prog_1_method_26_code
def yX11_fetched : MethodName := ⟨RX11, "fetched", "(I)I"⟩
abbrev cX11_keep : ByteArray := prog_1_method_27_code
def yX11_keep : MethodName := ⟨RX11, "keep", "(II)I"⟩
abbrev cX11_keepIfNotTooBig : ByteArray := prog_1_method_28_code
def yX11_keepIfNotTooBig : MethodName := ⟨RX11, "keepIfNotTooBig", "(II)I"⟩
abbrev cX11_does : ByteArray := prog_1_method_29_code
def yX11_does : MethodName := ⟨RX11, "does", "(II)I"⟩
abbrev cX11_insert : ByteArray := prog_1_method_30_code
def yX11_insert : MethodName := ⟨RX11, "insert", "(IIII)I"⟩
abbrev cX11_cut : ByteArray := prog_1_method_31_code
def yX11_cut : MethodName := ⟨RX11, "cut", "(III)I"⟩
abbrev cX11_mark : ByteArray := prog_1_method_32_code
def yX11_mark : MethodName := ⟨RX11, "mark", "(IIIII)I"⟩
abbrev cX11_undo : ByteArray := prog_1_method_33_code
def yX11_undo : MethodName := ⟨RX11, "undo", "(I)I"⟩
abbrev cX11_redo : ByteArray := prog_1_method_34_code
def yX11_redo : MethodName := ⟨RX11, "redo", "(I)I"⟩
abbrev cX11_point : ByteArray := prog_1_method_35_code
def yX11_point : MethodName := ⟨RX11, "point", "(III)I"⟩
abbrev cX11_hasNoRoom : ByteArray := prog_1_method_36_code
def yX11_hasNoRoom : MethodName := ⟨RX11, "hasNoRoom", "(LEditsMeet$Client;)Z"⟩
abbrev cX11_whyNotAgain : ByteArray := prog_1_method_37_code
def yX11_whyNotAgain : MethodName := ⟨RX11, "whyNotAgain", "(LEditsMeet$Client;I)I"⟩
abbrev cX11_serve : ByteArray := prog_1_method_38_code
def yX11_serve : MethodName := ⟨RX11, "serve", "(I)I"⟩
abbrev cX11_hear : ByteArray := prog_1_method_39_code
def yX11_hear : MethodName := ⟨RX11, "hear", "(I)I"⟩
abbrev cX11_meet : ByteArray := prog_1_method_40_code
def yX11_meet : MethodName := ⟨RX11, "meet", "()I"⟩
abbrev cX11_cursor : ByteArray := prog_1_method_41_code
def yX11_cursor : MethodName := ⟨RX11, "cursor", "(II)I"⟩
abbrev cX11_clientOf : ByteArray := prog_1_method_42_code
def yX11_clientOf : MethodName := ⟨RX11, "clientOf", "(II)I"⟩
abbrev cX11_takes : ByteArray := prog_1_method_43_code
def yX11_takes : MethodName := ⟨RX11, "takes", "(III)I"⟩
abbrev cX11_revision : ByteArray := prog_1_method_44_code
def yX11_revision : MethodName := ⟨RX11, "revision", "(II)I"⟩
abbrev cX11_length : ByteArray := prog_1_method_45_code
def yX11_length : MethodName := ⟨RX11, "length", "(I)I"⟩
abbrev cX11_text : ByteArray := prog_1_method_46_code
def yX11_text : MethodName := ⟨RX11, "text", "(III)I"⟩
abbrev cX11_apart : ByteArray := prog_1_method_47_code
def yX11_apart : MethodName := ⟨RX11, "apart", "(II)I"⟩
abbrev cX11_marked : ByteArray := prog_1_method_48_code
def yX11_marked : MethodName := ⟨RX11, "marked", "(II)I"⟩
abbrev cX11_judge : ByteArray := prog_1_method_49_code
def yX11_judge : MethodName := ⟨RX11, "judge", "(III)I"⟩
abbrev cX11_days : ByteArray := prog_1_method_50_code
def yX11_days : MethodName := ⟨RX11, "days", "(I)I"⟩
abbrev cX11_seed : ByteArray := prog_1_method_51_code
def yX11_seed : MethodName := ⟨RX11, "seed", "(I)I"⟩
abbrev cX11_canBe : ByteArray := prog_1_method_52_code
def yX11_canBe : MethodName := ⟨RX11, "canBe", "(LEditsMeet$Client;I)Z"⟩
abbrev cX11_draftByDraws : ByteArray := prog_1_method_53_code
def yX11_draftByDraws : MethodName := ⟨RX11, "draftByDraws", "(LEditsMeet$Client;I)V"⟩
abbrev cX11_image : ByteArray := prog_1_method_54_code
def yX11_image : MethodName := ⟨RX11, "image", "()I"⟩
abbrev cX11_back : ByteArray := prog_1_method_55_code
def yX11_back : MethodName := ⟨RX11, "back", "()I"⟩
abbrev cX11_status : ByteArray := prog_1_method_56_code
def yX11_status : MethodName := ⟨RX11, "status", "(I)I"⟩
abbrev cX11_editsByNumber : ByteArray := prog_1_method_57_code
def yX11_editsByNumber : MethodName := ⟨RX11, "editsByNumber", "()I"⟩
abbrev cX11_shelvesInUse : ByteArray := prog_1_method_58_code
def yX11_shelvesInUse : MethodName := ⟨RX11, "shelvesInUse", "()I"⟩
abbrev cX11_refuse : ByteArray := prog_1_method_59_code
def yX11_refuse : MethodName := ⟨RX11, "refuse", "(I)I"⟩
def RX12 : String := "EditsMeetModel"
def TX12 : u_T := fun k => match k with
  | 0 => ("EditsMeetModel", "rows", "[[I", true)
  | 1 => ("EditsMeetModel", "size", "[I", true)
  | 2 => ("EditsMeetModel", "isThere", "[Z", true)
  | 3 => ("EditsMeetModel", "texts", "[[I", true)
  | 4 => ("EditsMeetModel", "lengths", "[I", true)
  | 5 => ("EditsMeetModel", "state", "[I", true)
  | 6 => ("EditsMeetModel", "by", "[I", true)
  | 7 => ("EditsMeetModel", "single", "[I", true)
  | 8 => ("EditsMeetModel", "refusals", "[I", true)
  | 9 => ("EditsMeetModel", "work", "[[I", true)
  | 10 => ("EditsMeetModel", "worked", "[I", true)
  | 11 => ("EditsMeetModel", "aside", "[I", true)
  | 12 => ("EditsMeetModel", "tape", "[I", true)
  | 13 => ("EditsMeetModel", "taped", "I", false)
  | 14 => ("EditsMeetModel", "place", "I", false)
  | 15 => ("EditsMeetModel", "number", "I", false)
  | 16 => ("EditsMeetModel", "texted", "I", false)
  | 17 => ("EditsMeetModel", "asked", "I", false)
  | 18 => ("EditsMeetModel", "found", "I", false)
  | 19 => ("EditsMeetModel", "sorts", "[I", true)
  | 20 => ("EditsMeetModel", "sizes", "[I", true)
  | 21 => ("EditsMeetModel", "elements", "[J", true)
  | 22 => ("EditsMeetModel", "partKind", "[I", true)
  | 23 => ("EditsMeetModel", "partMany", "[I", true)
  | 24 => ("EditsMeetModel", "partAbout", "[I", true)
  | 25 => ("EditsMeetModel", "keptRows", "[[I", true)
  | 26 => ("EditsMeetModel", "keptSize", "[I", true)
  | 27 => ("EditsMeetModel", "keptTexts", "[[I", true)
  | 28 => ("EditsMeetModel", "keptLengths", "[I", true)
  | 29 => ("EditsMeetModel", "keptState", "[I", true)
  | 30 => ("EditsMeetModel", "keptBy", "[I", true)
  | 31 => ("EditsMeetModel", "keptSingle", "[I", true)
  | _ => ("EditsMeetModel", "hasImage", "Z", false)
def tyX12 : Nat → FieldType := fun k => match k with
  | 0 => .array (.array .int)
  | 1 => .array .int
  | 2 => .array .boolean
  | 3 => .array (.array .int)
  | 4 => .array .int
  | 5 => .array .int
  | 6 => .array .int
  | 7 => .array .int
  | 8 => .array .int
  | 9 => .array (.array .int)
  | 10 => .array .int
  | 11 => .array .int
  | 12 => .array .int
  | 13 => .int
  | 14 => .int
  | 15 => .int
  | 16 => .int
  | 17 => .int
  | 18 => .int
  | 19 => .array .int
  | 20 => .array .int
  | 21 => .array .long
  | 22 => .array .int
  | 23 => .array .int
  | 24 => .array .int
  | 25 => .array (.array .int)
  | 26 => .array .int
  | 27 => .array (.array .int)
  | 28 => .array .int
  | 29 => .array .int
  | 30 => .array .int
  | 31 => .array .int
  | _ => .boolean
abbrev wsX120 : List Cond := u_ws RX12 TX12 33
theorem nmX12 : ∀ a, a < 33 → ∀ b, b < 33 → a ≠ b → (TX12 a).2.1 ≠ (TX12 b).2.1 := by decide +kernel
theorem tyX12_ok : ∀ k, k < 33 → parseFieldDescriptor (TX12 k).2.2.1 = some (tyX12 k) := by decide +kernel
abbrev cX12_init : ByteArray := prog_14_method_1_code
def yX12_init : MethodName := ⟨RX12, "<init>", "()V"⟩
abbrev cX12_in : ByteArray := prog_14_method_2_code
def yX12_in : MethodName := ⟨RX12, "in", "(JJJ)Z"⟩
abbrev cX12_refused : ByteArray := prog_14_method_3_code
def yX12_refused : MethodName := ⟨RX12, "refused", "(I)I"⟩
abbrev cX12_kind : ByteArray := prog_14_method_4_code
def yX12_kind : MethodName := ⟨RX12, "kind", "(I)I"⟩
abbrev cX12_grown : ByteArray := prog_14_method_5_code
def yX12_grown : MethodName := ⟨RX12, "grown", "([II)[I"⟩
abbrev cX12_adds : ByteArray := prog_14_method_6_code
def yX12_adds : MethodName := ⟨RX12, "adds", "(II)V"⟩
abbrev cX12_takesRow : ByteArray := prog_14_method_7_code
def yX12_takesRow : MethodName := ⟨RX12, "takesRow", "(II)V"⟩
abbrev cX12_keepsRow : ByteArray := prog_14_method_8_code
def yX12_keepsRow : MethodName := ⟨RX12, "keepsRow", "(II)V"⟩
abbrev cX12_copiesRow : ByteArray := prog_14_method_9_code
def yX12_copiesRow : MethodName := ⟨RX12, "copiesRow", "(II)V"⟩
abbrev cX12_plain : ByteArray := prog_14_method_10_code
def yX12_plain : MethodName := ⟨RX12, "plain", "(I)V"⟩
abbrev cX12_count : ByteArray := prog_14_method_11_code
def yX12_count : MethodName := ⟨RX12, "count", "([III)I"⟩
abbrev cX12_from : ByteArray := prog_14_method_12_code
def yX12_from : MethodName := ⟨RX12, "from", "(I)I"⟩
abbrev cX12_to : ByteArray := prog_14_method_13_code
def yX12_to : MethodName := ⟨RX12, "to", "(I)I"⟩
abbrev cX12_isTooLarge : ByteArray := prog_14_method_14_code
def yX12_isTooLarge : MethodName := ⟨RX12, "isTooLarge", "(I)Z"⟩
abbrev cX12_marksOf : ByteArray := prog_14_method_15_code
def yX12_marksOf : MethodName := ⟨RX12, "marksOf", "(II)I"⟩
abbrev cX12_behindRow : ByteArray := prog_14_method_16_code
def yX12_behindRow : MethodName := ⟨RX12, "behindRow", "(III)V"⟩
abbrev cX12_together : ByteArray := prog_14_method_17_code
def yX12_together : MethodName := ⟨RX12, "together", "(III)V"⟩
abbrev cX12_overRow : ByteArray := prog_14_method_18_code
def yX12_overRow : MethodName := ⟨RX12, "overRow", "(IIII)V"⟩
abbrev cX12_overOne : ByteArray := prog_14_method_19_code
def yX12_overOne : MethodName := ⟨RX12, "overOne", "(IIII)V"⟩
abbrev cX12_turnedRow : ByteArray := prog_14_method_20_code
def yX12_turnedRow : MethodName := ⟨RX12, "turnedRow", "(III)V"⟩
abbrev cX12_makes : ByteArray := prog_14_method_21_code
def yX12_makes : MethodName := ⟨RX12, "makes", "(II)V"⟩
abbrev cX12_goesAlong : ByteArray := prog_14_method_22_code
def yX12_goesAlong : MethodName := ⟨RX12, "goesAlong", "(IIZ)I"⟩
abbrev cX12_st : ByteArray := prog_14_method_23_code
def yX12_st : MethodName := ⟨RX12, "st", "(II)I"⟩
abbrev cX12_cursorGoes : ByteArray := prog_14_method_24_code
def yX12_cursorGoes : MethodName := ⟨RX12, "cursorGoes", "(IIZ)V"⟩
abbrev cX12_pushes : ByteArray := prog_14_method_25_code
def yX12_pushes : MethodName := ⟨RX12, "pushes", "(III)V"⟩
abbrev cX12_done : ByteArray := prog_14_method_26_code
def yX12_done : MethodName := ⟨RX12, "done", "(IIZ)V"⟩
abbrev cX12_resultLength : ByteArray := prog_14_method_27_code
def yX12_resultLength : MethodName := ⟨RX12, "resultLength", "(I)I"⟩
abbrev cX12_isFull : ByteArray := prog_14_method_28_code
def yX12_isFull : MethodName := ⟨RX12, "isFull", "(II)Z"⟩
abbrev cX12_serves : ByteArray := prog_14_method_29_code
def yX12_serves : MethodName := ⟨RX12, "serves", "(I)I"⟩
abbrev cX12_keepsWork : ByteArray := prog_14_method_30_code
def yX12_keepsWork : MethodName := ⟨RX12, "keepsWork", "(II)V"⟩
abbrev cX12_crosses : ByteArray := prog_14_method_31_code
def yX12_crosses : MethodName := ⟨RX12, "crosses", "(I)V"⟩
abbrev cX12_hears : ByteArray := prog_14_method_32_code
def yX12_hears : MethodName := ⟨RX12, "hears", "(I)V"⟩
abbrev cX12_isClient : ByteArray := prog_14_method_33_code
def yX12_isClient : MethodName := ⟨RX12, "isClient", "(I)Z"⟩
abbrev cX12_isEdit : ByteArray := prog_14_method_34_code
def yX12_isEdit : MethodName := ⟨RX12, "isEdit", "(I)Z"⟩
abbrev cX12_feed : ByteArray := prog_14_method_35_code
def yX12_feed : MethodName := ⟨RX12, "feed", "(I)I"⟩
abbrev cX12_wipe : ByteArray := prog_14_method_36_code
def yX12_wipe : MethodName := ⟨RX12, "wipe", "()I"⟩
abbrev cX12_byteAt : ByteArray := prog_14_method_37_code
def yX12_byteAt : MethodName := ⟨RX12, "byteAt", "(I)I"⟩
abbrev cX12_isNumber : ByteArray := prog_14_method_38_code
def yX12_isNumber : MethodName := ⟨RX12, "isNumber", "(I)Z"⟩
abbrev cX12_isPart : ByteArray := prog_14_method_39_code
def yX12_isPart : MethodName := ⟨RX12, "isPart", "()Z"⟩
abbrev cX12_edit : ByteArray := prog_14_method_40_code
def yX12_edit : MethodName := ⟨RX12, "edit", "(I)I"⟩
abbrev cX12_comes : ByteArray := prog_14_method_41_code
def yX12_comes : MethodName := ⟨RX12, "comes", "(II)I"⟩
abbrev cX12_isOne : ByteArray := prog_14_method_42_code
def yX12_isOne : MethodName := ⟨RX12, "isOne", "(II)Z"⟩
abbrev cX12_parts : ByteArray := prog_14_method_43_code
def yX12_parts : MethodName := ⟨RX12, "parts", "(I)I"⟩
abbrev cX12_beginOf : ByteArray := prog_14_method_44_code
def yX12_beginOf : MethodName := ⟨RX12, "beginOf", "(II)I"⟩
abbrev cX12_kindTold : ByteArray := prog_14_method_45_code
def yX12_kindTold : MethodName := ⟨RX12, "kindTold", "(I)I"⟩
abbrev cX12_isKept : ByteArray := prog_14_method_46_code
def yX12_isKept : MethodName := ⟨RX12, "isKept", "(I)Z"⟩
abbrev cX12_letters : ByteArray := prog_14_method_47_code
def yX12_letters : MethodName := ⟨RX12, "letters", "(II)I"⟩
abbrev cX12_of : ByteArray := prog_14_method_48_code
def yX12_of : MethodName := ⟨RX12, "of", "(II)I"⟩
abbrev cX12_part : ByteArray := prog_14_method_49_code
def yX12_part : MethodName := ⟨RX12, "part", "(III)I"⟩
abbrev cX12_letter : ByteArray := prog_14_method_50_code
def yX12_letter : MethodName := ⟨RX12, "letter", "(III)I"⟩
abbrev cX12_tells : ByteArray := prog_14_method_51_code
def yX12_tells : MethodName := ⟨RX12, "tells", "(I)V"⟩
abbrev cX12_tellsNumber : ByteArray := prog_14_method_52_code
def yX12_tellsNumber : MethodName := ⟨RX12, "tellsNumber", "(I)V"⟩
abbrev cX12_tellsPart : ByteArray := prog_14_method_53_code
def yX12_tellsPart : MethodName := ⟨RX12, "tellsPart", "(II)V"⟩
abbrev cX12_spelled : ByteArray := prog_14_method_54_code
def yX12_spelled : MethodName := ⟨RX12, "spelled", "(II)I"⟩
abbrev cX12_made : ByteArray := prog_14_method_55_code
def yX12_made : MethodName := ⟨RX12, "made", "(II)I"⟩
abbrev cX12_behind : ByteArray := prog_14_method_56_code
def yX12_behind : MethodName := ⟨RX12, "behind", "(III)I"⟩
abbrev cX12_over : ByteArray := prog_14_method_57_code
def yX12_over : MethodName := ⟨RX12, "over", "(IIII)I"⟩
abbrev cX12_turned : ByteArray := prog_14_method_58_code
def yX12_turned : MethodName := ⟨RX12, "turned", "(III)I"⟩
abbrev cX12_differ : ByteArray := prog_14_method_59_code
def yX12_differ : MethodName := ⟨RX12, "differ", "(II)I"⟩
abbrev cX12_does : ByteArray := prog_14_method_60_code
def yX12_does : MethodName := ⟨RX12, "does", "(II)I"⟩
abbrev cX12_keepsAllBut : ByteArray := prog_14_method_61_code
def yX12_keepsAllBut : MethodName := ⟨RX12, "keepsAllBut", "(IIII)V"⟩
abbrev cX12_inserts : ByteArray := prog_14_method_62_code
def yX12_inserts : MethodName := ⟨RX12, "inserts", "(III)V"⟩
abbrev cX12_insert : ByteArray := prog_14_method_63_code
def yX12_insert : MethodName := ⟨RX12, "insert", "(IIII)I"⟩
abbrev cX12_isStretch : ByteArray := prog_14_method_64_code
def yX12_isStretch : MethodName := ⟨RX12, "isStretch", "(III)Z"⟩
abbrev cX12_cut : ByteArray := prog_14_method_65_code
def yX12_cut : MethodName := ⟨RX12, "cut", "(III)I"⟩
abbrev cX12_mark : ByteArray := prog_14_method_66_code
def yX12_mark : MethodName := ⟨RX12, "mark", "(IIIII)I"⟩
abbrev cX12_serve : ByteArray := prog_14_method_67_code
def yX12_serve : MethodName := ⟨RX12, "serve", "(I)I"⟩
abbrev cX12_hear : ByteArray := prog_14_method_68_code
def yX12_hear : MethodName := ⟨RX12, "hear", "(I)I"⟩
abbrev cX12_hearAll : ByteArray := prog_14_method_69_code
def yX12_hearAll : MethodName := ⟨RX12, "hearAll", "()V"⟩
abbrev cX12_isAnySent : ByteArray := prog_14_method_70_code
def yX12_isAnySent : MethodName := ⟨RX12, "isAnySent", "()Z"⟩
abbrev cX12_meet : ByteArray := prog_14_method_71_code
def yX12_meet : MethodName := ⟨RX12, "meet", "()I"⟩
abbrev cX12_again : ByteArray := prog_14_method_72_code
def yX12_again : MethodName := ⟨RX12, "again", "(II)I"⟩
abbrev cX12_undo : ByteArray := prog_14_method_73_code
def yX12_undo : MethodName := ⟨RX12, "undo", "(I)I"⟩
abbrev cX12_redo : ByteArray := prog_14_method_74_code
def yX12_redo : MethodName := ⟨RX12, "redo", "(I)I"⟩
abbrev cX12_point : ByteArray := prog_14_method_75_code
def yX12_point : MethodName := ⟨RX12, "point", "(III)I"⟩
abbrev cX12_cursor : ByteArray := prog_14_method_76_code
def yX12_cursor : MethodName := ⟨RX12, "cursor", "(II)I"⟩
abbrev cX12_clientOf : ByteArray := prog_14_method_77_code
def yX12_clientOf : MethodName := ⟨RX12, "clientOf", "(II)I"⟩
abbrev cX12_takes : ByteArray := prog_14_method_78_code
def yX12_takes : MethodName := ⟨RX12, "takes", "(III)I"⟩
abbrev cX12_revision : ByteArray := prog_14_method_79_code
def yX12_revision : MethodName := ⟨RX12, "revision", "(II)I"⟩
abbrev cX12_isText : ByteArray := prog_14_method_80_code
def yX12_isText : MethodName := ⟨RX12, "isText", "(I)Z"⟩
abbrev cX12_length : ByteArray := prog_14_method_81_code
def yX12_length : MethodName := ⟨RX12, "length", "(I)I"⟩
abbrev cX12_text : ByteArray := prog_14_method_82_code
def yX12_text : MethodName := ⟨RX12, "text", "(III)I"⟩
abbrev cX12_firstApart : ByteArray := prog_14_method_83_code
def yX12_firstApart : MethodName := ⟨RX12, "firstApart", "(II)I"⟩
abbrev cX12_apart : ByteArray := prog_14_method_84_code
def yX12_apart : MethodName := ⟨RX12, "apart", "(II)I"⟩
abbrev cX12_marked : ByteArray := prog_14_method_85_code
def yX12_marked : MethodName := ⟨RX12, "marked", "(II)I"⟩
abbrev cX12_isShelf : ByteArray := prog_14_method_86_code
def yX12_isShelf : MethodName := ⟨RX12, "isShelf", "(I)Z"⟩
abbrev cX12_row : ByteArray := prog_14_method_87_code
def yX12_row : MethodName := ⟨RX12, "row", "(III)I"⟩
abbrev cX12_lowest : ByteArray := prog_14_method_88_code
def yX12_lowest : MethodName := ⟨RX12, "lowest", "(IJ)J"⟩
abbrev cX12_set : ByteArray := prog_14_method_89_code
def yX12_set : MethodName := ⟨RX12, "set", "(IIJ)I"⟩
abbrev cX12_copy : ByteArray := prog_14_method_90_code
def yX12_copy : MethodName := ⟨RX12, "copy", "(IIIII)I"⟩
abbrev cX12_element : ByteArray := prog_14_method_91_code
def yX12_element : MethodName := ⟨RX12, "element", "(II)J"⟩
abbrev cX12_holds : ByteArray := prog_14_method_92_code
def yX12_holds : MethodName := ⟨RX12, "holds", "(I)I"⟩
abbrev cX12_show : ByteArray := prog_14_method_93_code
def yX12_show : MethodName := ⟨RX12, "show", "(III)I"⟩
abbrev cX12_isUnder : ByteArray := prog_14_method_94_code
def yX12_isUnder : MethodName := ⟨RX12, "isUnder", "(II)Z"⟩
abbrev cX12_says : ByteArray := prog_14_method_95_code
def yX12_says : MethodName := ⟨RX12, "says", "(II)I"⟩
abbrev cX12_judge : ByteArray := prog_14_method_96_code
def yX12_judge : MethodName := ⟨RX12, "judge", "(III)I"⟩
abbrev cX12_draw : ByteArray := prog_14_method_97_code
def yX12_draw : MethodName := ⟨RX12, "draw", "(I)I"⟩
abbrev cX12_isDay : ByteArray := prog_14_method_98_code
def yX12_isDay : MethodName := ⟨RX12, "isDay", "(II)Z"⟩
abbrev cX12_days : ByteArray := prog_14_method_99_code
def yX12_days : MethodName := ⟨RX12, "days", "(I)I"⟩
abbrev cX12_seed : ByteArray := prog_14_method_100_code
def yX12_seed : MethodName := ⟨RX12, "seed", "(I)I"⟩
abbrev cX12_copies : ByteArray := prog_14_method_101_code
def yX12_copies : MethodName := ⟨RX12, "copies", "([I[II)V"⟩
abbrev cX12_copiesRows : ByteArray := prog_14_method_102_code
def yX12_copiesRows : MethodName := ⟨RX12, "copiesRows", "([[I[II[[I[I)V"⟩
abbrev cX12_image : ByteArray := prog_14_method_103_code
def yX12_image : MethodName := ⟨RX12, "image", "()I"⟩
abbrev cX12_back : ByteArray := prog_14_method_104_code
def yX12_back : MethodName := ⟨RX12, "back", "()I"⟩
abbrev cX12_status : ByteArray := prog_14_method_105_code
def yX12_status : MethodName := ⟨RX12, "status", "(I)I"⟩
def RJx145de : String := "java/io/Serializable"
def TJx145de : u_T := fun k => match k with
  | _ => ("", "", "", false)
def tyJx145de : Nat → FieldType := fun k => match k with
  | _ => .int
abbrev wsJx145de0 : List Cond := u_ws RJx145de TJx145de 0
theorem nmJx145de : ∀ a, a < 0 → ∀ b, b < 0 → a ≠ b → (TJx145de a).2.1 ≠ (TJx145de b).2.1 := by decide +kernel
theorem tyJx145de_ok : ∀ k, k < 0 → parseFieldDescriptor (TJx145de k).2.2.1 = some (tyJx145de k) := by decide +kernel
def RJx8e188 : String := "java/lang/Cloneable"
def TJx8e188 : u_T := fun k => match k with
  | _ => ("", "", "", false)
def tyJx8e188 : Nat → FieldType := fun k => match k with
  | _ => .int
abbrev wsJx8e1880 : List Cond := u_ws RJx8e188 TJx8e188 0
theorem nmJx8e188 : ∀ a, a < 0 → ∀ b, b < 0 → a ≠ b → (TJx8e188 a).2.1 ≠ (TJx8e188 b).2.1 := by decide +kernel
theorem tyJx8e188_ok : ∀ k, k < 0 → parseFieldDescriptor (TJx8e188 k).2.2.1 = some (tyJx8e188 k) := by decide +kernel
def RJ6 : String := "java/lang/Integer"
def TJ6 : u_T := fun k => match k with
  | _ => ("", "", "", false)
def tyJ6 : Nat → FieldType := fun k => match k with
  | _ => .int
abbrev wsJ60 : List Cond := u_ws RJ6 TJ6 0
theorem nmJ6 : ∀ a, a < 0 → ∀ b, b < 0 → a ≠ b → (TJ6 a).2.1 ≠ (TJ6 b).2.1 := by decide +kernel
theorem tyJ6_ok : ∀ k, k < 0 → parseFieldDescriptor (TJ6 k).2.2.1 = some (tyJ6 k) := by decide +kernel
abbrev cJ6_bitCount_0f7a4 : ByteArray := prog_17_method_49_code
def yJ6_bitCount_0f7a4 : MethodName := ⟨RJ6, "bitCount", "(I)I"⟩
def RJxab1ab : String := "java/lang/Iterable"
def TJxab1ab : u_T := fun k => match k with
  | _ => ("", "", "", false)
def tyJxab1ab : Nat → FieldType := fun k => match k with
  | _ => .int
abbrev wsJxab1ab0 : List Cond := u_ws RJxab1ab TJxab1ab 0
theorem nmJxab1ab : ∀ a, a < 0 → ∀ b, b < 0 → a ≠ b → (TJxab1ab a).2.1 ≠ (TJxab1ab b).2.1 := by decide +kernel
theorem tyJxab1ab_ok : ∀ k, k < 0 → parseFieldDescriptor (TJxab1ab k).2.2.1 = some (tyJxab1ab k) := by decide +kernel
def RJ9 : String := "java/lang/Math"
def TJ9 : u_T := fun k => match k with
  | _ => ("", "", "", false)
def tyJ9 : Nat → FieldType := fun k => match k with
  | _ => .int
abbrev wsJ90 : List Cond := u_ws RJ9 TJ9 0
theorem nmJ9 : ∀ a, a < 0 → ∀ b, b < 0 → a ≠ b → (TJ9 a).2.1 ≠ (TJ9 b).2.1 := by decide +kernel
theorem tyJ9_ok : ∀ k, k < 0 → parseFieldDescriptor (TJ9 k).2.2.1 = some (tyJ9 k) := by decide +kernel
abbrev cJ9_max_7cf53 : ByteArray := prog_19_method_65_code
def yJ9_max_7cf53 : MethodName := ⟨RJ9, "max", "(II)I"⟩
abbrev cJ9_max_f86c9 : ByteArray := prog_19_method_66_code
def yJ9_max_f86c9 : MethodName := ⟨RJ9, "max", "(JJ)J"⟩
abbrev cJ9_min_7cf53 : ByteArray := prog_19_method_69_code
def yJ9_min_7cf53 : MethodName := ⟨RJ9, "min", "(II)I"⟩
abbrev cJ9_min_f86c9 : ByteArray := prog_19_method_70_code
def yJ9_min_f86c9 : MethodName := ⟨RJ9, "min", "(JJ)J"⟩
def RJ10 : String := "java/lang/System"
def TJ10 : u_T := fun k => match k with
  | _ => ("", "", "", false)
def tyJ10 : Nat → FieldType := fun k => match k with
  | _ => .int
abbrev wsJ100 : List Cond := u_ws RJ10 TJ10 0
theorem nmJ10 : ∀ a, a < 0 → ∀ b, b < 0 → a ≠ b → (TJ10 a).2.1 ≠ (TJ10 b).2.1 := by decide +kernel
theorem tyJ10_ok : ∀ k, k < 0 → parseFieldDescriptor (TJ10 k).2.2.1 = some (tyJ10 k) := by decide +kernel
def RJxa1e45 : String := "java/util/AbstractCollection"
def TJxa1e45 : u_T := fun k => match k with
  | _ => ("", "", "", false)
def tyJxa1e45 : Nat → FieldType := fun k => match k with
  | _ => .int
abbrev wsJxa1e450 : List Cond := u_ws RJxa1e45 TJxa1e45 0
theorem nmJxa1e45 : ∀ a, a < 0 → ∀ b, b < 0 → a ≠ b → (TJxa1e45 a).2.1 ≠ (TJxa1e45 b).2.1 := by decide +kernel
theorem tyJxa1e45_ok : ∀ k, k < 0 → parseFieldDescriptor (TJxa1e45 k).2.2.1 = some (tyJxa1e45 k) := by decide +kernel
abbrev cJxa1e45_init_da8c8 : ByteArray := prog_21_method_1_code
def yJxa1e45_init_da8c8 : MethodName := ⟨RJxa1e45, "<init>", "()V"⟩
def RJxc12de : String := "java/util/AbstractList"
def TJxc12de : u_T := fun k => match k with
  | _ => ("", "", "", false)
def tyJxc12de : Nat → FieldType := fun k => match k with
  | _ => .int
abbrev wsJxc12de0 : List Cond := u_ws RJxc12de TJxc12de 0
theorem nmJxc12de : ∀ a, a < 0 → ∀ b, b < 0 → a ≠ b → (TJxc12de a).2.1 ≠ (TJxc12de b).2.1 := by decide +kernel
theorem tyJxc12de_ok : ∀ k, k < 0 → parseFieldDescriptor (TJxc12de k).2.2.1 = some (tyJxc12de k) := by decide +kernel
abbrev cJxc12de_init_da8c8 : ByteArray := prog_22_method_1_code
def yJxc12de_init_da8c8 : MethodName := ⟨RJxc12de, "<init>", "()V"⟩
def RJx4a65c : String := "java/util/ArrayList"
def TJx4a65c : u_T := fun k => match k with
  | 0 => ("java/util/AbstractList", "modCount", "I", false)
  | 1 => ("java/util/ArrayList", "elementData", "[Ljava/lang/Object;", false)
  | _ => ("java/util/ArrayList", "size", "I", false)
def tyJx4a65c : Nat → FieldType := fun k => match k with
  | 0 => .int
  | 1 => .array (.object "java/lang/Object")
  | _ => .int
abbrev wsJx4a65c0 : List Cond := u_ws RJx4a65c TJx4a65c 3
theorem nmJx4a65c : ∀ a, a < 3 → ∀ b, b < 3 → a ≠ b → (TJx4a65c a).2.1 ≠ (TJx4a65c b).2.1 := by decide +kernel
theorem tyJx4a65c_ok : ∀ k, k < 3 → parseFieldDescriptor (TJx4a65c k).2.2.1 = some (tyJx4a65c k) := by decide +kernel
abbrev cJx4a65c_init_da8c8 : ByteArray := prog_23_method_2_code
def yJx4a65c_init_da8c8 : MethodName := ⟨RJx4a65c, "<init>", "()V"⟩
abbrev cJx4a65c_grow_92f84 : ByteArray := prog_23_method_6_code
def yJx4a65c_grow_92f84 : MethodName := ⟨RJx4a65c, "grow", "(I)[Ljava/lang/Object;"⟩
abbrev cJx4a65c_grow_d5877 : ByteArray := prog_23_method_7_code
def yJx4a65c_grow_d5877 : MethodName := ⟨RJx4a65c, "grow", "()[Ljava/lang/Object;"⟩
abbrev cJx4a65c_size_8abf5 : ByteArray := prog_23_method_8_code
def yJx4a65c_size_8abf5 : MethodName := ⟨RJx4a65c, "size", "()I"⟩
abbrev cJx4a65c_elementData_915e3 : ByteArray := prog_23_method_18_code
def yJx4a65c_elementData_915e3 : MethodName := ⟨RJx4a65c, "elementData", "(I)Ljava/lang/Object;"⟩
abbrev cJx4a65c_get_915e3 : ByteArray := prog_23_method_20_code
def yJx4a65c_get_915e3 : MethodName := ⟨RJx4a65c, "get", "(I)Ljava/lang/Object;"⟩
abbrev cJx4a65c_add_72be8 : ByteArray := prog_23_method_24_code
def yJx4a65c_add_72be8 : MethodName := ⟨RJx4a65c, "add", "(Ljava/lang/Object;[Ljava/lang/Object;I)V"⟩
abbrev cJx4a65c_add_9ea2d : ByteArray := prog_23_method_25_code
def yJx4a65c_add_9ea2d : MethodName := ⟨RJx4a65c, "add", "(Ljava/lang/Object;)Z"⟩
def RJ7 : String := "java/util/Arrays"
def TJ7 : u_T := fun k => match k with
  | _ => ("", "", "", false)
def tyJ7 : Nat → FieldType := fun k => match k with
  | _ => .int
abbrev wsJ70 : List Cond := u_ws RJ7 TJ7 0
theorem nmJ7 : ∀ a, a < 0 → ∀ b, b < 0 → a ≠ b → (TJ7 a).2.1 ≠ (TJ7 b).2.1 := by decide +kernel
theorem tyJ7_ok : ∀ k, k < 0 → parseFieldDescriptor (TJ7 k).2.2.1 = some (tyJ7 k) := by decide +kernel
abbrev cJ7_rangeCheck_23922 : ByteArray := prog_24_method_30_code
def yJ7_rangeCheck_23922 : MethodName := ⟨RJ7, "rangeCheck", "(III)V"⟩
abbrev cJ7_fill_d0a16 : ByteArray := prog_24_method_101_code
def yJ7_fill_d0a16 : MethodName := ⟨RJ7, "fill", "([JJ)V"⟩
abbrev cJ7_fill_bad5a : ByteArray := prog_24_method_102_code
def yJ7_fill_bad5a : MethodName := ⟨RJ7, "fill", "([JIIJ)V"⟩
abbrev cJ7_fill_53178 : ByteArray := prog_24_method_103_code
def yJ7_fill_53178 : MethodName := ⟨RJ7, "fill", "([II)V"⟩
abbrev cJ7_copyOf_1904c : ByteArray := prog_24_method_119_code
def yJ7_copyOf_1904c : MethodName := ⟨RJ7, "copyOf", "([Ljava/lang/Object;I)[Ljava/lang/Object;"⟩
abbrev cJ7_copyOf_6403c : ByteArray := prog_24_method_120_code
def yJ7_copyOf_6403c : MethodName := ⟨RJ7, "copyOf", "([Ljava/lang/Object;ILjava/lang/Class;)[Ljava/lang/Object;"⟩
def RJx5ef63 : String := "java/util/Collection"
def TJx5ef63 : u_T := fun k => match k with
  | _ => ("", "", "", false)
def tyJx5ef63 : Nat → FieldType := fun k => match k with
  | _ => .int
abbrev wsJx5ef630 : List Cond := u_ws RJx5ef63 TJx5ef63 0
theorem nmJx5ef63 : ∀ a, a < 0 → ∀ b, b < 0 → a ≠ b → (TJx5ef63 a).2.1 ≠ (TJx5ef63 b).2.1 := by decide +kernel
theorem tyJx5ef63_ok : ∀ k, k < 0 → parseFieldDescriptor (TJx5ef63 k).2.2.1 = some (tyJx5ef63 k) := by decide +kernel
def RJxbd725 : String := "java/util/List"
def TJxbd725 : u_T := fun k => match k with
  | _ => ("", "", "", false)
def tyJxbd725 : Nat → FieldType := fun k => match k with
  | _ => .int
abbrev wsJxbd7250 : List Cond := u_ws RJxbd725 TJxbd725 0
theorem nmJxbd725 : ∀ a, a < 0 → ∀ b, b < 0 → a ≠ b → (TJxbd725 a).2.1 ≠ (TJxbd725 b).2.1 := by decide +kernel
theorem tyJxbd725_ok : ∀ k, k < 0 → parseFieldDescriptor (TJxbd725 k).2.2.1 = some (tyJxbd725 k) := by decide +kernel
def RJ15 : String := "java/util/Objects"
def TJ15 : u_T := fun k => match k with
  | _ => ("", "", "", false)
def tyJ15 : Nat → FieldType := fun k => match k with
  | _ => .int
abbrev wsJ150 : List Cond := u_ws RJ15 TJ15 0
theorem nmJ15 : ∀ a, a < 0 → ∀ b, b < 0 → a ≠ b → (TJ15 a).2.1 ≠ (TJ15 b).2.1 := by decide +kernel
theorem tyJ15_ok : ∀ k, k < 0 → parseFieldDescriptor (TJ15 k).2.2.1 = some (tyJ15 k) := by decide +kernel
abbrev cJ15_checkIndex_7cf53 : ByteArray := prog_27_method_17_code
def yJ15_checkIndex_7cf53 : MethodName := ⟨RJ15, "checkIndex", "(II)I"⟩
def RJxf0a74 : String := "java/util/RandomAccess"
def TJxf0a74 : u_T := fun k => match k with
  | _ => ("", "", "", false)
def tyJxf0a74 : Nat → FieldType := fun k => match k with
  | _ => .int
abbrev wsJxf0a740 : List Cond := u_ws RJxf0a74 TJxf0a74 0
theorem nmJxf0a74 : ∀ a, a < 0 → ∀ b, b < 0 → a ≠ b → (TJxf0a74 a).2.1 ≠ (TJxf0a74 b).2.1 := by decide +kernel
theorem tyJxf0a74_ok : ∀ k, k < 0 → parseFieldDescriptor (TJxf0a74 k).2.2.1 = some (tyJxf0a74 k) := by decide +kernel
def RJxa66e6 : String := "java/util/SequencedCollection"
def TJxa66e6 : u_T := fun k => match k with
  | _ => ("", "", "", false)
def tyJxa66e6 : Nat → FieldType := fun k => match k with
  | _ => .int
abbrev wsJxa66e60 : List Cond := u_ws RJxa66e6 TJxa66e6 0
theorem nmJxa66e6 : ∀ a, a < 0 → ∀ b, b < 0 → a ≠ b → (TJxa66e6 a).2.1 ≠ (TJxa66e6 b).2.1 := by decide +kernel
theorem tyJxa66e6_ok : ∀ k, k < 0 → parseFieldDescriptor (TJxa66e6 k).2.2.1 = some (tyJxa66e6 k) := by decide +kernel
def RJ8 : String := "jdk/internal/util/ArraysSupport"
def TJ8 : u_T := fun k => match k with
  | _ => ("", "", "", false)
def tyJ8 : Nat → FieldType := fun k => match k with
  | _ => .int
abbrev wsJ80 : List Cond := u_ws RJ8 TJ8 0
theorem nmJ8 : ∀ a, a < 0 → ∀ b, b < 0 → a ≠ b → (TJ8 a).2.1 ≠ (TJ8 b).2.1 := by decide +kernel
theorem tyJ8_ok : ∀ k, k < 0 → parseFieldDescriptor (TJ8 k).2.2.1 = some (tyJ8 k) := by decide +kernel
abbrev cJ8_newLength_cabcc : ByteArray := prog_30_method_27_code
def yJ8_newLength_cabcc : MethodName := ⟨RJ8, "newLength", "(III)I"⟩
abbrev cJ8_hugeLength_7cf53 : ByteArray := prog_30_method_28_code
def yJ8_hugeLength_7cf53 : MethodName := ⟨RJ8, "hugeLength", "(II)I"⟩
def RJ3 : String := "jdk/internal/util/Preconditions"
def TJ3 : u_T := fun k => match k with
  | _ => ("", "", "", false)
def tyJ3 : Nat → FieldType := fun k => match k with
  | _ => .int
abbrev wsJ30 : List Cond := u_ws RJ3 TJ3 0
theorem nmJ3 : ∀ a, a < 0 → ∀ b, b < 0 → a ≠ b → (TJ3 a).2.1 ≠ (TJ3 b).2.1 := by decide +kernel
theorem tyJ3_ok : ∀ k, k < 0 → parseFieldDescriptor (TJ3 k).2.2.1 = some (tyJ3 k) := by decide +kernel
abbrev cJ3_checkIndex_8e157 : ByteArray := prog_31_method_11_code
def yJ3_checkIndex_8e157 : MethodName := ⟨RJ3, "checkIndex", "(IILjava/util/function/BiFunction;)I"⟩
def RL : String := "EditsMeetLaw"
abbrev cL_law : ByteArray := code
def yL_law : MethodName := ⟨RL, "law", "([I)Z"⟩
