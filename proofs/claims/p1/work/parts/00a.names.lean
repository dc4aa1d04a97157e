/-- a private method of a class that the tables say can be made, by its rows of tables_1 -/
def lw_okq (q : MethodName × Nat) : Prop := (q.1.cls ≠ "java/lang/invoke/MethodHandle" ∧ q.1.cls ≠ "java/lang/invoke/VarHandle") ∧ Cond.instantiable q.1.cls q.2 ∈ tables_1 ∧ Cond.privateMethod q.1 ∈ tables_1 ∧ Cond.instanceMethod q.1 ∈ tables_1
theorem lw_p0 : lw_okq (⟨"EditsMeet", "shelfAt", "(I)LEditsMeet$Shelf;"⟩, 14) := ⟨⟨by decide +kernel, by decide +kernel⟩, List.mem_of_getElem? (i := 19) (by decide +kernel), List.mem_of_getElem? (i := 638) (by decide +kernel), List.mem_of_getElem? (i := 639) (by decide +kernel)⟩
theorem lw_p1 : lw_okq (⟨"EditsMeet", "refuse", "(I)I"⟩, 14) := ⟨⟨by decide +kernel, by decide +kernel⟩, List.mem_of_getElem? (i := 19) (by decide +kernel), List.mem_of_getElem? (i := 642) (by decide +kernel), List.mem_of_getElem? (i := 643) (by decide +kernel)⟩
theorem lw_p2 : lw_okq (⟨"EditsMeet$Shelf", "lowest", "(J)J"⟩, 6) := ⟨⟨by decide +kernel, by decide +kernel⟩, List.mem_of_getElem? (i := 528) (by decide +kernel), List.mem_of_getElem? (i := 669) (by decide +kernel), List.mem_of_getElem? (i := 670) (by decide +kernel)⟩
theorem lw_p3 : lw_okq (⟨"EditsMeet", "isEdit", "(I)Z"⟩, 14) := ⟨⟨by decide +kernel, by decide +kernel⟩, List.mem_of_getElem? (i := 19) (by decide +kernel), List.mem_of_getElem? (i := 715) (by decide +kernel), List.mem_of_getElem? (i := 716) (by decide +kernel)⟩
theorem lw_p4 : lw_okq (⟨"EditsMeet", "fetched", "(I)I"⟩, 14) := ⟨⟨by decide +kernel, by decide +kernel⟩, List.mem_of_getElem? (i := 19) (by decide +kernel), List.mem_of_getElem? (i := 723) (by decide +kernel), List.mem_of_getElem? (i := 724) (by decide +kernel)⟩
theorem lw_p5 : lw_okq (⟨"EditsMeet$Loom", "begin", "(III)I"⟩, 14) := ⟨⟨by decide +kernel, by decide +kernel⟩, List.mem_of_getElem? (i := 340) (by decide +kernel), List.mem_of_getElem? (i := 731) (by decide +kernel), List.mem_of_getElem? (i := 732) (by decide +kernel)⟩
theorem lw_p6 : lw_okq (⟨"EditsMeet$Works", "spare", "()I"⟩, 14) := ⟨⟨by decide +kernel, by decide +kernel⟩, List.mem_of_getElem? (i := 101) (by decide +kernel), List.mem_of_getElem? (i := 777) (by decide +kernel), List.mem_of_getElem? (i := 778) (by decide +kernel)⟩
theorem lw_p7 : lw_okq (⟨"EditsMeet$Works", "forgetRecipes", "()V"⟩, 14) := ⟨⟨by decide +kernel, by decide +kernel⟩, List.mem_of_getElem? (i := 101) (by decide +kernel), List.mem_of_getElem? (i := 781) (by decide +kernel), List.mem_of_getElem? (i := 782) (by decide +kernel)⟩
theorem lw_p8 : lw_okq (⟨"EditsMeet$Works", "note", "(II)V"⟩, 14) := ⟨⟨by decide +kernel, by decide +kernel⟩, List.mem_of_getElem? (i := 101) (by decide +kernel), List.mem_of_getElem? (i := 792) (by decide +kernel), List.mem_of_getElem? (i := 793) (by decide +kernel)⟩
theorem lw_p9 : lw_okq (⟨"EditsMeet$Works", "canBeGivenUp", "(II)Z"⟩, 14) := ⟨⟨by decide +kernel, by decide +kernel⟩, List.mem_of_getElem? (i := 101) (by decide +kernel), List.mem_of_getElem? (i := 870) (by decide +kernel), List.mem_of_getElem? (i := 871) (by decide +kernel)⟩
theorem lw_p10 : lw_okq (⟨"EditsMeet$Trees", "reach", "(I)V"⟩, 16) := ⟨⟨by decide +kernel, by decide +kernel⟩, List.mem_of_getElem? (i := 27) (by decide +kernel), List.mem_of_getElem? (i := 882) (by decide +kernel), List.mem_of_getElem? (i := 883) (by decide +kernel)⟩
theorem lw_p11 : lw_okq (⟨"EditsMeet$Trees", "throwAway", "(I)V"⟩, 16) := ⟨⟨by decide +kernel, by decide +kernel⟩, List.mem_of_getElem? (i := 27) (by decide +kernel), List.mem_of_getElem? (i := 898) (by decide +kernel), List.mem_of_getElem? (i := 899) (by decide +kernel)⟩
theorem lw_p12 : lw_okq (⟨"EditsMeet$Trees", "knowAgain", "(I)V"⟩, 16) := ⟨⟨by decide +kernel, by decide +kernel⟩, List.mem_of_getElem? (i := 27) (by decide +kernel), List.mem_of_getElem? (i := 903) (by decide +kernel), List.mem_of_getElem? (i := 904) (by decide +kernel)⟩
theorem lw_p13 : lw_okq (⟨"EditsMeet$Trees", "knownAt", "(I)I"⟩, 16) := ⟨⟨by decide +kernel, by decide +kernel⟩, List.mem_of_getElem? (i := 27) (by decide +kernel), List.mem_of_getElem? (i := 924) (by decide +kernel), List.mem_of_getElem? (i := 925) (by decide +kernel)⟩
theorem lw_p14 : lw_okq (⟨"EditsMeet$Trees", "know", "(II)V"⟩, 16) := ⟨⟨by decide +kernel, by decide +kernel⟩, List.mem_of_getElem? (i := 27) (by decide +kernel), List.mem_of_getElem? (i := 928) (by decide +kernel), List.mem_of_getElem? (i := 929) (by decide +kernel)⟩
theorem lw_p15 : lw_okq (⟨"EditsMeet$Loom", "beginTask", "(I)Z"⟩, 14) := ⟨⟨by decide +kernel, by decide +kernel⟩, List.mem_of_getElem? (i := 340) (by decide +kernel), List.mem_of_getElem? (i := 948) (by decide +kernel), List.mem_of_getElem? (i := 949) (by decide +kernel)⟩
def lw_privs_1 : List (MethodName × Nat) := [(⟨"EditsMeet", "shelfAt", "(I)LEditsMeet$Shelf;"⟩, 14), (⟨"EditsMeet", "refuse", "(I)I"⟩, 14), (⟨"EditsMeet$Shelf", "lowest", "(J)J"⟩, 6), (⟨"EditsMeet", "isEdit", "(I)Z"⟩, 14), (⟨"EditsMeet", "fetched", "(I)I"⟩, 14), (⟨"EditsMeet$Loom", "begin", "(III)I"⟩, 14), (⟨"EditsMeet$Works", "spare", "()I"⟩, 14), (⟨"EditsMeet$Works", "forgetRecipes", "()V"⟩, 14), (⟨"EditsMeet$Works", "note", "(II)V"⟩, 14), (⟨"EditsMeet$Works", "canBeGivenUp", "(II)Z"⟩, 14), (⟨"EditsMeet$Trees", "reach", "(I)V"⟩, 16), (⟨"EditsMeet$Trees", "throwAway", "(I)V"⟩, 16), (⟨"EditsMeet$Trees", "knowAgain", "(I)V"⟩, 16), (⟨"EditsMeet$Trees", "knownAt", "(I)I"⟩, 16), (⟨"EditsMeet$Trees", "know", "(II)V"⟩, 16), (⟨"EditsMeet$Loom", "beginTask", "(I)Z"⟩, 14)]
theorem lw_r1 : ∀ q ∈ lw_privs_1, lw_okq q := List.forall_mem_cons.mpr ⟨lw_p0, List.forall_mem_cons.mpr ⟨lw_p1, List.forall_mem_cons.mpr ⟨lw_p2, List.forall_mem_cons.mpr ⟨lw_p3, List.forall_mem_cons.mpr ⟨lw_p4, List.forall_mem_cons.mpr ⟨lw_p5, List.forall_mem_cons.mpr ⟨lw_p6, List.forall_mem_cons.mpr ⟨lw_p7, List.forall_mem_cons.mpr ⟨lw_p8, List.forall_mem_cons.mpr ⟨lw_p9, List.forall_mem_cons.mpr ⟨lw_p10, List.forall_mem_cons.mpr ⟨lw_p11, List.forall_mem_cons.mpr ⟨lw_p12, List.forall_mem_cons.mpr ⟨lw_p13, List.forall_mem_cons.mpr ⟨lw_p14, List.forall_mem_cons.mpr ⟨lw_p15, fun _ h => absurd h List.not_mem_nil⟩⟩⟩⟩⟩⟩⟩⟩⟩⟩⟩⟩⟩⟩⟩⟩
theorem lw_p16 : lw_okq (⟨"EditsMeet$Reader", "add", "(I)V"⟩, 20) := ⟨⟨by decide +kernel, by decide +kernel⟩, List.mem_of_getElem? (i := 159) (by decide +kernel), List.mem_of_getElem? (i := 956) (by decide +kernel), List.mem_of_getElem? (i := 957) (by decide +kernel)⟩
theorem lw_p17 : lw_okq (⟨"EditsMeet$Loom", "push", "(II)V"⟩, 14) := ⟨⟨by decide +kernel, by decide +kernel⟩, List.mem_of_getElem? (i := 340) (by decide +kernel), List.mem_of_getElem? (i := 964) (by decide +kernel), List.mem_of_getElem? (i := 965) (by decide +kernel)⟩
theorem lw_p18 : lw_okq (⟨"EditsMeet$Reader", "begin", "(IIJ)V"⟩, 20) := ⟨⟨by decide +kernel, by decide +kernel⟩, List.mem_of_getElem? (i := 159) (by decide +kernel), List.mem_of_getElem? (i := 982) (by decide +kernel), List.mem_of_getElem? (i := 983) (by decide +kernel)⟩
theorem lw_p19 : lw_okq (⟨"EditsMeet$Reader", "isReady", "(I)Z"⟩, 20) := ⟨⟨by decide +kernel, by decide +kernel⟩, List.mem_of_getElem? (i := 159) (by decide +kernel), List.mem_of_getElem? (i := 993) (by decide +kernel), List.mem_of_getElem? (i := 994) (by decide +kernel)⟩
theorem lw_p20 : lw_okq (⟨"EditsMeet$Reader", "windowAt", "(IJ)I"⟩, 20) := ⟨⟨by decide +kernel, by decide +kernel⟩, List.mem_of_getElem? (i := 159) (by decide +kernel), List.mem_of_getElem? (i := 997) (by decide +kernel), List.mem_of_getElem? (i := 998) (by decide +kernel)⟩
theorem lw_p21 : lw_okq (⟨"EditsMeet$Reader", "ask", "(IJ)Z"⟩, 20) := ⟨⟨by decide +kernel, by decide +kernel⟩, List.mem_of_getElem? (i := 159) (by decide +kernel), List.mem_of_getElem? (i := 1002) (by decide +kernel), List.mem_of_getElem? (i := 1003) (by decide +kernel)⟩
theorem lw_p22 : lw_okq (⟨"EditsMeet$Reader", "spare", "()I"⟩, 20) := ⟨⟨by decide +kernel, by decide +kernel⟩, List.mem_of_getElem? (i := 159) (by decide +kernel), List.mem_of_getElem? (i := 1006) (by decide +kernel), List.mem_of_getElem? (i := 1007) (by decide +kernel)⟩
theorem lw_p23 : lw_okq (⟨"EditsMeet$Reader", "isKept", "(II)Z"⟩, 20) := ⟨⟨by decide +kernel, by decide +kernel⟩, List.mem_of_getElem? (i := 159) (by decide +kernel), List.mem_of_getElem? (i := 1011) (by decide +kernel), List.mem_of_getElem? (i := 1012) (by decide +kernel)⟩
theorem lw_p24 : lw_okq (⟨"EditsMeet$Reader", "isWindow", "(I)Z"⟩, 20) := ⟨⟨by decide +kernel, by decide +kernel⟩, List.mem_of_getElem? (i := 159) (by decide +kernel), List.mem_of_getElem? (i := 1015) (by decide +kernel), List.mem_of_getElem? (i := 1016) (by decide +kernel)⟩
theorem lw_p25 : lw_okq (⟨"EditsMeet$Reader", "leap", "(IJ)V"⟩, 20) := ⟨⟨by decide +kernel, by decide +kernel⟩, List.mem_of_getElem? (i := 159) (by decide +kernel), List.mem_of_getElem? (i := 1021) (by decide +kernel), List.mem_of_getElem? (i := 1022) (by decide +kernel)⟩
theorem lw_p26 : lw_okq (⟨"EditsMeet$Reader", "isFull", "(I)Z"⟩, 20) := ⟨⟨by decide +kernel, by decide +kernel⟩, List.mem_of_getElem? (i := 159) (by decide +kernel), List.mem_of_getElem? (i := 1040) (by decide +kernel), List.mem_of_getElem? (i := 1041) (by decide +kernel)⟩
theorem lw_p27 : lw_okq (⟨"EditsMeet$Reader", "readNode", "(II)V"⟩, 20) := ⟨⟨by decide +kernel, by decide +kernel⟩, List.mem_of_getElem? (i := 159) (by decide +kernel), List.mem_of_getElem? (i := 1045) (by decide +kernel), List.mem_of_getElem? (i := 1046) (by decide +kernel)⟩
theorem lw_p28 : lw_okq (⟨"EditsMeet$Reader", "put", "(IIJ)V"⟩, 20) := ⟨⟨by decide +kernel, by decide +kernel⟩, List.mem_of_getElem? (i := 159) (by decide +kernel), List.mem_of_getElem? (i := 1087) (by decide +kernel), List.mem_of_getElem? (i := 1088) (by decide +kernel)⟩
theorem lw_p29 : lw_okq (⟨"EditsMeet$Reader", "weaveOn", "(II)I"⟩, 20) := ⟨⟨by decide +kernel, by decide +kernel⟩, List.mem_of_getElem? (i := 159) (by decide +kernel), List.mem_of_getElem? (i := 1093) (by decide +kernel), List.mem_of_getElem? (i := 1094) (by decide +kernel)⟩
theorem lw_p30 : lw_okq (⟨"EditsMeet$Reader", "pass", "(IJ)V"⟩, 20) := ⟨⟨by decide +kernel, by decide +kernel⟩, List.mem_of_getElem? (i := 159) (by decide +kernel), List.mem_of_getElem? (i := 1110) (by decide +kernel), List.mem_of_getElem? (i := 1111) (by decide +kernel)⟩
theorem lw_p31 : lw_okq (⟨"EditsMeet$Reader", "skip", "(J)V"⟩, 20) := ⟨⟨by decide +kernel, by decide +kernel⟩, List.mem_of_getElem? (i := 159) (by decide +kernel), List.mem_of_getElem? (i := 1114) (by decide +kernel), List.mem_of_getElem? (i := 1115) (by decide +kernel)⟩
def lw_privs_2 : List (MethodName × Nat) := [(⟨"EditsMeet$Reader", "add", "(I)V"⟩, 20), (⟨"EditsMeet$Loom", "push", "(II)V"⟩, 14), (⟨"EditsMeet$Reader", "begin", "(IIJ)V"⟩, 20), (⟨"EditsMeet$Reader", "isReady", "(I)Z"⟩, 20), (⟨"EditsMeet$Reader", "windowAt", "(IJ)I"⟩, 20), (⟨"EditsMeet$Reader", "ask", "(IJ)Z"⟩, 20), (⟨"EditsMeet$Reader", "spare", "()I"⟩, 20), (⟨"EditsMeet$Reader", "isKept", "(II)Z"⟩, 20), (⟨"EditsMeet$Reader", "isWindow", "(I)Z"⟩, 20), (⟨"EditsMeet$Reader", "leap", "(IJ)V"⟩, 20), (⟨"EditsMeet$Reader", "isFull", "(I)Z"⟩, 20), (⟨"EditsMeet$Reader", "readNode", "(II)V"⟩, 20), (⟨"EditsMeet$Reader", "put", "(IIJ)V"⟩, 20), (⟨"EditsMeet$Reader", "weaveOn", "(II)I"⟩, 20), (⟨"EditsMeet$Reader", "pass", "(IJ)V"⟩, 20), (⟨"EditsMeet$Reader", "skip", "(J)V"⟩, 20)]
theorem lw_r2 : ∀ q ∈ lw_privs_2, lw_okq q := List.forall_mem_cons.mpr ⟨lw_p16, List.forall_mem_cons.mpr ⟨lw_p17, List.forall_mem_cons.mpr ⟨lw_p18, List.forall_mem_cons.mpr ⟨lw_p19, List.forall_mem_cons.mpr ⟨lw_p20, List.forall_mem_cons.mpr ⟨lw_p21, List.forall_mem_cons.mpr ⟨lw_p22, List.forall_mem_cons.mpr ⟨lw_p23, List.forall_mem_cons.mpr ⟨lw_p24, List.forall_mem_cons.mpr ⟨lw_p25, List.forall_mem_cons.mpr ⟨lw_p26, List.forall_mem_cons.mpr ⟨lw_p27, List.forall_mem_cons.mpr ⟨lw_p28, List.forall_mem_cons.mpr ⟨lw_p29, List.forall_mem_cons.mpr ⟨lw_p30, List.forall_mem_cons.mpr ⟨lw_p31, fun _ h => absurd h List.not_mem_nil⟩⟩⟩⟩⟩⟩⟩⟩⟩⟩⟩⟩⟩⟩⟩⟩
theorem lw_p32 : lw_okq (⟨"EditsMeet$Loom", "gather", "(I)I"⟩, 14) := ⟨⟨by decide +kernel, by decide +kernel⟩, List.mem_of_getElem? (i := 340) (by decide +kernel), List.mem_of_getElem? (i := 1122) (by decide +kernel), List.mem_of_getElem? (i := 1123) (by decide +kernel)⟩
theorem lw_p33 : lw_okq (⟨"EditsMeet$Seam", "putAhead", "(LEditsMeet$Edge;I)V"⟩, 9) := ⟨⟨by decide +kernel, by decide +kernel⟩, List.mem_of_getElem? (i := 347) (by decide +kernel), List.mem_of_getElem? (i := 1159) (by decide +kernel), List.mem_of_getElem? (i := 1160) (by decide +kernel)⟩
theorem lw_p34 : lw_okq (⟨"EditsMeet$Seam", "putBehind", "(LEditsMeet$Edge;I)V"⟩, 9) := ⟨⟨by decide +kernel, by decide +kernel⟩, List.mem_of_getElem? (i := 347) (by decide +kernel), List.mem_of_getElem? (i := 1168) (by decide +kernel), List.mem_of_getElem? (i := 1169) (by decide +kernel)⟩
theorem lw_p35 : lw_okq (⟨"EditsMeet$Trees", "made", "(JJJ)I"⟩, 16) := ⟨⟨by decide +kernel, by decide +kernel⟩, List.mem_of_getElem? (i := 27) (by decide +kernel), List.mem_of_getElem? (i := 1180) (by decide +kernel), List.mem_of_getElem? (i := 1181) (by decide +kernel)⟩
theorem lw_p36 : lw_okq (⟨"EditsMeet$Trees", "spare", "()I"⟩, 16) := ⟨⟨by decide +kernel, by decide +kernel⟩, List.mem_of_getElem? (i := 27) (by decide +kernel), List.mem_of_getElem? (i := 1184) (by decide +kernel), List.mem_of_getElem? (i := 1185) (by decide +kernel)⟩
theorem lw_p37 : lw_okq (⟨"EditsMeet$Trees", "putSize", "(IJJ)Z"⟩, 16) := ⟨⟨by decide +kernel, by decide +kernel⟩, List.mem_of_getElem? (i := 27) (by decide +kernel), List.mem_of_getElem? (i := 1188) (by decide +kernel), List.mem_of_getElem? (i := 1189) (by decide +kernel)⟩
theorem lw_p38 : lw_okq (⟨"EditsMeet$Loom", "atOnce", "(III)I"⟩, 14) := ⟨⟨by decide +kernel, by decide +kernel⟩, List.mem_of_getElem? (i := 340) (by decide +kernel), List.mem_of_getElem? (i := 1229) (by decide +kernel), List.mem_of_getElem? (i := 1230) (by decide +kernel)⟩
theorem lw_p39 : lw_okq (⟨"EditsMeet$Loom", "remembered", "(II)I"⟩, 14) := ⟨⟨by decide +kernel, by decide +kernel⟩, List.mem_of_getElem? (i := 340) (by decide +kernel), List.mem_of_getElem? (i := 1244) (by decide +kernel), List.mem_of_getElem? (i := 1245) (by decide +kernel)⟩
theorem lw_p40 : lw_okq (⟨"EditsMeet$Loom", "keyOf", "(II)J"⟩, 14) := ⟨⟨by decide +kernel, by decide +kernel⟩, List.mem_of_getElem? (i := 340) (by decide +kernel), List.mem_of_getElem? (i := 1248) (by decide +kernel), List.mem_of_getElem? (i := 1249) (by decide +kernel)⟩
theorem lw_p41 : lw_okq (⟨"EditsMeet$Loom", "leafByLeaf", "(III)I"⟩, 14) := ⟨⟨by decide +kernel, by decide +kernel⟩, List.mem_of_getElem? (i := 340) (by decide +kernel), List.mem_of_getElem? (i := 1258) (by decide +kernel), List.mem_of_getElem? (i := 1259) (by decide +kernel)⟩
theorem lw_p42 : lw_okq (⟨"EditsMeet$Loom", "flatten", "(ILEditsMeet$Edge;)V"⟩, 14) := ⟨⟨by decide +kernel, by decide +kernel⟩, List.mem_of_getElem? (i := 340) (by decide +kernel), List.mem_of_getElem? (i := 1262) (by decide +kernel), List.mem_of_getElem? (i := 1263) (by decide +kernel)⟩
theorem lw_p43 : lw_okq (⟨"EditsMeet$Loom", "remember", "(III)V"⟩, 14) := ⟨⟨by decide +kernel, by decide +kernel⟩, List.mem_of_getElem? (i := 340) (by decide +kernel), List.mem_of_getElem? (i := 1283) (by decide +kernel), List.mem_of_getElem? (i := 1284) (by decide +kernel)⟩
theorem lw_p44 : lw_okq (⟨"EditsMeet$Loom", "divide", "(II)V"⟩, 14) := ⟨⟨by decide +kernel, by decide +kernel⟩, List.mem_of_getElem? (i := 340) (by decide +kernel), List.mem_of_getElem? (i := 1287) (by decide +kernel), List.mem_of_getElem? (i := 1288) (by decide +kernel)⟩
theorem lw_p45 : lw_okq (⟨"EditsMeet$Loom", "leads", "(II)Z"⟩, 14) := ⟨⟨by decide +kernel, by decide +kernel⟩, List.mem_of_getElem? (i := 340) (by decide +kernel), List.mem_of_getElem? (i := 1291) (by decide +kernel), List.mem_of_getElem? (i := 1292) (by decide +kernel)⟩
theorem lw_p46 : lw_okq (⟨"EditsMeet$Seam", "clear", "()V"⟩, 9) := ⟨⟨by decide +kernel, by decide +kernel⟩, List.mem_of_getElem? (i := 347) (by decide +kernel), List.mem_of_getElem? (i := 1313) (by decide +kernel), List.mem_of_getElem? (i := 1314) (by decide +kernel)⟩
theorem lw_p47 : lw_okq (⟨"EditsMeet$Seam", "partLast", "(I)V"⟩, 9) := ⟨⟨by decide +kernel, by decide +kernel⟩, List.mem_of_getElem? (i := 347) (by decide +kernel), List.mem_of_getElem? (i := 1347) (by decide +kernel), List.mem_of_getElem? (i := 1348) (by decide +kernel)⟩
def lw_privs_3 : List (MethodName × Nat) := [(⟨"EditsMeet$Loom", "gather", "(I)I"⟩, 14), (⟨"EditsMeet$Seam", "putAhead", "(LEditsMeet$Edge;I)V"⟩, 9), (⟨"EditsMeet$Seam", "putBehind", "(LEditsMeet$Edge;I)V"⟩, 9), (⟨"EditsMeet$Trees", "made", "(JJJ)I"⟩, 16), (⟨"EditsMeet$Trees", "spare", "()I"⟩, 16), (⟨"EditsMeet$Trees", "putSize", "(IJJ)Z"⟩, 16), (⟨"EditsMeet$Loom", "atOnce", "(III)I"⟩, 14), (⟨"EditsMeet$Loom", "remembered", "(II)I"⟩, 14), (⟨"EditsMeet$Loom", "keyOf", "(II)J"⟩, 14), (⟨"EditsMeet$Loom", "leafByLeaf", "(III)I"⟩, 14), (⟨"EditsMeet$Loom", "flatten", "(ILEditsMeet$Edge;)V"⟩, 14), (⟨"EditsMeet$Loom", "remember", "(III)V"⟩, 14), (⟨"EditsMeet$Loom", "divide", "(II)V"⟩, 14), (⟨"EditsMeet$Loom", "leads", "(II)Z"⟩, 14), (⟨"EditsMeet$Seam", "clear", "()V"⟩, 9), (⟨"EditsMeet$Seam", "partLast", "(I)V"⟩, 9)]
theorem lw_r3 : ∀ q ∈ lw_privs_3, lw_okq q := List.forall_mem_cons.mpr ⟨lw_p32, List.forall_mem_cons.mpr ⟨lw_p33, List.forall_mem_cons.mpr ⟨lw_p34, List.forall_mem_cons.mpr ⟨lw_p35, List.forall_mem_cons.mpr ⟨lw_p36, List.forall_mem_cons.mpr ⟨lw_p37, List.forall_mem_cons.mpr ⟨lw_p38, List.forall_mem_cons.mpr ⟨lw_p39, List.forall_mem_cons.mpr ⟨lw_p40, List.forall_mem_cons.mpr ⟨lw_p41, List.forall_mem_cons.mpr ⟨lw_p42, List.forall_mem_cons.mpr ⟨lw_p43, List.forall_mem_cons.mpr ⟨lw_p44, List.forall_mem_cons.mpr ⟨lw_p45, List.forall_mem_cons.mpr ⟨lw_p46, List.forall_mem_cons.mpr ⟨lw_p47, fun _ h => absurd h List.not_mem_nil⟩⟩⟩⟩⟩⟩⟩⟩⟩⟩⟩⟩⟩⟩⟩⟩
theorem lw_p48 : lw_okq (⟨"EditsMeet$Teller", "sum", "(I)J"⟩, 19) := ⟨⟨by decide +kernel, by decide +kernel⟩, List.mem_of_getElem? (i := 270) (by decide +kernel), List.mem_of_getElem? (i := 1367) (by decide +kernel), List.mem_of_getElem? (i := 1368) (by decide +kernel)⟩
theorem lw_p49 : lw_okq (⟨"EditsMeet$Teller", "atHand", "(I)J"⟩, 19) := ⟨⟨by decide +kernel, by decide +kernel⟩, List.mem_of_getElem? (i := 270) (by decide +kernel), List.mem_of_getElem? (i := 1371) (by decide +kernel), List.mem_of_getElem? (i := 1372) (by decide +kernel)⟩
theorem lw_p50 : lw_okq (⟨"EditsMeet$Teller", "ofAct", "(IJ)J"⟩, 19) := ⟨⟨by decide +kernel, by decide +kernel⟩, List.mem_of_getElem? (i := 270) (by decide +kernel), List.mem_of_getElem? (i := 1384) (by decide +kernel), List.mem_of_getElem? (i := 1385) (by decide +kernel)⟩
theorem lw_p51 : lw_okq (⟨"EditsMeet$Teller", "open", "(II)V"⟩, 19) := ⟨⟨by decide +kernel, by decide +kernel⟩, List.mem_of_getElem? (i := 270) (by decide +kernel), List.mem_of_getElem? (i := 1404) (by decide +kernel), List.mem_of_getElem? (i := 1405) (by decide +kernel)⟩
theorem lw_p52 : lw_okq (⟨"EditsMeet$Teller", "sumOfRun", "(IJ)J"⟩, 19) := ⟨⟨by decide +kernel, by decide +kernel⟩, List.mem_of_getElem? (i := 270) (by decide +kernel), List.mem_of_getElem? (i := 1412) (by decide +kernel), List.mem_of_getElem? (i := 1413) (by decide +kernel)⟩
theorem lw_p53 : lw_okq (⟨"EditsMeet$Teller", "sumOfPair", "(IJJ)J"⟩, 19) := ⟨⟨by decide +kernel, by decide +kernel⟩, List.mem_of_getElem? (i := 270) (by decide +kernel), List.mem_of_getElem? (i := 1423) (by decide +kernel), List.mem_of_getElem? (i := 1424) (by decide +kernel)⟩
theorem lw_p54 : lw_okq (⟨"EditsMeet$Teller", "note", "(IJ)V"⟩, 19) := ⟨⟨by decide +kernel, by decide +kernel⟩, List.mem_of_getElem? (i := 270) (by decide +kernel), List.mem_of_getElem? (i := 1427) (by decide +kernel), List.mem_of_getElem? (i := 1428) (by decide +kernel)⟩
theorem lw_p55 : lw_okq (⟨"EditsMeet$Teller", "readPart", "(IJ)Z"⟩, 19) := ⟨⟨by decide +kernel, by decide +kernel⟩, List.mem_of_getElem? (i := 270) (by decide +kernel), List.mem_of_getElem? (i := 1438) (by decide +kernel), List.mem_of_getElem? (i := 1439) (by decide +kernel)⟩
theorem lw_p56 : lw_okq (⟨"EditsMeet$Teller", "seek", "(IJ)V"⟩, 19) := ⟨⟨by decide +kernel, by decide +kernel⟩, List.mem_of_getElem? (i := 270) (by decide +kernel), List.mem_of_getElem? (i := 1442) (by decide +kernel), List.mem_of_getElem? (i := 1443) (by decide +kernel)⟩
theorem lw_p57 : lw_okq (⟨"EditsMeet$Tape", "readAct", "()V"⟩, 8) := ⟨⟨by decide +kernel, by decide +kernel⟩, List.mem_of_getElem? (i := 443) (by decide +kernel), List.mem_of_getElem? (i := 1516) (by decide +kernel), List.mem_of_getElem? (i := 1517) (by decide +kernel)⟩
theorem lw_p58 : lw_okq (⟨"EditsMeet$Tape", "signAt", "(I)I"⟩, 8) := ⟨⟨by decide +kernel, by decide +kernel⟩, List.mem_of_getElem? (i := 443) (by decide +kernel), List.mem_of_getElem? (i := 1520) (by decide +kernel), List.mem_of_getElem? (i := 1521) (by decide +kernel)⟩
theorem lw_p59 : lw_okq (⟨"EditsMeet$Tape", "readLetter", "()V"⟩, 8) := ⟨⟨by decide +kernel, by decide +kernel⟩, List.mem_of_getElem? (i := 443) (by decide +kernel), List.mem_of_getElem? (i := 1527) (by decide +kernel), List.mem_of_getElem? (i := 1528) (by decide +kernel)⟩
theorem lw_p60 : lw_okq (⟨"EditsMeet$Tape", "readOver", "(I)V"⟩, 8) := ⟨⟨by decide +kernel, by decide +kernel⟩, List.mem_of_getElem? (i := 443) (by decide +kernel), List.mem_of_getElem? (i := 1531) (by decide +kernel), List.mem_of_getElem? (i := 1532) (by decide +kernel)⟩
theorem lw_p61 : lw_okq (⟨"EditsMeet$Tape", "readNumber", "(I)I"⟩, 8) := ⟨⟨by decide +kernel, by decide +kernel⟩, List.mem_of_getElem? (i := 443) (by decide +kernel), List.mem_of_getElem? (i := 1535) (by decide +kernel), List.mem_of_getElem? (i := 1536) (by decide +kernel)⟩
theorem lw_p62 : lw_okq (⟨"EditsMeet$Tape", "readDot", "()V"⟩, 8) := ⟨⟨by decide +kernel, by decide +kernel⟩, List.mem_of_getElem? (i := 443) (by decide +kernel), List.mem_of_getElem? (i := 1542) (by decide +kernel), List.mem_of_getElem? (i := 1543) (by decide +kernel)⟩
theorem lw_p63 : lw_okq (⟨"EditsMeet", "keep", "(II)I"⟩, 14) := ⟨⟨by decide +kernel, by decide +kernel⟩, List.mem_of_getElem? (i := 19) (by decide +kernel), List.mem_of_getElem? (i := 1565) (by decide +kernel), List.mem_of_getElem? (i := 1566) (by decide +kernel)⟩
def lw_privs_4 : List (MethodName × Nat) := [(⟨"EditsMeet$Teller", "sum", "(I)J"⟩, 19), (⟨"EditsMeet$Teller", "atHand", "(I)J"⟩, 19), (⟨"EditsMeet$Teller", "ofAct", "(IJ)J"⟩, 19), (⟨"EditsMeet$Teller", "open", "(II)V"⟩, 19), (⟨"EditsMeet$Teller", "sumOfRun", "(IJ)J"⟩, 19), (⟨"EditsMeet$Teller", "sumOfPair", "(IJJ)J"⟩, 19), (⟨"EditsMeet$Teller", "note", "(IJ)V"⟩, 19), (⟨"EditsMeet$Teller", "readPart", "(IJ)Z"⟩, 19), (⟨"EditsMeet$Teller", "seek", "(IJ)V"⟩, 19), (⟨"EditsMeet$Tape", "readAct", "()V"⟩, 8), (⟨"EditsMeet$Tape", "signAt", "(I)I"⟩, 8), (⟨"EditsMeet$Tape", "readLetter", "()V"⟩, 8), (⟨"EditsMeet$Tape", "readOver", "(I)V"⟩, 8), (⟨"EditsMeet$Tape", "readNumber", "(I)I"⟩, 8), (⟨"EditsMeet$Tape", "readDot", "()V"⟩, 8), (⟨"EditsMeet", "keep", "(II)I"⟩, 14)]
theorem lw_r4 : ∀ q ∈ lw_privs_4, lw_okq q := List.forall_mem_cons.mpr ⟨lw_p48, List.forall_mem_cons.mpr ⟨lw_p49, List.forall_mem_cons.mpr ⟨lw_p50, List.forall_mem_cons.mpr ⟨lw_p51, List.forall_mem_cons.mpr ⟨lw_p52, List.forall_mem_cons.mpr ⟨lw_p53, List.forall_mem_cons.mpr ⟨lw_p54, List.forall_mem_cons.mpr ⟨lw_p55, List.forall_mem_cons.mpr ⟨lw_p56, List.forall_mem_cons.mpr ⟨lw_p57, List.forall_mem_cons.mpr ⟨lw_p58, List.forall_mem_cons.mpr ⟨lw_p59, List.forall_mem_cons.mpr ⟨lw_p60, List.forall_mem_cons.mpr ⟨lw_p61, List.forall_mem_cons.mpr ⟨lw_p62, List.forall_mem_cons.mpr ⟨lw_p63, fun _ h => absurd h List.not_mem_nil⟩⟩⟩⟩⟩⟩⟩⟩⟩⟩⟩⟩⟩⟩⟩⟩
theorem lw_p64 : lw_okq (⟨"EditsMeet", "measured", "(I)I"⟩, 14) := ⟨⟨by decide +kernel, by decide +kernel⟩, List.mem_of_getElem? (i := 19) (by decide +kernel), List.mem_of_getElem? (i := 1576) (by decide +kernel), List.mem_of_getElem? (i := 1577) (by decide +kernel)⟩
theorem lw_p65 : lw_okq (⟨"EditsMeet$Teller", "readSign", "(II)Z"⟩, 19) := ⟨⟨by decide +kernel, by decide +kernel⟩, List.mem_of_getElem? (i := 270) (by decide +kernel), List.mem_of_getElem? (i := 1629) (by decide +kernel), List.mem_of_getElem? (i := 1630) (by decide +kernel)⟩
theorem lw_p66 : lw_okq (⟨"EditsMeet$Teller", "spell", "()V"⟩, 19) := ⟨⟨by decide +kernel, by decide +kernel⟩, List.mem_of_getElem? (i := 270) (by decide +kernel), List.mem_of_getElem? (i := 1634) (by decide +kernel), List.mem_of_getElem? (i := 1635) (by decide +kernel)⟩
theorem lw_p67 : lw_okq (⟨"EditsMeet$Teller", "spellSign", "(C)V"⟩, 19) := ⟨⟨by decide +kernel, by decide +kernel⟩, List.mem_of_getElem? (i := 270) (by decide +kernel), List.mem_of_getElem? (i := 1638) (by decide +kernel), List.mem_of_getElem? (i := 1639) (by decide +kernel)⟩
theorem lw_p68 : lw_okq (⟨"EditsMeet$Teller", "spellNumber", "(J)V"⟩, 19) := ⟨⟨by decide +kernel, by decide +kernel⟩, List.mem_of_getElem? (i := 270) (by decide +kernel), List.mem_of_getElem? (i := 1642) (by decide +kernel), List.mem_of_getElem? (i := 1643) (by decide +kernel)⟩
theorem lw_p69 : lw_okq (⟨"EditsMeet", "isTooBig", "(I)Z"⟩, 14) := ⟨⟨by decide +kernel, by decide +kernel⟩, List.mem_of_getElem? (i := 19) (by decide +kernel), List.mem_of_getElem? (i := 1652) (by decide +kernel), List.mem_of_getElem? (i := 1653) (by decide +kernel)⟩
theorem lw_p70 : lw_okq (⟨"EditsMeet$Teller", "passAlike", "(IIZ)V"⟩, 19) := ⟨⟨by decide +kernel, by decide +kernel⟩, List.mem_of_getElem? (i := 270) (by decide +kernel), List.mem_of_getElem? (i := 1695) (by decide +kernel), List.mem_of_getElem? (i := 1696) (by decide +kernel)⟩
theorem lw_p71 : lw_okq (⟨"EditsMeet$Teller", "passBoth", "(JZ)V"⟩, 19) := ⟨⟨by decide +kernel, by decide +kernel⟩, List.mem_of_getElem? (i := 270) (by decide +kernel), List.mem_of_getElem? (i := 1705) (by decide +kernel), List.mem_of_getElem? (i := 1706) (by decide +kernel)⟩
theorem lw_p72 : lw_okq (⟨"EditsMeet$Client", "drop", "(I)V"⟩, 11) := ⟨⟨by decide +kernel, by decide +kernel⟩, List.mem_of_getElem? (i := 478) (by decide +kernel), List.mem_of_getElem? (i := 1750) (by decide +kernel), List.mem_of_getElem? (i := 1751) (by decide +kernel)⟩
theorem lw_p73 : lw_okq (⟨"EditsMeet$Client", "putCount", "(II)V"⟩, 11) := ⟨⟨by decide +kernel, by decide +kernel⟩, List.mem_of_getElem? (i := 478) (by decide +kernel), List.mem_of_getElem? (i := 1758) (by decide +kernel), List.mem_of_getElem? (i := 1759) (by decide +kernel)⟩
theorem lw_p74 : lw_okq (⟨"EditsMeet$Client", "keep", "(II)V"⟩, 11) := ⟨⟨by decide +kernel, by decide +kernel⟩, List.mem_of_getElem? (i := 478) (by decide +kernel), List.mem_of_getElem? (i := 1767) (by decide +kernel), List.mem_of_getElem? (i := 1768) (by decide +kernel)⟩
theorem lw_p75 : lw_okq (⟨"EditsMeet", "hasNoRoom", "(LEditsMeet$Client;)Z"⟩, 14) := ⟨⟨by decide +kernel, by decide +kernel⟩, List.mem_of_getElem? (i := 19) (by decide +kernel), List.mem_of_getElem? (i := 1780) (by decide +kernel), List.mem_of_getElem? (i := 1781) (by decide +kernel)⟩
theorem lw_p76 : lw_okq (⟨"EditsMeet$Client", "sendWaiting", "()V"⟩, 11) := ⟨⟨by decide +kernel, by decide +kernel⟩, List.mem_of_getElem? (i := 478) (by decide +kernel), List.mem_of_getElem? (i := 1857) (by decide +kernel), List.mem_of_getElem? (i := 1858) (by decide +kernel)⟩
theorem lw_p77 : lw_okq (⟨"EditsMeet$Client", "passedAt", "(I)I"⟩, 11) := ⟨⟨by decide +kernel, by decide +kernel⟩, List.mem_of_getElem? (i := 478) (by decide +kernel), List.mem_of_getElem? (i := 1861) (by decide +kernel), List.mem_of_getElem? (i := 1862) (by decide +kernel)⟩
theorem lw_p78 : lw_okq (⟨"EditsMeet", "canBe", "(LEditsMeet$Client;I)Z"⟩, 14) := ⟨⟨by decide +kernel, by decide +kernel⟩, List.mem_of_getElem? (i := 19) (by decide +kernel), List.mem_of_getElem? (i := 1940) (by decide +kernel), List.mem_of_getElem? (i := 1941) (by decide +kernel)⟩
theorem lw_p79 : lw_okq (⟨"EditsMeet", "draftByDraws", "(LEditsMeet$Client;I)V"⟩, 14) := ⟨⟨by decide +kernel, by decide +kernel⟩, List.mem_of_getElem? (i := 19) (by decide +kernel), List.mem_of_getElem? (i := 1944) (by decide +kernel), List.mem_of_getElem? (i := 1945) (by decide +kernel)⟩
def lw_privs_5 : List (MethodName × Nat) := [(⟨"EditsMeet", "measured", "(I)I"⟩, 14), (⟨"EditsMeet$Teller", "readSign", "(II)Z"⟩, 19), (⟨"EditsMeet$Teller", "spell", "()V"⟩, 19), (⟨"EditsMeet$Teller", "spellSign", "(C)V"⟩, 19), (⟨"EditsMeet$Teller", "spellNumber", "(J)V"⟩, 19), (⟨"EditsMeet", "isTooBig", "(I)Z"⟩, 14), (⟨"EditsMeet$Teller", "passAlike", "(IIZ)V"⟩, 19), (⟨"EditsMeet$Teller", "passBoth", "(JZ)V"⟩, 19), (⟨"EditsMeet$Client", "drop", "(I)V"⟩, 11), (⟨"EditsMeet$Client", "putCount", "(II)V"⟩, 11), (⟨"EditsMeet$Client", "keep", "(II)V"⟩, 11), (⟨"EditsMeet", "hasNoRoom", "(LEditsMeet$Client;)Z"⟩, 14), (⟨"EditsMeet$Client", "sendWaiting", "()V"⟩, 11), (⟨"EditsMeet$Client", "passedAt", "(I)I"⟩, 11), (⟨"EditsMeet", "canBe", "(LEditsMeet$Client;I)Z"⟩, 14), (⟨"EditsMeet", "draftByDraws", "(LEditsMeet$Client;I)V"⟩, 14)]
theorem lw_r5 : ∀ q ∈ lw_privs_5, lw_okq q := List.forall_mem_cons.mpr ⟨lw_p64, List.forall_mem_cons.mpr ⟨lw_p65, List.forall_mem_cons.mpr ⟨lw_p66, List.forall_mem_cons.mpr ⟨lw_p67, List.forall_mem_cons.mpr ⟨lw_p68, List.forall_mem_cons.mpr ⟨lw_p69, List.forall_mem_cons.mpr ⟨lw_p70, List.forall_mem_cons.mpr ⟨lw_p71, List.forall_mem_cons.mpr ⟨lw_p72, List.forall_mem_cons.mpr ⟨lw_p73, List.forall_mem_cons.mpr ⟨lw_p74, List.forall_mem_cons.mpr ⟨lw_p75, List.forall_mem_cons.mpr ⟨lw_p76, List.forall_mem_cons.mpr ⟨lw_p77, List.forall_mem_cons.mpr ⟨lw_p78, List.forall_mem_cons.mpr ⟨lw_p79, fun _ h => absurd h List.not_mem_nil⟩⟩⟩⟩⟩⟩⟩⟩⟩⟩⟩⟩⟩⟩⟩⟩
theorem lw_p80 : lw_okq (⟨"EditsMeet", "clientsAlike", "()I"⟩, 14) := ⟨⟨by decide +kernel, by decide +kernel⟩, List.mem_of_getElem? (i := 19) (by decide +kernel), List.mem_of_getElem? (i := 1972) (by decide +kernel), List.mem_of_getElem? (i := 1973) (by decide +kernel)⟩
theorem lw_p81 : lw_okq (⟨"EditsMeet", "editsByNumber", "()I"⟩, 14) := ⟨⟨by decide +kernel, by decide +kernel⟩, List.mem_of_getElem? (i := 19) (by decide +kernel), List.mem_of_getElem? (i := 1979) (by decide +kernel), List.mem_of_getElem? (i := 1980) (by decide +kernel)⟩
theorem lw_p82 : lw_okq (⟨"EditsMeet", "allLetters", "()J"⟩, 14) := ⟨⟨by decide +kernel, by decide +kernel⟩, List.mem_of_getElem? (i := 19) (by decide +kernel), List.mem_of_getElem? (i := 1983) (by decide +kernel), List.mem_of_getElem? (i := 1984) (by decide +kernel)⟩
theorem lw_p83 : lw_okq (⟨"EditsMeet", "shelvesInUse", "()I"⟩, 14) := ⟨⟨by decide +kernel, by decide +kernel⟩, List.mem_of_getElem? (i := 19) (by decide +kernel), List.mem_of_getElem? (i := 1991) (by decide +kernel), List.mem_of_getElem? (i := 1992) (by decide +kernel)⟩
theorem lw_p84 : lw_okq (⟨"EditsMeetModel", "refused", "(I)I"⟩, 33) := ⟨⟨by decide +kernel, by decide +kernel⟩, List.mem_of_getElem? (i := 1995) (by decide +kernel), List.mem_of_getElem? (i := 2111) (by decide +kernel), List.mem_of_getElem? (i := 2112) (by decide +kernel)⟩
theorem lw_p85 : lw_okq (⟨"EditsMeetModel", "isPart", "()Z"⟩, 33) := ⟨⟨by decide +kernel, by decide +kernel⟩, List.mem_of_getElem? (i := 1995) (by decide +kernel), List.mem_of_getElem? (i := 2127) (by decide +kernel), List.mem_of_getElem? (i := 2128) (by decide +kernel)⟩
theorem lw_p86 : lw_okq (⟨"EditsMeetModel", "byteAt", "(I)I"⟩, 33) := ⟨⟨by decide +kernel, by decide +kernel⟩, List.mem_of_getElem? (i := 1995) (by decide +kernel), List.mem_of_getElem? (i := 2131) (by decide +kernel), List.mem_of_getElem? (i := 2132) (by decide +kernel)⟩
theorem lw_p87 : lw_okq (⟨"EditsMeetModel", "adds", "(II)V"⟩, 33) := ⟨⟨by decide +kernel, by decide +kernel⟩, List.mem_of_getElem? (i := 1995) (by decide +kernel), List.mem_of_getElem? (i := 2138) (by decide +kernel), List.mem_of_getElem? (i := 2139) (by decide +kernel)⟩
theorem lw_p88 : lw_okq (⟨"EditsMeetModel", "isNumber", "(I)Z"⟩, 33) := ⟨⟨by decide +kernel, by decide +kernel⟩, List.mem_of_getElem? (i := 1995) (by decide +kernel), List.mem_of_getElem? (i := 2142) (by decide +kernel), List.mem_of_getElem? (i := 2143) (by decide +kernel)⟩
theorem lw_p89 : lw_okq (⟨"EditsMeetModel", "plain", "(I)V"⟩, 33) := ⟨⟨by decide +kernel, by decide +kernel⟩, List.mem_of_getElem? (i := 1995) (by decide +kernel), List.mem_of_getElem? (i := 2151) (by decide +kernel), List.mem_of_getElem? (i := 2152) (by decide +kernel)⟩
theorem lw_p90 : lw_okq (⟨"EditsMeetModel", "comes", "(II)I"⟩, 33) := ⟨⟨by decide +kernel, by decide +kernel⟩, List.mem_of_getElem? (i := 1995) (by decide +kernel), List.mem_of_getElem? (i := 2159) (by decide +kernel), List.mem_of_getElem? (i := 2160) (by decide +kernel)⟩
theorem lw_p91 : lw_okq (⟨"EditsMeetModel", "keepsRow", "(II)V"⟩, 33) := ⟨⟨by decide +kernel, by decide +kernel⟩, List.mem_of_getElem? (i := 1995) (by decide +kernel), List.mem_of_getElem? (i := 2163) (by decide +kernel), List.mem_of_getElem? (i := 2164) (by decide +kernel)⟩
theorem lw_p92 : lw_okq (⟨"EditsMeetModel", "parts", "(I)I"⟩, 33) := ⟨⟨by decide +kernel, by decide +kernel⟩, List.mem_of_getElem? (i := 1995) (by decide +kernel), List.mem_of_getElem? (i := 2170) (by decide +kernel), List.mem_of_getElem? (i := 2171) (by decide +kernel)⟩
theorem lw_p93 : lw_okq (⟨"EditsMeetModel", "isKept", "(I)Z"⟩, 33) := ⟨⟨by decide +kernel, by decide +kernel⟩, List.mem_of_getElem? (i := 1995) (by decide +kernel), List.mem_of_getElem? (i := 2182) (by decide +kernel), List.mem_of_getElem? (i := 2183) (by decide +kernel)⟩
theorem lw_p94 : lw_okq (⟨"EditsMeetModel", "from", "(I)I"⟩, 33) := ⟨⟨by decide +kernel, by decide +kernel⟩, List.mem_of_getElem? (i := 1995) (by decide +kernel), List.mem_of_getElem? (i := 2186) (by decide +kernel), List.mem_of_getElem? (i := 2187) (by decide +kernel)⟩
theorem lw_p95 : lw_okq (⟨"EditsMeetModel", "to", "(I)I"⟩, 33) := ⟨⟨by decide +kernel, by decide +kernel⟩, List.mem_of_getElem? (i := 1995) (by decide +kernel), List.mem_of_getElem? (i := 2193) (by decide +kernel), List.mem_of_getElem? (i := 2194) (by decide +kernel)⟩
def lw_privs_6 : List (MethodName × Nat) := [(⟨"EditsMeet", "clientsAlike", "()I"⟩, 14), (⟨"EditsMeet", "editsByNumber", "()I"⟩, 14), (⟨"EditsMeet", "allLetters", "()J"⟩, 14), (⟨"EditsMeet", "shelvesInUse", "()I"⟩, 14), (⟨"EditsMeetModel", "refused", "(I)I"⟩, 33), (⟨"EditsMeetModel", "isPart", "()Z"⟩, 33), (⟨"EditsMeetModel", "byteAt", "(I)I"⟩, 33), (⟨"EditsMeetModel", "adds", "(II)V"⟩, 33), (⟨"EditsMeetModel", "isNumber", "(I)Z"⟩, 33), (⟨"EditsMeetModel", "plain", "(I)V"⟩, 33), (⟨"EditsMeetModel", "comes", "(II)I"⟩, 33), (⟨"EditsMeetModel", "keepsRow", "(II)V"⟩, 33), (⟨"EditsMeetModel", "parts", "(I)I"⟩, 33), (⟨"EditsMeetModel", "isKept", "(I)Z"⟩, 33), (⟨"EditsMeetModel", "from", "(I)I"⟩, 33), (⟨"EditsMeetModel", "to", "(I)I"⟩, 33)]
theorem lw_r6 : ∀ q ∈ lw_privs_6, lw_okq q := List.forall_mem_cons.mpr ⟨lw_p80, List.forall_mem_cons.mpr ⟨lw_p81, List.forall_mem_cons.mpr ⟨lw_p82, List.forall_mem_cons.mpr ⟨lw_p83, List.forall_mem_cons.mpr ⟨lw_p84, List.forall_mem_cons.mpr ⟨lw_p85, List.forall_mem_cons.mpr ⟨lw_p86, List.forall_mem_cons.mpr ⟨lw_p87, List.forall_mem_cons.mpr ⟨lw_p88, List.forall_mem_cons.mpr ⟨lw_p89, List.forall_mem_cons.mpr ⟨lw_p90, List.forall_mem_cons.mpr ⟨lw_p91, List.forall_mem_cons.mpr ⟨lw_p92, List.forall_mem_cons.mpr ⟨lw_p93, List.forall_mem_cons.mpr ⟨lw_p94, List.forall_mem_cons.mpr ⟨lw_p95, fun _ h => absurd h List.not_mem_nil⟩⟩⟩⟩⟩⟩⟩⟩⟩⟩⟩⟩⟩⟩⟩⟩
theorem lw_p96 : lw_okq (⟨"EditsMeetModel", "letters", "(II)I"⟩, 33) := ⟨⟨by decide +kernel, by decide +kernel⟩, List.mem_of_getElem? (i := 1995) (by decide +kernel), List.mem_of_getElem? (i := 2197) (by decide +kernel), List.mem_of_getElem? (i := 2198) (by decide +kernel)⟩
theorem lw_p97 : lw_okq (⟨"EditsMeetModel", "beginOf", "(II)I"⟩, 33) := ⟨⟨by decide +kernel, by decide +kernel⟩, List.mem_of_getElem? (i := 1995) (by decide +kernel), List.mem_of_getElem? (i := 2206) (by decide +kernel), List.mem_of_getElem? (i := 2207) (by decide +kernel)⟩
theorem lw_p98 : lw_okq (⟨"EditsMeetModel", "tells", "(I)V"⟩, 33) := ⟨⟨by decide +kernel, by decide +kernel⟩, List.mem_of_getElem? (i := 1995) (by decide +kernel), List.mem_of_getElem? (i := 2221) (by decide +kernel), List.mem_of_getElem? (i := 2222) (by decide +kernel)⟩
theorem lw_p99 : lw_okq (⟨"EditsMeetModel", "tellsPart", "(II)V"⟩, 33) := ⟨⟨by decide +kernel, by decide +kernel⟩, List.mem_of_getElem? (i := 1995) (by decide +kernel), List.mem_of_getElem? (i := 2225) (by decide +kernel), List.mem_of_getElem? (i := 2226) (by decide +kernel)⟩
theorem lw_p100 : lw_okq (⟨"EditsMeetModel", "tellsNumber", "(I)V"⟩, 33) := ⟨⟨by decide +kernel, by decide +kernel⟩, List.mem_of_getElem? (i := 1995) (by decide +kernel), List.mem_of_getElem? (i := 2229) (by decide +kernel), List.mem_of_getElem? (i := 2230) (by decide +kernel)⟩
theorem lw_p101 : lw_okq (⟨"EditsMeetModel", "takesRow", "(II)V"⟩, 33) := ⟨⟨by decide +kernel, by decide +kernel⟩, List.mem_of_getElem? (i := 1995) (by decide +kernel), List.mem_of_getElem? (i := 2237) (by decide +kernel), List.mem_of_getElem? (i := 2238) (by decide +kernel)⟩
theorem lw_p102 : lw_okq (⟨"EditsMeetModel", "behindRow", "(III)V"⟩, 33) := ⟨⟨by decide +kernel, by decide +kernel⟩, List.mem_of_getElem? (i := 1995) (by decide +kernel), List.mem_of_getElem? (i := 2241) (by decide +kernel), List.mem_of_getElem? (i := 2242) (by decide +kernel)⟩
theorem lw_p103 : lw_okq (⟨"EditsMeetModel", "together", "(III)V"⟩, 33) := ⟨⟨by decide +kernel, by decide +kernel⟩, List.mem_of_getElem? (i := 1995) (by decide +kernel), List.mem_of_getElem? (i := 2245) (by decide +kernel), List.mem_of_getElem? (i := 2246) (by decide +kernel)⟩
theorem lw_p104 : lw_okq (⟨"EditsMeetModel", "made", "(II)I"⟩, 33) := ⟨⟨by decide +kernel, by decide +kernel⟩, List.mem_of_getElem? (i := 1995) (by decide +kernel), List.mem_of_getElem? (i := 2252) (by decide +kernel), List.mem_of_getElem? (i := 2253) (by decide +kernel)⟩
theorem lw_p105 : lw_okq (⟨"EditsMeetModel", "isTooLarge", "(I)Z"⟩, 33) := ⟨⟨by decide +kernel, by decide +kernel⟩, List.mem_of_getElem? (i := 1995) (by decide +kernel), List.mem_of_getElem? (i := 2256) (by decide +kernel), List.mem_of_getElem? (i := 2257) (by decide +kernel)⟩
theorem lw_p106 : lw_okq (⟨"EditsMeetModel", "overRow", "(IIII)V"⟩, 33) := ⟨⟨by decide +kernel, by decide +kernel⟩, List.mem_of_getElem? (i := 1995) (by decide +kernel), List.mem_of_getElem? (i := 2264) (by decide +kernel), List.mem_of_getElem? (i := 2265) (by decide +kernel)⟩
theorem lw_p107 : lw_okq (⟨"EditsMeetModel", "overOne", "(IIII)V"⟩, 33) := ⟨⟨by decide +kernel, by decide +kernel⟩, List.mem_of_getElem? (i := 1995) (by decide +kernel), List.mem_of_getElem? (i := 2268) (by decide +kernel), List.mem_of_getElem? (i := 2269) (by decide +kernel)⟩
theorem lw_p108 : lw_okq (⟨"EditsMeetModel", "turnedRow", "(III)V"⟩, 33) := ⟨⟨by decide +kernel, by decide +kernel⟩, List.mem_of_getElem? (i := 1995) (by decide +kernel), List.mem_of_getElem? (i := 2279) (by decide +kernel), List.mem_of_getElem? (i := 2280) (by decide +kernel)⟩
theorem lw_p109 : lw_okq (⟨"EditsMeetModel", "isFull", "(II)Z"⟩, 33) := ⟨⟨by decide +kernel, by decide +kernel⟩, List.mem_of_getElem? (i := 1995) (by decide +kernel), List.mem_of_getElem? (i := 2292) (by decide +kernel), List.mem_of_getElem? (i := 2293) (by decide +kernel)⟩
theorem lw_p110 : lw_okq (⟨"EditsMeetModel", "resultLength", "(I)I"⟩, 33) := ⟨⟨by decide +kernel, by decide +kernel⟩, List.mem_of_getElem? (i := 1995) (by decide +kernel), List.mem_of_getElem? (i := 2296) (by decide +kernel), List.mem_of_getElem? (i := 2297) (by decide +kernel)⟩
theorem lw_p111 : lw_okq (⟨"EditsMeetModel", "done", "(IIZ)V"⟩, 33) := ⟨⟨by decide +kernel, by decide +kernel⟩, List.mem_of_getElem? (i := 1995) (by decide +kernel), List.mem_of_getElem? (i := 2300) (by decide +kernel), List.mem_of_getElem? (i := 2301) (by decide +kernel)⟩
def lw_privs_7 : List (MethodName × Nat) := [(⟨"EditsMeetModel", "letters", "(II)I"⟩, 33), (⟨"EditsMeetModel", "beginOf", "(II)I"⟩, 33), (⟨"EditsMeetModel", "tells", "(I)V"⟩, 33), (⟨"EditsMeetModel", "tellsPart", "(II)V"⟩, 33), (⟨"EditsMeetModel", "tellsNumber", "(I)V"⟩, 33), (⟨"EditsMeetModel", "takesRow", "(II)V"⟩, 33), (⟨"EditsMeetModel", "behindRow", "(III)V"⟩, 33), (⟨"EditsMeetModel", "together", "(III)V"⟩, 33), (⟨"EditsMeetModel", "made", "(II)I"⟩, 33), (⟨"EditsMeetModel", "isTooLarge", "(I)Z"⟩, 33), (⟨"EditsMeetModel", "overRow", "(IIII)V"⟩, 33), (⟨"EditsMeetModel", "overOne", "(IIII)V"⟩, 33), (⟨"EditsMeetModel", "turnedRow", "(III)V"⟩, 33), (⟨"EditsMeetModel", "isFull", "(II)Z"⟩, 33), (⟨"EditsMeetModel", "resultLength", "(I)I"⟩, 33), (⟨"EditsMeetModel", "done", "(IIZ)V"⟩, 33)]
theorem lw_r7 : ∀ q ∈ lw_privs_7, lw_okq q := List.forall_mem_cons.mpr ⟨lw_p96, List.forall_mem_cons.mpr ⟨lw_p97, List.forall_mem_cons.mpr ⟨lw_p98, List.forall_mem_cons.mpr ⟨lw_p99, List.forall_mem_cons.mpr ⟨lw_p100, List.forall_mem_cons.mpr ⟨lw_p101, List.forall_mem_cons.mpr ⟨lw_p102, List.forall_mem_cons.mpr ⟨lw_p103, List.forall_mem_cons.mpr ⟨lw_p104, List.forall_mem_cons.mpr ⟨lw_p105, List.forall_mem_cons.mpr ⟨lw_p106, List.forall_mem_cons.mpr ⟨lw_p107, List.forall_mem_cons.mpr ⟨lw_p108, List.forall_mem_cons.mpr ⟨lw_p109, List.forall_mem_cons.mpr ⟨lw_p110, List.forall_mem_cons.mpr ⟨lw_p111, fun _ h => absurd h List.not_mem_nil⟩⟩⟩⟩⟩⟩⟩⟩⟩⟩⟩⟩⟩⟩⟩⟩
theorem lw_p112 : lw_okq (⟨"EditsMeetModel", "makes", "(II)V"⟩, 33) := ⟨⟨by decide +kernel, by decide +kernel⟩, List.mem_of_getElem? (i := 1995) (by decide +kernel), List.mem_of_getElem? (i := 2304) (by decide +kernel), List.mem_of_getElem? (i := 2305) (by decide +kernel)⟩
theorem lw_p113 : lw_okq (⟨"EditsMeetModel", "cursorGoes", "(IIZ)V"⟩, 33) := ⟨⟨by decide +kernel, by decide +kernel⟩, List.mem_of_getElem? (i := 1995) (by decide +kernel), List.mem_of_getElem? (i := 2308) (by decide +kernel), List.mem_of_getElem? (i := 2309) (by decide +kernel)⟩
theorem lw_p114 : lw_okq (⟨"EditsMeetModel", "st", "(II)I"⟩, 33) := ⟨⟨by decide +kernel, by decide +kernel⟩, List.mem_of_getElem? (i := 1995) (by decide +kernel), List.mem_of_getElem? (i := 2312) (by decide +kernel), List.mem_of_getElem? (i := 2313) (by decide +kernel)⟩
theorem lw_p115 : lw_okq (⟨"EditsMeetModel", "goesAlong", "(IIZ)I"⟩, 33) := ⟨⟨by decide +kernel, by decide +kernel⟩, List.mem_of_getElem? (i := 1995) (by decide +kernel), List.mem_of_getElem? (i := 2316) (by decide +kernel), List.mem_of_getElem? (i := 2317) (by decide +kernel)⟩
theorem lw_p116 : lw_okq (⟨"EditsMeetModel", "pushes", "(III)V"⟩, 33) := ⟨⟨by decide +kernel, by decide +kernel⟩, List.mem_of_getElem? (i := 1995) (by decide +kernel), List.mem_of_getElem? (i := 2320) (by decide +kernel), List.mem_of_getElem? (i := 2321) (by decide +kernel)⟩
theorem lw_p117 : lw_okq (⟨"EditsMeetModel", "copiesRow", "(II)V"⟩, 33) := ⟨⟨by decide +kernel, by decide +kernel⟩, List.mem_of_getElem? (i := 1995) (by decide +kernel), List.mem_of_getElem? (i := 2324) (by decide +kernel), List.mem_of_getElem? (i := 2325) (by decide +kernel)⟩
theorem lw_p118 : lw_okq (⟨"EditsMeetModel", "inserts", "(III)V"⟩, 33) := ⟨⟨by decide +kernel, by decide +kernel⟩, List.mem_of_getElem? (i := 1995) (by decide +kernel), List.mem_of_getElem? (i := 2334) (by decide +kernel), List.mem_of_getElem? (i := 2335) (by decide +kernel)⟩
theorem lw_p119 : lw_okq (⟨"EditsMeetModel", "isStretch", "(III)Z"⟩, 33) := ⟨⟨by decide +kernel, by decide +kernel⟩, List.mem_of_getElem? (i := 1995) (by decide +kernel), List.mem_of_getElem? (i := 2342) (by decide +kernel), List.mem_of_getElem? (i := 2343) (by decide +kernel)⟩
theorem lw_p120 : lw_okq (⟨"EditsMeetModel", "keepsAllBut", "(IIII)V"⟩, 33) := ⟨⟨by decide +kernel, by decide +kernel⟩, List.mem_of_getElem? (i := 1995) (by decide +kernel), List.mem_of_getElem? (i := 2346) (by decide +kernel), List.mem_of_getElem? (i := 2347) (by decide +kernel)⟩
theorem lw_p121 : lw_okq (⟨"EditsMeetModel", "serves", "(I)I"⟩, 33) := ⟨⟨by decide +kernel, by decide +kernel⟩, List.mem_of_getElem? (i := 1995) (by decide +kernel), List.mem_of_getElem? (i := 2358) (by decide +kernel), List.mem_of_getElem? (i := 2359) (by decide +kernel)⟩
theorem lw_p122 : lw_okq (⟨"EditsMeetModel", "keepsWork", "(II)V"⟩, 33) := ⟨⟨by decide +kernel, by decide +kernel⟩, List.mem_of_getElem? (i := 1995) (by decide +kernel), List.mem_of_getElem? (i := 2362) (by decide +kernel), List.mem_of_getElem? (i := 2363) (by decide +kernel)⟩
theorem lw_p123 : lw_okq (⟨"EditsMeetModel", "hears", "(I)V"⟩, 33) := ⟨⟨by decide +kernel, by decide +kernel⟩, List.mem_of_getElem? (i := 1995) (by decide +kernel), List.mem_of_getElem? (i := 2370) (by decide +kernel), List.mem_of_getElem? (i := 2371) (by decide +kernel)⟩
theorem lw_p124 : lw_okq (⟨"EditsMeetModel", "crosses", "(I)V"⟩, 33) := ⟨⟨by decide +kernel, by decide +kernel⟩, List.mem_of_getElem? (i := 1995) (by decide +kernel), List.mem_of_getElem? (i := 2374) (by decide +kernel), List.mem_of_getElem? (i := 2375) (by decide +kernel)⟩
theorem lw_p125 : lw_okq (⟨"EditsMeetModel", "hearAll", "()V"⟩, 33) := ⟨⟨by decide +kernel, by decide +kernel⟩, List.mem_of_getElem? (i := 1995) (by decide +kernel), List.mem_of_getElem? (i := 2382) (by decide +kernel), List.mem_of_getElem? (i := 2383) (by decide +kernel)⟩
theorem lw_p126 : lw_okq (⟨"EditsMeetModel", "isAnySent", "()Z"⟩, 33) := ⟨⟨by decide +kernel, by decide +kernel⟩, List.mem_of_getElem? (i := 1995) (by decide +kernel), List.mem_of_getElem? (i := 2386) (by decide +kernel), List.mem_of_getElem? (i := 2387) (by decide +kernel)⟩
theorem lw_p127 : lw_okq (⟨"EditsMeetModel", "again", "(II)I"⟩, 33) := ⟨⟨by decide +kernel, by decide +kernel⟩, List.mem_of_getElem? (i := 1995) (by decide +kernel), List.mem_of_getElem? (i := 2394) (by decide +kernel), List.mem_of_getElem? (i := 2395) (by decide +kernel)⟩
def lw_privs_8 : List (MethodName × Nat) := [(⟨"EditsMeetModel", "makes", "(II)V"⟩, 33), (⟨"EditsMeetModel", "cursorGoes", "(IIZ)V"⟩, 33), (⟨"EditsMeetModel", "st", "(II)I"⟩, 33), (⟨"EditsMeetModel", "goesAlong", "(IIZ)I"⟩, 33), (⟨"EditsMeetModel", "pushes", "(III)V"⟩, 33), (⟨"EditsMeetModel", "copiesRow", "(II)V"⟩, 33), (⟨"EditsMeetModel", "inserts", "(III)V"⟩, 33), (⟨"EditsMeetModel", "isStretch", "(III)Z"⟩, 33), (⟨"EditsMeetModel", "keepsAllBut", "(IIII)V"⟩, 33), (⟨"EditsMeetModel", "serves", "(I)I"⟩, 33), (⟨"EditsMeetModel", "keepsWork", "(II)V"⟩, 33), (⟨"EditsMeetModel", "hears", "(I)V"⟩, 33), (⟨"EditsMeetModel", "crosses", "(I)V"⟩, 33), (⟨"EditsMeetModel", "hearAll", "()V"⟩, 33), (⟨"EditsMeetModel", "isAnySent", "()Z"⟩, 33), (⟨"EditsMeetModel", "again", "(II)I"⟩, 33)]
theorem lw_r8 : ∀ q ∈ lw_privs_8, lw_okq q := List.forall_mem_cons.mpr ⟨lw_p112, List.forall_mem_cons.mpr ⟨lw_p113, List.forall_mem_cons.mpr ⟨lw_p114, List.forall_mem_cons.mpr ⟨lw_p115, List.forall_mem_cons.mpr ⟨lw_p116, List.forall_mem_cons.mpr ⟨lw_p117, List.forall_mem_cons.mpr ⟨lw_p118, List.forall_mem_cons.mpr ⟨lw_p119, List.forall_mem_cons.mpr ⟨lw_p120, List.forall_mem_cons.mpr ⟨lw_p121, List.forall_mem_cons.mpr ⟨lw_p122, List.forall_mem_cons.mpr ⟨lw_p123, List.forall_mem_cons.mpr ⟨lw_p124, List.forall_mem_cons.mpr ⟨lw_p125, List.forall_mem_cons.mpr ⟨lw_p126, List.forall_mem_cons.mpr ⟨lw_p127, fun _ h => absurd h List.not_mem_nil⟩⟩⟩⟩⟩⟩⟩⟩⟩⟩⟩⟩⟩⟩⟩⟩
theorem lw_p128 : lw_okq (⟨"EditsMeetModel", "firstApart", "(II)I"⟩, 33) := ⟨⟨by decide +kernel, by decide +kernel⟩, List.mem_of_getElem? (i := 1995) (by decide +kernel), List.mem_of_getElem? (i := 2439) (by decide +kernel), List.mem_of_getElem? (i := 2440) (by decide +kernel)⟩
theorem lw_p129 : lw_okq (⟨"EditsMeetModel", "draw", "(I)I"⟩, 33) := ⟨⟨by decide +kernel, by decide +kernel⟩, List.mem_of_getElem? (i := 1995) (by decide +kernel), List.mem_of_getElem? (i := 2497) (by decide +kernel), List.mem_of_getElem? (i := 2498) (by decide +kernel)⟩
theorem lw_p130 : lw_okq (⟨"EditsMeetModel", "isDay", "(II)Z"⟩, 33) := ⟨⟨by decide +kernel, by decide +kernel⟩, List.mem_of_getElem? (i := 1995) (by decide +kernel), List.mem_of_getElem? (i := 2502) (by decide +kernel), List.mem_of_getElem? (i := 2503) (by decide +kernel)⟩
def lw_privs_9 : List (MethodName × Nat) := [(⟨"EditsMeetModel", "firstApart", "(II)I"⟩, 33), (⟨"EditsMeetModel", "draw", "(I)I"⟩, 33), (⟨"EditsMeetModel", "isDay", "(II)Z"⟩, 33)]
theorem lw_r9 : ∀ q ∈ lw_privs_9, lw_okq q := List.forall_mem_cons.mpr ⟨lw_p128, List.forall_mem_cons.mpr ⟨lw_p129, List.forall_mem_cons.mpr ⟨lw_p130, fun _ h => absurd h List.not_mem_nil⟩⟩⟩
def lw_privs : List (MethodName × Nat) := lw_privs_1 ++ (lw_privs_2 ++ (lw_privs_3 ++ (lw_privs_4 ++ (lw_privs_5 ++ (lw_privs_6 ++ (lw_privs_7 ++ (lw_privs_8 ++ (lw_privs_9))))))))
def lw_tbl : List Cond := k2_sels lw_privs ++ tables_1
theorem lw_privs_ok : ∀ q ∈ lw_privs, lw_okq q := by
  show ∀ q ∈ lw_privs_1 ++ (lw_privs_2 ++ (lw_privs_3 ++ (lw_privs_4 ++ (lw_privs_5 ++ (lw_privs_6 ++ (lw_privs_7 ++ (lw_privs_8 ++ (lw_privs_9)))))))), lw_okq q
  exact List.forall_mem_append.mpr ⟨lw_r1, List.forall_mem_append.mpr ⟨lw_r2, List.forall_mem_append.mpr ⟨lw_r3, List.forall_mem_append.mpr ⟨lw_r4, List.forall_mem_append.mpr ⟨lw_r5, List.forall_mem_append.mpr ⟨lw_r6, List.forall_mem_append.mpr ⟨lw_r7, List.forall_mem_append.mpr ⟨lw_r8, lw_r9⟩⟩⟩⟩⟩⟩⟩⟩
def RX0 : String := "EditsMeet$Client"
def TX0 : u_T := fun k => match k with
  | 0 => ("EditsMeet$Client", "number", "I", true)
  | 1 => ("EditsMeet$Client", "works", "LEditsMeet$Works;", true)
  | 2 => ("EditsMeet$Client", "held", "I", true)
  | 3 => ("EditsMeet$Client", "undos", "I", false)
  | 4 => ("EditsMeet$Client", "redos", "I", false)
  | 5 => ("EditsMeet$Client", "hasSent", "Z", false)
  | 6 => ("EditsMeet$Client", "isServed", "Z", false)
  | 7 => ("EditsMeet$Client", "hasWaiting", "Z", false)
  | 8 => ("EditsMeet$Client", "revision", "I", false)
  | 9 => ("EditsMeet$Client", "place", "J", false)
  | _ => ("EditsMeet$Client", "otherPlace", "J", false)
def tyX0 : Nat → FieldType := fun k => match k with
  | 0 => .int
  | 1 => .object "EditsMeet$Works"
  | 2 => .int
  | 3 => .int
  | 4 => .int
  | 5 => .boolean
  | 6 => .boolean
  | 7 => .boolean
  | 8 => .int
  | 9 => .long
  | _ => .long
abbrev wsX00 : List Cond := u_ws RX0 TX0 11
theorem nmX0 : ∀ a, a < 11 → ∀ b, b < 11 → a ≠ b → (TX0 a).2.1 ≠ (TX0 b).2.1 := by decide +kernel
theorem tyX0_ok : ∀ k, k < 11 → parseFieldDescriptor (TX0 k).2.2.1 = some (tyX0 k) := by decide +kernel
abbrev cX0_init : ByteArray := prog_2_method_1_code
def yX0_init : MethodName := ⟨RX0, "<init>", "(ILEditsMeet$Works;)V"⟩
abbrev cX0_ownText : ByteArray := prog_2_method_2_code
def yX0_ownText : MethodName := ⟨RX0, "ownText", "()I"⟩
abbrev cX0_size : ByteArray := prog_2_method_3_code
def yX0_size : MethodName := ⟨RX0, "size", "()J"⟩
abbrev cX0_isUnserved : ByteArray := prog_2_method_4_code
def yX0_isUnserved : MethodName := ⟨RX0, "isUnserved", "()Z"⟩
abbrev cX0_isTooLongBy : ByteArray := prog_2_method_5_code
def yX0_isTooLongBy : MethodName := ⟨RX0, "isTooLongBy", "(I)Z"⟩
abbrev cX0_has : ByteArray := prog_2_method_6_code
def yX0_has : MethodName := ⟨RX0, "has", "(I)Z"⟩
abbrev cX0_told : ByteArray := prog_2_method_7_code
def yX0_told : MethodName := ⟨RX0, "told", "(I)I"⟩
abbrev cX0_countOf : ByteArray := prog_2_method_8_code
def yX0_countOf : MethodName := ⟨RX0, "countOf", "(I)I"⟩
abbrev cX0_latest : ByteArray := prog_2_method_9_code
def yX0_latest : MethodName := ⟨RX0, "latest", "(I)I"⟩
abbrev cX0_slotOf : ByteArray := prog_2_method_10_code
def yX0_slotOf : MethodName := ⟨RX0, "slotOf", "(II)I"⟩
abbrev cX0_keep : ByteArray := prog_2_method_11_code
def yX0_keep : MethodName := ⟨RX0, "keep", "(II)V"⟩
abbrev cX0_drop : ByteArray := prog_2_method_12_code
def yX0_drop : MethodName := ⟨RX0, "drop", "(I)V"⟩
abbrev cX0_clear : ByteArray := prog_2_method_13_code
def yX0_clear : MethodName := ⟨RX0, "clear", "(I)V"⟩
abbrev cX0_putCount : ByteArray := prog_2_method_14_code
def yX0_putCount : MethodName := ⟨RX0, "putCount", "(II)V"⟩
abbrev cX0_draftLatest : ByteArray := prog_2_method_15_code
def yX0_draftLatest : MethodName := ⟨RX0, "draftLatest", "(ILEditsMeet$Loom;)V"⟩
abbrev cX0_doDraft : ByteArray := prog_2_method_16_code
def yX0_doDraft : MethodName := ⟨RX0, "doDraft", "(ILEditsMeet$Loom;)V"⟩
abbrev cX0_hearNext : ByteArray := prog_2_method_17_code
def yX0_hearNext : MethodName := ⟨RX0, "hearNext", "(I[ILEditsMeet$Loom;)V"⟩
abbrev cX0_passedAt : ByteArray := prog_2_method_18_code
def yX0_passedAt : MethodName := ⟨RX0, "passedAt", "(I)I"⟩
abbrev cX0_sendWaiting : ByteArray := prog_2_method_19_code
def yX0_sendWaiting : MethodName := ⟨RX0, "sendWaiting", "()V"⟩
abbrev cX0_like : ByteArray := prog_2_method_20_code
def yX0_like : MethodName := ⟨RX0, "like", "(LEditsMeet$Client;)V"⟩
def RX1 : String := "EditsMeet$Edge"
def TX1 : u_T := fun k => match k with
  | 0 => ("EditsMeet$Edge", "trees", "LEditsMeet$Trees;", true)
  | 1 => ("EditsMeet$Edge", "isLeft", "Z", true)
  | 2 => ("EditsMeet$Edge", "bases", "[I", true)
  | 3 => ("EditsMeet$Edge", "counts", "[J", true)
  | 4 => ("EditsMeet$Edge", "dues", "[I", true)
  | 5 => ("EditsMeet$Edge", "top", "I", false)
  | 6 => ("EditsMeet$Edge", "spine", "[I", true)
  | 7 => ("EditsMeet$Edge", "depth", "I", false)
  | _ => ("EditsMeet$Edge", "mixed", "I", false)
def tyX1 : Nat → FieldType := fun k => match k with
  | 0 => .object "EditsMeet$Trees"
  | 1 => .boolean
  | 2 => .array .int
  | 3 => .array .long
  | 4 => .array .int
  | 5 => .int
  | 6 => .array .int
  | 7 => .int
  | _ => .int
abbrev wsX10 : List Cond := u_ws RX1 TX1 9
theorem nmX1 : ∀ a, a < 9 → ∀ b, b < 9 → a ≠ b → (TX1 a).2.1 ≠ (TX1 b).2.1 := by decide +kernel
theorem tyX1_ok : ∀ k, k < 9 → parseFieldDescriptor (TX1 k).2.2.1 = some (tyX1 k) := by decide +kernel
abbrev cX1_init : ByteArray := prog_3_method_1_code
def yX1_init : MethodName := ⟨RX1, "<init>", "(LEditsMeet$Trees;Z)V"⟩
abbrev cX1_start : ByteArray := prog_3_method_2_code
def yX1_start : MethodName := ⟨RX1, "start", "(I)V"⟩
abbrev cX1_push : ByteArray := prog_3_method_3_code
def yX1_push : MethodName := ⟨RX1, "push", "(II)V"⟩
abbrev cX1_put : ByteArray := prog_3_method_4_code
def yX1_put : MethodName := ⟨RX1, "put", "(IJI)V"⟩
abbrev cX1_base : ByteArray := prog_3_method_5_code
def yX1_base : MethodName := ⟨RX1, "base", "()I"⟩
abbrev cX1_count : ByteArray := prog_3_method_6_code
def yX1_count : MethodName := ⟨RX1, "count", "()J"⟩
abbrev cX1_isDue : ByteArray := prog_3_method_7_code
def yX1_isDue : MethodName := ⟨RX1, "isDue", "(I)Z"⟩
abbrev cX1_next : ByteArray := prog_3_method_8_code
def yX1_next : MethodName := ⟨RX1, "next", "(I)I"⟩
abbrev cX1_sink : ByteArray := prog_3_method_9_code
def yX1_sink : MethodName := ⟨RX1, "sink", "(I)V"⟩
abbrev cX1_drop : ByteArray := prog_3_method_10_code
def yX1_drop : MethodName := ⟨RX1, "drop", "(J)V"⟩
def RX2 : String := "EditsMeet$Loom"
def TX2 : u_T := fun k => match k with
  | 0 => ("EditsMeet$Loom", "works", "LEditsMeet$Works;", true)
  | 1 => ("EditsMeet$Loom", "trees", "LEditsMeet$Trees;", true)
  | 2 => ("EditsMeet$Loom", "reader", "LEditsMeet$Reader;", true)
  | 3 => ("EditsMeet$Loom", "seam", "LEditsMeet$Seam;", true)
  | 4 => ("EditsMeet$Loom", "hand", "I", true)
  | 5 => ("EditsMeet$Loom", "frames", "[I", true)
  | 6 => ("EditsMeet$Loom", "first", "LEditsMeet$Edge;", true)
  | 7 => ("EditsMeet$Loom", "second", "LEditsMeet$Edge;", true)
  | 8 => ("EditsMeet$Loom", "path", "[I", true)
  | 9 => ("EditsMeet$Loom", "tasks", "[I", true)
  | 10 => ("EditsMeet$Loom", "open", "I", false)
  | 11 => ("EditsMeet$Loom", "top", "I", false)
  | 12 => ("EditsMeet$Loom", "isTight", "Z", false)
  | _ => ("EditsMeet$Loom", "fetched", "I", false)
def tyX2 : Nat → FieldType := fun k => match k with
  | 0 => .object "EditsMeet$Works"
  | 1 => .object "EditsMeet$Trees"
  | 2 => .object "EditsMeet$Reader"
  | 3 => .object "EditsMeet$Seam"
  | 4 => .int
  | 5 => .array .int
  | 6 => .object "EditsMeet$Edge"
  | 7 => .object "EditsMeet$Edge"
  | 8 => .array .int
  | 9 => .array .int
  | 10 => .int
  | 11 => .int
  | 12 => .boolean
  | _ => .int
abbrev wsX20 : List Cond := u_ws RX2 TX2 14
theorem nmX2 : ∀ a, a < 14 → ∀ b, b < 14 → a ≠ b → (TX2 a).2.1 ≠ (TX2 b).2.1 := by decide +kernel
theorem tyX2_ok : ∀ k, k < 14 → parseFieldDescriptor (TX2 k).2.2.1 = some (tyX2 k) := by decide +kernel
abbrev cX2_init : ByteArray := prog_4_method_1_code
def yX2_init : MethodName := ⟨RX2, "<init>", "(LEditsMeet$Works;LEditsMeet$Reader;)V"⟩
abbrev cX2_draft : ByteArray := prog_4_method_2_code
def yX2_draft : MethodName := ⟨RX2, "draft", "(JIJJ)V"⟩
abbrev cX2_weave : ByteArray := prog_4_method_3_code
def yX2_weave : MethodName := ⟨RX2, "weave", "(III)I"⟩
abbrev cX2_begin : ByteArray := prog_4_method_4_code
def yX2_begin : MethodName := ⟨RX2, "begin", "(III)I"⟩
abbrev cX2_beginTask : ByteArray := prog_4_method_5_code
def yX2_beginTask : MethodName := ⟨RX2, "beginTask", "(I)Z"⟩
abbrev cX2_gather : ByteArray := prog_4_method_6_code
def yX2_gather : MethodName := ⟨RX2, "gather", "(I)I"⟩
abbrev cX2_push : ByteArray := prog_4_method_7_code
def yX2_push : MethodName := ⟨RX2, "push", "(II)V"⟩
abbrev cX2_divide : ByteArray := prog_4_method_8_code
def yX2_divide : MethodName := ⟨RX2, "divide", "(II)V"⟩
abbrev cX2_leads : ByteArray := prog_4_method_9_code
def yX2_leads : MethodName := ⟨RX2, "leads", "(II)Z"⟩
abbrev cX2_atOnce : ByteArray := prog_4_method_10_code
def yX2_atOnce : MethodName := ⟨RX2, "atOnce", "(III)I"⟩
abbrev cX2_woven : ByteArray := prog_4_method_11_code
def yX2_woven : MethodName := ⟨RX2, "woven", "(III)I"⟩
abbrev cX2_leafByLeaf : ByteArray := prog_4_method_12_code
def yX2_leafByLeaf : MethodName := ⟨RX2, "leafByLeaf", "(III)I"⟩
abbrev cX2_alone : ByteArray := prog_4_method_13_code
def yX2_alone : MethodName := ⟨RX2, "alone", "(IZI)I"⟩
abbrev cX2_isAlone : ByteArray := prog_4_method_14_code
def yX2_isAlone : MethodName := ⟨RX2, "isAlone", "(IZII)Z"⟩
abbrev cX2_flatten : ByteArray := prog_4_method_15_code
def yX2_flatten : MethodName := ⟨RX2, "flatten", "(ILEditsMeet$Edge;)V"⟩
abbrev cX2_keyOf : ByteArray := prog_4_method_16_code
def yX2_keyOf : MethodName := ⟨RX2, "keyOf", "(II)J"⟩
abbrev cX2_remembered : ByteArray := prog_4_method_17_code
def yX2_remembered : MethodName := ⟨RX2, "remembered", "(II)I"⟩
abbrev cX2_remember : ByteArray := prog_4_method_18_code
def yX2_remember : MethodName := ⟨RX2, "remember", "(III)V"⟩
abbrev cX2_tidy : ByteArray := prog_4_method_19_code
def yX2_tidy : MethodName := ⟨RX2, "tidy", "(I)V"⟩
def RX3 : String := "EditsMeet$Meeting"
def TX3 : u_T := fun k => match k with
  | 0 => ("EditsMeet$Meeting", "works", "LEditsMeet$Works;", true)
  | 1 => ("EditsMeet$Meeting", "revisions", "I", true)
  | 2 => ("EditsMeet$Meeting", "authors", "[I", true)
  | 3 => ("EditsMeet$Meeting", "clients", "[LEditsMeet$Client;", true)
  | 4 => ("EditsMeet$Meeting", "server", "I", true)
  | 5 => ("EditsMeet$Meeting", "count", "I", false)
  | _ => ("EditsMeet$Meeting", "seed", "I", false)
def tyX3 : Nat → FieldType := fun k => match k with
  | 0 => .object "EditsMeet$Works"
  | 1 => .int
  | 2 => .array .int
  | 3 => .array (.object "EditsMeet$Client")
  | 4 => .int
  | 5 => .int
  | _ => .int
abbrev wsX30 : List Cond := u_ws RX3 TX3 7
theorem nmX3 : ∀ a, a < 7 → ∀ b, b < 7 → a ≠ b → (TX3 a).2.1 ≠ (TX3 b).2.1 := by decide +kernel
theorem tyX3_ok : ∀ k, k < 7 → parseFieldDescriptor (TX3 k).2.2.1 = some (tyX3 k) := by decide +kernel
abbrev cX3_init : ByteArray := prog_5_method_1_code
def yX3_init : MethodName := ⟨RX3, "<init>", "(LEditsMeet$Works;I[I)V"⟩
abbrev cX3_authorAt : ByteArray := prog_5_method_2_code
def yX3_authorAt : MethodName := ⟨RX3, "authorAt", "(I)I"⟩
abbrev cX3_clientAt : ByteArray := prog_5_method_3_code
def yX3_clientAt : MethodName := ⟨RX3, "clientAt", "(I)LEditsMeet$Client;"⟩
abbrev cX3_hasText : ByteArray := prog_5_method_4_code
def yX3_hasText : MethodName := ⟨RX3, "hasText", "(I)Z"⟩
abbrev cX3_textAt : ByteArray := prog_5_method_5_code
def yX3_textAt : MethodName := ⟨RX3, "textAt", "(I)I"⟩
abbrev cX3_takeSent : ByteArray := prog_5_method_6_code
def yX3_takeSent : MethodName := ⟨RX3, "takeSent", "(ILEditsMeet$Loom;)V"⟩
abbrev cX3_isSettled : ByteArray := prog_5_method_7_code
def yX3_isSettled : MethodName := ⟨RX3, "isSettled", "()Z"⟩
abbrev cX3_clientsSending : ByteArray := prog_5_method_8_code
def yX3_clientsSending : MethodName := ⟨RX3, "clientsSending", "()I"⟩
abbrev cX3_draw : ByteArray := prog_5_method_9_code
def yX3_draw : MethodName := ⟨RX3, "draw", "(J)J"⟩
abbrev cX3_like : ByteArray := prog_5_method_10_code
def yX3_like : MethodName := ⟨RX3, "like", "(LEditsMeet$Meeting;)V"⟩
def RX4 : String := "EditsMeet$Reader"
def TX4 : u_T := fun k => match k with
  | 0 => ("EditsMeet$Reader", "works", "LEditsMeet$Works;", true)
  | 1 => ("EditsMeet$Reader", "edge", "LEditsMeet$Edge;", true)
  | 2 => ("EditsMeet$Reader", "stack", "[I", true)
  | 3 => ("EditsMeet$Reader", "cone", "[I", true)
  | 4 => ("EditsMeet$Reader", "ranks", "[I", true)
  | 5 => ("EditsMeet$Reader", "heads", "[I", true)
  | 6 => ("EditsMeet$Reader", "spots", "[I", true)
  | 7 => ("EditsMeet$Reader", "keys", "[J", true)
  | 8 => ("EditsMeet$Reader", "lefts", "[J", true)
  | 9 => ("EditsMeet$Reader", "coneSize", "I", false)
  | 10 => ("EditsMeet$Reader", "stride", "I", false)
  | 11 => ("EditsMeet$Reader", "taken", "I", false)
  | 12 => ("EditsMeet$Reader", "hand", "I", false)
  | 13 => ("EditsMeet$Reader", "top", "I", false)
  | 14 => ("EditsMeet$Reader", "steps", "J", false)
  | 15 => ("EditsMeet$Reader", "stepsMost", "J", false)
  | 16 => ("EditsMeet$Reader", "act", "I", false)
  | 17 => ("EditsMeet$Reader", "count", "J", false)
  | 18 => ("EditsMeet$Reader", "from", "J", false)
  | _ => ("EditsMeet$Reader", "to", "J", false)
def tyX4 : Nat → FieldType := fun k => match k with
  | 0 => .object "EditsMeet$Works"
  | 1 => .object "EditsMeet$Edge"
  | 2 => .array .int
  | 3 => .array .int
  | 4 => .array .int
  | 5 => .array .int
  | 6 => .array .int
  | 7 => .array .long
  | 8 => .array .long
  | 9 => .int
  | 10 => .int
  | 11 => .int
  | 12 => .int
  | 13 => .int
  | 14 => .long
  | 15 => .long
  | 16 => .int
  | 17 => .long
  | 18 => .long
  | _ => .long
abbrev wsX40 : List Cond := u_ws RX4 TX4 20
theorem nmX4 : ∀ a, a < 20 → ∀ b, b < 20 → a ≠ b → (TX4 a).2.1 ≠ (TX4 b).2.1 := by decide +kernel
theorem tyX4_ok : ∀ k, k < 20 → parseFieldDescriptor (TX4 k).2.2.1 = some (tyX4 k) := by decide +kernel
abbrev cX4_init : ByteArray := prog_6_method_1_code
def yX4_init : MethodName := ⟨RX4, "<init>", "(LEditsMeet$Works;)V"⟩
abbrev cX4_missing : ByteArray := prog_6_method_2_code
def yX4_missing : MethodName := ⟨RX4, "missing", "(I)I"⟩
abbrev cX4_add : ByteArray := prog_6_method_3_code
def yX4_add : MethodName := ⟨RX4, "add", "(I)V"⟩
abbrev cX4_open : ByteArray := prog_6_method_4_code
def yX4_open : MethodName := ⟨RX4, "open", "(IIJ)V"⟩
abbrev cX4_close : ByteArray := prog_6_method_5_code
def yX4_close : MethodName := ⟨RX4, "close", "()V"⟩
abbrev cX4_begin : ByteArray := prog_6_method_6_code
def yX4_begin : MethodName := ⟨RX4, "begin", "(IIJ)V"⟩
abbrev cX4_isWindow : ByteArray := prog_6_method_7_code
def yX4_isWindow : MethodName := ⟨RX4, "isWindow", "(I)Z"⟩
abbrev cX4_windowAt : ByteArray := prog_6_method_8_code
def yX4_windowAt : MethodName := ⟨RX4, "windowAt", "(IJ)I"⟩
abbrev cX4_isReady : ByteArray := prog_6_method_9_code
def yX4_isReady : MethodName := ⟨RX4, "isReady", "(I)Z"⟩
abbrev cX4_pass : ByteArray := prog_6_method_10_code
def yX4_pass : MethodName := ⟨RX4, "pass", "(IJ)V"⟩
abbrev cX4_skip : ByteArray := prog_6_method_11_code
def yX4_skip : MethodName := ⟨RX4, "skip", "(J)V"⟩
abbrev cX4_isKept : ByteArray := prog_6_method_12_code
def yX4_isKept : MethodName := ⟨RX4, "isKept", "(II)Z"⟩
abbrev cX4_spare : ByteArray := prog_6_method_13_code
def yX4_spare : MethodName := ⟨RX4, "spare", "()I"⟩
abbrev cX4_ask : ByteArray := prog_6_method_14_code
def yX4_ask : MethodName := ⟨RX4, "ask", "(IJ)Z"⟩
abbrev cX4_leap : ByteArray := prog_6_method_15_code
def yX4_leap : MethodName := ⟨RX4, "leap", "(IJ)V"⟩
abbrev cX4_put : ByteArray := prog_6_method_16_code
def yX4_put : MethodName := ⟨RX4, "put", "(IIJ)V"⟩
abbrev cX4_isFull : ByteArray := prog_6_method_17_code
def yX4_isFull : MethodName := ⟨RX4, "isFull", "(I)Z"⟩
abbrev cX4_readNode : ByteArray := prog_6_method_18_code
def yX4_readNode : MethodName := ⟨RX4, "readNode", "(II)V"⟩
abbrev cX4_weaveOn : ByteArray := prog_6_method_19_code
def yX4_weaveOn : MethodName := ⟨RX4, "weaveOn", "(II)I"⟩
abbrev cX4_isAtHand : ByteArray := prog_6_method_20_code
def yX4_isAtHand : MethodName := ⟨RX4, "isAtHand", "(I)Z"⟩
abbrev cX4_next : ByteArray := prog_6_method_21_code
def yX4_next : MethodName := ⟨RX4, "next", "()Z"⟩
abbrev cX4_actAt : ByteArray := prog_6_method_22_code
def yX4_actAt : MethodName := ⟨RX4, "actAt", "(I)I"⟩
abbrev cX4_passBoth : ByteArray := prog_6_method_23_code
def yX4_passBoth : MethodName := ⟨RX4, "passBoth", "()J"⟩
abbrev cX4_actOf : ByteArray := prog_6_method_24_code
def yX4_actOf : MethodName := ⟨RX4, "actOf", "(IJ)I"⟩
abbrev cX4_few : ByteArray := prog_6_method_25_code
def yX4_few : MethodName := ⟨RX4, "few", "(I)I"⟩
abbrev cX4_fewAct : ByteArray := prog_6_method_26_code
def yX4_fewAct : MethodName := ⟨RX4, "fewAct", "(I)I"⟩
abbrev cX4_fewLetters : ByteArray := prog_6_method_27_code
def yX4_fewLetters : MethodName := ⟨RX4, "fewLetters", "(I)J"⟩
abbrev cX4_measure : ByteArray := prog_6_method_28_code
def yX4_measure : MethodName := ⟨RX4, "measure", "(I)V"⟩
abbrev cX4_placeAfter : ByteArray := prog_6_method_29_code
def yX4_placeAfter : MethodName := ⟨RX4, "placeAfter", "(IJZ)J"⟩
def RX5 : String := "EditsMeet$Seam"
def TX5 : u_T := fun k => match k with
  | 0 => ("EditsMeet$Seam", "trees", "LEditsMeet$Trees;", true)
  | 1 => ("EditsMeet$Seam", "left", "LEditsMeet$Edge;", true)
  | 2 => ("EditsMeet$Seam", "right", "LEditsMeet$Edge;", true)
  | 3 => ("EditsMeet$Seam", "bare", "LEditsMeet$Edge;", true)
  | 4 => ("EditsMeet$Seam", "bases", "[I", true)
  | 5 => ("EditsMeet$Seam", "counts", "[J", true)
  | 6 => ("EditsMeet$Seam", "mixes", "[I", true)
  | 7 => ("EditsMeet$Seam", "start", "I", false)
  | _ => ("EditsMeet$Seam", "size", "I", false)
def tyX5 : Nat → FieldType := fun k => match k with
  | 0 => .object "EditsMeet$Trees"
  | 1 => .object "EditsMeet$Edge"
  | 2 => .object "EditsMeet$Edge"
  | 3 => .object "EditsMeet$Edge"
  | 4 => .array .int
  | 5 => .array .long
  | 6 => .array .int
  | 7 => .int
  | _ => .int
abbrev wsX50 : List Cond := u_ws RX5 TX5 9
theorem nmX5 : ∀ a, a < 9 → ∀ b, b < 9 → a ≠ b → (TX5 a).2.1 ≠ (TX5 b).2.1 := by decide +kernel
theorem tyX5_ok : ∀ k, k < 9 → parseFieldDescriptor (TX5 k).2.2.1 = some (tyX5 k) := by decide +kernel
abbrev cX5_init : ByteArray := prog_7_method_1_code
def yX5_init : MethodName := ⟨RX5, "<init>", "(LEditsMeet$Trees;)V"⟩
abbrev cX5_join : ByteArray := prog_7_method_2_code
def yX5_join : MethodName := ⟨RX5, "join", "(II)I"⟩
abbrev cX5_place : ByteArray := prog_7_method_3_code
def yX5_place : MethodName := ⟨RX5, "place", "(II)V"⟩
abbrev cX5_settle : ByteArray := prog_7_method_4_code
def yX5_settle : MethodName := ⟨RX5, "settle", "(LEditsMeet$Edge;LEditsMeet$Edge;)I"⟩
abbrev cX5_putAhead : ByteArray := prog_7_method_5_code
def yX5_putAhead : MethodName := ⟨RX5, "putAhead", "(LEditsMeet$Edge;I)V"⟩
abbrev cX5_putBehind : ByteArray := prog_7_method_6_code
def yX5_putBehind : MethodName := ⟨RX5, "putBehind", "(LEditsMeet$Edge;I)V"⟩
abbrev cX5_put : ByteArray := prog_7_method_7_code
def yX5_put : MethodName := ⟨RX5, "put", "(IJI)V"⟩
abbrev cX5_mixed : ByteArray := prog_7_method_8_code
def yX5_mixed : MethodName := ⟨RX5, "mixed", "(I)I"⟩
abbrev cX5_arePair : ByteArray := prog_7_method_9_code
def yX5_arePair : MethodName := ⟨RX5, "arePair", "(III)Z"⟩
abbrev cX5_partAt : ByteArray := prog_7_method_10_code
def yX5_partAt : MethodName := ⟨RX5, "partAt", "(IIJ)V"⟩
abbrev cX5_partLetters : ByteArray := prog_7_method_11_code
def yX5_partLetters : MethodName := ⟨RX5, "partLetters", "(I)V"⟩
abbrev cX5_partLast : ByteArray := prog_7_method_12_code
def yX5_partLast : MethodName := ⟨RX5, "partLast", "(I)V"⟩
abbrev cX5_partInTwo : ByteArray := prog_7_method_13_code
def yX5_partInTwo : MethodName := ⟨RX5, "partInTwo", "(I)V"⟩
abbrev cX5_clear : ByteArray := prog_7_method_14_code
def yX5_clear : MethodName := ⟨RX5, "clear", "()V"⟩
def RX6 : String := "EditsMeet$Shelf"
def TX6 : u_T := fun k => match k with
  | 0 => ("EditsMeet$Shelf", "elements", "[J", true)
  | 1 => ("EditsMeet$Shelf", "held", "I", false)
  | 2 => ("EditsMeet$Shelf", "size", "J", false)
  | 3 => ("EditsMeet$Shelf", "on", "I", false)
  | 4 => ("EditsMeet$Shelf", "off", "I", false)
  | _ => ("EditsMeet$Shelf", "firstLetter", "I", false)
def tyX6 : Nat → FieldType := fun k => match k with
  | 0 => .array .long
  | 1 => .int
  | 2 => .long
  | 3 => .int
  | 4 => .int
  | _ => .int
abbrev wsX60 : List Cond := u_ws RX6 TX6 6
theorem nmX6 : ∀ a, a < 6 → ∀ b, b < 6 → a ≠ b → (TX6 a).2.1 ≠ (TX6 b).2.1 := by decide +kernel
theorem tyX6_ok : ∀ k, k < 6 → parseFieldDescriptor (TX6 k).2.2.1 = some (tyX6 k) := by decide +kernel
abbrev cX6_init : ByteArray := prog_8_method_1_code
def yX6_init : MethodName := ⟨RX6, "<init>", "()V"⟩
abbrev cX6_holdsNothing : ByteArray := prog_8_method_2_code
def yX6_holdsNothing : MethodName := ⟨RX6, "holdsNothing", "()Z"⟩
abbrev cX6_holdsRow : ByteArray := prog_8_method_3_code
def yX6_holdsRow : MethodName := ⟨RX6, "holdsRow", "()Z"⟩
abbrev cX6_holdsPart : ByteArray := prog_8_method_4_code
def yX6_holdsPart : MethodName := ⟨RX6, "holdsPart", "()Z"⟩
abbrev cX6_holdNothing : ByteArray := prog_8_method_5_code
def yX6_holdNothing : MethodName := ⟨RX6, "holdNothing", "()V"⟩
abbrev cX6_holdRow : ByteArray := prog_8_method_6_code
def yX6_holdRow : MethodName := ⟨RX6, "holdRow", "(II)V"⟩
abbrev cX6_holdPart : ByteArray := prog_8_method_7_code
def yX6_holdPart : MethodName := ⟨RX6, "holdPart", "(LEditsMeet$Teller;)V"⟩
abbrev cX6_kind : ByteArray := prog_8_method_8_code
def yX6_kind : MethodName := ⟨RX6, "kind", "()I"⟩
abbrev cX6_answersAs : ByteArray := prog_8_method_9_code
def yX6_answersAs : MethodName := ⟨RX6, "answersAs", "(I)I"⟩
abbrev cX6_at : ByteArray := prog_8_method_10_code
def yX6_at : MethodName := ⟨RX6, "at", "(I)J"⟩
abbrev cX6_put : ByteArray := prog_8_method_11_code
def yX6_put : MethodName := ⟨RX6, "put", "(IJ)V"⟩
abbrev cX6_lowest : ByteArray := prog_8_method_12_code
def yX6_lowest : MethodName := ⟨RX6, "lowest", "(J)J"⟩
abbrev cX6_takeFrom : ByteArray := prog_8_method_13_code
def yX6_takeFrom : MethodName := ⟨RX6, "takeFrom", "(LEditsMeet$Shelf;III)V"⟩
def RX7 : String := "EditsMeet$Tape"
def TX7 : u_T := fun k => match k with
  | 0 => ("EditsMeet$Tape", "loom", "LEditsMeet$Loom;", true)
  | 1 => ("EditsMeet$Tape", "bytes", "[I", true)
  | 2 => ("EditsMeet$Tape", "size", "I", false)
  | 3 => ("EditsMeet$Tape", "place", "I", false)
  | 4 => ("EditsMeet$Tape", "fault", "I", false)
  | 5 => ("EditsMeet$Tape", "isInLetters", "Z", false)
  | 6 => ("EditsMeet$Tape", "act", "I", false)
  | _ => ("EditsMeet$Tape", "n", "I", false)
def tyX7 : Nat → FieldType := fun k => match k with
  | 0 => .object "EditsMeet$Loom"
  | 1 => .array .int
  | 2 => .int
  | 3 => .int
  | 4 => .int
  | 5 => .boolean
  | 6 => .int
  | _ => .int
abbrev wsX70 : List Cond := u_ws RX7 TX7 8
theorem nmX7 : ∀ a, a < 8 → ∀ b, b < 8 → a ≠ b → (TX7 a).2.1 ≠ (TX7 b).2.1 := by decide +kernel
theorem tyX7_ok : ∀ k, k < 8 → parseFieldDescriptor (TX7 k).2.2.1 = some (tyX7 k) := by decide +kernel
abbrev cX7_init : ByteArray := prog_9_method_1_code
def yX7_init : MethodName := ⟨RX7, "<init>", "(LEditsMeet$Loom;)V"⟩
abbrev cX7_add : ByteArray := prog_9_method_2_code
def yX7_add : MethodName := ⟨RX7, "add", "(I)V"⟩
abbrev cX7_reads : ByteArray := prog_9_method_3_code
def yX7_reads : MethodName := ⟨RX7, "reads", "()I"⟩
abbrev cX7_readAct : ByteArray := prog_9_method_4_code
def yX7_readAct : MethodName := ⟨RX7, "readAct", "()V"⟩
abbrev cX7_readLetter : ByteArray := prog_9_method_5_code
def yX7_readLetter : MethodName := ⟨RX7, "readLetter", "()V"⟩
abbrev cX7_readOver : ByteArray := prog_9_method_6_code
def yX7_readOver : MethodName := ⟨RX7, "readOver", "(I)V"⟩
abbrev cX7_readDot : ByteArray := prog_9_method_7_code
def yX7_readDot : MethodName := ⟨RX7, "readDot", "()V"⟩
abbrev cX7_readNumber : ByteArray := prog_9_method_8_code
def yX7_readNumber : MethodName := ⟨RX7, "readNumber", "(I)I"⟩
abbrev cX7_signAt : ByteArray := prog_9_method_9_code
def yX7_signAt : MethodName := ⟨RX7, "signAt", "(I)I"⟩
abbrev cX7_isLetter : ByteArray := prog_9_method_10_code
def yX7_isLetter : MethodName := ⟨RX7, "isLetter", "(I)Z"⟩
abbrev cX7_isDigit : ByteArray := prog_9_method_11_code
def yX7_isDigit : MethodName := ⟨RX7, "isDigit", "(I)Z"⟩
def RX8 : String := "EditsMeet$Teller"
def TX8 : u_T := fun k => match k with
  | 0 => ("EditsMeet$Teller", "trees", "LEditsMeet$Trees;", true)
  | 1 => ("EditsMeet$Teller", "works", "LEditsMeet$Works;", true)
  | 2 => ("EditsMeet$Teller", "reader", "LEditsMeet$Reader;", true)
  | 3 => ("EditsMeet$Teller", "one", "LEditsMeet$Edge;", true)
  | 4 => ("EditsMeet$Teller", "other", "LEditsMeet$Edge;", true)
  | 5 => ("EditsMeet$Teller", "trail", "[I", true)
  | 6 => ("EditsMeet$Teller", "sums", "[J", true)
  | 7 => ("EditsMeet$Teller", "bucketBits", "I", false)
  | 8 => ("EditsMeet$Teller", "sought", "I", false)
  | 9 => ("EditsMeet$Teller", "noted", "I", false)
  | 10 => ("EditsMeet$Teller", "signs", "[C", true)
  | 11 => ("EditsMeet$Teller", "signCount", "I", false)
  | 12 => ("EditsMeet$Teller", "act", "I", false)
  | 13 => ("EditsMeet$Teller", "count", "J", false)
  | 14 => ("EditsMeet$Teller", "inLeaf", "J", false)
  | 15 => ("EditsMeet$Teller", "partSize", "J", false)
  | 16 => ("EditsMeet$Teller", "placed", "J", false)
  | 17 => ("EditsMeet$Teller", "passed", "J", false)
  | _ => ("EditsMeet$Teller", "last", "I", false)
def tyX8 : Nat → FieldType := fun k => match k with
  | 0 => .object "EditsMeet$Trees"
  | 1 => .object "EditsMeet$Works"
  | 2 => .object "EditsMeet$Reader"
  | 3 => .object "EditsMeet$Edge"
  | 4 => .object "EditsMeet$Edge"
  | 5 => .array .int
  | 6 => .array .long
  | 7 => .int
  | 8 => .int
  | 9 => .int
  | 10 => .array .char
  | 11 => .int
  | 12 => .int
  | 13 => .long
  | 14 => .long
  | 15 => .long
  | 16 => .long
  | 17 => .long
  | _ => .int
abbrev wsX80 : List Cond := u_ws RX8 TX8 19
theorem nmX8 : ∀ a, a < 19 → ∀ b, b < 19 → a ≠ b → (TX8 a).2.1 ≠ (TX8 b).2.1 := by decide +kernel
theorem tyX8_ok : ∀ k, k < 19 → parseFieldDescriptor (TX8 k).2.2.1 = some (tyX8 k) := by decide +kernel
abbrev cX8_init : ByteArray := prog_10_method_1_code
def yX8_init : MethodName := ⟨RX8, "<init>", "(LEditsMeet$Reader;)V"⟩
abbrev cX8_sumOf : ByteArray := prog_10_method_2_code
def yX8_sumOf : MethodName := ⟨RX8, "sumOf", "(II)J"⟩
abbrev cX8_lettersMarked : ByteArray := prog_10_method_3_code
def yX8_lettersMarked : MethodName := ⟨RX8, "lettersMarked", "(II)I"⟩
abbrev cX8_sum : ByteArray := prog_10_method_4_code
def yX8_sum : MethodName := ⟨RX8, "sum", "(I)J"⟩
abbrev cX8_open : ByteArray := prog_10_method_5_code
def yX8_open : MethodName := ⟨RX8, "open", "(II)V"⟩
abbrev cX8_atHand : ByteArray := prog_10_method_6_code
def yX8_atHand : MethodName := ⟨RX8, "atHand", "(I)J"⟩
abbrev cX8_note : ByteArray := prog_10_method_7_code
def yX8_note : MethodName := ⟨RX8, "note", "(IJ)V"⟩
abbrev cX8_sumOfPair : ByteArray := prog_10_method_8_code
def yX8_sumOfPair : MethodName := ⟨RX8, "sumOfPair", "(IJJ)J"⟩
abbrev cX8_sumOfRun : ByteArray := prog_10_method_9_code
def yX8_sumOfRun : MethodName := ⟨RX8, "sumOfRun", "(IJ)J"⟩
abbrev cX8_ofAct : ByteArray := prog_10_method_10_code
def yX8_ofAct : MethodName := ⟨RX8, "ofAct", "(IJ)J"⟩
abbrev cX8_digits : ByteArray := prog_10_method_11_code
def yX8_digits : MethodName := ⟨RX8, "digits", "(J)I"⟩
abbrev cX8_signsOfMark : ByteArray := prog_10_method_12_code
def yX8_signsOfMark : MethodName := ⟨RX8, "signsOfMark", "(I)I"⟩
abbrev cX8_lettersWith : ByteArray := prog_10_method_13_code
def yX8_lettersWith : MethodName := ⟨RX8, "lettersWith", "(II)J"⟩
abbrev cX8_kindOf : ByteArray := prog_10_method_14_code
def yX8_kindOf : MethodName := ⟨RX8, "kindOf", "(I)I"⟩
abbrev cX8_seekPart : ByteArray := prog_10_method_15_code
def yX8_seekPart : MethodName := ⟨RX8, "seekPart", "(IJ)Z"⟩
abbrev cX8_seek : ByteArray := prog_10_method_16_code
def yX8_seek : MethodName := ⟨RX8, "seek", "(IJ)V"⟩
abbrev cX8_readPart : ByteArray := prog_10_method_17_code
def yX8_readPart : MethodName := ⟨RX8, "readPart", "(IJ)Z"⟩
abbrev cX8_kind : ByteArray := prog_10_method_18_code
def yX8_kind : MethodName := ⟨RX8, "kind", "()I"⟩
abbrev cX8_on : ByteArray := prog_10_method_19_code
def yX8_on : MethodName := ⟨RX8, "on", "()I"⟩
abbrev cX8_off : ByteArray := prog_10_method_20_code
def yX8_off : MethodName := ⟨RX8, "off", "()I"⟩
abbrev cX8_firstLetter : ByteArray := prog_10_method_21_code
def yX8_firstLetter : MethodName := ⟨RX8, "firstLetter", "()I"⟩
abbrev cX8_letterAt : ByteArray := prog_10_method_22_code
def yX8_letterAt : MethodName := ⟨RX8, "letterAt", "(IJ)I"⟩
abbrev cX8_signAt : ByteArray := prog_10_method_23_code
def yX8_signAt : MethodName := ⟨RX8, "signAt", "(II)I"⟩
abbrev cX8_readSign : ByteArray := prog_10_method_24_code
def yX8_readSign : MethodName := ⟨RX8, "readSign", "(II)Z"⟩
abbrev cX8_spell : ByteArray := prog_10_method_25_code
def yX8_spell : MethodName := ⟨RX8, "spell", "()V"⟩
abbrev cX8_spellSign : ByteArray := prog_10_method_26_code
def yX8_spellSign : MethodName := ⟨RX8, "spellSign", "(C)V"⟩
abbrev cX8_spellNumber : ByteArray := prog_10_method_27_code
def yX8_spellNumber : MethodName := ⟨RX8, "spellNumber", "(J)V"⟩
abbrev cX8_firstUnlikePart : ByteArray := prog_10_method_28_code
def yX8_firstUnlikePart : MethodName := ⟨RX8, "firstUnlikePart", "(II)J"⟩
abbrev cX8_firstUnlikePlace : ByteArray := prog_10_method_29_code
def yX8_firstUnlikePlace : MethodName := ⟨RX8, "firstUnlikePlace", "(II)J"⟩
abbrev cX8_readAlike : ByteArray := prog_10_method_30_code
def yX8_readAlike : MethodName := ⟨RX8, "readAlike", "(II)Z"⟩
abbrev cX8_passAlike : ByteArray := prog_10_method_31_code
def yX8_passAlike : MethodName := ⟨RX8, "passAlike", "(IIZ)V"⟩
abbrev cX8_passBoth : ByteArray := prog_10_method_32_code
def yX8_passBoth : MethodName := ⟨RX8, "passBoth", "(JZ)V"⟩
def RX9 : String := "EditsMeet$Trees"
def TX9 : u_T := fun k => match k with
  | 0 => ("EditsMeet$Trees", "trail", "[I", true)
  | 1 => ("EditsMeet$Trees", "few", "[I", true)
  | 2 => ("EditsMeet$Trees", "shapes", "[J", true)
  | 3 => ("EditsMeet$Trees", "sizes", "[J", true)
  | 4 => ("EditsMeet$Trees", "bigFrom", "[J", true)
  | 5 => ("EditsMeet$Trees", "bigTo", "[J", true)
  | 6 => ("EditsMeet$Trees", "known", "[J", true)
  | 7 => ("EditsMeet$Trees", "pool", "[J", true)
  | 8 => ("EditsMeet$Trees", "free", "I", false)
  | 9 => ("EditsMeet$Trees", "next", "I", false)
  | 10 => ("EditsMeet$Trees", "nextBig", "I", false)
  | 11 => ("EditsMeet$Trees", "freeBig", "I", false)
  | 12 => ("EditsMeet$Trees", "used", "I", false)
  | 13 => ("EditsMeet$Trees", "tries", "I", false)
  | 14 => ("EditsMeet$Trees", "tidied", "I", false)
  | _ => ("EditsMeet$Trees", "hasFailed", "Z", false)
def tyX9 : Nat → FieldType := fun k => match k with
  | 0 => .array .int
  | 1 => .array .int
  | 2 => .array .long
  | 3 => .array .long
  | 4 => .array .long
  | 5 => .array .long
  | 6 => .array .long
  | 7 => .array .long
  | 8 => .int
  | 9 => .int
  | 10 => .int
  | 11 => .int
  | 12 => .int
  | 13 => .int
  | 14 => .int
  | _ => .boolean
abbrev wsX90 : List Cond := u_ws RX9 TX9 16
theorem nmX9 : ∀ a, a < 16 → ∀ b, b < 16 → a ≠ b → (TX9 a).2.1 ≠ (TX9 b).2.1 := by decide +kernel
theorem tyX9_ok : ∀ k, k < 16 → parseFieldDescriptor (TX9 k).2.2.1 = some (tyX9 k) := by decide +kernel
abbrev cX9_init : ByteArray := prog_11_method_1_code
def yX9_init : MethodName := ⟨RX9, "<init>", "()V"⟩
abbrev cX9_left : ByteArray := prog_11_method_2_code
def yX9_left : MethodName := ⟨RX9, "left", "(I)I"⟩
abbrev cX9_right : ByteArray := prog_11_method_3_code
def yX9_right : MethodName := ⟨RX9, "right", "(I)I"⟩
abbrev cX9_level : ByteArray := prog_11_method_4_code
def yX9_level : MethodName := ⟨RX9, "level", "(I)I"⟩
abbrev cX9_leaves : ByteArray := prog_11_method_5_code
def yX9_leaves : MethodName := ⟨RX9, "leaves", "(I)I"⟩
abbrev cX9_base : ByteArray := prog_11_method_6_code
def yX9_base : MethodName := ⟨RX9, "base", "(I)I"⟩
abbrev cX9_times : ByteArray := prog_11_method_7_code
def yX9_times : MethodName := ⟨RX9, "times", "(I)J"⟩
abbrev cX9_isPair : ByteArray := prog_11_method_8_code
def yX9_isPair : MethodName := ⟨RX9, "isPair", "(I)Z"⟩
abbrev cX9_isLeaf : ByteArray := prog_11_method_9_code
def yX9_isLeaf : MethodName := ⟨RX9, "isLeaf", "(I)Z"⟩
abbrev cX9_act : ByteArray := prog_11_method_10_code
def yX9_act : MethodName := ⟨RX9, "act", "(I)I"⟩
abbrev cX9_from : ByteArray := prog_11_method_11_code
def yX9_from : MethodName := ⟨RX9, "from", "(I)J"⟩
abbrev cX9_to : ByteArray := prog_11_method_12_code
def yX9_to : MethodName := ⟨RX9, "to", "(I)J"⟩
abbrev cX9_size : ByteArray := prog_11_method_13_code
def yX9_size : MethodName := ⟨RX9, "size", "(II)J"⟩
abbrev cX9_count : ByteArray := prog_11_method_14_code
def yX9_count : MethodName := ⟨RX9, "count", "(I)J"⟩
abbrev cX9_beginsWithLetter : ByteArray := prog_11_method_15_code
def yX9_beginsWithLetter : MethodName := ⟨RX9, "beginsWithLetter", "(I)Z"⟩
abbrev cX9_endsWithLetter : ByteArray := prog_11_method_16_code
def yX9_endsWithLetter : MethodName := ⟨RX9, "endsWithLetter", "(I)Z"⟩
abbrev cX9_endsWithDelete : ByteArray := prog_11_method_17_code
def yX9_endsWithDelete : MethodName := ⟨RX9, "endsWithDelete", "(I)Z"⟩
abbrev cX9_hasDelete : ByteArray := prog_11_method_18_code
def yX9_hasDelete : MethodName := ⟨RX9, "hasDelete", "(I)Z"⟩
abbrev cX9_seam : ByteArray := prog_11_method_19_code
def yX9_seam : MethodName := ⟨RX9, "seam", "(II)I"⟩
abbrev cX9_actAt : ByteArray := prog_11_method_20_code
def yX9_actAt : MethodName := ⟨RX9, "actAt", "(IJ)I"⟩
abbrev cX9_fromAt : ByteArray := prog_11_method_21_code
def yX9_fromAt : MethodName := ⟨RX9, "fromAt", "(IJ)J"⟩
abbrev cX9_placeAfter : ByteArray := prog_11_method_22_code
def yX9_placeAfter : MethodName := ⟨RX9, "placeAfter", "(IJZ)J"⟩
abbrev cX9_leaf : ByteArray := prog_11_method_23_code
def yX9_leaf : MethodName := ⟨RX9, "leaf", "(IJ)I"⟩
abbrev cX9_run : ByteArray := prog_11_method_24_code
def yX9_run : MethodName := ⟨RX9, "run", "(IJ)I"⟩
abbrev cX9_pair : ByteArray := prog_11_method_25_code
def yX9_pair : MethodName := ⟨RX9, "pair", "(III)I"⟩
abbrev cX9_made : ByteArray := prog_11_method_26_code
def yX9_made : MethodName := ⟨RX9, "made", "(JJJ)I"⟩
abbrev cX9_spare : ByteArray := prog_11_method_27_code
def yX9_spare : MethodName := ⟨RX9, "spare", "()I"⟩
abbrev cX9_putSize : ByteArray := prog_11_method_28_code
def yX9_putSize : MethodName := ⟨RX9, "putSize", "(IJJ)Z"⟩
abbrev cX9_placeOf : ByteArray := prog_11_method_29_code
def yX9_placeOf : MethodName := ⟨RX9, "placeOf", "(JJ)I"⟩
abbrev cX9_knownAt : ByteArray := prog_11_method_30_code
def yX9_knownAt : MethodName := ⟨RX9, "knownAt", "(I)I"⟩
abbrev cX9_know : ByteArray := prog_11_method_31_code
def yX9_know : MethodName := ⟨RX9, "know", "(II)V"⟩
abbrev cX9_isScarce : ByteArray := prog_11_method_32_code
def yX9_isScarce : MethodName := ⟨RX9, "isScarce", "()Z"⟩
abbrev cX9_endTidying : ByteArray := prog_11_method_33_code
def yX9_endTidying : MethodName := ⟨RX9, "endTidying", "()V"⟩
abbrev cX9_failed : ByteArray := prog_11_method_34_code
def yX9_failed : MethodName := ⟨RX9, "failed", "()Z"⟩
abbrev cX9_isRoomy : ByteArray := prog_11_method_35_code
def yX9_isRoomy : MethodName := ⟨RX9, "isRoomy", "()Z"⟩
abbrev cX9_hasFewNodes : ByteArray := prog_11_method_36_code
def yX9_hasFewNodes : MethodName := ⟨RX9, "hasFewNodes", "(II)Z"⟩
abbrev cX9_tidy : ByteArray := prog_11_method_37_code
def yX9_tidy : MethodName := ⟨RX9, "tidy", "(I[I[I)V"⟩
abbrev cX9_throwAway : ByteArray := prog_11_method_38_code
def yX9_throwAway : MethodName := ⟨RX9, "throwAway", "(I)V"⟩
abbrev cX9_knowAgain : ByteArray := prog_11_method_39_code
def yX9_knowAgain : MethodName := ⟨RX9, "knowAgain", "(I)V"⟩
abbrev cX9_reach : ByteArray := prog_11_method_40_code
def yX9_reach : MethodName := ⟨RX9, "reach", "(I)V"⟩
def RX10 : String := "EditsMeet$Works"
def TX10 : u_T := fun k => match k with
  | 0 => ("EditsMeet$Works", "trees", "LEditsMeet$Trees;", true)
  | 1 => ("EditsMeet$Works", "slots", "[I", true)
  | 2 => ("EditsMeet$Works", "slotsTaken", "I", false)
  | 3 => ("EditsMeet$Works", "nodes", "[I", true)
  | 4 => ("EditsMeet$Works", "recipes", "[J", true)
  | 5 => ("EditsMeet$Works", "from", "[J", true)
  | 6 => ("EditsMeet$Works", "keys", "[J", true)
  | 7 => ("EditsMeet$Works", "states", "[I", true)
  | 8 => ("EditsMeet$Works", "marks", "[I", true)
  | 9 => ("EditsMeet$Works", "usedAt", "[I", true)
  | 10 => ("EditsMeet$Works", "trail", "[I", true)
  | 11 => ("EditsMeet$Works", "next", "I", false)
  | 12 => ("EditsMeet$Works", "clock", "I", false)
  | _ => ("EditsMeet$Works", "hasFailed", "Z", false)
def tyX10 : Nat → FieldType := fun k => match k with
  | 0 => .object "EditsMeet$Trees"
  | 1 => .array .int
  | 2 => .int
  | 3 => .array .int
  | 4 => .array .long
  | 5 => .array .long
  | 6 => .array .long
  | 7 => .array .int
  | 8 => .array .int
  | 9 => .array .int
  | 10 => .array .int
  | 11 => .int
  | 12 => .int
  | _ => .boolean
abbrev wsX100 : List Cond := u_ws RX10 TX10 14
theorem nmX10 : ∀ a, a < 14 → ∀ b, b < 14 → a ≠ b → (TX10 a).2.1 ≠ (TX10 b).2.1 := by decide +kernel
theorem tyX10_ok : ∀ k, k < 14 → parseFieldDescriptor (TX10 k).2.2.1 = some (tyX10 k) := by decide +kernel
abbrev cX10_init : ByteArray := prog_12_method_1_code
def yX10_init : MethodName := ⟨RX10, "<init>", "(LEditsMeet$Trees;)V"⟩
abbrev cX10_newSlots : ByteArray := prog_12_method_2_code
def yX10_newSlots : MethodName := ⟨RX10, "newSlots", "(I)I"⟩
abbrev cX10_held : ByteArray := prog_12_method_3_code
def yX10_held : MethodName := ⟨RX10, "held", "(I)I"⟩
abbrev cX10_hold : ByteArray := prog_12_method_4_code
def yX10_hold : MethodName := ⟨RX10, "hold", "(II)V"⟩
abbrev cX10_letGo : ByteArray := prog_12_method_5_code
def yX10_letGo : MethodName := ⟨RX10, "letGo", "(II)V"⟩
abbrev cX10_holdLike : ByteArray := prog_12_method_6_code
def yX10_holdLike : MethodName := ⟨RX10, "holdLike", "(III)V"⟩
abbrev cX10_isWork : ByteArray := prog_12_method_7_code
def yX10_isWork : MethodName := ⟨RX10, "isWork", "(I)Z"⟩
abbrev cX10_failed : ByteArray := prog_12_method_8_code
def yX10_failed : MethodName := ⟨RX10, "failed", "()Z"⟩
abbrev cX10_node : ByteArray := prog_12_method_9_code
def yX10_node : MethodName := ⟨RX10, "node", "(I)I"⟩
abbrev cX10_from : ByteArray := prog_12_method_10_code
def yX10_from : MethodName := ⟨RX10, "from", "(I)J"⟩
abbrev cX10_to : ByteArray := prog_12_method_11_code
def yX10_to : MethodName := ⟨RX10, "to", "(I)J"⟩
abbrev cX10_isThere : ByteArray := prog_12_method_12_code
def yX10_isThere : MethodName := ⟨RX10, "isThere", "(I)Z"⟩
abbrev cX10_isBig : ByteArray := prog_12_method_13_code
def yX10_isBig : MethodName := ⟨RX10, "isBig", "(I)Z"⟩
abbrev cX10_mayDelete : ByteArray := prog_12_method_14_code
def yX10_mayDelete : MethodName := ⟨RX10, "mayDelete", "(I)Z"⟩
abbrev cX10_isStraight : ByteArray := prog_12_method_15_code
def yX10_isStraight : MethodName := ⟨RX10, "isStraight", "(I)Z"⟩
abbrev cX10_way : ByteArray := prog_12_method_16_code
def yX10_way : MethodName := ⟨RX10, "way", "(I)I"⟩
abbrev cX10_one : ByteArray := prog_12_method_17_code
def yX10_one : MethodName := ⟨RX10, "one", "(I)I"⟩
abbrev cX10_two : ByteArray := prog_12_method_18_code
def yX10_two : MethodName := ⟨RX10, "two", "(I)I"⟩
abbrev cX10_use : ByteArray := prog_12_method_19_code
def yX10_use : MethodName := ⟨RX10, "use", "(I)V"⟩
abbrev cX10_begin : ByteArray := prog_12_method_20_code
def yX10_begin : MethodName := ⟨RX10, "begin", "(III)I"⟩
abbrev cX10_known : ByteArray := prog_12_method_21_code
def yX10_known : MethodName := ⟨RX10, "known", "(I)I"⟩
abbrev cX10_put : ByteArray := prog_12_method_22_code
def yX10_put : MethodName := ⟨RX10, "put", "(II)V"⟩
abbrev cX10_makeBig : ByteArray := prog_12_method_23_code
def yX10_makeBig : MethodName := ⟨RX10, "makeBig", "(I)V"⟩
abbrev cX10_measured : ByteArray := prog_12_method_24_code
def yX10_measured : MethodName := ⟨RX10, "measured", "(IJ)V"⟩
abbrev cX10_measure : ByteArray := prog_12_method_25_code
def yX10_measure : MethodName := ⟨RX10, "measure", "(I)V"⟩
abbrev cX10_spare : ByteArray := prog_12_method_26_code
def yX10_spare : MethodName := ⟨RX10, "spare", "()I"⟩
abbrev cX10_forgetRecipes : ByteArray := prog_12_method_27_code
def yX10_forgetRecipes : MethodName := ⟨RX10, "forgetRecipes", "()V"⟩
abbrev cX10_collect : ByteArray := prog_12_method_28_code
def yX10_collect : MethodName := ⟨RX10, "collect", "()V"⟩
abbrev cX10_note : ByteArray := prog_12_method_29_code
def yX10_note : MethodName := ⟨RX10, "note", "(II)V"⟩
abbrev cX10_pin : ByteArray := prog_12_method_30_code
def yX10_pin : MethodName := ⟨RX10, "pin", "(I[II)V"⟩
abbrev cX10_sweep : ByteArray := prog_12_method_31_code
def yX10_sweep : MethodName := ⟨RX10, "sweep", "()V"⟩
abbrev cX10_giveUp : ByteArray := prog_12_method_32_code
def yX10_giveUp : MethodName := ⟨RX10, "giveUp", "(I)V"⟩
abbrev cX10_canBeGivenUp : ByteArray := prog_12_method_33_code
def yX10_canBeGivenUp : MethodName := ⟨RX10, "canBeGivenUp", "(II)Z"⟩
def RX11 : String := "EditsMeet"
def TX11 : u_T := fun k => match k with
  | 0 => ("EditsMeet", "trees", "LEditsMeet$Trees;", true)
  | 1 => ("EditsMeet", "works", "LEditsMeet$Works;", true)
  | 2 => ("EditsMeet", "reader", "LEditsMeet$Reader;", true)
  | 3 => ("EditsMeet", "teller", "LEditsMeet$Teller;", true)
  | 4 => ("EditsMeet", "loom", "LEditsMeet$Loom;", true)
  | 5 => ("EditsMeet", "tape", "LEditsMeet$Tape;", true)
  | 6 => ("EditsMeet", "edits", "I", true)
  | 7 => ("EditsMeet", "areEdits", "[Z", true)
  | 8 => ("EditsMeet", "shelves", "[LEditsMeet$Shelf;", true)
  | 9 => ("EditsMeet", "refusals", "[I", true)
  | 10 => ("EditsMeet", "meeting", "LEditsMeet$Meeting;", true)
  | 11 => ("EditsMeet", "imaged", "LEditsMeet$Meeting;", true)
  | 12 => ("EditsMeet", "ahead", "LEditsMeet$Client;", true)
  | _ => ("EditsMeet", "hasImage", "Z", false)
def tyX11 : Nat → FieldType := fun k => match k with
  | 0 => .object "EditsMeet$Trees"
  | 1 => .object "EditsMeet$Works"
  | 2 => .object "EditsMeet$Reader"
  | 3 => .object "EditsMeet$Teller"
  | 4 => .object "EditsMeet$Loom"
  | 5 => .object "EditsMeet$Tape"
  | 6 => .int
  | 7 => .array .boolean
  | 8 => .array (.object "EditsMeet$Shelf")
  | 9 => .array .int
  | 10 => .object "EditsMeet$Meeting"
  | 11 => .object "EditsMeet$Meeting"
  | 12 => .object "EditsMeet$Client"
  | _ => .boolean
abbrev wsX110 : List Cond := u_ws RX11 TX11 14
theorem nmX11 : ∀ a, a < 14 → ∀ b, b < 14 → a ≠ b → (TX11 a).2.1 ≠ (TX11 b).2.1 := by decide +kernel
theorem tyX11_ok : ∀ k, k < 14 → parseFieldDescriptor (TX11 k).2.2.1 = some (tyX11 k) := by decide +kernel
abbrev cX11_init : ByteArray := prog_1_method_1_code
def yX11_init : MethodName := ⟨RX11, "<init>", "()V"⟩
abbrev cX11_row : ByteArray := prog_1_method_2_code
def yX11_row : MethodName := ⟨RX11, "row", "(III)I"⟩
abbrev cX11_set : ByteArray := prog_1_method_3_code
def yX11_set : MethodName := ⟨RX11, "set", "(IIJ)I"⟩
abbrev cX11_copy : ByteArray := prog_1_method_4_code
def yX11_copy : MethodName := ⟨RX11, "copy", "(IIIII)I"⟩
abbrev cX11_element : ByteArray := prog_1_method_5_code
def yX11_element : MethodName := ⟨RX11, "element", "(II)J"⟩
abbrev cX11_holds : ByteArray := prog_1_method_6_code
def yX11_holds : MethodName := ⟨RX11, "holds", "(I)I"⟩
abbrev cX11_show : ByteArray := prog_1_method_7_code
def yX11_show : MethodName := ⟨RX11, "show", "(III)I"⟩
abbrev cX11_says : ByteArray := prog_1_method_8_code
def yX11_says : MethodName := ⟨RX11, "says", "(II)I"⟩
abbrev cX11_shelfAt : ByteArray := prog_1_method_9_code
def yX11_shelfAt : MethodName := ⟨RX11, "shelfAt", "(I)LEditsMeet$Shelf;"⟩
abbrev cX11_isStretch : ByteArray := prog_1_method_10_code
def yX11_isStretch : MethodName := ⟨RX11, "isStretch", "(IIJ)Z"⟩
abbrev cX11_told : ByteArray := prog_1_method_11_code
def yX11_told : MethodName := ⟨RX11, "told", "(J)I"⟩
abbrev cX11_isUnder : ByteArray := prog_1_method_12_code
def yX11_isUnder : MethodName := ⟨RX11, "isUnder", "(II)Z"⟩
abbrev cX11_feed : ByteArray := prog_1_method_13_code
def yX11_feed : MethodName := ⟨RX11, "feed", "(I)I"⟩
abbrev cX11_wipe : ByteArray := prog_1_method_14_code
def yX11_wipe : MethodName := ⟨RX11, "wipe", "()I"⟩
abbrev cX11_edit : ByteArray := prog_1_method_15_code
def yX11_edit : MethodName := ⟨RX11, "edit", "(I)I"⟩
abbrev cX11_of : ByteArray := prog_1_method_16_code
def yX11_of : MethodName := ⟨RX11, "of", "(II)I"⟩
abbrev cX11_part : ByteArray := prog_1_method_17_code
def yX11_part : MethodName := ⟨RX11, "part", "(III)I"⟩
abbrev cX11_letter : ByteArray := prog_1_method_18_code
def yX11_letter : MethodName := ⟨RX11, "letter", "(III)I"⟩
abbrev cX11_spelled : ByteArray := prog_1_method_19_code
def yX11_spelled : MethodName := ⟨RX11, "spelled", "(II)I"⟩
abbrev cX11_behind : ByteArray := prog_1_method_20_code
def yX11_behind : MethodName := ⟨RX11, "behind", "(III)I"⟩
abbrev cX11_over : ByteArray := prog_1_method_21_code
def yX11_over : MethodName := ⟨RX11, "over", "(IIII)I"⟩
abbrev cX11_turned : ByteArray := prog_1_method_22_code
def yX11_turned : MethodName := ⟨RX11, "turned", "(III)I"⟩
abbrev cX11_differ : ByteArray := prog_1_method_23_code
def yX11_differ : MethodName := ⟨RX11, "differ", "(II)I"⟩
abbrev cX11_isNumber : ByteArray := prog_1_method_24_code
def yX11_isNumber : MethodName := ⟨RX11, "isNumber", "(I)Z"⟩
abbrev cX11_isEdit : ByteArray := prog_1_method_25_code
def yX11_isEdit : MethodName := ⟨RX11, "isEdit", "(I)Z"⟩
abbrev cX11_fetched : ByteArray := prog_1_method_26_code
def yX11_fetched : MethodName := ⟨RX11, "fetched", "(I)I"⟩
abbrev cX11_measured : ByteArray := prog_1_method_27_code
def yX11_measured : MethodName := ⟨RX11, "measured", "(I)I"⟩
abbrev cX11_keep : ByteArray := prog_1_method_28_code
def yX11_keep : MethodName := ⟨RX11, "keep", "(II)I"⟩
abbrev cX11_isTooBig : ByteArray := prog_1_method_29_code
def yX11_isTooBig : MethodName := ⟨RX11, "isTooBig", "(I)Z"⟩
abbrev cX11_does : ByteArray := prog_1_method_30_code
def yX11_does : MethodName := ⟨RX11, "does", "(II)I"⟩
abbrev cX11_insert : ByteArray := prog_1_method_31_code
def yX11_insert : MethodName := ⟨RX11, "insert", "(IIII)I"⟩
abbrev cX11_cut : ByteArray := prog_1_method_32_code
def yX11_cut : MethodName := ⟨RX11, "cut", "(III)I"⟩
abbrev cX11_mark : ByteArray := prog_1_method_33_code
def yX11_mark : MethodName := ⟨RX11, "mark", "(IIIII)I"⟩
abbrev cX11_undo : ByteArray := prog_1_method_34_code
def yX11_undo : MethodName := ⟨RX11, "undo", "(I)I"⟩
abbrev cX11_redo : ByteArray := prog_1_method_35_code
def yX11_redo : MethodName := ⟨RX11, "redo", "(I)I"⟩
abbrev cX11_point : ByteArray := prog_1_method_36_code
def yX11_point : MethodName := ⟨RX11, "point", "(III)I"⟩
abbrev cX11_hasNoRoom : ByteArray := prog_1_method_37_code
def yX11_hasNoRoom : MethodName := ⟨RX11, "hasNoRoom", "(LEditsMeet$Client;)Z"⟩
abbrev cX11_whyNotAgain : ByteArray := prog_1_method_38_code
def yX11_whyNotAgain : MethodName := ⟨RX11, "whyNotAgain", "(LEditsMeet$Client;I)I"⟩
abbrev cX11_serve : ByteArray := prog_1_method_39_code
def yX11_serve : MethodName := ⟨RX11, "serve", "(I)I"⟩
abbrev cX11_hear : ByteArray := prog_1_method_40_code
def yX11_hear : MethodName := ⟨RX11, "hear", "(I)I"⟩
abbrev cX11_meet : ByteArray := prog_1_method_41_code
def yX11_meet : MethodName := ⟨RX11, "meet", "()I"⟩
abbrev cX11_cursor : ByteArray := prog_1_method_42_code
def yX11_cursor : MethodName := ⟨RX11, "cursor", "(II)I"⟩
abbrev cX11_clientOf : ByteArray := prog_1_method_43_code
def yX11_clientOf : MethodName := ⟨RX11, "clientOf", "(II)I"⟩
abbrev cX11_takes : ByteArray := prog_1_method_44_code
def yX11_takes : MethodName := ⟨RX11, "takes", "(III)I"⟩
abbrev cX11_revision : ByteArray := prog_1_method_45_code
def yX11_revision : MethodName := ⟨RX11, "revision", "(II)I"⟩
abbrev cX11_length : ByteArray := prog_1_method_46_code
def yX11_length : MethodName := ⟨RX11, "length", "(I)I"⟩
abbrev cX11_text : ByteArray := prog_1_method_47_code
def yX11_text : MethodName := ⟨RX11, "text", "(III)I"⟩
abbrev cX11_apart : ByteArray := prog_1_method_48_code
def yX11_apart : MethodName := ⟨RX11, "apart", "(II)I"⟩
abbrev cX11_marked : ByteArray := prog_1_method_49_code
def yX11_marked : MethodName := ⟨RX11, "marked", "(II)I"⟩
abbrev cX11_judge : ByteArray := prog_1_method_50_code
def yX11_judge : MethodName := ⟨RX11, "judge", "(III)I"⟩
abbrev cX11_days : ByteArray := prog_1_method_51_code
def yX11_days : MethodName := ⟨RX11, "days", "(I)I"⟩
abbrev cX11_seed : ByteArray := prog_1_method_52_code
def yX11_seed : MethodName := ⟨RX11, "seed", "(I)I"⟩
abbrev cX11_canBe : ByteArray := prog_1_method_53_code
def yX11_canBe : MethodName := ⟨RX11, "canBe", "(LEditsMeet$Client;I)Z"⟩
abbrev cX11_draftByDraws : ByteArray := prog_1_method_54_code
def yX11_draftByDraws : MethodName := ⟨RX11, "draftByDraws", "(LEditsMeet$Client;I)V"⟩
abbrev cX11_image : ByteArray := prog_1_method_55_code
def yX11_image : MethodName := ⟨RX11, "image", "()I"⟩
abbrev cX11_back : ByteArray := prog_1_method_56_code
def yX11_back : MethodName := ⟨RX11, "back", "()I"⟩
abbrev cX11_status : ByteArray := prog_1_method_57_code
def yX11_status : MethodName := ⟨RX11, "status", "(I)I"⟩
abbrev cX11_clientsAlike : ByteArray := prog_1_method_58_code
def yX11_clientsAlike : MethodName := ⟨RX11, "clientsAlike", "()I"⟩
abbrev cX11_allLetters : ByteArray := prog_1_method_59_code
def yX11_allLetters : MethodName := ⟨RX11, "allLetters", "()J"⟩
abbrev cX11_editsByNumber : ByteArray := prog_1_method_60_code
def yX11_editsByNumber : MethodName := ⟨RX11, "editsByNumber", "()I"⟩
abbrev cX11_shelvesInUse : ByteArray := prog_1_method_61_code
def yX11_shelvesInUse : MethodName := ⟨RX11, "shelvesInUse", "()I"⟩
abbrev cX11_refuse : ByteArray := prog_1_method_62_code
def yX11_refuse : MethodName := ⟨RX11, "refuse", "(I)I"⟩
abbrev cX11_nodeAt : ByteArray := prog_1_method_63_code
def yX11_nodeAt : MethodName := ⟨RX11, "nodeAt", "([II)I"⟩
abbrev cX11_putNode : ByteArray := prog_1_method_64_code
def yX11_putNode : MethodName := ⟨RX11, "putNode", "([III)V"⟩
def RX12 : String := "EditsMeetModel"
def TX12 : u_T := fun k => match k with
  | 0 => ("EditsMeetModel", "rows", "[[I", true)
  | 1 => ("EditsMeetModel", "size", "[I", true)
  | 2 => ("EditsMeetModel", "isThere", "[Z", true)
  | 3 => ("EditsMeetModel", "texts", "[[I", true)
  | 4 => ("EditsMeetModel", "lengths", "[I", true)
  | 5 => ("EditsMeetModel", "state", "[I", true)
  | 6 => ("EditsMeetModel", "by", "[I", true)
  | 7 => ("EditsMeetModel", "single", "[I", true)
  | 8 => ("EditsMeetModel", "refusals", "[I", true)
  | 9 => ("EditsMeetModel", "work", "[[I", true)
  | 10 => ("EditsMeetModel", "worked", "[I", true)
  | 11 => ("EditsMeetModel", "aside", "[I", true)
  | 12 => ("EditsMeetModel", "tape", "[I", true)
  | 13 => ("EditsMeetModel", "taped", "I", false)
  | 14 => ("EditsMeetModel", "place", "I", false)
  | 15 => ("EditsMeetModel", "number", "I", false)
  | 16 => ("EditsMeetModel", "texted", "I", false)
  | 17 => ("EditsMeetModel", "asked", "I", false)
  | 18 => ("EditsMeetModel", "found", "I", false)
  | 19 => ("EditsMeetModel", "sorts", "[I", true)
  | 20 => ("EditsMeetModel", "sizes", "[I", true)
  | 21 => ("EditsMeetModel", "elements", "[J", true)
  | 22 => ("EditsMeetModel", "partKind", "[I", true)
  | 23 => ("EditsMeetModel", "partMany", "[I", true)
  | 24 => ("EditsMeetModel", "partAbout", "[I", true)
  | 25 => ("EditsMeetModel", "keptRows", "[[I", true)
  | 26 => ("EditsMeetModel", "keptSize", "[I", true)
  | 27 => ("EditsMeetModel", "keptTexts", "[[I", true)
  | 28 => ("EditsMeetModel", "keptLengths", "[I", true)
  | 29 => ("EditsMeetModel", "keptState", "[I", true)
  | 30 => ("EditsMeetModel", "keptBy", "[I", true)
  | 31 => ("EditsMeetModel", "keptSingle", "[I", true)
  | _ => ("EditsMeetModel", "hasImage", "Z", false)
def tyX12 : Nat → FieldType := fun k => match k with
  | 0 => .array (.array .int)
  | 1 => .array .int
  | 2 => .array .boolean
  | 3 => .array (.array .int)
  | 4 => .array .int
  | 5 => .array .int
  | 6 => .array .int
  | 7 => .array .int
  | 8 => .array .int
  | 9 => .array (.array .int)
  | 10 => .array .int
  | 11 => .array .int
  | 12 => .array .int
  | 13 => .int
  | 14 => .int
  | 15 => .int
  | 16 => .int
  | 17 => .int
  | 18 => .int
  | 19 => .array .int
  | 20 => .array .int
  | 21 => .array .long
  | 22 => .array .int
  | 23 => .array .int
  | 24 => .array .int
  | 25 => .array (.array .int)
  | 26 => .array .int
  | 27 => .array (.array .int)
  | 28 => .array .int
  | 29 => .array .int
  | 30 => .array .int
  | 31 => .array .int
  | _ => .boolean
abbrev wsX120 : List Cond := u_ws RX12 TX12 33
theorem nmX12 : ∀ a, a < 33 → ∀ b, b < 33 → a ≠ b → (TX12 a).2.1 ≠ (TX12 b).2.1 := by decide +kernel
theorem tyX12_ok : ∀ k, k < 33 → parseFieldDescriptor (TX12 k).2.2.1 = some (tyX12 k) := by decide +kernel
abbrev cX12_init : ByteArray := prog_14_method_1_code
def yX12_init : MethodName := ⟨RX12, "<init>", "()V"⟩
abbrev cX12_in : ByteArray := prog_14_method_2_code
def yX12_in : MethodName := ⟨RX12, "in", "(JJJ)Z"⟩
abbrev cX12_refused : ByteArray := prog_14_method_3_code
def yX12_refused : MethodName := ⟨RX12, "refused", "(I)I"⟩
abbrev cX12_kind : ByteArray := prog_14_method_4_code
def yX12_kind : MethodName := ⟨RX12, "kind", "(I)I"⟩
abbrev cX12_grown : ByteArray := prog_14_method_5_code
def yX12_grown : MethodName := ⟨RX12, "grown", "([II)[I"⟩
abbrev cX12_adds : ByteArray := prog_14_method_6_code
def yX12_adds : MethodName := ⟨RX12, "adds", "(II)V"⟩
abbrev cX12_takesRow : ByteArray := prog_14_method_7_code
def yX12_takesRow : MethodName := ⟨RX12, "takesRow", "(II)V"⟩
abbrev cX12_keepsRow : ByteArray := prog_14_method_8_code
def yX12_keepsRow : MethodName := ⟨RX12, "keepsRow", "(II)V"⟩
abbrev cX12_copiesRow : ByteArray := prog_14_method_9_code
def yX12_copiesRow : MethodName := ⟨RX12, "copiesRow", "(II)V"⟩
abbrev cX12_plain : ByteArray := prog_14_method_10_code
def yX12_plain : MethodName := ⟨RX12, "plain", "(I)V"⟩
abbrev cX12_count : ByteArray := prog_14_method_11_code
def yX12_count : MethodName := ⟨RX12, "count", "([III)I"⟩
abbrev cX12_from : ByteArray := prog_14_method_12_code
def yX12_from : MethodName := ⟨RX12, "from", "(I)I"⟩
abbrev cX12_to : ByteArray := prog_14_method_13_code
def yX12_to : MethodName := ⟨RX12, "to", "(I)I"⟩
abbrev cX12_isTooLarge : ByteArray := prog_14_method_14_code
def yX12_isTooLarge : MethodName := ⟨RX12, "isTooLarge", "(I)Z"⟩
abbrev cX12_marksOf : ByteArray := prog_14_method_15_code
def yX12_marksOf : MethodName := ⟨RX12, "marksOf", "(II)I"⟩
abbrev cX12_behindRow : ByteArray := prog_14_method_16_code
def yX12_behindRow : MethodName := ⟨RX12, "behindRow", "(III)V"⟩
abbrev cX12_together : ByteArray := prog_14_method_17_code
def yX12_together : MethodName := ⟨RX12, "together", "(III)V"⟩
abbrev cX12_overRow : ByteArray := prog_14_method_18_code
def yX12_overRow : MethodName := ⟨RX12, "overRow", "(IIII)V"⟩
abbrev cX12_overOne : ByteArray := prog_14_method_19_code
def yX12_overOne : MethodName := ⟨RX12, "overOne", "(IIII)V"⟩
abbrev cX12_turnedRow : ByteArray := prog_14_method_20_code
def yX12_turnedRow : MethodName := ⟨RX12, "turnedRow", "(III)V"⟩
abbrev cX12_makes : ByteArray := prog_14_method_21_code
def yX12_makes : MethodName := ⟨RX12, "makes", "(II)V"⟩
abbrev cX12_goesAlong : ByteArray := prog_14_method_22_code
def yX12_goesAlong : MethodName := ⟨RX12, "goesAlong", "(IIZ)I"⟩
abbrev cX12_st : ByteArray := prog_14_method_23_code
def yX12_st : MethodName := ⟨RX12, "st", "(II)I"⟩
abbrev cX12_cursorGoes : ByteArray := prog_14_method_24_code
def yX12_cursorGoes : MethodName := ⟨RX12, "cursorGoes", "(IIZ)V"⟩
abbrev cX12_pushes : ByteArray := prog_14_method_25_code
def yX12_pushes : MethodName := ⟨RX12, "pushes", "(III)V"⟩
abbrev cX12_done : ByteArray := prog_14_method_26_code
def yX12_done : MethodName := ⟨RX12, "done", "(IIZ)V"⟩
abbrev cX12_resultLength : ByteArray := prog_14_method_27_code
def yX12_resultLength : MethodName := ⟨RX12, "resultLength", "(I)I"⟩
abbrev cX12_isFull : ByteArray := prog_14_method_28_code
def yX12_isFull : MethodName := ⟨RX12, "isFull", "(II)Z"⟩
abbrev cX12_serves : ByteArray := prog_14_method_29_code
def yX12_serves : MethodName := ⟨RX12, "serves", "(I)I"⟩
abbrev cX12_keepsWork : ByteArray := prog_14_method_30_code
def yX12_keepsWork : MethodName := ⟨RX12, "keepsWork", "(II)V"⟩
abbrev cX12_crosses : ByteArray := prog_14_method_31_code
def yX12_crosses : MethodName := ⟨RX12, "crosses", "(I)V"⟩
abbrev cX12_hears : ByteArray := prog_14_method_32_code
def yX12_hears : MethodName := ⟨RX12, "hears", "(I)V"⟩
abbrev cX12_isClient : ByteArray := prog_14_method_33_code
def yX12_isClient : MethodName := ⟨RX12, "isClient", "(I)Z"⟩
abbrev cX12_isEdit : ByteArray := prog_14_method_34_code
def yX12_isEdit : MethodName := ⟨RX12, "isEdit", "(I)Z"⟩
abbrev cX12_feed : ByteArray := prog_14_method_35_code
def yX12_feed : MethodName := ⟨RX12, "feed", "(I)I"⟩
abbrev cX12_wipe : ByteArray := prog_14_method_36_code
def yX12_wipe : MethodName := ⟨RX12, "wipe", "()I"⟩
abbrev cX12_byteAt : ByteArray := prog_14_method_37_code
def yX12_byteAt : MethodName := ⟨RX12, "byteAt", "(I)I"⟩
abbrev cX12_isNumber : ByteArray := prog_14_method_38_code
def yX12_isNumber : MethodName := ⟨RX12, "isNumber", "(I)Z"⟩
abbrev cX12_isPart : ByteArray := prog_14_method_39_code
def yX12_isPart : MethodName := ⟨RX12, "isPart", "()Z"⟩
abbrev cX12_edit : ByteArray := prog_14_method_40_code
def yX12_edit : MethodName := ⟨RX12, "edit", "(I)I"⟩
abbrev cX12_comes : ByteArray := prog_14_method_41_code
def yX12_comes : MethodName := ⟨RX12, "comes", "(II)I"⟩
abbrev cX12_isOne : ByteArray := prog_14_method_42_code
def yX12_isOne : MethodName := ⟨RX12, "isOne", "(II)Z"⟩
abbrev cX12_parts : ByteArray := prog_14_method_43_code
def yX12_parts : MethodName := ⟨RX12, "parts", "(I)I"⟩
abbrev cX12_beginOf : ByteArray := prog_14_method_44_code
def yX12_beginOf : MethodName := ⟨RX12, "beginOf", "(II)I"⟩
abbrev cX12_kindTold : ByteArray := prog_14_method_45_code
def yX12_kindTold : MethodName := ⟨RX12, "kindTold", "(I)I"⟩
abbrev cX12_isKept : ByteArray := prog_14_method_46_code
def yX12_isKept : MethodName := ⟨RX12, "isKept", "(I)Z"⟩
abbrev cX12_letters : ByteArray := prog_14_method_47_code
def yX12_letters : MethodName := ⟨RX12, "letters", "(II)I"⟩
abbrev cX12_of : ByteArray := prog_14_method_48_code
def yX12_of : MethodName := ⟨RX12, "of", "(II)I"⟩
abbrev cX12_part : ByteArray := prog_14_method_49_code
def yX12_part : MethodName := ⟨RX12, "part", "(III)I"⟩
abbrev cX12_letter : ByteArray := prog_14_method_50_code
def yX12_letter : MethodName := ⟨RX12, "letter", "(III)I"⟩
abbrev cX12_tells : ByteArray := prog_14_method_51_code
def yX12_tells : MethodName := ⟨RX12, "tells", "(I)V"⟩
abbrev cX12_tellsNumber : ByteArray := prog_14_method_52_code
def yX12_tellsNumber : MethodName := ⟨RX12, "tellsNumber", "(I)V"⟩
abbrev cX12_tellsPart : ByteArray := prog_14_method_53_code
def yX12_tellsPart : MethodName := ⟨RX12, "tellsPart", "(II)V"⟩
abbrev cX12_spelled : ByteArray := prog_14_method_54_code
def yX12_spelled : MethodName := ⟨RX12, "spelled", "(II)I"⟩
abbrev cX12_made : ByteArray := prog_14_method_55_code
def yX12_made : MethodName := ⟨RX12, "made", "(II)I"⟩
abbrev cX12_behind : ByteArray := prog_14_method_56_code
def yX12_behind : MethodName := ⟨RX12, "behind", "(III)I"⟩
abbrev cX12_over : ByteArray := prog_14_method_57_code
def yX12_over : MethodName := ⟨RX12, "over", "(IIII)I"⟩
abbrev cX12_turned : ByteArray := prog_14_method_58_code
def yX12_turned : MethodName := ⟨RX12, "turned", "(III)I"⟩
abbrev cX12_differ : ByteArray := prog_14_method_59_code
def yX12_differ : MethodName := ⟨RX12, "differ", "(II)I"⟩
abbrev cX12_does : ByteArray := prog_14_method_60_code
def yX12_does : MethodName := ⟨RX12, "does", "(II)I"⟩
abbrev cX12_keepsAllBut : ByteArray := prog_14_method_61_code
def yX12_keepsAllBut : MethodName := ⟨RX12, "keepsAllBut", "(IIII)V"⟩
abbrev cX12_inserts : ByteArray := prog_14_method_62_code
def yX12_inserts : MethodName := ⟨RX12, "inserts", "(III)V"⟩
abbrev cX12_insert : ByteArray := prog_14_method_63_code
def yX12_insert : MethodName := ⟨RX12, "insert", "(IIII)I"⟩
abbrev cX12_isStretch : ByteArray := prog_14_method_64_code
def yX12_isStretch : MethodName := ⟨RX12, "isStretch", "(III)Z"⟩
abbrev cX12_cut : ByteArray := prog_14_method_65_code
def yX12_cut : MethodName := ⟨RX12, "cut", "(III)I"⟩
abbrev cX12_mark : ByteArray := prog_14_method_66_code
def yX12_mark : MethodName := ⟨RX12, "mark", "(IIIII)I"⟩
abbrev cX12_serve : ByteArray := prog_14_method_67_code
def yX12_serve : MethodName := ⟨RX12, "serve", "(I)I"⟩
abbrev cX12_hear : ByteArray := prog_14_method_68_code
def yX12_hear : MethodName := ⟨RX12, "hear", "(I)I"⟩
abbrev cX12_hearAll : ByteArray := prog_14_method_69_code
def yX12_hearAll : MethodName := ⟨RX12, "hearAll", "()V"⟩
abbrev cX12_isAnySent : ByteArray := prog_14_method_70_code
def yX12_isAnySent : MethodName := ⟨RX12, "isAnySent", "()Z"⟩
abbrev cX12_meet : ByteArray := prog_14_method_71_code
def yX12_meet : MethodName := ⟨RX12, "meet", "()I"⟩
abbrev cX12_again : ByteArray := prog_14_method_72_code
def yX12_again : MethodName := ⟨RX12, "again", "(II)I"⟩
abbrev cX12_undo : ByteArray := prog_14_method_73_code
def yX12_undo : MethodName := ⟨RX12, "undo", "(I)I"⟩
abbrev cX12_redo : ByteArray := prog_14_method_74_code
def yX12_redo : MethodName := ⟨RX12, "redo", "(I)I"⟩
abbrev cX12_point : ByteArray := prog_14_method_75_code
def yX12_point : MethodName := ⟨RX12, "point", "(III)I"⟩
abbrev cX12_cursor : ByteArray := prog_14_method_76_code
def yX12_cursor : MethodName := ⟨RX12, "cursor", "(II)I"⟩
abbrev cX12_clientOf : ByteArray := prog_14_method_77_code
def yX12_clientOf : MethodName := ⟨RX12, "clientOf", "(II)I"⟩
abbrev cX12_takes : ByteArray := prog_14_method_78_code
def yX12_takes : MethodName := ⟨RX12, "takes", "(III)I"⟩
abbrev cX12_revision : ByteArray := prog_14_method_79_code
def yX12_revision : MethodName := ⟨RX12, "revision", "(II)I"⟩
abbrev cX12_isText : ByteArray := prog_14_method_80_code
def yX12_isText : MethodName := ⟨RX12, "isText", "(I)Z"⟩
abbrev cX12_length : ByteArray := prog_14_method_81_code
def yX12_length : MethodName := ⟨RX12, "length", "(I)I"⟩
abbrev cX12_text : ByteArray := prog_14_method_82_code
def yX12_text : MethodName := ⟨RX12, "text", "(III)I"⟩
abbrev cX12_firstApart : ByteArray := prog_14_method_83_code
def yX12_firstApart : MethodName := ⟨RX12, "firstApart", "(II)I"⟩
abbrev cX12_apart : ByteArray := prog_14_method_84_code
def yX12_apart : MethodName := ⟨RX12, "apart", "(II)I"⟩
abbrev cX12_marked : ByteArray := prog_14_method_85_code
def yX12_marked : MethodName := ⟨RX12, "marked", "(II)I"⟩
abbrev cX12_isShelf : ByteArray := prog_14_method_86_code
def yX12_isShelf : MethodName := ⟨RX12, "isShelf", "(I)Z"⟩
abbrev cX12_row : ByteArray := prog_14_method_87_code
def yX12_row : MethodName := ⟨RX12, "row", "(III)I"⟩
abbrev cX12_lowest : ByteArray := prog_14_method_88_code
def yX12_lowest : MethodName := ⟨RX12, "lowest", "(IJ)J"⟩
abbrev cX12_set : ByteArray := prog_14_method_89_code
def yX12_set : MethodName := ⟨RX12, "set", "(IIJ)I"⟩
abbrev cX12_copy : ByteArray := prog_14_method_90_code
def yX12_copy : MethodName := ⟨RX12, "copy", "(IIIII)I"⟩
abbrev cX12_element : ByteArray := prog_14_method_91_code
def yX12_element : MethodName := ⟨RX12, "element", "(II)J"⟩
abbrev cX12_holds : ByteArray := prog_14_method_92_code
def yX12_holds : MethodName := ⟨RX12, "holds", "(I)I"⟩
abbrev cX12_show : ByteArray := prog_14_method_93_code
def yX12_show : MethodName := ⟨RX12, "show", "(III)I"⟩
abbrev cX12_isUnder : ByteArray := prog_14_method_94_code
def yX12_isUnder : MethodName := ⟨RX12, "isUnder", "(II)Z"⟩
abbrev cX12_says : ByteArray := prog_14_method_95_code
def yX12_says : MethodName := ⟨RX12, "says", "(II)I"⟩
abbrev cX12_judge : ByteArray := prog_14_method_96_code
def yX12_judge : MethodName := ⟨RX12, "judge", "(III)I"⟩
abbrev cX12_draw : ByteArray := prog_14_method_97_code
def yX12_draw : MethodName := ⟨RX12, "draw", "(I)I"⟩
abbrev cX12_isDay : ByteArray := prog_14_method_98_code
def yX12_isDay : MethodName := ⟨RX12, "isDay", "(II)Z"⟩
abbrev cX12_days : ByteArray := prog_14_method_99_code
def yX12_days : MethodName := ⟨RX12, "days", "(I)I"⟩
abbrev cX12_seed : ByteArray := prog_14_method_100_code
def yX12_seed : MethodName := ⟨RX12, "seed", "(I)I"⟩
abbrev cX12_copies : ByteArray := prog_14_method_101_code
def yX12_copies : MethodName := ⟨RX12, "copies", "([I[II)V"⟩
abbrev cX12_copiesRows : ByteArray := prog_14_method_102_code
def yX12_copiesRows : MethodName := ⟨RX12, "copiesRows", "([[I[II[[I[I)V"⟩
abbrev cX12_image : ByteArray := prog_14_method_103_code
def yX12_image : MethodName := ⟨RX12, "image", "()I"⟩
abbrev cX12_back : ByteArray := prog_14_method_104_code
def yX12_back : MethodName := ⟨RX12, "back", "()I"⟩
abbrev cX12_status : ByteArray := prog_14_method_105_code
def yX12_status : MethodName := ⟨RX12, "status", "(I)I"⟩
def RJ6 : String := "java/lang/Integer"
def TJ6 : u_T := fun k => match k with
  | _ => ("", "", "", false)
def tyJ6 : Nat → FieldType := fun k => match k with
  | _ => .int
abbrev wsJ60 : List Cond := u_ws RJ6 TJ6 0
theorem nmJ6 : ∀ a, a < 0 → ∀ b, b < 0 → a ≠ b → (TJ6 a).2.1 ≠ (TJ6 b).2.1 := by decide +kernel
theorem tyJ6_ok : ∀ k, k < 0 → parseFieldDescriptor (TJ6 k).2.2.1 = some (tyJ6 k) := by decide +kernel
abbrev cJ6_bitCount_0f7a4 : ByteArray := prog_15_method_49_code
def yJ6_bitCount_0f7a4 : MethodName := ⟨RJ6, "bitCount", "(I)I"⟩
def RJ9 : String := "java/lang/Math"
def TJ9 : u_T := fun k => match k with
  | _ => ("", "", "", false)
def tyJ9 : Nat → FieldType := fun k => match k with
  | _ => .int
abbrev wsJ90 : List Cond := u_ws RJ9 TJ9 0
theorem nmJ9 : ∀ a, a < 0 → ∀ b, b < 0 → a ≠ b → (TJ9 a).2.1 ≠ (TJ9 b).2.1 := by decide +kernel
theorem tyJ9_ok : ∀ k, k < 0 → parseFieldDescriptor (TJ9 k).2.2.1 = some (tyJ9 k) := by decide +kernel
abbrev cJ9_max_7cf53 : ByteArray := prog_16_method_65_code
def yJ9_max_7cf53 : MethodName := ⟨RJ9, "max", "(II)I"⟩
abbrev cJ9_max_f86c9 : ByteArray := prog_16_method_66_code
def yJ9_max_f86c9 : MethodName := ⟨RJ9, "max", "(JJ)J"⟩
abbrev cJ9_min_7cf53 : ByteArray := prog_16_method_69_code
def yJ9_min_7cf53 : MethodName := ⟨RJ9, "min", "(II)I"⟩
abbrev cJ9_min_f86c9 : ByteArray := prog_16_method_70_code
def yJ9_min_f86c9 : MethodName := ⟨RJ9, "min", "(JJ)J"⟩
def RJ10 : String := "java/lang/System"
def TJ10 : u_T := fun k => match k with
  | _ => ("", "", "", false)
def tyJ10 : Nat → FieldType := fun k => match k with
  | _ => .int
abbrev wsJ100 : List Cond := u_ws RJ10 TJ10 0
theorem nmJ10 : ∀ a, a < 0 → ∀ b, b < 0 → a ≠ b → (TJ10 a).2.1 ≠ (TJ10 b).2.1 := by decide +kernel
theorem tyJ10_ok : ∀ k, k < 0 → parseFieldDescriptor (TJ10 k).2.2.1 = some (tyJ10 k) := by decide +kernel
def RJ7 : String := "java/util/Arrays"
def TJ7 : u_T := fun k => match k with
  | _ => ("", "", "", false)
def tyJ7 : Nat → FieldType := fun k => match k with
  | _ => .int
abbrev wsJ70 : List Cond := u_ws RJ7 TJ7 0
theorem nmJ7 : ∀ a, a < 0 → ∀ b, b < 0 → a ≠ b → (TJ7 a).2.1 ≠ (TJ7 b).2.1 := by decide +kernel
theorem tyJ7_ok : ∀ k, k < 0 → parseFieldDescriptor (TJ7 k).2.2.1 = some (tyJ7 k) := by decide +kernel
abbrev cJ7_rangeCheck_23922 : ByteArray := prog_18_method_30_code
def yJ7_rangeCheck_23922 : MethodName := ⟨RJ7, "rangeCheck", "(III)V"⟩
abbrev cJ7_fill_d0a16 : ByteArray := prog_18_method_101_code
def yJ7_fill_d0a16 : MethodName := ⟨RJ7, "fill", "([JJ)V"⟩
abbrev cJ7_fill_bad5a : ByteArray := prog_18_method_102_code
def yJ7_fill_bad5a : MethodName := ⟨RJ7, "fill", "([JIIJ)V"⟩
abbrev cJ7_fill_53178 : ByteArray := prog_18_method_103_code
def yJ7_fill_53178 : MethodName := ⟨RJ7, "fill", "([II)V"⟩
abbrev cJ7_fill_fda19 : ByteArray := prog_18_method_104_code
def yJ7_fill_fda19 : MethodName := ⟨RJ7, "fill", "([IIII)V"⟩
def RL : String := "EditsMeetLaw"
abbrev cL_law : ByteArray := code
def yL_law : MethodName := ⟨RL, "law", "([I)Z"⟩
