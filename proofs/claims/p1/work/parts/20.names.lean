/-- a private method of a class that the tables say can be made, by its rows of tables_1 -/
def lw_okq (q : MethodName × Nat) : Prop := (q.1.cls ≠ "java/lang/invoke/MethodHandle" ∧ q.1.cls ≠ "java/lang/invoke/VarHandle") ∧ Cond.instantiable q.1.cls q.2 ∈ tables_1 ∧ Cond.privateMethod q.1 ∈ tables_1 ∧ Cond.instanceMethod q.1 ∈ tables_1
theorem lw_p0 : lw_okq (⟨"java/util/ArrayList", "add", "(Ljava/lang/Object;[Ljava/lang/Object;I)V"⟩, 3) := ⟨⟨by decide +kernel, by decide +kernel⟩, List.mem_of_getElem? (i := 43) (by decide +kernel), List.mem_of_getElem? (i := 234) (by decide +kernel), List.mem_of_getElem? (i := 235) (by decide +kernel)⟩
theorem lw_p1 : lw_okq (⟨"java/util/ArrayList", "grow", "()[Ljava/lang/Object;"⟩, 3) := ⟨⟨by decide +kernel, by decide +kernel⟩, List.mem_of_getElem? (i := 43) (by decide +kernel), List.mem_of_getElem? (i := 238) (by decide +kernel), List.mem_of_getElem? (i := 239) (by decide +kernel)⟩
theorem lw_p2 : lw_okq (⟨"java/util/ArrayList", "grow", "(I)[Ljava/lang/Object;"⟩, 3) := ⟨⟨by decide +kernel, by decide +kernel⟩, List.mem_of_getElem? (i := 43) (by decide +kernel), List.mem_of_getElem? (i := 242) (by decide +kernel), List.mem_of_getElem? (i := 243) (by decide +kernel)⟩
theorem lw_p3 : lw_okq (⟨"EditsMeet", "refuse", "(I)I"⟩, 10) := ⟨⟨by decide +kernel, by decide +kernel⟩, List.mem_of_getElem? (i := 25) (by decide +kernel), List.mem_of_getElem? (i := 482) (by decide +kernel), List.mem_of_getElem? (i := 483) (by decide +kernel)⟩
theorem lw_p4 : lw_okq (⟨"EditsMeet", "shelfToFill", "(I)LEditsMeet$Shelf;"⟩, 10) := ⟨⟨by decide +kernel, by decide +kernel⟩, List.mem_of_getElem? (i := 25) (by decide +kernel), List.mem_of_getElem? (i := 486) (by decide +kernel), List.mem_of_getElem? (i := 487) (by decide +kernel)⟩
theorem lw_p5 : lw_okq (⟨"EditsMeet$Shelf", "lowest", "(J)J"⟩, 6) := ⟨⟨by decide +kernel, by decide +kernel⟩, List.mem_of_getElem? (i := 489) (by decide +kernel), List.mem_of_getElem? (i := 537) (by decide +kernel), List.mem_of_getElem? (i := 538) (by decide +kernel)⟩
theorem lw_p6 : lw_okq (⟨"EditsMeet", "numbered", "(I)LEditsMeet$Edit;"⟩, 10) := ⟨⟨by decide +kernel, by decide +kernel⟩, List.mem_of_getElem? (i := 25) (by decide +kernel), List.mem_of_getElem? (i := 580) (by decide +kernel), List.mem_of_getElem? (i := 581) (by decide +kernel)⟩
theorem lw_p7 : lw_okq (⟨"EditsMeet$Letters", "isRoot", "(I)Z"⟩, 15) := ⟨⟨by decide +kernel, by decide +kernel⟩, List.mem_of_getElem? (i := 37) (by decide +kernel), List.mem_of_getElem? (i := 614) (by decide +kernel), List.mem_of_getElem? (i := 615) (by decide +kernel)⟩
theorem lw_p8 : lw_okq (⟨"EditsMeet$Letters", "isBranch", "(I)Z"⟩, 15) := ⟨⟨by decide +kernel, by decide +kernel⟩, List.mem_of_getElem? (i := 37) (by decide +kernel), List.mem_of_getElem? (i := 634) (by decide +kernel), List.mem_of_getElem? (i := 635) (by decide +kernel)⟩
theorem lw_p9 : lw_okq (⟨"EditsMeet$Tape", "readPart", "(LEditsMeet$Edit;)V"⟩, 3) := ⟨⟨by decide +kernel, by decide +kernel⟩, List.mem_of_getElem? (i := 118) (by decide +kernel), List.mem_of_getElem? (i := 712) (by decide +kernel), List.mem_of_getElem? (i := 713) (by decide +kernel)⟩
theorem lw_p10 : lw_okq (⟨"EditsMeet$Tape", "signAt", "(I)I"⟩, 3) := ⟨⟨by decide +kernel, by decide +kernel⟩, List.mem_of_getElem? (i := 118) (by decide +kernel), List.mem_of_getElem? (i := 716) (by decide +kernel), List.mem_of_getElem? (i := 717) (by decide +kernel)⟩
theorem lw_p11 : lw_okq (⟨"EditsMeet$Tape", "readLetters", "(LEditsMeet$Edit;)V"⟩, 3) := ⟨⟨by decide +kernel, by decide +kernel⟩, List.mem_of_getElem? (i := 118) (by decide +kernel), List.mem_of_getElem? (i := 721) (by decide +kernel), List.mem_of_getElem? (i := 722) (by decide +kernel)⟩
theorem lw_p12 : lw_okq (⟨"EditsMeet$Letters", "makeRoom", "()V"⟩, 15) := ⟨⟨by decide +kernel, by decide +kernel⟩, List.mem_of_getElem? (i := 37) (by decide +kernel), List.mem_of_getElem? (i := 736) (by decide +kernel), List.mem_of_getElem? (i := 737) (by decide +kernel)⟩
theorem lw_p13 : lw_okq (⟨"EditsMeet$Letters", "knowAll", "()V"⟩, 15) := ⟨⟨by decide +kernel, by decide +kernel⟩, List.mem_of_getElem? (i := 37) (by decide +kernel), List.mem_of_getElem? (i := 750) (by decide +kernel), List.mem_of_getElem? (i := 751) (by decide +kernel)⟩
theorem lw_p14 : lw_okq (⟨"EditsMeet$Letters", "branch", "(II)I"⟩, 15) := ⟨⟨by decide +kernel, by decide +kernel⟩, List.mem_of_getElem? (i := 37) (by decide +kernel), List.mem_of_getElem? (i := 756) (by decide +kernel), List.mem_of_getElem? (i := 757) (by decide +kernel)⟩
theorem lw_p15 : lw_okq (⟨"EditsMeet$Letters", "balanced", "(II)I"⟩, 15) := ⟨⟨by decide +kernel, by decide +kernel⟩, List.mem_of_getElem? (i := 37) (by decide +kernel), List.mem_of_getElem? (i := 760) (by decide +kernel), List.mem_of_getElem? (i := 761) (by decide +kernel)⟩
def lw_privs_1 : List (MethodName × Nat) := [(⟨"java/util/ArrayList", "add", "(Ljava/lang/Object;[Ljava/lang/Object;I)V"⟩, 3), (⟨"java/util/ArrayList", "grow", "()[Ljava/lang/Object;"⟩, 3), (⟨"java/util/ArrayList", "grow", "(I)[Ljava/lang/Object;"⟩, 3), (⟨"EditsMeet", "refuse", "(I)I"⟩, 10), (⟨"EditsMeet", "shelfToFill", "(I)LEditsMeet$Shelf;"⟩, 10), (⟨"EditsMeet$Shelf", "lowest", "(J)J"⟩, 6), (⟨"EditsMeet", "numbered", "(I)LEditsMeet$Edit;"⟩, 10), (⟨"EditsMeet$Letters", "isRoot", "(I)Z"⟩, 15), (⟨"EditsMeet$Letters", "isBranch", "(I)Z"⟩, 15), (⟨"EditsMeet$Tape", "readPart", "(LEditsMeet$Edit;)V"⟩, 3), (⟨"EditsMeet$Tape", "signAt", "(I)I"⟩, 3), (⟨"EditsMeet$Tape", "readLetters", "(LEditsMeet$Edit;)V"⟩, 3), (⟨"EditsMeet$Letters", "makeRoom", "()V"⟩, 15), (⟨"EditsMeet$Letters", "knowAll", "()V"⟩, 15), (⟨"EditsMeet$Letters", "branch", "(II)I"⟩, 15), (⟨"EditsMeet$Letters", "balanced", "(II)I"⟩, 15)]
theorem lw_r1 : ∀ q ∈ lw_privs_1, lw_okq q := List.forall_mem_cons.mpr ⟨lw_p0, List.forall_mem_cons.mpr ⟨lw_p1, List.forall_mem_cons.mpr ⟨lw_p2, List.forall_mem_cons.mpr ⟨lw_p3, List.forall_mem_cons.mpr ⟨lw_p4, List.forall_mem_cons.mpr ⟨lw_p5, List.forall_mem_cons.mpr ⟨lw_p6, List.forall_mem_cons.mpr ⟨lw_p7, List.forall_mem_cons.mpr ⟨lw_p8, List.forall_mem_cons.mpr ⟨lw_p9, List.forall_mem_cons.mpr ⟨lw_p10, List.forall_mem_cons.mpr ⟨lw_p11, List.forall_mem_cons.mpr ⟨lw_p12, List.forall_mem_cons.mpr ⟨lw_p13, List.forall_mem_cons.mpr ⟨lw_p14, List.forall_mem_cons.mpr ⟨lw_p15, fun _ h => absurd h List.not_mem_nil⟩⟩⟩⟩⟩⟩⟩⟩⟩⟩⟩⟩⟩⟩⟩⟩
theorem lw_p16 : lw_okq (⟨"EditsMeet$Tape", "readNumber", "(I)I"⟩, 3) := ⟨⟨by decide +kernel, by decide +kernel⟩, List.mem_of_getElem? (i := 118) (by decide +kernel), List.mem_of_getElem? (i := 774) (by decide +kernel), List.mem_of_getElem? (i := 775) (by decide +kernel)⟩
theorem lw_p17 : lw_okq (⟨"EditsMeet$Tape", "readDot", "()V"⟩, 3) := ⟨⟨by decide +kernel, by decide +kernel⟩, List.mem_of_getElem? (i := 118) (by decide +kernel), List.mem_of_getElem? (i := 786) (by decide +kernel), List.mem_of_getElem? (i := 787) (by decide +kernel)⟩
theorem lw_p18 : lw_okq (⟨"EditsMeet", "keepDraft", "(I)I"⟩, 10) := ⟨⟨by decide +kernel, by decide +kernel⟩, List.mem_of_getElem? (i := 25) (by decide +kernel), List.mem_of_getElem? (i := 790) (by decide +kernel), List.mem_of_getElem? (i := 791) (by decide +kernel)⟩
theorem lw_p19 : lw_okq (⟨"EditsMeet$Edit", "spellPart", "(ILEditsMeet$Row;)V"⟩, 5) := ⟨⟨by decide +kernel, by decide +kernel⟩, List.mem_of_getElem? (i := 199) (by decide +kernel), List.mem_of_getElem? (i := 842) (by decide +kernel), List.mem_of_getElem? (i := 843) (by decide +kernel)⟩
theorem lw_p20 : lw_okq (⟨"EditsMeet$Walk", "enterNext", "()V"⟩, 7) := ⟨⟨by decide +kernel, by decide +kernel⟩, List.mem_of_getElem? (i := 162) (by decide +kernel), List.mem_of_getElem? (i := 873) (by decide +kernel), List.mem_of_getElem? (i := 874) (by decide +kernel)⟩
theorem lw_p21 : lw_okq (⟨"EditsMeet$Letters", "reach", "(LEditsMeet$Edit;)V"⟩, 15) := ⟨⟨by decide +kernel, by decide +kernel⟩, List.mem_of_getElem? (i := 37) (by decide +kernel), List.mem_of_getElem? (i := 905) (by decide +kernel), List.mem_of_getElem? (i := 906) (by decide +kernel)⟩
theorem lw_p22 : lw_okq (⟨"EditsMeet$Letters", "moveTogether", "()V"⟩, 15) := ⟨⟨by decide +kernel, by decide +kernel⟩, List.mem_of_getElem? (i := 37) (by decide +kernel), List.mem_of_getElem? (i := 911) (by decide +kernel), List.mem_of_getElem? (i := 912) (by decide +kernel)⟩
theorem lw_p23 : lw_okq (⟨"EditsMeet$Letters", "move", "(LEditsMeet$Edit;)V"⟩, 15) := ⟨⟨by decide +kernel, by decide +kernel⟩, List.mem_of_getElem? (i := 37) (by decide +kernel), List.mem_of_getElem? (i := 915) (by decide +kernel), List.mem_of_getElem? (i := 916) (by decide +kernel)⟩
theorem lw_p24 : lw_okq (⟨"EditsMeet$Letters", "isTurned", "(III)Z"⟩, 15) := ⟨⟨by decide +kernel, by decide +kernel⟩, List.mem_of_getElem? (i := 37) (by decide +kernel), List.mem_of_getElem? (i := 944) (by decide +kernel), List.mem_of_getElem? (i := 945) (by decide +kernel)⟩
theorem lw_p25 : lw_okq (⟨"EditsMeet$Loom", "turnMark", "(IJJIILEditsMeet$Edit;)V"⟩, 7) := ⟨⟨by decide +kernel, by decide +kernel⟩, List.mem_of_getElem? (i := 156) (by decide +kernel), List.mem_of_getElem? (i := 983) (by decide +kernel), List.mem_of_getElem? (i := 984) (by decide +kernel)⟩
theorem lw_p26 : lw_okq (⟨"EditsMeet$History", "putOldestLast", "()V"⟩, 3) := ⟨⟨by decide +kernel, by decide +kernel⟩, List.mem_of_getElem? (i := 350) (by decide +kernel), List.mem_of_getElem? (i := 1026) (by decide +kernel), List.mem_of_getElem? (i := 1027) (by decide +kernel)⟩
theorem lw_p27 : lw_okq (⟨"EditsMeet$Client", "change", "(LEditsMeet$Edit;ZLEditsMeet$Loom;)V"⟩, 12) := ⟨⟨by decide +kernel, by decide +kernel⟩, List.mem_of_getElem? (i := 343) (by decide +kernel), List.mem_of_getElem? (i := 1036) (by decide +kernel), List.mem_of_getElem? (i := 1037) (by decide +kernel)⟩
theorem lw_p28 : lw_okq (⟨"EditsMeet$Client", "send", "(LEditsMeet$Edit;LEditsMeet$Loom;)V"⟩, 12) := ⟨⟨by decide +kernel, by decide +kernel⟩, List.mem_of_getElem? (i := 343) (by decide +kernel), List.mem_of_getElem? (i := 1047) (by decide +kernel), List.mem_of_getElem? (i := 1048) (by decide +kernel)⟩
theorem lw_p29 : lw_okq (⟨"EditsMeet", "draftInsert", "(LEditsMeet$Client;JI)V"⟩, 10) := ⟨⟨by decide +kernel, by decide +kernel⟩, List.mem_of_getElem? (i := 25) (by decide +kernel), List.mem_of_getElem? (i := 1061) (by decide +kernel), List.mem_of_getElem? (i := 1062) (by decide +kernel)⟩
theorem lw_p30 : lw_okq (⟨"EditsMeet", "draftOver", "(LEditsMeet$Client;JIIII)V"⟩, 10) := ⟨⟨by decide +kernel, by decide +kernel⟩, List.mem_of_getElem? (i := 25) (by decide +kernel), List.mem_of_getElem? (i := 1072) (by decide +kernel), List.mem_of_getElem? (i := 1073) (by decide +kernel)⟩
theorem lw_p31 : lw_okq (⟨"EditsMeet$Client", "sendWaiting", "()V"⟩, 12) := ⟨⟨by decide +kernel, by decide +kernel⟩, List.mem_of_getElem? (i := 343) (by decide +kernel), List.mem_of_getElem? (i := 1151) (by decide +kernel), List.mem_of_getElem? (i := 1152) (by decide +kernel)⟩
def lw_privs_2 : List (MethodName × Nat) := [(⟨"EditsMeet$Tape", "readNumber", "(I)I"⟩, 3), (⟨"EditsMeet$Tape", "readDot", "()V"⟩, 3), (⟨"EditsMeet", "keepDraft", "(I)I"⟩, 10), (⟨"EditsMeet$Edit", "spellPart", "(ILEditsMeet$Row;)V"⟩, 5), (⟨"EditsMeet$Walk", "enterNext", "()V"⟩, 7), (⟨"EditsMeet$Letters", "reach", "(LEditsMeet$Edit;)V"⟩, 15), (⟨"EditsMeet$Letters", "moveTogether", "()V"⟩, 15), (⟨"EditsMeet$Letters", "move", "(LEditsMeet$Edit;)V"⟩, 15), (⟨"EditsMeet$Letters", "isTurned", "(III)Z"⟩, 15), (⟨"EditsMeet$Loom", "turnMark", "(IJJIILEditsMeet$Edit;)V"⟩, 7), (⟨"EditsMeet$History", "putOldestLast", "()V"⟩, 3), (⟨"EditsMeet$Client", "change", "(LEditsMeet$Edit;ZLEditsMeet$Loom;)V"⟩, 12), (⟨"EditsMeet$Client", "send", "(LEditsMeet$Edit;LEditsMeet$Loom;)V"⟩, 12), (⟨"EditsMeet", "draftInsert", "(LEditsMeet$Client;JI)V"⟩, 10), (⟨"EditsMeet", "draftOver", "(LEditsMeet$Client;JIIII)V"⟩, 10), (⟨"EditsMeet$Client", "sendWaiting", "()V"⟩, 12)]
theorem lw_r2 : ∀ q ∈ lw_privs_2, lw_okq q := List.forall_mem_cons.mpr ⟨lw_p16, List.forall_mem_cons.mpr ⟨lw_p17, List.forall_mem_cons.mpr ⟨lw_p18, List.forall_mem_cons.mpr ⟨lw_p19, List.forall_mem_cons.mpr ⟨lw_p20, List.forall_mem_cons.mpr ⟨lw_p21, List.forall_mem_cons.mpr ⟨lw_p22, List.forall_mem_cons.mpr ⟨lw_p23, List.forall_mem_cons.mpr ⟨lw_p24, List.forall_mem_cons.mpr ⟨lw_p25, List.forall_mem_cons.mpr ⟨lw_p26, List.forall_mem_cons.mpr ⟨lw_p27, List.forall_mem_cons.mpr ⟨lw_p28, List.forall_mem_cons.mpr ⟨lw_p29, List.forall_mem_cons.mpr ⟨lw_p30, List.forall_mem_cons.mpr ⟨lw_p31, fun _ h => absurd h List.not_mem_nil⟩⟩⟩⟩⟩⟩⟩⟩⟩⟩⟩⟩⟩⟩⟩⟩
theorem lw_p32 : lw_okq (⟨"EditsMeet", "canBe", "(LEditsMeet$Client;I)Z"⟩, 10) := ⟨⟨by decide +kernel, by decide +kernel⟩, List.mem_of_getElem? (i := 25) (by decide +kernel), List.mem_of_getElem? (i := 1234) (by decide +kernel), List.mem_of_getElem? (i := 1235) (by decide +kernel)⟩
theorem lw_p33 : lw_okq (⟨"EditsMeet", "draftByDraws", "(LEditsMeet$Client;I)V"⟩, 10) := ⟨⟨by decide +kernel, by decide +kernel⟩, List.mem_of_getElem? (i := 25) (by decide +kernel), List.mem_of_getElem? (i := 1238) (by decide +kernel), List.mem_of_getElem? (i := 1239) (by decide +kernel)⟩
theorem lw_p34 : lw_okq (⟨"EditsMeet", "editsByNumber", "()I"⟩, 10) := ⟨⟨by decide +kernel, by decide +kernel⟩, List.mem_of_getElem? (i := 25) (by decide +kernel), List.mem_of_getElem? (i := 1282) (by decide +kernel), List.mem_of_getElem? (i := 1283) (by decide +kernel)⟩
theorem lw_p35 : lw_okq (⟨"EditsMeet", "shelvesInUse", "()I"⟩, 10) := ⟨⟨by decide +kernel, by decide +kernel⟩, List.mem_of_getElem? (i := 25) (by decide +kernel), List.mem_of_getElem? (i := 1294) (by decide +kernel), List.mem_of_getElem? (i := 1295) (by decide +kernel)⟩
theorem lw_p36 : lw_okq (⟨"EditsMeetModel", "refused", "(I)I"⟩, 33) := ⟨⟨by decide +kernel, by decide +kernel⟩, List.mem_of_getElem? (i := 1298) (by decide +kernel), List.mem_of_getElem? (i := 1415) (by decide +kernel), List.mem_of_getElem? (i := 1416) (by decide +kernel)⟩
theorem lw_p37 : lw_okq (⟨"EditsMeetModel", "isPart", "()Z"⟩, 33) := ⟨⟨by decide +kernel, by decide +kernel⟩, List.mem_of_getElem? (i := 1298) (by decide +kernel), List.mem_of_getElem? (i := 1431) (by decide +kernel), List.mem_of_getElem? (i := 1432) (by decide +kernel)⟩
theorem lw_p38 : lw_okq (⟨"EditsMeetModel", "byteAt", "(I)I"⟩, 33) := ⟨⟨by decide +kernel, by decide +kernel⟩, List.mem_of_getElem? (i := 1298) (by decide +kernel), List.mem_of_getElem? (i := 1435) (by decide +kernel), List.mem_of_getElem? (i := 1436) (by decide +kernel)⟩
theorem lw_p39 : lw_okq (⟨"EditsMeetModel", "adds", "(II)V"⟩, 33) := ⟨⟨by decide +kernel, by decide +kernel⟩, List.mem_of_getElem? (i := 1298) (by decide +kernel), List.mem_of_getElem? (i := 1442) (by decide +kernel), List.mem_of_getElem? (i := 1443) (by decide +kernel)⟩
theorem lw_p40 : lw_okq (⟨"EditsMeetModel", "isNumber", "(I)Z"⟩, 33) := ⟨⟨by decide +kernel, by decide +kernel⟩, List.mem_of_getElem? (i := 1298) (by decide +kernel), List.mem_of_getElem? (i := 1446) (by decide +kernel), List.mem_of_getElem? (i := 1447) (by decide +kernel)⟩
theorem lw_p41 : lw_okq (⟨"EditsMeetModel", "plain", "(I)V"⟩, 33) := ⟨⟨by decide +kernel, by decide +kernel⟩, List.mem_of_getElem? (i := 1298) (by decide +kernel), List.mem_of_getElem? (i := 1455) (by decide +kernel), List.mem_of_getElem? (i := 1456) (by decide +kernel)⟩
theorem lw_p42 : lw_okq (⟨"EditsMeetModel", "comes", "(II)I"⟩, 33) := ⟨⟨by decide +kernel, by decide +kernel⟩, List.mem_of_getElem? (i := 1298) (by decide +kernel), List.mem_of_getElem? (i := 1463) (by decide +kernel), List.mem_of_getElem? (i := 1464) (by decide +kernel)⟩
theorem lw_p43 : lw_okq (⟨"EditsMeetModel", "keepsRow", "(II)V"⟩, 33) := ⟨⟨by decide +kernel, by decide +kernel⟩, List.mem_of_getElem? (i := 1298) (by decide +kernel), List.mem_of_getElem? (i := 1467) (by decide +kernel), List.mem_of_getElem? (i := 1468) (by decide +kernel)⟩
theorem lw_p44 : lw_okq (⟨"EditsMeetModel", "parts", "(I)I"⟩, 33) := ⟨⟨by decide +kernel, by decide +kernel⟩, List.mem_of_getElem? (i := 1298) (by decide +kernel), List.mem_of_getElem? (i := 1474) (by decide +kernel), List.mem_of_getElem? (i := 1475) (by decide +kernel)⟩
theorem lw_p45 : lw_okq (⟨"EditsMeetModel", "isKept", "(I)Z"⟩, 33) := ⟨⟨by decide +kernel, by decide +kernel⟩, List.mem_of_getElem? (i := 1298) (by decide +kernel), List.mem_of_getElem? (i := 1486) (by decide +kernel), List.mem_of_getElem? (i := 1487) (by decide +kernel)⟩
theorem lw_p46 : lw_okq (⟨"EditsMeetModel", "from", "(I)I"⟩, 33) := ⟨⟨by decide +kernel, by decide +kernel⟩, List.mem_of_getElem? (i := 1298) (by decide +kernel), List.mem_of_getElem? (i := 1490) (by decide +kernel), List.mem_of_getElem? (i := 1491) (by decide +kernel)⟩
theorem lw_p47 : lw_okq (⟨"EditsMeetModel", "to", "(I)I"⟩, 33) := ⟨⟨by decide +kernel, by decide +kernel⟩, List.mem_of_getElem? (i := 1298) (by decide +kernel), List.mem_of_getElem? (i := 1497) (by decide +kernel), List.mem_of_getElem? (i := 1498) (by decide +kernel)⟩
def lw_privs_3 : List (MethodName × Nat) := [(⟨"EditsMeet", "canBe", "(LEditsMeet$Client;I)Z"⟩, 10), (⟨"EditsMeet", "draftByDraws", "(LEditsMeet$Client;I)V"⟩, 10), (⟨"EditsMeet", "editsByNumber", "()I"⟩, 10), (⟨"EditsMeet", "shelvesInUse", "()I"⟩, 10), (⟨"EditsMeetModel", "refused", "(I)I"⟩, 33), (⟨"EditsMeetModel", "isPart", "()Z"⟩, 33), (⟨"EditsMeetModel", "byteAt", "(I)I"⟩, 33), (⟨"EditsMeetModel", "adds", "(II)V"⟩, 33), (⟨"EditsMeetModel", "isNumber", "(I)Z"⟩, 33), (⟨"EditsMeetModel", "plain", "(I)V"⟩, 33), (⟨"EditsMeetModel", "comes", "(II)I"⟩, 33), (⟨"EditsMeetModel", "keepsRow", "(II)V"⟩, 33), (⟨"EditsMeetModel", "parts", "(I)I"⟩, 33), (⟨"EditsMeetModel", "isKept", "(I)Z"⟩, 33), (⟨"EditsMeetModel", "from", "(I)I"⟩, 33), (⟨"EditsMeetModel", "to", "(I)I"⟩, 33)]
theorem lw_r3 : ∀ q ∈ lw_privs_3, lw_okq q := List.forall_mem_cons.mpr ⟨lw_p32, List.forall_mem_cons.mpr ⟨lw_p33, List.forall_mem_cons.mpr ⟨lw_p34, List.forall_mem_cons.mpr ⟨lw_p35, List.forall_mem_cons.mpr ⟨lw_p36, List.forall_mem_cons.mpr ⟨lw_p37, List.forall_mem_cons.mpr ⟨lw_p38, List.forall_mem_cons.mpr ⟨lw_p39, List.forall_mem_cons.mpr ⟨lw_p40, List.forall_mem_cons.mpr ⟨lw_p41, List.forall_mem_cons.mpr ⟨lw_p42, List.forall_mem_cons.mpr ⟨lw_p43, List.forall_mem_cons.mpr ⟨lw_p44, List.forall_mem_cons.mpr ⟨lw_p45, List.forall_mem_cons.mpr ⟨lw_p46, List.forall_mem_cons.mpr ⟨lw_p47, fun _ h => absurd h List.not_mem_nil⟩⟩⟩⟩⟩⟩⟩⟩⟩⟩⟩⟩⟩⟩⟩⟩
theorem lw_p48 : lw_okq (⟨"EditsMeetModel", "letters", "(II)I"⟩, 33) := ⟨⟨by decide +kernel, by decide +kernel⟩, List.mem_of_getElem? (i := 1298) (by decide +kernel), List.mem_of_getElem? (i := 1501) (by decide +kernel), List.mem_of_getElem? (i := 1502) (by decide +kernel)⟩
theorem lw_p49 : lw_okq (⟨"EditsMeetModel", "beginOf", "(II)I"⟩, 33) := ⟨⟨by decide +kernel, by decide +kernel⟩, List.mem_of_getElem? (i := 1298) (by decide +kernel), List.mem_of_getElem? (i := 1510) (by decide +kernel), List.mem_of_getElem? (i := 1511) (by decide +kernel)⟩
theorem lw_p50 : lw_okq (⟨"EditsMeetModel", "tells", "(I)V"⟩, 33) := ⟨⟨by decide +kernel, by decide +kernel⟩, List.mem_of_getElem? (i := 1298) (by decide +kernel), List.mem_of_getElem? (i := 1525) (by decide +kernel), List.mem_of_getElem? (i := 1526) (by decide +kernel)⟩
theorem lw_p51 : lw_okq (⟨"EditsMeetModel", "tellsPart", "(II)V"⟩, 33) := ⟨⟨by decide +kernel, by decide +kernel⟩, List.mem_of_getElem? (i := 1298) (by decide +kernel), List.mem_of_getElem? (i := 1529) (by decide +kernel), List.mem_of_getElem? (i := 1530) (by decide +kernel)⟩
theorem lw_p52 : lw_okq (⟨"EditsMeetModel", "tellsNumber", "(I)V"⟩, 33) := ⟨⟨by decide +kernel, by decide +kernel⟩, List.mem_of_getElem? (i := 1298) (by decide +kernel), List.mem_of_getElem? (i := 1533) (by decide +kernel), List.mem_of_getElem? (i := 1534) (by decide +kernel)⟩
theorem lw_p53 : lw_okq (⟨"EditsMeetModel", "takesRow", "(II)V"⟩, 33) := ⟨⟨by decide +kernel, by decide +kernel⟩, List.mem_of_getElem? (i := 1298) (by decide +kernel), List.mem_of_getElem? (i := 1541) (by decide +kernel), List.mem_of_getElem? (i := 1542) (by decide +kernel)⟩
theorem lw_p54 : lw_okq (⟨"EditsMeetModel", "behindRow", "(III)V"⟩, 33) := ⟨⟨by decide +kernel, by decide +kernel⟩, List.mem_of_getElem? (i := 1298) (by decide +kernel), List.mem_of_getElem? (i := 1545) (by decide +kernel), List.mem_of_getElem? (i := 1546) (by decide +kernel)⟩
theorem lw_p55 : lw_okq (⟨"EditsMeetModel", "together", "(III)V"⟩, 33) := ⟨⟨by decide +kernel, by decide +kernel⟩, List.mem_of_getElem? (i := 1298) (by decide +kernel), List.mem_of_getElem? (i := 1549) (by decide +kernel), List.mem_of_getElem? (i := 1550) (by decide +kernel)⟩
theorem lw_p56 : lw_okq (⟨"EditsMeetModel", "made", "(II)I"⟩, 33) := ⟨⟨by decide +kernel, by decide +kernel⟩, List.mem_of_getElem? (i := 1298) (by decide +kernel), List.mem_of_getElem? (i := 1556) (by decide +kernel), List.mem_of_getElem? (i := 1557) (by decide +kernel)⟩
theorem lw_p57 : lw_okq (⟨"EditsMeetModel", "isTooLarge", "(I)Z"⟩, 33) := ⟨⟨by decide +kernel, by decide +kernel⟩, List.mem_of_getElem? (i := 1298) (by decide +kernel), List.mem_of_getElem? (i := 1560) (by decide +kernel), List.mem_of_getElem? (i := 1561) (by decide +kernel)⟩
theorem lw_p58 : lw_okq (⟨"EditsMeetModel", "overRow", "(IIII)V"⟩, 33) := ⟨⟨by decide +kernel, by decide +kernel⟩, List.mem_of_getElem? (i := 1298) (by decide +kernel), List.mem_of_getElem? (i := 1568) (by decide +kernel), List.mem_of_getElem? (i := 1569) (by decide +kernel)⟩
theorem lw_p59 : lw_okq (⟨"EditsMeetModel", "overOne", "(IIII)V"⟩, 33) := ⟨⟨by decide +kernel, by decide +kernel⟩, List.mem_of_getElem? (i := 1298) (by decide +kernel), List.mem_of_getElem? (i := 1572) (by decide +kernel), List.mem_of_getElem? (i := 1573) (by decide +kernel)⟩
theorem lw_p60 : lw_okq (⟨"EditsMeetModel", "turnedRow", "(III)V"⟩, 33) := ⟨⟨by decide +kernel, by decide +kernel⟩, List.mem_of_getElem? (i := 1298) (by decide +kernel), List.mem_of_getElem? (i := 1583) (by decide +kernel), List.mem_of_getElem? (i := 1584) (by decide +kernel)⟩
theorem lw_p61 : lw_okq (⟨"EditsMeetModel", "isFull", "(II)Z"⟩, 33) := ⟨⟨by decide +kernel, by decide +kernel⟩, List.mem_of_getElem? (i := 1298) (by decide +kernel), List.mem_of_getElem? (i := 1596) (by decide +kernel), List.mem_of_getElem? (i := 1597) (by decide +kernel)⟩
theorem lw_p62 : lw_okq (⟨"EditsMeetModel", "resultLength", "(I)I"⟩, 33) := ⟨⟨by decide +kernel, by decide +kernel⟩, List.mem_of_getElem? (i := 1298) (by decide +kernel), List.mem_of_getElem? (i := 1600) (by decide +kernel), List.mem_of_getElem? (i := 1601) (by decide +kernel)⟩
theorem lw_p63 : lw_okq (⟨"EditsMeetModel", "done", "(IIZ)V"⟩, 33) := ⟨⟨by decide +kernel, by decide +kernel⟩, List.mem_of_getElem? (i := 1298) (by decide +kernel), List.mem_of_getElem? (i := 1604) (by decide +kernel), List.mem_of_getElem? (i := 1605) (by decide +kernel)⟩
def lw_privs_4 : List (MethodName × Nat) := [(⟨"EditsMeetModel", "letters", "(II)I"⟩, 33), (⟨"EditsMeetModel", "beginOf", "(II)I"⟩, 33), (⟨"EditsMeetModel", "tells", "(I)V"⟩, 33), (⟨"EditsMeetModel", "tellsPart", "(II)V"⟩, 33), (⟨"EditsMeetModel", "tellsNumber", "(I)V"⟩, 33), (⟨"EditsMeetModel", "takesRow", "(II)V"⟩, 33), (⟨"EditsMeetModel", "behindRow", "(III)V"⟩, 33), (⟨"EditsMeetModel", "together", "(III)V"⟩, 33), (⟨"EditsMeetModel", "made", "(II)I"⟩, 33), (⟨"EditsMeetModel", "isTooLarge", "(I)Z"⟩, 33), (⟨"EditsMeetModel", "overRow", "(IIII)V"⟩, 33), (⟨"EditsMeetModel", "overOne", "(IIII)V"⟩, 33), (⟨"EditsMeetModel", "turnedRow", "(III)V"⟩, 33), (⟨"EditsMeetModel", "isFull", "(II)Z"⟩, 33), (⟨"EditsMeetModel", "resultLength", "(I)I"⟩, 33), (⟨"EditsMeetModel", "done", "(IIZ)V"⟩, 33)]
theorem lw_r4 : ∀ q ∈ lw_privs_4, lw_okq q := List.forall_mem_cons.mpr ⟨lw_p48, List.forall_mem_cons.mpr ⟨lw_p49, List.forall_mem_cons.mpr ⟨lw_p50, List.forall_mem_cons.mpr ⟨lw_p51, List.forall_mem_cons.mpr ⟨lw_p52, List.forall_mem_cons.mpr ⟨lw_p53, List.forall_mem_cons.mpr ⟨lw_p54, List.forall_mem_cons.mpr ⟨lw_p55, List.forall_mem_cons.mpr ⟨lw_p56, List.forall_mem_cons.mpr ⟨lw_p57, List.forall_mem_cons.mpr ⟨lw_p58, List.forall_mem_cons.mpr ⟨lw_p59, List.forall_mem_cons.mpr ⟨lw_p60, List.forall_mem_cons.mpr ⟨lw_p61, List.forall_mem_cons.mpr ⟨lw_p62, List.forall_mem_cons.mpr ⟨lw_p63, fun _ h => absurd h List.not_mem_nil⟩⟩⟩⟩⟩⟩⟩⟩⟩⟩⟩⟩⟩⟩⟩⟩
theorem lw_p64 : lw_okq (⟨"EditsMeetModel", "makes", "(II)V"⟩, 33) := ⟨⟨by decide +kernel, by decide +kernel⟩, List.mem_of_getElem? (i := 1298) (by decide +kernel), List.mem_of_getElem? (i := 1608) (by decide +kernel), List.mem_of_getElem? (i := 1609) (by decide +kernel)⟩
theorem lw_p65 : lw_okq (⟨"EditsMeetModel", "cursorGoes", "(IIZ)V"⟩, 33) := ⟨⟨by decide +kernel, by decide +kernel⟩, List.mem_of_getElem? (i := 1298) (by decide +kernel), List.mem_of_getElem? (i := 1612) (by decide +kernel), List.mem_of_getElem? (i := 1613) (by decide +kernel)⟩
theorem lw_p66 : lw_okq (⟨"EditsMeetModel", "st", "(II)I"⟩, 33) := ⟨⟨by decide +kernel, by decide +kernel⟩, List.mem_of_getElem? (i := 1298) (by decide +kernel), List.mem_of_getElem? (i := 1616) (by decide +kernel), List.mem_of_getElem? (i := 1617) (by decide +kernel)⟩
theorem lw_p67 : lw_okq (⟨"EditsMeetModel", "goesAlong", "(IIZ)I"⟩, 33) := ⟨⟨by decide +kernel, by decide +kernel⟩, List.mem_of_getElem? (i := 1298) (by decide +kernel), List.mem_of_getElem? (i := 1620) (by decide +kernel), List.mem_of_getElem? (i := 1621) (by decide +kernel)⟩
theorem lw_p68 : lw_okq (⟨"EditsMeetModel", "pushes", "(III)V"⟩, 33) := ⟨⟨by decide +kernel, by decide +kernel⟩, List.mem_of_getElem? (i := 1298) (by decide +kernel), List.mem_of_getElem? (i := 1624) (by decide +kernel), List.mem_of_getElem? (i := 1625) (by decide +kernel)⟩
theorem lw_p69 : lw_okq (⟨"EditsMeetModel", "copiesRow", "(II)V"⟩, 33) := ⟨⟨by decide +kernel, by decide +kernel⟩, List.mem_of_getElem? (i := 1298) (by decide +kernel), List.mem_of_getElem? (i := 1628) (by decide +kernel), List.mem_of_getElem? (i := 1629) (by decide +kernel)⟩
theorem lw_p70 : lw_okq (⟨"EditsMeetModel", "inserts", "(III)V"⟩, 33) := ⟨⟨by decide +kernel, by decide +kernel⟩, List.mem_of_getElem? (i := 1298) (by decide +kernel), List.mem_of_getElem? (i := 1638) (by decide +kernel), List.mem_of_getElem? (i := 1639) (by decide +kernel)⟩
theorem lw_p71 : lw_okq (⟨"EditsMeetModel", "isStretch", "(III)Z"⟩, 33) := ⟨⟨by decide +kernel, by decide +kernel⟩, List.mem_of_getElem? (i := 1298) (by decide +kernel), List.mem_of_getElem? (i := 1646) (by decide +kernel), List.mem_of_getElem? (i := 1647) (by decide +kernel)⟩
theorem lw_p72 : lw_okq (⟨"EditsMeetModel", "keepsAllBut", "(IIII)V"⟩, 33) := ⟨⟨by decide +kernel, by decide +kernel⟩, List.mem_of_getElem? (i := 1298) (by decide +kernel), List.mem_of_getElem? (i := 1650) (by decide +kernel), List.mem_of_getElem? (i := 1651) (by decide +kernel)⟩
theorem lw_p73 : lw_okq (⟨"EditsMeetModel", "serves", "(I)I"⟩, 33) := ⟨⟨by decide +kernel, by decide +kernel⟩, List.mem_of_getElem? (i := 1298) (by decide +kernel), List.mem_of_getElem? (i := 1662) (by decide +kernel), List.mem_of_getElem? (i := 1663) (by decide +kernel)⟩
theorem lw_p74 : lw_okq (⟨"EditsMeetModel", "keepsWork", "(II)V"⟩, 33) := ⟨⟨by decide +kernel, by decide +kernel⟩, List.mem_of_getElem? (i := 1298) (by decide +kernel), List.mem_of_getElem? (i := 1666) (by decide +kernel), List.mem_of_getElem? (i := 1667) (by decide +kernel)⟩
theorem lw_p75 : lw_okq (⟨"EditsMeetModel", "hears", "(I)V"⟩, 33) := ⟨⟨by decide +kernel, by decide +kernel⟩, List.mem_of_getElem? (i := 1298) (by decide +kernel), List.mem_of_getElem? (i := 1674) (by decide +kernel), List.mem_of_getElem? (i := 1675) (by decide +kernel)⟩
theorem lw_p76 : lw_okq (⟨"EditsMeetModel", "crosses", "(I)V"⟩, 33) := ⟨⟨by decide +kernel, by decide +kernel⟩, List.mem_of_getElem? (i := 1298) (by decide +kernel), List.mem_of_getElem? (i := 1678) (by decide +kernel), List.mem_of_getElem? (i := 1679) (by decide +kernel)⟩
theorem lw_p77 : lw_okq (⟨"EditsMeetModel", "hearAll", "()V"⟩, 33) := ⟨⟨by decide +kernel, by decide +kernel⟩, List.mem_of_getElem? (i := 1298) (by decide +kernel), List.mem_of_getElem? (i := 1686) (by decide +kernel), List.mem_of_getElem? (i := 1687) (by decide +kernel)⟩
theorem lw_p78 : lw_okq (⟨"EditsMeetModel", "isAnySent", "()Z"⟩, 33) := ⟨⟨by decide +kernel, by decide +kernel⟩, List.mem_of_getElem? (i := 1298) (by decide +kernel), List.mem_of_getElem? (i := 1690) (by decide +kernel), List.mem_of_getElem? (i := 1691) (by decide +kernel)⟩
theorem lw_p79 : lw_okq (⟨"EditsMeetModel", "again", "(II)I"⟩, 33) := ⟨⟨by decide +kernel, by decide +kernel⟩, List.mem_of_getElem? (i := 1298) (by decide +kernel), List.mem_of_getElem? (i := 1698) (by decide +kernel), List.mem_of_getElem? (i := 1699) (by decide +kernel)⟩
def lw_privs_5 : List (MethodName × Nat) := [(⟨"EditsMeetModel", "makes", "(II)V"⟩, 33), (⟨"EditsMeetModel", "cursorGoes", "(IIZ)V"⟩, 33), (⟨"EditsMeetModel", "st", "(II)I"⟩, 33), (⟨"EditsMeetModel", "goesAlong", "(IIZ)I"⟩, 33), (⟨"EditsMeetModel", "pushes", "(III)V"⟩, 33), (⟨"EditsMeetModel", "copiesRow", "(II)V"⟩, 33), (⟨"EditsMeetModel", "inserts", "(III)V"⟩, 33), (⟨"EditsMeetModel", "isStretch", "(III)Z"⟩, 33), (⟨"EditsMeetModel", "keepsAllBut", "(IIII)V"⟩, 33), (⟨"EditsMeetModel", "serves", "(I)I"⟩, 33), (⟨"EditsMeetModel", "keepsWork", "(II)V"⟩, 33), (⟨"EditsMeetModel", "hears", "(I)V"⟩, 33), (⟨"EditsMeetModel", "crosses", "(I)V"⟩, 33), (⟨"EditsMeetModel", "hearAll", "()V"⟩, 33), (⟨"EditsMeetModel", "isAnySent", "()Z"⟩, 33), (⟨"EditsMeetModel", "again", "(II)I"⟩, 33)]
theorem lw_r5 : ∀ q ∈ lw_privs_5, lw_okq q := List.forall_mem_cons.mpr ⟨lw_p64, List.forall_mem_cons.mpr ⟨lw_p65, List.forall_mem_cons.mpr ⟨lw_p66, List.forall_mem_cons.mpr ⟨lw_p67, List.forall_mem_cons.mpr ⟨lw_p68, List.forall_mem_cons.mpr ⟨lw_p69, List.forall_mem_cons.mpr ⟨lw_p70, List.forall_mem_cons.mpr ⟨lw_p71, List.forall_mem_cons.mpr ⟨lw_p72, List.forall_mem_cons.mpr ⟨lw_p73, List.forall_mem_cons.mpr ⟨lw_p74, List.forall_mem_cons.mpr ⟨lw_p75, List.forall_mem_cons.mpr ⟨lw_p76, List.forall_mem_cons.mpr ⟨lw_p77, List.forall_mem_cons.mpr ⟨lw_p78, List.forall_mem_cons.mpr ⟨lw_p79, fun _ h => absurd h List.not_mem_nil⟩⟩⟩⟩⟩⟩⟩⟩⟩⟩⟩⟩⟩⟩⟩⟩
theorem lw_p80 : lw_okq (⟨"EditsMeetModel", "firstApart", "(II)I"⟩, 33) := ⟨⟨by decide +kernel, by decide +kernel⟩, List.mem_of_getElem? (i := 1298) (by decide +kernel), List.mem_of_getElem? (i := 1743) (by decide +kernel), List.mem_of_getElem? (i := 1744) (by decide +kernel)⟩
theorem lw_p81 : lw_okq (⟨"EditsMeetModel", "draw", "(I)I"⟩, 33) := ⟨⟨by decide +kernel, by decide +kernel⟩, List.mem_of_getElem? (i := 1298) (by decide +kernel), List.mem_of_getElem? (i := 1801) (by decide +kernel), List.mem_of_getElem? (i := 1802) (by decide +kernel)⟩
theorem lw_p82 : lw_okq (⟨"EditsMeetModel", "isDay", "(II)Z"⟩, 33) := ⟨⟨by decide +kernel, by decide +kernel⟩, List.mem_of_getElem? (i := 1298) (by decide +kernel), List.mem_of_getElem? (i := 1806) (by decide +kernel), List.mem_of_getElem? (i := 1807) (by decide +kernel)⟩
def lw_privs_6 : List (MethodName × Nat) := [(⟨"EditsMeetModel", "firstApart", "(II)I"⟩, 33), (⟨"EditsMeetModel", "draw", "(I)I"⟩, 33), (⟨"EditsMeetModel", "isDay", "(II)Z"⟩, 33)]
theorem lw_r6 : ∀ q ∈ lw_privs_6, lw_okq q := List.forall_mem_cons.mpr ⟨lw_p80, List.forall_mem_cons.mpr ⟨lw_p81, List.forall_mem_cons.mpr ⟨lw_p82, fun _ h => absurd h List.not_mem_nil⟩⟩⟩
def lw_privs : List (MethodName × Nat) := lw_privs_1 ++ (lw_privs_2 ++ (lw_privs_3 ++ (lw_privs_4 ++ (lw_privs_5 ++ (lw_privs_6)))))
def lw_tbl : List Cond := k2_sels lw_privs ++ tables_1
theorem lw_privs_ok : ∀ q ∈ lw_privs, lw_okq q := by
  show ∀ q ∈ lw_privs_1 ++ (lw_privs_2 ++ (lw_privs_3 ++ (lw_privs_4 ++ (lw_privs_5 ++ (lw_privs_6))))), lw_okq q
  exact List.forall_mem_append.mpr ⟨lw_r1, List.forall_mem_append.mpr ⟨lw_r2, List.forall_mem_append.mpr ⟨lw_r3, List.forall_mem_append.mpr ⟨lw_r4, List.forall_mem_append.mpr ⟨lw_r5, lw_r6⟩⟩⟩⟩⟩
def RX0 : String := "EditsMeet$Client"
def TX0 : u_T := fun k => match k with
  | 0 => ("EditsMeet$Client", "number", "I", true)
  | 1 => ("EditsMeet$Client", "text", "LEditsMeet$Edit;", true)
  | 2 => ("EditsMeet$Client", "sent", "LEditsMeet$Edit;", true)
  | 3 => ("EditsMeet$Client", "waiting", "LEditsMeet$Edit;", true)
  | 4 => ("EditsMeet$Client", "undos", "LEditsMeet$History;", true)
  | 5 => ("EditsMeet$Client", "redos", "LEditsMeet$History;", true)
  | 6 => ("EditsMeet$Client", "hasSent", "Z", false)
  | 7 => ("EditsMeet$Client", "isServed", "Z", false)
  | 8 => ("EditsMeet$Client", "hasWaiting", "Z", false)
  | 9 => ("EditsMeet$Client", "revision", "I", false)
  | 10 => ("EditsMeet$Client", "place", "J", false)
  | _ => ("EditsMeet$Client", "otherPlace", "J", false)
def tyX0 : Nat → FieldType := fun k => match k with
  | 0 => .int
  | 1 => .object "EditsMeet$Edit"
  | 2 => .object "EditsMeet$Edit"
  | 3 => .object "EditsMeet$Edit"
  | 4 => .object "EditsMeet$History"
  | 5 => .object "EditsMeet$History"
  | 6 => .boolean
  | 7 => .boolean
  | 8 => .boolean
  | 9 => .int
  | 10 => .long
  | _ => .long
abbrev wsX00 : List Cond := u_ws RX0 TX0 12
theorem nmX0 : ∀ a, a < 12 → ∀ b, b < 12 → a ≠ b → (TX0 a).2.1 ≠ (TX0 b).2.1 := by decide +kernel
theorem tyX0_ok : ∀ k, k < 12 → parseFieldDescriptor (TX0 k).2.2.1 = some (tyX0 k) := by decide +kernel
abbrev cX0_init : ByteArray := prog_2_method_1_code
def yX0_init : MethodName := ⟨RX0, "<init>", "(ILEditsMeet$Letters;)V"⟩
abbrev cX0_isUnserved : ByteArray := prog_2_method_2_code
def yX0_isUnserved : MethodName := ⟨RX0, "isUnserved", "()Z"⟩
abbrev cX0_isTooLongBy : ByteArray := prog_2_method_3_code
def yX0_isTooLongBy : MethodName := ⟨RX0, "isTooLongBy", "(LEditsMeet$Edit;)Z"⟩
abbrev cX0_told : ByteArray := prog_2_method_4_code
def yX0_told : MethodName := ⟨RX0, "told", "(I)LEditsMeet$Edit;"⟩
abbrev cX0_doNew : ByteArray := prog_2_method_5_code
def yX0_doNew : MethodName := ⟨RX0, "doNew", "(LEditsMeet$Edit;LEditsMeet$Loom;)V"⟩
abbrev cX0_doLatest : ByteArray := prog_2_method_6_code
def yX0_doLatest : MethodName := ⟨RX0, "doLatest", "(LEditsMeet$History;LEditsMeet$History;LEditsMeet$Loom;)V"⟩
abbrev cX0_change : ByteArray := prog_2_method_7_code
def yX0_change : MethodName := ⟨RX0, "change", "(LEditsMeet$Edit;ZLEditsMeet$Loom;)V"⟩
abbrev cX0_send : ByteArray := prog_2_method_8_code
def yX0_send : MethodName := ⟨RX0, "send", "(LEditsMeet$Edit;LEditsMeet$Loom;)V"⟩
abbrev cX0_hearNext : ByteArray := prog_2_method_9_code
def yX0_hearNext : MethodName := ⟨RX0, "hearNext", "(LEditsMeet$Revisions;LEditsMeet$Loom;)V"⟩
abbrev cX0_sendWaiting : ByteArray := prog_2_method_10_code
def yX0_sendWaiting : MethodName := ⟨RX0, "sendWaiting", "()V"⟩
abbrev cX0_like : ByteArray := prog_2_method_11_code
def yX0_like : MethodName := ⟨RX0, "like", "(LEditsMeet$Client;)V"⟩
def RX1 : String := "EditsMeet$Edit"
def TX1 : u_T := fun k => match k with
  | 0 => ("EditsMeet$Edit", "letters", "LEditsMeet$Letters;", true)
  | 1 => ("EditsMeet$Edit", "parts", "LEditsMeet$Row;", true)
  | 2 => ("EditsMeet$Edit", "hasInserts", "Z", false)
  | 3 => ("EditsMeet$Edit", "from", "J", false)
  | _ => ("EditsMeet$Edit", "to", "J", false)
def tyX1 : Nat → FieldType := fun k => match k with
  | 0 => .object "EditsMeet$Letters"
  | 1 => .object "EditsMeet$Row"
  | 2 => .boolean
  | 3 => .long
  | _ => .long
abbrev wsX10 : List Cond := u_ws RX1 TX1 5
theorem nmX1 : ∀ a, a < 5 → ∀ b, b < 5 → a ≠ b → (TX1 a).2.1 ≠ (TX1 b).2.1 := by decide +kernel
theorem tyX1_ok : ∀ k, k < 5 → parseFieldDescriptor (TX1 k).2.2.1 = some (tyX1 k) := by decide +kernel
abbrev cX1_init : ByteArray := prog_3_method_1_code
def yX1_init : MethodName := ⟨RX1, "<init>", "(LEditsMeet$Letters;)V"⟩
abbrev cX1_begin : ByteArray := prog_3_method_2_code
def yX1_begin : MethodName := ⟨RX1, "begin", "()V"⟩
abbrev cX1_count : ByteArray := prog_3_method_3_code
def yX1_count : MethodName := ⟨RX1, "count", "()I"⟩
abbrev cX1_kindAt : ByteArray := prog_3_method_4_code
def yX1_kindAt : MethodName := ⟨RX1, "kindAt", "(I)I"⟩
abbrev cX1_rootAt : ByteArray := prog_3_method_5_code
def yX1_rootAt : MethodName := ⟨RX1, "rootAt", "(I)I"⟩
abbrev cX1_putRoot : ByteArray := prog_3_method_6_code
def yX1_putRoot : MethodName := ⟨RX1, "putRoot", "(II)V"⟩
abbrev cX1_sizeAt : ByteArray := prog_3_method_7_code
def yX1_sizeAt : MethodName := ⟨RX1, "sizeAt", "(I)J"⟩
abbrev cX1_onAt : ByteArray := prog_3_method_8_code
def yX1_onAt : MethodName := ⟨RX1, "onAt", "(I)I"⟩
abbrev cX1_offAt : ByteArray := prog_3_method_9_code
def yX1_offAt : MethodName := ⟨RX1, "offAt", "(I)I"⟩
abbrev cX1_firstLetterAt : ByteArray := prog_3_method_10_code
def yX1_firstLetterAt : MethodName := ⟨RX1, "firstLetterAt", "(I)I"⟩
abbrev cX1_goOver : ByteArray := prog_3_method_11_code
def yX1_goOver : MethodName := ⟨RX1, "goOver", "(IIIJ)V"⟩
abbrev cX1_putIn : ByteArray := prog_3_method_12_code
def yX1_putIn : MethodName := ⟨RX1, "putIn", "(I)V"⟩
abbrev cX1_like : ByteArray := prog_3_method_13_code
def yX1_like : MethodName := ⟨RX1, "like", "(LEditsMeet$Edit;)V"⟩
abbrev cX1_take : ByteArray := prog_3_method_14_code
def yX1_take : MethodName := ⟨RX1, "take", "(LEditsMeet$Edit;)V"⟩
abbrev cX1_allOf : ByteArray := prog_3_method_15_code
def yX1_allOf : MethodName := ⟨RX1, "allOf", "(I)J"⟩
abbrev cX1_isTooBig : ByteArray := prog_3_method_16_code
def yX1_isTooBig : MethodName := ⟨RX1, "isTooBig", "()Z"⟩
abbrev cX1_firstUnlike : ByteArray := prog_3_method_17_code
def yX1_firstUnlike : MethodName := ⟨RX1, "firstUnlike", "(LEditsMeet$Edit;)I"⟩
abbrev cX1_placeAfter : ByteArray := prog_3_method_18_code
def yX1_placeAfter : MethodName := ⟨RX1, "placeAfter", "(JZ)J"⟩
abbrev cX1_spelledAt : ByteArray := prog_3_method_19_code
def yX1_spelledAt : MethodName := ⟨RX1, "spelledAt", "(ILEditsMeet$Row;)I"⟩
abbrev cX1_spellPart : ByteArray := prog_3_method_20_code
def yX1_spellPart : MethodName := ⟨RX1, "spellPart", "(ILEditsMeet$Row;)V"⟩
abbrev cX1_spellNumber : ByteArray := prog_3_method_21_code
def yX1_spellNumber : MethodName := ⟨RX1, "spellNumber", "(LEditsMeet$Row;J)V"⟩
def RX2 : String := "EditsMeet$History"
def TX2 : u_T := fun k => match k with
  | 0 => ("EditsMeet$History", "kept", "[LEditsMeet$Edit;", true)
  | 1 => ("EditsMeet$History", "letters", "LEditsMeet$Letters;", true)
  | _ => ("EditsMeet$History", "count", "I", false)
def tyX2 : Nat → FieldType := fun k => match k with
  | 0 => .array (.object "EditsMeet$Edit")
  | 1 => .object "EditsMeet$Letters"
  | _ => .int
abbrev wsX20 : List Cond := u_ws RX2 TX2 3
theorem nmX2 : ∀ a, a < 3 → ∀ b, b < 3 → a ≠ b → (TX2 a).2.1 ≠ (TX2 b).2.1 := by decide +kernel
theorem tyX2_ok : ∀ k, k < 3 → parseFieldDescriptor (TX2 k).2.2.1 = some (tyX2 k) := by decide +kernel
abbrev cX2_init : ByteArray := prog_4_method_1_code
def yX2_init : MethodName := ⟨RX2, "<init>", "(LEditsMeet$Letters;)V"⟩
abbrev cX2_at : ByteArray := prog_4_method_2_code
def yX2_at : MethodName := ⟨RX2, "at", "(I)LEditsMeet$Edit;"⟩
abbrev cX2_latest : ByteArray := prog_4_method_3_code
def yX2_latest : MethodName := ⟨RX2, "latest", "()LEditsMeet$Edit;"⟩
abbrev cX2_drop : ByteArray := prog_4_method_4_code
def yX2_drop : MethodName := ⟨RX2, "drop", "()V"⟩
abbrev cX2_clear : ByteArray := prog_4_method_5_code
def yX2_clear : MethodName := ⟨RX2, "clear", "()V"⟩
abbrev cX2_fresh : ByteArray := prog_4_method_6_code
def yX2_fresh : MethodName := ⟨RX2, "fresh", "()LEditsMeet$Edit;"⟩
abbrev cX2_putOldestLast : ByteArray := prog_4_method_7_code
def yX2_putOldestLast : MethodName := ⟨RX2, "putOldestLast", "()V"⟩
abbrev cX2_like : ByteArray := prog_4_method_8_code
def yX2_like : MethodName := ⟨RX2, "like", "(LEditsMeet$History;)V"⟩
def RX3 : String := "EditsMeet$Letters"
def TX3 : u_T := fun k => match k with
  | 0 => ("EditsMeet$Letters", "holders", "Ljava/util/ArrayList;", true)
  | 1 => ("EditsMeet$Letters", "path", "[I", true)
  | 2 => ("EditsMeet$Letters", "trail", "[I", true)
  | 3 => ("EditsMeet$Letters", "left", "[I", false)
  | 4 => ("EditsMeet$Letters", "right", "[I", false)
  | 5 => ("EditsMeet$Letters", "sizes", "[J", false)
  | 6 => ("EditsMeet$Letters", "heights", "[I", false)
  | 7 => ("EditsMeet$Letters", "marks", "[I", false)
  | 8 => ("EditsMeet$Letters", "stamps", "[I", false)
  | 9 => ("EditsMeet$Letters", "images", "[I", false)
  | 10 => ("EditsMeet$Letters", "known", "[I", false)
  | 11 => ("EditsMeet$Letters", "roomLeft", "I", false)
  | 12 => ("EditsMeet$Letters", "stamp", "I", false)
  | 13 => ("EditsMeet$Letters", "used", "I", false)
  | _ => ("EditsMeet$Letters", "usedTillTidied", "I", false)
def tyX3 : Nat → FieldType := fun k => match k with
  | 0 => .object "java/util/ArrayList"
  | 1 => .array .int
  | 2 => .array .int
  | 3 => .array .int
  | 4 => .array .int
  | 5 => .array .long
  | 6 => .array .int
  | 7 => .array .int
  | 8 => .array .int
  | 9 => .array .int
  | 10 => .array .int
  | 11 => .int
  | 12 => .int
  | 13 => .int
  | _ => .int
abbrev wsX30 : List Cond := u_ws RX3 TX3 15
theorem nmX3 : ∀ a, a < 15 → ∀ b, b < 15 → a ≠ b → (TX3 a).2.1 ≠ (TX3 b).2.1 := by decide +kernel
theorem tyX3_ok : ∀ k, k < 15 → parseFieldDescriptor (TX3 k).2.2.1 = some (tyX3 k) := by decide +kernel
abbrev cX3_init : ByteArray := prog_5_method_1_code
def yX3_init : MethodName := ⟨RX3, "<init>", "()V"⟩
abbrev cX3_newEdit : ByteArray := prog_5_method_2_code
def yX3_newEdit : MethodName := ⟨RX3, "newEdit", "()LEditsMeet$Edit;"⟩
abbrev cX3_lendsRoom : ByteArray := prog_5_method_3_code
def yX3_lendsRoom : MethodName := ⟨RX3, "lendsRoom", "(I)Z"⟩
abbrev cX3_isRoot : ByteArray := prog_5_method_4_code
def yX3_isRoot : MethodName := ⟨RX3, "isRoot", "(I)Z"⟩
abbrev cX3_isBranch : ByteArray := prog_5_method_5_code
def yX3_isBranch : MethodName := ⟨RX3, "isBranch", "(I)Z"⟩
abbrev cX3_size : ByteArray := prog_5_method_6_code
def yX3_size : MethodName := ⟨RX3, "size", "(I)J"⟩
abbrev cX3_at : ByteArray := prog_5_method_7_code
def yX3_at : MethodName := ⟨RX3, "at", "(IJ)I"⟩
abbrev cX3_runAt : ByteArray := prog_5_method_8_code
def yX3_runAt : MethodName := ⟨RX3, "runAt", "(IJ)J"⟩
abbrev cX3_join : ByteArray := prog_5_method_9_code
def yX3_join : MethodName := ⟨RX3, "join", "(II)I"⟩
abbrev cX3_balanced : ByteArray := prog_5_method_10_code
def yX3_balanced : MethodName := ⟨RX3, "balanced", "(II)I"⟩
abbrev cX3_branch : ByteArray := prog_5_method_11_code
def yX3_branch : MethodName := ⟨RX3, "branch", "(II)I"⟩
abbrev cX3_slice : ByteArray := prog_5_method_12_code
def yX3_slice : MethodName := ⟨RX3, "slice", "(IJJ)I"⟩
abbrev cX3_turnLeaf : ByteArray := prog_5_method_13_code
def yX3_turnLeaf : MethodName := ⟨RX3, "turnLeaf", "(III)I"⟩
abbrev cX3_turnAll : ByteArray := prog_5_method_14_code
def yX3_turnAll : MethodName := ⟨RX3, "turnAll", "(III)I"⟩
abbrev cX3_isTurned : ByteArray := prog_5_method_15_code
def yX3_isTurned : MethodName := ⟨RX3, "isTurned", "(III)Z"⟩
abbrev cX3_lettersMarked : ByteArray := prog_5_method_16_code
def yX3_lettersMarked : MethodName := ⟨RX3, "lettersMarked", "(II)I"⟩
abbrev cX3_firstUnlike : ByteArray := prog_5_method_17_code
def yX3_firstUnlike : MethodName := ⟨RX3, "firstUnlike", "(II)J"⟩
abbrev cX3_makeRoom : ByteArray := prog_5_method_18_code
def yX3_makeRoom : MethodName := ⟨RX3, "makeRoom", "()V"⟩
abbrev cX3_knowAll : ByteArray := prog_5_method_19_code
def yX3_knowAll : MethodName := ⟨RX3, "knowAll", "()V"⟩
abbrev cX3_tidy : ByteArray := prog_5_method_20_code
def yX3_tidy : MethodName := ⟨RX3, "tidy", "()V"⟩
abbrev cX3_reach : ByteArray := prog_5_method_21_code
def yX3_reach : MethodName := ⟨RX3, "reach", "(LEditsMeet$Edit;)V"⟩
abbrev cX3_move : ByteArray := prog_5_method_22_code
def yX3_move : MethodName := ⟨RX3, "move", "(LEditsMeet$Edit;)V"⟩
abbrev cX3_moveTogether : ByteArray := prog_5_method_23_code
def yX3_moveTogether : MethodName := ⟨RX3, "moveTogether", "()V"⟩
def RX4 : String := "EditsMeet$Loom"
def TX4 : u_T := fun k => match k with
  | 0 => ("EditsMeet$Loom", "letters", "LEditsMeet$Letters;", true)
  | 1 => ("EditsMeet$Loom", "one", "LEditsMeet$Walk;", true)
  | 2 => ("EditsMeet$Loom", "two", "LEditsMeet$Walk;", true)
  | 3 => ("EditsMeet$Loom", "woven", "LEditsMeet$Edit;", true)
  | 4 => ("EditsMeet$Loom", "other", "LEditsMeet$Edit;", true)
  | 5 => ("EditsMeet$Loom", "coming", "LEditsMeet$Edit;", true)
  | _ => ("EditsMeet$Loom", "came", "LEditsMeet$Edit;", true)
def tyX4 : Nat → FieldType := fun k => match k with
  | 0 => .object "EditsMeet$Letters"
  | 1 => .object "EditsMeet$Walk"
  | 2 => .object "EditsMeet$Walk"
  | 3 => .object "EditsMeet$Edit"
  | 4 => .object "EditsMeet$Edit"
  | 5 => .object "EditsMeet$Edit"
  | _ => .object "EditsMeet$Edit"
abbrev wsX40 : List Cond := u_ws RX4 TX4 7
theorem nmX4 : ∀ a, a < 7 → ∀ b, b < 7 → a ≠ b → (TX4 a).2.1 ≠ (TX4 b).2.1 := by decide +kernel
theorem tyX4_ok : ∀ k, k < 7 → parseFieldDescriptor (TX4 k).2.2.1 = some (tyX4 k) := by decide +kernel
abbrev cX4_init : ByteArray := prog_6_method_1_code
def yX4_init : MethodName := ⟨RX4, "<init>", "(LEditsMeet$Letters;)V"⟩
abbrev cX4_chain : ByteArray := prog_6_method_2_code
def yX4_chain : MethodName := ⟨RX4, "chain", "(LEditsMeet$Edit;LEditsMeet$Edit;LEditsMeet$Edit;)V"⟩
abbrev cX4_carry : ByteArray := prog_6_method_3_code
def yX4_carry : MethodName := ⟨RX4, "carry", "(LEditsMeet$Edit;LEditsMeet$Edit;ILEditsMeet$Edit;)V"⟩
abbrev cX4_turn : ByteArray := prog_6_method_4_code
def yX4_turn : MethodName := ⟨RX4, "turn", "(LEditsMeet$Edit;LEditsMeet$Edit;LEditsMeet$Edit;)V"⟩
abbrev cX4_turnMark : ByteArray := prog_6_method_5_code
def yX4_turnMark : MethodName := ⟨RX4, "turnMark", "(IJJIILEditsMeet$Edit;)V"⟩
abbrev cX4_cross : ByteArray := prog_6_method_6_code
def yX4_cross : MethodName := ⟨RX4, "cross", "(LEditsMeet$Edit;)V"⟩
def RX5 : String := "EditsMeet$Meeting"
def TX5 : u_T := fun k => match k with
  | 0 => ("EditsMeet$Meeting", "revisions", "LEditsMeet$Revisions;", true)
  | 1 => ("EditsMeet$Meeting", "clients", "[LEditsMeet$Client;", true)
  | 2 => ("EditsMeet$Meeting", "server", "LEditsMeet$Edit;", true)
  | 3 => ("EditsMeet$Meeting", "letters", "LEditsMeet$Letters;", true)
  | 4 => ("EditsMeet$Meeting", "count", "I", false)
  | _ => ("EditsMeet$Meeting", "seed", "I", false)
def tyX5 : Nat → FieldType := fun k => match k with
  | 0 => .object "EditsMeet$Revisions"
  | 1 => .array (.object "EditsMeet$Client")
  | 2 => .object "EditsMeet$Edit"
  | 3 => .object "EditsMeet$Letters"
  | 4 => .int
  | _ => .int
abbrev wsX50 : List Cond := u_ws RX5 TX5 6
theorem nmX5 : ∀ a, a < 6 → ∀ b, b < 6 → a ≠ b → (TX5 a).2.1 ≠ (TX5 b).2.1 := by decide +kernel
theorem tyX5_ok : ∀ k, k < 6 → parseFieldDescriptor (TX5 k).2.2.1 = some (tyX5 k) := by decide +kernel
abbrev cX5_init : ByteArray := prog_7_method_1_code
def yX5_init : MethodName := ⟨RX5, "<init>", "(LEditsMeet$Letters;LEditsMeet$Revisions;)V"⟩
abbrev cX5_clientAt : ByteArray := prog_7_method_2_code
def yX5_clientAt : MethodName := ⟨RX5, "clientAt", "(I)LEditsMeet$Client;"⟩
abbrev cX5_textAt : ByteArray := prog_7_method_3_code
def yX5_textAt : MethodName := ⟨RX5, "textAt", "(I)LEditsMeet$Edit;"⟩
abbrev cX5_takeSent : ByteArray := prog_7_method_4_code
def yX5_takeSent : MethodName := ⟨RX5, "takeSent", "(ILEditsMeet$Loom;)V"⟩
abbrev cX5_isSettled : ByteArray := prog_7_method_5_code
def yX5_isSettled : MethodName := ⟨RX5, "isSettled", "()Z"⟩
abbrev cX5_clientsAlike : ByteArray := prog_7_method_6_code
def yX5_clientsAlike : MethodName := ⟨RX5, "clientsAlike", "()I"⟩
abbrev cX5_clientsSending : ByteArray := prog_7_method_7_code
def yX5_clientsSending : MethodName := ⟨RX5, "clientsSending", "()I"⟩
abbrev cX5_allLetters : ByteArray := prog_7_method_8_code
def yX5_allLetters : MethodName := ⟨RX5, "allLetters", "()J"⟩
abbrev cX5_draw : ByteArray := prog_7_method_9_code
def yX5_draw : MethodName := ⟨RX5, "draw", "(J)J"⟩
abbrev cX5_like : ByteArray := prog_7_method_10_code
def yX5_like : MethodName := ⟨RX5, "like", "(LEditsMeet$Meeting;)V"⟩
def RX6 : String := "EditsMeet$Revisions"
def TX6 : u_T := fun k => match k with
  | 0 => ("EditsMeet$Revisions", "edits", "[LEditsMeet$Edit;", true)
  | 1 => ("EditsMeet$Revisions", "clients", "[I", true)
  | _ => ("EditsMeet$Revisions", "letters", "LEditsMeet$Letters;", true)
def tyX6 : Nat → FieldType := fun k => match k with
  | 0 => .array (.object "EditsMeet$Edit")
  | 1 => .array .int
  | _ => .object "EditsMeet$Letters"
abbrev wsX60 : List Cond := u_ws RX6 TX6 3
theorem nmX6 : ∀ a, a < 3 → ∀ b, b < 3 → a ≠ b → (TX6 a).2.1 ≠ (TX6 b).2.1 := by decide +kernel
theorem tyX6_ok : ∀ k, k < 3 → parseFieldDescriptor (TX6 k).2.2.1 = some (tyX6 k) := by decide +kernel
abbrev cX6_init : ByteArray := prog_8_method_1_code
def yX6_init : MethodName := ⟨RX6, "<init>", "(LEditsMeet$Letters;)V"⟩
abbrev cX6_slot : ByteArray := prog_8_method_2_code
def yX6_slot : MethodName := ⟨RX6, "slot", "(I)LEditsMeet$Edit;"⟩
abbrev cX6_clientAt : ByteArray := prog_8_method_3_code
def yX6_clientAt : MethodName := ⟨RX6, "clientAt", "(I)I"⟩
abbrev cX6_sign : ByteArray := prog_8_method_4_code
def yX6_sign : MethodName := ⟨RX6, "sign", "(II)V"⟩
def RX7 : String := "EditsMeet$Row"
def TX7 : u_T := fun k => match k with
  | 0 => ("EditsMeet$Row", "letters", "LEditsMeet$Letters;", true)
  | 1 => ("EditsMeet$Row", "cells", "[J", false)
  | _ => ("EditsMeet$Row", "size", "I", false)
def tyX7 : Nat → FieldType := fun k => match k with
  | 0 => .object "EditsMeet$Letters"
  | 1 => .array .long
  | _ => .int
abbrev wsX70 : List Cond := u_ws RX7 TX7 3
theorem nmX7 : ∀ a, a < 3 → ∀ b, b < 3 → a ≠ b → (TX7 a).2.1 ≠ (TX7 b).2.1 := by decide +kernel
theorem tyX7_ok : ∀ k, k < 3 → parseFieldDescriptor (TX7 k).2.2.1 = some (tyX7 k) := by decide +kernel
abbrev cX7_init : ByteArray := prog_9_method_1_code
def yX7_init : MethodName := ⟨RX7, "<init>", "(LEditsMeet$Letters;)V"⟩
abbrev cX7_at : ByteArray := prog_9_method_2_code
def yX7_at : MethodName := ⟨RX7, "at", "(I)J"⟩
abbrev cX7_put : ByteArray := prog_9_method_3_code
def yX7_put : MethodName := ⟨RX7, "put", "(IJ)V"⟩
abbrev cX7_add : ByteArray := prog_9_method_4_code
def yX7_add : MethodName := ⟨RX7, "add", "(J)V"⟩
abbrev cX7_clear : ByteArray := prog_9_method_5_code
def yX7_clear : MethodName := ⟨RX7, "clear", "()V"⟩
abbrev cX7_like : ByteArray := prog_9_method_6_code
def yX7_like : MethodName := ⟨RX7, "like", "(LEditsMeet$Row;)V"⟩
abbrev cX7_take : ByteArray := prog_9_method_7_code
def yX7_take : MethodName := ⟨RX7, "take", "(LEditsMeet$Row;)V"⟩
def RX8 : String := "EditsMeet$Shelf"
def TX8 : u_T := fun k => match k with
  | 0 => ("EditsMeet$Shelf", "held", "I", false)
  | 1 => ("EditsMeet$Shelf", "size", "J", false)
  | 2 => ("EditsMeet$Shelf", "elements", "[J", false)
  | 3 => ("EditsMeet$Shelf", "on", "I", false)
  | 4 => ("EditsMeet$Shelf", "off", "I", false)
  | _ => ("EditsMeet$Shelf", "firstLetter", "I", false)
def tyX8 : Nat → FieldType := fun k => match k with
  | 0 => .int
  | 1 => .long
  | 2 => .array .long
  | 3 => .int
  | 4 => .int
  | _ => .int
abbrev wsX80 : List Cond := u_ws RX8 TX8 6
theorem nmX8 : ∀ a, a < 6 → ∀ b, b < 6 → a ≠ b → (TX8 a).2.1 ≠ (TX8 b).2.1 := by decide +kernel
theorem tyX8_ok : ∀ k, k < 6 → parseFieldDescriptor (TX8 k).2.2.1 = some (tyX8 k) := by decide +kernel
abbrev cX8_init : ByteArray := prog_10_method_1_code
def yX8_init : MethodName := ⟨RX8, "<init>", "()V"⟩
abbrev cX8_holdNothing : ByteArray := prog_10_method_2_code
def yX8_holdNothing : MethodName := ⟨RX8, "holdNothing", "()V"⟩
abbrev cX8_holdRow : ByteArray := prog_10_method_3_code
def yX8_holdRow : MethodName := ⟨RX8, "holdRow", "(II)V"⟩
abbrev cX8_holdPart : ByteArray := prog_10_method_4_code
def yX8_holdPart : MethodName := ⟨RX8, "holdPart", "(LEditsMeet$Edit;I)V"⟩
abbrev cX8_kind : ByteArray := prog_10_method_5_code
def yX8_kind : MethodName := ⟨RX8, "kind", "()I"⟩
abbrev cX8_answersAs : ByteArray := prog_10_method_6_code
def yX8_answersAs : MethodName := ⟨RX8, "answersAs", "(I)I"⟩
abbrev cX8_at : ByteArray := prog_10_method_7_code
def yX8_at : MethodName := ⟨RX8, "at", "(I)J"⟩
abbrev cX8_put : ByteArray := prog_10_method_8_code
def yX8_put : MethodName := ⟨RX8, "put", "(IJ)V"⟩
abbrev cX8_lowest : ByteArray := prog_10_method_9_code
def yX8_lowest : MethodName := ⟨RX8, "lowest", "(J)J"⟩
abbrev cX8_takeFrom : ByteArray := prog_10_method_10_code
def yX8_takeFrom : MethodName := ⟨RX8, "takeFrom", "(LEditsMeet$Shelf;III)V"⟩
def RX9 : String := "EditsMeet$Tape"
def TX9 : u_T := fun k => match k with
  | 0 => ("EditsMeet$Tape", "bytes", "LEditsMeet$Row;", true)
  | 1 => ("EditsMeet$Tape", "place", "I", false)
  | _ => ("EditsMeet$Tape", "fault", "I", false)
def tyX9 : Nat → FieldType := fun k => match k with
  | 0 => .object "EditsMeet$Row"
  | 1 => .int
  | _ => .int
abbrev wsX90 : List Cond := u_ws RX9 TX9 3
theorem nmX9 : ∀ a, a < 3 → ∀ b, b < 3 → a ≠ b → (TX9 a).2.1 ≠ (TX9 b).2.1 := by decide +kernel
theorem tyX9_ok : ∀ k, k < 3 → parseFieldDescriptor (TX9 k).2.2.1 = some (tyX9 k) := by decide +kernel
abbrev cX9_init : ByteArray := prog_11_method_1_code
def yX9_init : MethodName := ⟨RX9, "<init>", "(LEditsMeet$Letters;)V"⟩
abbrev cX9_reads : ByteArray := prog_11_method_2_code
def yX9_reads : MethodName := ⟨RX9, "reads", "(LEditsMeet$Edit;)I"⟩
abbrev cX9_readPart : ByteArray := prog_11_method_3_code
def yX9_readPart : MethodName := ⟨RX9, "readPart", "(LEditsMeet$Edit;)V"⟩
abbrev cX9_readLetters : ByteArray := prog_11_method_4_code
def yX9_readLetters : MethodName := ⟨RX9, "readLetters", "(LEditsMeet$Edit;)V"⟩
abbrev cX9_readDot : ByteArray := prog_11_method_5_code
def yX9_readDot : MethodName := ⟨RX9, "readDot", "()V"⟩
abbrev cX9_readNumber : ByteArray := prog_11_method_6_code
def yX9_readNumber : MethodName := ⟨RX9, "readNumber", "(I)I"⟩
abbrev cX9_signAt : ByteArray := prog_11_method_7_code
def yX9_signAt : MethodName := ⟨RX9, "signAt", "(I)I"⟩
abbrev cX9_isLetter : ByteArray := prog_11_method_8_code
def yX9_isLetter : MethodName := ⟨RX9, "isLetter", "(I)Z"⟩
abbrev cX9_isDigit : ByteArray := prog_11_method_9_code
def yX9_isDigit : MethodName := ⟨RX9, "isDigit", "(I)Z"⟩
def RX10 : String := "EditsMeet$Walk"
def TX10 : u_T := fun k => match k with
  | 0 => ("EditsMeet$Walk", "edit", "LEditsMeet$Edit;", false)
  | 1 => ("EditsMeet$Walk", "i", "I", false)
  | 2 => ("EditsMeet$Walk", "kind", "I", false)
  | 3 => ("EditsMeet$Walk", "done", "J", false)
  | 4 => ("EditsMeet$Walk", "left", "J", false)
  | 5 => ("EditsMeet$Walk", "on", "I", false)
  | _ => ("EditsMeet$Walk", "off", "I", false)
def tyX10 : Nat → FieldType := fun k => match k with
  | 0 => .object "EditsMeet$Edit"
  | 1 => .int
  | 2 => .int
  | 3 => .long
  | 4 => .long
  | 5 => .int
  | _ => .int
abbrev wsX100 : List Cond := u_ws RX10 TX10 7
theorem nmX10 : ∀ a, a < 7 → ∀ b, b < 7 → a ≠ b → (TX10 a).2.1 ≠ (TX10 b).2.1 := by decide +kernel
theorem tyX10_ok : ∀ k, k < 7 → parseFieldDescriptor (TX10 k).2.2.1 = some (tyX10 k) := by decide +kernel
abbrev cX10_init : ByteArray := prog_12_method_1_code
def yX10_init : MethodName := ⟨RX10, "<init>", "()V"⟩
abbrev cX10_start : ByteArray := prog_12_method_2_code
def yX10_start : MethodName := ⟨RX10, "start", "(LEditsMeet$Edit;)V"⟩
abbrev cX10_go : ByteArray := prog_12_method_3_code
def yX10_go : MethodName := ⟨RX10, "go", "(J)V"⟩
abbrev cX10_root : ByteArray := prog_12_method_4_code
def yX10_root : MethodName := ⟨RX10, "root", "()I"⟩
abbrev cX10_enterNext : ByteArray := prog_12_method_5_code
def yX10_enterNext : MethodName := ⟨RX10, "enterNext", "()V"⟩
def RX11 : String := "EditsMeet"
def TX11 : u_T := fun k => match k with
  | 0 => ("EditsMeet", "edits", "[LEditsMeet$Edit;", true)
  | 1 => ("EditsMeet", "shelves", "[LEditsMeet$Shelf;", true)
  | 2 => ("EditsMeet", "refusals", "[I", true)
  | 3 => ("EditsMeet", "letters", "LEditsMeet$Letters;", true)
  | 4 => ("EditsMeet", "tape", "LEditsMeet$Tape;", true)
  | 5 => ("EditsMeet", "spelling", "LEditsMeet$Row;", true)
  | 6 => ("EditsMeet", "loom", "LEditsMeet$Loom;", true)
  | 7 => ("EditsMeet", "draft", "LEditsMeet$Edit;", true)
  | 8 => ("EditsMeet", "meeting", "LEditsMeet$Meeting;", true)
  | _ => ("EditsMeet", "imaged", "LEditsMeet$Meeting;", false)
def tyX11 : Nat → FieldType := fun k => match k with
  | 0 => .array (.object "EditsMeet$Edit")
  | 1 => .array (.object "EditsMeet$Shelf")
  | 2 => .array .int
  | 3 => .object "EditsMeet$Letters"
  | 4 => .object "EditsMeet$Tape"
  | 5 => .object "EditsMeet$Row"
  | 6 => .object "EditsMeet$Loom"
  | 7 => .object "EditsMeet$Edit"
  | 8 => .object "EditsMeet$Meeting"
  | _ => .object "EditsMeet$Meeting"
abbrev wsX110 : List Cond := u_ws RX11 TX11 10
theorem nmX11 : ∀ a, a < 10 → ∀ b, b < 10 → a ≠ b → (TX11 a).2.1 ≠ (TX11 b).2.1 := by decide +kernel
theorem tyX11_ok : ∀ k, k < 10 → parseFieldDescriptor (TX11 k).2.2.1 = some (tyX11 k) := by decide +kernel
abbrev cX11_init : ByteArray := prog_1_method_1_code
def yX11_init : MethodName := ⟨RX11, "<init>", "()V"⟩
abbrev cX11_row : ByteArray := prog_1_method_2_code
def yX11_row : MethodName := ⟨RX11, "row", "(III)I"⟩
abbrev cX11_set : ByteArray := prog_1_method_3_code
def yX11_set : MethodName := ⟨RX11, "set", "(IIJ)I"⟩
abbrev cX11_copy : ByteArray := prog_1_method_4_code
def yX11_copy : MethodName := ⟨RX11, "copy", "(IIIII)I"⟩
abbrev cX11_element : ByteArray := prog_1_method_5_code
def yX11_element : MethodName := ⟨RX11, "element", "(II)J"⟩
abbrev cX11_holds : ByteArray := prog_1_method_6_code
def yX11_holds : MethodName := ⟨RX11, "holds", "(I)I"⟩
abbrev cX11_show : ByteArray := prog_1_method_7_code
def yX11_show : MethodName := ⟨RX11, "show", "(III)I"⟩
abbrev cX11_says : ByteArray := prog_1_method_8_code
def yX11_says : MethodName := ⟨RX11, "says", "(II)I"⟩
abbrev cX11_isShelf : ByteArray := prog_1_method_9_code
def yX11_isShelf : MethodName := ⟨RX11, "isShelf", "(I)Z"⟩
abbrev cX11_shelfToFill : ByteArray := prog_1_method_10_code
def yX11_shelfToFill : MethodName := ⟨RX11, "shelfToFill", "(I)LEditsMeet$Shelf;"⟩
abbrev cX11_holdsNothing : ByteArray := prog_1_method_11_code
def yX11_holdsNothing : MethodName := ⟨RX11, "holdsNothing", "(LEditsMeet$Shelf;)Z"⟩
abbrev cX11_holdsRow : ByteArray := prog_1_method_12_code
def yX11_holdsRow : MethodName := ⟨RX11, "holdsRow", "(LEditsMeet$Shelf;)Z"⟩
abbrev cX11_holdsPart : ByteArray := prog_1_method_13_code
def yX11_holdsPart : MethodName := ⟨RX11, "holdsPart", "(LEditsMeet$Shelf;)Z"⟩
abbrev cX11_isStretch : ByteArray := prog_1_method_14_code
def yX11_isStretch : MethodName := ⟨RX11, "isStretch", "(IIJ)Z"⟩
abbrev cX11_told : ByteArray := prog_1_method_15_code
def yX11_told : MethodName := ⟨RX11, "told", "(J)I"⟩
abbrev cX11_isUnder : ByteArray := prog_1_method_16_code
def yX11_isUnder : MethodName := ⟨RX11, "isUnder", "(II)Z"⟩
abbrev cX11_feed : ByteArray := prog_1_method_17_code
def yX11_feed : MethodName := ⟨RX11, "feed", "(I)I"⟩
abbrev cX11_wipe : ByteArray := prog_1_method_18_code
def yX11_wipe : MethodName := ⟨RX11, "wipe", "()I"⟩
abbrev cX11_edit : ByteArray := prog_1_method_19_code
def yX11_edit : MethodName := ⟨RX11, "edit", "(I)I"⟩
abbrev cX11_of : ByteArray := prog_1_method_20_code
def yX11_of : MethodName := ⟨RX11, "of", "(II)I"⟩
abbrev cX11_part : ByteArray := prog_1_method_21_code
def yX11_part : MethodName := ⟨RX11, "part", "(III)I"⟩
abbrev cX11_letter : ByteArray := prog_1_method_22_code
def yX11_letter : MethodName := ⟨RX11, "letter", "(III)I"⟩
abbrev cX11_spelled : ByteArray := prog_1_method_23_code
def yX11_spelled : MethodName := ⟨RX11, "spelled", "(II)I"⟩
abbrev cX11_behind : ByteArray := prog_1_method_24_code
def yX11_behind : MethodName := ⟨RX11, "behind", "(III)I"⟩
abbrev cX11_over : ByteArray := prog_1_method_25_code
def yX11_over : MethodName := ⟨RX11, "over", "(IIII)I"⟩
abbrev cX11_turned : ByteArray := prog_1_method_26_code
def yX11_turned : MethodName := ⟨RX11, "turned", "(III)I"⟩
abbrev cX11_differ : ByteArray := prog_1_method_27_code
def yX11_differ : MethodName := ⟨RX11, "differ", "(II)I"⟩
abbrev cX11_isNumber : ByteArray := prog_1_method_28_code
def yX11_isNumber : MethodName := ⟨RX11, "isNumber", "(I)Z"⟩
abbrev cX11_numbered : ByteArray := prog_1_method_29_code
def yX11_numbered : MethodName := ⟨RX11, "numbered", "(I)LEditsMeet$Edit;"⟩
abbrev cX11_keepDraft : ByteArray := prog_1_method_30_code
def yX11_keepDraft : MethodName := ⟨RX11, "keepDraft", "(I)I"⟩
abbrev cX11_does : ByteArray := prog_1_method_31_code
def yX11_does : MethodName := ⟨RX11, "does", "(II)I"⟩
abbrev cX11_insert : ByteArray := prog_1_method_32_code
def yX11_insert : MethodName := ⟨RX11, "insert", "(IIII)I"⟩
abbrev cX11_cut : ByteArray := prog_1_method_33_code
def yX11_cut : MethodName := ⟨RX11, "cut", "(III)I"⟩
abbrev cX11_mark : ByteArray := prog_1_method_34_code
def yX11_mark : MethodName := ⟨RX11, "mark", "(IIIII)I"⟩
abbrev cX11_undo : ByteArray := prog_1_method_35_code
def yX11_undo : MethodName := ⟨RX11, "undo", "(I)I"⟩
abbrev cX11_redo : ByteArray := prog_1_method_36_code
def yX11_redo : MethodName := ⟨RX11, "redo", "(I)I"⟩
abbrev cX11_point : ByteArray := prog_1_method_37_code
def yX11_point : MethodName := ⟨RX11, "point", "(III)I"⟩
abbrev cX11_draftInsert : ByteArray := prog_1_method_38_code
def yX11_draftInsert : MethodName := ⟨RX11, "draftInsert", "(LEditsMeet$Client;JI)V"⟩
abbrev cX11_draftOver : ByteArray := prog_1_method_39_code
def yX11_draftOver : MethodName := ⟨RX11, "draftOver", "(LEditsMeet$Client;JIIII)V"⟩
abbrev cX11_whyNotAgain : ByteArray := prog_1_method_40_code
def yX11_whyNotAgain : MethodName := ⟨RX11, "whyNotAgain", "(LEditsMeet$Client;LEditsMeet$History;)I"⟩
abbrev cX11_serve : ByteArray := prog_1_method_41_code
def yX11_serve : MethodName := ⟨RX11, "serve", "(I)I"⟩
abbrev cX11_hear : ByteArray := prog_1_method_42_code
def yX11_hear : MethodName := ⟨RX11, "hear", "(I)I"⟩
abbrev cX11_meet : ByteArray := prog_1_method_43_code
def yX11_meet : MethodName := ⟨RX11, "meet", "()I"⟩
abbrev cX11_cursor : ByteArray := prog_1_method_44_code
def yX11_cursor : MethodName := ⟨RX11, "cursor", "(II)I"⟩
abbrev cX11_clientOf : ByteArray := prog_1_method_45_code
def yX11_clientOf : MethodName := ⟨RX11, "clientOf", "(II)I"⟩
abbrev cX11_takes : ByteArray := prog_1_method_46_code
def yX11_takes : MethodName := ⟨RX11, "takes", "(III)I"⟩
abbrev cX11_revision : ByteArray := prog_1_method_47_code
def yX11_revision : MethodName := ⟨RX11, "revision", "(II)I"⟩
abbrev cX11_length : ByteArray := prog_1_method_48_code
def yX11_length : MethodName := ⟨RX11, "length", "(I)I"⟩
abbrev cX11_text : ByteArray := prog_1_method_49_code
def yX11_text : MethodName := ⟨RX11, "text", "(III)I"⟩
abbrev cX11_apart : ByteArray := prog_1_method_50_code
def yX11_apart : MethodName := ⟨RX11, "apart", "(II)I"⟩
abbrev cX11_marked : ByteArray := prog_1_method_51_code
def yX11_marked : MethodName := ⟨RX11, "marked", "(II)I"⟩
abbrev cX11_judge : ByteArray := prog_1_method_52_code
def yX11_judge : MethodName := ⟨RX11, "judge", "(III)I"⟩
abbrev cX11_days : ByteArray := prog_1_method_53_code
def yX11_days : MethodName := ⟨RX11, "days", "(I)I"⟩
abbrev cX11_seed : ByteArray := prog_1_method_54_code
def yX11_seed : MethodName := ⟨RX11, "seed", "(I)I"⟩
abbrev cX11_canBe : ByteArray := prog_1_method_55_code
def yX11_canBe : MethodName := ⟨RX11, "canBe", "(LEditsMeet$Client;I)Z"⟩
abbrev cX11_draftByDraws : ByteArray := prog_1_method_56_code
def yX11_draftByDraws : MethodName := ⟨RX11, "draftByDraws", "(LEditsMeet$Client;I)V"⟩
abbrev cX11_image : ByteArray := prog_1_method_57_code
def yX11_image : MethodName := ⟨RX11, "image", "()I"⟩
abbrev cX11_back : ByteArray := prog_1_method_58_code
def yX11_back : MethodName := ⟨RX11, "back", "()I"⟩
abbrev cX11_status : ByteArray := prog_1_method_59_code
def yX11_status : MethodName := ⟨RX11, "status", "(I)I"⟩
abbrev cX11_editsByNumber : ByteArray := prog_1_method_60_code
def yX11_editsByNumber : MethodName := ⟨RX11, "editsByNumber", "()I"⟩
abbrev cX11_shelvesInUse : ByteArray := prog_1_method_61_code
def yX11_shelvesInUse : MethodName := ⟨RX11, "shelvesInUse", "()I"⟩
abbrev cX11_refuse : ByteArray := prog_1_method_62_code
def yX11_refuse : MethodName := ⟨RX11, "refuse", "(I)I"⟩
def RX12 : String := "EditsMeetModel"
def TX12 : u_T := fun k => match k with
  | 0 => ("EditsMeetModel", "rows", "[[I", true)
  | 1 => ("EditsMeetModel", "size", "[I", true)
  | 2 => ("EditsMeetModel", "isThere", "[Z", true)
  | 3 => ("EditsMeetModel", "texts", "[[I", true)
  | 4 => ("EditsMeetModel", "lengths", "[I", true)
  | 5 => ("EditsMeetModel", "state", "[I", true)
  | 6 => ("EditsMeetModel", "by", "[I", true)
  | 7 => ("EditsMeetModel", "single", "[I", true)
  | 8 => ("EditsMeetModel", "refusals", "[I", true)
  | 9 => ("EditsMeetModel", "work", "[[I", true)
  | 10 => ("EditsMeetModel", "worked", "[I", true)
  | 11 => ("EditsMeetModel", "aside", "[I", true)
  | 12 => ("EditsMeetModel", "tape", "[I", true)
  | 13 => ("EditsMeetModel", "taped", "I", false)
  | 14 => ("EditsMeetModel", "place", "I", false)
  | 15 => ("EditsMeetModel", "number", "I", false)
  | 16 => ("EditsMeetModel", "texted", "I", false)
  | 17 => ("EditsMeetModel", "asked", "I", false)
  | 18 => ("EditsMeetModel", "found", "I", false)
  | 19 => ("EditsMeetModel", "sorts", "[I", true)
  | 20 => ("EditsMeetModel", "sizes", "[I", true)
  | 21 => ("EditsMeetModel", "elements", "[J", true)
  | 22 => ("EditsMeetModel", "partKind", "[I", true)
  | 23 => ("EditsMeetModel", "partMany", "[I", true)
  | 24 => ("EditsMeetModel", "partAbout", "[I", true)
  | 25 => ("EditsMeetModel", "keptRows", "[[I", true)
  | 26 => ("EditsMeetModel", "keptSize", "[I", true)
  | 27 => ("EditsMeetModel", "keptTexts", "[[I", true)
  | 28 => ("EditsMeetModel", "keptLengths", "[I", true)
  | 29 => ("EditsMeetModel", "keptState", "[I", true)
  | 30 => ("EditsMeetModel", "keptBy", "[I", true)
  | 31 => ("EditsMeetModel", "keptSingle", "[I", true)
  | _ => ("EditsMeetModel", "hasImage", "Z", false)
def tyX12 : Nat → FieldType := fun k => match k with
  | 0 => .array (.array .int)
  | 1 => .array .int
  | 2 => .array .boolean
  | 3 => .array (.array .int)
  | 4 => .array .int
  | 5 => .array .int
  | 6 => .array .int
  | 7 => .array .int
  | 8 => .array .int
  | 9 => .array (.array .int)
  | 10 => .array .int
  | 11 => .array .int
  | 12 => .array .int
  | 13 => .int
  | 14 => .int
  | 15 => .int
  | 16 => .int
  | 17 => .int
  | 18 => .int
  | 19 => .array .int
  | 20 => .array .int
  | 21 => .array .long
  | 22 => .array .int
  | 23 => .array .int
  | 24 => .array .int
  | 25 => .array (.array .int)
  | 26 => .array .int
  | 27 => .array (.array .int)
  | 28 => .array .int
  | 29 => .array .int
  | 30 => .array .int
  | 31 => .array .int
  | _ => .boolean
abbrev wsX120 : List Cond := u_ws RX12 TX12 33
theorem nmX12 : ∀ a, a < 33 → ∀ b, b < 33 → a ≠ b → (TX12 a).2.1 ≠ (TX12 b).2.1 := by decide +kernel
theorem tyX12_ok : ∀ k, k < 33 → parseFieldDescriptor (TX12 k).2.2.1 = some (tyX12 k) := by decide +kernel
abbrev cX12_init : ByteArray := prog_14_method_1_code
def yX12_init : MethodName := ⟨RX12, "<init>", "()V"⟩
abbrev cX12_in : ByteArray := prog_14_method_2_code
def yX12_in : MethodName := ⟨RX12, "in", "(JJJ)Z"⟩
abbrev cX12_refused : ByteArray := prog_14_method_3_code
def yX12_refused : MethodName := ⟨RX12, "refused", "(I)I"⟩
abbrev cX12_kind : ByteArray := prog_14_method_4_code
def yX12_kind : MethodName := ⟨RX12, "kind", "(I)I"⟩
abbrev cX12_grown : ByteArray := prog_14_method_5_code
def yX12_grown : MethodName := ⟨RX12, "grown", "([II)[I"⟩
abbrev cX12_adds : ByteArray := prog_14_method_6_code
def yX12_adds : MethodName := ⟨RX12, "adds", "(II)V"⟩
abbrev cX12_takesRow : ByteArray := prog_14_method_7_code
def yX12_takesRow : MethodName := ⟨RX12, "takesRow", "(II)V"⟩
abbrev cX12_keepsRow : ByteArray := prog_14_method_8_code
def yX12_keepsRow : MethodName := ⟨RX12, "keepsRow", "(II)V"⟩
abbrev cX12_copiesRow : ByteArray := prog_14_method_9_code
def yX12_copiesRow : MethodName := ⟨RX12, "copiesRow", "(II)V"⟩
abbrev cX12_plain : ByteArray := prog_14_method_10_code
def yX12_plain : MethodName := ⟨RX12, "plain", "(I)V"⟩
abbrev cX12_count : ByteArray := prog_14_method_11_code
def yX12_count : MethodName := ⟨RX12, "count", "([III)I"⟩
abbrev cX12_from : ByteArray := prog_14_method_12_code
def yX12_from : MethodName := ⟨RX12, "from", "(I)I"⟩
abbrev cX12_to : ByteArray := prog_14_method_13_code
def yX12_to : MethodName := ⟨RX12, "to", "(I)I"⟩
abbrev cX12_isTooLarge : ByteArray := prog_14_method_14_code
def yX12_isTooLarge : MethodName := ⟨RX12, "isTooLarge", "(I)Z"⟩
abbrev cX12_marksOf : ByteArray := prog_14_method_15_code
def yX12_marksOf : MethodName := ⟨RX12, "marksOf", "(II)I"⟩
abbrev cX12_behindRow : ByteArray := prog_14_method_16_code
def yX12_behindRow : MethodName := ⟨RX12, "behindRow", "(III)V"⟩
abbrev cX12_together : ByteArray := prog_14_method_17_code
def yX12_together : MethodName := ⟨RX12, "together", "(III)V"⟩
abbrev cX12_overRow : ByteArray := prog_14_method_18_code
def yX12_overRow : MethodName := ⟨RX12, "overRow", "(IIII)V"⟩
abbrev cX12_overOne : ByteArray := prog_14_method_19_code
def yX12_overOne : MethodName := ⟨RX12, "overOne", "(IIII)V"⟩
abbrev cX12_turnedRow : ByteArray := prog_14_method_20_code
def yX12_turnedRow : MethodName := ⟨RX12, "turnedRow", "(III)V"⟩
abbrev cX12_makes : ByteArray := prog_14_method_21_code
def yX12_makes : MethodName := ⟨RX12, "makes", "(II)V"⟩
abbrev cX12_goesAlong : ByteArray := prog_14_method_22_code
def yX12_goesAlong : MethodName := ⟨RX12, "goesAlong", "(IIZ)I"⟩
abbrev cX12_st : ByteArray := prog_14_method_23_code
def yX12_st : MethodName := ⟨RX12, "st", "(II)I"⟩
abbrev cX12_cursorGoes : ByteArray := prog_14_method_24_code
def yX12_cursorGoes : MethodName := ⟨RX12, "cursorGoes", "(IIZ)V"⟩
abbrev cX12_pushes : ByteArray := prog_14_method_25_code
def yX12_pushes : MethodName := ⟨RX12, "pushes", "(III)V"⟩
abbrev cX12_done : ByteArray := prog_14_method_26_code
def yX12_done : MethodName := ⟨RX12, "done", "(IIZ)V"⟩
abbrev cX12_resultLength : ByteArray := prog_14_method_27_code
def yX12_resultLength : MethodName := ⟨RX12, "resultLength", "(I)I"⟩
abbrev cX12_isFull : ByteArray := prog_14_method_28_code
def yX12_isFull : MethodName := ⟨RX12, "isFull", "(II)Z"⟩
abbrev cX12_serves : ByteArray := prog_14_method_29_code
def yX12_serves : MethodName := ⟨RX12, "serves", "(I)I"⟩
abbrev cX12_keepsWork : ByteArray := prog_14_method_30_code
def yX12_keepsWork : MethodName := ⟨RX12, "keepsWork", "(II)V"⟩
abbrev cX12_crosses : ByteArray := prog_14_method_31_code
def yX12_crosses : MethodName := ⟨RX12, "crosses", "(I)V"⟩
abbrev cX12_hears : ByteArray := prog_14_method_32_code
def yX12_hears : MethodName := ⟨RX12, "hears", "(I)V"⟩
abbrev cX12_isClient : ByteArray := prog_14_method_33_code
def yX12_isClient : MethodName := ⟨RX12, "isClient", "(I)Z"⟩
abbrev cX12_isEdit : ByteArray := prog_14_method_34_code
def yX12_isEdit : MethodName := ⟨RX12, "isEdit", "(I)Z"⟩
abbrev cX12_feed : ByteArray := prog_14_method_35_code
def yX12_feed : MethodName := ⟨RX12, "feed", "(I)I"⟩
abbrev cX12_wipe : ByteArray := prog_14_method_36_code
def yX12_wipe : MethodName := ⟨RX12, "wipe", "()I"⟩
abbrev cX12_byteAt : ByteArray := prog_14_method_37_code
def yX12_byteAt : MethodName := ⟨RX12, "byteAt", "(I)I"⟩
abbrev cX12_isNumber : ByteArray := prog_14_method_38_code
def yX12_isNumber : MethodName := ⟨RX12, "isNumber", "(I)Z"⟩
abbrev cX12_isPart : ByteArray := prog_14_method_39_code
def yX12_isPart : MethodName := ⟨RX12, "isPart", "()Z"⟩
abbrev cX12_edit : ByteArray := prog_14_method_40_code
def yX12_edit : MethodName := ⟨RX12, "edit", "(I)I"⟩
abbrev cX12_comes : ByteArray := prog_14_method_41_code
def yX12_comes : MethodName := ⟨RX12, "comes", "(II)I"⟩
abbrev cX12_isOne : ByteArray := prog_14_method_42_code
def yX12_isOne : MethodName := ⟨RX12, "isOne", "(II)Z"⟩
abbrev cX12_parts : ByteArray := prog_14_method_43_code
def yX12_parts : MethodName := ⟨RX12, "parts", "(I)I"⟩
abbrev cX12_beginOf : ByteArray := prog_14_method_44_code
def yX12_beginOf : MethodName := ⟨RX12, "beginOf", "(II)I"⟩
abbrev cX12_kindTold : ByteArray := prog_14_method_45_code
def yX12_kindTold : MethodName := ⟨RX12, "kindTold", "(I)I"⟩
abbrev cX12_isKept : ByteArray := prog_14_method_46_code
def yX12_isKept : MethodName := ⟨RX12, "isKept", "(I)Z"⟩
abbrev cX12_letters : ByteArray := prog_14_method_47_code
def yX12_letters : MethodName := ⟨RX12, "letters", "(II)I"⟩
abbrev cX12_of : ByteArray := prog_14_method_48_code
def yX12_of : MethodName := ⟨RX12, "of", "(II)I"⟩
abbrev cX12_part : ByteArray := prog_14_method_49_code
def yX12_part : MethodName := ⟨RX12, "part", "(III)I"⟩
abbrev cX12_letter : ByteArray := prog_14_method_50_code
def yX12_letter : MethodName := ⟨RX12, "letter", "(III)I"⟩
abbrev cX12_tells : ByteArray := prog_14_method_51_code
def yX12_tells : MethodName := ⟨RX12, "tells", "(I)V"⟩
abbrev cX12_tellsNumber : ByteArray := prog_14_method_52_code
def yX12_tellsNumber : MethodName := ⟨RX12, "tellsNumber", "(I)V"⟩
abbrev cX12_tellsPart : ByteArray := prog_14_method_53_code
def yX12_tellsPart : MethodName := ⟨RX12, "tellsPart", "(II)V"⟩
abbrev cX12_spelled : ByteArray := prog_14_method_54_code
def yX12_spelled : MethodName := ⟨RX12, "spelled", "(II)I"⟩
abbrev cX12_made : ByteArray := prog_14_method_55_code
def yX12_made : MethodName := ⟨RX12, "made", "(II)I"⟩
abbrev cX12_behind : ByteArray := prog_14_method_56_code
def yX12_behind : MethodName := ⟨RX12, "behind", "(III)I"⟩
abbrev cX12_over : ByteArray := prog_14_method_57_code
def yX12_over : MethodName := ⟨RX12, "over", "(IIII)I"⟩
abbrev cX12_turned : ByteArray := prog_14_method_58_code
def yX12_turned : MethodName := ⟨RX12, "turned", "(III)I"⟩
abbrev cX12_differ : ByteArray := prog_14_method_59_code
def yX12_differ : MethodName := ⟨RX12, "differ", "(II)I"⟩
abbrev cX12_does : ByteArray := prog_14_method_60_code
def yX12_does : MethodName := ⟨RX12, "does", "(II)I"⟩
abbrev cX12_keepsAllBut : ByteArray := prog_14_method_61_code
def yX12_keepsAllBut : MethodName := ⟨RX12, "keepsAllBut", "(IIII)V"⟩
abbrev cX12_inserts : ByteArray := prog_14_method_62_code
def yX12_inserts : MethodName := ⟨RX12, "inserts", "(III)V"⟩
abbrev cX12_insert : ByteArray := prog_14_method_63_code
def yX12_insert : MethodName := ⟨RX12, "insert", "(IIII)I"⟩
abbrev cX12_isStretch : ByteArray := prog_14_method_64_code
def yX12_isStretch : MethodName := ⟨RX12, "isStretch", "(III)Z"⟩
abbrev cX12_cut : ByteArray := prog_14_method_65_code
def yX12_cut : MethodName := ⟨RX12, "cut", "(III)I"⟩
abbrev cX12_mark : ByteArray := prog_14_method_66_code
def yX12_mark : MethodName := ⟨RX12, "mark", "(IIIII)I"⟩
abbrev cX12_serve : ByteArray := prog_14_method_67_code
def yX12_serve : MethodName := ⟨RX12, "serve", "(I)I"⟩
abbrev cX12_hear : ByteArray := prog_14_method_68_code
def yX12_hear : MethodName := ⟨RX12, "hear", "(I)I"⟩
abbrev cX12_hearAll : ByteArray := prog_14_method_69_code
def yX12_hearAll : MethodName := ⟨RX12, "hearAll", "()V"⟩
abbrev cX12_isAnySent : ByteArray := prog_14_method_70_code
def yX12_isAnySent : MethodName := ⟨RX12, "isAnySent", "()Z"⟩
abbrev cX12_meet : ByteArray := prog_14_method_71_code
def yX12_meet : MethodName := ⟨RX12, "meet", "()I"⟩
abbrev cX12_again : ByteArray := prog_14_method_72_code
def yX12_again : MethodName := ⟨RX12, "again", "(II)I"⟩
abbrev cX12_undo : ByteArray := prog_14_method_73_code
def yX12_undo : MethodName := ⟨RX12, "undo", "(I)I"⟩
abbrev cX12_redo : ByteArray := prog_14_method_74_code
def yX12_redo : MethodName := ⟨RX12, "redo", "(I)I"⟩
abbrev cX12_point : ByteArray := prog_14_method_75_code
def yX12_point : MethodName := ⟨RX12, "point", "(III)I"⟩
abbrev cX12_cursor : ByteArray := prog_14_method_76_code
def yX12_cursor : MethodName := ⟨RX12, "cursor", "(II)I"⟩
abbrev cX12_clientOf : ByteArray := prog_14_method_77_code
def yX12_clientOf : MethodName := ⟨RX12, "clientOf", "(II)I"⟩
abbrev cX12_takes : ByteArray := prog_14_method_78_code
def yX12_takes : MethodName := ⟨RX12, "takes", "(III)I"⟩
abbrev cX12_revision : ByteArray := prog_14_method_79_code
def yX12_revision : MethodName := ⟨RX12, "revision", "(II)I"⟩
abbrev cX12_isText : ByteArray := prog_14_method_80_code
def yX12_isText : MethodName := ⟨RX12, "isText", "(I)Z"⟩
abbrev cX12_length : ByteArray := prog_14_method_81_code
def yX12_length : MethodName := ⟨RX12, "length", "(I)I"⟩
abbrev cX12_text : ByteArray := prog_14_method_82_code
def yX12_text : MethodName := ⟨RX12, "text", "(III)I"⟩
abbrev cX12_firstApart : ByteArray := prog_14_method_83_code
def yX12_firstApart : MethodName := ⟨RX12, "firstApart", "(II)I"⟩
abbrev cX12_apart : ByteArray := prog_14_method_84_code
def yX12_apart : MethodName := ⟨RX12, "apart", "(II)I"⟩
abbrev cX12_marked : ByteArray := prog_14_method_85_code
def yX12_marked : MethodName := ⟨RX12, "marked", "(II)I"⟩
abbrev cX12_isShelf : ByteArray := prog_14_method_86_code
def yX12_isShelf : MethodName := ⟨RX12, "isShelf", "(I)Z"⟩
abbrev cX12_row : ByteArray := prog_14_method_87_code
def yX12_row : MethodName := ⟨RX12, "row", "(III)I"⟩
abbrev cX12_lowest : ByteArray := prog_14_method_88_code
def yX12_lowest : MethodName := ⟨RX12, "lowest", "(IJ)J"⟩
abbrev cX12_set : ByteArray := prog_14_method_89_code
def yX12_set : MethodName := ⟨RX12, "set", "(IIJ)I"⟩
abbrev cX12_copy : ByteArray := prog_14_method_90_code
def yX12_copy : MethodName := ⟨RX12, "copy", "(IIIII)I"⟩
abbrev cX12_element : ByteArray := prog_14_method_91_code
def yX12_element : MethodName := ⟨RX12, "element", "(II)J"⟩
abbrev cX12_holds : ByteArray := prog_14_method_92_code
def yX12_holds : MethodName := ⟨RX12, "holds", "(I)I"⟩
abbrev cX12_show : ByteArray := prog_14_method_93_code
def yX12_show : MethodName := ⟨RX12, "show", "(III)I"⟩
abbrev cX12_isUnder : ByteArray := prog_14_method_94_code
def yX12_isUnder : MethodName := ⟨RX12, "isUnder", "(II)Z"⟩
abbrev cX12_says : ByteArray := prog_14_method_95_code
def yX12_says : MethodName := ⟨RX12, "says", "(II)I"⟩
abbrev cX12_judge : ByteArray := prog_14_method_96_code
def yX12_judge : MethodName := ⟨RX12, "judge", "(III)I"⟩
abbrev cX12_draw : ByteArray := prog_14_method_97_code
def yX12_draw : MethodName := ⟨RX12, "draw", "(I)I"⟩
abbrev cX12_isDay : ByteArray := prog_14_method_98_code
def yX12_isDay : MethodName := ⟨RX12, "isDay", "(II)Z"⟩
abbrev cX12_days : ByteArray := prog_14_method_99_code
def yX12_days : MethodName := ⟨RX12, "days", "(I)I"⟩
abbrev cX12_seed : ByteArray := prog_14_method_100_code
def yX12_seed : MethodName := ⟨RX12, "seed", "(I)I"⟩
abbrev cX12_copies : ByteArray := prog_14_method_101_code
def yX12_copies : MethodName := ⟨RX12, "copies", "([I[II)V"⟩
abbrev cX12_copiesRows : ByteArray := prog_14_method_102_code
def yX12_copiesRows : MethodName := ⟨RX12, "copiesRows", "([[I[II[[I[I)V"⟩
abbrev cX12_image : ByteArray := prog_14_method_103_code
def yX12_image : MethodName := ⟨RX12, "image", "()I"⟩
abbrev cX12_back : ByteArray := prog_14_method_104_code
def yX12_back : MethodName := ⟨RX12, "back", "()I"⟩
abbrev cX12_status : ByteArray := prog_14_method_105_code
def yX12_status : MethodName := ⟨RX12, "status", "(I)I"⟩
def RJx145de : String := "java/io/Serializable"
def TJx145de : u_T := fun k => match k with
  | _ => ("", "", "", false)
def tyJx145de : Nat → FieldType := fun k => match k with
  | _ => .int
abbrev wsJx145de0 : List Cond := u_ws RJx145de TJx145de 0
theorem nmJx145de : ∀ a, a < 0 → ∀ b, b < 0 → a ≠ b → (TJx145de a).2.1 ≠ (TJx145de b).2.1 := by decide +kernel
theorem tyJx145de_ok : ∀ k, k < 0 → parseFieldDescriptor (TJx145de k).2.2.1 = some (tyJx145de k) := by decide +kernel
def RJx8e188 : String := "java/lang/Cloneable"
def TJx8e188 : u_T := fun k => match k with
  | _ => ("", "", "", false)
def tyJx8e188 : Nat → FieldType := fun k => match k with
  | _ => .int
abbrev wsJx8e1880 : List Cond := u_ws RJx8e188 TJx8e188 0
theorem nmJx8e188 : ∀ a, a < 0 → ∀ b, b < 0 → a ≠ b → (TJx8e188 a).2.1 ≠ (TJx8e188 b).2.1 := by decide +kernel
theorem tyJx8e188_ok : ∀ k, k < 0 → parseFieldDescriptor (TJx8e188 k).2.2.1 = some (tyJx8e188 k) := by decide +kernel
def RJ6 : String := "java/lang/Integer"
def TJ6 : u_T := fun k => match k with
  | _ => ("", "", "", false)
def tyJ6 : Nat → FieldType := fun k => match k with
  | _ => .int
abbrev wsJ60 : List Cond := u_ws RJ6 TJ6 0
theorem nmJ6 : ∀ a, a < 0 → ∀ b, b < 0 → a ≠ b → (TJ6 a).2.1 ≠ (TJ6 b).2.1 := by decide +kernel
theorem tyJ6_ok : ∀ k, k < 0 → parseFieldDescriptor (TJ6 k).2.2.1 = some (tyJ6 k) := by decide +kernel
abbrev cJ6_bitCount_0f7a4 : ByteArray := prog_17_method_49_code
def yJ6_bitCount_0f7a4 : MethodName := ⟨RJ6, "bitCount", "(I)I"⟩
def RJxab1ab : String := "java/lang/Iterable"
def TJxab1ab : u_T := fun k => match k with
  | _ => ("", "", "", false)
def tyJxab1ab : Nat → FieldType := fun k => match k with
  | _ => .int
abbrev wsJxab1ab0 : List Cond := u_ws RJxab1ab TJxab1ab 0
theorem nmJxab1ab : ∀ a, a < 0 → ∀ b, b < 0 → a ≠ b → (TJxab1ab a).2.1 ≠ (TJxab1ab b).2.1 := by decide +kernel
theorem tyJxab1ab_ok : ∀ k, k < 0 → parseFieldDescriptor (TJxab1ab k).2.2.1 = some (tyJxab1ab k) := by decide +kernel
def RJ9 : String := "java/lang/Math"
def TJ9 : u_T := fun k => match k with
  | _ => ("", "", "", false)
def tyJ9 : Nat → FieldType := fun k => match k with
  | _ => .int
abbrev wsJ90 : List Cond := u_ws RJ9 TJ9 0
theorem nmJ9 : ∀ a, a < 0 → ∀ b, b < 0 → a ≠ b → (TJ9 a).2.1 ≠ (TJ9 b).2.1 := by decide +kernel
theorem tyJ9_ok : ∀ k, k < 0 → parseFieldDescriptor (TJ9 k).2.2.1 = some (tyJ9 k) := by decide +kernel
abbrev cJ9_max_7cf53 : ByteArray := prog_19_method_65_code
def yJ9_max_7cf53 : MethodName := ⟨RJ9, "max", "(II)I"⟩
abbrev cJ9_min_7cf53 : ByteArray := prog_19_method_69_code
def yJ9_min_7cf53 : MethodName := ⟨RJ9, "min", "(II)I"⟩
abbrev cJ9_min_f86c9 : ByteArray := prog_19_method_70_code
def yJ9_min_f86c9 : MethodName := ⟨RJ9, "min", "(JJ)J"⟩
def RJ10 : String := "java/lang/System"
def TJ10 : u_T := fun k => match k with
  | _ => ("", "", "", false)
def tyJ10 : Nat → FieldType := fun k => match k with
  | _ => .int
abbrev wsJ100 : List Cond := u_ws RJ10 TJ10 0
theorem nmJ10 : ∀ a, a < 0 → ∀ b, b < 0 → a ≠ b → (TJ10 a).2.1 ≠ (TJ10 b).2.1 := by decide +kernel
theorem tyJ10_ok : ∀ k, k < 0 → parseFieldDescriptor (TJ10 k).2.2.1 = some (tyJ10 k) := by decide +kernel
def RJxa1e45 : String := "java/util/AbstractCollection"
def TJxa1e45 : u_T := fun k => match k with
  | _ => ("", "", "", false)
def tyJxa1e45 : Nat → FieldType := fun k => match k with
  | _ => .int
abbrev wsJxa1e450 : List Cond := u_ws RJxa1e45 TJxa1e45 0
theorem nmJxa1e45 : ∀ a, a < 0 → ∀ b, b < 0 → a ≠ b → (TJxa1e45 a).2.1 ≠ (TJxa1e45 b).2.1 := by decide +kernel
theorem tyJxa1e45_ok : ∀ k, k < 0 → parseFieldDescriptor (TJxa1e45 k).2.2.1 = some (tyJxa1e45 k) := by decide +kernel
abbrev cJxa1e45_init_da8c8 : ByteArray := prog_21_method_1_code
def yJxa1e45_init_da8c8 : MethodName := ⟨RJxa1e45, "<init>", "()V"⟩
def RJxc12de : String := "java/util/AbstractList"
def TJxc12de : u_T := fun k => match k with
  | _ => ("", "", "", false)
def tyJxc12de : Nat → FieldType := fun k => match k with
  | _ => .int
abbrev wsJxc12de0 : List Cond := u_ws RJxc12de TJxc12de 0
theorem nmJxc12de : ∀ a, a < 0 → ∀ b, b < 0 → a ≠ b → (TJxc12de a).2.1 ≠ (TJxc12de b).2.1 := by decide +kernel
theorem tyJxc12de_ok : ∀ k, k < 0 → parseFieldDescriptor (TJxc12de k).2.2.1 = some (tyJxc12de k) := by decide +kernel
abbrev cJxc12de_init_da8c8 : ByteArray := prog_22_method_1_code
def yJxc12de_init_da8c8 : MethodName := ⟨RJxc12de, "<init>", "()V"⟩
def RJx4a65c : String := "java/util/ArrayList"
def TJx4a65c : u_T := fun k => match k with
  | 0 => ("java/util/AbstractList", "modCount", "I", false)
  | 1 => ("java/util/ArrayList", "elementData", "[Ljava/lang/Object;", false)
  | _ => ("java/util/ArrayList", "size", "I", false)
def tyJx4a65c : Nat → FieldType := fun k => match k with
  | 0 => .int
  | 1 => .array (.object "java/lang/Object")
  | _ => .int
abbrev wsJx4a65c0 : List Cond := u_ws RJx4a65c TJx4a65c 3
theorem nmJx4a65c : ∀ a, a < 3 → ∀ b, b < 3 → a ≠ b → (TJx4a65c a).2.1 ≠ (TJx4a65c b).2.1 := by decide +kernel
theorem tyJx4a65c_ok : ∀ k, k < 3 → parseFieldDescriptor (TJx4a65c k).2.2.1 = some (tyJx4a65c k) := by decide +kernel
abbrev cJx4a65c_init_da8c8 : ByteArray := prog_23_method_2_code
def yJx4a65c_init_da8c8 : MethodName := ⟨RJx4a65c, "<init>", "()V"⟩
abbrev cJx4a65c_grow_92f84 : ByteArray := prog_23_method_6_code
def yJx4a65c_grow_92f84 : MethodName := ⟨RJx4a65c, "grow", "(I)[Ljava/lang/Object;"⟩
abbrev cJx4a65c_grow_d5877 : ByteArray := prog_23_method_7_code
def yJx4a65c_grow_d5877 : MethodName := ⟨RJx4a65c, "grow", "()[Ljava/lang/Object;"⟩
abbrev cJx4a65c_size_8abf5 : ByteArray := prog_23_method_8_code
def yJx4a65c_size_8abf5 : MethodName := ⟨RJx4a65c, "size", "()I"⟩
abbrev cJx4a65c_elementData_915e3 : ByteArray := prog_23_method_18_code
def yJx4a65c_elementData_915e3 : MethodName := ⟨RJx4a65c, "elementData", "(I)Ljava/lang/Object;"⟩
abbrev cJx4a65c_get_915e3 : ByteArray := prog_23_method_20_code
def yJx4a65c_get_915e3 : MethodName := ⟨RJx4a65c, "get", "(I)Ljava/lang/Object;"⟩
abbrev cJx4a65c_add_72be8 : ByteArray := prog_23_method_24_code
def yJx4a65c_add_72be8 : MethodName := ⟨RJx4a65c, "add", "(Ljava/lang/Object;[Ljava/lang/Object;I)V"⟩
abbrev cJx4a65c_add_9ea2d : ByteArray := prog_23_method_25_code
def yJx4a65c_add_9ea2d : MethodName := ⟨RJx4a65c, "add", "(Ljava/lang/Object;)Z"⟩
def RJ7 : String := "java/util/Arrays"
def TJ7 : u_T := fun k => match k with
  | _ => ("", "", "", false)
def tyJ7 : Nat → FieldType := fun k => match k with
  | _ => .int
abbrev wsJ70 : List Cond := u_ws RJ7 TJ7 0
theorem nmJ7 : ∀ a, a < 0 → ∀ b, b < 0 → a ≠ b → (TJ7 a).2.1 ≠ (TJ7 b).2.1 := by decide +kernel
theorem tyJ7_ok : ∀ k, k < 0 → parseFieldDescriptor (TJ7 k).2.2.1 = some (tyJ7 k) := by decide +kernel
abbrev cJ7_fill_d0a16 : ByteArray := prog_24_method_101_code
def yJ7_fill_d0a16 : MethodName := ⟨RJ7, "fill", "([JJ)V"⟩
abbrev cJ7_fill_53178 : ByteArray := prog_24_method_103_code
def yJ7_fill_53178 : MethodName := ⟨RJ7, "fill", "([II)V"⟩
abbrev cJ7_copyOf_1904c : ByteArray := prog_24_method_119_code
def yJ7_copyOf_1904c : MethodName := ⟨RJ7, "copyOf", "([Ljava/lang/Object;I)[Ljava/lang/Object;"⟩
abbrev cJ7_copyOf_6403c : ByteArray := prog_24_method_120_code
def yJ7_copyOf_6403c : MethodName := ⟨RJ7, "copyOf", "([Ljava/lang/Object;ILjava/lang/Class;)[Ljava/lang/Object;"⟩
abbrev cJ7_copyOf_59c91 : ByteArray := prog_24_method_123_code
def yJ7_copyOf_59c91 : MethodName := ⟨RJ7, "copyOf", "([II)[I"⟩
abbrev cJ7_copyOf_c38d5 : ByteArray := prog_24_method_124_code
def yJ7_copyOf_c38d5 : MethodName := ⟨RJ7, "copyOf", "([JI)[J"⟩
def RJx5ef63 : String := "java/util/Collection"
def TJx5ef63 : u_T := fun k => match k with
  | _ => ("", "", "", false)
def tyJx5ef63 : Nat → FieldType := fun k => match k with
  | _ => .int
abbrev wsJx5ef630 : List Cond := u_ws RJx5ef63 TJx5ef63 0
theorem nmJx5ef63 : ∀ a, a < 0 → ∀ b, b < 0 → a ≠ b → (TJx5ef63 a).2.1 ≠ (TJx5ef63 b).2.1 := by decide +kernel
theorem tyJx5ef63_ok : ∀ k, k < 0 → parseFieldDescriptor (TJx5ef63 k).2.2.1 = some (tyJx5ef63 k) := by decide +kernel
def RJxbd725 : String := "java/util/List"
def TJxbd725 : u_T := fun k => match k with
  | _ => ("", "", "", false)
def tyJxbd725 : Nat → FieldType := fun k => match k with
  | _ => .int
abbrev wsJxbd7250 : List Cond := u_ws RJxbd725 TJxbd725 0
theorem nmJxbd725 : ∀ a, a < 0 → ∀ b, b < 0 → a ≠ b → (TJxbd725 a).2.1 ≠ (TJxbd725 b).2.1 := by decide +kernel
theorem tyJxbd725_ok : ∀ k, k < 0 → parseFieldDescriptor (TJxbd725 k).2.2.1 = some (tyJxbd725 k) := by decide +kernel
def RJ15 : String := "java/util/Objects"
def TJ15 : u_T := fun k => match k with
  | _ => ("", "", "", false)
def tyJ15 : Nat → FieldType := fun k => match k with
  | _ => .int
abbrev wsJ150 : List Cond := u_ws RJ15 TJ15 0
theorem nmJ15 : ∀ a, a < 0 → ∀ b, b < 0 → a ≠ b → (TJ15 a).2.1 ≠ (TJ15 b).2.1 := by decide +kernel
theorem tyJ15_ok : ∀ k, k < 0 → parseFieldDescriptor (TJ15 k).2.2.1 = some (tyJ15 k) := by decide +kernel
abbrev cJ15_checkIndex_7cf53 : ByteArray := prog_27_method_17_code
def yJ15_checkIndex_7cf53 : MethodName := ⟨RJ15, "checkIndex", "(II)I"⟩
def RJxf0a74 : String := "java/util/RandomAccess"
def TJxf0a74 : u_T := fun k => match k with
  | _ => ("", "", "", false)
def tyJxf0a74 : Nat → FieldType := fun k => match k with
  | _ => .int
abbrev wsJxf0a740 : List Cond := u_ws RJxf0a74 TJxf0a74 0
theorem nmJxf0a74 : ∀ a, a < 0 → ∀ b, b < 0 → a ≠ b → (TJxf0a74 a).2.1 ≠ (TJxf0a74 b).2.1 := by decide +kernel
theorem tyJxf0a74_ok : ∀ k, k < 0 → parseFieldDescriptor (TJxf0a74 k).2.2.1 = some (tyJxf0a74 k) := by decide +kernel
def RJxa66e6 : String := "java/util/SequencedCollection"
def TJxa66e6 : u_T := fun k => match k with
  | _ => ("", "", "", false)
def tyJxa66e6 : Nat → FieldType := fun k => match k with
  | _ => .int
abbrev wsJxa66e60 : List Cond := u_ws RJxa66e6 TJxa66e6 0
theorem nmJxa66e6 : ∀ a, a < 0 → ∀ b, b < 0 → a ≠ b → (TJxa66e6 a).2.1 ≠ (TJxa66e6 b).2.1 := by decide +kernel
theorem tyJxa66e6_ok : ∀ k, k < 0 → parseFieldDescriptor (TJxa66e6 k).2.2.1 = some (tyJxa66e6 k) := by decide +kernel
def RJ8 : String := "jdk/internal/util/ArraysSupport"
def TJ8 : u_T := fun k => match k with
  | _ => ("", "", "", false)
def tyJ8 : Nat → FieldType := fun k => match k with
  | _ => .int
abbrev wsJ80 : List Cond := u_ws RJ8 TJ8 0
theorem nmJ8 : ∀ a, a < 0 → ∀ b, b < 0 → a ≠ b → (TJ8 a).2.1 ≠ (TJ8 b).2.1 := by decide +kernel
theorem tyJ8_ok : ∀ k, k < 0 → parseFieldDescriptor (TJ8 k).2.2.1 = some (tyJ8 k) := by decide +kernel
abbrev cJ8_newLength_cabcc : ByteArray := prog_30_method_27_code
def yJ8_newLength_cabcc : MethodName := ⟨RJ8, "newLength", "(III)I"⟩
abbrev cJ8_hugeLength_7cf53 : ByteArray := prog_30_method_28_code
def yJ8_hugeLength_7cf53 : MethodName := ⟨RJ8, "hugeLength", "(II)I"⟩
def RJ3 : String := "jdk/internal/util/Preconditions"
def TJ3 : u_T := fun k => match k with
  | _ => ("", "", "", false)
def tyJ3 : Nat → FieldType := fun k => match k with
  | _ => .int
abbrev wsJ30 : List Cond := u_ws RJ3 TJ3 0
theorem nmJ3 : ∀ a, a < 0 → ∀ b, b < 0 → a ≠ b → (TJ3 a).2.1 ≠ (TJ3 b).2.1 := by decide +kernel
theorem tyJ3_ok : ∀ k, k < 0 → parseFieldDescriptor (TJ3 k).2.2.1 = some (tyJ3 k) := by decide +kernel
abbrev cJ3_checkIndex_8e157 : ByteArray := prog_31_method_11_code
def yJ3_checkIndex_8e157 : MethodName := ⟨RJ3, "checkIndex", "(IILjava/util/function/BiFunction;)I"⟩
def RL : String := "EditsMeetLaw"
abbrev cL_law : ByteArray := code
def yL_law : MethodName := ⟨RL, "law", "([I)Z"⟩
