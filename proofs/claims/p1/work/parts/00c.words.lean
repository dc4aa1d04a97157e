def xTs : List Cond := lw_tbl.filter goodWord
theorem xTm {w : Cond} (i : Nat) (h : lw_tbl[i]? = some w) (g : goodWord w = true) : w ∈ xTs := List.mem_filter.mpr ⟨List.mem_of_getElem? h, g⟩
theorem xT_1 {w : Cond} (i : Nat) (h : tables_1_1[i]? = some w) (g : goodWord w = true) : w ∈ xTs := List.mem_filter.mpr ⟨List.mem_append_right _ (by have q := List.mem_of_getElem? h; exact List.mem_append_left _ q), g⟩
theorem xT_2 {w : Cond} (i : Nat) (h : tables_1_2[i]? = some w) (g : goodWord w = true) : w ∈ xTs := List.mem_filter.mpr ⟨List.mem_append_right _ (by have q := List.mem_of_getElem? h; exact List.mem_append_right _ (List.mem_append_left _ q)), g⟩
theorem xT_3 {w : Cond} (i : Nat) (h : tables_1_3[i]? = some w) (g : goodWord w = true) : w ∈ xTs := List.mem_filter.mpr ⟨List.mem_append_right _ (by have q := List.mem_of_getElem? h; exact List.mem_append_right _ (List.mem_append_right _ (List.mem_append_left _ q))), g⟩
theorem xT_4 {w : Cond} (i : Nat) (h : tables_1_4[i]? = some w) (g : goodWord w = true) : w ∈ xTs := List.mem_filter.mpr ⟨List.mem_append_right _ (by have q := List.mem_of_getElem? h; exact List.mem_append_right _ (List.mem_append_right _ (List.mem_append_right _ (List.mem_append_left _ q)))), g⟩
theorem xT_5 {w : Cond} (i : Nat) (h : tables_1_5[i]? = some w) (g : goodWord w = true) : w ∈ xTs := List.mem_filter.mpr ⟨List.mem_append_right _ (by have q := List.mem_of_getElem? h; exact List.mem_append_right _ (List.mem_append_right _ (List.mem_append_right _ (List.mem_append_right _ (List.mem_append_left _ q))))), g⟩
theorem xT_6 {w : Cond} (i : Nat) (h : tables_1_6[i]? = some w) (g : goodWord w = true) : w ∈ xTs := List.mem_filter.mpr ⟨List.mem_append_right _ (by have q := List.mem_of_getElem? h; exact List.mem_append_right _ (List.mem_append_right _ (List.mem_append_right _ (List.mem_append_right _ (List.mem_append_right _ (List.mem_append_left _ q)))))), g⟩
theorem xT_7 {w : Cond} (i : Nat) (h : tables_1_7[i]? = some w) (g : goodWord w = true) : w ∈ xTs := List.mem_filter.mpr ⟨List.mem_append_right _ (by have q := List.mem_of_getElem? h; exact List.mem_append_right _ (List.mem_append_right _ (List.mem_append_right _ (List.mem_append_right _ (List.mem_append_right _ (List.mem_append_right _ (List.mem_append_left _ q))))))), g⟩
theorem xT_8 {w : Cond} (i : Nat) (h : tables_1_8[i]? = some w) (g : goodWord w = true) : w ∈ xTs := List.mem_filter.mpr ⟨List.mem_append_right _ (by have q := List.mem_of_getElem? h; exact List.mem_append_right _ (List.mem_append_right _ (List.mem_append_right _ (List.mem_append_right _ (List.mem_append_right _ (List.mem_append_right _ (List.mem_append_right _ (List.mem_append_left _ q)))))))), g⟩
theorem xT_9 {w : Cond} (i : Nat) (h : tables_1_9[i]? = some w) (g : goodWord w = true) : w ∈ xTs := List.mem_filter.mpr ⟨List.mem_append_right _ (by have q := List.mem_of_getElem? h; exact List.mem_append_right _ (List.mem_append_right _ (List.mem_append_right _ (List.mem_append_right _ (List.mem_append_right _ (List.mem_append_right _ (List.mem_append_right _ (List.mem_append_right _ (List.mem_append_left _ q))))))))), g⟩
theorem xT_10 {w : Cond} (i : Nat) (h : tables_1_10[i]? = some w) (g : goodWord w = true) : w ∈ xTs := List.mem_filter.mpr ⟨List.mem_append_right _ (by have q := List.mem_of_getElem? h; exact List.mem_append_right _ (List.mem_append_right _ (List.mem_append_right _ (List.mem_append_right _ (List.mem_append_right _ (List.mem_append_right _ (List.mem_append_right _ (List.mem_append_right _ (List.mem_append_right _ (q)))))))))), g⟩
theorem xT_0 {w : Cond} (i : Nat) (h : (k2_sels lw_privs)[i]? = some w) (g : goodWord w = true) : w ∈ xTs := List.mem_filter.mpr ⟨List.mem_append_left _ (List.mem_of_getElem? h), g⟩
theorem w_0 : Cond.selects "java/util/ArrayList" ⟨"java/util/ArrayList", "add", "(Ljava/lang/Object;[Ljava/lang/Object;I)V"⟩ ⟨"java/util/ArrayList", "add", "(Ljava/lang/Object;[Ljava/lang/Object;I)V"⟩ ∈ xTs := xT_0 0 (by rfl) rfl
theorem w_1 : Cond.selects "java/util/ArrayList" ⟨"java/util/ArrayList", "grow", "()[Ljava/lang/Object;"⟩ ⟨"java/util/ArrayList", "grow", "()[Ljava/lang/Object;"⟩ ∈ xTs := xT_0 1 (by rfl) rfl
theorem w_2 : Cond.selects "java/util/ArrayList" ⟨"java/util/ArrayList", "grow", "(I)[Ljava/lang/Object;"⟩ ⟨"java/util/ArrayList", "grow", "(I)[Ljava/lang/Object;"⟩ ∈ xTs := xT_0 2 (by rfl) rfl
theorem w_3 : Cond.selects "EditsMeet" ⟨"EditsMeet", "shelfAt", "(I)LEditsMeet$Shelf;"⟩ ⟨"EditsMeet", "shelfAt", "(I)LEditsMeet$Shelf;"⟩ ∈ xTs := xT_0 3 (by rfl) rfl
theorem w_4 : Cond.selects "EditsMeet" ⟨"EditsMeet", "refuse", "(I)I"⟩ ⟨"EditsMeet", "refuse", "(I)I"⟩ ∈ xTs := xT_0 4 (by rfl) rfl
theorem w_6 : Cond.selects "EditsMeet" ⟨"EditsMeet", "isEdit", "(I)Z"⟩ ⟨"EditsMeet", "isEdit", "(I)Z"⟩ ∈ xTs := xT_0 6 (by rfl) rfl
theorem w_7 : Cond.selects "EditsMeet" ⟨"EditsMeet", "fetched", "(I)I"⟩ ⟨"EditsMeet", "fetched", "(I)I"⟩ ∈ xTs := xT_0 7 (by rfl) rfl
theorem w_8 : Cond.selects "EditsMeet$Works" ⟨"EditsMeet$Works", "spare", "()I"⟩ ⟨"EditsMeet$Works", "spare", "()I"⟩ ∈ xTs := xT_0 8 (by rfl) rfl
theorem w_15 : Cond.selects "EditsMeet$Trees" ⟨"EditsMeet$Trees", "knownAt", "(I)I"⟩ ⟨"EditsMeet$Trees", "knownAt", "(I)I"⟩ ∈ xTs := xT_0 15 (by rfl) rfl
theorem w_16 : Cond.selects "EditsMeet$Trees" ⟨"EditsMeet$Trees", "know", "(II)V"⟩ ⟨"EditsMeet$Trees", "know", "(II)V"⟩ ∈ xTs := xT_0 16 (by rfl) rfl
theorem w_17 : Cond.selects "EditsMeet$Loom" ⟨"EditsMeet$Loom", "beginTask", "(I)V"⟩ ⟨"EditsMeet$Loom", "beginTask", "(I)V"⟩ ∈ xTs := xT_0 17 (by rfl) rfl
theorem w_18 : Cond.selects "EditsMeet$Loom" ⟨"EditsMeet$Loom", "push", "(II)V"⟩ ⟨"EditsMeet$Loom", "push", "(II)V"⟩ ∈ xTs := xT_0 18 (by rfl) rfl
theorem w_19 : Cond.selects "EditsMeet$Loom" ⟨"EditsMeet$Loom", "atOnce", "(III)I"⟩ ⟨"EditsMeet$Loom", "atOnce", "(III)I"⟩ ∈ xTs := xT_0 19 (by rfl) rfl
theorem w_20 : Cond.selects "EditsMeet$Trees" ⟨"EditsMeet$Trees", "made", "(JJJ)I"⟩ ⟨"EditsMeet$Trees", "made", "(JJJ)I"⟩ ∈ xTs := xT_0 20 (by rfl) rfl
theorem w_21 : Cond.selects "EditsMeet$Trees" ⟨"EditsMeet$Trees", "spare", "()I"⟩ ⟨"EditsMeet$Trees", "spare", "()I"⟩ ∈ xTs := xT_0 21 (by rfl) rfl
theorem w_22 : Cond.selects "EditsMeet$Trees" ⟨"EditsMeet$Trees", "putSize", "(IJJ)Z"⟩ ⟨"EditsMeet$Trees", "putSize", "(IJJ)Z"⟩ ∈ xTs := xT_0 22 (by rfl) rfl
theorem w_23 : Cond.selects "EditsMeet$Seam" ⟨"EditsMeet$Seam", "putAhead", "(LEditsMeet$Edge;I)V"⟩ ⟨"EditsMeet$Seam", "putAhead", "(LEditsMeet$Edge;I)V"⟩ ∈ xTs := xT_0 23 (by rfl) rfl
theorem w_24 : Cond.selects "EditsMeet$Seam" ⟨"EditsMeet$Seam", "putBehind", "(LEditsMeet$Edge;I)V"⟩ ⟨"EditsMeet$Seam", "putBehind", "(LEditsMeet$Edge;I)V"⟩ ∈ xTs := xT_0 24 (by rfl) rfl
theorem w_25 : Cond.selects "EditsMeet$Loom" ⟨"EditsMeet$Loom", "remembered", "(II)I"⟩ ⟨"EditsMeet$Loom", "remembered", "(II)I"⟩ ∈ xTs := xT_0 25 (by rfl) rfl
theorem w_26 : Cond.selects "EditsMeet$Loom" ⟨"EditsMeet$Loom", "keyOf", "(II)J"⟩ ⟨"EditsMeet$Loom", "keyOf", "(II)J"⟩ ∈ xTs := xT_0 26 (by rfl) rfl
theorem w_27 : Cond.selects "EditsMeet$Loom" ⟨"EditsMeet$Loom", "leafByLeaf", "(III)I"⟩ ⟨"EditsMeet$Loom", "leafByLeaf", "(III)I"⟩ ∈ xTs := xT_0 27 (by rfl) rfl
theorem w_28 : Cond.selects "EditsMeet$Loom" ⟨"EditsMeet$Loom", "flatten", "(ILEditsMeet$Edge;)V"⟩ ⟨"EditsMeet$Loom", "flatten", "(ILEditsMeet$Edge;)V"⟩ ∈ xTs := xT_0 28 (by rfl) rfl
theorem w_29 : Cond.selects "EditsMeet$Loom" ⟨"EditsMeet$Loom", "remember", "(III)V"⟩ ⟨"EditsMeet$Loom", "remember", "(III)V"⟩ ∈ xTs := xT_0 29 (by rfl) rfl
theorem w_34 : Cond.selects "EditsMeet$Teller" ⟨"EditsMeet$Teller", "sum", "(I)J"⟩ ⟨"EditsMeet$Teller", "sum", "(I)J"⟩ ∈ xTs := xT_0 34 (by rfl) rfl
theorem w_35 : Cond.selects "EditsMeet$Teller" ⟨"EditsMeet$Teller", "atHand", "(I)J"⟩ ⟨"EditsMeet$Teller", "atHand", "(I)J"⟩ ∈ xTs := xT_0 35 (by rfl) rfl
theorem w_54 : Cond.selects "EditsMeet$Client" ⟨"EditsMeet$Client", "drop", "(I)V"⟩ ⟨"EditsMeet$Client", "drop", "(I)V"⟩ ∈ xTs := xT_0 54 (by rfl) rfl
theorem w_55 : Cond.selects "EditsMeet$Client" ⟨"EditsMeet$Client", "putCount", "(II)V"⟩ ⟨"EditsMeet$Client", "putCount", "(II)V"⟩ ∈ xTs := xT_0 55 (by rfl) rfl
theorem w_56 : Cond.selects "EditsMeet$Client" ⟨"EditsMeet$Client", "keep", "(II)V"⟩ ⟨"EditsMeet$Client", "keep", "(II)V"⟩ ∈ xTs := xT_0 56 (by rfl) rfl
theorem w_57 : Cond.selects "EditsMeet$Client" ⟨"EditsMeet$Client", "movePlaces", "(IZ)V"⟩ ⟨"EditsMeet$Client", "movePlaces", "(IZ)V"⟩ ∈ xTs := xT_0 57 (by rfl) rfl
theorem w_58 : Cond.selects "EditsMeet" ⟨"EditsMeet", "hasNoRoom", "(LEditsMeet$Client;)Z"⟩ ⟨"EditsMeet", "hasNoRoom", "(LEditsMeet$Client;)Z"⟩ ∈ xTs := xT_0 58 (by rfl) rfl
theorem w_59 : Cond.selects "EditsMeet$Client" ⟨"EditsMeet$Client", "sendWaiting", "()V"⟩ ⟨"EditsMeet$Client", "sendWaiting", "()V"⟩ ∈ xTs := xT_0 59 (by rfl) rfl
theorem w_60 : Cond.selects "EditsMeet$Client" ⟨"EditsMeet$Client", "passedAt", "(I)I"⟩ ⟨"EditsMeet$Client", "passedAt", "(I)I"⟩ ∈ xTs := xT_0 60 (by rfl) rfl
theorem w_61 : Cond.selects "EditsMeet" ⟨"EditsMeet", "canBe", "(LEditsMeet$Client;I)Z"⟩ ⟨"EditsMeet", "canBe", "(LEditsMeet$Client;I)Z"⟩ ∈ xTs := xT_0 61 (by rfl) rfl
theorem w_62 : Cond.selects "EditsMeet" ⟨"EditsMeet", "draftByDraws", "(LEditsMeet$Client;I)V"⟩ ⟨"EditsMeet", "draftByDraws", "(LEditsMeet$Client;I)V"⟩ ∈ xTs := xT_0 62 (by rfl) rfl
theorem w_63 : Cond.selects "EditsMeet" ⟨"EditsMeet", "editsByNumber", "()I"⟩ ⟨"EditsMeet", "editsByNumber", "()I"⟩ ∈ xTs := xT_0 63 (by rfl) rfl
theorem w_64 : Cond.selects "EditsMeet" ⟨"EditsMeet", "shelvesInUse", "()I"⟩ ⟨"EditsMeet", "shelvesInUse", "()I"⟩ ∈ xTs := xT_0 64 (by rfl) rfl
theorem w_65 : Cond.selects "EditsMeetModel" ⟨"EditsMeetModel", "refused", "(I)I"⟩ ⟨"EditsMeetModel", "refused", "(I)I"⟩ ∈ xTs := xT_0 65 (by rfl) rfl
theorem w_66 : Cond.selects "EditsMeetModel" ⟨"EditsMeetModel", "isPart", "()Z"⟩ ⟨"EditsMeetModel", "isPart", "()Z"⟩ ∈ xTs := xT_0 66 (by rfl) rfl
theorem w_67 : Cond.selects "EditsMeetModel" ⟨"EditsMeetModel", "byteAt", "(I)I"⟩ ⟨"EditsMeetModel", "byteAt", "(I)I"⟩ ∈ xTs := xT_0 67 (by rfl) rfl
theorem w_68 : Cond.selects "EditsMeetModel" ⟨"EditsMeetModel", "adds", "(II)V"⟩ ⟨"EditsMeetModel", "adds", "(II)V"⟩ ∈ xTs := xT_0 68 (by rfl) rfl
theorem w_70 : Cond.selects "EditsMeetModel" ⟨"EditsMeetModel", "plain", "(I)V"⟩ ⟨"EditsMeetModel", "plain", "(I)V"⟩ ∈ xTs := xT_0 70 (by rfl) rfl
theorem w_72 : Cond.selects "EditsMeetModel" ⟨"EditsMeetModel", "keepsRow", "(II)V"⟩ ⟨"EditsMeetModel", "keepsRow", "(II)V"⟩ ∈ xTs := xT_0 72 (by rfl) rfl
theorem w_74 : Cond.selects "EditsMeetModel" ⟨"EditsMeetModel", "isKept", "(I)Z"⟩ ⟨"EditsMeetModel", "isKept", "(I)Z"⟩ ∈ xTs := xT_0 74 (by rfl) rfl
theorem w_82 : Cond.selects "EditsMeetModel" ⟨"EditsMeetModel", "takesRow", "(II)V"⟩ ⟨"EditsMeetModel", "takesRow", "(II)V"⟩ ∈ xTs := xT_0 82 (by rfl) rfl
theorem w_83 : Cond.selects "EditsMeetModel" ⟨"EditsMeetModel", "behindRow", "(III)V"⟩ ⟨"EditsMeetModel", "behindRow", "(III)V"⟩ ∈ xTs := xT_0 83 (by rfl) rfl
theorem w_84 : Cond.selects "EditsMeetModel" ⟨"EditsMeetModel", "together", "(III)V"⟩ ⟨"EditsMeetModel", "together", "(III)V"⟩ ∈ xTs := xT_0 84 (by rfl) rfl
theorem w_87 : Cond.selects "EditsMeetModel" ⟨"EditsMeetModel", "overRow", "(IIII)V"⟩ ⟨"EditsMeetModel", "overRow", "(IIII)V"⟩ ∈ xTs := xT_0 87 (by rfl) rfl
theorem w_88 : Cond.selects "EditsMeetModel" ⟨"EditsMeetModel", "overOne", "(IIII)V"⟩ ⟨"EditsMeetModel", "overOne", "(IIII)V"⟩ ∈ xTs := xT_0 88 (by rfl) rfl
theorem w_89 : Cond.selects "EditsMeetModel" ⟨"EditsMeetModel", "turnedRow", "(III)V"⟩ ⟨"EditsMeetModel", "turnedRow", "(III)V"⟩ ∈ xTs := xT_0 89 (by rfl) rfl
theorem w_90 : Cond.selects "EditsMeetModel" ⟨"EditsMeetModel", "isFull", "(II)Z"⟩ ⟨"EditsMeetModel", "isFull", "(II)Z"⟩ ∈ xTs := xT_0 90 (by rfl) rfl
theorem w_91 : Cond.selects "EditsMeetModel" ⟨"EditsMeetModel", "resultLength", "(I)I"⟩ ⟨"EditsMeetModel", "resultLength", "(I)I"⟩ ∈ xTs := xT_0 91 (by rfl) rfl
theorem w_92 : Cond.selects "EditsMeetModel" ⟨"EditsMeetModel", "done", "(IIZ)V"⟩ ⟨"EditsMeetModel", "done", "(IIZ)V"⟩ ∈ xTs := xT_0 92 (by rfl) rfl
theorem w_93 : Cond.selects "EditsMeetModel" ⟨"EditsMeetModel", "makes", "(II)V"⟩ ⟨"EditsMeetModel", "makes", "(II)V"⟩ ∈ xTs := xT_0 93 (by rfl) rfl
theorem w_94 : Cond.selects "EditsMeetModel" ⟨"EditsMeetModel", "cursorGoes", "(IIZ)V"⟩ ⟨"EditsMeetModel", "cursorGoes", "(IIZ)V"⟩ ∈ xTs := xT_0 94 (by rfl) rfl
theorem w_95 : Cond.selects "EditsMeetModel" ⟨"EditsMeetModel", "st", "(II)I"⟩ ⟨"EditsMeetModel", "st", "(II)I"⟩ ∈ xTs := xT_0 95 (by rfl) rfl
theorem w_96 : Cond.selects "EditsMeetModel" ⟨"EditsMeetModel", "goesAlong", "(IIZ)I"⟩ ⟨"EditsMeetModel", "goesAlong", "(IIZ)I"⟩ ∈ xTs := xT_0 96 (by rfl) rfl
theorem w_97 : Cond.selects "EditsMeetModel" ⟨"EditsMeetModel", "pushes", "(III)V"⟩ ⟨"EditsMeetModel", "pushes", "(III)V"⟩ ∈ xTs := xT_0 97 (by rfl) rfl
theorem w_98 : Cond.selects "EditsMeetModel" ⟨"EditsMeetModel", "copiesRow", "(II)V"⟩ ⟨"EditsMeetModel", "copiesRow", "(II)V"⟩ ∈ xTs := xT_0 98 (by rfl) rfl
theorem w_99 : Cond.selects "EditsMeetModel" ⟨"EditsMeetModel", "inserts", "(III)V"⟩ ⟨"EditsMeetModel", "inserts", "(III)V"⟩ ∈ xTs := xT_0 99 (by rfl) rfl
theorem w_100 : Cond.selects "EditsMeetModel" ⟨"EditsMeetModel", "isStretch", "(III)Z"⟩ ⟨"EditsMeetModel", "isStretch", "(III)Z"⟩ ∈ xTs := xT_0 100 (by rfl) rfl
theorem w_101 : Cond.selects "EditsMeetModel" ⟨"EditsMeetModel", "keepsAllBut", "(IIII)V"⟩ ⟨"EditsMeetModel", "keepsAllBut", "(IIII)V"⟩ ∈ xTs := xT_0 101 (by rfl) rfl
theorem w_102 : Cond.selects "EditsMeetModel" ⟨"EditsMeetModel", "serves", "(I)I"⟩ ⟨"EditsMeetModel", "serves", "(I)I"⟩ ∈ xTs := xT_0 102 (by rfl) rfl
theorem w_103 : Cond.selects "EditsMeetModel" ⟨"EditsMeetModel", "keepsWork", "(II)V"⟩ ⟨"EditsMeetModel", "keepsWork", "(II)V"⟩ ∈ xTs := xT_0 103 (by rfl) rfl
theorem w_104 : Cond.selects "EditsMeetModel" ⟨"EditsMeetModel", "hears", "(I)V"⟩ ⟨"EditsMeetModel", "hears", "(I)V"⟩ ∈ xTs := xT_0 104 (by rfl) rfl
theorem w_105 : Cond.selects "EditsMeetModel" ⟨"EditsMeetModel", "crosses", "(I)V"⟩ ⟨"EditsMeetModel", "crosses", "(I)V"⟩ ∈ xTs := xT_0 105 (by rfl) rfl
theorem w_106 : Cond.selects "EditsMeetModel" ⟨"EditsMeetModel", "hearAll", "()V"⟩ ⟨"EditsMeetModel", "hearAll", "()V"⟩ ∈ xTs := xT_0 106 (by rfl) rfl
theorem w_107 : Cond.selects "EditsMeetModel" ⟨"EditsMeetModel", "isAnySent", "()Z"⟩ ⟨"EditsMeetModel", "isAnySent", "()Z"⟩ ∈ xTs := xT_0 107 (by rfl) rfl
theorem w_108 : Cond.selects "EditsMeetModel" ⟨"EditsMeetModel", "again", "(II)I"⟩ ⟨"EditsMeetModel", "again", "(II)I"⟩ ∈ xTs := xT_0 108 (by rfl) rfl
theorem w_109 : Cond.selects "EditsMeetModel" ⟨"EditsMeetModel", "firstApart", "(II)I"⟩ ⟨"EditsMeetModel", "firstApart", "(II)I"⟩ ∈ xTs := xT_0 109 (by rfl) rfl
theorem w_110 : Cond.selects "EditsMeetModel" ⟨"EditsMeetModel", "draw", "(I)I"⟩ ⟨"EditsMeetModel", "draw", "(I)I"⟩ ∈ xTs := xT_0 110 (by rfl) rfl
theorem w_111 : Cond.selects "EditsMeetModel" ⟨"EditsMeetModel", "isDay", "(II)Z"⟩ ⟨"EditsMeetModel", "isDay", "(II)Z"⟩ ∈ xTs := xT_0 111 (by rfl) rfl
theorem w_113 : (Jvm.Cond.initialized "EditsMeet") ∈ xTs := xT_1 1 (by rfl) rfl
theorem w_114 : (Jvm.Cond.initialized "EditsMeet$Trees") ∈ xTs := xT_1 2 (by rfl) rfl
theorem w_115 : (Jvm.Cond.initialized "java/util/AbstractCollection") ∈ xTs := xT_1 3 (by rfl) rfl
theorem w_116 : (Jvm.Cond.initialized "java/util/AbstractList") ∈ xTs := xT_1 4 (by rfl) rfl
theorem w_117 : (Jvm.Cond.initialized "java/util/ArrayList") ∈ xTs := xT_1 5 (by rfl) rfl
theorem w_118 : (Jvm.Cond.initialized "EditsMeet$Works") ∈ xTs := xT_1 6 (by rfl) rfl
theorem w_119 : (Jvm.Cond.initialized "EditsMeet$Slots") ∈ xTs := xT_1 7 (by rfl) rfl
theorem w_120 : (Jvm.Cond.initialized "java/lang/Math") ∈ xTs := xT_1 8 (by rfl) rfl
theorem w_121 : (Jvm.Cond.initialized "jdk/internal/util/ArraysSupport") ∈ xTs := xT_1 9 (by rfl) rfl
theorem w_122 : (Jvm.Cond.initialized "java/util/Arrays") ∈ xTs := xT_1 10 (by rfl) rfl
theorem w_123 : (Jvm.Cond.initialized "java/lang/System") ∈ xTs := xT_1 11 (by rfl) rfl
theorem w_124 : (Jvm.Cond.initialized "EditsMeet$Teller") ∈ xTs := xT_1 12 (by rfl) rfl
theorem w_125 : (Jvm.Cond.initialized "EditsMeet$Edge") ∈ xTs := xT_1 13 (by rfl) rfl
theorem w_126 : (Jvm.Cond.initialized "EditsMeet$Loom") ∈ xTs := xT_1 14 (by rfl) rfl
theorem w_127 : (Jvm.Cond.initialized "EditsMeet$Seam") ∈ xTs := xT_1 15 (by rfl) rfl
theorem w_128 : (Jvm.Cond.initialized "EditsMeet$Tape") ∈ xTs := xT_1 16 (by rfl) rfl
theorem w_129 : (Jvm.Cond.initialized "EditsMeet$Client") ∈ xTs := xT_1 17 (by rfl) rfl
theorem w_130 : (Jvm.Cond.initialized "EditsMeet$Shelf") ∈ xTs := xT_1 18 (by rfl) rfl
theorem w_131 : (Jvm.Cond.initialized "EditsMeet$Meeting") ∈ xTs := xT_1 19 (by rfl) rfl
theorem w_132 : (Jvm.Cond.initialized "EditsMeetModel") ∈ xTs := xT_1 20 (by rfl) rfl
theorem w_136 : (Jvm.Cond.classLink "EditsMeetLaw" (7 : Nat) "EditsMeet") ∈ xTs := xT_1 24 (by rfl) rfl
theorem w_137 : (Jvm.Cond.instantiable "EditsMeet" (13 : Nat)) ∈ xTs := xT_1 25 (by rfl) rfl
theorem w_138 : (Jvm.Cond.methodLink "EditsMeetLaw" (9 : Nat) ({ cls := "EditsMeet", name := "<init>", desc := "()V" } : Jvm.MethodName)) ∈ xTs := xT_1 26 (by rfl) rfl
theorem w_139 : (Jvm.Cond.instanceMethod ({ cls := "EditsMeet", name := "<init>", desc := "()V" } : Jvm.MethodName)) ∈ xTs := xT_1 27 (by rfl) rfl
theorem w_140 : (Jvm.Cond.code ({ cls := "EditsMeet", name := "<init>", desc := "()V" } : Jvm.MethodName) prog_1_method_1_code (3 : Nat) (Option.none : Option Jvm.ClassFile.FieldType)) ∈ xTs := xT_1 28 (by rfl) rfl
theorem w_141 : (Jvm.Cond.methodLink "EditsMeet" (1 : Nat) ({ cls := "java/lang/Object", name := "<init>", desc := "()V" } : Jvm.MethodName)) ∈ xTs := xT_1 29 (by rfl) rfl
theorem w_142 : (Jvm.Cond.instanceMethod ({ cls := "java/lang/Object", name := "<init>", desc := "()V" } : Jvm.MethodName)) ∈ xTs := xT_1 30 (by rfl) rfl
theorem w_143 : (Jvm.Cond.code ({ cls := "java/lang/Object", name := "<init>", desc := "()V" } : Jvm.MethodName) object_method_1_code (1 : Nat) (Option.none : Option Jvm.ClassFile.FieldType)) ∈ xTs := xT_1 31 (by rfl) rfl
theorem w_144 : (Jvm.Cond.classLink "EditsMeet" (7 : Nat) "EditsMeet$Trees") ∈ xTs := xT_1 32 (by rfl) rfl
theorem w_145 : (Jvm.Cond.instantiable "EditsMeet$Trees" (16 : Nat)) ∈ xTs := xT_1 33 (by rfl) rfl
theorem w_146 : (Jvm.Cond.methodLink "EditsMeet" (9 : Nat) ({ cls := "EditsMeet$Trees", name := "<init>", desc := "()V" } : Jvm.MethodName)) ∈ xTs := xT_1 34 (by rfl) rfl
theorem w_147 : (Jvm.Cond.instanceMethod ({ cls := "EditsMeet$Trees", name := "<init>", desc := "()V" } : Jvm.MethodName)) ∈ xTs := xT_1 35 (by rfl) rfl
theorem w_148 : (Jvm.Cond.code ({ cls := "EditsMeet$Trees", name := "<init>", desc := "()V" } : Jvm.MethodName) prog_11_method_1_code (6 : Nat) (Option.none : Option Jvm.ClassFile.FieldType)) ∈ xTs := xT_1 36 (by rfl) rfl
theorem w_149 : (Jvm.Cond.methodLink "EditsMeet$Trees" (5 : Nat) ({ cls := "java/lang/Object", name := "<init>", desc := "()V" } : Jvm.MethodName)) ∈ xTs := xT_1 37 (by rfl) rfl
theorem w_150 : (Jvm.Cond.classLink "EditsMeet$Trees" (11 : Nat) "java/util/ArrayList") ∈ xTs := xT_1 38 (by rfl) rfl
theorem w_151 : (Jvm.Cond.instantiable "java/util/ArrayList" (3 : Nat)) ∈ xTs := xT_1 39 (by rfl) rfl
theorem w_152 : (Jvm.Cond.methodLink "EditsMeet$Trees" (13 : Nat) ({ cls := "java/util/ArrayList", name := "<init>", desc := "()V" } : Jvm.MethodName)) ∈ xTs := xT_1 40 (by rfl) rfl
theorem w_153 : (Jvm.Cond.instanceMethod ({ cls := "java/util/ArrayList", name := "<init>", desc := "()V" } : Jvm.MethodName)) ∈ xTs := xT_1 41 (by rfl) rfl
theorem w_154 : (Jvm.Cond.code ({ cls := "java/util/ArrayList", name := "<init>", desc := "()V" } : Jvm.MethodName) prog_23_method_2_code (1 : Nat) (Option.none : Option Jvm.ClassFile.FieldType)) ∈ xTs := xT_1 42 (by rfl) rfl
theorem w_155 : (Jvm.Cond.methodLink "java/util/ArrayList" (1 : Nat) ({ cls := "java/util/AbstractList", name := "<init>", desc := "()V" } : Jvm.MethodName)) ∈ xTs := xT_1 43 (by rfl) rfl
theorem w_156 : (Jvm.Cond.instanceMethod ({ cls := "java/util/AbstractList", name := "<init>", desc := "()V" } : Jvm.MethodName)) ∈ xTs := xT_1 44 (by rfl) rfl
theorem w_157 : (Jvm.Cond.code ({ cls := "java/util/AbstractList", name := "<init>", desc := "()V" } : Jvm.MethodName) prog_22_method_1_code (1 : Nat) (Option.none : Option Jvm.ClassFile.FieldType)) ∈ xTs := xT_1 45 (by rfl) rfl
theorem w_158 : (Jvm.Cond.methodLink "java/util/AbstractList" (1 : Nat) ({ cls := "java/util/AbstractCollection", name := "<init>", desc := "()V" } : Jvm.MethodName)) ∈ xTs := xT_1 46 (by rfl) rfl
theorem w_159 : (Jvm.Cond.instanceMethod ({ cls := "java/util/AbstractCollection", name := "<init>", desc := "()V" } : Jvm.MethodName)) ∈ xTs := xT_1 47 (by rfl) rfl
theorem w_160 : (Jvm.Cond.code ({ cls := "java/util/AbstractCollection", name := "<init>", desc := "()V" } : Jvm.MethodName) prog_21_method_1_code (1 : Nat) (Option.none : Option Jvm.ClassFile.FieldType)) ∈ xTs := xT_1 48 (by rfl) rfl
theorem w_161 : (Jvm.Cond.methodLink "java/util/AbstractCollection" (1 : Nat) ({ cls := "java/lang/Object", name := "<init>", desc := "()V" } : Jvm.MethodName)) ∈ xTs := xT_1 49 (by rfl) rfl
theorem w_162 : (Jvm.Cond.fieldLink "java/util/ArrayList" (39 : Nat) "java/util/ArrayList" "DEFAULTCAPACITY_EMPTY_ELEMENTDATA" "[Ljava/lang/Object;") ∈ xTs := xT_1 50 (by rfl) rfl
theorem w_164 : (Jvm.Cond.fieldLink "java/util/ArrayList" (9 : Nat) "java/util/ArrayList" "elementData" "[Ljava/lang/Object;") ∈ xTs := xT_1 52 (by rfl) rfl
theorem w_165 : (Jvm.Cond.fieldLink "java/util/ArrayList" (48 : Nat) "java/util/ArrayList" "size" "I") ∈ xTs := xT_1 53 (by rfl) rfl
theorem w_166 : (Jvm.Cond.fieldLink "java/util/AbstractList" (7 : Nat) "java/util/AbstractList" "modCount" "I") ∈ xTs := xT_1 54 (by rfl) rfl
theorem w_167 : (Jvm.Cond.fieldLink "java/util/ArrayList" (63 : Nat) "java/util/ArrayList" "modCount" "I") ∈ xTs := xT_1 55 (by rfl) rfl
theorem w_168 : (Jvm.Cond.sameField "java/util/ArrayList" "java/util/AbstractList" "modCount" "I") ∈ xTs := xT_1 56 (by rfl) rfl
theorem w_176 : (Jvm.Cond.constant "EditsMeet$Trees" (25 : Nat) (2097150 : Int32)) ∈ xTs := xT_1 64 (by rfl) rfl
theorem w_177 : (Jvm.Cond.constant "EditsMeet$Trees" (33 : Nat) (65536 : Int32)) ∈ xTs := xT_1 65 (by rfl) rfl
theorem w_178 : (Jvm.Cond.constant "EditsMeet$Trees" (40 : Nat) (1048575 : Int32)) ∈ xTs := xT_1 66 (by rfl) rfl
theorem w_179 : (Jvm.Cond.constant "EditsMeet$Trees" (44 : Nat) (2096125 : Int32)) ∈ xTs := xT_1 67 (by rfl) rfl
theorem w_180 : (Jvm.Cond.constantLong "EditsMeet$Trees" (58 : Nat) (6755399441055744 : Int64)) ∈ xTs := xT_1 68 (by rfl) rfl
theorem w_181 : (Jvm.Cond.constantLong "EditsMeet$Trees" (60 : Nat) (9007199254740992 : Int64)) ∈ xTs := xT_1 69 (by rfl) rfl
theorem w_182 : (Jvm.Cond.constantLong "EditsMeet$Trees" (62 : Nat) (18014398509481984 : Int64)) ∈ xTs := xT_1 70 (by rfl) rfl
theorem w_183 : (Jvm.Cond.constantLong "EditsMeet$Trees" (64 : Nat) (72057594037927936 : Int64)) ∈ xTs := xT_1 71 (by rfl) rfl
theorem w_184 : (Jvm.Cond.constantLong "EditsMeet$Trees" (66 : Nat) (4294967296 : Int64)) ∈ xTs := xT_1 72 (by rfl) rfl
theorem w_185 : (Jvm.Cond.fieldLink "EditsMeet$Trees" (14 : Nat) "EditsMeet$Trees" "holders" "Ljava/util/ArrayList;") ∈ xTs := xT_1 73 (by rfl) rfl
theorem w_186 : (Jvm.Cond.fieldLink "EditsMeet$Trees" (18 : Nat) "EditsMeet$Trees" "trail" "[I") ∈ xTs := xT_1 74 (by rfl) rfl
theorem w_187 : (Jvm.Cond.fieldLink "EditsMeet$Trees" (22 : Nat) "EditsMeet$Trees" "few" "[I") ∈ xTs := xT_1 75 (by rfl) rfl
theorem w_188 : (Jvm.Cond.fieldLink "EditsMeet$Trees" (26 : Nat) "EditsMeet$Trees" "shapes" "[J") ∈ xTs := xT_1 76 (by rfl) rfl
theorem w_189 : (Jvm.Cond.fieldLink "EditsMeet$Trees" (30 : Nat) "EditsMeet$Trees" "sizes" "[J") ∈ xTs := xT_1 77 (by rfl) rfl
theorem w_190 : (Jvm.Cond.fieldLink "EditsMeet$Trees" (34 : Nat) "EditsMeet$Trees" "bigFrom" "[J") ∈ xTs := xT_1 78 (by rfl) rfl
theorem w_191 : (Jvm.Cond.fieldLink "EditsMeet$Trees" (37 : Nat) "EditsMeet$Trees" "bigTo" "[J") ∈ xTs := xT_1 79 (by rfl) rfl
theorem w_192 : (Jvm.Cond.fieldLink "EditsMeet$Trees" (41 : Nat) "EditsMeet$Trees" "known" "[J") ∈ xTs := xT_1 80 (by rfl) rfl
theorem w_193 : (Jvm.Cond.fieldLink "EditsMeet$Trees" (45 : Nat) "EditsMeet$Trees" "free" "I") ∈ xTs := xT_1 81 (by rfl) rfl
theorem w_194 : (Jvm.Cond.fieldLink "EditsMeet$Trees" (49 : Nat) "EditsMeet$Trees" "next" "I") ∈ xTs := xT_1 82 (by rfl) rfl
theorem w_196 : (Jvm.Cond.fieldLink "EditsMeet$Trees" (52 : Nat) "EditsMeet$Trees" "freeBig" "I") ∈ xTs := xT_1 84 (by rfl) rfl
theorem w_197 : (Jvm.Cond.fieldLink "EditsMeet$Trees" (55 : Nat) "EditsMeet$Trees" "used" "I") ∈ xTs := xT_1 85 (by rfl) rfl
theorem w_199 : (Jvm.Cond.fieldLink "EditsMeet$Trees" (179 : Nat) "EditsMeet$Trees" "tries" "I") ∈ xTs := xT_1 87 (by rfl) rfl
theorem w_207 : (Jvm.Cond.fieldLink "EditsMeet$Trees" (160 : Nat) "EditsMeet$Trees" "hasFailed" "Z") ∈ xTs := xT_1 95 (by rfl) rfl
theorem w_241 : (Jvm.Cond.arrayClass Jvm.ClassFile.FieldType.int) ∈ xTs := xT_1 129 (by rfl) rfl
theorem w_242 : (Jvm.Cond.arrayClass Jvm.ClassFile.FieldType.long) ∈ xTs := xT_1 130 (by rfl) rfl
theorem w_243 : (Jvm.Cond.classLink "EditsMeet" (16 : Nat) "EditsMeet$Works") ∈ xTs := xT_1 131 (by rfl) rfl
theorem w_244 : (Jvm.Cond.instantiable "EditsMeet$Works" (12 : Nat)) ∈ xTs := xT_1 132 (by rfl) rfl
theorem w_245 : (Jvm.Cond.methodLink "EditsMeet" (18 : Nat) ({ cls := "EditsMeet$Works", name := "<init>", desc := "(LEditsMeet$Trees;)V" } : Jvm.MethodName)) ∈ xTs := xT_1 133 (by rfl) rfl
theorem w_246 : (Jvm.Cond.instanceMethod ({ cls := "EditsMeet$Works", name := "<init>", desc := "(LEditsMeet$Trees;)V" } : Jvm.MethodName)) ∈ xTs := xT_1 134 (by rfl) rfl
theorem w_247 : (Jvm.Cond.code ({ cls := "EditsMeet$Works", name := "<init>", desc := "(LEditsMeet$Trees;)V" } : Jvm.MethodName) prog_12_method_1_code (2 : Nat) (Option.none : Option Jvm.ClassFile.FieldType)) ∈ xTs := xT_1 135 (by rfl) rfl
theorem w_248 : (Jvm.Cond.methodLink "EditsMeet$Works" (3 : Nat) ({ cls := "java/lang/Object", name := "<init>", desc := "()V" } : Jvm.MethodName)) ∈ xTs := xT_1 136 (by rfl) rfl
theorem w_249 : (Jvm.Cond.classLink "EditsMeet$Works" (9 : Nat) "java/util/ArrayList") ∈ xTs := xT_1 137 (by rfl) rfl
theorem w_250 : (Jvm.Cond.methodLink "EditsMeet$Works" (11 : Nat) ({ cls := "java/util/ArrayList", name := "<init>", desc := "()V" } : Jvm.MethodName)) ∈ xTs := xT_1 138 (by rfl) rfl
theorem w_251 : (Jvm.Cond.constant "EditsMeet$Works" (36 : Nat) (32768 : Int32)) ∈ xTs := xT_1 139 (by rfl) rfl
theorem w_252 : (Jvm.Cond.methodLink "EditsMeet$Works" (48 : Nat) ({ cls := "EditsMeet$Trees", name := "newSlots", desc := "(I)LEditsMeet$Slots;" } : Jvm.MethodName)) ∈ xTs := xT_1 140 (by rfl) rfl
theorem w_253 : (Jvm.Cond.instanceMethod ({ cls := "EditsMeet$Trees", name := "newSlots", desc := "(I)LEditsMeet$Slots;" } : Jvm.MethodName)) ∈ xTs := xT_1 141 (by rfl) rfl
theorem w_254 : (Jvm.Cond.selects "EditsMeet$Trees" ({ cls := "EditsMeet$Trees", name := "newSlots", desc := "(I)LEditsMeet$Slots;" } : Jvm.MethodName) ({ cls := "EditsMeet$Trees", name := "newSlots", desc := "(I)LEditsMeet$Slots;" } : Jvm.MethodName)) ∈ xTs := xT_1 142 (by rfl) rfl
theorem w_255 : (Jvm.Cond.code ({ cls := "EditsMeet$Trees", name := "newSlots", desc := "(I)LEditsMeet$Slots;" } : Jvm.MethodName) prog_11_method_2_code (3 : Nat) (Option.some (Jvm.ClassFile.FieldType.object "EditsMeet$Slots"))) ∈ xTs := xT_1 143 (by rfl) rfl
theorem w_256 : (Jvm.Cond.classLink "EditsMeet$Trees" (68 : Nat) "EditsMeet$Slots") ∈ xTs := xT_1 144 (by rfl) rfl
theorem w_257 : (Jvm.Cond.instantiable "EditsMeet$Slots" (1 : Nat)) ∈ xTs := xT_1 145 (by rfl) rfl
theorem w_258 : (Jvm.Cond.methodLink "EditsMeet$Trees" (70 : Nat) ({ cls := "EditsMeet$Slots", name := "<init>", desc := "(I)V" } : Jvm.MethodName)) ∈ xTs := xT_1 146 (by rfl) rfl
theorem w_259 : (Jvm.Cond.instanceMethod ({ cls := "EditsMeet$Slots", name := "<init>", desc := "(I)V" } : Jvm.MethodName)) ∈ xTs := xT_1 147 (by rfl) rfl
theorem w_260 : (Jvm.Cond.code ({ cls := "EditsMeet$Slots", name := "<init>", desc := "(I)V" } : Jvm.MethodName) prog_8_method_1_code (2 : Nat) (Option.none : Option Jvm.ClassFile.FieldType)) ∈ xTs := xT_1 148 (by rfl) rfl
theorem w_261 : (Jvm.Cond.methodLink "EditsMeet$Slots" (1 : Nat) ({ cls := "java/lang/Object", name := "<init>", desc := "()V" } : Jvm.MethodName)) ∈ xTs := xT_1 149 (by rfl) rfl
theorem w_262 : (Jvm.Cond.methodLink "EditsMeet$Slots" (7 : Nat) ({ cls := "java/lang/Math", name := "max", desc := "(II)I" } : Jvm.MethodName)) ∈ xTs := xT_1 150 (by rfl) rfl
theorem w_263 : (Jvm.Cond.static ({ cls := "java/lang/Math", name := "max", desc := "(II)I" } : Jvm.MethodName)) ∈ xTs := xT_1 151 (by rfl) rfl
theorem w_264 : (Jvm.Cond.code ({ cls := "java/lang/Math", name := "max", desc := "(II)I" } : Jvm.MethodName) prog_19_method_65_code (2 : Nat) (Option.some Jvm.ClassFile.FieldType.int)) ∈ xTs := xT_1 152 (by rfl) rfl
theorem w_265 : (Jvm.Cond.fieldLink "EditsMeet$Slots" (13 : Nat) "EditsMeet$Slots" "nodes" "[I") ∈ xTs := xT_1 153 (by rfl) rfl
theorem w_271 : (Jvm.Cond.methodLink "EditsMeet$Trees" (73 : Nat) ({ cls := "java/util/ArrayList", name := "add", desc := "(Ljava/lang/Object;)Z" } : Jvm.MethodName)) ∈ xTs := xT_1 159 (by rfl) rfl
theorem w_272 : (Jvm.Cond.instanceMethod ({ cls := "java/util/ArrayList", name := "add", desc := "(Ljava/lang/Object;)Z" } : Jvm.MethodName)) ∈ xTs := xT_1 160 (by rfl) rfl
theorem w_273 : (Jvm.Cond.selects "java/util/ArrayList" ({ cls := "java/util/ArrayList", name := "add", desc := "(Ljava/lang/Object;)Z" } : Jvm.MethodName) ({ cls := "java/util/ArrayList", name := "add", desc := "(Ljava/lang/Object;)Z" } : Jvm.MethodName)) ∈ xTs := xT_1 161 (by rfl) rfl
theorem w_274 : (Jvm.Cond.code ({ cls := "java/util/ArrayList", name := "add", desc := "(Ljava/lang/Object;)Z" } : Jvm.MethodName) prog_23_method_25_code (2 : Nat) (Option.some Jvm.ClassFile.FieldType.boolean)) ∈ xTs := xT_1 162 (by rfl) rfl
theorem w_275 : (Jvm.Cond.methodLink "java/util/ArrayList" (131 : Nat) ({ cls := "java/util/ArrayList", name := "add", desc := "(Ljava/lang/Object;[Ljava/lang/Object;I)V" } : Jvm.MethodName)) ∈ xTs := xT_1 163 (by rfl) rfl
theorem w_277 : (Jvm.Cond.instanceMethod ({ cls := "java/util/ArrayList", name := "add", desc := "(Ljava/lang/Object;[Ljava/lang/Object;I)V" } : Jvm.MethodName)) ∈ xTs := xT_1 165 (by rfl) rfl
theorem w_278 : (Jvm.Cond.code ({ cls := "java/util/ArrayList", name := "add", desc := "(Ljava/lang/Object;[Ljava/lang/Object;I)V" } : Jvm.MethodName) prog_23_method_24_code (4 : Nat) (Option.none : Option Jvm.ClassFile.FieldType)) ∈ xTs := xT_1 166 (by rfl) rfl
theorem w_279 : (Jvm.Cond.methodLink "java/util/ArrayList" (129 : Nat) ({ cls := "java/util/ArrayList", name := "grow", desc := "()[Ljava/lang/Object;" } : Jvm.MethodName)) ∈ xTs := xT_1 167 (by rfl) rfl
theorem w_281 : (Jvm.Cond.instanceMethod ({ cls := "java/util/ArrayList", name := "grow", desc := "()[Ljava/lang/Object;" } : Jvm.MethodName)) ∈ xTs := xT_1 169 (by rfl) rfl
theorem w_282 : (Jvm.Cond.code ({ cls := "java/util/ArrayList", name := "grow", desc := "()[Ljava/lang/Object;" } : Jvm.MethodName) prog_23_method_7_code (1 : Nat) (Option.some (Jvm.ClassFile.FieldType.array (Jvm.ClassFile.FieldType.object "java/lang/Object")))) ∈ xTs := xT_1 170 (by rfl) rfl
theorem w_283 : (Jvm.Cond.methodLink "java/util/ArrayList" (69 : Nat) ({ cls := "java/util/ArrayList", name := "grow", desc := "(I)[Ljava/lang/Object;" } : Jvm.MethodName)) ∈ xTs := xT_1 171 (by rfl) rfl
theorem w_285 : (Jvm.Cond.instanceMethod ({ cls := "java/util/ArrayList", name := "grow", desc := "(I)[Ljava/lang/Object;" } : Jvm.MethodName)) ∈ xTs := xT_1 173 (by rfl) rfl
theorem w_286 : (Jvm.Cond.code ({ cls := "java/util/ArrayList", name := "grow", desc := "(I)[Ljava/lang/Object;" } : Jvm.MethodName) prog_23_method_6_code (4 : Nat) (Option.some (Jvm.ClassFile.FieldType.array (Jvm.ClassFile.FieldType.object "java/lang/Object")))) ∈ xTs := xT_1 174 (by rfl) rfl
theorem w_287 : (Jvm.Cond.methodLink "java/util/ArrayList" (73 : Nat) ({ cls := "jdk/internal/util/ArraysSupport", name := "newLength", desc := "(III)I" } : Jvm.MethodName)) ∈ xTs := xT_1 175 (by rfl) rfl
theorem w_288 : (Jvm.Cond.static ({ cls := "jdk/internal/util/ArraysSupport", name := "newLength", desc := "(III)I" } : Jvm.MethodName)) ∈ xTs := xT_1 176 (by rfl) rfl
theorem w_289 : (Jvm.Cond.code ({ cls := "jdk/internal/util/ArraysSupport", name := "newLength", desc := "(III)I" } : Jvm.MethodName) prog_30_method_27_code (4 : Nat) (Option.some Jvm.ClassFile.FieldType.int)) ∈ xTs := xT_1 177 (by rfl) rfl
theorem w_290 : (Jvm.Cond.methodLink "jdk/internal/util/ArraysSupport" (194 : Nat) ({ cls := "java/lang/Math", name := "max", desc := "(II)I" } : Jvm.MethodName)) ∈ xTs := xT_1 178 (by rfl) rfl
theorem w_291 : (Jvm.Cond.constant "jdk/internal/util/ArraysSupport" (200 : Nat) (2147483639 : Int32)) ∈ xTs := xT_1 179 (by rfl) rfl
theorem w_295 : (Jvm.Cond.methodLink "java/util/ArrayList" (66 : Nat) ({ cls := "java/util/Arrays", name := "copyOf", desc := "([Ljava/lang/Object;I)[Ljava/lang/Object;" } : Jvm.MethodName)) ∈ xTs := xT_1 183 (by rfl) rfl
theorem w_296 : (Jvm.Cond.static ({ cls := "java/util/Arrays", name := "copyOf", desc := "([Ljava/lang/Object;I)[Ljava/lang/Object;" } : Jvm.MethodName)) ∈ xTs := xT_1 184 (by rfl) rfl
theorem w_297 : (Jvm.Cond.code ({ cls := "java/util/Arrays", name := "copyOf", desc := "([Ljava/lang/Object;I)[Ljava/lang/Object;" } : Jvm.MethodName) prog_24_method_119_code (2 : Nat) (Option.some (Jvm.ClassFile.FieldType.array (Jvm.ClassFile.FieldType.object "java/lang/Object")))) ∈ xTs := xT_1 185 (by rfl) rfl
theorem w_298 : (Jvm.Cond.methodLink "java/util/Arrays" (86 : Nat) ({ cls := "java/lang/Object", name := "getClass", desc := "()Ljava/lang/Class;" } : Jvm.MethodName)) ∈ xTs := xT_1 186 (by rfl) rfl
theorem w_299 : (Jvm.Cond.instanceMethod ({ cls := "java/lang/Object", name := "getClass", desc := "()Ljava/lang/Class;" } : Jvm.MethodName)) ∈ xTs := xT_1 187 (by rfl) rfl
theorem w_315 : (Jvm.Cond.native ({ cls := "java/lang/Object", name := "getClass", desc := "()Ljava/lang/Class;" } : Jvm.MethodName)) ∈ xTs := xT_1 203 (by rfl) rfl
theorem w_316 : (Jvm.Cond.methodLink "java/util/Arrays" (300 : Nat) ({ cls := "java/util/Arrays", name := "copyOf", desc := "([Ljava/lang/Object;ILjava/lang/Class;)[Ljava/lang/Object;" } : Jvm.MethodName)) ∈ xTs := xT_1 204 (by rfl) rfl
theorem w_317 : (Jvm.Cond.static ({ cls := "java/util/Arrays", name := "copyOf", desc := "([Ljava/lang/Object;ILjava/lang/Class;)[Ljava/lang/Object;" } : Jvm.MethodName)) ∈ xTs := xT_1 205 (by rfl) rfl
theorem w_318 : (Jvm.Cond.code ({ cls := "java/util/Arrays", name := "copyOf", desc := "([Ljava/lang/Object;ILjava/lang/Class;)[Ljava/lang/Object;" } : Jvm.MethodName) prog_24_method_120_code (4 : Nat) (Option.some (Jvm.ClassFile.FieldType.array (Jvm.ClassFile.FieldType.object "java/lang/Object")))) ∈ xTs := xT_1 206 (by rfl) rfl
theorem w_319 : (Jvm.Cond.classLink "java/util/Arrays" (110 : Nat) "[Ljava/lang/Object;") ∈ xTs := xT_1 207 (by rfl) rfl
theorem w_321 : (Jvm.Cond.classLink "java/util/Arrays" (2 : Nat) "java/lang/Object") ∈ xTs := xT_1 209 (by rfl) rfl
theorem w_322 : (Jvm.Cond.methodLink "java/util/Arrays" (304 : Nat) ({ cls := "java/lang/Math", name := "min", desc := "(II)I" } : Jvm.MethodName)) ∈ xTs := xT_1 210 (by rfl) rfl
theorem w_323 : (Jvm.Cond.static ({ cls := "java/lang/Math", name := "min", desc := "(II)I" } : Jvm.MethodName)) ∈ xTs := xT_1 211 (by rfl) rfl
theorem w_324 : (Jvm.Cond.code ({ cls := "java/lang/Math", name := "min", desc := "(II)I" } : Jvm.MethodName) prog_19_method_69_code (2 : Nat) (Option.some Jvm.ClassFile.FieldType.int)) ∈ xTs := xT_1 212 (by rfl) rfl
theorem w_325 : (Jvm.Cond.methodLink "java/util/Arrays" (150 : Nat) ({ cls := "java/lang/System", name := "arraycopy", desc := "(Ljava/lang/Object;ILjava/lang/Object;II)V" } : Jvm.MethodName)) ∈ xTs := xT_1 213 (by rfl) rfl
theorem w_326 : (Jvm.Cond.static ({ cls := "java/lang/System", name := "arraycopy", desc := "(Ljava/lang/Object;ILjava/lang/Object;II)V" } : Jvm.MethodName)) ∈ xTs := xT_1 214 (by rfl) rfl
theorem w_327 : (Jvm.Cond.native ({ cls := "java/lang/System", name := "arraycopy", desc := "(Ljava/lang/Object;ILjava/lang/Object;II)V" } : Jvm.MethodName)) ∈ xTs := xT_1 215 (by rfl) rfl
theorem w_328 : (Jvm.Cond.methodLink "java/util/ArrayList" (79 : Nat) ({ cls := "java/lang/Math", name := "max", desc := "(II)I" } : Jvm.MethodName)) ∈ xTs := xT_1 216 (by rfl) rfl
theorem w_329 : (Jvm.Cond.classLink "java/util/ArrayList" (7 : Nat) "java/lang/Object") ∈ xTs := xT_1 217 (by rfl) rfl
theorem w_331 : (Jvm.Cond.fieldLink "EditsMeet$Works" (44 : Nat) "EditsMeet$Works" "trees" "LEditsMeet$Trees;") ∈ xTs := xT_1 219 (by rfl) rfl
theorem w_334 : (Jvm.Cond.fieldLink "EditsMeet$Works" (12 : Nat) "EditsMeet$Works" "holders" "Ljava/util/ArrayList;") ∈ xTs := xT_1 222 (by rfl) rfl
theorem w_335 : (Jvm.Cond.fieldLink "EditsMeet$Works" (54 : Nat) "EditsMeet$Works" "nodes" "LEditsMeet$Slots;") ∈ xTs := xT_1 223 (by rfl) rfl
theorem w_336 : (Jvm.Cond.fieldLink "EditsMeet$Works" (16 : Nat) "EditsMeet$Works" "recipes" "[J") ∈ xTs := xT_1 224 (by rfl) rfl
theorem w_337 : (Jvm.Cond.fieldLink "EditsMeet$Works" (20 : Nat) "EditsMeet$Works" "from" "[J") ∈ xTs := xT_1 225 (by rfl) rfl
theorem w_338 : (Jvm.Cond.fieldLink "EditsMeet$Works" (23 : Nat) "EditsMeet$Works" "to" "[J") ∈ xTs := xT_1 226 (by rfl) rfl
theorem w_339 : (Jvm.Cond.fieldLink "EditsMeet$Works" (26 : Nat) "EditsMeet$Works" "states" "[I") ∈ xTs := xT_1 227 (by rfl) rfl
theorem w_340 : (Jvm.Cond.fieldLink "EditsMeet$Works" (30 : Nat) "EditsMeet$Works" "marks" "[I") ∈ xTs := xT_1 228 (by rfl) rfl
theorem w_341 : (Jvm.Cond.fieldLink "EditsMeet$Works" (33 : Nat) "EditsMeet$Works" "usedAt" "[I") ∈ xTs := xT_1 229 (by rfl) rfl
theorem w_342 : (Jvm.Cond.fieldLink "EditsMeet$Works" (37 : Nat) "EditsMeet$Works" "trail" "[I") ∈ xTs := xT_1 230 (by rfl) rfl
theorem w_343 : (Jvm.Cond.fieldLink "EditsMeet$Works" (40 : Nat) "EditsMeet$Works" "next" "I") ∈ xTs := xT_1 231 (by rfl) rfl
theorem w_344 : (Jvm.Cond.fieldLink "EditsMeet$Works" (75 : Nat) "EditsMeet$Works" "clock" "I") ∈ xTs := xT_1 232 (by rfl) rfl
theorem w_370 : (Jvm.Cond.classLink "EditsMeet" (25 : Nat) "EditsMeet$Teller") ∈ xTs := xT_2 18 (by rfl) rfl
theorem w_371 : (Jvm.Cond.instantiable "EditsMeet$Teller" (16 : Nat)) ∈ xTs := xT_2 19 (by rfl) rfl
theorem w_372 : (Jvm.Cond.methodLink "EditsMeet" (27 : Nat) ({ cls := "EditsMeet$Teller", name := "<init>", desc := "(LEditsMeet$Trees;)V" } : Jvm.MethodName)) ∈ xTs := xT_2 20 (by rfl) rfl
theorem w_373 : (Jvm.Cond.instanceMethod ({ cls := "EditsMeet$Teller", name := "<init>", desc := "(LEditsMeet$Trees;)V" } : Jvm.MethodName)) ∈ xTs := xT_2 21 (by rfl) rfl
theorem w_374 : (Jvm.Cond.code ({ cls := "EditsMeet$Teller", name := "<init>", desc := "(LEditsMeet$Trees;)V" } : Jvm.MethodName) prog_10_method_1_code (2 : Nat) (Option.none : Option Jvm.ClassFile.FieldType)) ∈ xTs := xT_2 22 (by rfl) rfl
theorem w_375 : (Jvm.Cond.methodLink "EditsMeet$Teller" (5 : Nat) ({ cls := "java/lang/Object", name := "<init>", desc := "()V" } : Jvm.MethodName)) ∈ xTs := xT_2 23 (by rfl) rfl
theorem w_376 : (Jvm.Cond.constant "EditsMeet$Teller" (21 : Nat) (524288 : Int32)) ∈ xTs := xT_2 24 (by rfl) rfl
theorem w_377 : (Jvm.Cond.classLink "EditsMeet$Teller" (40 : Nat) "EditsMeet$Edge") ∈ xTs := xT_2 25 (by rfl) rfl
theorem w_378 : (Jvm.Cond.instantiable "EditsMeet$Edge" (9 : Nat)) ∈ xTs := xT_2 26 (by rfl) rfl
theorem w_379 : (Jvm.Cond.methodLink "EditsMeet$Teller" (42 : Nat) ({ cls := "EditsMeet$Edge", name := "<init>", desc := "(LEditsMeet$Trees;Z)V" } : Jvm.MethodName)) ∈ xTs := xT_2 27 (by rfl) rfl
theorem w_380 : (Jvm.Cond.instanceMethod ({ cls := "EditsMeet$Edge", name := "<init>", desc := "(LEditsMeet$Trees;Z)V" } : Jvm.MethodName)) ∈ xTs := xT_2 28 (by rfl) rfl
theorem w_381 : (Jvm.Cond.code ({ cls := "EditsMeet$Edge", name := "<init>", desc := "(LEditsMeet$Trees;Z)V" } : Jvm.MethodName) prog_3_method_1_code (3 : Nat) (Option.none : Option Jvm.ClassFile.FieldType)) ∈ xTs := xT_2 29 (by rfl) rfl
theorem w_382 : (Jvm.Cond.methodLink "EditsMeet$Edge" (3 : Nat) ({ cls := "java/lang/Object", name := "<init>", desc := "()V" } : Jvm.MethodName)) ∈ xTs := xT_2 30 (by rfl) rfl
theorem w_383 : (Jvm.Cond.fieldLink "EditsMeet$Edge" (25 : Nat) "EditsMeet$Edge" "trees" "LEditsMeet$Trees;") ∈ xTs := xT_2 31 (by rfl) rfl
theorem w_384 : (Jvm.Cond.fieldLink "EditsMeet$Edge" (29 : Nat) "EditsMeet$Edge" "isLeft" "Z") ∈ xTs := xT_2 32 (by rfl) rfl
theorem w_385 : (Jvm.Cond.fieldLink "EditsMeet$Edge" (11 : Nat) "EditsMeet$Edge" "bases" "[I") ∈ xTs := xT_2 33 (by rfl) rfl
theorem w_386 : (Jvm.Cond.fieldLink "EditsMeet$Edge" (15 : Nat) "EditsMeet$Edge" "counts" "[J") ∈ xTs := xT_2 34 (by rfl) rfl
theorem w_387 : (Jvm.Cond.fieldLink "EditsMeet$Edge" (19 : Nat) "EditsMeet$Edge" "dues" "[I") ∈ xTs := xT_2 35 (by rfl) rfl
theorem w_388 : (Jvm.Cond.fieldLink "EditsMeet$Edge" (33 : Nat) "EditsMeet$Edge" "top" "I") ∈ xTs := xT_2 36 (by rfl) rfl
theorem w_392 : (Jvm.Cond.fieldLink "EditsMeet$Edge" (22 : Nat) "EditsMeet$Edge" "spine" "[I") ∈ xTs := xT_2 40 (by rfl) rfl
theorem w_393 : (Jvm.Cond.fieldLink "EditsMeet$Edge" (37 : Nat) "EditsMeet$Edge" "depth" "I") ∈ xTs := xT_2 41 (by rfl) rfl
theorem w_395 : (Jvm.Cond.fieldLink "EditsMeet$Edge" (73 : Nat) "EditsMeet$Edge" "mixed" "I") ∈ xTs := xT_2 43 (by rfl) rfl
theorem w_415 : (Jvm.Cond.arrayClass Jvm.ClassFile.FieldType.char) ∈ xTs := xT_2 63 (by rfl) rfl
theorem w_416 : (Jvm.Cond.fieldLink "EditsMeet$Teller" (36 : Nat) "EditsMeet$Teller" "trees" "LEditsMeet$Trees;") ∈ xTs := xT_2 64 (by rfl) rfl
theorem w_417 : (Jvm.Cond.fieldLink "EditsMeet$Teller" (45 : Nat) "EditsMeet$Teller" "one" "LEditsMeet$Edge;") ∈ xTs := xT_2 65 (by rfl) rfl
theorem w_418 : (Jvm.Cond.fieldLink "EditsMeet$Teller" (49 : Nat) "EditsMeet$Teller" "other" "LEditsMeet$Edge;") ∈ xTs := xT_2 66 (by rfl) rfl
theorem w_419 : (Jvm.Cond.fieldLink "EditsMeet$Teller" (13 : Nat) "EditsMeet$Teller" "trail" "[I") ∈ xTs := xT_2 67 (by rfl) rfl
theorem w_420 : (Jvm.Cond.fieldLink "EditsMeet$Teller" (17 : Nat) "EditsMeet$Teller" "sums" "[J") ∈ xTs := xT_2 68 (by rfl) rfl
theorem w_421 : (Jvm.Cond.fieldLink "EditsMeet$Teller" (22 : Nat) "EditsMeet$Teller" "notes" "[J") ∈ xTs := xT_2 69 (by rfl) rfl
theorem w_422 : (Jvm.Cond.fieldLink "EditsMeet$Teller" (25 : Nat) "EditsMeet$Teller" "bucketBits" "I") ∈ xTs := xT_2 70 (by rfl) rfl
theorem w_423 : (Jvm.Cond.fieldLink "EditsMeet$Teller" (29 : Nat) "EditsMeet$Teller" "sought" "I") ∈ xTs := xT_2 71 (by rfl) rfl
theorem w_424 : (Jvm.Cond.fieldLink "EditsMeet$Teller" (55 : Nat) "EditsMeet$Teller" "noted" "I") ∈ xTs := xT_2 72 (by rfl) rfl
theorem w_425 : (Jvm.Cond.fieldLink "EditsMeet$Teller" (32 : Nat) "EditsMeet$Teller" "signs" "[C") ∈ xTs := xT_2 73 (by rfl) rfl
theorem w_466 : (Jvm.Cond.classLink "EditsMeet" (32 : Nat) "EditsMeet$Loom") ∈ xTs := xT_2 114 (by rfl) rfl
theorem w_467 : (Jvm.Cond.instantiable "EditsMeet$Loom" (13 : Nat)) ∈ xTs := xT_2 115 (by rfl) rfl
theorem w_468 : (Jvm.Cond.methodLink "EditsMeet" (34 : Nat) ({ cls := "EditsMeet$Loom", name := "<init>", desc := "(LEditsMeet$Works;)V" } : Jvm.MethodName)) ∈ xTs := xT_2 116 (by rfl) rfl
theorem w_469 : (Jvm.Cond.instanceMethod ({ cls := "EditsMeet$Loom", name := "<init>", desc := "(LEditsMeet$Works;)V" } : Jvm.MethodName)) ∈ xTs := xT_2 117 (by rfl) rfl
theorem w_470 : (Jvm.Cond.code ({ cls := "EditsMeet$Loom", name := "<init>", desc := "(LEditsMeet$Works;)V" } : Jvm.MethodName) prog_4_method_1_code (2 : Nat) (Option.none : Option Jvm.ClassFile.FieldType)) ∈ xTs := xT_2 118 (by rfl) rfl
theorem w_471 : (Jvm.Cond.methodLink "EditsMeet$Loom" (7 : Nat) ({ cls := "java/lang/Object", name := "<init>", desc := "()V" } : Jvm.MethodName)) ∈ xTs := xT_2 119 (by rfl) rfl
theorem w_472 : (Jvm.Cond.constant "EditsMeet$Loom" (13 : Nat) (262144 : Int32)) ∈ xTs := xT_2 120 (by rfl) rfl
theorem w_473 : (Jvm.Cond.classLink "EditsMeet$Loom" (36 : Nat) "EditsMeet$Seam") ∈ xTs := xT_2 121 (by rfl) rfl
theorem w_474 : (Jvm.Cond.instantiable "EditsMeet$Seam" (9 : Nat)) ∈ xTs := xT_2 122 (by rfl) rfl
theorem w_475 : (Jvm.Cond.methodLink "EditsMeet$Loom" (38 : Nat) ({ cls := "EditsMeet$Seam", name := "<init>", desc := "(LEditsMeet$Trees;)V" } : Jvm.MethodName)) ∈ xTs := xT_2 123 (by rfl) rfl
theorem w_476 : (Jvm.Cond.instanceMethod ({ cls := "EditsMeet$Seam", name := "<init>", desc := "(LEditsMeet$Trees;)V" } : Jvm.MethodName)) ∈ xTs := xT_2 124 (by rfl) rfl
theorem w_477 : (Jvm.Cond.code ({ cls := "EditsMeet$Seam", name := "<init>", desc := "(LEditsMeet$Trees;)V" } : Jvm.MethodName) prog_6_method_1_code (2 : Nat) (Option.none : Option Jvm.ClassFile.FieldType)) ∈ xTs := xT_2 125 (by rfl) rfl
theorem w_478 : (Jvm.Cond.methodLink "EditsMeet$Seam" (1 : Nat) ({ cls := "java/lang/Object", name := "<init>", desc := "()V" } : Jvm.MethodName)) ∈ xTs := xT_2 126 (by rfl) rfl
theorem w_479 : (Jvm.Cond.classLink "EditsMeet$Seam" (28 : Nat) "EditsMeet$Edge") ∈ xTs := xT_2 127 (by rfl) rfl
theorem w_480 : (Jvm.Cond.methodLink "EditsMeet$Seam" (30 : Nat) ({ cls := "EditsMeet$Edge", name := "<init>", desc := "(LEditsMeet$Trees;Z)V" } : Jvm.MethodName)) ∈ xTs := xT_2 128 (by rfl) rfl
theorem w_481 : (Jvm.Cond.fieldLink "EditsMeet$Seam" (24 : Nat) "EditsMeet$Seam" "trees" "LEditsMeet$Trees;") ∈ xTs := xT_2 129 (by rfl) rfl
theorem w_482 : (Jvm.Cond.fieldLink "EditsMeet$Seam" (33 : Nat) "EditsMeet$Seam" "left" "LEditsMeet$Edge;") ∈ xTs := xT_2 130 (by rfl) rfl
theorem w_484 : (Jvm.Cond.fieldLink "EditsMeet$Seam" (37 : Nat) "EditsMeet$Seam" "right" "LEditsMeet$Edge;") ∈ xTs := xT_2 132 (by rfl) rfl
theorem w_486 : (Jvm.Cond.fieldLink "EditsMeet$Seam" (40 : Nat) "EditsMeet$Seam" "bare" "LEditsMeet$Edge;") ∈ xTs := xT_2 134 (by rfl) rfl
theorem w_488 : (Jvm.Cond.fieldLink "EditsMeet$Seam" (9 : Nat) "EditsMeet$Seam" "bases" "[I") ∈ xTs := xT_2 136 (by rfl) rfl
theorem w_489 : (Jvm.Cond.fieldLink "EditsMeet$Seam" (13 : Nat) "EditsMeet$Seam" "counts" "[J") ∈ xTs := xT_2 137 (by rfl) rfl
theorem w_490 : (Jvm.Cond.fieldLink "EditsMeet$Seam" (17 : Nat) "EditsMeet$Seam" "mixes" "[I") ∈ xTs := xT_2 138 (by rfl) rfl
theorem w_491 : (Jvm.Cond.fieldLink "EditsMeet$Seam" (20 : Nat) "EditsMeet$Seam" "start" "I") ∈ xTs := xT_2 139 (by rfl) rfl
theorem w_492 : (Jvm.Cond.fieldLink "EditsMeet$Seam" (69 : Nat) "EditsMeet$Seam" "size" "I") ∈ xTs := xT_2 140 (by rfl) rfl
theorem w_512 : (Jvm.Cond.classLink "EditsMeet$Loom" (45 : Nat) "EditsMeet$Edge") ∈ xTs := xT_2 160 (by rfl) rfl
theorem w_513 : (Jvm.Cond.methodLink "EditsMeet$Loom" (47 : Nat) ({ cls := "EditsMeet$Edge", name := "<init>", desc := "(LEditsMeet$Trees;Z)V" } : Jvm.MethodName)) ∈ xTs := xT_2 161 (by rfl) rfl
theorem w_514 : (Jvm.Cond.methodLink "EditsMeet$Loom" (57 : Nat) ({ cls := "EditsMeet$Works", name := "newSlots", desc := "(I)LEditsMeet$Slots;" } : Jvm.MethodName)) ∈ xTs := xT_2 162 (by rfl) rfl
theorem w_515 : (Jvm.Cond.instanceMethod ({ cls := "EditsMeet$Works", name := "newSlots", desc := "(I)LEditsMeet$Slots;" } : Jvm.MethodName)) ∈ xTs := xT_2 163 (by rfl) rfl
theorem w_516 : (Jvm.Cond.selects "EditsMeet$Works" ({ cls := "EditsMeet$Works", name := "newSlots", desc := "(I)LEditsMeet$Slots;" } : Jvm.MethodName) ({ cls := "EditsMeet$Works", name := "newSlots", desc := "(I)LEditsMeet$Slots;" } : Jvm.MethodName)) ∈ xTs := xT_2 164 (by rfl) rfl
theorem w_517 : (Jvm.Cond.code ({ cls := "EditsMeet$Works", name := "newSlots", desc := "(I)LEditsMeet$Slots;" } : Jvm.MethodName) prog_12_method_2_code (3 : Nat) (Option.some (Jvm.ClassFile.FieldType.object "EditsMeet$Slots"))) ∈ xTs := xT_2 165 (by rfl) rfl
theorem w_518 : (Jvm.Cond.classLink "EditsMeet$Works" (58 : Nat) "EditsMeet$Slots") ∈ xTs := xT_2 166 (by rfl) rfl
theorem w_519 : (Jvm.Cond.methodLink "EditsMeet$Works" (60 : Nat) ({ cls := "EditsMeet$Slots", name := "<init>", desc := "(I)V" } : Jvm.MethodName)) ∈ xTs := xT_2 167 (by rfl) rfl
theorem w_520 : (Jvm.Cond.methodLink "EditsMeet$Works" (63 : Nat) ({ cls := "java/util/ArrayList", name := "add", desc := "(Ljava/lang/Object;)Z" } : Jvm.MethodName)) ∈ xTs := xT_2 168 (by rfl) rfl
theorem w_521 : (Jvm.Cond.methodLink "EditsMeet$Loom" (65 : Nat) ({ cls := "EditsMeet$Trees", name := "newSlots", desc := "(I)LEditsMeet$Slots;" } : Jvm.MethodName)) ∈ xTs := xT_2 169 (by rfl) rfl
theorem w_522 : (Jvm.Cond.fieldLink "EditsMeet$Loom" (27 : Nat) "EditsMeet$Loom" "works" "LEditsMeet$Works;") ∈ xTs := xT_2 170 (by rfl) rfl
theorem w_524 : (Jvm.Cond.fieldLink "EditsMeet$Loom" (35 : Nat) "EditsMeet$Loom" "trees" "LEditsMeet$Trees;") ∈ xTs := xT_2 172 (by rfl) rfl
theorem w_526 : (Jvm.Cond.fieldLink "EditsMeet$Loom" (41 : Nat) "EditsMeet$Loom" "seam" "LEditsMeet$Seam;") ∈ xTs := xT_2 174 (by rfl) rfl
theorem w_528 : (Jvm.Cond.fieldLink "EditsMeet$Loom" (61 : Nat) "EditsMeet$Loom" "hand" "LEditsMeet$Slots;") ∈ xTs := xT_2 176 (by rfl) rfl
theorem w_533 : (Jvm.Cond.fieldLink "EditsMeet$Loom" (66 : Nat) "EditsMeet$Loom" "frames" "LEditsMeet$Slots;") ∈ xTs := xT_2 181 (by rfl) rfl
theorem w_534 : (Jvm.Cond.fieldLink "EditsMeet$Loom" (69 : Nat) "EditsMeet$Loom" "made" "LEditsMeet$Slots;") ∈ xTs := xT_2 182 (by rfl) rfl
theorem w_535 : (Jvm.Cond.fieldLink "EditsMeet$Loom" (14 : Nat) "EditsMeet$Loom" "memory" "[J") ∈ xTs := xT_2 183 (by rfl) rfl
theorem w_536 : (Jvm.Cond.fieldLink "EditsMeet$Loom" (50 : Nat) "EditsMeet$Loom" "first" "LEditsMeet$Edge;") ∈ xTs := xT_2 184 (by rfl) rfl
theorem w_537 : (Jvm.Cond.fieldLink "EditsMeet$Loom" (54 : Nat) "EditsMeet$Loom" "second" "LEditsMeet$Edge;") ∈ xTs := xT_2 185 (by rfl) rfl
theorem w_538 : (Jvm.Cond.fieldLink "EditsMeet$Loom" (18 : Nat) "EditsMeet$Loom" "path" "[I") ∈ xTs := xT_2 186 (by rfl) rfl
theorem w_539 : (Jvm.Cond.fieldLink "EditsMeet$Loom" (24 : Nat) "EditsMeet$Loom" "tasks" "[I") ∈ xTs := xT_2 187 (by rfl) rfl
theorem w_540 : (Jvm.Cond.fieldLink "EditsMeet$Loom" (101 : Nat) "EditsMeet$Loom" "open" "I") ∈ xTs := xT_2 188 (by rfl) rfl
theorem w_541 : (Jvm.Cond.fieldLink "EditsMeet$Loom" (105 : Nat) "EditsMeet$Loom" "top" "I") ∈ xTs := xT_2 189 (by rfl) rfl
theorem w_569 : (Jvm.Cond.classLink "EditsMeet" (41 : Nat) "EditsMeet$Tape") ∈ xTs := xT_2 217 (by rfl) rfl
theorem w_570 : (Jvm.Cond.instantiable "EditsMeet$Tape" (8 : Nat)) ∈ xTs := xT_2 218 (by rfl) rfl
theorem w_571 : (Jvm.Cond.methodLink "EditsMeet" (43 : Nat) ({ cls := "EditsMeet$Tape", name := "<init>", desc := "(LEditsMeet$Loom;)V" } : Jvm.MethodName)) ∈ xTs := xT_2 219 (by rfl) rfl
theorem w_572 : (Jvm.Cond.instanceMethod ({ cls := "EditsMeet$Tape", name := "<init>", desc := "(LEditsMeet$Loom;)V" } : Jvm.MethodName)) ∈ xTs := xT_2 220 (by rfl) rfl
theorem w_573 : (Jvm.Cond.code ({ cls := "EditsMeet$Tape", name := "<init>", desc := "(LEditsMeet$Loom;)V" } : Jvm.MethodName) prog_9_method_1_code (2 : Nat) (Option.none : Option Jvm.ClassFile.FieldType)) ∈ xTs := xT_2 221 (by rfl) rfl
theorem w_574 : (Jvm.Cond.methodLink "EditsMeet$Tape" (3 : Nat) ({ cls := "java/lang/Object", name := "<init>", desc := "()V" } : Jvm.MethodName)) ∈ xTs := xT_2 222 (by rfl) rfl
theorem w_575 : (Jvm.Cond.fieldLink "EditsMeet$Tape" (15 : Nat) "EditsMeet$Tape" "loom" "LEditsMeet$Loom;") ∈ xTs := xT_2 223 (by rfl) rfl
theorem w_576 : (Jvm.Cond.fieldLink "EditsMeet$Tape" (9 : Nat) "EditsMeet$Tape" "bytes" "[I") ∈ xTs := xT_2 224 (by rfl) rfl
theorem w_577 : (Jvm.Cond.fieldLink "EditsMeet$Tape" (19 : Nat) "EditsMeet$Tape" "size" "I") ∈ xTs := xT_2 225 (by rfl) rfl
theorem w_579 : (Jvm.Cond.fieldLink "EditsMeet$Tape" (25 : Nat) "EditsMeet$Tape" "place" "I") ∈ xTs := xT_2 227 (by rfl) rfl
theorem w_580 : (Jvm.Cond.fieldLink "EditsMeet$Tape" (32 : Nat) "EditsMeet$Tape" "fault" "I") ∈ xTs := xT_2 228 (by rfl) rfl
theorem w_581 : (Jvm.Cond.fieldLink "EditsMeet$Tape" (28 : Nat) "EditsMeet$Tape" "isInLetters" "Z") ∈ xTs := xT_2 229 (by rfl) rfl
theorem w_601 : (Jvm.Cond.methodLink "EditsMeet" (50 : Nat) ({ cls := "EditsMeet$Works", name := "newSlots", desc := "(I)LEditsMeet$Slots;" } : Jvm.MethodName)) ∈ xTs := xT_3 9 (by rfl) rfl
theorem w_602 : (Jvm.Cond.classLink "EditsMeet" (62 : Nat) "EditsMeet$Shelf") ∈ xTs := xT_3 10 (by rfl) rfl
theorem w_604 : (Jvm.Cond.classLink "EditsMeet" (72 : Nat) "EditsMeet$Client") ∈ xTs := xT_3 12 (by rfl) rfl
theorem w_605 : (Jvm.Cond.instantiable "EditsMeet$Client" (11 : Nat)) ∈ xTs := xT_3 13 (by rfl) rfl
theorem w_606 : (Jvm.Cond.methodLink "EditsMeet" (74 : Nat) ({ cls := "EditsMeet$Client", name := "<init>", desc := "(ILEditsMeet$Works;)V" } : Jvm.MethodName)) ∈ xTs := xT_3 14 (by rfl) rfl
theorem w_607 : (Jvm.Cond.instanceMethod ({ cls := "EditsMeet$Client", name := "<init>", desc := "(ILEditsMeet$Works;)V" } : Jvm.MethodName)) ∈ xTs := xT_3 15 (by rfl) rfl
theorem w_608 : (Jvm.Cond.code ({ cls := "EditsMeet$Client", name := "<init>", desc := "(ILEditsMeet$Works;)V" } : Jvm.MethodName) prog_2_method_1_code (3 : Nat) (Option.none : Option Jvm.ClassFile.FieldType)) ∈ xTs := xT_3 16 (by rfl) rfl
theorem w_609 : (Jvm.Cond.methodLink "EditsMeet$Client" (5 : Nat) ({ cls := "java/lang/Object", name := "<init>", desc := "()V" } : Jvm.MethodName)) ∈ xTs := xT_3 17 (by rfl) rfl
theorem w_610 : (Jvm.Cond.methodLink "EditsMeet$Client" (19 : Nat) ({ cls := "EditsMeet$Works", name := "newSlots", desc := "(I)LEditsMeet$Slots;" } : Jvm.MethodName)) ∈ xTs := xT_3 18 (by rfl) rfl
theorem w_611 : (Jvm.Cond.fieldLink "EditsMeet$Client" (11 : Nat) "EditsMeet$Client" "number" "I") ∈ xTs := xT_3 19 (by rfl) rfl
theorem w_612 : (Jvm.Cond.fieldLink "EditsMeet$Client" (15 : Nat) "EditsMeet$Client" "works" "LEditsMeet$Works;") ∈ xTs := xT_3 20 (by rfl) rfl
theorem w_613 : (Jvm.Cond.fieldLink "EditsMeet$Client" (25 : Nat) "EditsMeet$Client" "held" "LEditsMeet$Slots;") ∈ xTs := xT_3 21 (by rfl) rfl
theorem w_615 : (Jvm.Cond.fieldLink "EditsMeet$Client" (65 : Nat) "EditsMeet$Client" "undos" "I") ∈ xTs := xT_3 23 (by rfl) rfl
theorem w_616 : (Jvm.Cond.fieldLink "EditsMeet$Client" (68 : Nat) "EditsMeet$Client" "redos" "I") ∈ xTs := xT_3 24 (by rfl) rfl
theorem w_617 : (Jvm.Cond.fieldLink "EditsMeet$Client" (39 : Nat) "EditsMeet$Client" "hasSent" "Z") ∈ xTs := xT_3 25 (by rfl) rfl
theorem w_620 : (Jvm.Cond.fieldLink "EditsMeet$Client" (43 : Nat) "EditsMeet$Client" "isServed" "Z") ∈ xTs := xT_3 28 (by rfl) rfl
theorem w_623 : (Jvm.Cond.fieldLink "EditsMeet$Client" (52 : Nat) "EditsMeet$Client" "hasWaiting" "Z") ∈ xTs := xT_3 31 (by rfl) rfl
theorem w_625 : (Jvm.Cond.fieldLink "EditsMeet$Client" (105 : Nat) "EditsMeet$Client" "revision" "I") ∈ xTs := xT_3 33 (by rfl) rfl
theorem w_627 : (Jvm.Cond.fieldLink "EditsMeet$Client" (118 : Nat) "EditsMeet$Client" "place" "J") ∈ xTs := xT_3 35 (by rfl) rfl
theorem w_629 : (Jvm.Cond.fieldLink "EditsMeet$Client" (128 : Nat) "EditsMeet$Client" "otherPlace" "J") ∈ xTs := xT_3 37 (by rfl) rfl
theorem w_654 : (Jvm.Cond.arrayClass Jvm.ClassFile.FieldType.boolean) ∈ xTs := xT_3 62 (by rfl) rfl
theorem w_655 : (Jvm.Cond.instantiable "EditsMeet$Shelf" (6 : Nat)) ∈ xTs := xT_3 63 (by rfl) rfl
theorem w_657 : (Jvm.Cond.instanceMethod ({ cls := "EditsMeet$Shelf", name := "<init>", desc := "()V" } : Jvm.MethodName)) ∈ xTs := xT_3 65 (by rfl) rfl
theorem w_658 : (Jvm.Cond.code ({ cls := "EditsMeet$Shelf", name := "<init>", desc := "()V" } : Jvm.MethodName) prog_7_method_1_code (1 : Nat) (Option.none : Option Jvm.ClassFile.FieldType)) ∈ xTs := xT_3 66 (by rfl) rfl
theorem w_659 : (Jvm.Cond.methodLink "EditsMeet$Shelf" (3 : Nat) ({ cls := "java/lang/Object", name := "<init>", desc := "()V" } : Jvm.MethodName)) ∈ xTs := xT_3 67 (by rfl) rfl
theorem w_660 : (Jvm.Cond.fieldLink "EditsMeet$Shelf" (9 : Nat) "EditsMeet$Shelf" "elements" "[J") ∈ xTs := xT_3 68 (by rfl) rfl
theorem w_661 : (Jvm.Cond.fieldLink "EditsMeet$Shelf" (15 : Nat) "EditsMeet$Shelf" "held" "I") ∈ xTs := xT_3 69 (by rfl) rfl
theorem w_664 : (Jvm.Cond.fieldLink "EditsMeet$Shelf" (19 : Nat) "EditsMeet$Shelf" "size" "J") ∈ xTs := xT_3 72 (by rfl) rfl
theorem w_681 : (Jvm.Cond.classLink "EditsMeet" (82 : Nat) "EditsMeet$Meeting") ∈ xTs := xT_3 89 (by rfl) rfl
theorem w_682 : (Jvm.Cond.instantiable "EditsMeet$Meeting" (7 : Nat)) ∈ xTs := xT_3 90 (by rfl) rfl
theorem w_683 : (Jvm.Cond.methodLink "EditsMeet" (84 : Nat) ({ cls := "EditsMeet$Meeting", name := "<init>", desc := "(LEditsMeet$Works;LEditsMeet$Slots;[I)V" } : Jvm.MethodName)) ∈ xTs := xT_3 91 (by rfl) rfl
theorem w_684 : (Jvm.Cond.instanceMethod ({ cls := "EditsMeet$Meeting", name := "<init>", desc := "(LEditsMeet$Works;LEditsMeet$Slots;[I)V" } : Jvm.MethodName)) ∈ xTs := xT_3 92 (by rfl) rfl
theorem w_685 : (Jvm.Cond.code ({ cls := "EditsMeet$Meeting", name := "<init>", desc := "(LEditsMeet$Works;LEditsMeet$Slots;[I)V" } : Jvm.MethodName) prog_5_method_1_code (5 : Nat) (Option.none : Option Jvm.ClassFile.FieldType)) ∈ xTs := xT_3 93 (by rfl) rfl
theorem w_686 : (Jvm.Cond.methodLink "EditsMeet$Meeting" (3 : Nat) ({ cls := "java/lang/Object", name := "<init>", desc := "()V" } : Jvm.MethodName)) ∈ xTs := xT_3 94 (by rfl) rfl
theorem w_687 : (Jvm.Cond.classLink "EditsMeet$Meeting" (9 : Nat) "EditsMeet$Client") ∈ xTs := xT_3 95 (by rfl) rfl
theorem w_689 : (Jvm.Cond.methodLink "EditsMeet$Meeting" (33 : Nat) ({ cls := "EditsMeet$Works", name := "newSlots", desc := "(I)LEditsMeet$Slots;" } : Jvm.MethodName)) ∈ xTs := xT_3 97 (by rfl) rfl
theorem w_690 : (Jvm.Cond.methodLink "EditsMeet$Meeting" (42 : Nat) ({ cls := "EditsMeet$Client", name := "<init>", desc := "(ILEditsMeet$Works;)V" } : Jvm.MethodName)) ∈ xTs := xT_3 98 (by rfl) rfl
theorem w_691 : (Jvm.Cond.fieldLink "EditsMeet$Meeting" (21 : Nat) "EditsMeet$Meeting" "works" "LEditsMeet$Works;") ∈ xTs := xT_3 99 (by rfl) rfl
theorem w_692 : (Jvm.Cond.fieldLink "EditsMeet$Meeting" (25 : Nat) "EditsMeet$Meeting" "revisions" "LEditsMeet$Slots;") ∈ xTs := xT_3 100 (by rfl) rfl
theorem w_694 : (Jvm.Cond.fieldLink "EditsMeet$Meeting" (29 : Nat) "EditsMeet$Meeting" "authors" "[I") ∈ xTs := xT_3 102 (by rfl) rfl
theorem w_696 : (Jvm.Cond.fieldLink "EditsMeet$Meeting" (11 : Nat) "EditsMeet$Meeting" "clients" "[LEditsMeet$Client;") ∈ xTs := xT_3 104 (by rfl) rfl
theorem w_697 : (Jvm.Cond.fieldLink "EditsMeet$Meeting" (39 : Nat) "EditsMeet$Meeting" "server" "LEditsMeet$Slots;") ∈ xTs := xT_3 105 (by rfl) rfl
theorem w_698 : (Jvm.Cond.fieldLink "EditsMeet$Meeting" (59 : Nat) "EditsMeet$Meeting" "count" "I") ∈ xTs := xT_3 106 (by rfl) rfl
theorem w_700 : (Jvm.Cond.fieldLink "EditsMeet$Meeting" (17 : Nat) "EditsMeet$Meeting" "seed" "I") ∈ xTs := xT_3 108 (by rfl) rfl
theorem w_717 : (Jvm.Cond.fieldLink "EditsMeet" (10 : Nat) "EditsMeet" "trees" "LEditsMeet$Trees;") ∈ xTs := xT_3 125 (by rfl) rfl
theorem w_718 : (Jvm.Cond.fieldLink "EditsMeet" (21 : Nat) "EditsMeet" "works" "LEditsMeet$Works;") ∈ xTs := xT_3 126 (by rfl) rfl
theorem w_719 : (Jvm.Cond.fieldLink "EditsMeet" (28 : Nat) "EditsMeet" "teller" "LEditsMeet$Teller;") ∈ xTs := xT_3 127 (by rfl) rfl
theorem w_720 : (Jvm.Cond.fieldLink "EditsMeet" (37 : Nat) "EditsMeet" "loom" "LEditsMeet$Loom;") ∈ xTs := xT_3 128 (by rfl) rfl
theorem w_721 : (Jvm.Cond.fieldLink "EditsMeet" (46 : Nat) "EditsMeet" "tape" "LEditsMeet$Tape;") ∈ xTs := xT_3 129 (by rfl) rfl
theorem w_722 : (Jvm.Cond.fieldLink "EditsMeet" (54 : Nat) "EditsMeet" "edits" "LEditsMeet$Slots;") ∈ xTs := xT_3 130 (by rfl) rfl
theorem w_723 : (Jvm.Cond.fieldLink "EditsMeet" (58 : Nat) "EditsMeet" "areEdits" "[Z") ∈ xTs := xT_3 131 (by rfl) rfl
theorem w_724 : (Jvm.Cond.fieldLink "EditsMeet" (64 : Nat) "EditsMeet" "shelves" "[LEditsMeet$Shelf;") ∈ xTs := xT_3 132 (by rfl) rfl
theorem w_725 : (Jvm.Cond.fieldLink "EditsMeet" (68 : Nat) "EditsMeet" "refusals" "[I") ∈ xTs := xT_3 133 (by rfl) rfl
theorem w_726 : (Jvm.Cond.fieldLink "EditsMeet" (87 : Nat) "EditsMeet" "meeting" "LEditsMeet$Meeting;") ∈ xTs := xT_3 134 (by rfl) rfl
theorem w_727 : (Jvm.Cond.fieldLink "EditsMeet" (91 : Nat) "EditsMeet" "imaged" "LEditsMeet$Meeting;") ∈ xTs := xT_3 135 (by rfl) rfl
theorem w_728 : (Jvm.Cond.fieldLink "EditsMeet" (77 : Nat) "EditsMeet" "ahead" "LEditsMeet$Client;") ∈ xTs := xT_3 136 (by rfl) rfl
theorem w_729 : (Jvm.Cond.fieldLink "EditsMeet" (393 : Nat) "EditsMeet" "hasImage" "Z") ∈ xTs := xT_3 137 (by rfl) rfl
theorem w_757 : (Jvm.Cond.methodLink "EditsMeetLaw" (13 : Nat) ({ cls := "EditsMeet", name := "row", desc := "(III)I" } : Jvm.MethodName)) ∈ xTs := xT_3 165 (by rfl) rfl
theorem w_758 : (Jvm.Cond.instanceMethod ({ cls := "EditsMeet", name := "row", desc := "(III)I" } : Jvm.MethodName)) ∈ xTs := xT_3 166 (by rfl) rfl
theorem w_759 : (Jvm.Cond.selects "EditsMeet" ({ cls := "EditsMeet", name := "row", desc := "(III)I" } : Jvm.MethodName) ({ cls := "EditsMeet", name := "row", desc := "(III)I" } : Jvm.MethodName)) ∈ xTs := xT_3 167 (by rfl) rfl
theorem w_760 : (Jvm.Cond.code ({ cls := "EditsMeet", name := "row", desc := "(III)I" } : Jvm.MethodName) prog_1_method_2_code (5 : Nat) (Option.some Jvm.ClassFile.FieldType.int)) ∈ xTs := xT_3 168 (by rfl) rfl
theorem w_761 : (Jvm.Cond.methodLink "EditsMeet" (94 : Nat) ({ cls := "EditsMeet", name := "shelfAt", desc := "(I)LEditsMeet$Shelf;" } : Jvm.MethodName)) ∈ xTs := xT_3 169 (by rfl) rfl
theorem w_763 : (Jvm.Cond.instanceMethod ({ cls := "EditsMeet", name := "shelfAt", desc := "(I)LEditsMeet$Shelf;" } : Jvm.MethodName)) ∈ xTs := xT_3 171 (by rfl) rfl
theorem w_764 : (Jvm.Cond.code ({ cls := "EditsMeet", name := "shelfAt", desc := "(I)LEditsMeet$Shelf;" } : Jvm.MethodName) prog_1_method_9_code (2 : Nat) (Option.some (Jvm.ClassFile.FieldType.object "EditsMeet$Shelf"))) ∈ xTs := xT_3 172 (by rfl) rfl
theorem w_765 : (Jvm.Cond.methodLink "EditsMeet" (98 : Nat) ({ cls := "EditsMeet", name := "refuse", desc := "(I)I" } : Jvm.MethodName)) ∈ xTs := xT_3 173 (by rfl) rfl
theorem w_767 : (Jvm.Cond.instanceMethod ({ cls := "EditsMeet", name := "refuse", desc := "(I)I" } : Jvm.MethodName)) ∈ xTs := xT_3 175 (by rfl) rfl
theorem w_768 : (Jvm.Cond.code ({ cls := "EditsMeet", name := "refuse", desc := "(I)I" } : Jvm.MethodName) prog_1_method_59_code (3 : Nat) (Option.some Jvm.ClassFile.FieldType.int)) ∈ xTs := xT_3 176 (by rfl) rfl
theorem w_769 : (Jvm.Cond.methodLink "EditsMeet" (102 : Nat) ({ cls := "EditsMeet$Shelf", name := "holdRow", desc := "(II)V" } : Jvm.MethodName)) ∈ xTs := xT_3 177 (by rfl) rfl
theorem w_770 : (Jvm.Cond.instanceMethod ({ cls := "EditsMeet$Shelf", name := "holdRow", desc := "(II)V" } : Jvm.MethodName)) ∈ xTs := xT_3 178 (by rfl) rfl
theorem w_771 : (Jvm.Cond.selects "EditsMeet$Shelf" ({ cls := "EditsMeet$Shelf", name := "holdRow", desc := "(II)V" } : Jvm.MethodName) ({ cls := "EditsMeet$Shelf", name := "holdRow", desc := "(II)V" } : Jvm.MethodName)) ∈ xTs := xT_3 179 (by rfl) rfl
theorem w_772 : (Jvm.Cond.code ({ cls := "EditsMeet$Shelf", name := "holdRow", desc := "(II)V" } : Jvm.MethodName) prog_7_method_6_code (3 : Nat) (Option.none : Option Jvm.ClassFile.FieldType)) ∈ xTs := xT_3 180 (by rfl) rfl
theorem w_773 : (Jvm.Cond.methodLink "EditsMeet$Shelf" (23 : Nat) ({ cls := "java/util/Arrays", name := "fill", desc := "([JJ)V" } : Jvm.MethodName)) ∈ xTs := xT_3 181 (by rfl) rfl
theorem w_774 : (Jvm.Cond.static ({ cls := "java/util/Arrays", name := "fill", desc := "([JJ)V" } : Jvm.MethodName)) ∈ xTs := xT_3 182 (by rfl) rfl
theorem w_775 : (Jvm.Cond.code ({ cls := "java/util/Arrays", name := "fill", desc := "([JJ)V" } : Jvm.MethodName) prog_24_method_101_code (5 : Nat) (Option.none : Option Jvm.ClassFile.FieldType)) ∈ xTs := xT_3 183 (by rfl) rfl
theorem w_776 : (Jvm.Cond.methodLink "EditsMeetLaw" (20 : Nat) ({ cls := "EditsMeet", name := "set", desc := "(IIJ)I" } : Jvm.MethodName)) ∈ xTs := xT_3 184 (by rfl) rfl
theorem w_777 : (Jvm.Cond.instanceMethod ({ cls := "EditsMeet", name := "set", desc := "(IIJ)I" } : Jvm.MethodName)) ∈ xTs := xT_3 185 (by rfl) rfl
theorem w_778 : (Jvm.Cond.selects "EditsMeet" ({ cls := "EditsMeet", name := "set", desc := "(IIJ)I" } : Jvm.MethodName) ({ cls := "EditsMeet", name := "set", desc := "(IIJ)I" } : Jvm.MethodName)) ∈ xTs := xT_3 186 (by rfl) rfl
theorem w_779 : (Jvm.Cond.code ({ cls := "EditsMeet", name := "set", desc := "(IIJ)I" } : Jvm.MethodName) prog_1_method_3_code (6 : Nat) (Option.some Jvm.ClassFile.FieldType.int)) ∈ xTs := xT_3 187 (by rfl) rfl
theorem w_780 : (Jvm.Cond.methodLink "EditsMeet" (106 : Nat) ({ cls := "EditsMeet$Shelf", name := "holdsPart", desc := "()Z" } : Jvm.MethodName)) ∈ xTs := xT_3 188 (by rfl) rfl
theorem w_781 : (Jvm.Cond.instanceMethod ({ cls := "EditsMeet$Shelf", name := "holdsPart", desc := "()Z" } : Jvm.MethodName)) ∈ xTs := xT_3 189 (by rfl) rfl
theorem w_782 : (Jvm.Cond.selects "EditsMeet$Shelf" ({ cls := "EditsMeet$Shelf", name := "holdsPart", desc := "()Z" } : Jvm.MethodName) ({ cls := "EditsMeet$Shelf", name := "holdsPart", desc := "()Z" } : Jvm.MethodName)) ∈ xTs := xT_3 190 (by rfl) rfl
theorem w_783 : (Jvm.Cond.code ({ cls := "EditsMeet$Shelf", name := "holdsPart", desc := "()Z" } : Jvm.MethodName) prog_7_method_4_code (1 : Nat) (Option.some Jvm.ClassFile.FieldType.boolean)) ∈ xTs := xT_3 191 (by rfl) rfl
theorem w_784 : (Jvm.Cond.methodLink "EditsMeet" (110 : Nat) ({ cls := "EditsMeet$Shelf", name := "holdsNothing", desc := "()Z" } : Jvm.MethodName)) ∈ xTs := xT_3 192 (by rfl) rfl
theorem w_785 : (Jvm.Cond.instanceMethod ({ cls := "EditsMeet$Shelf", name := "holdsNothing", desc := "()Z" } : Jvm.MethodName)) ∈ xTs := xT_3 193 (by rfl) rfl
theorem w_786 : (Jvm.Cond.selects "EditsMeet$Shelf" ({ cls := "EditsMeet$Shelf", name := "holdsNothing", desc := "()Z" } : Jvm.MethodName) ({ cls := "EditsMeet$Shelf", name := "holdsNothing", desc := "()Z" } : Jvm.MethodName)) ∈ xTs := xT_3 194 (by rfl) rfl
theorem w_787 : (Jvm.Cond.code ({ cls := "EditsMeet$Shelf", name := "holdsNothing", desc := "()Z" } : Jvm.MethodName) prog_7_method_2_code (1 : Nat) (Option.some Jvm.ClassFile.FieldType.boolean)) ∈ xTs := xT_3 195 (by rfl) rfl
theorem w_796 : (Jvm.Cond.methodLink "EditsMeetLaw" (25 : Nat) ({ cls := "EditsMeet", name := "copy", desc := "(IIIII)I" } : Jvm.MethodName)) ∈ xTs := xT_3 204 (by rfl) rfl
theorem w_797 : (Jvm.Cond.instanceMethod ({ cls := "EditsMeet", name := "copy", desc := "(IIIII)I" } : Jvm.MethodName)) ∈ xTs := xT_3 205 (by rfl) rfl
theorem w_798 : (Jvm.Cond.selects "EditsMeet" ({ cls := "EditsMeet", name := "copy", desc := "(IIIII)I" } : Jvm.MethodName) ({ cls := "EditsMeet", name := "copy", desc := "(IIIII)I" } : Jvm.MethodName)) ∈ xTs := xT_3 206 (by rfl) rfl
theorem w_799 : (Jvm.Cond.code ({ cls := "EditsMeet", name := "copy", desc := "(IIIII)I" } : Jvm.MethodName) prog_1_method_4_code (9 : Nat) (Option.some Jvm.ClassFile.FieldType.int)) ∈ xTs := xT_3 207 (by rfl) rfl
theorem w_800 : (Jvm.Cond.methodLink "EditsMeet" (125 : Nat) ({ cls := "EditsMeet", name := "isStretch", desc := "(IIJ)Z" } : Jvm.MethodName)) ∈ xTs := xT_3 208 (by rfl) rfl
theorem w_801 : (Jvm.Cond.static ({ cls := "EditsMeet", name := "isStretch", desc := "(IIJ)Z" } : Jvm.MethodName)) ∈ xTs := xT_3 209 (by rfl) rfl
theorem w_802 : (Jvm.Cond.code ({ cls := "EditsMeet", name := "isStretch", desc := "(IIJ)Z" } : Jvm.MethodName) prog_1_method_10_code (4 : Nat) (Option.some Jvm.ClassFile.FieldType.boolean)) ∈ xTs := xT_3 210 (by rfl) rfl
theorem w_809 : (Jvm.Cond.methodLink "EditsMeetLaw" (30 : Nat) ({ cls := "EditsMeet", name := "element", desc := "(II)J" } : Jvm.MethodName)) ∈ xTs := xT_3 217 (by rfl) rfl
theorem w_810 : (Jvm.Cond.instanceMethod ({ cls := "EditsMeet", name := "element", desc := "(II)J" } : Jvm.MethodName)) ∈ xTs := xT_3 218 (by rfl) rfl
theorem w_811 : (Jvm.Cond.selects "EditsMeet" ({ cls := "EditsMeet", name := "element", desc := "(II)J" } : Jvm.MethodName) ({ cls := "EditsMeet", name := "element", desc := "(II)J" } : Jvm.MethodName)) ∈ xTs := xT_3 219 (by rfl) rfl
theorem w_812 : (Jvm.Cond.code ({ cls := "EditsMeet", name := "element", desc := "(II)J" } : Jvm.MethodName) prog_1_method_5_code (4 : Nat) (Option.some Jvm.ClassFile.FieldType.long)) ∈ xTs := xT_3 220 (by rfl) rfl
theorem w_813 : (Jvm.Cond.methodLink "EditsMeet" (133 : Nat) ({ cls := "EditsMeet$Shelf", name := "at", desc := "(I)J" } : Jvm.MethodName)) ∈ xTs := xT_3 221 (by rfl) rfl
theorem w_814 : (Jvm.Cond.instanceMethod ({ cls := "EditsMeet$Shelf", name := "at", desc := "(I)J" } : Jvm.MethodName)) ∈ xTs := xT_3 222 (by rfl) rfl
theorem w_815 : (Jvm.Cond.selects "EditsMeet$Shelf" ({ cls := "EditsMeet$Shelf", name := "at", desc := "(I)J" } : Jvm.MethodName) ({ cls := "EditsMeet$Shelf", name := "at", desc := "(I)J" } : Jvm.MethodName)) ∈ xTs := xT_3 223 (by rfl) rfl
theorem w_816 : (Jvm.Cond.code ({ cls := "EditsMeet$Shelf", name := "at", desc := "(I)J" } : Jvm.MethodName) prog_7_method_10_code (2 : Nat) (Option.some Jvm.ClassFile.FieldType.long)) ∈ xTs := xT_3 224 (by rfl) rfl
theorem w_817 : (Jvm.Cond.methodLink "EditsMeet$Shelf" (70 : Nat) ({ cls := "EditsMeet$Shelf", name := "holdsRow", desc := "()Z" } : Jvm.MethodName)) ∈ xTs := xT_3 225 (by rfl) rfl
theorem w_818 : (Jvm.Cond.instanceMethod ({ cls := "EditsMeet$Shelf", name := "holdsRow", desc := "()Z" } : Jvm.MethodName)) ∈ xTs := xT_3 226 (by rfl) rfl
theorem w_819 : (Jvm.Cond.selects "EditsMeet$Shelf" ({ cls := "EditsMeet$Shelf", name := "holdsRow", desc := "()Z" } : Jvm.MethodName) ({ cls := "EditsMeet$Shelf", name := "holdsRow", desc := "()Z" } : Jvm.MethodName)) ∈ xTs := xT_3 227 (by rfl) rfl
theorem w_820 : (Jvm.Cond.code ({ cls := "EditsMeet$Shelf", name := "holdsRow", desc := "()Z" } : Jvm.MethodName) prog_7_method_3_code (1 : Nat) (Option.some Jvm.ClassFile.FieldType.boolean)) ∈ xTs := xT_3 228 (by rfl) rfl
theorem w_821 : (Jvm.Cond.methodLink "EditsMeetLaw" (35 : Nat) ({ cls := "EditsMeet", name := "holds", desc := "(I)I" } : Jvm.MethodName)) ∈ xTs := xT_3 229 (by rfl) rfl
theorem w_822 : (Jvm.Cond.instanceMethod ({ cls := "EditsMeet", name := "holds", desc := "(I)I" } : Jvm.MethodName)) ∈ xTs := xT_3 230 (by rfl) rfl
theorem w_823 : (Jvm.Cond.selects "EditsMeet" ({ cls := "EditsMeet", name := "holds", desc := "(I)I" } : Jvm.MethodName) ({ cls := "EditsMeet", name := "holds", desc := "(I)I" } : Jvm.MethodName)) ∈ xTs := xT_3 231 (by rfl) rfl
theorem w_824 : (Jvm.Cond.code ({ cls := "EditsMeet", name := "holds", desc := "(I)I" } : Jvm.MethodName) prog_1_method_6_code (3 : Nat) (Option.some Jvm.ClassFile.FieldType.int)) ∈ xTs := xT_3 232 (by rfl) rfl
theorem w_825 : (Jvm.Cond.methodLink "EditsMeetLaw" (40 : Nat) ({ cls := "EditsMeet", name := "show", desc := "(III)I" } : Jvm.MethodName)) ∈ xTs := xT_3 233 (by rfl) rfl
theorem w_826 : (Jvm.Cond.instanceMethod ({ cls := "EditsMeet", name := "show", desc := "(III)I" } : Jvm.MethodName)) ∈ xTs := xT_3 234 (by rfl) rfl
theorem w_827 : (Jvm.Cond.selects "EditsMeet" ({ cls := "EditsMeet", name := "show", desc := "(III)I" } : Jvm.MethodName) ({ cls := "EditsMeet", name := "show", desc := "(III)I" } : Jvm.MethodName)) ∈ xTs := xT_3 235 (by rfl) rfl
theorem w_828 : (Jvm.Cond.code ({ cls := "EditsMeet", name := "show", desc := "(III)I" } : Jvm.MethodName) prog_1_method_7_code (6 : Nat) (Option.some Jvm.ClassFile.FieldType.int)) ∈ xTs := xT_3 236 (by rfl) rfl
theorem w_829 : (Jvm.Cond.methodLink "EditsMeet" (137 : Nat) ({ cls := "EditsMeet", name := "isNumber", desc := "(I)Z" } : Jvm.MethodName)) ∈ xTs := xT_3 237 (by rfl) rfl
theorem w_830 : (Jvm.Cond.static ({ cls := "EditsMeet", name := "isNumber", desc := "(I)Z" } : Jvm.MethodName)) ∈ xTs := xT_3 238 (by rfl) rfl
theorem w_831 : (Jvm.Cond.code ({ cls := "EditsMeet", name := "isNumber", desc := "(I)Z" } : Jvm.MethodName) prog_1_method_24_code (1 : Nat) (Option.some Jvm.ClassFile.FieldType.boolean)) ∈ xTs := xT_3 239 (by rfl) rfl
theorem w_832 : (Jvm.Cond.methodLink "EditsMeet" (141 : Nat) ({ cls := "EditsMeet$Shelf", name := "holdNothing", desc := "()V" } : Jvm.MethodName)) ∈ xTs := xT_4 0 (by rfl) rfl
theorem w_833 : (Jvm.Cond.instanceMethod ({ cls := "EditsMeet$Shelf", name := "holdNothing", desc := "()V" } : Jvm.MethodName)) ∈ xTs := xT_4 1 (by rfl) rfl
theorem w_834 : (Jvm.Cond.selects "EditsMeet$Shelf" ({ cls := "EditsMeet$Shelf", name := "holdNothing", desc := "()V" } : Jvm.MethodName) ({ cls := "EditsMeet$Shelf", name := "holdNothing", desc := "()V" } : Jvm.MethodName)) ∈ xTs := xT_4 2 (by rfl) rfl
theorem w_835 : (Jvm.Cond.code ({ cls := "EditsMeet$Shelf", name := "holdNothing", desc := "()V" } : Jvm.MethodName) prog_7_method_5_code (1 : Nat) (Option.none : Option Jvm.ClassFile.FieldType)) ∈ xTs := xT_4 3 (by rfl) rfl
theorem w_836 : (Jvm.Cond.methodLink "EditsMeet" (144 : Nat) ({ cls := "EditsMeet", name := "isEdit", desc := "(I)Z" } : Jvm.MethodName)) ∈ xTs := xT_4 4 (by rfl) rfl
theorem w_838 : (Jvm.Cond.instanceMethod ({ cls := "EditsMeet", name := "isEdit", desc := "(I)Z" } : Jvm.MethodName)) ∈ xTs := xT_4 6 (by rfl) rfl
theorem w_839 : (Jvm.Cond.code ({ cls := "EditsMeet", name := "isEdit", desc := "(I)Z" } : Jvm.MethodName) prog_1_method_25_code (2 : Nat) (Option.some Jvm.ClassFile.FieldType.boolean)) ∈ xTs := xT_4 7 (by rfl) rfl
theorem w_840 : (Jvm.Cond.methodLink "EditsMeet" (147 : Nat) ({ cls := "EditsMeet$Slots", name := "at", desc := "(I)I" } : Jvm.MethodName)) ∈ xTs := xT_4 8 (by rfl) rfl
theorem w_841 : (Jvm.Cond.instanceMethod ({ cls := "EditsMeet$Slots", name := "at", desc := "(I)I" } : Jvm.MethodName)) ∈ xTs := xT_4 9 (by rfl) rfl
theorem w_842 : (Jvm.Cond.selects "EditsMeet$Slots" ({ cls := "EditsMeet$Slots", name := "at", desc := "(I)I" } : Jvm.MethodName) ({ cls := "EditsMeet$Slots", name := "at", desc := "(I)I" } : Jvm.MethodName)) ∈ xTs := xT_4 10 (by rfl) rfl
theorem w_843 : (Jvm.Cond.code ({ cls := "EditsMeet$Slots", name := "at", desc := "(I)I" } : Jvm.MethodName) prog_8_method_2_code (2 : Nat) (Option.some Jvm.ClassFile.FieldType.int)) ∈ xTs := xT_4 11 (by rfl) rfl
theorem w_844 : (Jvm.Cond.methodLink "EditsMeet" (151 : Nat) ({ cls := "EditsMeet", name := "fetched", desc := "(I)I" } : Jvm.MethodName)) ∈ xTs := xT_4 12 (by rfl) rfl
theorem w_846 : (Jvm.Cond.instanceMethod ({ cls := "EditsMeet", name := "fetched", desc := "(I)I" } : Jvm.MethodName)) ∈ xTs := xT_4 14 (by rfl) rfl
theorem w_847 : (Jvm.Cond.code ({ cls := "EditsMeet", name := "fetched", desc := "(I)I" } : Jvm.MethodName) prog_1_method_26_code (2 : Nat) (Option.some Jvm.ClassFile.FieldType.int)) ∈ xTs := xT_4 15 (by rfl) rfl
theorem w_848 : (Jvm.Cond.methodLink "EditsMeet" (239 : Nat) ({ cls := "EditsMeet$Loom", name := "weave", desc := "(III)I" } : Jvm.MethodName)) ∈ xTs := xT_4 16 (by rfl) rfl
theorem w_849 : (Jvm.Cond.instanceMethod ({ cls := "EditsMeet$Loom", name := "weave", desc := "(III)I" } : Jvm.MethodName)) ∈ xTs := xT_4 17 (by rfl) rfl
theorem w_850 : (Jvm.Cond.selects "EditsMeet$Loom" ({ cls := "EditsMeet$Loom", name := "weave", desc := "(III)I" } : Jvm.MethodName) ({ cls := "EditsMeet$Loom", name := "weave", desc := "(III)I" } : Jvm.MethodName)) ∈ xTs := xT_4 18 (by rfl) rfl
theorem w_851 : (Jvm.Cond.code ({ cls := "EditsMeet$Loom", name := "weave", desc := "(III)I" } : Jvm.MethodName) prog_4_method_3_code (9 : Nat) (Option.some Jvm.ClassFile.FieldType.int)) ∈ xTs := xT_4 19 (by rfl) rfl
theorem w_852 : (Jvm.Cond.methodLink "EditsMeet$Loom" (94 : Nat) ({ cls := "EditsMeet$Works", name := "begin", desc := "(III)I" } : Jvm.MethodName)) ∈ xTs := xT_4 20 (by rfl) rfl
theorem w_853 : (Jvm.Cond.instanceMethod ({ cls := "EditsMeet$Works", name := "begin", desc := "(III)I" } : Jvm.MethodName)) ∈ xTs := xT_4 21 (by rfl) rfl
theorem w_854 : (Jvm.Cond.selects "EditsMeet$Works" ({ cls := "EditsMeet$Works", name := "begin", desc := "(III)I" } : Jvm.MethodName) ({ cls := "EditsMeet$Works", name := "begin", desc := "(III)I" } : Jvm.MethodName)) ∈ xTs := xT_4 22 (by rfl) rfl
theorem w_855 : (Jvm.Cond.code ({ cls := "EditsMeet$Works", name := "begin", desc := "(III)I" } : Jvm.MethodName) prog_12_method_12_code (5 : Nat) (Option.some Jvm.ClassFile.FieldType.int)) ∈ xTs := xT_4 23 (by rfl) rfl
theorem w_856 : (Jvm.Cond.methodLink "EditsMeet$Works" (78 : Nat) ({ cls := "EditsMeet$Works", name := "spare", desc := "()I" } : Jvm.MethodName)) ∈ xTs := xT_4 24 (by rfl) rfl
theorem w_858 : (Jvm.Cond.instanceMethod ({ cls := "EditsMeet$Works", name := "spare", desc := "()I" } : Jvm.MethodName)) ∈ xTs := xT_4 26 (by rfl) rfl
theorem w_859 : (Jvm.Cond.code ({ cls := "EditsMeet$Works", name := "spare", desc := "()I" } : Jvm.MethodName) prog_12_method_15_code (2 : Nat) (Option.some Jvm.ClassFile.FieldType.int)) ∈ xTs := xT_4 27 (by rfl) rfl
theorem w_893 : (Jvm.Cond.methodLink "EditsMeet$Works" (67 : Nat) ({ cls := "EditsMeet$Works", name := "isWork", desc := "(I)Z" } : Jvm.MethodName)) ∈ xTs := xT_4 61 (by rfl) rfl
theorem w_894 : (Jvm.Cond.static ({ cls := "EditsMeet$Works", name := "isWork", desc := "(I)Z" } : Jvm.MethodName)) ∈ xTs := xT_4 62 (by rfl) rfl
theorem w_895 : (Jvm.Cond.code ({ cls := "EditsMeet$Works", name := "isWork", desc := "(I)Z" } : Jvm.MethodName) prog_12_method_3_code (1 : Nat) (Option.some Jvm.ClassFile.FieldType.boolean)) ∈ xTs := xT_4 63 (by rfl) rfl
theorem w_897 : (Jvm.Cond.instanceMethod ({ cls := "EditsMeet$Works", name := "one", desc := "(I)I" } : Jvm.MethodName)) ∈ xTs := xT_4 65 (by rfl) rfl
theorem w_898 : (Jvm.Cond.selects "EditsMeet$Works" ({ cls := "EditsMeet$Works", name := "one", desc := "(I)I" } : Jvm.MethodName) ({ cls := "EditsMeet$Works", name := "one", desc := "(I)I" } : Jvm.MethodName)) ∈ xTs := xT_4 66 (by rfl) rfl
theorem w_899 : (Jvm.Cond.code ({ cls := "EditsMeet$Works", name := "one", desc := "(I)I" } : Jvm.MethodName) prog_12_method_9_code (2 : Nat) (Option.some Jvm.ClassFile.FieldType.int)) ∈ xTs := xT_4 67 (by rfl) rfl
theorem w_901 : (Jvm.Cond.instanceMethod ({ cls := "EditsMeet$Works", name := "two", desc := "(I)I" } : Jvm.MethodName)) ∈ xTs := xT_4 69 (by rfl) rfl
theorem w_902 : (Jvm.Cond.selects "EditsMeet$Works" ({ cls := "EditsMeet$Works", name := "two", desc := "(I)I" } : Jvm.MethodName) ({ cls := "EditsMeet$Works", name := "two", desc := "(I)I" } : Jvm.MethodName)) ∈ xTs := xT_4 70 (by rfl) rfl
theorem w_903 : (Jvm.Cond.code ({ cls := "EditsMeet$Works", name := "two", desc := "(I)I" } : Jvm.MethodName) prog_12_method_10_code (2 : Nat) (Option.some Jvm.ClassFile.FieldType.int)) ∈ xTs := xT_4 71 (by rfl) rfl
theorem w_908 : (Jvm.Cond.methodLink "EditsMeet$Works" (92 : Nat) ({ cls := "EditsMeet$Slots", name := "put", desc := "(II)V" } : Jvm.MethodName)) ∈ xTs := xT_4 76 (by rfl) rfl
theorem w_909 : (Jvm.Cond.instanceMethod ({ cls := "EditsMeet$Slots", name := "put", desc := "(II)V" } : Jvm.MethodName)) ∈ xTs := xT_4 77 (by rfl) rfl
theorem w_910 : (Jvm.Cond.selects "EditsMeet$Slots" ({ cls := "EditsMeet$Slots", name := "put", desc := "(II)V" } : Jvm.MethodName) ({ cls := "EditsMeet$Slots", name := "put", desc := "(II)V" } : Jvm.MethodName)) ∈ xTs := xT_4 78 (by rfl) rfl
theorem w_911 : (Jvm.Cond.code ({ cls := "EditsMeet$Slots", name := "put", desc := "(II)V" } : Jvm.MethodName) prog_8_method_3_code (3 : Nat) (Option.none : Option Jvm.ClassFile.FieldType)) ∈ xTs := xT_4 79 (by rfl) rfl
theorem w_912 : (Jvm.Cond.constantLong "EditsMeet$Works" (86 : Nat) (2147483648 : Int64)) ∈ xTs := xT_4 80 (by rfl) rfl
theorem w_913 : (Jvm.Cond.methodLink "EditsMeet$Loom" (72 : Nat) ({ cls := "EditsMeet$Slots", name := "put", desc := "(II)V" } : Jvm.MethodName)) ∈ xTs := xT_4 81 (by rfl) rfl
theorem w_914 : (Jvm.Cond.methodLink "EditsMeet$Loom" (98 : Nat) ({ cls := "EditsMeet$Works", name := "use", desc := "(I)V" } : Jvm.MethodName)) ∈ xTs := xT_4 82 (by rfl) rfl
theorem w_915 : (Jvm.Cond.instanceMethod ({ cls := "EditsMeet$Works", name := "use", desc := "(I)V" } : Jvm.MethodName)) ∈ xTs := xT_4 83 (by rfl) rfl
theorem w_916 : (Jvm.Cond.selects "EditsMeet$Works" ({ cls := "EditsMeet$Works", name := "use", desc := "(I)V" } : Jvm.MethodName) ({ cls := "EditsMeet$Works", name := "use", desc := "(I)V" } : Jvm.MethodName)) ∈ xTs := xT_4 84 (by rfl) rfl
theorem w_917 : (Jvm.Cond.code ({ cls := "EditsMeet$Works", name := "use", desc := "(I)V" } : Jvm.MethodName) prog_12_method_11_code (2 : Nat) (Option.none : Option Jvm.ClassFile.FieldType)) ∈ xTs := xT_4 85 (by rfl) rfl
theorem w_918 : (Jvm.Cond.methodLink "EditsMeet$Loom" (108 : Nat) ({ cls := "EditsMeet$Works", name := "isThere", desc := "(I)Z" } : Jvm.MethodName)) ∈ xTs := xT_4 86 (by rfl) rfl
theorem w_919 : (Jvm.Cond.instanceMethod ({ cls := "EditsMeet$Works", name := "isThere", desc := "(I)Z" } : Jvm.MethodName)) ∈ xTs := xT_4 87 (by rfl) rfl
theorem w_920 : (Jvm.Cond.selects "EditsMeet$Works" ({ cls := "EditsMeet$Works", name := "isThere", desc := "(I)Z" } : Jvm.MethodName) ({ cls := "EditsMeet$Works", name := "isThere", desc := "(I)Z" } : Jvm.MethodName)) ∈ xTs := xT_4 88 (by rfl) rfl
theorem w_921 : (Jvm.Cond.code ({ cls := "EditsMeet$Works", name := "isThere", desc := "(I)Z" } : Jvm.MethodName) prog_12_method_7_code (2 : Nat) (Option.some Jvm.ClassFile.FieldType.boolean)) ∈ xTs := xT_4 89 (by rfl) rfl
theorem w_922 : (Jvm.Cond.constant "EditsMeet$Loom" (112 : Nat) (268435456 : Int32)) ∈ xTs := xT_4 90 (by rfl) rfl
theorem w_923 : (Jvm.Cond.methodLink "EditsMeet$Loom" (78 : Nat) ({ cls := "EditsMeet$Loom", name := "tidy", desc := "(I)V" } : Jvm.MethodName)) ∈ xTs := xT_4 91 (by rfl) rfl
theorem w_924 : (Jvm.Cond.instanceMethod ({ cls := "EditsMeet$Loom", name := "tidy", desc := "(I)V" } : Jvm.MethodName)) ∈ xTs := xT_4 92 (by rfl) rfl
theorem w_925 : (Jvm.Cond.selects "EditsMeet$Loom" ({ cls := "EditsMeet$Loom", name := "tidy", desc := "(I)V" } : Jvm.MethodName) ({ cls := "EditsMeet$Loom", name := "tidy", desc := "(I)V" } : Jvm.MethodName)) ∈ xTs := xT_4 93 (by rfl) rfl
theorem w_926 : (Jvm.Cond.code ({ cls := "EditsMeet$Loom", name := "tidy", desc := "(I)V" } : Jvm.MethodName) prog_4_method_16_code (3 : Nat) (Option.none : Option Jvm.ClassFile.FieldType)) ∈ xTs := xT_4 94 (by rfl) rfl
theorem w_927 : (Jvm.Cond.methodLink "EditsMeet$Loom" (272 : Nat) ({ cls := "EditsMeet$Trees", name := "isScarce", desc := "()Z" } : Jvm.MethodName)) ∈ xTs := xT_4 95 (by rfl) rfl
theorem w_928 : (Jvm.Cond.instanceMethod ({ cls := "EditsMeet$Trees", name := "isScarce", desc := "()Z" } : Jvm.MethodName)) ∈ xTs := xT_4 96 (by rfl) rfl
theorem w_929 : (Jvm.Cond.selects "EditsMeet$Trees" ({ cls := "EditsMeet$Trees", name := "isScarce", desc := "()Z" } : Jvm.MethodName) ({ cls := "EditsMeet$Trees", name := "isScarce", desc := "()Z" } : Jvm.MethodName)) ∈ xTs := xT_4 97 (by rfl) rfl
theorem w_930 : (Jvm.Cond.code ({ cls := "EditsMeet$Trees", name := "isScarce", desc := "()Z" } : Jvm.MethodName) prog_11_method_31_code (1 : Nat) (Option.some Jvm.ClassFile.FieldType.boolean)) ∈ xTs := xT_4 98 (by rfl) rfl
theorem w_931 : (Jvm.Cond.methodLink "EditsMeet$Trees" (142 : Nat) ({ cls := "java/lang/Math", name := "min", desc := "(II)I" } : Jvm.MethodName)) ∈ xTs := xT_4 99 (by rfl) rfl
theorem w_933 : (Jvm.Cond.instanceMethod ({ cls := "EditsMeet$Slots", name := "dropFrom", desc := "(I)V" } : Jvm.MethodName)) ∈ xTs := xT_4 101 (by rfl) rfl
theorem w_934 : (Jvm.Cond.selects "EditsMeet$Slots" ({ cls := "EditsMeet$Slots", name := "dropFrom", desc := "(I)V" } : Jvm.MethodName) ({ cls := "EditsMeet$Slots", name := "dropFrom", desc := "(I)V" } : Jvm.MethodName)) ∈ xTs := xT_4 102 (by rfl) rfl
theorem w_935 : (Jvm.Cond.code ({ cls := "EditsMeet$Slots", name := "dropFrom", desc := "(I)V" } : Jvm.MethodName) prog_8_method_4_code (3 : Nat) (Option.none : Option Jvm.ClassFile.FieldType)) ∈ xTs := xT_4 103 (by rfl) rfl
theorem w_969 : (Jvm.Cond.methodLink "EditsMeet$Trees" (80 : Nat) ({ cls := "EditsMeet$Trees", name := "right", desc := "(I)I" } : Jvm.MethodName)) ∈ xTs := xT_4 137 (by rfl) rfl
theorem w_970 : (Jvm.Cond.instanceMethod ({ cls := "EditsMeet$Trees", name := "right", desc := "(I)I" } : Jvm.MethodName)) ∈ xTs := xT_4 138 (by rfl) rfl
theorem w_971 : (Jvm.Cond.selects "EditsMeet$Trees" ({ cls := "EditsMeet$Trees", name := "right", desc := "(I)I" } : Jvm.MethodName) ({ cls := "EditsMeet$Trees", name := "right", desc := "(I)I" } : Jvm.MethodName)) ∈ xTs := xT_4 139 (by rfl) rfl
theorem w_972 : (Jvm.Cond.code ({ cls := "EditsMeet$Trees", name := "right", desc := "(I)I" } : Jvm.MethodName) prog_11_method_4_code (2 : Nat) (Option.some Jvm.ClassFile.FieldType.int)) ∈ xTs := xT_4 140 (by rfl) rfl
theorem w_973 : (Jvm.Cond.constant "EditsMeet$Trees" (77 : Nat) (2097151 : Int32)) ∈ xTs := xT_4 141 (by rfl) rfl
theorem w_974 : (Jvm.Cond.methodLink "EditsMeet$Trees" (114 : Nat) ({ cls := "EditsMeet$Trees", name := "left", desc := "(I)I" } : Jvm.MethodName)) ∈ xTs := xT_4 142 (by rfl) rfl
theorem w_975 : (Jvm.Cond.instanceMethod ({ cls := "EditsMeet$Trees", name := "left", desc := "(I)I" } : Jvm.MethodName)) ∈ xTs := xT_4 143 (by rfl) rfl
theorem w_976 : (Jvm.Cond.selects "EditsMeet$Trees" ({ cls := "EditsMeet$Trees", name := "left", desc := "(I)I" } : Jvm.MethodName) ({ cls := "EditsMeet$Trees", name := "left", desc := "(I)I" } : Jvm.MethodName)) ∈ xTs := xT_4 144 (by rfl) rfl
theorem w_977 : (Jvm.Cond.code ({ cls := "EditsMeet$Trees", name := "left", desc := "(I)I" } : Jvm.MethodName) prog_11_method_3_code (2 : Nat) (Option.some Jvm.ClassFile.FieldType.int)) ∈ xTs := xT_4 145 (by rfl) rfl
theorem w_983 : (Jvm.Cond.constantLong "EditsMeet$Trees" (78 : Nat) (4294967295 : Int64)) ∈ xTs := xT_4 151 (by rfl) rfl
theorem w_989 : (Jvm.Cond.methodLink "EditsMeet$Trees" (87 : Nat) ({ cls := "EditsMeet$Trees", name := "from", desc := "(I)J" } : Jvm.MethodName)) ∈ xTs := xT_4 157 (by rfl) rfl
theorem w_990 : (Jvm.Cond.instanceMethod ({ cls := "EditsMeet$Trees", name := "from", desc := "(I)J" } : Jvm.MethodName)) ∈ xTs := xT_4 158 (by rfl) rfl
theorem w_991 : (Jvm.Cond.selects "EditsMeet$Trees" ({ cls := "EditsMeet$Trees", name := "from", desc := "(I)J" } : Jvm.MethodName) ({ cls := "EditsMeet$Trees", name := "from", desc := "(I)J" } : Jvm.MethodName)) ∈ xTs := xT_4 159 (by rfl) rfl
theorem w_992 : (Jvm.Cond.code ({ cls := "EditsMeet$Trees", name := "from", desc := "(I)J" } : Jvm.MethodName) prog_11_method_12_code (3 : Nat) (Option.some Jvm.ClassFile.FieldType.long)) ∈ xTs := xT_4 160 (by rfl) rfl
theorem w_993 : (Jvm.Cond.methodLink "EditsMeet$Trees" (91 : Nat) ({ cls := "EditsMeet$Trees", name := "to", desc := "(I)J" } : Jvm.MethodName)) ∈ xTs := xT_4 161 (by rfl) rfl
theorem w_994 : (Jvm.Cond.instanceMethod ({ cls := "EditsMeet$Trees", name := "to", desc := "(I)J" } : Jvm.MethodName)) ∈ xTs := xT_4 162 (by rfl) rfl
theorem w_995 : (Jvm.Cond.selects "EditsMeet$Trees" ({ cls := "EditsMeet$Trees", name := "to", desc := "(I)J" } : Jvm.MethodName) ({ cls := "EditsMeet$Trees", name := "to", desc := "(I)J" } : Jvm.MethodName)) ∈ xTs := xT_4 163 (by rfl) rfl
theorem w_996 : (Jvm.Cond.code ({ cls := "EditsMeet$Trees", name := "to", desc := "(I)J" } : Jvm.MethodName) prog_11_method_13_code (3 : Nat) (Option.some Jvm.ClassFile.FieldType.long)) ∈ xTs := xT_4 164 (by rfl) rfl
theorem w_997 : (Jvm.Cond.methodLink "EditsMeet$Trees" (144 : Nat) ({ cls := "EditsMeet$Trees", name := "placeOf", desc := "(JJ)I" } : Jvm.MethodName)) ∈ xTs := xT_4 165 (by rfl) rfl
theorem w_998 : (Jvm.Cond.static ({ cls := "EditsMeet$Trees", name := "placeOf", desc := "(JJ)I" } : Jvm.MethodName)) ∈ xTs := xT_4 166 (by rfl) rfl
theorem w_999 : (Jvm.Cond.code ({ cls := "EditsMeet$Trees", name := "placeOf", desc := "(JJ)I" } : Jvm.MethodName) prog_11_method_28_code (6 : Nat) (Option.some Jvm.ClassFile.FieldType.int)) ∈ xTs := xT_4 167 (by rfl) rfl
theorem w_1000 : (Jvm.Cond.constantLong "EditsMeet$Trees" (171 : Nat) (-7046029254386353131 : Int64)) ∈ xTs := xT_4 168 (by rfl) rfl
theorem w_1001 : (Jvm.Cond.constantLong "EditsMeet$Trees" (173 : Nat) (-4658895280553007687 : Int64)) ∈ xTs := xT_4 169 (by rfl) rfl
theorem w_1002 : (Jvm.Cond.constantLong "EditsMeet$Trees" (175 : Nat) (9223372036854775807 : Int64)) ∈ xTs := xT_4 170 (by rfl) rfl
theorem w_1003 : (Jvm.Cond.constantLong "EditsMeet$Trees" (177 : Nat) (3145725 : Int64)) ∈ xTs := xT_4 171 (by rfl) rfl
theorem w_1004 : (Jvm.Cond.constant "EditsMeet$Trees" (151 : Nat) (3145725 : Int32)) ∈ xTs := xT_4 172 (by rfl) rfl
theorem w_1005 : (Jvm.Cond.methodLink "EditsMeet$Trees" (148 : Nat) ({ cls := "EditsMeet$Trees", name := "knownAt", desc := "(I)I" } : Jvm.MethodName)) ∈ xTs := xT_4 173 (by rfl) rfl
theorem w_1007 : (Jvm.Cond.instanceMethod ({ cls := "EditsMeet$Trees", name := "knownAt", desc := "(I)I" } : Jvm.MethodName)) ∈ xTs := xT_4 175 (by rfl) rfl
theorem w_1008 : (Jvm.Cond.code ({ cls := "EditsMeet$Trees", name := "knownAt", desc := "(I)I" } : Jvm.MethodName) prog_11_method_29_code (3 : Nat) (Option.some Jvm.ClassFile.FieldType.int)) ∈ xTs := xT_4 176 (by rfl) rfl
theorem w_1009 : (Jvm.Cond.methodLink "EditsMeet$Trees" (164 : Nat) ({ cls := "EditsMeet$Trees", name := "know", desc := "(II)V" } : Jvm.MethodName)) ∈ xTs := xT_4 177 (by rfl) rfl
theorem w_1011 : (Jvm.Cond.instanceMethod ({ cls := "EditsMeet$Trees", name := "know", desc := "(II)V" } : Jvm.MethodName)) ∈ xTs := xT_4 179 (by rfl) rfl
theorem w_1012 : (Jvm.Cond.code ({ cls := "EditsMeet$Trees", name := "know", desc := "(II)V" } : Jvm.MethodName) prog_11_method_30_code (4 : Nat) (Option.none : Option Jvm.ClassFile.FieldType)) ∈ xTs := xT_4 180 (by rfl) rfl
theorem w_1018 : (Jvm.Cond.methodLink "EditsMeet$Loom" (117 : Nat) ({ cls := "EditsMeet$Loom", name := "beginTask", desc := "(I)V" } : Jvm.MethodName)) ∈ xTs := xT_4 186 (by rfl) rfl
theorem w_1020 : (Jvm.Cond.instanceMethod ({ cls := "EditsMeet$Loom", name := "beginTask", desc := "(I)V" } : Jvm.MethodName)) ∈ xTs := xT_4 188 (by rfl) rfl
theorem w_1021 : (Jvm.Cond.code ({ cls := "EditsMeet$Loom", name := "beginTask", desc := "(I)V" } : Jvm.MethodName) prog_4_method_4_code (4 : Nat) (Option.none : Option Jvm.ClassFile.FieldType)) ∈ xTs := xT_4 189 (by rfl) rfl
theorem w_1022 : (Jvm.Cond.methodLink "EditsMeet$Loom" (146 : Nat) ({ cls := "EditsMeet$Works", name := "one", desc := "(I)I" } : Jvm.MethodName)) ∈ xTs := xT_4 190 (by rfl) rfl
theorem w_1023 : (Jvm.Cond.methodLink "EditsMeet$Loom" (149 : Nat) ({ cls := "EditsMeet$Works", name := "two", desc := "(I)I" } : Jvm.MethodName)) ∈ xTs := xT_4 191 (by rfl) rfl
theorem w_1024 : (Jvm.Cond.methodLink "EditsMeet$Loom" (152 : Nat) ({ cls := "EditsMeet$Works", name := "node", desc := "(I)I" } : Jvm.MethodName)) ∈ xTs := xT_4 192 (by rfl) rfl
theorem w_1025 : (Jvm.Cond.instanceMethod ({ cls := "EditsMeet$Works", name := "node", desc := "(I)I" } : Jvm.MethodName)) ∈ xTs := xT_4 193 (by rfl) rfl
theorem w_1026 : (Jvm.Cond.selects "EditsMeet$Works" ({ cls := "EditsMeet$Works", name := "node", desc := "(I)I" } : Jvm.MethodName) ({ cls := "EditsMeet$Works", name := "node", desc := "(I)I" } : Jvm.MethodName)) ∈ xTs := xT_4 194 (by rfl) rfl
theorem w_1027 : (Jvm.Cond.code ({ cls := "EditsMeet$Works", name := "node", desc := "(I)I" } : Jvm.MethodName) prog_12_method_4_code (2 : Nat) (Option.some Jvm.ClassFile.FieldType.int)) ∈ xTs := xT_4 195 (by rfl) rfl
theorem w_1028 : (Jvm.Cond.methodLink "EditsMeet$Works" (71 : Nat) ({ cls := "EditsMeet$Slots", name := "at", desc := "(I)I" } : Jvm.MethodName)) ∈ xTs := xT_4 196 (by rfl) rfl
theorem w_1029 : (Jvm.Cond.methodLink "EditsMeet$Loom" (143 : Nat) ({ cls := "EditsMeet$Loom", name := "push", desc := "(II)V" } : Jvm.MethodName)) ∈ xTs := xT_4 197 (by rfl) rfl
theorem w_1031 : (Jvm.Cond.instanceMethod ({ cls := "EditsMeet$Loom", name := "push", desc := "(II)V" } : Jvm.MethodName)) ∈ xTs := xT_4 199 (by rfl) rfl
theorem w_1032 : (Jvm.Cond.code ({ cls := "EditsMeet$Loom", name := "push", desc := "(II)V" } : Jvm.MethodName) prog_4_method_5_code (4 : Nat) (Option.none : Option Jvm.ClassFile.FieldType)) ∈ xTs := xT_4 200 (by rfl) rfl
theorem w_1033 : (Jvm.Cond.methodLink "EditsMeet$Loom" (120 : Nat) ({ cls := "EditsMeet$Works", name := "put", desc := "(II)V" } : Jvm.MethodName)) ∈ xTs := xT_4 201 (by rfl) rfl
theorem w_1034 : (Jvm.Cond.instanceMethod ({ cls := "EditsMeet$Works", name := "put", desc := "(II)V" } : Jvm.MethodName)) ∈ xTs := xT_4 202 (by rfl) rfl
theorem w_1035 : (Jvm.Cond.selects "EditsMeet$Works" ({ cls := "EditsMeet$Works", name := "put", desc := "(II)V" } : Jvm.MethodName) ({ cls := "EditsMeet$Works", name := "put", desc := "(II)V" } : Jvm.MethodName)) ∈ xTs := xT_4 203 (by rfl) rfl
theorem w_1036 : (Jvm.Cond.code ({ cls := "EditsMeet$Works", name := "put", desc := "(II)V" } : Jvm.MethodName) prog_12_method_14_code (3 : Nat) (Option.none : Option Jvm.ClassFile.FieldType)) ∈ xTs := xT_4 204 (by rfl) rfl
theorem w_1037 : (Jvm.Cond.methodLink "EditsMeet$Works" (93 : Nat) ({ cls := "EditsMeet$Trees", name := "from", desc := "(I)J" } : Jvm.MethodName)) ∈ xTs := xT_4 205 (by rfl) rfl
theorem w_1038 : (Jvm.Cond.methodLink "EditsMeet$Works" (96 : Nat) ({ cls := "EditsMeet$Trees", name := "to", desc := "(I)J" } : Jvm.MethodName)) ∈ xTs := xT_4 206 (by rfl) rfl
theorem w_1039 : (Jvm.Cond.methodLink "EditsMeet$Works" (98 : Nat) ({ cls := "EditsMeet$Trees", name := "leaves", desc := "(I)I" } : Jvm.MethodName)) ∈ xTs := xT_4 207 (by rfl) rfl
theorem w_1040 : (Jvm.Cond.instanceMethod ({ cls := "EditsMeet$Trees", name := "leaves", desc := "(I)I" } : Jvm.MethodName)) ∈ xTs := xT_4 208 (by rfl) rfl
theorem w_1041 : (Jvm.Cond.selects "EditsMeet$Trees" ({ cls := "EditsMeet$Trees", name := "leaves", desc := "(I)I" } : Jvm.MethodName) ({ cls := "EditsMeet$Trees", name := "leaves", desc := "(I)I" } : Jvm.MethodName)) ∈ xTs := xT_4 209 (by rfl) rfl
theorem w_1042 : (Jvm.Cond.code ({ cls := "EditsMeet$Trees", name := "leaves", desc := "(I)I" } : Jvm.MethodName) prog_11_method_6_code (2 : Nat) (Option.some Jvm.ClassFile.FieldType.int)) ∈ xTs := xT_4 210 (by rfl) rfl
theorem w_1047 : (Jvm.Cond.methodLink "EditsMeet$Loom" (121 : Nat) ({ cls := "EditsMeet$Works", name := "way", desc := "(I)I" } : Jvm.MethodName)) ∈ xTs := xT_4 215 (by rfl) rfl
theorem w_1048 : (Jvm.Cond.instanceMethod ({ cls := "EditsMeet$Works", name := "way", desc := "(I)I" } : Jvm.MethodName)) ∈ xTs := xT_4 216 (by rfl) rfl
theorem w_1049 : (Jvm.Cond.selects "EditsMeet$Works" ({ cls := "EditsMeet$Works", name := "way", desc := "(I)I" } : Jvm.MethodName) ({ cls := "EditsMeet$Works", name := "way", desc := "(I)I" } : Jvm.MethodName)) ∈ xTs := xT_4 217 (by rfl) rfl
theorem w_1050 : (Jvm.Cond.code ({ cls := "EditsMeet$Works", name := "way", desc := "(I)I" } : Jvm.MethodName) prog_12_method_8_code (2 : Nat) (Option.some Jvm.ClassFile.FieldType.int)) ∈ xTs := xT_4 218 (by rfl) rfl
theorem w_1051 : (Jvm.Cond.methodLink "EditsMeet$Loom" (124 : Nat) ({ cls := "EditsMeet$Slots", name := "at", desc := "(I)I" } : Jvm.MethodName)) ∈ xTs := xT_4 219 (by rfl) rfl
theorem w_1052 : (Jvm.Cond.methodLink "EditsMeet$Loom" (127 : Nat) ({ cls := "EditsMeet$Loom", name := "atOnce", desc := "(III)I" } : Jvm.MethodName)) ∈ xTs := xT_4 220 (by rfl) rfl
theorem w_1054 : (Jvm.Cond.instanceMethod ({ cls := "EditsMeet$Loom", name := "atOnce", desc := "(III)I" } : Jvm.MethodName)) ∈ xTs := xT_4 222 (by rfl) rfl
theorem w_1055 : (Jvm.Cond.code ({ cls := "EditsMeet$Loom", name := "atOnce", desc := "(III)I" } : Jvm.MethodName) prog_4_method_8_code (8 : Nat) (Option.some Jvm.ClassFile.FieldType.int)) ∈ xTs := xT_4 223 (by rfl) rfl
theorem w_1056 : (Jvm.Cond.methodLink "EditsMeet$Loom" (214 : Nat) ({ cls := "EditsMeet$Trees", name := "to", desc := "(I)J" } : Jvm.MethodName)) ∈ xTs := xT_4 224 (by rfl) rfl
theorem w_1057 : (Jvm.Cond.methodLink "EditsMeet$Loom" (82 : Nat) ({ cls := "EditsMeet$Trees", name := "leaf", desc := "(IJ)I" } : Jvm.MethodName)) ∈ xTs := xT_4 225 (by rfl) rfl
theorem w_1058 : (Jvm.Cond.instanceMethod ({ cls := "EditsMeet$Trees", name := "leaf", desc := "(IJ)I" } : Jvm.MethodName)) ∈ xTs := xT_4 226 (by rfl) rfl
theorem w_1059 : (Jvm.Cond.selects "EditsMeet$Trees" ({ cls := "EditsMeet$Trees", name := "leaf", desc := "(IJ)I" } : Jvm.MethodName) ({ cls := "EditsMeet$Trees", name := "leaf", desc := "(IJ)I" } : Jvm.MethodName)) ∈ xTs := xT_4 227 (by rfl) rfl
theorem w_1060 : (Jvm.Cond.code ({ cls := "EditsMeet$Trees", name := "leaf", desc := "(IJ)I" } : Jvm.MethodName) prog_11_method_22_code (4 : Nat) (Option.some Jvm.ClassFile.FieldType.int)) ∈ xTs := xT_4 228 (by rfl) rfl
theorem w_1061 : (Jvm.Cond.methodLink "EditsMeet$Trees" (129 : Nat) ({ cls := "EditsMeet$Trees", name := "made", desc := "(JJJ)I" } : Jvm.MethodName)) ∈ xTs := xT_4 229 (by rfl) rfl
theorem w_1063 : (Jvm.Cond.instanceMethod ({ cls := "EditsMeet$Trees", name := "made", desc := "(JJJ)I" } : Jvm.MethodName)) ∈ xTs := xT_4 231 (by rfl) rfl
theorem w_1064 : (Jvm.Cond.code ({ cls := "EditsMeet$Trees", name := "made", desc := "(JJJ)I" } : Jvm.MethodName) prog_11_method_25_code (10 : Nat) (Option.some Jvm.ClassFile.FieldType.int)) ∈ xTs := xT_4 232 (by rfl) rfl
theorem w_1065 : (Jvm.Cond.methodLink "EditsMeet$Trees" (152 : Nat) ({ cls := "EditsMeet$Trees", name := "spare", desc := "()I" } : Jvm.MethodName)) ∈ xTs := xT_4 233 (by rfl) rfl
theorem w_1067 : (Jvm.Cond.instanceMethod ({ cls := "EditsMeet$Trees", name := "spare", desc := "()I" } : Jvm.MethodName)) ∈ xTs := xT_4 235 (by rfl) rfl
theorem w_1068 : (Jvm.Cond.code ({ cls := "EditsMeet$Trees", name := "spare", desc := "()I" } : Jvm.MethodName) prog_11_method_26_code (1 : Nat) (Option.some Jvm.ClassFile.FieldType.int)) ∈ xTs := xT_4 236 (by rfl) rfl
theorem w_1069 : (Jvm.Cond.methodLink "EditsMeet$Trees" (156 : Nat) ({ cls := "EditsMeet$Trees", name := "putSize", desc := "(IJJ)Z" } : Jvm.MethodName)) ∈ xTs := xT_4 237 (by rfl) rfl
theorem w_1071 : (Jvm.Cond.instanceMethod ({ cls := "EditsMeet$Trees", name := "putSize", desc := "(IJJ)Z" } : Jvm.MethodName)) ∈ xTs := xT_4 239 (by rfl) rfl
theorem w_1072 : (Jvm.Cond.code ({ cls := "EditsMeet$Trees", name := "putSize", desc := "(IJJ)Z" } : Jvm.MethodName) prog_11_method_27_code (6 : Nat) (Option.some Jvm.ClassFile.FieldType.boolean)) ∈ xTs := xT_5 0 (by rfl) rfl
theorem w_1073 : (Jvm.Cond.methodLink "EditsMeet$Loom" (217 : Nat) ({ cls := "EditsMeet$Trees", name := "act", desc := "(I)I" } : Jvm.MethodName)) ∈ xTs := xT_5 1 (by rfl) rfl
theorem w_1074 : (Jvm.Cond.instanceMethod ({ cls := "EditsMeet$Trees", name := "act", desc := "(I)I" } : Jvm.MethodName)) ∈ xTs := xT_5 2 (by rfl) rfl
theorem w_1075 : (Jvm.Cond.selects "EditsMeet$Trees" ({ cls := "EditsMeet$Trees", name := "act", desc := "(I)I" } : Jvm.MethodName) ({ cls := "EditsMeet$Trees", name := "act", desc := "(I)I" } : Jvm.MethodName)) ∈ xTs := xT_5 3 (by rfl) rfl
theorem w_1076 : (Jvm.Cond.code ({ cls := "EditsMeet$Trees", name := "act", desc := "(I)I" } : Jvm.MethodName) prog_11_method_11_code (3 : Nat) (Option.some Jvm.ClassFile.FieldType.int)) ∈ xTs := xT_5 4 (by rfl) rfl
theorem w_1077 : (Jvm.Cond.methodLink "EditsMeet$Trees" (84 : Nat) ({ cls := "EditsMeet$Trees", name := "base", desc := "(I)I" } : Jvm.MethodName)) ∈ xTs := xT_5 5 (by rfl) rfl
theorem w_1078 : (Jvm.Cond.instanceMethod ({ cls := "EditsMeet$Trees", name := "base", desc := "(I)I" } : Jvm.MethodName)) ∈ xTs := xT_5 6 (by rfl) rfl
theorem w_1079 : (Jvm.Cond.selects "EditsMeet$Trees" ({ cls := "EditsMeet$Trees", name := "base", desc := "(I)I" } : Jvm.MethodName) ({ cls := "EditsMeet$Trees", name := "base", desc := "(I)I" } : Jvm.MethodName)) ∈ xTs := xT_5 7 (by rfl) rfl
theorem w_1080 : (Jvm.Cond.code ({ cls := "EditsMeet$Trees", name := "base", desc := "(I)I" } : Jvm.MethodName) prog_11_method_7_code (3 : Nat) (Option.some Jvm.ClassFile.FieldType.int)) ∈ xTs := xT_5 8 (by rfl) rfl
theorem w_1081 : (Jvm.Cond.methodLink "EditsMeet$Loom" (220 : Nat) ({ cls := "EditsMeet$Trees", name := "from", desc := "(I)J" } : Jvm.MethodName)) ∈ xTs := xT_5 9 (by rfl) rfl
theorem w_1082 : (Jvm.Cond.methodLink "EditsMeet$Loom" (223 : Nat) ({ cls := "EditsMeet$Seam", name := "place", desc := "(II)V" } : Jvm.MethodName)) ∈ xTs := xT_5 10 (by rfl) rfl
theorem w_1083 : (Jvm.Cond.instanceMethod ({ cls := "EditsMeet$Seam", name := "place", desc := "(II)V" } : Jvm.MethodName)) ∈ xTs := xT_5 11 (by rfl) rfl
theorem w_1084 : (Jvm.Cond.selects "EditsMeet$Seam" ({ cls := "EditsMeet$Seam", name := "place", desc := "(II)V" } : Jvm.MethodName) ({ cls := "EditsMeet$Seam", name := "place", desc := "(II)V" } : Jvm.MethodName)) ∈ xTs := xT_5 12 (by rfl) rfl
theorem w_1085 : (Jvm.Cond.code ({ cls := "EditsMeet$Seam", name := "place", desc := "(II)V" } : Jvm.MethodName) prog_6_method_3_code (3 : Nat) (Option.none : Option Jvm.ClassFile.FieldType)) ∈ xTs := xT_5 13 (by rfl) rfl
theorem w_1086 : (Jvm.Cond.methodLink "EditsMeet$Seam" (67 : Nat) ({ cls := "EditsMeet$Edge", name := "start", desc := "(I)V" } : Jvm.MethodName)) ∈ xTs := xT_5 14 (by rfl) rfl
theorem w_1087 : (Jvm.Cond.instanceMethod ({ cls := "EditsMeet$Edge", name := "start", desc := "(I)V" } : Jvm.MethodName)) ∈ xTs := xT_5 15 (by rfl) rfl
theorem w_1088 : (Jvm.Cond.selects "EditsMeet$Edge" ({ cls := "EditsMeet$Edge", name := "start", desc := "(I)V" } : Jvm.MethodName) ({ cls := "EditsMeet$Edge", name := "start", desc := "(I)V" } : Jvm.MethodName)) ∈ xTs := xT_5 16 (by rfl) rfl
theorem w_1089 : (Jvm.Cond.code ({ cls := "EditsMeet$Edge", name := "start", desc := "(I)V" } : Jvm.MethodName) prog_3_method_2_code (2 : Nat) (Option.none : Option Jvm.ClassFile.FieldType)) ∈ xTs := xT_5 17 (by rfl) rfl
theorem w_1090 : (Jvm.Cond.methodLink "EditsMeet$Edge" (40 : Nat) ({ cls := "EditsMeet$Edge", name := "push", desc := "(II)V" } : Jvm.MethodName)) ∈ xTs := xT_5 18 (by rfl) rfl
theorem w_1091 : (Jvm.Cond.instanceMethod ({ cls := "EditsMeet$Edge", name := "push", desc := "(II)V" } : Jvm.MethodName)) ∈ xTs := xT_5 19 (by rfl) rfl
theorem w_1092 : (Jvm.Cond.selects "EditsMeet$Edge" ({ cls := "EditsMeet$Edge", name := "push", desc := "(II)V" } : Jvm.MethodName) ({ cls := "EditsMeet$Edge", name := "push", desc := "(II)V" } : Jvm.MethodName)) ∈ xTs := xT_5 20 (by rfl) rfl
theorem w_1093 : (Jvm.Cond.code ({ cls := "EditsMeet$Edge", name := "push", desc := "(II)V" } : Jvm.MethodName) prog_3_method_3_code (3 : Nat) (Option.none : Option Jvm.ClassFile.FieldType)) ∈ xTs := xT_5 21 (by rfl) rfl
theorem w_1094 : (Jvm.Cond.methodLink "EditsMeet$Edge" (44 : Nat) ({ cls := "EditsMeet$Trees", name := "base", desc := "(I)I" } : Jvm.MethodName)) ∈ xTs := xT_5 22 (by rfl) rfl
theorem w_1095 : (Jvm.Cond.methodLink "EditsMeet$Edge" (48 : Nat) ({ cls := "EditsMeet$Trees", name := "times", desc := "(I)J" } : Jvm.MethodName)) ∈ xTs := xT_5 23 (by rfl) rfl
theorem w_1096 : (Jvm.Cond.instanceMethod ({ cls := "EditsMeet$Trees", name := "times", desc := "(I)J" } : Jvm.MethodName)) ∈ xTs := xT_5 24 (by rfl) rfl
theorem w_1097 : (Jvm.Cond.selects "EditsMeet$Trees" ({ cls := "EditsMeet$Trees", name := "times", desc := "(I)J" } : Jvm.MethodName) ({ cls := "EditsMeet$Trees", name := "times", desc := "(I)J" } : Jvm.MethodName)) ∈ xTs := xT_5 25 (by rfl) rfl
theorem w_1098 : (Jvm.Cond.code ({ cls := "EditsMeet$Trees", name := "times", desc := "(I)J" } : Jvm.MethodName) prog_11_method_8_code (8 : Nat) (Option.some Jvm.ClassFile.FieldType.long)) ∈ xTs := xT_5 26 (by rfl) rfl
theorem w_1099 : (Jvm.Cond.methodLink "EditsMeet$Edge" (52 : Nat) ({ cls := "EditsMeet$Edge", name := "put", desc := "(IJI)V" } : Jvm.MethodName)) ∈ xTs := xT_5 27 (by rfl) rfl
theorem w_1100 : (Jvm.Cond.instanceMethod ({ cls := "EditsMeet$Edge", name := "put", desc := "(IJI)V" } : Jvm.MethodName)) ∈ xTs := xT_5 28 (by rfl) rfl
theorem w_1101 : (Jvm.Cond.selects "EditsMeet$Edge" ({ cls := "EditsMeet$Edge", name := "put", desc := "(IJI)V" } : Jvm.MethodName) ({ cls := "EditsMeet$Edge", name := "put", desc := "(IJI)V" } : Jvm.MethodName)) ∈ xTs := xT_5 29 (by rfl) rfl
theorem w_1102 : (Jvm.Cond.code ({ cls := "EditsMeet$Edge", name := "put", desc := "(IJI)V" } : Jvm.MethodName) prog_3_method_4_code (5 : Nat) (Option.none : Option Jvm.ClassFile.FieldType)) ∈ xTs := xT_5 30 (by rfl) rfl
theorem w_1103 : (Jvm.Cond.methodLink "EditsMeet$Loom" (196 : Nat) ({ cls := "EditsMeet$Seam", name := "settle", desc := "(LEditsMeet$Edge;LEditsMeet$Edge;)I" } : Jvm.MethodName)) ∈ xTs := xT_5 31 (by rfl) rfl
theorem w_1104 : (Jvm.Cond.instanceMethod ({ cls := "EditsMeet$Seam", name := "settle", desc := "(LEditsMeet$Edge;LEditsMeet$Edge;)I" } : Jvm.MethodName)) ∈ xTs := xT_5 32 (by rfl) rfl
theorem w_1105 : (Jvm.Cond.selects "EditsMeet$Seam" ({ cls := "EditsMeet$Seam", name := "settle", desc := "(LEditsMeet$Edge;LEditsMeet$Edge;)I" } : Jvm.MethodName) ({ cls := "EditsMeet$Seam", name := "settle", desc := "(LEditsMeet$Edge;LEditsMeet$Edge;)I" } : Jvm.MethodName)) ∈ xTs := xT_5 33 (by rfl) rfl
theorem w_1106 : (Jvm.Cond.code ({ cls := "EditsMeet$Seam", name := "settle", desc := "(LEditsMeet$Edge;LEditsMeet$Edge;)I" } : Jvm.MethodName) prog_6_method_4_code (14 : Nat) (Option.some Jvm.ClassFile.FieldType.int)) ∈ xTs := xT_5 34 (by rfl) rfl
theorem w_1107 : (Jvm.Cond.methodLink "EditsMeet$Seam" (75 : Nat) ({ cls := "EditsMeet$Edge", name := "next", desc := "(I)I" } : Jvm.MethodName)) ∈ xTs := xT_5 35 (by rfl) rfl
theorem w_1108 : (Jvm.Cond.instanceMethod ({ cls := "EditsMeet$Edge", name := "next", desc := "(I)I" } : Jvm.MethodName)) ∈ xTs := xT_5 36 (by rfl) rfl
theorem w_1109 : (Jvm.Cond.selects "EditsMeet$Edge" ({ cls := "EditsMeet$Edge", name := "next", desc := "(I)I" } : Jvm.MethodName) ({ cls := "EditsMeet$Edge", name := "next", desc := "(I)I" } : Jvm.MethodName)) ∈ xTs := xT_5 37 (by rfl) rfl
theorem w_1110 : (Jvm.Cond.code ({ cls := "EditsMeet$Edge", name := "next", desc := "(I)I" } : Jvm.MethodName) prog_3_method_8_code (5 : Nat) (Option.some Jvm.ClassFile.FieldType.int)) ∈ xTs := xT_5 38 (by rfl) rfl
theorem w_1111 : (Jvm.Cond.methodLink "EditsMeet$Edge" (59 : Nat) ({ cls := "EditsMeet$Trees", name := "level", desc := "(I)I" } : Jvm.MethodName)) ∈ xTs := xT_5 39 (by rfl) rfl
theorem w_1112 : (Jvm.Cond.instanceMethod ({ cls := "EditsMeet$Trees", name := "level", desc := "(I)I" } : Jvm.MethodName)) ∈ xTs := xT_5 40 (by rfl) rfl
theorem w_1113 : (Jvm.Cond.selects "EditsMeet$Trees" ({ cls := "EditsMeet$Trees", name := "level", desc := "(I)I" } : Jvm.MethodName) ({ cls := "EditsMeet$Trees", name := "level", desc := "(I)I" } : Jvm.MethodName)) ∈ xTs := xT_5 41 (by rfl) rfl
theorem w_1114 : (Jvm.Cond.code ({ cls := "EditsMeet$Trees", name := "level", desc := "(I)I" } : Jvm.MethodName) prog_11_method_5_code (2 : Nat) (Option.some Jvm.ClassFile.FieldType.int)) ∈ xTs := xT_5 42 (by rfl) rfl
theorem w_1115 : (Jvm.Cond.methodLink "EditsMeet$Edge" (62 : Nat) ({ cls := "EditsMeet$Trees", name := "right", desc := "(I)I" } : Jvm.MethodName)) ∈ xTs := xT_5 43 (by rfl) rfl
theorem w_1116 : (Jvm.Cond.methodLink "EditsMeet$Edge" (65 : Nat) ({ cls := "EditsMeet$Trees", name := "left", desc := "(I)I" } : Jvm.MethodName)) ∈ xTs := xT_5 44 (by rfl) rfl
theorem w_1117 : (Jvm.Cond.methodLink "EditsMeet$Edge" (68 : Nat) ({ cls := "EditsMeet$Seam", name := "mixed", desc := "(I)I" } : Jvm.MethodName)) ∈ xTs := xT_5 45 (by rfl) rfl
theorem w_1118 : (Jvm.Cond.static ({ cls := "EditsMeet$Seam", name := "mixed", desc := "(I)I" } : Jvm.MethodName)) ∈ xTs := xT_5 46 (by rfl) rfl
theorem w_1119 : (Jvm.Cond.code ({ cls := "EditsMeet$Seam", name := "mixed", desc := "(I)I" } : Jvm.MethodName) prog_6_method_8_code (2 : Nat) (Option.some Jvm.ClassFile.FieldType.int)) ∈ xTs := xT_5 47 (by rfl) rfl
theorem w_1120 : (Jvm.Cond.constant "EditsMeet$Seam" (129 : Nat) (2146121005 : Int32)) ∈ xTs := xT_5 48 (by rfl) rfl
theorem w_1121 : (Jvm.Cond.constant "EditsMeet$Seam" (130 : Nat) (-2073254261 : Int32)) ∈ xTs := xT_5 49 (by rfl) rfl
theorem w_1122 : (Jvm.Cond.methodLink "EditsMeet$Seam" (82 : Nat) ({ cls := "EditsMeet$Edge", name := "isDue", desc := "(I)Z" } : Jvm.MethodName)) ∈ xTs := xT_5 50 (by rfl) rfl
theorem w_1123 : (Jvm.Cond.instanceMethod ({ cls := "EditsMeet$Edge", name := "isDue", desc := "(I)Z" } : Jvm.MethodName)) ∈ xTs := xT_5 51 (by rfl) rfl
theorem w_1124 : (Jvm.Cond.selects "EditsMeet$Edge" ({ cls := "EditsMeet$Edge", name := "isDue", desc := "(I)Z" } : Jvm.MethodName) ({ cls := "EditsMeet$Edge", name := "isDue", desc := "(I)Z" } : Jvm.MethodName)) ∈ xTs := xT_5 52 (by rfl) rfl
theorem w_1125 : (Jvm.Cond.code ({ cls := "EditsMeet$Edge", name := "isDue", desc := "(I)Z" } : Jvm.MethodName) prog_3_method_7_code (2 : Nat) (Option.some Jvm.ClassFile.FieldType.boolean)) ∈ xTs := xT_5 53 (by rfl) rfl
theorem w_1126 : (Jvm.Cond.methodLink "EditsMeet$Seam" (85 : Nat) ({ cls := "EditsMeet$Seam", name := "arePair", desc := "(III)Z" } : Jvm.MethodName)) ∈ xTs := xT_5 54 (by rfl) rfl
theorem w_1127 : (Jvm.Cond.static ({ cls := "EditsMeet$Seam", name := "arePair", desc := "(III)Z" } : Jvm.MethodName)) ∈ xTs := xT_5 55 (by rfl) rfl
theorem w_1128 : (Jvm.Cond.code ({ cls := "EditsMeet$Seam", name := "arePair", desc := "(III)Z" } : Jvm.MethodName) prog_6_method_9_code (5 : Nat) (Option.some Jvm.ClassFile.FieldType.boolean)) ∈ xTs := xT_5 56 (by rfl) rfl
theorem w_1129 : (Jvm.Cond.methodLink "EditsMeet$Seam" (89 : Nat) ({ cls := "EditsMeet$Seam", name := "putAhead", desc := "(LEditsMeet$Edge;I)V" } : Jvm.MethodName)) ∈ xTs := xT_5 57 (by rfl) rfl
theorem w_1131 : (Jvm.Cond.instanceMethod ({ cls := "EditsMeet$Seam", name := "putAhead", desc := "(LEditsMeet$Edge;I)V" } : Jvm.MethodName)) ∈ xTs := xT_5 59 (by rfl) rfl
theorem w_1132 : (Jvm.Cond.code ({ cls := "EditsMeet$Seam", name := "putAhead", desc := "(LEditsMeet$Edge;I)V" } : Jvm.MethodName) prog_6_method_5_code (3 : Nat) (Option.none : Option Jvm.ClassFile.FieldType)) ∈ xTs := xT_5 60 (by rfl) rfl
theorem w_1133 : (Jvm.Cond.methodLink "EditsMeet$Seam" (122 : Nat) ({ cls := "EditsMeet$Edge", name := "sink", desc := "(I)V" } : Jvm.MethodName)) ∈ xTs := xT_5 61 (by rfl) rfl
theorem w_1134 : (Jvm.Cond.instanceMethod ({ cls := "EditsMeet$Edge", name := "sink", desc := "(I)V" } : Jvm.MethodName)) ∈ xTs := xT_5 62 (by rfl) rfl
theorem w_1135 : (Jvm.Cond.selects "EditsMeet$Edge" ({ cls := "EditsMeet$Edge", name := "sink", desc := "(I)V" } : Jvm.MethodName) ({ cls := "EditsMeet$Edge", name := "sink", desc := "(I)V" } : Jvm.MethodName)) ∈ xTs := xT_5 63 (by rfl) rfl
theorem w_1136 : (Jvm.Cond.code ({ cls := "EditsMeet$Edge", name := "sink", desc := "(I)V" } : Jvm.MethodName) prog_3_method_9_code (7 : Nat) (Option.none : Option Jvm.ClassFile.FieldType)) ∈ xTs := xT_5 64 (by rfl) rfl
theorem w_1137 : (Jvm.Cond.methodLink "EditsMeet$Seam" (114 : Nat) ({ cls := "EditsMeet$Edge", name := "base", desc := "()I" } : Jvm.MethodName)) ∈ xTs := xT_5 65 (by rfl) rfl
theorem w_1138 : (Jvm.Cond.instanceMethod ({ cls := "EditsMeet$Edge", name := "base", desc := "()I" } : Jvm.MethodName)) ∈ xTs := xT_5 66 (by rfl) rfl
theorem w_1139 : (Jvm.Cond.selects "EditsMeet$Edge" ({ cls := "EditsMeet$Edge", name := "base", desc := "()I" } : Jvm.MethodName) ({ cls := "EditsMeet$Edge", name := "base", desc := "()I" } : Jvm.MethodName)) ∈ xTs := xT_5 67 (by rfl) rfl
theorem w_1140 : (Jvm.Cond.code ({ cls := "EditsMeet$Edge", name := "base", desc := "()I" } : Jvm.MethodName) prog_3_method_5_code (1 : Nat) (Option.some Jvm.ClassFile.FieldType.int)) ∈ xTs := xT_5 68 (by rfl) rfl
theorem w_1141 : (Jvm.Cond.methodLink "EditsMeet$Seam" (118 : Nat) ({ cls := "EditsMeet$Edge", name := "count", desc := "()J" } : Jvm.MethodName)) ∈ xTs := xT_5 69 (by rfl) rfl
theorem w_1142 : (Jvm.Cond.instanceMethod ({ cls := "EditsMeet$Edge", name := "count", desc := "()J" } : Jvm.MethodName)) ∈ xTs := xT_5 70 (by rfl) rfl
theorem w_1143 : (Jvm.Cond.selects "EditsMeet$Edge" ({ cls := "EditsMeet$Edge", name := "count", desc := "()J" } : Jvm.MethodName) ({ cls := "EditsMeet$Edge", name := "count", desc := "()J" } : Jvm.MethodName)) ∈ xTs := xT_5 71 (by rfl) rfl
theorem w_1144 : (Jvm.Cond.code ({ cls := "EditsMeet$Edge", name := "count", desc := "()J" } : Jvm.MethodName) prog_3_method_6_code (1 : Nat) (Option.some Jvm.ClassFile.FieldType.long)) ∈ xTs := xT_5 72 (by rfl) rfl
theorem w_1145 : (Jvm.Cond.methodLink "EditsMeet$Seam" (108 : Nat) ({ cls := "EditsMeet$Seam", name := "mixed", desc := "(I)I" } : Jvm.MethodName)) ∈ xTs := xT_5 73 (by rfl) rfl
theorem w_1146 : (Jvm.Cond.methodLink "EditsMeet$Seam" (125 : Nat) ({ cls := "EditsMeet$Edge", name := "drop", desc := "(J)V" } : Jvm.MethodName)) ∈ xTs := xT_5 74 (by rfl) rfl
theorem w_1147 : (Jvm.Cond.instanceMethod ({ cls := "EditsMeet$Edge", name := "drop", desc := "(J)V" } : Jvm.MethodName)) ∈ xTs := xT_5 75 (by rfl) rfl
theorem w_1148 : (Jvm.Cond.selects "EditsMeet$Edge" ({ cls := "EditsMeet$Edge", name := "drop", desc := "(J)V" } : Jvm.MethodName) ({ cls := "EditsMeet$Edge", name := "drop", desc := "(J)V" } : Jvm.MethodName)) ∈ xTs := xT_5 76 (by rfl) rfl
theorem w_1149 : (Jvm.Cond.code ({ cls := "EditsMeet$Edge", name := "drop", desc := "(J)V" } : Jvm.MethodName) prog_3_method_10_code (3 : Nat) (Option.none : Option Jvm.ClassFile.FieldType)) ∈ xTs := xT_5 77 (by rfl) rfl
theorem w_1150 : (Jvm.Cond.methodLink "EditsMeet$Seam" (93 : Nat) ({ cls := "EditsMeet$Seam", name := "putBehind", desc := "(LEditsMeet$Edge;I)V" } : Jvm.MethodName)) ∈ xTs := xT_5 78 (by rfl) rfl
theorem w_1152 : (Jvm.Cond.instanceMethod ({ cls := "EditsMeet$Seam", name := "putBehind", desc := "(LEditsMeet$Edge;I)V" } : Jvm.MethodName)) ∈ xTs := xT_5 80 (by rfl) rfl
theorem w_1153 : (Jvm.Cond.code ({ cls := "EditsMeet$Seam", name := "putBehind", desc := "(LEditsMeet$Edge;I)V" } : Jvm.MethodName) prog_6_method_6_code (3 : Nat) (Option.none : Option Jvm.ClassFile.FieldType)) ∈ xTs := xT_5 81 (by rfl) rfl
theorem w_1154 : (Jvm.Cond.methodLink "EditsMeet$Seam" (110 : Nat) ({ cls := "EditsMeet$Seam", name := "put", desc := "(IJI)V" } : Jvm.MethodName)) ∈ xTs := xT_5 82 (by rfl) rfl
theorem w_1155 : (Jvm.Cond.instanceMethod ({ cls := "EditsMeet$Seam", name := "put", desc := "(IJI)V" } : Jvm.MethodName)) ∈ xTs := xT_5 83 (by rfl) rfl
theorem w_1156 : (Jvm.Cond.selects "EditsMeet$Seam" ({ cls := "EditsMeet$Seam", name := "put", desc := "(IJI)V" } : Jvm.MethodName) ({ cls := "EditsMeet$Seam", name := "put", desc := "(IJI)V" } : Jvm.MethodName)) ∈ xTs := xT_5 84 (by rfl) rfl
theorem w_1157 : (Jvm.Cond.code ({ cls := "EditsMeet$Seam", name := "put", desc := "(IJI)V" } : Jvm.MethodName) prog_6_method_7_code (6 : Nat) (Option.none : Option Jvm.ClassFile.FieldType)) ∈ xTs := xT_5 85 (by rfl) rfl
theorem w_1158 : (Jvm.Cond.methodLink "EditsMeet$Seam" (100 : Nat) ({ cls := "EditsMeet$Trees", name := "run", desc := "(IJ)I" } : Jvm.MethodName)) ∈ xTs := xT_5 86 (by rfl) rfl
theorem w_1159 : (Jvm.Cond.instanceMethod ({ cls := "EditsMeet$Trees", name := "run", desc := "(IJ)I" } : Jvm.MethodName)) ∈ xTs := xT_5 87 (by rfl) rfl
theorem w_1160 : (Jvm.Cond.selects "EditsMeet$Trees" ({ cls := "EditsMeet$Trees", name := "run", desc := "(IJ)I" } : Jvm.MethodName) ({ cls := "EditsMeet$Trees", name := "run", desc := "(IJ)I" } : Jvm.MethodName)) ∈ xTs := xT_5 88 (by rfl) rfl
theorem w_1161 : (Jvm.Cond.code ({ cls := "EditsMeet$Trees", name := "run", desc := "(IJ)I" } : Jvm.MethodName) prog_11_method_23_code (8 : Nat) (Option.some Jvm.ClassFile.FieldType.int)) ∈ xTs := xT_5 89 (by rfl) rfl
theorem w_1163 : (Jvm.Cond.methodLink "EditsMeet$Trees" (135 : Nat) ({ cls := "EditsMeet$Trees", name := "leaves", desc := "(I)I" } : Jvm.MethodName)) ∈ xTs := xT_5 91 (by rfl) rfl
theorem w_1164 : (Jvm.Cond.methodLink "EditsMeet$Trees" (126 : Nat) ({ cls := "java/lang/Math", name := "min", desc := "(JJ)J" } : Jvm.MethodName)) ∈ xTs := xT_5 92 (by rfl) rfl
theorem w_1165 : (Jvm.Cond.static ({ cls := "java/lang/Math", name := "min", desc := "(JJ)J" } : Jvm.MethodName)) ∈ xTs := xT_5 93 (by rfl) rfl
theorem w_1166 : (Jvm.Cond.code ({ cls := "java/lang/Math", name := "min", desc := "(JJ)J" } : Jvm.MethodName) prog_19_method_70_code (4 : Nat) (Option.some Jvm.ClassFile.FieldType.long)) ∈ xTs := xT_5 94 (by rfl) rfl
theorem w_1167 : (Jvm.Cond.constantLong "EditsMeet$Trees" (138 : Nat) (72053195991416832 : Int64)) ∈ xTs := xT_5 95 (by rfl) rfl
theorem w_1168 : (Jvm.Cond.methodLink "EditsMeet$Seam" (104 : Nat) ({ cls := "EditsMeet$Trees", name := "pair", desc := "(III)I" } : Jvm.MethodName)) ∈ xTs := xT_5 96 (by rfl) rfl
theorem w_1169 : (Jvm.Cond.instanceMethod ({ cls := "EditsMeet$Trees", name := "pair", desc := "(III)I" } : Jvm.MethodName)) ∈ xTs := xT_5 97 (by rfl) rfl
theorem w_1170 : (Jvm.Cond.selects "EditsMeet$Trees" ({ cls := "EditsMeet$Trees", name := "pair", desc := "(III)I" } : Jvm.MethodName) ({ cls := "EditsMeet$Trees", name := "pair", desc := "(III)I" } : Jvm.MethodName)) ∈ xTs := xT_5 98 (by rfl) rfl
theorem w_1171 : (Jvm.Cond.code ({ cls := "EditsMeet$Trees", name := "pair", desc := "(III)I" } : Jvm.MethodName) prog_11_method_24_code (10 : Nat) (Option.some Jvm.ClassFile.FieldType.int)) ∈ xTs := xT_5 99 (by rfl) rfl
theorem w_1173 : (Jvm.Cond.constantLong "EditsMeet$Trees" (100 : Nat) (2251799813685248 : Int64)) ∈ xTs := xT_5 101 (by rfl) rfl
theorem w_1174 : (Jvm.Cond.constantLong "EditsMeet$Trees" (140 : Nat) (13510798882111488 : Int64)) ∈ xTs := xT_5 102 (by rfl) rfl
theorem w_1175 : (Jvm.Cond.methodLink "EditsMeet$Loom" (226 : Nat) ({ cls := "EditsMeet$Loom", name := "woven", desc := "(III)I" } : Jvm.MethodName)) ∈ xTs := xT_5 103 (by rfl) rfl
theorem w_1176 : (Jvm.Cond.static ({ cls := "EditsMeet$Loom", name := "woven", desc := "(III)I" } : Jvm.MethodName)) ∈ xTs := xT_5 104 (by rfl) rfl
theorem w_1177 : (Jvm.Cond.code ({ cls := "EditsMeet$Loom", name := "woven", desc := "(III)I" } : Jvm.MethodName) prog_4_method_9_code (8 : Nat) (Option.some Jvm.ClassFile.FieldType.int)) ∈ xTs := xT_5 105 (by rfl) rfl
theorem w_1178 : (Jvm.Cond.methodLink "EditsMeet$Loom" (130 : Nat) ({ cls := "EditsMeet$Loom", name := "remembered", desc := "(II)I" } : Jvm.MethodName)) ∈ xTs := xT_5 106 (by rfl) rfl
theorem w_1180 : (Jvm.Cond.instanceMethod ({ cls := "EditsMeet$Loom", name := "remembered", desc := "(II)I" } : Jvm.MethodName)) ∈ xTs := xT_5 108 (by rfl) rfl
theorem w_1181 : (Jvm.Cond.code ({ cls := "EditsMeet$Loom", name := "remembered", desc := "(II)I" } : Jvm.MethodName) prog_4_method_14_code (8 : Nat) (Option.some Jvm.ClassFile.FieldType.int)) ∈ xTs := xT_5 109 (by rfl) rfl
theorem w_1182 : (Jvm.Cond.methodLink "EditsMeet$Loom" (265 : Nat) ({ cls := "EditsMeet$Loom", name := "keyOf", desc := "(II)J" } : Jvm.MethodName)) ∈ xTs := xT_5 110 (by rfl) rfl
theorem w_1184 : (Jvm.Cond.instanceMethod ({ cls := "EditsMeet$Loom", name := "keyOf", desc := "(II)J" } : Jvm.MethodName)) ∈ xTs := xT_5 112 (by rfl) rfl
theorem w_1185 : (Jvm.Cond.code ({ cls := "EditsMeet$Loom", name := "keyOf", desc := "(II)J" } : Jvm.MethodName) prog_4_method_13_code (7 : Nat) (Option.some Jvm.ClassFile.FieldType.long)) ∈ xTs := xT_5 113 (by rfl) rfl
theorem w_1186 : (Jvm.Cond.constantLong "EditsMeet$Loom" (259 : Nat) (4 : Int64)) ∈ xTs := xT_5 114 (by rfl) rfl
theorem w_1187 : (Jvm.Cond.constantLong "EditsMeet$Loom" (261 : Nat) (-7046029254386353131 : Int64)) ∈ xTs := xT_5 115 (by rfl) rfl
theorem w_1188 : (Jvm.Cond.constantLong "EditsMeet$Loom" (263 : Nat) (17592186044415 : Int64)) ∈ xTs := xT_5 116 (by rfl) rfl
theorem w_1189 : (Jvm.Cond.constant "EditsMeet$Loom" (268 : Nat) (131071 : Int32)) ∈ xTs := xT_5 117 (by rfl) rfl
theorem w_1190 : (Jvm.Cond.constantLong "EditsMeet$Loom" (269 : Nat) (134217728 : Int64)) ∈ xTs := xT_5 118 (by rfl) rfl
theorem w_1191 : (Jvm.Cond.constant "EditsMeet$Loom" (271 : Nat) (2097151 : Int32)) ∈ xTs := xT_5 119 (by rfl) rfl
theorem w_1192 : (Jvm.Cond.methodLink "EditsMeet$Loom" (133 : Nat) ({ cls := "EditsMeet$Loom", name := "leafByLeaf", desc := "(III)I" } : Jvm.MethodName)) ∈ xTs := xT_5 120 (by rfl) rfl
theorem w_1194 : (Jvm.Cond.instanceMethod ({ cls := "EditsMeet$Loom", name := "leafByLeaf", desc := "(III)I" } : Jvm.MethodName)) ∈ xTs := xT_5 122 (by rfl) rfl
theorem w_1195 : (Jvm.Cond.code ({ cls := "EditsMeet$Loom", name := "leafByLeaf", desc := "(III)I" } : Jvm.MethodName) prog_4_method_10_code (14 : Nat) (Option.some Jvm.ClassFile.FieldType.int)) ∈ xTs := xT_5 123 (by rfl) rfl
theorem w_1196 : (Jvm.Cond.methodLink "EditsMeet$Loom" (206 : Nat) ({ cls := "EditsMeet$Trees", name := "leaves", desc := "(I)I" } : Jvm.MethodName)) ∈ xTs := xT_5 124 (by rfl) rfl
theorem w_1197 : (Jvm.Cond.methodLink "EditsMeet$Loom" (229 : Nat) ({ cls := "EditsMeet$Loom", name := "flatten", desc := "(ILEditsMeet$Edge;)V" } : Jvm.MethodName)) ∈ xTs := xT_5 125 (by rfl) rfl
theorem w_1199 : (Jvm.Cond.instanceMethod ({ cls := "EditsMeet$Loom", name := "flatten", desc := "(ILEditsMeet$Edge;)V" } : Jvm.MethodName)) ∈ xTs := xT_5 127 (by rfl) rfl
theorem w_1200 : (Jvm.Cond.code ({ cls := "EditsMeet$Loom", name := "flatten", desc := "(ILEditsMeet$Edge;)V" } : Jvm.MethodName) prog_4_method_12_code (10 : Nat) (Option.none : Option Jvm.ClassFile.FieldType)) ∈ xTs := xT_5 128 (by rfl) rfl
theorem w_1201 : (Jvm.Cond.methodLink "EditsMeet$Loom" (203 : Nat) ({ cls := "EditsMeet$Trees", name := "isLeaf", desc := "(I)Z" } : Jvm.MethodName)) ∈ xTs := xT_5 129 (by rfl) rfl
theorem w_1202 : (Jvm.Cond.instanceMethod ({ cls := "EditsMeet$Trees", name := "isLeaf", desc := "(I)Z" } : Jvm.MethodName)) ∈ xTs := xT_5 130 (by rfl) rfl
theorem w_1203 : (Jvm.Cond.selects "EditsMeet$Trees" ({ cls := "EditsMeet$Trees", name := "isLeaf", desc := "(I)Z" } : Jvm.MethodName) ({ cls := "EditsMeet$Trees", name := "isLeaf", desc := "(I)Z" } : Jvm.MethodName)) ∈ xTs := xT_5 131 (by rfl) rfl
theorem w_1204 : (Jvm.Cond.code ({ cls := "EditsMeet$Trees", name := "isLeaf", desc := "(I)Z" } : Jvm.MethodName) prog_11_method_10_code (2 : Nat) (Option.some Jvm.ClassFile.FieldType.boolean)) ∈ xTs := xT_5 132 (by rfl) rfl
theorem w_1205 : (Jvm.Cond.methodLink "EditsMeet$Loom" (256 : Nat) ({ cls := "EditsMeet$Edge", name := "push", desc := "(II)V" } : Jvm.MethodName)) ∈ xTs := xT_5 133 (by rfl) rfl
theorem w_1206 : (Jvm.Cond.methodLink "EditsMeet$Loom" (159 : Nat) ({ cls := "EditsMeet$Trees", name := "isPair", desc := "(I)Z" } : Jvm.MethodName)) ∈ xTs := xT_5 134 (by rfl) rfl
theorem w_1207 : (Jvm.Cond.instanceMethod ({ cls := "EditsMeet$Trees", name := "isPair", desc := "(I)Z" } : Jvm.MethodName)) ∈ xTs := xT_5 135 (by rfl) rfl
theorem w_1208 : (Jvm.Cond.selects "EditsMeet$Trees" ({ cls := "EditsMeet$Trees", name := "isPair", desc := "(I)Z" } : Jvm.MethodName) ({ cls := "EditsMeet$Trees", name := "isPair", desc := "(I)Z" } : Jvm.MethodName)) ∈ xTs := xT_5 136 (by rfl) rfl
theorem w_1209 : (Jvm.Cond.code ({ cls := "EditsMeet$Trees", name := "isPair", desc := "(I)Z" } : Jvm.MethodName) prog_11_method_9_code (2 : Nat) (Option.some Jvm.ClassFile.FieldType.boolean)) ∈ xTs := xT_5 137 (by rfl) rfl
theorem w_1210 : (Jvm.Cond.methodLink "EditsMeet$Loom" (257 : Nat) ({ cls := "EditsMeet$Trees", name := "right", desc := "(I)I" } : Jvm.MethodName)) ∈ xTs := xT_5 138 (by rfl) rfl
theorem w_1211 : (Jvm.Cond.methodLink "EditsMeet$Loom" (168 : Nat) ({ cls := "EditsMeet$Trees", name := "left", desc := "(I)I" } : Jvm.MethodName)) ∈ xTs := xT_5 139 (by rfl) rfl
theorem w_1213 : (Jvm.Cond.methodLink "EditsMeet$Loom" (234 : Nat) ({ cls := "EditsMeet$Edge", name := "base", desc := "()I" } : Jvm.MethodName)) ∈ xTs := xT_5 141 (by rfl) rfl
theorem w_1214 : (Jvm.Cond.methodLink "EditsMeet$Loom" (238 : Nat) ({ cls := "EditsMeet$Loom", name := "isAlone", desc := "(IZII)Z" } : Jvm.MethodName)) ∈ xTs := xT_5 142 (by rfl) rfl
theorem w_1215 : (Jvm.Cond.static ({ cls := "EditsMeet$Loom", name := "isAlone", desc := "(IZII)Z" } : Jvm.MethodName)) ∈ xTs := xT_5 143 (by rfl) rfl
theorem w_1216 : (Jvm.Cond.code ({ cls := "EditsMeet$Loom", name := "isAlone", desc := "(IZII)Z" } : Jvm.MethodName) prog_4_method_11_code (6 : Nat) (Option.some Jvm.ClassFile.FieldType.boolean)) ∈ xTs := xT_5 144 (by rfl) rfl
theorem w_1217 : (Jvm.Cond.methodLink "EditsMeet$Loom" (242 : Nat) ({ cls := "EditsMeet$Edge", name := "count", desc := "()J" } : Jvm.MethodName)) ∈ xTs := xT_5 145 (by rfl) rfl
theorem w_1218 : (Jvm.Cond.methodLink "EditsMeet$Loom" (246 : Nat) ({ cls := "EditsMeet$Edge", name := "drop", desc := "(J)V" } : Jvm.MethodName)) ∈ xTs := xT_5 146 (by rfl) rfl
theorem w_1219 : (Jvm.Cond.methodLink "EditsMeet$Loom" (250 : Nat) ({ cls := "EditsMeet$Seam", name := "mixed", desc := "(I)I" } : Jvm.MethodName)) ∈ xTs := xT_5 147 (by rfl) rfl
theorem w_1220 : (Jvm.Cond.methodLink "EditsMeet$Loom" (253 : Nat) ({ cls := "EditsMeet$Seam", name := "put", desc := "(IJI)V" } : Jvm.MethodName)) ∈ xTs := xT_5 148 (by rfl) rfl
theorem w_1221 : (Jvm.Cond.methodLink "EditsMeet$Loom" (136 : Nat) ({ cls := "EditsMeet$Loom", name := "remember", desc := "(III)V" } : Jvm.MethodName)) ∈ xTs := xT_5 149 (by rfl) rfl
theorem w_1223 : (Jvm.Cond.instanceMethod ({ cls := "EditsMeet$Loom", name := "remember", desc := "(III)V" } : Jvm.MethodName)) ∈ xTs := xT_5 151 (by rfl) rfl
theorem w_1224 : (Jvm.Cond.code ({ cls := "EditsMeet$Loom", name := "remember", desc := "(III)V" } : Jvm.MethodName) prog_4_method_15_code (7 : Nat) (Option.none : Option Jvm.ClassFile.FieldType)) ∈ xTs := xT_5 152 (by rfl) rfl
theorem w_1245 : (Jvm.Cond.instanceMethod ({ cls := "EditsMeet$Trees", name := "beginsWithLetter", desc := "(I)Z" } : Jvm.MethodName)) ∈ xTs := xT_5 173 (by rfl) rfl
theorem w_1246 : (Jvm.Cond.selects "EditsMeet$Trees" ({ cls := "EditsMeet$Trees", name := "beginsWithLetter", desc := "(I)Z" } : Jvm.MethodName) ({ cls := "EditsMeet$Trees", name := "beginsWithLetter", desc := "(I)Z" } : Jvm.MethodName)) ∈ xTs := xT_5 174 (by rfl) rfl
theorem w_1247 : (Jvm.Cond.code ({ cls := "EditsMeet$Trees", name := "beginsWithLetter", desc := "(I)Z" } : Jvm.MethodName) prog_11_method_16_code (2 : Nat) (Option.some Jvm.ClassFile.FieldType.boolean)) ∈ xTs := xT_5 175 (by rfl) rfl
theorem w_1258 : (Jvm.Cond.methodLink "EditsMeet$Seam" (49 : Nat) ({ cls := "EditsMeet$Trees", name := "beginsWithLetter", desc := "(I)Z" } : Jvm.MethodName)) ∈ xTs := xT_5 186 (by rfl) rfl
theorem w_1271 : (Jvm.Cond.methodLink "EditsMeet$Seam" (43 : Nat) ({ cls := "EditsMeet$Trees", name := "endsWithDelete", desc := "(I)Z" } : Jvm.MethodName)) ∈ xTs := xT_5 199 (by rfl) rfl
theorem w_1272 : (Jvm.Cond.instanceMethod ({ cls := "EditsMeet$Trees", name := "endsWithDelete", desc := "(I)Z" } : Jvm.MethodName)) ∈ xTs := xT_5 200 (by rfl) rfl
theorem w_1273 : (Jvm.Cond.selects "EditsMeet$Trees" ({ cls := "EditsMeet$Trees", name := "endsWithDelete", desc := "(I)Z" } : Jvm.MethodName) ({ cls := "EditsMeet$Trees", name := "endsWithDelete", desc := "(I)Z" } : Jvm.MethodName)) ∈ xTs := xT_5 201 (by rfl) rfl
theorem w_1274 : (Jvm.Cond.code ({ cls := "EditsMeet$Trees", name := "endsWithDelete", desc := "(I)Z" } : Jvm.MethodName) prog_11_method_18_code (2 : Nat) (Option.some Jvm.ClassFile.FieldType.boolean)) ∈ xTs := xT_5 202 (by rfl) rfl
theorem w_1281 : (Jvm.Cond.methodLink "EditsMeet$Loom" (86 : Nat) ({ cls := "EditsMeet$Seam", name := "join", desc := "(II)I" } : Jvm.MethodName)) ∈ xTs := xT_5 209 (by rfl) rfl
theorem w_1282 : (Jvm.Cond.instanceMethod ({ cls := "EditsMeet$Seam", name := "join", desc := "(II)I" } : Jvm.MethodName)) ∈ xTs := xT_5 210 (by rfl) rfl
theorem w_1283 : (Jvm.Cond.selects "EditsMeet$Seam" ({ cls := "EditsMeet$Seam", name := "join", desc := "(II)I" } : Jvm.MethodName) ({ cls := "EditsMeet$Seam", name := "join", desc := "(II)I" } : Jvm.MethodName)) ∈ xTs := xT_5 211 (by rfl) rfl
theorem w_1284 : (Jvm.Cond.code ({ cls := "EditsMeet$Seam", name := "join", desc := "(II)I" } : Jvm.MethodName) prog_6_method_2_code (9 : Nat) (Option.some Jvm.ClassFile.FieldType.int)) ∈ xTs := xT_5 212 (by rfl) rfl
theorem w_1290 : (Jvm.Cond.methodLink "EditsMeet$Seam" (56 : Nat) ({ cls := "EditsMeet$Seam", name := "settle", desc := "(LEditsMeet$Edge;LEditsMeet$Edge;)I" } : Jvm.MethodName)) ∈ xTs := xT_5 218 (by rfl) rfl
theorem w_1292 : (Jvm.Cond.methodLink "EditsMeet$Seam" (63 : Nat) ({ cls := "EditsMeet$Seam", name := "place", desc := "(II)V" } : Jvm.MethodName)) ∈ xTs := xT_5 220 (by rfl) rfl
theorem w_1293 : (Jvm.Cond.methodLink "EditsMeet" (191 : Nat) ({ cls := "EditsMeet$Trees", name := "failed", desc := "()Z" } : Jvm.MethodName)) ∈ xTs := xT_5 221 (by rfl) rfl
theorem w_1294 : (Jvm.Cond.instanceMethod ({ cls := "EditsMeet$Trees", name := "failed", desc := "()Z" } : Jvm.MethodName)) ∈ xTs := xT_5 222 (by rfl) rfl
theorem w_1295 : (Jvm.Cond.selects "EditsMeet$Trees" ({ cls := "EditsMeet$Trees", name := "failed", desc := "()Z" } : Jvm.MethodName) ({ cls := "EditsMeet$Trees", name := "failed", desc := "()Z" } : Jvm.MethodName)) ∈ xTs := xT_5 223 (by rfl) rfl
theorem w_1296 : (Jvm.Cond.code ({ cls := "EditsMeet$Trees", name := "failed", desc := "()Z" } : Jvm.MethodName) prog_11_method_33_code (2 : Nat) (Option.some Jvm.ClassFile.FieldType.boolean)) ∈ xTs := xT_5 224 (by rfl) rfl
theorem w_1297 : (Jvm.Cond.methodLink "EditsMeet" (261 : Nat) ({ cls := "EditsMeet$Works", name := "node", desc := "(I)I" } : Jvm.MethodName)) ∈ xTs := xT_5 225 (by rfl) rfl
theorem w_1298 : (Jvm.Cond.methodLink "EditsMeet" (154 : Nat) ({ cls := "EditsMeet$Teller", name := "sumOf", desc := "(II)J" } : Jvm.MethodName)) ∈ xTs := xT_5 226 (by rfl) rfl
theorem w_1299 : (Jvm.Cond.instanceMethod ({ cls := "EditsMeet$Teller", name := "sumOf", desc := "(II)J" } : Jvm.MethodName)) ∈ xTs := xT_5 227 (by rfl) rfl
theorem w_1300 : (Jvm.Cond.selects "EditsMeet$Teller" ({ cls := "EditsMeet$Teller", name := "sumOf", desc := "(II)J" } : Jvm.MethodName) ({ cls := "EditsMeet$Teller", name := "sumOf", desc := "(II)J" } : Jvm.MethodName)) ∈ xTs := xT_5 228 (by rfl) rfl
theorem w_1301 : (Jvm.Cond.code ({ cls := "EditsMeet$Teller", name := "sumOf", desc := "(II)J" } : Jvm.MethodName) prog_10_method_2_code (4 : Nat) (Option.some Jvm.ClassFile.FieldType.long)) ∈ xTs := xT_5 229 (by rfl) rfl
theorem w_1302 : (Jvm.Cond.methodLink "EditsMeet$Teller" (61 : Nat) ({ cls := "java/lang/Math", name := "min", desc := "(II)I" } : Jvm.MethodName)) ∈ xTs := xT_5 230 (by rfl) rfl
theorem w_1303 : (Jvm.Cond.methodLink "EditsMeet$Teller" (67 : Nat) ({ cls := "java/util/Arrays", name := "fill", desc := "([JIIJ)V" } : Jvm.MethodName)) ∈ xTs := xT_5 231 (by rfl) rfl
theorem w_1304 : (Jvm.Cond.static ({ cls := "java/util/Arrays", name := "fill", desc := "([JIIJ)V" } : Jvm.MethodName)) ∈ xTs := xT_5 232 (by rfl) rfl
theorem w_1305 : (Jvm.Cond.code ({ cls := "java/util/Arrays", name := "fill", desc := "([JIIJ)V" } : Jvm.MethodName) prog_24_method_102_code (6 : Nat) (Option.none : Option Jvm.ClassFile.FieldType)) ∈ xTs := xT_5 233 (by rfl) rfl
theorem w_1306 : (Jvm.Cond.methodLink "java/util/Arrays" (13 : Nat) ({ cls := "java/util/Arrays", name := "rangeCheck", desc := "(III)V" } : Jvm.MethodName)) ∈ xTs := xT_5 234 (by rfl) rfl
theorem w_1307 : (Jvm.Cond.static ({ cls := "java/util/Arrays", name := "rangeCheck", desc := "(III)V" } : Jvm.MethodName)) ∈ xTs := xT_5 235 (by rfl) rfl
theorem w_1308 : (Jvm.Cond.code ({ cls := "java/util/Arrays", name := "rangeCheck", desc := "(III)V" } : Jvm.MethodName) prog_24_method_30_code (3 : Nat) (Option.none : Option Jvm.ClassFile.FieldType)) ∈ xTs := xT_5 236 (by rfl) rfl
theorem w_1309 : (Jvm.Cond.methodLink "EditsMeet$Teller" (73 : Nat) ({ cls := "EditsMeet$Teller", name := "sum", desc := "(I)J" } : Jvm.MethodName)) ∈ xTs := xT_5 237 (by rfl) rfl
theorem w_1311 : (Jvm.Cond.instanceMethod ({ cls := "EditsMeet$Teller", name := "sum", desc := "(I)J" } : Jvm.MethodName)) ∈ xTs := xT_5 239 (by rfl) rfl
theorem w_1312 : (Jvm.Cond.code ({ cls := "EditsMeet$Teller", name := "sum", desc := "(I)J" } : Jvm.MethodName) prog_10_method_4_code (9 : Nat) (Option.some Jvm.ClassFile.FieldType.long)) ∈ xTs := xT_6 0 (by rfl) rfl
theorem w_1313 : (Jvm.Cond.methodLink "EditsMeet$Teller" (81 : Nat) ({ cls := "EditsMeet$Teller", name := "atHand", desc := "(I)J" } : Jvm.MethodName)) ∈ xTs := xT_6 1 (by rfl) rfl
theorem w_1315 : (Jvm.Cond.instanceMethod ({ cls := "EditsMeet$Teller", name := "atHand", desc := "(I)J" } : Jvm.MethodName)) ∈ xTs := xT_6 3 (by rfl) rfl
theorem w_1316 : (Jvm.Cond.code ({ cls := "EditsMeet$Teller", name := "atHand", desc := "(I)J" } : Jvm.MethodName) prog_10_method_6_code (5 : Nat) (Option.some Jvm.ClassFile.FieldType.long)) ∈ xTs := xT_6 4 (by rfl) rfl
theorem w_1342 : (Jvm.Cond.constantLong "EditsMeet$Teller" (84 : Nat) (-1 : Int64)) ∈ xTs := xT_6 30 (by rfl) rfl
theorem w_1347 : (Jvm.Cond.constant "EditsMeet$Teller" (90 : Nat) (1073741824 : Int32)) ∈ xTs := xT_6 35 (by rfl) rfl
theorem w_1406 : (Jvm.Cond.methodLink "EditsMeetLaw" (44 : Nat) ({ cls := "EditsMeet", name := "says", desc := "(II)I" } : Jvm.MethodName)) ∈ xTs := xT_6 94 (by rfl) rfl
theorem w_1407 : (Jvm.Cond.instanceMethod ({ cls := "EditsMeet", name := "says", desc := "(II)I" } : Jvm.MethodName)) ∈ xTs := xT_6 95 (by rfl) rfl
theorem w_1408 : (Jvm.Cond.selects "EditsMeet" ({ cls := "EditsMeet", name := "says", desc := "(II)I" } : Jvm.MethodName) ({ cls := "EditsMeet", name := "says", desc := "(II)I" } : Jvm.MethodName)) ∈ xTs := xT_6 96 (by rfl) rfl
theorem w_1409 : (Jvm.Cond.code ({ cls := "EditsMeet", name := "says", desc := "(II)I" } : Jvm.MethodName) prog_1_method_8_code (4 : Nat) (Option.some Jvm.ClassFile.FieldType.int)) ∈ xTs := xT_6 97 (by rfl) rfl
theorem w_1410 : (Jvm.Cond.methodLink "EditsMeet" (162 : Nat) ({ cls := "EditsMeet$Shelf", name := "holdsRow", desc := "()Z" } : Jvm.MethodName)) ∈ xTs := xT_6 98 (by rfl) rfl
theorem w_1430 : (Jvm.Cond.static ({ cls := "EditsMeet", name := "told", desc := "(J)I" } : Jvm.MethodName)) ∈ xTs := xT_6 118 (by rfl) rfl
theorem w_1431 : (Jvm.Cond.code ({ cls := "EditsMeet", name := "told", desc := "(J)I" } : Jvm.MethodName) prog_1_method_11_code (2 : Nat) (Option.some Jvm.ClassFile.FieldType.int)) ∈ xTs := xT_6 119 (by rfl) rfl
theorem w_1432 : (Jvm.Cond.constantLong "EditsMeet" (176 : Nat) (2147483647 : Int64)) ∈ xTs := xT_6 120 (by rfl) rfl
theorem w_1434 : (Jvm.Cond.methodLink "EditsMeetLaw" (49 : Nat) ({ cls := "EditsMeet", name := "feed", desc := "(I)I" } : Jvm.MethodName)) ∈ xTs := xT_6 122 (by rfl) rfl
theorem w_1435 : (Jvm.Cond.instanceMethod ({ cls := "EditsMeet", name := "feed", desc := "(I)I" } : Jvm.MethodName)) ∈ xTs := xT_6 123 (by rfl) rfl
theorem w_1436 : (Jvm.Cond.selects "EditsMeet" ({ cls := "EditsMeet", name := "feed", desc := "(I)I" } : Jvm.MethodName) ({ cls := "EditsMeet", name := "feed", desc := "(I)I" } : Jvm.MethodName)) ∈ xTs := xT_6 124 (by rfl) rfl
theorem w_1437 : (Jvm.Cond.code ({ cls := "EditsMeet", name := "feed", desc := "(I)I" } : Jvm.MethodName) prog_1_method_13_code (2 : Nat) (Option.some Jvm.ClassFile.FieldType.int)) ∈ xTs := xT_6 125 (by rfl) rfl
theorem w_1438 : (Jvm.Cond.methodLink "EditsMeet" (181 : Nat) ({ cls := "EditsMeet$Tape", name := "add", desc := "(I)V" } : Jvm.MethodName)) ∈ xTs := xT_6 126 (by rfl) rfl
theorem w_1439 : (Jvm.Cond.instanceMethod ({ cls := "EditsMeet$Tape", name := "add", desc := "(I)V" } : Jvm.MethodName)) ∈ xTs := xT_6 127 (by rfl) rfl
theorem w_1440 : (Jvm.Cond.selects "EditsMeet$Tape" ({ cls := "EditsMeet$Tape", name := "add", desc := "(I)V" } : Jvm.MethodName) ({ cls := "EditsMeet$Tape", name := "add", desc := "(I)V" } : Jvm.MethodName)) ∈ xTs := xT_6 128 (by rfl) rfl
theorem w_1441 : (Jvm.Cond.code ({ cls := "EditsMeet$Tape", name := "add", desc := "(I)V" } : Jvm.MethodName) prog_9_method_2_code (2 : Nat) (Option.none : Option Jvm.ClassFile.FieldType)) ∈ xTs := xT_6 129 (by rfl) rfl
theorem w_1442 : (Jvm.Cond.methodLink "EditsMeetLaw" (53 : Nat) ({ cls := "EditsMeet", name := "wipe", desc := "()I" } : Jvm.MethodName)) ∈ xTs := xT_6 130 (by rfl) rfl
theorem w_1443 : (Jvm.Cond.instanceMethod ({ cls := "EditsMeet", name := "wipe", desc := "()I" } : Jvm.MethodName)) ∈ xTs := xT_6 131 (by rfl) rfl
theorem w_1444 : (Jvm.Cond.selects "EditsMeet" ({ cls := "EditsMeet", name := "wipe", desc := "()I" } : Jvm.MethodName) ({ cls := "EditsMeet", name := "wipe", desc := "()I" } : Jvm.MethodName)) ∈ xTs := xT_6 132 (by rfl) rfl
theorem w_1445 : (Jvm.Cond.code ({ cls := "EditsMeet", name := "wipe", desc := "()I" } : Jvm.MethodName) prog_1_method_14_code (2 : Nat) (Option.some Jvm.ClassFile.FieldType.int)) ∈ xTs := xT_6 133 (by rfl) rfl
theorem w_1446 : (Jvm.Cond.methodLink "EditsMeetLaw" (58 : Nat) ({ cls := "EditsMeet", name := "edit", desc := "(I)I" } : Jvm.MethodName)) ∈ xTs := xT_6 134 (by rfl) rfl
theorem w_1447 : (Jvm.Cond.instanceMethod ({ cls := "EditsMeet", name := "edit", desc := "(I)I" } : Jvm.MethodName)) ∈ xTs := xT_6 135 (by rfl) rfl
theorem w_1448 : (Jvm.Cond.selects "EditsMeet" ({ cls := "EditsMeet", name := "edit", desc := "(I)I" } : Jvm.MethodName) ({ cls := "EditsMeet", name := "edit", desc := "(I)I" } : Jvm.MethodName)) ∈ xTs := xT_6 136 (by rfl) rfl
theorem w_1449 : (Jvm.Cond.code ({ cls := "EditsMeet", name := "edit", desc := "(I)I" } : Jvm.MethodName) prog_1_method_15_code (5 : Nat) (Option.some Jvm.ClassFile.FieldType.int)) ∈ xTs := xT_6 137 (by rfl) rfl
theorem w_1450 : (Jvm.Cond.methodLink "EditsMeet" (185 : Nat) ({ cls := "EditsMeet$Tape", name := "reads", desc := "()I" } : Jvm.MethodName)) ∈ xTs := xT_6 138 (by rfl) rfl
theorem w_1451 : (Jvm.Cond.instanceMethod ({ cls := "EditsMeet$Tape", name := "reads", desc := "()I" } : Jvm.MethodName)) ∈ xTs := xT_6 139 (by rfl) rfl
theorem w_1452 : (Jvm.Cond.selects "EditsMeet$Tape" ({ cls := "EditsMeet$Tape", name := "reads", desc := "()I" } : Jvm.MethodName) ({ cls := "EditsMeet$Tape", name := "reads", desc := "()I" } : Jvm.MethodName)) ∈ xTs := xT_6 140 (by rfl) rfl
theorem w_1453 : (Jvm.Cond.code ({ cls := "EditsMeet$Tape", name := "reads", desc := "()I" } : Jvm.MethodName) prog_9_method_3_code (3 : Nat) (Option.some Jvm.ClassFile.FieldType.int)) ∈ xTs := xT_6 141 (by rfl) rfl
theorem w_1487 : (Jvm.Cond.methodLink "EditsMeet$Tape" (76 : Nat) ({ cls := "EditsMeet$Works", name := "known", desc := "(I)I" } : Jvm.MethodName)) ∈ xTs := xT_6 175 (by rfl) rfl
theorem w_1488 : (Jvm.Cond.instanceMethod ({ cls := "EditsMeet$Works", name := "known", desc := "(I)I" } : Jvm.MethodName)) ∈ xTs := xT_6 176 (by rfl) rfl
theorem w_1489 : (Jvm.Cond.selects "EditsMeet$Works" ({ cls := "EditsMeet$Works", name := "known", desc := "(I)I" } : Jvm.MethodName) ({ cls := "EditsMeet$Works", name := "known", desc := "(I)I" } : Jvm.MethodName)) ∈ xTs := xT_6 177 (by rfl) rfl
theorem w_1490 : (Jvm.Cond.code ({ cls := "EditsMeet$Works", name := "known", desc := "(I)I" } : Jvm.MethodName) prog_12_method_13_code (3 : Nat) (Option.some Jvm.ClassFile.FieldType.int)) ∈ xTs := xT_6 178 (by rfl) rfl
theorem w_1491 : (Jvm.Cond.methodLink "EditsMeet$Works" (88 : Nat) ({ cls := "EditsMeet$Works", name := "put", desc := "(II)V" } : Jvm.MethodName)) ∈ xTs := xT_6 179 (by rfl) rfl
theorem w_1492 : (Jvm.Cond.methodLink "EditsMeet$Tape" (82 : Nat) ({ cls := "EditsMeet$Slots", name := "put", desc := "(II)V" } : Jvm.MethodName)) ∈ xTs := xT_6 180 (by rfl) rfl
theorem w_1493 : (Jvm.Cond.methodLink "EditsMeet" (194 : Nat) ({ cls := "EditsMeet$Slots", name := "dropFrom", desc := "(I)V" } : Jvm.MethodName)) ∈ xTs := xT_6 181 (by rfl) rfl
theorem w_1498 : (Jvm.Cond.methodLink "EditsMeet" (256 : Nat) ({ cls := "EditsMeet$Slots", name := "put", desc := "(II)V" } : Jvm.MethodName)) ∈ xTs := xT_6 186 (by rfl) rfl
theorem w_1499 : (Jvm.Cond.methodLink "EditsMeet" (201 : Nat) ({ cls := "EditsMeet", name := "told", desc := "(J)I" } : Jvm.MethodName)) ∈ xTs := xT_6 187 (by rfl) rfl
theorem w_1500 : (Jvm.Cond.methodLink "EditsMeetLaw" (62 : Nat) ({ cls := "EditsMeet", name := "of", desc := "(II)I" } : Jvm.MethodName)) ∈ xTs := xT_6 188 (by rfl) rfl
theorem w_1501 : (Jvm.Cond.instanceMethod ({ cls := "EditsMeet", name := "of", desc := "(II)I" } : Jvm.MethodName)) ∈ xTs := xT_6 189 (by rfl) rfl
theorem w_1502 : (Jvm.Cond.selects "EditsMeet" ({ cls := "EditsMeet", name := "of", desc := "(II)I" } : Jvm.MethodName) ({ cls := "EditsMeet", name := "of", desc := "(II)I" } : Jvm.MethodName)) ∈ xTs := xT_6 190 (by rfl) rfl
theorem w_1503 : (Jvm.Cond.code ({ cls := "EditsMeet", name := "of", desc := "(II)I" } : Jvm.MethodName) prog_1_method_16_code (4 : Nat) (Option.some Jvm.ClassFile.FieldType.int)) ∈ xTs := xT_6 191 (by rfl) rfl
theorem w_1506 : (Jvm.Cond.methodLink "EditsMeetLaw" (66 : Nat) ({ cls := "EditsMeet", name := "part", desc := "(III)I" } : Jvm.MethodName)) ∈ xTs := xT_6 194 (by rfl) rfl
theorem w_1507 : (Jvm.Cond.instanceMethod ({ cls := "EditsMeet", name := "part", desc := "(III)I" } : Jvm.MethodName)) ∈ xTs := xT_6 195 (by rfl) rfl
theorem w_1508 : (Jvm.Cond.selects "EditsMeet" ({ cls := "EditsMeet", name := "part", desc := "(III)I" } : Jvm.MethodName) ({ cls := "EditsMeet", name := "part", desc := "(III)I" } : Jvm.MethodName)) ∈ xTs := xT_6 196 (by rfl) rfl
theorem w_1509 : (Jvm.Cond.code ({ cls := "EditsMeet", name := "part", desc := "(III)I" } : Jvm.MethodName) prog_1_method_17_code (5 : Nat) (Option.some Jvm.ClassFile.FieldType.int)) ∈ xTs := xT_6 197 (by rfl) rfl
theorem w_1515 : (Jvm.Cond.methodLink "EditsMeetLaw" (70 : Nat) ({ cls := "EditsMeet", name := "letter", desc := "(III)I" } : Jvm.MethodName)) ∈ xTs := xT_6 203 (by rfl) rfl
theorem w_1516 : (Jvm.Cond.instanceMethod ({ cls := "EditsMeet", name := "letter", desc := "(III)I" } : Jvm.MethodName)) ∈ xTs := xT_6 204 (by rfl) rfl
theorem w_1517 : (Jvm.Cond.selects "EditsMeet" ({ cls := "EditsMeet", name := "letter", desc := "(III)I" } : Jvm.MethodName) ({ cls := "EditsMeet", name := "letter", desc := "(III)I" } : Jvm.MethodName)) ∈ xTs := xT_6 205 (by rfl) rfl
theorem w_1518 : (Jvm.Cond.code ({ cls := "EditsMeet", name := "letter", desc := "(III)I" } : Jvm.MethodName) prog_1_method_18_code (6 : Nat) (Option.some Jvm.ClassFile.FieldType.int)) ∈ xTs := xT_6 206 (by rfl) rfl
theorem w_1523 : (Jvm.Cond.methodLink "EditsMeet$Trees" (111 : Nat) ({ cls := "EditsMeet$Trees", name := "isLeaf", desc := "(I)Z" } : Jvm.MethodName)) ∈ xTs := xT_6 211 (by rfl) rfl
theorem w_1524 : (Jvm.Cond.methodLink "EditsMeet$Trees" (117 : Nat) ({ cls := "EditsMeet$Trees", name := "isPair", desc := "(I)Z" } : Jvm.MethodName)) ∈ xTs := xT_6 212 (by rfl) rfl
theorem w_1525 : (Jvm.Cond.methodLink "EditsMeet$Trees" (120 : Nat) ({ cls := "EditsMeet$Trees", name := "act", desc := "(I)I" } : Jvm.MethodName)) ∈ xTs := xT_6 213 (by rfl) rfl
theorem w_1526 : (Jvm.Cond.methodLink "EditsMeetLaw" (74 : Nat) ({ cls := "EditsMeet", name := "spelled", desc := "(II)I" } : Jvm.MethodName)) ∈ xTs := xT_6 214 (by rfl) rfl
theorem w_1527 : (Jvm.Cond.instanceMethod ({ cls := "EditsMeet", name := "spelled", desc := "(II)I" } : Jvm.MethodName)) ∈ xTs := xT_6 215 (by rfl) rfl
theorem w_1528 : (Jvm.Cond.selects "EditsMeet" ({ cls := "EditsMeet", name := "spelled", desc := "(II)I" } : Jvm.MethodName) ({ cls := "EditsMeet", name := "spelled", desc := "(II)I" } : Jvm.MethodName)) ∈ xTs := xT_6 216 (by rfl) rfl
theorem w_1529 : (Jvm.Cond.code ({ cls := "EditsMeet", name := "spelled", desc := "(II)I" } : Jvm.MethodName) prog_1_method_19_code (4 : Nat) (Option.some Jvm.ClassFile.FieldType.int)) ∈ xTs := xT_6 217 (by rfl) rfl
theorem w_1534 : (Jvm.Cond.methodLink "EditsMeet$Teller" (77 : Nat) ({ cls := "EditsMeet$Teller", name := "sumOf", desc := "(II)J" } : Jvm.MethodName)) ∈ xTs := xT_6 222 (by rfl) rfl
theorem w_1549 : (Jvm.Cond.methodLink "EditsMeetLaw" (78 : Nat) ({ cls := "EditsMeet", name := "behind", desc := "(III)I" } : Jvm.MethodName)) ∈ xTs := xT_6 237 (by rfl) rfl
theorem w_1550 : (Jvm.Cond.instanceMethod ({ cls := "EditsMeet", name := "behind", desc := "(III)I" } : Jvm.MethodName)) ∈ xTs := xT_6 238 (by rfl) rfl
theorem w_1551 : (Jvm.Cond.selects "EditsMeet" ({ cls := "EditsMeet", name := "behind", desc := "(III)I" } : Jvm.MethodName) ({ cls := "EditsMeet", name := "behind", desc := "(III)I" } : Jvm.MethodName)) ∈ xTs := xT_6 239 (by rfl) rfl
theorem w_1552 : (Jvm.Cond.code ({ cls := "EditsMeet", name := "behind", desc := "(III)I" } : Jvm.MethodName) prog_1_method_20_code (8 : Nat) (Option.some Jvm.ClassFile.FieldType.int)) ∈ xTs := xT_7 0 (by rfl) rfl
theorem w_1557 : (Jvm.Cond.methodLink "EditsMeet" (236 : Nat) ({ cls := "EditsMeet$Works", name := "to", desc := "(I)J" } : Jvm.MethodName)) ∈ xTs := xT_7 5 (by rfl) rfl
theorem w_1558 : (Jvm.Cond.instanceMethod ({ cls := "EditsMeet$Works", name := "to", desc := "(I)J" } : Jvm.MethodName)) ∈ xTs := xT_7 6 (by rfl) rfl
theorem w_1559 : (Jvm.Cond.selects "EditsMeet$Works" ({ cls := "EditsMeet$Works", name := "to", desc := "(I)J" } : Jvm.MethodName) ({ cls := "EditsMeet$Works", name := "to", desc := "(I)J" } : Jvm.MethodName)) ∈ xTs := xT_7 7 (by rfl) rfl
theorem w_1560 : (Jvm.Cond.code ({ cls := "EditsMeet$Works", name := "to", desc := "(I)J" } : Jvm.MethodName) prog_12_method_6_code (2 : Nat) (Option.some Jvm.ClassFile.FieldType.long)) ∈ xTs := xT_7 8 (by rfl) rfl
theorem w_1567 : (Jvm.Cond.methodLink "EditsMeetLaw" (82 : Nat) ({ cls := "EditsMeet", name := "over", desc := "(IIII)I" } : Jvm.MethodName)) ∈ xTs := xT_7 15 (by rfl) rfl
theorem w_1568 : (Jvm.Cond.instanceMethod ({ cls := "EditsMeet", name := "over", desc := "(IIII)I" } : Jvm.MethodName)) ∈ xTs := xT_7 16 (by rfl) rfl
theorem w_1569 : (Jvm.Cond.selects "EditsMeet" ({ cls := "EditsMeet", name := "over", desc := "(IIII)I" } : Jvm.MethodName) ({ cls := "EditsMeet", name := "over", desc := "(IIII)I" } : Jvm.MethodName)) ∈ xTs := xT_7 17 (by rfl) rfl
theorem w_1570 : (Jvm.Cond.code ({ cls := "EditsMeet", name := "over", desc := "(IIII)I" } : Jvm.MethodName) prog_1_method_21_code (6 : Nat) (Option.some Jvm.ClassFile.FieldType.int)) ∈ xTs := xT_7 18 (by rfl) rfl
theorem w_1571 : (Jvm.Cond.methodLink "EditsMeetLaw" (87 : Nat) ({ cls := "EditsMeet", name := "turned", desc := "(III)I" } : Jvm.MethodName)) ∈ xTs := xT_7 19 (by rfl) rfl
theorem w_1572 : (Jvm.Cond.instanceMethod ({ cls := "EditsMeet", name := "turned", desc := "(III)I" } : Jvm.MethodName)) ∈ xTs := xT_7 20 (by rfl) rfl
theorem w_1573 : (Jvm.Cond.selects "EditsMeet" ({ cls := "EditsMeet", name := "turned", desc := "(III)I" } : Jvm.MethodName) ({ cls := "EditsMeet", name := "turned", desc := "(III)I" } : Jvm.MethodName)) ∈ xTs := xT_7 21 (by rfl) rfl
theorem w_1574 : (Jvm.Cond.code ({ cls := "EditsMeet", name := "turned", desc := "(III)I" } : Jvm.MethodName) prog_1_method_22_code (7 : Nat) (Option.some Jvm.ClassFile.FieldType.int)) ∈ xTs := xT_7 22 (by rfl) rfl
theorem w_1575 : (Jvm.Cond.methodLink "EditsMeet" (246 : Nat) ({ cls := "EditsMeet$Meeting", name := "clientAt", desc := "(I)LEditsMeet$Client;" } : Jvm.MethodName)) ∈ xTs := xT_7 23 (by rfl) rfl
theorem w_1576 : (Jvm.Cond.instanceMethod ({ cls := "EditsMeet$Meeting", name := "clientAt", desc := "(I)LEditsMeet$Client;" } : Jvm.MethodName)) ∈ xTs := xT_7 24 (by rfl) rfl
theorem w_1577 : (Jvm.Cond.selects "EditsMeet$Meeting" ({ cls := "EditsMeet$Meeting", name := "clientAt", desc := "(I)LEditsMeet$Client;" } : Jvm.MethodName) ({ cls := "EditsMeet$Meeting", name := "clientAt", desc := "(I)LEditsMeet$Client;" } : Jvm.MethodName)) ∈ xTs := xT_7 25 (by rfl) rfl
theorem w_1578 : (Jvm.Cond.code ({ cls := "EditsMeet$Meeting", name := "clientAt", desc := "(I)LEditsMeet$Client;" } : Jvm.MethodName) prog_5_method_3_code (2 : Nat) (Option.some (Jvm.ClassFile.FieldType.object "EditsMeet$Client"))) ∈ xTs := xT_7 26 (by rfl) rfl
theorem w_1579 : (Jvm.Cond.methodLink "EditsMeet" (250 : Nat) ({ cls := "EditsMeet$Client", name := "size", desc := "()J" } : Jvm.MethodName)) ∈ xTs := xT_7 27 (by rfl) rfl
theorem w_1580 : (Jvm.Cond.instanceMethod ({ cls := "EditsMeet$Client", name := "size", desc := "()J" } : Jvm.MethodName)) ∈ xTs := xT_7 28 (by rfl) rfl
theorem w_1581 : (Jvm.Cond.selects "EditsMeet$Client" ({ cls := "EditsMeet$Client", name := "size", desc := "()J" } : Jvm.MethodName) ({ cls := "EditsMeet$Client", name := "size", desc := "()J" } : Jvm.MethodName)) ∈ xTs := xT_7 29 (by rfl) rfl
theorem w_1582 : (Jvm.Cond.code ({ cls := "EditsMeet$Client", name := "size", desc := "()J" } : Jvm.MethodName) prog_2_method_3_code (1 : Nat) (Option.some Jvm.ClassFile.FieldType.long)) ∈ xTs := xT_7 30 (by rfl) rfl
theorem w_1583 : (Jvm.Cond.methodLink "EditsMeet$Client" (29 : Nat) ({ cls := "EditsMeet$Slots", name := "at", desc := "(I)I" } : Jvm.MethodName)) ∈ xTs := xT_7 31 (by rfl) rfl
theorem w_1584 : (Jvm.Cond.methodLink "EditsMeet$Client" (35 : Nat) ({ cls := "EditsMeet$Works", name := "to", desc := "(I)J" } : Jvm.MethodName)) ∈ xTs := xT_7 32 (by rfl) rfl
theorem w_1586 : (Jvm.Cond.instanceMethod ({ cls := "EditsMeet$Client", name := "ownText", desc := "()I" } : Jvm.MethodName)) ∈ xTs := xT_7 34 (by rfl) rfl
theorem w_1587 : (Jvm.Cond.selects "EditsMeet$Client" ({ cls := "EditsMeet$Client", name := "ownText", desc := "()I" } : Jvm.MethodName) ({ cls := "EditsMeet$Client", name := "ownText", desc := "()I" } : Jvm.MethodName)) ∈ xTs := xT_7 35 (by rfl) rfl
theorem w_1588 : (Jvm.Cond.code ({ cls := "EditsMeet$Client", name := "ownText", desc := "()I" } : Jvm.MethodName) prog_2_method_2_code (1 : Nat) (Option.some Jvm.ClassFile.FieldType.int)) ∈ xTs := xT_7 36 (by rfl) rfl
theorem w_1589 : (Jvm.Cond.methodLink "EditsMeetLaw" (91 : Nat) ({ cls := "EditsMeet", name := "differ", desc := "(II)I" } : Jvm.MethodName)) ∈ xTs := xT_7 37 (by rfl) rfl
theorem w_1590 : (Jvm.Cond.instanceMethod ({ cls := "EditsMeet", name := "differ", desc := "(II)I" } : Jvm.MethodName)) ∈ xTs := xT_7 38 (by rfl) rfl
theorem w_1591 : (Jvm.Cond.selects "EditsMeet" ({ cls := "EditsMeet", name := "differ", desc := "(II)I" } : Jvm.MethodName) ({ cls := "EditsMeet", name := "differ", desc := "(II)I" } : Jvm.MethodName)) ∈ xTs := xT_7 39 (by rfl) rfl
theorem w_1592 : (Jvm.Cond.code ({ cls := "EditsMeet", name := "differ", desc := "(II)I" } : Jvm.MethodName) prog_1_method_23_code (5 : Nat) (Option.some Jvm.ClassFile.FieldType.int)) ∈ xTs := xT_7 40 (by rfl) rfl
theorem w_1613 : (Jvm.Cond.methodLink "EditsMeetLaw" (95 : Nat) ({ cls := "EditsMeet", name := "does", desc := "(II)I" } : Jvm.MethodName)) ∈ xTs := xT_7 61 (by rfl) rfl
theorem w_1614 : (Jvm.Cond.instanceMethod ({ cls := "EditsMeet", name := "does", desc := "(II)I" } : Jvm.MethodName)) ∈ xTs := xT_7 62 (by rfl) rfl
theorem w_1615 : (Jvm.Cond.selects "EditsMeet" ({ cls := "EditsMeet", name := "does", desc := "(II)I" } : Jvm.MethodName) ({ cls := "EditsMeet", name := "does", desc := "(II)I" } : Jvm.MethodName)) ∈ xTs := xT_7 63 (by rfl) rfl
theorem w_1616 : (Jvm.Cond.code ({ cls := "EditsMeet", name := "does", desc := "(II)I" } : Jvm.MethodName) prog_1_method_29_code (5 : Nat) (Option.some Jvm.ClassFile.FieldType.int)) ∈ xTs := xT_7 64 (by rfl) rfl
theorem w_1617 : (Jvm.Cond.methodLink "EditsMeet" (266 : Nat) ({ cls := "EditsMeet$Client", name := "isTooLongBy", desc := "(I)Z" } : Jvm.MethodName)) ∈ xTs := xT_7 65 (by rfl) rfl
theorem w_1618 : (Jvm.Cond.instanceMethod ({ cls := "EditsMeet$Client", name := "isTooLongBy", desc := "(I)Z" } : Jvm.MethodName)) ∈ xTs := xT_7 66 (by rfl) rfl
theorem w_1619 : (Jvm.Cond.selects "EditsMeet$Client" ({ cls := "EditsMeet$Client", name := "isTooLongBy", desc := "(I)Z" } : Jvm.MethodName) ({ cls := "EditsMeet$Client", name := "isTooLongBy", desc := "(I)Z" } : Jvm.MethodName)) ∈ xTs := xT_7 67 (by rfl) rfl
theorem w_1620 : (Jvm.Cond.code ({ cls := "EditsMeet$Client", name := "isTooLongBy", desc := "(I)Z" } : Jvm.MethodName) prog_2_method_5_code (2 : Nat) (Option.some Jvm.ClassFile.FieldType.boolean)) ∈ xTs := xT_7 68 (by rfl) rfl
theorem w_1621 : (Jvm.Cond.constantLong "EditsMeet$Client" (46 : Nat) (60 : Int64)) ∈ xTs := xT_7 69 (by rfl) rfl
theorem w_1623 : (Jvm.Cond.methodLink "EditsMeet" (269 : Nat) ({ cls := "EditsMeet$Client", name := "like", desc := "(LEditsMeet$Client;)V" } : Jvm.MethodName)) ∈ xTs := xT_7 71 (by rfl) rfl
theorem w_1624 : (Jvm.Cond.instanceMethod ({ cls := "EditsMeet$Client", name := "like", desc := "(LEditsMeet$Client;)V" } : Jvm.MethodName)) ∈ xTs := xT_7 72 (by rfl) rfl
theorem w_1625 : (Jvm.Cond.selects "EditsMeet$Client" ({ cls := "EditsMeet$Client", name := "like", desc := "(LEditsMeet$Client;)V" } : Jvm.MethodName) ({ cls := "EditsMeet$Client", name := "like", desc := "(LEditsMeet$Client;)V" } : Jvm.MethodName)) ∈ xTs := xT_7 73 (by rfl) rfl
theorem w_1626 : (Jvm.Cond.code ({ cls := "EditsMeet$Client", name := "like", desc := "(LEditsMeet$Client;)V" } : Jvm.MethodName) prog_2_method_21_code (2 : Nat) (Option.none : Option Jvm.ClassFile.FieldType)) ∈ xTs := xT_7 74 (by rfl) rfl
theorem w_1627 : (Jvm.Cond.methodLink "EditsMeet$Client" (131 : Nat) ({ cls := "EditsMeet$Slots", name := "like", desc := "(LEditsMeet$Slots;)V" } : Jvm.MethodName)) ∈ xTs := xT_7 75 (by rfl) rfl
theorem w_1628 : (Jvm.Cond.instanceMethod ({ cls := "EditsMeet$Slots", name := "like", desc := "(LEditsMeet$Slots;)V" } : Jvm.MethodName)) ∈ xTs := xT_7 76 (by rfl) rfl
theorem w_1629 : (Jvm.Cond.selects "EditsMeet$Slots" ({ cls := "EditsMeet$Slots", name := "like", desc := "(LEditsMeet$Slots;)V" } : Jvm.MethodName) ({ cls := "EditsMeet$Slots", name := "like", desc := "(LEditsMeet$Slots;)V" } : Jvm.MethodName)) ∈ xTs := xT_7 77 (by rfl) rfl
theorem w_1630 : (Jvm.Cond.code ({ cls := "EditsMeet$Slots", name := "like", desc := "(LEditsMeet$Slots;)V" } : Jvm.MethodName) prog_8_method_5_code (2 : Nat) (Option.none : Option Jvm.ClassFile.FieldType)) ∈ xTs := xT_7 78 (by rfl) rfl
theorem w_1631 : (Jvm.Cond.methodLink "EditsMeet$Slots" (21 : Nat) ({ cls := "java/lang/Math", name := "min", desc := "(II)I" } : Jvm.MethodName)) ∈ xTs := xT_7 79 (by rfl) rfl
theorem w_1632 : (Jvm.Cond.methodLink "EditsMeet$Slots" (24 : Nat) ({ cls := "java/lang/System", name := "arraycopy", desc := "(Ljava/lang/Object;ILjava/lang/Object;II)V" } : Jvm.MethodName)) ∈ xTs := xT_7 80 (by rfl) rfl
theorem w_1633 : (Jvm.Cond.methodLink "EditsMeet" (273 : Nat) ({ cls := "EditsMeet$Client", name := "clear", desc := "(I)V" } : Jvm.MethodName)) ∈ xTs := xT_7 81 (by rfl) rfl
theorem w_1634 : (Jvm.Cond.instanceMethod ({ cls := "EditsMeet$Client", name := "clear", desc := "(I)V" } : Jvm.MethodName)) ∈ xTs := xT_7 82 (by rfl) rfl
theorem w_1635 : (Jvm.Cond.selects "EditsMeet$Client" ({ cls := "EditsMeet$Client", name := "clear", desc := "(I)V" } : Jvm.MethodName) ({ cls := "EditsMeet$Client", name := "clear", desc := "(I)V" } : Jvm.MethodName)) ∈ xTs := xT_7 83 (by rfl) rfl
theorem w_1636 : (Jvm.Cond.code ({ cls := "EditsMeet$Client", name := "clear", desc := "(I)V" } : Jvm.MethodName) prog_2_method_13_code (3 : Nat) (Option.none : Option Jvm.ClassFile.FieldType)) ∈ xTs := xT_7 84 (by rfl) rfl
theorem w_1637 : (Jvm.Cond.methodLink "EditsMeet$Client" (55 : Nat) ({ cls := "EditsMeet$Client", name := "countOf", desc := "(I)I" } : Jvm.MethodName)) ∈ xTs := xT_7 85 (by rfl) rfl
theorem w_1638 : (Jvm.Cond.instanceMethod ({ cls := "EditsMeet$Client", name := "countOf", desc := "(I)I" } : Jvm.MethodName)) ∈ xTs := xT_7 86 (by rfl) rfl
theorem w_1639 : (Jvm.Cond.selects "EditsMeet$Client" ({ cls := "EditsMeet$Client", name := "countOf", desc := "(I)I" } : Jvm.MethodName) ({ cls := "EditsMeet$Client", name := "countOf", desc := "(I)I" } : Jvm.MethodName)) ∈ xTs := xT_7 87 (by rfl) rfl
theorem w_1640 : (Jvm.Cond.code ({ cls := "EditsMeet$Client", name := "countOf", desc := "(I)I" } : Jvm.MethodName) prog_2_method_8_code (2 : Nat) (Option.some Jvm.ClassFile.FieldType.int)) ∈ xTs := xT_7 88 (by rfl) rfl
theorem w_1641 : (Jvm.Cond.methodLink "EditsMeet$Client" (82 : Nat) ({ cls := "EditsMeet$Client", name := "drop", desc := "(I)V" } : Jvm.MethodName)) ∈ xTs := xT_7 89 (by rfl) rfl
theorem w_1643 : (Jvm.Cond.instanceMethod ({ cls := "EditsMeet$Client", name := "drop", desc := "(I)V" } : Jvm.MethodName)) ∈ xTs := xT_7 91 (by rfl) rfl
theorem w_1644 : (Jvm.Cond.code ({ cls := "EditsMeet$Client", name := "drop", desc := "(I)V" } : Jvm.MethodName) prog_2_method_12_code (3 : Nat) (Option.none : Option Jvm.ClassFile.FieldType)) ∈ xTs := xT_7 92 (by rfl) rfl
theorem w_1645 : (Jvm.Cond.methodLink "EditsMeet$Client" (71 : Nat) ({ cls := "EditsMeet$Client", name := "slotOf", desc := "(II)I" } : Jvm.MethodName)) ∈ xTs := xT_7 93 (by rfl) rfl
theorem w_1646 : (Jvm.Cond.static ({ cls := "EditsMeet$Client", name := "slotOf", desc := "(II)I" } : Jvm.MethodName)) ∈ xTs := xT_7 94 (by rfl) rfl
theorem w_1647 : (Jvm.Cond.code ({ cls := "EditsMeet$Client", name := "slotOf", desc := "(II)I" } : Jvm.MethodName) prog_2_method_10_code (2 : Nat) (Option.some Jvm.ClassFile.FieldType.int)) ∈ xTs := xT_7 95 (by rfl) rfl
theorem w_1648 : (Jvm.Cond.methodLink "EditsMeet$Client" (75 : Nat) ({ cls := "EditsMeet$Slots", name := "put", desc := "(II)V" } : Jvm.MethodName)) ∈ xTs := xT_7 96 (by rfl) rfl
theorem w_1649 : (Jvm.Cond.methodLink "EditsMeet$Client" (79 : Nat) ({ cls := "EditsMeet$Client", name := "putCount", desc := "(II)V" } : Jvm.MethodName)) ∈ xTs := xT_7 97 (by rfl) rfl
theorem w_1651 : (Jvm.Cond.instanceMethod ({ cls := "EditsMeet$Client", name := "putCount", desc := "(II)V" } : Jvm.MethodName)) ∈ xTs := xT_7 99 (by rfl) rfl
theorem w_1652 : (Jvm.Cond.code ({ cls := "EditsMeet$Client", name := "putCount", desc := "(II)V" } : Jvm.MethodName) prog_2_method_14_code (3 : Nat) (Option.none : Option Jvm.ClassFile.FieldType)) ∈ xTs := xT_7 100 (by rfl) rfl
theorem w_1653 : (Jvm.Cond.methodLink "EditsMeet" (276 : Nat) ({ cls := "EditsMeet$Client", name := "doDraft", desc := "(ILEditsMeet$Loom;)V" } : Jvm.MethodName)) ∈ xTs := xT_7 101 (by rfl) rfl
theorem w_1654 : (Jvm.Cond.instanceMethod ({ cls := "EditsMeet$Client", name := "doDraft", desc := "(ILEditsMeet$Loom;)V" } : Jvm.MethodName)) ∈ xTs := xT_7 102 (by rfl) rfl
theorem w_1655 : (Jvm.Cond.selects "EditsMeet$Client" ({ cls := "EditsMeet$Client", name := "doDraft", desc := "(ILEditsMeet$Loom;)V" } : Jvm.MethodName) ({ cls := "EditsMeet$Client", name := "doDraft", desc := "(ILEditsMeet$Loom;)V" } : Jvm.MethodName)) ∈ xTs := xT_7 103 (by rfl) rfl
theorem w_1656 : (Jvm.Cond.code ({ cls := "EditsMeet$Client", name := "doDraft", desc := "(ILEditsMeet$Loom;)V" } : Jvm.MethodName) prog_2_method_16_code (4 : Nat) (Option.none : Option Jvm.ClassFile.FieldType)) ∈ xTs := xT_7 104 (by rfl) rfl
theorem w_1657 : (Jvm.Cond.methodLink "EditsMeet$Client" (91 : Nat) ({ cls := "EditsMeet$Loom", name := "weave", desc := "(III)I" } : Jvm.MethodName)) ∈ xTs := xT_7 105 (by rfl) rfl
theorem w_1658 : (Jvm.Cond.methodLink "EditsMeet$Client" (95 : Nat) ({ cls := "EditsMeet$Client", name := "keep", desc := "(II)V" } : Jvm.MethodName)) ∈ xTs := xT_7 106 (by rfl) rfl
theorem w_1660 : (Jvm.Cond.instanceMethod ({ cls := "EditsMeet$Client", name := "keep", desc := "(II)V" } : Jvm.MethodName)) ∈ xTs := xT_7 108 (by rfl) rfl
theorem w_1661 : (Jvm.Cond.code ({ cls := "EditsMeet$Client", name := "keep", desc := "(II)V" } : Jvm.MethodName) prog_2_method_11_code (5 : Nat) (Option.none : Option Jvm.ClassFile.FieldType)) ∈ xTs := xT_7 109 (by rfl) rfl
theorem w_1662 : (Jvm.Cond.methodLink "EditsMeet$Client" (98 : Nat) ({ cls := "EditsMeet$Works", name := "node", desc := "(I)I" } : Jvm.MethodName)) ∈ xTs := xT_7 110 (by rfl) rfl
theorem w_1663 : (Jvm.Cond.methodLink "EditsMeet$Client" (101 : Nat) ({ cls := "EditsMeet$Client", name := "movePlaces", desc := "(IZ)V" } : Jvm.MethodName)) ∈ xTs := xT_7 111 (by rfl) rfl
theorem w_1665 : (Jvm.Cond.instanceMethod ({ cls := "EditsMeet$Client", name := "movePlaces", desc := "(IZ)V" } : Jvm.MethodName)) ∈ xTs := xT_7 113 (by rfl) rfl
theorem w_1666 : (Jvm.Cond.code ({ cls := "EditsMeet$Client", name := "movePlaces", desc := "(IZ)V" } : Jvm.MethodName) prog_2_method_19_code (3 : Nat) (Option.none : Option Jvm.ClassFile.FieldType)) ∈ xTs := xT_7 114 (by rfl) rfl
theorem w_1667 : (Jvm.Cond.methodLink "EditsMeet$Client" (122 : Nat) ({ cls := "EditsMeet$Trees", name := "placeAfter", desc := "(IJZ)J" } : Jvm.MethodName)) ∈ xTs := xT_7 115 (by rfl) rfl
theorem w_1668 : (Jvm.Cond.instanceMethod ({ cls := "EditsMeet$Trees", name := "placeAfter", desc := "(IJZ)J" } : Jvm.MethodName)) ∈ xTs := xT_7 116 (by rfl) rfl
theorem w_1669 : (Jvm.Cond.selects "EditsMeet$Trees" ({ cls := "EditsMeet$Trees", name := "placeAfter", desc := "(IJZ)J" } : Jvm.MethodName) ({ cls := "EditsMeet$Trees", name := "placeAfter", desc := "(IJZ)J" } : Jvm.MethodName)) ∈ xTs := xT_7 117 (by rfl) rfl
theorem w_1670 : (Jvm.Cond.code ({ cls := "EditsMeet$Trees", name := "placeAfter", desc := "(IJZ)J" } : Jvm.MethodName) prog_11_method_21_code (18 : Nat) (Option.some Jvm.ClassFile.FieldType.long)) ∈ xTs := xT_7 118 (by rfl) rfl
theorem w_1671 : (Jvm.Cond.methodLink "EditsMeet" (280 : Nat) ({ cls := "EditsMeet", name := "hasNoRoom", desc := "(LEditsMeet$Client;)Z" } : Jvm.MethodName)) ∈ xTs := xT_7 119 (by rfl) rfl
theorem w_1673 : (Jvm.Cond.instanceMethod ({ cls := "EditsMeet", name := "hasNoRoom", desc := "(LEditsMeet$Client;)Z" } : Jvm.MethodName)) ∈ xTs := xT_7 121 (by rfl) rfl
theorem w_1674 : (Jvm.Cond.code ({ cls := "EditsMeet", name := "hasNoRoom", desc := "(LEditsMeet$Client;)Z" } : Jvm.MethodName) prog_1_method_36_code (3 : Nat) (Option.some Jvm.ClassFile.FieldType.boolean)) ∈ xTs := xT_7 122 (by rfl) rfl
theorem w_1675 : (Jvm.Cond.methodLink "EditsMeetLaw" (99 : Nat) ({ cls := "EditsMeet", name := "insert", desc := "(IIII)I" } : Jvm.MethodName)) ∈ xTs := xT_7 123 (by rfl) rfl
theorem w_1676 : (Jvm.Cond.instanceMethod ({ cls := "EditsMeet", name := "insert", desc := "(IIII)I" } : Jvm.MethodName)) ∈ xTs := xT_7 124 (by rfl) rfl
theorem w_1677 : (Jvm.Cond.selects "EditsMeet" ({ cls := "EditsMeet", name := "insert", desc := "(IIII)I" } : Jvm.MethodName) ({ cls := "EditsMeet", name := "insert", desc := "(IIII)I" } : Jvm.MethodName)) ∈ xTs := xT_7 125 (by rfl) rfl
theorem w_1678 : (Jvm.Cond.code ({ cls := "EditsMeet", name := "insert", desc := "(IIII)I" } : Jvm.MethodName) prog_1_method_30_code (6 : Nat) (Option.some Jvm.ClassFile.FieldType.int)) ∈ xTs := xT_7 126 (by rfl) rfl
theorem w_1679 : (Jvm.Cond.constantLong "EditsMeet" (284 : Nat) (60 : Int64)) ∈ xTs := xT_7 127 (by rfl) rfl
theorem w_1680 : (Jvm.Cond.methodLink "EditsMeet" (286 : Nat) ({ cls := "EditsMeet$Loom", name := "draft", desc := "(JIJJ)V" } : Jvm.MethodName)) ∈ xTs := xT_7 128 (by rfl) rfl
theorem w_1681 : (Jvm.Cond.instanceMethod ({ cls := "EditsMeet$Loom", name := "draft", desc := "(JIJJ)V" } : Jvm.MethodName)) ∈ xTs := xT_7 129 (by rfl) rfl
theorem w_1682 : (Jvm.Cond.selects "EditsMeet$Loom" ({ cls := "EditsMeet$Loom", name := "draft", desc := "(JIJJ)V" } : Jvm.MethodName) ({ cls := "EditsMeet$Loom", name := "draft", desc := "(JIJJ)V" } : Jvm.MethodName)) ∈ xTs := xT_7 130 (by rfl) rfl
theorem w_1683 : (Jvm.Cond.code ({ cls := "EditsMeet$Loom", name := "draft", desc := "(JIJJ)V" } : Jvm.MethodName) prog_4_method_2_code (9 : Nat) (Option.none : Option Jvm.ClassFile.FieldType)) ∈ xTs := xT_7 131 (by rfl) rfl
theorem w_1684 : (Jvm.Cond.methodLink "EditsMeet$Loom" (90 : Nat) ({ cls := "EditsMeet$Works", name := "known", desc := "(I)I" } : Jvm.MethodName)) ∈ xTs := xT_7 132 (by rfl) rfl
theorem w_1685 : (Jvm.Cond.methodLink "EditsMeetLaw" (103 : Nat) ({ cls := "EditsMeet", name := "cut", desc := "(III)I" } : Jvm.MethodName)) ∈ xTs := xT_7 133 (by rfl) rfl
theorem w_1686 : (Jvm.Cond.instanceMethod ({ cls := "EditsMeet", name := "cut", desc := "(III)I" } : Jvm.MethodName)) ∈ xTs := xT_7 134 (by rfl) rfl
theorem w_1687 : (Jvm.Cond.selects "EditsMeet" ({ cls := "EditsMeet", name := "cut", desc := "(III)I" } : Jvm.MethodName) ({ cls := "EditsMeet", name := "cut", desc := "(III)I" } : Jvm.MethodName)) ∈ xTs := xT_7 135 (by rfl) rfl
theorem w_1688 : (Jvm.Cond.code ({ cls := "EditsMeet", name := "cut", desc := "(III)I" } : Jvm.MethodName) prog_1_method_31_code (5 : Nat) (Option.some Jvm.ClassFile.FieldType.int)) ∈ xTs := xT_7 136 (by rfl) rfl
theorem w_1689 : (Jvm.Cond.methodLink "EditsMeetLaw" (107 : Nat) ({ cls := "EditsMeet", name := "mark", desc := "(IIIII)I" } : Jvm.MethodName)) ∈ xTs := xT_7 137 (by rfl) rfl
theorem w_1690 : (Jvm.Cond.instanceMethod ({ cls := "EditsMeet", name := "mark", desc := "(IIIII)I" } : Jvm.MethodName)) ∈ xTs := xT_7 138 (by rfl) rfl
theorem w_1691 : (Jvm.Cond.selects "EditsMeet" ({ cls := "EditsMeet", name := "mark", desc := "(IIIII)I" } : Jvm.MethodName) ({ cls := "EditsMeet", name := "mark", desc := "(IIIII)I" } : Jvm.MethodName)) ∈ xTs := xT_7 139 (by rfl) rfl
theorem w_1692 : (Jvm.Cond.code ({ cls := "EditsMeet", name := "mark", desc := "(IIIII)I" } : Jvm.MethodName) prog_1_method_32_code (9 : Nat) (Option.some Jvm.ClassFile.FieldType.int)) ∈ xTs := xT_7 140 (by rfl) rfl
theorem w_1693 : (Jvm.Cond.methodLink "EditsMeet" (290 : Nat) ({ cls := "EditsMeet$Client", name := "latest", desc := "(I)I" } : Jvm.MethodName)) ∈ xTs := xT_7 141 (by rfl) rfl
theorem w_1694 : (Jvm.Cond.instanceMethod ({ cls := "EditsMeet$Client", name := "latest", desc := "(I)I" } : Jvm.MethodName)) ∈ xTs := xT_7 142 (by rfl) rfl
theorem w_1695 : (Jvm.Cond.selects "EditsMeet$Client" ({ cls := "EditsMeet$Client", name := "latest", desc := "(I)I" } : Jvm.MethodName) ({ cls := "EditsMeet$Client", name := "latest", desc := "(I)I" } : Jvm.MethodName)) ∈ xTs := xT_7 143 (by rfl) rfl
theorem w_1696 : (Jvm.Cond.code ({ cls := "EditsMeet$Client", name := "latest", desc := "(I)I" } : Jvm.MethodName) prog_2_method_9_code (2 : Nat) (Option.some Jvm.ClassFile.FieldType.int)) ∈ xTs := xT_7 144 (by rfl) rfl
theorem w_1697 : (Jvm.Cond.methodLink "EditsMeetLaw" (123 : Nat) ({ cls := "EditsMeet", name := "undo", desc := "(I)I" } : Jvm.MethodName)) ∈ xTs := xT_7 145 (by rfl) rfl
theorem w_1698 : (Jvm.Cond.instanceMethod ({ cls := "EditsMeet", name := "undo", desc := "(I)I" } : Jvm.MethodName)) ∈ xTs := xT_7 146 (by rfl) rfl
theorem w_1699 : (Jvm.Cond.selects "EditsMeet" ({ cls := "EditsMeet", name := "undo", desc := "(I)I" } : Jvm.MethodName) ({ cls := "EditsMeet", name := "undo", desc := "(I)I" } : Jvm.MethodName)) ∈ xTs := xT_7 147 (by rfl) rfl
theorem w_1700 : (Jvm.Cond.code ({ cls := "EditsMeet", name := "undo", desc := "(I)I" } : Jvm.MethodName) prog_1_method_33_code (4 : Nat) (Option.some Jvm.ClassFile.FieldType.int)) ∈ xTs := xT_7 148 (by rfl) rfl
theorem w_1701 : (Jvm.Cond.methodLink "EditsMeet" (293 : Nat) ({ cls := "EditsMeet", name := "whyNotAgain", desc := "(LEditsMeet$Client;I)I" } : Jvm.MethodName)) ∈ xTs := xT_7 149 (by rfl) rfl
theorem w_1702 : (Jvm.Cond.static ({ cls := "EditsMeet", name := "whyNotAgain", desc := "(LEditsMeet$Client;I)I" } : Jvm.MethodName)) ∈ xTs := xT_7 150 (by rfl) rfl
theorem w_1703 : (Jvm.Cond.code ({ cls := "EditsMeet", name := "whyNotAgain", desc := "(LEditsMeet$Client;I)I" } : Jvm.MethodName) prog_1_method_37_code (2 : Nat) (Option.some Jvm.ClassFile.FieldType.int)) ∈ xTs := xT_7 151 (by rfl) rfl
theorem w_1704 : (Jvm.Cond.methodLink "EditsMeet" (300 : Nat) ({ cls := "EditsMeet$Client", name := "countOf", desc := "(I)I" } : Jvm.MethodName)) ∈ xTs := xT_7 152 (by rfl) rfl
theorem w_1705 : (Jvm.Cond.methodLink "EditsMeet" (297 : Nat) ({ cls := "EditsMeet$Client", name := "draftLatest", desc := "(ILEditsMeet$Loom;)V" } : Jvm.MethodName)) ∈ xTs := xT_7 153 (by rfl) rfl
theorem w_1706 : (Jvm.Cond.instanceMethod ({ cls := "EditsMeet$Client", name := "draftLatest", desc := "(ILEditsMeet$Loom;)V" } : Jvm.MethodName)) ∈ xTs := xT_7 154 (by rfl) rfl
theorem w_1707 : (Jvm.Cond.selects "EditsMeet$Client" ({ cls := "EditsMeet$Client", name := "draftLatest", desc := "(ILEditsMeet$Loom;)V" } : Jvm.MethodName) ({ cls := "EditsMeet$Client", name := "draftLatest", desc := "(ILEditsMeet$Loom;)V" } : Jvm.MethodName)) ∈ xTs := xT_7 155 (by rfl) rfl
theorem w_1708 : (Jvm.Cond.code ({ cls := "EditsMeet$Client", name := "draftLatest", desc := "(ILEditsMeet$Loom;)V" } : Jvm.MethodName) prog_2_method_15_code (3 : Nat) (Option.none : Option Jvm.ClassFile.FieldType)) ∈ xTs := xT_7 156 (by rfl) rfl
theorem w_1709 : (Jvm.Cond.methodLink "EditsMeet$Client" (62 : Nat) ({ cls := "EditsMeet$Client", name := "latest", desc := "(I)I" } : Jvm.MethodName)) ∈ xTs := xT_7 157 (by rfl) rfl
theorem w_1710 : (Jvm.Cond.methodLink "EditsMeetLaw" (127 : Nat) ({ cls := "EditsMeet", name := "redo", desc := "(I)I" } : Jvm.MethodName)) ∈ xTs := xT_7 158 (by rfl) rfl
theorem w_1711 : (Jvm.Cond.instanceMethod ({ cls := "EditsMeet", name := "redo", desc := "(I)I" } : Jvm.MethodName)) ∈ xTs := xT_7 159 (by rfl) rfl
theorem w_1712 : (Jvm.Cond.selects "EditsMeet" ({ cls := "EditsMeet", name := "redo", desc := "(I)I" } : Jvm.MethodName) ({ cls := "EditsMeet", name := "redo", desc := "(I)I" } : Jvm.MethodName)) ∈ xTs := xT_7 160 (by rfl) rfl
theorem w_1713 : (Jvm.Cond.code ({ cls := "EditsMeet", name := "redo", desc := "(I)I" } : Jvm.MethodName) prog_1_method_34_code (4 : Nat) (Option.some Jvm.ClassFile.FieldType.int)) ∈ xTs := xT_7 161 (by rfl) rfl
theorem w_1714 : (Jvm.Cond.methodLink "EditsMeetLaw" (131 : Nat) ({ cls := "EditsMeet", name := "point", desc := "(III)I" } : Jvm.MethodName)) ∈ xTs := xT_7 162 (by rfl) rfl
theorem w_1715 : (Jvm.Cond.instanceMethod ({ cls := "EditsMeet", name := "point", desc := "(III)I" } : Jvm.MethodName)) ∈ xTs := xT_7 163 (by rfl) rfl
theorem w_1716 : (Jvm.Cond.selects "EditsMeet" ({ cls := "EditsMeet", name := "point", desc := "(III)I" } : Jvm.MethodName) ({ cls := "EditsMeet", name := "point", desc := "(III)I" } : Jvm.MethodName)) ∈ xTs := xT_7 164 (by rfl) rfl
theorem w_1717 : (Jvm.Cond.code ({ cls := "EditsMeet", name := "point", desc := "(III)I" } : Jvm.MethodName) prog_1_method_35_code (7 : Nat) (Option.some Jvm.ClassFile.FieldType.int)) ∈ xTs := xT_7 165 (by rfl) rfl
theorem w_1718 : (Jvm.Cond.methodLink "EditsMeetLaw" (111 : Nat) ({ cls := "EditsMeet", name := "serve", desc := "(I)I" } : Jvm.MethodName)) ∈ xTs := xT_7 166 (by rfl) rfl
theorem w_1719 : (Jvm.Cond.instanceMethod ({ cls := "EditsMeet", name := "serve", desc := "(I)I" } : Jvm.MethodName)) ∈ xTs := xT_7 167 (by rfl) rfl
theorem w_1720 : (Jvm.Cond.selects "EditsMeet" ({ cls := "EditsMeet", name := "serve", desc := "(I)I" } : Jvm.MethodName) ({ cls := "EditsMeet", name := "serve", desc := "(I)I" } : Jvm.MethodName)) ∈ xTs := xT_7 168 (by rfl) rfl
theorem w_1721 : (Jvm.Cond.code ({ cls := "EditsMeet", name := "serve", desc := "(I)I" } : Jvm.MethodName) prog_1_method_38_code (3 : Nat) (Option.some Jvm.ClassFile.FieldType.int)) ∈ xTs := xT_7 169 (by rfl) rfl
theorem w_1722 : (Jvm.Cond.methodLink "EditsMeet" (311 : Nat) ({ cls := "EditsMeet$Client", name := "isUnserved", desc := "()Z" } : Jvm.MethodName)) ∈ xTs := xT_7 170 (by rfl) rfl
theorem w_1723 : (Jvm.Cond.instanceMethod ({ cls := "EditsMeet$Client", name := "isUnserved", desc := "()Z" } : Jvm.MethodName)) ∈ xTs := xT_7 171 (by rfl) rfl
theorem w_1724 : (Jvm.Cond.selects "EditsMeet$Client" ({ cls := "EditsMeet$Client", name := "isUnserved", desc := "()Z" } : Jvm.MethodName) ({ cls := "EditsMeet$Client", name := "isUnserved", desc := "()Z" } : Jvm.MethodName)) ∈ xTs := xT_7 172 (by rfl) rfl
theorem w_1725 : (Jvm.Cond.code ({ cls := "EditsMeet$Client", name := "isUnserved", desc := "()Z" } : Jvm.MethodName) prog_2_method_4_code (1 : Nat) (Option.some Jvm.ClassFile.FieldType.boolean)) ∈ xTs := xT_7 173 (by rfl) rfl
theorem w_1726 : (Jvm.Cond.methodLink "EditsMeet" (317 : Nat) ({ cls := "EditsMeet$Meeting", name := "takeSent", desc := "(ILEditsMeet$Loom;)V" } : Jvm.MethodName)) ∈ xTs := xT_7 174 (by rfl) rfl
theorem w_1727 : (Jvm.Cond.instanceMethod ({ cls := "EditsMeet$Meeting", name := "takeSent", desc := "(ILEditsMeet$Loom;)V" } : Jvm.MethodName)) ∈ xTs := xT_7 175 (by rfl) rfl
theorem w_1728 : (Jvm.Cond.selects "EditsMeet$Meeting" ({ cls := "EditsMeet$Meeting", name := "takeSent", desc := "(ILEditsMeet$Loom;)V" } : Jvm.MethodName) ({ cls := "EditsMeet$Meeting", name := "takeSent", desc := "(ILEditsMeet$Loom;)V" } : Jvm.MethodName)) ∈ xTs := xT_7 176 (by rfl) rfl
theorem w_1729 : (Jvm.Cond.code ({ cls := "EditsMeet$Meeting", name := "takeSent", desc := "(ILEditsMeet$Loom;)V" } : Jvm.MethodName) prog_5_method_6_code (6 : Nat) (Option.none : Option Jvm.ClassFile.FieldType)) ∈ xTs := xT_7 177 (by rfl) rfl
theorem w_1730 : (Jvm.Cond.methodLink "EditsMeet$Meeting" (45 : Nat) ({ cls := "EditsMeet$Meeting", name := "clientAt", desc := "(I)LEditsMeet$Client;" } : Jvm.MethodName)) ∈ xTs := xT_7 178 (by rfl) rfl
theorem w_1731 : (Jvm.Cond.methodLink "EditsMeet$Meeting" (67 : Nat) ({ cls := "EditsMeet$Client", name := "told", desc := "(I)I" } : Jvm.MethodName)) ∈ xTs := xT_7 179 (by rfl) rfl
theorem w_1732 : (Jvm.Cond.instanceMethod ({ cls := "EditsMeet$Client", name := "told", desc := "(I)I" } : Jvm.MethodName)) ∈ xTs := xT_7 180 (by rfl) rfl
theorem w_1733 : (Jvm.Cond.selects "EditsMeet$Client" ({ cls := "EditsMeet$Client", name := "told", desc := "(I)I" } : Jvm.MethodName) ({ cls := "EditsMeet$Client", name := "told", desc := "(I)I" } : Jvm.MethodName)) ∈ xTs := xT_7 181 (by rfl) rfl
theorem w_1734 : (Jvm.Cond.code ({ cls := "EditsMeet$Client", name := "told", desc := "(I)I" } : Jvm.MethodName) prog_2_method_7_code (2 : Nat) (Option.some Jvm.ClassFile.FieldType.int)) ∈ xTs := xT_7 182 (by rfl) rfl
theorem w_1735 : (Jvm.Cond.methodLink "EditsMeet$Client" (58 : Nat) ({ cls := "EditsMeet$Client", name := "has", desc := "(I)Z" } : Jvm.MethodName)) ∈ xTs := xT_7 183 (by rfl) rfl
theorem w_1736 : (Jvm.Cond.instanceMethod ({ cls := "EditsMeet$Client", name := "has", desc := "(I)Z" } : Jvm.MethodName)) ∈ xTs := xT_7 184 (by rfl) rfl
theorem w_1737 : (Jvm.Cond.selects "EditsMeet$Client" ({ cls := "EditsMeet$Client", name := "has", desc := "(I)Z" } : Jvm.MethodName) ({ cls := "EditsMeet$Client", name := "has", desc := "(I)Z" } : Jvm.MethodName)) ∈ xTs := xT_7 185 (by rfl) rfl
theorem w_1738 : (Jvm.Cond.code ({ cls := "EditsMeet$Client", name := "has", desc := "(I)Z" } : Jvm.MethodName) prog_2_method_6_code (2 : Nat) (Option.some Jvm.ClassFile.FieldType.boolean)) ∈ xTs := xT_7 186 (by rfl) rfl
theorem w_1739 : (Jvm.Cond.methodLink "EditsMeet$Meeting" (70 : Nat) ({ cls := "EditsMeet$Slots", name := "put", desc := "(II)V" } : Jvm.MethodName)) ∈ xTs := xT_7 187 (by rfl) rfl
theorem w_1740 : (Jvm.Cond.methodLink "EditsMeet$Meeting" (49 : Nat) ({ cls := "EditsMeet$Slots", name := "at", desc := "(I)I" } : Jvm.MethodName)) ∈ xTs := xT_7 188 (by rfl) rfl
theorem w_1741 : (Jvm.Cond.methodLink "EditsMeet$Meeting" (77 : Nat) ({ cls := "EditsMeet$Loom", name := "weave", desc := "(III)I" } : Jvm.MethodName)) ∈ xTs := xT_7 189 (by rfl) rfl
theorem w_1742 : (Jvm.Cond.methodLink "EditsMeetLaw" (115 : Nat) ({ cls := "EditsMeet", name := "hear", desc := "(I)I" } : Jvm.MethodName)) ∈ xTs := xT_7 190 (by rfl) rfl
theorem w_1743 : (Jvm.Cond.instanceMethod ({ cls := "EditsMeet", name := "hear", desc := "(I)I" } : Jvm.MethodName)) ∈ xTs := xT_7 191 (by rfl) rfl
theorem w_1744 : (Jvm.Cond.selects "EditsMeet" ({ cls := "EditsMeet", name := "hear", desc := "(I)I" } : Jvm.MethodName) ({ cls := "EditsMeet", name := "hear", desc := "(I)I" } : Jvm.MethodName)) ∈ xTs := xT_7 192 (by rfl) rfl
theorem w_1745 : (Jvm.Cond.code ({ cls := "EditsMeet", name := "hear", desc := "(I)I" } : Jvm.MethodName) prog_1_method_39_code (3 : Nat) (Option.some Jvm.ClassFile.FieldType.int)) ∈ xTs := xT_7 193 (by rfl) rfl
theorem w_1746 : (Jvm.Cond.methodLink "EditsMeet" (329 : Nat) ({ cls := "EditsMeet$Client", name := "hearNext", desc := "(LEditsMeet$Slots;[ILEditsMeet$Loom;)V" } : Jvm.MethodName)) ∈ xTs := xT_7 194 (by rfl) rfl
theorem w_1747 : (Jvm.Cond.instanceMethod ({ cls := "EditsMeet$Client", name := "hearNext", desc := "(LEditsMeet$Slots;[ILEditsMeet$Loom;)V" } : Jvm.MethodName)) ∈ xTs := xT_7 195 (by rfl) rfl
theorem w_1748 : (Jvm.Cond.selects "EditsMeet$Client" ({ cls := "EditsMeet$Client", name := "hearNext", desc := "(LEditsMeet$Slots;[ILEditsMeet$Loom;)V" } : Jvm.MethodName) ({ cls := "EditsMeet$Client", name := "hearNext", desc := "(LEditsMeet$Slots;[ILEditsMeet$Loom;)V" } : Jvm.MethodName)) ∈ xTs := xT_7 196 (by rfl) rfl
theorem w_1749 : (Jvm.Cond.code ({ cls := "EditsMeet$Client", name := "hearNext", desc := "(LEditsMeet$Slots;[ILEditsMeet$Loom;)V" } : Jvm.MethodName) prog_2_method_17_code (10 : Nat) (Option.none : Option Jvm.ClassFile.FieldType)) ∈ xTs := xT_7 197 (by rfl) rfl
theorem w_1750 : (Jvm.Cond.methodLink "EditsMeet$Client" (108 : Nat) ({ cls := "EditsMeet$Client", name := "sendWaiting", desc := "()V" } : Jvm.MethodName)) ∈ xTs := xT_7 198 (by rfl) rfl
theorem w_1752 : (Jvm.Cond.instanceMethod ({ cls := "EditsMeet$Client", name := "sendWaiting", desc := "()V" } : Jvm.MethodName)) ∈ xTs := xT_7 200 (by rfl) rfl
theorem w_1753 : (Jvm.Cond.code ({ cls := "EditsMeet$Client", name := "sendWaiting", desc := "()V" } : Jvm.MethodName) prog_2_method_20_code (1 : Nat) (Option.none : Option Jvm.ClassFile.FieldType)) ∈ xTs := xT_7 201 (by rfl) rfl
theorem w_1754 : (Jvm.Cond.methodLink "EditsMeet$Client" (111 : Nat) ({ cls := "EditsMeet$Client", name := "passedAt", desc := "(I)I" } : Jvm.MethodName)) ∈ xTs := xT_7 202 (by rfl) rfl
theorem w_1756 : (Jvm.Cond.instanceMethod ({ cls := "EditsMeet$Client", name := "passedAt", desc := "(I)I" } : Jvm.MethodName)) ∈ xTs := xT_7 204 (by rfl) rfl
theorem w_1757 : (Jvm.Cond.code ({ cls := "EditsMeet$Client", name := "passedAt", desc := "(I)I" } : Jvm.MethodName) prog_2_method_18_code (2 : Nat) (Option.some Jvm.ClassFile.FieldType.int)) ∈ xTs := xT_7 205 (by rfl) rfl
theorem w_1758 : (Jvm.Cond.methodLink "EditsMeetLaw" (119 : Nat) ({ cls := "EditsMeet", name := "meet", desc := "()I" } : Jvm.MethodName)) ∈ xTs := xT_7 206 (by rfl) rfl
theorem w_1759 : (Jvm.Cond.instanceMethod ({ cls := "EditsMeet", name := "meet", desc := "()I" } : Jvm.MethodName)) ∈ xTs := xT_7 207 (by rfl) rfl
theorem w_1760 : (Jvm.Cond.selects "EditsMeet" ({ cls := "EditsMeet", name := "meet", desc := "()I" } : Jvm.MethodName) ({ cls := "EditsMeet", name := "meet", desc := "()I" } : Jvm.MethodName)) ∈ xTs := xT_7 208 (by rfl) rfl
theorem w_1761 : (Jvm.Cond.code ({ cls := "EditsMeet", name := "meet", desc := "()I" } : Jvm.MethodName) prog_1_method_40_code (6 : Nat) (Option.some Jvm.ClassFile.FieldType.int)) ∈ xTs := xT_7 209 (by rfl) rfl
theorem w_1762 : (Jvm.Cond.methodLink "EditsMeet" (333 : Nat) ({ cls := "EditsMeet$Meeting", name := "isSettled", desc := "()Z" } : Jvm.MethodName)) ∈ xTs := xT_7 210 (by rfl) rfl
theorem w_1763 : (Jvm.Cond.instanceMethod ({ cls := "EditsMeet$Meeting", name := "isSettled", desc := "()Z" } : Jvm.MethodName)) ∈ xTs := xT_7 211 (by rfl) rfl
theorem w_1764 : (Jvm.Cond.selects "EditsMeet$Meeting" ({ cls := "EditsMeet$Meeting", name := "isSettled", desc := "()Z" } : Jvm.MethodName) ({ cls := "EditsMeet$Meeting", name := "isSettled", desc := "()Z" } : Jvm.MethodName)) ∈ xTs := xT_7 212 (by rfl) rfl
theorem w_1765 : (Jvm.Cond.code ({ cls := "EditsMeet$Meeting", name := "isSettled", desc := "()Z" } : Jvm.MethodName) prog_5_method_7_code (3 : Nat) (Option.some Jvm.ClassFile.FieldType.boolean)) ∈ xTs := xT_7 213 (by rfl) rfl
theorem w_1766 : (Jvm.Cond.methodLink "EditsMeet$Meeting" (94 : Nat) ({ cls := "EditsMeet$Client", name := "isUnserved", desc := "()Z" } : Jvm.MethodName)) ∈ xTs := xT_7 214 (by rfl) rfl
theorem w_1767 : (Jvm.Cond.methodLink "EditsMeetLaw" (135 : Nat) ({ cls := "EditsMeet", name := "cursor", desc := "(II)I" } : Jvm.MethodName)) ∈ xTs := xT_7 215 (by rfl) rfl
theorem w_1768 : (Jvm.Cond.instanceMethod ({ cls := "EditsMeet", name := "cursor", desc := "(II)I" } : Jvm.MethodName)) ∈ xTs := xT_7 216 (by rfl) rfl
theorem w_1769 : (Jvm.Cond.selects "EditsMeet" ({ cls := "EditsMeet", name := "cursor", desc := "(II)I" } : Jvm.MethodName) ({ cls := "EditsMeet", name := "cursor", desc := "(II)I" } : Jvm.MethodName)) ∈ xTs := xT_7 217 (by rfl) rfl
theorem w_1770 : (Jvm.Cond.code ({ cls := "EditsMeet", name := "cursor", desc := "(II)I" } : Jvm.MethodName) prog_1_method_41_code (4 : Nat) (Option.some Jvm.ClassFile.FieldType.int)) ∈ xTs := xT_7 218 (by rfl) rfl
theorem w_1771 : (Jvm.Cond.methodLink "EditsMeetLaw" (139 : Nat) ({ cls := "EditsMeet", name := "clientOf", desc := "(II)I" } : Jvm.MethodName)) ∈ xTs := xT_7 219 (by rfl) rfl
theorem w_1772 : (Jvm.Cond.instanceMethod ({ cls := "EditsMeet", name := "clientOf", desc := "(II)I" } : Jvm.MethodName)) ∈ xTs := xT_7 220 (by rfl) rfl
theorem w_1773 : (Jvm.Cond.selects "EditsMeet" ({ cls := "EditsMeet", name := "clientOf", desc := "(II)I" } : Jvm.MethodName) ({ cls := "EditsMeet", name := "clientOf", desc := "(II)I" } : Jvm.MethodName)) ∈ xTs := xT_7 221 (by rfl) rfl
theorem w_1774 : (Jvm.Cond.code ({ cls := "EditsMeet", name := "clientOf", desc := "(II)I" } : Jvm.MethodName) prog_1_method_42_code (5 : Nat) (Option.some Jvm.ClassFile.FieldType.int)) ∈ xTs := xT_7 222 (by rfl) rfl
theorem w_1775 : (Jvm.Cond.methodLink "EditsMeet" (336 : Nat) ({ cls := "EditsMeet$Client", name := "told", desc := "(I)I" } : Jvm.MethodName)) ∈ xTs := xT_7 223 (by rfl) rfl
theorem w_1776 : (Jvm.Cond.methodLink "EditsMeetLaw" (143 : Nat) ({ cls := "EditsMeet", name := "takes", desc := "(III)I" } : Jvm.MethodName)) ∈ xTs := xT_7 224 (by rfl) rfl
theorem w_1777 : (Jvm.Cond.instanceMethod ({ cls := "EditsMeet", name := "takes", desc := "(III)I" } : Jvm.MethodName)) ∈ xTs := xT_7 225 (by rfl) rfl
theorem w_1778 : (Jvm.Cond.selects "EditsMeet" ({ cls := "EditsMeet", name := "takes", desc := "(III)I" } : Jvm.MethodName) ({ cls := "EditsMeet", name := "takes", desc := "(III)I" } : Jvm.MethodName)) ∈ xTs := xT_7 226 (by rfl) rfl
theorem w_1779 : (Jvm.Cond.code ({ cls := "EditsMeet", name := "takes", desc := "(III)I" } : Jvm.MethodName) prog_1_method_43_code (5 : Nat) (Option.some Jvm.ClassFile.FieldType.int)) ∈ xTs := xT_7 227 (by rfl) rfl
theorem w_1780 : (Jvm.Cond.methodLink "EditsMeet" (345 : Nat) ({ cls := "EditsMeet$Client", name := "has", desc := "(I)Z" } : Jvm.MethodName)) ∈ xTs := xT_7 228 (by rfl) rfl
theorem w_1781 : (Jvm.Cond.methodLink "EditsMeetLaw" (147 : Nat) ({ cls := "EditsMeet", name := "revision", desc := "(II)I" } : Jvm.MethodName)) ∈ xTs := xT_7 229 (by rfl) rfl
theorem w_1782 : (Jvm.Cond.instanceMethod ({ cls := "EditsMeet", name := "revision", desc := "(II)I" } : Jvm.MethodName)) ∈ xTs := xT_7 230 (by rfl) rfl
theorem w_1783 : (Jvm.Cond.selects "EditsMeet" ({ cls := "EditsMeet", name := "revision", desc := "(II)I" } : Jvm.MethodName) ({ cls := "EditsMeet", name := "revision", desc := "(II)I" } : Jvm.MethodName)) ∈ xTs := xT_7 231 (by rfl) rfl
theorem w_1784 : (Jvm.Cond.code ({ cls := "EditsMeet", name := "revision", desc := "(II)I" } : Jvm.MethodName) prog_1_method_44_code (3 : Nat) (Option.some Jvm.ClassFile.FieldType.int)) ∈ xTs := xT_7 232 (by rfl) rfl
theorem w_1789 : (Jvm.Cond.methodLink "EditsMeetLaw" (151 : Nat) ({ cls := "EditsMeet", name := "length", desc := "(I)I" } : Jvm.MethodName)) ∈ xTs := xT_7 237 (by rfl) rfl
theorem w_1790 : (Jvm.Cond.instanceMethod ({ cls := "EditsMeet", name := "length", desc := "(I)I" } : Jvm.MethodName)) ∈ xTs := xT_7 238 (by rfl) rfl
theorem w_1791 : (Jvm.Cond.selects "EditsMeet" ({ cls := "EditsMeet", name := "length", desc := "(I)I" } : Jvm.MethodName) ({ cls := "EditsMeet", name := "length", desc := "(I)I" } : Jvm.MethodName)) ∈ xTs := xT_7 239 (by rfl) rfl
theorem w_1792 : (Jvm.Cond.code ({ cls := "EditsMeet", name := "length", desc := "(I)I" } : Jvm.MethodName) prog_1_method_45_code (2 : Nat) (Option.some Jvm.ClassFile.FieldType.int)) ∈ xTs := xT_8 0 (by rfl) rfl
theorem w_1793 : (Jvm.Cond.methodLink "EditsMeet" (351 : Nat) ({ cls := "EditsMeet$Meeting", name := "hasText", desc := "(I)Z" } : Jvm.MethodName)) ∈ xTs := xT_8 1 (by rfl) rfl
theorem w_1794 : (Jvm.Cond.instanceMethod ({ cls := "EditsMeet$Meeting", name := "hasText", desc := "(I)Z" } : Jvm.MethodName)) ∈ xTs := xT_8 2 (by rfl) rfl
theorem w_1795 : (Jvm.Cond.selects "EditsMeet$Meeting" ({ cls := "EditsMeet$Meeting", name := "hasText", desc := "(I)Z" } : Jvm.MethodName) ({ cls := "EditsMeet$Meeting", name := "hasText", desc := "(I)Z" } : Jvm.MethodName)) ∈ xTs := xT_8 3 (by rfl) rfl
theorem w_1796 : (Jvm.Cond.code ({ cls := "EditsMeet$Meeting", name := "hasText", desc := "(I)Z" } : Jvm.MethodName) prog_5_method_4_code (2 : Nat) (Option.some Jvm.ClassFile.FieldType.boolean)) ∈ xTs := xT_8 4 (by rfl) rfl
theorem w_1797 : (Jvm.Cond.methodLink "EditsMeet" (354 : Nat) ({ cls := "EditsMeet$Meeting", name := "textAt", desc := "(I)I" } : Jvm.MethodName)) ∈ xTs := xT_8 5 (by rfl) rfl
theorem w_1798 : (Jvm.Cond.instanceMethod ({ cls := "EditsMeet$Meeting", name := "textAt", desc := "(I)I" } : Jvm.MethodName)) ∈ xTs := xT_8 6 (by rfl) rfl
theorem w_1799 : (Jvm.Cond.selects "EditsMeet$Meeting" ({ cls := "EditsMeet$Meeting", name := "textAt", desc := "(I)I" } : Jvm.MethodName) ({ cls := "EditsMeet$Meeting", name := "textAt", desc := "(I)I" } : Jvm.MethodName)) ∈ xTs := xT_8 7 (by rfl) rfl
theorem w_1800 : (Jvm.Cond.code ({ cls := "EditsMeet$Meeting", name := "textAt", desc := "(I)I" } : Jvm.MethodName) prog_5_method_5_code (3 : Nat) (Option.some Jvm.ClassFile.FieldType.int)) ∈ xTs := xT_8 8 (by rfl) rfl
theorem w_1801 : (Jvm.Cond.methodLink "EditsMeet$Meeting" (55 : Nat) ({ cls := "EditsMeet$Client", name := "ownText", desc := "()I" } : Jvm.MethodName)) ∈ xTs := xT_8 9 (by rfl) rfl
theorem w_1802 : (Jvm.Cond.methodLink "EditsMeetLaw" (155 : Nat) ({ cls := "EditsMeet", name := "text", desc := "(III)I" } : Jvm.MethodName)) ∈ xTs := xT_8 10 (by rfl) rfl
theorem w_1803 : (Jvm.Cond.instanceMethod ({ cls := "EditsMeet", name := "text", desc := "(III)I" } : Jvm.MethodName)) ∈ xTs := xT_8 11 (by rfl) rfl
theorem w_1804 : (Jvm.Cond.selects "EditsMeet" ({ cls := "EditsMeet", name := "text", desc := "(III)I" } : Jvm.MethodName) ({ cls := "EditsMeet", name := "text", desc := "(III)I" } : Jvm.MethodName)) ∈ xTs := xT_8 12 (by rfl) rfl
theorem w_1805 : (Jvm.Cond.code ({ cls := "EditsMeet", name := "text", desc := "(III)I" } : Jvm.MethodName) prog_1_method_46_code (7 : Nat) (Option.some Jvm.ClassFile.FieldType.int)) ∈ xTs := xT_8 13 (by rfl) rfl
theorem w_1806 : (Jvm.Cond.methodLink "EditsMeetLaw" (159 : Nat) ({ cls := "EditsMeet", name := "apart", desc := "(II)I" } : Jvm.MethodName)) ∈ xTs := xT_8 14 (by rfl) rfl
theorem w_1807 : (Jvm.Cond.instanceMethod ({ cls := "EditsMeet", name := "apart", desc := "(II)I" } : Jvm.MethodName)) ∈ xTs := xT_8 15 (by rfl) rfl
theorem w_1808 : (Jvm.Cond.selects "EditsMeet" ({ cls := "EditsMeet", name := "apart", desc := "(II)I" } : Jvm.MethodName) ({ cls := "EditsMeet", name := "apart", desc := "(II)I" } : Jvm.MethodName)) ∈ xTs := xT_8 16 (by rfl) rfl
theorem w_1809 : (Jvm.Cond.code ({ cls := "EditsMeet", name := "apart", desc := "(II)I" } : Jvm.MethodName) prog_1_method_47_code (5 : Nat) (Option.some Jvm.ClassFile.FieldType.int)) ∈ xTs := xT_8 17 (by rfl) rfl
theorem w_1810 : (Jvm.Cond.methodLink "EditsMeet" (357 : Nat) ({ cls := "EditsMeet$Teller", name := "firstUnlikePlace", desc := "(II)J" } : Jvm.MethodName)) ∈ xTs := xT_8 18 (by rfl) rfl
theorem w_1811 : (Jvm.Cond.instanceMethod ({ cls := "EditsMeet$Teller", name := "firstUnlikePlace", desc := "(II)J" } : Jvm.MethodName)) ∈ xTs := xT_8 19 (by rfl) rfl
theorem w_1812 : (Jvm.Cond.selects "EditsMeet$Teller" ({ cls := "EditsMeet$Teller", name := "firstUnlikePlace", desc := "(II)J" } : Jvm.MethodName) ({ cls := "EditsMeet$Teller", name := "firstUnlikePlace", desc := "(II)J" } : Jvm.MethodName)) ∈ xTs := xT_8 20 (by rfl) rfl
theorem w_1813 : (Jvm.Cond.code ({ cls := "EditsMeet$Teller", name := "firstUnlikePlace", desc := "(II)J" } : Jvm.MethodName) prog_10_method_26_code (3 : Nat) (Option.some Jvm.ClassFile.FieldType.long)) ∈ xTs := xT_8 21 (by rfl) rfl
theorem w_1814 : (Jvm.Cond.methodLink "EditsMeetLaw" (163 : Nat) ({ cls := "EditsMeet", name := "marked", desc := "(II)I" } : Jvm.MethodName)) ∈ xTs := xT_8 22 (by rfl) rfl
theorem w_1815 : (Jvm.Cond.instanceMethod ({ cls := "EditsMeet", name := "marked", desc := "(II)I" } : Jvm.MethodName)) ∈ xTs := xT_8 23 (by rfl) rfl
theorem w_1816 : (Jvm.Cond.selects "EditsMeet" ({ cls := "EditsMeet", name := "marked", desc := "(II)I" } : Jvm.MethodName) ({ cls := "EditsMeet", name := "marked", desc := "(II)I" } : Jvm.MethodName)) ∈ xTs := xT_8 24 (by rfl) rfl
theorem w_1817 : (Jvm.Cond.code ({ cls := "EditsMeet", name := "marked", desc := "(II)I" } : Jvm.MethodName) prog_1_method_48_code (4 : Nat) (Option.some Jvm.ClassFile.FieldType.int)) ∈ xTs := xT_8 25 (by rfl) rfl
theorem w_1818 : (Jvm.Cond.methodLink "EditsMeet" (360 : Nat) ({ cls := "EditsMeet$Teller", name := "lettersMarked", desc := "(II)I" } : Jvm.MethodName)) ∈ xTs := xT_8 26 (by rfl) rfl
theorem w_1819 : (Jvm.Cond.instanceMethod ({ cls := "EditsMeet$Teller", name := "lettersMarked", desc := "(II)I" } : Jvm.MethodName)) ∈ xTs := xT_8 27 (by rfl) rfl
theorem w_1820 : (Jvm.Cond.selects "EditsMeet$Teller" ({ cls := "EditsMeet$Teller", name := "lettersMarked", desc := "(II)I" } : Jvm.MethodName) ({ cls := "EditsMeet$Teller", name := "lettersMarked", desc := "(II)I" } : Jvm.MethodName)) ∈ xTs := xT_8 28 (by rfl) rfl
theorem w_1821 : (Jvm.Cond.code ({ cls := "EditsMeet$Teller", name := "lettersMarked", desc := "(II)I" } : Jvm.MethodName) prog_10_method_3_code (3 : Nat) (Option.some Jvm.ClassFile.FieldType.int)) ∈ xTs := xT_8 29 (by rfl) rfl
theorem w_1822 : (Jvm.Cond.methodLink "EditsMeetLaw" (167 : Nat) ({ cls := "EditsMeet", name := "judge", desc := "(III)I" } : Jvm.MethodName)) ∈ xTs := xT_8 30 (by rfl) rfl
theorem w_1823 : (Jvm.Cond.instanceMethod ({ cls := "EditsMeet", name := "judge", desc := "(III)I" } : Jvm.MethodName)) ∈ xTs := xT_8 31 (by rfl) rfl
theorem w_1824 : (Jvm.Cond.selects "EditsMeet" ({ cls := "EditsMeet", name := "judge", desc := "(III)I" } : Jvm.MethodName) ({ cls := "EditsMeet", name := "judge", desc := "(III)I" } : Jvm.MethodName)) ∈ xTs := xT_8 32 (by rfl) rfl
theorem w_1825 : (Jvm.Cond.code ({ cls := "EditsMeet", name := "judge", desc := "(III)I" } : Jvm.MethodName) prog_1_method_49_code (9 : Nat) (Option.some Jvm.ClassFile.FieldType.int)) ∈ xTs := xT_8 33 (by rfl) rfl
theorem w_1827 : (Jvm.Cond.methodLink "EditsMeetLaw" (171 : Nat) ({ cls := "EditsMeet", name := "days", desc := "(I)I" } : Jvm.MethodName)) ∈ xTs := xT_8 35 (by rfl) rfl
theorem w_1828 : (Jvm.Cond.instanceMethod ({ cls := "EditsMeet", name := "days", desc := "(I)I" } : Jvm.MethodName)) ∈ xTs := xT_8 36 (by rfl) rfl
theorem w_1829 : (Jvm.Cond.selects "EditsMeet" ({ cls := "EditsMeet", name := "days", desc := "(I)I" } : Jvm.MethodName) ({ cls := "EditsMeet", name := "days", desc := "(I)I" } : Jvm.MethodName)) ∈ xTs := xT_8 37 (by rfl) rfl
theorem w_1830 : (Jvm.Cond.code ({ cls := "EditsMeet", name := "days", desc := "(I)I" } : Jvm.MethodName) prog_1_method_50_code (7 : Nat) (Option.some Jvm.ClassFile.FieldType.int)) ∈ xTs := xT_8 38 (by rfl) rfl
theorem w_1831 : (Jvm.Cond.constantLong "EditsMeet" (369 : Nat) (4 : Int64)) ∈ xTs := xT_8 39 (by rfl) rfl
theorem w_1832 : (Jvm.Cond.methodLink "EditsMeet" (371 : Nat) ({ cls := "EditsMeet$Meeting", name := "draw", desc := "(J)J" } : Jvm.MethodName)) ∈ xTs := xT_8 40 (by rfl) rfl
theorem w_1833 : (Jvm.Cond.instanceMethod ({ cls := "EditsMeet$Meeting", name := "draw", desc := "(J)J" } : Jvm.MethodName)) ∈ xTs := xT_8 41 (by rfl) rfl
theorem w_1834 : (Jvm.Cond.selects "EditsMeet$Meeting" ({ cls := "EditsMeet$Meeting", name := "draw", desc := "(J)J" } : Jvm.MethodName) ({ cls := "EditsMeet$Meeting", name := "draw", desc := "(J)J" } : Jvm.MethodName)) ∈ xTs := xT_8 42 (by rfl) rfl
theorem w_1835 : (Jvm.Cond.code ({ cls := "EditsMeet$Meeting", name := "draw", desc := "(J)J" } : Jvm.MethodName) prog_5_method_11_code (3 : Nat) (Option.some Jvm.ClassFile.FieldType.long)) ∈ xTs := xT_8 43 (by rfl) rfl
theorem w_1836 : (Jvm.Cond.constant "EditsMeet$Meeting" (111 : Nat) (1103515245 : Int32)) ∈ xTs := xT_8 44 (by rfl) rfl
theorem w_1837 : (Jvm.Cond.constantLong "EditsMeet" (375 : Nat) (8 : Int64)) ∈ xTs := xT_8 45 (by rfl) rfl
theorem w_1838 : (Jvm.Cond.methodLink "EditsMeet" (377 : Nat) ({ cls := "EditsMeet", name := "canBe", desc := "(LEditsMeet$Client;I)Z" } : Jvm.MethodName)) ∈ xTs := xT_8 46 (by rfl) rfl
theorem w_1840 : (Jvm.Cond.instanceMethod ({ cls := "EditsMeet", name := "canBe", desc := "(LEditsMeet$Client;I)Z" } : Jvm.MethodName)) ∈ xTs := xT_8 48 (by rfl) rfl
theorem w_1841 : (Jvm.Cond.code ({ cls := "EditsMeet", name := "canBe", desc := "(LEditsMeet$Client;I)Z" } : Jvm.MethodName) prog_1_method_52_code (3 : Nat) (Option.some Jvm.ClassFile.FieldType.boolean)) ∈ xTs := xT_8 49 (by rfl) rfl
theorem w_1842 : (Jvm.Cond.methodLink "EditsMeet" (381 : Nat) ({ cls := "EditsMeet", name := "draftByDraws", desc := "(LEditsMeet$Client;I)V" } : Jvm.MethodName)) ∈ xTs := xT_8 50 (by rfl) rfl
theorem w_1844 : (Jvm.Cond.instanceMethod ({ cls := "EditsMeet", name := "draftByDraws", desc := "(LEditsMeet$Client;I)V" } : Jvm.MethodName)) ∈ xTs := xT_8 52 (by rfl) rfl
theorem w_1845 : (Jvm.Cond.code ({ cls := "EditsMeet", name := "draftByDraws", desc := "(LEditsMeet$Client;I)V" } : Jvm.MethodName) prog_1_method_53_code (8 : Nat) (Option.none : Option Jvm.ClassFile.FieldType)) ∈ xTs := xT_8 53 (by rfl) rfl
theorem w_1846 : (Jvm.Cond.constantLong "EditsMeet" (388 : Nat) (26 : Int64)) ∈ xTs := xT_8 54 (by rfl) rfl
theorem w_1847 : (Jvm.Cond.methodLink "EditsMeetLaw" (175 : Nat) ({ cls := "EditsMeet", name := "seed", desc := "(I)I" } : Jvm.MethodName)) ∈ xTs := xT_8 55 (by rfl) rfl
theorem w_1848 : (Jvm.Cond.instanceMethod ({ cls := "EditsMeet", name := "seed", desc := "(I)I" } : Jvm.MethodName)) ∈ xTs := xT_8 56 (by rfl) rfl
theorem w_1849 : (Jvm.Cond.selects "EditsMeet" ({ cls := "EditsMeet", name := "seed", desc := "(I)I" } : Jvm.MethodName) ({ cls := "EditsMeet", name := "seed", desc := "(I)I" } : Jvm.MethodName)) ∈ xTs := xT_8 57 (by rfl) rfl
theorem w_1850 : (Jvm.Cond.code ({ cls := "EditsMeet", name := "seed", desc := "(I)I" } : Jvm.MethodName) prog_1_method_51_code (3 : Nat) (Option.some Jvm.ClassFile.FieldType.int)) ∈ xTs := xT_8 58 (by rfl) rfl
theorem w_1851 : (Jvm.Cond.methodLink "EditsMeetLaw" (179 : Nat) ({ cls := "EditsMeet", name := "image", desc := "()I" } : Jvm.MethodName)) ∈ xTs := xT_8 59 (by rfl) rfl
theorem w_1852 : (Jvm.Cond.instanceMethod ({ cls := "EditsMeet", name := "image", desc := "()I" } : Jvm.MethodName)) ∈ xTs := xT_8 60 (by rfl) rfl
theorem w_1853 : (Jvm.Cond.selects "EditsMeet" ({ cls := "EditsMeet", name := "image", desc := "()I" } : Jvm.MethodName) ({ cls := "EditsMeet", name := "image", desc := "()I" } : Jvm.MethodName)) ∈ xTs := xT_8 61 (by rfl) rfl
theorem w_1854 : (Jvm.Cond.code ({ cls := "EditsMeet", name := "image", desc := "()I" } : Jvm.MethodName) prog_1_method_54_code (1 : Nat) (Option.some Jvm.ClassFile.FieldType.int)) ∈ xTs := xT_8 62 (by rfl) rfl
theorem w_1855 : (Jvm.Cond.methodLink "EditsMeet" (390 : Nat) ({ cls := "EditsMeet$Meeting", name := "like", desc := "(LEditsMeet$Meeting;)V" } : Jvm.MethodName)) ∈ xTs := xT_8 63 (by rfl) rfl
theorem w_1856 : (Jvm.Cond.instanceMethod ({ cls := "EditsMeet$Meeting", name := "like", desc := "(LEditsMeet$Meeting;)V" } : Jvm.MethodName)) ∈ xTs := xT_8 64 (by rfl) rfl
theorem w_1857 : (Jvm.Cond.selects "EditsMeet$Meeting" ({ cls := "EditsMeet$Meeting", name := "like", desc := "(LEditsMeet$Meeting;)V" } : Jvm.MethodName) ({ cls := "EditsMeet$Meeting", name := "like", desc := "(LEditsMeet$Meeting;)V" } : Jvm.MethodName)) ∈ xTs := xT_8 65 (by rfl) rfl
theorem w_1858 : (Jvm.Cond.code ({ cls := "EditsMeet$Meeting", name := "like", desc := "(LEditsMeet$Meeting;)V" } : Jvm.MethodName) prog_5_method_12_code (5 : Nat) (Option.none : Option Jvm.ClassFile.FieldType)) ∈ xTs := xT_8 66 (by rfl) rfl
theorem w_1859 : (Jvm.Cond.methodLink "EditsMeet$Meeting" (112 : Nat) ({ cls := "EditsMeet$Slots", name := "like", desc := "(LEditsMeet$Slots;)V" } : Jvm.MethodName)) ∈ xTs := xT_8 67 (by rfl) rfl
theorem w_1860 : (Jvm.Cond.methodLink "EditsMeet$Meeting" (116 : Nat) ({ cls := "EditsMeet$Slots", name := "dropFrom", desc := "(I)V" } : Jvm.MethodName)) ∈ xTs := xT_8 68 (by rfl) rfl
theorem w_1861 : (Jvm.Cond.methodLink "EditsMeet$Meeting" (120 : Nat) ({ cls := "EditsMeet$Client", name := "like", desc := "(LEditsMeet$Client;)V" } : Jvm.MethodName)) ∈ xTs := xT_8 69 (by rfl) rfl
theorem w_1862 : (Jvm.Cond.methodLink "EditsMeetLaw" (183 : Nat) ({ cls := "EditsMeet", name := "back", desc := "()I" } : Jvm.MethodName)) ∈ xTs := xT_8 70 (by rfl) rfl
theorem w_1863 : (Jvm.Cond.instanceMethod ({ cls := "EditsMeet", name := "back", desc := "()I" } : Jvm.MethodName)) ∈ xTs := xT_8 71 (by rfl) rfl
theorem w_1864 : (Jvm.Cond.selects "EditsMeet" ({ cls := "EditsMeet", name := "back", desc := "()I" } : Jvm.MethodName) ({ cls := "EditsMeet", name := "back", desc := "()I" } : Jvm.MethodName)) ∈ xTs := xT_8 72 (by rfl) rfl
theorem w_1865 : (Jvm.Cond.code ({ cls := "EditsMeet", name := "back", desc := "()I" } : Jvm.MethodName) prog_1_method_55_code (1 : Nat) (Option.some Jvm.ClassFile.FieldType.int)) ∈ xTs := xT_8 73 (by rfl) rfl
theorem w_1866 : (Jvm.Cond.methodLink "EditsMeetLaw" (187 : Nat) ({ cls := "EditsMeet", name := "status", desc := "(I)I" } : Jvm.MethodName)) ∈ xTs := xT_8 74 (by rfl) rfl
theorem w_1867 : (Jvm.Cond.instanceMethod ({ cls := "EditsMeet", name := "status", desc := "(I)I" } : Jvm.MethodName)) ∈ xTs := xT_8 75 (by rfl) rfl
theorem w_1868 : (Jvm.Cond.selects "EditsMeet" ({ cls := "EditsMeet", name := "status", desc := "(I)I" } : Jvm.MethodName) ({ cls := "EditsMeet", name := "status", desc := "(I)I" } : Jvm.MethodName)) ∈ xTs := xT_8 76 (by rfl) rfl
theorem w_1869 : (Jvm.Cond.code ({ cls := "EditsMeet", name := "status", desc := "(I)I" } : Jvm.MethodName) prog_1_method_56_code (4 : Nat) (Option.some Jvm.ClassFile.FieldType.int)) ∈ xTs := xT_8 77 (by rfl) rfl
theorem w_1870 : (Jvm.Cond.methodLink "EditsMeet" (396 : Nat) ({ cls := "EditsMeet$Meeting", name := "clientsAlike", desc := "(LEditsMeet$Loom;)I" } : Jvm.MethodName)) ∈ xTs := xT_8 78 (by rfl) rfl
theorem w_1871 : (Jvm.Cond.instanceMethod ({ cls := "EditsMeet$Meeting", name := "clientsAlike", desc := "(LEditsMeet$Loom;)I" } : Jvm.MethodName)) ∈ xTs := xT_8 79 (by rfl) rfl
theorem w_1872 : (Jvm.Cond.selects "EditsMeet$Meeting" ({ cls := "EditsMeet$Meeting", name := "clientsAlike", desc := "(LEditsMeet$Loom;)I" } : Jvm.MethodName) ({ cls := "EditsMeet$Meeting", name := "clientsAlike", desc := "(LEditsMeet$Loom;)I" } : Jvm.MethodName)) ∈ xTs := xT_8 80 (by rfl) rfl
theorem w_1873 : (Jvm.Cond.code ({ cls := "EditsMeet$Meeting", name := "clientsAlike", desc := "(LEditsMeet$Loom;)I" } : Jvm.MethodName) prog_5_method_8_code (4 : Nat) (Option.some Jvm.ClassFile.FieldType.int)) ∈ xTs := xT_8 81 (by rfl) rfl
theorem w_1874 : (Jvm.Cond.methodLink "EditsMeet$Meeting" (98 : Nat) ({ cls := "EditsMeet$Meeting", name := "textAt", desc := "(I)I" } : Jvm.MethodName)) ∈ xTs := xT_8 82 (by rfl) rfl
theorem w_1875 : (Jvm.Cond.methodLink "EditsMeet$Meeting" (101 : Nat) ({ cls := "EditsMeet$Works", name := "node", desc := "(I)I" } : Jvm.MethodName)) ∈ xTs := xT_8 83 (by rfl) rfl
theorem w_1876 : (Jvm.Cond.methodLink "EditsMeet" (400 : Nat) ({ cls := "EditsMeet", name := "editsByNumber", desc := "()I" } : Jvm.MethodName)) ∈ xTs := xT_8 84 (by rfl) rfl
theorem w_1878 : (Jvm.Cond.instanceMethod ({ cls := "EditsMeet", name := "editsByNumber", desc := "()I" } : Jvm.MethodName)) ∈ xTs := xT_8 86 (by rfl) rfl
theorem w_1879 : (Jvm.Cond.code ({ cls := "EditsMeet", name := "editsByNumber", desc := "()I" } : Jvm.MethodName) prog_1_method_57_code (3 : Nat) (Option.some Jvm.ClassFile.FieldType.int)) ∈ xTs := xT_8 87 (by rfl) rfl
theorem w_1880 : (Jvm.Cond.methodLink "EditsMeet" (403 : Nat) ({ cls := "EditsMeet$Meeting", name := "allLetters", desc := "()J" } : Jvm.MethodName)) ∈ xTs := xT_8 88 (by rfl) rfl
theorem w_1881 : (Jvm.Cond.instanceMethod ({ cls := "EditsMeet$Meeting", name := "allLetters", desc := "()J" } : Jvm.MethodName)) ∈ xTs := xT_8 89 (by rfl) rfl
theorem w_1882 : (Jvm.Cond.selects "EditsMeet$Meeting" ({ cls := "EditsMeet$Meeting", name := "allLetters", desc := "()J" } : Jvm.MethodName) ({ cls := "EditsMeet$Meeting", name := "allLetters", desc := "()J" } : Jvm.MethodName)) ∈ xTs := xT_8 90 (by rfl) rfl
theorem w_1883 : (Jvm.Cond.code ({ cls := "EditsMeet$Meeting", name := "allLetters", desc := "()J" } : Jvm.MethodName) prog_5_method_10_code (4 : Nat) (Option.some Jvm.ClassFile.FieldType.long)) ∈ xTs := xT_8 91 (by rfl) rfl
theorem w_1884 : (Jvm.Cond.methodLink "EditsMeet$Meeting" (107 : Nat) ({ cls := "EditsMeet$Works", name := "to", desc := "(I)J" } : Jvm.MethodName)) ∈ xTs := xT_8 92 (by rfl) rfl
theorem w_1885 : (Jvm.Cond.methodLink "EditsMeet" (406 : Nat) ({ cls := "EditsMeet$Meeting", name := "clientsSending", desc := "()I" } : Jvm.MethodName)) ∈ xTs := xT_8 93 (by rfl) rfl
theorem w_1886 : (Jvm.Cond.instanceMethod ({ cls := "EditsMeet$Meeting", name := "clientsSending", desc := "()I" } : Jvm.MethodName)) ∈ xTs := xT_8 94 (by rfl) rfl
theorem w_1887 : (Jvm.Cond.selects "EditsMeet$Meeting" ({ cls := "EditsMeet$Meeting", name := "clientsSending", desc := "()I" } : Jvm.MethodName) ({ cls := "EditsMeet$Meeting", name := "clientsSending", desc := "()I" } : Jvm.MethodName)) ∈ xTs := xT_8 95 (by rfl) rfl
theorem w_1888 : (Jvm.Cond.code ({ cls := "EditsMeet$Meeting", name := "clientsSending", desc := "()I" } : Jvm.MethodName) prog_5_method_9_code (4 : Nat) (Option.some Jvm.ClassFile.FieldType.int)) ∈ xTs := xT_8 96 (by rfl) rfl
theorem w_1889 : (Jvm.Cond.methodLink "EditsMeet" (409 : Nat) ({ cls := "EditsMeet", name := "shelvesInUse", desc := "()I" } : Jvm.MethodName)) ∈ xTs := xT_8 97 (by rfl) rfl
theorem w_1891 : (Jvm.Cond.instanceMethod ({ cls := "EditsMeet", name := "shelvesInUse", desc := "()I" } : Jvm.MethodName)) ∈ xTs := xT_8 99 (by rfl) rfl
theorem w_1892 : (Jvm.Cond.code ({ cls := "EditsMeet", name := "shelvesInUse", desc := "()I" } : Jvm.MethodName) prog_1_method_58_code (3 : Nat) (Option.some Jvm.ClassFile.FieldType.int)) ∈ xTs := xT_8 100 (by rfl) rfl
theorem w_1893 : (Jvm.Cond.classLink "EditsMeetLaw" (10 : Nat) "EditsMeetModel") ∈ xTs := xT_8 101 (by rfl) rfl
theorem w_1894 : (Jvm.Cond.instantiable "EditsMeetModel" (33 : Nat)) ∈ xTs := xT_8 102 (by rfl) rfl
theorem w_1895 : (Jvm.Cond.methodLink "EditsMeetLaw" (12 : Nat) ({ cls := "EditsMeetModel", name := "<init>", desc := "()V" } : Jvm.MethodName)) ∈ xTs := xT_8 103 (by rfl) rfl
theorem w_1896 : (Jvm.Cond.instanceMethod ({ cls := "EditsMeetModel", name := "<init>", desc := "()V" } : Jvm.MethodName)) ∈ xTs := xT_8 104 (by rfl) rfl
theorem w_1897 : (Jvm.Cond.code ({ cls := "EditsMeetModel", name := "<init>", desc := "()V" } : Jvm.MethodName) prog_14_method_1_code (1 : Nat) (Option.none : Option Jvm.ClassFile.FieldType)) ∈ xTs := xT_8 105 (by rfl) rfl
theorem w_1898 : (Jvm.Cond.methodLink "EditsMeetModel" (1 : Nat) ({ cls := "java/lang/Object", name := "<init>", desc := "()V" } : Jvm.MethodName)) ∈ xTs := xT_8 106 (by rfl) rfl
theorem w_1899 : (Jvm.Cond.classLink "EditsMeetModel" (9 : Nat) "[[I") ∈ xTs := xT_8 107 (by rfl) rfl
theorem w_1901 : (Jvm.Cond.fieldLink "EditsMeetModel" (11 : Nat) "EditsMeetModel" "rows" "[[I") ∈ xTs := xT_8 109 (by rfl) rfl
theorem w_1902 : (Jvm.Cond.fieldLink "EditsMeetModel" (14 : Nat) "EditsMeetModel" "size" "[I") ∈ xTs := xT_8 110 (by rfl) rfl
theorem w_1903 : (Jvm.Cond.fieldLink "EditsMeetModel" (18 : Nat) "EditsMeetModel" "isThere" "[Z") ∈ xTs := xT_8 111 (by rfl) rfl
theorem w_1904 : (Jvm.Cond.fieldLink "EditsMeetModel" (22 : Nat) "EditsMeetModel" "texts" "[[I") ∈ xTs := xT_8 112 (by rfl) rfl
theorem w_1905 : (Jvm.Cond.fieldLink "EditsMeetModel" (25 : Nat) "EditsMeetModel" "lengths" "[I") ∈ xTs := xT_8 113 (by rfl) rfl
theorem w_1906 : (Jvm.Cond.fieldLink "EditsMeetModel" (28 : Nat) "EditsMeetModel" "state" "[I") ∈ xTs := xT_8 114 (by rfl) rfl
theorem w_1907 : (Jvm.Cond.fieldLink "EditsMeetModel" (31 : Nat) "EditsMeetModel" "by" "[I") ∈ xTs := xT_8 115 (by rfl) rfl
theorem w_1908 : (Jvm.Cond.fieldLink "EditsMeetModel" (34 : Nat) "EditsMeetModel" "single" "[I") ∈ xTs := xT_8 116 (by rfl) rfl
theorem w_1909 : (Jvm.Cond.fieldLink "EditsMeetModel" (37 : Nat) "EditsMeetModel" "refusals" "[I") ∈ xTs := xT_8 117 (by rfl) rfl
theorem w_1910 : (Jvm.Cond.fieldLink "EditsMeetModel" (40 : Nat) "EditsMeetModel" "work" "[[I") ∈ xTs := xT_8 118 (by rfl) rfl
theorem w_1911 : (Jvm.Cond.fieldLink "EditsMeetModel" (43 : Nat) "EditsMeetModel" "worked" "[I") ∈ xTs := xT_8 119 (by rfl) rfl
theorem w_1912 : (Jvm.Cond.fieldLink "EditsMeetModel" (46 : Nat) "EditsMeetModel" "aside" "[I") ∈ xTs := xT_8 120 (by rfl) rfl
theorem w_1913 : (Jvm.Cond.fieldLink "EditsMeetModel" (49 : Nat) "EditsMeetModel" "tape" "[I") ∈ xTs := xT_8 121 (by rfl) rfl
theorem w_1914 : (Jvm.Cond.fieldLink "EditsMeetModel" (186 : Nat) "EditsMeetModel" "taped" "I") ∈ xTs := xT_8 122 (by rfl) rfl
theorem w_1915 : (Jvm.Cond.fieldLink "EditsMeetModel" (190 : Nat) "EditsMeetModel" "place" "I") ∈ xTs := xT_8 123 (by rfl) rfl
theorem w_1920 : (Jvm.Cond.fieldLink "EditsMeetModel" (52 : Nat) "EditsMeetModel" "sorts" "[I") ∈ xTs := xT_8 128 (by rfl) rfl
theorem w_1921 : (Jvm.Cond.fieldLink "EditsMeetModel" (55 : Nat) "EditsMeetModel" "sizes" "[I") ∈ xTs := xT_8 129 (by rfl) rfl
theorem w_1922 : (Jvm.Cond.fieldLink "EditsMeetModel" (58 : Nat) "EditsMeetModel" "elements" "[J") ∈ xTs := xT_8 130 (by rfl) rfl
theorem w_1923 : (Jvm.Cond.fieldLink "EditsMeetModel" (62 : Nat) "EditsMeetModel" "partKind" "[I") ∈ xTs := xT_8 131 (by rfl) rfl
theorem w_1924 : (Jvm.Cond.fieldLink "EditsMeetModel" (65 : Nat) "EditsMeetModel" "partMany" "[I") ∈ xTs := xT_8 132 (by rfl) rfl
theorem w_1925 : (Jvm.Cond.fieldLink "EditsMeetModel" (68 : Nat) "EditsMeetModel" "partAbout" "[I") ∈ xTs := xT_8 133 (by rfl) rfl
theorem w_1926 : (Jvm.Cond.fieldLink "EditsMeetModel" (71 : Nat) "EditsMeetModel" "keptRows" "[[I") ∈ xTs := xT_8 134 (by rfl) rfl
theorem w_1927 : (Jvm.Cond.fieldLink "EditsMeetModel" (74 : Nat) "EditsMeetModel" "keptSize" "[I") ∈ xTs := xT_8 135 (by rfl) rfl
theorem w_1928 : (Jvm.Cond.fieldLink "EditsMeetModel" (77 : Nat) "EditsMeetModel" "keptTexts" "[[I") ∈ xTs := xT_8 136 (by rfl) rfl
theorem w_1929 : (Jvm.Cond.fieldLink "EditsMeetModel" (80 : Nat) "EditsMeetModel" "keptLengths" "[I") ∈ xTs := xT_8 137 (by rfl) rfl
theorem w_1930 : (Jvm.Cond.fieldLink "EditsMeetModel" (83 : Nat) "EditsMeetModel" "keptState" "[I") ∈ xTs := xT_8 138 (by rfl) rfl
theorem w_1931 : (Jvm.Cond.fieldLink "EditsMeetModel" (86 : Nat) "EditsMeetModel" "keptBy" "[I") ∈ xTs := xT_8 139 (by rfl) rfl
theorem w_1932 : (Jvm.Cond.fieldLink "EditsMeetModel" (89 : Nat) "EditsMeetModel" "keptSingle" "[I") ∈ xTs := xT_8 140 (by rfl) rfl
theorem w_1933 : (Jvm.Cond.fieldLink "EditsMeetModel" (363 : Nat) "EditsMeetModel" "hasImage" "Z") ∈ xTs := xT_8 141 (by rfl) rfl
theorem w_2001 : (Jvm.Cond.methodLink "EditsMeetLaw" (52 : Nat) ({ cls := "EditsMeetModel", name := "feed", desc := "(I)I" } : Jvm.MethodName)) ∈ xTs := xT_8 209 (by rfl) rfl
theorem w_2002 : (Jvm.Cond.instanceMethod ({ cls := "EditsMeetModel", name := "feed", desc := "(I)I" } : Jvm.MethodName)) ∈ xTs := xT_8 210 (by rfl) rfl
theorem w_2003 : (Jvm.Cond.selects "EditsMeetModel" ({ cls := "EditsMeetModel", name := "feed", desc := "(I)I" } : Jvm.MethodName) ({ cls := "EditsMeetModel", name := "feed", desc := "(I)I" } : Jvm.MethodName)) ∈ xTs := xT_8 211 (by rfl) rfl
theorem w_2004 : (Jvm.Cond.code ({ cls := "EditsMeetModel", name := "feed", desc := "(I)I" } : Jvm.MethodName) prog_14_method_35_code (2 : Nat) (Option.some Jvm.ClassFile.FieldType.int)) ∈ xTs := xT_8 212 (by rfl) rfl
theorem w_2005 : (Jvm.Cond.constantLong "EditsMeetModel" (181 : Nat) (255 : Int64)) ∈ xTs := xT_8 213 (by rfl) rfl
theorem w_2006 : (Jvm.Cond.methodLink "EditsMeetModel" (175 : Nat) ({ cls := "EditsMeetModel", name := "in", desc := "(JJJ)Z" } : Jvm.MethodName)) ∈ xTs := xT_8 214 (by rfl) rfl
theorem w_2007 : (Jvm.Cond.static ({ cls := "EditsMeetModel", name := "in", desc := "(JJJ)Z" } : Jvm.MethodName)) ∈ xTs := xT_8 215 (by rfl) rfl
theorem w_2008 : (Jvm.Cond.code ({ cls := "EditsMeetModel", name := "in", desc := "(JJJ)Z" } : Jvm.MethodName) prog_14_method_2_code (6 : Nat) (Option.some Jvm.ClassFile.FieldType.boolean)) ∈ xTs := xT_8 216 (by rfl) rfl
theorem w_2009 : (Jvm.Cond.methodLink "EditsMeetModel" (183 : Nat) ({ cls := "EditsMeetModel", name := "refused", desc := "(I)I" } : Jvm.MethodName)) ∈ xTs := xT_8 217 (by rfl) rfl
theorem w_2011 : (Jvm.Cond.instanceMethod ({ cls := "EditsMeetModel", name := "refused", desc := "(I)I" } : Jvm.MethodName)) ∈ xTs := xT_8 219 (by rfl) rfl
theorem w_2012 : (Jvm.Cond.code ({ cls := "EditsMeetModel", name := "refused", desc := "(I)I" } : Jvm.MethodName) prog_14_method_3_code (2 : Nat) (Option.some Jvm.ClassFile.FieldType.int)) ∈ xTs := xT_8 220 (by rfl) rfl
theorem w_2013 : (Jvm.Cond.methodLink "EditsMeetLaw" (57 : Nat) ({ cls := "EditsMeetModel", name := "wipe", desc := "()I" } : Jvm.MethodName)) ∈ xTs := xT_8 221 (by rfl) rfl
theorem w_2014 : (Jvm.Cond.instanceMethod ({ cls := "EditsMeetModel", name := "wipe", desc := "()I" } : Jvm.MethodName)) ∈ xTs := xT_8 222 (by rfl) rfl
theorem w_2015 : (Jvm.Cond.selects "EditsMeetModel" ({ cls := "EditsMeetModel", name := "wipe", desc := "()I" } : Jvm.MethodName) ({ cls := "EditsMeetModel", name := "wipe", desc := "()I" } : Jvm.MethodName)) ∈ xTs := xT_8 223 (by rfl) rfl
theorem w_2016 : (Jvm.Cond.code ({ cls := "EditsMeetModel", name := "wipe", desc := "()I" } : Jvm.MethodName) prog_14_method_36_code (2 : Nat) (Option.some Jvm.ClassFile.FieldType.int)) ∈ xTs := xT_8 224 (by rfl) rfl
theorem w_2017 : (Jvm.Cond.methodLink "EditsMeetLaw" (61 : Nat) ({ cls := "EditsMeetModel", name := "edit", desc := "(I)I" } : Jvm.MethodName)) ∈ xTs := xT_8 225 (by rfl) rfl
theorem w_2018 : (Jvm.Cond.instanceMethod ({ cls := "EditsMeetModel", name := "edit", desc := "(I)I" } : Jvm.MethodName)) ∈ xTs := xT_8 226 (by rfl) rfl
theorem w_2019 : (Jvm.Cond.selects "EditsMeetModel" ({ cls := "EditsMeetModel", name := "edit", desc := "(I)I" } : Jvm.MethodName) ({ cls := "EditsMeetModel", name := "edit", desc := "(I)I" } : Jvm.MethodName)) ∈ xTs := xT_8 227 (by rfl) rfl
theorem w_2020 : (Jvm.Cond.code ({ cls := "EditsMeetModel", name := "edit", desc := "(I)I" } : Jvm.MethodName) prog_14_method_40_code (3 : Nat) (Option.some Jvm.ClassFile.FieldType.int)) ∈ xTs := xT_8 228 (by rfl) rfl
theorem w_2021 : (Jvm.Cond.methodLink "EditsMeetModel" (211 : Nat) ({ cls := "EditsMeetModel", name := "isEdit", desc := "(I)Z" } : Jvm.MethodName)) ∈ xTs := xT_8 229 (by rfl) rfl
theorem w_2022 : (Jvm.Cond.static ({ cls := "EditsMeetModel", name := "isEdit", desc := "(I)Z" } : Jvm.MethodName)) ∈ xTs := xT_8 230 (by rfl) rfl
theorem w_2023 : (Jvm.Cond.code ({ cls := "EditsMeetModel", name := "isEdit", desc := "(I)Z" } : Jvm.MethodName) prog_14_method_34_code (1 : Nat) (Option.some Jvm.ClassFile.FieldType.boolean)) ∈ xTs := xT_8 231 (by rfl) rfl
theorem w_2024 : (Jvm.Cond.constantLong "EditsMeetModel" (179 : Nat) (11 : Int64)) ∈ xTs := xT_8 232 (by rfl) rfl
theorem w_2025 : (Jvm.Cond.methodLink "EditsMeetModel" (214 : Nat) ({ cls := "EditsMeetModel", name := "isPart", desc := "()Z" } : Jvm.MethodName)) ∈ xTs := xT_8 233 (by rfl) rfl
theorem w_2027 : (Jvm.Cond.instanceMethod ({ cls := "EditsMeetModel", name := "isPart", desc := "()Z" } : Jvm.MethodName)) ∈ xTs := xT_8 235 (by rfl) rfl
theorem w_2028 : (Jvm.Cond.code ({ cls := "EditsMeetModel", name := "isPart", desc := "()Z" } : Jvm.MethodName) prog_14_method_39_code (5 : Nat) (Option.some Jvm.ClassFile.FieldType.boolean)) ∈ xTs := xT_8 236 (by rfl) rfl
theorem w_2029 : (Jvm.Cond.methodLink "EditsMeetModel" (193 : Nat) ({ cls := "EditsMeetModel", name := "byteAt", desc := "(I)I" } : Jvm.MethodName)) ∈ xTs := xT_8 237 (by rfl) rfl
theorem w_2031 : (Jvm.Cond.instanceMethod ({ cls := "EditsMeetModel", name := "byteAt", desc := "(I)I" } : Jvm.MethodName)) ∈ xTs := xT_8 239 (by rfl) rfl
theorem w_2032 : (Jvm.Cond.code ({ cls := "EditsMeetModel", name := "byteAt", desc := "(I)I" } : Jvm.MethodName) prog_14_method_37_code (2 : Nat) (Option.some Jvm.ClassFile.FieldType.int)) ∈ xTs := xT_9 0 (by rfl) rfl
theorem w_2035 : (Jvm.Cond.constant "EditsMeetModel" (110 : Nat) (1048576 : Int32)) ∈ xTs := xT_9 3 (by rfl) rfl
theorem w_2036 : (Jvm.Cond.methodLink "EditsMeetModel" (115 : Nat) ({ cls := "EditsMeetModel", name := "adds", desc := "(II)V" } : Jvm.MethodName)) ∈ xTs := xT_9 4 (by rfl) rfl
theorem w_2038 : (Jvm.Cond.instanceMethod ({ cls := "EditsMeetModel", name := "adds", desc := "(II)V" } : Jvm.MethodName)) ∈ xTs := xT_9 6 (by rfl) rfl
theorem w_2039 : (Jvm.Cond.code ({ cls := "EditsMeetModel", name := "adds", desc := "(II)V" } : Jvm.MethodName) prog_14_method_6_code (3 : Nat) (Option.none : Option Jvm.ClassFile.FieldType)) ∈ xTs := xT_9 7 (by rfl) rfl
theorem w_2046 : (Jvm.Cond.constant "EditsMeetModel" (108 : Nat) (2097152 : Int32)) ∈ xTs := xT_9 14 (by rfl) rfl
theorem w_2047 : (Jvm.Cond.constant "EditsMeetModel" (109 : Nat) (3145728 : Int32)) ∈ xTs := xT_9 15 (by rfl) rfl
theorem w_2048 : (Jvm.Cond.constant "EditsMeetModel" (126 : Nat) (4194304 : Int32)) ∈ xTs := xT_9 16 (by rfl) rfl
theorem w_2049 : (Jvm.Cond.methodLink "EditsMeetModel" (122 : Nat) ({ cls := "EditsMeetModel", name := "plain", desc := "(I)V" } : Jvm.MethodName)) ∈ xTs := xT_9 17 (by rfl) rfl
theorem w_2051 : (Jvm.Cond.instanceMethod ({ cls := "EditsMeetModel", name := "plain", desc := "(I)V" } : Jvm.MethodName)) ∈ xTs := xT_9 19 (by rfl) rfl
theorem w_2052 : (Jvm.Cond.code ({ cls := "EditsMeetModel", name := "plain", desc := "(I)V" } : Jvm.MethodName) prog_14_method_10_code (6 : Nat) (Option.none : Option Jvm.ClassFile.FieldType)) ∈ xTs := xT_9 20 (by rfl) rfl
theorem w_2053 : (Jvm.Cond.methodLink "EditsMeetModel" (104 : Nat) ({ cls := "EditsMeetModel", name := "kind", desc := "(I)I" } : Jvm.MethodName)) ∈ xTs := xT_9 21 (by rfl) rfl
theorem w_2054 : (Jvm.Cond.static ({ cls := "EditsMeetModel", name := "kind", desc := "(I)I" } : Jvm.MethodName)) ∈ xTs := xT_9 22 (by rfl) rfl
theorem w_2055 : (Jvm.Cond.code ({ cls := "EditsMeetModel", name := "kind", desc := "(I)I" } : Jvm.MethodName) prog_14_method_4_code (1 : Nat) (Option.some Jvm.ClassFile.FieldType.int)) ∈ xTs := xT_9 23 (by rfl) rfl
theorem w_2056 : (Jvm.Cond.constant "EditsMeetModel" (92 : Nat) (7340032 : Int32)) ∈ xTs := xT_9 24 (by rfl) rfl
theorem w_2061 : (Jvm.Cond.methodLink "EditsMeetModel" (101 : Nat) ({ cls := "EditsMeetModel", name := "keepsRow", desc := "(II)V" } : Jvm.MethodName)) ∈ xTs := xT_9 29 (by rfl) rfl
theorem w_2063 : (Jvm.Cond.instanceMethod ({ cls := "EditsMeetModel", name := "keepsRow", desc := "(II)V" } : Jvm.MethodName)) ∈ xTs := xT_9 31 (by rfl) rfl
theorem w_2064 : (Jvm.Cond.code ({ cls := "EditsMeetModel", name := "keepsRow", desc := "(II)V" } : Jvm.MethodName) prog_14_method_8_code (4 : Nat) (Option.none : Option Jvm.ClassFile.FieldType)) ∈ xTs := xT_9 32 (by rfl) rfl
theorem w_2065 : (Jvm.Cond.methodLink "EditsMeetModel" (93 : Nat) ({ cls := "EditsMeetModel", name := "grown", desc := "([II)[I" } : Jvm.MethodName)) ∈ xTs := xT_9 33 (by rfl) rfl
theorem w_2066 : (Jvm.Cond.static ({ cls := "EditsMeetModel", name := "grown", desc := "([II)[I" } : Jvm.MethodName)) ∈ xTs := xT_9 34 (by rfl) rfl
theorem w_2067 : (Jvm.Cond.code ({ cls := "EditsMeetModel", name := "grown", desc := "([II)[I" } : Jvm.MethodName) prog_14_method_5_code (4 : Nat) (Option.some (Jvm.ClassFile.FieldType.array Jvm.ClassFile.FieldType.int))) ∈ xTs := xT_9 35 (by rfl) rfl
theorem w_2075 : (Jvm.Cond.methodLink "EditsMeetLaw" (65 : Nat) ({ cls := "EditsMeetModel", name := "of", desc := "(II)I" } : Jvm.MethodName)) ∈ xTs := xT_9 43 (by rfl) rfl
theorem w_2076 : (Jvm.Cond.instanceMethod ({ cls := "EditsMeetModel", name := "of", desc := "(II)I" } : Jvm.MethodName)) ∈ xTs := xT_9 44 (by rfl) rfl
theorem w_2077 : (Jvm.Cond.selects "EditsMeetModel" ({ cls := "EditsMeetModel", name := "of", desc := "(II)I" } : Jvm.MethodName) ({ cls := "EditsMeetModel", name := "of", desc := "(II)I" } : Jvm.MethodName)) ∈ xTs := xT_9 45 (by rfl) rfl
theorem w_2078 : (Jvm.Cond.code ({ cls := "EditsMeetModel", name := "of", desc := "(II)I" } : Jvm.MethodName) prog_14_method_48_code (3 : Nat) (Option.some Jvm.ClassFile.FieldType.int)) ∈ xTs := xT_9 46 (by rfl) rfl
theorem w_2079 : (Jvm.Cond.constantLong "EditsMeetModel" (228 : Nat) (5 : Int64)) ∈ xTs := xT_9 47 (by rfl) rfl
theorem w_2080 : (Jvm.Cond.methodLink "EditsMeetModel" (230 : Nat) ({ cls := "EditsMeetModel", name := "isKept", desc := "(I)Z" } : Jvm.MethodName)) ∈ xTs := xT_9 48 (by rfl) rfl
theorem w_2082 : (Jvm.Cond.instanceMethod ({ cls := "EditsMeetModel", name := "isKept", desc := "(I)Z" } : Jvm.MethodName)) ∈ xTs := xT_9 50 (by rfl) rfl
theorem w_2083 : (Jvm.Cond.code ({ cls := "EditsMeetModel", name := "isKept", desc := "(I)Z" } : Jvm.MethodName) prog_14_method_46_code (2 : Nat) (Option.some Jvm.ClassFile.FieldType.boolean)) ∈ xTs := xT_9 51 (by rfl) rfl
theorem w_2088 : (Jvm.Cond.methodLink "EditsMeetModel" (111 : Nat) ({ cls := "EditsMeetModel", name := "count", desc := "([III)I" } : Jvm.MethodName)) ∈ xTs := xT_9 56 (by rfl) rfl
theorem w_2089 : (Jvm.Cond.static ({ cls := "EditsMeetModel", name := "count", desc := "([III)I" } : Jvm.MethodName)) ∈ xTs := xT_9 57 (by rfl) rfl
theorem w_2090 : (Jvm.Cond.code ({ cls := "EditsMeetModel", name := "count", desc := "([III)I" } : Jvm.MethodName) prog_14_method_11_code (5 : Nat) (Option.some Jvm.ClassFile.FieldType.int)) ∈ xTs := xT_9 58 (by rfl) rfl
theorem w_2099 : (Jvm.Cond.methodLink "EditsMeetLaw" (69 : Nat) ({ cls := "EditsMeetModel", name := "part", desc := "(III)I" } : Jvm.MethodName)) ∈ xTs := xT_9 67 (by rfl) rfl
theorem w_2100 : (Jvm.Cond.instanceMethod ({ cls := "EditsMeetModel", name := "part", desc := "(III)I" } : Jvm.MethodName)) ∈ xTs := xT_9 68 (by rfl) rfl
theorem w_2101 : (Jvm.Cond.selects "EditsMeetModel" ({ cls := "EditsMeetModel", name := "part", desc := "(III)I" } : Jvm.MethodName) ({ cls := "EditsMeetModel", name := "part", desc := "(III)I" } : Jvm.MethodName)) ∈ xTs := xT_9 69 (by rfl) rfl
theorem w_2102 : (Jvm.Cond.code ({ cls := "EditsMeetModel", name := "part", desc := "(III)I" } : Jvm.MethodName) prog_14_method_49_code (6 : Nat) (Option.some Jvm.ClassFile.FieldType.int)) ∈ xTs := xT_9 70 (by rfl) rfl
theorem w_2103 : (Jvm.Cond.constantLong "EditsMeetModel" (173 : Nat) (3 : Int64)) ∈ xTs := xT_9 71 (by rfl) rfl
theorem w_2111 : (Jvm.Cond.methodLink "EditsMeetLaw" (73 : Nat) ({ cls := "EditsMeetModel", name := "letter", desc := "(III)I" } : Jvm.MethodName)) ∈ xTs := xT_9 79 (by rfl) rfl
theorem w_2112 : (Jvm.Cond.instanceMethod ({ cls := "EditsMeetModel", name := "letter", desc := "(III)I" } : Jvm.MethodName)) ∈ xTs := xT_9 80 (by rfl) rfl
theorem w_2113 : (Jvm.Cond.selects "EditsMeetModel" ({ cls := "EditsMeetModel", name := "letter", desc := "(III)I" } : Jvm.MethodName) ({ cls := "EditsMeetModel", name := "letter", desc := "(III)I" } : Jvm.MethodName)) ∈ xTs := xT_9 81 (by rfl) rfl
theorem w_2114 : (Jvm.Cond.code ({ cls := "EditsMeetModel", name := "letter", desc := "(III)I" } : Jvm.MethodName) prog_14_method_50_code (6 : Nat) (Option.some Jvm.ClassFile.FieldType.int)) ∈ xTs := xT_9 82 (by rfl) rfl
theorem w_2115 : (Jvm.Cond.methodLink "EditsMeetLaw" (77 : Nat) ({ cls := "EditsMeetModel", name := "spelled", desc := "(II)I" } : Jvm.MethodName)) ∈ xTs := xT_9 83 (by rfl) rfl
theorem w_2116 : (Jvm.Cond.instanceMethod ({ cls := "EditsMeetModel", name := "spelled", desc := "(II)I" } : Jvm.MethodName)) ∈ xTs := xT_9 84 (by rfl) rfl
theorem w_2117 : (Jvm.Cond.selects "EditsMeetModel" ({ cls := "EditsMeetModel", name := "spelled", desc := "(II)I" } : Jvm.MethodName) ({ cls := "EditsMeetModel", name := "spelled", desc := "(II)I" } : Jvm.MethodName)) ∈ xTs := xT_9 85 (by rfl) rfl
theorem w_2118 : (Jvm.Cond.code ({ cls := "EditsMeetModel", name := "spelled", desc := "(II)I" } : Jvm.MethodName) prog_14_method_54_code (7 : Nat) (Option.some Jvm.ClassFile.FieldType.int)) ∈ xTs := xT_9 86 (by rfl) rfl
theorem w_2131 : (Jvm.Cond.methodLink "EditsMeetLaw" (81 : Nat) ({ cls := "EditsMeetModel", name := "behind", desc := "(III)I" } : Jvm.MethodName)) ∈ xTs := xT_9 99 (by rfl) rfl
theorem w_2132 : (Jvm.Cond.instanceMethod ({ cls := "EditsMeetModel", name := "behind", desc := "(III)I" } : Jvm.MethodName)) ∈ xTs := xT_9 100 (by rfl) rfl
theorem w_2133 : (Jvm.Cond.selects "EditsMeetModel" ({ cls := "EditsMeetModel", name := "behind", desc := "(III)I" } : Jvm.MethodName) ({ cls := "EditsMeetModel", name := "behind", desc := "(III)I" } : Jvm.MethodName)) ∈ xTs := xT_9 101 (by rfl) rfl
theorem w_2134 : (Jvm.Cond.code ({ cls := "EditsMeetModel", name := "behind", desc := "(III)I" } : Jvm.MethodName) prog_14_method_56_code (4 : Nat) (Option.some Jvm.ClassFile.FieldType.int)) ∈ xTs := xT_9 102 (by rfl) rfl
theorem w_2135 : (Jvm.Cond.methodLink "EditsMeetModel" (97 : Nat) ({ cls := "EditsMeetModel", name := "takesRow", desc := "(II)V" } : Jvm.MethodName)) ∈ xTs := xT_9 103 (by rfl) rfl
theorem w_2137 : (Jvm.Cond.instanceMethod ({ cls := "EditsMeetModel", name := "takesRow", desc := "(II)V" } : Jvm.MethodName)) ∈ xTs := xT_9 105 (by rfl) rfl
theorem w_2138 : (Jvm.Cond.code ({ cls := "EditsMeetModel", name := "takesRow", desc := "(II)V" } : Jvm.MethodName) prog_14_method_7_code (4 : Nat) (Option.none : Option Jvm.ClassFile.FieldType)) ∈ xTs := xT_9 106 (by rfl) rfl
theorem w_2139 : (Jvm.Cond.methodLink "EditsMeetModel" (158 : Nat) ({ cls := "EditsMeetModel", name := "behindRow", desc := "(III)V" } : Jvm.MethodName)) ∈ xTs := xT_9 107 (by rfl) rfl
theorem w_2141 : (Jvm.Cond.instanceMethod ({ cls := "EditsMeetModel", name := "behindRow", desc := "(III)V" } : Jvm.MethodName)) ∈ xTs := xT_9 109 (by rfl) rfl
theorem w_2142 : (Jvm.Cond.code ({ cls := "EditsMeetModel", name := "behindRow", desc := "(III)V" } : Jvm.MethodName) prog_14_method_16_code (8 : Nat) (Option.none : Option Jvm.ClassFile.FieldType)) ∈ xTs := xT_9 110 (by rfl) rfl
theorem w_2143 : (Jvm.Cond.methodLink "EditsMeetModel" (118 : Nat) ({ cls := "EditsMeetModel", name := "together", desc := "(III)V" } : Jvm.MethodName)) ∈ xTs := xT_9 111 (by rfl) rfl
theorem w_2145 : (Jvm.Cond.instanceMethod ({ cls := "EditsMeetModel", name := "together", desc := "(III)V" } : Jvm.MethodName)) ∈ xTs := xT_9 113 (by rfl) rfl
theorem w_2146 : (Jvm.Cond.code ({ cls := "EditsMeetModel", name := "together", desc := "(III)V" } : Jvm.MethodName) prog_14_method_17_code (6 : Nat) (Option.none : Option Jvm.ClassFile.FieldType)) ∈ xTs := xT_9 114 (by rfl) rfl
theorem w_2147 : (Jvm.Cond.methodLink "EditsMeetModel" (127 : Nat) ({ cls := "EditsMeetModel", name := "marksOf", desc := "(II)I" } : Jvm.MethodName)) ∈ xTs := xT_9 115 (by rfl) rfl
theorem w_2148 : (Jvm.Cond.static ({ cls := "EditsMeetModel", name := "marksOf", desc := "(II)I" } : Jvm.MethodName)) ∈ xTs := xT_9 116 (by rfl) rfl
theorem w_2149 : (Jvm.Cond.code ({ cls := "EditsMeetModel", name := "marksOf", desc := "(II)I" } : Jvm.MethodName) prog_14_method_15_code (2 : Nat) (Option.some Jvm.ClassFile.FieldType.int)) ∈ xTs := xT_9 117 (by rfl) rfl
theorem w_2158 : (Jvm.Cond.methodLink "EditsMeetLaw" (86 : Nat) ({ cls := "EditsMeetModel", name := "over", desc := "(IIII)I" } : Jvm.MethodName)) ∈ xTs := xT_9 126 (by rfl) rfl
theorem w_2159 : (Jvm.Cond.instanceMethod ({ cls := "EditsMeetModel", name := "over", desc := "(IIII)I" } : Jvm.MethodName)) ∈ xTs := xT_9 127 (by rfl) rfl
theorem w_2160 : (Jvm.Cond.selects "EditsMeetModel" ({ cls := "EditsMeetModel", name := "over", desc := "(IIII)I" } : Jvm.MethodName) ({ cls := "EditsMeetModel", name := "over", desc := "(IIII)I" } : Jvm.MethodName)) ∈ xTs := xT_9 128 (by rfl) rfl
theorem w_2161 : (Jvm.Cond.code ({ cls := "EditsMeetModel", name := "over", desc := "(IIII)I" } : Jvm.MethodName) prog_14_method_57_code (5 : Nat) (Option.some Jvm.ClassFile.FieldType.int)) ∈ xTs := xT_9 129 (by rfl) rfl
theorem w_2162 : (Jvm.Cond.methodLink "EditsMeetModel" (164 : Nat) ({ cls := "EditsMeetModel", name := "overRow", desc := "(IIII)V" } : Jvm.MethodName)) ∈ xTs := xT_9 130 (by rfl) rfl
theorem w_2164 : (Jvm.Cond.instanceMethod ({ cls := "EditsMeetModel", name := "overRow", desc := "(IIII)V" } : Jvm.MethodName)) ∈ xTs := xT_9 132 (by rfl) rfl
theorem w_2165 : (Jvm.Cond.code ({ cls := "EditsMeetModel", name := "overRow", desc := "(IIII)V" } : Jvm.MethodName) prog_14_method_18_code (9 : Nat) (Option.none : Option Jvm.ClassFile.FieldType)) ∈ xTs := xT_9 133 (by rfl) rfl
theorem w_2166 : (Jvm.Cond.methodLink "EditsMeetModel" (131 : Nat) ({ cls := "EditsMeetModel", name := "overOne", desc := "(IIII)V" } : Jvm.MethodName)) ∈ xTs := xT_9 134 (by rfl) rfl
theorem w_2168 : (Jvm.Cond.instanceMethod ({ cls := "EditsMeetModel", name := "overOne", desc := "(IIII)V" } : Jvm.MethodName)) ∈ xTs := xT_9 136 (by rfl) rfl
theorem w_2169 : (Jvm.Cond.code ({ cls := "EditsMeetModel", name := "overOne", desc := "(IIII)V" } : Jvm.MethodName) prog_14_method_19_code (7 : Nat) (Option.none : Option Jvm.ClassFile.FieldType)) ∈ xTs := xT_9 137 (by rfl) rfl
theorem w_2170 : (Jvm.Cond.methodLink "EditsMeetLaw" (90 : Nat) ({ cls := "EditsMeetModel", name := "turned", desc := "(III)I" } : Jvm.MethodName)) ∈ xTs := xT_9 138 (by rfl) rfl
theorem w_2171 : (Jvm.Cond.instanceMethod ({ cls := "EditsMeetModel", name := "turned", desc := "(III)I" } : Jvm.MethodName)) ∈ xTs := xT_9 139 (by rfl) rfl
theorem w_2172 : (Jvm.Cond.selects "EditsMeetModel" ({ cls := "EditsMeetModel", name := "turned", desc := "(III)I" } : Jvm.MethodName) ({ cls := "EditsMeetModel", name := "turned", desc := "(III)I" } : Jvm.MethodName)) ∈ xTs := xT_9 140 (by rfl) rfl
theorem w_2173 : (Jvm.Cond.code ({ cls := "EditsMeetModel", name := "turned", desc := "(III)I" } : Jvm.MethodName) prog_14_method_58_code (4 : Nat) (Option.some Jvm.ClassFile.FieldType.int)) ∈ xTs := xT_9 141 (by rfl) rfl
theorem w_2174 : (Jvm.Cond.methodLink "EditsMeetModel" (272 : Nat) ({ cls := "EditsMeetModel", name := "isClient", desc := "(I)Z" } : Jvm.MethodName)) ∈ xTs := xT_9 142 (by rfl) rfl
theorem w_2175 : (Jvm.Cond.static ({ cls := "EditsMeetModel", name := "isClient", desc := "(I)Z" } : Jvm.MethodName)) ∈ xTs := xT_9 143 (by rfl) rfl
theorem w_2176 : (Jvm.Cond.code ({ cls := "EditsMeetModel", name := "isClient", desc := "(I)Z" } : Jvm.MethodName) prog_14_method_33_code (1 : Nat) (Option.some Jvm.ClassFile.FieldType.boolean)) ∈ xTs := xT_9 144 (by rfl) rfl
theorem w_2177 : (Jvm.Cond.methodLink "EditsMeetModel" (145 : Nat) ({ cls := "EditsMeetModel", name := "turnedRow", desc := "(III)V" } : Jvm.MethodName)) ∈ xTs := xT_9 145 (by rfl) rfl
theorem w_2179 : (Jvm.Cond.instanceMethod ({ cls := "EditsMeetModel", name := "turnedRow", desc := "(III)V" } : Jvm.MethodName)) ∈ xTs := xT_9 147 (by rfl) rfl
theorem w_2180 : (Jvm.Cond.code ({ cls := "EditsMeetModel", name := "turnedRow", desc := "(III)V" } : Jvm.MethodName) prog_14_method_20_code (10 : Nat) (Option.none : Option Jvm.ClassFile.FieldType)) ∈ xTs := xT_9 148 (by rfl) rfl
theorem w_2181 : (Jvm.Cond.methodLink "EditsMeetLaw" (94 : Nat) ({ cls := "EditsMeetModel", name := "differ", desc := "(II)I" } : Jvm.MethodName)) ∈ xTs := xT_9 149 (by rfl) rfl
theorem w_2182 : (Jvm.Cond.instanceMethod ({ cls := "EditsMeetModel", name := "differ", desc := "(II)I" } : Jvm.MethodName)) ∈ xTs := xT_9 150 (by rfl) rfl
theorem w_2183 : (Jvm.Cond.selects "EditsMeetModel" ({ cls := "EditsMeetModel", name := "differ", desc := "(II)I" } : Jvm.MethodName) ({ cls := "EditsMeetModel", name := "differ", desc := "(II)I" } : Jvm.MethodName)) ∈ xTs := xT_9 151 (by rfl) rfl
theorem w_2184 : (Jvm.Cond.code ({ cls := "EditsMeetModel", name := "differ", desc := "(II)I" } : Jvm.MethodName) prog_14_method_59_code (10 : Nat) (Option.some Jvm.ClassFile.FieldType.int)) ∈ xTs := xT_9 152 (by rfl) rfl
theorem w_2185 : (Jvm.Cond.methodLink "EditsMeetModel" (275 : Nat) ({ cls := "java/lang/Math", name := "max", desc := "(II)I" } : Jvm.MethodName)) ∈ xTs := xT_9 153 (by rfl) rfl
theorem w_2186 : (Jvm.Cond.methodLink "EditsMeetLaw" (98 : Nat) ({ cls := "EditsMeetModel", name := "does", desc := "(II)I" } : Jvm.MethodName)) ∈ xTs := xT_9 154 (by rfl) rfl
theorem w_2187 : (Jvm.Cond.instanceMethod ({ cls := "EditsMeetModel", name := "does", desc := "(II)I" } : Jvm.MethodName)) ∈ xTs := xT_9 155 (by rfl) rfl
theorem w_2188 : (Jvm.Cond.selects "EditsMeetModel" ({ cls := "EditsMeetModel", name := "does", desc := "(II)I" } : Jvm.MethodName) ({ cls := "EditsMeetModel", name := "does", desc := "(II)I" } : Jvm.MethodName)) ∈ xTs := xT_9 156 (by rfl) rfl
theorem w_2189 : (Jvm.Cond.code ({ cls := "EditsMeetModel", name := "does", desc := "(II)I" } : Jvm.MethodName) prog_14_method_60_code (3 : Nat) (Option.some Jvm.ClassFile.FieldType.int)) ∈ xTs := xT_9 157 (by rfl) rfl
theorem w_2190 : (Jvm.Cond.methodLink "EditsMeetModel" (280 : Nat) ({ cls := "EditsMeetModel", name := "isFull", desc := "(II)Z" } : Jvm.MethodName)) ∈ xTs := xT_9 158 (by rfl) rfl
theorem w_2192 : (Jvm.Cond.instanceMethod ({ cls := "EditsMeetModel", name := "isFull", desc := "(II)Z" } : Jvm.MethodName)) ∈ xTs := xT_9 160 (by rfl) rfl
theorem w_2193 : (Jvm.Cond.code ({ cls := "EditsMeetModel", name := "isFull", desc := "(II)Z" } : Jvm.MethodName) prog_14_method_28_code (3 : Nat) (Option.some Jvm.ClassFile.FieldType.boolean)) ∈ xTs := xT_9 161 (by rfl) rfl
theorem w_2194 : (Jvm.Cond.methodLink "EditsMeetModel" (161 : Nat) ({ cls := "EditsMeetModel", name := "resultLength", desc := "(I)I" } : Jvm.MethodName)) ∈ xTs := xT_9 162 (by rfl) rfl
theorem w_2196 : (Jvm.Cond.instanceMethod ({ cls := "EditsMeetModel", name := "resultLength", desc := "(I)I" } : Jvm.MethodName)) ∈ xTs := xT_9 164 (by rfl) rfl
theorem w_2197 : (Jvm.Cond.code ({ cls := "EditsMeetModel", name := "resultLength", desc := "(I)I" } : Jvm.MethodName) prog_14_method_27_code (2 : Nat) (Option.some Jvm.ClassFile.FieldType.int)) ∈ xTs := xT_9 165 (by rfl) rfl
theorem w_2198 : (Jvm.Cond.methodLink "EditsMeetModel" (283 : Nat) ({ cls := "EditsMeetModel", name := "done", desc := "(IIZ)V" } : Jvm.MethodName)) ∈ xTs := xT_9 166 (by rfl) rfl
theorem w_2200 : (Jvm.Cond.instanceMethod ({ cls := "EditsMeetModel", name := "done", desc := "(IIZ)V" } : Jvm.MethodName)) ∈ xTs := xT_9 168 (by rfl) rfl
theorem w_2201 : (Jvm.Cond.code ({ cls := "EditsMeetModel", name := "done", desc := "(IIZ)V" } : Jvm.MethodName) prog_14_method_26_code (4 : Nat) (Option.none : Option Jvm.ClassFile.FieldType)) ∈ xTs := xT_9 169 (by rfl) rfl
theorem w_2202 : (Jvm.Cond.methodLink "EditsMeetModel" (148 : Nat) ({ cls := "EditsMeetModel", name := "makes", desc := "(II)V" } : Jvm.MethodName)) ∈ xTs := xT_9 170 (by rfl) rfl
theorem w_2204 : (Jvm.Cond.instanceMethod ({ cls := "EditsMeetModel", name := "makes", desc := "(II)V" } : Jvm.MethodName)) ∈ xTs := xT_9 172 (by rfl) rfl
theorem w_2205 : (Jvm.Cond.code ({ cls := "EditsMeetModel", name := "makes", desc := "(II)V" } : Jvm.MethodName) prog_14_method_21_code (8 : Nat) (Option.none : Option Jvm.ClassFile.FieldType)) ∈ xTs := xT_9 173 (by rfl) rfl
theorem w_2206 : (Jvm.Cond.methodLink "EditsMeetModel" (151 : Nat) ({ cls := "EditsMeetModel", name := "cursorGoes", desc := "(IIZ)V" } : Jvm.MethodName)) ∈ xTs := xT_9 174 (by rfl) rfl
theorem w_2208 : (Jvm.Cond.instanceMethod ({ cls := "EditsMeetModel", name := "cursorGoes", desc := "(IIZ)V" } : Jvm.MethodName)) ∈ xTs := xT_9 176 (by rfl) rfl
theorem w_2209 : (Jvm.Cond.code ({ cls := "EditsMeetModel", name := "cursorGoes", desc := "(IIZ)V" } : Jvm.MethodName) prog_14_method_24_code (4 : Nat) (Option.none : Option Jvm.ClassFile.FieldType)) ∈ xTs := xT_9 177 (by rfl) rfl
theorem w_2210 : (Jvm.Cond.methodLink "EditsMeetModel" (135 : Nat) ({ cls := "EditsMeetModel", name := "st", desc := "(II)I" } : Jvm.MethodName)) ∈ xTs := xT_9 178 (by rfl) rfl
theorem w_2212 : (Jvm.Cond.instanceMethod ({ cls := "EditsMeetModel", name := "st", desc := "(II)I" } : Jvm.MethodName)) ∈ xTs := xT_9 180 (by rfl) rfl
theorem w_2213 : (Jvm.Cond.code ({ cls := "EditsMeetModel", name := "st", desc := "(II)I" } : Jvm.MethodName) prog_14_method_23_code (3 : Nat) (Option.some Jvm.ClassFile.FieldType.int)) ∈ xTs := xT_9 181 (by rfl) rfl
theorem w_2214 : (Jvm.Cond.methodLink "EditsMeetModel" (138 : Nat) ({ cls := "EditsMeetModel", name := "goesAlong", desc := "(IIZ)I" } : Jvm.MethodName)) ∈ xTs := xT_9 182 (by rfl) rfl
theorem w_2216 : (Jvm.Cond.instanceMethod ({ cls := "EditsMeetModel", name := "goesAlong", desc := "(IIZ)I" } : Jvm.MethodName)) ∈ xTs := xT_9 184 (by rfl) rfl
theorem w_2217 : (Jvm.Cond.code ({ cls := "EditsMeetModel", name := "goesAlong", desc := "(IIZ)I" } : Jvm.MethodName) prog_14_method_22_code (8 : Nat) (Option.some Jvm.ClassFile.FieldType.int)) ∈ xTs := xT_9 185 (by rfl) rfl
theorem w_2218 : (Jvm.Cond.methodLink "EditsMeetModel" (155 : Nat) ({ cls := "EditsMeetModel", name := "pushes", desc := "(III)V" } : Jvm.MethodName)) ∈ xTs := xT_9 186 (by rfl) rfl
theorem w_2220 : (Jvm.Cond.instanceMethod ({ cls := "EditsMeetModel", name := "pushes", desc := "(III)V" } : Jvm.MethodName)) ∈ xTs := xT_9 188 (by rfl) rfl
theorem w_2221 : (Jvm.Cond.code ({ cls := "EditsMeetModel", name := "pushes", desc := "(III)V" } : Jvm.MethodName) prog_14_method_25_code (7 : Nat) (Option.none : Option Jvm.ClassFile.FieldType)) ∈ xTs := xT_9 189 (by rfl) rfl
theorem w_2222 : (Jvm.Cond.methodLink "EditsMeetModel" (142 : Nat) ({ cls := "EditsMeetModel", name := "copiesRow", desc := "(II)V" } : Jvm.MethodName)) ∈ xTs := xT_9 190 (by rfl) rfl
theorem w_2224 : (Jvm.Cond.instanceMethod ({ cls := "EditsMeetModel", name := "copiesRow", desc := "(II)V" } : Jvm.MethodName)) ∈ xTs := xT_9 192 (by rfl) rfl
theorem w_2225 : (Jvm.Cond.code ({ cls := "EditsMeetModel", name := "copiesRow", desc := "(II)V" } : Jvm.MethodName) prog_14_method_9_code (3 : Nat) (Option.none : Option Jvm.ClassFile.FieldType)) ∈ xTs := xT_9 193 (by rfl) rfl
theorem w_2226 : (Jvm.Cond.methodLink "EditsMeetLaw" (102 : Nat) ({ cls := "EditsMeetModel", name := "insert", desc := "(IIII)I" } : Jvm.MethodName)) ∈ xTs := xT_9 194 (by rfl) rfl
theorem w_2227 : (Jvm.Cond.instanceMethod ({ cls := "EditsMeetModel", name := "insert", desc := "(IIII)I" } : Jvm.MethodName)) ∈ xTs := xT_9 195 (by rfl) rfl
theorem w_2228 : (Jvm.Cond.selects "EditsMeetModel" ({ cls := "EditsMeetModel", name := "insert", desc := "(IIII)I" } : Jvm.MethodName) ({ cls := "EditsMeetModel", name := "insert", desc := "(IIII)I" } : Jvm.MethodName)) ∈ xTs := xT_9 196 (by rfl) rfl
theorem w_2229 : (Jvm.Cond.code ({ cls := "EditsMeetModel", name := "insert", desc := "(IIII)I" } : Jvm.MethodName) prog_14_method_63_code (5 : Nat) (Option.some Jvm.ClassFile.FieldType.int)) ∈ xTs := xT_9 197 (by rfl) rfl
theorem w_2230 : (Jvm.Cond.constantLong "EditsMeetModel" (286 : Nat) (25 : Int64)) ∈ xTs := xT_9 198 (by rfl) rfl
theorem w_2231 : (Jvm.Cond.constantLong "EditsMeetModel" (288 : Nat) (15 : Int64)) ∈ xTs := xT_9 199 (by rfl) rfl
theorem w_2232 : (Jvm.Cond.methodLink "EditsMeetModel" (290 : Nat) ({ cls := "EditsMeetModel", name := "inserts", desc := "(III)V" } : Jvm.MethodName)) ∈ xTs := xT_9 200 (by rfl) rfl
theorem w_2234 : (Jvm.Cond.instanceMethod ({ cls := "EditsMeetModel", name := "inserts", desc := "(III)V" } : Jvm.MethodName)) ∈ xTs := xT_9 202 (by rfl) rfl
theorem w_2235 : (Jvm.Cond.code ({ cls := "EditsMeetModel", name := "inserts", desc := "(III)V" } : Jvm.MethodName) prog_14_method_62_code (5 : Nat) (Option.none : Option Jvm.ClassFile.FieldType)) ∈ xTs := xT_9 203 (by rfl) rfl
theorem w_2236 : (Jvm.Cond.methodLink "EditsMeetLaw" (106 : Nat) ({ cls := "EditsMeetModel", name := "cut", desc := "(III)I" } : Jvm.MethodName)) ∈ xTs := xT_9 204 (by rfl) rfl
theorem w_2237 : (Jvm.Cond.instanceMethod ({ cls := "EditsMeetModel", name := "cut", desc := "(III)I" } : Jvm.MethodName)) ∈ xTs := xT_9 205 (by rfl) rfl
theorem w_2238 : (Jvm.Cond.selects "EditsMeetModel" ({ cls := "EditsMeetModel", name := "cut", desc := "(III)I" } : Jvm.MethodName) ({ cls := "EditsMeetModel", name := "cut", desc := "(III)I" } : Jvm.MethodName)) ∈ xTs := xT_9 206 (by rfl) rfl
theorem w_2239 : (Jvm.Cond.code ({ cls := "EditsMeetModel", name := "cut", desc := "(III)I" } : Jvm.MethodName) prog_14_method_65_code (4 : Nat) (Option.some Jvm.ClassFile.FieldType.int)) ∈ xTs := xT_9 207 (by rfl) rfl
theorem w_2240 : (Jvm.Cond.methodLink "EditsMeetModel" (293 : Nat) ({ cls := "EditsMeetModel", name := "isStretch", desc := "(III)Z" } : Jvm.MethodName)) ∈ xTs := xT_9 208 (by rfl) rfl
theorem w_2242 : (Jvm.Cond.instanceMethod ({ cls := "EditsMeetModel", name := "isStretch", desc := "(III)Z" } : Jvm.MethodName)) ∈ xTs := xT_9 210 (by rfl) rfl
theorem w_2243 : (Jvm.Cond.code ({ cls := "EditsMeetModel", name := "isStretch", desc := "(III)Z" } : Jvm.MethodName) prog_14_method_64_code (4 : Nat) (Option.some Jvm.ClassFile.FieldType.boolean)) ∈ xTs := xT_9 211 (by rfl) rfl
theorem w_2244 : (Jvm.Cond.methodLink "EditsMeetModel" (297 : Nat) ({ cls := "EditsMeetModel", name := "keepsAllBut", desc := "(IIII)V" } : Jvm.MethodName)) ∈ xTs := xT_9 212 (by rfl) rfl
theorem w_2246 : (Jvm.Cond.instanceMethod ({ cls := "EditsMeetModel", name := "keepsAllBut", desc := "(IIII)V" } : Jvm.MethodName)) ∈ xTs := xT_9 214 (by rfl) rfl
theorem w_2247 : (Jvm.Cond.code ({ cls := "EditsMeetModel", name := "keepsAllBut", desc := "(IIII)V" } : Jvm.MethodName) prog_14_method_61_code (6 : Nat) (Option.none : Option Jvm.ClassFile.FieldType)) ∈ xTs := xT_9 215 (by rfl) rfl
theorem w_2248 : (Jvm.Cond.methodLink "EditsMeetLaw" (110 : Nat) ({ cls := "EditsMeetModel", name := "mark", desc := "(IIIII)I" } : Jvm.MethodName)) ∈ xTs := xT_9 216 (by rfl) rfl
theorem w_2249 : (Jvm.Cond.instanceMethod ({ cls := "EditsMeetModel", name := "mark", desc := "(IIIII)I" } : Jvm.MethodName)) ∈ xTs := xT_9 217 (by rfl) rfl
theorem w_2250 : (Jvm.Cond.selects "EditsMeetModel" ({ cls := "EditsMeetModel", name := "mark", desc := "(IIIII)I" } : Jvm.MethodName) ({ cls := "EditsMeetModel", name := "mark", desc := "(IIIII)I" } : Jvm.MethodName)) ∈ xTs := xT_9 218 (by rfl) rfl
theorem w_2251 : (Jvm.Cond.code ({ cls := "EditsMeetModel", name := "mark", desc := "(IIIII)I" } : Jvm.MethodName) prog_14_method_66_code (8 : Nat) (Option.some Jvm.ClassFile.FieldType.int)) ∈ xTs := xT_9 219 (by rfl) rfl
theorem w_2252 : (Jvm.Cond.methodLink "EditsMeetLaw" (114 : Nat) ({ cls := "EditsMeetModel", name := "serve", desc := "(I)I" } : Jvm.MethodName)) ∈ xTs := xT_9 220 (by rfl) rfl
theorem w_2253 : (Jvm.Cond.instanceMethod ({ cls := "EditsMeetModel", name := "serve", desc := "(I)I" } : Jvm.MethodName)) ∈ xTs := xT_9 221 (by rfl) rfl
theorem w_2254 : (Jvm.Cond.selects "EditsMeetModel" ({ cls := "EditsMeetModel", name := "serve", desc := "(I)I" } : Jvm.MethodName) ({ cls := "EditsMeetModel", name := "serve", desc := "(I)I" } : Jvm.MethodName)) ∈ xTs := xT_9 222 (by rfl) rfl
theorem w_2255 : (Jvm.Cond.code ({ cls := "EditsMeetModel", name := "serve", desc := "(I)I" } : Jvm.MethodName) prog_14_method_67_code (2 : Nat) (Option.some Jvm.ClassFile.FieldType.int)) ∈ xTs := xT_9 223 (by rfl) rfl
theorem w_2256 : (Jvm.Cond.methodLink "EditsMeetModel" (300 : Nat) ({ cls := "EditsMeetModel", name := "serves", desc := "(I)I" } : Jvm.MethodName)) ∈ xTs := xT_9 224 (by rfl) rfl
theorem w_2258 : (Jvm.Cond.instanceMethod ({ cls := "EditsMeetModel", name := "serves", desc := "(I)I" } : Jvm.MethodName)) ∈ xTs := xT_9 226 (by rfl) rfl
theorem w_2259 : (Jvm.Cond.code ({ cls := "EditsMeetModel", name := "serves", desc := "(I)I" } : Jvm.MethodName) prog_14_method_29_code (3 : Nat) (Option.some Jvm.ClassFile.FieldType.int)) ∈ xTs := xT_9 227 (by rfl) rfl
theorem w_2260 : (Jvm.Cond.methodLink "EditsMeetModel" (167 : Nat) ({ cls := "EditsMeetModel", name := "keepsWork", desc := "(II)V" } : Jvm.MethodName)) ∈ xTs := xT_9 228 (by rfl) rfl
theorem w_2262 : (Jvm.Cond.instanceMethod ({ cls := "EditsMeetModel", name := "keepsWork", desc := "(II)V" } : Jvm.MethodName)) ∈ xTs := xT_9 230 (by rfl) rfl
theorem w_2263 : (Jvm.Cond.code ({ cls := "EditsMeetModel", name := "keepsWork", desc := "(II)V" } : Jvm.MethodName) prog_14_method_30_code (4 : Nat) (Option.none : Option Jvm.ClassFile.FieldType)) ∈ xTs := xT_9 231 (by rfl) rfl
theorem w_2264 : (Jvm.Cond.methodLink "EditsMeetLaw" (118 : Nat) ({ cls := "EditsMeetModel", name := "hear", desc := "(I)I" } : Jvm.MethodName)) ∈ xTs := xT_9 232 (by rfl) rfl
theorem w_2265 : (Jvm.Cond.instanceMethod ({ cls := "EditsMeetModel", name := "hear", desc := "(I)I" } : Jvm.MethodName)) ∈ xTs := xT_9 233 (by rfl) rfl
theorem w_2266 : (Jvm.Cond.selects "EditsMeetModel" ({ cls := "EditsMeetModel", name := "hear", desc := "(I)I" } : Jvm.MethodName) ({ cls := "EditsMeetModel", name := "hear", desc := "(I)I" } : Jvm.MethodName)) ∈ xTs := xT_9 234 (by rfl) rfl
theorem w_2267 : (Jvm.Cond.code ({ cls := "EditsMeetModel", name := "hear", desc := "(I)I" } : Jvm.MethodName) prog_14_method_68_code (2 : Nat) (Option.some Jvm.ClassFile.FieldType.int)) ∈ xTs := xT_9 235 (by rfl) rfl
theorem w_2268 : (Jvm.Cond.methodLink "EditsMeetModel" (303 : Nat) ({ cls := "EditsMeetModel", name := "hears", desc := "(I)V" } : Jvm.MethodName)) ∈ xTs := xT_9 236 (by rfl) rfl
theorem w_2270 : (Jvm.Cond.instanceMethod ({ cls := "EditsMeetModel", name := "hears", desc := "(I)V" } : Jvm.MethodName)) ∈ xTs := xT_9 238 (by rfl) rfl
theorem w_2271 : (Jvm.Cond.code ({ cls := "EditsMeetModel", name := "hears", desc := "(I)V" } : Jvm.MethodName) prog_14_method_32_code (4 : Nat) (Option.none : Option Jvm.ClassFile.FieldType)) ∈ xTs := xT_9 239 (by rfl) rfl
theorem w_2272 : (Jvm.Cond.methodLink "EditsMeetModel" (170 : Nat) ({ cls := "EditsMeetModel", name := "crosses", desc := "(I)V" } : Jvm.MethodName)) ∈ xTs := xT_10 0 (by rfl) rfl
theorem w_2274 : (Jvm.Cond.instanceMethod ({ cls := "EditsMeetModel", name := "crosses", desc := "(I)V" } : Jvm.MethodName)) ∈ xTs := xT_10 2 (by rfl) rfl
theorem w_2275 : (Jvm.Cond.code ({ cls := "EditsMeetModel", name := "crosses", desc := "(I)V" } : Jvm.MethodName) prog_14_method_31_code (2 : Nat) (Option.none : Option Jvm.ClassFile.FieldType)) ∈ xTs := xT_10 3 (by rfl) rfl
theorem w_2276 : (Jvm.Cond.methodLink "EditsMeetLaw" (122 : Nat) ({ cls := "EditsMeetModel", name := "meet", desc := "()I" } : Jvm.MethodName)) ∈ xTs := xT_10 4 (by rfl) rfl
theorem w_2277 : (Jvm.Cond.instanceMethod ({ cls := "EditsMeetModel", name := "meet", desc := "()I" } : Jvm.MethodName)) ∈ xTs := xT_10 5 (by rfl) rfl
theorem w_2278 : (Jvm.Cond.selects "EditsMeetModel" ({ cls := "EditsMeetModel", name := "meet", desc := "()I" } : Jvm.MethodName) ({ cls := "EditsMeetModel", name := "meet", desc := "()I" } : Jvm.MethodName)) ∈ xTs := xT_10 6 (by rfl) rfl
theorem w_2279 : (Jvm.Cond.code ({ cls := "EditsMeetModel", name := "meet", desc := "()I" } : Jvm.MethodName) prog_14_method_71_code (4 : Nat) (Option.some Jvm.ClassFile.FieldType.int)) ∈ xTs := xT_10 7 (by rfl) rfl
theorem w_2280 : (Jvm.Cond.methodLink "EditsMeetModel" (306 : Nat) ({ cls := "EditsMeetModel", name := "hearAll", desc := "()V" } : Jvm.MethodName)) ∈ xTs := xT_10 8 (by rfl) rfl
theorem w_2282 : (Jvm.Cond.instanceMethod ({ cls := "EditsMeetModel", name := "hearAll", desc := "()V" } : Jvm.MethodName)) ∈ xTs := xT_10 10 (by rfl) rfl
theorem w_2283 : (Jvm.Cond.code ({ cls := "EditsMeetModel", name := "hearAll", desc := "()V" } : Jvm.MethodName) prog_14_method_69_code (2 : Nat) (Option.none : Option Jvm.ClassFile.FieldType)) ∈ xTs := xT_10 11 (by rfl) rfl
theorem w_2284 : (Jvm.Cond.methodLink "EditsMeetModel" (309 : Nat) ({ cls := "EditsMeetModel", name := "isAnySent", desc := "()Z" } : Jvm.MethodName)) ∈ xTs := xT_10 12 (by rfl) rfl
theorem w_2286 : (Jvm.Cond.instanceMethod ({ cls := "EditsMeetModel", name := "isAnySent", desc := "()Z" } : Jvm.MethodName)) ∈ xTs := xT_10 14 (by rfl) rfl
theorem w_2287 : (Jvm.Cond.code ({ cls := "EditsMeetModel", name := "isAnySent", desc := "()Z" } : Jvm.MethodName) prog_14_method_70_code (3 : Nat) (Option.some Jvm.ClassFile.FieldType.boolean)) ∈ xTs := xT_10 15 (by rfl) rfl
theorem w_2288 : (Jvm.Cond.methodLink "EditsMeetLaw" (126 : Nat) ({ cls := "EditsMeetModel", name := "undo", desc := "(I)I" } : Jvm.MethodName)) ∈ xTs := xT_10 16 (by rfl) rfl
theorem w_2289 : (Jvm.Cond.instanceMethod ({ cls := "EditsMeetModel", name := "undo", desc := "(I)I" } : Jvm.MethodName)) ∈ xTs := xT_10 17 (by rfl) rfl
theorem w_2290 : (Jvm.Cond.selects "EditsMeetModel" ({ cls := "EditsMeetModel", name := "undo", desc := "(I)I" } : Jvm.MethodName) ({ cls := "EditsMeetModel", name := "undo", desc := "(I)I" } : Jvm.MethodName)) ∈ xTs := xT_10 18 (by rfl) rfl
theorem w_2291 : (Jvm.Cond.code ({ cls := "EditsMeetModel", name := "undo", desc := "(I)I" } : Jvm.MethodName) prog_14_method_73_code (3 : Nat) (Option.some Jvm.ClassFile.FieldType.int)) ∈ xTs := xT_10 19 (by rfl) rfl
theorem w_2292 : (Jvm.Cond.methodLink "EditsMeetModel" (312 : Nat) ({ cls := "EditsMeetModel", name := "again", desc := "(II)I" } : Jvm.MethodName)) ∈ xTs := xT_10 20 (by rfl) rfl
theorem w_2294 : (Jvm.Cond.instanceMethod ({ cls := "EditsMeetModel", name := "again", desc := "(II)I" } : Jvm.MethodName)) ∈ xTs := xT_10 22 (by rfl) rfl
theorem w_2295 : (Jvm.Cond.code ({ cls := "EditsMeetModel", name := "again", desc := "(II)I" } : Jvm.MethodName) prog_14_method_72_code (4 : Nat) (Option.some Jvm.ClassFile.FieldType.int)) ∈ xTs := xT_10 23 (by rfl) rfl
theorem w_2296 : (Jvm.Cond.methodLink "EditsMeetLaw" (130 : Nat) ({ cls := "EditsMeetModel", name := "redo", desc := "(I)I" } : Jvm.MethodName)) ∈ xTs := xT_10 24 (by rfl) rfl
theorem w_2297 : (Jvm.Cond.instanceMethod ({ cls := "EditsMeetModel", name := "redo", desc := "(I)I" } : Jvm.MethodName)) ∈ xTs := xT_10 25 (by rfl) rfl
theorem w_2298 : (Jvm.Cond.selects "EditsMeetModel" ({ cls := "EditsMeetModel", name := "redo", desc := "(I)I" } : Jvm.MethodName) ({ cls := "EditsMeetModel", name := "redo", desc := "(I)I" } : Jvm.MethodName)) ∈ xTs := xT_10 26 (by rfl) rfl
theorem w_2299 : (Jvm.Cond.code ({ cls := "EditsMeetModel", name := "redo", desc := "(I)I" } : Jvm.MethodName) prog_14_method_74_code (3 : Nat) (Option.some Jvm.ClassFile.FieldType.int)) ∈ xTs := xT_10 27 (by rfl) rfl
theorem w_2300 : (Jvm.Cond.methodLink "EditsMeetLaw" (134 : Nat) ({ cls := "EditsMeetModel", name := "point", desc := "(III)I" } : Jvm.MethodName)) ∈ xTs := xT_10 28 (by rfl) rfl
theorem w_2301 : (Jvm.Cond.instanceMethod ({ cls := "EditsMeetModel", name := "point", desc := "(III)I" } : Jvm.MethodName)) ∈ xTs := xT_10 29 (by rfl) rfl
theorem w_2302 : (Jvm.Cond.selects "EditsMeetModel" ({ cls := "EditsMeetModel", name := "point", desc := "(III)I" } : Jvm.MethodName) ({ cls := "EditsMeetModel", name := "point", desc := "(III)I" } : Jvm.MethodName)) ∈ xTs := xT_10 30 (by rfl) rfl
theorem w_2303 : (Jvm.Cond.code ({ cls := "EditsMeetModel", name := "point", desc := "(III)I" } : Jvm.MethodName) prog_14_method_75_code (4 : Nat) (Option.some Jvm.ClassFile.FieldType.int)) ∈ xTs := xT_10 31 (by rfl) rfl
theorem w_2304 : (Jvm.Cond.methodLink "EditsMeetLaw" (138 : Nat) ({ cls := "EditsMeetModel", name := "cursor", desc := "(II)I" } : Jvm.MethodName)) ∈ xTs := xT_10 32 (by rfl) rfl
theorem w_2305 : (Jvm.Cond.instanceMethod ({ cls := "EditsMeetModel", name := "cursor", desc := "(II)I" } : Jvm.MethodName)) ∈ xTs := xT_10 33 (by rfl) rfl
theorem w_2306 : (Jvm.Cond.selects "EditsMeetModel" ({ cls := "EditsMeetModel", name := "cursor", desc := "(II)I" } : Jvm.MethodName) ({ cls := "EditsMeetModel", name := "cursor", desc := "(II)I" } : Jvm.MethodName)) ∈ xTs := xT_10 34 (by rfl) rfl
theorem w_2307 : (Jvm.Cond.code ({ cls := "EditsMeetModel", name := "cursor", desc := "(II)I" } : Jvm.MethodName) prog_14_method_76_code (3 : Nat) (Option.some Jvm.ClassFile.FieldType.int)) ∈ xTs := xT_10 35 (by rfl) rfl
theorem w_2308 : (Jvm.Cond.methodLink "EditsMeetLaw" (142 : Nat) ({ cls := "EditsMeetModel", name := "clientOf", desc := "(II)I" } : Jvm.MethodName)) ∈ xTs := xT_10 36 (by rfl) rfl
theorem w_2309 : (Jvm.Cond.instanceMethod ({ cls := "EditsMeetModel", name := "clientOf", desc := "(II)I" } : Jvm.MethodName)) ∈ xTs := xT_10 37 (by rfl) rfl
theorem w_2310 : (Jvm.Cond.selects "EditsMeetModel" ({ cls := "EditsMeetModel", name := "clientOf", desc := "(II)I" } : Jvm.MethodName) ({ cls := "EditsMeetModel", name := "clientOf", desc := "(II)I" } : Jvm.MethodName)) ∈ xTs := xT_10 38 (by rfl) rfl
theorem w_2311 : (Jvm.Cond.code ({ cls := "EditsMeetModel", name := "clientOf", desc := "(II)I" } : Jvm.MethodName) prog_14_method_77_code (3 : Nat) (Option.some Jvm.ClassFile.FieldType.int)) ∈ xTs := xT_10 39 (by rfl) rfl
theorem w_2312 : (Jvm.Cond.constantLong "EditsMeetModel" (315 : Nat) (6 : Int64)) ∈ xTs := xT_10 40 (by rfl) rfl
theorem w_2313 : (Jvm.Cond.methodLink "EditsMeetLaw" (146 : Nat) ({ cls := "EditsMeetModel", name := "takes", desc := "(III)I" } : Jvm.MethodName)) ∈ xTs := xT_10 41 (by rfl) rfl
theorem w_2314 : (Jvm.Cond.instanceMethod ({ cls := "EditsMeetModel", name := "takes", desc := "(III)I" } : Jvm.MethodName)) ∈ xTs := xT_10 42 (by rfl) rfl
theorem w_2315 : (Jvm.Cond.selects "EditsMeetModel" ({ cls := "EditsMeetModel", name := "takes", desc := "(III)I" } : Jvm.MethodName) ({ cls := "EditsMeetModel", name := "takes", desc := "(III)I" } : Jvm.MethodName)) ∈ xTs := xT_10 43 (by rfl) rfl
theorem w_2316 : (Jvm.Cond.code ({ cls := "EditsMeetModel", name := "takes", desc := "(III)I" } : Jvm.MethodName) prog_14_method_78_code (6 : Nat) (Option.some Jvm.ClassFile.FieldType.int)) ∈ xTs := xT_10 44 (by rfl) rfl
theorem w_2317 : (Jvm.Cond.methodLink "EditsMeetLaw" (150 : Nat) ({ cls := "EditsMeetModel", name := "revision", desc := "(II)I" } : Jvm.MethodName)) ∈ xTs := xT_10 45 (by rfl) rfl
theorem w_2318 : (Jvm.Cond.instanceMethod ({ cls := "EditsMeetModel", name := "revision", desc := "(II)I" } : Jvm.MethodName)) ∈ xTs := xT_10 46 (by rfl) rfl
theorem w_2319 : (Jvm.Cond.selects "EditsMeetModel" ({ cls := "EditsMeetModel", name := "revision", desc := "(II)I" } : Jvm.MethodName) ({ cls := "EditsMeetModel", name := "revision", desc := "(II)I" } : Jvm.MethodName)) ∈ xTs := xT_10 47 (by rfl) rfl
theorem w_2320 : (Jvm.Cond.code ({ cls := "EditsMeetModel", name := "revision", desc := "(II)I" } : Jvm.MethodName) prog_14_method_79_code (4 : Nat) (Option.some Jvm.ClassFile.FieldType.int)) ∈ xTs := xT_10 48 (by rfl) rfl
theorem w_2321 : (Jvm.Cond.methodLink "EditsMeetLaw" (154 : Nat) ({ cls := "EditsMeetModel", name := "length", desc := "(I)I" } : Jvm.MethodName)) ∈ xTs := xT_10 49 (by rfl) rfl
theorem w_2322 : (Jvm.Cond.instanceMethod ({ cls := "EditsMeetModel", name := "length", desc := "(I)I" } : Jvm.MethodName)) ∈ xTs := xT_10 50 (by rfl) rfl
theorem w_2323 : (Jvm.Cond.selects "EditsMeetModel" ({ cls := "EditsMeetModel", name := "length", desc := "(I)I" } : Jvm.MethodName) ({ cls := "EditsMeetModel", name := "length", desc := "(I)I" } : Jvm.MethodName)) ∈ xTs := xT_10 51 (by rfl) rfl
theorem w_2324 : (Jvm.Cond.code ({ cls := "EditsMeetModel", name := "length", desc := "(I)I" } : Jvm.MethodName) prog_14_method_81_code (2 : Nat) (Option.some Jvm.ClassFile.FieldType.int)) ∈ xTs := xT_10 52 (by rfl) rfl
theorem w_2325 : (Jvm.Cond.methodLink "EditsMeetModel" (319 : Nat) ({ cls := "EditsMeetModel", name := "isText", desc := "(I)Z" } : Jvm.MethodName)) ∈ xTs := xT_10 53 (by rfl) rfl
theorem w_2326 : (Jvm.Cond.static ({ cls := "EditsMeetModel", name := "isText", desc := "(I)Z" } : Jvm.MethodName)) ∈ xTs := xT_10 54 (by rfl) rfl
theorem w_2327 : (Jvm.Cond.code ({ cls := "EditsMeetModel", name := "isText", desc := "(I)Z" } : Jvm.MethodName) prog_14_method_80_code (1 : Nat) (Option.some Jvm.ClassFile.FieldType.boolean)) ∈ xTs := xT_10 55 (by rfl) rfl
theorem w_2328 : (Jvm.Cond.constantLong "EditsMeetModel" (317 : Nat) (4 : Int64)) ∈ xTs := xT_10 56 (by rfl) rfl
theorem w_2329 : (Jvm.Cond.methodLink "EditsMeetLaw" (158 : Nat) ({ cls := "EditsMeetModel", name := "text", desc := "(III)I" } : Jvm.MethodName)) ∈ xTs := xT_10 57 (by rfl) rfl
theorem w_2330 : (Jvm.Cond.instanceMethod ({ cls := "EditsMeetModel", name := "text", desc := "(III)I" } : Jvm.MethodName)) ∈ xTs := xT_10 58 (by rfl) rfl
theorem w_2331 : (Jvm.Cond.selects "EditsMeetModel" ({ cls := "EditsMeetModel", name := "text", desc := "(III)I" } : Jvm.MethodName) ({ cls := "EditsMeetModel", name := "text", desc := "(III)I" } : Jvm.MethodName)) ∈ xTs := xT_10 59 (by rfl) rfl
theorem w_2332 : (Jvm.Cond.code ({ cls := "EditsMeetModel", name := "text", desc := "(III)I" } : Jvm.MethodName) prog_14_method_82_code (5 : Nat) (Option.some Jvm.ClassFile.FieldType.int)) ∈ xTs := xT_10 60 (by rfl) rfl
theorem w_2333 : (Jvm.Cond.methodLink "EditsMeetLaw" (162 : Nat) ({ cls := "EditsMeetModel", name := "apart", desc := "(II)I" } : Jvm.MethodName)) ∈ xTs := xT_10 61 (by rfl) rfl
theorem w_2334 : (Jvm.Cond.instanceMethod ({ cls := "EditsMeetModel", name := "apart", desc := "(II)I" } : Jvm.MethodName)) ∈ xTs := xT_10 62 (by rfl) rfl
theorem w_2335 : (Jvm.Cond.selects "EditsMeetModel" ({ cls := "EditsMeetModel", name := "apart", desc := "(II)I" } : Jvm.MethodName) ({ cls := "EditsMeetModel", name := "apart", desc := "(II)I" } : Jvm.MethodName)) ∈ xTs := xT_10 63 (by rfl) rfl
theorem w_2336 : (Jvm.Cond.code ({ cls := "EditsMeetModel", name := "apart", desc := "(II)I" } : Jvm.MethodName) prog_14_method_84_code (3 : Nat) (Option.some Jvm.ClassFile.FieldType.int)) ∈ xTs := xT_10 64 (by rfl) rfl
theorem w_2337 : (Jvm.Cond.methodLink "EditsMeetModel" (322 : Nat) ({ cls := "EditsMeetModel", name := "firstApart", desc := "(II)I" } : Jvm.MethodName)) ∈ xTs := xT_10 65 (by rfl) rfl
theorem w_2339 : (Jvm.Cond.instanceMethod ({ cls := "EditsMeetModel", name := "firstApart", desc := "(II)I" } : Jvm.MethodName)) ∈ xTs := xT_10 67 (by rfl) rfl
theorem w_2340 : (Jvm.Cond.code ({ cls := "EditsMeetModel", name := "firstApart", desc := "(II)I" } : Jvm.MethodName) prog_14_method_83_code (4 : Nat) (Option.some Jvm.ClassFile.FieldType.int)) ∈ xTs := xT_10 68 (by rfl) rfl
theorem w_2341 : (Jvm.Cond.methodLink "EditsMeetLaw" (166 : Nat) ({ cls := "EditsMeetModel", name := "marked", desc := "(II)I" } : Jvm.MethodName)) ∈ xTs := xT_10 69 (by rfl) rfl
theorem w_2342 : (Jvm.Cond.instanceMethod ({ cls := "EditsMeetModel", name := "marked", desc := "(II)I" } : Jvm.MethodName)) ∈ xTs := xT_10 70 (by rfl) rfl
theorem w_2343 : (Jvm.Cond.selects "EditsMeetModel" ({ cls := "EditsMeetModel", name := "marked", desc := "(II)I" } : Jvm.MethodName) ({ cls := "EditsMeetModel", name := "marked", desc := "(II)I" } : Jvm.MethodName)) ∈ xTs := xT_10 71 (by rfl) rfl
theorem w_2344 : (Jvm.Cond.code ({ cls := "EditsMeetModel", name := "marked", desc := "(II)I" } : Jvm.MethodName) prog_14_method_85_code (7 : Nat) (Option.some Jvm.ClassFile.FieldType.int)) ∈ xTs := xT_10 72 (by rfl) rfl
theorem w_2345 : (Jvm.Cond.methodLink "EditsMeetLaw" (17 : Nat) ({ cls := "EditsMeetModel", name := "row", desc := "(III)I" } : Jvm.MethodName)) ∈ xTs := xT_10 73 (by rfl) rfl
theorem w_2346 : (Jvm.Cond.instanceMethod ({ cls := "EditsMeetModel", name := "row", desc := "(III)I" } : Jvm.MethodName)) ∈ xTs := xT_10 74 (by rfl) rfl
theorem w_2347 : (Jvm.Cond.selects "EditsMeetModel" ({ cls := "EditsMeetModel", name := "row", desc := "(III)I" } : Jvm.MethodName) ({ cls := "EditsMeetModel", name := "row", desc := "(III)I" } : Jvm.MethodName)) ∈ xTs := xT_10 75 (by rfl) rfl
theorem w_2348 : (Jvm.Cond.code ({ cls := "EditsMeetModel", name := "row", desc := "(III)I" } : Jvm.MethodName) prog_14_method_87_code (5 : Nat) (Option.some Jvm.ClassFile.FieldType.int)) ∈ xTs := xT_10 76 (by rfl) rfl
theorem w_2349 : (Jvm.Cond.methodLink "EditsMeetModel" (327 : Nat) ({ cls := "EditsMeetModel", name := "isShelf", desc := "(I)Z" } : Jvm.MethodName)) ∈ xTs := xT_10 77 (by rfl) rfl
theorem w_2350 : (Jvm.Cond.static ({ cls := "EditsMeetModel", name := "isShelf", desc := "(I)Z" } : Jvm.MethodName)) ∈ xTs := xT_10 78 (by rfl) rfl
theorem w_2351 : (Jvm.Cond.code ({ cls := "EditsMeetModel", name := "isShelf", desc := "(I)Z" } : Jvm.MethodName) prog_14_method_86_code (1 : Nat) (Option.some Jvm.ClassFile.FieldType.boolean)) ∈ xTs := xT_10 79 (by rfl) rfl
theorem w_2352 : (Jvm.Cond.constantLong "EditsMeetModel" (325 : Nat) (7 : Int64)) ∈ xTs := xT_10 80 (by rfl) rfl
theorem w_2353 : (Jvm.Cond.constantLong "EditsMeetModel" (330 : Nat) (40 : Int64)) ∈ xTs := xT_10 81 (by rfl) rfl
theorem w_2354 : (Jvm.Cond.methodLink "EditsMeetLaw" (24 : Nat) ({ cls := "EditsMeetModel", name := "set", desc := "(IIJ)I" } : Jvm.MethodName)) ∈ xTs := xT_10 82 (by rfl) rfl
theorem w_2355 : (Jvm.Cond.instanceMethod ({ cls := "EditsMeetModel", name := "set", desc := "(IIJ)I" } : Jvm.MethodName)) ∈ xTs := xT_10 83 (by rfl) rfl
theorem w_2356 : (Jvm.Cond.selects "EditsMeetModel" ({ cls := "EditsMeetModel", name := "set", desc := "(IIJ)I" } : Jvm.MethodName) ({ cls := "EditsMeetModel", name := "set", desc := "(IIJ)I" } : Jvm.MethodName)) ∈ xTs := xT_10 84 (by rfl) rfl
theorem w_2357 : (Jvm.Cond.code ({ cls := "EditsMeetModel", name := "set", desc := "(IIJ)I" } : Jvm.MethodName) prog_14_method_89_code (5 : Nat) (Option.some Jvm.ClassFile.FieldType.int)) ∈ xTs := xT_10 85 (by rfl) rfl
theorem w_2361 : (Jvm.Cond.methodLink "EditsMeetLaw" (29 : Nat) ({ cls := "EditsMeetModel", name := "copy", desc := "(IIIII)I" } : Jvm.MethodName)) ∈ xTs := xT_10 89 (by rfl) rfl
theorem w_2362 : (Jvm.Cond.instanceMethod ({ cls := "EditsMeetModel", name := "copy", desc := "(IIIII)I" } : Jvm.MethodName)) ∈ xTs := xT_10 90 (by rfl) rfl
theorem w_2363 : (Jvm.Cond.selects "EditsMeetModel" ({ cls := "EditsMeetModel", name := "copy", desc := "(IIIII)I" } : Jvm.MethodName) ({ cls := "EditsMeetModel", name := "copy", desc := "(IIIII)I" } : Jvm.MethodName)) ∈ xTs := xT_10 91 (by rfl) rfl
theorem w_2364 : (Jvm.Cond.code ({ cls := "EditsMeetModel", name := "copy", desc := "(IIIII)I" } : Jvm.MethodName) prog_14_method_90_code (8 : Nat) (Option.some Jvm.ClassFile.FieldType.int)) ∈ xTs := xT_10 92 (by rfl) rfl
theorem w_2365 : (Jvm.Cond.methodLink "EditsMeetLaw" (34 : Nat) ({ cls := "EditsMeetModel", name := "element", desc := "(II)J" } : Jvm.MethodName)) ∈ xTs := xT_10 93 (by rfl) rfl
theorem w_2366 : (Jvm.Cond.instanceMethod ({ cls := "EditsMeetModel", name := "element", desc := "(II)J" } : Jvm.MethodName)) ∈ xTs := xT_10 94 (by rfl) rfl
theorem w_2367 : (Jvm.Cond.selects "EditsMeetModel" ({ cls := "EditsMeetModel", name := "element", desc := "(II)J" } : Jvm.MethodName) ({ cls := "EditsMeetModel", name := "element", desc := "(II)J" } : Jvm.MethodName)) ∈ xTs := xT_10 95 (by rfl) rfl
theorem w_2368 : (Jvm.Cond.code ({ cls := "EditsMeetModel", name := "element", desc := "(II)J" } : Jvm.MethodName) prog_14_method_91_code (3 : Nat) (Option.some Jvm.ClassFile.FieldType.long)) ∈ xTs := xT_10 96 (by rfl) rfl
theorem w_2369 : (Jvm.Cond.methodLink "EditsMeetLaw" (39 : Nat) ({ cls := "EditsMeetModel", name := "holds", desc := "(I)I" } : Jvm.MethodName)) ∈ xTs := xT_10 97 (by rfl) rfl
theorem w_2370 : (Jvm.Cond.instanceMethod ({ cls := "EditsMeetModel", name := "holds", desc := "(I)I" } : Jvm.MethodName)) ∈ xTs := xT_10 98 (by rfl) rfl
theorem w_2371 : (Jvm.Cond.selects "EditsMeetModel" ({ cls := "EditsMeetModel", name := "holds", desc := "(I)I" } : Jvm.MethodName) ({ cls := "EditsMeetModel", name := "holds", desc := "(I)I" } : Jvm.MethodName)) ∈ xTs := xT_10 99 (by rfl) rfl
theorem w_2372 : (Jvm.Cond.code ({ cls := "EditsMeetModel", name := "holds", desc := "(I)I" } : Jvm.MethodName) prog_14_method_92_code (2 : Nat) (Option.some Jvm.ClassFile.FieldType.int)) ∈ xTs := xT_10 100 (by rfl) rfl
theorem w_2373 : (Jvm.Cond.methodLink "EditsMeetLaw" (43 : Nat) ({ cls := "EditsMeetModel", name := "show", desc := "(III)I" } : Jvm.MethodName)) ∈ xTs := xT_10 101 (by rfl) rfl
theorem w_2374 : (Jvm.Cond.instanceMethod ({ cls := "EditsMeetModel", name := "show", desc := "(III)I" } : Jvm.MethodName)) ∈ xTs := xT_10 102 (by rfl) rfl
theorem w_2375 : (Jvm.Cond.selects "EditsMeetModel" ({ cls := "EditsMeetModel", name := "show", desc := "(III)I" } : Jvm.MethodName) ({ cls := "EditsMeetModel", name := "show", desc := "(III)I" } : Jvm.MethodName)) ∈ xTs := xT_10 103 (by rfl) rfl
theorem w_2376 : (Jvm.Cond.code ({ cls := "EditsMeetModel", name := "show", desc := "(III)I" } : Jvm.MethodName) prog_14_method_93_code (5 : Nat) (Option.some Jvm.ClassFile.FieldType.int)) ∈ xTs := xT_10 104 (by rfl) rfl
theorem w_2377 : (Jvm.Cond.methodLink "EditsMeetLaw" (48 : Nat) ({ cls := "EditsMeetModel", name := "says", desc := "(II)I" } : Jvm.MethodName)) ∈ xTs := xT_10 105 (by rfl) rfl
theorem w_2378 : (Jvm.Cond.instanceMethod ({ cls := "EditsMeetModel", name := "says", desc := "(II)I" } : Jvm.MethodName)) ∈ xTs := xT_10 106 (by rfl) rfl
theorem w_2379 : (Jvm.Cond.selects "EditsMeetModel" ({ cls := "EditsMeetModel", name := "says", desc := "(II)I" } : Jvm.MethodName) ({ cls := "EditsMeetModel", name := "says", desc := "(II)I" } : Jvm.MethodName)) ∈ xTs := xT_10 107 (by rfl) rfl
theorem w_2380 : (Jvm.Cond.code ({ cls := "EditsMeetModel", name := "says", desc := "(II)I" } : Jvm.MethodName) prog_14_method_95_code (4 : Nat) (Option.some Jvm.ClassFile.FieldType.int)) ∈ xTs := xT_10 108 (by rfl) rfl
theorem w_2385 : (Jvm.Cond.methodLink "EditsMeetLaw" (170 : Nat) ({ cls := "EditsMeetModel", name := "judge", desc := "(III)I" } : Jvm.MethodName)) ∈ xTs := xT_10 113 (by rfl) rfl
theorem w_2386 : (Jvm.Cond.instanceMethod ({ cls := "EditsMeetModel", name := "judge", desc := "(III)I" } : Jvm.MethodName)) ∈ xTs := xT_10 114 (by rfl) rfl
theorem w_2387 : (Jvm.Cond.selects "EditsMeetModel" ({ cls := "EditsMeetModel", name := "judge", desc := "(III)I" } : Jvm.MethodName) ({ cls := "EditsMeetModel", name := "judge", desc := "(III)I" } : Jvm.MethodName)) ∈ xTs := xT_10 115 (by rfl) rfl
theorem w_2388 : (Jvm.Cond.code ({ cls := "EditsMeetModel", name := "judge", desc := "(III)I" } : Jvm.MethodName) prog_14_method_96_code (6 : Nat) (Option.some Jvm.ClassFile.FieldType.int)) ∈ xTs := xT_10 116 (by rfl) rfl
theorem w_2389 : (Jvm.Cond.constantLong "EditsMeetModel" (344 : Nat) (20 : Int64)) ∈ xTs := xT_10 117 (by rfl) rfl
theorem w_2390 : (Jvm.Cond.methodLink "EditsMeetLaw" (174 : Nat) ({ cls := "EditsMeetModel", name := "days", desc := "(I)I" } : Jvm.MethodName)) ∈ xTs := xT_10 118 (by rfl) rfl
theorem w_2391 : (Jvm.Cond.instanceMethod ({ cls := "EditsMeetModel", name := "days", desc := "(I)I" } : Jvm.MethodName)) ∈ xTs := xT_10 119 (by rfl) rfl
theorem w_2392 : (Jvm.Cond.selects "EditsMeetModel" ({ cls := "EditsMeetModel", name := "days", desc := "(I)I" } : Jvm.MethodName) ({ cls := "EditsMeetModel", name := "days", desc := "(I)I" } : Jvm.MethodName)) ∈ xTs := xT_10 120 (by rfl) rfl
theorem w_2393 : (Jvm.Cond.code ({ cls := "EditsMeetModel", name := "days", desc := "(I)I" } : Jvm.MethodName) prog_14_method_99_code (5 : Nat) (Option.some Jvm.ClassFile.FieldType.int)) ∈ xTs := xT_10 121 (by rfl) rfl
theorem w_2394 : (Jvm.Cond.constantLong "EditsMeetModel" (350 : Nat) (60 : Int64)) ∈ xTs := xT_10 122 (by rfl) rfl
theorem w_2395 : (Jvm.Cond.methodLink "EditsMeetModel" (347 : Nat) ({ cls := "EditsMeetModel", name := "draw", desc := "(I)I" } : Jvm.MethodName)) ∈ xTs := xT_10 123 (by rfl) rfl
theorem w_2397 : (Jvm.Cond.instanceMethod ({ cls := "EditsMeetModel", name := "draw", desc := "(I)I" } : Jvm.MethodName)) ∈ xTs := xT_10 125 (by rfl) rfl
theorem w_2398 : (Jvm.Cond.code ({ cls := "EditsMeetModel", name := "draw", desc := "(I)I" } : Jvm.MethodName) prog_14_method_97_code (2 : Nat) (Option.some Jvm.ClassFile.FieldType.int)) ∈ xTs := xT_10 126 (by rfl) rfl
theorem w_2399 : (Jvm.Cond.constant "EditsMeetModel" (346 : Nat) (1103515245 : Int32)) ∈ xTs := xT_10 127 (by rfl) rfl
theorem w_2400 : (Jvm.Cond.methodLink "EditsMeetModel" (352 : Nat) ({ cls := "EditsMeetModel", name := "isDay", desc := "(II)Z" } : Jvm.MethodName)) ∈ xTs := xT_10 128 (by rfl) rfl
theorem w_2402 : (Jvm.Cond.instanceMethod ({ cls := "EditsMeetModel", name := "isDay", desc := "(II)Z" } : Jvm.MethodName)) ∈ xTs := xT_10 130 (by rfl) rfl
theorem w_2403 : (Jvm.Cond.code ({ cls := "EditsMeetModel", name := "isDay", desc := "(II)Z" } : Jvm.MethodName) prog_14_method_98_code (6 : Nat) (Option.some Jvm.ClassFile.FieldType.boolean)) ∈ xTs := xT_10 131 (by rfl) rfl
theorem w_2404 : (Jvm.Cond.methodLink "EditsMeetLaw" (178 : Nat) ({ cls := "EditsMeetModel", name := "seed", desc := "(I)I" } : Jvm.MethodName)) ∈ xTs := xT_10 132 (by rfl) rfl
theorem w_2405 : (Jvm.Cond.instanceMethod ({ cls := "EditsMeetModel", name := "seed", desc := "(I)I" } : Jvm.MethodName)) ∈ xTs := xT_10 133 (by rfl) rfl
theorem w_2406 : (Jvm.Cond.selects "EditsMeetModel" ({ cls := "EditsMeetModel", name := "seed", desc := "(I)I" } : Jvm.MethodName) ({ cls := "EditsMeetModel", name := "seed", desc := "(I)I" } : Jvm.MethodName)) ∈ xTs := xT_10 134 (by rfl) rfl
theorem w_2407 : (Jvm.Cond.code ({ cls := "EditsMeetModel", name := "seed", desc := "(I)I" } : Jvm.MethodName) prog_14_method_100_code (3 : Nat) (Option.some Jvm.ClassFile.FieldType.int)) ∈ xTs := xT_10 135 (by rfl) rfl
theorem w_2408 : (Jvm.Cond.methodLink "EditsMeetLaw" (182 : Nat) ({ cls := "EditsMeetModel", name := "image", desc := "()I" } : Jvm.MethodName)) ∈ xTs := xT_10 136 (by rfl) rfl
theorem w_2409 : (Jvm.Cond.instanceMethod ({ cls := "EditsMeetModel", name := "image", desc := "()I" } : Jvm.MethodName)) ∈ xTs := xT_10 137 (by rfl) rfl
theorem w_2410 : (Jvm.Cond.selects "EditsMeetModel" ({ cls := "EditsMeetModel", name := "image", desc := "()I" } : Jvm.MethodName) ({ cls := "EditsMeetModel", name := "image", desc := "()I" } : Jvm.MethodName)) ∈ xTs := xT_10 138 (by rfl) rfl
theorem w_2411 : (Jvm.Cond.code ({ cls := "EditsMeetModel", name := "image", desc := "()I" } : Jvm.MethodName) prog_14_method_103_code (1 : Nat) (Option.some Jvm.ClassFile.FieldType.int)) ∈ xTs := xT_10 139 (by rfl) rfl
theorem w_2412 : (Jvm.Cond.methodLink "EditsMeetModel" (359 : Nat) ({ cls := "EditsMeetModel", name := "copiesRows", desc := "([[I[II[[I[I)V" } : Jvm.MethodName)) ∈ xTs := xT_10 140 (by rfl) rfl
theorem w_2413 : (Jvm.Cond.static ({ cls := "EditsMeetModel", name := "copiesRows", desc := "([[I[II[[I[I)V" } : Jvm.MethodName)) ∈ xTs := xT_10 141 (by rfl) rfl
theorem w_2414 : (Jvm.Cond.code ({ cls := "EditsMeetModel", name := "copiesRows", desc := "([[I[II[[I[I)V" } : Jvm.MethodName) prog_14_method_102_code (6 : Nat) (Option.none : Option Jvm.ClassFile.FieldType)) ∈ xTs := xT_10 142 (by rfl) rfl
theorem w_2415 : (Jvm.Cond.methodLink "EditsMeetModel" (355 : Nat) ({ cls := "EditsMeetModel", name := "copies", desc := "([I[II)V" } : Jvm.MethodName)) ∈ xTs := xT_10 143 (by rfl) rfl
theorem w_2416 : (Jvm.Cond.static ({ cls := "EditsMeetModel", name := "copies", desc := "([I[II)V" } : Jvm.MethodName)) ∈ xTs := xT_10 144 (by rfl) rfl
theorem w_2417 : (Jvm.Cond.code ({ cls := "EditsMeetModel", name := "copies", desc := "([I[II)V" } : Jvm.MethodName) prog_14_method_101_code (4 : Nat) (Option.none : Option Jvm.ClassFile.FieldType)) ∈ xTs := xT_10 145 (by rfl) rfl
theorem w_2418 : (Jvm.Cond.methodLink "EditsMeetLaw" (186 : Nat) ({ cls := "EditsMeetModel", name := "back", desc := "()I" } : Jvm.MethodName)) ∈ xTs := xT_10 146 (by rfl) rfl
theorem w_2419 : (Jvm.Cond.instanceMethod ({ cls := "EditsMeetModel", name := "back", desc := "()I" } : Jvm.MethodName)) ∈ xTs := xT_10 147 (by rfl) rfl
theorem w_2420 : (Jvm.Cond.selects "EditsMeetModel" ({ cls := "EditsMeetModel", name := "back", desc := "()I" } : Jvm.MethodName) ({ cls := "EditsMeetModel", name := "back", desc := "()I" } : Jvm.MethodName)) ∈ xTs := xT_10 148 (by rfl) rfl
theorem w_2421 : (Jvm.Cond.code ({ cls := "EditsMeetModel", name := "back", desc := "()I" } : Jvm.MethodName) prog_14_method_104_code (1 : Nat) (Option.some Jvm.ClassFile.FieldType.int)) ∈ xTs := xT_10 149 (by rfl) rfl
theorem w_2422 : (Jvm.Cond.methodLink "EditsMeetLaw" (190 : Nat) ({ cls := "EditsMeetModel", name := "status", desc := "(I)I" } : Jvm.MethodName)) ∈ xTs := xT_10 150 (by rfl) rfl
theorem w_2423 : (Jvm.Cond.instanceMethod ({ cls := "EditsMeetModel", name := "status", desc := "(I)I" } : Jvm.MethodName)) ∈ xTs := xT_10 151 (by rfl) rfl
theorem w_2424 : (Jvm.Cond.selects "EditsMeetModel" ({ cls := "EditsMeetModel", name := "status", desc := "(I)I" } : Jvm.MethodName) ({ cls := "EditsMeetModel", name := "status", desc := "(I)I" } : Jvm.MethodName)) ∈ xTs := xT_10 152 (by rfl) rfl
theorem w_2425 : (Jvm.Cond.code ({ cls := "EditsMeetModel", name := "status", desc := "(I)I" } : Jvm.MethodName) prog_14_method_105_code (4 : Nat) (Option.some Jvm.ClassFile.FieldType.int)) ∈ xTs := xT_10 153 (by rfl) rfl
theorem w_2426 : (Jvm.Cond.constantLong "EditsMeetModel" (367 : Nat) (12 : Int64)) ∈ xTs := xT_10 154 (by rfl) rfl
theorem w_2427 : (Jvm.Cond.constantLong "EditsMeetModel" (369 : Nat) (16 : Int64)) ∈ xTs := xT_10 155 (by rfl) rfl
theorem w_2428 : (Jvm.Cond.constantLong "EditsMeetLaw" (18 : Nat) (4294967295 : Int64)) ∈ xTs := xT_10 156 (by rfl) rfl
theorem w_2444 : (Jvm.Cond.selects "[Ljava/lang/Object;" ({ cls := "java/lang/Object", name := "getClass", desc := "()Ljava/lang/Class;" } : Jvm.MethodName) ({ cls := "java/lang/Object", name := "getClass", desc := "()Ljava/lang/Class;" } : Jvm.MethodName)) ∈ xTs := xT_10 172 (by rfl) rfl
