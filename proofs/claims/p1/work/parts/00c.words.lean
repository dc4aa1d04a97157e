def xTs : List Cond := lw_tbl.filter goodWord
theorem xTm {w : Cond} (i : Nat) (h : lw_tbl[i]? = some w) (g : goodWord w = true) : w ∈ xTs := List.mem_filter.mpr ⟨List.mem_of_getElem? h, g⟩
theorem xT_1 {w : Cond} (i : Nat) (h : tables_1_1[i]? = some w) (g : goodWord w = true) : w ∈ xTs := List.mem_filter.mpr ⟨List.mem_append_right _ (by have q := List.mem_of_getElem? h; exact List.mem_append_left _ q), g⟩
theorem xT_2 {w : Cond} (i : Nat) (h : tables_1_2[i]? = some w) (g : goodWord w = true) : w ∈ xTs := List.mem_filter.mpr ⟨List.mem_append_right _ (by have q := List.mem_of_getElem? h; exact List.mem_append_right _ (List.mem_append_left _ q)), g⟩
theorem xT_3 {w : Cond} (i : Nat) (h : tables_1_3[i]? = some w) (g : goodWord w = true) : w ∈ xTs := List.mem_filter.mpr ⟨List.mem_append_right _ (by have q := List.mem_of_getElem? h; exact List.mem_append_right _ (List.mem_append_right _ (List.mem_append_left _ q))), g⟩
theorem xT_4 {w : Cond} (i : Nat) (h : tables_1_4[i]? = some w) (g : goodWord w = true) : w ∈ xTs := List.mem_filter.mpr ⟨List.mem_append_right _ (by have q := List.mem_of_getElem? h; exact List.mem_append_right _ (List.mem_append_right _ (List.mem_append_right _ (List.mem_append_left _ q)))), g⟩
theorem xT_5 {w : Cond} (i : Nat) (h : tables_1_5[i]? = some w) (g : goodWord w = true) : w ∈ xTs := List.mem_filter.mpr ⟨List.mem_append_right _ (by have q := List.mem_of_getElem? h; exact List.mem_append_right _ (List.mem_append_right _ (List.mem_append_right _ (List.mem_append_right _ (List.mem_append_left _ q))))), g⟩
theorem xT_6 {w : Cond} (i : Nat) (h : tables_1_6[i]? = some w) (g : goodWord w = true) : w ∈ xTs := List.mem_filter.mpr ⟨List.mem_append_right _ (by have q := List.mem_of_getElem? h; exact List.mem_append_right _ (List.mem_append_right _ (List.mem_append_right _ (List.mem_append_right _ (List.mem_append_right _ (List.mem_append_left _ q)))))), g⟩
theorem xT_7 {w : Cond} (i : Nat) (h : tables_1_7[i]? = some w) (g : goodWord w = true) : w ∈ xTs := List.mem_filter.mpr ⟨List.mem_append_right _ (by have q := List.mem_of_getElem? h; exact List.mem_append_right _ (List.mem_append_right _ (List.mem_append_right _ (List.mem_append_right _ (List.mem_append_right _ (List.mem_append_right _ (List.mem_append_left _ q))))))), g⟩
theorem xT_8 {w : Cond} (i : Nat) (h : tables_1_8[i]? = some w) (g : goodWord w = true) : w ∈ xTs := List.mem_filter.mpr ⟨List.mem_append_right _ (by have q := List.mem_of_getElem? h; exact List.mem_append_right _ (List.mem_append_right _ (List.mem_append_right _ (List.mem_append_right _ (List.mem_append_right _ (List.mem_append_right _ (List.mem_append_right _ (List.mem_append_left _ q)))))))), g⟩
theorem xT_9 {w : Cond} (i : Nat) (h : tables_1_9[i]? = some w) (g : goodWord w = true) : w ∈ xTs := List.mem_filter.mpr ⟨List.mem_append_right _ (by have q := List.mem_of_getElem? h; exact List.mem_append_right _ (List.mem_append_right _ (List.mem_append_right _ (List.mem_append_right _ (List.mem_append_right _ (List.mem_append_right _ (List.mem_append_right _ (List.mem_append_right _ (List.mem_append_left _ q))))))))), g⟩
theorem xT_10 {w : Cond} (i : Nat) (h : tables_1_10[i]? = some w) (g : goodWord w = true) : w ∈ xTs := List.mem_filter.mpr ⟨List.mem_append_right _ (by have q := List.mem_of_getElem? h; exact List.mem_append_right _ (List.mem_append_right _ (List.mem_append_right _ (List.mem_append_right _ (List.mem_append_right _ (List.mem_append_right _ (List.mem_append_right _ (List.mem_append_right _ (List.mem_append_right _ (List.mem_append_left _ q)))))))))), g⟩
theorem xT_11 {w : Cond} (i : Nat) (h : tables_1_11[i]? = some w) (g : goodWord w = true) : w ∈ xTs := List.mem_filter.mpr ⟨List.mem_append_right _ (by have q := List.mem_of_getElem? h; exact List.mem_append_right _ (List.mem_append_right _ (List.mem_append_right _ (List.mem_append_right _ (List.mem_append_right _ (List.mem_append_right _ (List.mem_append_right _ (List.mem_append_right _ (List.mem_append_right _ (List.mem_append_right _ (q))))))))))), g⟩
theorem xT_0 {w : Cond} (i : Nat) (h : (k2_sels lw_privs)[i]? = some w) (g : goodWord w = true) : w ∈ xTs := List.mem_filter.mpr ⟨List.mem_append_left _ (List.mem_of_getElem? h), g⟩
theorem w_0 : Cond.selects "EditsMeet" ⟨"EditsMeet", "shelfAt", "(I)LEditsMeet$Shelf;"⟩ ⟨"EditsMeet", "shelfAt", "(I)LEditsMeet$Shelf;"⟩ ∈ xTs := xT_0 0 (by rfl) rfl
theorem w_1 : Cond.selects "EditsMeet" ⟨"EditsMeet", "refuse", "(I)I"⟩ ⟨"EditsMeet", "refuse", "(I)I"⟩ ∈ xTs := xT_0 1 (by rfl) rfl
theorem w_3 : Cond.selects "EditsMeet" ⟨"EditsMeet", "isEdit", "(I)Z"⟩ ⟨"EditsMeet", "isEdit", "(I)Z"⟩ ∈ xTs := xT_0 3 (by rfl) rfl
theorem w_4 : Cond.selects "EditsMeet" ⟨"EditsMeet", "fetched", "(I)I"⟩ ⟨"EditsMeet", "fetched", "(I)I"⟩ ∈ xTs := xT_0 4 (by rfl) rfl
theorem w_5 : Cond.selects "EditsMeet$Loom" ⟨"EditsMeet$Loom", "begin", "(III)I"⟩ ⟨"EditsMeet$Loom", "begin", "(III)I"⟩ ∈ xTs := xT_0 5 (by rfl) rfl
theorem w_6 : Cond.selects "EditsMeet$Works" ⟨"EditsMeet$Works", "spare", "()I"⟩ ⟨"EditsMeet$Works", "spare", "()I"⟩ ∈ xTs := xT_0 6 (by rfl) rfl
theorem w_13 : Cond.selects "EditsMeet$Trees" ⟨"EditsMeet$Trees", "knownAt", "(I)I"⟩ ⟨"EditsMeet$Trees", "knownAt", "(I)I"⟩ ∈ xTs := xT_0 13 (by rfl) rfl
theorem w_14 : Cond.selects "EditsMeet$Trees" ⟨"EditsMeet$Trees", "know", "(II)V"⟩ ⟨"EditsMeet$Trees", "know", "(II)V"⟩ ∈ xTs := xT_0 14 (by rfl) rfl
theorem w_15 : Cond.selects "EditsMeet$Loom" ⟨"EditsMeet$Loom", "beginTask", "(I)Z"⟩ ⟨"EditsMeet$Loom", "beginTask", "(I)Z"⟩ ∈ xTs := xT_0 15 (by rfl) rfl
theorem w_17 : Cond.selects "EditsMeet$Loom" ⟨"EditsMeet$Loom", "push", "(II)V"⟩ ⟨"EditsMeet$Loom", "push", "(II)V"⟩ ∈ xTs := xT_0 17 (by rfl) rfl
theorem w_33 : Cond.selects "EditsMeet$Seam" ⟨"EditsMeet$Seam", "putAhead", "(LEditsMeet$Edge;I)V"⟩ ⟨"EditsMeet$Seam", "putAhead", "(LEditsMeet$Edge;I)V"⟩ ∈ xTs := xT_0 33 (by rfl) rfl
theorem w_34 : Cond.selects "EditsMeet$Seam" ⟨"EditsMeet$Seam", "putBehind", "(LEditsMeet$Edge;I)V"⟩ ⟨"EditsMeet$Seam", "putBehind", "(LEditsMeet$Edge;I)V"⟩ ∈ xTs := xT_0 34 (by rfl) rfl
theorem w_35 : Cond.selects "EditsMeet$Trees" ⟨"EditsMeet$Trees", "made", "(JJJ)I"⟩ ⟨"EditsMeet$Trees", "made", "(JJJ)I"⟩ ∈ xTs := xT_0 35 (by rfl) rfl
theorem w_36 : Cond.selects "EditsMeet$Trees" ⟨"EditsMeet$Trees", "spare", "()I"⟩ ⟨"EditsMeet$Trees", "spare", "()I"⟩ ∈ xTs := xT_0 36 (by rfl) rfl
theorem w_37 : Cond.selects "EditsMeet$Trees" ⟨"EditsMeet$Trees", "putSize", "(IJJ)Z"⟩ ⟨"EditsMeet$Trees", "putSize", "(IJJ)Z"⟩ ∈ xTs := xT_0 37 (by rfl) rfl
theorem w_38 : Cond.selects "EditsMeet$Loom" ⟨"EditsMeet$Loom", "atOnce", "(III)I"⟩ ⟨"EditsMeet$Loom", "atOnce", "(III)I"⟩ ∈ xTs := xT_0 38 (by rfl) rfl
theorem w_39 : Cond.selects "EditsMeet$Loom" ⟨"EditsMeet$Loom", "remembered", "(II)I"⟩ ⟨"EditsMeet$Loom", "remembered", "(II)I"⟩ ∈ xTs := xT_0 39 (by rfl) rfl
theorem w_40 : Cond.selects "EditsMeet$Loom" ⟨"EditsMeet$Loom", "keyOf", "(II)J"⟩ ⟨"EditsMeet$Loom", "keyOf", "(II)J"⟩ ∈ xTs := xT_0 40 (by rfl) rfl
theorem w_41 : Cond.selects "EditsMeet$Loom" ⟨"EditsMeet$Loom", "leafByLeaf", "(III)I"⟩ ⟨"EditsMeet$Loom", "leafByLeaf", "(III)I"⟩ ∈ xTs := xT_0 41 (by rfl) rfl
theorem w_42 : Cond.selects "EditsMeet$Loom" ⟨"EditsMeet$Loom", "flatten", "(ILEditsMeet$Edge;)V"⟩ ⟨"EditsMeet$Loom", "flatten", "(ILEditsMeet$Edge;)V"⟩ ∈ xTs := xT_0 42 (by rfl) rfl
theorem w_43 : Cond.selects "EditsMeet$Loom" ⟨"EditsMeet$Loom", "remember", "(III)V"⟩ ⟨"EditsMeet$Loom", "remember", "(III)V"⟩ ∈ xTs := xT_0 43 (by rfl) rfl
theorem w_48 : Cond.selects "EditsMeet$Teller" ⟨"EditsMeet$Teller", "sum", "(I)J"⟩ ⟨"EditsMeet$Teller", "sum", "(I)J"⟩ ∈ xTs := xT_0 48 (by rfl) rfl
theorem w_49 : Cond.selects "EditsMeet$Teller" ⟨"EditsMeet$Teller", "atHand", "(I)J"⟩ ⟨"EditsMeet$Teller", "atHand", "(I)J"⟩ ∈ xTs := xT_0 49 (by rfl) rfl
theorem w_64 : Cond.selects "EditsMeet" ⟨"EditsMeet", "measured", "(I)I"⟩ ⟨"EditsMeet", "measured", "(I)I"⟩ ∈ xTs := xT_0 64 (by rfl) rfl
theorem w_72 : Cond.selects "EditsMeet$Client" ⟨"EditsMeet$Client", "drop", "(I)V"⟩ ⟨"EditsMeet$Client", "drop", "(I)V"⟩ ∈ xTs := xT_0 72 (by rfl) rfl
theorem w_73 : Cond.selects "EditsMeet$Client" ⟨"EditsMeet$Client", "putCount", "(II)V"⟩ ⟨"EditsMeet$Client", "putCount", "(II)V"⟩ ∈ xTs := xT_0 73 (by rfl) rfl
theorem w_74 : Cond.selects "EditsMeet$Client" ⟨"EditsMeet$Client", "keep", "(II)V"⟩ ⟨"EditsMeet$Client", "keep", "(II)V"⟩ ∈ xTs := xT_0 74 (by rfl) rfl
theorem w_75 : Cond.selects "EditsMeet" ⟨"EditsMeet", "hasNoRoom", "(LEditsMeet$Client;)Z"⟩ ⟨"EditsMeet", "hasNoRoom", "(LEditsMeet$Client;)Z"⟩ ∈ xTs := xT_0 75 (by rfl) rfl
theorem w_76 : Cond.selects "EditsMeet$Client" ⟨"EditsMeet$Client", "sendWaiting", "()V"⟩ ⟨"EditsMeet$Client", "sendWaiting", "()V"⟩ ∈ xTs := xT_0 76 (by rfl) rfl
theorem w_77 : Cond.selects "EditsMeet$Client" ⟨"EditsMeet$Client", "passedAt", "(I)I"⟩ ⟨"EditsMeet$Client", "passedAt", "(I)I"⟩ ∈ xTs := xT_0 77 (by rfl) rfl
theorem w_78 : Cond.selects "EditsMeet" ⟨"EditsMeet", "canBe", "(LEditsMeet$Client;I)Z"⟩ ⟨"EditsMeet", "canBe", "(LEditsMeet$Client;I)Z"⟩ ∈ xTs := xT_0 78 (by rfl) rfl
theorem w_79 : Cond.selects "EditsMeet" ⟨"EditsMeet", "draftByDraws", "(LEditsMeet$Client;I)V"⟩ ⟨"EditsMeet", "draftByDraws", "(LEditsMeet$Client;I)V"⟩ ∈ xTs := xT_0 79 (by rfl) rfl
theorem w_80 : Cond.selects "EditsMeet" ⟨"EditsMeet", "clientsAlike", "()I"⟩ ⟨"EditsMeet", "clientsAlike", "()I"⟩ ∈ xTs := xT_0 80 (by rfl) rfl
theorem w_81 : Cond.selects "EditsMeet" ⟨"EditsMeet", "editsByNumber", "()I"⟩ ⟨"EditsMeet", "editsByNumber", "()I"⟩ ∈ xTs := xT_0 81 (by rfl) rfl
theorem w_82 : Cond.selects "EditsMeet" ⟨"EditsMeet", "allLetters", "()J"⟩ ⟨"EditsMeet", "allLetters", "()J"⟩ ∈ xTs := xT_0 82 (by rfl) rfl
theorem w_83 : Cond.selects "EditsMeet" ⟨"EditsMeet", "shelvesInUse", "()I"⟩ ⟨"EditsMeet", "shelvesInUse", "()I"⟩ ∈ xTs := xT_0 83 (by rfl) rfl
theorem w_84 : Cond.selects "EditsMeetModel" ⟨"EditsMeetModel", "refused", "(I)I"⟩ ⟨"EditsMeetModel", "refused", "(I)I"⟩ ∈ xTs := xT_0 84 (by rfl) rfl
theorem w_85 : Cond.selects "EditsMeetModel" ⟨"EditsMeetModel", "isPart", "()Z"⟩ ⟨"EditsMeetModel", "isPart", "()Z"⟩ ∈ xTs := xT_0 85 (by rfl) rfl
theorem w_86 : Cond.selects "EditsMeetModel" ⟨"EditsMeetModel", "byteAt", "(I)I"⟩ ⟨"EditsMeetModel", "byteAt", "(I)I"⟩ ∈ xTs := xT_0 86 (by rfl) rfl
theorem w_87 : Cond.selects "EditsMeetModel" ⟨"EditsMeetModel", "adds", "(II)V"⟩ ⟨"EditsMeetModel", "adds", "(II)V"⟩ ∈ xTs := xT_0 87 (by rfl) rfl
theorem w_89 : Cond.selects "EditsMeetModel" ⟨"EditsMeetModel", "plain", "(I)V"⟩ ⟨"EditsMeetModel", "plain", "(I)V"⟩ ∈ xTs := xT_0 89 (by rfl) rfl
theorem w_91 : Cond.selects "EditsMeetModel" ⟨"EditsMeetModel", "keepsRow", "(II)V"⟩ ⟨"EditsMeetModel", "keepsRow", "(II)V"⟩ ∈ xTs := xT_0 91 (by rfl) rfl
theorem w_93 : Cond.selects "EditsMeetModel" ⟨"EditsMeetModel", "isKept", "(I)Z"⟩ ⟨"EditsMeetModel", "isKept", "(I)Z"⟩ ∈ xTs := xT_0 93 (by rfl) rfl
theorem w_101 : Cond.selects "EditsMeetModel" ⟨"EditsMeetModel", "takesRow", "(II)V"⟩ ⟨"EditsMeetModel", "takesRow", "(II)V"⟩ ∈ xTs := xT_0 101 (by rfl) rfl
theorem w_102 : Cond.selects "EditsMeetModel" ⟨"EditsMeetModel", "behindRow", "(III)V"⟩ ⟨"EditsMeetModel", "behindRow", "(III)V"⟩ ∈ xTs := xT_0 102 (by rfl) rfl
theorem w_103 : Cond.selects "EditsMeetModel" ⟨"EditsMeetModel", "together", "(III)V"⟩ ⟨"EditsMeetModel", "together", "(III)V"⟩ ∈ xTs := xT_0 103 (by rfl) rfl
theorem w_106 : Cond.selects "EditsMeetModel" ⟨"EditsMeetModel", "overRow", "(IIII)V"⟩ ⟨"EditsMeetModel", "overRow", "(IIII)V"⟩ ∈ xTs := xT_0 106 (by rfl) rfl
theorem w_107 : Cond.selects "EditsMeetModel" ⟨"EditsMeetModel", "overOne", "(IIII)V"⟩ ⟨"EditsMeetModel", "overOne", "(IIII)V"⟩ ∈ xTs := xT_0 107 (by rfl) rfl
theorem w_108 : Cond.selects "EditsMeetModel" ⟨"EditsMeetModel", "turnedRow", "(III)V"⟩ ⟨"EditsMeetModel", "turnedRow", "(III)V"⟩ ∈ xTs := xT_0 108 (by rfl) rfl
theorem w_109 : Cond.selects "EditsMeetModel" ⟨"EditsMeetModel", "isFull", "(II)Z"⟩ ⟨"EditsMeetModel", "isFull", "(II)Z"⟩ ∈ xTs := xT_0 109 (by rfl) rfl
theorem w_110 : Cond.selects "EditsMeetModel" ⟨"EditsMeetModel", "resultLength", "(I)I"⟩ ⟨"EditsMeetModel", "resultLength", "(I)I"⟩ ∈ xTs := xT_0 110 (by rfl) rfl
theorem w_111 : Cond.selects "EditsMeetModel" ⟨"EditsMeetModel", "done", "(IIZ)V"⟩ ⟨"EditsMeetModel", "done", "(IIZ)V"⟩ ∈ xTs := xT_0 111 (by rfl) rfl
theorem w_112 : Cond.selects "EditsMeetModel" ⟨"EditsMeetModel", "makes", "(II)V"⟩ ⟨"EditsMeetModel", "makes", "(II)V"⟩ ∈ xTs := xT_0 112 (by rfl) rfl
theorem w_113 : Cond.selects "EditsMeetModel" ⟨"EditsMeetModel", "cursorGoes", "(IIZ)V"⟩ ⟨"EditsMeetModel", "cursorGoes", "(IIZ)V"⟩ ∈ xTs := xT_0 113 (by rfl) rfl
theorem w_114 : Cond.selects "EditsMeetModel" ⟨"EditsMeetModel", "st", "(II)I"⟩ ⟨"EditsMeetModel", "st", "(II)I"⟩ ∈ xTs := xT_0 114 (by rfl) rfl
theorem w_115 : Cond.selects "EditsMeetModel" ⟨"EditsMeetModel", "goesAlong", "(IIZ)I"⟩ ⟨"EditsMeetModel", "goesAlong", "(IIZ)I"⟩ ∈ xTs := xT_0 115 (by rfl) rfl
theorem w_116 : Cond.selects "EditsMeetModel" ⟨"EditsMeetModel", "pushes", "(III)V"⟩ ⟨"EditsMeetModel", "pushes", "(III)V"⟩ ∈ xTs := xT_0 116 (by rfl) rfl
theorem w_117 : Cond.selects "EditsMeetModel" ⟨"EditsMeetModel", "copiesRow", "(II)V"⟩ ⟨"EditsMeetModel", "copiesRow", "(II)V"⟩ ∈ xTs := xT_0 117 (by rfl) rfl
theorem w_118 : Cond.selects "EditsMeetModel" ⟨"EditsMeetModel", "inserts", "(III)V"⟩ ⟨"EditsMeetModel", "inserts", "(III)V"⟩ ∈ xTs := xT_0 118 (by rfl) rfl
theorem w_119 : Cond.selects "EditsMeetModel" ⟨"EditsMeetModel", "isStretch", "(III)Z"⟩ ⟨"EditsMeetModel", "isStretch", "(III)Z"⟩ ∈ xTs := xT_0 119 (by rfl) rfl
theorem w_120 : Cond.selects "EditsMeetModel" ⟨"EditsMeetModel", "keepsAllBut", "(IIII)V"⟩ ⟨"EditsMeetModel", "keepsAllBut", "(IIII)V"⟩ ∈ xTs := xT_0 120 (by rfl) rfl
theorem w_121 : Cond.selects "EditsMeetModel" ⟨"EditsMeetModel", "serves", "(I)I"⟩ ⟨"EditsMeetModel", "serves", "(I)I"⟩ ∈ xTs := xT_0 121 (by rfl) rfl
theorem w_122 : Cond.selects "EditsMeetModel" ⟨"EditsMeetModel", "keepsWork", "(II)V"⟩ ⟨"EditsMeetModel", "keepsWork", "(II)V"⟩ ∈ xTs := xT_0 122 (by rfl) rfl
theorem w_123 : Cond.selects "EditsMeetModel" ⟨"EditsMeetModel", "hears", "(I)V"⟩ ⟨"EditsMeetModel", "hears", "(I)V"⟩ ∈ xTs := xT_0 123 (by rfl) rfl
theorem w_124 : Cond.selects "EditsMeetModel" ⟨"EditsMeetModel", "crosses", "(I)V"⟩ ⟨"EditsMeetModel", "crosses", "(I)V"⟩ ∈ xTs := xT_0 124 (by rfl) rfl
theorem w_125 : Cond.selects "EditsMeetModel" ⟨"EditsMeetModel", "hearAll", "()V"⟩ ⟨"EditsMeetModel", "hearAll", "()V"⟩ ∈ xTs := xT_0 125 (by rfl) rfl
theorem w_126 : Cond.selects "EditsMeetModel" ⟨"EditsMeetModel", "isAnySent", "()Z"⟩ ⟨"EditsMeetModel", "isAnySent", "()Z"⟩ ∈ xTs := xT_0 126 (by rfl) rfl
theorem w_127 : Cond.selects "EditsMeetModel" ⟨"EditsMeetModel", "again", "(II)I"⟩ ⟨"EditsMeetModel", "again", "(II)I"⟩ ∈ xTs := xT_0 127 (by rfl) rfl
theorem w_128 : Cond.selects "EditsMeetModel" ⟨"EditsMeetModel", "firstApart", "(II)I"⟩ ⟨"EditsMeetModel", "firstApart", "(II)I"⟩ ∈ xTs := xT_0 128 (by rfl) rfl
theorem w_129 : Cond.selects "EditsMeetModel" ⟨"EditsMeetModel", "draw", "(I)I"⟩ ⟨"EditsMeetModel", "draw", "(I)I"⟩ ∈ xTs := xT_0 129 (by rfl) rfl
theorem w_130 : Cond.selects "EditsMeetModel" ⟨"EditsMeetModel", "isDay", "(II)Z"⟩ ⟨"EditsMeetModel", "isDay", "(II)Z"⟩ ∈ xTs := xT_0 130 (by rfl) rfl
theorem w_132 : (Jvm.Cond.initialized "EditsMeet") ∈ xTs := xT_1 1 (by rfl) rfl
theorem w_133 : (Jvm.Cond.initialized "EditsMeet$Trees") ∈ xTs := xT_1 2 (by rfl) rfl
theorem w_134 : (Jvm.Cond.initialized "EditsMeet$Works") ∈ xTs := xT_1 3 (by rfl) rfl
theorem w_135 : (Jvm.Cond.initialized "EditsMeet$Reader") ∈ xTs := xT_1 4 (by rfl) rfl
theorem w_136 : (Jvm.Cond.initialized "EditsMeet$Edge") ∈ xTs := xT_1 5 (by rfl) rfl
theorem w_137 : (Jvm.Cond.initialized "EditsMeet$Teller") ∈ xTs := xT_1 6 (by rfl) rfl
theorem w_138 : (Jvm.Cond.initialized "EditsMeet$Loom") ∈ xTs := xT_1 7 (by rfl) rfl
theorem w_139 : (Jvm.Cond.initialized "EditsMeet$Seam") ∈ xTs := xT_1 8 (by rfl) rfl
theorem w_140 : (Jvm.Cond.initialized "EditsMeet$Tape") ∈ xTs := xT_1 9 (by rfl) rfl
theorem w_141 : (Jvm.Cond.initialized "EditsMeet$Client") ∈ xTs := xT_1 10 (by rfl) rfl
theorem w_142 : (Jvm.Cond.initialized "EditsMeet$Shelf") ∈ xTs := xT_1 11 (by rfl) rfl
theorem w_143 : (Jvm.Cond.initialized "EditsMeet$Meeting") ∈ xTs := xT_1 12 (by rfl) rfl
theorem w_144 : (Jvm.Cond.initialized "EditsMeetModel") ∈ xTs := xT_1 13 (by rfl) rfl
theorem w_145 : (Jvm.Cond.initialized "java/util/Arrays") ∈ xTs := xT_1 14 (by rfl) rfl
theorem w_147 : (Jvm.Cond.initialized "java/lang/Math") ∈ xTs := xT_1 16 (by rfl) rfl
theorem w_149 : (Jvm.Cond.classLink "EditsMeetLaw" (7 : Nat) "EditsMeet") ∈ xTs := xT_1 18 (by rfl) rfl
theorem w_150 : (Jvm.Cond.instantiable "EditsMeet" (14 : Nat)) ∈ xTs := xT_1 19 (by rfl) rfl
theorem w_151 : (Jvm.Cond.methodLink "EditsMeetLaw" (9 : Nat) ({ cls := "EditsMeet", name := "<init>", desc := "()V" } : Jvm.MethodName)) ∈ xTs := xT_1 20 (by rfl) rfl
theorem w_152 : (Jvm.Cond.instanceMethod ({ cls := "EditsMeet", name := "<init>", desc := "()V" } : Jvm.MethodName)) ∈ xTs := xT_1 21 (by rfl) rfl
theorem w_153 : (Jvm.Cond.code ({ cls := "EditsMeet", name := "<init>", desc := "()V" } : Jvm.MethodName) prog_1_method_1_code (3 : Nat) (Option.none : Option Jvm.ClassFile.FieldType)) ∈ xTs := xT_1 22 (by rfl) rfl
theorem w_154 : (Jvm.Cond.methodLink "EditsMeet" (1 : Nat) ({ cls := "java/lang/Object", name := "<init>", desc := "()V" } : Jvm.MethodName)) ∈ xTs := xT_1 23 (by rfl) rfl
theorem w_155 : (Jvm.Cond.instanceMethod ({ cls := "java/lang/Object", name := "<init>", desc := "()V" } : Jvm.MethodName)) ∈ xTs := xT_1 24 (by rfl) rfl
theorem w_156 : (Jvm.Cond.code ({ cls := "java/lang/Object", name := "<init>", desc := "()V" } : Jvm.MethodName) object_method_1_code (1 : Nat) (Option.none : Option Jvm.ClassFile.FieldType)) ∈ xTs := xT_1 25 (by rfl) rfl
theorem w_157 : (Jvm.Cond.classLink "EditsMeet" (7 : Nat) "EditsMeet$Trees") ∈ xTs := xT_1 26 (by rfl) rfl
theorem w_158 : (Jvm.Cond.instantiable "EditsMeet$Trees" (16 : Nat)) ∈ xTs := xT_1 27 (by rfl) rfl
theorem w_159 : (Jvm.Cond.methodLink "EditsMeet" (9 : Nat) ({ cls := "EditsMeet$Trees", name := "<init>", desc := "()V" } : Jvm.MethodName)) ∈ xTs := xT_1 28 (by rfl) rfl
theorem w_160 : (Jvm.Cond.instanceMethod ({ cls := "EditsMeet$Trees", name := "<init>", desc := "()V" } : Jvm.MethodName)) ∈ xTs := xT_1 29 (by rfl) rfl
theorem w_161 : (Jvm.Cond.code ({ cls := "EditsMeet$Trees", name := "<init>", desc := "()V" } : Jvm.MethodName) prog_11_method_1_code (6 : Nat) (Option.none : Option Jvm.ClassFile.FieldType)) ∈ xTs := xT_1 30 (by rfl) rfl
theorem w_162 : (Jvm.Cond.methodLink "EditsMeet$Trees" (5 : Nat) ({ cls := "java/lang/Object", name := "<init>", desc := "()V" } : Jvm.MethodName)) ∈ xTs := xT_1 31 (by rfl) rfl
theorem w_163 : (Jvm.Cond.constant "EditsMeet$Trees" (15 : Nat) (65536 : Int32)) ∈ xTs := xT_1 32 (by rfl) rfl
theorem w_164 : (Jvm.Cond.constant "EditsMeet$Trees" (19 : Nat) (1700000 : Int32)) ∈ xTs := xT_1 33 (by rfl) rfl
theorem w_165 : (Jvm.Cond.constant "EditsMeet$Trees" (33 : Nat) (850000 : Int32)) ∈ xTs := xT_1 34 (by rfl) rfl
theorem w_166 : (Jvm.Cond.constant "EditsMeet$Trees" (37 : Nat) (1200000 : Int32)) ∈ xTs := xT_1 35 (by rfl) rfl
theorem w_167 : (Jvm.Cond.constant "EditsMeet$Trees" (41 : Nat) (1698975 : Int32)) ∈ xTs := xT_1 36 (by rfl) rfl
theorem w_168 : (Jvm.Cond.constantLong "EditsMeet$Trees" (55 : Nat) (27021597764222976 : Int64)) ∈ xTs := xT_1 37 (by rfl) rfl
theorem w_169 : (Jvm.Cond.constantLong "EditsMeet$Trees" (57 : Nat) (6755399441055744 : Int64)) ∈ xTs := xT_1 38 (by rfl) rfl
theorem w_170 : (Jvm.Cond.constantLong "EditsMeet$Trees" (59 : Nat) (72057594037927936 : Int64)) ∈ xTs := xT_1 39 (by rfl) rfl
theorem w_171 : (Jvm.Cond.constantLong "EditsMeet$Trees" (61 : Nat) (4294967296 : Int64)) ∈ xTs := xT_1 40 (by rfl) rfl
theorem w_172 : (Jvm.Cond.fieldLink "EditsMeet$Trees" (11 : Nat) "EditsMeet$Trees" "trail" "[I") ∈ xTs := xT_1 41 (by rfl) rfl
theorem w_173 : (Jvm.Cond.fieldLink "EditsMeet$Trees" (16 : Nat) "EditsMeet$Trees" "few" "[I") ∈ xTs := xT_1 42 (by rfl) rfl
theorem w_174 : (Jvm.Cond.fieldLink "EditsMeet$Trees" (20 : Nat) "EditsMeet$Trees" "shapes" "[J") ∈ xTs := xT_1 43 (by rfl) rfl
theorem w_175 : (Jvm.Cond.fieldLink "EditsMeet$Trees" (24 : Nat) "EditsMeet$Trees" "sizes" "[J") ∈ xTs := xT_1 44 (by rfl) rfl
theorem w_176 : (Jvm.Cond.fieldLink "EditsMeet$Trees" (27 : Nat) "EditsMeet$Trees" "bigFrom" "[J") ∈ xTs := xT_1 45 (by rfl) rfl
theorem w_177 : (Jvm.Cond.fieldLink "EditsMeet$Trees" (30 : Nat) "EditsMeet$Trees" "bigTo" "[J") ∈ xTs := xT_1 46 (by rfl) rfl
theorem w_178 : (Jvm.Cond.fieldLink "EditsMeet$Trees" (34 : Nat) "EditsMeet$Trees" "known" "[J") ∈ xTs := xT_1 47 (by rfl) rfl
theorem w_179 : (Jvm.Cond.fieldLink "EditsMeet$Trees" (38 : Nat) "EditsMeet$Trees" "pool" "[J") ∈ xTs := xT_1 48 (by rfl) rfl
theorem w_183 : (Jvm.Cond.fieldLink "EditsMeet$Trees" (42 : Nat) "EditsMeet$Trees" "free" "I") ∈ xTs := xT_1 52 (by rfl) rfl
theorem w_184 : (Jvm.Cond.fieldLink "EditsMeet$Trees" (46 : Nat) "EditsMeet$Trees" "next" "I") ∈ xTs := xT_1 53 (by rfl) rfl
theorem w_186 : (Jvm.Cond.fieldLink "EditsMeet$Trees" (49 : Nat) "EditsMeet$Trees" "freeBig" "I") ∈ xTs := xT_1 55 (by rfl) rfl
theorem w_187 : (Jvm.Cond.fieldLink "EditsMeet$Trees" (52 : Nat) "EditsMeet$Trees" "used" "I") ∈ xTs := xT_1 56 (by rfl) rfl
theorem w_189 : (Jvm.Cond.fieldLink "EditsMeet$Trees" (169 : Nat) "EditsMeet$Trees" "tries" "I") ∈ xTs := xT_1 58 (by rfl) rfl
theorem w_195 : (Jvm.Cond.fieldLink "EditsMeet$Trees" (150 : Nat) "EditsMeet$Trees" "hasFailed" "Z") ∈ xTs := xT_1 64 (by rfl) rfl
theorem w_229 : (Jvm.Cond.arrayClass Jvm.ClassFile.FieldType.int) ∈ xTs := xT_1 98 (by rfl) rfl
theorem w_230 : (Jvm.Cond.arrayClass Jvm.ClassFile.FieldType.long) ∈ xTs := xT_1 99 (by rfl) rfl
theorem w_231 : (Jvm.Cond.classLink "EditsMeet" (16 : Nat) "EditsMeet$Works") ∈ xTs := xT_1 100 (by rfl) rfl
theorem w_232 : (Jvm.Cond.instantiable "EditsMeet$Works" (14 : Nat)) ∈ xTs := xT_1 101 (by rfl) rfl
theorem w_233 : (Jvm.Cond.methodLink "EditsMeet" (18 : Nat) ({ cls := "EditsMeet$Works", name := "<init>", desc := "(LEditsMeet$Trees;)V" } : Jvm.MethodName)) ∈ xTs := xT_1 102 (by rfl) rfl
theorem w_234 : (Jvm.Cond.instanceMethod ({ cls := "EditsMeet$Works", name := "<init>", desc := "(LEditsMeet$Trees;)V" } : Jvm.MethodName)) ∈ xTs := xT_1 103 (by rfl) rfl
theorem w_235 : (Jvm.Cond.code ({ cls := "EditsMeet$Works", name := "<init>", desc := "(LEditsMeet$Trees;)V" } : Jvm.MethodName) prog_12_method_1_code (2 : Nat) (Option.none : Option Jvm.ClassFile.FieldType)) ∈ xTs := xT_1 104 (by rfl) rfl
theorem w_236 : (Jvm.Cond.methodLink "EditsMeet$Works" (5 : Nat) ({ cls := "java/lang/Object", name := "<init>", desc := "()V" } : Jvm.MethodName)) ∈ xTs := xT_1 105 (by rfl) rfl
theorem w_237 : (Jvm.Cond.constant "EditsMeet$Works" (15 : Nat) (65536 : Int32)) ∈ xTs := xT_1 106 (by rfl) rfl
theorem w_241 : (Jvm.Cond.fieldLink "EditsMeet$Works" (45 : Nat) "EditsMeet$Works" "trees" "LEditsMeet$Trees;") ∈ xTs := xT_1 110 (by rfl) rfl
theorem w_242 : (Jvm.Cond.fieldLink "EditsMeet$Works" (11 : Nat) "EditsMeet$Works" "slots" "[I") ∈ xTs := xT_1 111 (by rfl) rfl
theorem w_243 : (Jvm.Cond.fieldLink "EditsMeet$Works" (49 : Nat) "EditsMeet$Works" "slotsTaken" "I") ∈ xTs := xT_1 112 (by rfl) rfl
theorem w_244 : (Jvm.Cond.fieldLink "EditsMeet$Works" (16 : Nat) "EditsMeet$Works" "nodes" "[I") ∈ xTs := xT_1 113 (by rfl) rfl
theorem w_246 : (Jvm.Cond.fieldLink "EditsMeet$Works" (19 : Nat) "EditsMeet$Works" "recipes" "[J") ∈ xTs := xT_1 115 (by rfl) rfl
theorem w_247 : (Jvm.Cond.fieldLink "EditsMeet$Works" (23 : Nat) "EditsMeet$Works" "from" "[J") ∈ xTs := xT_1 116 (by rfl) rfl
theorem w_248 : (Jvm.Cond.fieldLink "EditsMeet$Works" (26 : Nat) "EditsMeet$Works" "keys" "[J") ∈ xTs := xT_1 117 (by rfl) rfl
theorem w_249 : (Jvm.Cond.fieldLink "EditsMeet$Works" (29 : Nat) "EditsMeet$Works" "states" "[I") ∈ xTs := xT_1 118 (by rfl) rfl
theorem w_250 : (Jvm.Cond.fieldLink "EditsMeet$Works" (32 : Nat) "EditsMeet$Works" "marks" "[I") ∈ xTs := xT_1 119 (by rfl) rfl
theorem w_251 : (Jvm.Cond.fieldLink "EditsMeet$Works" (35 : Nat) "EditsMeet$Works" "usedAt" "[I") ∈ xTs := xT_1 120 (by rfl) rfl
theorem w_253 : (Jvm.Cond.fieldLink "EditsMeet$Works" (38 : Nat) "EditsMeet$Works" "trail" "[I") ∈ xTs := xT_1 122 (by rfl) rfl
theorem w_254 : (Jvm.Cond.fieldLink "EditsMeet$Works" (41 : Nat) "EditsMeet$Works" "next" "I") ∈ xTs := xT_1 123 (by rfl) rfl
theorem w_255 : (Jvm.Cond.fieldLink "EditsMeet$Works" (81 : Nat) "EditsMeet$Works" "clock" "I") ∈ xTs := xT_1 124 (by rfl) rfl
theorem w_259 : (Jvm.Cond.fieldLink "EditsMeet$Works" (60 : Nat) "EditsMeet$Works" "hasFailed" "Z") ∈ xTs := xT_1 128 (by rfl) rfl
theorem w_289 : (Jvm.Cond.classLink "EditsMeet" (25 : Nat) "EditsMeet$Reader") ∈ xTs := xT_1 158 (by rfl) rfl
theorem w_290 : (Jvm.Cond.instantiable "EditsMeet$Reader" (20 : Nat)) ∈ xTs := xT_1 159 (by rfl) rfl
theorem w_291 : (Jvm.Cond.methodLink "EditsMeet" (27 : Nat) ({ cls := "EditsMeet$Reader", name := "<init>", desc := "(LEditsMeet$Works;)V" } : Jvm.MethodName)) ∈ xTs := xT_1 160 (by rfl) rfl
theorem w_292 : (Jvm.Cond.instanceMethod ({ cls := "EditsMeet$Reader", name := "<init>", desc := "(LEditsMeet$Works;)V" } : Jvm.MethodName)) ∈ xTs := xT_1 161 (by rfl) rfl
theorem w_293 : (Jvm.Cond.code ({ cls := "EditsMeet$Reader", name := "<init>", desc := "(LEditsMeet$Works;)V" } : Jvm.MethodName) prog_6_method_1_code (2 : Nat) (Option.none : Option Jvm.ClassFile.FieldType)) ∈ xTs := xT_1 162 (by rfl) rfl
theorem w_294 : (Jvm.Cond.methodLink "EditsMeet$Reader" (7 : Nat) ({ cls := "java/lang/Object", name := "<init>", desc := "()V" } : Jvm.MethodName)) ∈ xTs := xT_1 163 (by rfl) rfl
theorem w_295 : (Jvm.Cond.constant "EditsMeet$Reader" (15 : Nat) (65536 : Int32)) ∈ xTs := xT_1 164 (by rfl) rfl
theorem w_296 : (Jvm.Cond.classLink "EditsMeet$Reader" (46 : Nat) "EditsMeet$Edge") ∈ xTs := xT_1 165 (by rfl) rfl
theorem w_297 : (Jvm.Cond.instantiable "EditsMeet$Edge" (9 : Nat)) ∈ xTs := xT_1 166 (by rfl) rfl
theorem w_298 : (Jvm.Cond.methodLink "EditsMeet$Reader" (52 : Nat) ({ cls := "EditsMeet$Edge", name := "<init>", desc := "(LEditsMeet$Trees;Z)V" } : Jvm.MethodName)) ∈ xTs := xT_1 167 (by rfl) rfl
theorem w_299 : (Jvm.Cond.instanceMethod ({ cls := "EditsMeet$Edge", name := "<init>", desc := "(LEditsMeet$Trees;Z)V" } : Jvm.MethodName)) ∈ xTs := xT_1 168 (by rfl) rfl
theorem w_300 : (Jvm.Cond.code ({ cls := "EditsMeet$Edge", name := "<init>", desc := "(LEditsMeet$Trees;Z)V" } : Jvm.MethodName) prog_3_method_1_code (3 : Nat) (Option.none : Option Jvm.ClassFile.FieldType)) ∈ xTs := xT_1 169 (by rfl) rfl
theorem w_301 : (Jvm.Cond.methodLink "EditsMeet$Edge" (3 : Nat) ({ cls := "java/lang/Object", name := "<init>", desc := "()V" } : Jvm.MethodName)) ∈ xTs := xT_1 170 (by rfl) rfl
theorem w_302 : (Jvm.Cond.fieldLink "EditsMeet$Edge" (25 : Nat) "EditsMeet$Edge" "trees" "LEditsMeet$Trees;") ∈ xTs := xT_1 171 (by rfl) rfl
theorem w_303 : (Jvm.Cond.fieldLink "EditsMeet$Edge" (29 : Nat) "EditsMeet$Edge" "isLeft" "Z") ∈ xTs := xT_1 172 (by rfl) rfl
theorem w_304 : (Jvm.Cond.fieldLink "EditsMeet$Edge" (11 : Nat) "EditsMeet$Edge" "bases" "[I") ∈ xTs := xT_1 173 (by rfl) rfl
theorem w_305 : (Jvm.Cond.fieldLink "EditsMeet$Edge" (15 : Nat) "EditsMeet$Edge" "counts" "[J") ∈ xTs := xT_1 174 (by rfl) rfl
theorem w_306 : (Jvm.Cond.fieldLink "EditsMeet$Edge" (19 : Nat) "EditsMeet$Edge" "dues" "[I") ∈ xTs := xT_1 175 (by rfl) rfl
theorem w_307 : (Jvm.Cond.fieldLink "EditsMeet$Edge" (33 : Nat) "EditsMeet$Edge" "top" "I") ∈ xTs := xT_1 176 (by rfl) rfl
theorem w_312 : (Jvm.Cond.fieldLink "EditsMeet$Edge" (22 : Nat) "EditsMeet$Edge" "spine" "[I") ∈ xTs := xT_1 181 (by rfl) rfl
theorem w_313 : (Jvm.Cond.fieldLink "EditsMeet$Edge" (37 : Nat) "EditsMeet$Edge" "depth" "I") ∈ xTs := xT_1 182 (by rfl) rfl
theorem w_315 : (Jvm.Cond.fieldLink "EditsMeet$Edge" (73 : Nat) "EditsMeet$Edge" "mixed" "I") ∈ xTs := xT_1 184 (by rfl) rfl
theorem w_336 : (Jvm.Cond.fieldLink "EditsMeet$Reader" (36 : Nat) "EditsMeet$Reader" "works" "LEditsMeet$Works;") ∈ xTs := xT_1 205 (by rfl) rfl
theorem w_337 : (Jvm.Cond.fieldLink "EditsMeet$Reader" (55 : Nat) "EditsMeet$Reader" "edge" "LEditsMeet$Edge;") ∈ xTs := xT_1 206 (by rfl) rfl
theorem w_338 : (Jvm.Cond.fieldLink "EditsMeet$Reader" (43 : Nat) "EditsMeet$Reader" "stack" "[I") ∈ xTs := xT_1 207 (by rfl) rfl
theorem w_339 : (Jvm.Cond.fieldLink "EditsMeet$Reader" (16 : Nat) "EditsMeet$Reader" "cone" "[I") ∈ xTs := xT_1 208 (by rfl) rfl
theorem w_340 : (Jvm.Cond.fieldLink "EditsMeet$Reader" (20 : Nat) "EditsMeet$Reader" "ranks" "[I") ∈ xTs := xT_1 209 (by rfl) rfl
theorem w_341 : (Jvm.Cond.fieldLink "EditsMeet$Reader" (23 : Nat) "EditsMeet$Reader" "heads" "[I") ∈ xTs := xT_1 210 (by rfl) rfl
theorem w_342 : (Jvm.Cond.fieldLink "EditsMeet$Reader" (26 : Nat) "EditsMeet$Reader" "spots" "[I") ∈ xTs := xT_1 211 (by rfl) rfl
theorem w_343 : (Jvm.Cond.fieldLink "EditsMeet$Reader" (29 : Nat) "EditsMeet$Reader" "keys" "[J") ∈ xTs := xT_1 212 (by rfl) rfl
theorem w_344 : (Jvm.Cond.fieldLink "EditsMeet$Reader" (33 : Nat) "EditsMeet$Reader" "lefts" "[J") ∈ xTs := xT_1 213 (by rfl) rfl
theorem w_400 : (Jvm.Cond.classLink "EditsMeet" (34 : Nat) "EditsMeet$Teller") ∈ xTs := xT_2 29 (by rfl) rfl
theorem w_401 : (Jvm.Cond.instantiable "EditsMeet$Teller" (19 : Nat)) ∈ xTs := xT_2 30 (by rfl) rfl
theorem w_402 : (Jvm.Cond.methodLink "EditsMeet" (36 : Nat) ({ cls := "EditsMeet$Teller", name := "<init>", desc := "(LEditsMeet$Reader;)V" } : Jvm.MethodName)) ∈ xTs := xT_2 31 (by rfl) rfl
theorem w_403 : (Jvm.Cond.instanceMethod ({ cls := "EditsMeet$Teller", name := "<init>", desc := "(LEditsMeet$Reader;)V" } : Jvm.MethodName)) ∈ xTs := xT_2 32 (by rfl) rfl
theorem w_404 : (Jvm.Cond.code ({ cls := "EditsMeet$Teller", name := "<init>", desc := "(LEditsMeet$Reader;)V" } : Jvm.MethodName) prog_10_method_1_code (2 : Nat) (Option.none : Option Jvm.ClassFile.FieldType)) ∈ xTs := xT_2 33 (by rfl) rfl
theorem w_405 : (Jvm.Cond.methodLink "EditsMeet$Teller" (7 : Nat) ({ cls := "java/lang/Object", name := "<init>", desc := "()V" } : Jvm.MethodName)) ∈ xTs := xT_2 34 (by rfl) rfl
theorem w_406 : (Jvm.Cond.classLink "EditsMeet$Teller" (52 : Nat) "EditsMeet$Edge") ∈ xTs := xT_2 35 (by rfl) rfl
theorem w_407 : (Jvm.Cond.methodLink "EditsMeet$Teller" (54 : Nat) ({ cls := "EditsMeet$Edge", name := "<init>", desc := "(LEditsMeet$Trees;Z)V" } : Jvm.MethodName)) ∈ xTs := xT_2 36 (by rfl) rfl
theorem w_408 : (Jvm.Cond.fieldLink "EditsMeet$Teller" (51 : Nat) "EditsMeet$Teller" "trees" "LEditsMeet$Trees;") ∈ xTs := xT_2 37 (by rfl) rfl
theorem w_409 : (Jvm.Cond.fieldLink "EditsMeet$Teller" (44 : Nat) "EditsMeet$Teller" "works" "LEditsMeet$Works;") ∈ xTs := xT_2 38 (by rfl) rfl
theorem w_410 : (Jvm.Cond.fieldLink "EditsMeet$Teller" (34 : Nat) "EditsMeet$Teller" "reader" "LEditsMeet$Reader;") ∈ xTs := xT_2 39 (by rfl) rfl
theorem w_411 : (Jvm.Cond.fieldLink "EditsMeet$Teller" (57 : Nat) "EditsMeet$Teller" "one" "LEditsMeet$Edge;") ∈ xTs := xT_2 40 (by rfl) rfl
theorem w_412 : (Jvm.Cond.fieldLink "EditsMeet$Teller" (61 : Nat) "EditsMeet$Teller" "other" "LEditsMeet$Edge;") ∈ xTs := xT_2 41 (by rfl) rfl
theorem w_413 : (Jvm.Cond.fieldLink "EditsMeet$Teller" (15 : Nat) "EditsMeet$Teller" "trail" "[I") ∈ xTs := xT_2 42 (by rfl) rfl
theorem w_414 : (Jvm.Cond.fieldLink "EditsMeet$Teller" (19 : Nat) "EditsMeet$Teller" "sums" "[J") ∈ xTs := xT_2 43 (by rfl) rfl
theorem w_415 : (Jvm.Cond.fieldLink "EditsMeet$Teller" (23 : Nat) "EditsMeet$Teller" "bucketBits" "I") ∈ xTs := xT_2 44 (by rfl) rfl
theorem w_416 : (Jvm.Cond.fieldLink "EditsMeet$Teller" (27 : Nat) "EditsMeet$Teller" "sought" "I") ∈ xTs := xT_2 45 (by rfl) rfl
theorem w_417 : (Jvm.Cond.fieldLink "EditsMeet$Teller" (67 : Nat) "EditsMeet$Teller" "noted" "I") ∈ xTs := xT_2 46 (by rfl) rfl
theorem w_418 : (Jvm.Cond.fieldLink "EditsMeet$Teller" (30 : Nat) "EditsMeet$Teller" "signs" "[C") ∈ xTs := xT_2 47 (by rfl) rfl
theorem w_469 : (Jvm.Cond.arrayClass Jvm.ClassFile.FieldType.char) ∈ xTs := xT_2 98 (by rfl) rfl
theorem w_470 : (Jvm.Cond.classLink "EditsMeet" (43 : Nat) "EditsMeet$Loom") ∈ xTs := xT_2 99 (by rfl) rfl
theorem w_471 : (Jvm.Cond.instantiable "EditsMeet$Loom" (14 : Nat)) ∈ xTs := xT_2 100 (by rfl) rfl
theorem w_472 : (Jvm.Cond.methodLink "EditsMeet" (45 : Nat) ({ cls := "EditsMeet$Loom", name := "<init>", desc := "(LEditsMeet$Works;LEditsMeet$Reader;)V" } : Jvm.MethodName)) ∈ xTs := xT_2 101 (by rfl) rfl
theorem w_473 : (Jvm.Cond.instanceMethod ({ cls := "EditsMeet$Loom", name := "<init>", desc := "(LEditsMeet$Works;LEditsMeet$Reader;)V" } : Jvm.MethodName)) ∈ xTs := xT_2 102 (by rfl) rfl
theorem w_474 : (Jvm.Cond.code ({ cls := "EditsMeet$Loom", name := "<init>", desc := "(LEditsMeet$Works;LEditsMeet$Reader;)V" } : Jvm.MethodName) prog_4_method_1_code (3 : Nat) (Option.none : Option Jvm.ClassFile.FieldType)) ∈ xTs := xT_2 103 (by rfl) rfl
theorem w_475 : (Jvm.Cond.methodLink "EditsMeet$Loom" (7 : Nat) ({ cls := "java/lang/Object", name := "<init>", desc := "()V" } : Jvm.MethodName)) ∈ xTs := xT_2 104 (by rfl) rfl
theorem w_476 : (Jvm.Cond.constant "EditsMeet$Loom" (22 : Nat) (65536 : Int32)) ∈ xTs := xT_2 105 (by rfl) rfl
theorem w_477 : (Jvm.Cond.classLink "EditsMeet$Loom" (39 : Nat) "EditsMeet$Seam") ∈ xTs := xT_2 106 (by rfl) rfl
theorem w_478 : (Jvm.Cond.instantiable "EditsMeet$Seam" (9 : Nat)) ∈ xTs := xT_2 107 (by rfl) rfl
theorem w_479 : (Jvm.Cond.methodLink "EditsMeet$Loom" (41 : Nat) ({ cls := "EditsMeet$Seam", name := "<init>", desc := "(LEditsMeet$Trees;)V" } : Jvm.MethodName)) ∈ xTs := xT_2 108 (by rfl) rfl
theorem w_480 : (Jvm.Cond.instanceMethod ({ cls := "EditsMeet$Seam", name := "<init>", desc := "(LEditsMeet$Trees;)V" } : Jvm.MethodName)) ∈ xTs := xT_2 109 (by rfl) rfl
theorem w_481 : (Jvm.Cond.code ({ cls := "EditsMeet$Seam", name := "<init>", desc := "(LEditsMeet$Trees;)V" } : Jvm.MethodName) prog_7_method_1_code (2 : Nat) (Option.none : Option Jvm.ClassFile.FieldType)) ∈ xTs := xT_2 110 (by rfl) rfl
theorem w_482 : (Jvm.Cond.methodLink "EditsMeet$Seam" (1 : Nat) ({ cls := "java/lang/Object", name := "<init>", desc := "()V" } : Jvm.MethodName)) ∈ xTs := xT_2 111 (by rfl) rfl
theorem w_483 : (Jvm.Cond.classLink "EditsMeet$Seam" (28 : Nat) "EditsMeet$Edge") ∈ xTs := xT_2 112 (by rfl) rfl
theorem w_484 : (Jvm.Cond.methodLink "EditsMeet$Seam" (30 : Nat) ({ cls := "EditsMeet$Edge", name := "<init>", desc := "(LEditsMeet$Trees;Z)V" } : Jvm.MethodName)) ∈ xTs := xT_2 113 (by rfl) rfl
theorem w_485 : (Jvm.Cond.fieldLink "EditsMeet$Seam" (24 : Nat) "EditsMeet$Seam" "trees" "LEditsMeet$Trees;") ∈ xTs := xT_2 114 (by rfl) rfl
theorem w_486 : (Jvm.Cond.fieldLink "EditsMeet$Seam" (33 : Nat) "EditsMeet$Seam" "left" "LEditsMeet$Edge;") ∈ xTs := xT_2 115 (by rfl) rfl
theorem w_488 : (Jvm.Cond.fieldLink "EditsMeet$Seam" (37 : Nat) "EditsMeet$Seam" "right" "LEditsMeet$Edge;") ∈ xTs := xT_2 117 (by rfl) rfl
theorem w_490 : (Jvm.Cond.fieldLink "EditsMeet$Seam" (40 : Nat) "EditsMeet$Seam" "bare" "LEditsMeet$Edge;") ∈ xTs := xT_2 119 (by rfl) rfl
theorem w_492 : (Jvm.Cond.fieldLink "EditsMeet$Seam" (9 : Nat) "EditsMeet$Seam" "bases" "[I") ∈ xTs := xT_2 121 (by rfl) rfl
theorem w_493 : (Jvm.Cond.fieldLink "EditsMeet$Seam" (13 : Nat) "EditsMeet$Seam" "counts" "[J") ∈ xTs := xT_2 122 (by rfl) rfl
theorem w_494 : (Jvm.Cond.fieldLink "EditsMeet$Seam" (17 : Nat) "EditsMeet$Seam" "mixes" "[I") ∈ xTs := xT_2 123 (by rfl) rfl
theorem w_495 : (Jvm.Cond.fieldLink "EditsMeet$Seam" (20 : Nat) "EditsMeet$Seam" "start" "I") ∈ xTs := xT_2 124 (by rfl) rfl
theorem w_496 : (Jvm.Cond.fieldLink "EditsMeet$Seam" (69 : Nat) "EditsMeet$Seam" "size" "I") ∈ xTs := xT_2 125 (by rfl) rfl
theorem w_516 : (Jvm.Cond.classLink "EditsMeet$Loom" (48 : Nat) "EditsMeet$Edge") ∈ xTs := xT_2 145 (by rfl) rfl
theorem w_517 : (Jvm.Cond.methodLink "EditsMeet$Loom" (50 : Nat) ({ cls := "EditsMeet$Edge", name := "<init>", desc := "(LEditsMeet$Trees;Z)V" } : Jvm.MethodName)) ∈ xTs := xT_2 146 (by rfl) rfl
theorem w_518 : (Jvm.Cond.methodLink "EditsMeet$Loom" (60 : Nat) ({ cls := "EditsMeet$Works", name := "newSlots", desc := "(I)I" } : Jvm.MethodName)) ∈ xTs := xT_2 147 (by rfl) rfl
theorem w_519 : (Jvm.Cond.instanceMethod ({ cls := "EditsMeet$Works", name := "newSlots", desc := "(I)I" } : Jvm.MethodName)) ∈ xTs := xT_2 148 (by rfl) rfl
theorem w_520 : (Jvm.Cond.selects "EditsMeet$Works" ({ cls := "EditsMeet$Works", name := "newSlots", desc := "(I)I" } : Jvm.MethodName) ({ cls := "EditsMeet$Works", name := "newSlots", desc := "(I)I" } : Jvm.MethodName)) ∈ xTs := xT_2 149 (by rfl) rfl
theorem w_521 : (Jvm.Cond.code ({ cls := "EditsMeet$Works", name := "newSlots", desc := "(I)I" } : Jvm.MethodName) prog_12_method_2_code (3 : Nat) (Option.some Jvm.ClassFile.FieldType.int)) ∈ xTs := xT_2 150 (by rfl) rfl
theorem w_522 : (Jvm.Cond.fieldLink "EditsMeet$Loom" (26 : Nat) "EditsMeet$Loom" "works" "LEditsMeet$Works;") ∈ xTs := xT_2 151 (by rfl) rfl
theorem w_524 : (Jvm.Cond.fieldLink "EditsMeet$Loom" (38 : Nat) "EditsMeet$Loom" "trees" "LEditsMeet$Trees;") ∈ xTs := xT_2 153 (by rfl) rfl
theorem w_526 : (Jvm.Cond.fieldLink "EditsMeet$Loom" (30 : Nat) "EditsMeet$Loom" "reader" "LEditsMeet$Reader;") ∈ xTs := xT_2 155 (by rfl) rfl
theorem w_528 : (Jvm.Cond.fieldLink "EditsMeet$Loom" (44 : Nat) "EditsMeet$Loom" "seam" "LEditsMeet$Seam;") ∈ xTs := xT_2 157 (by rfl) rfl
theorem w_530 : (Jvm.Cond.fieldLink "EditsMeet$Loom" (64 : Nat) "EditsMeet$Loom" "hand" "I") ∈ xTs := xT_2 159 (by rfl) rfl
theorem w_535 : (Jvm.Cond.fieldLink "EditsMeet$Loom" (13 : Nat) "EditsMeet$Loom" "frames" "[I") ∈ xTs := xT_2 164 (by rfl) rfl
theorem w_536 : (Jvm.Cond.fieldLink "EditsMeet$Loom" (53 : Nat) "EditsMeet$Loom" "first" "LEditsMeet$Edge;") ∈ xTs := xT_2 165 (by rfl) rfl
theorem w_537 : (Jvm.Cond.fieldLink "EditsMeet$Loom" (57 : Nat) "EditsMeet$Loom" "second" "LEditsMeet$Edge;") ∈ xTs := xT_2 166 (by rfl) rfl
theorem w_538 : (Jvm.Cond.fieldLink "EditsMeet$Loom" (17 : Nat) "EditsMeet$Loom" "path" "[I") ∈ xTs := xT_2 167 (by rfl) rfl
theorem w_539 : (Jvm.Cond.fieldLink "EditsMeet$Loom" (23 : Nat) "EditsMeet$Loom" "tasks" "[I") ∈ xTs := xT_2 168 (by rfl) rfl
theorem w_540 : (Jvm.Cond.fieldLink "EditsMeet$Loom" (102 : Nat) "EditsMeet$Loom" "open" "I") ∈ xTs := xT_2 169 (by rfl) rfl
theorem w_541 : (Jvm.Cond.fieldLink "EditsMeet$Loom" (105 : Nat) "EditsMeet$Loom" "top" "I") ∈ xTs := xT_2 170 (by rfl) rfl
theorem w_542 : (Jvm.Cond.fieldLink "EditsMeet$Loom" (108 : Nat) "EditsMeet$Loom" "isTight" "Z") ∈ xTs := xT_2 171 (by rfl) rfl
theorem w_543 : (Jvm.Cond.fieldLink "EditsMeet$Loom" (111 : Nat) "EditsMeet$Loom" "fetched" "I") ∈ xTs := xT_2 172 (by rfl) rfl
theorem w_573 : (Jvm.Cond.classLink "EditsMeet" (52 : Nat) "EditsMeet$Tape") ∈ xTs := xT_2 202 (by rfl) rfl
theorem w_574 : (Jvm.Cond.instantiable "EditsMeet$Tape" (8 : Nat)) ∈ xTs := xT_2 203 (by rfl) rfl
theorem w_575 : (Jvm.Cond.methodLink "EditsMeet" (54 : Nat) ({ cls := "EditsMeet$Tape", name := "<init>", desc := "(LEditsMeet$Loom;)V" } : Jvm.MethodName)) ∈ xTs := xT_2 204 (by rfl) rfl
theorem w_576 : (Jvm.Cond.instanceMethod ({ cls := "EditsMeet$Tape", name := "<init>", desc := "(LEditsMeet$Loom;)V" } : Jvm.MethodName)) ∈ xTs := xT_2 205 (by rfl) rfl
theorem w_577 : (Jvm.Cond.code ({ cls := "EditsMeet$Tape", name := "<init>", desc := "(LEditsMeet$Loom;)V" } : Jvm.MethodName) prog_9_method_1_code (2 : Nat) (Option.none : Option Jvm.ClassFile.FieldType)) ∈ xTs := xT_2 206 (by rfl) rfl
theorem w_578 : (Jvm.Cond.methodLink "EditsMeet$Tape" (3 : Nat) ({ cls := "java/lang/Object", name := "<init>", desc := "()V" } : Jvm.MethodName)) ∈ xTs := xT_2 207 (by rfl) rfl
theorem w_579 : (Jvm.Cond.fieldLink "EditsMeet$Tape" (15 : Nat) "EditsMeet$Tape" "loom" "LEditsMeet$Loom;") ∈ xTs := xT_2 208 (by rfl) rfl
theorem w_580 : (Jvm.Cond.fieldLink "EditsMeet$Tape" (9 : Nat) "EditsMeet$Tape" "bytes" "[I") ∈ xTs := xT_2 209 (by rfl) rfl
theorem w_581 : (Jvm.Cond.fieldLink "EditsMeet$Tape" (19 : Nat) "EditsMeet$Tape" "size" "I") ∈ xTs := xT_2 210 (by rfl) rfl
theorem w_583 : (Jvm.Cond.fieldLink "EditsMeet$Tape" (25 : Nat) "EditsMeet$Tape" "place" "I") ∈ xTs := xT_2 212 (by rfl) rfl
theorem w_584 : (Jvm.Cond.fieldLink "EditsMeet$Tape" (32 : Nat) "EditsMeet$Tape" "fault" "I") ∈ xTs := xT_2 213 (by rfl) rfl
theorem w_585 : (Jvm.Cond.fieldLink "EditsMeet$Tape" (28 : Nat) "EditsMeet$Tape" "isInLetters" "Z") ∈ xTs := xT_2 214 (by rfl) rfl
theorem w_605 : (Jvm.Cond.methodLink "EditsMeet" (61 : Nat) ({ cls := "EditsMeet$Works", name := "newSlots", desc := "(I)I" } : Jvm.MethodName)) ∈ xTs := xT_2 234 (by rfl) rfl
theorem w_606 : (Jvm.Cond.classLink "EditsMeet" (73 : Nat) "EditsMeet$Shelf") ∈ xTs := xT_2 235 (by rfl) rfl
theorem w_608 : (Jvm.Cond.classLink "EditsMeet" (83 : Nat) "EditsMeet$Client") ∈ xTs := xT_2 237 (by rfl) rfl
theorem w_609 : (Jvm.Cond.instantiable "EditsMeet$Client" (11 : Nat)) ∈ xTs := xT_2 238 (by rfl) rfl
theorem w_610 : (Jvm.Cond.methodLink "EditsMeet" (85 : Nat) ({ cls := "EditsMeet$Client", name := "<init>", desc := "(ILEditsMeet$Works;)V" } : Jvm.MethodName)) ∈ xTs := xT_2 239 (by rfl) rfl
theorem w_611 : (Jvm.Cond.instanceMethod ({ cls := "EditsMeet$Client", name := "<init>", desc := "(ILEditsMeet$Works;)V" } : Jvm.MethodName)) ∈ xTs := xT_3 0 (by rfl) rfl
theorem w_612 : (Jvm.Cond.code ({ cls := "EditsMeet$Client", name := "<init>", desc := "(ILEditsMeet$Works;)V" } : Jvm.MethodName) prog_2_method_1_code (3 : Nat) (Option.none : Option Jvm.ClassFile.FieldType)) ∈ xTs := xT_3 1 (by rfl) rfl
theorem w_613 : (Jvm.Cond.methodLink "EditsMeet$Client" (5 : Nat) ({ cls := "java/lang/Object", name := "<init>", desc := "()V" } : Jvm.MethodName)) ∈ xTs := xT_3 2 (by rfl) rfl
theorem w_614 : (Jvm.Cond.methodLink "EditsMeet$Client" (19 : Nat) ({ cls := "EditsMeet$Works", name := "newSlots", desc := "(I)I" } : Jvm.MethodName)) ∈ xTs := xT_3 3 (by rfl) rfl
theorem w_615 : (Jvm.Cond.fieldLink "EditsMeet$Client" (11 : Nat) "EditsMeet$Client" "number" "I") ∈ xTs := xT_3 4 (by rfl) rfl
theorem w_616 : (Jvm.Cond.fieldLink "EditsMeet$Client" (15 : Nat) "EditsMeet$Client" "works" "LEditsMeet$Works;") ∈ xTs := xT_3 5 (by rfl) rfl
theorem w_617 : (Jvm.Cond.fieldLink "EditsMeet$Client" (25 : Nat) "EditsMeet$Client" "held" "I") ∈ xTs := xT_3 6 (by rfl) rfl
theorem w_619 : (Jvm.Cond.fieldLink "EditsMeet$Client" (60 : Nat) "EditsMeet$Client" "undos" "I") ∈ xTs := xT_3 8 (by rfl) rfl
theorem w_620 : (Jvm.Cond.fieldLink "EditsMeet$Client" (63 : Nat) "EditsMeet$Client" "redos" "I") ∈ xTs := xT_3 9 (by rfl) rfl
theorem w_621 : (Jvm.Cond.fieldLink "EditsMeet$Client" (34 : Nat) "EditsMeet$Client" "hasSent" "Z") ∈ xTs := xT_3 10 (by rfl) rfl
theorem w_624 : (Jvm.Cond.fieldLink "EditsMeet$Client" (38 : Nat) "EditsMeet$Client" "isServed" "Z") ∈ xTs := xT_3 13 (by rfl) rfl
theorem w_627 : (Jvm.Cond.fieldLink "EditsMeet$Client" (47 : Nat) "EditsMeet$Client" "hasWaiting" "Z") ∈ xTs := xT_3 16 (by rfl) rfl
theorem w_629 : (Jvm.Cond.fieldLink "EditsMeet$Client" (110 : Nat) "EditsMeet$Client" "revision" "I") ∈ xTs := xT_3 18 (by rfl) rfl
theorem w_631 : (Jvm.Cond.fieldLink "EditsMeet$Client" (97 : Nat) "EditsMeet$Client" "place" "J") ∈ xTs := xT_3 20 (by rfl) rfl
theorem w_633 : (Jvm.Cond.fieldLink "EditsMeet$Client" (107 : Nat) "EditsMeet$Client" "otherPlace" "J") ∈ xTs := xT_3 22 (by rfl) rfl
theorem w_658 : (Jvm.Cond.arrayClass Jvm.ClassFile.FieldType.boolean) ∈ xTs := xT_3 47 (by rfl) rfl
theorem w_659 : (Jvm.Cond.instantiable "EditsMeet$Shelf" (6 : Nat)) ∈ xTs := xT_3 48 (by rfl) rfl
theorem w_661 : (Jvm.Cond.instanceMethod ({ cls := "EditsMeet$Shelf", name := "<init>", desc := "()V" } : Jvm.MethodName)) ∈ xTs := xT_3 50 (by rfl) rfl
theorem w_662 : (Jvm.Cond.code ({ cls := "EditsMeet$Shelf", name := "<init>", desc := "()V" } : Jvm.MethodName) prog_8_method_1_code (1 : Nat) (Option.none : Option Jvm.ClassFile.FieldType)) ∈ xTs := xT_3 51 (by rfl) rfl
theorem w_663 : (Jvm.Cond.methodLink "EditsMeet$Shelf" (3 : Nat) ({ cls := "java/lang/Object", name := "<init>", desc := "()V" } : Jvm.MethodName)) ∈ xTs := xT_3 52 (by rfl) rfl
theorem w_664 : (Jvm.Cond.fieldLink "EditsMeet$Shelf" (9 : Nat) "EditsMeet$Shelf" "elements" "[J") ∈ xTs := xT_3 53 (by rfl) rfl
theorem w_665 : (Jvm.Cond.fieldLink "EditsMeet$Shelf" (15 : Nat) "EditsMeet$Shelf" "held" "I") ∈ xTs := xT_3 54 (by rfl) rfl
theorem w_668 : (Jvm.Cond.fieldLink "EditsMeet$Shelf" (19 : Nat) "EditsMeet$Shelf" "size" "J") ∈ xTs := xT_3 57 (by rfl) rfl
theorem w_685 : (Jvm.Cond.classLink "EditsMeet" (93 : Nat) "EditsMeet$Meeting") ∈ xTs := xT_3 74 (by rfl) rfl
theorem w_686 : (Jvm.Cond.instantiable "EditsMeet$Meeting" (7 : Nat)) ∈ xTs := xT_3 75 (by rfl) rfl
theorem w_687 : (Jvm.Cond.methodLink "EditsMeet" (95 : Nat) ({ cls := "EditsMeet$Meeting", name := "<init>", desc := "(LEditsMeet$Works;I[I)V" } : Jvm.MethodName)) ∈ xTs := xT_3 76 (by rfl) rfl
theorem w_688 : (Jvm.Cond.instanceMethod ({ cls := "EditsMeet$Meeting", name := "<init>", desc := "(LEditsMeet$Works;I[I)V" } : Jvm.MethodName)) ∈ xTs := xT_3 77 (by rfl) rfl
theorem w_689 : (Jvm.Cond.code ({ cls := "EditsMeet$Meeting", name := "<init>", desc := "(LEditsMeet$Works;I[I)V" } : Jvm.MethodName) prog_5_method_1_code (5 : Nat) (Option.none : Option Jvm.ClassFile.FieldType)) ∈ xTs := xT_3 78 (by rfl) rfl
theorem w_690 : (Jvm.Cond.methodLink "EditsMeet$Meeting" (3 : Nat) ({ cls := "java/lang/Object", name := "<init>", desc := "()V" } : Jvm.MethodName)) ∈ xTs := xT_3 79 (by rfl) rfl
theorem w_691 : (Jvm.Cond.classLink "EditsMeet$Meeting" (9 : Nat) "EditsMeet$Client") ∈ xTs := xT_3 80 (by rfl) rfl
theorem w_693 : (Jvm.Cond.methodLink "EditsMeet$Meeting" (32 : Nat) ({ cls := "EditsMeet$Works", name := "newSlots", desc := "(I)I" } : Jvm.MethodName)) ∈ xTs := xT_3 82 (by rfl) rfl
theorem w_694 : (Jvm.Cond.methodLink "EditsMeet$Meeting" (41 : Nat) ({ cls := "EditsMeet$Client", name := "<init>", desc := "(ILEditsMeet$Works;)V" } : Jvm.MethodName)) ∈ xTs := xT_3 83 (by rfl) rfl
theorem w_695 : (Jvm.Cond.fieldLink "EditsMeet$Meeting" (21 : Nat) "EditsMeet$Meeting" "works" "LEditsMeet$Works;") ∈ xTs := xT_3 84 (by rfl) rfl
theorem w_696 : (Jvm.Cond.fieldLink "EditsMeet$Meeting" (25 : Nat) "EditsMeet$Meeting" "revisions" "I") ∈ xTs := xT_3 85 (by rfl) rfl
theorem w_698 : (Jvm.Cond.fieldLink "EditsMeet$Meeting" (28 : Nat) "EditsMeet$Meeting" "authors" "[I") ∈ xTs := xT_3 87 (by rfl) rfl
theorem w_700 : (Jvm.Cond.fieldLink "EditsMeet$Meeting" (11 : Nat) "EditsMeet$Meeting" "clients" "[LEditsMeet$Client;") ∈ xTs := xT_3 89 (by rfl) rfl
theorem w_701 : (Jvm.Cond.fieldLink "EditsMeet$Meeting" (38 : Nat) "EditsMeet$Meeting" "server" "I") ∈ xTs := xT_3 90 (by rfl) rfl
theorem w_702 : (Jvm.Cond.fieldLink "EditsMeet$Meeting" (55 : Nat) "EditsMeet$Meeting" "count" "I") ∈ xTs := xT_3 91 (by rfl) rfl
theorem w_704 : (Jvm.Cond.fieldLink "EditsMeet$Meeting" (17 : Nat) "EditsMeet$Meeting" "seed" "I") ∈ xTs := xT_3 93 (by rfl) rfl
theorem w_721 : (Jvm.Cond.fieldLink "EditsMeet" (10 : Nat) "EditsMeet" "trees" "LEditsMeet$Trees;") ∈ xTs := xT_3 110 (by rfl) rfl
theorem w_722 : (Jvm.Cond.fieldLink "EditsMeet" (21 : Nat) "EditsMeet" "works" "LEditsMeet$Works;") ∈ xTs := xT_3 111 (by rfl) rfl
theorem w_723 : (Jvm.Cond.fieldLink "EditsMeet" (30 : Nat) "EditsMeet" "reader" "LEditsMeet$Reader;") ∈ xTs := xT_3 112 (by rfl) rfl
theorem w_724 : (Jvm.Cond.fieldLink "EditsMeet" (39 : Nat) "EditsMeet" "teller" "LEditsMeet$Teller;") ∈ xTs := xT_3 113 (by rfl) rfl
theorem w_725 : (Jvm.Cond.fieldLink "EditsMeet" (48 : Nat) "EditsMeet" "loom" "LEditsMeet$Loom;") ∈ xTs := xT_3 114 (by rfl) rfl
theorem w_726 : (Jvm.Cond.fieldLink "EditsMeet" (57 : Nat) "EditsMeet" "tape" "LEditsMeet$Tape;") ∈ xTs := xT_3 115 (by rfl) rfl
theorem w_727 : (Jvm.Cond.fieldLink "EditsMeet" (65 : Nat) "EditsMeet" "edits" "I") ∈ xTs := xT_3 116 (by rfl) rfl
theorem w_728 : (Jvm.Cond.fieldLink "EditsMeet" (69 : Nat) "EditsMeet" "areEdits" "[Z") ∈ xTs := xT_3 117 (by rfl) rfl
theorem w_729 : (Jvm.Cond.fieldLink "EditsMeet" (75 : Nat) "EditsMeet" "shelves" "[LEditsMeet$Shelf;") ∈ xTs := xT_3 118 (by rfl) rfl
theorem w_730 : (Jvm.Cond.fieldLink "EditsMeet" (79 : Nat) "EditsMeet" "refusals" "[I") ∈ xTs := xT_3 119 (by rfl) rfl
theorem w_731 : (Jvm.Cond.fieldLink "EditsMeet" (98 : Nat) "EditsMeet" "meeting" "LEditsMeet$Meeting;") ∈ xTs := xT_3 120 (by rfl) rfl
theorem w_732 : (Jvm.Cond.fieldLink "EditsMeet" (102 : Nat) "EditsMeet" "imaged" "LEditsMeet$Meeting;") ∈ xTs := xT_3 121 (by rfl) rfl
theorem w_733 : (Jvm.Cond.fieldLink "EditsMeet" (88 : Nat) "EditsMeet" "ahead" "LEditsMeet$Client;") ∈ xTs := xT_3 122 (by rfl) rfl
theorem w_734 : (Jvm.Cond.fieldLink "EditsMeet" (403 : Nat) "EditsMeet" "hasImage" "Z") ∈ xTs := xT_3 123 (by rfl) rfl
theorem w_764 : (Jvm.Cond.methodLink "EditsMeetLaw" (13 : Nat) ({ cls := "EditsMeet", name := "row", desc := "(III)I" } : Jvm.MethodName)) ∈ xTs := xT_3 153 (by rfl) rfl
theorem w_765 : (Jvm.Cond.instanceMethod ({ cls := "EditsMeet", name := "row", desc := "(III)I" } : Jvm.MethodName)) ∈ xTs := xT_3 154 (by rfl) rfl
theorem w_766 : (Jvm.Cond.selects "EditsMeet" ({ cls := "EditsMeet", name := "row", desc := "(III)I" } : Jvm.MethodName) ({ cls := "EditsMeet", name := "row", desc := "(III)I" } : Jvm.MethodName)) ∈ xTs := xT_3 155 (by rfl) rfl
theorem w_767 : (Jvm.Cond.code ({ cls := "EditsMeet", name := "row", desc := "(III)I" } : Jvm.MethodName) prog_1_method_2_code (5 : Nat) (Option.some Jvm.ClassFile.FieldType.int)) ∈ xTs := xT_3 156 (by rfl) rfl
theorem w_768 : (Jvm.Cond.methodLink "EditsMeet" (105 : Nat) ({ cls := "EditsMeet", name := "shelfAt", desc := "(I)LEditsMeet$Shelf;" } : Jvm.MethodName)) ∈ xTs := xT_3 157 (by rfl) rfl
theorem w_770 : (Jvm.Cond.instanceMethod ({ cls := "EditsMeet", name := "shelfAt", desc := "(I)LEditsMeet$Shelf;" } : Jvm.MethodName)) ∈ xTs := xT_3 159 (by rfl) rfl
theorem w_771 : (Jvm.Cond.code ({ cls := "EditsMeet", name := "shelfAt", desc := "(I)LEditsMeet$Shelf;" } : Jvm.MethodName) prog_1_method_9_code (2 : Nat) (Option.some (Jvm.ClassFile.FieldType.object "EditsMeet$Shelf"))) ∈ xTs := xT_3 160 (by rfl) rfl
theorem w_772 : (Jvm.Cond.methodLink "EditsMeet" (109 : Nat) ({ cls := "EditsMeet", name := "refuse", desc := "(I)I" } : Jvm.MethodName)) ∈ xTs := xT_3 161 (by rfl) rfl
theorem w_774 : (Jvm.Cond.instanceMethod ({ cls := "EditsMeet", name := "refuse", desc := "(I)I" } : Jvm.MethodName)) ∈ xTs := xT_3 163 (by rfl) rfl
theorem w_775 : (Jvm.Cond.code ({ cls := "EditsMeet", name := "refuse", desc := "(I)I" } : Jvm.MethodName) prog_1_method_62_code (3 : Nat) (Option.some Jvm.ClassFile.FieldType.int)) ∈ xTs := xT_3 164 (by rfl) rfl
theorem w_776 : (Jvm.Cond.methodLink "EditsMeet" (112 : Nat) ({ cls := "EditsMeet$Shelf", name := "holdRow", desc := "(II)V" } : Jvm.MethodName)) ∈ xTs := xT_3 165 (by rfl) rfl
theorem w_777 : (Jvm.Cond.instanceMethod ({ cls := "EditsMeet$Shelf", name := "holdRow", desc := "(II)V" } : Jvm.MethodName)) ∈ xTs := xT_3 166 (by rfl) rfl
theorem w_778 : (Jvm.Cond.selects "EditsMeet$Shelf" ({ cls := "EditsMeet$Shelf", name := "holdRow", desc := "(II)V" } : Jvm.MethodName) ({ cls := "EditsMeet$Shelf", name := "holdRow", desc := "(II)V" } : Jvm.MethodName)) ∈ xTs := xT_3 167 (by rfl) rfl
theorem w_779 : (Jvm.Cond.code ({ cls := "EditsMeet$Shelf", name := "holdRow", desc := "(II)V" } : Jvm.MethodName) prog_8_method_6_code (3 : Nat) (Option.none : Option Jvm.ClassFile.FieldType)) ∈ xTs := xT_3 168 (by rfl) rfl
theorem w_780 : (Jvm.Cond.methodLink "EditsMeet$Shelf" (23 : Nat) ({ cls := "java/util/Arrays", name := "fill", desc := "([JJ)V" } : Jvm.MethodName)) ∈ xTs := xT_3 169 (by rfl) rfl
theorem w_781 : (Jvm.Cond.static ({ cls := "java/util/Arrays", name := "fill", desc := "([JJ)V" } : Jvm.MethodName)) ∈ xTs := xT_3 170 (by rfl) rfl
theorem w_782 : (Jvm.Cond.code ({ cls := "java/util/Arrays", name := "fill", desc := "([JJ)V" } : Jvm.MethodName) prog_18_method_101_code (5 : Nat) (Option.none : Option Jvm.ClassFile.FieldType)) ∈ xTs := xT_3 171 (by rfl) rfl
theorem w_783 : (Jvm.Cond.methodLink "EditsMeetLaw" (20 : Nat) ({ cls := "EditsMeet", name := "set", desc := "(IIJ)I" } : Jvm.MethodName)) ∈ xTs := xT_3 172 (by rfl) rfl
theorem w_784 : (Jvm.Cond.instanceMethod ({ cls := "EditsMeet", name := "set", desc := "(IIJ)I" } : Jvm.MethodName)) ∈ xTs := xT_3 173 (by rfl) rfl
theorem w_785 : (Jvm.Cond.selects "EditsMeet" ({ cls := "EditsMeet", name := "set", desc := "(IIJ)I" } : Jvm.MethodName) ({ cls := "EditsMeet", name := "set", desc := "(IIJ)I" } : Jvm.MethodName)) ∈ xTs := xT_3 174 (by rfl) rfl
theorem w_786 : (Jvm.Cond.code ({ cls := "EditsMeet", name := "set", desc := "(IIJ)I" } : Jvm.MethodName) prog_1_method_3_code (6 : Nat) (Option.some Jvm.ClassFile.FieldType.int)) ∈ xTs := xT_3 175 (by rfl) rfl
theorem w_787 : (Jvm.Cond.methodLink "EditsMeet" (116 : Nat) ({ cls := "EditsMeet$Shelf", name := "holdsPart", desc := "()Z" } : Jvm.MethodName)) ∈ xTs := xT_3 176 (by rfl) rfl
theorem w_788 : (Jvm.Cond.instanceMethod ({ cls := "EditsMeet$Shelf", name := "holdsPart", desc := "()Z" } : Jvm.MethodName)) ∈ xTs := xT_3 177 (by rfl) rfl
theorem w_789 : (Jvm.Cond.selects "EditsMeet$Shelf" ({ cls := "EditsMeet$Shelf", name := "holdsPart", desc := "()Z" } : Jvm.MethodName) ({ cls := "EditsMeet$Shelf", name := "holdsPart", desc := "()Z" } : Jvm.MethodName)) ∈ xTs := xT_3 178 (by rfl) rfl
theorem w_790 : (Jvm.Cond.code ({ cls := "EditsMeet$Shelf", name := "holdsPart", desc := "()Z" } : Jvm.MethodName) prog_8_method_4_code (1 : Nat) (Option.some Jvm.ClassFile.FieldType.boolean)) ∈ xTs := xT_3 179 (by rfl) rfl
theorem w_791 : (Jvm.Cond.methodLink "EditsMeet" (120 : Nat) ({ cls := "EditsMeet$Shelf", name := "holdsNothing", desc := "()Z" } : Jvm.MethodName)) ∈ xTs := xT_3 180 (by rfl) rfl
theorem w_792 : (Jvm.Cond.instanceMethod ({ cls := "EditsMeet$Shelf", name := "holdsNothing", desc := "()Z" } : Jvm.MethodName)) ∈ xTs := xT_3 181 (by rfl) rfl
theorem w_793 : (Jvm.Cond.selects "EditsMeet$Shelf" ({ cls := "EditsMeet$Shelf", name := "holdsNothing", desc := "()Z" } : Jvm.MethodName) ({ cls := "EditsMeet$Shelf", name := "holdsNothing", desc := "()Z" } : Jvm.MethodName)) ∈ xTs := xT_3 182 (by rfl) rfl
theorem w_794 : (Jvm.Cond.code ({ cls := "EditsMeet$Shelf", name := "holdsNothing", desc := "()Z" } : Jvm.MethodName) prog_8_method_2_code (1 : Nat) (Option.some Jvm.ClassFile.FieldType.boolean)) ∈ xTs := xT_3 183 (by rfl) rfl
theorem w_803 : (Jvm.Cond.methodLink "EditsMeetLaw" (25 : Nat) ({ cls := "EditsMeet", name := "copy", desc := "(IIIII)I" } : Jvm.MethodName)) ∈ xTs := xT_3 192 (by rfl) rfl
theorem w_804 : (Jvm.Cond.instanceMethod ({ cls := "EditsMeet", name := "copy", desc := "(IIIII)I" } : Jvm.MethodName)) ∈ xTs := xT_3 193 (by rfl) rfl
theorem w_805 : (Jvm.Cond.selects "EditsMeet" ({ cls := "EditsMeet", name := "copy", desc := "(IIIII)I" } : Jvm.MethodName) ({ cls := "EditsMeet", name := "copy", desc := "(IIIII)I" } : Jvm.MethodName)) ∈ xTs := xT_3 194 (by rfl) rfl
theorem w_806 : (Jvm.Cond.code ({ cls := "EditsMeet", name := "copy", desc := "(IIIII)I" } : Jvm.MethodName) prog_1_method_4_code (9 : Nat) (Option.some Jvm.ClassFile.FieldType.int)) ∈ xTs := xT_3 195 (by rfl) rfl
theorem w_807 : (Jvm.Cond.methodLink "EditsMeet" (134 : Nat) ({ cls := "EditsMeet", name := "isStretch", desc := "(IIJ)Z" } : Jvm.MethodName)) ∈ xTs := xT_3 196 (by rfl) rfl
theorem w_808 : (Jvm.Cond.static ({ cls := "EditsMeet", name := "isStretch", desc := "(IIJ)Z" } : Jvm.MethodName)) ∈ xTs := xT_3 197 (by rfl) rfl
theorem w_809 : (Jvm.Cond.code ({ cls := "EditsMeet", name := "isStretch", desc := "(IIJ)Z" } : Jvm.MethodName) prog_1_method_10_code (4 : Nat) (Option.some Jvm.ClassFile.FieldType.boolean)) ∈ xTs := xT_3 198 (by rfl) rfl
theorem w_818 : (Jvm.Cond.methodLink "EditsMeetLaw" (30 : Nat) ({ cls := "EditsMeet", name := "element", desc := "(II)J" } : Jvm.MethodName)) ∈ xTs := xT_3 207 (by rfl) rfl
theorem w_819 : (Jvm.Cond.instanceMethod ({ cls := "EditsMeet", name := "element", desc := "(II)J" } : Jvm.MethodName)) ∈ xTs := xT_3 208 (by rfl) rfl
theorem w_820 : (Jvm.Cond.selects "EditsMeet" ({ cls := "EditsMeet", name := "element", desc := "(II)J" } : Jvm.MethodName) ({ cls := "EditsMeet", name := "element", desc := "(II)J" } : Jvm.MethodName)) ∈ xTs := xT_3 209 (by rfl) rfl
theorem w_821 : (Jvm.Cond.code ({ cls := "EditsMeet", name := "element", desc := "(II)J" } : Jvm.MethodName) prog_1_method_5_code (4 : Nat) (Option.some Jvm.ClassFile.FieldType.long)) ∈ xTs := xT_3 210 (by rfl) rfl
theorem w_822 : (Jvm.Cond.methodLink "EditsMeet" (142 : Nat) ({ cls := "EditsMeet$Shelf", name := "at", desc := "(I)J" } : Jvm.MethodName)) ∈ xTs := xT_3 211 (by rfl) rfl
theorem w_823 : (Jvm.Cond.instanceMethod ({ cls := "EditsMeet$Shelf", name := "at", desc := "(I)J" } : Jvm.MethodName)) ∈ xTs := xT_3 212 (by rfl) rfl
theorem w_824 : (Jvm.Cond.selects "EditsMeet$Shelf" ({ cls := "EditsMeet$Shelf", name := "at", desc := "(I)J" } : Jvm.MethodName) ({ cls := "EditsMeet$Shelf", name := "at", desc := "(I)J" } : Jvm.MethodName)) ∈ xTs := xT_3 213 (by rfl) rfl
theorem w_825 : (Jvm.Cond.code ({ cls := "EditsMeet$Shelf", name := "at", desc := "(I)J" } : Jvm.MethodName) prog_8_method_10_code (2 : Nat) (Option.some Jvm.ClassFile.FieldType.long)) ∈ xTs := xT_3 214 (by rfl) rfl
theorem w_826 : (Jvm.Cond.methodLink "EditsMeet$Shelf" (65 : Nat) ({ cls := "EditsMeet$Shelf", name := "holdsRow", desc := "()Z" } : Jvm.MethodName)) ∈ xTs := xT_3 215 (by rfl) rfl
theorem w_827 : (Jvm.Cond.instanceMethod ({ cls := "EditsMeet$Shelf", name := "holdsRow", desc := "()Z" } : Jvm.MethodName)) ∈ xTs := xT_3 216 (by rfl) rfl
theorem w_828 : (Jvm.Cond.selects "EditsMeet$Shelf" ({ cls := "EditsMeet$Shelf", name := "holdsRow", desc := "()Z" } : Jvm.MethodName) ({ cls := "EditsMeet$Shelf", name := "holdsRow", desc := "()Z" } : Jvm.MethodName)) ∈ xTs := xT_3 217 (by rfl) rfl
theorem w_829 : (Jvm.Cond.code ({ cls := "EditsMeet$Shelf", name := "holdsRow", desc := "()Z" } : Jvm.MethodName) prog_8_method_3_code (1 : Nat) (Option.some Jvm.ClassFile.FieldType.boolean)) ∈ xTs := xT_3 218 (by rfl) rfl
theorem w_830 : (Jvm.Cond.methodLink "EditsMeetLaw" (35 : Nat) ({ cls := "EditsMeet", name := "holds", desc := "(I)I" } : Jvm.MethodName)) ∈ xTs := xT_3 219 (by rfl) rfl
theorem w_831 : (Jvm.Cond.instanceMethod ({ cls := "EditsMeet", name := "holds", desc := "(I)I" } : Jvm.MethodName)) ∈ xTs := xT_3 220 (by rfl) rfl
theorem w_832 : (Jvm.Cond.selects "EditsMeet" ({ cls := "EditsMeet", name := "holds", desc := "(I)I" } : Jvm.MethodName) ({ cls := "EditsMeet", name := "holds", desc := "(I)I" } : Jvm.MethodName)) ∈ xTs := xT_3 221 (by rfl) rfl
theorem w_833 : (Jvm.Cond.code ({ cls := "EditsMeet", name := "holds", desc := "(I)I" } : Jvm.MethodName) prog_1_method_6_code (3 : Nat) (Option.some Jvm.ClassFile.FieldType.int)) ∈ xTs := xT_3 222 (by rfl) rfl
theorem w_834 : (Jvm.Cond.methodLink "EditsMeetLaw" (40 : Nat) ({ cls := "EditsMeet", name := "show", desc := "(III)I" } : Jvm.MethodName)) ∈ xTs := xT_3 223 (by rfl) rfl
theorem w_835 : (Jvm.Cond.instanceMethod ({ cls := "EditsMeet", name := "show", desc := "(III)I" } : Jvm.MethodName)) ∈ xTs := xT_3 224 (by rfl) rfl
theorem w_836 : (Jvm.Cond.selects "EditsMeet" ({ cls := "EditsMeet", name := "show", desc := "(III)I" } : Jvm.MethodName) ({ cls := "EditsMeet", name := "show", desc := "(III)I" } : Jvm.MethodName)) ∈ xTs := xT_3 225 (by rfl) rfl
theorem w_837 : (Jvm.Cond.code ({ cls := "EditsMeet", name := "show", desc := "(III)I" } : Jvm.MethodName) prog_1_method_7_code (5 : Nat) (Option.some Jvm.ClassFile.FieldType.int)) ∈ xTs := xT_3 226 (by rfl) rfl
theorem w_838 : (Jvm.Cond.methodLink "EditsMeet" (146 : Nat) ({ cls := "EditsMeet", name := "isNumber", desc := "(I)Z" } : Jvm.MethodName)) ∈ xTs := xT_3 227 (by rfl) rfl
theorem w_839 : (Jvm.Cond.static ({ cls := "EditsMeet", name := "isNumber", desc := "(I)Z" } : Jvm.MethodName)) ∈ xTs := xT_3 228 (by rfl) rfl
theorem w_840 : (Jvm.Cond.code ({ cls := "EditsMeet", name := "isNumber", desc := "(I)Z" } : Jvm.MethodName) prog_1_method_24_code (1 : Nat) (Option.some Jvm.ClassFile.FieldType.boolean)) ∈ xTs := xT_3 229 (by rfl) rfl
theorem w_841 : (Jvm.Cond.methodLink "EditsMeet" (150 : Nat) ({ cls := "EditsMeet$Shelf", name := "holdNothing", desc := "()V" } : Jvm.MethodName)) ∈ xTs := xT_3 230 (by rfl) rfl
theorem w_842 : (Jvm.Cond.instanceMethod ({ cls := "EditsMeet$Shelf", name := "holdNothing", desc := "()V" } : Jvm.MethodName)) ∈ xTs := xT_3 231 (by rfl) rfl
theorem w_843 : (Jvm.Cond.selects "EditsMeet$Shelf" ({ cls := "EditsMeet$Shelf", name := "holdNothing", desc := "()V" } : Jvm.MethodName) ({ cls := "EditsMeet$Shelf", name := "holdNothing", desc := "()V" } : Jvm.MethodName)) ∈ xTs := xT_3 232 (by rfl) rfl
theorem w_844 : (Jvm.Cond.code ({ cls := "EditsMeet$Shelf", name := "holdNothing", desc := "()V" } : Jvm.MethodName) prog_8_method_5_code (1 : Nat) (Option.none : Option Jvm.ClassFile.FieldType)) ∈ xTs := xT_3 233 (by rfl) rfl
theorem w_845 : (Jvm.Cond.methodLink "EditsMeet" (153 : Nat) ({ cls := "EditsMeet", name := "isEdit", desc := "(I)Z" } : Jvm.MethodName)) ∈ xTs := xT_3 234 (by rfl) rfl
theorem w_847 : (Jvm.Cond.instanceMethod ({ cls := "EditsMeet", name := "isEdit", desc := "(I)Z" } : Jvm.MethodName)) ∈ xTs := xT_3 236 (by rfl) rfl
theorem w_848 : (Jvm.Cond.code ({ cls := "EditsMeet", name := "isEdit", desc := "(I)Z" } : Jvm.MethodName) prog_1_method_25_code (2 : Nat) (Option.some Jvm.ClassFile.FieldType.boolean)) ∈ xTs := xT_3 237 (by rfl) rfl
theorem w_849 : (Jvm.Cond.methodLink "EditsMeet" (156 : Nat) ({ cls := "EditsMeet$Works", name := "held", desc := "(I)I" } : Jvm.MethodName)) ∈ xTs := xT_3 238 (by rfl) rfl
theorem w_850 : (Jvm.Cond.instanceMethod ({ cls := "EditsMeet$Works", name := "held", desc := "(I)I" } : Jvm.MethodName)) ∈ xTs := xT_3 239 (by rfl) rfl
theorem w_851 : (Jvm.Cond.selects "EditsMeet$Works" ({ cls := "EditsMeet$Works", name := "held", desc := "(I)I" } : Jvm.MethodName) ({ cls := "EditsMeet$Works", name := "held", desc := "(I)I" } : Jvm.MethodName)) ∈ xTs := xT_4 0 (by rfl) rfl
theorem w_852 : (Jvm.Cond.code ({ cls := "EditsMeet$Works", name := "held", desc := "(I)I" } : Jvm.MethodName) prog_12_method_3_code (2 : Nat) (Option.some Jvm.ClassFile.FieldType.int)) ∈ xTs := xT_4 1 (by rfl) rfl
theorem w_853 : (Jvm.Cond.methodLink "EditsMeet" (158 : Nat) ({ cls := "EditsMeet", name := "fetched", desc := "(I)I" } : Jvm.MethodName)) ∈ xTs := xT_4 2 (by rfl) rfl
theorem w_855 : (Jvm.Cond.instanceMethod ({ cls := "EditsMeet", name := "fetched", desc := "(I)I" } : Jvm.MethodName)) ∈ xTs := xT_4 4 (by rfl) rfl
theorem w_856 : (Jvm.Cond.code ({ cls := "EditsMeet", name := "fetched", desc := "(I)I" } : Jvm.MethodName) prog_1_method_26_code (2 : Nat) (Option.some Jvm.ClassFile.FieldType.int)) ∈ xTs := xT_4 5 (by rfl) rfl
theorem w_857 : (Jvm.Cond.methodLink "EditsMeet" (247 : Nat) ({ cls := "EditsMeet$Loom", name := "weave", desc := "(III)I" } : Jvm.MethodName)) ∈ xTs := xT_4 6 (by rfl) rfl
theorem w_858 : (Jvm.Cond.instanceMethod ({ cls := "EditsMeet$Loom", name := "weave", desc := "(III)I" } : Jvm.MethodName)) ∈ xTs := xT_4 7 (by rfl) rfl
theorem w_859 : (Jvm.Cond.selects "EditsMeet$Loom" ({ cls := "EditsMeet$Loom", name := "weave", desc := "(III)I" } : Jvm.MethodName) ({ cls := "EditsMeet$Loom", name := "weave", desc := "(III)I" } : Jvm.MethodName)) ∈ xTs := xT_4 8 (by rfl) rfl
theorem w_860 : (Jvm.Cond.code ({ cls := "EditsMeet$Loom", name := "weave", desc := "(III)I" } : Jvm.MethodName) prog_4_method_3_code (11 : Nat) (Option.some Jvm.ClassFile.FieldType.int)) ∈ xTs := xT_4 9 (by rfl) rfl
theorem w_861 : (Jvm.Cond.methodLink "EditsMeet$Loom" (95 : Nat) ({ cls := "EditsMeet$Loom", name := "begin", desc := "(III)I" } : Jvm.MethodName)) ∈ xTs := xT_4 10 (by rfl) rfl
theorem w_863 : (Jvm.Cond.instanceMethod ({ cls := "EditsMeet$Loom", name := "begin", desc := "(III)I" } : Jvm.MethodName)) ∈ xTs := xT_4 12 (by rfl) rfl
theorem w_864 : (Jvm.Cond.code ({ cls := "EditsMeet$Loom", name := "begin", desc := "(III)I" } : Jvm.MethodName) prog_4_method_4_code (7 : Nat) (Option.some Jvm.ClassFile.FieldType.int)) ∈ xTs := xT_4 13 (by rfl) rfl
theorem w_865 : (Jvm.Cond.methodLink "EditsMeet$Loom" (166 : Nat) ({ cls := "EditsMeet$Works", name := "isBig", desc := "(I)Z" } : Jvm.MethodName)) ∈ xTs := xT_4 14 (by rfl) rfl
theorem w_866 : (Jvm.Cond.instanceMethod ({ cls := "EditsMeet$Works", name := "isBig", desc := "(I)Z" } : Jvm.MethodName)) ∈ xTs := xT_4 15 (by rfl) rfl
theorem w_867 : (Jvm.Cond.selects "EditsMeet$Works" ({ cls := "EditsMeet$Works", name := "isBig", desc := "(I)Z" } : Jvm.MethodName) ({ cls := "EditsMeet$Works", name := "isBig", desc := "(I)Z" } : Jvm.MethodName)) ∈ xTs := xT_4 16 (by rfl) rfl
theorem w_868 : (Jvm.Cond.code ({ cls := "EditsMeet$Works", name := "isBig", desc := "(I)Z" } : Jvm.MethodName) prog_12_method_13_code (2 : Nat) (Option.some Jvm.ClassFile.FieldType.boolean)) ∈ xTs := xT_4 17 (by rfl) rfl
theorem w_869 : (Jvm.Cond.methodLink "EditsMeet$Works" (64 : Nat) ({ cls := "EditsMeet$Works", name := "isWork", desc := "(I)Z" } : Jvm.MethodName)) ∈ xTs := xT_4 18 (by rfl) rfl
theorem w_870 : (Jvm.Cond.static ({ cls := "EditsMeet$Works", name := "isWork", desc := "(I)Z" } : Jvm.MethodName)) ∈ xTs := xT_4 19 (by rfl) rfl
theorem w_871 : (Jvm.Cond.code ({ cls := "EditsMeet$Works", name := "isWork", desc := "(I)Z" } : Jvm.MethodName) prog_12_method_7_code (1 : Nat) (Option.some Jvm.ClassFile.FieldType.boolean)) ∈ xTs := xT_4 20 (by rfl) rfl
theorem w_872 : (Jvm.Cond.constantLong "EditsMeet$Works" (76 : Nat) (68719476736 : Int64)) ∈ xTs := xT_4 21 (by rfl) rfl
theorem w_877 : (Jvm.Cond.constantLong "EditsMeet$Works" (74 : Nat) (-1 : Int64)) ∈ xTs := xT_4 26 (by rfl) rfl
theorem w_879 : (Jvm.Cond.methodLink "EditsMeet$Loom" (172 : Nat) ({ cls := "EditsMeet$Works", name := "two", desc := "(I)I" } : Jvm.MethodName)) ∈ xTs := xT_4 28 (by rfl) rfl
theorem w_880 : (Jvm.Cond.instanceMethod ({ cls := "EditsMeet$Works", name := "two", desc := "(I)I" } : Jvm.MethodName)) ∈ xTs := xT_4 29 (by rfl) rfl
theorem w_881 : (Jvm.Cond.selects "EditsMeet$Works" ({ cls := "EditsMeet$Works", name := "two", desc := "(I)I" } : Jvm.MethodName) ({ cls := "EditsMeet$Works", name := "two", desc := "(I)I" } : Jvm.MethodName)) ∈ xTs := xT_4 30 (by rfl) rfl
theorem w_882 : (Jvm.Cond.code ({ cls := "EditsMeet$Works", name := "two", desc := "(I)I" } : Jvm.MethodName) prog_12_method_18_code (2 : Nat) (Option.some Jvm.ClassFile.FieldType.int)) ∈ xTs := xT_4 31 (by rfl) rfl
theorem w_883 : (Jvm.Cond.constant "EditsMeet$Works" (80 : Nat) (65535 : Int32)) ∈ xTs := xT_4 32 (by rfl) rfl
theorem w_884 : (Jvm.Cond.methodLink "EditsMeet$Loom" (119 : Nat) ({ cls := "EditsMeet$Works", name := "way", desc := "(I)I" } : Jvm.MethodName)) ∈ xTs := xT_4 33 (by rfl) rfl
theorem w_885 : (Jvm.Cond.instanceMethod ({ cls := "EditsMeet$Works", name := "way", desc := "(I)I" } : Jvm.MethodName)) ∈ xTs := xT_4 34 (by rfl) rfl
theorem w_886 : (Jvm.Cond.selects "EditsMeet$Works" ({ cls := "EditsMeet$Works", name := "way", desc := "(I)I" } : Jvm.MethodName) ({ cls := "EditsMeet$Works", name := "way", desc := "(I)I" } : Jvm.MethodName)) ∈ xTs := xT_4 35 (by rfl) rfl
theorem w_887 : (Jvm.Cond.code ({ cls := "EditsMeet$Works", name := "way", desc := "(I)I" } : Jvm.MethodName) prog_12_method_16_code (2 : Nat) (Option.some Jvm.ClassFile.FieldType.int)) ∈ xTs := xT_4 36 (by rfl) rfl
theorem w_888 : (Jvm.Cond.methodLink "EditsMeet$Loom" (114 : Nat) ({ cls := "EditsMeet$Works", name := "isThere", desc := "(I)Z" } : Jvm.MethodName)) ∈ xTs := xT_4 37 (by rfl) rfl
theorem w_889 : (Jvm.Cond.instanceMethod ({ cls := "EditsMeet$Works", name := "isThere", desc := "(I)Z" } : Jvm.MethodName)) ∈ xTs := xT_4 38 (by rfl) rfl
theorem w_890 : (Jvm.Cond.selects "EditsMeet$Works" ({ cls := "EditsMeet$Works", name := "isThere", desc := "(I)Z" } : Jvm.MethodName) ({ cls := "EditsMeet$Works", name := "isThere", desc := "(I)Z" } : Jvm.MethodName)) ∈ xTs := xT_4 39 (by rfl) rfl
theorem w_891 : (Jvm.Cond.code ({ cls := "EditsMeet$Works", name := "isThere", desc := "(I)Z" } : Jvm.MethodName) prog_12_method_12_code (2 : Nat) (Option.some Jvm.ClassFile.FieldType.boolean)) ∈ xTs := xT_4 40 (by rfl) rfl
theorem w_892 : (Jvm.Cond.methodLink "EditsMeet$Loom" (175 : Nat) ({ cls := "EditsMeet$Works", name := "node", desc := "(I)I" } : Jvm.MethodName)) ∈ xTs := xT_4 41 (by rfl) rfl
theorem w_893 : (Jvm.Cond.instanceMethod ({ cls := "EditsMeet$Works", name := "node", desc := "(I)I" } : Jvm.MethodName)) ∈ xTs := xT_4 42 (by rfl) rfl
theorem w_894 : (Jvm.Cond.selects "EditsMeet$Works" ({ cls := "EditsMeet$Works", name := "node", desc := "(I)I" } : Jvm.MethodName) ({ cls := "EditsMeet$Works", name := "node", desc := "(I)I" } : Jvm.MethodName)) ∈ xTs := xT_4 43 (by rfl) rfl
theorem w_895 : (Jvm.Cond.code ({ cls := "EditsMeet$Works", name := "node", desc := "(I)I" } : Jvm.MethodName) prog_12_method_9_code (2 : Nat) (Option.some Jvm.ClassFile.FieldType.int)) ∈ xTs := xT_4 44 (by rfl) rfl
theorem w_897 : (Jvm.Cond.static ({ cls := "EditsMeet", name := "nodeAt", desc := "([II)I" } : Jvm.MethodName)) ∈ xTs := xT_4 46 (by rfl) rfl
theorem w_898 : (Jvm.Cond.code ({ cls := "EditsMeet", name := "nodeAt", desc := "([II)I" } : Jvm.MethodName) prog_1_method_63_code (2 : Nat) (Option.some Jvm.ClassFile.FieldType.int)) ∈ xTs := xT_4 47 (by rfl) rfl
theorem w_899 : (Jvm.Cond.methodLink "EditsMeet$Loom" (178 : Nat) ({ cls := "EditsMeet$Trees", name := "leaves", desc := "(I)I" } : Jvm.MethodName)) ∈ xTs := xT_4 48 (by rfl) rfl
theorem w_900 : (Jvm.Cond.instanceMethod ({ cls := "EditsMeet$Trees", name := "leaves", desc := "(I)I" } : Jvm.MethodName)) ∈ xTs := xT_4 49 (by rfl) rfl
theorem w_901 : (Jvm.Cond.selects "EditsMeet$Trees" ({ cls := "EditsMeet$Trees", name := "leaves", desc := "(I)I" } : Jvm.MethodName) ({ cls := "EditsMeet$Trees", name := "leaves", desc := "(I)I" } : Jvm.MethodName)) ∈ xTs := xT_4 50 (by rfl) rfl
theorem w_902 : (Jvm.Cond.code ({ cls := "EditsMeet$Trees", name := "leaves", desc := "(I)I" } : Jvm.MethodName) prog_11_method_5_code (2 : Nat) (Option.some Jvm.ClassFile.FieldType.int)) ∈ xTs := xT_4 51 (by rfl) rfl
theorem w_903 : (Jvm.Cond.methodLink "EditsMeet$Loom" (181 : Nat) ({ cls := "EditsMeet$Works", name := "begin", desc := "(III)I" } : Jvm.MethodName)) ∈ xTs := xT_4 52 (by rfl) rfl
theorem w_904 : (Jvm.Cond.instanceMethod ({ cls := "EditsMeet$Works", name := "begin", desc := "(III)I" } : Jvm.MethodName)) ∈ xTs := xT_4 53 (by rfl) rfl
theorem w_905 : (Jvm.Cond.selects "EditsMeet$Works" ({ cls := "EditsMeet$Works", name := "begin", desc := "(III)I" } : Jvm.MethodName) ({ cls := "EditsMeet$Works", name := "begin", desc := "(III)I" } : Jvm.MethodName)) ∈ xTs := xT_4 54 (by rfl) rfl
theorem w_906 : (Jvm.Cond.code ({ cls := "EditsMeet$Works", name := "begin", desc := "(III)I" } : Jvm.MethodName) prog_12_method_20_code (10 : Nat) (Option.some Jvm.ClassFile.FieldType.int)) ∈ xTs := xT_4 55 (by rfl) rfl
theorem w_907 : (Jvm.Cond.methodLink "EditsMeet$Works" (84 : Nat) ({ cls := "EditsMeet$Works", name := "spare", desc := "()I" } : Jvm.MethodName)) ∈ xTs := xT_4 56 (by rfl) rfl
theorem w_909 : (Jvm.Cond.instanceMethod ({ cls := "EditsMeet$Works", name := "spare", desc := "()I" } : Jvm.MethodName)) ∈ xTs := xT_4 58 (by rfl) rfl
theorem w_910 : (Jvm.Cond.code ({ cls := "EditsMeet$Works", name := "spare", desc := "()I" } : Jvm.MethodName) prog_12_method_26_code (2 : Nat) (Option.some Jvm.ClassFile.FieldType.int)) ∈ xTs := xT_4 59 (by rfl) rfl
theorem w_928 : (Jvm.Cond.instanceMethod ({ cls := "EditsMeet$Works", name := "one", desc := "(I)I" } : Jvm.MethodName)) ∈ xTs := xT_4 77 (by rfl) rfl
theorem w_929 : (Jvm.Cond.selects "EditsMeet$Works" ({ cls := "EditsMeet$Works", name := "one", desc := "(I)I" } : Jvm.MethodName) ({ cls := "EditsMeet$Works", name := "one", desc := "(I)I" } : Jvm.MethodName)) ∈ xTs := xT_4 78 (by rfl) rfl
theorem w_930 : (Jvm.Cond.code ({ cls := "EditsMeet$Works", name := "one", desc := "(I)I" } : Jvm.MethodName) prog_12_method_17_code (2 : Nat) (Option.some Jvm.ClassFile.FieldType.int)) ∈ xTs := xT_4 79 (by rfl) rfl
theorem w_937 : (Jvm.Cond.static ({ cls := "EditsMeet", name := "putNode", desc := "([III)V" } : Jvm.MethodName)) ∈ xTs := xT_4 86 (by rfl) rfl
theorem w_938 : (Jvm.Cond.code ({ cls := "EditsMeet", name := "putNode", desc := "([III)V" } : Jvm.MethodName) prog_1_method_64_code (3 : Nat) (Option.none : Option Jvm.ClassFile.FieldType)) ∈ xTs := xT_4 87 (by rfl) rfl
theorem w_939 : (Jvm.Cond.methodLink "EditsMeet$Works" (90 : Nat) ({ cls := "EditsMeet$Works", name := "mayDelete", desc := "(I)Z" } : Jvm.MethodName)) ∈ xTs := xT_4 88 (by rfl) rfl
theorem w_940 : (Jvm.Cond.instanceMethod ({ cls := "EditsMeet$Works", name := "mayDelete", desc := "(I)Z" } : Jvm.MethodName)) ∈ xTs := xT_4 89 (by rfl) rfl
theorem w_941 : (Jvm.Cond.selects "EditsMeet$Works" ({ cls := "EditsMeet$Works", name := "mayDelete", desc := "(I)Z" } : Jvm.MethodName) ({ cls := "EditsMeet$Works", name := "mayDelete", desc := "(I)Z" } : Jvm.MethodName)) ∈ xTs := xT_4 90 (by rfl) rfl
theorem w_942 : (Jvm.Cond.code ({ cls := "EditsMeet$Works", name := "mayDelete", desc := "(I)Z" } : Jvm.MethodName) prog_12_method_14_code (2 : Nat) (Option.some Jvm.ClassFile.FieldType.boolean)) ∈ xTs := xT_4 91 (by rfl) rfl
theorem w_943 : (Jvm.Cond.methodLink "EditsMeet$Works" (93 : Nat) ({ cls := "EditsMeet$Works", name := "from", desc := "(I)J" } : Jvm.MethodName)) ∈ xTs := xT_4 92 (by rfl) rfl
theorem w_944 : (Jvm.Cond.instanceMethod ({ cls := "EditsMeet$Works", name := "from", desc := "(I)J" } : Jvm.MethodName)) ∈ xTs := xT_4 93 (by rfl) rfl
theorem w_945 : (Jvm.Cond.selects "EditsMeet$Works" ({ cls := "EditsMeet$Works", name := "from", desc := "(I)J" } : Jvm.MethodName) ({ cls := "EditsMeet$Works", name := "from", desc := "(I)J" } : Jvm.MethodName)) ∈ xTs := xT_4 94 (by rfl) rfl
theorem w_946 : (Jvm.Cond.code ({ cls := "EditsMeet$Works", name := "from", desc := "(I)J" } : Jvm.MethodName) prog_12_method_10_code (2 : Nat) (Option.some Jvm.ClassFile.FieldType.long)) ∈ xTs := xT_4 95 (by rfl) rfl
theorem w_947 : (Jvm.Cond.methodLink "EditsMeet$Works" (96 : Nat) ({ cls := "EditsMeet$Works", name := "to", desc := "(I)J" } : Jvm.MethodName)) ∈ xTs := xT_4 96 (by rfl) rfl
theorem w_948 : (Jvm.Cond.instanceMethod ({ cls := "EditsMeet$Works", name := "to", desc := "(I)J" } : Jvm.MethodName)) ∈ xTs := xT_4 97 (by rfl) rfl
theorem w_949 : (Jvm.Cond.selects "EditsMeet$Works" ({ cls := "EditsMeet$Works", name := "to", desc := "(I)J" } : Jvm.MethodName) ({ cls := "EditsMeet$Works", name := "to", desc := "(I)J" } : Jvm.MethodName)) ∈ xTs := xT_4 98 (by rfl) rfl
theorem w_950 : (Jvm.Cond.code ({ cls := "EditsMeet$Works", name := "to", desc := "(I)J" } : Jvm.MethodName) prog_12_method_11_code (2 : Nat) (Option.some Jvm.ClassFile.FieldType.long)) ∈ xTs := xT_4 99 (by rfl) rfl
theorem w_951 : (Jvm.Cond.constantLong "EditsMeet$Works" (99 : Nat) (34359738368 : Int64)) ∈ xTs := xT_4 100 (by rfl) rfl
theorem w_952 : (Jvm.Cond.methodLink "EditsMeet$Loom" (68 : Nat) ({ cls := "EditsMeet$Works", name := "hold", desc := "(II)V" } : Jvm.MethodName)) ∈ xTs := xT_4 101 (by rfl) rfl
theorem w_953 : (Jvm.Cond.instanceMethod ({ cls := "EditsMeet$Works", name := "hold", desc := "(II)V" } : Jvm.MethodName)) ∈ xTs := xT_4 102 (by rfl) rfl
theorem w_954 : (Jvm.Cond.selects "EditsMeet$Works" ({ cls := "EditsMeet$Works", name := "hold", desc := "(II)V" } : Jvm.MethodName) ({ cls := "EditsMeet$Works", name := "hold", desc := "(II)V" } : Jvm.MethodName)) ∈ xTs := xT_4 103 (by rfl) rfl
theorem w_955 : (Jvm.Cond.code ({ cls := "EditsMeet$Works", name := "hold", desc := "(II)V" } : Jvm.MethodName) prog_12_method_4_code (3 : Nat) (Option.none : Option Jvm.ClassFile.FieldType)) ∈ xTs := xT_4 104 (by rfl) rfl
theorem w_956 : (Jvm.Cond.methodLink "EditsMeet$Loom" (182 : Nat) ({ cls := "EditsMeet$Works", name := "one", desc := "(I)I" } : Jvm.MethodName)) ∈ xTs := xT_4 105 (by rfl) rfl
theorem w_958 : (Jvm.Cond.methodLink "EditsMeet$Loom" (99 : Nat) ({ cls := "EditsMeet$Works", name := "use", desc := "(I)V" } : Jvm.MethodName)) ∈ xTs := xT_4 107 (by rfl) rfl
theorem w_959 : (Jvm.Cond.instanceMethod ({ cls := "EditsMeet$Works", name := "use", desc := "(I)V" } : Jvm.MethodName)) ∈ xTs := xT_4 108 (by rfl) rfl
theorem w_960 : (Jvm.Cond.selects "EditsMeet$Works" ({ cls := "EditsMeet$Works", name := "use", desc := "(I)V" } : Jvm.MethodName) ({ cls := "EditsMeet$Works", name := "use", desc := "(I)V" } : Jvm.MethodName)) ∈ xTs := xT_4 109 (by rfl) rfl
theorem w_961 : (Jvm.Cond.code ({ cls := "EditsMeet$Works", name := "use", desc := "(I)V" } : Jvm.MethodName) prog_12_method_19_code (2 : Nat) (Option.none : Option Jvm.ClassFile.FieldType)) ∈ xTs := xT_4 110 (by rfl) rfl
theorem w_962 : (Jvm.Cond.constant "EditsMeet$Loom" (118 : Nat) (268435456 : Int32)) ∈ xTs := xT_4 111 (by rfl) rfl
theorem w_963 : (Jvm.Cond.methodLink "EditsMeet$Loom" (72 : Nat) ({ cls := "EditsMeet$Loom", name := "tidy", desc := "(I)V" } : Jvm.MethodName)) ∈ xTs := xT_4 112 (by rfl) rfl
theorem w_964 : (Jvm.Cond.instanceMethod ({ cls := "EditsMeet$Loom", name := "tidy", desc := "(I)V" } : Jvm.MethodName)) ∈ xTs := xT_4 113 (by rfl) rfl
theorem w_965 : (Jvm.Cond.selects "EditsMeet$Loom" ({ cls := "EditsMeet$Loom", name := "tidy", desc := "(I)V" } : Jvm.MethodName) ({ cls := "EditsMeet$Loom", name := "tidy", desc := "(I)V" } : Jvm.MethodName)) ∈ xTs := xT_4 114 (by rfl) rfl
theorem w_966 : (Jvm.Cond.code ({ cls := "EditsMeet$Loom", name := "tidy", desc := "(I)V" } : Jvm.MethodName) prog_4_method_19_code (3 : Nat) (Option.none : Option Jvm.ClassFile.FieldType)) ∈ xTs := xT_4 115 (by rfl) rfl
theorem w_967 : (Jvm.Cond.methodLink "EditsMeet$Loom" (321 : Nat) ({ cls := "EditsMeet$Trees", name := "isScarce", desc := "()Z" } : Jvm.MethodName)) ∈ xTs := xT_4 116 (by rfl) rfl
theorem w_968 : (Jvm.Cond.instanceMethod ({ cls := "EditsMeet$Trees", name := "isScarce", desc := "()Z" } : Jvm.MethodName)) ∈ xTs := xT_4 117 (by rfl) rfl
theorem w_969 : (Jvm.Cond.selects "EditsMeet$Trees" ({ cls := "EditsMeet$Trees", name := "isScarce", desc := "()Z" } : Jvm.MethodName) ({ cls := "EditsMeet$Trees", name := "isScarce", desc := "()Z" } : Jvm.MethodName)) ∈ xTs := xT_4 118 (by rfl) rfl
theorem w_970 : (Jvm.Cond.code ({ cls := "EditsMeet$Trees", name := "isScarce", desc := "()Z" } : Jvm.MethodName) prog_11_method_32_code (1 : Nat) (Option.some Jvm.ClassFile.FieldType.boolean)) ∈ xTs := xT_4 119 (by rfl) rfl
theorem w_971 : (Jvm.Cond.methodLink "EditsMeet$Trees" (132 : Nat) ({ cls := "java/lang/Math", name := "min", desc := "(II)I" } : Jvm.MethodName)) ∈ xTs := xT_4 120 (by rfl) rfl
theorem w_972 : (Jvm.Cond.static ({ cls := "java/lang/Math", name := "min", desc := "(II)I" } : Jvm.MethodName)) ∈ xTs := xT_4 121 (by rfl) rfl
theorem w_973 : (Jvm.Cond.code ({ cls := "java/lang/Math", name := "min", desc := "(II)I" } : Jvm.MethodName) prog_16_method_69_code (2 : Nat) (Option.some Jvm.ClassFile.FieldType.int)) ∈ xTs := xT_4 122 (by rfl) rfl
theorem w_975 : (Jvm.Cond.static ({ cls := "java/lang/Math", name := "max", desc := "(II)I" } : Jvm.MethodName)) ∈ xTs := xT_4 124 (by rfl) rfl
theorem w_976 : (Jvm.Cond.code ({ cls := "java/lang/Math", name := "max", desc := "(II)I" } : Jvm.MethodName) prog_16_method_65_code (2 : Nat) (Option.some Jvm.ClassFile.FieldType.int)) ∈ xTs := xT_4 125 (by rfl) rfl
theorem w_981 : (Jvm.Cond.methodLink "java/util/Arrays" (13 : Nat) ({ cls := "java/util/Arrays", name := "rangeCheck", desc := "(III)V" } : Jvm.MethodName)) ∈ xTs := xT_4 130 (by rfl) rfl
theorem w_982 : (Jvm.Cond.static ({ cls := "java/util/Arrays", name := "rangeCheck", desc := "(III)V" } : Jvm.MethodName)) ∈ xTs := xT_4 131 (by rfl) rfl
theorem w_983 : (Jvm.Cond.code ({ cls := "java/util/Arrays", name := "rangeCheck", desc := "(III)V" } : Jvm.MethodName) prog_18_method_30_code (3 : Nat) (Option.none : Option Jvm.ClassFile.FieldType)) ∈ xTs := xT_4 132 (by rfl) rfl
theorem w_990 : (Jvm.Cond.methodLink "EditsMeet$Works" (56 : Nat) ({ cls := "EditsMeet$Works", name := "held", desc := "(I)I" } : Jvm.MethodName)) ∈ xTs := xT_4 139 (by rfl) rfl
theorem w_1018 : (Jvm.Cond.methodLink "EditsMeet$Trees" (66 : Nat) ({ cls := "EditsMeet$Trees", name := "right", desc := "(I)I" } : Jvm.MethodName)) ∈ xTs := xT_4 167 (by rfl) rfl
theorem w_1019 : (Jvm.Cond.instanceMethod ({ cls := "EditsMeet$Trees", name := "right", desc := "(I)I" } : Jvm.MethodName)) ∈ xTs := xT_4 168 (by rfl) rfl
theorem w_1020 : (Jvm.Cond.selects "EditsMeet$Trees" ({ cls := "EditsMeet$Trees", name := "right", desc := "(I)I" } : Jvm.MethodName) ({ cls := "EditsMeet$Trees", name := "right", desc := "(I)I" } : Jvm.MethodName)) ∈ xTs := xT_4 169 (by rfl) rfl
theorem w_1021 : (Jvm.Cond.code ({ cls := "EditsMeet$Trees", name := "right", desc := "(I)I" } : Jvm.MethodName) prog_11_method_3_code (2 : Nat) (Option.some Jvm.ClassFile.FieldType.int)) ∈ xTs := xT_4 170 (by rfl) rfl
theorem w_1022 : (Jvm.Cond.constant "EditsMeet$Trees" (63 : Nat) (2097151 : Int32)) ∈ xTs := xT_4 171 (by rfl) rfl
theorem w_1023 : (Jvm.Cond.methodLink "EditsMeet$Trees" (104 : Nat) ({ cls := "EditsMeet$Trees", name := "left", desc := "(I)I" } : Jvm.MethodName)) ∈ xTs := xT_4 172 (by rfl) rfl
theorem w_1024 : (Jvm.Cond.instanceMethod ({ cls := "EditsMeet$Trees", name := "left", desc := "(I)I" } : Jvm.MethodName)) ∈ xTs := xT_4 173 (by rfl) rfl
theorem w_1025 : (Jvm.Cond.selects "EditsMeet$Trees" ({ cls := "EditsMeet$Trees", name := "left", desc := "(I)I" } : Jvm.MethodName) ({ cls := "EditsMeet$Trees", name := "left", desc := "(I)I" } : Jvm.MethodName)) ∈ xTs := xT_4 174 (by rfl) rfl
theorem w_1026 : (Jvm.Cond.code ({ cls := "EditsMeet$Trees", name := "left", desc := "(I)I" } : Jvm.MethodName) prog_11_method_2_code (2 : Nat) (Option.some Jvm.ClassFile.FieldType.int)) ∈ xTs := xT_4 175 (by rfl) rfl
theorem w_1032 : (Jvm.Cond.constantLong "EditsMeet$Trees" (64 : Nat) (4294967295 : Int64)) ∈ xTs := xT_4 181 (by rfl) rfl
theorem w_1038 : (Jvm.Cond.methodLink "EditsMeet$Trees" (73 : Nat) ({ cls := "EditsMeet$Trees", name := "from", desc := "(I)J" } : Jvm.MethodName)) ∈ xTs := xT_4 187 (by rfl) rfl
theorem w_1039 : (Jvm.Cond.instanceMethod ({ cls := "EditsMeet$Trees", name := "from", desc := "(I)J" } : Jvm.MethodName)) ∈ xTs := xT_4 188 (by rfl) rfl
theorem w_1040 : (Jvm.Cond.selects "EditsMeet$Trees" ({ cls := "EditsMeet$Trees", name := "from", desc := "(I)J" } : Jvm.MethodName) ({ cls := "EditsMeet$Trees", name := "from", desc := "(I)J" } : Jvm.MethodName)) ∈ xTs := xT_4 189 (by rfl) rfl
theorem w_1041 : (Jvm.Cond.code ({ cls := "EditsMeet$Trees", name := "from", desc := "(I)J" } : Jvm.MethodName) prog_11_method_11_code (3 : Nat) (Option.some Jvm.ClassFile.FieldType.long)) ∈ xTs := xT_4 190 (by rfl) rfl
theorem w_1042 : (Jvm.Cond.methodLink "EditsMeet$Trees" (77 : Nat) ({ cls := "EditsMeet$Trees", name := "to", desc := "(I)J" } : Jvm.MethodName)) ∈ xTs := xT_4 191 (by rfl) rfl
theorem w_1043 : (Jvm.Cond.instanceMethod ({ cls := "EditsMeet$Trees", name := "to", desc := "(I)J" } : Jvm.MethodName)) ∈ xTs := xT_4 192 (by rfl) rfl
theorem w_1044 : (Jvm.Cond.selects "EditsMeet$Trees" ({ cls := "EditsMeet$Trees", name := "to", desc := "(I)J" } : Jvm.MethodName) ({ cls := "EditsMeet$Trees", name := "to", desc := "(I)J" } : Jvm.MethodName)) ∈ xTs := xT_4 193 (by rfl) rfl
theorem w_1045 : (Jvm.Cond.code ({ cls := "EditsMeet$Trees", name := "to", desc := "(I)J" } : Jvm.MethodName) prog_11_method_12_code (3 : Nat) (Option.some Jvm.ClassFile.FieldType.long)) ∈ xTs := xT_4 194 (by rfl) rfl
theorem w_1046 : (Jvm.Cond.methodLink "EditsMeet$Trees" (134 : Nat) ({ cls := "EditsMeet$Trees", name := "placeOf", desc := "(JJ)I" } : Jvm.MethodName)) ∈ xTs := xT_4 195 (by rfl) rfl
theorem w_1047 : (Jvm.Cond.static ({ cls := "EditsMeet$Trees", name := "placeOf", desc := "(JJ)I" } : Jvm.MethodName)) ∈ xTs := xT_4 196 (by rfl) rfl
theorem w_1048 : (Jvm.Cond.code ({ cls := "EditsMeet$Trees", name := "placeOf", desc := "(JJ)I" } : Jvm.MethodName) prog_11_method_29_code (6 : Nat) (Option.some Jvm.ClassFile.FieldType.int)) ∈ xTs := xT_4 197 (by rfl) rfl
theorem w_1049 : (Jvm.Cond.constantLong "EditsMeet$Trees" (161 : Nat) (-7046029254386353131 : Int64)) ∈ xTs := xT_4 198 (by rfl) rfl
theorem w_1050 : (Jvm.Cond.constantLong "EditsMeet$Trees" (163 : Nat) (-4658895280553007687 : Int64)) ∈ xTs := xT_4 199 (by rfl) rfl
theorem w_1051 : (Jvm.Cond.constantLong "EditsMeet$Trees" (165 : Nat) (9223372036854775807 : Int64)) ∈ xTs := xT_4 200 (by rfl) rfl
theorem w_1052 : (Jvm.Cond.constantLong "EditsMeet$Trees" (167 : Nat) (2550000 : Int64)) ∈ xTs := xT_4 201 (by rfl) rfl
theorem w_1053 : (Jvm.Cond.constant "EditsMeet$Trees" (141 : Nat) (2550000 : Int32)) ∈ xTs := xT_4 202 (by rfl) rfl
theorem w_1054 : (Jvm.Cond.methodLink "EditsMeet$Trees" (138 : Nat) ({ cls := "EditsMeet$Trees", name := "knownAt", desc := "(I)I" } : Jvm.MethodName)) ∈ xTs := xT_4 203 (by rfl) rfl
theorem w_1056 : (Jvm.Cond.instanceMethod ({ cls := "EditsMeet$Trees", name := "knownAt", desc := "(I)I" } : Jvm.MethodName)) ∈ xTs := xT_4 205 (by rfl) rfl
theorem w_1057 : (Jvm.Cond.code ({ cls := "EditsMeet$Trees", name := "knownAt", desc := "(I)I" } : Jvm.MethodName) prog_11_method_30_code (3 : Nat) (Option.some Jvm.ClassFile.FieldType.int)) ∈ xTs := xT_4 206 (by rfl) rfl
theorem w_1058 : (Jvm.Cond.methodLink "EditsMeet$Trees" (154 : Nat) ({ cls := "EditsMeet$Trees", name := "know", desc := "(II)V" } : Jvm.MethodName)) ∈ xTs := xT_4 207 (by rfl) rfl
theorem w_1060 : (Jvm.Cond.instanceMethod ({ cls := "EditsMeet$Trees", name := "know", desc := "(II)V" } : Jvm.MethodName)) ∈ xTs := xT_4 209 (by rfl) rfl
theorem w_1061 : (Jvm.Cond.code ({ cls := "EditsMeet$Trees", name := "know", desc := "(II)V" } : Jvm.MethodName) prog_11_method_31_code (4 : Nat) (Option.none : Option Jvm.ClassFile.FieldType)) ∈ xTs := xT_4 210 (by rfl) rfl
theorem w_1066 : (Jvm.Cond.constant "EditsMeet$Loom" (317 : Nat) (262144 : Int32)) ∈ xTs := xT_4 215 (by rfl) rfl
theorem w_1068 : (Jvm.Cond.static ({ cls := "java/util/Arrays", name := "fill", desc := "([JIIJ)V" } : Jvm.MethodName)) ∈ xTs := xT_4 217 (by rfl) rfl
theorem w_1069 : (Jvm.Cond.code ({ cls := "java/util/Arrays", name := "fill", desc := "([JIIJ)V" } : Jvm.MethodName) prog_18_method_102_code (6 : Nat) (Option.none : Option Jvm.ClassFile.FieldType)) ∈ xTs := xT_4 218 (by rfl) rfl
theorem w_1070 : (Jvm.Cond.methodLink "EditsMeet$Loom" (76 : Nat) ({ cls := "EditsMeet$Trees", name := "failed", desc := "()Z" } : Jvm.MethodName)) ∈ xTs := xT_4 219 (by rfl) rfl
theorem w_1071 : (Jvm.Cond.instanceMethod ({ cls := "EditsMeet$Trees", name := "failed", desc := "()Z" } : Jvm.MethodName)) ∈ xTs := xT_4 220 (by rfl) rfl
theorem w_1072 : (Jvm.Cond.selects "EditsMeet$Trees" ({ cls := "EditsMeet$Trees", name := "failed", desc := "()Z" } : Jvm.MethodName) ({ cls := "EditsMeet$Trees", name := "failed", desc := "()Z" } : Jvm.MethodName)) ∈ xTs := xT_4 221 (by rfl) rfl
theorem w_1073 : (Jvm.Cond.code ({ cls := "EditsMeet$Trees", name := "failed", desc := "()Z" } : Jvm.MethodName) prog_11_method_34_code (2 : Nat) (Option.some Jvm.ClassFile.FieldType.boolean)) ∈ xTs := xT_4 222 (by rfl) rfl
theorem w_1078 : (Jvm.Cond.methodLink "EditsMeet$Loom" (125 : Nat) ({ cls := "EditsMeet$Loom", name := "beginTask", desc := "(I)Z" } : Jvm.MethodName)) ∈ xTs := xT_4 227 (by rfl) rfl
theorem w_1080 : (Jvm.Cond.instanceMethod ({ cls := "EditsMeet$Loom", name := "beginTask", desc := "(I)Z" } : Jvm.MethodName)) ∈ xTs := xT_4 229 (by rfl) rfl
theorem w_1081 : (Jvm.Cond.code ({ cls := "EditsMeet$Loom", name := "beginTask", desc := "(I)Z" } : Jvm.MethodName) prog_4_method_5_code (6 : Nat) (Option.some Jvm.ClassFile.FieldType.boolean)) ∈ xTs := xT_4 230 (by rfl) rfl
theorem w_1090 : (Jvm.Cond.methodLink "EditsMeet$Reader" (67 : Nat) ({ cls := "EditsMeet$Works", name := "isThere", desc := "(I)Z" } : Jvm.MethodName)) ∈ xTs := xT_4 239 (by rfl) rfl
theorem w_1094 : (Jvm.Cond.methodLink "EditsMeet$Loom" (163 : Nat) ({ cls := "EditsMeet$Loom", name := "push", desc := "(II)V" } : Jvm.MethodName)) ∈ xTs := xT_5 3 (by rfl) rfl
theorem w_1096 : (Jvm.Cond.instanceMethod ({ cls := "EditsMeet$Loom", name := "push", desc := "(II)V" } : Jvm.MethodName)) ∈ xTs := xT_5 5 (by rfl) rfl
theorem w_1097 : (Jvm.Cond.code ({ cls := "EditsMeet$Loom", name := "push", desc := "(II)V" } : Jvm.MethodName) prog_4_method_7_code (4 : Nat) (Option.none : Option Jvm.ClassFile.FieldType)) ∈ xTs := xT_5 6 (by rfl) rfl
theorem w_1158 : (Jvm.Cond.methodLink "EditsMeet$Reader" (181 : Nat) ({ cls := "EditsMeet$Works", name := "node", desc := "(I)I" } : Jvm.MethodName)) ∈ xTs := xT_5 67 (by rfl) rfl
theorem w_1163 : (Jvm.Cond.methodLink "EditsMeet$Trees" (70 : Nat) ({ cls := "EditsMeet$Trees", name := "base", desc := "(I)I" } : Jvm.MethodName)) ∈ xTs := xT_5 72 (by rfl) rfl
theorem w_1164 : (Jvm.Cond.instanceMethod ({ cls := "EditsMeet$Trees", name := "base", desc := "(I)I" } : Jvm.MethodName)) ∈ xTs := xT_5 73 (by rfl) rfl
theorem w_1165 : (Jvm.Cond.selects "EditsMeet$Trees" ({ cls := "EditsMeet$Trees", name := "base", desc := "(I)I" } : Jvm.MethodName) ({ cls := "EditsMeet$Trees", name := "base", desc := "(I)I" } : Jvm.MethodName)) ∈ xTs := xT_5 74 (by rfl) rfl
theorem w_1166 : (Jvm.Cond.code ({ cls := "EditsMeet$Trees", name := "base", desc := "(I)I" } : Jvm.MethodName) prog_11_method_6_code (3 : Nat) (Option.some Jvm.ClassFile.FieldType.int)) ∈ xTs := xT_5 75 (by rfl) rfl
theorem w_1167 : (Jvm.Cond.methodLink "EditsMeet$Trees" (116 : Nat) ({ cls := "java/lang/Math", name := "min", desc := "(JJ)J" } : Jvm.MethodName)) ∈ xTs := xT_5 76 (by rfl) rfl
theorem w_1168 : (Jvm.Cond.static ({ cls := "java/lang/Math", name := "min", desc := "(JJ)J" } : Jvm.MethodName)) ∈ xTs := xT_5 77 (by rfl) rfl
theorem w_1169 : (Jvm.Cond.code ({ cls := "java/lang/Math", name := "min", desc := "(JJ)J" } : Jvm.MethodName) prog_16_method_70_code (4 : Nat) (Option.some Jvm.ClassFile.FieldType.long)) ∈ xTs := xT_5 78 (by rfl) rfl
theorem w_1181 : (Jvm.Cond.instanceMethod ({ cls := "EditsMeet$Trees", name := "times", desc := "(I)J" } : Jvm.MethodName)) ∈ xTs := xT_5 90 (by rfl) rfl
theorem w_1182 : (Jvm.Cond.selects "EditsMeet$Trees" ({ cls := "EditsMeet$Trees", name := "times", desc := "(I)J" } : Jvm.MethodName) ({ cls := "EditsMeet$Trees", name := "times", desc := "(I)J" } : Jvm.MethodName)) ∈ xTs := xT_5 91 (by rfl) rfl
theorem w_1183 : (Jvm.Cond.code ({ cls := "EditsMeet$Trees", name := "times", desc := "(I)J" } : Jvm.MethodName) prog_11_method_7_code (8 : Nat) (Option.some Jvm.ClassFile.FieldType.long)) ∈ xTs := xT_5 92 (by rfl) rfl
theorem w_1185 : (Jvm.Cond.instanceMethod ({ cls := "EditsMeet$Edge", name := "put", desc := "(IJI)V" } : Jvm.MethodName)) ∈ xTs := xT_5 94 (by rfl) rfl
theorem w_1186 : (Jvm.Cond.selects "EditsMeet$Edge" ({ cls := "EditsMeet$Edge", name := "put", desc := "(IJI)V" } : Jvm.MethodName) ({ cls := "EditsMeet$Edge", name := "put", desc := "(IJI)V" } : Jvm.MethodName)) ∈ xTs := xT_5 95 (by rfl) rfl
theorem w_1187 : (Jvm.Cond.code ({ cls := "EditsMeet$Edge", name := "put", desc := "(IJI)V" } : Jvm.MethodName) prog_3_method_4_code (5 : Nat) (Option.none : Option Jvm.ClassFile.FieldType)) ∈ xTs := xT_5 96 (by rfl) rfl
theorem w_1189 : (Jvm.Cond.instanceMethod ({ cls := "EditsMeet$Edge", name := "base", desc := "()I" } : Jvm.MethodName)) ∈ xTs := xT_5 98 (by rfl) rfl
theorem w_1190 : (Jvm.Cond.selects "EditsMeet$Edge" ({ cls := "EditsMeet$Edge", name := "base", desc := "()I" } : Jvm.MethodName) ({ cls := "EditsMeet$Edge", name := "base", desc := "()I" } : Jvm.MethodName)) ∈ xTs := xT_5 99 (by rfl) rfl
theorem w_1191 : (Jvm.Cond.code ({ cls := "EditsMeet$Edge", name := "base", desc := "()I" } : Jvm.MethodName) prog_3_method_5_code (1 : Nat) (Option.some Jvm.ClassFile.FieldType.int)) ∈ xTs := xT_5 100 (by rfl) rfl
theorem w_1195 : (Jvm.Cond.instanceMethod ({ cls := "EditsMeet$Edge", name := "count", desc := "()J" } : Jvm.MethodName)) ∈ xTs := xT_5 104 (by rfl) rfl
theorem w_1196 : (Jvm.Cond.selects "EditsMeet$Edge" ({ cls := "EditsMeet$Edge", name := "count", desc := "()J" } : Jvm.MethodName) ({ cls := "EditsMeet$Edge", name := "count", desc := "()J" } : Jvm.MethodName)) ∈ xTs := xT_5 105 (by rfl) rfl
theorem w_1197 : (Jvm.Cond.code ({ cls := "EditsMeet$Edge", name := "count", desc := "()J" } : Jvm.MethodName) prog_3_method_6_code (1 : Nat) (Option.some Jvm.ClassFile.FieldType.long)) ∈ xTs := xT_5 106 (by rfl) rfl
theorem w_1200 : (Jvm.Cond.instanceMethod ({ cls := "EditsMeet$Edge", name := "drop", desc := "(J)V" } : Jvm.MethodName)) ∈ xTs := xT_5 109 (by rfl) rfl
theorem w_1201 : (Jvm.Cond.selects "EditsMeet$Edge" ({ cls := "EditsMeet$Edge", name := "drop", desc := "(J)V" } : Jvm.MethodName) ({ cls := "EditsMeet$Edge", name := "drop", desc := "(J)V" } : Jvm.MethodName)) ∈ xTs := xT_5 110 (by rfl) rfl
theorem w_1202 : (Jvm.Cond.code ({ cls := "EditsMeet$Edge", name := "drop", desc := "(J)V" } : Jvm.MethodName) prog_3_method_10_code (3 : Nat) (Option.none : Option Jvm.ClassFile.FieldType)) ∈ xTs := xT_5 111 (by rfl) rfl
theorem w_1204 : (Jvm.Cond.instanceMethod ({ cls := "EditsMeet$Trees", name := "level", desc := "(I)I" } : Jvm.MethodName)) ∈ xTs := xT_5 113 (by rfl) rfl
theorem w_1205 : (Jvm.Cond.selects "EditsMeet$Trees" ({ cls := "EditsMeet$Trees", name := "level", desc := "(I)I" } : Jvm.MethodName) ({ cls := "EditsMeet$Trees", name := "level", desc := "(I)I" } : Jvm.MethodName)) ∈ xTs := xT_5 114 (by rfl) rfl
theorem w_1206 : (Jvm.Cond.code ({ cls := "EditsMeet$Trees", name := "level", desc := "(I)I" } : Jvm.MethodName) prog_11_method_4_code (2 : Nat) (Option.some Jvm.ClassFile.FieldType.int)) ∈ xTs := xT_5 115 (by rfl) rfl
theorem w_1208 : (Jvm.Cond.instanceMethod ({ cls := "EditsMeet$Edge", name := "sink", desc := "(I)V" } : Jvm.MethodName)) ∈ xTs := xT_5 117 (by rfl) rfl
theorem w_1209 : (Jvm.Cond.selects "EditsMeet$Edge" ({ cls := "EditsMeet$Edge", name := "sink", desc := "(I)V" } : Jvm.MethodName) ({ cls := "EditsMeet$Edge", name := "sink", desc := "(I)V" } : Jvm.MethodName)) ∈ xTs := xT_5 118 (by rfl) rfl
theorem w_1210 : (Jvm.Cond.code ({ cls := "EditsMeet$Edge", name := "sink", desc := "(I)V" } : Jvm.MethodName) prog_3_method_9_code (7 : Nat) (Option.none : Option Jvm.ClassFile.FieldType)) ∈ xTs := xT_5 119 (by rfl) rfl
theorem w_1211 : (Jvm.Cond.methodLink "EditsMeet$Edge" (59 : Nat) ({ cls := "EditsMeet$Trees", name := "level", desc := "(I)I" } : Jvm.MethodName)) ∈ xTs := xT_5 120 (by rfl) rfl
theorem w_1212 : (Jvm.Cond.methodLink "EditsMeet$Edge" (65 : Nat) ({ cls := "EditsMeet$Trees", name := "left", desc := "(I)I" } : Jvm.MethodName)) ∈ xTs := xT_5 121 (by rfl) rfl
theorem w_1213 : (Jvm.Cond.methodLink "EditsMeet$Edge" (62 : Nat) ({ cls := "EditsMeet$Trees", name := "right", desc := "(I)I" } : Jvm.MethodName)) ∈ xTs := xT_5 122 (by rfl) rfl
theorem w_1214 : (Jvm.Cond.methodLink "EditsMeet$Edge" (44 : Nat) ({ cls := "EditsMeet$Trees", name := "base", desc := "(I)I" } : Jvm.MethodName)) ∈ xTs := xT_5 123 (by rfl) rfl
theorem w_1215 : (Jvm.Cond.methodLink "EditsMeet$Edge" (48 : Nat) ({ cls := "EditsMeet$Trees", name := "times", desc := "(I)J" } : Jvm.MethodName)) ∈ xTs := xT_5 124 (by rfl) rfl
theorem w_1216 : (Jvm.Cond.methodLink "EditsMeet$Edge" (52 : Nat) ({ cls := "EditsMeet$Edge", name := "put", desc := "(IJI)V" } : Jvm.MethodName)) ∈ xTs := xT_5 125 (by rfl) rfl
theorem w_1228 : (Jvm.Cond.static ({ cls := "EditsMeet$Loom", name := "isAlone", desc := "(IZII)Z" } : Jvm.MethodName)) ∈ xTs := xT_5 137 (by rfl) rfl
theorem w_1229 : (Jvm.Cond.code ({ cls := "EditsMeet$Loom", name := "isAlone", desc := "(IZII)Z" } : Jvm.MethodName) prog_4_method_14_code (6 : Nat) (Option.some Jvm.ClassFile.FieldType.boolean)) ∈ xTs := xT_5 138 (by rfl) rfl
theorem w_1235 : (Jvm.Cond.static ({ cls := "EditsMeet$Loom", name := "alone", desc := "(IZI)I" } : Jvm.MethodName)) ∈ xTs := xT_5 144 (by rfl) rfl
theorem w_1236 : (Jvm.Cond.code ({ cls := "EditsMeet$Loom", name := "alone", desc := "(IZI)I" } : Jvm.MethodName) prog_4_method_13_code (3 : Nat) (Option.some Jvm.ClassFile.FieldType.int)) ∈ xTs := xT_5 145 (by rfl) rfl
theorem w_1238 : (Jvm.Cond.static ({ cls := "EditsMeet$Loom", name := "woven", desc := "(III)I" } : Jvm.MethodName)) ∈ xTs := xT_5 147 (by rfl) rfl
theorem w_1239 : (Jvm.Cond.code ({ cls := "EditsMeet$Loom", name := "woven", desc := "(III)I" } : Jvm.MethodName) prog_4_method_11_code (8 : Nat) (Option.some Jvm.ClassFile.FieldType.int)) ∈ xTs := xT_5 148 (by rfl) rfl
theorem w_1264 : (Jvm.Cond.methodLink "EditsMeet$Loom" (198 : Nat) ({ cls := "EditsMeet$Seam", name := "mixed", desc := "(I)I" } : Jvm.MethodName)) ∈ xTs := xT_5 173 (by rfl) rfl
theorem w_1265 : (Jvm.Cond.static ({ cls := "EditsMeet$Seam", name := "mixed", desc := "(I)I" } : Jvm.MethodName)) ∈ xTs := xT_5 174 (by rfl) rfl
theorem w_1266 : (Jvm.Cond.code ({ cls := "EditsMeet$Seam", name := "mixed", desc := "(I)I" } : Jvm.MethodName) prog_7_method_8_code (2 : Nat) (Option.some Jvm.ClassFile.FieldType.int)) ∈ xTs := xT_5 175 (by rfl) rfl
theorem w_1267 : (Jvm.Cond.constant "EditsMeet$Seam" (129 : Nat) (2146121005 : Int32)) ∈ xTs := xT_5 176 (by rfl) rfl
theorem w_1268 : (Jvm.Cond.constant "EditsMeet$Seam" (130 : Nat) (-2073254261 : Int32)) ∈ xTs := xT_5 177 (by rfl) rfl
theorem w_1269 : (Jvm.Cond.methodLink "EditsMeet$Loom" (201 : Nat) ({ cls := "EditsMeet$Seam", name := "put", desc := "(IJI)V" } : Jvm.MethodName)) ∈ xTs := xT_5 178 (by rfl) rfl
theorem w_1270 : (Jvm.Cond.instanceMethod ({ cls := "EditsMeet$Seam", name := "put", desc := "(IJI)V" } : Jvm.MethodName)) ∈ xTs := xT_5 179 (by rfl) rfl
theorem w_1271 : (Jvm.Cond.selects "EditsMeet$Seam" ({ cls := "EditsMeet$Seam", name := "put", desc := "(IJI)V" } : Jvm.MethodName) ({ cls := "EditsMeet$Seam", name := "put", desc := "(IJI)V" } : Jvm.MethodName)) ∈ xTs := xT_5 180 (by rfl) rfl
theorem w_1272 : (Jvm.Cond.code ({ cls := "EditsMeet$Seam", name := "put", desc := "(IJI)V" } : Jvm.MethodName) prog_7_method_7_code (6 : Nat) (Option.none : Option Jvm.ClassFile.FieldType)) ∈ xTs := xT_5 181 (by rfl) rfl
theorem w_1273 : (Jvm.Cond.methodLink "EditsMeet$Loom" (207 : Nat) ({ cls := "EditsMeet$Seam", name := "settle", desc := "(LEditsMeet$Edge;LEditsMeet$Edge;)I" } : Jvm.MethodName)) ∈ xTs := xT_5 182 (by rfl) rfl
theorem w_1274 : (Jvm.Cond.instanceMethod ({ cls := "EditsMeet$Seam", name := "settle", desc := "(LEditsMeet$Edge;LEditsMeet$Edge;)I" } : Jvm.MethodName)) ∈ xTs := xT_5 183 (by rfl) rfl
theorem w_1275 : (Jvm.Cond.selects "EditsMeet$Seam" ({ cls := "EditsMeet$Seam", name := "settle", desc := "(LEditsMeet$Edge;LEditsMeet$Edge;)I" } : Jvm.MethodName) ({ cls := "EditsMeet$Seam", name := "settle", desc := "(LEditsMeet$Edge;LEditsMeet$Edge;)I" } : Jvm.MethodName)) ∈ xTs := xT_5 184 (by rfl) rfl
theorem w_1276 : (Jvm.Cond.code ({ cls := "EditsMeet$Seam", name := "settle", desc := "(LEditsMeet$Edge;LEditsMeet$Edge;)I" } : Jvm.MethodName) prog_7_method_4_code (14 : Nat) (Option.some Jvm.ClassFile.FieldType.int)) ∈ xTs := xT_5 185 (by rfl) rfl
theorem w_1277 : (Jvm.Cond.methodLink "EditsMeet$Seam" (75 : Nat) ({ cls := "EditsMeet$Edge", name := "next", desc := "(I)I" } : Jvm.MethodName)) ∈ xTs := xT_5 186 (by rfl) rfl
theorem w_1278 : (Jvm.Cond.instanceMethod ({ cls := "EditsMeet$Edge", name := "next", desc := "(I)I" } : Jvm.MethodName)) ∈ xTs := xT_5 187 (by rfl) rfl
theorem w_1279 : (Jvm.Cond.selects "EditsMeet$Edge" ({ cls := "EditsMeet$Edge", name := "next", desc := "(I)I" } : Jvm.MethodName) ({ cls := "EditsMeet$Edge", name := "next", desc := "(I)I" } : Jvm.MethodName)) ∈ xTs := xT_5 188 (by rfl) rfl
theorem w_1280 : (Jvm.Cond.code ({ cls := "EditsMeet$Edge", name := "next", desc := "(I)I" } : Jvm.MethodName) prog_3_method_8_code (5 : Nat) (Option.some Jvm.ClassFile.FieldType.int)) ∈ xTs := xT_5 189 (by rfl) rfl
theorem w_1281 : (Jvm.Cond.methodLink "EditsMeet$Edge" (68 : Nat) ({ cls := "EditsMeet$Seam", name := "mixed", desc := "(I)I" } : Jvm.MethodName)) ∈ xTs := xT_5 190 (by rfl) rfl
theorem w_1282 : (Jvm.Cond.methodLink "EditsMeet$Seam" (82 : Nat) ({ cls := "EditsMeet$Edge", name := "isDue", desc := "(I)Z" } : Jvm.MethodName)) ∈ xTs := xT_5 191 (by rfl) rfl
theorem w_1283 : (Jvm.Cond.instanceMethod ({ cls := "EditsMeet$Edge", name := "isDue", desc := "(I)Z" } : Jvm.MethodName)) ∈ xTs := xT_5 192 (by rfl) rfl
theorem w_1284 : (Jvm.Cond.selects "EditsMeet$Edge" ({ cls := "EditsMeet$Edge", name := "isDue", desc := "(I)Z" } : Jvm.MethodName) ({ cls := "EditsMeet$Edge", name := "isDue", desc := "(I)Z" } : Jvm.MethodName)) ∈ xTs := xT_5 193 (by rfl) rfl
theorem w_1285 : (Jvm.Cond.code ({ cls := "EditsMeet$Edge", name := "isDue", desc := "(I)Z" } : Jvm.MethodName) prog_3_method_7_code (2 : Nat) (Option.some Jvm.ClassFile.FieldType.boolean)) ∈ xTs := xT_5 194 (by rfl) rfl
theorem w_1286 : (Jvm.Cond.methodLink "EditsMeet$Seam" (85 : Nat) ({ cls := "EditsMeet$Seam", name := "arePair", desc := "(III)Z" } : Jvm.MethodName)) ∈ xTs := xT_5 195 (by rfl) rfl
theorem w_1287 : (Jvm.Cond.static ({ cls := "EditsMeet$Seam", name := "arePair", desc := "(III)Z" } : Jvm.MethodName)) ∈ xTs := xT_5 196 (by rfl) rfl
theorem w_1288 : (Jvm.Cond.code ({ cls := "EditsMeet$Seam", name := "arePair", desc := "(III)Z" } : Jvm.MethodName) prog_7_method_9_code (5 : Nat) (Option.some Jvm.ClassFile.FieldType.boolean)) ∈ xTs := xT_5 197 (by rfl) rfl
theorem w_1289 : (Jvm.Cond.methodLink "EditsMeet$Seam" (89 : Nat) ({ cls := "EditsMeet$Seam", name := "putAhead", desc := "(LEditsMeet$Edge;I)V" } : Jvm.MethodName)) ∈ xTs := xT_5 198 (by rfl) rfl
theorem w_1291 : (Jvm.Cond.instanceMethod ({ cls := "EditsMeet$Seam", name := "putAhead", desc := "(LEditsMeet$Edge;I)V" } : Jvm.MethodName)) ∈ xTs := xT_5 200 (by rfl) rfl
theorem w_1292 : (Jvm.Cond.code ({ cls := "EditsMeet$Seam", name := "putAhead", desc := "(LEditsMeet$Edge;I)V" } : Jvm.MethodName) prog_7_method_5_code (3 : Nat) (Option.none : Option Jvm.ClassFile.FieldType)) ∈ xTs := xT_5 201 (by rfl) rfl
theorem w_1293 : (Jvm.Cond.methodLink "EditsMeet$Seam" (122 : Nat) ({ cls := "EditsMeet$Edge", name := "sink", desc := "(I)V" } : Jvm.MethodName)) ∈ xTs := xT_5 202 (by rfl) rfl
theorem w_1294 : (Jvm.Cond.methodLink "EditsMeet$Seam" (114 : Nat) ({ cls := "EditsMeet$Edge", name := "base", desc := "()I" } : Jvm.MethodName)) ∈ xTs := xT_5 203 (by rfl) rfl
theorem w_1295 : (Jvm.Cond.methodLink "EditsMeet$Seam" (118 : Nat) ({ cls := "EditsMeet$Edge", name := "count", desc := "()J" } : Jvm.MethodName)) ∈ xTs := xT_5 204 (by rfl) rfl
theorem w_1296 : (Jvm.Cond.methodLink "EditsMeet$Seam" (108 : Nat) ({ cls := "EditsMeet$Seam", name := "mixed", desc := "(I)I" } : Jvm.MethodName)) ∈ xTs := xT_5 205 (by rfl) rfl
theorem w_1297 : (Jvm.Cond.methodLink "EditsMeet$Seam" (125 : Nat) ({ cls := "EditsMeet$Edge", name := "drop", desc := "(J)V" } : Jvm.MethodName)) ∈ xTs := xT_5 206 (by rfl) rfl
theorem w_1298 : (Jvm.Cond.methodLink "EditsMeet$Seam" (93 : Nat) ({ cls := "EditsMeet$Seam", name := "putBehind", desc := "(LEditsMeet$Edge;I)V" } : Jvm.MethodName)) ∈ xTs := xT_5 207 (by rfl) rfl
theorem w_1300 : (Jvm.Cond.instanceMethod ({ cls := "EditsMeet$Seam", name := "putBehind", desc := "(LEditsMeet$Edge;I)V" } : Jvm.MethodName)) ∈ xTs := xT_5 209 (by rfl) rfl
theorem w_1301 : (Jvm.Cond.code ({ cls := "EditsMeet$Seam", name := "putBehind", desc := "(LEditsMeet$Edge;I)V" } : Jvm.MethodName) prog_7_method_6_code (3 : Nat) (Option.none : Option Jvm.ClassFile.FieldType)) ∈ xTs := xT_5 210 (by rfl) rfl
theorem w_1302 : (Jvm.Cond.methodLink "EditsMeet$Seam" (110 : Nat) ({ cls := "EditsMeet$Seam", name := "put", desc := "(IJI)V" } : Jvm.MethodName)) ∈ xTs := xT_5 211 (by rfl) rfl
theorem w_1303 : (Jvm.Cond.methodLink "EditsMeet$Seam" (100 : Nat) ({ cls := "EditsMeet$Trees", name := "run", desc := "(IJ)I" } : Jvm.MethodName)) ∈ xTs := xT_5 212 (by rfl) rfl
theorem w_1304 : (Jvm.Cond.instanceMethod ({ cls := "EditsMeet$Trees", name := "run", desc := "(IJ)I" } : Jvm.MethodName)) ∈ xTs := xT_5 213 (by rfl) rfl
theorem w_1305 : (Jvm.Cond.selects "EditsMeet$Trees" ({ cls := "EditsMeet$Trees", name := "run", desc := "(IJ)I" } : Jvm.MethodName) ({ cls := "EditsMeet$Trees", name := "run", desc := "(IJ)I" } : Jvm.MethodName)) ∈ xTs := xT_5 214 (by rfl) rfl
theorem w_1306 : (Jvm.Cond.code ({ cls := "EditsMeet$Trees", name := "run", desc := "(IJ)I" } : Jvm.MethodName) prog_11_method_24_code (8 : Nat) (Option.some Jvm.ClassFile.FieldType.int)) ∈ xTs := xT_5 215 (by rfl) rfl
theorem w_1308 : (Jvm.Cond.methodLink "EditsMeet$Trees" (125 : Nat) ({ cls := "EditsMeet$Trees", name := "leaves", desc := "(I)I" } : Jvm.MethodName)) ∈ xTs := xT_5 217 (by rfl) rfl
theorem w_1309 : (Jvm.Cond.constantLong "EditsMeet$Trees" (128 : Nat) (72053195991416832 : Int64)) ∈ xTs := xT_5 218 (by rfl) rfl
theorem w_1310 : (Jvm.Cond.methodLink "EditsMeet$Trees" (119 : Nat) ({ cls := "EditsMeet$Trees", name := "made", desc := "(JJJ)I" } : Jvm.MethodName)) ∈ xTs := xT_5 219 (by rfl) rfl
theorem w_1312 : (Jvm.Cond.instanceMethod ({ cls := "EditsMeet$Trees", name := "made", desc := "(JJJ)I" } : Jvm.MethodName)) ∈ xTs := xT_5 221 (by rfl) rfl
theorem w_1313 : (Jvm.Cond.code ({ cls := "EditsMeet$Trees", name := "made", desc := "(JJJ)I" } : Jvm.MethodName) prog_11_method_26_code (10 : Nat) (Option.some Jvm.ClassFile.FieldType.int)) ∈ xTs := xT_5 222 (by rfl) rfl
theorem w_1314 : (Jvm.Cond.methodLink "EditsMeet$Trees" (142 : Nat) ({ cls := "EditsMeet$Trees", name := "spare", desc := "()I" } : Jvm.MethodName)) ∈ xTs := xT_5 223 (by rfl) rfl
theorem w_1316 : (Jvm.Cond.instanceMethod ({ cls := "EditsMeet$Trees", name := "spare", desc := "()I" } : Jvm.MethodName)) ∈ xTs := xT_5 225 (by rfl) rfl
theorem w_1317 : (Jvm.Cond.code ({ cls := "EditsMeet$Trees", name := "spare", desc := "()I" } : Jvm.MethodName) prog_11_method_27_code (1 : Nat) (Option.some Jvm.ClassFile.FieldType.int)) ∈ xTs := xT_5 226 (by rfl) rfl
theorem w_1318 : (Jvm.Cond.methodLink "EditsMeet$Trees" (146 : Nat) ({ cls := "EditsMeet$Trees", name := "putSize", desc := "(IJJ)Z" } : Jvm.MethodName)) ∈ xTs := xT_5 227 (by rfl) rfl
theorem w_1320 : (Jvm.Cond.instanceMethod ({ cls := "EditsMeet$Trees", name := "putSize", desc := "(IJJ)Z" } : Jvm.MethodName)) ∈ xTs := xT_5 229 (by rfl) rfl
theorem w_1321 : (Jvm.Cond.code ({ cls := "EditsMeet$Trees", name := "putSize", desc := "(IJJ)Z" } : Jvm.MethodName) prog_11_method_28_code (6 : Nat) (Option.some Jvm.ClassFile.FieldType.boolean)) ∈ xTs := xT_5 230 (by rfl) rfl
theorem w_1322 : (Jvm.Cond.methodLink "EditsMeet$Seam" (104 : Nat) ({ cls := "EditsMeet$Trees", name := "pair", desc := "(III)I" } : Jvm.MethodName)) ∈ xTs := xT_5 231 (by rfl) rfl
theorem w_1323 : (Jvm.Cond.instanceMethod ({ cls := "EditsMeet$Trees", name := "pair", desc := "(III)I" } : Jvm.MethodName)) ∈ xTs := xT_5 232 (by rfl) rfl
theorem w_1324 : (Jvm.Cond.selects "EditsMeet$Trees" ({ cls := "EditsMeet$Trees", name := "pair", desc := "(III)I" } : Jvm.MethodName) ({ cls := "EditsMeet$Trees", name := "pair", desc := "(III)I" } : Jvm.MethodName)) ∈ xTs := xT_5 233 (by rfl) rfl
theorem w_1325 : (Jvm.Cond.code ({ cls := "EditsMeet$Trees", name := "pair", desc := "(III)I" } : Jvm.MethodName) prog_11_method_25_code (10 : Nat) (Option.some Jvm.ClassFile.FieldType.int)) ∈ xTs := xT_5 234 (by rfl) rfl
theorem w_1327 : (Jvm.Cond.constantLong "EditsMeet$Trees" (86 : Nat) (2251799813685248 : Int64)) ∈ xTs := xT_5 236 (by rfl) rfl
theorem w_1328 : (Jvm.Cond.constantLong "EditsMeet$Trees" (130 : Nat) (13510798882111488 : Int64)) ∈ xTs := xT_5 237 (by rfl) rfl
theorem w_1329 : (Jvm.Cond.constantLong "EditsMeet$Trees" (92 : Nat) (18014398509481984 : Int64)) ∈ xTs := xT_5 238 (by rfl) rfl
theorem w_1330 : (Jvm.Cond.methodLink "EditsMeet$Loom" (211 : Nat) ({ cls := "EditsMeet$Seam", name := "place", desc := "(II)V" } : Jvm.MethodName)) ∈ xTs := xT_5 239 (by rfl) rfl
theorem w_1331 : (Jvm.Cond.instanceMethod ({ cls := "EditsMeet$Seam", name := "place", desc := "(II)V" } : Jvm.MethodName)) ∈ xTs := xT_6 0 (by rfl) rfl
theorem w_1332 : (Jvm.Cond.selects "EditsMeet$Seam" ({ cls := "EditsMeet$Seam", name := "place", desc := "(II)V" } : Jvm.MethodName) ({ cls := "EditsMeet$Seam", name := "place", desc := "(II)V" } : Jvm.MethodName)) ∈ xTs := xT_6 1 (by rfl) rfl
theorem w_1333 : (Jvm.Cond.code ({ cls := "EditsMeet$Seam", name := "place", desc := "(II)V" } : Jvm.MethodName) prog_7_method_3_code (3 : Nat) (Option.none : Option Jvm.ClassFile.FieldType)) ∈ xTs := xT_6 2 (by rfl) rfl
theorem w_1334 : (Jvm.Cond.methodLink "EditsMeet$Seam" (67 : Nat) ({ cls := "EditsMeet$Edge", name := "start", desc := "(I)V" } : Jvm.MethodName)) ∈ xTs := xT_6 3 (by rfl) rfl
theorem w_1335 : (Jvm.Cond.instanceMethod ({ cls := "EditsMeet$Edge", name := "start", desc := "(I)V" } : Jvm.MethodName)) ∈ xTs := xT_6 4 (by rfl) rfl
theorem w_1336 : (Jvm.Cond.selects "EditsMeet$Edge" ({ cls := "EditsMeet$Edge", name := "start", desc := "(I)V" } : Jvm.MethodName) ({ cls := "EditsMeet$Edge", name := "start", desc := "(I)V" } : Jvm.MethodName)) ∈ xTs := xT_6 5 (by rfl) rfl
theorem w_1337 : (Jvm.Cond.code ({ cls := "EditsMeet$Edge", name := "start", desc := "(I)V" } : Jvm.MethodName) prog_3_method_2_code (2 : Nat) (Option.none : Option Jvm.ClassFile.FieldType)) ∈ xTs := xT_6 6 (by rfl) rfl
theorem w_1338 : (Jvm.Cond.methodLink "EditsMeet$Edge" (40 : Nat) ({ cls := "EditsMeet$Edge", name := "push", desc := "(II)V" } : Jvm.MethodName)) ∈ xTs := xT_6 7 (by rfl) rfl
theorem w_1339 : (Jvm.Cond.instanceMethod ({ cls := "EditsMeet$Edge", name := "push", desc := "(II)V" } : Jvm.MethodName)) ∈ xTs := xT_6 8 (by rfl) rfl
theorem w_1340 : (Jvm.Cond.selects "EditsMeet$Edge" ({ cls := "EditsMeet$Edge", name := "push", desc := "(II)V" } : Jvm.MethodName) ({ cls := "EditsMeet$Edge", name := "push", desc := "(II)V" } : Jvm.MethodName)) ∈ xTs := xT_6 9 (by rfl) rfl
theorem w_1341 : (Jvm.Cond.code ({ cls := "EditsMeet$Edge", name := "push", desc := "(II)V" } : Jvm.MethodName) prog_3_method_3_code (3 : Nat) (Option.none : Option Jvm.ClassFile.FieldType)) ∈ xTs := xT_6 10 (by rfl) rfl
theorem w_1342 : (Jvm.Cond.methodLink "EditsMeet$Loom" (136 : Nat) ({ cls := "EditsMeet$Works", name := "put", desc := "(II)V" } : Jvm.MethodName)) ∈ xTs := xT_6 11 (by rfl) rfl
theorem w_1343 : (Jvm.Cond.instanceMethod ({ cls := "EditsMeet$Works", name := "put", desc := "(II)V" } : Jvm.MethodName)) ∈ xTs := xT_6 12 (by rfl) rfl
theorem w_1344 : (Jvm.Cond.selects "EditsMeet$Works" ({ cls := "EditsMeet$Works", name := "put", desc := "(II)V" } : Jvm.MethodName) ({ cls := "EditsMeet$Works", name := "put", desc := "(II)V" } : Jvm.MethodName)) ∈ xTs := xT_6 13 (by rfl) rfl
theorem w_1345 : (Jvm.Cond.code ({ cls := "EditsMeet$Works", name := "put", desc := "(II)V" } : Jvm.MethodName) prog_12_method_22_code (3 : Nat) (Option.none : Option Jvm.ClassFile.FieldType)) ∈ xTs := xT_6 14 (by rfl) rfl
theorem w_1346 : (Jvm.Cond.methodLink "EditsMeet$Works" (108 : Nat) ({ cls := "EditsMeet$Trees", name := "from", desc := "(I)J" } : Jvm.MethodName)) ∈ xTs := xT_6 15 (by rfl) rfl
theorem w_1347 : (Jvm.Cond.methodLink "EditsMeet$Works" (109 : Nat) ({ cls := "EditsMeet$Trees", name := "to", desc := "(I)J" } : Jvm.MethodName)) ∈ xTs := xT_6 16 (by rfl) rfl
theorem w_1348 : (Jvm.Cond.methodLink "EditsMeet$Works" (110 : Nat) ({ cls := "EditsMeet$Trees", name := "hasDelete", desc := "(I)Z" } : Jvm.MethodName)) ∈ xTs := xT_6 17 (by rfl) rfl
theorem w_1349 : (Jvm.Cond.instanceMethod ({ cls := "EditsMeet$Trees", name := "hasDelete", desc := "(I)Z" } : Jvm.MethodName)) ∈ xTs := xT_6 18 (by rfl) rfl
theorem w_1350 : (Jvm.Cond.selects "EditsMeet$Trees" ({ cls := "EditsMeet$Trees", name := "hasDelete", desc := "(I)Z" } : Jvm.MethodName) ({ cls := "EditsMeet$Trees", name := "hasDelete", desc := "(I)Z" } : Jvm.MethodName)) ∈ xTs := xT_6 19 (by rfl) rfl
theorem w_1351 : (Jvm.Cond.code ({ cls := "EditsMeet$Trees", name := "hasDelete", desc := "(I)Z" } : Jvm.MethodName) prog_11_method_18_code (2 : Nat) (Option.some Jvm.ClassFile.FieldType.boolean)) ∈ xTs := xT_6 20 (by rfl) rfl
theorem w_1352 : (Jvm.Cond.methodLink "EditsMeet$Works" (113 : Nat) ({ cls := "EditsMeet$Trees", name := "leaves", desc := "(I)I" } : Jvm.MethodName)) ∈ xTs := xT_6 21 (by rfl) rfl
theorem w_1359 : (Jvm.Cond.methodLink "EditsMeet$Loom" (143 : Nat) ({ cls := "EditsMeet$Loom", name := "atOnce", desc := "(III)I" } : Jvm.MethodName)) ∈ xTs := xT_6 28 (by rfl) rfl
theorem w_1361 : (Jvm.Cond.instanceMethod ({ cls := "EditsMeet$Loom", name := "atOnce", desc := "(III)I" } : Jvm.MethodName)) ∈ xTs := xT_6 30 (by rfl) rfl
theorem w_1362 : (Jvm.Cond.code ({ cls := "EditsMeet$Loom", name := "atOnce", desc := "(III)I" } : Jvm.MethodName) prog_4_method_10_code (8 : Nat) (Option.some Jvm.ClassFile.FieldType.int)) ∈ xTs := xT_6 31 (by rfl) rfl
theorem w_1363 : (Jvm.Cond.methodLink "EditsMeet$Loom" (263 : Nat) ({ cls := "EditsMeet$Trees", name := "to", desc := "(I)J" } : Jvm.MethodName)) ∈ xTs := xT_6 32 (by rfl) rfl
theorem w_1364 : (Jvm.Cond.methodLink "EditsMeet$Loom" (80 : Nat) ({ cls := "EditsMeet$Trees", name := "leaf", desc := "(IJ)I" } : Jvm.MethodName)) ∈ xTs := xT_6 33 (by rfl) rfl
theorem w_1365 : (Jvm.Cond.instanceMethod ({ cls := "EditsMeet$Trees", name := "leaf", desc := "(IJ)I" } : Jvm.MethodName)) ∈ xTs := xT_6 34 (by rfl) rfl
theorem w_1366 : (Jvm.Cond.selects "EditsMeet$Trees" ({ cls := "EditsMeet$Trees", name := "leaf", desc := "(IJ)I" } : Jvm.MethodName) ({ cls := "EditsMeet$Trees", name := "leaf", desc := "(IJ)I" } : Jvm.MethodName)) ∈ xTs := xT_6 35 (by rfl) rfl
theorem w_1367 : (Jvm.Cond.code ({ cls := "EditsMeet$Trees", name := "leaf", desc := "(IJ)I" } : Jvm.MethodName) prog_11_method_23_code (4 : Nat) (Option.some Jvm.ClassFile.FieldType.int)) ∈ xTs := xT_6 36 (by rfl) rfl
theorem w_1368 : (Jvm.Cond.methodLink "EditsMeet$Loom" (266 : Nat) ({ cls := "EditsMeet$Trees", name := "act", desc := "(I)I" } : Jvm.MethodName)) ∈ xTs := xT_6 37 (by rfl) rfl
theorem w_1369 : (Jvm.Cond.instanceMethod ({ cls := "EditsMeet$Trees", name := "act", desc := "(I)I" } : Jvm.MethodName)) ∈ xTs := xT_6 38 (by rfl) rfl
theorem w_1370 : (Jvm.Cond.selects "EditsMeet$Trees" ({ cls := "EditsMeet$Trees", name := "act", desc := "(I)I" } : Jvm.MethodName) ({ cls := "EditsMeet$Trees", name := "act", desc := "(I)I" } : Jvm.MethodName)) ∈ xTs := xT_6 39 (by rfl) rfl
theorem w_1371 : (Jvm.Cond.code ({ cls := "EditsMeet$Trees", name := "act", desc := "(I)I" } : Jvm.MethodName) prog_11_method_10_code (3 : Nat) (Option.some Jvm.ClassFile.FieldType.int)) ∈ xTs := xT_6 40 (by rfl) rfl
theorem w_1372 : (Jvm.Cond.methodLink "EditsMeet$Loom" (269 : Nat) ({ cls := "EditsMeet$Trees", name := "from", desc := "(I)J" } : Jvm.MethodName)) ∈ xTs := xT_6 41 (by rfl) rfl
theorem w_1373 : (Jvm.Cond.methodLink "EditsMeet$Loom" (272 : Nat) ({ cls := "EditsMeet$Loom", name := "woven", desc := "(III)I" } : Jvm.MethodName)) ∈ xTs := xT_6 42 (by rfl) rfl
theorem w_1374 : (Jvm.Cond.methodLink "EditsMeet$Loom" (146 : Nat) ({ cls := "EditsMeet$Loom", name := "remembered", desc := "(II)I" } : Jvm.MethodName)) ∈ xTs := xT_6 43 (by rfl) rfl
theorem w_1376 : (Jvm.Cond.instanceMethod ({ cls := "EditsMeet$Loom", name := "remembered", desc := "(II)I" } : Jvm.MethodName)) ∈ xTs := xT_6 45 (by rfl) rfl
theorem w_1377 : (Jvm.Cond.code ({ cls := "EditsMeet$Loom", name := "remembered", desc := "(II)I" } : Jvm.MethodName) prog_4_method_17_code (9 : Nat) (Option.some Jvm.ClassFile.FieldType.int)) ∈ xTs := xT_6 46 (by rfl) rfl
theorem w_1378 : (Jvm.Cond.methodLink "EditsMeet$Loom" (309 : Nat) ({ cls := "EditsMeet$Loom", name := "keyOf", desc := "(II)J" } : Jvm.MethodName)) ∈ xTs := xT_6 47 (by rfl) rfl
theorem w_1380 : (Jvm.Cond.instanceMethod ({ cls := "EditsMeet$Loom", name := "keyOf", desc := "(II)J" } : Jvm.MethodName)) ∈ xTs := xT_6 49 (by rfl) rfl
theorem w_1381 : (Jvm.Cond.code ({ cls := "EditsMeet$Loom", name := "keyOf", desc := "(II)J" } : Jvm.MethodName) prog_4_method_16_code (7 : Nat) (Option.some Jvm.ClassFile.FieldType.long)) ∈ xTs := xT_6 50 (by rfl) rfl
theorem w_1382 : (Jvm.Cond.constantLong "EditsMeet$Loom" (303 : Nat) (4 : Int64)) ∈ xTs := xT_6 51 (by rfl) rfl
theorem w_1383 : (Jvm.Cond.constantLong "EditsMeet$Loom" (305 : Nat) (-7046029254386353131 : Int64)) ∈ xTs := xT_6 52 (by rfl) rfl
theorem w_1384 : (Jvm.Cond.constantLong "EditsMeet$Loom" (307 : Nat) (17592186044415 : Int64)) ∈ xTs := xT_6 53 (by rfl) rfl
theorem w_1385 : (Jvm.Cond.constant "EditsMeet$Loom" (312 : Nat) (131071 : Int32)) ∈ xTs := xT_6 54 (by rfl) rfl
theorem w_1386 : (Jvm.Cond.constantLong "EditsMeet$Loom" (318 : Nat) (134217728 : Int64)) ∈ xTs := xT_6 55 (by rfl) rfl
theorem w_1387 : (Jvm.Cond.constant "EditsMeet$Loom" (320 : Nat) (2097151 : Int32)) ∈ xTs := xT_6 56 (by rfl) rfl
theorem w_1388 : (Jvm.Cond.methodLink "EditsMeet$Loom" (149 : Nat) ({ cls := "EditsMeet$Loom", name := "leafByLeaf", desc := "(III)I" } : Jvm.MethodName)) ∈ xTs := xT_6 57 (by rfl) rfl
theorem w_1390 : (Jvm.Cond.instanceMethod ({ cls := "EditsMeet$Loom", name := "leafByLeaf", desc := "(III)I" } : Jvm.MethodName)) ∈ xTs := xT_6 59 (by rfl) rfl
theorem w_1391 : (Jvm.Cond.code ({ cls := "EditsMeet$Loom", name := "leafByLeaf", desc := "(III)I" } : Jvm.MethodName) prog_4_method_12_code (14 : Nat) (Option.some Jvm.ClassFile.FieldType.int)) ∈ xTs := xT_6 60 (by rfl) rfl
theorem w_1392 : (Jvm.Cond.methodLink "EditsMeet$Loom" (275 : Nat) ({ cls := "EditsMeet$Loom", name := "flatten", desc := "(ILEditsMeet$Edge;)V" } : Jvm.MethodName)) ∈ xTs := xT_6 61 (by rfl) rfl
theorem w_1394 : (Jvm.Cond.instanceMethod ({ cls := "EditsMeet$Loom", name := "flatten", desc := "(ILEditsMeet$Edge;)V" } : Jvm.MethodName)) ∈ xTs := xT_6 63 (by rfl) rfl
theorem w_1395 : (Jvm.Cond.code ({ cls := "EditsMeet$Loom", name := "flatten", desc := "(ILEditsMeet$Edge;)V" } : Jvm.MethodName) prog_4_method_15_code (10 : Nat) (Option.none : Option Jvm.ClassFile.FieldType)) ∈ xTs := xT_6 64 (by rfl) rfl
theorem w_1396 : (Jvm.Cond.methodLink "EditsMeet$Loom" (255 : Nat) ({ cls := "EditsMeet$Trees", name := "isLeaf", desc := "(I)Z" } : Jvm.MethodName)) ∈ xTs := xT_6 65 (by rfl) rfl
theorem w_1397 : (Jvm.Cond.instanceMethod ({ cls := "EditsMeet$Trees", name := "isLeaf", desc := "(I)Z" } : Jvm.MethodName)) ∈ xTs := xT_6 66 (by rfl) rfl
theorem w_1398 : (Jvm.Cond.selects "EditsMeet$Trees" ({ cls := "EditsMeet$Trees", name := "isLeaf", desc := "(I)Z" } : Jvm.MethodName) ({ cls := "EditsMeet$Trees", name := "isLeaf", desc := "(I)Z" } : Jvm.MethodName)) ∈ xTs := xT_6 67 (by rfl) rfl
theorem w_1399 : (Jvm.Cond.code ({ cls := "EditsMeet$Trees", name := "isLeaf", desc := "(I)Z" } : Jvm.MethodName) prog_11_method_9_code (2 : Nat) (Option.some Jvm.ClassFile.FieldType.boolean)) ∈ xTs := xT_6 68 (by rfl) rfl
theorem w_1400 : (Jvm.Cond.methodLink "EditsMeet$Loom" (300 : Nat) ({ cls := "EditsMeet$Edge", name := "push", desc := "(II)V" } : Jvm.MethodName)) ∈ xTs := xT_6 69 (by rfl) rfl
theorem w_1401 : (Jvm.Cond.methodLink "EditsMeet$Loom" (225 : Nat) ({ cls := "EditsMeet$Trees", name := "isPair", desc := "(I)Z" } : Jvm.MethodName)) ∈ xTs := xT_6 70 (by rfl) rfl
theorem w_1402 : (Jvm.Cond.instanceMethod ({ cls := "EditsMeet$Trees", name := "isPair", desc := "(I)Z" } : Jvm.MethodName)) ∈ xTs := xT_6 71 (by rfl) rfl
theorem w_1403 : (Jvm.Cond.selects "EditsMeet$Trees" ({ cls := "EditsMeet$Trees", name := "isPair", desc := "(I)Z" } : Jvm.MethodName) ({ cls := "EditsMeet$Trees", name := "isPair", desc := "(I)Z" } : Jvm.MethodName)) ∈ xTs := xT_6 72 (by rfl) rfl
theorem w_1404 : (Jvm.Cond.code ({ cls := "EditsMeet$Trees", name := "isPair", desc := "(I)Z" } : Jvm.MethodName) prog_11_method_8_code (2 : Nat) (Option.some Jvm.ClassFile.FieldType.boolean)) ∈ xTs := xT_6 73 (by rfl) rfl
theorem w_1405 : (Jvm.Cond.methodLink "EditsMeet$Loom" (301 : Nat) ({ cls := "EditsMeet$Trees", name := "right", desc := "(I)I" } : Jvm.MethodName)) ∈ xTs := xT_6 74 (by rfl) rfl
theorem w_1406 : (Jvm.Cond.methodLink "EditsMeet$Loom" (233 : Nat) ({ cls := "EditsMeet$Trees", name := "left", desc := "(I)I" } : Jvm.MethodName)) ∈ xTs := xT_6 75 (by rfl) rfl
theorem w_1408 : (Jvm.Cond.methodLink "EditsMeet$Loom" (280 : Nat) ({ cls := "EditsMeet$Edge", name := "base", desc := "()I" } : Jvm.MethodName)) ∈ xTs := xT_6 77 (by rfl) rfl
theorem w_1409 : (Jvm.Cond.methodLink "EditsMeet$Loom" (284 : Nat) ({ cls := "EditsMeet$Loom", name := "isAlone", desc := "(IZII)Z" } : Jvm.MethodName)) ∈ xTs := xT_6 78 (by rfl) rfl
theorem w_1410 : (Jvm.Cond.methodLink "EditsMeet$Loom" (288 : Nat) ({ cls := "EditsMeet$Edge", name := "count", desc := "()J" } : Jvm.MethodName)) ∈ xTs := xT_6 79 (by rfl) rfl
theorem w_1411 : (Jvm.Cond.methodLink "EditsMeet$Loom" (292 : Nat) ({ cls := "EditsMeet$Loom", name := "alone", desc := "(IZI)I" } : Jvm.MethodName)) ∈ xTs := xT_6 80 (by rfl) rfl
theorem w_1412 : (Jvm.Cond.methodLink "EditsMeet$Loom" (296 : Nat) ({ cls := "EditsMeet$Edge", name := "drop", desc := "(J)V" } : Jvm.MethodName)) ∈ xTs := xT_6 81 (by rfl) rfl
theorem w_1413 : (Jvm.Cond.methodLink "EditsMeet$Loom" (152 : Nat) ({ cls := "EditsMeet$Loom", name := "remember", desc := "(III)V" } : Jvm.MethodName)) ∈ xTs := xT_6 82 (by rfl) rfl
theorem w_1415 : (Jvm.Cond.instanceMethod ({ cls := "EditsMeet$Loom", name := "remember", desc := "(III)V" } : Jvm.MethodName)) ∈ xTs := xT_6 84 (by rfl) rfl
theorem w_1416 : (Jvm.Cond.code ({ cls := "EditsMeet$Loom", name := "remember", desc := "(III)V" } : Jvm.MethodName) prog_4_method_18_code (8 : Nat) (Option.none : Option Jvm.ClassFile.FieldType)) ∈ xTs := xT_6 85 (by rfl) rfl
theorem w_1436 : (Jvm.Cond.instanceMethod ({ cls := "EditsMeet$Trees", name := "beginsWithLetter", desc := "(I)Z" } : Jvm.MethodName)) ∈ xTs := xT_6 105 (by rfl) rfl
theorem w_1437 : (Jvm.Cond.selects "EditsMeet$Trees" ({ cls := "EditsMeet$Trees", name := "beginsWithLetter", desc := "(I)Z" } : Jvm.MethodName) ({ cls := "EditsMeet$Trees", name := "beginsWithLetter", desc := "(I)Z" } : Jvm.MethodName)) ∈ xTs := xT_6 106 (by rfl) rfl
theorem w_1438 : (Jvm.Cond.code ({ cls := "EditsMeet$Trees", name := "beginsWithLetter", desc := "(I)Z" } : Jvm.MethodName) prog_11_method_15_code (2 : Nat) (Option.some Jvm.ClassFile.FieldType.boolean)) ∈ xTs := xT_6 107 (by rfl) rfl
theorem w_1449 : (Jvm.Cond.methodLink "EditsMeet$Seam" (49 : Nat) ({ cls := "EditsMeet$Trees", name := "beginsWithLetter", desc := "(I)Z" } : Jvm.MethodName)) ∈ xTs := xT_6 118 (by rfl) rfl
theorem w_1462 : (Jvm.Cond.methodLink "EditsMeet$Seam" (43 : Nat) ({ cls := "EditsMeet$Trees", name := "endsWithDelete", desc := "(I)Z" } : Jvm.MethodName)) ∈ xTs := xT_6 131 (by rfl) rfl
theorem w_1463 : (Jvm.Cond.instanceMethod ({ cls := "EditsMeet$Trees", name := "endsWithDelete", desc := "(I)Z" } : Jvm.MethodName)) ∈ xTs := xT_6 132 (by rfl) rfl
theorem w_1464 : (Jvm.Cond.selects "EditsMeet$Trees" ({ cls := "EditsMeet$Trees", name := "endsWithDelete", desc := "(I)Z" } : Jvm.MethodName) ({ cls := "EditsMeet$Trees", name := "endsWithDelete", desc := "(I)Z" } : Jvm.MethodName)) ∈ xTs := xT_6 133 (by rfl) rfl
theorem w_1465 : (Jvm.Cond.code ({ cls := "EditsMeet$Trees", name := "endsWithDelete", desc := "(I)Z" } : Jvm.MethodName) prog_11_method_17_code (2 : Nat) (Option.some Jvm.ClassFile.FieldType.boolean)) ∈ xTs := xT_6 134 (by rfl) rfl
theorem w_1466 : (Jvm.Cond.constantLong "EditsMeet$Trees" (90 : Nat) (9007199254740992 : Int64)) ∈ xTs := xT_6 135 (by rfl) rfl
theorem w_1473 : (Jvm.Cond.methodLink "EditsMeet$Loom" (84 : Nat) ({ cls := "EditsMeet$Seam", name := "join", desc := "(II)I" } : Jvm.MethodName)) ∈ xTs := xT_6 142 (by rfl) rfl
theorem w_1474 : (Jvm.Cond.instanceMethod ({ cls := "EditsMeet$Seam", name := "join", desc := "(II)I" } : Jvm.MethodName)) ∈ xTs := xT_6 143 (by rfl) rfl
theorem w_1475 : (Jvm.Cond.selects "EditsMeet$Seam" ({ cls := "EditsMeet$Seam", name := "join", desc := "(II)I" } : Jvm.MethodName) ({ cls := "EditsMeet$Seam", name := "join", desc := "(II)I" } : Jvm.MethodName)) ∈ xTs := xT_6 144 (by rfl) rfl
theorem w_1476 : (Jvm.Cond.code ({ cls := "EditsMeet$Seam", name := "join", desc := "(II)I" } : Jvm.MethodName) prog_7_method_2_code (9 : Nat) (Option.some Jvm.ClassFile.FieldType.int)) ∈ xTs := xT_6 145 (by rfl) rfl
theorem w_1482 : (Jvm.Cond.methodLink "EditsMeet$Seam" (56 : Nat) ({ cls := "EditsMeet$Seam", name := "settle", desc := "(LEditsMeet$Edge;LEditsMeet$Edge;)I" } : Jvm.MethodName)) ∈ xTs := xT_6 151 (by rfl) rfl
theorem w_1484 : (Jvm.Cond.methodLink "EditsMeet$Seam" (63 : Nat) ({ cls := "EditsMeet$Seam", name := "place", desc := "(II)V" } : Jvm.MethodName)) ∈ xTs := xT_6 153 (by rfl) rfl
theorem w_1489 : (Jvm.Cond.methodLink "EditsMeet$Teller" (83 : Nat) ({ cls := "EditsMeet$Works", name := "isThere", desc := "(I)Z" } : Jvm.MethodName)) ∈ xTs := xT_6 158 (by rfl) rfl
theorem w_1490 : (Jvm.Cond.methodLink "EditsMeet$Teller" (119 : Nat) ({ cls := "EditsMeet$Teller", name := "sumOf", desc := "(II)J" } : Jvm.MethodName)) ∈ xTs := xT_6 159 (by rfl) rfl
theorem w_1491 : (Jvm.Cond.instanceMethod ({ cls := "EditsMeet$Teller", name := "sumOf", desc := "(II)J" } : Jvm.MethodName)) ∈ xTs := xT_6 160 (by rfl) rfl
theorem w_1492 : (Jvm.Cond.selects "EditsMeet$Teller" ({ cls := "EditsMeet$Teller", name := "sumOf", desc := "(II)J" } : Jvm.MethodName) ({ cls := "EditsMeet$Teller", name := "sumOf", desc := "(II)J" } : Jvm.MethodName)) ∈ xTs := xT_6 161 (by rfl) rfl
theorem w_1493 : (Jvm.Cond.code ({ cls := "EditsMeet$Teller", name := "sumOf", desc := "(II)J" } : Jvm.MethodName) prog_10_method_2_code (11 : Nat) (Option.some Jvm.ClassFile.FieldType.long)) ∈ xTs := xT_6 162 (by rfl) rfl
theorem w_1494 : (Jvm.Cond.constant "EditsMeet$Teller" (76 : Nat) (262144 : Int32)) ∈ xTs := xT_6 163 (by rfl) rfl
theorem w_1495 : (Jvm.Cond.methodLink "EditsMeet$Teller" (77 : Nat) ({ cls := "java/util/Arrays", name := "fill", desc := "([JIIJ)V" } : Jvm.MethodName)) ∈ xTs := xT_6 164 (by rfl) rfl
theorem w_1496 : (Jvm.Cond.methodLink "EditsMeet$Teller" (87 : Nat) ({ cls := "EditsMeet$Works", name := "node", desc := "(I)I" } : Jvm.MethodName)) ∈ xTs := xT_6 165 (by rfl) rfl
theorem w_1497 : (Jvm.Cond.methodLink "EditsMeet$Teller" (91 : Nat) ({ cls := "EditsMeet$Teller", name := "sum", desc := "(I)J" } : Jvm.MethodName)) ∈ xTs := xT_6 166 (by rfl) rfl
theorem w_1499 : (Jvm.Cond.instanceMethod ({ cls := "EditsMeet$Teller", name := "sum", desc := "(I)J" } : Jvm.MethodName)) ∈ xTs := xT_6 168 (by rfl) rfl
theorem w_1500 : (Jvm.Cond.code ({ cls := "EditsMeet$Teller", name := "sum", desc := "(I)J" } : Jvm.MethodName) prog_10_method_4_code (9 : Nat) (Option.some Jvm.ClassFile.FieldType.long)) ∈ xTs := xT_6 169 (by rfl) rfl
theorem w_1501 : (Jvm.Cond.methodLink "EditsMeet$Teller" (123 : Nat) ({ cls := "EditsMeet$Teller", name := "atHand", desc := "(I)J" } : Jvm.MethodName)) ∈ xTs := xT_6 170 (by rfl) rfl
theorem w_1503 : (Jvm.Cond.instanceMethod ({ cls := "EditsMeet$Teller", name := "atHand", desc := "(I)J" } : Jvm.MethodName)) ∈ xTs := xT_6 172 (by rfl) rfl
theorem w_1504 : (Jvm.Cond.code ({ cls := "EditsMeet$Teller", name := "atHand", desc := "(I)J" } : Jvm.MethodName) prog_10_method_6_code (6 : Nat) (Option.some Jvm.ClassFile.FieldType.long)) ∈ xTs := xT_6 173 (by rfl) rfl
theorem w_1533 : (Jvm.Cond.constantLong "EditsMeet$Teller" (126 : Nat) (-1 : Int64)) ∈ xTs := xT_6 202 (by rfl) rfl
theorem w_1538 : (Jvm.Cond.constant "EditsMeet$Teller" (131 : Nat) (1073741824 : Int32)) ∈ xTs := xT_6 207 (by rfl) rfl
theorem w_1598 : (Jvm.Cond.methodLink "EditsMeetLaw" (44 : Nat) ({ cls := "EditsMeet", name := "says", desc := "(II)I" } : Jvm.MethodName)) ∈ xTs := xT_7 27 (by rfl) rfl
theorem w_1599 : (Jvm.Cond.instanceMethod ({ cls := "EditsMeet", name := "says", desc := "(II)I" } : Jvm.MethodName)) ∈ xTs := xT_7 28 (by rfl) rfl
theorem w_1600 : (Jvm.Cond.selects "EditsMeet" ({ cls := "EditsMeet", name := "says", desc := "(II)I" } : Jvm.MethodName) ({ cls := "EditsMeet", name := "says", desc := "(II)I" } : Jvm.MethodName)) ∈ xTs := xT_7 29 (by rfl) rfl
theorem w_1601 : (Jvm.Cond.code ({ cls := "EditsMeet", name := "says", desc := "(II)I" } : Jvm.MethodName) prog_1_method_8_code (4 : Nat) (Option.some Jvm.ClassFile.FieldType.int)) ∈ xTs := xT_7 30 (by rfl) rfl
theorem w_1602 : (Jvm.Cond.methodLink "EditsMeet" (169 : Nat) ({ cls := "EditsMeet$Shelf", name := "holdsRow", desc := "()Z" } : Jvm.MethodName)) ∈ xTs := xT_7 31 (by rfl) rfl
theorem w_1622 : (Jvm.Cond.static ({ cls := "EditsMeet", name := "told", desc := "(J)I" } : Jvm.MethodName)) ∈ xTs := xT_7 51 (by rfl) rfl
theorem w_1623 : (Jvm.Cond.code ({ cls := "EditsMeet", name := "told", desc := "(J)I" } : Jvm.MethodName) prog_1_method_11_code (2 : Nat) (Option.some Jvm.ClassFile.FieldType.int)) ∈ xTs := xT_7 52 (by rfl) rfl
theorem w_1624 : (Jvm.Cond.constantLong "EditsMeet" (183 : Nat) (2147483647 : Int64)) ∈ xTs := xT_7 53 (by rfl) rfl
theorem w_1626 : (Jvm.Cond.methodLink "EditsMeetLaw" (49 : Nat) ({ cls := "EditsMeet", name := "feed", desc := "(I)I" } : Jvm.MethodName)) ∈ xTs := xT_7 55 (by rfl) rfl
theorem w_1627 : (Jvm.Cond.instanceMethod ({ cls := "EditsMeet", name := "feed", desc := "(I)I" } : Jvm.MethodName)) ∈ xTs := xT_7 56 (by rfl) rfl
theorem w_1628 : (Jvm.Cond.selects "EditsMeet" ({ cls := "EditsMeet", name := "feed", desc := "(I)I" } : Jvm.MethodName) ({ cls := "EditsMeet", name := "feed", desc := "(I)I" } : Jvm.MethodName)) ∈ xTs := xT_7 57 (by rfl) rfl
theorem w_1629 : (Jvm.Cond.code ({ cls := "EditsMeet", name := "feed", desc := "(I)I" } : Jvm.MethodName) prog_1_method_13_code (2 : Nat) (Option.some Jvm.ClassFile.FieldType.int)) ∈ xTs := xT_7 58 (by rfl) rfl
theorem w_1630 : (Jvm.Cond.methodLink "EditsMeet" (188 : Nat) ({ cls := "EditsMeet$Tape", name := "add", desc := "(I)V" } : Jvm.MethodName)) ∈ xTs := xT_7 59 (by rfl) rfl
theorem w_1631 : (Jvm.Cond.instanceMethod ({ cls := "EditsMeet$Tape", name := "add", desc := "(I)V" } : Jvm.MethodName)) ∈ xTs := xT_7 60 (by rfl) rfl
theorem w_1632 : (Jvm.Cond.selects "EditsMeet$Tape" ({ cls := "EditsMeet$Tape", name := "add", desc := "(I)V" } : Jvm.MethodName) ({ cls := "EditsMeet$Tape", name := "add", desc := "(I)V" } : Jvm.MethodName)) ∈ xTs := xT_7 61 (by rfl) rfl
theorem w_1633 : (Jvm.Cond.code ({ cls := "EditsMeet$Tape", name := "add", desc := "(I)V" } : Jvm.MethodName) prog_9_method_2_code (2 : Nat) (Option.none : Option Jvm.ClassFile.FieldType)) ∈ xTs := xT_7 62 (by rfl) rfl
theorem w_1634 : (Jvm.Cond.methodLink "EditsMeetLaw" (53 : Nat) ({ cls := "EditsMeet", name := "wipe", desc := "()I" } : Jvm.MethodName)) ∈ xTs := xT_7 63 (by rfl) rfl
theorem w_1635 : (Jvm.Cond.instanceMethod ({ cls := "EditsMeet", name := "wipe", desc := "()I" } : Jvm.MethodName)) ∈ xTs := xT_7 64 (by rfl) rfl
theorem w_1636 : (Jvm.Cond.selects "EditsMeet" ({ cls := "EditsMeet", name := "wipe", desc := "()I" } : Jvm.MethodName) ({ cls := "EditsMeet", name := "wipe", desc := "()I" } : Jvm.MethodName)) ∈ xTs := xT_7 65 (by rfl) rfl
theorem w_1637 : (Jvm.Cond.code ({ cls := "EditsMeet", name := "wipe", desc := "()I" } : Jvm.MethodName) prog_1_method_14_code (2 : Nat) (Option.some Jvm.ClassFile.FieldType.int)) ∈ xTs := xT_7 66 (by rfl) rfl
theorem w_1638 : (Jvm.Cond.methodLink "EditsMeetLaw" (58 : Nat) ({ cls := "EditsMeet", name := "edit", desc := "(I)I" } : Jvm.MethodName)) ∈ xTs := xT_7 67 (by rfl) rfl
theorem w_1639 : (Jvm.Cond.instanceMethod ({ cls := "EditsMeet", name := "edit", desc := "(I)I" } : Jvm.MethodName)) ∈ xTs := xT_7 68 (by rfl) rfl
theorem w_1640 : (Jvm.Cond.selects "EditsMeet" ({ cls := "EditsMeet", name := "edit", desc := "(I)I" } : Jvm.MethodName) ({ cls := "EditsMeet", name := "edit", desc := "(I)I" } : Jvm.MethodName)) ∈ xTs := xT_7 69 (by rfl) rfl
theorem w_1641 : (Jvm.Cond.code ({ cls := "EditsMeet", name := "edit", desc := "(I)I" } : Jvm.MethodName) prog_1_method_15_code (5 : Nat) (Option.some Jvm.ClassFile.FieldType.int)) ∈ xTs := xT_7 70 (by rfl) rfl
theorem w_1642 : (Jvm.Cond.methodLink "EditsMeet" (192 : Nat) ({ cls := "EditsMeet$Tape", name := "reads", desc := "()I" } : Jvm.MethodName)) ∈ xTs := xT_7 71 (by rfl) rfl
theorem w_1643 : (Jvm.Cond.instanceMethod ({ cls := "EditsMeet$Tape", name := "reads", desc := "()I" } : Jvm.MethodName)) ∈ xTs := xT_7 72 (by rfl) rfl
theorem w_1644 : (Jvm.Cond.selects "EditsMeet$Tape" ({ cls := "EditsMeet$Tape", name := "reads", desc := "()I" } : Jvm.MethodName) ({ cls := "EditsMeet$Tape", name := "reads", desc := "()I" } : Jvm.MethodName)) ∈ xTs := xT_7 73 (by rfl) rfl
theorem w_1645 : (Jvm.Cond.code ({ cls := "EditsMeet$Tape", name := "reads", desc := "()I" } : Jvm.MethodName) prog_9_method_3_code (3 : Nat) (Option.some Jvm.ClassFile.FieldType.int)) ∈ xTs := xT_7 74 (by rfl) rfl
theorem w_1680 : (Jvm.Cond.methodLink "EditsMeet$Tape" (84 : Nat) ({ cls := "EditsMeet$Works", name := "known", desc := "(I)I" } : Jvm.MethodName)) ∈ xTs := xT_7 109 (by rfl) rfl
theorem w_1681 : (Jvm.Cond.instanceMethod ({ cls := "EditsMeet$Works", name := "known", desc := "(I)I" } : Jvm.MethodName)) ∈ xTs := xT_7 110 (by rfl) rfl
theorem w_1682 : (Jvm.Cond.selects "EditsMeet$Works" ({ cls := "EditsMeet$Works", name := "known", desc := "(I)I" } : Jvm.MethodName) ({ cls := "EditsMeet$Works", name := "known", desc := "(I)I" } : Jvm.MethodName)) ∈ xTs := xT_7 111 (by rfl) rfl
theorem w_1683 : (Jvm.Cond.code ({ cls := "EditsMeet$Works", name := "known", desc := "(I)I" } : Jvm.MethodName) prog_12_method_21_code (3 : Nat) (Option.some Jvm.ClassFile.FieldType.int)) ∈ xTs := xT_7 112 (by rfl) rfl
theorem w_1684 : (Jvm.Cond.methodLink "EditsMeet$Works" (101 : Nat) ({ cls := "EditsMeet$Works", name := "put", desc := "(II)V" } : Jvm.MethodName)) ∈ xTs := xT_7 113 (by rfl) rfl
theorem w_1685 : (Jvm.Cond.methodLink "EditsMeet$Tape" (88 : Nat) ({ cls := "EditsMeet$Works", name := "hold", desc := "(II)V" } : Jvm.MethodName)) ∈ xTs := xT_7 114 (by rfl) rfl
theorem w_1686 : (Jvm.Cond.methodLink "EditsMeet" (198 : Nat) ({ cls := "EditsMeet$Works", name := "failed", desc := "()Z" } : Jvm.MethodName)) ∈ xTs := xT_7 115 (by rfl) rfl
theorem w_1687 : (Jvm.Cond.instanceMethod ({ cls := "EditsMeet$Works", name := "failed", desc := "()Z" } : Jvm.MethodName)) ∈ xTs := xT_7 116 (by rfl) rfl
theorem w_1688 : (Jvm.Cond.selects "EditsMeet$Works" ({ cls := "EditsMeet$Works", name := "failed", desc := "()Z" } : Jvm.MethodName) ({ cls := "EditsMeet$Works", name := "failed", desc := "()Z" } : Jvm.MethodName)) ∈ xTs := xT_7 117 (by rfl) rfl
theorem w_1689 : (Jvm.Cond.code ({ cls := "EditsMeet$Works", name := "failed", desc := "()Z" } : Jvm.MethodName) prog_12_method_8_code (2 : Nat) (Option.some Jvm.ClassFile.FieldType.boolean)) ∈ xTs := xT_7 118 (by rfl) rfl
theorem w_1690 : (Jvm.Cond.methodLink "EditsMeet" (201 : Nat) ({ cls := "EditsMeet$Works", name := "letGo", desc := "(II)V" } : Jvm.MethodName)) ∈ xTs := xT_7 119 (by rfl) rfl
theorem w_1691 : (Jvm.Cond.instanceMethod ({ cls := "EditsMeet$Works", name := "letGo", desc := "(II)V" } : Jvm.MethodName)) ∈ xTs := xT_7 120 (by rfl) rfl
theorem w_1692 : (Jvm.Cond.selects "EditsMeet$Works" ({ cls := "EditsMeet$Works", name := "letGo", desc := "(II)V" } : Jvm.MethodName) ({ cls := "EditsMeet$Works", name := "letGo", desc := "(II)V" } : Jvm.MethodName)) ∈ xTs := xT_7 121 (by rfl) rfl
theorem w_1693 : (Jvm.Cond.code ({ cls := "EditsMeet$Works", name := "letGo", desc := "(II)V" } : Jvm.MethodName) prog_12_method_5_code (4 : Nat) (Option.none : Option Jvm.ClassFile.FieldType)) ∈ xTs := xT_7 122 (by rfl) rfl
theorem w_1694 : (Jvm.Cond.methodLink "EditsMeet$Works" (52 : Nat) ({ cls := "EditsMeet$Works", name := "hold", desc := "(II)V" } : Jvm.MethodName)) ∈ xTs := xT_7 123 (by rfl) rfl
theorem w_1699 : (Jvm.Cond.methodLink "EditsMeet" (261 : Nat) ({ cls := "EditsMeet$Works", name := "hold", desc := "(II)V" } : Jvm.MethodName)) ∈ xTs := xT_7 128 (by rfl) rfl
theorem w_1700 : (Jvm.Cond.methodLink "EditsMeet" (211 : Nat) ({ cls := "EditsMeet$Teller", name := "sumOf", desc := "(II)J" } : Jvm.MethodName)) ∈ xTs := xT_7 129 (by rfl) rfl
theorem w_1701 : (Jvm.Cond.methodLink "EditsMeet" (215 : Nat) ({ cls := "EditsMeet", name := "told", desc := "(J)I" } : Jvm.MethodName)) ∈ xTs := xT_7 130 (by rfl) rfl
theorem w_1702 : (Jvm.Cond.methodLink "EditsMeetLaw" (62 : Nat) ({ cls := "EditsMeet", name := "of", desc := "(II)I" } : Jvm.MethodName)) ∈ xTs := xT_7 131 (by rfl) rfl
theorem w_1703 : (Jvm.Cond.instanceMethod ({ cls := "EditsMeet", name := "of", desc := "(II)I" } : Jvm.MethodName)) ∈ xTs := xT_7 132 (by rfl) rfl
theorem w_1704 : (Jvm.Cond.selects "EditsMeet" ({ cls := "EditsMeet", name := "of", desc := "(II)I" } : Jvm.MethodName) ({ cls := "EditsMeet", name := "of", desc := "(II)I" } : Jvm.MethodName)) ∈ xTs := xT_7 133 (by rfl) rfl
theorem w_1705 : (Jvm.Cond.code ({ cls := "EditsMeet", name := "of", desc := "(II)I" } : Jvm.MethodName) prog_1_method_16_code (4 : Nat) (Option.some Jvm.ClassFile.FieldType.int)) ∈ xTs := xT_7 134 (by rfl) rfl
theorem w_1706 : (Jvm.Cond.methodLink "EditsMeet" (208 : Nat) ({ cls := "EditsMeet", name := "measured", desc := "(I)I" } : Jvm.MethodName)) ∈ xTs := xT_7 135 (by rfl) rfl
theorem w_1708 : (Jvm.Cond.instanceMethod ({ cls := "EditsMeet", name := "measured", desc := "(I)I" } : Jvm.MethodName)) ∈ xTs := xT_7 137 (by rfl) rfl
theorem w_1709 : (Jvm.Cond.code ({ cls := "EditsMeet", name := "measured", desc := "(I)I" } : Jvm.MethodName) prog_1_method_27_code (2 : Nat) (Option.some Jvm.ClassFile.FieldType.int)) ∈ xTs := xT_7 138 (by rfl) rfl
theorem w_1710 : (Jvm.Cond.methodLink "EditsMeet" (222 : Nat) ({ cls := "EditsMeet$Works", name := "to", desc := "(I)J" } : Jvm.MethodName)) ∈ xTs := xT_7 139 (by rfl) rfl
theorem w_1711 : (Jvm.Cond.constantLong "EditsMeet" (267 : Nat) (-1 : Int64)) ∈ xTs := xT_7 140 (by rfl) rfl
theorem w_1723 : (Jvm.Cond.methodLink "EditsMeetLaw" (66 : Nat) ({ cls := "EditsMeet", name := "part", desc := "(III)I" } : Jvm.MethodName)) ∈ xTs := xT_7 152 (by rfl) rfl
theorem w_1724 : (Jvm.Cond.instanceMethod ({ cls := "EditsMeet", name := "part", desc := "(III)I" } : Jvm.MethodName)) ∈ xTs := xT_7 153 (by rfl) rfl
theorem w_1725 : (Jvm.Cond.selects "EditsMeet" ({ cls := "EditsMeet", name := "part", desc := "(III)I" } : Jvm.MethodName) ({ cls := "EditsMeet", name := "part", desc := "(III)I" } : Jvm.MethodName)) ∈ xTs := xT_7 154 (by rfl) rfl
theorem w_1726 : (Jvm.Cond.code ({ cls := "EditsMeet", name := "part", desc := "(III)I" } : Jvm.MethodName) prog_1_method_17_code (4 : Nat) (Option.some Jvm.ClassFile.FieldType.int)) ∈ xTs := xT_7 155 (by rfl) rfl
theorem w_1730 : (Jvm.Cond.methodLink "EditsMeetLaw" (70 : Nat) ({ cls := "EditsMeet", name := "letter", desc := "(III)I" } : Jvm.MethodName)) ∈ xTs := xT_7 159 (by rfl) rfl
theorem w_1731 : (Jvm.Cond.instanceMethod ({ cls := "EditsMeet", name := "letter", desc := "(III)I" } : Jvm.MethodName)) ∈ xTs := xT_7 160 (by rfl) rfl
theorem w_1732 : (Jvm.Cond.selects "EditsMeet" ({ cls := "EditsMeet", name := "letter", desc := "(III)I" } : Jvm.MethodName) ({ cls := "EditsMeet", name := "letter", desc := "(III)I" } : Jvm.MethodName)) ∈ xTs := xT_7 161 (by rfl) rfl
theorem w_1733 : (Jvm.Cond.code ({ cls := "EditsMeet", name := "letter", desc := "(III)I" } : Jvm.MethodName) prog_1_method_18_code (6 : Nat) (Option.some Jvm.ClassFile.FieldType.int)) ∈ xTs := xT_7 162 (by rfl) rfl
theorem w_1742 : (Jvm.Cond.methodLink "EditsMeet$Trees" (101 : Nat) ({ cls := "EditsMeet$Trees", name := "isLeaf", desc := "(I)Z" } : Jvm.MethodName)) ∈ xTs := xT_7 171 (by rfl) rfl
theorem w_1743 : (Jvm.Cond.methodLink "EditsMeet$Trees" (107 : Nat) ({ cls := "EditsMeet$Trees", name := "isPair", desc := "(I)Z" } : Jvm.MethodName)) ∈ xTs := xT_7 172 (by rfl) rfl
theorem w_1744 : (Jvm.Cond.methodLink "EditsMeet$Trees" (110 : Nat) ({ cls := "EditsMeet$Trees", name := "act", desc := "(I)I" } : Jvm.MethodName)) ∈ xTs := xT_7 173 (by rfl) rfl
theorem w_1751 : (Jvm.Cond.methodLink "EditsMeetLaw" (74 : Nat) ({ cls := "EditsMeet", name := "spelled", desc := "(II)I" } : Jvm.MethodName)) ∈ xTs := xT_7 180 (by rfl) rfl
theorem w_1752 : (Jvm.Cond.instanceMethod ({ cls := "EditsMeet", name := "spelled", desc := "(II)I" } : Jvm.MethodName)) ∈ xTs := xT_7 181 (by rfl) rfl
theorem w_1753 : (Jvm.Cond.selects "EditsMeet" ({ cls := "EditsMeet", name := "spelled", desc := "(II)I" } : Jvm.MethodName) ({ cls := "EditsMeet", name := "spelled", desc := "(II)I" } : Jvm.MethodName)) ∈ xTs := xT_7 182 (by rfl) rfl
theorem w_1754 : (Jvm.Cond.code ({ cls := "EditsMeet", name := "spelled", desc := "(II)I" } : Jvm.MethodName) prog_1_method_19_code (3 : Nat) (Option.some Jvm.ClassFile.FieldType.int)) ∈ xTs := xT_7 183 (by rfl) rfl
theorem w_1777 : (Jvm.Cond.methodLink "EditsMeetLaw" (78 : Nat) ({ cls := "EditsMeet", name := "behind", desc := "(III)I" } : Jvm.MethodName)) ∈ xTs := xT_7 206 (by rfl) rfl
theorem w_1778 : (Jvm.Cond.instanceMethod ({ cls := "EditsMeet", name := "behind", desc := "(III)I" } : Jvm.MethodName)) ∈ xTs := xT_7 207 (by rfl) rfl
theorem w_1779 : (Jvm.Cond.selects "EditsMeet" ({ cls := "EditsMeet", name := "behind", desc := "(III)I" } : Jvm.MethodName) ({ cls := "EditsMeet", name := "behind", desc := "(III)I" } : Jvm.MethodName)) ∈ xTs := xT_7 208 (by rfl) rfl
theorem w_1780 : (Jvm.Cond.code ({ cls := "EditsMeet", name := "behind", desc := "(III)I" } : Jvm.MethodName) prog_1_method_20_code (7 : Nat) (Option.some Jvm.ClassFile.FieldType.int)) ∈ xTs := xT_7 209 (by rfl) rfl
theorem w_1787 : (Jvm.Cond.methodLink "EditsMeetLaw" (82 : Nat) ({ cls := "EditsMeet", name := "over", desc := "(IIII)I" } : Jvm.MethodName)) ∈ xTs := xT_7 216 (by rfl) rfl
theorem w_1788 : (Jvm.Cond.instanceMethod ({ cls := "EditsMeet", name := "over", desc := "(IIII)I" } : Jvm.MethodName)) ∈ xTs := xT_7 217 (by rfl) rfl
theorem w_1789 : (Jvm.Cond.selects "EditsMeet" ({ cls := "EditsMeet", name := "over", desc := "(IIII)I" } : Jvm.MethodName) ({ cls := "EditsMeet", name := "over", desc := "(IIII)I" } : Jvm.MethodName)) ∈ xTs := xT_7 218 (by rfl) rfl
theorem w_1790 : (Jvm.Cond.code ({ cls := "EditsMeet", name := "over", desc := "(IIII)I" } : Jvm.MethodName) prog_1_method_21_code (8 : Nat) (Option.some Jvm.ClassFile.FieldType.int)) ∈ xTs := xT_7 219 (by rfl) rfl
theorem w_1791 : (Jvm.Cond.methodLink "EditsMeetLaw" (87 : Nat) ({ cls := "EditsMeet", name := "turned", desc := "(III)I" } : Jvm.MethodName)) ∈ xTs := xT_7 220 (by rfl) rfl
theorem w_1792 : (Jvm.Cond.instanceMethod ({ cls := "EditsMeet", name := "turned", desc := "(III)I" } : Jvm.MethodName)) ∈ xTs := xT_7 221 (by rfl) rfl
theorem w_1793 : (Jvm.Cond.selects "EditsMeet" ({ cls := "EditsMeet", name := "turned", desc := "(III)I" } : Jvm.MethodName) ({ cls := "EditsMeet", name := "turned", desc := "(III)I" } : Jvm.MethodName)) ∈ xTs := xT_7 222 (by rfl) rfl
theorem w_1794 : (Jvm.Cond.code ({ cls := "EditsMeet", name := "turned", desc := "(III)I" } : Jvm.MethodName) prog_1_method_22_code (8 : Nat) (Option.some Jvm.ClassFile.FieldType.int)) ∈ xTs := xT_7 223 (by rfl) rfl
theorem w_1795 : (Jvm.Cond.methodLink "EditsMeet" (254 : Nat) ({ cls := "EditsMeet$Meeting", name := "clientAt", desc := "(I)LEditsMeet$Client;" } : Jvm.MethodName)) ∈ xTs := xT_7 224 (by rfl) rfl
theorem w_1796 : (Jvm.Cond.instanceMethod ({ cls := "EditsMeet$Meeting", name := "clientAt", desc := "(I)LEditsMeet$Client;" } : Jvm.MethodName)) ∈ xTs := xT_7 225 (by rfl) rfl
theorem w_1797 : (Jvm.Cond.selects "EditsMeet$Meeting" ({ cls := "EditsMeet$Meeting", name := "clientAt", desc := "(I)LEditsMeet$Client;" } : Jvm.MethodName) ({ cls := "EditsMeet$Meeting", name := "clientAt", desc := "(I)LEditsMeet$Client;" } : Jvm.MethodName)) ∈ xTs := xT_7 226 (by rfl) rfl
theorem w_1798 : (Jvm.Cond.code ({ cls := "EditsMeet$Meeting", name := "clientAt", desc := "(I)LEditsMeet$Client;" } : Jvm.MethodName) prog_5_method_3_code (2 : Nat) (Option.some (Jvm.ClassFile.FieldType.object "EditsMeet$Client"))) ∈ xTs := xT_7 227 (by rfl) rfl
theorem w_1800 : (Jvm.Cond.instanceMethod ({ cls := "EditsMeet$Client", name := "ownText", desc := "()I" } : Jvm.MethodName)) ∈ xTs := xT_7 229 (by rfl) rfl
theorem w_1801 : (Jvm.Cond.selects "EditsMeet$Client" ({ cls := "EditsMeet$Client", name := "ownText", desc := "()I" } : Jvm.MethodName) ({ cls := "EditsMeet$Client", name := "ownText", desc := "()I" } : Jvm.MethodName)) ∈ xTs := xT_7 230 (by rfl) rfl
theorem w_1802 : (Jvm.Cond.code ({ cls := "EditsMeet$Client", name := "ownText", desc := "()I" } : Jvm.MethodName) prog_2_method_2_code (1 : Nat) (Option.some Jvm.ClassFile.FieldType.int)) ∈ xTs := xT_7 231 (by rfl) rfl
theorem w_1803 : (Jvm.Cond.methodLink "EditsMeet$Client" (28 : Nat) ({ cls := "EditsMeet$Works", name := "held", desc := "(I)I" } : Jvm.MethodName)) ∈ xTs := xT_7 232 (by rfl) rfl
theorem w_1804 : (Jvm.Cond.methodLink "EditsMeetLaw" (91 : Nat) ({ cls := "EditsMeet", name := "differ", desc := "(II)I" } : Jvm.MethodName)) ∈ xTs := xT_7 233 (by rfl) rfl
theorem w_1805 : (Jvm.Cond.instanceMethod ({ cls := "EditsMeet", name := "differ", desc := "(II)I" } : Jvm.MethodName)) ∈ xTs := xT_7 234 (by rfl) rfl
theorem w_1806 : (Jvm.Cond.selects "EditsMeet" ({ cls := "EditsMeet", name := "differ", desc := "(II)I" } : Jvm.MethodName) ({ cls := "EditsMeet", name := "differ", desc := "(II)I" } : Jvm.MethodName)) ∈ xTs := xT_7 235 (by rfl) rfl
theorem w_1807 : (Jvm.Cond.code ({ cls := "EditsMeet", name := "differ", desc := "(II)I" } : Jvm.MethodName) prog_1_method_23_code (5 : Nat) (Option.some Jvm.ClassFile.FieldType.int)) ∈ xTs := xT_7 236 (by rfl) rfl
theorem w_1842 : (Jvm.Cond.methodLink "EditsMeetLaw" (95 : Nat) ({ cls := "EditsMeet", name := "does", desc := "(II)I" } : Jvm.MethodName)) ∈ xTs := xT_8 31 (by rfl) rfl
theorem w_1843 : (Jvm.Cond.instanceMethod ({ cls := "EditsMeet", name := "does", desc := "(II)I" } : Jvm.MethodName)) ∈ xTs := xT_8 32 (by rfl) rfl
theorem w_1844 : (Jvm.Cond.selects "EditsMeet" ({ cls := "EditsMeet", name := "does", desc := "(II)I" } : Jvm.MethodName) ({ cls := "EditsMeet", name := "does", desc := "(II)I" } : Jvm.MethodName)) ∈ xTs := xT_8 33 (by rfl) rfl
theorem w_1845 : (Jvm.Cond.code ({ cls := "EditsMeet", name := "does", desc := "(II)I" } : Jvm.MethodName) prog_1_method_30_code (5 : Nat) (Option.some Jvm.ClassFile.FieldType.int)) ∈ xTs := xT_8 34 (by rfl) rfl
theorem w_1846 : (Jvm.Cond.methodLink "EditsMeet" (274 : Nat) ({ cls := "EditsMeet$Meeting", name := "textAt", desc := "(I)I" } : Jvm.MethodName)) ∈ xTs := xT_8 35 (by rfl) rfl
theorem w_1847 : (Jvm.Cond.instanceMethod ({ cls := "EditsMeet$Meeting", name := "textAt", desc := "(I)I" } : Jvm.MethodName)) ∈ xTs := xT_8 36 (by rfl) rfl
theorem w_1848 : (Jvm.Cond.selects "EditsMeet$Meeting" ({ cls := "EditsMeet$Meeting", name := "textAt", desc := "(I)I" } : Jvm.MethodName) ({ cls := "EditsMeet$Meeting", name := "textAt", desc := "(I)I" } : Jvm.MethodName)) ∈ xTs := xT_8 37 (by rfl) rfl
theorem w_1849 : (Jvm.Cond.code ({ cls := "EditsMeet$Meeting", name := "textAt", desc := "(I)I" } : Jvm.MethodName) prog_5_method_5_code (3 : Nat) (Option.some Jvm.ClassFile.FieldType.int)) ∈ xTs := xT_8 38 (by rfl) rfl
theorem w_1850 : (Jvm.Cond.methodLink "EditsMeet$Meeting" (44 : Nat) ({ cls := "EditsMeet$Meeting", name := "clientAt", desc := "(I)LEditsMeet$Client;" } : Jvm.MethodName)) ∈ xTs := xT_8 39 (by rfl) rfl
theorem w_1851 : (Jvm.Cond.methodLink "EditsMeet$Meeting" (48 : Nat) ({ cls := "EditsMeet$Works", name := "held", desc := "(I)I" } : Jvm.MethodName)) ∈ xTs := xT_8 40 (by rfl) rfl
theorem w_1852 : (Jvm.Cond.methodLink "EditsMeet$Meeting" (51 : Nat) ({ cls := "EditsMeet$Client", name := "ownText", desc := "()I" } : Jvm.MethodName)) ∈ xTs := xT_8 41 (by rfl) rfl
theorem w_1853 : (Jvm.Cond.methodLink "EditsMeet" (277 : Nat) ({ cls := "EditsMeet$Client", name := "size", desc := "()J" } : Jvm.MethodName)) ∈ xTs := xT_8 42 (by rfl) rfl
theorem w_1854 : (Jvm.Cond.instanceMethod ({ cls := "EditsMeet$Client", name := "size", desc := "()J" } : Jvm.MethodName)) ∈ xTs := xT_8 43 (by rfl) rfl
theorem w_1855 : (Jvm.Cond.selects "EditsMeet$Client" ({ cls := "EditsMeet$Client", name := "size", desc := "()J" } : Jvm.MethodName) ({ cls := "EditsMeet$Client", name := "size", desc := "()J" } : Jvm.MethodName)) ∈ xTs := xT_8 44 (by rfl) rfl
theorem w_1856 : (Jvm.Cond.code ({ cls := "EditsMeet$Client", name := "size", desc := "()J" } : Jvm.MethodName) prog_2_method_3_code (1 : Nat) (Option.some Jvm.ClassFile.FieldType.long)) ∈ xTs := xT_8 45 (by rfl) rfl
theorem w_1857 : (Jvm.Cond.methodLink "EditsMeet$Client" (30 : Nat) ({ cls := "EditsMeet$Works", name := "to", desc := "(I)J" } : Jvm.MethodName)) ∈ xTs := xT_8 46 (by rfl) rfl
theorem w_1858 : (Jvm.Cond.methodLink "EditsMeet" (280 : Nat) ({ cls := "EditsMeet$Client", name := "isTooLongBy", desc := "(I)Z" } : Jvm.MethodName)) ∈ xTs := xT_8 47 (by rfl) rfl
theorem w_1859 : (Jvm.Cond.instanceMethod ({ cls := "EditsMeet$Client", name := "isTooLongBy", desc := "(I)Z" } : Jvm.MethodName)) ∈ xTs := xT_8 48 (by rfl) rfl
theorem w_1860 : (Jvm.Cond.selects "EditsMeet$Client" ({ cls := "EditsMeet$Client", name := "isTooLongBy", desc := "(I)Z" } : Jvm.MethodName) ({ cls := "EditsMeet$Client", name := "isTooLongBy", desc := "(I)Z" } : Jvm.MethodName)) ∈ xTs := xT_8 49 (by rfl) rfl
theorem w_1861 : (Jvm.Cond.code ({ cls := "EditsMeet$Client", name := "isTooLongBy", desc := "(I)Z" } : Jvm.MethodName) prog_2_method_5_code (2 : Nat) (Option.some Jvm.ClassFile.FieldType.boolean)) ∈ xTs := xT_8 50 (by rfl) rfl
theorem w_1862 : (Jvm.Cond.constantLong "EditsMeet$Client" (41 : Nat) (60 : Int64)) ∈ xTs := xT_8 51 (by rfl) rfl
theorem w_1864 : (Jvm.Cond.methodLink "EditsMeet" (283 : Nat) ({ cls := "EditsMeet$Client", name := "like", desc := "(LEditsMeet$Client;)V" } : Jvm.MethodName)) ∈ xTs := xT_8 53 (by rfl) rfl
theorem w_1865 : (Jvm.Cond.instanceMethod ({ cls := "EditsMeet$Client", name := "like", desc := "(LEditsMeet$Client;)V" } : Jvm.MethodName)) ∈ xTs := xT_8 54 (by rfl) rfl
theorem w_1866 : (Jvm.Cond.selects "EditsMeet$Client" ({ cls := "EditsMeet$Client", name := "like", desc := "(LEditsMeet$Client;)V" } : Jvm.MethodName) ({ cls := "EditsMeet$Client", name := "like", desc := "(LEditsMeet$Client;)V" } : Jvm.MethodName)) ∈ xTs := xT_8 55 (by rfl) rfl
theorem w_1867 : (Jvm.Cond.code ({ cls := "EditsMeet$Client", name := "like", desc := "(LEditsMeet$Client;)V" } : Jvm.MethodName) prog_2_method_20_code (2 : Nat) (Option.none : Option Jvm.ClassFile.FieldType)) ∈ xTs := xT_8 56 (by rfl) rfl
theorem w_1868 : (Jvm.Cond.methodLink "EditsMeet$Client" (119 : Nat) ({ cls := "EditsMeet$Works", name := "holdLike", desc := "(III)V" } : Jvm.MethodName)) ∈ xTs := xT_8 57 (by rfl) rfl
theorem w_1869 : (Jvm.Cond.instanceMethod ({ cls := "EditsMeet$Works", name := "holdLike", desc := "(III)V" } : Jvm.MethodName)) ∈ xTs := xT_8 58 (by rfl) rfl
theorem w_1870 : (Jvm.Cond.selects "EditsMeet$Works" ({ cls := "EditsMeet$Works", name := "holdLike", desc := "(III)V" } : Jvm.MethodName) ({ cls := "EditsMeet$Works", name := "holdLike", desc := "(III)V" } : Jvm.MethodName)) ∈ xTs := xT_8 59 (by rfl) rfl
theorem w_1871 : (Jvm.Cond.code ({ cls := "EditsMeet$Works", name := "holdLike", desc := "(III)V" } : Jvm.MethodName) prog_12_method_6_code (5 : Nat) (Option.none : Option Jvm.ClassFile.FieldType)) ∈ xTs := xT_8 60 (by rfl) rfl
theorem w_1872 : (Jvm.Cond.methodLink "EditsMeet" (287 : Nat) ({ cls := "EditsMeet$Client", name := "clear", desc := "(I)V" } : Jvm.MethodName)) ∈ xTs := xT_8 61 (by rfl) rfl
theorem w_1873 : (Jvm.Cond.instanceMethod ({ cls := "EditsMeet$Client", name := "clear", desc := "(I)V" } : Jvm.MethodName)) ∈ xTs := xT_8 62 (by rfl) rfl
theorem w_1874 : (Jvm.Cond.selects "EditsMeet$Client" ({ cls := "EditsMeet$Client", name := "clear", desc := "(I)V" } : Jvm.MethodName) ({ cls := "EditsMeet$Client", name := "clear", desc := "(I)V" } : Jvm.MethodName)) ∈ xTs := xT_8 63 (by rfl) rfl
theorem w_1875 : (Jvm.Cond.code ({ cls := "EditsMeet$Client", name := "clear", desc := "(I)V" } : Jvm.MethodName) prog_2_method_13_code (3 : Nat) (Option.none : Option Jvm.ClassFile.FieldType)) ∈ xTs := xT_8 64 (by rfl) rfl
theorem w_1876 : (Jvm.Cond.methodLink "EditsMeet$Client" (50 : Nat) ({ cls := "EditsMeet$Client", name := "countOf", desc := "(I)I" } : Jvm.MethodName)) ∈ xTs := xT_8 65 (by rfl) rfl
theorem w_1877 : (Jvm.Cond.instanceMethod ({ cls := "EditsMeet$Client", name := "countOf", desc := "(I)I" } : Jvm.MethodName)) ∈ xTs := xT_8 66 (by rfl) rfl
theorem w_1878 : (Jvm.Cond.selects "EditsMeet$Client" ({ cls := "EditsMeet$Client", name := "countOf", desc := "(I)I" } : Jvm.MethodName) ({ cls := "EditsMeet$Client", name := "countOf", desc := "(I)I" } : Jvm.MethodName)) ∈ xTs := xT_8 67 (by rfl) rfl
theorem w_1879 : (Jvm.Cond.code ({ cls := "EditsMeet$Client", name := "countOf", desc := "(I)I" } : Jvm.MethodName) prog_2_method_8_code (2 : Nat) (Option.some Jvm.ClassFile.FieldType.int)) ∈ xTs := xT_8 68 (by rfl) rfl
theorem w_1880 : (Jvm.Cond.methodLink "EditsMeet$Client" (77 : Nat) ({ cls := "EditsMeet$Client", name := "drop", desc := "(I)V" } : Jvm.MethodName)) ∈ xTs := xT_8 69 (by rfl) rfl
theorem w_1882 : (Jvm.Cond.instanceMethod ({ cls := "EditsMeet$Client", name := "drop", desc := "(I)V" } : Jvm.MethodName)) ∈ xTs := xT_8 71 (by rfl) rfl
theorem w_1883 : (Jvm.Cond.code ({ cls := "EditsMeet$Client", name := "drop", desc := "(I)V" } : Jvm.MethodName) prog_2_method_12_code (3 : Nat) (Option.none : Option Jvm.ClassFile.FieldType)) ∈ xTs := xT_8 72 (by rfl) rfl
theorem w_1884 : (Jvm.Cond.methodLink "EditsMeet$Client" (66 : Nat) ({ cls := "EditsMeet$Client", name := "slotOf", desc := "(II)I" } : Jvm.MethodName)) ∈ xTs := xT_8 73 (by rfl) rfl
theorem w_1885 : (Jvm.Cond.static ({ cls := "EditsMeet$Client", name := "slotOf", desc := "(II)I" } : Jvm.MethodName)) ∈ xTs := xT_8 74 (by rfl) rfl
theorem w_1886 : (Jvm.Cond.code ({ cls := "EditsMeet$Client", name := "slotOf", desc := "(II)I" } : Jvm.MethodName) prog_2_method_10_code (2 : Nat) (Option.some Jvm.ClassFile.FieldType.int)) ∈ xTs := xT_8 75 (by rfl) rfl
theorem w_1887 : (Jvm.Cond.methodLink "EditsMeet$Client" (70 : Nat) ({ cls := "EditsMeet$Works", name := "hold", desc := "(II)V" } : Jvm.MethodName)) ∈ xTs := xT_8 76 (by rfl) rfl
theorem w_1888 : (Jvm.Cond.methodLink "EditsMeet$Client" (74 : Nat) ({ cls := "EditsMeet$Client", name := "putCount", desc := "(II)V" } : Jvm.MethodName)) ∈ xTs := xT_8 77 (by rfl) rfl
theorem w_1890 : (Jvm.Cond.instanceMethod ({ cls := "EditsMeet$Client", name := "putCount", desc := "(II)V" } : Jvm.MethodName)) ∈ xTs := xT_8 79 (by rfl) rfl
theorem w_1891 : (Jvm.Cond.code ({ cls := "EditsMeet$Client", name := "putCount", desc := "(II)V" } : Jvm.MethodName) prog_2_method_14_code (3 : Nat) (Option.none : Option Jvm.ClassFile.FieldType)) ∈ xTs := xT_8 80 (by rfl) rfl
theorem w_1892 : (Jvm.Cond.methodLink "EditsMeet" (290 : Nat) ({ cls := "EditsMeet$Client", name := "doDraft", desc := "(ILEditsMeet$Loom;)V" } : Jvm.MethodName)) ∈ xTs := xT_8 81 (by rfl) rfl
theorem w_1893 : (Jvm.Cond.instanceMethod ({ cls := "EditsMeet$Client", name := "doDraft", desc := "(ILEditsMeet$Loom;)V" } : Jvm.MethodName)) ∈ xTs := xT_8 82 (by rfl) rfl
theorem w_1894 : (Jvm.Cond.selects "EditsMeet$Client" ({ cls := "EditsMeet$Client", name := "doDraft", desc := "(ILEditsMeet$Loom;)V" } : Jvm.MethodName) ({ cls := "EditsMeet$Client", name := "doDraft", desc := "(ILEditsMeet$Loom;)V" } : Jvm.MethodName)) ∈ xTs := xT_8 83 (by rfl) rfl
theorem w_1895 : (Jvm.Cond.code ({ cls := "EditsMeet$Client", name := "doDraft", desc := "(ILEditsMeet$Loom;)V" } : Jvm.MethodName) prog_2_method_16_code (4 : Nat) (Option.none : Option Jvm.ClassFile.FieldType)) ∈ xTs := xT_8 84 (by rfl) rfl
theorem w_1896 : (Jvm.Cond.methodLink "EditsMeet$Client" (86 : Nat) ({ cls := "EditsMeet$Loom", name := "weave", desc := "(III)I" } : Jvm.MethodName)) ∈ xTs := xT_8 85 (by rfl) rfl
theorem w_1897 : (Jvm.Cond.methodLink "EditsMeet$Client" (90 : Nat) ({ cls := "EditsMeet$Client", name := "keep", desc := "(II)V" } : Jvm.MethodName)) ∈ xTs := xT_8 86 (by rfl) rfl
theorem w_1899 : (Jvm.Cond.instanceMethod ({ cls := "EditsMeet$Client", name := "keep", desc := "(II)V" } : Jvm.MethodName)) ∈ xTs := xT_8 88 (by rfl) rfl
theorem w_1900 : (Jvm.Cond.code ({ cls := "EditsMeet$Client", name := "keep", desc := "(II)V" } : Jvm.MethodName) prog_2_method_11_code (5 : Nat) (Option.none : Option Jvm.ClassFile.FieldType)) ∈ xTs := xT_8 89 (by rfl) rfl
theorem w_1901 : (Jvm.Cond.methodLink "EditsMeet$Client" (101 : Nat) ({ cls := "EditsMeet$Reader", name := "placeAfter", desc := "(IJZ)J" } : Jvm.MethodName)) ∈ xTs := xT_8 90 (by rfl) rfl
theorem w_1902 : (Jvm.Cond.instanceMethod ({ cls := "EditsMeet$Reader", name := "placeAfter", desc := "(IJZ)J" } : Jvm.MethodName)) ∈ xTs := xT_8 91 (by rfl) rfl
theorem w_1903 : (Jvm.Cond.selects "EditsMeet$Reader" ({ cls := "EditsMeet$Reader", name := "placeAfter", desc := "(IJZ)J" } : Jvm.MethodName) ({ cls := "EditsMeet$Reader", name := "placeAfter", desc := "(IJZ)J" } : Jvm.MethodName)) ∈ xTs := xT_8 92 (by rfl) rfl
theorem w_1904 : (Jvm.Cond.code ({ cls := "EditsMeet$Reader", name := "placeAfter", desc := "(IJZ)J" } : Jvm.MethodName) prog_6_method_29_code (10 : Nat) (Option.some Jvm.ClassFile.FieldType.long)) ∈ xTs := xT_8 93 (by rfl) rfl
theorem w_1905 : (Jvm.Cond.methodLink "EditsMeet$Reader" (284 : Nat) ({ cls := "EditsMeet$Trees", name := "placeAfter", desc := "(IJZ)J" } : Jvm.MethodName)) ∈ xTs := xT_8 94 (by rfl) rfl
theorem w_1906 : (Jvm.Cond.instanceMethod ({ cls := "EditsMeet$Trees", name := "placeAfter", desc := "(IJZ)J" } : Jvm.MethodName)) ∈ xTs := xT_8 95 (by rfl) rfl
theorem w_1907 : (Jvm.Cond.selects "EditsMeet$Trees" ({ cls := "EditsMeet$Trees", name := "placeAfter", desc := "(IJZ)J" } : Jvm.MethodName) ({ cls := "EditsMeet$Trees", name := "placeAfter", desc := "(IJZ)J" } : Jvm.MethodName)) ∈ xTs := xT_8 96 (by rfl) rfl
theorem w_1908 : (Jvm.Cond.code ({ cls := "EditsMeet$Trees", name := "placeAfter", desc := "(IJZ)J" } : Jvm.MethodName) prog_11_method_22_code (18 : Nat) (Option.some Jvm.ClassFile.FieldType.long)) ∈ xTs := xT_8 97 (by rfl) rfl
theorem w_1910 : (Jvm.Cond.methodLink "EditsMeet" (294 : Nat) ({ cls := "EditsMeet", name := "hasNoRoom", desc := "(LEditsMeet$Client;)Z" } : Jvm.MethodName)) ∈ xTs := xT_8 99 (by rfl) rfl
theorem w_1912 : (Jvm.Cond.instanceMethod ({ cls := "EditsMeet", name := "hasNoRoom", desc := "(LEditsMeet$Client;)Z" } : Jvm.MethodName)) ∈ xTs := xT_8 101 (by rfl) rfl
theorem w_1913 : (Jvm.Cond.code ({ cls := "EditsMeet", name := "hasNoRoom", desc := "(LEditsMeet$Client;)Z" } : Jvm.MethodName) prog_1_method_37_code (3 : Nat) (Option.some Jvm.ClassFile.FieldType.boolean)) ∈ xTs := xT_8 102 (by rfl) rfl
theorem w_1914 : (Jvm.Cond.methodLink "EditsMeetLaw" (99 : Nat) ({ cls := "EditsMeet", name := "insert", desc := "(IIII)I" } : Jvm.MethodName)) ∈ xTs := xT_8 103 (by rfl) rfl
theorem w_1915 : (Jvm.Cond.instanceMethod ({ cls := "EditsMeet", name := "insert", desc := "(IIII)I" } : Jvm.MethodName)) ∈ xTs := xT_8 104 (by rfl) rfl
theorem w_1916 : (Jvm.Cond.selects "EditsMeet" ({ cls := "EditsMeet", name := "insert", desc := "(IIII)I" } : Jvm.MethodName) ({ cls := "EditsMeet", name := "insert", desc := "(IIII)I" } : Jvm.MethodName)) ∈ xTs := xT_8 105 (by rfl) rfl
theorem w_1917 : (Jvm.Cond.code ({ cls := "EditsMeet", name := "insert", desc := "(IIII)I" } : Jvm.MethodName) prog_1_method_31_code (6 : Nat) (Option.some Jvm.ClassFile.FieldType.int)) ∈ xTs := xT_8 106 (by rfl) rfl
theorem w_1918 : (Jvm.Cond.constantLong "EditsMeet" (298 : Nat) (60 : Int64)) ∈ xTs := xT_8 107 (by rfl) rfl
theorem w_1919 : (Jvm.Cond.methodLink "EditsMeet" (300 : Nat) ({ cls := "EditsMeet$Loom", name := "draft", desc := "(JIJJ)V" } : Jvm.MethodName)) ∈ xTs := xT_8 108 (by rfl) rfl
theorem w_1920 : (Jvm.Cond.instanceMethod ({ cls := "EditsMeet$Loom", name := "draft", desc := "(JIJJ)V" } : Jvm.MethodName)) ∈ xTs := xT_8 109 (by rfl) rfl
theorem w_1921 : (Jvm.Cond.selects "EditsMeet$Loom" ({ cls := "EditsMeet$Loom", name := "draft", desc := "(JIJJ)V" } : Jvm.MethodName) ({ cls := "EditsMeet$Loom", name := "draft", desc := "(JIJJ)V" } : Jvm.MethodName)) ∈ xTs := xT_8 110 (by rfl) rfl
theorem w_1922 : (Jvm.Cond.code ({ cls := "EditsMeet$Loom", name := "draft", desc := "(JIJJ)V" } : Jvm.MethodName) prog_4_method_2_code (9 : Nat) (Option.none : Option Jvm.ClassFile.FieldType)) ∈ xTs := xT_8 111 (by rfl) rfl
theorem w_1923 : (Jvm.Cond.methodLink "EditsMeet$Loom" (88 : Nat) ({ cls := "EditsMeet$Works", name := "known", desc := "(I)I" } : Jvm.MethodName)) ∈ xTs := xT_8 112 (by rfl) rfl
theorem w_1924 : (Jvm.Cond.methodLink "EditsMeetLaw" (103 : Nat) ({ cls := "EditsMeet", name := "cut", desc := "(III)I" } : Jvm.MethodName)) ∈ xTs := xT_8 113 (by rfl) rfl
theorem w_1925 : (Jvm.Cond.instanceMethod ({ cls := "EditsMeet", name := "cut", desc := "(III)I" } : Jvm.MethodName)) ∈ xTs := xT_8 114 (by rfl) rfl
theorem w_1926 : (Jvm.Cond.selects "EditsMeet" ({ cls := "EditsMeet", name := "cut", desc := "(III)I" } : Jvm.MethodName) ({ cls := "EditsMeet", name := "cut", desc := "(III)I" } : Jvm.MethodName)) ∈ xTs := xT_8 115 (by rfl) rfl
theorem w_1927 : (Jvm.Cond.code ({ cls := "EditsMeet", name := "cut", desc := "(III)I" } : Jvm.MethodName) prog_1_method_32_code (5 : Nat) (Option.some Jvm.ClassFile.FieldType.int)) ∈ xTs := xT_8 116 (by rfl) rfl
theorem w_1928 : (Jvm.Cond.methodLink "EditsMeetLaw" (107 : Nat) ({ cls := "EditsMeet", name := "mark", desc := "(IIIII)I" } : Jvm.MethodName)) ∈ xTs := xT_8 117 (by rfl) rfl
theorem w_1929 : (Jvm.Cond.instanceMethod ({ cls := "EditsMeet", name := "mark", desc := "(IIIII)I" } : Jvm.MethodName)) ∈ xTs := xT_8 118 (by rfl) rfl
theorem w_1930 : (Jvm.Cond.selects "EditsMeet" ({ cls := "EditsMeet", name := "mark", desc := "(IIIII)I" } : Jvm.MethodName) ({ cls := "EditsMeet", name := "mark", desc := "(IIIII)I" } : Jvm.MethodName)) ∈ xTs := xT_8 119 (by rfl) rfl
theorem w_1931 : (Jvm.Cond.code ({ cls := "EditsMeet", name := "mark", desc := "(IIIII)I" } : Jvm.MethodName) prog_1_method_33_code (9 : Nat) (Option.some Jvm.ClassFile.FieldType.int)) ∈ xTs := xT_8 120 (by rfl) rfl
theorem w_1932 : (Jvm.Cond.methodLink "EditsMeet" (304 : Nat) ({ cls := "EditsMeet$Client", name := "latest", desc := "(I)I" } : Jvm.MethodName)) ∈ xTs := xT_8 121 (by rfl) rfl
theorem w_1933 : (Jvm.Cond.instanceMethod ({ cls := "EditsMeet$Client", name := "latest", desc := "(I)I" } : Jvm.MethodName)) ∈ xTs := xT_8 122 (by rfl) rfl
theorem w_1934 : (Jvm.Cond.selects "EditsMeet$Client" ({ cls := "EditsMeet$Client", name := "latest", desc := "(I)I" } : Jvm.MethodName) ({ cls := "EditsMeet$Client", name := "latest", desc := "(I)I" } : Jvm.MethodName)) ∈ xTs := xT_8 123 (by rfl) rfl
theorem w_1935 : (Jvm.Cond.code ({ cls := "EditsMeet$Client", name := "latest", desc := "(I)I" } : Jvm.MethodName) prog_2_method_9_code (2 : Nat) (Option.some Jvm.ClassFile.FieldType.int)) ∈ xTs := xT_8 124 (by rfl) rfl
theorem w_1936 : (Jvm.Cond.methodLink "EditsMeetLaw" (123 : Nat) ({ cls := "EditsMeet", name := "undo", desc := "(I)I" } : Jvm.MethodName)) ∈ xTs := xT_8 125 (by rfl) rfl
theorem w_1937 : (Jvm.Cond.instanceMethod ({ cls := "EditsMeet", name := "undo", desc := "(I)I" } : Jvm.MethodName)) ∈ xTs := xT_8 126 (by rfl) rfl
theorem w_1938 : (Jvm.Cond.selects "EditsMeet" ({ cls := "EditsMeet", name := "undo", desc := "(I)I" } : Jvm.MethodName) ({ cls := "EditsMeet", name := "undo", desc := "(I)I" } : Jvm.MethodName)) ∈ xTs := xT_8 127 (by rfl) rfl
theorem w_1939 : (Jvm.Cond.code ({ cls := "EditsMeet", name := "undo", desc := "(I)I" } : Jvm.MethodName) prog_1_method_34_code (4 : Nat) (Option.some Jvm.ClassFile.FieldType.int)) ∈ xTs := xT_8 128 (by rfl) rfl
theorem w_1940 : (Jvm.Cond.methodLink "EditsMeet" (307 : Nat) ({ cls := "EditsMeet", name := "whyNotAgain", desc := "(LEditsMeet$Client;I)I" } : Jvm.MethodName)) ∈ xTs := xT_8 129 (by rfl) rfl
theorem w_1941 : (Jvm.Cond.static ({ cls := "EditsMeet", name := "whyNotAgain", desc := "(LEditsMeet$Client;I)I" } : Jvm.MethodName)) ∈ xTs := xT_8 130 (by rfl) rfl
theorem w_1942 : (Jvm.Cond.code ({ cls := "EditsMeet", name := "whyNotAgain", desc := "(LEditsMeet$Client;I)I" } : Jvm.MethodName) prog_1_method_38_code (2 : Nat) (Option.some Jvm.ClassFile.FieldType.int)) ∈ xTs := xT_8 131 (by rfl) rfl
theorem w_1943 : (Jvm.Cond.methodLink "EditsMeet" (314 : Nat) ({ cls := "EditsMeet$Client", name := "countOf", desc := "(I)I" } : Jvm.MethodName)) ∈ xTs := xT_8 132 (by rfl) rfl
theorem w_1944 : (Jvm.Cond.methodLink "EditsMeet" (311 : Nat) ({ cls := "EditsMeet$Client", name := "draftLatest", desc := "(ILEditsMeet$Loom;)V" } : Jvm.MethodName)) ∈ xTs := xT_8 133 (by rfl) rfl
theorem w_1945 : (Jvm.Cond.instanceMethod ({ cls := "EditsMeet$Client", name := "draftLatest", desc := "(ILEditsMeet$Loom;)V" } : Jvm.MethodName)) ∈ xTs := xT_8 134 (by rfl) rfl
theorem w_1946 : (Jvm.Cond.selects "EditsMeet$Client" ({ cls := "EditsMeet$Client", name := "draftLatest", desc := "(ILEditsMeet$Loom;)V" } : Jvm.MethodName) ({ cls := "EditsMeet$Client", name := "draftLatest", desc := "(ILEditsMeet$Loom;)V" } : Jvm.MethodName)) ∈ xTs := xT_8 135 (by rfl) rfl
theorem w_1947 : (Jvm.Cond.code ({ cls := "EditsMeet$Client", name := "draftLatest", desc := "(ILEditsMeet$Loom;)V" } : Jvm.MethodName) prog_2_method_15_code (3 : Nat) (Option.none : Option Jvm.ClassFile.FieldType)) ∈ xTs := xT_8 136 (by rfl) rfl
theorem w_1948 : (Jvm.Cond.methodLink "EditsMeet$Client" (57 : Nat) ({ cls := "EditsMeet$Client", name := "latest", desc := "(I)I" } : Jvm.MethodName)) ∈ xTs := xT_8 137 (by rfl) rfl
theorem w_1949 : (Jvm.Cond.methodLink "EditsMeetLaw" (127 : Nat) ({ cls := "EditsMeet", name := "redo", desc := "(I)I" } : Jvm.MethodName)) ∈ xTs := xT_8 138 (by rfl) rfl
theorem w_1950 : (Jvm.Cond.instanceMethod ({ cls := "EditsMeet", name := "redo", desc := "(I)I" } : Jvm.MethodName)) ∈ xTs := xT_8 139 (by rfl) rfl
theorem w_1951 : (Jvm.Cond.selects "EditsMeet" ({ cls := "EditsMeet", name := "redo", desc := "(I)I" } : Jvm.MethodName) ({ cls := "EditsMeet", name := "redo", desc := "(I)I" } : Jvm.MethodName)) ∈ xTs := xT_8 140 (by rfl) rfl
theorem w_1952 : (Jvm.Cond.code ({ cls := "EditsMeet", name := "redo", desc := "(I)I" } : Jvm.MethodName) prog_1_method_35_code (4 : Nat) (Option.some Jvm.ClassFile.FieldType.int)) ∈ xTs := xT_8 141 (by rfl) rfl
theorem w_1953 : (Jvm.Cond.methodLink "EditsMeetLaw" (131 : Nat) ({ cls := "EditsMeet", name := "point", desc := "(III)I" } : Jvm.MethodName)) ∈ xTs := xT_8 142 (by rfl) rfl
theorem w_1954 : (Jvm.Cond.instanceMethod ({ cls := "EditsMeet", name := "point", desc := "(III)I" } : Jvm.MethodName)) ∈ xTs := xT_8 143 (by rfl) rfl
theorem w_1955 : (Jvm.Cond.selects "EditsMeet" ({ cls := "EditsMeet", name := "point", desc := "(III)I" } : Jvm.MethodName) ({ cls := "EditsMeet", name := "point", desc := "(III)I" } : Jvm.MethodName)) ∈ xTs := xT_8 144 (by rfl) rfl
theorem w_1956 : (Jvm.Cond.code ({ cls := "EditsMeet", name := "point", desc := "(III)I" } : Jvm.MethodName) prog_1_method_36_code (7 : Nat) (Option.some Jvm.ClassFile.FieldType.int)) ∈ xTs := xT_8 145 (by rfl) rfl
theorem w_1957 : (Jvm.Cond.methodLink "EditsMeetLaw" (111 : Nat) ({ cls := "EditsMeet", name := "serve", desc := "(I)I" } : Jvm.MethodName)) ∈ xTs := xT_8 146 (by rfl) rfl
theorem w_1958 : (Jvm.Cond.instanceMethod ({ cls := "EditsMeet", name := "serve", desc := "(I)I" } : Jvm.MethodName)) ∈ xTs := xT_8 147 (by rfl) rfl
theorem w_1959 : (Jvm.Cond.selects "EditsMeet" ({ cls := "EditsMeet", name := "serve", desc := "(I)I" } : Jvm.MethodName) ({ cls := "EditsMeet", name := "serve", desc := "(I)I" } : Jvm.MethodName)) ∈ xTs := xT_8 148 (by rfl) rfl
theorem w_1960 : (Jvm.Cond.code ({ cls := "EditsMeet", name := "serve", desc := "(I)I" } : Jvm.MethodName) prog_1_method_39_code (3 : Nat) (Option.some Jvm.ClassFile.FieldType.int)) ∈ xTs := xT_8 149 (by rfl) rfl
theorem w_1961 : (Jvm.Cond.methodLink "EditsMeet" (324 : Nat) ({ cls := "EditsMeet$Client", name := "isUnserved", desc := "()Z" } : Jvm.MethodName)) ∈ xTs := xT_8 150 (by rfl) rfl
theorem w_1962 : (Jvm.Cond.instanceMethod ({ cls := "EditsMeet$Client", name := "isUnserved", desc := "()Z" } : Jvm.MethodName)) ∈ xTs := xT_8 151 (by rfl) rfl
theorem w_1963 : (Jvm.Cond.selects "EditsMeet$Client" ({ cls := "EditsMeet$Client", name := "isUnserved", desc := "()Z" } : Jvm.MethodName) ({ cls := "EditsMeet$Client", name := "isUnserved", desc := "()Z" } : Jvm.MethodName)) ∈ xTs := xT_8 152 (by rfl) rfl
theorem w_1964 : (Jvm.Cond.code ({ cls := "EditsMeet$Client", name := "isUnserved", desc := "()Z" } : Jvm.MethodName) prog_2_method_4_code (1 : Nat) (Option.some Jvm.ClassFile.FieldType.boolean)) ∈ xTs := xT_8 153 (by rfl) rfl
theorem w_1965 : (Jvm.Cond.methodLink "EditsMeet" (330 : Nat) ({ cls := "EditsMeet$Meeting", name := "takeSent", desc := "(ILEditsMeet$Loom;)V" } : Jvm.MethodName)) ∈ xTs := xT_8 154 (by rfl) rfl
theorem w_1966 : (Jvm.Cond.instanceMethod ({ cls := "EditsMeet$Meeting", name := "takeSent", desc := "(ILEditsMeet$Loom;)V" } : Jvm.MethodName)) ∈ xTs := xT_8 155 (by rfl) rfl
theorem w_1967 : (Jvm.Cond.selects "EditsMeet$Meeting" ({ cls := "EditsMeet$Meeting", name := "takeSent", desc := "(ILEditsMeet$Loom;)V" } : Jvm.MethodName) ({ cls := "EditsMeet$Meeting", name := "takeSent", desc := "(ILEditsMeet$Loom;)V" } : Jvm.MethodName)) ∈ xTs := xT_8 156 (by rfl) rfl
theorem w_1968 : (Jvm.Cond.code ({ cls := "EditsMeet$Meeting", name := "takeSent", desc := "(ILEditsMeet$Loom;)V" } : Jvm.MethodName) prog_5_method_6_code (6 : Nat) (Option.none : Option Jvm.ClassFile.FieldType)) ∈ xTs := xT_8 157 (by rfl) rfl
theorem w_1969 : (Jvm.Cond.methodLink "EditsMeet$Meeting" (63 : Nat) ({ cls := "EditsMeet$Client", name := "told", desc := "(I)I" } : Jvm.MethodName)) ∈ xTs := xT_8 158 (by rfl) rfl
theorem w_1970 : (Jvm.Cond.instanceMethod ({ cls := "EditsMeet$Client", name := "told", desc := "(I)I" } : Jvm.MethodName)) ∈ xTs := xT_8 159 (by rfl) rfl
theorem w_1971 : (Jvm.Cond.selects "EditsMeet$Client" ({ cls := "EditsMeet$Client", name := "told", desc := "(I)I" } : Jvm.MethodName) ({ cls := "EditsMeet$Client", name := "told", desc := "(I)I" } : Jvm.MethodName)) ∈ xTs := xT_8 160 (by rfl) rfl
theorem w_1972 : (Jvm.Cond.code ({ cls := "EditsMeet$Client", name := "told", desc := "(I)I" } : Jvm.MethodName) prog_2_method_7_code (2 : Nat) (Option.some Jvm.ClassFile.FieldType.int)) ∈ xTs := xT_8 161 (by rfl) rfl
theorem w_1973 : (Jvm.Cond.methodLink "EditsMeet$Client" (53 : Nat) ({ cls := "EditsMeet$Client", name := "has", desc := "(I)Z" } : Jvm.MethodName)) ∈ xTs := xT_8 162 (by rfl) rfl
theorem w_1974 : (Jvm.Cond.instanceMethod ({ cls := "EditsMeet$Client", name := "has", desc := "(I)Z" } : Jvm.MethodName)) ∈ xTs := xT_8 163 (by rfl) rfl
theorem w_1975 : (Jvm.Cond.selects "EditsMeet$Client" ({ cls := "EditsMeet$Client", name := "has", desc := "(I)Z" } : Jvm.MethodName) ({ cls := "EditsMeet$Client", name := "has", desc := "(I)Z" } : Jvm.MethodName)) ∈ xTs := xT_8 164 (by rfl) rfl
theorem w_1976 : (Jvm.Cond.code ({ cls := "EditsMeet$Client", name := "has", desc := "(I)Z" } : Jvm.MethodName) prog_2_method_6_code (2 : Nat) (Option.some Jvm.ClassFile.FieldType.boolean)) ∈ xTs := xT_8 165 (by rfl) rfl
theorem w_1977 : (Jvm.Cond.methodLink "EditsMeet$Meeting" (66 : Nat) ({ cls := "EditsMeet$Works", name := "hold", desc := "(II)V" } : Jvm.MethodName)) ∈ xTs := xT_8 166 (by rfl) rfl
theorem w_1978 : (Jvm.Cond.methodLink "EditsMeet$Meeting" (73 : Nat) ({ cls := "EditsMeet$Loom", name := "weave", desc := "(III)I" } : Jvm.MethodName)) ∈ xTs := xT_8 167 (by rfl) rfl
theorem w_1979 : (Jvm.Cond.methodLink "EditsMeetLaw" (115 : Nat) ({ cls := "EditsMeet", name := "hear", desc := "(I)I" } : Jvm.MethodName)) ∈ xTs := xT_8 168 (by rfl) rfl
theorem w_1980 : (Jvm.Cond.instanceMethod ({ cls := "EditsMeet", name := "hear", desc := "(I)I" } : Jvm.MethodName)) ∈ xTs := xT_8 169 (by rfl) rfl
theorem w_1981 : (Jvm.Cond.selects "EditsMeet" ({ cls := "EditsMeet", name := "hear", desc := "(I)I" } : Jvm.MethodName) ({ cls := "EditsMeet", name := "hear", desc := "(I)I" } : Jvm.MethodName)) ∈ xTs := xT_8 170 (by rfl) rfl
theorem w_1982 : (Jvm.Cond.code ({ cls := "EditsMeet", name := "hear", desc := "(I)I" } : Jvm.MethodName) prog_1_method_40_code (3 : Nat) (Option.some Jvm.ClassFile.FieldType.int)) ∈ xTs := xT_8 171 (by rfl) rfl
theorem w_1983 : (Jvm.Cond.methodLink "EditsMeet" (342 : Nat) ({ cls := "EditsMeet$Client", name := "hearNext", desc := "(I[ILEditsMeet$Loom;)V" } : Jvm.MethodName)) ∈ xTs := xT_8 172 (by rfl) rfl
theorem w_1984 : (Jvm.Cond.instanceMethod ({ cls := "EditsMeet$Client", name := "hearNext", desc := "(I[ILEditsMeet$Loom;)V" } : Jvm.MethodName)) ∈ xTs := xT_8 173 (by rfl) rfl
theorem w_1985 : (Jvm.Cond.selects "EditsMeet$Client" ({ cls := "EditsMeet$Client", name := "hearNext", desc := "(I[ILEditsMeet$Loom;)V" } : Jvm.MethodName) ({ cls := "EditsMeet$Client", name := "hearNext", desc := "(I[ILEditsMeet$Loom;)V" } : Jvm.MethodName)) ∈ xTs := xT_8 174 (by rfl) rfl
theorem w_1986 : (Jvm.Cond.code ({ cls := "EditsMeet$Client", name := "hearNext", desc := "(I[ILEditsMeet$Loom;)V" } : Jvm.MethodName) prog_2_method_17_code (10 : Nat) (Option.none : Option Jvm.ClassFile.FieldType)) ∈ xTs := xT_8 175 (by rfl) rfl
theorem w_1987 : (Jvm.Cond.methodLink "EditsMeet$Client" (113 : Nat) ({ cls := "EditsMeet$Client", name := "sendWaiting", desc := "()V" } : Jvm.MethodName)) ∈ xTs := xT_8 176 (by rfl) rfl
theorem w_1989 : (Jvm.Cond.instanceMethod ({ cls := "EditsMeet$Client", name := "sendWaiting", desc := "()V" } : Jvm.MethodName)) ∈ xTs := xT_8 178 (by rfl) rfl
theorem w_1990 : (Jvm.Cond.code ({ cls := "EditsMeet$Client", name := "sendWaiting", desc := "()V" } : Jvm.MethodName) prog_2_method_19_code (1 : Nat) (Option.none : Option Jvm.ClassFile.FieldType)) ∈ xTs := xT_8 179 (by rfl) rfl
theorem w_1991 : (Jvm.Cond.methodLink "EditsMeet$Client" (116 : Nat) ({ cls := "EditsMeet$Client", name := "passedAt", desc := "(I)I" } : Jvm.MethodName)) ∈ xTs := xT_8 180 (by rfl) rfl
theorem w_1993 : (Jvm.Cond.instanceMethod ({ cls := "EditsMeet$Client", name := "passedAt", desc := "(I)I" } : Jvm.MethodName)) ∈ xTs := xT_8 182 (by rfl) rfl
theorem w_1994 : (Jvm.Cond.code ({ cls := "EditsMeet$Client", name := "passedAt", desc := "(I)I" } : Jvm.MethodName) prog_2_method_18_code (2 : Nat) (Option.some Jvm.ClassFile.FieldType.int)) ∈ xTs := xT_8 183 (by rfl) rfl
theorem w_1995 : (Jvm.Cond.methodLink "EditsMeetLaw" (119 : Nat) ({ cls := "EditsMeet", name := "meet", desc := "()I" } : Jvm.MethodName)) ∈ xTs := xT_8 184 (by rfl) rfl
theorem w_1996 : (Jvm.Cond.instanceMethod ({ cls := "EditsMeet", name := "meet", desc := "()I" } : Jvm.MethodName)) ∈ xTs := xT_8 185 (by rfl) rfl
theorem w_1997 : (Jvm.Cond.selects "EditsMeet" ({ cls := "EditsMeet", name := "meet", desc := "()I" } : Jvm.MethodName) ({ cls := "EditsMeet", name := "meet", desc := "()I" } : Jvm.MethodName)) ∈ xTs := xT_8 186 (by rfl) rfl
theorem w_1998 : (Jvm.Cond.code ({ cls := "EditsMeet", name := "meet", desc := "()I" } : Jvm.MethodName) prog_1_method_41_code (6 : Nat) (Option.some Jvm.ClassFile.FieldType.int)) ∈ xTs := xT_8 187 (by rfl) rfl
theorem w_1999 : (Jvm.Cond.methodLink "EditsMeet" (346 : Nat) ({ cls := "EditsMeet$Meeting", name := "isSettled", desc := "()Z" } : Jvm.MethodName)) ∈ xTs := xT_8 188 (by rfl) rfl
theorem w_2000 : (Jvm.Cond.instanceMethod ({ cls := "EditsMeet$Meeting", name := "isSettled", desc := "()Z" } : Jvm.MethodName)) ∈ xTs := xT_8 189 (by rfl) rfl
theorem w_2001 : (Jvm.Cond.selects "EditsMeet$Meeting" ({ cls := "EditsMeet$Meeting", name := "isSettled", desc := "()Z" } : Jvm.MethodName) ({ cls := "EditsMeet$Meeting", name := "isSettled", desc := "()Z" } : Jvm.MethodName)) ∈ xTs := xT_8 190 (by rfl) rfl
theorem w_2002 : (Jvm.Cond.code ({ cls := "EditsMeet$Meeting", name := "isSettled", desc := "()Z" } : Jvm.MethodName) prog_5_method_7_code (3 : Nat) (Option.some Jvm.ClassFile.FieldType.boolean)) ∈ xTs := xT_8 191 (by rfl) rfl
theorem w_2003 : (Jvm.Cond.methodLink "EditsMeet$Meeting" (84 : Nat) ({ cls := "EditsMeet$Client", name := "isUnserved", desc := "()Z" } : Jvm.MethodName)) ∈ xTs := xT_8 192 (by rfl) rfl
theorem w_2004 : (Jvm.Cond.methodLink "EditsMeetLaw" (135 : Nat) ({ cls := "EditsMeet", name := "cursor", desc := "(II)I" } : Jvm.MethodName)) ∈ xTs := xT_8 193 (by rfl) rfl
theorem w_2005 : (Jvm.Cond.instanceMethod ({ cls := "EditsMeet", name := "cursor", desc := "(II)I" } : Jvm.MethodName)) ∈ xTs := xT_8 194 (by rfl) rfl
theorem w_2006 : (Jvm.Cond.selects "EditsMeet" ({ cls := "EditsMeet", name := "cursor", desc := "(II)I" } : Jvm.MethodName) ({ cls := "EditsMeet", name := "cursor", desc := "(II)I" } : Jvm.MethodName)) ∈ xTs := xT_8 195 (by rfl) rfl
theorem w_2007 : (Jvm.Cond.code ({ cls := "EditsMeet", name := "cursor", desc := "(II)I" } : Jvm.MethodName) prog_1_method_42_code (4 : Nat) (Option.some Jvm.ClassFile.FieldType.int)) ∈ xTs := xT_8 196 (by rfl) rfl
theorem w_2008 : (Jvm.Cond.methodLink "EditsMeetLaw" (139 : Nat) ({ cls := "EditsMeet", name := "clientOf", desc := "(II)I" } : Jvm.MethodName)) ∈ xTs := xT_8 197 (by rfl) rfl
theorem w_2009 : (Jvm.Cond.instanceMethod ({ cls := "EditsMeet", name := "clientOf", desc := "(II)I" } : Jvm.MethodName)) ∈ xTs := xT_8 198 (by rfl) rfl
theorem w_2010 : (Jvm.Cond.selects "EditsMeet" ({ cls := "EditsMeet", name := "clientOf", desc := "(II)I" } : Jvm.MethodName) ({ cls := "EditsMeet", name := "clientOf", desc := "(II)I" } : Jvm.MethodName)) ∈ xTs := xT_8 199 (by rfl) rfl
theorem w_2011 : (Jvm.Cond.code ({ cls := "EditsMeet", name := "clientOf", desc := "(II)I" } : Jvm.MethodName) prog_1_method_43_code (4 : Nat) (Option.some Jvm.ClassFile.FieldType.int)) ∈ xTs := xT_8 200 (by rfl) rfl
theorem w_2012 : (Jvm.Cond.methodLink "EditsMeet" (356 : Nat) ({ cls := "EditsMeet$Client", name := "told", desc := "(I)I" } : Jvm.MethodName)) ∈ xTs := xT_8 201 (by rfl) rfl
theorem w_2013 : (Jvm.Cond.methodLink "EditsMeetLaw" (143 : Nat) ({ cls := "EditsMeet", name := "takes", desc := "(III)I" } : Jvm.MethodName)) ∈ xTs := xT_8 202 (by rfl) rfl
theorem w_2014 : (Jvm.Cond.instanceMethod ({ cls := "EditsMeet", name := "takes", desc := "(III)I" } : Jvm.MethodName)) ∈ xTs := xT_8 203 (by rfl) rfl
theorem w_2015 : (Jvm.Cond.selects "EditsMeet" ({ cls := "EditsMeet", name := "takes", desc := "(III)I" } : Jvm.MethodName) ({ cls := "EditsMeet", name := "takes", desc := "(III)I" } : Jvm.MethodName)) ∈ xTs := xT_8 204 (by rfl) rfl
theorem w_2016 : (Jvm.Cond.code ({ cls := "EditsMeet", name := "takes", desc := "(III)I" } : Jvm.MethodName) prog_1_method_44_code (5 : Nat) (Option.some Jvm.ClassFile.FieldType.int)) ∈ xTs := xT_8 205 (by rfl) rfl
theorem w_2017 : (Jvm.Cond.methodLink "EditsMeet" (358 : Nat) ({ cls := "EditsMeet$Client", name := "has", desc := "(I)Z" } : Jvm.MethodName)) ∈ xTs := xT_8 206 (by rfl) rfl
theorem w_2018 : (Jvm.Cond.methodLink "EditsMeetLaw" (147 : Nat) ({ cls := "EditsMeet", name := "revision", desc := "(II)I" } : Jvm.MethodName)) ∈ xTs := xT_8 207 (by rfl) rfl
theorem w_2019 : (Jvm.Cond.instanceMethod ({ cls := "EditsMeet", name := "revision", desc := "(II)I" } : Jvm.MethodName)) ∈ xTs := xT_8 208 (by rfl) rfl
theorem w_2020 : (Jvm.Cond.selects "EditsMeet" ({ cls := "EditsMeet", name := "revision", desc := "(II)I" } : Jvm.MethodName) ({ cls := "EditsMeet", name := "revision", desc := "(II)I" } : Jvm.MethodName)) ∈ xTs := xT_8 209 (by rfl) rfl
theorem w_2021 : (Jvm.Cond.code ({ cls := "EditsMeet", name := "revision", desc := "(II)I" } : Jvm.MethodName) prog_1_method_45_code (3 : Nat) (Option.some Jvm.ClassFile.FieldType.int)) ∈ xTs := xT_8 210 (by rfl) rfl
theorem w_2026 : (Jvm.Cond.methodLink "EditsMeetLaw" (151 : Nat) ({ cls := "EditsMeet", name := "length", desc := "(I)I" } : Jvm.MethodName)) ∈ xTs := xT_8 215 (by rfl) rfl
theorem w_2027 : (Jvm.Cond.instanceMethod ({ cls := "EditsMeet", name := "length", desc := "(I)I" } : Jvm.MethodName)) ∈ xTs := xT_8 216 (by rfl) rfl
theorem w_2028 : (Jvm.Cond.selects "EditsMeet" ({ cls := "EditsMeet", name := "length", desc := "(I)I" } : Jvm.MethodName) ({ cls := "EditsMeet", name := "length", desc := "(I)I" } : Jvm.MethodName)) ∈ xTs := xT_8 217 (by rfl) rfl
theorem w_2029 : (Jvm.Cond.code ({ cls := "EditsMeet", name := "length", desc := "(I)I" } : Jvm.MethodName) prog_1_method_46_code (2 : Nat) (Option.some Jvm.ClassFile.FieldType.int)) ∈ xTs := xT_8 218 (by rfl) rfl
theorem w_2030 : (Jvm.Cond.methodLink "EditsMeet" (364 : Nat) ({ cls := "EditsMeet$Meeting", name := "hasText", desc := "(I)Z" } : Jvm.MethodName)) ∈ xTs := xT_8 219 (by rfl) rfl
theorem w_2031 : (Jvm.Cond.instanceMethod ({ cls := "EditsMeet$Meeting", name := "hasText", desc := "(I)Z" } : Jvm.MethodName)) ∈ xTs := xT_8 220 (by rfl) rfl
theorem w_2032 : (Jvm.Cond.selects "EditsMeet$Meeting" ({ cls := "EditsMeet$Meeting", name := "hasText", desc := "(I)Z" } : Jvm.MethodName) ({ cls := "EditsMeet$Meeting", name := "hasText", desc := "(I)Z" } : Jvm.MethodName)) ∈ xTs := xT_8 221 (by rfl) rfl
theorem w_2033 : (Jvm.Cond.code ({ cls := "EditsMeet$Meeting", name := "hasText", desc := "(I)Z" } : Jvm.MethodName) prog_5_method_4_code (2 : Nat) (Option.some Jvm.ClassFile.FieldType.boolean)) ∈ xTs := xT_8 222 (by rfl) rfl
theorem w_2034 : (Jvm.Cond.methodLink "EditsMeetLaw" (155 : Nat) ({ cls := "EditsMeet", name := "text", desc := "(III)I" } : Jvm.MethodName)) ∈ xTs := xT_8 223 (by rfl) rfl
theorem w_2035 : (Jvm.Cond.instanceMethod ({ cls := "EditsMeet", name := "text", desc := "(III)I" } : Jvm.MethodName)) ∈ xTs := xT_8 224 (by rfl) rfl
theorem w_2036 : (Jvm.Cond.selects "EditsMeet" ({ cls := "EditsMeet", name := "text", desc := "(III)I" } : Jvm.MethodName) ({ cls := "EditsMeet", name := "text", desc := "(III)I" } : Jvm.MethodName)) ∈ xTs := xT_8 225 (by rfl) rfl
theorem w_2037 : (Jvm.Cond.code ({ cls := "EditsMeet", name := "text", desc := "(III)I" } : Jvm.MethodName) prog_1_method_47_code (6 : Nat) (Option.some Jvm.ClassFile.FieldType.int)) ∈ xTs := xT_8 226 (by rfl) rfl
theorem w_2038 : (Jvm.Cond.methodLink "EditsMeetLaw" (159 : Nat) ({ cls := "EditsMeet", name := "apart", desc := "(II)I" } : Jvm.MethodName)) ∈ xTs := xT_8 227 (by rfl) rfl
theorem w_2039 : (Jvm.Cond.instanceMethod ({ cls := "EditsMeet", name := "apart", desc := "(II)I" } : Jvm.MethodName)) ∈ xTs := xT_8 228 (by rfl) rfl
theorem w_2040 : (Jvm.Cond.selects "EditsMeet" ({ cls := "EditsMeet", name := "apart", desc := "(II)I" } : Jvm.MethodName) ({ cls := "EditsMeet", name := "apart", desc := "(II)I" } : Jvm.MethodName)) ∈ xTs := xT_8 229 (by rfl) rfl
theorem w_2041 : (Jvm.Cond.code ({ cls := "EditsMeet", name := "apart", desc := "(II)I" } : Jvm.MethodName) prog_1_method_48_code (5 : Nat) (Option.some Jvm.ClassFile.FieldType.int)) ∈ xTs := xT_8 230 (by rfl) rfl
theorem w_2042 : (Jvm.Cond.methodLink "EditsMeet" (367 : Nat) ({ cls := "EditsMeet$Teller", name := "firstUnlikePlace", desc := "(II)J" } : Jvm.MethodName)) ∈ xTs := xT_8 231 (by rfl) rfl
theorem w_2043 : (Jvm.Cond.instanceMethod ({ cls := "EditsMeet$Teller", name := "firstUnlikePlace", desc := "(II)J" } : Jvm.MethodName)) ∈ xTs := xT_8 232 (by rfl) rfl
theorem w_2044 : (Jvm.Cond.selects "EditsMeet$Teller" ({ cls := "EditsMeet$Teller", name := "firstUnlikePlace", desc := "(II)J" } : Jvm.MethodName) ({ cls := "EditsMeet$Teller", name := "firstUnlikePlace", desc := "(II)J" } : Jvm.MethodName)) ∈ xTs := xT_8 233 (by rfl) rfl
theorem w_2045 : (Jvm.Cond.code ({ cls := "EditsMeet$Teller", name := "firstUnlikePlace", desc := "(II)J" } : Jvm.MethodName) prog_10_method_29_code (3 : Nat) (Option.some Jvm.ClassFile.FieldType.long)) ∈ xTs := xT_8 234 (by rfl) rfl
theorem w_2046 : (Jvm.Cond.methodLink "EditsMeetLaw" (163 : Nat) ({ cls := "EditsMeet", name := "marked", desc := "(II)I" } : Jvm.MethodName)) ∈ xTs := xT_8 235 (by rfl) rfl
theorem w_2047 : (Jvm.Cond.instanceMethod ({ cls := "EditsMeet", name := "marked", desc := "(II)I" } : Jvm.MethodName)) ∈ xTs := xT_8 236 (by rfl) rfl
theorem w_2048 : (Jvm.Cond.selects "EditsMeet" ({ cls := "EditsMeet", name := "marked", desc := "(II)I" } : Jvm.MethodName) ({ cls := "EditsMeet", name := "marked", desc := "(II)I" } : Jvm.MethodName)) ∈ xTs := xT_8 237 (by rfl) rfl
theorem w_2049 : (Jvm.Cond.code ({ cls := "EditsMeet", name := "marked", desc := "(II)I" } : Jvm.MethodName) prog_1_method_49_code (3 : Nat) (Option.some Jvm.ClassFile.FieldType.int)) ∈ xTs := xT_8 238 (by rfl) rfl
theorem w_2050 : (Jvm.Cond.methodLink "EditsMeet" (370 : Nat) ({ cls := "EditsMeet$Teller", name := "lettersMarked", desc := "(II)I" } : Jvm.MethodName)) ∈ xTs := xT_8 239 (by rfl) rfl
theorem w_2051 : (Jvm.Cond.instanceMethod ({ cls := "EditsMeet$Teller", name := "lettersMarked", desc := "(II)I" } : Jvm.MethodName)) ∈ xTs := xT_9 0 (by rfl) rfl
theorem w_2052 : (Jvm.Cond.selects "EditsMeet$Teller" ({ cls := "EditsMeet$Teller", name := "lettersMarked", desc := "(II)I" } : Jvm.MethodName) ({ cls := "EditsMeet$Teller", name := "lettersMarked", desc := "(II)I" } : Jvm.MethodName)) ∈ xTs := xT_9 1 (by rfl) rfl
theorem w_2053 : (Jvm.Cond.code ({ cls := "EditsMeet$Teller", name := "lettersMarked", desc := "(II)I" } : Jvm.MethodName) prog_10_method_3_code (3 : Nat) (Option.some Jvm.ClassFile.FieldType.int)) ∈ xTs := xT_9 2 (by rfl) rfl
theorem w_2054 : (Jvm.Cond.methodLink "EditsMeetLaw" (167 : Nat) ({ cls := "EditsMeet", name := "judge", desc := "(III)I" } : Jvm.MethodName)) ∈ xTs := xT_9 3 (by rfl) rfl
theorem w_2055 : (Jvm.Cond.instanceMethod ({ cls := "EditsMeet", name := "judge", desc := "(III)I" } : Jvm.MethodName)) ∈ xTs := xT_9 4 (by rfl) rfl
theorem w_2056 : (Jvm.Cond.selects "EditsMeet" ({ cls := "EditsMeet", name := "judge", desc := "(III)I" } : Jvm.MethodName) ({ cls := "EditsMeet", name := "judge", desc := "(III)I" } : Jvm.MethodName)) ∈ xTs := xT_9 5 (by rfl) rfl
theorem w_2057 : (Jvm.Cond.code ({ cls := "EditsMeet", name := "judge", desc := "(III)I" } : Jvm.MethodName) prog_1_method_50_code (9 : Nat) (Option.some Jvm.ClassFile.FieldType.int)) ∈ xTs := xT_9 6 (by rfl) rfl
theorem w_2059 : (Jvm.Cond.methodLink "EditsMeetLaw" (171 : Nat) ({ cls := "EditsMeet", name := "days", desc := "(I)I" } : Jvm.MethodName)) ∈ xTs := xT_9 8 (by rfl) rfl
theorem w_2060 : (Jvm.Cond.instanceMethod ({ cls := "EditsMeet", name := "days", desc := "(I)I" } : Jvm.MethodName)) ∈ xTs := xT_9 9 (by rfl) rfl
theorem w_2061 : (Jvm.Cond.selects "EditsMeet" ({ cls := "EditsMeet", name := "days", desc := "(I)I" } : Jvm.MethodName) ({ cls := "EditsMeet", name := "days", desc := "(I)I" } : Jvm.MethodName)) ∈ xTs := xT_9 10 (by rfl) rfl
theorem w_2062 : (Jvm.Cond.code ({ cls := "EditsMeet", name := "days", desc := "(I)I" } : Jvm.MethodName) prog_1_method_51_code (7 : Nat) (Option.some Jvm.ClassFile.FieldType.int)) ∈ xTs := xT_9 11 (by rfl) rfl
theorem w_2063 : (Jvm.Cond.constantLong "EditsMeet" (379 : Nat) (4 : Int64)) ∈ xTs := xT_9 12 (by rfl) rfl
theorem w_2064 : (Jvm.Cond.methodLink "EditsMeet" (381 : Nat) ({ cls := "EditsMeet$Meeting", name := "draw", desc := "(J)J" } : Jvm.MethodName)) ∈ xTs := xT_9 13 (by rfl) rfl
theorem w_2065 : (Jvm.Cond.instanceMethod ({ cls := "EditsMeet$Meeting", name := "draw", desc := "(J)J" } : Jvm.MethodName)) ∈ xTs := xT_9 14 (by rfl) rfl
theorem w_2066 : (Jvm.Cond.selects "EditsMeet$Meeting" ({ cls := "EditsMeet$Meeting", name := "draw", desc := "(J)J" } : Jvm.MethodName) ({ cls := "EditsMeet$Meeting", name := "draw", desc := "(J)J" } : Jvm.MethodName)) ∈ xTs := xT_9 15 (by rfl) rfl
theorem w_2067 : (Jvm.Cond.code ({ cls := "EditsMeet$Meeting", name := "draw", desc := "(J)J" } : Jvm.MethodName) prog_5_method_9_code (3 : Nat) (Option.some Jvm.ClassFile.FieldType.long)) ∈ xTs := xT_9 16 (by rfl) rfl
theorem w_2068 : (Jvm.Cond.constant "EditsMeet$Meeting" (91 : Nat) (1103515245 : Int32)) ∈ xTs := xT_9 17 (by rfl) rfl
theorem w_2069 : (Jvm.Cond.constantLong "EditsMeet" (385 : Nat) (8 : Int64)) ∈ xTs := xT_9 18 (by rfl) rfl
theorem w_2070 : (Jvm.Cond.methodLink "EditsMeet" (387 : Nat) ({ cls := "EditsMeet", name := "canBe", desc := "(LEditsMeet$Client;I)Z" } : Jvm.MethodName)) ∈ xTs := xT_9 19 (by rfl) rfl
theorem w_2072 : (Jvm.Cond.instanceMethod ({ cls := "EditsMeet", name := "canBe", desc := "(LEditsMeet$Client;I)Z" } : Jvm.MethodName)) ∈ xTs := xT_9 21 (by rfl) rfl
theorem w_2073 : (Jvm.Cond.code ({ cls := "EditsMeet", name := "canBe", desc := "(LEditsMeet$Client;I)Z" } : Jvm.MethodName) prog_1_method_53_code (3 : Nat) (Option.some Jvm.ClassFile.FieldType.boolean)) ∈ xTs := xT_9 22 (by rfl) rfl
theorem w_2074 : (Jvm.Cond.methodLink "EditsMeet" (391 : Nat) ({ cls := "EditsMeet", name := "draftByDraws", desc := "(LEditsMeet$Client;I)V" } : Jvm.MethodName)) ∈ xTs := xT_9 23 (by rfl) rfl
theorem w_2076 : (Jvm.Cond.instanceMethod ({ cls := "EditsMeet", name := "draftByDraws", desc := "(LEditsMeet$Client;I)V" } : Jvm.MethodName)) ∈ xTs := xT_9 25 (by rfl) rfl
theorem w_2077 : (Jvm.Cond.code ({ cls := "EditsMeet", name := "draftByDraws", desc := "(LEditsMeet$Client;I)V" } : Jvm.MethodName) prog_1_method_54_code (8 : Nat) (Option.none : Option Jvm.ClassFile.FieldType)) ∈ xTs := xT_9 26 (by rfl) rfl
theorem w_2078 : (Jvm.Cond.constantLong "EditsMeet" (398 : Nat) (26 : Int64)) ∈ xTs := xT_9 27 (by rfl) rfl
theorem w_2079 : (Jvm.Cond.methodLink "EditsMeetLaw" (175 : Nat) ({ cls := "EditsMeet", name := "seed", desc := "(I)I" } : Jvm.MethodName)) ∈ xTs := xT_9 28 (by rfl) rfl
theorem w_2080 : (Jvm.Cond.instanceMethod ({ cls := "EditsMeet", name := "seed", desc := "(I)I" } : Jvm.MethodName)) ∈ xTs := xT_9 29 (by rfl) rfl
theorem w_2081 : (Jvm.Cond.selects "EditsMeet" ({ cls := "EditsMeet", name := "seed", desc := "(I)I" } : Jvm.MethodName) ({ cls := "EditsMeet", name := "seed", desc := "(I)I" } : Jvm.MethodName)) ∈ xTs := xT_9 30 (by rfl) rfl
theorem w_2082 : (Jvm.Cond.code ({ cls := "EditsMeet", name := "seed", desc := "(I)I" } : Jvm.MethodName) prog_1_method_52_code (3 : Nat) (Option.some Jvm.ClassFile.FieldType.int)) ∈ xTs := xT_9 31 (by rfl) rfl
theorem w_2083 : (Jvm.Cond.methodLink "EditsMeetLaw" (179 : Nat) ({ cls := "EditsMeet", name := "image", desc := "()I" } : Jvm.MethodName)) ∈ xTs := xT_9 32 (by rfl) rfl
theorem w_2084 : (Jvm.Cond.instanceMethod ({ cls := "EditsMeet", name := "image", desc := "()I" } : Jvm.MethodName)) ∈ xTs := xT_9 33 (by rfl) rfl
theorem w_2085 : (Jvm.Cond.selects "EditsMeet" ({ cls := "EditsMeet", name := "image", desc := "()I" } : Jvm.MethodName) ({ cls := "EditsMeet", name := "image", desc := "()I" } : Jvm.MethodName)) ∈ xTs := xT_9 34 (by rfl) rfl
theorem w_2086 : (Jvm.Cond.code ({ cls := "EditsMeet", name := "image", desc := "()I" } : Jvm.MethodName) prog_1_method_55_code (1 : Nat) (Option.some Jvm.ClassFile.FieldType.int)) ∈ xTs := xT_9 35 (by rfl) rfl
theorem w_2087 : (Jvm.Cond.methodLink "EditsMeet" (400 : Nat) ({ cls := "EditsMeet$Meeting", name := "like", desc := "(LEditsMeet$Meeting;)V" } : Jvm.MethodName)) ∈ xTs := xT_9 36 (by rfl) rfl
theorem w_2088 : (Jvm.Cond.instanceMethod ({ cls := "EditsMeet$Meeting", name := "like", desc := "(LEditsMeet$Meeting;)V" } : Jvm.MethodName)) ∈ xTs := xT_9 37 (by rfl) rfl
theorem w_2089 : (Jvm.Cond.selects "EditsMeet$Meeting" ({ cls := "EditsMeet$Meeting", name := "like", desc := "(LEditsMeet$Meeting;)V" } : Jvm.MethodName) ({ cls := "EditsMeet$Meeting", name := "like", desc := "(LEditsMeet$Meeting;)V" } : Jvm.MethodName)) ∈ xTs := xT_9 38 (by rfl) rfl
theorem w_2090 : (Jvm.Cond.code ({ cls := "EditsMeet$Meeting", name := "like", desc := "(LEditsMeet$Meeting;)V" } : Jvm.MethodName) prog_5_method_10_code (5 : Nat) (Option.none : Option Jvm.ClassFile.FieldType)) ∈ xTs := xT_9 39 (by rfl) rfl
theorem w_2091 : (Jvm.Cond.methodLink "EditsMeet$Meeting" (92 : Nat) ({ cls := "java/lang/Math", name := "max", desc := "(II)I" } : Jvm.MethodName)) ∈ xTs := xT_9 40 (by rfl) rfl
theorem w_2092 : (Jvm.Cond.methodLink "EditsMeet$Meeting" (98 : Nat) ({ cls := "EditsMeet$Works", name := "letGo", desc := "(II)V" } : Jvm.MethodName)) ∈ xTs := xT_9 41 (by rfl) rfl
theorem w_2093 : (Jvm.Cond.methodLink "EditsMeet$Meeting" (101 : Nat) ({ cls := "EditsMeet$Client", name := "like", desc := "(LEditsMeet$Client;)V" } : Jvm.MethodName)) ∈ xTs := xT_9 42 (by rfl) rfl
theorem w_2094 : (Jvm.Cond.methodLink "EditsMeetLaw" (183 : Nat) ({ cls := "EditsMeet", name := "back", desc := "()I" } : Jvm.MethodName)) ∈ xTs := xT_9 43 (by rfl) rfl
theorem w_2095 : (Jvm.Cond.instanceMethod ({ cls := "EditsMeet", name := "back", desc := "()I" } : Jvm.MethodName)) ∈ xTs := xT_9 44 (by rfl) rfl
theorem w_2096 : (Jvm.Cond.selects "EditsMeet" ({ cls := "EditsMeet", name := "back", desc := "()I" } : Jvm.MethodName) ({ cls := "EditsMeet", name := "back", desc := "()I" } : Jvm.MethodName)) ∈ xTs := xT_9 45 (by rfl) rfl
theorem w_2097 : (Jvm.Cond.code ({ cls := "EditsMeet", name := "back", desc := "()I" } : Jvm.MethodName) prog_1_method_56_code (1 : Nat) (Option.some Jvm.ClassFile.FieldType.int)) ∈ xTs := xT_9 46 (by rfl) rfl
theorem w_2098 : (Jvm.Cond.methodLink "EditsMeetLaw" (187 : Nat) ({ cls := "EditsMeet", name := "status", desc := "(I)I" } : Jvm.MethodName)) ∈ xTs := xT_9 47 (by rfl) rfl
theorem w_2099 : (Jvm.Cond.instanceMethod ({ cls := "EditsMeet", name := "status", desc := "(I)I" } : Jvm.MethodName)) ∈ xTs := xT_9 48 (by rfl) rfl
theorem w_2100 : (Jvm.Cond.selects "EditsMeet" ({ cls := "EditsMeet", name := "status", desc := "(I)I" } : Jvm.MethodName) ({ cls := "EditsMeet", name := "status", desc := "(I)I" } : Jvm.MethodName)) ∈ xTs := xT_9 49 (by rfl) rfl
theorem w_2101 : (Jvm.Cond.code ({ cls := "EditsMeet", name := "status", desc := "(I)I" } : Jvm.MethodName) prog_1_method_57_code (3 : Nat) (Option.some Jvm.ClassFile.FieldType.int)) ∈ xTs := xT_9 50 (by rfl) rfl
theorem w_2102 : (Jvm.Cond.methodLink "EditsMeet" (406 : Nat) ({ cls := "EditsMeet", name := "clientsAlike", desc := "()I" } : Jvm.MethodName)) ∈ xTs := xT_9 51 (by rfl) rfl
theorem w_2104 : (Jvm.Cond.instanceMethod ({ cls := "EditsMeet", name := "clientsAlike", desc := "()I" } : Jvm.MethodName)) ∈ xTs := xT_9 53 (by rfl) rfl
theorem w_2105 : (Jvm.Cond.code ({ cls := "EditsMeet", name := "clientsAlike", desc := "()I" } : Jvm.MethodName) prog_1_method_58_code (6 : Nat) (Option.some Jvm.ClassFile.FieldType.int)) ∈ xTs := xT_9 54 (by rfl) rfl
theorem w_2106 : (Jvm.Cond.methodLink "EditsMeet" (421 : Nat) ({ cls := "EditsMeet$Works", name := "isThere", desc := "(I)Z" } : Jvm.MethodName)) ∈ xTs := xT_9 55 (by rfl) rfl
theorem w_2107 : (Jvm.Cond.methodLink "EditsMeet" (424 : Nat) ({ cls := "EditsMeet$Works", name := "node", desc := "(I)I" } : Jvm.MethodName)) ∈ xTs := xT_9 56 (by rfl) rfl
theorem w_2109 : (Jvm.Cond.methodLink "EditsMeet" (409 : Nat) ({ cls := "EditsMeet", name := "editsByNumber", desc := "()I" } : Jvm.MethodName)) ∈ xTs := xT_9 58 (by rfl) rfl
theorem w_2111 : (Jvm.Cond.instanceMethod ({ cls := "EditsMeet", name := "editsByNumber", desc := "()I" } : Jvm.MethodName)) ∈ xTs := xT_9 60 (by rfl) rfl
theorem w_2112 : (Jvm.Cond.code ({ cls := "EditsMeet", name := "editsByNumber", desc := "()I" } : Jvm.MethodName) prog_1_method_60_code (3 : Nat) (Option.some Jvm.ClassFile.FieldType.int)) ∈ xTs := xT_9 61 (by rfl) rfl
theorem w_2113 : (Jvm.Cond.methodLink "EditsMeet" (412 : Nat) ({ cls := "EditsMeet", name := "allLetters", desc := "()J" } : Jvm.MethodName)) ∈ xTs := xT_9 62 (by rfl) rfl
theorem w_2115 : (Jvm.Cond.instanceMethod ({ cls := "EditsMeet", name := "allLetters", desc := "()J" } : Jvm.MethodName)) ∈ xTs := xT_9 64 (by rfl) rfl
theorem w_2116 : (Jvm.Cond.code ({ cls := "EditsMeet", name := "allLetters", desc := "()J" } : Jvm.MethodName) prog_1_method_59_code (5 : Nat) (Option.some Jvm.ClassFile.FieldType.long)) ∈ xTs := xT_9 65 (by rfl) rfl
theorem w_2117 : (Jvm.Cond.methodLink "EditsMeet" (415 : Nat) ({ cls := "EditsMeet$Meeting", name := "clientsSending", desc := "()I" } : Jvm.MethodName)) ∈ xTs := xT_9 66 (by rfl) rfl
theorem w_2118 : (Jvm.Cond.instanceMethod ({ cls := "EditsMeet$Meeting", name := "clientsSending", desc := "()I" } : Jvm.MethodName)) ∈ xTs := xT_9 67 (by rfl) rfl
theorem w_2119 : (Jvm.Cond.selects "EditsMeet$Meeting" ({ cls := "EditsMeet$Meeting", name := "clientsSending", desc := "()I" } : Jvm.MethodName) ({ cls := "EditsMeet$Meeting", name := "clientsSending", desc := "()I" } : Jvm.MethodName)) ∈ xTs := xT_9 68 (by rfl) rfl
theorem w_2120 : (Jvm.Cond.code ({ cls := "EditsMeet$Meeting", name := "clientsSending", desc := "()I" } : Jvm.MethodName) prog_5_method_8_code (4 : Nat) (Option.some Jvm.ClassFile.FieldType.int)) ∈ xTs := xT_9 69 (by rfl) rfl
theorem w_2121 : (Jvm.Cond.methodLink "EditsMeet" (418 : Nat) ({ cls := "EditsMeet", name := "shelvesInUse", desc := "()I" } : Jvm.MethodName)) ∈ xTs := xT_9 70 (by rfl) rfl
theorem w_2123 : (Jvm.Cond.instanceMethod ({ cls := "EditsMeet", name := "shelvesInUse", desc := "()I" } : Jvm.MethodName)) ∈ xTs := xT_9 72 (by rfl) rfl
theorem w_2124 : (Jvm.Cond.code ({ cls := "EditsMeet", name := "shelvesInUse", desc := "()I" } : Jvm.MethodName) prog_1_method_61_code (3 : Nat) (Option.some Jvm.ClassFile.FieldType.int)) ∈ xTs := xT_9 73 (by rfl) rfl
theorem w_2125 : (Jvm.Cond.classLink "EditsMeetLaw" (10 : Nat) "EditsMeetModel") ∈ xTs := xT_9 74 (by rfl) rfl
theorem w_2126 : (Jvm.Cond.instantiable "EditsMeetModel" (33 : Nat)) ∈ xTs := xT_9 75 (by rfl) rfl
theorem w_2127 : (Jvm.Cond.methodLink "EditsMeetLaw" (12 : Nat) ({ cls := "EditsMeetModel", name := "<init>", desc := "()V" } : Jvm.MethodName)) ∈ xTs := xT_9 76 (by rfl) rfl
theorem w_2128 : (Jvm.Cond.instanceMethod ({ cls := "EditsMeetModel", name := "<init>", desc := "()V" } : Jvm.MethodName)) ∈ xTs := xT_9 77 (by rfl) rfl
theorem w_2129 : (Jvm.Cond.code ({ cls := "EditsMeetModel", name := "<init>", desc := "()V" } : Jvm.MethodName) prog_14_method_1_code (1 : Nat) (Option.none : Option Jvm.ClassFile.FieldType)) ∈ xTs := xT_9 78 (by rfl) rfl
theorem w_2130 : (Jvm.Cond.methodLink "EditsMeetModel" (1 : Nat) ({ cls := "java/lang/Object", name := "<init>", desc := "()V" } : Jvm.MethodName)) ∈ xTs := xT_9 79 (by rfl) rfl
theorem w_2131 : (Jvm.Cond.classLink "EditsMeetModel" (9 : Nat) "[[I") ∈ xTs := xT_9 80 (by rfl) rfl
theorem w_2133 : (Jvm.Cond.fieldLink "EditsMeetModel" (11 : Nat) "EditsMeetModel" "rows" "[[I") ∈ xTs := xT_9 82 (by rfl) rfl
theorem w_2134 : (Jvm.Cond.fieldLink "EditsMeetModel" (14 : Nat) "EditsMeetModel" "size" "[I") ∈ xTs := xT_9 83 (by rfl) rfl
theorem w_2135 : (Jvm.Cond.fieldLink "EditsMeetModel" (18 : Nat) "EditsMeetModel" "isThere" "[Z") ∈ xTs := xT_9 84 (by rfl) rfl
theorem w_2136 : (Jvm.Cond.fieldLink "EditsMeetModel" (22 : Nat) "EditsMeetModel" "texts" "[[I") ∈ xTs := xT_9 85 (by rfl) rfl
theorem w_2137 : (Jvm.Cond.fieldLink "EditsMeetModel" (25 : Nat) "EditsMeetModel" "lengths" "[I") ∈ xTs := xT_9 86 (by rfl) rfl
theorem w_2138 : (Jvm.Cond.fieldLink "EditsMeetModel" (28 : Nat) "EditsMeetModel" "state" "[I") ∈ xTs := xT_9 87 (by rfl) rfl
theorem w_2139 : (Jvm.Cond.fieldLink "EditsMeetModel" (31 : Nat) "EditsMeetModel" "by" "[I") ∈ xTs := xT_9 88 (by rfl) rfl
theorem w_2140 : (Jvm.Cond.fieldLink "EditsMeetModel" (34 : Nat) "EditsMeetModel" "single" "[I") ∈ xTs := xT_9 89 (by rfl) rfl
theorem w_2141 : (Jvm.Cond.fieldLink "EditsMeetModel" (37 : Nat) "EditsMeetModel" "refusals" "[I") ∈ xTs := xT_9 90 (by rfl) rfl
theorem w_2142 : (Jvm.Cond.fieldLink "EditsMeetModel" (40 : Nat) "EditsMeetModel" "work" "[[I") ∈ xTs := xT_9 91 (by rfl) rfl
theorem w_2143 : (Jvm.Cond.fieldLink "EditsMeetModel" (43 : Nat) "EditsMeetModel" "worked" "[I") ∈ xTs := xT_9 92 (by rfl) rfl
theorem w_2144 : (Jvm.Cond.fieldLink "EditsMeetModel" (46 : Nat) "EditsMeetModel" "aside" "[I") ∈ xTs := xT_9 93 (by rfl) rfl
theorem w_2145 : (Jvm.Cond.fieldLink "EditsMeetModel" (49 : Nat) "EditsMeetModel" "tape" "[I") ∈ xTs := xT_9 94 (by rfl) rfl
theorem w_2146 : (Jvm.Cond.fieldLink "EditsMeetModel" (186 : Nat) "EditsMeetModel" "taped" "I") ∈ xTs := xT_9 95 (by rfl) rfl
theorem w_2147 : (Jvm.Cond.fieldLink "EditsMeetModel" (190 : Nat) "EditsMeetModel" "place" "I") ∈ xTs := xT_9 96 (by rfl) rfl
theorem w_2152 : (Jvm.Cond.fieldLink "EditsMeetModel" (52 : Nat) "EditsMeetModel" "sorts" "[I") ∈ xTs := xT_9 101 (by rfl) rfl
theorem w_2153 : (Jvm.Cond.fieldLink "EditsMeetModel" (55 : Nat) "EditsMeetModel" "sizes" "[I") ∈ xTs := xT_9 102 (by rfl) rfl
theorem w_2154 : (Jvm.Cond.fieldLink "EditsMeetModel" (58 : Nat) "EditsMeetModel" "elements" "[J") ∈ xTs := xT_9 103 (by rfl) rfl
theorem w_2155 : (Jvm.Cond.fieldLink "EditsMeetModel" (62 : Nat) "EditsMeetModel" "partKind" "[I") ∈ xTs := xT_9 104 (by rfl) rfl
theorem w_2156 : (Jvm.Cond.fieldLink "EditsMeetModel" (65 : Nat) "EditsMeetModel" "partMany" "[I") ∈ xTs := xT_9 105 (by rfl) rfl
theorem w_2157 : (Jvm.Cond.fieldLink "EditsMeetModel" (68 : Nat) "EditsMeetModel" "partAbout" "[I") ∈ xTs := xT_9 106 (by rfl) rfl
theorem w_2158 : (Jvm.Cond.fieldLink "EditsMeetModel" (71 : Nat) "EditsMeetModel" "keptRows" "[[I") ∈ xTs := xT_9 107 (by rfl) rfl
theorem w_2159 : (Jvm.Cond.fieldLink "EditsMeetModel" (74 : Nat) "EditsMeetModel" "keptSize" "[I") ∈ xTs := xT_9 108 (by rfl) rfl
theorem w_2160 : (Jvm.Cond.fieldLink "EditsMeetModel" (77 : Nat) "EditsMeetModel" "keptTexts" "[[I") ∈ xTs := xT_9 109 (by rfl) rfl
theorem w_2161 : (Jvm.Cond.fieldLink "EditsMeetModel" (80 : Nat) "EditsMeetModel" "keptLengths" "[I") ∈ xTs := xT_9 110 (by rfl) rfl
theorem w_2162 : (Jvm.Cond.fieldLink "EditsMeetModel" (83 : Nat) "EditsMeetModel" "keptState" "[I") ∈ xTs := xT_9 111 (by rfl) rfl
theorem w_2163 : (Jvm.Cond.fieldLink "EditsMeetModel" (86 : Nat) "EditsMeetModel" "keptBy" "[I") ∈ xTs := xT_9 112 (by rfl) rfl
theorem w_2164 : (Jvm.Cond.fieldLink "EditsMeetModel" (89 : Nat) "EditsMeetModel" "keptSingle" "[I") ∈ xTs := xT_9 113 (by rfl) rfl
theorem w_2165 : (Jvm.Cond.fieldLink "EditsMeetModel" (363 : Nat) "EditsMeetModel" "hasImage" "Z") ∈ xTs := xT_9 114 (by rfl) rfl
theorem w_2233 : (Jvm.Cond.methodLink "EditsMeetLaw" (52 : Nat) ({ cls := "EditsMeetModel", name := "feed", desc := "(I)I" } : Jvm.MethodName)) ∈ xTs := xT_9 182 (by rfl) rfl
theorem w_2234 : (Jvm.Cond.instanceMethod ({ cls := "EditsMeetModel", name := "feed", desc := "(I)I" } : Jvm.MethodName)) ∈ xTs := xT_9 183 (by rfl) rfl
theorem w_2235 : (Jvm.Cond.selects "EditsMeetModel" ({ cls := "EditsMeetModel", name := "feed", desc := "(I)I" } : Jvm.MethodName) ({ cls := "EditsMeetModel", name := "feed", desc := "(I)I" } : Jvm.MethodName)) ∈ xTs := xT_9 184 (by rfl) rfl
theorem w_2236 : (Jvm.Cond.code ({ cls := "EditsMeetModel", name := "feed", desc := "(I)I" } : Jvm.MethodName) prog_14_method_35_code (2 : Nat) (Option.some Jvm.ClassFile.FieldType.int)) ∈ xTs := xT_9 185 (by rfl) rfl
theorem w_2237 : (Jvm.Cond.constantLong "EditsMeetModel" (181 : Nat) (255 : Int64)) ∈ xTs := xT_9 186 (by rfl) rfl
theorem w_2238 : (Jvm.Cond.methodLink "EditsMeetModel" (175 : Nat) ({ cls := "EditsMeetModel", name := "in", desc := "(JJJ)Z" } : Jvm.MethodName)) ∈ xTs := xT_9 187 (by rfl) rfl
theorem w_2239 : (Jvm.Cond.static ({ cls := "EditsMeetModel", name := "in", desc := "(JJJ)Z" } : Jvm.MethodName)) ∈ xTs := xT_9 188 (by rfl) rfl
theorem w_2240 : (Jvm.Cond.code ({ cls := "EditsMeetModel", name := "in", desc := "(JJJ)Z" } : Jvm.MethodName) prog_14_method_2_code (6 : Nat) (Option.some Jvm.ClassFile.FieldType.boolean)) ∈ xTs := xT_9 189 (by rfl) rfl
theorem w_2241 : (Jvm.Cond.methodLink "EditsMeetModel" (183 : Nat) ({ cls := "EditsMeetModel", name := "refused", desc := "(I)I" } : Jvm.MethodName)) ∈ xTs := xT_9 190 (by rfl) rfl
theorem w_2243 : (Jvm.Cond.instanceMethod ({ cls := "EditsMeetModel", name := "refused", desc := "(I)I" } : Jvm.MethodName)) ∈ xTs := xT_9 192 (by rfl) rfl
theorem w_2244 : (Jvm.Cond.code ({ cls := "EditsMeetModel", name := "refused", desc := "(I)I" } : Jvm.MethodName) prog_14_method_3_code (2 : Nat) (Option.some Jvm.ClassFile.FieldType.int)) ∈ xTs := xT_9 193 (by rfl) rfl
theorem w_2245 : (Jvm.Cond.methodLink "EditsMeetLaw" (57 : Nat) ({ cls := "EditsMeetModel", name := "wipe", desc := "()I" } : Jvm.MethodName)) ∈ xTs := xT_9 194 (by rfl) rfl
theorem w_2246 : (Jvm.Cond.instanceMethod ({ cls := "EditsMeetModel", name := "wipe", desc := "()I" } : Jvm.MethodName)) ∈ xTs := xT_9 195 (by rfl) rfl
theorem w_2247 : (Jvm.Cond.selects "EditsMeetModel" ({ cls := "EditsMeetModel", name := "wipe", desc := "()I" } : Jvm.MethodName) ({ cls := "EditsMeetModel", name := "wipe", desc := "()I" } : Jvm.MethodName)) ∈ xTs := xT_9 196 (by rfl) rfl
theorem w_2248 : (Jvm.Cond.code ({ cls := "EditsMeetModel", name := "wipe", desc := "()I" } : Jvm.MethodName) prog_14_method_36_code (2 : Nat) (Option.some Jvm.ClassFile.FieldType.int)) ∈ xTs := xT_9 197 (by rfl) rfl
theorem w_2249 : (Jvm.Cond.methodLink "EditsMeetLaw" (61 : Nat) ({ cls := "EditsMeetModel", name := "edit", desc := "(I)I" } : Jvm.MethodName)) ∈ xTs := xT_9 198 (by rfl) rfl
theorem w_2250 : (Jvm.Cond.instanceMethod ({ cls := "EditsMeetModel", name := "edit", desc := "(I)I" } : Jvm.MethodName)) ∈ xTs := xT_9 199 (by rfl) rfl
theorem w_2251 : (Jvm.Cond.selects "EditsMeetModel" ({ cls := "EditsMeetModel", name := "edit", desc := "(I)I" } : Jvm.MethodName) ({ cls := "EditsMeetModel", name := "edit", desc := "(I)I" } : Jvm.MethodName)) ∈ xTs := xT_9 200 (by rfl) rfl
theorem w_2252 : (Jvm.Cond.code ({ cls := "EditsMeetModel", name := "edit", desc := "(I)I" } : Jvm.MethodName) prog_14_method_40_code (3 : Nat) (Option.some Jvm.ClassFile.FieldType.int)) ∈ xTs := xT_9 201 (by rfl) rfl
theorem w_2253 : (Jvm.Cond.methodLink "EditsMeetModel" (211 : Nat) ({ cls := "EditsMeetModel", name := "isEdit", desc := "(I)Z" } : Jvm.MethodName)) ∈ xTs := xT_9 202 (by rfl) rfl
theorem w_2254 : (Jvm.Cond.static ({ cls := "EditsMeetModel", name := "isEdit", desc := "(I)Z" } : Jvm.MethodName)) ∈ xTs := xT_9 203 (by rfl) rfl
theorem w_2255 : (Jvm.Cond.code ({ cls := "EditsMeetModel", name := "isEdit", desc := "(I)Z" } : Jvm.MethodName) prog_14_method_34_code (1 : Nat) (Option.some Jvm.ClassFile.FieldType.boolean)) ∈ xTs := xT_9 204 (by rfl) rfl
theorem w_2256 : (Jvm.Cond.constantLong "EditsMeetModel" (179 : Nat) (11 : Int64)) ∈ xTs := xT_9 205 (by rfl) rfl
theorem w_2257 : (Jvm.Cond.methodLink "EditsMeetModel" (214 : Nat) ({ cls := "EditsMeetModel", name := "isPart", desc := "()Z" } : Jvm.MethodName)) ∈ xTs := xT_9 206 (by rfl) rfl
theorem w_2259 : (Jvm.Cond.instanceMethod ({ cls := "EditsMeetModel", name := "isPart", desc := "()Z" } : Jvm.MethodName)) ∈ xTs := xT_9 208 (by rfl) rfl
theorem w_2260 : (Jvm.Cond.code ({ cls := "EditsMeetModel", name := "isPart", desc := "()Z" } : Jvm.MethodName) prog_14_method_39_code (5 : Nat) (Option.some Jvm.ClassFile.FieldType.boolean)) ∈ xTs := xT_9 209 (by rfl) rfl
theorem w_2261 : (Jvm.Cond.methodLink "EditsMeetModel" (193 : Nat) ({ cls := "EditsMeetModel", name := "byteAt", desc := "(I)I" } : Jvm.MethodName)) ∈ xTs := xT_9 210 (by rfl) rfl
theorem w_2263 : (Jvm.Cond.instanceMethod ({ cls := "EditsMeetModel", name := "byteAt", desc := "(I)I" } : Jvm.MethodName)) ∈ xTs := xT_9 212 (by rfl) rfl
theorem w_2264 : (Jvm.Cond.code ({ cls := "EditsMeetModel", name := "byteAt", desc := "(I)I" } : Jvm.MethodName) prog_14_method_37_code (2 : Nat) (Option.some Jvm.ClassFile.FieldType.int)) ∈ xTs := xT_9 213 (by rfl) rfl
theorem w_2267 : (Jvm.Cond.constant "EditsMeetModel" (110 : Nat) (1048576 : Int32)) ∈ xTs := xT_9 216 (by rfl) rfl
theorem w_2268 : (Jvm.Cond.methodLink "EditsMeetModel" (115 : Nat) ({ cls := "EditsMeetModel", name := "adds", desc := "(II)V" } : Jvm.MethodName)) ∈ xTs := xT_9 217 (by rfl) rfl
theorem w_2270 : (Jvm.Cond.instanceMethod ({ cls := "EditsMeetModel", name := "adds", desc := "(II)V" } : Jvm.MethodName)) ∈ xTs := xT_9 219 (by rfl) rfl
theorem w_2271 : (Jvm.Cond.code ({ cls := "EditsMeetModel", name := "adds", desc := "(II)V" } : Jvm.MethodName) prog_14_method_6_code (3 : Nat) (Option.none : Option Jvm.ClassFile.FieldType)) ∈ xTs := xT_9 220 (by rfl) rfl
theorem w_2278 : (Jvm.Cond.constant "EditsMeetModel" (108 : Nat) (2097152 : Int32)) ∈ xTs := xT_9 227 (by rfl) rfl
theorem w_2279 : (Jvm.Cond.constant "EditsMeetModel" (109 : Nat) (3145728 : Int32)) ∈ xTs := xT_9 228 (by rfl) rfl
theorem w_2280 : (Jvm.Cond.constant "EditsMeetModel" (126 : Nat) (4194304 : Int32)) ∈ xTs := xT_9 229 (by rfl) rfl
theorem w_2281 : (Jvm.Cond.methodLink "EditsMeetModel" (122 : Nat) ({ cls := "EditsMeetModel", name := "plain", desc := "(I)V" } : Jvm.MethodName)) ∈ xTs := xT_9 230 (by rfl) rfl
theorem w_2283 : (Jvm.Cond.instanceMethod ({ cls := "EditsMeetModel", name := "plain", desc := "(I)V" } : Jvm.MethodName)) ∈ xTs := xT_9 232 (by rfl) rfl
theorem w_2284 : (Jvm.Cond.code ({ cls := "EditsMeetModel", name := "plain", desc := "(I)V" } : Jvm.MethodName) prog_14_method_10_code (6 : Nat) (Option.none : Option Jvm.ClassFile.FieldType)) ∈ xTs := xT_9 233 (by rfl) rfl
theorem w_2285 : (Jvm.Cond.methodLink "EditsMeetModel" (104 : Nat) ({ cls := "EditsMeetModel", name := "kind", desc := "(I)I" } : Jvm.MethodName)) ∈ xTs := xT_9 234 (by rfl) rfl
theorem w_2286 : (Jvm.Cond.static ({ cls := "EditsMeetModel", name := "kind", desc := "(I)I" } : Jvm.MethodName)) ∈ xTs := xT_9 235 (by rfl) rfl
theorem w_2287 : (Jvm.Cond.code ({ cls := "EditsMeetModel", name := "kind", desc := "(I)I" } : Jvm.MethodName) prog_14_method_4_code (1 : Nat) (Option.some Jvm.ClassFile.FieldType.int)) ∈ xTs := xT_9 236 (by rfl) rfl
theorem w_2288 : (Jvm.Cond.constant "EditsMeetModel" (92 : Nat) (7340032 : Int32)) ∈ xTs := xT_9 237 (by rfl) rfl
theorem w_2293 : (Jvm.Cond.methodLink "EditsMeetModel" (101 : Nat) ({ cls := "EditsMeetModel", name := "keepsRow", desc := "(II)V" } : Jvm.MethodName)) ∈ xTs := xT_10 2 (by rfl) rfl
theorem w_2295 : (Jvm.Cond.instanceMethod ({ cls := "EditsMeetModel", name := "keepsRow", desc := "(II)V" } : Jvm.MethodName)) ∈ xTs := xT_10 4 (by rfl) rfl
theorem w_2296 : (Jvm.Cond.code ({ cls := "EditsMeetModel", name := "keepsRow", desc := "(II)V" } : Jvm.MethodName) prog_14_method_8_code (4 : Nat) (Option.none : Option Jvm.ClassFile.FieldType)) ∈ xTs := xT_10 5 (by rfl) rfl
theorem w_2297 : (Jvm.Cond.methodLink "EditsMeetModel" (93 : Nat) ({ cls := "EditsMeetModel", name := "grown", desc := "([II)[I" } : Jvm.MethodName)) ∈ xTs := xT_10 6 (by rfl) rfl
theorem w_2298 : (Jvm.Cond.static ({ cls := "EditsMeetModel", name := "grown", desc := "([II)[I" } : Jvm.MethodName)) ∈ xTs := xT_10 7 (by rfl) rfl
theorem w_2299 : (Jvm.Cond.code ({ cls := "EditsMeetModel", name := "grown", desc := "([II)[I" } : Jvm.MethodName) prog_14_method_5_code (4 : Nat) (Option.some (Jvm.ClassFile.FieldType.array Jvm.ClassFile.FieldType.int))) ∈ xTs := xT_10 8 (by rfl) rfl
theorem w_2307 : (Jvm.Cond.methodLink "EditsMeetLaw" (65 : Nat) ({ cls := "EditsMeetModel", name := "of", desc := "(II)I" } : Jvm.MethodName)) ∈ xTs := xT_10 16 (by rfl) rfl
theorem w_2308 : (Jvm.Cond.instanceMethod ({ cls := "EditsMeetModel", name := "of", desc := "(II)I" } : Jvm.MethodName)) ∈ xTs := xT_10 17 (by rfl) rfl
theorem w_2309 : (Jvm.Cond.selects "EditsMeetModel" ({ cls := "EditsMeetModel", name := "of", desc := "(II)I" } : Jvm.MethodName) ({ cls := "EditsMeetModel", name := "of", desc := "(II)I" } : Jvm.MethodName)) ∈ xTs := xT_10 18 (by rfl) rfl
theorem w_2310 : (Jvm.Cond.code ({ cls := "EditsMeetModel", name := "of", desc := "(II)I" } : Jvm.MethodName) prog_14_method_48_code (3 : Nat) (Option.some Jvm.ClassFile.FieldType.int)) ∈ xTs := xT_10 19 (by rfl) rfl
theorem w_2311 : (Jvm.Cond.constantLong "EditsMeetModel" (228 : Nat) (5 : Int64)) ∈ xTs := xT_10 20 (by rfl) rfl
theorem w_2312 : (Jvm.Cond.methodLink "EditsMeetModel" (230 : Nat) ({ cls := "EditsMeetModel", name := "isKept", desc := "(I)Z" } : Jvm.MethodName)) ∈ xTs := xT_10 21 (by rfl) rfl
theorem w_2314 : (Jvm.Cond.instanceMethod ({ cls := "EditsMeetModel", name := "isKept", desc := "(I)Z" } : Jvm.MethodName)) ∈ xTs := xT_10 23 (by rfl) rfl
theorem w_2315 : (Jvm.Cond.code ({ cls := "EditsMeetModel", name := "isKept", desc := "(I)Z" } : Jvm.MethodName) prog_14_method_46_code (2 : Nat) (Option.some Jvm.ClassFile.FieldType.boolean)) ∈ xTs := xT_10 24 (by rfl) rfl
theorem w_2320 : (Jvm.Cond.methodLink "EditsMeetModel" (111 : Nat) ({ cls := "EditsMeetModel", name := "count", desc := "([III)I" } : Jvm.MethodName)) ∈ xTs := xT_10 29 (by rfl) rfl
theorem w_2321 : (Jvm.Cond.static ({ cls := "EditsMeetModel", name := "count", desc := "([III)I" } : Jvm.MethodName)) ∈ xTs := xT_10 30 (by rfl) rfl
theorem w_2322 : (Jvm.Cond.code ({ cls := "EditsMeetModel", name := "count", desc := "([III)I" } : Jvm.MethodName) prog_14_method_11_code (5 : Nat) (Option.some Jvm.ClassFile.FieldType.int)) ∈ xTs := xT_10 31 (by rfl) rfl
theorem w_2331 : (Jvm.Cond.methodLink "EditsMeetLaw" (69 : Nat) ({ cls := "EditsMeetModel", name := "part", desc := "(III)I" } : Jvm.MethodName)) ∈ xTs := xT_10 40 (by rfl) rfl
theorem w_2332 : (Jvm.Cond.instanceMethod ({ cls := "EditsMeetModel", name := "part", desc := "(III)I" } : Jvm.MethodName)) ∈ xTs := xT_10 41 (by rfl) rfl
theorem w_2333 : (Jvm.Cond.selects "EditsMeetModel" ({ cls := "EditsMeetModel", name := "part", desc := "(III)I" } : Jvm.MethodName) ({ cls := "EditsMeetModel", name := "part", desc := "(III)I" } : Jvm.MethodName)) ∈ xTs := xT_10 42 (by rfl) rfl
theorem w_2334 : (Jvm.Cond.code ({ cls := "EditsMeetModel", name := "part", desc := "(III)I" } : Jvm.MethodName) prog_14_method_49_code (6 : Nat) (Option.some Jvm.ClassFile.FieldType.int)) ∈ xTs := xT_10 43 (by rfl) rfl
theorem w_2335 : (Jvm.Cond.constantLong "EditsMeetModel" (173 : Nat) (3 : Int64)) ∈ xTs := xT_10 44 (by rfl) rfl
theorem w_2343 : (Jvm.Cond.methodLink "EditsMeetLaw" (73 : Nat) ({ cls := "EditsMeetModel", name := "letter", desc := "(III)I" } : Jvm.MethodName)) ∈ xTs := xT_10 52 (by rfl) rfl
theorem w_2344 : (Jvm.Cond.instanceMethod ({ cls := "EditsMeetModel", name := "letter", desc := "(III)I" } : Jvm.MethodName)) ∈ xTs := xT_10 53 (by rfl) rfl
theorem w_2345 : (Jvm.Cond.selects "EditsMeetModel" ({ cls := "EditsMeetModel", name := "letter", desc := "(III)I" } : Jvm.MethodName) ({ cls := "EditsMeetModel", name := "letter", desc := "(III)I" } : Jvm.MethodName)) ∈ xTs := xT_10 54 (by rfl) rfl
theorem w_2346 : (Jvm.Cond.code ({ cls := "EditsMeetModel", name := "letter", desc := "(III)I" } : Jvm.MethodName) prog_14_method_50_code (6 : Nat) (Option.some Jvm.ClassFile.FieldType.int)) ∈ xTs := xT_10 55 (by rfl) rfl
theorem w_2347 : (Jvm.Cond.methodLink "EditsMeetLaw" (77 : Nat) ({ cls := "EditsMeetModel", name := "spelled", desc := "(II)I" } : Jvm.MethodName)) ∈ xTs := xT_10 56 (by rfl) rfl
theorem w_2348 : (Jvm.Cond.instanceMethod ({ cls := "EditsMeetModel", name := "spelled", desc := "(II)I" } : Jvm.MethodName)) ∈ xTs := xT_10 57 (by rfl) rfl
theorem w_2349 : (Jvm.Cond.selects "EditsMeetModel" ({ cls := "EditsMeetModel", name := "spelled", desc := "(II)I" } : Jvm.MethodName) ({ cls := "EditsMeetModel", name := "spelled", desc := "(II)I" } : Jvm.MethodName)) ∈ xTs := xT_10 58 (by rfl) rfl
theorem w_2350 : (Jvm.Cond.code ({ cls := "EditsMeetModel", name := "spelled", desc := "(II)I" } : Jvm.MethodName) prog_14_method_54_code (7 : Nat) (Option.some Jvm.ClassFile.FieldType.int)) ∈ xTs := xT_10 59 (by rfl) rfl
theorem w_2363 : (Jvm.Cond.methodLink "EditsMeetLaw" (81 : Nat) ({ cls := "EditsMeetModel", name := "behind", desc := "(III)I" } : Jvm.MethodName)) ∈ xTs := xT_10 72 (by rfl) rfl
theorem w_2364 : (Jvm.Cond.instanceMethod ({ cls := "EditsMeetModel", name := "behind", desc := "(III)I" } : Jvm.MethodName)) ∈ xTs := xT_10 73 (by rfl) rfl
theorem w_2365 : (Jvm.Cond.selects "EditsMeetModel" ({ cls := "EditsMeetModel", name := "behind", desc := "(III)I" } : Jvm.MethodName) ({ cls := "EditsMeetModel", name := "behind", desc := "(III)I" } : Jvm.MethodName)) ∈ xTs := xT_10 74 (by rfl) rfl
theorem w_2366 : (Jvm.Cond.code ({ cls := "EditsMeetModel", name := "behind", desc := "(III)I" } : Jvm.MethodName) prog_14_method_56_code (4 : Nat) (Option.some Jvm.ClassFile.FieldType.int)) ∈ xTs := xT_10 75 (by rfl) rfl
theorem w_2367 : (Jvm.Cond.methodLink "EditsMeetModel" (97 : Nat) ({ cls := "EditsMeetModel", name := "takesRow", desc := "(II)V" } : Jvm.MethodName)) ∈ xTs := xT_10 76 (by rfl) rfl
theorem w_2369 : (Jvm.Cond.instanceMethod ({ cls := "EditsMeetModel", name := "takesRow", desc := "(II)V" } : Jvm.MethodName)) ∈ xTs := xT_10 78 (by rfl) rfl
theorem w_2370 : (Jvm.Cond.code ({ cls := "EditsMeetModel", name := "takesRow", desc := "(II)V" } : Jvm.MethodName) prog_14_method_7_code (4 : Nat) (Option.none : Option Jvm.ClassFile.FieldType)) ∈ xTs := xT_10 79 (by rfl) rfl
theorem w_2371 : (Jvm.Cond.methodLink "EditsMeetModel" (158 : Nat) ({ cls := "EditsMeetModel", name := "behindRow", desc := "(III)V" } : Jvm.MethodName)) ∈ xTs := xT_10 80 (by rfl) rfl
theorem w_2373 : (Jvm.Cond.instanceMethod ({ cls := "EditsMeetModel", name := "behindRow", desc := "(III)V" } : Jvm.MethodName)) ∈ xTs := xT_10 82 (by rfl) rfl
theorem w_2374 : (Jvm.Cond.code ({ cls := "EditsMeetModel", name := "behindRow", desc := "(III)V" } : Jvm.MethodName) prog_14_method_16_code (8 : Nat) (Option.none : Option Jvm.ClassFile.FieldType)) ∈ xTs := xT_10 83 (by rfl) rfl
theorem w_2375 : (Jvm.Cond.methodLink "EditsMeetModel" (118 : Nat) ({ cls := "EditsMeetModel", name := "together", desc := "(III)V" } : Jvm.MethodName)) ∈ xTs := xT_10 84 (by rfl) rfl
theorem w_2377 : (Jvm.Cond.instanceMethod ({ cls := "EditsMeetModel", name := "together", desc := "(III)V" } : Jvm.MethodName)) ∈ xTs := xT_10 86 (by rfl) rfl
theorem w_2378 : (Jvm.Cond.code ({ cls := "EditsMeetModel", name := "together", desc := "(III)V" } : Jvm.MethodName) prog_14_method_17_code (6 : Nat) (Option.none : Option Jvm.ClassFile.FieldType)) ∈ xTs := xT_10 87 (by rfl) rfl
theorem w_2379 : (Jvm.Cond.methodLink "EditsMeetModel" (127 : Nat) ({ cls := "EditsMeetModel", name := "marksOf", desc := "(II)I" } : Jvm.MethodName)) ∈ xTs := xT_10 88 (by rfl) rfl
theorem w_2380 : (Jvm.Cond.static ({ cls := "EditsMeetModel", name := "marksOf", desc := "(II)I" } : Jvm.MethodName)) ∈ xTs := xT_10 89 (by rfl) rfl
theorem w_2381 : (Jvm.Cond.code ({ cls := "EditsMeetModel", name := "marksOf", desc := "(II)I" } : Jvm.MethodName) prog_14_method_15_code (2 : Nat) (Option.some Jvm.ClassFile.FieldType.int)) ∈ xTs := xT_10 90 (by rfl) rfl
theorem w_2390 : (Jvm.Cond.methodLink "EditsMeetLaw" (86 : Nat) ({ cls := "EditsMeetModel", name := "over", desc := "(IIII)I" } : Jvm.MethodName)) ∈ xTs := xT_10 99 (by rfl) rfl
theorem w_2391 : (Jvm.Cond.instanceMethod ({ cls := "EditsMeetModel", name := "over", desc := "(IIII)I" } : Jvm.MethodName)) ∈ xTs := xT_10 100 (by rfl) rfl
theorem w_2392 : (Jvm.Cond.selects "EditsMeetModel" ({ cls := "EditsMeetModel", name := "over", desc := "(IIII)I" } : Jvm.MethodName) ({ cls := "EditsMeetModel", name := "over", desc := "(IIII)I" } : Jvm.MethodName)) ∈ xTs := xT_10 101 (by rfl) rfl
theorem w_2393 : (Jvm.Cond.code ({ cls := "EditsMeetModel", name := "over", desc := "(IIII)I" } : Jvm.MethodName) prog_14_method_57_code (5 : Nat) (Option.some Jvm.ClassFile.FieldType.int)) ∈ xTs := xT_10 102 (by rfl) rfl
theorem w_2394 : (Jvm.Cond.methodLink "EditsMeetModel" (164 : Nat) ({ cls := "EditsMeetModel", name := "overRow", desc := "(IIII)V" } : Jvm.MethodName)) ∈ xTs := xT_10 103 (by rfl) rfl
theorem w_2396 : (Jvm.Cond.instanceMethod ({ cls := "EditsMeetModel", name := "overRow", desc := "(IIII)V" } : Jvm.MethodName)) ∈ xTs := xT_10 105 (by rfl) rfl
theorem w_2397 : (Jvm.Cond.code ({ cls := "EditsMeetModel", name := "overRow", desc := "(IIII)V" } : Jvm.MethodName) prog_14_method_18_code (9 : Nat) (Option.none : Option Jvm.ClassFile.FieldType)) ∈ xTs := xT_10 106 (by rfl) rfl
theorem w_2398 : (Jvm.Cond.methodLink "EditsMeetModel" (131 : Nat) ({ cls := "EditsMeetModel", name := "overOne", desc := "(IIII)V" } : Jvm.MethodName)) ∈ xTs := xT_10 107 (by rfl) rfl
theorem w_2400 : (Jvm.Cond.instanceMethod ({ cls := "EditsMeetModel", name := "overOne", desc := "(IIII)V" } : Jvm.MethodName)) ∈ xTs := xT_10 109 (by rfl) rfl
theorem w_2401 : (Jvm.Cond.code ({ cls := "EditsMeetModel", name := "overOne", desc := "(IIII)V" } : Jvm.MethodName) prog_14_method_19_code (7 : Nat) (Option.none : Option Jvm.ClassFile.FieldType)) ∈ xTs := xT_10 110 (by rfl) rfl
theorem w_2402 : (Jvm.Cond.methodLink "EditsMeetLaw" (90 : Nat) ({ cls := "EditsMeetModel", name := "turned", desc := "(III)I" } : Jvm.MethodName)) ∈ xTs := xT_10 111 (by rfl) rfl
theorem w_2403 : (Jvm.Cond.instanceMethod ({ cls := "EditsMeetModel", name := "turned", desc := "(III)I" } : Jvm.MethodName)) ∈ xTs := xT_10 112 (by rfl) rfl
theorem w_2404 : (Jvm.Cond.selects "EditsMeetModel" ({ cls := "EditsMeetModel", name := "turned", desc := "(III)I" } : Jvm.MethodName) ({ cls := "EditsMeetModel", name := "turned", desc := "(III)I" } : Jvm.MethodName)) ∈ xTs := xT_10 113 (by rfl) rfl
theorem w_2405 : (Jvm.Cond.code ({ cls := "EditsMeetModel", name := "turned", desc := "(III)I" } : Jvm.MethodName) prog_14_method_58_code (4 : Nat) (Option.some Jvm.ClassFile.FieldType.int)) ∈ xTs := xT_10 114 (by rfl) rfl
theorem w_2406 : (Jvm.Cond.methodLink "EditsMeetModel" (272 : Nat) ({ cls := "EditsMeetModel", name := "isClient", desc := "(I)Z" } : Jvm.MethodName)) ∈ xTs := xT_10 115 (by rfl) rfl
theorem w_2407 : (Jvm.Cond.static ({ cls := "EditsMeetModel", name := "isClient", desc := "(I)Z" } : Jvm.MethodName)) ∈ xTs := xT_10 116 (by rfl) rfl
theorem w_2408 : (Jvm.Cond.code ({ cls := "EditsMeetModel", name := "isClient", desc := "(I)Z" } : Jvm.MethodName) prog_14_method_33_code (1 : Nat) (Option.some Jvm.ClassFile.FieldType.boolean)) ∈ xTs := xT_10 117 (by rfl) rfl
theorem w_2409 : (Jvm.Cond.methodLink "EditsMeetModel" (145 : Nat) ({ cls := "EditsMeetModel", name := "turnedRow", desc := "(III)V" } : Jvm.MethodName)) ∈ xTs := xT_10 118 (by rfl) rfl
theorem w_2411 : (Jvm.Cond.instanceMethod ({ cls := "EditsMeetModel", name := "turnedRow", desc := "(III)V" } : Jvm.MethodName)) ∈ xTs := xT_10 120 (by rfl) rfl
theorem w_2412 : (Jvm.Cond.code ({ cls := "EditsMeetModel", name := "turnedRow", desc := "(III)V" } : Jvm.MethodName) prog_14_method_20_code (10 : Nat) (Option.none : Option Jvm.ClassFile.FieldType)) ∈ xTs := xT_10 121 (by rfl) rfl
theorem w_2413 : (Jvm.Cond.methodLink "EditsMeetLaw" (94 : Nat) ({ cls := "EditsMeetModel", name := "differ", desc := "(II)I" } : Jvm.MethodName)) ∈ xTs := xT_10 122 (by rfl) rfl
theorem w_2414 : (Jvm.Cond.instanceMethod ({ cls := "EditsMeetModel", name := "differ", desc := "(II)I" } : Jvm.MethodName)) ∈ xTs := xT_10 123 (by rfl) rfl
theorem w_2415 : (Jvm.Cond.selects "EditsMeetModel" ({ cls := "EditsMeetModel", name := "differ", desc := "(II)I" } : Jvm.MethodName) ({ cls := "EditsMeetModel", name := "differ", desc := "(II)I" } : Jvm.MethodName)) ∈ xTs := xT_10 124 (by rfl) rfl
theorem w_2416 : (Jvm.Cond.code ({ cls := "EditsMeetModel", name := "differ", desc := "(II)I" } : Jvm.MethodName) prog_14_method_59_code (10 : Nat) (Option.some Jvm.ClassFile.FieldType.int)) ∈ xTs := xT_10 125 (by rfl) rfl
theorem w_2417 : (Jvm.Cond.methodLink "EditsMeetModel" (275 : Nat) ({ cls := "java/lang/Math", name := "max", desc := "(II)I" } : Jvm.MethodName)) ∈ xTs := xT_10 126 (by rfl) rfl
theorem w_2418 : (Jvm.Cond.methodLink "EditsMeetLaw" (98 : Nat) ({ cls := "EditsMeetModel", name := "does", desc := "(II)I" } : Jvm.MethodName)) ∈ xTs := xT_10 127 (by rfl) rfl
theorem w_2419 : (Jvm.Cond.instanceMethod ({ cls := "EditsMeetModel", name := "does", desc := "(II)I" } : Jvm.MethodName)) ∈ xTs := xT_10 128 (by rfl) rfl
theorem w_2420 : (Jvm.Cond.selects "EditsMeetModel" ({ cls := "EditsMeetModel", name := "does", desc := "(II)I" } : Jvm.MethodName) ({ cls := "EditsMeetModel", name := "does", desc := "(II)I" } : Jvm.MethodName)) ∈ xTs := xT_10 129 (by rfl) rfl
theorem w_2421 : (Jvm.Cond.code ({ cls := "EditsMeetModel", name := "does", desc := "(II)I" } : Jvm.MethodName) prog_14_method_60_code (3 : Nat) (Option.some Jvm.ClassFile.FieldType.int)) ∈ xTs := xT_10 130 (by rfl) rfl
theorem w_2422 : (Jvm.Cond.methodLink "EditsMeetModel" (280 : Nat) ({ cls := "EditsMeetModel", name := "isFull", desc := "(II)Z" } : Jvm.MethodName)) ∈ xTs := xT_10 131 (by rfl) rfl
theorem w_2424 : (Jvm.Cond.instanceMethod ({ cls := "EditsMeetModel", name := "isFull", desc := "(II)Z" } : Jvm.MethodName)) ∈ xTs := xT_10 133 (by rfl) rfl
theorem w_2425 : (Jvm.Cond.code ({ cls := "EditsMeetModel", name := "isFull", desc := "(II)Z" } : Jvm.MethodName) prog_14_method_28_code (3 : Nat) (Option.some Jvm.ClassFile.FieldType.boolean)) ∈ xTs := xT_10 134 (by rfl) rfl
theorem w_2426 : (Jvm.Cond.methodLink "EditsMeetModel" (161 : Nat) ({ cls := "EditsMeetModel", name := "resultLength", desc := "(I)I" } : Jvm.MethodName)) ∈ xTs := xT_10 135 (by rfl) rfl
theorem w_2428 : (Jvm.Cond.instanceMethod ({ cls := "EditsMeetModel", name := "resultLength", desc := "(I)I" } : Jvm.MethodName)) ∈ xTs := xT_10 137 (by rfl) rfl
theorem w_2429 : (Jvm.Cond.code ({ cls := "EditsMeetModel", name := "resultLength", desc := "(I)I" } : Jvm.MethodName) prog_14_method_27_code (2 : Nat) (Option.some Jvm.ClassFile.FieldType.int)) ∈ xTs := xT_10 138 (by rfl) rfl
theorem w_2430 : (Jvm.Cond.methodLink "EditsMeetModel" (283 : Nat) ({ cls := "EditsMeetModel", name := "done", desc := "(IIZ)V" } : Jvm.MethodName)) ∈ xTs := xT_10 139 (by rfl) rfl
theorem w_2432 : (Jvm.Cond.instanceMethod ({ cls := "EditsMeetModel", name := "done", desc := "(IIZ)V" } : Jvm.MethodName)) ∈ xTs := xT_10 141 (by rfl) rfl
theorem w_2433 : (Jvm.Cond.code ({ cls := "EditsMeetModel", name := "done", desc := "(IIZ)V" } : Jvm.MethodName) prog_14_method_26_code (4 : Nat) (Option.none : Option Jvm.ClassFile.FieldType)) ∈ xTs := xT_10 142 (by rfl) rfl
theorem w_2434 : (Jvm.Cond.methodLink "EditsMeetModel" (148 : Nat) ({ cls := "EditsMeetModel", name := "makes", desc := "(II)V" } : Jvm.MethodName)) ∈ xTs := xT_10 143 (by rfl) rfl
theorem w_2436 : (Jvm.Cond.instanceMethod ({ cls := "EditsMeetModel", name := "makes", desc := "(II)V" } : Jvm.MethodName)) ∈ xTs := xT_10 145 (by rfl) rfl
theorem w_2437 : (Jvm.Cond.code ({ cls := "EditsMeetModel", name := "makes", desc := "(II)V" } : Jvm.MethodName) prog_14_method_21_code (8 : Nat) (Option.none : Option Jvm.ClassFile.FieldType)) ∈ xTs := xT_10 146 (by rfl) rfl
theorem w_2438 : (Jvm.Cond.methodLink "EditsMeetModel" (151 : Nat) ({ cls := "EditsMeetModel", name := "cursorGoes", desc := "(IIZ)V" } : Jvm.MethodName)) ∈ xTs := xT_10 147 (by rfl) rfl
theorem w_2440 : (Jvm.Cond.instanceMethod ({ cls := "EditsMeetModel", name := "cursorGoes", desc := "(IIZ)V" } : Jvm.MethodName)) ∈ xTs := xT_10 149 (by rfl) rfl
theorem w_2441 : (Jvm.Cond.code ({ cls := "EditsMeetModel", name := "cursorGoes", desc := "(IIZ)V" } : Jvm.MethodName) prog_14_method_24_code (4 : Nat) (Option.none : Option Jvm.ClassFile.FieldType)) ∈ xTs := xT_10 150 (by rfl) rfl
theorem w_2442 : (Jvm.Cond.methodLink "EditsMeetModel" (135 : Nat) ({ cls := "EditsMeetModel", name := "st", desc := "(II)I" } : Jvm.MethodName)) ∈ xTs := xT_10 151 (by rfl) rfl
theorem w_2444 : (Jvm.Cond.instanceMethod ({ cls := "EditsMeetModel", name := "st", desc := "(II)I" } : Jvm.MethodName)) ∈ xTs := xT_10 153 (by rfl) rfl
theorem w_2445 : (Jvm.Cond.code ({ cls := "EditsMeetModel", name := "st", desc := "(II)I" } : Jvm.MethodName) prog_14_method_23_code (3 : Nat) (Option.some Jvm.ClassFile.FieldType.int)) ∈ xTs := xT_10 154 (by rfl) rfl
theorem w_2446 : (Jvm.Cond.methodLink "EditsMeetModel" (138 : Nat) ({ cls := "EditsMeetModel", name := "goesAlong", desc := "(IIZ)I" } : Jvm.MethodName)) ∈ xTs := xT_10 155 (by rfl) rfl
theorem w_2448 : (Jvm.Cond.instanceMethod ({ cls := "EditsMeetModel", name := "goesAlong", desc := "(IIZ)I" } : Jvm.MethodName)) ∈ xTs := xT_10 157 (by rfl) rfl
theorem w_2449 : (Jvm.Cond.code ({ cls := "EditsMeetModel", name := "goesAlong", desc := "(IIZ)I" } : Jvm.MethodName) prog_14_method_22_code (8 : Nat) (Option.some Jvm.ClassFile.FieldType.int)) ∈ xTs := xT_10 158 (by rfl) rfl
theorem w_2450 : (Jvm.Cond.methodLink "EditsMeetModel" (155 : Nat) ({ cls := "EditsMeetModel", name := "pushes", desc := "(III)V" } : Jvm.MethodName)) ∈ xTs := xT_10 159 (by rfl) rfl
theorem w_2452 : (Jvm.Cond.instanceMethod ({ cls := "EditsMeetModel", name := "pushes", desc := "(III)V" } : Jvm.MethodName)) ∈ xTs := xT_10 161 (by rfl) rfl
theorem w_2453 : (Jvm.Cond.code ({ cls := "EditsMeetModel", name := "pushes", desc := "(III)V" } : Jvm.MethodName) prog_14_method_25_code (7 : Nat) (Option.none : Option Jvm.ClassFile.FieldType)) ∈ xTs := xT_10 162 (by rfl) rfl
theorem w_2454 : (Jvm.Cond.methodLink "EditsMeetModel" (142 : Nat) ({ cls := "EditsMeetModel", name := "copiesRow", desc := "(II)V" } : Jvm.MethodName)) ∈ xTs := xT_10 163 (by rfl) rfl
theorem w_2456 : (Jvm.Cond.instanceMethod ({ cls := "EditsMeetModel", name := "copiesRow", desc := "(II)V" } : Jvm.MethodName)) ∈ xTs := xT_10 165 (by rfl) rfl
theorem w_2457 : (Jvm.Cond.code ({ cls := "EditsMeetModel", name := "copiesRow", desc := "(II)V" } : Jvm.MethodName) prog_14_method_9_code (3 : Nat) (Option.none : Option Jvm.ClassFile.FieldType)) ∈ xTs := xT_10 166 (by rfl) rfl
theorem w_2458 : (Jvm.Cond.methodLink "EditsMeetLaw" (102 : Nat) ({ cls := "EditsMeetModel", name := "insert", desc := "(IIII)I" } : Jvm.MethodName)) ∈ xTs := xT_10 167 (by rfl) rfl
theorem w_2459 : (Jvm.Cond.instanceMethod ({ cls := "EditsMeetModel", name := "insert", desc := "(IIII)I" } : Jvm.MethodName)) ∈ xTs := xT_10 168 (by rfl) rfl
theorem w_2460 : (Jvm.Cond.selects "EditsMeetModel" ({ cls := "EditsMeetModel", name := "insert", desc := "(IIII)I" } : Jvm.MethodName) ({ cls := "EditsMeetModel", name := "insert", desc := "(IIII)I" } : Jvm.MethodName)) ∈ xTs := xT_10 169 (by rfl) rfl
theorem w_2461 : (Jvm.Cond.code ({ cls := "EditsMeetModel", name := "insert", desc := "(IIII)I" } : Jvm.MethodName) prog_14_method_63_code (5 : Nat) (Option.some Jvm.ClassFile.FieldType.int)) ∈ xTs := xT_10 170 (by rfl) rfl
theorem w_2462 : (Jvm.Cond.constantLong "EditsMeetModel" (286 : Nat) (25 : Int64)) ∈ xTs := xT_10 171 (by rfl) rfl
theorem w_2463 : (Jvm.Cond.constantLong "EditsMeetModel" (288 : Nat) (15 : Int64)) ∈ xTs := xT_10 172 (by rfl) rfl
theorem w_2464 : (Jvm.Cond.methodLink "EditsMeetModel" (290 : Nat) ({ cls := "EditsMeetModel", name := "inserts", desc := "(III)V" } : Jvm.MethodName)) ∈ xTs := xT_10 173 (by rfl) rfl
theorem w_2466 : (Jvm.Cond.instanceMethod ({ cls := "EditsMeetModel", name := "inserts", desc := "(III)V" } : Jvm.MethodName)) ∈ xTs := xT_10 175 (by rfl) rfl
theorem w_2467 : (Jvm.Cond.code ({ cls := "EditsMeetModel", name := "inserts", desc := "(III)V" } : Jvm.MethodName) prog_14_method_62_code (5 : Nat) (Option.none : Option Jvm.ClassFile.FieldType)) ∈ xTs := xT_10 176 (by rfl) rfl
theorem w_2468 : (Jvm.Cond.methodLink "EditsMeetLaw" (106 : Nat) ({ cls := "EditsMeetModel", name := "cut", desc := "(III)I" } : Jvm.MethodName)) ∈ xTs := xT_10 177 (by rfl) rfl
theorem w_2469 : (Jvm.Cond.instanceMethod ({ cls := "EditsMeetModel", name := "cut", desc := "(III)I" } : Jvm.MethodName)) ∈ xTs := xT_10 178 (by rfl) rfl
theorem w_2470 : (Jvm.Cond.selects "EditsMeetModel" ({ cls := "EditsMeetModel", name := "cut", desc := "(III)I" } : Jvm.MethodName) ({ cls := "EditsMeetModel", name := "cut", desc := "(III)I" } : Jvm.MethodName)) ∈ xTs := xT_10 179 (by rfl) rfl
theorem w_2471 : (Jvm.Cond.code ({ cls := "EditsMeetModel", name := "cut", desc := "(III)I" } : Jvm.MethodName) prog_14_method_65_code (4 : Nat) (Option.some Jvm.ClassFile.FieldType.int)) ∈ xTs := xT_10 180 (by rfl) rfl
theorem w_2472 : (Jvm.Cond.methodLink "EditsMeetModel" (293 : Nat) ({ cls := "EditsMeetModel", name := "isStretch", desc := "(III)Z" } : Jvm.MethodName)) ∈ xTs := xT_10 181 (by rfl) rfl
theorem w_2474 : (Jvm.Cond.instanceMethod ({ cls := "EditsMeetModel", name := "isStretch", desc := "(III)Z" } : Jvm.MethodName)) ∈ xTs := xT_10 183 (by rfl) rfl
theorem w_2475 : (Jvm.Cond.code ({ cls := "EditsMeetModel", name := "isStretch", desc := "(III)Z" } : Jvm.MethodName) prog_14_method_64_code (4 : Nat) (Option.some Jvm.ClassFile.FieldType.boolean)) ∈ xTs := xT_10 184 (by rfl) rfl
theorem w_2476 : (Jvm.Cond.methodLink "EditsMeetModel" (297 : Nat) ({ cls := "EditsMeetModel", name := "keepsAllBut", desc := "(IIII)V" } : Jvm.MethodName)) ∈ xTs := xT_10 185 (by rfl) rfl
theorem w_2478 : (Jvm.Cond.instanceMethod ({ cls := "EditsMeetModel", name := "keepsAllBut", desc := "(IIII)V" } : Jvm.MethodName)) ∈ xTs := xT_10 187 (by rfl) rfl
theorem w_2479 : (Jvm.Cond.code ({ cls := "EditsMeetModel", name := "keepsAllBut", desc := "(IIII)V" } : Jvm.MethodName) prog_14_method_61_code (6 : Nat) (Option.none : Option Jvm.ClassFile.FieldType)) ∈ xTs := xT_10 188 (by rfl) rfl
theorem w_2480 : (Jvm.Cond.methodLink "EditsMeetLaw" (110 : Nat) ({ cls := "EditsMeetModel", name := "mark", desc := "(IIIII)I" } : Jvm.MethodName)) ∈ xTs := xT_10 189 (by rfl) rfl
theorem w_2481 : (Jvm.Cond.instanceMethod ({ cls := "EditsMeetModel", name := "mark", desc := "(IIIII)I" } : Jvm.MethodName)) ∈ xTs := xT_10 190 (by rfl) rfl
theorem w_2482 : (Jvm.Cond.selects "EditsMeetModel" ({ cls := "EditsMeetModel", name := "mark", desc := "(IIIII)I" } : Jvm.MethodName) ({ cls := "EditsMeetModel", name := "mark", desc := "(IIIII)I" } : Jvm.MethodName)) ∈ xTs := xT_10 191 (by rfl) rfl
theorem w_2483 : (Jvm.Cond.code ({ cls := "EditsMeetModel", name := "mark", desc := "(IIIII)I" } : Jvm.MethodName) prog_14_method_66_code (8 : Nat) (Option.some Jvm.ClassFile.FieldType.int)) ∈ xTs := xT_10 192 (by rfl) rfl
theorem w_2484 : (Jvm.Cond.methodLink "EditsMeetLaw" (114 : Nat) ({ cls := "EditsMeetModel", name := "serve", desc := "(I)I" } : Jvm.MethodName)) ∈ xTs := xT_10 193 (by rfl) rfl
theorem w_2485 : (Jvm.Cond.instanceMethod ({ cls := "EditsMeetModel", name := "serve", desc := "(I)I" } : Jvm.MethodName)) ∈ xTs := xT_10 194 (by rfl) rfl
theorem w_2486 : (Jvm.Cond.selects "EditsMeetModel" ({ cls := "EditsMeetModel", name := "serve", desc := "(I)I" } : Jvm.MethodName) ({ cls := "EditsMeetModel", name := "serve", desc := "(I)I" } : Jvm.MethodName)) ∈ xTs := xT_10 195 (by rfl) rfl
theorem w_2487 : (Jvm.Cond.code ({ cls := "EditsMeetModel", name := "serve", desc := "(I)I" } : Jvm.MethodName) prog_14_method_67_code (2 : Nat) (Option.some Jvm.ClassFile.FieldType.int)) ∈ xTs := xT_10 196 (by rfl) rfl
theorem w_2488 : (Jvm.Cond.methodLink "EditsMeetModel" (300 : Nat) ({ cls := "EditsMeetModel", name := "serves", desc := "(I)I" } : Jvm.MethodName)) ∈ xTs := xT_10 197 (by rfl) rfl
theorem w_2490 : (Jvm.Cond.instanceMethod ({ cls := "EditsMeetModel", name := "serves", desc := "(I)I" } : Jvm.MethodName)) ∈ xTs := xT_10 199 (by rfl) rfl
theorem w_2491 : (Jvm.Cond.code ({ cls := "EditsMeetModel", name := "serves", desc := "(I)I" } : Jvm.MethodName) prog_14_method_29_code (3 : Nat) (Option.some Jvm.ClassFile.FieldType.int)) ∈ xTs := xT_10 200 (by rfl) rfl
theorem w_2492 : (Jvm.Cond.methodLink "EditsMeetModel" (167 : Nat) ({ cls := "EditsMeetModel", name := "keepsWork", desc := "(II)V" } : Jvm.MethodName)) ∈ xTs := xT_10 201 (by rfl) rfl
theorem w_2494 : (Jvm.Cond.instanceMethod ({ cls := "EditsMeetModel", name := "keepsWork", desc := "(II)V" } : Jvm.MethodName)) ∈ xTs := xT_10 203 (by rfl) rfl
theorem w_2495 : (Jvm.Cond.code ({ cls := "EditsMeetModel", name := "keepsWork", desc := "(II)V" } : Jvm.MethodName) prog_14_method_30_code (4 : Nat) (Option.none : Option Jvm.ClassFile.FieldType)) ∈ xTs := xT_10 204 (by rfl) rfl
theorem w_2496 : (Jvm.Cond.methodLink "EditsMeetLaw" (118 : Nat) ({ cls := "EditsMeetModel", name := "hear", desc := "(I)I" } : Jvm.MethodName)) ∈ xTs := xT_10 205 (by rfl) rfl
theorem w_2497 : (Jvm.Cond.instanceMethod ({ cls := "EditsMeetModel", name := "hear", desc := "(I)I" } : Jvm.MethodName)) ∈ xTs := xT_10 206 (by rfl) rfl
theorem w_2498 : (Jvm.Cond.selects "EditsMeetModel" ({ cls := "EditsMeetModel", name := "hear", desc := "(I)I" } : Jvm.MethodName) ({ cls := "EditsMeetModel", name := "hear", desc := "(I)I" } : Jvm.MethodName)) ∈ xTs := xT_10 207 (by rfl) rfl
theorem w_2499 : (Jvm.Cond.code ({ cls := "EditsMeetModel", name := "hear", desc := "(I)I" } : Jvm.MethodName) prog_14_method_68_code (2 : Nat) (Option.some Jvm.ClassFile.FieldType.int)) ∈ xTs := xT_10 208 (by rfl) rfl
theorem w_2500 : (Jvm.Cond.methodLink "EditsMeetModel" (303 : Nat) ({ cls := "EditsMeetModel", name := "hears", desc := "(I)V" } : Jvm.MethodName)) ∈ xTs := xT_10 209 (by rfl) rfl
theorem w_2502 : (Jvm.Cond.instanceMethod ({ cls := "EditsMeetModel", name := "hears", desc := "(I)V" } : Jvm.MethodName)) ∈ xTs := xT_10 211 (by rfl) rfl
theorem w_2503 : (Jvm.Cond.code ({ cls := "EditsMeetModel", name := "hears", desc := "(I)V" } : Jvm.MethodName) prog_14_method_32_code (4 : Nat) (Option.none : Option Jvm.ClassFile.FieldType)) ∈ xTs := xT_10 212 (by rfl) rfl
theorem w_2504 : (Jvm.Cond.methodLink "EditsMeetModel" (170 : Nat) ({ cls := "EditsMeetModel", name := "crosses", desc := "(I)V" } : Jvm.MethodName)) ∈ xTs := xT_10 213 (by rfl) rfl
theorem w_2506 : (Jvm.Cond.instanceMethod ({ cls := "EditsMeetModel", name := "crosses", desc := "(I)V" } : Jvm.MethodName)) ∈ xTs := xT_10 215 (by rfl) rfl
theorem w_2507 : (Jvm.Cond.code ({ cls := "EditsMeetModel", name := "crosses", desc := "(I)V" } : Jvm.MethodName) prog_14_method_31_code (2 : Nat) (Option.none : Option Jvm.ClassFile.FieldType)) ∈ xTs := xT_10 216 (by rfl) rfl
theorem w_2508 : (Jvm.Cond.methodLink "EditsMeetLaw" (122 : Nat) ({ cls := "EditsMeetModel", name := "meet", desc := "()I" } : Jvm.MethodName)) ∈ xTs := xT_10 217 (by rfl) rfl
theorem w_2509 : (Jvm.Cond.instanceMethod ({ cls := "EditsMeetModel", name := "meet", desc := "()I" } : Jvm.MethodName)) ∈ xTs := xT_10 218 (by rfl) rfl
theorem w_2510 : (Jvm.Cond.selects "EditsMeetModel" ({ cls := "EditsMeetModel", name := "meet", desc := "()I" } : Jvm.MethodName) ({ cls := "EditsMeetModel", name := "meet", desc := "()I" } : Jvm.MethodName)) ∈ xTs := xT_10 219 (by rfl) rfl
theorem w_2511 : (Jvm.Cond.code ({ cls := "EditsMeetModel", name := "meet", desc := "()I" } : Jvm.MethodName) prog_14_method_71_code (4 : Nat) (Option.some Jvm.ClassFile.FieldType.int)) ∈ xTs := xT_10 220 (by rfl) rfl
theorem w_2512 : (Jvm.Cond.methodLink "EditsMeetModel" (306 : Nat) ({ cls := "EditsMeetModel", name := "hearAll", desc := "()V" } : Jvm.MethodName)) ∈ xTs := xT_10 221 (by rfl) rfl
theorem w_2514 : (Jvm.Cond.instanceMethod ({ cls := "EditsMeetModel", name := "hearAll", desc := "()V" } : Jvm.MethodName)) ∈ xTs := xT_10 223 (by rfl) rfl
theorem w_2515 : (Jvm.Cond.code ({ cls := "EditsMeetModel", name := "hearAll", desc := "()V" } : Jvm.MethodName) prog_14_method_69_code (2 : Nat) (Option.none : Option Jvm.ClassFile.FieldType)) ∈ xTs := xT_10 224 (by rfl) rfl
theorem w_2516 : (Jvm.Cond.methodLink "EditsMeetModel" (309 : Nat) ({ cls := "EditsMeetModel", name := "isAnySent", desc := "()Z" } : Jvm.MethodName)) ∈ xTs := xT_10 225 (by rfl) rfl
theorem w_2518 : (Jvm.Cond.instanceMethod ({ cls := "EditsMeetModel", name := "isAnySent", desc := "()Z" } : Jvm.MethodName)) ∈ xTs := xT_10 227 (by rfl) rfl
theorem w_2519 : (Jvm.Cond.code ({ cls := "EditsMeetModel", name := "isAnySent", desc := "()Z" } : Jvm.MethodName) prog_14_method_70_code (3 : Nat) (Option.some Jvm.ClassFile.FieldType.boolean)) ∈ xTs := xT_10 228 (by rfl) rfl
theorem w_2520 : (Jvm.Cond.methodLink "EditsMeetLaw" (126 : Nat) ({ cls := "EditsMeetModel", name := "undo", desc := "(I)I" } : Jvm.MethodName)) ∈ xTs := xT_10 229 (by rfl) rfl
theorem w_2521 : (Jvm.Cond.instanceMethod ({ cls := "EditsMeetModel", name := "undo", desc := "(I)I" } : Jvm.MethodName)) ∈ xTs := xT_10 230 (by rfl) rfl
theorem w_2522 : (Jvm.Cond.selects "EditsMeetModel" ({ cls := "EditsMeetModel", name := "undo", desc := "(I)I" } : Jvm.MethodName) ({ cls := "EditsMeetModel", name := "undo", desc := "(I)I" } : Jvm.MethodName)) ∈ xTs := xT_10 231 (by rfl) rfl
theorem w_2523 : (Jvm.Cond.code ({ cls := "EditsMeetModel", name := "undo", desc := "(I)I" } : Jvm.MethodName) prog_14_method_73_code (3 : Nat) (Option.some Jvm.ClassFile.FieldType.int)) ∈ xTs := xT_10 232 (by rfl) rfl
theorem w_2524 : (Jvm.Cond.methodLink "EditsMeetModel" (312 : Nat) ({ cls := "EditsMeetModel", name := "again", desc := "(II)I" } : Jvm.MethodName)) ∈ xTs := xT_10 233 (by rfl) rfl
theorem w_2526 : (Jvm.Cond.instanceMethod ({ cls := "EditsMeetModel", name := "again", desc := "(II)I" } : Jvm.MethodName)) ∈ xTs := xT_10 235 (by rfl) rfl
theorem w_2527 : (Jvm.Cond.code ({ cls := "EditsMeetModel", name := "again", desc := "(II)I" } : Jvm.MethodName) prog_14_method_72_code (4 : Nat) (Option.some Jvm.ClassFile.FieldType.int)) ∈ xTs := xT_10 236 (by rfl) rfl
theorem w_2528 : (Jvm.Cond.methodLink "EditsMeetLaw" (130 : Nat) ({ cls := "EditsMeetModel", name := "redo", desc := "(I)I" } : Jvm.MethodName)) ∈ xTs := xT_10 237 (by rfl) rfl
theorem w_2529 : (Jvm.Cond.instanceMethod ({ cls := "EditsMeetModel", name := "redo", desc := "(I)I" } : Jvm.MethodName)) ∈ xTs := xT_10 238 (by rfl) rfl
theorem w_2530 : (Jvm.Cond.selects "EditsMeetModel" ({ cls := "EditsMeetModel", name := "redo", desc := "(I)I" } : Jvm.MethodName) ({ cls := "EditsMeetModel", name := "redo", desc := "(I)I" } : Jvm.MethodName)) ∈ xTs := xT_10 239 (by rfl) rfl
theorem w_2531 : (Jvm.Cond.code ({ cls := "EditsMeetModel", name := "redo", desc := "(I)I" } : Jvm.MethodName) prog_14_method_74_code (3 : Nat) (Option.some Jvm.ClassFile.FieldType.int)) ∈ xTs := xT_11 0 (by rfl) rfl
theorem w_2532 : (Jvm.Cond.methodLink "EditsMeetLaw" (134 : Nat) ({ cls := "EditsMeetModel", name := "point", desc := "(III)I" } : Jvm.MethodName)) ∈ xTs := xT_11 1 (by rfl) rfl
theorem w_2533 : (Jvm.Cond.instanceMethod ({ cls := "EditsMeetModel", name := "point", desc := "(III)I" } : Jvm.MethodName)) ∈ xTs := xT_11 2 (by rfl) rfl
theorem w_2534 : (Jvm.Cond.selects "EditsMeetModel" ({ cls := "EditsMeetModel", name := "point", desc := "(III)I" } : Jvm.MethodName) ({ cls := "EditsMeetModel", name := "point", desc := "(III)I" } : Jvm.MethodName)) ∈ xTs := xT_11 3 (by rfl) rfl
theorem w_2535 : (Jvm.Cond.code ({ cls := "EditsMeetModel", name := "point", desc := "(III)I" } : Jvm.MethodName) prog_14_method_75_code (4 : Nat) (Option.some Jvm.ClassFile.FieldType.int)) ∈ xTs := xT_11 4 (by rfl) rfl
theorem w_2536 : (Jvm.Cond.methodLink "EditsMeetLaw" (138 : Nat) ({ cls := "EditsMeetModel", name := "cursor", desc := "(II)I" } : Jvm.MethodName)) ∈ xTs := xT_11 5 (by rfl) rfl
theorem w_2537 : (Jvm.Cond.instanceMethod ({ cls := "EditsMeetModel", name := "cursor", desc := "(II)I" } : Jvm.MethodName)) ∈ xTs := xT_11 6 (by rfl) rfl
theorem w_2538 : (Jvm.Cond.selects "EditsMeetModel" ({ cls := "EditsMeetModel", name := "cursor", desc := "(II)I" } : Jvm.MethodName) ({ cls := "EditsMeetModel", name := "cursor", desc := "(II)I" } : Jvm.MethodName)) ∈ xTs := xT_11 7 (by rfl) rfl
theorem w_2539 : (Jvm.Cond.code ({ cls := "EditsMeetModel", name := "cursor", desc := "(II)I" } : Jvm.MethodName) prog_14_method_76_code (3 : Nat) (Option.some Jvm.ClassFile.FieldType.int)) ∈ xTs := xT_11 8 (by rfl) rfl
theorem w_2540 : (Jvm.Cond.methodLink "EditsMeetLaw" (142 : Nat) ({ cls := "EditsMeetModel", name := "clientOf", desc := "(II)I" } : Jvm.MethodName)) ∈ xTs := xT_11 9 (by rfl) rfl
theorem w_2541 : (Jvm.Cond.instanceMethod ({ cls := "EditsMeetModel", name := "clientOf", desc := "(II)I" } : Jvm.MethodName)) ∈ xTs := xT_11 10 (by rfl) rfl
theorem w_2542 : (Jvm.Cond.selects "EditsMeetModel" ({ cls := "EditsMeetModel", name := "clientOf", desc := "(II)I" } : Jvm.MethodName) ({ cls := "EditsMeetModel", name := "clientOf", desc := "(II)I" } : Jvm.MethodName)) ∈ xTs := xT_11 11 (by rfl) rfl
theorem w_2543 : (Jvm.Cond.code ({ cls := "EditsMeetModel", name := "clientOf", desc := "(II)I" } : Jvm.MethodName) prog_14_method_77_code (3 : Nat) (Option.some Jvm.ClassFile.FieldType.int)) ∈ xTs := xT_11 12 (by rfl) rfl
theorem w_2544 : (Jvm.Cond.constantLong "EditsMeetModel" (315 : Nat) (6 : Int64)) ∈ xTs := xT_11 13 (by rfl) rfl
theorem w_2545 : (Jvm.Cond.methodLink "EditsMeetLaw" (146 : Nat) ({ cls := "EditsMeetModel", name := "takes", desc := "(III)I" } : Jvm.MethodName)) ∈ xTs := xT_11 14 (by rfl) rfl
theorem w_2546 : (Jvm.Cond.instanceMethod ({ cls := "EditsMeetModel", name := "takes", desc := "(III)I" } : Jvm.MethodName)) ∈ xTs := xT_11 15 (by rfl) rfl
theorem w_2547 : (Jvm.Cond.selects "EditsMeetModel" ({ cls := "EditsMeetModel", name := "takes", desc := "(III)I" } : Jvm.MethodName) ({ cls := "EditsMeetModel", name := "takes", desc := "(III)I" } : Jvm.MethodName)) ∈ xTs := xT_11 16 (by rfl) rfl
theorem w_2548 : (Jvm.Cond.code ({ cls := "EditsMeetModel", name := "takes", desc := "(III)I" } : Jvm.MethodName) prog_14_method_78_code (6 : Nat) (Option.some Jvm.ClassFile.FieldType.int)) ∈ xTs := xT_11 17 (by rfl) rfl
theorem w_2549 : (Jvm.Cond.methodLink "EditsMeetLaw" (150 : Nat) ({ cls := "EditsMeetModel", name := "revision", desc := "(II)I" } : Jvm.MethodName)) ∈ xTs := xT_11 18 (by rfl) rfl
theorem w_2550 : (Jvm.Cond.instanceMethod ({ cls := "EditsMeetModel", name := "revision", desc := "(II)I" } : Jvm.MethodName)) ∈ xTs := xT_11 19 (by rfl) rfl
theorem w_2551 : (Jvm.Cond.selects "EditsMeetModel" ({ cls := "EditsMeetModel", name := "revision", desc := "(II)I" } : Jvm.MethodName) ({ cls := "EditsMeetModel", name := "revision", desc := "(II)I" } : Jvm.MethodName)) ∈ xTs := xT_11 20 (by rfl) rfl
theorem w_2552 : (Jvm.Cond.code ({ cls := "EditsMeetModel", name := "revision", desc := "(II)I" } : Jvm.MethodName) prog_14_method_79_code (4 : Nat) (Option.some Jvm.ClassFile.FieldType.int)) ∈ xTs := xT_11 21 (by rfl) rfl
theorem w_2553 : (Jvm.Cond.methodLink "EditsMeetLaw" (154 : Nat) ({ cls := "EditsMeetModel", name := "length", desc := "(I)I" } : Jvm.MethodName)) ∈ xTs := xT_11 22 (by rfl) rfl
theorem w_2554 : (Jvm.Cond.instanceMethod ({ cls := "EditsMeetModel", name := "length", desc := "(I)I" } : Jvm.MethodName)) ∈ xTs := xT_11 23 (by rfl) rfl
theorem w_2555 : (Jvm.Cond.selects "EditsMeetModel" ({ cls := "EditsMeetModel", name := "length", desc := "(I)I" } : Jvm.MethodName) ({ cls := "EditsMeetModel", name := "length", desc := "(I)I" } : Jvm.MethodName)) ∈ xTs := xT_11 24 (by rfl) rfl
theorem w_2556 : (Jvm.Cond.code ({ cls := "EditsMeetModel", name := "length", desc := "(I)I" } : Jvm.MethodName) prog_14_method_81_code (2 : Nat) (Option.some Jvm.ClassFile.FieldType.int)) ∈ xTs := xT_11 25 (by rfl) rfl
theorem w_2557 : (Jvm.Cond.methodLink "EditsMeetModel" (319 : Nat) ({ cls := "EditsMeetModel", name := "isText", desc := "(I)Z" } : Jvm.MethodName)) ∈ xTs := xT_11 26 (by rfl) rfl
theorem w_2558 : (Jvm.Cond.static ({ cls := "EditsMeetModel", name := "isText", desc := "(I)Z" } : Jvm.MethodName)) ∈ xTs := xT_11 27 (by rfl) rfl
theorem w_2559 : (Jvm.Cond.code ({ cls := "EditsMeetModel", name := "isText", desc := "(I)Z" } : Jvm.MethodName) prog_14_method_80_code (1 : Nat) (Option.some Jvm.ClassFile.FieldType.boolean)) ∈ xTs := xT_11 28 (by rfl) rfl
theorem w_2560 : (Jvm.Cond.constantLong "EditsMeetModel" (317 : Nat) (4 : Int64)) ∈ xTs := xT_11 29 (by rfl) rfl
theorem w_2561 : (Jvm.Cond.methodLink "EditsMeetLaw" (158 : Nat) ({ cls := "EditsMeetModel", name := "text", desc := "(III)I" } : Jvm.MethodName)) ∈ xTs := xT_11 30 (by rfl) rfl
theorem w_2562 : (Jvm.Cond.instanceMethod ({ cls := "EditsMeetModel", name := "text", desc := "(III)I" } : Jvm.MethodName)) ∈ xTs := xT_11 31 (by rfl) rfl
theorem w_2563 : (Jvm.Cond.selects "EditsMeetModel" ({ cls := "EditsMeetModel", name := "text", desc := "(III)I" } : Jvm.MethodName) ({ cls := "EditsMeetModel", name := "text", desc := "(III)I" } : Jvm.MethodName)) ∈ xTs := xT_11 32 (by rfl) rfl
theorem w_2564 : (Jvm.Cond.code ({ cls := "EditsMeetModel", name := "text", desc := "(III)I" } : Jvm.MethodName) prog_14_method_82_code (5 : Nat) (Option.some Jvm.ClassFile.FieldType.int)) ∈ xTs := xT_11 33 (by rfl) rfl
theorem w_2565 : (Jvm.Cond.methodLink "EditsMeetLaw" (162 : Nat) ({ cls := "EditsMeetModel", name := "apart", desc := "(II)I" } : Jvm.MethodName)) ∈ xTs := xT_11 34 (by rfl) rfl
theorem w_2566 : (Jvm.Cond.instanceMethod ({ cls := "EditsMeetModel", name := "apart", desc := "(II)I" } : Jvm.MethodName)) ∈ xTs := xT_11 35 (by rfl) rfl
theorem w_2567 : (Jvm.Cond.selects "EditsMeetModel" ({ cls := "EditsMeetModel", name := "apart", desc := "(II)I" } : Jvm.MethodName) ({ cls := "EditsMeetModel", name := "apart", desc := "(II)I" } : Jvm.MethodName)) ∈ xTs := xT_11 36 (by rfl) rfl
theorem w_2568 : (Jvm.Cond.code ({ cls := "EditsMeetModel", name := "apart", desc := "(II)I" } : Jvm.MethodName) prog_14_method_84_code (3 : Nat) (Option.some Jvm.ClassFile.FieldType.int)) ∈ xTs := xT_11 37 (by rfl) rfl
theorem w_2569 : (Jvm.Cond.methodLink "EditsMeetModel" (322 : Nat) ({ cls := "EditsMeetModel", name := "firstApart", desc := "(II)I" } : Jvm.MethodName)) ∈ xTs := xT_11 38 (by rfl) rfl
theorem w_2571 : (Jvm.Cond.instanceMethod ({ cls := "EditsMeetModel", name := "firstApart", desc := "(II)I" } : Jvm.MethodName)) ∈ xTs := xT_11 40 (by rfl) rfl
theorem w_2572 : (Jvm.Cond.code ({ cls := "EditsMeetModel", name := "firstApart", desc := "(II)I" } : Jvm.MethodName) prog_14_method_83_code (4 : Nat) (Option.some Jvm.ClassFile.FieldType.int)) ∈ xTs := xT_11 41 (by rfl) rfl
theorem w_2573 : (Jvm.Cond.methodLink "EditsMeetLaw" (166 : Nat) ({ cls := "EditsMeetModel", name := "marked", desc := "(II)I" } : Jvm.MethodName)) ∈ xTs := xT_11 42 (by rfl) rfl
theorem w_2574 : (Jvm.Cond.instanceMethod ({ cls := "EditsMeetModel", name := "marked", desc := "(II)I" } : Jvm.MethodName)) ∈ xTs := xT_11 43 (by rfl) rfl
theorem w_2575 : (Jvm.Cond.selects "EditsMeetModel" ({ cls := "EditsMeetModel", name := "marked", desc := "(II)I" } : Jvm.MethodName) ({ cls := "EditsMeetModel", name := "marked", desc := "(II)I" } : Jvm.MethodName)) ∈ xTs := xT_11 44 (by rfl) rfl
theorem w_2576 : (Jvm.Cond.code ({ cls := "EditsMeetModel", name := "marked", desc := "(II)I" } : Jvm.MethodName) prog_14_method_85_code (7 : Nat) (Option.some Jvm.ClassFile.FieldType.int)) ∈ xTs := xT_11 45 (by rfl) rfl
theorem w_2577 : (Jvm.Cond.methodLink "EditsMeetLaw" (17 : Nat) ({ cls := "EditsMeetModel", name := "row", desc := "(III)I" } : Jvm.MethodName)) ∈ xTs := xT_11 46 (by rfl) rfl
theorem w_2578 : (Jvm.Cond.instanceMethod ({ cls := "EditsMeetModel", name := "row", desc := "(III)I" } : Jvm.MethodName)) ∈ xTs := xT_11 47 (by rfl) rfl
theorem w_2579 : (Jvm.Cond.selects "EditsMeetModel" ({ cls := "EditsMeetModel", name := "row", desc := "(III)I" } : Jvm.MethodName) ({ cls := "EditsMeetModel", name := "row", desc := "(III)I" } : Jvm.MethodName)) ∈ xTs := xT_11 48 (by rfl) rfl
theorem w_2580 : (Jvm.Cond.code ({ cls := "EditsMeetModel", name := "row", desc := "(III)I" } : Jvm.MethodName) prog_14_method_87_code (5 : Nat) (Option.some Jvm.ClassFile.FieldType.int)) ∈ xTs := xT_11 49 (by rfl) rfl
theorem w_2581 : (Jvm.Cond.methodLink "EditsMeetModel" (327 : Nat) ({ cls := "EditsMeetModel", name := "isShelf", desc := "(I)Z" } : Jvm.MethodName)) ∈ xTs := xT_11 50 (by rfl) rfl
theorem w_2582 : (Jvm.Cond.static ({ cls := "EditsMeetModel", name := "isShelf", desc := "(I)Z" } : Jvm.MethodName)) ∈ xTs := xT_11 51 (by rfl) rfl
theorem w_2583 : (Jvm.Cond.code ({ cls := "EditsMeetModel", name := "isShelf", desc := "(I)Z" } : Jvm.MethodName) prog_14_method_86_code (1 : Nat) (Option.some Jvm.ClassFile.FieldType.boolean)) ∈ xTs := xT_11 52 (by rfl) rfl
theorem w_2584 : (Jvm.Cond.constantLong "EditsMeetModel" (325 : Nat) (7 : Int64)) ∈ xTs := xT_11 53 (by rfl) rfl
theorem w_2585 : (Jvm.Cond.constantLong "EditsMeetModel" (330 : Nat) (40 : Int64)) ∈ xTs := xT_11 54 (by rfl) rfl
theorem w_2586 : (Jvm.Cond.methodLink "EditsMeetLaw" (24 : Nat) ({ cls := "EditsMeetModel", name := "set", desc := "(IIJ)I" } : Jvm.MethodName)) ∈ xTs := xT_11 55 (by rfl) rfl
theorem w_2587 : (Jvm.Cond.instanceMethod ({ cls := "EditsMeetModel", name := "set", desc := "(IIJ)I" } : Jvm.MethodName)) ∈ xTs := xT_11 56 (by rfl) rfl
theorem w_2588 : (Jvm.Cond.selects "EditsMeetModel" ({ cls := "EditsMeetModel", name := "set", desc := "(IIJ)I" } : Jvm.MethodName) ({ cls := "EditsMeetModel", name := "set", desc := "(IIJ)I" } : Jvm.MethodName)) ∈ xTs := xT_11 57 (by rfl) rfl
theorem w_2589 : (Jvm.Cond.code ({ cls := "EditsMeetModel", name := "set", desc := "(IIJ)I" } : Jvm.MethodName) prog_14_method_89_code (5 : Nat) (Option.some Jvm.ClassFile.FieldType.int)) ∈ xTs := xT_11 58 (by rfl) rfl
theorem w_2593 : (Jvm.Cond.methodLink "EditsMeetLaw" (29 : Nat) ({ cls := "EditsMeetModel", name := "copy", desc := "(IIIII)I" } : Jvm.MethodName)) ∈ xTs := xT_11 62 (by rfl) rfl
theorem w_2594 : (Jvm.Cond.instanceMethod ({ cls := "EditsMeetModel", name := "copy", desc := "(IIIII)I" } : Jvm.MethodName)) ∈ xTs := xT_11 63 (by rfl) rfl
theorem w_2595 : (Jvm.Cond.selects "EditsMeetModel" ({ cls := "EditsMeetModel", name := "copy", desc := "(IIIII)I" } : Jvm.MethodName) ({ cls := "EditsMeetModel", name := "copy", desc := "(IIIII)I" } : Jvm.MethodName)) ∈ xTs := xT_11 64 (by rfl) rfl
theorem w_2596 : (Jvm.Cond.code ({ cls := "EditsMeetModel", name := "copy", desc := "(IIIII)I" } : Jvm.MethodName) prog_14_method_90_code (8 : Nat) (Option.some Jvm.ClassFile.FieldType.int)) ∈ xTs := xT_11 65 (by rfl) rfl
theorem w_2597 : (Jvm.Cond.methodLink "EditsMeetLaw" (34 : Nat) ({ cls := "EditsMeetModel", name := "element", desc := "(II)J" } : Jvm.MethodName)) ∈ xTs := xT_11 66 (by rfl) rfl
theorem w_2598 : (Jvm.Cond.instanceMethod ({ cls := "EditsMeetModel", name := "element", desc := "(II)J" } : Jvm.MethodName)) ∈ xTs := xT_11 67 (by rfl) rfl
theorem w_2599 : (Jvm.Cond.selects "EditsMeetModel" ({ cls := "EditsMeetModel", name := "element", desc := "(II)J" } : Jvm.MethodName) ({ cls := "EditsMeetModel", name := "element", desc := "(II)J" } : Jvm.MethodName)) ∈ xTs := xT_11 68 (by rfl) rfl
theorem w_2600 : (Jvm.Cond.code ({ cls := "EditsMeetModel", name := "element", desc := "(II)J" } : Jvm.MethodName) prog_14_method_91_code (3 : Nat) (Option.some Jvm.ClassFile.FieldType.long)) ∈ xTs := xT_11 69 (by rfl) rfl
theorem w_2601 : (Jvm.Cond.methodLink "EditsMeetLaw" (39 : Nat) ({ cls := "EditsMeetModel", name := "holds", desc := "(I)I" } : Jvm.MethodName)) ∈ xTs := xT_11 70 (by rfl) rfl
theorem w_2602 : (Jvm.Cond.instanceMethod ({ cls := "EditsMeetModel", name := "holds", desc := "(I)I" } : Jvm.MethodName)) ∈ xTs := xT_11 71 (by rfl) rfl
theorem w_2603 : (Jvm.Cond.selects "EditsMeetModel" ({ cls := "EditsMeetModel", name := "holds", desc := "(I)I" } : Jvm.MethodName) ({ cls := "EditsMeetModel", name := "holds", desc := "(I)I" } : Jvm.MethodName)) ∈ xTs := xT_11 72 (by rfl) rfl
theorem w_2604 : (Jvm.Cond.code ({ cls := "EditsMeetModel", name := "holds", desc := "(I)I" } : Jvm.MethodName) prog_14_method_92_code (2 : Nat) (Option.some Jvm.ClassFile.FieldType.int)) ∈ xTs := xT_11 73 (by rfl) rfl
theorem w_2605 : (Jvm.Cond.methodLink "EditsMeetLaw" (43 : Nat) ({ cls := "EditsMeetModel", name := "show", desc := "(III)I" } : Jvm.MethodName)) ∈ xTs := xT_11 74 (by rfl) rfl
theorem w_2606 : (Jvm.Cond.instanceMethod ({ cls := "EditsMeetModel", name := "show", desc := "(III)I" } : Jvm.MethodName)) ∈ xTs := xT_11 75 (by rfl) rfl
theorem w_2607 : (Jvm.Cond.selects "EditsMeetModel" ({ cls := "EditsMeetModel", name := "show", desc := "(III)I" } : Jvm.MethodName) ({ cls := "EditsMeetModel", name := "show", desc := "(III)I" } : Jvm.MethodName)) ∈ xTs := xT_11 76 (by rfl) rfl
theorem w_2608 : (Jvm.Cond.code ({ cls := "EditsMeetModel", name := "show", desc := "(III)I" } : Jvm.MethodName) prog_14_method_93_code (5 : Nat) (Option.some Jvm.ClassFile.FieldType.int)) ∈ xTs := xT_11 77 (by rfl) rfl
theorem w_2609 : (Jvm.Cond.methodLink "EditsMeetLaw" (48 : Nat) ({ cls := "EditsMeetModel", name := "says", desc := "(II)I" } : Jvm.MethodName)) ∈ xTs := xT_11 78 (by rfl) rfl
theorem w_2610 : (Jvm.Cond.instanceMethod ({ cls := "EditsMeetModel", name := "says", desc := "(II)I" } : Jvm.MethodName)) ∈ xTs := xT_11 79 (by rfl) rfl
theorem w_2611 : (Jvm.Cond.selects "EditsMeetModel" ({ cls := "EditsMeetModel", name := "says", desc := "(II)I" } : Jvm.MethodName) ({ cls := "EditsMeetModel", name := "says", desc := "(II)I" } : Jvm.MethodName)) ∈ xTs := xT_11 80 (by rfl) rfl
theorem w_2612 : (Jvm.Cond.code ({ cls := "EditsMeetModel", name := "says", desc := "(II)I" } : Jvm.MethodName) prog_14_method_95_code (4 : Nat) (Option.some Jvm.ClassFile.FieldType.int)) ∈ xTs := xT_11 81 (by rfl) rfl
theorem w_2617 : (Jvm.Cond.methodLink "EditsMeetLaw" (170 : Nat) ({ cls := "EditsMeetModel", name := "judge", desc := "(III)I" } : Jvm.MethodName)) ∈ xTs := xT_11 86 (by rfl) rfl
theorem w_2618 : (Jvm.Cond.instanceMethod ({ cls := "EditsMeetModel", name := "judge", desc := "(III)I" } : Jvm.MethodName)) ∈ xTs := xT_11 87 (by rfl) rfl
theorem w_2619 : (Jvm.Cond.selects "EditsMeetModel" ({ cls := "EditsMeetModel", name := "judge", desc := "(III)I" } : Jvm.MethodName) ({ cls := "EditsMeetModel", name := "judge", desc := "(III)I" } : Jvm.MethodName)) ∈ xTs := xT_11 88 (by rfl) rfl
theorem w_2620 : (Jvm.Cond.code ({ cls := "EditsMeetModel", name := "judge", desc := "(III)I" } : Jvm.MethodName) prog_14_method_96_code (6 : Nat) (Option.some Jvm.ClassFile.FieldType.int)) ∈ xTs := xT_11 89 (by rfl) rfl
theorem w_2621 : (Jvm.Cond.constantLong "EditsMeetModel" (344 : Nat) (20 : Int64)) ∈ xTs := xT_11 90 (by rfl) rfl
theorem w_2622 : (Jvm.Cond.methodLink "EditsMeetLaw" (174 : Nat) ({ cls := "EditsMeetModel", name := "days", desc := "(I)I" } : Jvm.MethodName)) ∈ xTs := xT_11 91 (by rfl) rfl
theorem w_2623 : (Jvm.Cond.instanceMethod ({ cls := "EditsMeetModel", name := "days", desc := "(I)I" } : Jvm.MethodName)) ∈ xTs := xT_11 92 (by rfl) rfl
theorem w_2624 : (Jvm.Cond.selects "EditsMeetModel" ({ cls := "EditsMeetModel", name := "days", desc := "(I)I" } : Jvm.MethodName) ({ cls := "EditsMeetModel", name := "days", desc := "(I)I" } : Jvm.MethodName)) ∈ xTs := xT_11 93 (by rfl) rfl
theorem w_2625 : (Jvm.Cond.code ({ cls := "EditsMeetModel", name := "days", desc := "(I)I" } : Jvm.MethodName) prog_14_method_99_code (5 : Nat) (Option.some Jvm.ClassFile.FieldType.int)) ∈ xTs := xT_11 94 (by rfl) rfl
theorem w_2626 : (Jvm.Cond.constantLong "EditsMeetModel" (350 : Nat) (60 : Int64)) ∈ xTs := xT_11 95 (by rfl) rfl
theorem w_2627 : (Jvm.Cond.methodLink "EditsMeetModel" (347 : Nat) ({ cls := "EditsMeetModel", name := "draw", desc := "(I)I" } : Jvm.MethodName)) ∈ xTs := xT_11 96 (by rfl) rfl
theorem w_2629 : (Jvm.Cond.instanceMethod ({ cls := "EditsMeetModel", name := "draw", desc := "(I)I" } : Jvm.MethodName)) ∈ xTs := xT_11 98 (by rfl) rfl
theorem w_2630 : (Jvm.Cond.code ({ cls := "EditsMeetModel", name := "draw", desc := "(I)I" } : Jvm.MethodName) prog_14_method_97_code (2 : Nat) (Option.some Jvm.ClassFile.FieldType.int)) ∈ xTs := xT_11 99 (by rfl) rfl
theorem w_2631 : (Jvm.Cond.constant "EditsMeetModel" (346 : Nat) (1103515245 : Int32)) ∈ xTs := xT_11 100 (by rfl) rfl
theorem w_2632 : (Jvm.Cond.methodLink "EditsMeetModel" (352 : Nat) ({ cls := "EditsMeetModel", name := "isDay", desc := "(II)Z" } : Jvm.MethodName)) ∈ xTs := xT_11 101 (by rfl) rfl
theorem w_2634 : (Jvm.Cond.instanceMethod ({ cls := "EditsMeetModel", name := "isDay", desc := "(II)Z" } : Jvm.MethodName)) ∈ xTs := xT_11 103 (by rfl) rfl
theorem w_2635 : (Jvm.Cond.code ({ cls := "EditsMeetModel", name := "isDay", desc := "(II)Z" } : Jvm.MethodName) prog_14_method_98_code (6 : Nat) (Option.some Jvm.ClassFile.FieldType.boolean)) ∈ xTs := xT_11 104 (by rfl) rfl
theorem w_2636 : (Jvm.Cond.methodLink "EditsMeetLaw" (178 : Nat) ({ cls := "EditsMeetModel", name := "seed", desc := "(I)I" } : Jvm.MethodName)) ∈ xTs := xT_11 105 (by rfl) rfl
theorem w_2637 : (Jvm.Cond.instanceMethod ({ cls := "EditsMeetModel", name := "seed", desc := "(I)I" } : Jvm.MethodName)) ∈ xTs := xT_11 106 (by rfl) rfl
theorem w_2638 : (Jvm.Cond.selects "EditsMeetModel" ({ cls := "EditsMeetModel", name := "seed", desc := "(I)I" } : Jvm.MethodName) ({ cls := "EditsMeetModel", name := "seed", desc := "(I)I" } : Jvm.MethodName)) ∈ xTs := xT_11 107 (by rfl) rfl
theorem w_2639 : (Jvm.Cond.code ({ cls := "EditsMeetModel", name := "seed", desc := "(I)I" } : Jvm.MethodName) prog_14_method_100_code (3 : Nat) (Option.some Jvm.ClassFile.FieldType.int)) ∈ xTs := xT_11 108 (by rfl) rfl
theorem w_2640 : (Jvm.Cond.methodLink "EditsMeetLaw" (182 : Nat) ({ cls := "EditsMeetModel", name := "image", desc := "()I" } : Jvm.MethodName)) ∈ xTs := xT_11 109 (by rfl) rfl
theorem w_2641 : (Jvm.Cond.instanceMethod ({ cls := "EditsMeetModel", name := "image", desc := "()I" } : Jvm.MethodName)) ∈ xTs := xT_11 110 (by rfl) rfl
theorem w_2642 : (Jvm.Cond.selects "EditsMeetModel" ({ cls := "EditsMeetModel", name := "image", desc := "()I" } : Jvm.MethodName) ({ cls := "EditsMeetModel", name := "image", desc := "()I" } : Jvm.MethodName)) ∈ xTs := xT_11 111 (by rfl) rfl
theorem w_2643 : (Jvm.Cond.code ({ cls := "EditsMeetModel", name := "image", desc := "()I" } : Jvm.MethodName) prog_14_method_103_code (1 : Nat) (Option.some Jvm.ClassFile.FieldType.int)) ∈ xTs := xT_11 112 (by rfl) rfl
theorem w_2644 : (Jvm.Cond.methodLink "EditsMeetModel" (359 : Nat) ({ cls := "EditsMeetModel", name := "copiesRows", desc := "([[I[II[[I[I)V" } : Jvm.MethodName)) ∈ xTs := xT_11 113 (by rfl) rfl
theorem w_2645 : (Jvm.Cond.static ({ cls := "EditsMeetModel", name := "copiesRows", desc := "([[I[II[[I[I)V" } : Jvm.MethodName)) ∈ xTs := xT_11 114 (by rfl) rfl
theorem w_2646 : (Jvm.Cond.code ({ cls := "EditsMeetModel", name := "copiesRows", desc := "([[I[II[[I[I)V" } : Jvm.MethodName) prog_14_method_102_code (6 : Nat) (Option.none : Option Jvm.ClassFile.FieldType)) ∈ xTs := xT_11 115 (by rfl) rfl
theorem w_2647 : (Jvm.Cond.methodLink "EditsMeetModel" (355 : Nat) ({ cls := "EditsMeetModel", name := "copies", desc := "([I[II)V" } : Jvm.MethodName)) ∈ xTs := xT_11 116 (by rfl) rfl
theorem w_2648 : (Jvm.Cond.static ({ cls := "EditsMeetModel", name := "copies", desc := "([I[II)V" } : Jvm.MethodName)) ∈ xTs := xT_11 117 (by rfl) rfl
theorem w_2649 : (Jvm.Cond.code ({ cls := "EditsMeetModel", name := "copies", desc := "([I[II)V" } : Jvm.MethodName) prog_14_method_101_code (4 : Nat) (Option.none : Option Jvm.ClassFile.FieldType)) ∈ xTs := xT_11 118 (by rfl) rfl
theorem w_2650 : (Jvm.Cond.methodLink "EditsMeetLaw" (186 : Nat) ({ cls := "EditsMeetModel", name := "back", desc := "()I" } : Jvm.MethodName)) ∈ xTs := xT_11 119 (by rfl) rfl
theorem w_2651 : (Jvm.Cond.instanceMethod ({ cls := "EditsMeetModel", name := "back", desc := "()I" } : Jvm.MethodName)) ∈ xTs := xT_11 120 (by rfl) rfl
theorem w_2652 : (Jvm.Cond.selects "EditsMeetModel" ({ cls := "EditsMeetModel", name := "back", desc := "()I" } : Jvm.MethodName) ({ cls := "EditsMeetModel", name := "back", desc := "()I" } : Jvm.MethodName)) ∈ xTs := xT_11 121 (by rfl) rfl
theorem w_2653 : (Jvm.Cond.code ({ cls := "EditsMeetModel", name := "back", desc := "()I" } : Jvm.MethodName) prog_14_method_104_code (1 : Nat) (Option.some Jvm.ClassFile.FieldType.int)) ∈ xTs := xT_11 122 (by rfl) rfl
theorem w_2654 : (Jvm.Cond.methodLink "EditsMeetLaw" (190 : Nat) ({ cls := "EditsMeetModel", name := "status", desc := "(I)I" } : Jvm.MethodName)) ∈ xTs := xT_11 123 (by rfl) rfl
theorem w_2655 : (Jvm.Cond.instanceMethod ({ cls := "EditsMeetModel", name := "status", desc := "(I)I" } : Jvm.MethodName)) ∈ xTs := xT_11 124 (by rfl) rfl
theorem w_2656 : (Jvm.Cond.selects "EditsMeetModel" ({ cls := "EditsMeetModel", name := "status", desc := "(I)I" } : Jvm.MethodName) ({ cls := "EditsMeetModel", name := "status", desc := "(I)I" } : Jvm.MethodName)) ∈ xTs := xT_11 125 (by rfl) rfl
theorem w_2657 : (Jvm.Cond.code ({ cls := "EditsMeetModel", name := "status", desc := "(I)I" } : Jvm.MethodName) prog_14_method_105_code (4 : Nat) (Option.some Jvm.ClassFile.FieldType.int)) ∈ xTs := xT_11 126 (by rfl) rfl
theorem w_2658 : (Jvm.Cond.constantLong "EditsMeetModel" (367 : Nat) (12 : Int64)) ∈ xTs := xT_11 127 (by rfl) rfl
theorem w_2659 : (Jvm.Cond.constantLong "EditsMeetModel" (369 : Nat) (16 : Int64)) ∈ xTs := xT_11 128 (by rfl) rfl
theorem w_2660 : (Jvm.Cond.constantLong "EditsMeetLaw" (18 : Nat) (4294967295 : Int64)) ∈ xTs := xT_11 129 (by rfl) rfl
