def xTs : List Cond := lw_tbl.filter goodWord
theorem xTm {w : Cond} (i : Nat) (h : lw_tbl[i]? = some w) (g : goodWord w = true) : w ∈ xTs := List.mem_filter.mpr ⟨List.mem_of_getElem? h, g⟩
theorem hTs : xTsok xTs := fun w h => good_of_word (List.mem_filter.mp h).2
theorem xT_1 {w : Cond} (i : Nat) (h : tables_1_1[i]? = some w) (g : goodWord w = true) : w ∈ xTs := List.mem_filter.mpr ⟨List.mem_append_right _ (by have q := List.mem_of_getElem? h; exact List.mem_append_left _ q), g⟩
theorem xT_2 {w : Cond} (i : Nat) (h : tables_1_2[i]? = some w) (g : goodWord w = true) : w ∈ xTs := List.mem_filter.mpr ⟨List.mem_append_right _ (by have q := List.mem_of_getElem? h; exact List.mem_append_right _ (List.mem_append_left _ q)), g⟩
theorem xT_3 {w : Cond} (i : Nat) (h : tables_1_3[i]? = some w) (g : goodWord w = true) : w ∈ xTs := List.mem_filter.mpr ⟨List.mem_append_right _ (by have q := List.mem_of_getElem? h; exact List.mem_append_right _ (List.mem_append_right _ (List.mem_append_left _ q))), g⟩
theorem xT_4 {w : Cond} (i : Nat) (h : tables_1_4[i]? = some w) (g : goodWord w = true) : w ∈ xTs := List.mem_filter.mpr ⟨List.mem_append_right _ (by have q := List.mem_of_getElem? h; exact List.mem_append_right _ (List.mem_append_right _ (List.mem_append_right _ (List.mem_append_left _ q)))), g⟩
theorem xT_5 {w : Cond} (i : Nat) (h : tables_1_5[i]? = some w) (g : goodWord w = true) : w ∈ xTs := List.mem_filter.mpr ⟨List.mem_append_right _ (by have q := List.mem_of_getElem? h; exact List.mem_append_right _ (List.mem_append_right _ (List.mem_append_right _ (List.mem_append_right _ (List.mem_append_left _ q))))), g⟩
theorem xT_6 {w : Cond} (i : Nat) (h : tables_1_6[i]? = some w) (g : goodWord w = true) : w ∈ xTs := List.mem_filter.mpr ⟨List.mem_append_right _ (by have q := List.mem_of_getElem? h; exact List.mem_append_right _ (List.mem_append_right _ (List.mem_append_right _ (List.mem_append_right _ (List.mem_append_right _ (List.mem_append_left _ q)))))), g⟩
theorem xT_7 {w : Cond} (i : Nat) (h : tables_1_7[i]? = some w) (g : goodWord w = true) : w ∈ xTs := List.mem_filter.mpr ⟨List.mem_append_right _ (by have q := List.mem_of_getElem? h; exact List.mem_append_right _ (List.mem_append_right _ (List.mem_append_right _ (List.mem_append_right _ (List.mem_append_right _ (List.mem_append_right _ (List.mem_append_left _ q))))))), g⟩
theorem xT_8 {w : Cond} (i : Nat) (h : tables_1_8[i]? = some w) (g : goodWord w = true) : w ∈ xTs := List.mem_filter.mpr ⟨List.mem_append_right _ (by have q := List.mem_of_getElem? h; exact List.mem_append_right _ (List.mem_append_right _ (List.mem_append_right _ (List.mem_append_right _ (List.mem_append_right _ (List.mem_append_right _ (List.mem_append_right _ (q)))))))), g⟩
theorem xT_0 {w : Cond} (i : Nat) (h : (k2_sels lw_privs)[i]? = some w) (g : goodWord w = true) : w ∈ xTs := List.mem_filter.mpr ⟨List.mem_append_left _ (List.mem_of_getElem? h), g⟩
theorem w_0 : Cond.selects "java/util/ArrayList" ⟨"java/util/ArrayList", "add", "(Ljava/lang/Object;[Ljava/lang/Object;I)V"⟩ ⟨"java/util/ArrayList", "add", "(Ljava/lang/Object;[Ljava/lang/Object;I)V"⟩ ∈ xTs := xT_0 0 (by decide +kernel) rfl
theorem w_1 : Cond.selects "java/util/ArrayList" ⟨"java/util/ArrayList", "grow", "()[Ljava/lang/Object;"⟩ ⟨"java/util/ArrayList", "grow", "()[Ljava/lang/Object;"⟩ ∈ xTs := xT_0 1 (by decide +kernel) rfl
theorem w_2 : Cond.selects "java/util/ArrayList" ⟨"java/util/ArrayList", "grow", "(I)[Ljava/lang/Object;"⟩ ⟨"java/util/ArrayList", "grow", "(I)[Ljava/lang/Object;"⟩ ∈ xTs := xT_0 2 (by decide +kernel) rfl
theorem w_3 : Cond.selects "EditsMeet" ⟨"EditsMeet", "refuse", "(I)I"⟩ ⟨"EditsMeet", "refuse", "(I)I"⟩ ∈ xTs := xT_0 3 (by decide +kernel) rfl
theorem w_7 : Cond.selects "EditsMeet$Letters" ⟨"EditsMeet$Letters", "isRoot", "(I)Z"⟩ ⟨"EditsMeet$Letters", "isRoot", "(I)Z"⟩ ∈ xTs := xT_0 7 (by decide +kernel) rfl
theorem w_8 : Cond.selects "EditsMeet$Letters" ⟨"EditsMeet$Letters", "isBranch", "(I)Z"⟩ ⟨"EditsMeet$Letters", "isBranch", "(I)Z"⟩ ∈ xTs := xT_0 8 (by decide +kernel) rfl
theorem w_12 : Cond.selects "EditsMeet$Letters" ⟨"EditsMeet$Letters", "makeRoom", "()V"⟩ ⟨"EditsMeet$Letters", "makeRoom", "()V"⟩ ∈ xTs := xT_0 12 (by decide +kernel) rfl
theorem w_13 : Cond.selects "EditsMeet$Letters" ⟨"EditsMeet$Letters", "knowAll", "()V"⟩ ⟨"EditsMeet$Letters", "knowAll", "()V"⟩ ∈ xTs := xT_0 13 (by decide +kernel) rfl
theorem w_14 : Cond.selects "EditsMeet$Letters" ⟨"EditsMeet$Letters", "branch", "(II)I"⟩ ⟨"EditsMeet$Letters", "branch", "(II)I"⟩ ∈ xTs := xT_0 14 (by decide +kernel) rfl
theorem w_15 : Cond.selects "EditsMeet$Letters" ⟨"EditsMeet$Letters", "balanced", "(II)I"⟩ ⟨"EditsMeet$Letters", "balanced", "(II)I"⟩ ∈ xTs := xT_0 15 (by decide +kernel) rfl
theorem w_20 : Cond.selects "EditsMeet$Walk" ⟨"EditsMeet$Walk", "enterNext", "()V"⟩ ⟨"EditsMeet$Walk", "enterNext", "()V"⟩ ∈ xTs := xT_0 20 (by decide +kernel) rfl
theorem w_21 : Cond.selects "EditsMeet$Letters" ⟨"EditsMeet$Letters", "reach", "(LEditsMeet$Edit;)V"⟩ ⟨"EditsMeet$Letters", "reach", "(LEditsMeet$Edit;)V"⟩ ∈ xTs := xT_0 21 (by decide +kernel) rfl
theorem w_22 : Cond.selects "EditsMeet$Letters" ⟨"EditsMeet$Letters", "moveTogether", "()V"⟩ ⟨"EditsMeet$Letters", "moveTogether", "()V"⟩ ∈ xTs := xT_0 22 (by decide +kernel) rfl
theorem w_23 : Cond.selects "EditsMeet$Letters" ⟨"EditsMeet$Letters", "move", "(LEditsMeet$Edit;)V"⟩ ⟨"EditsMeet$Letters", "move", "(LEditsMeet$Edit;)V"⟩ ∈ xTs := xT_0 23 (by decide +kernel) rfl
theorem w_24 : Cond.selects "EditsMeet$Letters" ⟨"EditsMeet$Letters", "isTurned", "(III)Z"⟩ ⟨"EditsMeet$Letters", "isTurned", "(III)Z"⟩ ∈ xTs := xT_0 24 (by decide +kernel) rfl
theorem w_25 : Cond.selects "EditsMeet$Loom" ⟨"EditsMeet$Loom", "turnMark", "(IJJIILEditsMeet$Edit;)V"⟩ ⟨"EditsMeet$Loom", "turnMark", "(IJJIILEditsMeet$Edit;)V"⟩ ∈ xTs := xT_0 25 (by decide +kernel) rfl
theorem w_26 : Cond.selects "EditsMeet$History" ⟨"EditsMeet$History", "putOldestLast", "()V"⟩ ⟨"EditsMeet$History", "putOldestLast", "()V"⟩ ∈ xTs := xT_0 26 (by decide +kernel) rfl
theorem w_27 : Cond.selects "EditsMeet$Client" ⟨"EditsMeet$Client", "change", "(LEditsMeet$Edit;ZLEditsMeet$Loom;)V"⟩ ⟨"EditsMeet$Client", "change", "(LEditsMeet$Edit;ZLEditsMeet$Loom;)V"⟩ ∈ xTs := xT_0 27 (by decide +kernel) rfl
theorem w_28 : Cond.selects "EditsMeet$Client" ⟨"EditsMeet$Client", "send", "(LEditsMeet$Edit;LEditsMeet$Loom;)V"⟩ ⟨"EditsMeet$Client", "send", "(LEditsMeet$Edit;LEditsMeet$Loom;)V"⟩ ∈ xTs := xT_0 28 (by decide +kernel) rfl
theorem w_29 : Cond.selects "EditsMeet" ⟨"EditsMeet", "draftInsert", "(LEditsMeet$Client;JI)V"⟩ ⟨"EditsMeet", "draftInsert", "(LEditsMeet$Client;JI)V"⟩ ∈ xTs := xT_0 29 (by decide +kernel) rfl
theorem w_30 : Cond.selects "EditsMeet" ⟨"EditsMeet", "draftOver", "(LEditsMeet$Client;JIIII)V"⟩ ⟨"EditsMeet", "draftOver", "(LEditsMeet$Client;JIIII)V"⟩ ∈ xTs := xT_0 30 (by decide +kernel) rfl
theorem w_31 : Cond.selects "EditsMeet$Client" ⟨"EditsMeet$Client", "sendWaiting", "()V"⟩ ⟨"EditsMeet$Client", "sendWaiting", "()V"⟩ ∈ xTs := xT_0 31 (by decide +kernel) rfl
theorem w_32 : Cond.selects "EditsMeet" ⟨"EditsMeet", "canBe", "(LEditsMeet$Client;I)Z"⟩ ⟨"EditsMeet", "canBe", "(LEditsMeet$Client;I)Z"⟩ ∈ xTs := xT_0 32 (by decide +kernel) rfl
theorem w_33 : Cond.selects "EditsMeet" ⟨"EditsMeet", "draftByDraws", "(LEditsMeet$Client;I)V"⟩ ⟨"EditsMeet", "draftByDraws", "(LEditsMeet$Client;I)V"⟩ ∈ xTs := xT_0 33 (by decide +kernel) rfl
theorem w_36 : Cond.selects "EditsMeetModel" ⟨"EditsMeetModel", "refused", "(I)I"⟩ ⟨"EditsMeetModel", "refused", "(I)I"⟩ ∈ xTs := xT_0 36 (by decide +kernel) rfl
theorem w_39 : Cond.selects "EditsMeetModel" ⟨"EditsMeetModel", "adds", "(II)V"⟩ ⟨"EditsMeetModel", "adds", "(II)V"⟩ ∈ xTs := xT_0 39 (by decide +kernel) rfl
theorem w_41 : Cond.selects "EditsMeetModel" ⟨"EditsMeetModel", "plain", "(I)V"⟩ ⟨"EditsMeetModel", "plain", "(I)V"⟩ ∈ xTs := xT_0 41 (by decide +kernel) rfl
theorem w_43 : Cond.selects "EditsMeetModel" ⟨"EditsMeetModel", "keepsRow", "(II)V"⟩ ⟨"EditsMeetModel", "keepsRow", "(II)V"⟩ ∈ xTs := xT_0 43 (by decide +kernel) rfl
theorem w_53 : Cond.selects "EditsMeetModel" ⟨"EditsMeetModel", "takesRow", "(II)V"⟩ ⟨"EditsMeetModel", "takesRow", "(II)V"⟩ ∈ xTs := xT_0 53 (by decide +kernel) rfl
theorem w_54 : Cond.selects "EditsMeetModel" ⟨"EditsMeetModel", "behindRow", "(III)V"⟩ ⟨"EditsMeetModel", "behindRow", "(III)V"⟩ ∈ xTs := xT_0 54 (by decide +kernel) rfl
theorem w_55 : Cond.selects "EditsMeetModel" ⟨"EditsMeetModel", "together", "(III)V"⟩ ⟨"EditsMeetModel", "together", "(III)V"⟩ ∈ xTs := xT_0 55 (by decide +kernel) rfl
theorem w_58 : Cond.selects "EditsMeetModel" ⟨"EditsMeetModel", "overRow", "(IIII)V"⟩ ⟨"EditsMeetModel", "overRow", "(IIII)V"⟩ ∈ xTs := xT_0 58 (by decide +kernel) rfl
theorem w_59 : Cond.selects "EditsMeetModel" ⟨"EditsMeetModel", "overOne", "(IIII)V"⟩ ⟨"EditsMeetModel", "overOne", "(IIII)V"⟩ ∈ xTs := xT_0 59 (by decide +kernel) rfl
theorem w_60 : Cond.selects "EditsMeetModel" ⟨"EditsMeetModel", "turnedRow", "(III)V"⟩ ⟨"EditsMeetModel", "turnedRow", "(III)V"⟩ ∈ xTs := xT_0 60 (by decide +kernel) rfl
theorem w_61 : Cond.selects "EditsMeetModel" ⟨"EditsMeetModel", "isFull", "(II)Z"⟩ ⟨"EditsMeetModel", "isFull", "(II)Z"⟩ ∈ xTs := xT_0 61 (by decide +kernel) rfl
theorem w_62 : Cond.selects "EditsMeetModel" ⟨"EditsMeetModel", "resultLength", "(I)I"⟩ ⟨"EditsMeetModel", "resultLength", "(I)I"⟩ ∈ xTs := xT_0 62 (by decide +kernel) rfl
theorem w_63 : Cond.selects "EditsMeetModel" ⟨"EditsMeetModel", "done", "(IIZ)V"⟩ ⟨"EditsMeetModel", "done", "(IIZ)V"⟩ ∈ xTs := xT_0 63 (by decide +kernel) rfl
theorem w_64 : Cond.selects "EditsMeetModel" ⟨"EditsMeetModel", "makes", "(II)V"⟩ ⟨"EditsMeetModel", "makes", "(II)V"⟩ ∈ xTs := xT_0 64 (by decide +kernel) rfl
theorem w_65 : Cond.selects "EditsMeetModel" ⟨"EditsMeetModel", "cursorGoes", "(IIZ)V"⟩ ⟨"EditsMeetModel", "cursorGoes", "(IIZ)V"⟩ ∈ xTs := xT_0 65 (by decide +kernel) rfl
theorem w_66 : Cond.selects "EditsMeetModel" ⟨"EditsMeetModel", "st", "(II)I"⟩ ⟨"EditsMeetModel", "st", "(II)I"⟩ ∈ xTs := xT_0 66 (by decide +kernel) rfl
theorem w_67 : Cond.selects "EditsMeetModel" ⟨"EditsMeetModel", "goesAlong", "(IIZ)I"⟩ ⟨"EditsMeetModel", "goesAlong", "(IIZ)I"⟩ ∈ xTs := xT_0 67 (by decide +kernel) rfl
theorem w_68 : Cond.selects "EditsMeetModel" ⟨"EditsMeetModel", "pushes", "(III)V"⟩ ⟨"EditsMeetModel", "pushes", "(III)V"⟩ ∈ xTs := xT_0 68 (by decide +kernel) rfl
theorem w_69 : Cond.selects "EditsMeetModel" ⟨"EditsMeetModel", "copiesRow", "(II)V"⟩ ⟨"EditsMeetModel", "copiesRow", "(II)V"⟩ ∈ xTs := xT_0 69 (by decide +kernel) rfl
theorem w_70 : Cond.selects "EditsMeetModel" ⟨"EditsMeetModel", "inserts", "(III)V"⟩ ⟨"EditsMeetModel", "inserts", "(III)V"⟩ ∈ xTs := xT_0 70 (by decide +kernel) rfl
theorem w_72 : Cond.selects "EditsMeetModel" ⟨"EditsMeetModel", "keepsAllBut", "(IIII)V"⟩ ⟨"EditsMeetModel", "keepsAllBut", "(IIII)V"⟩ ∈ xTs := xT_0 72 (by decide +kernel) rfl
theorem w_73 : Cond.selects "EditsMeetModel" ⟨"EditsMeetModel", "serves", "(I)I"⟩ ⟨"EditsMeetModel", "serves", "(I)I"⟩ ∈ xTs := xT_0 73 (by decide +kernel) rfl
theorem w_74 : Cond.selects "EditsMeetModel" ⟨"EditsMeetModel", "keepsWork", "(II)V"⟩ ⟨"EditsMeetModel", "keepsWork", "(II)V"⟩ ∈ xTs := xT_0 74 (by decide +kernel) rfl
theorem w_75 : Cond.selects "EditsMeetModel" ⟨"EditsMeetModel", "hears", "(I)V"⟩ ⟨"EditsMeetModel", "hears", "(I)V"⟩ ∈ xTs := xT_0 75 (by decide +kernel) rfl
theorem w_76 : Cond.selects "EditsMeetModel" ⟨"EditsMeetModel", "crosses", "(I)V"⟩ ⟨"EditsMeetModel", "crosses", "(I)V"⟩ ∈ xTs := xT_0 76 (by decide +kernel) rfl
theorem w_79 : Cond.selects "EditsMeetModel" ⟨"EditsMeetModel", "again", "(II)I"⟩ ⟨"EditsMeetModel", "again", "(II)I"⟩ ∈ xTs := xT_0 79 (by decide +kernel) rfl
theorem w_81 : Cond.selects "EditsMeetModel" ⟨"EditsMeetModel", "draw", "(I)I"⟩ ⟨"EditsMeetModel", "draw", "(I)I"⟩ ∈ xTs := xT_0 81 (by decide +kernel) rfl
theorem w_82 : Cond.selects "EditsMeetModel" ⟨"EditsMeetModel", "isDay", "(II)Z"⟩ ⟨"EditsMeetModel", "isDay", "(II)Z"⟩ ∈ xTs := xT_0 82 (by decide +kernel) rfl
theorem w_84 : (Jvm.Cond.initialized "EditsMeet") ∈ xTs := xT_1 1 (by decide +kernel) rfl
theorem w_85 : (Jvm.Cond.initialized "EditsMeet$Letters") ∈ xTs := xT_1 2 (by decide +kernel) rfl
theorem w_86 : (Jvm.Cond.initialized "java/util/AbstractCollection") ∈ xTs := xT_1 3 (by decide +kernel) rfl
theorem w_87 : (Jvm.Cond.initialized "java/util/AbstractList") ∈ xTs := xT_1 4 (by decide +kernel) rfl
theorem w_88 : (Jvm.Cond.initialized "java/util/ArrayList") ∈ xTs := xT_1 5 (by decide +kernel) rfl
theorem w_89 : (Jvm.Cond.initialized "EditsMeet$Tape") ∈ xTs := xT_1 6 (by decide +kernel) rfl
theorem w_90 : (Jvm.Cond.initialized "EditsMeet$Row") ∈ xTs := xT_1 7 (by decide +kernel) rfl
theorem w_91 : (Jvm.Cond.initialized "EditsMeet$Loom") ∈ xTs := xT_1 8 (by decide +kernel) rfl
theorem w_92 : (Jvm.Cond.initialized "EditsMeet$Walk") ∈ xTs := xT_1 9 (by decide +kernel) rfl
theorem w_93 : (Jvm.Cond.initialized "EditsMeet$Edit") ∈ xTs := xT_1 10 (by decide +kernel) rfl
theorem w_94 : (Jvm.Cond.initialized "jdk/internal/util/ArraysSupport") ∈ xTs := xT_1 11 (by decide +kernel) rfl
theorem w_95 : (Jvm.Cond.initialized "java/lang/Math") ∈ xTs := xT_1 12 (by decide +kernel) rfl
theorem w_96 : (Jvm.Cond.initialized "java/util/Arrays") ∈ xTs := xT_1 13 (by decide +kernel) rfl
theorem w_97 : (Jvm.Cond.initialized "java/lang/System") ∈ xTs := xT_1 14 (by decide +kernel) rfl
theorem w_98 : (Jvm.Cond.initialized "EditsMeet$Meeting") ∈ xTs := xT_1 15 (by decide +kernel) rfl
theorem w_99 : (Jvm.Cond.initialized "EditsMeet$Revisions") ∈ xTs := xT_1 16 (by decide +kernel) rfl
theorem w_100 : (Jvm.Cond.initialized "EditsMeet$Client") ∈ xTs := xT_1 17 (by decide +kernel) rfl
theorem w_101 : (Jvm.Cond.initialized "EditsMeet$History") ∈ xTs := xT_1 18 (by decide +kernel) rfl
theorem w_102 : (Jvm.Cond.initialized "EditsMeetModel") ∈ xTs := xT_1 19 (by decide +kernel) rfl
theorem w_105 : (Jvm.Cond.initialized "java/util/Objects") ∈ xTs := xT_1 22 (by decide +kernel) rfl
theorem w_106 : (Jvm.Cond.initialized "jdk/internal/util/Preconditions") ∈ xTs := xT_1 23 (by decide +kernel) rfl
theorem w_112 : (Jvm.Cond.methodLink "EditsMeet" (3 : Nat) ({ cls := "java/lang/Object", name := "<init>", desc := "()V" } : Jvm.MethodName)) ∈ xTs := xT_1 29 (by decide +kernel) rfl
theorem w_113 : (Jvm.Cond.instanceMethod ({ cls := "java/lang/Object", name := "<init>", desc := "()V" } : Jvm.MethodName)) ∈ xTs := xT_1 30 (by decide +kernel) rfl
theorem w_114 : (Jvm.Cond.code ({ cls := "java/lang/Object", name := "<init>", desc := "()V" } : Jvm.MethodName) object_method_1_code (1 : Nat) (Option.none : Option Jvm.ClassFile.FieldType)) ∈ xTs := xT_1 31 (by decide +kernel) rfl
theorem w_115 : (Jvm.Cond.classLink "EditsMeet" (9 : Nat) "EditsMeet$Edit") ∈ xTs := xT_1 32 (by decide +kernel) rfl
theorem w_117 : (Jvm.Cond.classLink "EditsMeet" (15 : Nat) "EditsMeet$Shelf") ∈ xTs := xT_1 34 (by decide +kernel) rfl
theorem w_119 : (Jvm.Cond.classLink "EditsMeet" (25 : Nat) "EditsMeet$Letters") ∈ xTs := xT_1 36 (by decide +kernel) rfl
theorem w_120 : (Jvm.Cond.instantiable "EditsMeet$Letters" (15 : Nat)) ∈ xTs := xT_1 37 (by decide +kernel) rfl
theorem w_121 : (Jvm.Cond.methodLink "EditsMeet" (27 : Nat) ({ cls := "EditsMeet$Letters", name := "<init>", desc := "()V" } : Jvm.MethodName)) ∈ xTs := xT_1 38 (by decide +kernel) rfl
theorem w_122 : (Jvm.Cond.instanceMethod ({ cls := "EditsMeet$Letters", name := "<init>", desc := "()V" } : Jvm.MethodName)) ∈ xTs := xT_1 39 (by decide +kernel) rfl
theorem w_123 : (Jvm.Cond.code ({ cls := "EditsMeet$Letters", name := "<init>", desc := "()V" } : Jvm.MethodName) prog_5_method_1_code (2 : Nat) (Option.none : Option Jvm.ClassFile.FieldType)) ∈ xTs := xT_1 40 (by decide +kernel) rfl
theorem w_124 : (Jvm.Cond.methodLink "EditsMeet$Letters" (5 : Nat) ({ cls := "java/lang/Object", name := "<init>", desc := "()V" } : Jvm.MethodName)) ∈ xTs := xT_1 41 (by decide +kernel) rfl
theorem w_125 : (Jvm.Cond.classLink "EditsMeet$Letters" (11 : Nat) "java/util/ArrayList") ∈ xTs := xT_1 42 (by decide +kernel) rfl
theorem w_126 : (Jvm.Cond.instantiable "java/util/ArrayList" (3 : Nat)) ∈ xTs := xT_1 43 (by decide +kernel) rfl
theorem w_127 : (Jvm.Cond.methodLink "EditsMeet$Letters" (13 : Nat) ({ cls := "java/util/ArrayList", name := "<init>", desc := "()V" } : Jvm.MethodName)) ∈ xTs := xT_1 44 (by decide +kernel) rfl
theorem w_128 : (Jvm.Cond.instanceMethod ({ cls := "java/util/ArrayList", name := "<init>", desc := "()V" } : Jvm.MethodName)) ∈ xTs := xT_1 45 (by decide +kernel) rfl
theorem w_129 : (Jvm.Cond.code ({ cls := "java/util/ArrayList", name := "<init>", desc := "()V" } : Jvm.MethodName) prog_23_method_2_code (1 : Nat) (Option.none : Option Jvm.ClassFile.FieldType)) ∈ xTs := xT_1 46 (by decide +kernel) rfl
theorem w_130 : (Jvm.Cond.methodLink "java/util/ArrayList" (1 : Nat) ({ cls := "java/util/AbstractList", name := "<init>", desc := "()V" } : Jvm.MethodName)) ∈ xTs := xT_1 47 (by decide +kernel) rfl
theorem w_131 : (Jvm.Cond.instanceMethod ({ cls := "java/util/AbstractList", name := "<init>", desc := "()V" } : Jvm.MethodName)) ∈ xTs := xT_1 48 (by decide +kernel) rfl
theorem w_132 : (Jvm.Cond.code ({ cls := "java/util/AbstractList", name := "<init>", desc := "()V" } : Jvm.MethodName) prog_22_method_1_code (1 : Nat) (Option.none : Option Jvm.ClassFile.FieldType)) ∈ xTs := xT_1 49 (by decide +kernel) rfl
theorem w_133 : (Jvm.Cond.methodLink "java/util/AbstractList" (1 : Nat) ({ cls := "java/util/AbstractCollection", name := "<init>", desc := "()V" } : Jvm.MethodName)) ∈ xTs := xT_1 50 (by decide +kernel) rfl
theorem w_134 : (Jvm.Cond.instanceMethod ({ cls := "java/util/AbstractCollection", name := "<init>", desc := "()V" } : Jvm.MethodName)) ∈ xTs := xT_1 51 (by decide +kernel) rfl
theorem w_135 : (Jvm.Cond.code ({ cls := "java/util/AbstractCollection", name := "<init>", desc := "()V" } : Jvm.MethodName) prog_21_method_1_code (1 : Nat) (Option.none : Option Jvm.ClassFile.FieldType)) ∈ xTs := xT_1 52 (by decide +kernel) rfl
theorem w_136 : (Jvm.Cond.methodLink "java/util/AbstractCollection" (1 : Nat) ({ cls := "java/lang/Object", name := "<init>", desc := "()V" } : Jvm.MethodName)) ∈ xTs := xT_1 53 (by decide +kernel) rfl
theorem w_137 : (Jvm.Cond.fieldLink "java/util/ArrayList" (39 : Nat) "java/util/ArrayList" "DEFAULTCAPACITY_EMPTY_ELEMENTDATA" "[Ljava/lang/Object;") ∈ xTs := xT_1 54 (by decide +kernel) rfl
theorem w_139 : (Jvm.Cond.fieldLink "java/util/ArrayList" (9 : Nat) "java/util/ArrayList" "elementData" "[Ljava/lang/Object;") ∈ xTs := xT_1 56 (by decide +kernel) rfl
theorem w_140 : (Jvm.Cond.fieldLink "java/util/ArrayList" (48 : Nat) "java/util/ArrayList" "size" "I") ∈ xTs := xT_1 57 (by decide +kernel) rfl
theorem w_141 : (Jvm.Cond.fieldLink "java/util/AbstractList" (7 : Nat) "java/util/AbstractList" "modCount" "I") ∈ xTs := xT_1 58 (by decide +kernel) rfl
theorem w_142 : (Jvm.Cond.fieldLink "java/util/ArrayList" (63 : Nat) "java/util/ArrayList" "modCount" "I") ∈ xTs := xT_1 59 (by decide +kernel) rfl
theorem w_143 : (Jvm.Cond.sameField "java/util/ArrayList" "java/util/AbstractList" "modCount" "I") ∈ xTs := xT_1 60 (by decide +kernel) rfl
theorem w_151 : (Jvm.Cond.arrayClass Jvm.ClassFile.FieldType.int) ∈ xTs := xT_1 68 (by decide +kernel) rfl
theorem w_152 : (Jvm.Cond.constant "EditsMeet$Letters" (50 : Nat) (16777216 : Int32)) ∈ xTs := xT_1 69 (by decide +kernel) rfl
theorem w_153 : (Jvm.Cond.fieldLink "EditsMeet$Letters" (14 : Nat) "EditsMeet$Letters" "holders" "Ljava/util/ArrayList;") ∈ xTs := xT_1 70 (by decide +kernel) rfl
theorem w_154 : (Jvm.Cond.fieldLink "EditsMeet$Letters" (18 : Nat) "EditsMeet$Letters" "path" "[I") ∈ xTs := xT_1 71 (by decide +kernel) rfl
theorem w_155 : (Jvm.Cond.fieldLink "EditsMeet$Letters" (22 : Nat) "EditsMeet$Letters" "trail" "[I") ∈ xTs := xT_1 72 (by decide +kernel) rfl
theorem w_156 : (Jvm.Cond.fieldLink "EditsMeet$Letters" (25 : Nat) "EditsMeet$Letters" "left" "[I") ∈ xTs := xT_1 73 (by decide +kernel) rfl
theorem w_157 : (Jvm.Cond.fieldLink "EditsMeet$Letters" (28 : Nat) "EditsMeet$Letters" "right" "[I") ∈ xTs := xT_1 74 (by decide +kernel) rfl
theorem w_158 : (Jvm.Cond.fieldLink "EditsMeet$Letters" (31 : Nat) "EditsMeet$Letters" "sizes" "[J") ∈ xTs := xT_1 75 (by decide +kernel) rfl
theorem w_159 : (Jvm.Cond.fieldLink "EditsMeet$Letters" (35 : Nat) "EditsMeet$Letters" "heights" "[I") ∈ xTs := xT_1 76 (by decide +kernel) rfl
theorem w_160 : (Jvm.Cond.fieldLink "EditsMeet$Letters" (38 : Nat) "EditsMeet$Letters" "marks" "[I") ∈ xTs := xT_1 77 (by decide +kernel) rfl
theorem w_161 : (Jvm.Cond.fieldLink "EditsMeet$Letters" (41 : Nat) "EditsMeet$Letters" "stamps" "[I") ∈ xTs := xT_1 78 (by decide +kernel) rfl
theorem w_162 : (Jvm.Cond.fieldLink "EditsMeet$Letters" (44 : Nat) "EditsMeet$Letters" "images" "[I") ∈ xTs := xT_1 79 (by decide +kernel) rfl
theorem w_163 : (Jvm.Cond.fieldLink "EditsMeet$Letters" (47 : Nat) "EditsMeet$Letters" "known" "[I") ∈ xTs := xT_1 80 (by decide +kernel) rfl
theorem w_164 : (Jvm.Cond.fieldLink "EditsMeet$Letters" (51 : Nat) "EditsMeet$Letters" "roomLeft" "I") ∈ xTs := xT_1 81 (by decide +kernel) rfl
theorem w_165 : (Jvm.Cond.fieldLink "EditsMeet$Letters" (98 : Nat) "EditsMeet$Letters" "stamp" "I") ∈ xTs := xT_1 82 (by decide +kernel) rfl
theorem w_166 : (Jvm.Cond.fieldLink "EditsMeet$Letters" (55 : Nat) "EditsMeet$Letters" "used" "I") ∈ xTs := xT_1 83 (by decide +kernel) rfl
theorem w_167 : (Jvm.Cond.fieldLink "EditsMeet$Letters" (58 : Nat) "EditsMeet$Letters" "usedTillTidied" "I") ∈ xTs := xT_1 84 (by decide +kernel) rfl
theorem w_199 : (Jvm.Cond.arrayClass Jvm.ClassFile.FieldType.long) ∈ xTs := xT_1 116 (by decide +kernel) rfl
theorem w_200 : (Jvm.Cond.classLink "EditsMeet" (32 : Nat) "EditsMeet$Tape") ∈ xTs := xT_1 117 (by decide +kernel) rfl
theorem w_201 : (Jvm.Cond.instantiable "EditsMeet$Tape" (3 : Nat)) ∈ xTs := xT_1 118 (by decide +kernel) rfl
theorem w_202 : (Jvm.Cond.methodLink "EditsMeet" (34 : Nat) ({ cls := "EditsMeet$Tape", name := "<init>", desc := "(LEditsMeet$Letters;)V" } : Jvm.MethodName)) ∈ xTs := xT_1 119 (by decide +kernel) rfl
theorem w_203 : (Jvm.Cond.instanceMethod ({ cls := "EditsMeet$Tape", name := "<init>", desc := "(LEditsMeet$Letters;)V" } : Jvm.MethodName)) ∈ xTs := xT_1 120 (by decide +kernel) rfl
theorem w_204 : (Jvm.Cond.code ({ cls := "EditsMeet$Tape", name := "<init>", desc := "(LEditsMeet$Letters;)V" } : Jvm.MethodName) prog_11_method_1_code (2 : Nat) (Option.none : Option Jvm.ClassFile.FieldType)) ∈ xTs := xT_1 121 (by decide +kernel) rfl
theorem w_205 : (Jvm.Cond.methodLink "EditsMeet$Tape" (3 : Nat) ({ cls := "java/lang/Object", name := "<init>", desc := "()V" } : Jvm.MethodName)) ∈ xTs := xT_1 122 (by decide +kernel) rfl
theorem w_206 : (Jvm.Cond.classLink "EditsMeet$Tape" (9 : Nat) "EditsMeet$Row") ∈ xTs := xT_1 123 (by decide +kernel) rfl
theorem w_207 : (Jvm.Cond.instantiable "EditsMeet$Row" (3 : Nat)) ∈ xTs := xT_1 124 (by decide +kernel) rfl
theorem w_208 : (Jvm.Cond.methodLink "EditsMeet$Tape" (11 : Nat) ({ cls := "EditsMeet$Row", name := "<init>", desc := "(LEditsMeet$Letters;)V" } : Jvm.MethodName)) ∈ xTs := xT_1 125 (by decide +kernel) rfl
theorem w_209 : (Jvm.Cond.instanceMethod ({ cls := "EditsMeet$Row", name := "<init>", desc := "(LEditsMeet$Letters;)V" } : Jvm.MethodName)) ∈ xTs := xT_1 126 (by decide +kernel) rfl
theorem w_210 : (Jvm.Cond.code ({ cls := "EditsMeet$Row", name := "<init>", desc := "(LEditsMeet$Letters;)V" } : Jvm.MethodName) prog_9_method_1_code (2 : Nat) (Option.none : Option Jvm.ClassFile.FieldType)) ∈ xTs := xT_1 127 (by decide +kernel) rfl
theorem w_211 : (Jvm.Cond.methodLink "EditsMeet$Row" (1 : Nat) ({ cls := "java/lang/Object", name := "<init>", desc := "()V" } : Jvm.MethodName)) ∈ xTs := xT_1 128 (by decide +kernel) rfl
theorem w_212 : (Jvm.Cond.fieldLink "EditsMeet$Row" (13 : Nat) "EditsMeet$Row" "letters" "LEditsMeet$Letters;") ∈ xTs := xT_1 129 (by decide +kernel) rfl
theorem w_213 : (Jvm.Cond.fieldLink "EditsMeet$Row" (7 : Nat) "EditsMeet$Row" "cells" "[J") ∈ xTs := xT_1 130 (by decide +kernel) rfl
theorem w_214 : (Jvm.Cond.fieldLink "EditsMeet$Row" (17 : Nat) "EditsMeet$Row" "size" "I") ∈ xTs := xT_1 131 (by decide +kernel) rfl
theorem w_225 : (Jvm.Cond.fieldLink "EditsMeet$Tape" (14 : Nat) "EditsMeet$Tape" "bytes" "LEditsMeet$Row;") ∈ xTs := xT_1 142 (by decide +kernel) rfl
theorem w_236 : (Jvm.Cond.classLink "EditsMeet" (41 : Nat) "EditsMeet$Row") ∈ xTs := xT_1 153 (by decide +kernel) rfl
theorem w_237 : (Jvm.Cond.methodLink "EditsMeet" (43 : Nat) ({ cls := "EditsMeet$Row", name := "<init>", desc := "(LEditsMeet$Letters;)V" } : Jvm.MethodName)) ∈ xTs := xT_1 154 (by decide +kernel) rfl
theorem w_238 : (Jvm.Cond.classLink "EditsMeet" (48 : Nat) "EditsMeet$Loom") ∈ xTs := xT_1 155 (by decide +kernel) rfl
theorem w_239 : (Jvm.Cond.instantiable "EditsMeet$Loom" (7 : Nat)) ∈ xTs := xT_1 156 (by decide +kernel) rfl
theorem w_240 : (Jvm.Cond.methodLink "EditsMeet" (50 : Nat) ({ cls := "EditsMeet$Loom", name := "<init>", desc := "(LEditsMeet$Letters;)V" } : Jvm.MethodName)) ∈ xTs := xT_1 157 (by decide +kernel) rfl
theorem w_241 : (Jvm.Cond.instanceMethod ({ cls := "EditsMeet$Loom", name := "<init>", desc := "(LEditsMeet$Letters;)V" } : Jvm.MethodName)) ∈ xTs := xT_1 158 (by decide +kernel) rfl
theorem w_242 : (Jvm.Cond.code ({ cls := "EditsMeet$Loom", name := "<init>", desc := "(LEditsMeet$Letters;)V" } : Jvm.MethodName) prog_6_method_1_code (2 : Nat) (Option.none : Option Jvm.ClassFile.FieldType)) ∈ xTs := xT_1 159 (by decide +kernel) rfl
theorem w_243 : (Jvm.Cond.methodLink "EditsMeet$Loom" (3 : Nat) ({ cls := "java/lang/Object", name := "<init>", desc := "()V" } : Jvm.MethodName)) ∈ xTs := xT_1 160 (by decide +kernel) rfl
theorem w_244 : (Jvm.Cond.classLink "EditsMeet$Loom" (9 : Nat) "EditsMeet$Walk") ∈ xTs := xT_1 161 (by decide +kernel) rfl
theorem w_245 : (Jvm.Cond.instantiable "EditsMeet$Walk" (7 : Nat)) ∈ xTs := xT_1 162 (by decide +kernel) rfl
theorem w_247 : (Jvm.Cond.instanceMethod ({ cls := "EditsMeet$Walk", name := "<init>", desc := "()V" } : Jvm.MethodName)) ∈ xTs := xT_1 164 (by decide +kernel) rfl
theorem w_248 : (Jvm.Cond.code ({ cls := "EditsMeet$Walk", name := "<init>", desc := "()V" } : Jvm.MethodName) prog_12_method_1_code (1 : Nat) (Option.none : Option Jvm.ClassFile.FieldType)) ∈ xTs := xT_1 165 (by decide +kernel) rfl
theorem w_249 : (Jvm.Cond.methodLink "EditsMeet$Walk" (3 : Nat) ({ cls := "java/lang/Object", name := "<init>", desc := "()V" } : Jvm.MethodName)) ∈ xTs := xT_1 166 (by decide +kernel) rfl
theorem w_250 : (Jvm.Cond.fieldLink "EditsMeet$Walk" (9 : Nat) "EditsMeet$Walk" "edit" "LEditsMeet$Edit;") ∈ xTs := xT_1 167 (by decide +kernel) rfl
theorem w_251 : (Jvm.Cond.fieldLink "EditsMeet$Walk" (15 : Nat) "EditsMeet$Walk" "i" "I") ∈ xTs := xT_1 168 (by decide +kernel) rfl
theorem w_253 : (Jvm.Cond.fieldLink "EditsMeet$Walk" (47 : Nat) "EditsMeet$Walk" "kind" "I") ∈ xTs := xT_1 170 (by decide +kernel) rfl
theorem w_255 : (Jvm.Cond.fieldLink "EditsMeet$Walk" (22 : Nat) "EditsMeet$Walk" "done" "J") ∈ xTs := xT_1 172 (by decide +kernel) rfl
theorem w_257 : (Jvm.Cond.fieldLink "EditsMeet$Walk" (26 : Nat) "EditsMeet$Walk" "left" "J") ∈ xTs := xT_1 174 (by decide +kernel) rfl
theorem w_259 : (Jvm.Cond.fieldLink "EditsMeet$Walk" (57 : Nat) "EditsMeet$Walk" "on" "I") ∈ xTs := xT_1 176 (by decide +kernel) rfl
theorem w_261 : (Jvm.Cond.fieldLink "EditsMeet$Walk" (60 : Nat) "EditsMeet$Walk" "off" "I") ∈ xTs := xT_1 178 (by decide +kernel) rfl
theorem w_277 : (Jvm.Cond.methodLink "EditsMeet$Loom" (25 : Nat) ({ cls := "EditsMeet$Letters", name := "newEdit", desc := "()LEditsMeet$Edit;" } : Jvm.MethodName)) ∈ xTs := xT_1 194 (by decide +kernel) rfl
theorem w_278 : (Jvm.Cond.instanceMethod ({ cls := "EditsMeet$Letters", name := "newEdit", desc := "()LEditsMeet$Edit;" } : Jvm.MethodName)) ∈ xTs := xT_1 195 (by decide +kernel) rfl
theorem w_279 : (Jvm.Cond.selects "EditsMeet$Letters" ({ cls := "EditsMeet$Letters", name := "newEdit", desc := "()LEditsMeet$Edit;" } : Jvm.MethodName) ({ cls := "EditsMeet$Letters", name := "newEdit", desc := "()LEditsMeet$Edit;" } : Jvm.MethodName)) ∈ xTs := xT_1 196 (by decide +kernel) rfl
theorem w_280 : (Jvm.Cond.code ({ cls := "EditsMeet$Letters", name := "newEdit", desc := "()LEditsMeet$Edit;" } : Jvm.MethodName) prog_5_method_2_code (2 : Nat) (Option.some (Jvm.ClassFile.FieldType.object "EditsMeet$Edit"))) ∈ xTs := xT_1 197 (by decide +kernel) rfl
theorem w_281 : (Jvm.Cond.classLink "EditsMeet$Letters" (61 : Nat) "EditsMeet$Edit") ∈ xTs := xT_1 198 (by decide +kernel) rfl
theorem w_282 : (Jvm.Cond.instantiable "EditsMeet$Edit" (5 : Nat)) ∈ xTs := xT_1 199 (by decide +kernel) rfl
theorem w_283 : (Jvm.Cond.methodLink "EditsMeet$Letters" (63 : Nat) ({ cls := "EditsMeet$Edit", name := "<init>", desc := "(LEditsMeet$Letters;)V" } : Jvm.MethodName)) ∈ xTs := xT_1 200 (by decide +kernel) rfl
theorem w_284 : (Jvm.Cond.instanceMethod ({ cls := "EditsMeet$Edit", name := "<init>", desc := "(LEditsMeet$Letters;)V" } : Jvm.MethodName)) ∈ xTs := xT_1 201 (by decide +kernel) rfl
theorem w_285 : (Jvm.Cond.code ({ cls := "EditsMeet$Edit", name := "<init>", desc := "(LEditsMeet$Letters;)V" } : Jvm.MethodName) prog_3_method_1_code (2 : Nat) (Option.none : Option Jvm.ClassFile.FieldType)) ∈ xTs := xT_1 202 (by decide +kernel) rfl
theorem w_286 : (Jvm.Cond.methodLink "EditsMeet$Edit" (3 : Nat) ({ cls := "java/lang/Object", name := "<init>", desc := "()V" } : Jvm.MethodName)) ∈ xTs := xT_1 203 (by decide +kernel) rfl
theorem w_287 : (Jvm.Cond.classLink "EditsMeet$Edit" (15 : Nat) "EditsMeet$Row") ∈ xTs := xT_1 204 (by decide +kernel) rfl
theorem w_288 : (Jvm.Cond.methodLink "EditsMeet$Edit" (17 : Nat) ({ cls := "EditsMeet$Row", name := "<init>", desc := "(LEditsMeet$Letters;)V" } : Jvm.MethodName)) ∈ xTs := xT_1 205 (by decide +kernel) rfl
theorem w_289 : (Jvm.Cond.fieldLink "EditsMeet$Edit" (9 : Nat) "EditsMeet$Edit" "letters" "LEditsMeet$Letters;") ∈ xTs := xT_1 206 (by decide +kernel) rfl
theorem w_291 : (Jvm.Cond.fieldLink "EditsMeet$Edit" (20 : Nat) "EditsMeet$Edit" "parts" "LEditsMeet$Row;") ∈ xTs := xT_1 208 (by decide +kernel) rfl
theorem w_293 : (Jvm.Cond.fieldLink "EditsMeet$Edit" (27 : Nat) "EditsMeet$Edit" "hasInserts" "Z") ∈ xTs := xT_1 210 (by decide +kernel) rfl
theorem w_295 : (Jvm.Cond.fieldLink "EditsMeet$Edit" (31 : Nat) "EditsMeet$Edit" "from" "J") ∈ xTs := xT_1 212 (by decide +kernel) rfl
theorem w_297 : (Jvm.Cond.fieldLink "EditsMeet$Edit" (35 : Nat) "EditsMeet$Edit" "to" "J") ∈ xTs := xT_1 214 (by decide +kernel) rfl
theorem w_312 : (Jvm.Cond.methodLink "EditsMeet$Letters" (66 : Nat) ({ cls := "java/util/ArrayList", name := "add", desc := "(Ljava/lang/Object;)Z" } : Jvm.MethodName)) ∈ xTs := xT_1 229 (by decide +kernel) rfl
theorem w_313 : (Jvm.Cond.instanceMethod ({ cls := "java/util/ArrayList", name := "add", desc := "(Ljava/lang/Object;)Z" } : Jvm.MethodName)) ∈ xTs := xT_1 230 (by decide +kernel) rfl
theorem w_314 : (Jvm.Cond.selects "java/util/ArrayList" ({ cls := "java/util/ArrayList", name := "add", desc := "(Ljava/lang/Object;)Z" } : Jvm.MethodName) ({ cls := "java/util/ArrayList", name := "add", desc := "(Ljava/lang/Object;)Z" } : Jvm.MethodName)) ∈ xTs := xT_1 231 (by decide +kernel) rfl
theorem w_315 : (Jvm.Cond.code ({ cls := "java/util/ArrayList", name := "add", desc := "(Ljava/lang/Object;)Z" } : Jvm.MethodName) prog_23_method_25_code (2 : Nat) (Option.some Jvm.ClassFile.FieldType.boolean)) ∈ xTs := xT_1 232 (by decide +kernel) rfl
theorem w_316 : (Jvm.Cond.methodLink "java/util/ArrayList" (131 : Nat) ({ cls := "java/util/ArrayList", name := "add", desc := "(Ljava/lang/Object;[Ljava/lang/Object;I)V" } : Jvm.MethodName)) ∈ xTs := xT_1 233 (by decide +kernel) rfl
theorem w_318 : (Jvm.Cond.instanceMethod ({ cls := "java/util/ArrayList", name := "add", desc := "(Ljava/lang/Object;[Ljava/lang/Object;I)V" } : Jvm.MethodName)) ∈ xTs := xT_1 235 (by decide +kernel) rfl
theorem w_319 : (Jvm.Cond.code ({ cls := "java/util/ArrayList", name := "add", desc := "(Ljava/lang/Object;[Ljava/lang/Object;I)V" } : Jvm.MethodName) prog_23_method_24_code (4 : Nat) (Option.none : Option Jvm.ClassFile.FieldType)) ∈ xTs := xT_1 236 (by decide +kernel) rfl
theorem w_320 : (Jvm.Cond.methodLink "java/util/ArrayList" (129 : Nat) ({ cls := "java/util/ArrayList", name := "grow", desc := "()[Ljava/lang/Object;" } : Jvm.MethodName)) ∈ xTs := xT_1 237 (by decide +kernel) rfl
theorem w_322 : (Jvm.Cond.instanceMethod ({ cls := "java/util/ArrayList", name := "grow", desc := "()[Ljava/lang/Object;" } : Jvm.MethodName)) ∈ xTs := xT_1 239 (by decide +kernel) rfl
theorem w_323 : (Jvm.Cond.code ({ cls := "java/util/ArrayList", name := "grow", desc := "()[Ljava/lang/Object;" } : Jvm.MethodName) prog_23_method_7_code (1 : Nat) (Option.some (Jvm.ClassFile.FieldType.array (Jvm.ClassFile.FieldType.object "java/lang/Object")))) ∈ xTs := xT_2 0 (by decide +kernel) rfl
theorem w_324 : (Jvm.Cond.methodLink "java/util/ArrayList" (69 : Nat) ({ cls := "java/util/ArrayList", name := "grow", desc := "(I)[Ljava/lang/Object;" } : Jvm.MethodName)) ∈ xTs := xT_2 1 (by decide +kernel) rfl
theorem w_326 : (Jvm.Cond.instanceMethod ({ cls := "java/util/ArrayList", name := "grow", desc := "(I)[Ljava/lang/Object;" } : Jvm.MethodName)) ∈ xTs := xT_2 3 (by decide +kernel) rfl
theorem w_327 : (Jvm.Cond.code ({ cls := "java/util/ArrayList", name := "grow", desc := "(I)[Ljava/lang/Object;" } : Jvm.MethodName) prog_23_method_6_code (4 : Nat) (Option.some (Jvm.ClassFile.FieldType.array (Jvm.ClassFile.FieldType.object "java/lang/Object")))) ∈ xTs := xT_2 4 (by decide +kernel) rfl
theorem w_328 : (Jvm.Cond.methodLink "java/util/ArrayList" (73 : Nat) ({ cls := "jdk/internal/util/ArraysSupport", name := "newLength", desc := "(III)I" } : Jvm.MethodName)) ∈ xTs := xT_2 5 (by decide +kernel) rfl
theorem w_329 : (Jvm.Cond.static ({ cls := "jdk/internal/util/ArraysSupport", name := "newLength", desc := "(III)I" } : Jvm.MethodName)) ∈ xTs := xT_2 6 (by decide +kernel) rfl
theorem w_330 : (Jvm.Cond.code ({ cls := "jdk/internal/util/ArraysSupport", name := "newLength", desc := "(III)I" } : Jvm.MethodName) prog_30_method_27_code (4 : Nat) (Option.some Jvm.ClassFile.FieldType.int)) ∈ xTs := xT_2 7 (by decide +kernel) rfl
theorem w_331 : (Jvm.Cond.methodLink "jdk/internal/util/ArraysSupport" (194 : Nat) ({ cls := "java/lang/Math", name := "max", desc := "(II)I" } : Jvm.MethodName)) ∈ xTs := xT_2 8 (by decide +kernel) rfl
theorem w_332 : (Jvm.Cond.static ({ cls := "java/lang/Math", name := "max", desc := "(II)I" } : Jvm.MethodName)) ∈ xTs := xT_2 9 (by decide +kernel) rfl
theorem w_333 : (Jvm.Cond.code ({ cls := "java/lang/Math", name := "max", desc := "(II)I" } : Jvm.MethodName) prog_19_method_65_code (2 : Nat) (Option.some Jvm.ClassFile.FieldType.int)) ∈ xTs := xT_2 10 (by decide +kernel) rfl
theorem w_334 : (Jvm.Cond.constant "jdk/internal/util/ArraysSupport" (200 : Nat) (2147483639 : Int32)) ∈ xTs := xT_2 11 (by decide +kernel) rfl
theorem w_335 : (Jvm.Cond.methodLink "jdk/internal/util/ArraysSupport" (201 : Nat) ({ cls := "jdk/internal/util/ArraysSupport", name := "hugeLength", desc := "(II)I" } : Jvm.MethodName)) ∈ xTs := xT_2 12 (by decide +kernel) rfl
theorem w_336 : (Jvm.Cond.static ({ cls := "jdk/internal/util/ArraysSupport", name := "hugeLength", desc := "(II)I" } : Jvm.MethodName)) ∈ xTs := xT_2 13 (by decide +kernel) rfl
theorem w_337 : (Jvm.Cond.code ({ cls := "jdk/internal/util/ArraysSupport", name := "hugeLength", desc := "(II)I" } : Jvm.MethodName) prog_30_method_28_code (3 : Nat) (Option.some Jvm.ClassFile.FieldType.int)) ∈ xTs := xT_2 14 (by decide +kernel) rfl
theorem w_338 : (Jvm.Cond.methodLink "java/util/ArrayList" (66 : Nat) ({ cls := "java/util/Arrays", name := "copyOf", desc := "([Ljava/lang/Object;I)[Ljava/lang/Object;" } : Jvm.MethodName)) ∈ xTs := xT_2 15 (by decide +kernel) rfl
theorem w_339 : (Jvm.Cond.static ({ cls := "java/util/Arrays", name := "copyOf", desc := "([Ljava/lang/Object;I)[Ljava/lang/Object;" } : Jvm.MethodName)) ∈ xTs := xT_2 16 (by decide +kernel) rfl
theorem w_340 : (Jvm.Cond.code ({ cls := "java/util/Arrays", name := "copyOf", desc := "([Ljava/lang/Object;I)[Ljava/lang/Object;" } : Jvm.MethodName) prog_24_method_119_code (2 : Nat) (Option.some (Jvm.ClassFile.FieldType.array (Jvm.ClassFile.FieldType.object "java/lang/Object")))) ∈ xTs := xT_2 17 (by decide +kernel) rfl
theorem w_341 : (Jvm.Cond.methodLink "java/util/Arrays" (86 : Nat) ({ cls := "java/lang/Object", name := "getClass", desc := "()Ljava/lang/Class;" } : Jvm.MethodName)) ∈ xTs := xT_2 18 (by decide +kernel) rfl
theorem w_342 : (Jvm.Cond.instanceMethod ({ cls := "java/lang/Object", name := "getClass", desc := "()Ljava/lang/Class;" } : Jvm.MethodName)) ∈ xTs := xT_2 19 (by decide +kernel) rfl
theorem w_358 : (Jvm.Cond.native ({ cls := "java/lang/Object", name := "getClass", desc := "()Ljava/lang/Class;" } : Jvm.MethodName)) ∈ xTs := xT_2 35 (by decide +kernel) rfl
theorem w_359 : (Jvm.Cond.methodLink "java/util/Arrays" (300 : Nat) ({ cls := "java/util/Arrays", name := "copyOf", desc := "([Ljava/lang/Object;ILjava/lang/Class;)[Ljava/lang/Object;" } : Jvm.MethodName)) ∈ xTs := xT_2 36 (by decide +kernel) rfl
theorem w_360 : (Jvm.Cond.static ({ cls := "java/util/Arrays", name := "copyOf", desc := "([Ljava/lang/Object;ILjava/lang/Class;)[Ljava/lang/Object;" } : Jvm.MethodName)) ∈ xTs := xT_2 37 (by decide +kernel) rfl
theorem w_361 : (Jvm.Cond.code ({ cls := "java/util/Arrays", name := "copyOf", desc := "([Ljava/lang/Object;ILjava/lang/Class;)[Ljava/lang/Object;" } : Jvm.MethodName) prog_24_method_120_code (4 : Nat) (Option.some (Jvm.ClassFile.FieldType.array (Jvm.ClassFile.FieldType.object "java/lang/Object")))) ∈ xTs := xT_2 38 (by decide +kernel) rfl
theorem w_362 : (Jvm.Cond.classLink "java/util/Arrays" (110 : Nat) "[Ljava/lang/Object;") ∈ xTs := xT_2 39 (by decide +kernel) rfl
theorem w_364 : (Jvm.Cond.classLink "java/util/Arrays" (2 : Nat) "java/lang/Object") ∈ xTs := xT_2 41 (by decide +kernel) rfl
theorem w_365 : (Jvm.Cond.methodLink "java/util/Arrays" (304 : Nat) ({ cls := "java/lang/Math", name := "min", desc := "(II)I" } : Jvm.MethodName)) ∈ xTs := xT_2 42 (by decide +kernel) rfl
theorem w_366 : (Jvm.Cond.static ({ cls := "java/lang/Math", name := "min", desc := "(II)I" } : Jvm.MethodName)) ∈ xTs := xT_2 43 (by decide +kernel) rfl
theorem w_367 : (Jvm.Cond.code ({ cls := "java/lang/Math", name := "min", desc := "(II)I" } : Jvm.MethodName) prog_19_method_69_code (2 : Nat) (Option.some Jvm.ClassFile.FieldType.int)) ∈ xTs := xT_2 44 (by decide +kernel) rfl
theorem w_368 : (Jvm.Cond.methodLink "java/util/Arrays" (150 : Nat) ({ cls := "java/lang/System", name := "arraycopy", desc := "(Ljava/lang/Object;ILjava/lang/Object;II)V" } : Jvm.MethodName)) ∈ xTs := xT_2 45 (by decide +kernel) rfl
theorem w_369 : (Jvm.Cond.static ({ cls := "java/lang/System", name := "arraycopy", desc := "(Ljava/lang/Object;ILjava/lang/Object;II)V" } : Jvm.MethodName)) ∈ xTs := xT_2 46 (by decide +kernel) rfl
theorem w_370 : (Jvm.Cond.native ({ cls := "java/lang/System", name := "arraycopy", desc := "(Ljava/lang/Object;ILjava/lang/Object;II)V" } : Jvm.MethodName)) ∈ xTs := xT_2 47 (by decide +kernel) rfl
theorem w_371 : (Jvm.Cond.methodLink "java/util/ArrayList" (79 : Nat) ({ cls := "java/lang/Math", name := "max", desc := "(II)I" } : Jvm.MethodName)) ∈ xTs := xT_2 48 (by decide +kernel) rfl
theorem w_372 : (Jvm.Cond.classLink "java/util/ArrayList" (7 : Nat) "java/lang/Object") ∈ xTs := xT_2 49 (by decide +kernel) rfl
theorem w_373 : (Jvm.Cond.fieldLink "EditsMeet$Loom" (21 : Nat) "EditsMeet$Loom" "letters" "LEditsMeet$Letters;") ∈ xTs := xT_2 50 (by decide +kernel) rfl
theorem w_374 : (Jvm.Cond.fieldLink "EditsMeet$Loom" (12 : Nat) "EditsMeet$Loom" "one" "LEditsMeet$Walk;") ∈ xTs := xT_2 51 (by decide +kernel) rfl
theorem w_375 : (Jvm.Cond.fieldLink "EditsMeet$Loom" (18 : Nat) "EditsMeet$Loom" "two" "LEditsMeet$Walk;") ∈ xTs := xT_2 52 (by decide +kernel) rfl
theorem w_376 : (Jvm.Cond.fieldLink "EditsMeet$Loom" (31 : Nat) "EditsMeet$Loom" "woven" "LEditsMeet$Edit;") ∈ xTs := xT_2 53 (by decide +kernel) rfl
theorem w_379 : (Jvm.Cond.fieldLink "EditsMeet$Loom" (35 : Nat) "EditsMeet$Loom" "other" "LEditsMeet$Edit;") ∈ xTs := xT_2 56 (by decide +kernel) rfl
theorem w_380 : (Jvm.Cond.fieldLink "EditsMeet$Loom" (38 : Nat) "EditsMeet$Loom" "coming" "LEditsMeet$Edit;") ∈ xTs := xT_2 57 (by decide +kernel) rfl
theorem w_382 : (Jvm.Cond.fieldLink "EditsMeet$Loom" (41 : Nat) "EditsMeet$Loom" "came" "LEditsMeet$Edit;") ∈ xTs := xT_2 59 (by decide +kernel) rfl
theorem w_399 : (Jvm.Cond.methodLink "EditsMeet" (55 : Nat) ({ cls := "EditsMeet$Letters", name := "newEdit", desc := "()LEditsMeet$Edit;" } : Jvm.MethodName)) ∈ xTs := xT_2 76 (by decide +kernel) rfl
theorem w_400 : (Jvm.Cond.classLink "EditsMeet" (63 : Nat) "EditsMeet$Meeting") ∈ xTs := xT_2 77 (by decide +kernel) rfl
theorem w_401 : (Jvm.Cond.instantiable "EditsMeet$Meeting" (6 : Nat)) ∈ xTs := xT_2 78 (by decide +kernel) rfl
theorem w_402 : (Jvm.Cond.classLink "EditsMeet" (65 : Nat) "EditsMeet$Revisions") ∈ xTs := xT_2 79 (by decide +kernel) rfl
theorem w_403 : (Jvm.Cond.instantiable "EditsMeet$Revisions" (3 : Nat)) ∈ xTs := xT_2 80 (by decide +kernel) rfl
theorem w_404 : (Jvm.Cond.methodLink "EditsMeet" (67 : Nat) ({ cls := "EditsMeet$Revisions", name := "<init>", desc := "(LEditsMeet$Letters;)V" } : Jvm.MethodName)) ∈ xTs := xT_2 81 (by decide +kernel) rfl
theorem w_405 : (Jvm.Cond.instanceMethod ({ cls := "EditsMeet$Revisions", name := "<init>", desc := "(LEditsMeet$Letters;)V" } : Jvm.MethodName)) ∈ xTs := xT_2 82 (by decide +kernel) rfl
theorem w_406 : (Jvm.Cond.code ({ cls := "EditsMeet$Revisions", name := "<init>", desc := "(LEditsMeet$Letters;)V" } : Jvm.MethodName) prog_8_method_1_code (2 : Nat) (Option.none : Option Jvm.ClassFile.FieldType)) ∈ xTs := xT_2 83 (by decide +kernel) rfl
theorem w_407 : (Jvm.Cond.methodLink "EditsMeet$Revisions" (3 : Nat) ({ cls := "java/lang/Object", name := "<init>", desc := "()V" } : Jvm.MethodName)) ∈ xTs := xT_2 84 (by decide +kernel) rfl
theorem w_408 : (Jvm.Cond.classLink "EditsMeet$Revisions" (9 : Nat) "EditsMeet$Edit") ∈ xTs := xT_2 85 (by decide +kernel) rfl
theorem w_409 : (Jvm.Cond.fieldLink "EditsMeet$Revisions" (11 : Nat) "EditsMeet$Revisions" "edits" "[LEditsMeet$Edit;") ∈ xTs := xT_2 86 (by decide +kernel) rfl
theorem w_410 : (Jvm.Cond.fieldLink "EditsMeet$Revisions" (17 : Nat) "EditsMeet$Revisions" "clients" "[I") ∈ xTs := xT_2 87 (by decide +kernel) rfl
theorem w_411 : (Jvm.Cond.fieldLink "EditsMeet$Revisions" (21 : Nat) "EditsMeet$Revisions" "letters" "LEditsMeet$Letters;") ∈ xTs := xT_2 88 (by decide +kernel) rfl
theorem w_419 : (Jvm.Cond.methodLink "EditsMeet" (68 : Nat) ({ cls := "EditsMeet$Meeting", name := "<init>", desc := "(LEditsMeet$Letters;LEditsMeet$Revisions;)V" } : Jvm.MethodName)) ∈ xTs := xT_2 96 (by decide +kernel) rfl
theorem w_420 : (Jvm.Cond.instanceMethod ({ cls := "EditsMeet$Meeting", name := "<init>", desc := "(LEditsMeet$Letters;LEditsMeet$Revisions;)V" } : Jvm.MethodName)) ∈ xTs := xT_2 97 (by decide +kernel) rfl
theorem w_421 : (Jvm.Cond.code ({ cls := "EditsMeet$Meeting", name := "<init>", desc := "(LEditsMeet$Letters;LEditsMeet$Revisions;)V" } : Jvm.MethodName) prog_7_method_1_code (4 : Nat) (Option.none : Option Jvm.ClassFile.FieldType)) ∈ xTs := xT_2 98 (by decide +kernel) rfl
theorem w_422 : (Jvm.Cond.methodLink "EditsMeet$Meeting" (3 : Nat) ({ cls := "java/lang/Object", name := "<init>", desc := "()V" } : Jvm.MethodName)) ∈ xTs := xT_2 99 (by decide +kernel) rfl
theorem w_423 : (Jvm.Cond.classLink "EditsMeet$Meeting" (9 : Nat) "EditsMeet$Client") ∈ xTs := xT_2 100 (by decide +kernel) rfl
theorem w_425 : (Jvm.Cond.methodLink "EditsMeet$Meeting" (29 : Nat) ({ cls := "EditsMeet$Letters", name := "newEdit", desc := "()LEditsMeet$Edit;" } : Jvm.MethodName)) ∈ xTs := xT_2 102 (by decide +kernel) rfl
theorem w_426 : (Jvm.Cond.instantiable "EditsMeet$Client" (12 : Nat)) ∈ xTs := xT_2 103 (by decide +kernel) rfl
theorem w_427 : (Jvm.Cond.methodLink "EditsMeet$Meeting" (39 : Nat) ({ cls := "EditsMeet$Client", name := "<init>", desc := "(ILEditsMeet$Letters;)V" } : Jvm.MethodName)) ∈ xTs := xT_2 104 (by decide +kernel) rfl
theorem w_428 : (Jvm.Cond.instanceMethod ({ cls := "EditsMeet$Client", name := "<init>", desc := "(ILEditsMeet$Letters;)V" } : Jvm.MethodName)) ∈ xTs := xT_2 105 (by decide +kernel) rfl
theorem w_429 : (Jvm.Cond.code ({ cls := "EditsMeet$Client", name := "<init>", desc := "(ILEditsMeet$Letters;)V" } : Jvm.MethodName) prog_2_method_1_code (3 : Nat) (Option.none : Option Jvm.ClassFile.FieldType)) ∈ xTs := xT_2 106 (by decide +kernel) rfl
theorem w_430 : (Jvm.Cond.methodLink "EditsMeet$Client" (3 : Nat) ({ cls := "java/lang/Object", name := "<init>", desc := "()V" } : Jvm.MethodName)) ∈ xTs := xT_2 107 (by decide +kernel) rfl
theorem w_431 : (Jvm.Cond.methodLink "EditsMeet$Client" (15 : Nat) ({ cls := "EditsMeet$Letters", name := "newEdit", desc := "()LEditsMeet$Edit;" } : Jvm.MethodName)) ∈ xTs := xT_2 108 (by decide +kernel) rfl
theorem w_432 : (Jvm.Cond.classLink "EditsMeet$Client" (31 : Nat) "EditsMeet$History") ∈ xTs := xT_2 109 (by decide +kernel) rfl
theorem w_433 : (Jvm.Cond.instantiable "EditsMeet$History" (3 : Nat)) ∈ xTs := xT_2 110 (by decide +kernel) rfl
theorem w_434 : (Jvm.Cond.methodLink "EditsMeet$Client" (33 : Nat) ({ cls := "EditsMeet$History", name := "<init>", desc := "(LEditsMeet$Letters;)V" } : Jvm.MethodName)) ∈ xTs := xT_2 111 (by decide +kernel) rfl
theorem w_435 : (Jvm.Cond.instanceMethod ({ cls := "EditsMeet$History", name := "<init>", desc := "(LEditsMeet$Letters;)V" } : Jvm.MethodName)) ∈ xTs := xT_2 112 (by decide +kernel) rfl
theorem w_436 : (Jvm.Cond.code ({ cls := "EditsMeet$History", name := "<init>", desc := "(LEditsMeet$Letters;)V" } : Jvm.MethodName) prog_4_method_1_code (2 : Nat) (Option.none : Option Jvm.ClassFile.FieldType)) ∈ xTs := xT_2 113 (by decide +kernel) rfl
theorem w_437 : (Jvm.Cond.methodLink "EditsMeet$History" (3 : Nat) ({ cls := "java/lang/Object", name := "<init>", desc := "()V" } : Jvm.MethodName)) ∈ xTs := xT_2 114 (by decide +kernel) rfl
theorem w_438 : (Jvm.Cond.classLink "EditsMeet$History" (9 : Nat) "EditsMeet$Edit") ∈ xTs := xT_2 115 (by decide +kernel) rfl
theorem w_439 : (Jvm.Cond.fieldLink "EditsMeet$History" (11 : Nat) "EditsMeet$History" "kept" "[LEditsMeet$Edit;") ∈ xTs := xT_2 116 (by decide +kernel) rfl
theorem w_440 : (Jvm.Cond.fieldLink "EditsMeet$History" (17 : Nat) "EditsMeet$History" "letters" "LEditsMeet$Letters;") ∈ xTs := xT_2 117 (by decide +kernel) rfl
theorem w_441 : (Jvm.Cond.fieldLink "EditsMeet$History" (21 : Nat) "EditsMeet$History" "count" "I") ∈ xTs := xT_2 118 (by decide +kernel) rfl
theorem w_451 : (Jvm.Cond.fieldLink "EditsMeet$Client" (9 : Nat) "EditsMeet$Client" "number" "I") ∈ xTs := xT_2 128 (by decide +kernel) rfl
theorem w_452 : (Jvm.Cond.fieldLink "EditsMeet$Client" (21 : Nat) "EditsMeet$Client" "text" "LEditsMeet$Edit;") ∈ xTs := xT_2 129 (by decide +kernel) rfl
theorem w_455 : (Jvm.Cond.fieldLink "EditsMeet$Client" (25 : Nat) "EditsMeet$Client" "sent" "LEditsMeet$Edit;") ∈ xTs := xT_2 132 (by decide +kernel) rfl
theorem w_458 : (Jvm.Cond.fieldLink "EditsMeet$Client" (28 : Nat) "EditsMeet$Client" "waiting" "LEditsMeet$Edit;") ∈ xTs := xT_2 135 (by decide +kernel) rfl
theorem w_460 : (Jvm.Cond.fieldLink "EditsMeet$Client" (36 : Nat) "EditsMeet$Client" "undos" "LEditsMeet$History;") ∈ xTs := xT_2 137 (by decide +kernel) rfl
theorem w_462 : (Jvm.Cond.fieldLink "EditsMeet$Client" (40 : Nat) "EditsMeet$Client" "redos" "LEditsMeet$History;") ∈ xTs := xT_2 139 (by decide +kernel) rfl
theorem w_464 : (Jvm.Cond.fieldLink "EditsMeet$Client" (43 : Nat) "EditsMeet$Client" "hasSent" "Z") ∈ xTs := xT_2 141 (by decide +kernel) rfl
theorem w_467 : (Jvm.Cond.fieldLink "EditsMeet$Client" (47 : Nat) "EditsMeet$Client" "isServed" "Z") ∈ xTs := xT_2 144 (by decide +kernel) rfl
theorem w_470 : (Jvm.Cond.fieldLink "EditsMeet$Client" (58 : Nat) "EditsMeet$Client" "hasWaiting" "Z") ∈ xTs := xT_2 147 (by decide +kernel) rfl
theorem w_473 : (Jvm.Cond.fieldLink "EditsMeet$Client" (110 : Nat) "EditsMeet$Client" "revision" "I") ∈ xTs := xT_2 150 (by decide +kernel) rfl
theorem w_475 : (Jvm.Cond.fieldLink "EditsMeet$Client" (97 : Nat) "EditsMeet$Client" "place" "J") ∈ xTs := xT_2 152 (by decide +kernel) rfl
theorem w_477 : (Jvm.Cond.fieldLink "EditsMeet$Client" (104 : Nat) "EditsMeet$Client" "otherPlace" "J") ∈ xTs := xT_2 154 (by decide +kernel) rfl
theorem w_504 : (Jvm.Cond.fieldLink "EditsMeet$Meeting" (25 : Nat) "EditsMeet$Meeting" "revisions" "LEditsMeet$Revisions;") ∈ xTs := xT_2 181 (by decide +kernel) rfl
theorem w_506 : (Jvm.Cond.fieldLink "EditsMeet$Meeting" (11 : Nat) "EditsMeet$Meeting" "clients" "[LEditsMeet$Client;") ∈ xTs := xT_2 183 (by decide +kernel) rfl
theorem w_507 : (Jvm.Cond.fieldLink "EditsMeet$Meeting" (35 : Nat) "EditsMeet$Meeting" "server" "LEditsMeet$Edit;") ∈ xTs := xT_2 184 (by decide +kernel) rfl
theorem w_508 : (Jvm.Cond.fieldLink "EditsMeet$Meeting" (21 : Nat) "EditsMeet$Meeting" "letters" "LEditsMeet$Letters;") ∈ xTs := xT_2 185 (by decide +kernel) rfl
theorem w_509 : (Jvm.Cond.fieldLink "EditsMeet$Meeting" (49 : Nat) "EditsMeet$Meeting" "count" "I") ∈ xTs := xT_2 186 (by decide +kernel) rfl
theorem w_511 : (Jvm.Cond.fieldLink "EditsMeet$Meeting" (17 : Nat) "EditsMeet$Meeting" "seed" "I") ∈ xTs := xT_2 188 (by decide +kernel) rfl
theorem w_526 : (Jvm.Cond.fieldLink "EditsMeet" (11 : Nat) "EditsMeet" "edits" "[LEditsMeet$Edit;") ∈ xTs := xT_2 203 (by decide +kernel) rfl
theorem w_527 : (Jvm.Cond.fieldLink "EditsMeet" (17 : Nat) "EditsMeet" "shelves" "[LEditsMeet$Shelf;") ∈ xTs := xT_2 204 (by decide +kernel) rfl
theorem w_528 : (Jvm.Cond.fieldLink "EditsMeet" (21 : Nat) "EditsMeet" "refusals" "[I") ∈ xTs := xT_2 205 (by decide +kernel) rfl
theorem w_529 : (Jvm.Cond.fieldLink "EditsMeet" (28 : Nat) "EditsMeet" "letters" "LEditsMeet$Letters;") ∈ xTs := xT_2 206 (by decide +kernel) rfl
theorem w_530 : (Jvm.Cond.fieldLink "EditsMeet" (37 : Nat) "EditsMeet" "tape" "LEditsMeet$Tape;") ∈ xTs := xT_2 207 (by decide +kernel) rfl
theorem w_531 : (Jvm.Cond.fieldLink "EditsMeet" (44 : Nat) "EditsMeet" "spelling" "LEditsMeet$Row;") ∈ xTs := xT_2 208 (by decide +kernel) rfl
theorem w_532 : (Jvm.Cond.fieldLink "EditsMeet" (51 : Nat) "EditsMeet" "loom" "LEditsMeet$Loom;") ∈ xTs := xT_2 209 (by decide +kernel) rfl
theorem w_533 : (Jvm.Cond.fieldLink "EditsMeet" (59 : Nat) "EditsMeet" "draft" "LEditsMeet$Edit;") ∈ xTs := xT_2 210 (by decide +kernel) rfl
theorem w_534 : (Jvm.Cond.fieldLink "EditsMeet" (71 : Nat) "EditsMeet" "meeting" "LEditsMeet$Meeting;") ∈ xTs := xT_2 211 (by decide +kernel) rfl
theorem w_564 : (Jvm.Cond.methodLink "EditsMeet" (79 : Nat) ({ cls := "EditsMeet", name := "refuse", desc := "(I)I" } : Jvm.MethodName)) ∈ xTs := xT_3 1 (by decide +kernel) rfl
theorem w_566 : (Jvm.Cond.instanceMethod ({ cls := "EditsMeet", name := "refuse", desc := "(I)I" } : Jvm.MethodName)) ∈ xTs := xT_3 3 (by decide +kernel) rfl
theorem w_567 : (Jvm.Cond.code ({ cls := "EditsMeet", name := "refuse", desc := "(I)I" } : Jvm.MethodName) prog_1_method_62_code (3 : Nat) (Option.some Jvm.ClassFile.FieldType.int)) ∈ xTs := xT_3 4 (by decide +kernel) rfl
theorem w_667 : (Jvm.Cond.instanceMethod ({ cls := "EditsMeet$Edit", name := "count", desc := "()I" } : Jvm.MethodName)) ∈ xTs := xT_3 104 (by decide +kernel) rfl
theorem w_668 : (Jvm.Cond.selects "EditsMeet$Edit" ({ cls := "EditsMeet$Edit", name := "count", desc := "()I" } : Jvm.MethodName) ({ cls := "EditsMeet$Edit", name := "count", desc := "()I" } : Jvm.MethodName)) ∈ xTs := xT_3 105 (by decide +kernel) rfl
theorem w_669 : (Jvm.Cond.code ({ cls := "EditsMeet$Edit", name := "count", desc := "()I" } : Jvm.MethodName) prog_3_method_3_code (1 : Nat) (Option.some Jvm.ClassFile.FieldType.int)) ∈ xTs := xT_3 106 (by decide +kernel) rfl
theorem w_675 : (Jvm.Cond.instanceMethod ({ cls := "EditsMeet$Edit", name := "kindAt", desc := "(I)I" } : Jvm.MethodName)) ∈ xTs := xT_3 112 (by decide +kernel) rfl
theorem w_676 : (Jvm.Cond.selects "EditsMeet$Edit" ({ cls := "EditsMeet$Edit", name := "kindAt", desc := "(I)I" } : Jvm.MethodName) ({ cls := "EditsMeet$Edit", name := "kindAt", desc := "(I)I" } : Jvm.MethodName)) ∈ xTs := xT_3 113 (by decide +kernel) rfl
theorem w_677 : (Jvm.Cond.code ({ cls := "EditsMeet$Edit", name := "kindAt", desc := "(I)I" } : Jvm.MethodName) prog_3_method_4_code (2 : Nat) (Option.some Jvm.ClassFile.FieldType.int)) ∈ xTs := xT_3 114 (by decide +kernel) rfl
theorem w_678 : (Jvm.Cond.methodLink "EditsMeet$Edit" (42 : Nat) ({ cls := "EditsMeet$Row", name := "at", desc := "(I)J" } : Jvm.MethodName)) ∈ xTs := xT_3 115 (by decide +kernel) rfl
theorem w_679 : (Jvm.Cond.instanceMethod ({ cls := "EditsMeet$Row", name := "at", desc := "(I)J" } : Jvm.MethodName)) ∈ xTs := xT_3 116 (by decide +kernel) rfl
theorem w_680 : (Jvm.Cond.selects "EditsMeet$Row" ({ cls := "EditsMeet$Row", name := "at", desc := "(I)J" } : Jvm.MethodName) ({ cls := "EditsMeet$Row", name := "at", desc := "(I)J" } : Jvm.MethodName)) ∈ xTs := xT_3 117 (by decide +kernel) rfl
theorem w_681 : (Jvm.Cond.code ({ cls := "EditsMeet$Row", name := "at", desc := "(I)J" } : Jvm.MethodName) prog_9_method_2_code (2 : Nat) (Option.some Jvm.ClassFile.FieldType.long)) ∈ xTs := xT_3 118 (by decide +kernel) rfl
theorem w_683 : (Jvm.Cond.instanceMethod ({ cls := "EditsMeet$Edit", name := "sizeAt", desc := "(I)J" } : Jvm.MethodName)) ∈ xTs := xT_3 120 (by decide +kernel) rfl
theorem w_684 : (Jvm.Cond.selects "EditsMeet$Edit" ({ cls := "EditsMeet$Edit", name := "sizeAt", desc := "(I)J" } : Jvm.MethodName) ({ cls := "EditsMeet$Edit", name := "sizeAt", desc := "(I)J" } : Jvm.MethodName)) ∈ xTs := xT_3 121 (by decide +kernel) rfl
theorem w_685 : (Jvm.Cond.code ({ cls := "EditsMeet$Edit", name := "sizeAt", desc := "(I)J" } : Jvm.MethodName) prog_3_method_7_code (2 : Nat) (Option.some Jvm.ClassFile.FieldType.long)) ∈ xTs := xT_3 122 (by decide +kernel) rfl
theorem w_686 : (Jvm.Cond.methodLink "EditsMeet$Edit" (56 : Nat) ({ cls := "EditsMeet$Edit", name := "kindAt", desc := "(I)I" } : Jvm.MethodName)) ∈ xTs := xT_3 123 (by decide +kernel) rfl
theorem w_687 : (Jvm.Cond.methodLink "EditsMeet$Edit" (60 : Nat) ({ cls := "EditsMeet$Edit", name := "rootAt", desc := "(I)I" } : Jvm.MethodName)) ∈ xTs := xT_3 124 (by decide +kernel) rfl
theorem w_688 : (Jvm.Cond.instanceMethod ({ cls := "EditsMeet$Edit", name := "rootAt", desc := "(I)I" } : Jvm.MethodName)) ∈ xTs := xT_3 125 (by decide +kernel) rfl
theorem w_689 : (Jvm.Cond.selects "EditsMeet$Edit" ({ cls := "EditsMeet$Edit", name := "rootAt", desc := "(I)I" } : Jvm.MethodName) ({ cls := "EditsMeet$Edit", name := "rootAt", desc := "(I)I" } : Jvm.MethodName)) ∈ xTs := xT_3 126 (by decide +kernel) rfl
theorem w_690 : (Jvm.Cond.code ({ cls := "EditsMeet$Edit", name := "rootAt", desc := "(I)I" } : Jvm.MethodName) prog_3_method_5_code (5 : Nat) (Option.some Jvm.ClassFile.FieldType.int)) ∈ xTs := xT_3 127 (by decide +kernel) rfl
theorem w_691 : (Jvm.Cond.constantLong "EditsMeet$Edit" (46 : Nat) (15 : Int64)) ∈ xTs := xT_3 128 (by decide +kernel) rfl
theorem w_692 : (Jvm.Cond.methodLink "EditsMeet$Edit" (63 : Nat) ({ cls := "EditsMeet$Letters", name := "size", desc := "(I)J" } : Jvm.MethodName)) ∈ xTs := xT_3 129 (by decide +kernel) rfl
theorem w_693 : (Jvm.Cond.instanceMethod ({ cls := "EditsMeet$Letters", name := "size", desc := "(I)J" } : Jvm.MethodName)) ∈ xTs := xT_3 130 (by decide +kernel) rfl
theorem w_694 : (Jvm.Cond.selects "EditsMeet$Letters" ({ cls := "EditsMeet$Letters", name := "size", desc := "(I)J" } : Jvm.MethodName) ({ cls := "EditsMeet$Letters", name := "size", desc := "(I)J" } : Jvm.MethodName)) ∈ xTs := xT_3 131 (by decide +kernel) rfl
theorem w_695 : (Jvm.Cond.code ({ cls := "EditsMeet$Letters", name := "size", desc := "(I)J" } : Jvm.MethodName) prog_5_method_6_code (2 : Nat) (Option.some Jvm.ClassFile.FieldType.long)) ∈ xTs := xT_3 132 (by decide +kernel) rfl
theorem w_696 : (Jvm.Cond.methodLink "EditsMeet$Letters" (70 : Nat) ({ cls := "EditsMeet$Letters", name := "isRoot", desc := "(I)Z" } : Jvm.MethodName)) ∈ xTs := xT_3 133 (by decide +kernel) rfl
theorem w_698 : (Jvm.Cond.instanceMethod ({ cls := "EditsMeet$Letters", name := "isRoot", desc := "(I)Z" } : Jvm.MethodName)) ∈ xTs := xT_3 135 (by decide +kernel) rfl
theorem w_699 : (Jvm.Cond.code ({ cls := "EditsMeet$Letters", name := "isRoot", desc := "(I)Z" } : Jvm.MethodName) prog_5_method_4_code (2 : Nat) (Option.some Jvm.ClassFile.FieldType.boolean)) ∈ xTs := xT_3 136 (by decide +kernel) rfl
theorem w_701 : (Jvm.Cond.instanceMethod ({ cls := "EditsMeet$Edit", name := "onAt", desc := "(I)I" } : Jvm.MethodName)) ∈ xTs := xT_3 138 (by decide +kernel) rfl
theorem w_702 : (Jvm.Cond.selects "EditsMeet$Edit" ({ cls := "EditsMeet$Edit", name := "onAt", desc := "(I)I" } : Jvm.MethodName) ({ cls := "EditsMeet$Edit", name := "onAt", desc := "(I)I" } : Jvm.MethodName)) ∈ xTs := xT_3 139 (by decide +kernel) rfl
theorem w_703 : (Jvm.Cond.code ({ cls := "EditsMeet$Edit", name := "onAt", desc := "(I)I" } : Jvm.MethodName) prog_3_method_8_code (2 : Nat) (Option.some Jvm.ClassFile.FieldType.int)) ∈ xTs := xT_3 140 (by decide +kernel) rfl
theorem w_705 : (Jvm.Cond.instanceMethod ({ cls := "EditsMeet$Edit", name := "offAt", desc := "(I)I" } : Jvm.MethodName)) ∈ xTs := xT_3 142 (by decide +kernel) rfl
theorem w_706 : (Jvm.Cond.selects "EditsMeet$Edit" ({ cls := "EditsMeet$Edit", name := "offAt", desc := "(I)I" } : Jvm.MethodName) ({ cls := "EditsMeet$Edit", name := "offAt", desc := "(I)I" } : Jvm.MethodName)) ∈ xTs := xT_3 143 (by decide +kernel) rfl
theorem w_707 : (Jvm.Cond.code ({ cls := "EditsMeet$Edit", name := "offAt", desc := "(I)I" } : Jvm.MethodName) prog_3_method_9_code (2 : Nat) (Option.some Jvm.ClassFile.FieldType.int)) ∈ xTs := xT_3 144 (by decide +kernel) rfl
theorem w_716 : (Jvm.Cond.methodLink "EditsMeet$Letters" (74 : Nat) ({ cls := "EditsMeet$Letters", name := "isBranch", desc := "(I)Z" } : Jvm.MethodName)) ∈ xTs := xT_3 153 (by decide +kernel) rfl
theorem w_718 : (Jvm.Cond.instanceMethod ({ cls := "EditsMeet$Letters", name := "isBranch", desc := "(I)Z" } : Jvm.MethodName)) ∈ xTs := xT_3 155 (by decide +kernel) rfl
theorem w_719 : (Jvm.Cond.code ({ cls := "EditsMeet$Letters", name := "isBranch", desc := "(I)Z" } : Jvm.MethodName) prog_5_method_5_code (2 : Nat) (Option.some Jvm.ClassFile.FieldType.boolean)) ∈ xTs := xT_3 156 (by decide +kernel) rfl
theorem w_720 : (Jvm.Cond.methodLink "EditsMeet$Letters" (77 : Nat) ({ cls := "EditsMeet$Letters", name := "size", desc := "(I)J" } : Jvm.MethodName)) ∈ xTs := xT_3 157 (by decide +kernel) rfl
theorem w_748 : (Jvm.Cond.static ({ cls := "java/lang/Math", name := "min", desc := "(JJ)J" } : Jvm.MethodName)) ∈ xTs := xT_3 185 (by decide +kernel) rfl
theorem w_749 : (Jvm.Cond.code ({ cls := "java/lang/Math", name := "min", desc := "(JJ)J" } : Jvm.MethodName) prog_19_method_70_code (4 : Nat) (Option.some Jvm.ClassFile.FieldType.long)) ∈ xTs := xT_3 186 (by decide +kernel) rfl
theorem w_755 : (Jvm.Cond.instanceMethod ({ cls := "EditsMeet$Row", name := "add", desc := "(J)V" } : Jvm.MethodName)) ∈ xTs := xT_3 192 (by decide +kernel) rfl
theorem w_756 : (Jvm.Cond.selects "EditsMeet$Row" ({ cls := "EditsMeet$Row", name := "add", desc := "(J)V" } : Jvm.MethodName) ({ cls := "EditsMeet$Row", name := "add", desc := "(J)V" } : Jvm.MethodName)) ∈ xTs := xT_3 193 (by decide +kernel) rfl
theorem w_757 : (Jvm.Cond.code ({ cls := "EditsMeet$Row", name := "add", desc := "(J)V" } : Jvm.MethodName) prog_9_method_4_code (3 : Nat) (Option.none : Option Jvm.ClassFile.FieldType)) ∈ xTs := xT_3 194 (by decide +kernel) rfl
theorem w_758 : (Jvm.Cond.constant "EditsMeet$Row" (21 : Nat) (2097152 : Int32)) ∈ xTs := xT_3 195 (by decide +kernel) rfl
theorem w_759 : (Jvm.Cond.methodLink "EditsMeet$Row" (22 : Nat) ({ cls := "EditsMeet$Letters", name := "lendsRoom", desc := "(I)Z" } : Jvm.MethodName)) ∈ xTs := xT_3 196 (by decide +kernel) rfl
theorem w_760 : (Jvm.Cond.instanceMethod ({ cls := "EditsMeet$Letters", name := "lendsRoom", desc := "(I)Z" } : Jvm.MethodName)) ∈ xTs := xT_3 197 (by decide +kernel) rfl
theorem w_761 : (Jvm.Cond.selects "EditsMeet$Letters" ({ cls := "EditsMeet$Letters", name := "lendsRoom", desc := "(I)Z" } : Jvm.MethodName) ({ cls := "EditsMeet$Letters", name := "lendsRoom", desc := "(I)Z" } : Jvm.MethodName)) ∈ xTs := xT_3 198 (by decide +kernel) rfl
theorem w_762 : (Jvm.Cond.code ({ cls := "EditsMeet$Letters", name := "lendsRoom", desc := "(I)Z" } : Jvm.MethodName) prog_5_method_3_code (2 : Nat) (Option.some Jvm.ClassFile.FieldType.boolean)) ∈ xTs := xT_3 199 (by decide +kernel) rfl
theorem w_763 : (Jvm.Cond.methodLink "EditsMeet$Row" (28 : Nat) ({ cls := "java/util/Arrays", name := "copyOf", desc := "([JI)[J" } : Jvm.MethodName)) ∈ xTs := xT_3 200 (by decide +kernel) rfl
theorem w_764 : (Jvm.Cond.static ({ cls := "java/util/Arrays", name := "copyOf", desc := "([JI)[J" } : Jvm.MethodName)) ∈ xTs := xT_3 201 (by decide +kernel) rfl
theorem w_765 : (Jvm.Cond.code ({ cls := "java/util/Arrays", name := "copyOf", desc := "([JI)[J" } : Jvm.MethodName) prog_24_method_124_code (3 : Nat) (Option.some (Jvm.ClassFile.FieldType.array Jvm.ClassFile.FieldType.long))) ∈ xTs := xT_3 202 (by decide +kernel) rfl
theorem w_766 : (Jvm.Cond.methodLink "java/util/Arrays" (319 : Nat) ({ cls := "[J", name := "clone", desc := "()Ljava/lang/Object;" } : Jvm.MethodName)) ∈ xTs := xT_3 203 (by decide +kernel) rfl
theorem w_778 : (Jvm.Cond.instanceMethod ({ cls := "EditsMeet$Row", name := "clear", desc := "()V" } : Jvm.MethodName)) ∈ xTs := xT_3 215 (by decide +kernel) rfl
theorem w_779 : (Jvm.Cond.selects "EditsMeet$Row" ({ cls := "EditsMeet$Row", name := "clear", desc := "()V" } : Jvm.MethodName) ({ cls := "EditsMeet$Row", name := "clear", desc := "()V" } : Jvm.MethodName)) ∈ xTs := xT_3 216 (by decide +kernel) rfl
theorem w_780 : (Jvm.Cond.code ({ cls := "EditsMeet$Row", name := "clear", desc := "()V" } : Jvm.MethodName) prog_9_method_5_code (1 : Nat) (Option.none : Option Jvm.ClassFile.FieldType)) ∈ xTs := xT_3 217 (by decide +kernel) rfl
theorem w_790 : (Jvm.Cond.instanceMethod ({ cls := "EditsMeet$Edit", name := "begin", desc := "()V" } : Jvm.MethodName)) ∈ xTs := xT_3 227 (by decide +kernel) rfl
theorem w_791 : (Jvm.Cond.selects "EditsMeet$Edit" ({ cls := "EditsMeet$Edit", name := "begin", desc := "()V" } : Jvm.MethodName) ({ cls := "EditsMeet$Edit", name := "begin", desc := "()V" } : Jvm.MethodName)) ∈ xTs := xT_3 228 (by decide +kernel) rfl
theorem w_792 : (Jvm.Cond.code ({ cls := "EditsMeet$Edit", name := "begin", desc := "()V" } : Jvm.MethodName) prog_3_method_2_code (1 : Nat) (Option.none : Option Jvm.ClassFile.FieldType)) ∈ xTs := xT_3 229 (by decide +kernel) rfl
theorem w_793 : (Jvm.Cond.methodLink "EditsMeet$Edit" (24 : Nat) ({ cls := "EditsMeet$Row", name := "clear", desc := "()V" } : Jvm.MethodName)) ∈ xTs := xT_3 230 (by decide +kernel) rfl
theorem w_811 : (Jvm.Cond.instanceMethod ({ cls := "EditsMeet$Edit", name := "putIn", desc := "(I)V" } : Jvm.MethodName)) ∈ xTs := xT_4 8 (by decide +kernel) rfl
theorem w_812 : (Jvm.Cond.selects "EditsMeet$Edit" ({ cls := "EditsMeet$Edit", name := "putIn", desc := "(I)V" } : Jvm.MethodName) ({ cls := "EditsMeet$Edit", name := "putIn", desc := "(I)V" } : Jvm.MethodName)) ∈ xTs := xT_4 9 (by decide +kernel) rfl
theorem w_813 : (Jvm.Cond.code ({ cls := "EditsMeet$Edit", name := "putIn", desc := "(I)V" } : Jvm.MethodName) prog_3_method_12_code (8 : Nat) (Option.none : Option Jvm.ClassFile.FieldType)) ∈ xTs := xT_4 10 (by decide +kernel) rfl
theorem w_814 : (Jvm.Cond.methodLink "EditsMeet$Edit" (74 : Nat) ({ cls := "EditsMeet$Letters", name := "join", desc := "(II)I" } : Jvm.MethodName)) ∈ xTs := xT_4 11 (by decide +kernel) rfl
theorem w_815 : (Jvm.Cond.instanceMethod ({ cls := "EditsMeet$Letters", name := "join", desc := "(II)I" } : Jvm.MethodName)) ∈ xTs := xT_4 12 (by decide +kernel) rfl
theorem w_816 : (Jvm.Cond.selects "EditsMeet$Letters" ({ cls := "EditsMeet$Letters", name := "join", desc := "(II)I" } : Jvm.MethodName) ({ cls := "EditsMeet$Letters", name := "join", desc := "(II)I" } : Jvm.MethodName)) ∈ xTs := xT_4 13 (by decide +kernel) rfl
theorem w_817 : (Jvm.Cond.code ({ cls := "EditsMeet$Letters", name := "join", desc := "(II)I" } : Jvm.MethodName) prog_5_method_9_code (10 : Nat) (Option.some Jvm.ClassFile.FieldType.int)) ∈ xTs := xT_4 14 (by decide +kernel) rfl
theorem w_818 : (Jvm.Cond.methodLink "EditsMeet$Letters" (83 : Nat) ({ cls := "EditsMeet$Letters", name := "makeRoom", desc := "()V" } : Jvm.MethodName)) ∈ xTs := xT_4 15 (by decide +kernel) rfl
theorem w_820 : (Jvm.Cond.instanceMethod ({ cls := "EditsMeet$Letters", name := "makeRoom", desc := "()V" } : Jvm.MethodName)) ∈ xTs := xT_4 17 (by decide +kernel) rfl
theorem w_821 : (Jvm.Cond.code ({ cls := "EditsMeet$Letters", name := "makeRoom", desc := "()V" } : Jvm.MethodName) prog_5_method_18_code (2 : Nat) (Option.none : Option Jvm.ClassFile.FieldType)) ∈ xTs := xT_4 18 (by decide +kernel) rfl
theorem w_822 : (Jvm.Cond.constant "EditsMeet$Letters" (113 : Nat) (1048576 : Int32)) ∈ xTs := xT_4 19 (by decide +kernel) rfl
theorem w_823 : (Jvm.Cond.methodLink "EditsMeet$Letters" (114 : Nat) ({ cls := "java/util/Arrays", name := "copyOf", desc := "([II)[I" } : Jvm.MethodName)) ∈ xTs := xT_4 20 (by decide +kernel) rfl
theorem w_824 : (Jvm.Cond.static ({ cls := "java/util/Arrays", name := "copyOf", desc := "([II)[I" } : Jvm.MethodName)) ∈ xTs := xT_4 21 (by decide +kernel) rfl
theorem w_825 : (Jvm.Cond.code ({ cls := "java/util/Arrays", name := "copyOf", desc := "([II)[I" } : Jvm.MethodName) prog_24_method_123_code (3 : Nat) (Option.some (Jvm.ClassFile.FieldType.array Jvm.ClassFile.FieldType.int))) ∈ xTs := xT_4 22 (by decide +kernel) rfl
theorem w_826 : (Jvm.Cond.methodLink "java/util/Arrays" (316 : Nat) ({ cls := "[I", name := "clone", desc := "()Ljava/lang/Object;" } : Jvm.MethodName)) ∈ xTs := xT_4 23 (by decide +kernel) rfl
theorem w_831 : (Jvm.Cond.methodLink "EditsMeet$Letters" (120 : Nat) ({ cls := "java/util/Arrays", name := "copyOf", desc := "([JI)[J" } : Jvm.MethodName)) ∈ xTs := xT_4 28 (by decide +kernel) rfl
theorem w_832 : (Jvm.Cond.methodLink "EditsMeet$Letters" (123 : Nat) ({ cls := "EditsMeet$Letters", name := "knowAll", desc := "()V" } : Jvm.MethodName)) ∈ xTs := xT_4 29 (by decide +kernel) rfl
theorem w_834 : (Jvm.Cond.instanceMethod ({ cls := "EditsMeet$Letters", name := "knowAll", desc := "()V" } : Jvm.MethodName)) ∈ xTs := xT_4 31 (by decide +kernel) rfl
theorem w_835 : (Jvm.Cond.code ({ cls := "EditsMeet$Letters", name := "knowAll", desc := "()V" } : Jvm.MethodName) prog_5_method_19_code (5 : Nat) (Option.none : Option Jvm.ClassFile.FieldType)) ∈ xTs := xT_4 32 (by decide +kernel) rfl
theorem w_836 : (Jvm.Cond.constant "EditsMeet$Letters" (93 : Nat) (-1640531535 : Int32)) ∈ xTs := xT_4 33 (by decide +kernel) rfl
theorem w_837 : (Jvm.Cond.constant "EditsMeet$Letters" (94 : Nat) (-2048144777 : Int32)) ∈ xTs := xT_4 34 (by decide +kernel) rfl
theorem w_838 : (Jvm.Cond.methodLink "EditsMeet$Letters" (86 : Nat) ({ cls := "EditsMeet$Letters", name := "branch", desc := "(II)I" } : Jvm.MethodName)) ∈ xTs := xT_4 35 (by decide +kernel) rfl
theorem w_840 : (Jvm.Cond.instanceMethod ({ cls := "EditsMeet$Letters", name := "branch", desc := "(II)I" } : Jvm.MethodName)) ∈ xTs := xT_4 37 (by decide +kernel) rfl
theorem w_841 : (Jvm.Cond.code ({ cls := "EditsMeet$Letters", name := "branch", desc := "(II)I" } : Jvm.MethodName) prog_5_method_11_code (7 : Nat) (Option.some Jvm.ClassFile.FieldType.int)) ∈ xTs := xT_4 38 (by decide +kernel) rfl
theorem w_842 : (Jvm.Cond.methodLink "EditsMeet$Letters" (90 : Nat) ({ cls := "EditsMeet$Letters", name := "balanced", desc := "(II)I" } : Jvm.MethodName)) ∈ xTs := xT_4 39 (by decide +kernel) rfl
theorem w_844 : (Jvm.Cond.instanceMethod ({ cls := "EditsMeet$Letters", name := "balanced", desc := "(II)I" } : Jvm.MethodName)) ∈ xTs := xT_4 41 (by decide +kernel) rfl
theorem w_845 : (Jvm.Cond.code ({ cls := "EditsMeet$Letters", name := "balanced", desc := "(II)I" } : Jvm.MethodName) prog_5_method_10_code (5 : Nat) (Option.some Jvm.ClassFile.FieldType.int)) ∈ xTs := xT_4 42 (by decide +kernel) rfl
theorem w_846 : (Jvm.Cond.methodLink "EditsMeet$Edit" (78 : Nat) ({ cls := "EditsMeet$Edit", name := "putRoot", desc := "(II)V" } : Jvm.MethodName)) ∈ xTs := xT_4 43 (by decide +kernel) rfl
theorem w_847 : (Jvm.Cond.instanceMethod ({ cls := "EditsMeet$Edit", name := "putRoot", desc := "(II)V" } : Jvm.MethodName)) ∈ xTs := xT_4 44 (by decide +kernel) rfl
theorem w_848 : (Jvm.Cond.selects "EditsMeet$Edit" ({ cls := "EditsMeet$Edit", name := "putRoot", desc := "(II)V" } : Jvm.MethodName) ({ cls := "EditsMeet$Edit", name := "putRoot", desc := "(II)V" } : Jvm.MethodName)) ∈ xTs := xT_4 45 (by decide +kernel) rfl
theorem w_849 : (Jvm.Cond.code ({ cls := "EditsMeet$Edit", name := "putRoot", desc := "(II)V" } : Jvm.MethodName) prog_3_method_6_code (3 : Nat) (Option.none : Option Jvm.ClassFile.FieldType)) ∈ xTs := xT_4 46 (by decide +kernel) rfl
theorem w_850 : (Jvm.Cond.constantLong "EditsMeet$Edit" (50 : Nat) (256 : Int64)) ∈ xTs := xT_4 47 (by decide +kernel) rfl
theorem w_851 : (Jvm.Cond.methodLink "EditsMeet$Edit" (52 : Nat) ({ cls := "EditsMeet$Row", name := "put", desc := "(IJ)V" } : Jvm.MethodName)) ∈ xTs := xT_4 48 (by decide +kernel) rfl
theorem w_852 : (Jvm.Cond.instanceMethod ({ cls := "EditsMeet$Row", name := "put", desc := "(IJ)V" } : Jvm.MethodName)) ∈ xTs := xT_4 49 (by decide +kernel) rfl
theorem w_853 : (Jvm.Cond.selects "EditsMeet$Row" ({ cls := "EditsMeet$Row", name := "put", desc := "(IJ)V" } : Jvm.MethodName) ({ cls := "EditsMeet$Row", name := "put", desc := "(IJ)V" } : Jvm.MethodName)) ∈ xTs := xT_4 50 (by decide +kernel) rfl
theorem w_854 : (Jvm.Cond.code ({ cls := "EditsMeet$Row", name := "put", desc := "(IJ)V" } : Jvm.MethodName) prog_9_method_3_code (4 : Nat) (Option.none : Option Jvm.ClassFile.FieldType)) ∈ xTs := xT_4 51 (by decide +kernel) rfl
theorem w_855 : (Jvm.Cond.methodLink "EditsMeet$Edit" (70 : Nat) ({ cls := "EditsMeet$Row", name := "add", desc := "(J)V" } : Jvm.MethodName)) ∈ xTs := xT_4 52 (by decide +kernel) rfl
theorem w_864 : (Jvm.Cond.instanceMethod ({ cls := "EditsMeet$Edit", name := "goOver", desc := "(IIIJ)V" } : Jvm.MethodName)) ∈ xTs := xT_4 61 (by decide +kernel) rfl
theorem w_865 : (Jvm.Cond.selects "EditsMeet$Edit" ({ cls := "EditsMeet$Edit", name := "goOver", desc := "(IIIJ)V" } : Jvm.MethodName) ({ cls := "EditsMeet$Edit", name := "goOver", desc := "(IIIJ)V" } : Jvm.MethodName)) ∈ xTs := xT_4 62 (by decide +kernel) rfl
theorem w_866 : (Jvm.Cond.code ({ cls := "EditsMeet$Edit", name := "goOver", desc := "(IIIJ)V" } : Jvm.MethodName) prog_3_method_11_code (10 : Nat) (Option.none : Option Jvm.ClassFile.FieldType)) ∈ xTs := xT_4 63 (by decide +kernel) rfl
theorem w_867 : (Jvm.Cond.constantLong "EditsMeet$Edit" (68 : Nat) (4095 : Int64)) ∈ xTs := xT_4 64 (by decide +kernel) rfl
theorem w_877 : (Jvm.Cond.instanceMethod ({ cls := "EditsMeet$Edit", name := "take", desc := "(LEditsMeet$Edit;)V" } : Jvm.MethodName)) ∈ xTs := xT_4 74 (by decide +kernel) rfl
theorem w_878 : (Jvm.Cond.selects "EditsMeet$Edit" ({ cls := "EditsMeet$Edit", name := "take", desc := "(LEditsMeet$Edit;)V" } : Jvm.MethodName) ({ cls := "EditsMeet$Edit", name := "take", desc := "(LEditsMeet$Edit;)V" } : Jvm.MethodName)) ∈ xTs := xT_4 75 (by decide +kernel) rfl
theorem w_879 : (Jvm.Cond.code ({ cls := "EditsMeet$Edit", name := "take", desc := "(LEditsMeet$Edit;)V" } : Jvm.MethodName) prog_3_method_14_code (2 : Nat) (Option.none : Option Jvm.ClassFile.FieldType)) ∈ xTs := xT_4 76 (by decide +kernel) rfl
theorem w_880 : (Jvm.Cond.methodLink "EditsMeet$Edit" (86 : Nat) ({ cls := "EditsMeet$Row", name := "take", desc := "(LEditsMeet$Row;)V" } : Jvm.MethodName)) ∈ xTs := xT_4 77 (by decide +kernel) rfl
theorem w_881 : (Jvm.Cond.instanceMethod ({ cls := "EditsMeet$Row", name := "take", desc := "(LEditsMeet$Row;)V" } : Jvm.MethodName)) ∈ xTs := xT_4 78 (by decide +kernel) rfl
theorem w_882 : (Jvm.Cond.selects "EditsMeet$Row" ({ cls := "EditsMeet$Row", name := "take", desc := "(LEditsMeet$Row;)V" } : Jvm.MethodName) ({ cls := "EditsMeet$Row", name := "take", desc := "(LEditsMeet$Row;)V" } : Jvm.MethodName)) ∈ xTs := xT_4 79 (by decide +kernel) rfl
theorem w_883 : (Jvm.Cond.code ({ cls := "EditsMeet$Row", name := "take", desc := "(LEditsMeet$Row;)V" } : Jvm.MethodName) prog_9_method_7_code (4 : Nat) (Option.none : Option Jvm.ClassFile.FieldType)) ∈ xTs := xT_4 80 (by decide +kernel) rfl
theorem w_884 : (Jvm.Cond.methodLink "EditsMeet$Row" (49 : Nat) ({ cls := "EditsMeet$Row", name := "like", desc := "(LEditsMeet$Row;)V" } : Jvm.MethodName)) ∈ xTs := xT_4 81 (by decide +kernel) rfl
theorem w_885 : (Jvm.Cond.instanceMethod ({ cls := "EditsMeet$Row", name := "like", desc := "(LEditsMeet$Row;)V" } : Jvm.MethodName)) ∈ xTs := xT_4 82 (by decide +kernel) rfl
theorem w_886 : (Jvm.Cond.selects "EditsMeet$Row" ({ cls := "EditsMeet$Row", name := "like", desc := "(LEditsMeet$Row;)V" } : Jvm.MethodName) ({ cls := "EditsMeet$Row", name := "like", desc := "(LEditsMeet$Row;)V" } : Jvm.MethodName)) ∈ xTs := xT_4 83 (by decide +kernel) rfl
theorem w_887 : (Jvm.Cond.code ({ cls := "EditsMeet$Row", name := "like", desc := "(LEditsMeet$Row;)V" } : Jvm.MethodName) prog_9_method_6_code (3 : Nat) (Option.none : Option Jvm.ClassFile.FieldType)) ∈ xTs := xT_4 84 (by decide +kernel) rfl
theorem w_888 : (Jvm.Cond.methodLink "EditsMeet$Row" (34 : Nat) ({ cls := "java/lang/Math", name := "max", desc := "(II)I" } : Jvm.MethodName)) ∈ xTs := xT_4 85 (by decide +kernel) rfl
theorem w_889 : (Jvm.Cond.methodLink "EditsMeet$Row" (40 : Nat) ({ cls := "java/lang/Math", name := "min", desc := "(II)I" } : Jvm.MethodName)) ∈ xTs := xT_4 86 (by decide +kernel) rfl
theorem w_890 : (Jvm.Cond.methodLink "EditsMeet$Row" (43 : Nat) ({ cls := "java/lang/System", name := "arraycopy", desc := "(Ljava/lang/Object;ILjava/lang/Object;II)V" } : Jvm.MethodName)) ∈ xTs := xT_4 87 (by decide +kernel) rfl
theorem w_891 : (Jvm.Cond.methodLink "EditsMeet$Edit" (89 : Nat) ({ cls := "EditsMeet$Edit", name := "begin", desc := "()V" } : Jvm.MethodName)) ∈ xTs := xT_4 88 (by decide +kernel) rfl
theorem w_901 : (Jvm.Cond.methodLink "EditsMeet$Edit" (92 : Nat) ({ cls := "EditsMeet$Edit", name := "sizeAt", desc := "(I)J" } : Jvm.MethodName)) ∈ xTs := xT_4 98 (by decide +kernel) rfl
theorem w_947 : (Jvm.Cond.instanceMethod ({ cls := "EditsMeet$Loom", name := "chain", desc := "(LEditsMeet$Edit;LEditsMeet$Edit;LEditsMeet$Edit;)V" } : Jvm.MethodName)) ∈ xTs := xT_4 144 (by decide +kernel) rfl
theorem w_948 : (Jvm.Cond.selects "EditsMeet$Loom" ({ cls := "EditsMeet$Loom", name := "chain", desc := "(LEditsMeet$Edit;LEditsMeet$Edit;LEditsMeet$Edit;)V" } : Jvm.MethodName) ({ cls := "EditsMeet$Loom", name := "chain", desc := "(LEditsMeet$Edit;LEditsMeet$Edit;LEditsMeet$Edit;)V" } : Jvm.MethodName)) ∈ xTs := xT_4 145 (by decide +kernel) rfl
theorem w_949 : (Jvm.Cond.code ({ cls := "EditsMeet$Loom", name := "chain", desc := "(LEditsMeet$Edit;LEditsMeet$Edit;LEditsMeet$Edit;)V" } : Jvm.MethodName) prog_6_method_2_code (9 : Nat) (Option.none : Option Jvm.ClassFile.FieldType)) ∈ xTs := xT_4 146 (by decide +kernel) rfl
theorem w_950 : (Jvm.Cond.methodLink "EditsMeet$Loom" (44 : Nat) ({ cls := "EditsMeet$Edit", name := "begin", desc := "()V" } : Jvm.MethodName)) ∈ xTs := xT_4 147 (by decide +kernel) rfl
theorem w_951 : (Jvm.Cond.methodLink "EditsMeet$Loom" (49 : Nat) ({ cls := "EditsMeet$Walk", name := "start", desc := "(LEditsMeet$Edit;)V" } : Jvm.MethodName)) ∈ xTs := xT_4 148 (by decide +kernel) rfl
theorem w_952 : (Jvm.Cond.instanceMethod ({ cls := "EditsMeet$Walk", name := "start", desc := "(LEditsMeet$Edit;)V" } : Jvm.MethodName)) ∈ xTs := xT_4 149 (by decide +kernel) rfl
theorem w_953 : (Jvm.Cond.selects "EditsMeet$Walk" ({ cls := "EditsMeet$Walk", name := "start", desc := "(LEditsMeet$Edit;)V" } : Jvm.MethodName) ({ cls := "EditsMeet$Walk", name := "start", desc := "(LEditsMeet$Edit;)V" } : Jvm.MethodName)) ∈ xTs := xT_4 150 (by decide +kernel) rfl
theorem w_954 : (Jvm.Cond.code ({ cls := "EditsMeet$Walk", name := "start", desc := "(LEditsMeet$Edit;)V" } : Jvm.MethodName) prog_12_method_2_code (2 : Nat) (Option.none : Option Jvm.ClassFile.FieldType)) ∈ xTs := xT_4 151 (by decide +kernel) rfl
theorem w_955 : (Jvm.Cond.methodLink "EditsMeet$Walk" (19 : Nat) ({ cls := "EditsMeet$Walk", name := "enterNext", desc := "()V" } : Jvm.MethodName)) ∈ xTs := xT_4 152 (by decide +kernel) rfl
theorem w_957 : (Jvm.Cond.instanceMethod ({ cls := "EditsMeet$Walk", name := "enterNext", desc := "()V" } : Jvm.MethodName)) ∈ xTs := xT_4 154 (by decide +kernel) rfl
theorem w_958 : (Jvm.Cond.code ({ cls := "EditsMeet$Walk", name := "enterNext", desc := "()V" } : Jvm.MethodName) prog_12_method_5_code (3 : Nat) (Option.none : Option Jvm.ClassFile.FieldType)) ∈ xTs := xT_4 155 (by decide +kernel) rfl
theorem w_959 : (Jvm.Cond.methodLink "EditsMeet$Walk" (41 : Nat) ({ cls := "EditsMeet$Row", name := "at", desc := "(I)J" } : Jvm.MethodName)) ∈ xTs := xT_4 156 (by decide +kernel) rfl
theorem w_960 : (Jvm.Cond.methodLink "EditsMeet$Walk" (54 : Nat) ({ cls := "EditsMeet$Letters", name := "size", desc := "(I)J" } : Jvm.MethodName)) ∈ xTs := xT_4 157 (by decide +kernel) rfl
theorem w_961 : (Jvm.Cond.methodLink "EditsMeet$Loom" (53 : Nat) ({ cls := "EditsMeet$Edit", name := "count", desc := "()I" } : Jvm.MethodName)) ∈ xTs := xT_4 158 (by decide +kernel) rfl
theorem w_962 : (Jvm.Cond.methodLink "EditsMeet$Loom" (57 : Nat) ({ cls := "EditsMeet$Letters", name := "tidy", desc := "()V" } : Jvm.MethodName)) ∈ xTs := xT_4 159 (by decide +kernel) rfl
theorem w_963 : (Jvm.Cond.instanceMethod ({ cls := "EditsMeet$Letters", name := "tidy", desc := "()V" } : Jvm.MethodName)) ∈ xTs := xT_4 160 (by decide +kernel) rfl
theorem w_964 : (Jvm.Cond.selects "EditsMeet$Letters" ({ cls := "EditsMeet$Letters", name := "tidy", desc := "()V" } : Jvm.MethodName) ({ cls := "EditsMeet$Letters", name := "tidy", desc := "()V" } : Jvm.MethodName)) ∈ xTs := xT_4 161 (by decide +kernel) rfl
theorem w_965 : (Jvm.Cond.code ({ cls := "EditsMeet$Letters", name := "tidy", desc := "()V" } : Jvm.MethodName) prog_5_method_20_code (2 : Nat) (Option.none : Option Jvm.ClassFile.FieldType)) ∈ xTs := xT_4 162 (by decide +kernel) rfl
theorem w_966 : (Jvm.Cond.methodLink "EditsMeet$Letters" (126 : Nat) ({ cls := "java/util/Arrays", name := "fill", desc := "([II)V" } : Jvm.MethodName)) ∈ xTs := xT_4 163 (by decide +kernel) rfl
theorem w_967 : (Jvm.Cond.static ({ cls := "java/util/Arrays", name := "fill", desc := "([II)V" } : Jvm.MethodName)) ∈ xTs := xT_4 164 (by decide +kernel) rfl
theorem w_968 : (Jvm.Cond.code ({ cls := "java/util/Arrays", name := "fill", desc := "([II)V" } : Jvm.MethodName) prog_24_method_103_code (4 : Nat) (Option.none : Option Jvm.ClassFile.FieldType)) ∈ xTs := xT_4 165 (by decide +kernel) rfl
theorem w_969 : (Jvm.Cond.methodLink "EditsMeet$Letters" (130 : Nat) ({ cls := "java/util/ArrayList", name := "size", desc := "()I" } : Jvm.MethodName)) ∈ xTs := xT_4 166 (by decide +kernel) rfl
theorem w_970 : (Jvm.Cond.instanceMethod ({ cls := "java/util/ArrayList", name := "size", desc := "()I" } : Jvm.MethodName)) ∈ xTs := xT_4 167 (by decide +kernel) rfl
theorem w_971 : (Jvm.Cond.selects "java/util/ArrayList" ({ cls := "java/util/ArrayList", name := "size", desc := "()I" } : Jvm.MethodName) ({ cls := "java/util/ArrayList", name := "size", desc := "()I" } : Jvm.MethodName)) ∈ xTs := xT_4 168 (by decide +kernel) rfl
theorem w_972 : (Jvm.Cond.code ({ cls := "java/util/ArrayList", name := "size", desc := "()I" } : Jvm.MethodName) prog_23_method_8_code (1 : Nat) (Option.some Jvm.ClassFile.FieldType.int)) ∈ xTs := xT_4 169 (by decide +kernel) rfl
theorem w_973 : (Jvm.Cond.methodLink "EditsMeet$Letters" (133 : Nat) ({ cls := "java/util/ArrayList", name := "get", desc := "(I)Ljava/lang/Object;" } : Jvm.MethodName)) ∈ xTs := xT_4 170 (by decide +kernel) rfl
theorem w_974 : (Jvm.Cond.instanceMethod ({ cls := "java/util/ArrayList", name := "get", desc := "(I)Ljava/lang/Object;" } : Jvm.MethodName)) ∈ xTs := xT_4 171 (by decide +kernel) rfl
theorem w_975 : (Jvm.Cond.selects "java/util/ArrayList" ({ cls := "java/util/ArrayList", name := "get", desc := "(I)Ljava/lang/Object;" } : Jvm.MethodName) ({ cls := "java/util/ArrayList", name := "get", desc := "(I)Ljava/lang/Object;" } : Jvm.MethodName)) ∈ xTs := xT_4 172 (by decide +kernel) rfl
theorem w_976 : (Jvm.Cond.code ({ cls := "java/util/ArrayList", name := "get", desc := "(I)Ljava/lang/Object;" } : Jvm.MethodName) prog_23_method_20_code (2 : Nat) (Option.some (Jvm.ClassFile.FieldType.object "java/lang/Object"))) ∈ xTs := xT_4 173 (by decide +kernel) rfl
theorem w_977 : (Jvm.Cond.methodLink "java/util/ArrayList" (118 : Nat) ({ cls := "java/util/Objects", name := "checkIndex", desc := "(II)I" } : Jvm.MethodName)) ∈ xTs := xT_4 174 (by decide +kernel) rfl
theorem w_978 : (Jvm.Cond.static ({ cls := "java/util/Objects", name := "checkIndex", desc := "(II)I" } : Jvm.MethodName)) ∈ xTs := xT_4 175 (by decide +kernel) rfl
theorem w_979 : (Jvm.Cond.code ({ cls := "java/util/Objects", name := "checkIndex", desc := "(II)I" } : Jvm.MethodName) prog_27_method_17_code (2 : Nat) (Option.some Jvm.ClassFile.FieldType.int)) ∈ xTs := xT_4 176 (by decide +kernel) rfl
theorem w_980 : (Jvm.Cond.methodLink "java/util/Objects" (105 : Nat) ({ cls := "jdk/internal/util/Preconditions", name := "checkIndex", desc := "(IILjava/util/function/BiFunction;)I" } : Jvm.MethodName)) ∈ xTs := xT_4 177 (by decide +kernel) rfl
theorem w_981 : (Jvm.Cond.static ({ cls := "jdk/internal/util/Preconditions", name := "checkIndex", desc := "(IILjava/util/function/BiFunction;)I" } : Jvm.MethodName)) ∈ xTs := xT_4 178 (by decide +kernel) rfl
theorem w_982 : (Jvm.Cond.code ({ cls := "jdk/internal/util/Preconditions", name := "checkIndex", desc := "(IILjava/util/function/BiFunction;)I" } : Jvm.MethodName) prog_31_method_11_code (3 : Nat) (Option.some Jvm.ClassFile.FieldType.int)) ∈ xTs := xT_4 179 (by decide +kernel) rfl
theorem w_983 : (Jvm.Cond.methodLink "java/util/ArrayList" (123 : Nat) ({ cls := "java/util/ArrayList", name := "elementData", desc := "(I)Ljava/lang/Object;" } : Jvm.MethodName)) ∈ xTs := xT_4 180 (by decide +kernel) rfl
theorem w_984 : (Jvm.Cond.instanceMethod ({ cls := "java/util/ArrayList", name := "elementData", desc := "(I)Ljava/lang/Object;" } : Jvm.MethodName)) ∈ xTs := xT_4 181 (by decide +kernel) rfl
theorem w_985 : (Jvm.Cond.selects "java/util/ArrayList" ({ cls := "java/util/ArrayList", name := "elementData", desc := "(I)Ljava/lang/Object;" } : Jvm.MethodName) ({ cls := "java/util/ArrayList", name := "elementData", desc := "(I)Ljava/lang/Object;" } : Jvm.MethodName)) ∈ xTs := xT_4 182 (by decide +kernel) rfl
theorem w_986 : (Jvm.Cond.code ({ cls := "java/util/ArrayList", name := "elementData", desc := "(I)Ljava/lang/Object;" } : Jvm.MethodName) prog_23_method_18_code (2 : Nat) (Option.some (Jvm.ClassFile.FieldType.object "java/lang/Object"))) ∈ xTs := xT_4 183 (by decide +kernel) rfl
theorem w_987 : (Jvm.Cond.methodLink "EditsMeet$Letters" (137 : Nat) ({ cls := "EditsMeet$Letters", name := "reach", desc := "(LEditsMeet$Edit;)V" } : Jvm.MethodName)) ∈ xTs := xT_4 184 (by decide +kernel) rfl
theorem w_989 : (Jvm.Cond.instanceMethod ({ cls := "EditsMeet$Letters", name := "reach", desc := "(LEditsMeet$Edit;)V" } : Jvm.MethodName)) ∈ xTs := xT_4 186 (by decide +kernel) rfl
theorem w_990 : (Jvm.Cond.code ({ cls := "EditsMeet$Letters", name := "reach", desc := "(LEditsMeet$Edit;)V" } : Jvm.MethodName) prog_5_method_21_code (4 : Nat) (Option.none : Option Jvm.ClassFile.FieldType)) ∈ xTs := xT_4 187 (by decide +kernel) rfl
theorem w_991 : (Jvm.Cond.methodLink "EditsMeet$Letters" (156 : Nat) ({ cls := "EditsMeet$Edit", name := "count", desc := "()I" } : Jvm.MethodName)) ∈ xTs := xT_4 188 (by decide +kernel) rfl
theorem w_992 : (Jvm.Cond.methodLink "EditsMeet$Letters" (163 : Nat) ({ cls := "EditsMeet$Edit", name := "rootAt", desc := "(I)I" } : Jvm.MethodName)) ∈ xTs := xT_4 189 (by decide +kernel) rfl
theorem w_993 : (Jvm.Cond.methodLink "EditsMeet$Letters" (141 : Nat) ({ cls := "EditsMeet$Letters", name := "moveTogether", desc := "()V" } : Jvm.MethodName)) ∈ xTs := xT_4 190 (by decide +kernel) rfl
theorem w_995 : (Jvm.Cond.instanceMethod ({ cls := "EditsMeet$Letters", name := "moveTogether", desc := "()V" } : Jvm.MethodName)) ∈ xTs := xT_4 192 (by decide +kernel) rfl
theorem w_996 : (Jvm.Cond.code ({ cls := "EditsMeet$Letters", name := "moveTogether", desc := "()V" } : Jvm.MethodName) prog_5_method_23_code (3 : Nat) (Option.none : Option Jvm.ClassFile.FieldType)) ∈ xTs := xT_4 193 (by decide +kernel) rfl
theorem w_997 : (Jvm.Cond.methodLink "EditsMeet$Letters" (144 : Nat) ({ cls := "EditsMeet$Letters", name := "move", desc := "(LEditsMeet$Edit;)V" } : Jvm.MethodName)) ∈ xTs := xT_4 194 (by decide +kernel) rfl
theorem w_999 : (Jvm.Cond.instanceMethod ({ cls := "EditsMeet$Letters", name := "move", desc := "(LEditsMeet$Edit;)V" } : Jvm.MethodName)) ∈ xTs := xT_4 196 (by decide +kernel) rfl
theorem w_1000 : (Jvm.Cond.code ({ cls := "EditsMeet$Letters", name := "move", desc := "(LEditsMeet$Edit;)V" } : Jvm.MethodName) prog_5_method_22_code (4 : Nat) (Option.none : Option Jvm.ClassFile.FieldType)) ∈ xTs := xT_4 197 (by decide +kernel) rfl
theorem w_1001 : (Jvm.Cond.methodLink "EditsMeet$Letters" (167 : Nat) ({ cls := "EditsMeet$Edit", name := "putRoot", desc := "(II)V" } : Jvm.MethodName)) ∈ xTs := xT_4 198 (by decide +kernel) rfl
theorem w_1002 : (Jvm.Cond.methodLink "EditsMeet$Letters" (147 : Nat) ({ cls := "java/lang/Math", name := "max", desc := "(II)I" } : Jvm.MethodName)) ∈ xTs := xT_4 199 (by decide +kernel) rfl
theorem w_1003 : (Jvm.Cond.constant "EditsMeet$Letters" (152 : Nat) (65536 : Int32)) ∈ xTs := xT_4 200 (by decide +kernel) rfl
theorem w_1004 : (Jvm.Cond.methodLink "EditsMeet$Letters" (153 : Nat) ({ cls := "java/lang/Math", name := "min", desc := "(II)I" } : Jvm.MethodName)) ∈ xTs := xT_4 201 (by decide +kernel) rfl
theorem w_1005 : (Jvm.Cond.methodLink "EditsMeet$Loom" (68 : Nat) ({ cls := "EditsMeet$Edit", name := "goOver", desc := "(IIIJ)V" } : Jvm.MethodName)) ∈ xTs := xT_4 202 (by decide +kernel) rfl
theorem w_1006 : (Jvm.Cond.methodLink "EditsMeet$Loom" (72 : Nat) ({ cls := "EditsMeet$Walk", name := "go", desc := "(J)V" } : Jvm.MethodName)) ∈ xTs := xT_4 203 (by decide +kernel) rfl
theorem w_1007 : (Jvm.Cond.instanceMethod ({ cls := "EditsMeet$Walk", name := "go", desc := "(J)V" } : Jvm.MethodName)) ∈ xTs := xT_4 204 (by decide +kernel) rfl
theorem w_1008 : (Jvm.Cond.selects "EditsMeet$Walk" ({ cls := "EditsMeet$Walk", name := "go", desc := "(J)V" } : Jvm.MethodName) ({ cls := "EditsMeet$Walk", name := "go", desc := "(J)V" } : Jvm.MethodName)) ∈ xTs := xT_4 205 (by decide +kernel) rfl
theorem w_1009 : (Jvm.Cond.code ({ cls := "EditsMeet$Walk", name := "go", desc := "(J)V" } : Jvm.MethodName) prog_12_method_3_code (3 : Nat) (Option.none : Option Jvm.ClassFile.FieldType)) ∈ xTs := xT_4 206 (by decide +kernel) rfl
theorem w_1010 : (Jvm.Cond.methodLink "EditsMeet$Loom" (76 : Nat) ({ cls := "EditsMeet$Walk", name := "root", desc := "()I" } : Jvm.MethodName)) ∈ xTs := xT_4 207 (by decide +kernel) rfl
theorem w_1011 : (Jvm.Cond.instanceMethod ({ cls := "EditsMeet$Walk", name := "root", desc := "()I" } : Jvm.MethodName)) ∈ xTs := xT_4 208 (by decide +kernel) rfl
theorem w_1012 : (Jvm.Cond.selects "EditsMeet$Walk" ({ cls := "EditsMeet$Walk", name := "root", desc := "()I" } : Jvm.MethodName) ({ cls := "EditsMeet$Walk", name := "root", desc := "()I" } : Jvm.MethodName)) ∈ xTs := xT_4 209 (by decide +kernel) rfl
theorem w_1013 : (Jvm.Cond.code ({ cls := "EditsMeet$Walk", name := "root", desc := "()I" } : Jvm.MethodName) prog_12_method_4_code (1 : Nat) (Option.some Jvm.ClassFile.FieldType.int)) ∈ xTs := xT_4 210 (by decide +kernel) rfl
theorem w_1014 : (Jvm.Cond.methodLink "EditsMeet$Walk" (31 : Nat) ({ cls := "EditsMeet$Edit", name := "rootAt", desc := "(I)I" } : Jvm.MethodName)) ∈ xTs := xT_4 211 (by decide +kernel) rfl
theorem w_1015 : (Jvm.Cond.methodLink "EditsMeet$Loom" (79 : Nat) ({ cls := "EditsMeet$Edit", name := "putIn", desc := "(I)V" } : Jvm.MethodName)) ∈ xTs := xT_4 212 (by decide +kernel) rfl
theorem w_1016 : (Jvm.Cond.methodLink "EditsMeet$Loom" (83 : Nat) ({ cls := "java/lang/Math", name := "min", desc := "(JJ)J" } : Jvm.MethodName)) ∈ xTs := xT_4 213 (by decide +kernel) rfl
theorem w_1017 : (Jvm.Cond.methodLink "EditsMeet$Loom" (92 : Nat) ({ cls := "EditsMeet$Letters", name := "slice", desc := "(IJJ)I" } : Jvm.MethodName)) ∈ xTs := xT_4 214 (by decide +kernel) rfl
theorem w_1018 : (Jvm.Cond.instanceMethod ({ cls := "EditsMeet$Letters", name := "slice", desc := "(IJJ)I" } : Jvm.MethodName)) ∈ xTs := xT_4 215 (by decide +kernel) rfl
theorem w_1019 : (Jvm.Cond.selects "EditsMeet$Letters" ({ cls := "EditsMeet$Letters", name := "slice", desc := "(IJJ)I" } : Jvm.MethodName) ({ cls := "EditsMeet$Letters", name := "slice", desc := "(IJJ)I" } : Jvm.MethodName)) ∈ xTs := xT_4 216 (by decide +kernel) rfl
theorem w_1020 : (Jvm.Cond.code ({ cls := "EditsMeet$Letters", name := "slice", desc := "(IJJ)I" } : Jvm.MethodName) prog_5_method_12_code (15 : Nat) (Option.some Jvm.ClassFile.FieldType.int)) ∈ xTs := xT_4 217 (by decide +kernel) rfl
theorem w_1021 : (Jvm.Cond.methodLink "EditsMeet$Letters" (95 : Nat) ({ cls := "EditsMeet$Letters", name := "join", desc := "(II)I" } : Jvm.MethodName)) ∈ xTs := xT_4 218 (by decide +kernel) rfl
theorem w_1022 : (Jvm.Cond.methodLink "EditsMeet$Loom" (102 : Nat) ({ cls := "EditsMeet$Letters", name := "turnAll", desc := "(III)I" } : Jvm.MethodName)) ∈ xTs := xT_4 219 (by decide +kernel) rfl
theorem w_1023 : (Jvm.Cond.instanceMethod ({ cls := "EditsMeet$Letters", name := "turnAll", desc := "(III)I" } : Jvm.MethodName)) ∈ xTs := xT_4 220 (by decide +kernel) rfl
theorem w_1024 : (Jvm.Cond.selects "EditsMeet$Letters" ({ cls := "EditsMeet$Letters", name := "turnAll", desc := "(III)I" } : Jvm.MethodName) ({ cls := "EditsMeet$Letters", name := "turnAll", desc := "(III)I" } : Jvm.MethodName)) ∈ xTs := xT_4 221 (by decide +kernel) rfl
theorem w_1025 : (Jvm.Cond.code ({ cls := "EditsMeet$Letters", name := "turnAll", desc := "(III)I" } : Jvm.MethodName) prog_5_method_14_code (8 : Nat) (Option.some Jvm.ClassFile.FieldType.int)) ∈ xTs := xT_4 222 (by decide +kernel) rfl
theorem w_1026 : (Jvm.Cond.methodLink "EditsMeet$Letters" (101 : Nat) ({ cls := "EditsMeet$Letters", name := "isTurned", desc := "(III)Z" } : Jvm.MethodName)) ∈ xTs := xT_4 223 (by decide +kernel) rfl
theorem w_1028 : (Jvm.Cond.instanceMethod ({ cls := "EditsMeet$Letters", name := "isTurned", desc := "(III)Z" } : Jvm.MethodName)) ∈ xTs := xT_4 225 (by decide +kernel) rfl
theorem w_1029 : (Jvm.Cond.code ({ cls := "EditsMeet$Letters", name := "isTurned", desc := "(III)Z" } : Jvm.MethodName) prog_5_method_15_code (4 : Nat) (Option.some Jvm.ClassFile.FieldType.boolean)) ∈ xTs := xT_4 226 (by decide +kernel) rfl
theorem w_1030 : (Jvm.Cond.methodLink "EditsMeet$Letters" (105 : Nat) ({ cls := "EditsMeet$Letters", name := "turnLeaf", desc := "(III)I" } : Jvm.MethodName)) ∈ xTs := xT_4 227 (by decide +kernel) rfl
theorem w_1031 : (Jvm.Cond.static ({ cls := "EditsMeet$Letters", name := "turnLeaf", desc := "(III)I" } : Jvm.MethodName)) ∈ xTs := xT_4 228 (by decide +kernel) rfl
theorem w_1032 : (Jvm.Cond.code ({ cls := "EditsMeet$Letters", name := "turnLeaf", desc := "(III)I" } : Jvm.MethodName) prog_5_method_13_code (3 : Nat) (Option.some Jvm.ClassFile.FieldType.int)) ∈ xTs := xT_4 229 (by decide +kernel) rfl
theorem w_1045 : (Jvm.Cond.instanceMethod ({ cls := "EditsMeet$Loom", name := "carry", desc := "(LEditsMeet$Edit;LEditsMeet$Edit;ILEditsMeet$Edit;)V" } : Jvm.MethodName)) ∈ xTs := xT_5 2 (by decide +kernel) rfl
theorem w_1046 : (Jvm.Cond.selects "EditsMeet$Loom" ({ cls := "EditsMeet$Loom", name := "carry", desc := "(LEditsMeet$Edit;LEditsMeet$Edit;ILEditsMeet$Edit;)V" } : Jvm.MethodName) ({ cls := "EditsMeet$Loom", name := "carry", desc := "(LEditsMeet$Edit;LEditsMeet$Edit;ILEditsMeet$Edit;)V" } : Jvm.MethodName)) ∈ xTs := xT_5 3 (by decide +kernel) rfl
theorem w_1047 : (Jvm.Cond.code ({ cls := "EditsMeet$Loom", name := "carry", desc := "(LEditsMeet$Edit;LEditsMeet$Edit;ILEditsMeet$Edit;)V" } : Jvm.MethodName) prog_6_method_3_code (10 : Nat) (Option.none : Option Jvm.ClassFile.FieldType)) ∈ xTs := xT_5 4 (by decide +kernel) rfl
theorem w_1052 : (Jvm.Cond.methodLink "EditsMeet" (230 : Nat) ({ cls := "EditsMeet$Meeting", name := "clientAt", desc := "(I)LEditsMeet$Client;" } : Jvm.MethodName)) ∈ xTs := xT_5 9 (by decide +kernel) rfl
theorem w_1053 : (Jvm.Cond.instanceMethod ({ cls := "EditsMeet$Meeting", name := "clientAt", desc := "(I)LEditsMeet$Client;" } : Jvm.MethodName)) ∈ xTs := xT_5 10 (by decide +kernel) rfl
theorem w_1054 : (Jvm.Cond.selects "EditsMeet$Meeting" ({ cls := "EditsMeet$Meeting", name := "clientAt", desc := "(I)LEditsMeet$Client;" } : Jvm.MethodName) ({ cls := "EditsMeet$Meeting", name := "clientAt", desc := "(I)LEditsMeet$Client;" } : Jvm.MethodName)) ∈ xTs := xT_5 11 (by decide +kernel) rfl
theorem w_1055 : (Jvm.Cond.code ({ cls := "EditsMeet$Meeting", name := "clientAt", desc := "(I)LEditsMeet$Client;" } : Jvm.MethodName) prog_7_method_2_code (2 : Nat) (Option.some (Jvm.ClassFile.FieldType.object "EditsMeet$Client"))) ∈ xTs := xT_5 12 (by decide +kernel) rfl
theorem w_1057 : (Jvm.Cond.instanceMethod ({ cls := "EditsMeet$Loom", name := "turn", desc := "(LEditsMeet$Edit;LEditsMeet$Edit;LEditsMeet$Edit;)V" } : Jvm.MethodName)) ∈ xTs := xT_5 14 (by decide +kernel) rfl
theorem w_1058 : (Jvm.Cond.selects "EditsMeet$Loom" ({ cls := "EditsMeet$Loom", name := "turn", desc := "(LEditsMeet$Edit;LEditsMeet$Edit;LEditsMeet$Edit;)V" } : Jvm.MethodName) ({ cls := "EditsMeet$Loom", name := "turn", desc := "(LEditsMeet$Edit;LEditsMeet$Edit;LEditsMeet$Edit;)V" } : Jvm.MethodName)) ∈ xTs := xT_5 15 (by decide +kernel) rfl
theorem w_1059 : (Jvm.Cond.code ({ cls := "EditsMeet$Loom", name := "turn", desc := "(LEditsMeet$Edit;LEditsMeet$Edit;LEditsMeet$Edit;)V" } : Jvm.MethodName) prog_6_method_4_code (11 : Nat) (Option.none : Option Jvm.ClassFile.FieldType)) ∈ xTs := xT_5 16 (by decide +kernel) rfl
theorem w_1060 : (Jvm.Cond.methodLink "EditsMeet$Loom" (106 : Nat) ({ cls := "EditsMeet$Edit", name := "rootAt", desc := "(I)I" } : Jvm.MethodName)) ∈ xTs := xT_5 17 (by decide +kernel) rfl
theorem w_1061 : (Jvm.Cond.methodLink "EditsMeet$Loom" (110 : Nat) ({ cls := "EditsMeet$Edit", name := "kindAt", desc := "(I)I" } : Jvm.MethodName)) ∈ xTs := xT_5 18 (by decide +kernel) rfl
theorem w_1062 : (Jvm.Cond.methodLink "EditsMeet$Loom" (113 : Nat) ({ cls := "EditsMeet$Edit", name := "sizeAt", desc := "(I)J" } : Jvm.MethodName)) ∈ xTs := xT_5 19 (by decide +kernel) rfl
theorem w_1063 : (Jvm.Cond.methodLink "EditsMeet$Loom" (117 : Nat) ({ cls := "EditsMeet$Edit", name := "onAt", desc := "(I)I" } : Jvm.MethodName)) ∈ xTs := xT_5 20 (by decide +kernel) rfl
theorem w_1064 : (Jvm.Cond.methodLink "EditsMeet$Loom" (120 : Nat) ({ cls := "EditsMeet$Edit", name := "offAt", desc := "(I)I" } : Jvm.MethodName)) ∈ xTs := xT_5 21 (by decide +kernel) rfl
theorem w_1065 : (Jvm.Cond.methodLink "EditsMeet$Loom" (123 : Nat) ({ cls := "EditsMeet$Loom", name := "turnMark", desc := "(IJJIILEditsMeet$Edit;)V" } : Jvm.MethodName)) ∈ xTs := xT_5 22 (by decide +kernel) rfl
theorem w_1067 : (Jvm.Cond.instanceMethod ({ cls := "EditsMeet$Loom", name := "turnMark", desc := "(IJJIILEditsMeet$Edit;)V" } : Jvm.MethodName)) ∈ xTs := xT_5 24 (by decide +kernel) rfl
theorem w_1068 : (Jvm.Cond.code ({ cls := "EditsMeet$Loom", name := "turnMark", desc := "(IJJIILEditsMeet$Edit;)V" } : Jvm.MethodName) prog_6_method_5_code (17 : Nat) (Option.none : Option Jvm.ClassFile.FieldType)) ∈ xTs := xT_5 25 (by decide +kernel) rfl
theorem w_1069 : (Jvm.Cond.constant "EditsMeet$Loom" (127 : Nat) (8388608 : Int32)) ∈ xTs := xT_5 26 (by decide +kernel) rfl
theorem w_1070 : (Jvm.Cond.methodLink "EditsMeet$Loom" (128 : Nat) ({ cls := "EditsMeet$Letters", name := "runAt", desc := "(IJ)J" } : Jvm.MethodName)) ∈ xTs := xT_5 27 (by decide +kernel) rfl
theorem w_1071 : (Jvm.Cond.instanceMethod ({ cls := "EditsMeet$Letters", name := "runAt", desc := "(IJ)J" } : Jvm.MethodName)) ∈ xTs := xT_5 28 (by decide +kernel) rfl
theorem w_1072 : (Jvm.Cond.selects "EditsMeet$Letters" ({ cls := "EditsMeet$Letters", name := "runAt", desc := "(IJ)J" } : Jvm.MethodName) ({ cls := "EditsMeet$Letters", name := "runAt", desc := "(IJ)J" } : Jvm.MethodName)) ∈ xTs := xT_5 29 (by decide +kernel) rfl
theorem w_1073 : (Jvm.Cond.code ({ cls := "EditsMeet$Letters", name := "runAt", desc := "(IJ)J" } : Jvm.MethodName) prog_5_method_8_code (10 : Nat) (Option.some Jvm.ClassFile.FieldType.long)) ∈ xTs := xT_5 30 (by decide +kernel) rfl
theorem w_1074 : (Jvm.Cond.constantLong "EditsMeet$Letters" (81 : Nat) (16 : Int64)) ∈ xTs := xT_5 31 (by decide +kernel) rfl
theorem w_1095 : (Jvm.Cond.methodLink "EditsMeet" (249 : Nat) ({ cls := "EditsMeet$Client", name := "isTooLongBy", desc := "(LEditsMeet$Edit;)Z" } : Jvm.MethodName)) ∈ xTs := xT_5 52 (by decide +kernel) rfl
theorem w_1096 : (Jvm.Cond.instanceMethod ({ cls := "EditsMeet$Client", name := "isTooLongBy", desc := "(LEditsMeet$Edit;)Z" } : Jvm.MethodName)) ∈ xTs := xT_5 53 (by decide +kernel) rfl
theorem w_1097 : (Jvm.Cond.selects "EditsMeet$Client" ({ cls := "EditsMeet$Client", name := "isTooLongBy", desc := "(LEditsMeet$Edit;)Z" } : Jvm.MethodName) ({ cls := "EditsMeet$Client", name := "isTooLongBy", desc := "(LEditsMeet$Edit;)Z" } : Jvm.MethodName)) ∈ xTs := xT_5 54 (by decide +kernel) rfl
theorem w_1098 : (Jvm.Cond.code ({ cls := "EditsMeet$Client", name := "isTooLongBy", desc := "(LEditsMeet$Edit;)Z" } : Jvm.MethodName) prog_2_method_3_code (2 : Nat) (Option.some Jvm.ClassFile.FieldType.boolean)) ∈ xTs := xT_5 55 (by decide +kernel) rfl
theorem w_1099 : (Jvm.Cond.constantLong "EditsMeet$Client" (56 : Nat) (60 : Int64)) ∈ xTs := xT_5 56 (by decide +kernel) rfl
theorem w_1100 : (Jvm.Cond.methodLink "EditsMeet" (253 : Nat) ({ cls := "EditsMeet$Client", name := "doNew", desc := "(LEditsMeet$Edit;LEditsMeet$Loom;)V" } : Jvm.MethodName)) ∈ xTs := xT_5 57 (by decide +kernel) rfl
theorem w_1101 : (Jvm.Cond.instanceMethod ({ cls := "EditsMeet$Client", name := "doNew", desc := "(LEditsMeet$Edit;LEditsMeet$Loom;)V" } : Jvm.MethodName)) ∈ xTs := xT_5 58 (by decide +kernel) rfl
theorem w_1102 : (Jvm.Cond.selects "EditsMeet$Client" ({ cls := "EditsMeet$Client", name := "doNew", desc := "(LEditsMeet$Edit;LEditsMeet$Loom;)V" } : Jvm.MethodName) ({ cls := "EditsMeet$Client", name := "doNew", desc := "(LEditsMeet$Edit;LEditsMeet$Loom;)V" } : Jvm.MethodName)) ∈ xTs := xT_5 59 (by decide +kernel) rfl
theorem w_1103 : (Jvm.Cond.code ({ cls := "EditsMeet$Client", name := "doNew", desc := "(LEditsMeet$Edit;LEditsMeet$Loom;)V" } : Jvm.MethodName) prog_2_method_5_code (3 : Nat) (Option.none : Option Jvm.ClassFile.FieldType)) ∈ xTs := xT_5 60 (by decide +kernel) rfl
theorem w_1104 : (Jvm.Cond.methodLink "EditsMeet$Client" (64 : Nat) ({ cls := "EditsMeet$History", name := "fresh", desc := "()LEditsMeet$Edit;" } : Jvm.MethodName)) ∈ xTs := xT_5 61 (by decide +kernel) rfl
theorem w_1105 : (Jvm.Cond.instanceMethod ({ cls := "EditsMeet$History", name := "fresh", desc := "()LEditsMeet$Edit;" } : Jvm.MethodName)) ∈ xTs := xT_5 62 (by decide +kernel) rfl
theorem w_1106 : (Jvm.Cond.selects "EditsMeet$History" ({ cls := "EditsMeet$History", name := "fresh", desc := "()LEditsMeet$Edit;" } : Jvm.MethodName) ({ cls := "EditsMeet$History", name := "fresh", desc := "()LEditsMeet$Edit;" } : Jvm.MethodName)) ∈ xTs := xT_5 63 (by decide +kernel) rfl
theorem w_1107 : (Jvm.Cond.code ({ cls := "EditsMeet$History", name := "fresh", desc := "()LEditsMeet$Edit;" } : Jvm.MethodName) prog_4_method_6_code (2 : Nat) (Option.some (Jvm.ClassFile.FieldType.object "EditsMeet$Edit"))) ∈ xTs := xT_5 64 (by decide +kernel) rfl
theorem w_1108 : (Jvm.Cond.methodLink "EditsMeet$History" (29 : Nat) ({ cls := "EditsMeet$History", name := "putOldestLast", desc := "()V" } : Jvm.MethodName)) ∈ xTs := xT_5 65 (by decide +kernel) rfl
theorem w_1110 : (Jvm.Cond.instanceMethod ({ cls := "EditsMeet$History", name := "putOldestLast", desc := "()V" } : Jvm.MethodName)) ∈ xTs := xT_5 67 (by decide +kernel) rfl
theorem w_1111 : (Jvm.Cond.code ({ cls := "EditsMeet$History", name := "putOldestLast", desc := "()V" } : Jvm.MethodName) prog_4_method_7_code (3 : Nat) (Option.none : Option Jvm.ClassFile.FieldType)) ∈ xTs := xT_5 68 (by decide +kernel) rfl
theorem w_1112 : (Jvm.Cond.methodLink "EditsMeet$History" (32 : Nat) ({ cls := "EditsMeet$Letters", name := "newEdit", desc := "()LEditsMeet$Edit;" } : Jvm.MethodName)) ∈ xTs := xT_5 69 (by decide +kernel) rfl
theorem w_1113 : (Jvm.Cond.methodLink "EditsMeet$Client" (67 : Nat) ({ cls := "EditsMeet$Loom", name := "turn", desc := "(LEditsMeet$Edit;LEditsMeet$Edit;LEditsMeet$Edit;)V" } : Jvm.MethodName)) ∈ xTs := xT_5 70 (by decide +kernel) rfl
theorem w_1114 : (Jvm.Cond.methodLink "EditsMeet$Client" (73 : Nat) ({ cls := "EditsMeet$History", name := "clear", desc := "()V" } : Jvm.MethodName)) ∈ xTs := xT_5 71 (by decide +kernel) rfl
theorem w_1115 : (Jvm.Cond.instanceMethod ({ cls := "EditsMeet$History", name := "clear", desc := "()V" } : Jvm.MethodName)) ∈ xTs := xT_5 72 (by decide +kernel) rfl
theorem w_1116 : (Jvm.Cond.selects "EditsMeet$History" ({ cls := "EditsMeet$History", name := "clear", desc := "()V" } : Jvm.MethodName) ({ cls := "EditsMeet$History", name := "clear", desc := "()V" } : Jvm.MethodName)) ∈ xTs := xT_5 73 (by decide +kernel) rfl
theorem w_1117 : (Jvm.Cond.code ({ cls := "EditsMeet$History", name := "clear", desc := "()V" } : Jvm.MethodName) prog_4_method_5_code (1 : Nat) (Option.none : Option Jvm.ClassFile.FieldType)) ∈ xTs := xT_5 74 (by decide +kernel) rfl
theorem w_1118 : (Jvm.Cond.methodLink "EditsMeet$Client" (76 : Nat) ({ cls := "EditsMeet$Client", name := "change", desc := "(LEditsMeet$Edit;ZLEditsMeet$Loom;)V" } : Jvm.MethodName)) ∈ xTs := xT_5 75 (by decide +kernel) rfl
theorem w_1120 : (Jvm.Cond.instanceMethod ({ cls := "EditsMeet$Client", name := "change", desc := "(LEditsMeet$Edit;ZLEditsMeet$Loom;)V" } : Jvm.MethodName)) ∈ xTs := xT_5 77 (by decide +kernel) rfl
theorem w_1121 : (Jvm.Cond.code ({ cls := "EditsMeet$Client", name := "change", desc := "(LEditsMeet$Edit;ZLEditsMeet$Loom;)V" } : Jvm.MethodName) prog_2_method_7_code (4 : Nat) (Option.none : Option Jvm.ClassFile.FieldType)) ∈ xTs := xT_5 78 (by decide +kernel) rfl
theorem w_1122 : (Jvm.Cond.methodLink "EditsMeet$Client" (90 : Nat) ({ cls := "EditsMeet$Loom", name := "chain", desc := "(LEditsMeet$Edit;LEditsMeet$Edit;LEditsMeet$Edit;)V" } : Jvm.MethodName)) ∈ xTs := xT_5 79 (by decide +kernel) rfl
theorem w_1123 : (Jvm.Cond.methodLink "EditsMeet$Client" (93 : Nat) ({ cls := "EditsMeet$Edit", name := "take", desc := "(LEditsMeet$Edit;)V" } : Jvm.MethodName)) ∈ xTs := xT_5 80 (by decide +kernel) rfl
theorem w_1124 : (Jvm.Cond.methodLink "EditsMeet$Client" (100 : Nat) ({ cls := "EditsMeet$Edit", name := "placeAfter", desc := "(JZ)J" } : Jvm.MethodName)) ∈ xTs := xT_5 81 (by decide +kernel) rfl
theorem w_1125 : (Jvm.Cond.instanceMethod ({ cls := "EditsMeet$Edit", name := "placeAfter", desc := "(JZ)J" } : Jvm.MethodName)) ∈ xTs := xT_5 82 (by decide +kernel) rfl
theorem w_1126 : (Jvm.Cond.selects "EditsMeet$Edit" ({ cls := "EditsMeet$Edit", name := "placeAfter", desc := "(JZ)J" } : Jvm.MethodName) ({ cls := "EditsMeet$Edit", name := "placeAfter", desc := "(JZ)J" } : Jvm.MethodName)) ∈ xTs := xT_5 83 (by decide +kernel) rfl
theorem w_1127 : (Jvm.Cond.code ({ cls := "EditsMeet$Edit", name := "placeAfter", desc := "(JZ)J" } : Jvm.MethodName) prog_3_method_18_code (12 : Nat) (Option.some Jvm.ClassFile.FieldType.long)) ∈ xTs := xT_5 84 (by decide +kernel) rfl
theorem w_1128 : (Jvm.Cond.methodLink "EditsMeet$Edit" (113 : Nat) ({ cls := "java/lang/Math", name := "min", desc := "(JJ)J" } : Jvm.MethodName)) ∈ xTs := xT_5 85 (by decide +kernel) rfl
theorem w_1129 : (Jvm.Cond.methodLink "EditsMeet$Client" (80 : Nat) ({ cls := "EditsMeet$Client", name := "send", desc := "(LEditsMeet$Edit;LEditsMeet$Loom;)V" } : Jvm.MethodName)) ∈ xTs := xT_5 86 (by decide +kernel) rfl
theorem w_1131 : (Jvm.Cond.instanceMethod ({ cls := "EditsMeet$Client", name := "send", desc := "(LEditsMeet$Edit;LEditsMeet$Loom;)V" } : Jvm.MethodName)) ∈ xTs := xT_5 88 (by decide +kernel) rfl
theorem w_1132 : (Jvm.Cond.code ({ cls := "EditsMeet$Client", name := "send", desc := "(LEditsMeet$Edit;LEditsMeet$Loom;)V" } : Jvm.MethodName) prog_2_method_8_code (3 : Nat) (Option.none : Option Jvm.ClassFile.FieldType)) ∈ xTs := xT_5 89 (by decide +kernel) rfl
theorem w_1133 : (Jvm.Cond.methodLink "EditsMeet$Client" (107 : Nat) ({ cls := "EditsMeet$Edit", name := "like", desc := "(LEditsMeet$Edit;)V" } : Jvm.MethodName)) ∈ xTs := xT_5 90 (by decide +kernel) rfl
theorem w_1134 : (Jvm.Cond.instanceMethod ({ cls := "EditsMeet$Edit", name := "like", desc := "(LEditsMeet$Edit;)V" } : Jvm.MethodName)) ∈ xTs := xT_5 91 (by decide +kernel) rfl
theorem w_1135 : (Jvm.Cond.selects "EditsMeet$Edit" ({ cls := "EditsMeet$Edit", name := "like", desc := "(LEditsMeet$Edit;)V" } : Jvm.MethodName) ({ cls := "EditsMeet$Edit", name := "like", desc := "(LEditsMeet$Edit;)V" } : Jvm.MethodName)) ∈ xTs := xT_5 92 (by decide +kernel) rfl
theorem w_1136 : (Jvm.Cond.code ({ cls := "EditsMeet$Edit", name := "like", desc := "(LEditsMeet$Edit;)V" } : Jvm.MethodName) prog_3_method_13_code (2 : Nat) (Option.none : Option Jvm.ClassFile.FieldType)) ∈ xTs := xT_5 93 (by decide +kernel) rfl
theorem w_1137 : (Jvm.Cond.methodLink "EditsMeet$Edit" (82 : Nat) ({ cls := "EditsMeet$Row", name := "like", desc := "(LEditsMeet$Row;)V" } : Jvm.MethodName)) ∈ xTs := xT_5 94 (by decide +kernel) rfl
theorem w_1142 : (Jvm.Cond.constantLong "EditsMeet" (257 : Nat) (60 : Int64)) ∈ xTs := xT_5 99 (by decide +kernel) rfl
theorem w_1143 : (Jvm.Cond.methodLink "EditsMeet" (259 : Nat) ({ cls := "EditsMeet", name := "draftInsert", desc := "(LEditsMeet$Client;JI)V" } : Jvm.MethodName)) ∈ xTs := xT_5 100 (by decide +kernel) rfl
theorem w_1145 : (Jvm.Cond.instanceMethod ({ cls := "EditsMeet", name := "draftInsert", desc := "(LEditsMeet$Client;JI)V" } : Jvm.MethodName)) ∈ xTs := xT_5 102 (by decide +kernel) rfl
theorem w_1146 : (Jvm.Cond.code ({ cls := "EditsMeet", name := "draftInsert", desc := "(LEditsMeet$Client;JI)V" } : Jvm.MethodName) prog_1_method_38_code (5 : Nat) (Option.none : Option Jvm.ClassFile.FieldType)) ∈ xTs := xT_5 103 (by decide +kernel) rfl
theorem w_1147 : (Jvm.Cond.methodLink "EditsMeet" (295 : Nat) ({ cls := "EditsMeet$Edit", name := "begin", desc := "()V" } : Jvm.MethodName)) ∈ xTs := xT_5 104 (by decide +kernel) rfl
theorem w_1148 : (Jvm.Cond.methodLink "EditsMeet" (298 : Nat) ({ cls := "EditsMeet$Edit", name := "goOver", desc := "(IIIJ)V" } : Jvm.MethodName)) ∈ xTs := xT_5 105 (by decide +kernel) rfl
theorem w_1149 : (Jvm.Cond.methodLink "EditsMeet" (302 : Nat) ({ cls := "EditsMeet$Edit", name := "putIn", desc := "(I)V" } : Jvm.MethodName)) ∈ xTs := xT_5 106 (by decide +kernel) rfl
theorem w_1154 : (Jvm.Cond.methodLink "EditsMeet" (263 : Nat) ({ cls := "EditsMeet", name := "draftOver", desc := "(LEditsMeet$Client;JIIII)V" } : Jvm.MethodName)) ∈ xTs := xT_5 111 (by decide +kernel) rfl
theorem w_1156 : (Jvm.Cond.instanceMethod ({ cls := "EditsMeet", name := "draftOver", desc := "(LEditsMeet$Client;JIIII)V" } : Jvm.MethodName)) ∈ xTs := xT_5 113 (by decide +kernel) rfl
theorem w_1157 : (Jvm.Cond.code ({ cls := "EditsMeet", name := "draftOver", desc := "(LEditsMeet$Client;JIIII)V" } : Jvm.MethodName) prog_1_method_39_code (8 : Nat) (Option.none : Option Jvm.ClassFile.FieldType)) ∈ xTs := xT_5 114 (by decide +kernel) rfl
theorem w_1162 : (Jvm.Cond.methodLink "EditsMeet" (271 : Nat) ({ cls := "EditsMeet$History", name := "latest", desc := "()LEditsMeet$Edit;" } : Jvm.MethodName)) ∈ xTs := xT_5 119 (by decide +kernel) rfl
theorem w_1163 : (Jvm.Cond.instanceMethod ({ cls := "EditsMeet$History", name := "latest", desc := "()LEditsMeet$Edit;" } : Jvm.MethodName)) ∈ xTs := xT_5 120 (by decide +kernel) rfl
theorem w_1164 : (Jvm.Cond.selects "EditsMeet$History" ({ cls := "EditsMeet$History", name := "latest", desc := "()LEditsMeet$Edit;" } : Jvm.MethodName) ({ cls := "EditsMeet$History", name := "latest", desc := "()LEditsMeet$Edit;" } : Jvm.MethodName)) ∈ xTs := xT_5 121 (by decide +kernel) rfl
theorem w_1165 : (Jvm.Cond.code ({ cls := "EditsMeet$History", name := "latest", desc := "()LEditsMeet$Edit;" } : Jvm.MethodName) prog_4_method_3_code (1 : Nat) (Option.some (Jvm.ClassFile.FieldType.object "EditsMeet$Edit"))) ∈ xTs := xT_5 122 (by decide +kernel) rfl
theorem w_1166 : (Jvm.Cond.methodLink "EditsMeet$History" (25 : Nat) ({ cls := "EditsMeet$History", name := "at", desc := "(I)LEditsMeet$Edit;" } : Jvm.MethodName)) ∈ xTs := xT_5 123 (by decide +kernel) rfl
theorem w_1167 : (Jvm.Cond.instanceMethod ({ cls := "EditsMeet$History", name := "at", desc := "(I)LEditsMeet$Edit;" } : Jvm.MethodName)) ∈ xTs := xT_5 124 (by decide +kernel) rfl
theorem w_1168 : (Jvm.Cond.selects "EditsMeet$History" ({ cls := "EditsMeet$History", name := "at", desc := "(I)LEditsMeet$Edit;" } : Jvm.MethodName) ({ cls := "EditsMeet$History", name := "at", desc := "(I)LEditsMeet$Edit;" } : Jvm.MethodName)) ∈ xTs := xT_5 125 (by decide +kernel) rfl
theorem w_1169 : (Jvm.Cond.code ({ cls := "EditsMeet$History", name := "at", desc := "(I)LEditsMeet$Edit;" } : Jvm.MethodName) prog_4_method_2_code (2 : Nat) (Option.some (Jvm.ClassFile.FieldType.object "EditsMeet$Edit"))) ∈ xTs := xT_5 126 (by decide +kernel) rfl
theorem w_1174 : (Jvm.Cond.methodLink "EditsMeet" (276 : Nat) ({ cls := "EditsMeet", name := "whyNotAgain", desc := "(LEditsMeet$Client;LEditsMeet$History;)I" } : Jvm.MethodName)) ∈ xTs := xT_5 131 (by decide +kernel) rfl
theorem w_1175 : (Jvm.Cond.static ({ cls := "EditsMeet", name := "whyNotAgain", desc := "(LEditsMeet$Client;LEditsMeet$History;)I" } : Jvm.MethodName)) ∈ xTs := xT_5 132 (by decide +kernel) rfl
theorem w_1176 : (Jvm.Cond.code ({ cls := "EditsMeet", name := "whyNotAgain", desc := "(LEditsMeet$Client;LEditsMeet$History;)I" } : Jvm.MethodName) prog_1_method_40_code (3 : Nat) (Option.some Jvm.ClassFile.FieldType.int)) ∈ xTs := xT_5 133 (by decide +kernel) rfl
theorem w_1177 : (Jvm.Cond.methodLink "EditsMeet" (283 : Nat) ({ cls := "EditsMeet$Client", name := "doLatest", desc := "(LEditsMeet$History;LEditsMeet$History;LEditsMeet$Loom;)V" } : Jvm.MethodName)) ∈ xTs := xT_5 134 (by decide +kernel) rfl
theorem w_1178 : (Jvm.Cond.instanceMethod ({ cls := "EditsMeet$Client", name := "doLatest", desc := "(LEditsMeet$History;LEditsMeet$History;LEditsMeet$Loom;)V" } : Jvm.MethodName)) ∈ xTs := xT_5 135 (by decide +kernel) rfl
theorem w_1179 : (Jvm.Cond.selects "EditsMeet$Client" ({ cls := "EditsMeet$Client", name := "doLatest", desc := "(LEditsMeet$History;LEditsMeet$History;LEditsMeet$Loom;)V" } : Jvm.MethodName) ({ cls := "EditsMeet$Client", name := "doLatest", desc := "(LEditsMeet$History;LEditsMeet$History;LEditsMeet$Loom;)V" } : Jvm.MethodName)) ∈ xTs := xT_5 136 (by decide +kernel) rfl
theorem w_1180 : (Jvm.Cond.code ({ cls := "EditsMeet$Client", name := "doLatest", desc := "(LEditsMeet$History;LEditsMeet$History;LEditsMeet$Loom;)V" } : Jvm.MethodName) prog_2_method_6_code (5 : Nat) (Option.none : Option Jvm.ClassFile.FieldType)) ∈ xTs := xT_5 137 (by decide +kernel) rfl
theorem w_1181 : (Jvm.Cond.methodLink "EditsMeet$Client" (61 : Nat) ({ cls := "EditsMeet$History", name := "latest", desc := "()LEditsMeet$Edit;" } : Jvm.MethodName)) ∈ xTs := xT_5 138 (by decide +kernel) rfl
theorem w_1182 : (Jvm.Cond.methodLink "EditsMeet$Client" (84 : Nat) ({ cls := "EditsMeet$History", name := "drop", desc := "()V" } : Jvm.MethodName)) ∈ xTs := xT_5 139 (by decide +kernel) rfl
theorem w_1183 : (Jvm.Cond.instanceMethod ({ cls := "EditsMeet$History", name := "drop", desc := "()V" } : Jvm.MethodName)) ∈ xTs := xT_5 140 (by decide +kernel) rfl
theorem w_1184 : (Jvm.Cond.selects "EditsMeet$History" ({ cls := "EditsMeet$History", name := "drop", desc := "()V" } : Jvm.MethodName) ({ cls := "EditsMeet$History", name := "drop", desc := "()V" } : Jvm.MethodName)) ∈ xTs := xT_5 141 (by decide +kernel) rfl
theorem w_1185 : (Jvm.Cond.code ({ cls := "EditsMeet$History", name := "drop", desc := "()V" } : Jvm.MethodName) prog_4_method_4_code (1 : Nat) (Option.none : Option Jvm.ClassFile.FieldType)) ∈ xTs := xT_5 142 (by decide +kernel) rfl
theorem w_1198 : (Jvm.Cond.methodLink "EditsMeet" (306 : Nat) ({ cls := "EditsMeet$Client", name := "isUnserved", desc := "()Z" } : Jvm.MethodName)) ∈ xTs := xT_5 155 (by decide +kernel) rfl
theorem w_1199 : (Jvm.Cond.instanceMethod ({ cls := "EditsMeet$Client", name := "isUnserved", desc := "()Z" } : Jvm.MethodName)) ∈ xTs := xT_5 156 (by decide +kernel) rfl
theorem w_1200 : (Jvm.Cond.selects "EditsMeet$Client" ({ cls := "EditsMeet$Client", name := "isUnserved", desc := "()Z" } : Jvm.MethodName) ({ cls := "EditsMeet$Client", name := "isUnserved", desc := "()Z" } : Jvm.MethodName)) ∈ xTs := xT_5 157 (by decide +kernel) rfl
theorem w_1201 : (Jvm.Cond.code ({ cls := "EditsMeet$Client", name := "isUnserved", desc := "()Z" } : Jvm.MethodName) prog_2_method_2_code (1 : Nat) (Option.some Jvm.ClassFile.FieldType.boolean)) ∈ xTs := xT_5 158 (by decide +kernel) rfl
theorem w_1202 : (Jvm.Cond.methodLink "EditsMeet" (310 : Nat) ({ cls := "EditsMeet$Meeting", name := "takeSent", desc := "(ILEditsMeet$Loom;)V" } : Jvm.MethodName)) ∈ xTs := xT_5 159 (by decide +kernel) rfl
theorem w_1203 : (Jvm.Cond.instanceMethod ({ cls := "EditsMeet$Meeting", name := "takeSent", desc := "(ILEditsMeet$Loom;)V" } : Jvm.MethodName)) ∈ xTs := xT_5 160 (by decide +kernel) rfl
theorem w_1204 : (Jvm.Cond.selects "EditsMeet$Meeting" ({ cls := "EditsMeet$Meeting", name := "takeSent", desc := "(ILEditsMeet$Loom;)V" } : Jvm.MethodName) ({ cls := "EditsMeet$Meeting", name := "takeSent", desc := "(ILEditsMeet$Loom;)V" } : Jvm.MethodName)) ∈ xTs := xT_5 161 (by decide +kernel) rfl
theorem w_1205 : (Jvm.Cond.code ({ cls := "EditsMeet$Meeting", name := "takeSent", desc := "(ILEditsMeet$Loom;)V" } : Jvm.MethodName) prog_7_method_4_code (6 : Nat) (Option.none : Option Jvm.ClassFile.FieldType)) ∈ xTs := xT_5 162 (by decide +kernel) rfl
theorem w_1206 : (Jvm.Cond.methodLink "EditsMeet$Meeting" (42 : Nat) ({ cls := "EditsMeet$Meeting", name := "clientAt", desc := "(I)LEditsMeet$Client;" } : Jvm.MethodName)) ∈ xTs := xT_5 163 (by decide +kernel) rfl
theorem w_1207 : (Jvm.Cond.methodLink "EditsMeet$Meeting" (52 : Nat) ({ cls := "EditsMeet$Revisions", name := "slot", desc := "(I)LEditsMeet$Edit;" } : Jvm.MethodName)) ∈ xTs := xT_5 164 (by decide +kernel) rfl
theorem w_1208 : (Jvm.Cond.instanceMethod ({ cls := "EditsMeet$Revisions", name := "slot", desc := "(I)LEditsMeet$Edit;" } : Jvm.MethodName)) ∈ xTs := xT_5 165 (by decide +kernel) rfl
theorem w_1209 : (Jvm.Cond.selects "EditsMeet$Revisions" ({ cls := "EditsMeet$Revisions", name := "slot", desc := "(I)LEditsMeet$Edit;" } : Jvm.MethodName) ({ cls := "EditsMeet$Revisions", name := "slot", desc := "(I)LEditsMeet$Edit;" } : Jvm.MethodName)) ∈ xTs := xT_5 166 (by decide +kernel) rfl
theorem w_1210 : (Jvm.Cond.code ({ cls := "EditsMeet$Revisions", name := "slot", desc := "(I)LEditsMeet$Edit;" } : Jvm.MethodName) prog_8_method_2_code (2 : Nat) (Option.some (Jvm.ClassFile.FieldType.object "EditsMeet$Edit"))) ∈ xTs := xT_5 167 (by decide +kernel) rfl
theorem w_1211 : (Jvm.Cond.methodLink "EditsMeet$Revisions" (25 : Nat) ({ cls := "EditsMeet$Letters", name := "newEdit", desc := "()LEditsMeet$Edit;" } : Jvm.MethodName)) ∈ xTs := xT_5 168 (by decide +kernel) rfl
theorem w_1212 : (Jvm.Cond.methodLink "EditsMeet$Meeting" (61 : Nat) ({ cls := "EditsMeet$Edit", name := "like", desc := "(LEditsMeet$Edit;)V" } : Jvm.MethodName)) ∈ xTs := xT_5 169 (by decide +kernel) rfl
theorem w_1213 : (Jvm.Cond.methodLink "EditsMeet$Meeting" (75 : Nat) ({ cls := "EditsMeet$Loom", name := "carry", desc := "(LEditsMeet$Edit;LEditsMeet$Edit;ILEditsMeet$Edit;)V" } : Jvm.MethodName)) ∈ xTs := xT_5 170 (by decide +kernel) rfl
theorem w_1214 : (Jvm.Cond.methodLink "EditsMeet$Meeting" (79 : Nat) ({ cls := "EditsMeet$Edit", name := "take", desc := "(LEditsMeet$Edit;)V" } : Jvm.MethodName)) ∈ xTs := xT_5 171 (by decide +kernel) rfl
theorem w_1215 : (Jvm.Cond.methodLink "EditsMeet$Meeting" (82 : Nat) ({ cls := "EditsMeet$Loom", name := "chain", desc := "(LEditsMeet$Edit;LEditsMeet$Edit;LEditsMeet$Edit;)V" } : Jvm.MethodName)) ∈ xTs := xT_5 172 (by decide +kernel) rfl
theorem w_1216 : (Jvm.Cond.methodLink "EditsMeet$Meeting" (86 : Nat) ({ cls := "EditsMeet$Revisions", name := "sign", desc := "(II)V" } : Jvm.MethodName)) ∈ xTs := xT_5 173 (by decide +kernel) rfl
theorem w_1217 : (Jvm.Cond.instanceMethod ({ cls := "EditsMeet$Revisions", name := "sign", desc := "(II)V" } : Jvm.MethodName)) ∈ xTs := xT_5 174 (by decide +kernel) rfl
theorem w_1218 : (Jvm.Cond.selects "EditsMeet$Revisions" ({ cls := "EditsMeet$Revisions", name := "sign", desc := "(II)V" } : Jvm.MethodName) ({ cls := "EditsMeet$Revisions", name := "sign", desc := "(II)V" } : Jvm.MethodName)) ∈ xTs := xT_5 175 (by decide +kernel) rfl
theorem w_1219 : (Jvm.Cond.code ({ cls := "EditsMeet$Revisions", name := "sign", desc := "(II)V" } : Jvm.MethodName) prog_8_method_4_code (3 : Nat) (Option.none : Option Jvm.ClassFile.FieldType)) ∈ xTs := xT_5 176 (by decide +kernel) rfl
theorem w_1224 : (Jvm.Cond.methodLink "EditsMeet" (321 : Nat) ({ cls := "EditsMeet$Client", name := "hearNext", desc := "(LEditsMeet$Revisions;LEditsMeet$Loom;)V" } : Jvm.MethodName)) ∈ xTs := xT_5 181 (by decide +kernel) rfl
theorem w_1225 : (Jvm.Cond.instanceMethod ({ cls := "EditsMeet$Client", name := "hearNext", desc := "(LEditsMeet$Revisions;LEditsMeet$Loom;)V" } : Jvm.MethodName)) ∈ xTs := xT_5 182 (by decide +kernel) rfl
theorem w_1226 : (Jvm.Cond.selects "EditsMeet$Client" ({ cls := "EditsMeet$Client", name := "hearNext", desc := "(LEditsMeet$Revisions;LEditsMeet$Loom;)V" } : Jvm.MethodName) ({ cls := "EditsMeet$Client", name := "hearNext", desc := "(LEditsMeet$Revisions;LEditsMeet$Loom;)V" } : Jvm.MethodName)) ∈ xTs := xT_5 183 (by decide +kernel) rfl
theorem w_1227 : (Jvm.Cond.code ({ cls := "EditsMeet$Client", name := "hearNext", desc := "(LEditsMeet$Revisions;LEditsMeet$Loom;)V" } : Jvm.MethodName) prog_2_method_9_code (6 : Nat) (Option.none : Option Jvm.ClassFile.FieldType)) ∈ xTs := xT_5 184 (by decide +kernel) rfl
theorem w_1228 : (Jvm.Cond.methodLink "EditsMeet$Client" (113 : Nat) ({ cls := "EditsMeet$Revisions", name := "clientAt", desc := "(I)I" } : Jvm.MethodName)) ∈ xTs := xT_5 185 (by decide +kernel) rfl
theorem w_1229 : (Jvm.Cond.instanceMethod ({ cls := "EditsMeet$Revisions", name := "clientAt", desc := "(I)I" } : Jvm.MethodName)) ∈ xTs := xT_5 186 (by decide +kernel) rfl
theorem w_1230 : (Jvm.Cond.selects "EditsMeet$Revisions" ({ cls := "EditsMeet$Revisions", name := "clientAt", desc := "(I)I" } : Jvm.MethodName) ({ cls := "EditsMeet$Revisions", name := "clientAt", desc := "(I)I" } : Jvm.MethodName)) ∈ xTs := xT_5 187 (by decide +kernel) rfl
theorem w_1231 : (Jvm.Cond.code ({ cls := "EditsMeet$Revisions", name := "clientAt", desc := "(I)I" } : Jvm.MethodName) prog_8_method_3_code (2 : Nat) (Option.some Jvm.ClassFile.FieldType.int)) ∈ xTs := xT_5 188 (by decide +kernel) rfl
theorem w_1232 : (Jvm.Cond.methodLink "EditsMeet$Client" (119 : Nat) ({ cls := "EditsMeet$Revisions", name := "slot", desc := "(I)LEditsMeet$Edit;" } : Jvm.MethodName)) ∈ xTs := xT_5 189 (by decide +kernel) rfl
theorem w_1233 : (Jvm.Cond.methodLink "EditsMeet$Client" (123 : Nat) ({ cls := "EditsMeet$Client", name := "sendWaiting", desc := "()V" } : Jvm.MethodName)) ∈ xTs := xT_5 190 (by decide +kernel) rfl
theorem w_1235 : (Jvm.Cond.instanceMethod ({ cls := "EditsMeet$Client", name := "sendWaiting", desc := "()V" } : Jvm.MethodName)) ∈ xTs := xT_5 192 (by decide +kernel) rfl
theorem w_1236 : (Jvm.Cond.code ({ cls := "EditsMeet$Client", name := "sendWaiting", desc := "()V" } : Jvm.MethodName) prog_2_method_10_code (1 : Nat) (Option.none : Option Jvm.ClassFile.FieldType)) ∈ xTs := xT_5 193 (by decide +kernel) rfl
theorem w_1237 : (Jvm.Cond.methodLink "EditsMeet$Client" (129 : Nat) ({ cls := "EditsMeet$Loom", name := "cross", desc := "(LEditsMeet$Edit;)V" } : Jvm.MethodName)) ∈ xTs := xT_5 194 (by decide +kernel) rfl
theorem w_1238 : (Jvm.Cond.instanceMethod ({ cls := "EditsMeet$Loom", name := "cross", desc := "(LEditsMeet$Edit;)V" } : Jvm.MethodName)) ∈ xTs := xT_5 195 (by decide +kernel) rfl
theorem w_1239 : (Jvm.Cond.selects "EditsMeet$Loom" ({ cls := "EditsMeet$Loom", name := "cross", desc := "(LEditsMeet$Edit;)V" } : Jvm.MethodName) ({ cls := "EditsMeet$Loom", name := "cross", desc := "(LEditsMeet$Edit;)V" } : Jvm.MethodName)) ∈ xTs := xT_5 196 (by decide +kernel) rfl
theorem w_1240 : (Jvm.Cond.code ({ cls := "EditsMeet$Loom", name := "cross", desc := "(LEditsMeet$Edit;)V" } : Jvm.MethodName) prog_6_method_6_code (2 : Nat) (Option.none : Option Jvm.ClassFile.FieldType)) ∈ xTs := xT_5 197 (by decide +kernel) rfl
theorem w_1241 : (Jvm.Cond.methodLink "EditsMeet$Loom" (132 : Nat) ({ cls := "EditsMeet$Loom", name := "carry", desc := "(LEditsMeet$Edit;LEditsMeet$Edit;ILEditsMeet$Edit;)V" } : Jvm.MethodName)) ∈ xTs := xT_5 198 (by decide +kernel) rfl
theorem w_1242 : (Jvm.Cond.methodLink "EditsMeet$Loom" (136 : Nat) ({ cls := "EditsMeet$Edit", name := "take", desc := "(LEditsMeet$Edit;)V" } : Jvm.MethodName)) ∈ xTs := xT_5 199 (by decide +kernel) rfl
theorem w_1243 : (Jvm.Cond.methodLink "EditsMeet$Client" (138 : Nat) ({ cls := "EditsMeet$History", name := "at", desc := "(I)LEditsMeet$Edit;" } : Jvm.MethodName)) ∈ xTs := xT_5 200 (by decide +kernel) rfl
theorem w_1309 : (Jvm.Cond.constantLong "EditsMeet" (364 : Nat) (4 : Int64)) ∈ xTs := xT_6 26 (by decide +kernel) rfl
theorem w_1310 : (Jvm.Cond.methodLink "EditsMeet" (366 : Nat) ({ cls := "EditsMeet$Meeting", name := "draw", desc := "(J)J" } : Jvm.MethodName)) ∈ xTs := xT_6 27 (by decide +kernel) rfl
theorem w_1311 : (Jvm.Cond.instanceMethod ({ cls := "EditsMeet$Meeting", name := "draw", desc := "(J)J" } : Jvm.MethodName)) ∈ xTs := xT_6 28 (by decide +kernel) rfl
theorem w_1312 : (Jvm.Cond.selects "EditsMeet$Meeting" ({ cls := "EditsMeet$Meeting", name := "draw", desc := "(J)J" } : Jvm.MethodName) ({ cls := "EditsMeet$Meeting", name := "draw", desc := "(J)J" } : Jvm.MethodName)) ∈ xTs := xT_6 29 (by decide +kernel) rfl
theorem w_1313 : (Jvm.Cond.code ({ cls := "EditsMeet$Meeting", name := "draw", desc := "(J)J" } : Jvm.MethodName) prog_7_method_9_code (3 : Nat) (Option.some Jvm.ClassFile.FieldType.long)) ∈ xTs := xT_6 30 (by decide +kernel) rfl
theorem w_1314 : (Jvm.Cond.constant "EditsMeet$Meeting" (118 : Nat) (1103515245 : Int32)) ∈ xTs := xT_6 31 (by decide +kernel) rfl
theorem w_1315 : (Jvm.Cond.constantLong "EditsMeet" (370 : Nat) (8 : Int64)) ∈ xTs := xT_6 32 (by decide +kernel) rfl
theorem w_1316 : (Jvm.Cond.methodLink "EditsMeet" (372 : Nat) ({ cls := "EditsMeet", name := "canBe", desc := "(LEditsMeet$Client;I)Z" } : Jvm.MethodName)) ∈ xTs := xT_6 33 (by decide +kernel) rfl
theorem w_1318 : (Jvm.Cond.instanceMethod ({ cls := "EditsMeet", name := "canBe", desc := "(LEditsMeet$Client;I)Z" } : Jvm.MethodName)) ∈ xTs := xT_6 35 (by decide +kernel) rfl
theorem w_1319 : (Jvm.Cond.code ({ cls := "EditsMeet", name := "canBe", desc := "(LEditsMeet$Client;I)Z" } : Jvm.MethodName) prog_1_method_55_code (3 : Nat) (Option.some Jvm.ClassFile.FieldType.boolean)) ∈ xTs := xT_6 36 (by decide +kernel) rfl
theorem w_1320 : (Jvm.Cond.methodLink "EditsMeet" (376 : Nat) ({ cls := "EditsMeet", name := "draftByDraws", desc := "(LEditsMeet$Client;I)V" } : Jvm.MethodName)) ∈ xTs := xT_6 37 (by decide +kernel) rfl
theorem w_1322 : (Jvm.Cond.instanceMethod ({ cls := "EditsMeet", name := "draftByDraws", desc := "(LEditsMeet$Client;I)V" } : Jvm.MethodName)) ∈ xTs := xT_6 39 (by decide +kernel) rfl
theorem w_1323 : (Jvm.Cond.code ({ cls := "EditsMeet", name := "draftByDraws", desc := "(LEditsMeet$Client;I)V" } : Jvm.MethodName) prog_1_method_56_code (5 : Nat) (Option.none : Option Jvm.ClassFile.FieldType)) ∈ xTs := xT_6 40 (by decide +kernel) rfl
theorem w_1324 : (Jvm.Cond.constantLong "EditsMeet" (383 : Nat) (26 : Int64)) ∈ xTs := xT_6 41 (by decide +kernel) rfl
theorem w_1385 : (Jvm.Cond.methodLink "EditsMeetModel" (1 : Nat) ({ cls := "java/lang/Object", name := "<init>", desc := "()V" } : Jvm.MethodName)) ∈ xTs := xT_6 102 (by decide +kernel) rfl
theorem w_1386 : (Jvm.Cond.classLink "EditsMeetModel" (9 : Nat) "[[I") ∈ xTs := xT_6 103 (by decide +kernel) rfl
theorem w_1388 : (Jvm.Cond.fieldLink "EditsMeetModel" (11 : Nat) "EditsMeetModel" "rows" "[[I") ∈ xTs := xT_6 105 (by decide +kernel) rfl
theorem w_1389 : (Jvm.Cond.fieldLink "EditsMeetModel" (14 : Nat) "EditsMeetModel" "size" "[I") ∈ xTs := xT_6 106 (by decide +kernel) rfl
theorem w_1390 : (Jvm.Cond.fieldLink "EditsMeetModel" (18 : Nat) "EditsMeetModel" "isThere" "[Z") ∈ xTs := xT_6 107 (by decide +kernel) rfl
theorem w_1391 : (Jvm.Cond.fieldLink "EditsMeetModel" (22 : Nat) "EditsMeetModel" "texts" "[[I") ∈ xTs := xT_6 108 (by decide +kernel) rfl
theorem w_1392 : (Jvm.Cond.fieldLink "EditsMeetModel" (25 : Nat) "EditsMeetModel" "lengths" "[I") ∈ xTs := xT_6 109 (by decide +kernel) rfl
theorem w_1393 : (Jvm.Cond.fieldLink "EditsMeetModel" (28 : Nat) "EditsMeetModel" "state" "[I") ∈ xTs := xT_6 110 (by decide +kernel) rfl
theorem w_1394 : (Jvm.Cond.fieldLink "EditsMeetModel" (31 : Nat) "EditsMeetModel" "by" "[I") ∈ xTs := xT_6 111 (by decide +kernel) rfl
theorem w_1395 : (Jvm.Cond.fieldLink "EditsMeetModel" (34 : Nat) "EditsMeetModel" "single" "[I") ∈ xTs := xT_6 112 (by decide +kernel) rfl
theorem w_1396 : (Jvm.Cond.fieldLink "EditsMeetModel" (37 : Nat) "EditsMeetModel" "refusals" "[I") ∈ xTs := xT_6 113 (by decide +kernel) rfl
theorem w_1397 : (Jvm.Cond.fieldLink "EditsMeetModel" (40 : Nat) "EditsMeetModel" "work" "[[I") ∈ xTs := xT_6 114 (by decide +kernel) rfl
theorem w_1398 : (Jvm.Cond.fieldLink "EditsMeetModel" (43 : Nat) "EditsMeetModel" "worked" "[I") ∈ xTs := xT_6 115 (by decide +kernel) rfl
theorem w_1399 : (Jvm.Cond.fieldLink "EditsMeetModel" (46 : Nat) "EditsMeetModel" "aside" "[I") ∈ xTs := xT_6 116 (by decide +kernel) rfl
theorem w_1400 : (Jvm.Cond.fieldLink "EditsMeetModel" (49 : Nat) "EditsMeetModel" "tape" "[I") ∈ xTs := xT_6 117 (by decide +kernel) rfl
theorem w_1407 : (Jvm.Cond.fieldLink "EditsMeetModel" (52 : Nat) "EditsMeetModel" "sorts" "[I") ∈ xTs := xT_6 124 (by decide +kernel) rfl
theorem w_1408 : (Jvm.Cond.fieldLink "EditsMeetModel" (55 : Nat) "EditsMeetModel" "sizes" "[I") ∈ xTs := xT_6 125 (by decide +kernel) rfl
theorem w_1409 : (Jvm.Cond.fieldLink "EditsMeetModel" (58 : Nat) "EditsMeetModel" "elements" "[J") ∈ xTs := xT_6 126 (by decide +kernel) rfl
theorem w_1410 : (Jvm.Cond.fieldLink "EditsMeetModel" (62 : Nat) "EditsMeetModel" "partKind" "[I") ∈ xTs := xT_6 127 (by decide +kernel) rfl
theorem w_1411 : (Jvm.Cond.fieldLink "EditsMeetModel" (65 : Nat) "EditsMeetModel" "partMany" "[I") ∈ xTs := xT_6 128 (by decide +kernel) rfl
theorem w_1412 : (Jvm.Cond.fieldLink "EditsMeetModel" (68 : Nat) "EditsMeetModel" "partAbout" "[I") ∈ xTs := xT_6 129 (by decide +kernel) rfl
theorem w_1413 : (Jvm.Cond.fieldLink "EditsMeetModel" (71 : Nat) "EditsMeetModel" "keptRows" "[[I") ∈ xTs := xT_6 130 (by decide +kernel) rfl
theorem w_1414 : (Jvm.Cond.fieldLink "EditsMeetModel" (74 : Nat) "EditsMeetModel" "keptSize" "[I") ∈ xTs := xT_6 131 (by decide +kernel) rfl
theorem w_1415 : (Jvm.Cond.fieldLink "EditsMeetModel" (77 : Nat) "EditsMeetModel" "keptTexts" "[[I") ∈ xTs := xT_6 132 (by decide +kernel) rfl
theorem w_1416 : (Jvm.Cond.fieldLink "EditsMeetModel" (80 : Nat) "EditsMeetModel" "keptLengths" "[I") ∈ xTs := xT_6 133 (by decide +kernel) rfl
theorem w_1417 : (Jvm.Cond.fieldLink "EditsMeetModel" (83 : Nat) "EditsMeetModel" "keptState" "[I") ∈ xTs := xT_6 134 (by decide +kernel) rfl
theorem w_1418 : (Jvm.Cond.fieldLink "EditsMeetModel" (86 : Nat) "EditsMeetModel" "keptBy" "[I") ∈ xTs := xT_6 135 (by decide +kernel) rfl
theorem w_1419 : (Jvm.Cond.fieldLink "EditsMeetModel" (89 : Nat) "EditsMeetModel" "keptSingle" "[I") ∈ xTs := xT_6 136 (by decide +kernel) rfl
theorem w_1488 : (Jvm.Cond.arrayClass Jvm.ClassFile.FieldType.boolean) ∈ xTs := xT_6 205 (by decide +kernel) rfl
theorem w_1494 : (Jvm.Cond.methodLink "EditsMeetModel" (175 : Nat) ({ cls := "EditsMeetModel", name := "in", desc := "(JJJ)Z" } : Jvm.MethodName)) ∈ xTs := xT_6 211 (by decide +kernel) rfl
theorem w_1495 : (Jvm.Cond.static ({ cls := "EditsMeetModel", name := "in", desc := "(JJJ)Z" } : Jvm.MethodName)) ∈ xTs := xT_6 212 (by decide +kernel) rfl
theorem w_1496 : (Jvm.Cond.code ({ cls := "EditsMeetModel", name := "in", desc := "(JJJ)Z" } : Jvm.MethodName) prog_14_method_2_code (6 : Nat) (Option.some Jvm.ClassFile.FieldType.boolean)) ∈ xTs := xT_6 213 (by decide +kernel) rfl
theorem w_1497 : (Jvm.Cond.methodLink "EditsMeetModel" (183 : Nat) ({ cls := "EditsMeetModel", name := "refused", desc := "(I)I" } : Jvm.MethodName)) ∈ xTs := xT_6 214 (by decide +kernel) rfl
theorem w_1499 : (Jvm.Cond.instanceMethod ({ cls := "EditsMeetModel", name := "refused", desc := "(I)I" } : Jvm.MethodName)) ∈ xTs := xT_6 216 (by decide +kernel) rfl
theorem w_1500 : (Jvm.Cond.code ({ cls := "EditsMeetModel", name := "refused", desc := "(I)I" } : Jvm.MethodName) prog_14_method_3_code (2 : Nat) (Option.some Jvm.ClassFile.FieldType.int)) ∈ xTs := xT_6 217 (by decide +kernel) rfl
theorem w_1523 : (Jvm.Cond.constant "EditsMeetModel" (110 : Nat) (1048576 : Int32)) ∈ xTs := xT_7 0 (by decide +kernel) rfl
theorem w_1524 : (Jvm.Cond.methodLink "EditsMeetModel" (115 : Nat) ({ cls := "EditsMeetModel", name := "adds", desc := "(II)V" } : Jvm.MethodName)) ∈ xTs := xT_7 1 (by decide +kernel) rfl
theorem w_1526 : (Jvm.Cond.instanceMethod ({ cls := "EditsMeetModel", name := "adds", desc := "(II)V" } : Jvm.MethodName)) ∈ xTs := xT_7 3 (by decide +kernel) rfl
theorem w_1527 : (Jvm.Cond.code ({ cls := "EditsMeetModel", name := "adds", desc := "(II)V" } : Jvm.MethodName) prog_14_method_6_code (3 : Nat) (Option.none : Option Jvm.ClassFile.FieldType)) ∈ xTs := xT_7 4 (by decide +kernel) rfl
theorem w_1534 : (Jvm.Cond.constant "EditsMeetModel" (108 : Nat) (2097152 : Int32)) ∈ xTs := xT_7 11 (by decide +kernel) rfl
theorem w_1535 : (Jvm.Cond.constant "EditsMeetModel" (109 : Nat) (3145728 : Int32)) ∈ xTs := xT_7 12 (by decide +kernel) rfl
theorem w_1536 : (Jvm.Cond.constant "EditsMeetModel" (126 : Nat) (4194304 : Int32)) ∈ xTs := xT_7 13 (by decide +kernel) rfl
theorem w_1537 : (Jvm.Cond.methodLink "EditsMeetModel" (122 : Nat) ({ cls := "EditsMeetModel", name := "plain", desc := "(I)V" } : Jvm.MethodName)) ∈ xTs := xT_7 14 (by decide +kernel) rfl
theorem w_1539 : (Jvm.Cond.instanceMethod ({ cls := "EditsMeetModel", name := "plain", desc := "(I)V" } : Jvm.MethodName)) ∈ xTs := xT_7 16 (by decide +kernel) rfl
theorem w_1540 : (Jvm.Cond.code ({ cls := "EditsMeetModel", name := "plain", desc := "(I)V" } : Jvm.MethodName) prog_14_method_10_code (6 : Nat) (Option.none : Option Jvm.ClassFile.FieldType)) ∈ xTs := xT_7 17 (by decide +kernel) rfl
theorem w_1541 : (Jvm.Cond.methodLink "EditsMeetModel" (104 : Nat) ({ cls := "EditsMeetModel", name := "kind", desc := "(I)I" } : Jvm.MethodName)) ∈ xTs := xT_7 18 (by decide +kernel) rfl
theorem w_1542 : (Jvm.Cond.static ({ cls := "EditsMeetModel", name := "kind", desc := "(I)I" } : Jvm.MethodName)) ∈ xTs := xT_7 19 (by decide +kernel) rfl
theorem w_1543 : (Jvm.Cond.code ({ cls := "EditsMeetModel", name := "kind", desc := "(I)I" } : Jvm.MethodName) prog_14_method_4_code (1 : Nat) (Option.some Jvm.ClassFile.FieldType.int)) ∈ xTs := xT_7 20 (by decide +kernel) rfl
theorem w_1544 : (Jvm.Cond.constant "EditsMeetModel" (92 : Nat) (7340032 : Int32)) ∈ xTs := xT_7 21 (by decide +kernel) rfl
theorem w_1549 : (Jvm.Cond.methodLink "EditsMeetModel" (101 : Nat) ({ cls := "EditsMeetModel", name := "keepsRow", desc := "(II)V" } : Jvm.MethodName)) ∈ xTs := xT_7 26 (by decide +kernel) rfl
theorem w_1551 : (Jvm.Cond.instanceMethod ({ cls := "EditsMeetModel", name := "keepsRow", desc := "(II)V" } : Jvm.MethodName)) ∈ xTs := xT_7 28 (by decide +kernel) rfl
theorem w_1552 : (Jvm.Cond.code ({ cls := "EditsMeetModel", name := "keepsRow", desc := "(II)V" } : Jvm.MethodName) prog_14_method_8_code (4 : Nat) (Option.none : Option Jvm.ClassFile.FieldType)) ∈ xTs := xT_7 29 (by decide +kernel) rfl
theorem w_1553 : (Jvm.Cond.methodLink "EditsMeetModel" (93 : Nat) ({ cls := "EditsMeetModel", name := "grown", desc := "([II)[I" } : Jvm.MethodName)) ∈ xTs := xT_7 30 (by decide +kernel) rfl
theorem w_1554 : (Jvm.Cond.static ({ cls := "EditsMeetModel", name := "grown", desc := "([II)[I" } : Jvm.MethodName)) ∈ xTs := xT_7 31 (by decide +kernel) rfl
theorem w_1555 : (Jvm.Cond.code ({ cls := "EditsMeetModel", name := "grown", desc := "([II)[I" } : Jvm.MethodName) prog_14_method_5_code (4 : Nat) (Option.some (Jvm.ClassFile.FieldType.array Jvm.ClassFile.FieldType.int))) ∈ xTs := xT_7 32 (by decide +kernel) rfl
theorem w_1576 : (Jvm.Cond.methodLink "EditsMeetModel" (111 : Nat) ({ cls := "EditsMeetModel", name := "count", desc := "([III)I" } : Jvm.MethodName)) ∈ xTs := xT_7 53 (by decide +kernel) rfl
theorem w_1577 : (Jvm.Cond.static ({ cls := "EditsMeetModel", name := "count", desc := "([III)I" } : Jvm.MethodName)) ∈ xTs := xT_7 54 (by decide +kernel) rfl
theorem w_1578 : (Jvm.Cond.code ({ cls := "EditsMeetModel", name := "count", desc := "([III)I" } : Jvm.MethodName) prog_14_method_11_code (5 : Nat) (Option.some Jvm.ClassFile.FieldType.int)) ∈ xTs := xT_7 55 (by decide +kernel) rfl
theorem w_1623 : (Jvm.Cond.methodLink "EditsMeetModel" (97 : Nat) ({ cls := "EditsMeetModel", name := "takesRow", desc := "(II)V" } : Jvm.MethodName)) ∈ xTs := xT_7 100 (by decide +kernel) rfl
theorem w_1625 : (Jvm.Cond.instanceMethod ({ cls := "EditsMeetModel", name := "takesRow", desc := "(II)V" } : Jvm.MethodName)) ∈ xTs := xT_7 102 (by decide +kernel) rfl
theorem w_1626 : (Jvm.Cond.code ({ cls := "EditsMeetModel", name := "takesRow", desc := "(II)V" } : Jvm.MethodName) prog_14_method_7_code (4 : Nat) (Option.none : Option Jvm.ClassFile.FieldType)) ∈ xTs := xT_7 103 (by decide +kernel) rfl
theorem w_1627 : (Jvm.Cond.methodLink "EditsMeetModel" (158 : Nat) ({ cls := "EditsMeetModel", name := "behindRow", desc := "(III)V" } : Jvm.MethodName)) ∈ xTs := xT_7 104 (by decide +kernel) rfl
theorem w_1629 : (Jvm.Cond.instanceMethod ({ cls := "EditsMeetModel", name := "behindRow", desc := "(III)V" } : Jvm.MethodName)) ∈ xTs := xT_7 106 (by decide +kernel) rfl
theorem w_1630 : (Jvm.Cond.code ({ cls := "EditsMeetModel", name := "behindRow", desc := "(III)V" } : Jvm.MethodName) prog_14_method_16_code (8 : Nat) (Option.none : Option Jvm.ClassFile.FieldType)) ∈ xTs := xT_7 107 (by decide +kernel) rfl
theorem w_1631 : (Jvm.Cond.methodLink "EditsMeetModel" (118 : Nat) ({ cls := "EditsMeetModel", name := "together", desc := "(III)V" } : Jvm.MethodName)) ∈ xTs := xT_7 108 (by decide +kernel) rfl
theorem w_1633 : (Jvm.Cond.instanceMethod ({ cls := "EditsMeetModel", name := "together", desc := "(III)V" } : Jvm.MethodName)) ∈ xTs := xT_7 110 (by decide +kernel) rfl
theorem w_1634 : (Jvm.Cond.code ({ cls := "EditsMeetModel", name := "together", desc := "(III)V" } : Jvm.MethodName) prog_14_method_17_code (6 : Nat) (Option.none : Option Jvm.ClassFile.FieldType)) ∈ xTs := xT_7 111 (by decide +kernel) rfl
theorem w_1635 : (Jvm.Cond.methodLink "EditsMeetModel" (127 : Nat) ({ cls := "EditsMeetModel", name := "marksOf", desc := "(II)I" } : Jvm.MethodName)) ∈ xTs := xT_7 112 (by decide +kernel) rfl
theorem w_1636 : (Jvm.Cond.static ({ cls := "EditsMeetModel", name := "marksOf", desc := "(II)I" } : Jvm.MethodName)) ∈ xTs := xT_7 113 (by decide +kernel) rfl
theorem w_1637 : (Jvm.Cond.code ({ cls := "EditsMeetModel", name := "marksOf", desc := "(II)I" } : Jvm.MethodName) prog_14_method_15_code (2 : Nat) (Option.some Jvm.ClassFile.FieldType.int)) ∈ xTs := xT_7 114 (by decide +kernel) rfl
theorem w_1650 : (Jvm.Cond.methodLink "EditsMeetModel" (164 : Nat) ({ cls := "EditsMeetModel", name := "overRow", desc := "(IIII)V" } : Jvm.MethodName)) ∈ xTs := xT_7 127 (by decide +kernel) rfl
theorem w_1652 : (Jvm.Cond.instanceMethod ({ cls := "EditsMeetModel", name := "overRow", desc := "(IIII)V" } : Jvm.MethodName)) ∈ xTs := xT_7 129 (by decide +kernel) rfl
theorem w_1653 : (Jvm.Cond.code ({ cls := "EditsMeetModel", name := "overRow", desc := "(IIII)V" } : Jvm.MethodName) prog_14_method_18_code (9 : Nat) (Option.none : Option Jvm.ClassFile.FieldType)) ∈ xTs := xT_7 130 (by decide +kernel) rfl
theorem w_1654 : (Jvm.Cond.methodLink "EditsMeetModel" (131 : Nat) ({ cls := "EditsMeetModel", name := "overOne", desc := "(IIII)V" } : Jvm.MethodName)) ∈ xTs := xT_7 131 (by decide +kernel) rfl
theorem w_1656 : (Jvm.Cond.instanceMethod ({ cls := "EditsMeetModel", name := "overOne", desc := "(IIII)V" } : Jvm.MethodName)) ∈ xTs := xT_7 133 (by decide +kernel) rfl
theorem w_1657 : (Jvm.Cond.code ({ cls := "EditsMeetModel", name := "overOne", desc := "(IIII)V" } : Jvm.MethodName) prog_14_method_19_code (7 : Nat) (Option.none : Option Jvm.ClassFile.FieldType)) ∈ xTs := xT_7 134 (by decide +kernel) rfl
theorem w_1665 : (Jvm.Cond.methodLink "EditsMeetModel" (145 : Nat) ({ cls := "EditsMeetModel", name := "turnedRow", desc := "(III)V" } : Jvm.MethodName)) ∈ xTs := xT_7 142 (by decide +kernel) rfl
theorem w_1667 : (Jvm.Cond.instanceMethod ({ cls := "EditsMeetModel", name := "turnedRow", desc := "(III)V" } : Jvm.MethodName)) ∈ xTs := xT_7 144 (by decide +kernel) rfl
theorem w_1668 : (Jvm.Cond.code ({ cls := "EditsMeetModel", name := "turnedRow", desc := "(III)V" } : Jvm.MethodName) prog_14_method_20_code (10 : Nat) (Option.none : Option Jvm.ClassFile.FieldType)) ∈ xTs := xT_7 145 (by decide +kernel) rfl
theorem w_1678 : (Jvm.Cond.methodLink "EditsMeetModel" (280 : Nat) ({ cls := "EditsMeetModel", name := "isFull", desc := "(II)Z" } : Jvm.MethodName)) ∈ xTs := xT_7 155 (by decide +kernel) rfl
theorem w_1680 : (Jvm.Cond.instanceMethod ({ cls := "EditsMeetModel", name := "isFull", desc := "(II)Z" } : Jvm.MethodName)) ∈ xTs := xT_7 157 (by decide +kernel) rfl
theorem w_1681 : (Jvm.Cond.code ({ cls := "EditsMeetModel", name := "isFull", desc := "(II)Z" } : Jvm.MethodName) prog_14_method_28_code (3 : Nat) (Option.some Jvm.ClassFile.FieldType.boolean)) ∈ xTs := xT_7 158 (by decide +kernel) rfl
theorem w_1682 : (Jvm.Cond.methodLink "EditsMeetModel" (161 : Nat) ({ cls := "EditsMeetModel", name := "resultLength", desc := "(I)I" } : Jvm.MethodName)) ∈ xTs := xT_7 159 (by decide +kernel) rfl
theorem w_1684 : (Jvm.Cond.instanceMethod ({ cls := "EditsMeetModel", name := "resultLength", desc := "(I)I" } : Jvm.MethodName)) ∈ xTs := xT_7 161 (by decide +kernel) rfl
theorem w_1685 : (Jvm.Cond.code ({ cls := "EditsMeetModel", name := "resultLength", desc := "(I)I" } : Jvm.MethodName) prog_14_method_27_code (2 : Nat) (Option.some Jvm.ClassFile.FieldType.int)) ∈ xTs := xT_7 162 (by decide +kernel) rfl
theorem w_1686 : (Jvm.Cond.methodLink "EditsMeetModel" (283 : Nat) ({ cls := "EditsMeetModel", name := "done", desc := "(IIZ)V" } : Jvm.MethodName)) ∈ xTs := xT_7 163 (by decide +kernel) rfl
theorem w_1688 : (Jvm.Cond.instanceMethod ({ cls := "EditsMeetModel", name := "done", desc := "(IIZ)V" } : Jvm.MethodName)) ∈ xTs := xT_7 165 (by decide +kernel) rfl
theorem w_1689 : (Jvm.Cond.code ({ cls := "EditsMeetModel", name := "done", desc := "(IIZ)V" } : Jvm.MethodName) prog_14_method_26_code (4 : Nat) (Option.none : Option Jvm.ClassFile.FieldType)) ∈ xTs := xT_7 166 (by decide +kernel) rfl
theorem w_1690 : (Jvm.Cond.methodLink "EditsMeetModel" (148 : Nat) ({ cls := "EditsMeetModel", name := "makes", desc := "(II)V" } : Jvm.MethodName)) ∈ xTs := xT_7 167 (by decide +kernel) rfl
theorem w_1692 : (Jvm.Cond.instanceMethod ({ cls := "EditsMeetModel", name := "makes", desc := "(II)V" } : Jvm.MethodName)) ∈ xTs := xT_7 169 (by decide +kernel) rfl
theorem w_1693 : (Jvm.Cond.code ({ cls := "EditsMeetModel", name := "makes", desc := "(II)V" } : Jvm.MethodName) prog_14_method_21_code (8 : Nat) (Option.none : Option Jvm.ClassFile.FieldType)) ∈ xTs := xT_7 170 (by decide +kernel) rfl
theorem w_1694 : (Jvm.Cond.methodLink "EditsMeetModel" (151 : Nat) ({ cls := "EditsMeetModel", name := "cursorGoes", desc := "(IIZ)V" } : Jvm.MethodName)) ∈ xTs := xT_7 171 (by decide +kernel) rfl
theorem w_1696 : (Jvm.Cond.instanceMethod ({ cls := "EditsMeetModel", name := "cursorGoes", desc := "(IIZ)V" } : Jvm.MethodName)) ∈ xTs := xT_7 173 (by decide +kernel) rfl
theorem w_1697 : (Jvm.Cond.code ({ cls := "EditsMeetModel", name := "cursorGoes", desc := "(IIZ)V" } : Jvm.MethodName) prog_14_method_24_code (4 : Nat) (Option.none : Option Jvm.ClassFile.FieldType)) ∈ xTs := xT_7 174 (by decide +kernel) rfl
theorem w_1698 : (Jvm.Cond.methodLink "EditsMeetModel" (135 : Nat) ({ cls := "EditsMeetModel", name := "st", desc := "(II)I" } : Jvm.MethodName)) ∈ xTs := xT_7 175 (by decide +kernel) rfl
theorem w_1700 : (Jvm.Cond.instanceMethod ({ cls := "EditsMeetModel", name := "st", desc := "(II)I" } : Jvm.MethodName)) ∈ xTs := xT_7 177 (by decide +kernel) rfl
theorem w_1701 : (Jvm.Cond.code ({ cls := "EditsMeetModel", name := "st", desc := "(II)I" } : Jvm.MethodName) prog_14_method_23_code (3 : Nat) (Option.some Jvm.ClassFile.FieldType.int)) ∈ xTs := xT_7 178 (by decide +kernel) rfl
theorem w_1702 : (Jvm.Cond.methodLink "EditsMeetModel" (138 : Nat) ({ cls := "EditsMeetModel", name := "goesAlong", desc := "(IIZ)I" } : Jvm.MethodName)) ∈ xTs := xT_7 179 (by decide +kernel) rfl
theorem w_1704 : (Jvm.Cond.instanceMethod ({ cls := "EditsMeetModel", name := "goesAlong", desc := "(IIZ)I" } : Jvm.MethodName)) ∈ xTs := xT_7 181 (by decide +kernel) rfl
theorem w_1705 : (Jvm.Cond.code ({ cls := "EditsMeetModel", name := "goesAlong", desc := "(IIZ)I" } : Jvm.MethodName) prog_14_method_22_code (8 : Nat) (Option.some Jvm.ClassFile.FieldType.int)) ∈ xTs := xT_7 182 (by decide +kernel) rfl
theorem w_1706 : (Jvm.Cond.methodLink "EditsMeetModel" (155 : Nat) ({ cls := "EditsMeetModel", name := "pushes", desc := "(III)V" } : Jvm.MethodName)) ∈ xTs := xT_7 183 (by decide +kernel) rfl
theorem w_1708 : (Jvm.Cond.instanceMethod ({ cls := "EditsMeetModel", name := "pushes", desc := "(III)V" } : Jvm.MethodName)) ∈ xTs := xT_7 185 (by decide +kernel) rfl
theorem w_1709 : (Jvm.Cond.code ({ cls := "EditsMeetModel", name := "pushes", desc := "(III)V" } : Jvm.MethodName) prog_14_method_25_code (7 : Nat) (Option.none : Option Jvm.ClassFile.FieldType)) ∈ xTs := xT_7 186 (by decide +kernel) rfl
theorem w_1710 : (Jvm.Cond.methodLink "EditsMeetModel" (142 : Nat) ({ cls := "EditsMeetModel", name := "copiesRow", desc := "(II)V" } : Jvm.MethodName)) ∈ xTs := xT_7 187 (by decide +kernel) rfl
theorem w_1712 : (Jvm.Cond.instanceMethod ({ cls := "EditsMeetModel", name := "copiesRow", desc := "(II)V" } : Jvm.MethodName)) ∈ xTs := xT_7 189 (by decide +kernel) rfl
theorem w_1713 : (Jvm.Cond.code ({ cls := "EditsMeetModel", name := "copiesRow", desc := "(II)V" } : Jvm.MethodName) prog_14_method_9_code (3 : Nat) (Option.none : Option Jvm.ClassFile.FieldType)) ∈ xTs := xT_7 190 (by decide +kernel) rfl
theorem w_1720 : (Jvm.Cond.methodLink "EditsMeetModel" (290 : Nat) ({ cls := "EditsMeetModel", name := "inserts", desc := "(III)V" } : Jvm.MethodName)) ∈ xTs := xT_7 197 (by decide +kernel) rfl
theorem w_1722 : (Jvm.Cond.instanceMethod ({ cls := "EditsMeetModel", name := "inserts", desc := "(III)V" } : Jvm.MethodName)) ∈ xTs := xT_7 199 (by decide +kernel) rfl
theorem w_1723 : (Jvm.Cond.code ({ cls := "EditsMeetModel", name := "inserts", desc := "(III)V" } : Jvm.MethodName) prog_14_method_62_code (5 : Nat) (Option.none : Option Jvm.ClassFile.FieldType)) ∈ xTs := xT_7 200 (by decide +kernel) rfl
theorem w_1732 : (Jvm.Cond.methodLink "EditsMeetModel" (297 : Nat) ({ cls := "EditsMeetModel", name := "keepsAllBut", desc := "(IIII)V" } : Jvm.MethodName)) ∈ xTs := xT_7 209 (by decide +kernel) rfl
theorem w_1734 : (Jvm.Cond.instanceMethod ({ cls := "EditsMeetModel", name := "keepsAllBut", desc := "(IIII)V" } : Jvm.MethodName)) ∈ xTs := xT_7 211 (by decide +kernel) rfl
theorem w_1735 : (Jvm.Cond.code ({ cls := "EditsMeetModel", name := "keepsAllBut", desc := "(IIII)V" } : Jvm.MethodName) prog_14_method_61_code (6 : Nat) (Option.none : Option Jvm.ClassFile.FieldType)) ∈ xTs := xT_7 212 (by decide +kernel) rfl
theorem w_1744 : (Jvm.Cond.methodLink "EditsMeetModel" (300 : Nat) ({ cls := "EditsMeetModel", name := "serves", desc := "(I)I" } : Jvm.MethodName)) ∈ xTs := xT_7 221 (by decide +kernel) rfl
theorem w_1746 : (Jvm.Cond.instanceMethod ({ cls := "EditsMeetModel", name := "serves", desc := "(I)I" } : Jvm.MethodName)) ∈ xTs := xT_7 223 (by decide +kernel) rfl
theorem w_1747 : (Jvm.Cond.code ({ cls := "EditsMeetModel", name := "serves", desc := "(I)I" } : Jvm.MethodName) prog_14_method_29_code (3 : Nat) (Option.some Jvm.ClassFile.FieldType.int)) ∈ xTs := xT_7 224 (by decide +kernel) rfl
theorem w_1748 : (Jvm.Cond.methodLink "EditsMeetModel" (167 : Nat) ({ cls := "EditsMeetModel", name := "keepsWork", desc := "(II)V" } : Jvm.MethodName)) ∈ xTs := xT_7 225 (by decide +kernel) rfl
theorem w_1750 : (Jvm.Cond.instanceMethod ({ cls := "EditsMeetModel", name := "keepsWork", desc := "(II)V" } : Jvm.MethodName)) ∈ xTs := xT_7 227 (by decide +kernel) rfl
theorem w_1751 : (Jvm.Cond.code ({ cls := "EditsMeetModel", name := "keepsWork", desc := "(II)V" } : Jvm.MethodName) prog_14_method_30_code (4 : Nat) (Option.none : Option Jvm.ClassFile.FieldType)) ∈ xTs := xT_7 228 (by decide +kernel) rfl
theorem w_1756 : (Jvm.Cond.methodLink "EditsMeetModel" (303 : Nat) ({ cls := "EditsMeetModel", name := "hears", desc := "(I)V" } : Jvm.MethodName)) ∈ xTs := xT_7 233 (by decide +kernel) rfl
theorem w_1758 : (Jvm.Cond.instanceMethod ({ cls := "EditsMeetModel", name := "hears", desc := "(I)V" } : Jvm.MethodName)) ∈ xTs := xT_7 235 (by decide +kernel) rfl
theorem w_1759 : (Jvm.Cond.code ({ cls := "EditsMeetModel", name := "hears", desc := "(I)V" } : Jvm.MethodName) prog_14_method_32_code (4 : Nat) (Option.none : Option Jvm.ClassFile.FieldType)) ∈ xTs := xT_7 236 (by decide +kernel) rfl
theorem w_1760 : (Jvm.Cond.methodLink "EditsMeetModel" (170 : Nat) ({ cls := "EditsMeetModel", name := "crosses", desc := "(I)V" } : Jvm.MethodName)) ∈ xTs := xT_7 237 (by decide +kernel) rfl
theorem w_1762 : (Jvm.Cond.instanceMethod ({ cls := "EditsMeetModel", name := "crosses", desc := "(I)V" } : Jvm.MethodName)) ∈ xTs := xT_7 239 (by decide +kernel) rfl
theorem w_1763 : (Jvm.Cond.code ({ cls := "EditsMeetModel", name := "crosses", desc := "(I)V" } : Jvm.MethodName) prog_14_method_31_code (2 : Nat) (Option.none : Option Jvm.ClassFile.FieldType)) ∈ xTs := xT_8 0 (by decide +kernel) rfl
theorem w_1780 : (Jvm.Cond.methodLink "EditsMeetModel" (312 : Nat) ({ cls := "EditsMeetModel", name := "again", desc := "(II)I" } : Jvm.MethodName)) ∈ xTs := xT_8 17 (by decide +kernel) rfl
theorem w_1782 : (Jvm.Cond.instanceMethod ({ cls := "EditsMeetModel", name := "again", desc := "(II)I" } : Jvm.MethodName)) ∈ xTs := xT_8 19 (by decide +kernel) rfl
theorem w_1783 : (Jvm.Cond.code ({ cls := "EditsMeetModel", name := "again", desc := "(II)I" } : Jvm.MethodName) prog_14_method_72_code (4 : Nat) (Option.some Jvm.ClassFile.FieldType.int)) ∈ xTs := xT_8 20 (by decide +kernel) rfl
theorem w_1882 : (Jvm.Cond.constantLong "EditsMeetModel" (350 : Nat) (60 : Int64)) ∈ xTs := xT_8 119 (by decide +kernel) rfl
theorem w_1883 : (Jvm.Cond.methodLink "EditsMeetModel" (347 : Nat) ({ cls := "EditsMeetModel", name := "draw", desc := "(I)I" } : Jvm.MethodName)) ∈ xTs := xT_8 120 (by decide +kernel) rfl
theorem w_1885 : (Jvm.Cond.instanceMethod ({ cls := "EditsMeetModel", name := "draw", desc := "(I)I" } : Jvm.MethodName)) ∈ xTs := xT_8 122 (by decide +kernel) rfl
theorem w_1886 : (Jvm.Cond.code ({ cls := "EditsMeetModel", name := "draw", desc := "(I)I" } : Jvm.MethodName) prog_14_method_97_code (2 : Nat) (Option.some Jvm.ClassFile.FieldType.int)) ∈ xTs := xT_8 123 (by decide +kernel) rfl
theorem w_1887 : (Jvm.Cond.constant "EditsMeetModel" (346 : Nat) (1103515245 : Int32)) ∈ xTs := xT_8 124 (by decide +kernel) rfl
theorem w_1888 : (Jvm.Cond.methodLink "EditsMeetModel" (352 : Nat) ({ cls := "EditsMeetModel", name := "isDay", desc := "(II)Z" } : Jvm.MethodName)) ∈ xTs := xT_8 125 (by decide +kernel) rfl
theorem w_1890 : (Jvm.Cond.instanceMethod ({ cls := "EditsMeetModel", name := "isDay", desc := "(II)Z" } : Jvm.MethodName)) ∈ xTs := xT_8 127 (by decide +kernel) rfl
theorem w_1891 : (Jvm.Cond.code ({ cls := "EditsMeetModel", name := "isDay", desc := "(II)Z" } : Jvm.MethodName) prog_14_method_98_code (6 : Nat) (Option.some Jvm.ClassFile.FieldType.boolean)) ∈ xTs := xT_8 128 (by decide +kernel) rfl
theorem w_1932 : (Jvm.Cond.selects "[Ljava/lang/Object;" ({ cls := "java/lang/Object", name := "getClass", desc := "()Ljava/lang/Class;" } : Jvm.MethodName) ({ cls := "java/lang/Object", name := "getClass", desc := "()Ljava/lang/Class;" } : Jvm.MethodName)) ∈ xTs := xT_8 169 (by decide +kernel) rfl
