def xTs : List Cond := lw_tbl.filter goodWord
theorem xTm {w : Cond} (i : Nat) (h : lw_tbl[i]? = some w) (g : goodWord w = true) : w ∈ xTs := List.mem_filter.mpr ⟨List.mem_of_getElem? h, g⟩
theorem hTs : xTsok xTs := fun w h => good_of_word (List.mem_filter.mp h).2
def xNW : List Cond := [.arrayOver (.object "EditsMeet$Edit"), .arrayOver (.object "EditsMeet$Shelf"), .fieldLinkNest "EditsMeet$Tape" 29 "EditsMeet$Row" "size" "I" "EditsMeet", .fieldLinkNest "EditsMeet$Edit" 38 "EditsMeet$Row" "size" "I" "EditsMeet", .fieldLinkNest "EditsMeet" 167 "EditsMeet$Row" "size" "I" "EditsMeet", .fieldLinkNest "EditsMeet" 164 "EditsMeet$Tape" "bytes" "LEditsMeet$Row;" "EditsMeet", .methodLinkNest "EditsMeet$Loom" 11 ⟨"EditsMeet$Walk", "<init>", "()V"⟩ "EditsMeet", .fieldLinkNest "EditsMeet$Loom" 60 "EditsMeet$Walk" "kind" "I" "EditsMeet", .fieldLinkNest "EditsMeet$Loom" 89 "EditsMeet$Walk" "done" "J" "EditsMeet", .fieldLinkNest "EditsMeet$Loom" 64 "EditsMeet$Walk" "left" "J" "EditsMeet", .fieldLinkNest "EditsMeet$Loom" 96 "EditsMeet$Walk" "on" "I" "EditsMeet", .fieldLinkNest "EditsMeet$Loom" 99 "EditsMeet$Walk" "off" "I" "EditsMeet", .fieldLinkNest "EditsMeet$Walk" 50 "EditsMeet$Edit" "letters" "LEditsMeet$Letters;" "EditsMeet", .fieldLinkNest "EditsMeet$Walk" 37 "EditsMeet$Edit" "parts" "LEditsMeet$Row;" "EditsMeet", .fieldLinkNest "EditsMeet$Letters" 159 "EditsMeet$Edit" "hasInserts" "Z" "EditsMeet", .fieldLinkNest "EditsMeet" 183 "EditsMeet$Edit" "from" "J" "EditsMeet", .fieldLinkNest "EditsMeet$Client" 50 "EditsMeet$Edit" "to" "J" "EditsMeet", .fieldLinkNest "EditsMeet$Meeting" 114 "EditsMeet$Edit" "to" "J" "EditsMeet", .fieldLinkNest "EditsMeet" 190 "EditsMeet$Edit" "to" "J" "EditsMeet", .arrayOver (.object "java/lang/Object"), .fieldLinkNest "EditsMeet$Meeting" 70 "EditsMeet$Loom" "woven" "LEditsMeet$Edit;" "EditsMeet", .fieldLinkNest "EditsMeet$Client" 87 "EditsMeet$Loom" "woven" "LEditsMeet$Edit;" "EditsMeet", .fieldLinkNest "EditsMeet$Client" 126 "EditsMeet$Loom" "coming" "LEditsMeet$Edit;" "EditsMeet", .fieldLinkNest "EditsMeet$Client" 132 "EditsMeet$Loom" "came" "LEditsMeet$Edit;" "EditsMeet", .arrayOver (.object "EditsMeet$Client"), .fieldLinkNest "EditsMeet$Client" 135 "EditsMeet$History" "count" "I" "EditsMeet", .fieldLinkNest "EditsMeet" 287 "EditsMeet$History" "count" "I" "EditsMeet", .fieldLinkNest "EditsMeet$Meeting" 46 "EditsMeet$Client" "text" "LEditsMeet$Edit;" "EditsMeet", .fieldLinkNest "EditsMeet" 234 "EditsMeet$Client" "text" "LEditsMeet$Edit;" "EditsMeet", .fieldLinkNest "EditsMeet$Meeting" 58 "EditsMeet$Client" "sent" "LEditsMeet$Edit;" "EditsMeet", .fieldLinkNest "EditsMeet" 332 "EditsMeet$Client" "sent" "LEditsMeet$Edit;" "EditsMeet", .fieldLinkNest "EditsMeet" 341 "EditsMeet$Client" "waiting" "LEditsMeet$Edit;" "EditsMeet", .fieldLinkNest "EditsMeet" 267 "EditsMeet$Client" "undos" "LEditsMeet$History;" "EditsMeet", .fieldLinkNest "EditsMeet" 280 "EditsMeet$Client" "redos" "LEditsMeet$History;" "EditsMeet", .fieldLinkNest "EditsMeet$Meeting" 111 "EditsMeet$Client" "hasSent" "Z" "EditsMeet", .fieldLinkNest "EditsMeet" 328 "EditsMeet$Client" "hasSent" "Z" "EditsMeet", .fieldLinkNest "EditsMeet$Meeting" 90 "EditsMeet$Client" "isServed" "Z" "EditsMeet", .fieldLinkNest "EditsMeet" 335 "EditsMeet$Client" "isServed" "Z" "EditsMeet", .fieldLinkNest "EditsMeet" 338 "EditsMeet$Client" "hasWaiting" "Z" "EditsMeet", .fieldLinkNest "EditsMeet$Meeting" 67 "EditsMeet$Client" "revision" "I" "EditsMeet", .fieldLinkNest "EditsMeet" 314 "EditsMeet$Client" "revision" "I" "EditsMeet", .fieldLinkNest "EditsMeet" 289 "EditsMeet$Client" "place" "J" "EditsMeet", .fieldLinkNest "EditsMeet" 292 "EditsMeet$Client" "otherPlace" "J" "EditsMeet", .fieldLinkNest "EditsMeet" 317 "EditsMeet$Meeting" "revisions" "LEditsMeet$Revisions;" "EditsMeet", .fieldLinkNest "EditsMeet" 309 "EditsMeet$Meeting" "count" "I" "EditsMeet", .fieldLinkNest "EditsMeet" 380 "EditsMeet$Meeting" "seed" "I" "EditsMeet", .methodLinkNest "EditsMeet" 153 ⟨"EditsMeet$Shelf", "<init>", "()V"⟩ "EditsMeet", .fieldLinkNest "EditsMeet" 106 "EditsMeet$Shelf" "held" "I" "EditsMeet", .fieldLinkNest "EditsMeet" 98 "EditsMeet$Shelf" "size" "J" "EditsMeet", .methodLinkNest "EditsMeet$Shelf" 72 ⟨"EditsMeet", "isStretch", "(IIJ)Z"⟩ "EditsMeet", .methodLinkNest "EditsMeet$Shelf" 64 ⟨"EditsMeet", "told", "(J)I"⟩ "EditsMeet", .castable "[J" "java/lang/Cloneable", .castable "[I" "java/lang/Cloneable", .arrayOver (.array .int), .castable "EditsMeet$Edit" "java/lang/Object", .castable "EditsMeet$Shelf" "java/lang/Object", .castable "EditsMeet$Client" "java/lang/Object", .castable "EditsMeet" "java/lang/Object", .castable "EditsMeet$Letters" "java/lang/Object", .castable "java/util/ArrayList" "java/lang/Object", .castable "EditsMeet$Tape" "java/lang/Object", .castable "EditsMeet$Row" "java/lang/Object", .castable "EditsMeet$Loom" "java/lang/Object", .castable "EditsMeet$Walk" "java/lang/Object", .castable "EditsMeet$Meeting" "java/lang/Object", .castable "EditsMeet$Revisions" "java/lang/Object", .castable "EditsMeet$History" "java/lang/Object", .castable "EditsMeetModel" "java/lang/Object", .castable "[LEditsMeet$Edit;" "java/lang/Object", .castable "[LEditsMeet$Shelf;" "java/lang/Object", .castable "[I" "java/lang/Object", .castable "[J" "java/lang/Object", .castable "[Ljava/lang/Object;" "java/lang/Object", .castable "[LEditsMeet$Client;" "java/lang/Object", .castable "[[I" "java/lang/Object", .castable "[Z" "java/lang/Object"]
theorem xNm {w : Cond} (i : Nat) (h : xNW[i]? = some w) : w ∈ xNW := List.mem_of_getElem? h
theorem hNW : xNWok xNW := by
  show ∀ w ∈ xNW, xNWw w
  exact List.forall_mem_cons.mpr ⟨xNW_O, List.forall_mem_cons.mpr ⟨xNW_O, List.forall_mem_cons.mpr ⟨xNW_F, List.forall_mem_cons.mpr ⟨xNW_F, List.forall_mem_cons.mpr ⟨xNW_F, List.forall_mem_cons.mpr ⟨xNW_F, List.forall_mem_cons.mpr ⟨xNW_M, List.forall_mem_cons.mpr ⟨xNW_F, List.forall_mem_cons.mpr ⟨xNW_F, List.forall_mem_cons.mpr ⟨xNW_F, List.forall_mem_cons.mpr ⟨xNW_F, List.forall_mem_cons.mpr ⟨xNW_F, List.forall_mem_cons.mpr ⟨xNW_F, List.forall_mem_cons.mpr ⟨xNW_F, List.forall_mem_cons.mpr ⟨xNW_F, List.forall_mem_cons.mpr ⟨xNW_F, List.forall_mem_cons.mpr ⟨xNW_F, List.forall_mem_cons.mpr ⟨xNW_F, List.forall_mem_cons.mpr ⟨xNW_F, List.forall_mem_cons.mpr ⟨xNW_O, List.forall_mem_cons.mpr ⟨xNW_F, List.forall_mem_cons.mpr ⟨xNW_F, List.forall_mem_cons.mpr ⟨xNW_F, List.forall_mem_cons.mpr ⟨xNW_F, List.forall_mem_cons.mpr ⟨xNW_O, List.forall_mem_cons.mpr ⟨xNW_F, List.forall_mem_cons.mpr ⟨xNW_F, List.forall_mem_cons.mpr ⟨xNW_F, List.forall_mem_cons.mpr ⟨xNW_F, List.forall_mem_cons.mpr ⟨xNW_F, List.forall_mem_cons.mpr ⟨xNW_F, List.forall_mem_cons.mpr ⟨xNW_F, List.forall_mem_cons.mpr ⟨xNW_F, List.forall_mem_cons.mpr ⟨xNW_F, List.forall_mem_cons.mpr ⟨xNW_F, List.forall_mem_cons.mpr ⟨xNW_F, List.forall_mem_cons.mpr ⟨xNW_F, List.forall_mem_cons.mpr ⟨xNW_F, List.forall_mem_cons.mpr ⟨xNW_F, List.forall_mem_cons.mpr ⟨xNW_F, List.forall_mem_cons.mpr ⟨xNW_F, List.forall_mem_cons.mpr ⟨xNW_F, List.forall_mem_cons.mpr ⟨xNW_F, List.forall_mem_cons.mpr ⟨xNW_F, List.forall_mem_cons.mpr ⟨xNW_F, List.forall_mem_cons.mpr ⟨xNW_F, List.forall_mem_cons.mpr ⟨xNW_M, List.forall_mem_cons.mpr ⟨xNW_F, List.forall_mem_cons.mpr ⟨xNW_F, List.forall_mem_cons.mpr ⟨xNW_M, List.forall_mem_cons.mpr ⟨xNW_M, List.forall_mem_cons.mpr ⟨xNW_C, List.forall_mem_cons.mpr ⟨xNW_C, List.forall_mem_cons.mpr ⟨xNW_A, List.forall_mem_cons.mpr ⟨xNW_C, List.forall_mem_cons.mpr ⟨xNW_C, List.forall_mem_cons.mpr ⟨xNW_C, List.forall_mem_cons.mpr ⟨xNW_C, List.forall_mem_cons.mpr ⟨xNW_C, List.forall_mem_cons.mpr ⟨xNW_C, List.forall_mem_cons.mpr ⟨xNW_C, List.forall_mem_cons.mpr ⟨xNW_C, List.forall_mem_cons.mpr ⟨xNW_C, List.forall_mem_cons.mpr ⟨xNW_C, List.forall_mem_cons.mpr ⟨xNW_C, List.forall_mem_cons.mpr ⟨xNW_C, List.forall_mem_cons.mpr ⟨xNW_C, List.forall_mem_cons.mpr ⟨xNW_C, List.forall_mem_cons.mpr ⟨xNW_C, List.forall_mem_cons.mpr ⟨xNW_C, List.forall_mem_cons.mpr ⟨xNW_C, List.forall_mem_cons.mpr ⟨xNW_C, List.forall_mem_cons.mpr ⟨xNW_C, List.forall_mem_cons.mpr ⟨xNW_C, List.forall_mem_cons.mpr ⟨xNW_C, List.forall_mem_cons.mpr ⟨xNW_C, fun _ h => absurd h List.not_mem_nil⟩⟩⟩⟩⟩⟩⟩⟩⟩⟩⟩⟩⟩⟩⟩⟩⟩⟩⟩⟩⟩⟩⟩⟩⟩⟩⟩⟩⟩⟩⟩⟩⟩⟩⟩⟩⟩⟩⟩⟩⟩⟩⟩⟩⟩⟩⟩⟩⟩⟩⟩⟩⟩⟩⟩⟩⟩⟩⟩⟩⟩⟩⟩⟩⟩⟩⟩⟩⟩⟩⟩⟩⟩⟩⟩⟩
theorem xNW_in : ∀ w ∈ xNW, w ∈ lw_tbl := List.forall_mem_cons.mpr ⟨List.mem_of_getElem? (i := 116) (by decide +kernel), List.forall_mem_cons.mpr ⟨List.mem_of_getElem? (i := 118) (by decide +kernel), List.forall_mem_cons.mpr ⟨List.mem_of_getElem? (i := 215) (by decide +kernel), List.forall_mem_cons.mpr ⟨List.mem_of_getElem? (i := 216) (by decide +kernel), List.forall_mem_cons.mpr ⟨List.mem_of_getElem? (i := 217) (by decide +kernel), List.forall_mem_cons.mpr ⟨List.mem_of_getElem? (i := 226) (by decide +kernel), List.forall_mem_cons.mpr ⟨List.mem_of_getElem? (i := 246) (by decide +kernel), List.forall_mem_cons.mpr ⟨List.mem_of_getElem? (i := 252) (by decide +kernel), List.forall_mem_cons.mpr ⟨List.mem_of_getElem? (i := 254) (by decide +kernel), List.forall_mem_cons.mpr ⟨List.mem_of_getElem? (i := 256) (by decide +kernel), List.forall_mem_cons.mpr ⟨List.mem_of_getElem? (i := 258) (by decide +kernel), List.forall_mem_cons.mpr ⟨List.mem_of_getElem? (i := 260) (by decide +kernel), List.forall_mem_cons.mpr ⟨List.mem_of_getElem? (i := 290) (by decide +kernel), List.forall_mem_cons.mpr ⟨List.mem_of_getElem? (i := 292) (by decide +kernel), List.forall_mem_cons.mpr ⟨List.mem_of_getElem? (i := 294) (by decide +kernel), List.forall_mem_cons.mpr ⟨List.mem_of_getElem? (i := 296) (by decide +kernel), List.forall_mem_cons.mpr ⟨List.mem_of_getElem? (i := 298) (by decide +kernel), List.forall_mem_cons.mpr ⟨List.mem_of_getElem? (i := 299) (by decide +kernel), List.forall_mem_cons.mpr ⟨List.mem_of_getElem? (i := 300) (by decide +kernel), List.forall_mem_cons.mpr ⟨List.mem_of_getElem? (i := 363) (by decide +kernel), List.forall_mem_cons.mpr ⟨List.mem_of_getElem? (i := 377) (by decide +kernel), List.forall_mem_cons.mpr ⟨List.mem_of_getElem? (i := 378) (by decide +kernel), List.forall_mem_cons.mpr ⟨List.mem_of_getElem? (i := 381) (by decide +kernel), List.forall_mem_cons.mpr ⟨List.mem_of_getElem? (i := 383) (by decide +kernel), List.forall_mem_cons.mpr ⟨List.mem_of_getElem? (i := 424) (by decide +kernel), List.forall_mem_cons.mpr ⟨List.mem_of_getElem? (i := 442) (by decide +kernel), List.forall_mem_cons.mpr ⟨List.mem_of_getElem? (i := 443) (by decide +kernel), List.forall_mem_cons.mpr ⟨List.mem_of_getElem? (i := 453) (by decide +kernel), List.forall_mem_cons.mpr ⟨List.mem_of_getElem? (i := 454) (by decide +kernel), List.forall_mem_cons.mpr ⟨List.mem_of_getElem? (i := 456) (by decide +kernel), List.forall_mem_cons.mpr ⟨List.mem_of_getElem? (i := 457) (by decide +kernel), List.forall_mem_cons.mpr ⟨List.mem_of_getElem? (i := 459) (by decide +kernel), List.forall_mem_cons.mpr ⟨List.mem_of_getElem? (i := 461) (by decide +kernel), List.forall_mem_cons.mpr ⟨List.mem_of_getElem? (i := 463) (by decide +kernel), List.forall_mem_cons.mpr ⟨List.mem_of_getElem? (i := 465) (by decide +kernel), List.forall_mem_cons.mpr ⟨List.mem_of_getElem? (i := 466) (by decide +kernel), List.forall_mem_cons.mpr ⟨List.mem_of_getElem? (i := 468) (by decide +kernel), List.forall_mem_cons.mpr ⟨List.mem_of_getElem? (i := 469) (by decide +kernel), List.forall_mem_cons.mpr ⟨List.mem_of_getElem? (i := 471) (by decide +kernel), List.forall_mem_cons.mpr ⟨List.mem_of_getElem? (i := 472) (by decide +kernel), List.forall_mem_cons.mpr ⟨List.mem_of_getElem? (i := 474) (by decide +kernel), List.forall_mem_cons.mpr ⟨List.mem_of_getElem? (i := 476) (by decide +kernel), List.forall_mem_cons.mpr ⟨List.mem_of_getElem? (i := 478) (by decide +kernel), List.forall_mem_cons.mpr ⟨List.mem_of_getElem? (i := 505) (by decide +kernel), List.forall_mem_cons.mpr ⟨List.mem_of_getElem? (i := 510) (by decide +kernel), List.forall_mem_cons.mpr ⟨List.mem_of_getElem? (i := 512) (by decide +kernel), List.forall_mem_cons.mpr ⟨List.mem_of_getElem? (i := 573) (by decide +kernel), List.forall_mem_cons.mpr ⟨List.mem_of_getElem? (i := 578) (by decide +kernel), List.forall_mem_cons.mpr ⟨List.mem_of_getElem? (i := 580) (by decide +kernel), List.forall_mem_cons.mpr ⟨List.mem_of_getElem? (i := 634) (by decide +kernel), List.forall_mem_cons.mpr ⟨List.mem_of_getElem? (i := 743) (by decide +kernel), List.forall_mem_cons.mpr ⟨List.mem_of_getElem? (i := 771) (by decide +kernel), List.forall_mem_cons.mpr ⟨List.mem_of_getElem? (i := 829) (by decide +kernel), List.forall_mem_cons.mpr ⟨List.mem_of_getElem? (i := 1387) (by decide +kernel), List.forall_mem_cons.mpr ⟨List.mem_of_getElem? (i := 1917) (by decide +kernel), List.forall_mem_cons.mpr ⟨List.mem_of_getElem? (i := 1918) (by decide +kernel), List.forall_mem_cons.mpr ⟨List.mem_of_getElem? (i := 1919) (by decide +kernel), List.forall_mem_cons.mpr ⟨List.mem_of_getElem? (i := 1920) (by decide +kernel), List.forall_mem_cons.mpr ⟨List.mem_of_getElem? (i := 1921) (by decide +kernel), List.forall_mem_cons.mpr ⟨List.mem_of_getElem? (i := 1922) (by decide +kernel), List.forall_mem_cons.mpr ⟨List.mem_of_getElem? (i := 1923) (by decide +kernel), List.forall_mem_cons.mpr ⟨List.mem_of_getElem? (i := 1924) (by decide +kernel), List.forall_mem_cons.mpr ⟨List.mem_of_getElem? (i := 1925) (by decide +kernel), List.forall_mem_cons.mpr ⟨List.mem_of_getElem? (i := 1926) (by decide +kernel), List.forall_mem_cons.mpr ⟨List.mem_of_getElem? (i := 1927) (by decide +kernel), List.forall_mem_cons.mpr ⟨List.mem_of_getElem? (i := 1928) (by decide +kernel), List.forall_mem_cons.mpr ⟨List.mem_of_getElem? (i := 1929) (by decide +kernel), List.forall_mem_cons.mpr ⟨List.mem_of_getElem? (i := 1930) (by decide +kernel), List.forall_mem_cons.mpr ⟨List.mem_of_getElem? (i := 1934) (by decide +kernel), List.forall_mem_cons.mpr ⟨List.mem_of_getElem? (i := 1935) (by decide +kernel), List.forall_mem_cons.mpr ⟨List.mem_of_getElem? (i := 1936) (by decide +kernel), List.forall_mem_cons.mpr ⟨List.mem_of_getElem? (i := 1937) (by decide +kernel), List.forall_mem_cons.mpr ⟨List.mem_of_getElem? (i := 1938) (by decide +kernel), List.forall_mem_cons.mpr ⟨List.mem_of_getElem? (i := 1939) (by decide +kernel), List.forall_mem_cons.mpr ⟨List.mem_of_getElem? (i := 1940) (by decide +kernel), List.forall_mem_cons.mpr ⟨List.mem_of_getElem? (i := 1941) (by decide +kernel), fun _ h => absurd h List.not_mem_nil⟩⟩⟩⟩⟩⟩⟩⟩⟩⟩⟩⟩⟩⟩⟩⟩⟩⟩⟩⟩⟩⟩⟩⟩⟩⟩⟩⟩⟩⟩⟩⟩⟩⟩⟩⟩⟩⟩⟩⟩⟩⟩⟩⟩⟩⟩⟩⟩⟩⟩⟩⟩⟩⟩⟩⟩⟩⟩⟩⟩⟩⟩⟩⟩⟩⟩⟩⟩⟩⟩⟩⟩⟩⟩⟩⟩
def xcl : List vw_C := [(RX0, TX0, 12), (RX1, TX1, 5), (RX2, TX2, 3), (RX3, TX3, 15), (RX4, TX4, 7), (RX5, TX5, 6), (RX6, TX6, 3), (RX7, TX7, 3), (RX8, TX8, 6), (RX9, TX9, 3), (RX10, TX10, 7), (RX11, TX11, 10), (RX12, TX12, 33), (RJx4a65c, TJx4a65c, 3)]
def xtf : Nat → FieldType := fun tc => match tc with
  | 0 => .int
  | 1 => .long
  | 2 => .boolean
  | 10 => .array (.int)
  | _ => .object "java/lang/Object"
theorem xnull0 (G : XG) : xrel G (.inr (.inr (.inl 0))) .null := by
  show Value.null = (if 0 = 0 then Value.null else .ref (G.1 0))
  rw [if_pos rfl]
theorem C_0 {a : XA} {y : XM} (ha : xOkA xcl xtf y a) : (xCl a)[0]? = some (RX0, TX0, 12) := by rw [ha.2.2.2.2.1]; rfl
theorem U_0 : ∀ w ∈ u_ws RX0 TX0 12, w ∈ xTs := by decide +kernel
theorem F_0 (G : XG) : ∃ vs : List Value, xSR G [.inl 0, .inr (.inr (.inl 0)), .inr (.inr (.inl 0)), .inr (.inr (.inl 0)), .inr (.inr (.inl 0)), .inr (.inr (.inl 0)), .inl 0, .inl 0, .inl 0, .inl 0, .inr (.inl 0), .inr (.inl 0)] vs ∧ ∀ j, j < 12 → defaultValue (tyX0 j) = vp_V vs j := ⟨[.int 0, .null, .null, .null, .null, .null, .int 0, .int 0, .int 0, .int 0, .long 0, .long 0], ⟨⟨0, rfl, rfl⟩, xnull0 _, xnull0 _, xnull0 _, xnull0 _, xnull0 _, ⟨0, rfl, rfl⟩, ⟨0, rfl, rfl⟩, ⟨0, rfl, rfl⟩, ⟨0, rfl, rfl⟩, ⟨0, rfl, rfl⟩, ⟨0, rfl, rfl⟩, trivial⟩, fun j hj => by
  match j, hj with
  | 0, _ => rfl
  | 1, _ => rfl
  | 2, _ => rfl
  | 3, _ => rfl
  | 4, _ => rfl
  | 5, _ => rfl
  | 6, _ => rfl
  | 7, _ => rfl
  | 8, _ => rfl
  | 9, _ => rfl
  | 10, _ => rfl
  | 11, _ => rfl
  | n + 12, h => exact absurd h (by omega)⟩
theorem C_1 {a : XA} {y : XM} (ha : xOkA xcl xtf y a) : (xCl a)[1]? = some (RX1, TX1, 5) := by rw [ha.2.2.2.2.1]; rfl
theorem U_1 : ∀ w ∈ u_ws RX1 TX1 5, w ∈ xTs := by decide +kernel
theorem F_1 (G : XG) : ∃ vs : List Value, xSR G [.inr (.inr (.inl 0)), .inr (.inr (.inl 0)), .inl 0, .inr (.inl 0), .inr (.inl 0)] vs ∧ ∀ j, j < 5 → defaultValue (tyX1 j) = vp_V vs j := ⟨[.null, .null, .int 0, .long 0, .long 0], ⟨xnull0 _, xnull0 _, ⟨0, rfl, rfl⟩, ⟨0, rfl, rfl⟩, ⟨0, rfl, rfl⟩, trivial⟩, fun j hj => by
  match j, hj with
  | 0, _ => rfl
  | 1, _ => rfl
  | 2, _ => rfl
  | 3, _ => rfl
  | 4, _ => rfl
  | n + 5, h => exact absurd h (by omega)⟩
theorem C_2 {a : XA} {y : XM} (ha : xOkA xcl xtf y a) : (xCl a)[2]? = some (RX2, TX2, 3) := by rw [ha.2.2.2.2.1]; rfl
theorem U_2 : ∀ w ∈ u_ws RX2 TX2 3, w ∈ xTs := by decide +kernel
theorem F_2 (G : XG) : ∃ vs : List Value, xSR G [.inr (.inr (.inl 0)), .inr (.inr (.inl 0)), .inl 0] vs ∧ ∀ j, j < 3 → defaultValue (tyX2 j) = vp_V vs j := ⟨[.null, .null, .int 0], ⟨xnull0 _, xnull0 _, ⟨0, rfl, rfl⟩, trivial⟩, fun j hj => by
  match j, hj with
  | 0, _ => rfl
  | 1, _ => rfl
  | 2, _ => rfl
  | n + 3, h => exact absurd h (by omega)⟩
theorem C_3 {a : XA} {y : XM} (ha : xOkA xcl xtf y a) : (xCl a)[3]? = some (RX3, TX3, 15) := by rw [ha.2.2.2.2.1]; rfl
theorem U_3 : ∀ w ∈ u_ws RX3 TX3 15, w ∈ xTs := by decide +kernel
theorem F_3 (G : XG) : ∃ vs : List Value, xSR G [.inr (.inr (.inl 0)), .inr (.inr (.inl 0)), .inr (.inr (.inl 0)), .inr (.inr (.inl 0)), .inr (.inr (.inl 0)), .inr (.inr (.inl 0)), .inr (.inr (.inl 0)), .inr (.inr (.inl 0)), .inr (.inr (.inl 0)), .inr (.inr (.inl 0)), .inr (.inr (.inl 0)), .inl 0, .inl 0, .inl 0, .inl 0] vs ∧ ∀ j, j < 15 → defaultValue (tyX3 j) = vp_V vs j := ⟨[.null, .null, .null, .null, .null, .null, .null, .null, .null, .null, .null, .int 0, .int 0, .int 0, .int 0], ⟨xnull0 _, xnull0 _, xnull0 _, xnull0 _, xnull0 _, xnull0 _, xnull0 _, xnull0 _, xnull0 _, xnull0 _, xnull0 _, ⟨0, rfl, rfl⟩, ⟨0, rfl, rfl⟩, ⟨0, rfl, rfl⟩, ⟨0, rfl, rfl⟩, trivial⟩, fun j hj => by
  match j, hj with
  | 0, _ => rfl
  | 1, _ => rfl
  | 2, _ => rfl
  | 3, _ => rfl
  | 4, _ => rfl
  | 5, _ => rfl
  | 6, _ => rfl
  | 7, _ => rfl
  | 8, _ => rfl
  | 9, _ => rfl
  | 10, _ => rfl
  | 11, _ => rfl
  | 12, _ => rfl
  | 13, _ => rfl
  | 14, _ => rfl
  | n + 15, h => exact absurd h (by omega)⟩
theorem C_4 {a : XA} {y : XM} (ha : xOkA xcl xtf y a) : (xCl a)[4]? = some (RX4, TX4, 7) := by rw [ha.2.2.2.2.1]; rfl
theorem U_4 : ∀ w ∈ u_ws RX4 TX4 7, w ∈ xTs := by decide +kernel
theorem F_4 (G : XG) : ∃ vs : List Value, xSR G [.inr (.inr (.inl 0)), .inr (.inr (.inl 0)), .inr (.inr (.inl 0)), .inr (.inr (.inl 0)), .inr (.inr (.inl 0)), .inr (.inr (.inl 0)), .inr (.inr (.inl 0))] vs ∧ ∀ j, j < 7 → defaultValue (tyX4 j) = vp_V vs j := ⟨[.null, .null, .null, .null, .null, .null, .null], ⟨xnull0 _, xnull0 _, xnull0 _, xnull0 _, xnull0 _, xnull0 _, xnull0 _, trivial⟩, fun j hj => by
  match j, hj with
  | 0, _ => rfl
  | 1, _ => rfl
  | 2, _ => rfl
  | 3, _ => rfl
  | 4, _ => rfl
  | 5, _ => rfl
  | 6, _ => rfl
  | n + 7, h => exact absurd h (by omega)⟩
theorem C_5 {a : XA} {y : XM} (ha : xOkA xcl xtf y a) : (xCl a)[5]? = some (RX5, TX5, 6) := by rw [ha.2.2.2.2.1]; rfl
theorem U_5 : ∀ w ∈ u_ws RX5 TX5 6, w ∈ xTs := by decide +kernel
theorem F_5 (G : XG) : ∃ vs : List Value, xSR G [.inr (.inr (.inl 0)), .inr (.inr (.inl 0)), .inr (.inr (.inl 0)), .inr (.inr (.inl 0)), .inl 0, .inl 0] vs ∧ ∀ j, j < 6 → defaultValue (tyX5 j) = vp_V vs j := ⟨[.null, .null, .null, .null, .int 0, .int 0], ⟨xnull0 _, xnull0 _, xnull0 _, xnull0 _, ⟨0, rfl, rfl⟩, ⟨0, rfl, rfl⟩, trivial⟩, fun j hj => by
  match j, hj with
  | 0, _ => rfl
  | 1, _ => rfl
  | 2, _ => rfl
  | 3, _ => rfl
  | 4, _ => rfl
  | 5, _ => rfl
  | n + 6, h => exact absurd h (by omega)⟩
theorem C_6 {a : XA} {y : XM} (ha : xOkA xcl xtf y a) : (xCl a)[6]? = some (RX6, TX6, 3) := by rw [ha.2.2.2.2.1]; rfl
theorem U_6 : ∀ w ∈ u_ws RX6 TX6 3, w ∈ xTs := by decide +kernel
theorem F_6 (G : XG) : ∃ vs : List Value, xSR G [.inr (.inr (.inl 0)), .inr (.inr (.inl 0)), .inr (.inr (.inl 0))] vs ∧ ∀ j, j < 3 → defaultValue (tyX6 j) = vp_V vs j := ⟨[.null, .null, .null], ⟨xnull0 _, xnull0 _, xnull0 _, trivial⟩, fun j hj => by
  match j, hj with
  | 0, _ => rfl
  | 1, _ => rfl
  | 2, _ => rfl
  | n + 3, h => exact absurd h (by omega)⟩
theorem C_7 {a : XA} {y : XM} (ha : xOkA xcl xtf y a) : (xCl a)[7]? = some (RX7, TX7, 3) := by rw [ha.2.2.2.2.1]; rfl
theorem U_7 : ∀ w ∈ u_ws RX7 TX7 3, w ∈ xTs := by decide +kernel
theorem F_7 (G : XG) : ∃ vs : List Value, xSR G [.inr (.inr (.inl 0)), .inr (.inr (.inl 0)), .inl 0] vs ∧ ∀ j, j < 3 → defaultValue (tyX7 j) = vp_V vs j := ⟨[.null, .null, .int 0], ⟨xnull0 _, xnull0 _, ⟨0, rfl, rfl⟩, trivial⟩, fun j hj => by
  match j, hj with
  | 0, _ => rfl
  | 1, _ => rfl
  | 2, _ => rfl
  | n + 3, h => exact absurd h (by omega)⟩
theorem C_8 {a : XA} {y : XM} (ha : xOkA xcl xtf y a) : (xCl a)[8]? = some (RX8, TX8, 6) := by rw [ha.2.2.2.2.1]; rfl
theorem U_8 : ∀ w ∈ u_ws RX8 TX8 6, w ∈ xTs := by decide +kernel
theorem F_8 (G : XG) : ∃ vs : List Value, xSR G [.inl 0, .inr (.inl 0), .inr (.inr (.inl 0)), .inl 0, .inl 0, .inl 0] vs ∧ ∀ j, j < 6 → defaultValue (tyX8 j) = vp_V vs j := ⟨[.int 0, .long 0, .null, .int 0, .int 0, .int 0], ⟨⟨0, rfl, rfl⟩, ⟨0, rfl, rfl⟩, xnull0 _, ⟨0, rfl, rfl⟩, ⟨0, rfl, rfl⟩, ⟨0, rfl, rfl⟩, trivial⟩, fun j hj => by
  match j, hj with
  | 0, _ => rfl
  | 1, _ => rfl
  | 2, _ => rfl
  | 3, _ => rfl
  | 4, _ => rfl
  | 5, _ => rfl
  | n + 6, h => exact absurd h (by omega)⟩
theorem C_9 {a : XA} {y : XM} (ha : xOkA xcl xtf y a) : (xCl a)[9]? = some (RX9, TX9, 3) := by rw [ha.2.2.2.2.1]; rfl
theorem U_9 : ∀ w ∈ u_ws RX9 TX9 3, w ∈ xTs := by decide +kernel
theorem F_9 (G : XG) : ∃ vs : List Value, xSR G [.inr (.inr (.inl 0)), .inl 0, .inl 0] vs ∧ ∀ j, j < 3 → defaultValue (tyX9 j) = vp_V vs j := ⟨[.null, .int 0, .int 0], ⟨xnull0 _, ⟨0, rfl, rfl⟩, ⟨0, rfl, rfl⟩, trivial⟩, fun j hj => by
  match j, hj with
  | 0, _ => rfl
  | 1, _ => rfl
  | 2, _ => rfl
  | n + 3, h => exact absurd h (by omega)⟩
theorem C_10 {a : XA} {y : XM} (ha : xOkA xcl xtf y a) : (xCl a)[10]? = some (RX10, TX10, 7) := by rw [ha.2.2.2.2.1]; rfl
theorem U_10 : ∀ w ∈ u_ws RX10 TX10 7, w ∈ xTs := by decide +kernel
theorem F_10 (G : XG) : ∃ vs : List Value, xSR G [.inr (.inr (.inl 0)), .inl 0, .inl 0, .inr (.inl 0), .inr (.inl 0), .inl 0, .inl 0] vs ∧ ∀ j, j < 7 → defaultValue (tyX10 j) = vp_V vs j := ⟨[.null, .int 0, .int 0, .long 0, .long 0, .int 0, .int 0], ⟨xnull0 _, ⟨0, rfl, rfl⟩, ⟨0, rfl, rfl⟩, ⟨0, rfl, rfl⟩, ⟨0, rfl, rfl⟩, ⟨0, rfl, rfl⟩, ⟨0, rfl, rfl⟩, trivial⟩, fun j hj => by
  match j, hj with
  | 0, _ => rfl
  | 1, _ => rfl
  | 2, _ => rfl
  | 3, _ => rfl
  | 4, _ => rfl
  | 5, _ => rfl
  | 6, _ => rfl
  | n + 7, h => exact absurd h (by omega)⟩
theorem C_11 {a : XA} {y : XM} (ha : xOkA xcl xtf y a) : (xCl a)[11]? = some (RX11, TX11, 10) := by rw [ha.2.2.2.2.1]; rfl
theorem U_11 : ∀ w ∈ u_ws RX11 TX11 10, w ∈ xTs := by decide +kernel
theorem F_11 (G : XG) : ∃ vs : List Value, xSR G [.inr (.inr (.inl 0)), .inr (.inr (.inl 0)), .inr (.inr (.inl 0)), .inr (.inr (.inl 0)), .inr (.inr (.inl 0)), .inr (.inr (.inl 0)), .inr (.inr (.inl 0)), .inr (.inr (.inl 0)), .inr (.inr (.inl 0)), .inr (.inr (.inl 0))] vs ∧ ∀ j, j < 10 → defaultValue (tyX11 j) = vp_V vs j := ⟨[.null, .null, .null, .null, .null, .null, .null, .null, .null, .null], ⟨xnull0 _, xnull0 _, xnull0 _, xnull0 _, xnull0 _, xnull0 _, xnull0 _, xnull0 _, xnull0 _, xnull0 _, trivial⟩, fun j hj => by
  match j, hj with
  | 0, _ => rfl
  | 1, _ => rfl
  | 2, _ => rfl
  | 3, _ => rfl
  | 4, _ => rfl
  | 5, _ => rfl
  | 6, _ => rfl
  | 7, _ => rfl
  | 8, _ => rfl
  | 9, _ => rfl
  | n + 10, h => exact absurd h (by omega)⟩
theorem C_12 {a : XA} {y : XM} (ha : xOkA xcl xtf y a) : (xCl a)[12]? = some (RX12, TX12, 33) := by rw [ha.2.2.2.2.1]; rfl
theorem U_12 : ∀ w ∈ u_ws RX12 TX12 33, w ∈ xTs := by decide +kernel
theorem F_12 (G : XG) : ∃ vs : List Value, xSR G [.inr (.inr (.inl 0)), .inr (.inr (.inl 0)), .inr (.inr (.inl 0)), .inr (.inr (.inl 0)), .inr (.inr (.inl 0)), .inr (.inr (.inl 0)), .inr (.inr (.inl 0)), .inr (.inr (.inl 0)), .inr (.inr (.inl 0)), .inr (.inr (.inl 0)), .inr (.inr (.inl 0)), .inr (.inr (.inl 0)), .inr (.inr (.inl 0)), .inl 0, .inl 0, .inl 0, .inl 0, .inl 0, .inl 0, .inr (.inr (.inl 0)), .inr (.inr (.inl 0)), .inr (.inr (.inl 0)), .inr (.inr (.inl 0)), .inr (.inr (.inl 0)), .inr (.inr (.inl 0)), .inr (.inr (.inl 0)), .inr (.inr (.inl 0)), .inr (.inr (.inl 0)), .inr (.inr (.inl 0)), .inr (.inr (.inl 0)), .inr (.inr (.inl 0)), .inr (.inr (.inl 0)), .inl 0] vs ∧ ∀ j, j < 33 → defaultValue (tyX12 j) = vp_V vs j := ⟨[.null, .null, .null, .null, .null, .null, .null, .null, .null, .null, .null, .null, .null, .int 0, .int 0, .int 0, .int 0, .int 0, .int 0, .null, .null, .null, .null, .null, .null, .null, .null, .null, .null, .null, .null, .null, .int 0], ⟨xnull0 _, xnull0 _, xnull0 _, xnull0 _, xnull0 _, xnull0 _, xnull0 _, xnull0 _, xnull0 _, xnull0 _, xnull0 _, xnull0 _, xnull0 _, ⟨0, rfl, rfl⟩, ⟨0, rfl, rfl⟩, ⟨0, rfl, rfl⟩, ⟨0, rfl, rfl⟩, ⟨0, rfl, rfl⟩, ⟨0, rfl, rfl⟩, xnull0 _, xnull0 _, xnull0 _, xnull0 _, xnull0 _, xnull0 _, xnull0 _, xnull0 _, xnull0 _, xnull0 _, xnull0 _, xnull0 _, xnull0 _, ⟨0, rfl, rfl⟩, trivial⟩, fun j hj => by
  match j, hj with
  | 0, _ => rfl
  | 1, _ => rfl
  | 2, _ => rfl
  | 3, _ => rfl
  | 4, _ => rfl
  | 5, _ => rfl
  | 6, _ => rfl
  | 7, _ => rfl
  | 8, _ => rfl
  | 9, _ => rfl
  | 10, _ => rfl
  | 11, _ => rfl
  | 12, _ => rfl
  | 13, _ => rfl
  | 14, _ => rfl
  | 15, _ => rfl
  | 16, _ => rfl
  | 17, _ => rfl
  | 18, _ => rfl
  | 19, _ => rfl
  | 20, _ => rfl
  | 21, _ => rfl
  | 22, _ => rfl
  | 23, _ => rfl
  | 24, _ => rfl
  | 25, _ => rfl
  | 26, _ => rfl
  | 27, _ => rfl
  | 28, _ => rfl
  | 29, _ => rfl
  | 30, _ => rfl
  | 31, _ => rfl
  | 32, _ => rfl
  | n + 33, h => exact absurd h (by omega)⟩
theorem C_13 {a : XA} {y : XM} (ha : xOkA xcl xtf y a) : (xCl a)[13]? = some (RJx4a65c, TJx4a65c, 3) := by rw [ha.2.2.2.2.1]; rfl
theorem U_13 : ∀ w ∈ u_ws RJx4a65c TJx4a65c 3, w ∈ xTs := by decide +kernel
theorem F_13 (G : XG) : ∃ vs : List Value, xSR G [.inl 0, .inr (.inr (.inl 0)), .inl 0] vs ∧ ∀ j, j < 3 → defaultValue (tyJx4a65c j) = vp_V vs j := ⟨[.int 0, .null, .int 0], ⟨⟨0, rfl, rfl⟩, xnull0 _, ⟨0, rfl, rfl⟩, trivial⟩, fun j hj => by
  match j, hj with
  | 0, _ => rfl
  | 1, _ => rfl
  | 2, _ => rfl
  | n + 3, h => exact absurd h (by omega)⟩
theorem K_0 {a : XA} {y : XM} (ha : xOkA xcl xtf y a) : xTf a 0 = .int := by rw [ha.2.2.2.2.2]; rfl
theorem K_1 {a : XA} {y : XM} (ha : xOkA xcl xtf y a) : xTf a 1 = .long := by rw [ha.2.2.2.2.2]; rfl
theorem K_2 {a : XA} {y : XM} (ha : xOkA xcl xtf y a) : xTf a 2 = .boolean := by rw [ha.2.2.2.2.2]; rfl
theorem K_10 {a : XA} {y : XM} (ha : xOkA xcl xtf y a) : xTf a 10 = .array (.int) := by rw [ha.2.2.2.2.2]; rfl
theorem xtf_ref : ∀ tc, 3 ≤ tc → (xtf tc).isReference = true := by
  intro tc h
  unfold xtf
  split <;> first | rfl | omega
theorem K_ref {a : XA} {y : XM} (ha : xOkA xcl xtf y a) : ∀ tc, 3 ≤ tc → (xTf a tc).isReference = true := by rw [ha.2.2.2.2.2]; exact xtf_ref
def xokl : List (Nat × Nat) := []
def xokn : List Nat := []
def xoka : List Nat := [10]
noncomputable def xmem2 : List (Nat × Nat) → Nat → Nat → Bool
  | [], _, _ => false
  | q :: r, t, c => cond (Nat.beq q.1 t) (cond (Nat.beq q.2 c) true (xmem2 r t c)) (xmem2 r t c)
noncomputable def xmem1 : List Nat → Nat → Bool
  | [], _ => false
  | q :: r, t => cond (Nat.beq q t) true (xmem1 r t)
noncomputable def xok (tc : Nat) (c : XC) : Bool := match c with
  | none => xmem1 xokn tc
  | some (.inl o) => xmem2 xokl tc o.1
  | some (.inr r) => cond (Nat.beq r.1 0) (xmem1 xoka tc) false
theorem xmem1_ok : ∀ {l : List Nat} {t : Nat}, xmem1 l t = true → t ∈ l
  | [], _, h => by cases h
  | q :: r, t, h => by
    cases hq : Nat.beq q t with
    | true => rw [xb_eq.mp hq]; exact List.mem_cons_self
    | false =>
      have h : cond (Nat.beq q t) true (xmem1 r t) = true := h
      rw [hq] at h
      exact List.mem_cons_of_mem _ (xmem1_ok h)
theorem xmem2_ok : ∀ {l : List (Nat × Nat)} {t c : Nat}, xmem2 l t c = true → (t, c) ∈ l
  | [], _, _, h => by cases h
  | q :: r, t, c, h => by
    have h : cond (Nat.beq q.1 t) (cond (Nat.beq q.2 c) true (xmem2 r t c)) (xmem2 r t c) = true := h
    cases hq : Nat.beq q.1 t with
    | true =>
      rw [hq] at h
      cases hc : Nat.beq q.2 c with
      | true =>
        have e : q = (t, c) := by rw [← xb_eq.mp hq, ← xb_eq.mp hc]
        rw [e]
        exact List.mem_cons_self
      | false =>
        rw [hc] at h
        exact List.mem_cons_of_mem _ (xmem2_ok h)
    | false =>
      rw [hq] at h
      exact List.mem_cons_of_mem _ (xmem2_ok h)
theorem okN : ∀ t ∈ xokn, ∃ C, xtf t = .object C := fun _ h => absurd h List.not_mem_nil
theorem okP : ∀ q ∈ xokl, ∃ C r, xtf q.1 = .object C ∧ xcl[q.2]? = some r ∧ (r.1 = C ∨ Cond.castable r.1 C ∈ xNW) := fun _ h => absurd h List.not_mem_nil
theorem okA : ∀ t ∈ xoka, xtf t = .array .int := List.forall_mem_cons.mpr ⟨rfl, fun _ h => absurd h List.not_mem_nil⟩
theorem ok0 {a : XA} {y : XM} (ha : xOkA xcl xtf y a) : ∀ tc, xok tc none = true → ∃ C, xTf a tc = .object C := by
  rw [ha.2.2.2.2.2]
  exact fun tc h => okN tc (xmem1_ok h)
theorem ok1 {a : XA} {y : XM} (ha : xOkA xcl xtf y a) : ∀ tc o, xok tc (some (.inl o)) = true → ∃ C r, xTf a tc = .object C ∧ (xCl a)[o.1]? = some r ∧ (r.1 = C ∨ Cond.castable r.1 C ∈ xNW) := by
  rw [ha.2.2.2.2.2, ha.2.2.2.2.1]
  exact fun tc o h => okP (tc, o.1) (xmem2_ok h)
theorem ok2 {a : XA} {y : XM} (ha : xOkA xcl xtf y a) : ∀ tc q, xok tc (some (.inr q)) = true → ∃ t, xTf a tc = .array t ∧ xTf a q.1 = t ∧ Cond.arrayOver (.array t) ∈ xNW ∧ ∀ U cA, va_RA U cA t → U.vm.findClass (FieldType.array t).toString = some cA := by
  rw [ha.2.2.2.2.2]
  intro tc q h
  obtain ⟨h1, h2⟩ : Nat.beq q.1 0 = true ∧ xmem1 xoka tc = true := by
    have h : cond (Nat.beq q.1 0) (xmem1 xoka tc) false = true := h
    cases hb : Nat.beq q.1 0 with
    | true => rw [hb] at h; exact ⟨rfl, h⟩
    | false => rw [hb] at h; cases h
  exact ⟨.int, okA tc (xmem1_ok h2), by rw [xb_eq.mp h1]; rfl, xNm 53 rfl, fun _ _ h => h⟩
abbrev M_0 : XM := (yX12_init, (cX12_init, (1, none)))
noncomputable def xMT : Nat → XM := fun k => M_0
