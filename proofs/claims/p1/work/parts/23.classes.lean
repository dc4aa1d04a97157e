theorem hTs : xTsok xTs := fun w h => good_of_word (List.mem_filter.mp h).2
def xNW : List Cond := [.fieldLinkNest "EditsMeet$Teller" 73 "EditsMeet$Trees" "pool" "[J" "EditsMeet", .fieldLinkNest "EditsMeet$Reader" 131 "EditsMeet$Trees" "pool" "[J" "EditsMeet", .fieldLinkNest "EditsMeet$Loom" 313 "EditsMeet$Trees" "pool" "[J" "EditsMeet", .fieldLinkNest "EditsMeet$Teller" 64 "EditsMeet$Trees" "used" "I" "EditsMeet", .fieldLinkNest "EditsMeet$Teller" 70 "EditsMeet$Trees" "tidied" "I" "EditsMeet", .fieldLinkNest "EditsMeet$Edge" 56 "EditsMeet$Trees" "hasFailed" "Z" "EditsMeet", .fieldLinkNest "EditsMeet$Seam" 96 "EditsMeet$Trees" "hasFailed" "Z" "EditsMeet", .fieldLinkNest "EditsMeet$Loom" 220 "EditsMeet$Trees" "hasFailed" "Z" "EditsMeet", .fieldLinkNest "EditsMeet$Loom" 34 "EditsMeet$Works" "trees" "LEditsMeet$Trees;" "EditsMeet", .fieldLinkNest "EditsMeet$Teller" 45 "EditsMeet$Works" "trees" "LEditsMeet$Trees;" "EditsMeet", .fieldLinkNest "EditsMeet$Reader" 48 "EditsMeet$Works" "trees" "LEditsMeet$Trees;" "EditsMeet", .fieldLinkNest "EditsMeet$Loom" 349 "EditsMeet$Works" "nodes" "[I" "EditsMeet", .fieldLinkNest "EditsMeet$Reader" 40 "EditsMeet$Works" "trail" "[I" "EditsMeet", .fieldLinkNest "EditsMeet$Loom" 91 "EditsMeet$Works" "hasFailed" "Z" "EditsMeet", .fieldLinkNest "EditsMeet$Tape" 76 "EditsMeet$Works" "hasFailed" "Z" "EditsMeet", .fieldLinkNest "EditsMeet$Meeting" 77 "EditsMeet$Works" "hasFailed" "Z" "EditsMeet", .fieldLinkNest "EditsMeet$Seam" 72 "EditsMeet$Edge" "top" "I" "EditsMeet", .fieldLinkNest "EditsMeet$Loom" 279 "EditsMeet$Edge" "top" "I" "EditsMeet", .fieldLinkNest "EditsMeet$Reader" 194 "EditsMeet$Edge" "top" "I" "EditsMeet", .fieldLinkNest "EditsMeet$Teller" 279 "EditsMeet$Edge" "top" "I" "EditsMeet", .fieldLinkNest "EditsMeet$Seam" 79 "EditsMeet$Edge" "mixed" "I" "EditsMeet", .fieldLinkNest "EditsMeet$Teller" 38 "EditsMeet$Reader" "works" "LEditsMeet$Works;" "EditsMeet", .fieldLinkNest "EditsMeet$Teller" 105 "EditsMeet$Reader" "act" "I" "EditsMeet", .fieldLinkNest "EditsMeet$Teller" 108 "EditsMeet$Reader" "count" "J" "EditsMeet", .fieldLinkNest "EditsMeet$Teller" 209 "EditsMeet$Reader" "to" "J" "EditsMeet", .fieldLinkNest "EditsMeet$Shelf" 35 "EditsMeet$Teller" "partSize" "J" "EditsMeet", .fieldLinkNest "EditsMeet" 226 "EditsMeet$Teller" "partSize" "J" "EditsMeet", .fieldLinkNest "EditsMeet" 235 "EditsMeet$Teller" "placed" "J" "EditsMeet", .fieldLinkNest "EditsMeet$Loom" 214 "EditsMeet$Seam" "left" "LEditsMeet$Edge;" "EditsMeet", .fieldLinkNest "EditsMeet$Loom" 217 "EditsMeet$Seam" "right" "LEditsMeet$Edge;" "EditsMeet", .fieldLinkNest "EditsMeet$Loom" 204 "EditsMeet$Seam" "bare" "LEditsMeet$Edge;" "EditsMeet", .fieldLinkNest "EditsMeet$Tape" 72 "EditsMeet$Loom" "works" "LEditsMeet$Works;" "EditsMeet", .fieldLinkNest "EditsMeet$Tape" 44 "EditsMeet$Loom" "trees" "LEditsMeet$Trees;" "EditsMeet", .fieldLinkNest "EditsMeet$Client" 93 "EditsMeet$Loom" "reader" "LEditsMeet$Reader;" "EditsMeet", .fieldLinkNest "EditsMeet$Tape" 52 "EditsMeet$Loom" "seam" "LEditsMeet$Seam;" "EditsMeet", .fieldLinkNest "EditsMeet$Tape" 81 "EditsMeet$Loom" "hand" "I" "EditsMeet", .fieldLinkNest "EditsMeet$Meeting" 58 "EditsMeet$Loom" "hand" "I" "EditsMeet", .fieldLinkNest "EditsMeet$Client" 81 "EditsMeet$Loom" "hand" "I" "EditsMeet", .fieldLinkNest "EditsMeet" 195 "EditsMeet$Loom" "hand" "I" "EditsMeet", .fieldLinkNest "EditsMeet" 186 "EditsMeet$Tape" "size" "I" "EditsMeet", .arrayOver (.object "EditsMeet$Shelf"), .fieldLinkNest "EditsMeet" 323 "EditsMeet$Client" "held" "I" "EditsMeet", .fieldLinkNest "EditsMeet$Meeting" 88 "EditsMeet$Client" "hasSent" "Z" "EditsMeet", .fieldLinkNest "EditsMeet" 349 "EditsMeet$Client" "hasSent" "Z" "EditsMeet", .fieldLinkNest "EditsMeet$Meeting" 81 "EditsMeet$Client" "isServed" "Z" "EditsMeet", .fieldLinkNest "EditsMeet" 353 "EditsMeet$Client" "isServed" "Z" "EditsMeet", .fieldLinkNest "EditsMeet$Meeting" 70 "EditsMeet$Client" "revision" "I" "EditsMeet", .fieldLinkNest "EditsMeet" 333 "EditsMeet$Client" "revision" "I" "EditsMeet", .fieldLinkNest "EditsMeet" 317 "EditsMeet$Client" "place" "J" "EditsMeet", .fieldLinkNest "EditsMeet" 320 "EditsMeet$Client" "otherPlace" "J" "EditsMeet", .methodLinkNest "EditsMeet" 92 ⟨"EditsMeet$Shelf", "<init>", "()V"⟩ "EditsMeet", .fieldLinkNest "EditsMeet" 131 "EditsMeet$Shelf" "held" "I" "EditsMeet", .fieldLinkNest "EditsMeet" 123 "EditsMeet$Shelf" "size" "J" "EditsMeet", .arrayOver (.object "EditsMeet$Client"), .fieldLinkNest "EditsMeet" 336 "EditsMeet$Meeting" "revisions" "I" "EditsMeet", .fieldLinkNest "EditsMeet" 339 "EditsMeet$Meeting" "authors" "[I" "EditsMeet", .fieldLinkNest "EditsMeet" 327 "EditsMeet$Meeting" "count" "I" "EditsMeet", .fieldLinkNest "EditsMeet" 395 "EditsMeet$Meeting" "seed" "I" "EditsMeet", .methodLinkNest "EditsMeet$Shelf" 73 ⟨"EditsMeet", "isStretch", "(IIJ)Z"⟩ "EditsMeet", .methodLinkNest "EditsMeet$Works" 68 ⟨"EditsMeet", "nodeAt", "([II)I"⟩ "EditsMeet", .methodLinkNest "EditsMeet$Works" 104 ⟨"EditsMeet", "putNode", "([III)V"⟩ "EditsMeet", .methodLinkNest "EditsMeet$Loom" 159 ⟨"EditsMeet", "putNode", "([III)V"⟩ "EditsMeet", .methodLinkNest "EditsMeet$Loom" 139 ⟨"EditsMeet", "nodeAt", "([II)I"⟩ "EditsMeet", .methodLinkNest "EditsMeet$Shelf" 61 ⟨"EditsMeet", "told", "(J)I"⟩ "EditsMeet", .arrayOver (.array .int)]
theorem xNm {w : Cond} (i : Nat) (h : xNW[i]? = some w) : w ∈ xNW := List.mem_of_getElem? h
theorem hNW : xNWok xNW := by
  show ∀ w ∈ xNW, xNWw w
  exact List.forall_mem_cons.mpr ⟨xNW_F, List.forall_mem_cons.mpr ⟨xNW_F, List.forall_mem_cons.mpr ⟨xNW_F, List.forall_mem_cons.mpr ⟨xNW_F, List.forall_mem_cons.mpr ⟨xNW_F, List.forall_mem_cons.mpr ⟨xNW_F, List.forall_mem_cons.mpr ⟨xNW_F, List.forall_mem_cons.mpr ⟨xNW_F, List.forall_mem_cons.mpr ⟨xNW_F, List.forall_mem_cons.mpr ⟨xNW_F, List.forall_mem_cons.mpr ⟨xNW_F, List.forall_mem_cons.mpr ⟨xNW_F, List.forall_mem_cons.mpr ⟨xNW_F, List.forall_mem_cons.mpr ⟨xNW_F, List.forall_mem_cons.mpr ⟨xNW_F, List.forall_mem_cons.mpr ⟨xNW_F, List.forall_mem_cons.mpr ⟨xNW_F, List.forall_mem_cons.mpr ⟨xNW_F, List.forall_mem_cons.mpr ⟨xNW_F, List.forall_mem_cons.mpr ⟨xNW_F, List.forall_mem_cons.mpr ⟨xNW_F, List.forall_mem_cons.mpr ⟨xNW_F, List.forall_mem_cons.mpr ⟨xNW_F, List.forall_mem_cons.mpr ⟨xNW_F, List.forall_mem_cons.mpr ⟨xNW_F, List.forall_mem_cons.mpr ⟨xNW_F, List.forall_mem_cons.mpr ⟨xNW_F, List.forall_mem_cons.mpr ⟨xNW_F, List.forall_mem_cons.mpr ⟨xNW_F, List.forall_mem_cons.mpr ⟨xNW_F, List.forall_mem_cons.mpr ⟨xNW_F, List.forall_mem_cons.mpr ⟨xNW_F, List.forall_mem_cons.mpr ⟨xNW_F, List.forall_mem_cons.mpr ⟨xNW_F, List.forall_mem_cons.mpr ⟨xNW_F, List.forall_mem_cons.mpr ⟨xNW_F, List.forall_mem_cons.mpr ⟨xNW_F, List.forall_mem_cons.mpr ⟨xNW_F, List.forall_mem_cons.mpr ⟨xNW_F, List.forall_mem_cons.mpr ⟨xNW_F, List.forall_mem_cons.mpr ⟨xNW_O, List.forall_mem_cons.mpr ⟨xNW_F, List.forall_mem_cons.mpr ⟨xNW_F, List.forall_mem_cons.mpr ⟨xNW_F, List.forall_mem_cons.mpr ⟨xNW_F, List.forall_mem_cons.mpr ⟨xNW_F, List.forall_mem_cons.mpr ⟨xNW_F, List.forall_mem_cons.mpr ⟨xNW_F, List.forall_mem_cons.mpr ⟨xNW_F, List.forall_mem_cons.mpr ⟨xNW_F, List.forall_mem_cons.mpr ⟨xNW_M, List.forall_mem_cons.mpr ⟨xNW_F, List.forall_mem_cons.mpr ⟨xNW_F, List.forall_mem_cons.mpr ⟨xNW_O, List.forall_mem_cons.mpr ⟨xNW_F, List.forall_mem_cons.mpr ⟨xNW_F, List.forall_mem_cons.mpr ⟨xNW_F, List.forall_mem_cons.mpr ⟨xNW_F, List.forall_mem_cons.mpr ⟨xNW_M, List.forall_mem_cons.mpr ⟨xNW_M, List.forall_mem_cons.mpr ⟨xNW_M, List.forall_mem_cons.mpr ⟨xNW_M, List.forall_mem_cons.mpr ⟨xNW_M, List.forall_mem_cons.mpr ⟨xNW_M, List.forall_mem_cons.mpr ⟨xNW_A, fun _ h => absurd h List.not_mem_nil⟩⟩⟩⟩⟩⟩⟩⟩⟩⟩⟩⟩⟩⟩⟩⟩⟩⟩⟩⟩⟩⟩⟩⟩⟩⟩⟩⟩⟩⟩⟩⟩⟩⟩⟩⟩⟩⟩⟩⟩⟩⟩⟩⟩⟩⟩⟩⟩⟩⟩⟩⟩⟩⟩⟩⟩⟩⟩⟩⟩⟩⟩⟩⟩⟩
theorem xNW_in : ∀ w ∈ xNW, w ∈ lw_tbl := List.forall_mem_cons.mpr ⟨List.mem_of_getElem? (i := 180) (by decide +kernel), List.forall_mem_cons.mpr ⟨List.mem_of_getElem? (i := 181) (by decide +kernel), List.forall_mem_cons.mpr ⟨List.mem_of_getElem? (i := 182) (by decide +kernel), List.forall_mem_cons.mpr ⟨List.mem_of_getElem? (i := 188) (by decide +kernel), List.forall_mem_cons.mpr ⟨List.mem_of_getElem? (i := 190) (by decide +kernel), List.forall_mem_cons.mpr ⟨List.mem_of_getElem? (i := 192) (by decide +kernel), List.forall_mem_cons.mpr ⟨List.mem_of_getElem? (i := 193) (by decide +kernel), List.forall_mem_cons.mpr ⟨List.mem_of_getElem? (i := 194) (by decide +kernel), List.forall_mem_cons.mpr ⟨List.mem_of_getElem? (i := 238) (by decide +kernel), List.forall_mem_cons.mpr ⟨List.mem_of_getElem? (i := 239) (by decide +kernel), List.forall_mem_cons.mpr ⟨List.mem_of_getElem? (i := 240) (by decide +kernel), List.forall_mem_cons.mpr ⟨List.mem_of_getElem? (i := 245) (by decide +kernel), List.forall_mem_cons.mpr ⟨List.mem_of_getElem? (i := 252) (by decide +kernel), List.forall_mem_cons.mpr ⟨List.mem_of_getElem? (i := 256) (by decide +kernel), List.forall_mem_cons.mpr ⟨List.mem_of_getElem? (i := 257) (by decide +kernel), List.forall_mem_cons.mpr ⟨List.mem_of_getElem? (i := 258) (by decide +kernel), List.forall_mem_cons.mpr ⟨List.mem_of_getElem? (i := 308) (by decide +kernel), List.forall_mem_cons.mpr ⟨List.mem_of_getElem? (i := 309) (by decide +kernel), List.forall_mem_cons.mpr ⟨List.mem_of_getElem? (i := 310) (by decide +kernel), List.forall_mem_cons.mpr ⟨List.mem_of_getElem? (i := 311) (by decide +kernel), List.forall_mem_cons.mpr ⟨List.mem_of_getElem? (i := 314) (by decide +kernel), List.forall_mem_cons.mpr ⟨List.mem_of_getElem? (i := 335) (by decide +kernel), List.forall_mem_cons.mpr ⟨List.mem_of_getElem? (i := 352) (by decide +kernel), List.forall_mem_cons.mpr ⟨List.mem_of_getElem? (i := 354) (by decide +kernel), List.forall_mem_cons.mpr ⟨List.mem_of_getElem? (i := 358) (by decide +kernel), List.forall_mem_cons.mpr ⟨List.mem_of_getElem? (i := 423) (by decide +kernel), List.forall_mem_cons.mpr ⟨List.mem_of_getElem? (i := 425) (by decide +kernel), List.forall_mem_cons.mpr ⟨List.mem_of_getElem? (i := 427) (by decide +kernel), List.forall_mem_cons.mpr ⟨List.mem_of_getElem? (i := 487) (by decide +kernel), List.forall_mem_cons.mpr ⟨List.mem_of_getElem? (i := 489) (by decide +kernel), List.forall_mem_cons.mpr ⟨List.mem_of_getElem? (i := 491) (by decide +kernel), List.forall_mem_cons.mpr ⟨List.mem_of_getElem? (i := 523) (by decide +kernel), List.forall_mem_cons.mpr ⟨List.mem_of_getElem? (i := 525) (by decide +kernel), List.forall_mem_cons.mpr ⟨List.mem_of_getElem? (i := 527) (by decide +kernel), List.forall_mem_cons.mpr ⟨List.mem_of_getElem? (i := 529) (by decide +kernel), List.forall_mem_cons.mpr ⟨List.mem_of_getElem? (i := 531) (by decide +kernel), List.forall_mem_cons.mpr ⟨List.mem_of_getElem? (i := 532) (by decide +kernel), List.forall_mem_cons.mpr ⟨List.mem_of_getElem? (i := 533) (by decide +kernel), List.forall_mem_cons.mpr ⟨List.mem_of_getElem? (i := 534) (by decide +kernel), List.forall_mem_cons.mpr ⟨List.mem_of_getElem? (i := 582) (by decide +kernel), List.forall_mem_cons.mpr ⟨List.mem_of_getElem? (i := 607) (by decide +kernel), List.forall_mem_cons.mpr ⟨List.mem_of_getElem? (i := 618) (by decide +kernel), List.forall_mem_cons.mpr ⟨List.mem_of_getElem? (i := 622) (by decide +kernel), List.forall_mem_cons.mpr ⟨List.mem_of_getElem? (i := 623) (by decide +kernel), List.forall_mem_cons.mpr ⟨List.mem_of_getElem? (i := 625) (by decide +kernel), List.forall_mem_cons.mpr ⟨List.mem_of_getElem? (i := 626) (by decide +kernel), List.forall_mem_cons.mpr ⟨List.mem_of_getElem? (i := 628) (by decide +kernel), List.forall_mem_cons.mpr ⟨List.mem_of_getElem? (i := 630) (by decide +kernel), List.forall_mem_cons.mpr ⟨List.mem_of_getElem? (i := 632) (by decide +kernel), List.forall_mem_cons.mpr ⟨List.mem_of_getElem? (i := 634) (by decide +kernel), List.forall_mem_cons.mpr ⟨List.mem_of_getElem? (i := 660) (by decide +kernel), List.forall_mem_cons.mpr ⟨List.mem_of_getElem? (i := 666) (by decide +kernel), List.forall_mem_cons.mpr ⟨List.mem_of_getElem? (i := 667) (by decide +kernel), List.forall_mem_cons.mpr ⟨List.mem_of_getElem? (i := 692) (by decide +kernel), List.forall_mem_cons.mpr ⟨List.mem_of_getElem? (i := 697) (by decide +kernel), List.forall_mem_cons.mpr ⟨List.mem_of_getElem? (i := 699) (by decide +kernel), List.forall_mem_cons.mpr ⟨List.mem_of_getElem? (i := 703) (by decide +kernel), List.forall_mem_cons.mpr ⟨List.mem_of_getElem? (i := 705) (by decide +kernel), List.forall_mem_cons.mpr ⟨List.mem_of_getElem? (i := 814) (by decide +kernel), List.forall_mem_cons.mpr ⟨List.mem_of_getElem? (i := 896) (by decide +kernel), List.forall_mem_cons.mpr ⟨List.mem_of_getElem? (i := 936) (by decide +kernel), List.forall_mem_cons.mpr ⟨List.mem_of_getElem? (i := 1098) (by decide +kernel), List.forall_mem_cons.mpr ⟨List.mem_of_getElem? (i := 1358) (by decide +kernel), List.forall_mem_cons.mpr ⟨List.mem_of_getElem? (i := 1621) (by decide +kernel), List.forall_mem_cons.mpr ⟨List.mem_of_getElem? (i := 2132) (by decide +kernel), fun _ h => absurd h List.not_mem_nil⟩⟩⟩⟩⟩⟩⟩⟩⟩⟩⟩⟩⟩⟩⟩⟩⟩⟩⟩⟩⟩⟩⟩⟩⟩⟩⟩⟩⟩⟩⟩⟩⟩⟩⟩⟩⟩⟩⟩⟩⟩⟩⟩⟩⟩⟩⟩⟩⟩⟩⟩⟩⟩⟩⟩⟩⟩⟩⟩⟩⟩⟩⟩⟩⟩
def xcl : List vw_C := [(RX0, TX0, 11), (RX1, TX1, 9), (RX2, TX2, 14), (RX3, TX3, 7), (RX4, TX4, 20), (RX5, TX5, 9), (RX6, TX6, 6), (RX7, TX7, 8), (RX8, TX8, 19), (RX9, TX9, 16), (RX10, TX10, 14), (RX11, TX11, 14), (RX12, TX12, 33)]
def xtf : Nat → FieldType := fun tc => match tc with
  | 0 => .int
  | 1 => .long
  | 2 => .boolean
  | 3 => .char
  | 10 => .array (.int)
  | 11 => .object "EditsMeet$Shelf"
  | 12 => .object "EditsMeet$Client"
  | _ => .object "java/lang/Object"
theorem xnull0 (G : XG) : xrel G (.inr (.inr (.inl 0))) .null := by
  show Value.null = (if 0 = 0 then Value.null else .ref (G.1 0))
  rw [if_pos rfl]
theorem C_0 {a : XA} {y : XM} (ha : xOkA xcl xtf y a) : (xCl a)[0]? = some (RX0, TX0, 11) := by rw [ha.2.2.2.2.1]; rfl
theorem U_0 : ∀ w ∈ u_ws RX0 TX0 11, w ∈ xTs := by decide +kernel
theorem F_0 (G : XG) : ∃ vs : List Value, xSR G [.inl 0, .inr (.inr (.inl 0)), .inl 0, .inl 0, .inl 0, .inl 0, .inl 0, .inl 0, .inl 0, .inr (.inl 0), .inr (.inl 0)] vs ∧ ∀ j, j < 11 → defaultValue (tyX0 j) = vp_V vs j := ⟨[.int 0, .null, .int 0, .int 0, .int 0, .int 0, .int 0, .int 0, .int 0, .long 0, .long 0], ⟨⟨0, rfl, rfl⟩, xnull0 _, ⟨0, rfl, rfl⟩, ⟨0, rfl, rfl⟩, ⟨0, rfl, rfl⟩, ⟨0, rfl, rfl⟩, ⟨0, rfl, rfl⟩, ⟨0, rfl, rfl⟩, ⟨0, rfl, rfl⟩, ⟨0, rfl, rfl⟩, ⟨0, rfl, rfl⟩, trivial⟩, fun j hj => by
  match j, hj with
  | 0, _ => rfl
  | 1, _ => rfl
  | 2, _ => rfl
  | 3, _ => rfl
  | 4, _ => rfl
  | 5, _ => rfl
  | 6, _ => rfl
  | 7, _ => rfl
  | 8, _ => rfl
  | 9, _ => rfl
  | 10, _ => rfl
  | n + 11, h => exact absurd h (by omega)⟩
theorem C_1 {a : XA} {y : XM} (ha : xOkA xcl xtf y a) : (xCl a)[1]? = some (RX1, TX1, 9) := by rw [ha.2.2.2.2.1]; rfl
theorem U_1 : ∀ w ∈ u_ws RX1 TX1 9, w ∈ xTs := by decide +kernel
theorem F_1 (G : XG) : ∃ vs : List Value, xSR G [.inr (.inr (.inl 0)), .inl 0, .inr (.inr (.inl 0)), .inr (.inr (.inl 0)), .inr (.inr (.inl 0)), .inl 0, .inr (.inr (.inl 0)), .inl 0, .inl 0] vs ∧ ∀ j, j < 9 → defaultValue (tyX1 j) = vp_V vs j := ⟨[.null, .int 0, .null, .null, .null, .int 0, .null, .int 0, .int 0], ⟨xnull0 _, ⟨0, rfl, rfl⟩, xnull0 _, xnull0 _, xnull0 _, ⟨0, rfl, rfl⟩, xnull0 _, ⟨0, rfl, rfl⟩, ⟨0, rfl, rfl⟩, trivial⟩, fun j hj => by
  match j, hj with
  | 0, _ => rfl
  | 1, _ => rfl
  | 2, _ => rfl
  | 3, _ => rfl
  | 4, _ => rfl
  | 5, _ => rfl
  | 6, _ => rfl
  | 7, _ => rfl
  | 8, _ => rfl
  | n + 9, h => exact absurd h (by omega)⟩
theorem C_2 {a : XA} {y : XM} (ha : xOkA xcl xtf y a) : (xCl a)[2]? = some (RX2, TX2, 14) := by rw [ha.2.2.2.2.1]; rfl
theorem U_2 : ∀ w ∈ u_ws RX2 TX2 14, w ∈ xTs := by decide +kernel
theorem F_2 (G : XG) : ∃ vs : List Value, xSR G [.inr (.inr (.inl 0)), .inr (.inr (.inl 0)), .inr (.inr (.inl 0)), .inr (.inr (.inl 0)), .inl 0, .inr (.inr (.inl 0)), .inr (.inr (.inl 0)), .inr (.inr (.inl 0)), .inr (.inr (.inl 0)), .inr (.inr (.inl 0)), .inl 0, .inl 0, .inl 0, .inl 0] vs ∧ ∀ j, j < 14 → defaultValue (tyX2 j) = vp_V vs j := ⟨[.null, .null, .null, .null, .int 0, .null, .null, .null, .null, .null, .int 0, .int 0, .int 0, .int 0], ⟨xnull0 _, xnull0 _, xnull0 _, xnull0 _, ⟨0, rfl, rfl⟩, xnull0 _, xnull0 _, xnull0 _, xnull0 _, xnull0 _, ⟨0, rfl, rfl⟩, ⟨0, rfl, rfl⟩, ⟨0, rfl, rfl⟩, ⟨0, rfl, rfl⟩, trivial⟩, fun j hj => by
  match j, hj with
  | 0, _ => rfl
  | 1, _ => rfl
  | 2, _ => rfl
  | 3, _ => rfl
  | 4, _ => rfl
  | 5, _ => rfl
  | 6, _ => rfl
  | 7, _ => rfl
  | 8, _ => rfl
  | 9, _ => rfl
  | 10, _ => rfl
  | 11, _ => rfl
  | 12, _ => rfl
  | 13, _ => rfl
  | n + 14, h => exact absurd h (by omega)⟩
theorem C_3 {a : XA} {y : XM} (ha : xOkA xcl xtf y a) : (xCl a)[3]? = some (RX3, TX3, 7) := by rw [ha.2.2.2.2.1]; rfl
theorem U_3 : ∀ w ∈ u_ws RX3 TX3 7, w ∈ xTs := by decide +kernel
theorem F_3 (G : XG) : ∃ vs : List Value, xSR G [.inr (.inr (.inl 0)), .inl 0, .inr (.inr (.inl 0)), .inr (.inr (.inl 0)), .inl 0, .inl 0, .inl 0] vs ∧ ∀ j, j < 7 → defaultValue (tyX3 j) = vp_V vs j := ⟨[.null, .int 0, .null, .null, .int 0, .int 0, .int 0], ⟨xnull0 _, ⟨0, rfl, rfl⟩, xnull0 _, xnull0 _, ⟨0, rfl, rfl⟩, ⟨0, rfl, rfl⟩, ⟨0, rfl, rfl⟩, trivial⟩, fun j hj => by
  match j, hj with
  | 0, _ => rfl
  | 1, _ => rfl
  | 2, _ => rfl
  | 3, _ => rfl
  | 4, _ => rfl
  | 5, _ => rfl
  | 6, _ => rfl
  | n + 7, h => exact absurd h (by omega)⟩
theorem C_4 {a : XA} {y : XM} (ha : xOkA xcl xtf y a) : (xCl a)[4]? = some (RX4, TX4, 20) := by rw [ha.2.2.2.2.1]; rfl
theorem U_4 : ∀ w ∈ u_ws RX4 TX4 20, w ∈ xTs := by decide +kernel
theorem F_4 (G : XG) : ∃ vs : List Value, xSR G [.inr (.inr (.inl 0)), .inr (.inr (.inl 0)), .inr (.inr (.inl 0)), .inr (.inr (.inl 0)), .inr (.inr (.inl 0)), .inr (.inr (.inl 0)), .inr (.inr (.inl 0)), .inr (.inr (.inl 0)), .inr (.inr (.inl 0)), .inl 0, .inl 0, .inl 0, .inl 0, .inl 0, .inr (.inl 0), .inr (.inl 0), .inl 0, .inr (.inl 0), .inr (.inl 0), .inr (.inl 0)] vs ∧ ∀ j, j < 20 → defaultValue (tyX4 j) = vp_V vs j := ⟨[.null, .null, .null, .null, .null, .null, .null, .null, .null, .int 0, .int 0, .int 0, .int 0, .int 0, .long 0, .long 0, .int 0, .long 0, .long 0, .long 0], ⟨xnull0 _, xnull0 _, xnull0 _, xnull0 _, xnull0 _, xnull0 _, xnull0 _, xnull0 _, xnull0 _, ⟨0, rfl, rfl⟩, ⟨0, rfl, rfl⟩, ⟨0, rfl, rfl⟩, ⟨0, rfl, rfl⟩, ⟨0, rfl, rfl⟩, ⟨0, rfl, rfl⟩, ⟨0, rfl, rfl⟩, ⟨0, rfl, rfl⟩, ⟨0, rfl, rfl⟩, ⟨0, rfl, rfl⟩, ⟨0, rfl, rfl⟩, trivial⟩, fun j hj => by
  match j, hj with
  | 0, _ => rfl
  | 1, _ => rfl
  | 2, _ => rfl
  | 3, _ => rfl
  | 4, _ => rfl
  | 5, _ => rfl
  | 6, _ => rfl
  | 7, _ => rfl
  | 8, _ => rfl
  | 9, _ => rfl
  | 10, _ => rfl
  | 11, _ => rfl
  | 12, _ => rfl
  | 13, _ => rfl
  | 14, _ => rfl
  | 15, _ => rfl
  | 16, _ => rfl
  | 17, _ => rfl
  | 18, _ => rfl
  | 19, _ => rfl
  | n + 20, h => exact absurd h (by omega)⟩
theorem C_5 {a : XA} {y : XM} (ha : xOkA xcl xtf y a) : (xCl a)[5]? = some (RX5, TX5, 9) := by rw [ha.2.2.2.2.1]; rfl
theorem U_5 : ∀ w ∈ u_ws RX5 TX5 9, w ∈ xTs := by decide +kernel
theorem F_5 (G : XG) : ∃ vs : List Value, xSR G [.inr (.inr (.inl 0)), .inr (.inr (.inl 0)), .inr (.inr (.inl 0)), .inr (.inr (.inl 0)), .inr (.inr (.inl 0)), .inr (.inr (.inl 0)), .inr (.inr (.inl 0)), .inl 0, .inl 0] vs ∧ ∀ j, j < 9 → defaultValue (tyX5 j) = vp_V vs j := ⟨[.null, .null, .null, .null, .null, .null, .null, .int 0, .int 0], ⟨xnull0 _, xnull0 _, xnull0 _, xnull0 _, xnull0 _, xnull0 _, xnull0 _, ⟨0, rfl, rfl⟩, ⟨0, rfl, rfl⟩, trivial⟩, fun j hj => by
  match j, hj with
  | 0, _ => rfl
  | 1, _ => rfl
  | 2, _ => rfl
  | 3, _ => rfl
  | 4, _ => rfl
  | 5, _ => rfl
  | 6, _ => rfl
  | 7, _ => rfl
  | 8, _ => rfl
  | n + 9, h => exact absurd h (by omega)⟩
theorem C_6 {a : XA} {y : XM} (ha : xOkA xcl xtf y a) : (xCl a)[6]? = some (RX6, TX6, 6) := by rw [ha.2.2.2.2.1]; rfl
theorem U_6 : ∀ w ∈ u_ws RX6 TX6 6, w ∈ xTs := by decide +kernel
theorem F_6 (G : XG) : ∃ vs : List Value, xSR G [.inr (.inr (.inl 0)), .inl 0, .inr (.inl 0), .inl 0, .inl 0, .inl 0] vs ∧ ∀ j, j < 6 → defaultValue (tyX6 j) = vp_V vs j := ⟨[.null, .int 0, .long 0, .int 0, .int 0, .int 0], ⟨xnull0 _, ⟨0, rfl, rfl⟩, ⟨0, rfl, rfl⟩, ⟨0, rfl, rfl⟩, ⟨0, rfl, rfl⟩, ⟨0, rfl, rfl⟩, trivial⟩, fun j hj => by
  match j, hj with
  | 0, _ => rfl
  | 1, _ => rfl
  | 2, _ => rfl
  | 3, _ => rfl
  | 4, _ => rfl
  | 5, _ => rfl
  | n + 6, h => exact absurd h (by omega)⟩
theorem C_7 {a : XA} {y : XM} (ha : xOkA xcl xtf y a) : (xCl a)[7]? = some (RX7, TX7, 8) := by rw [ha.2.2.2.2.1]; rfl
theorem U_7 : ∀ w ∈ u_ws RX7 TX7 8, w ∈ xTs := by decide +kernel
theorem F_7 (G : XG) : ∃ vs : List Value, xSR G [.inr (.inr (.inl 0)), .inr (.inr (.inl 0)), .inl 0, .inl 0, .inl 0, .inl 0, .inl 0, .inl 0] vs ∧ ∀ j, j < 8 → defaultValue (tyX7 j) = vp_V vs j := ⟨[.null, .null, .int 0, .int 0, .int 0, .int 0, .int 0, .int 0], ⟨xnull0 _, xnull0 _, ⟨0, rfl, rfl⟩, ⟨0, rfl, rfl⟩, ⟨0, rfl, rfl⟩, ⟨0, rfl, rfl⟩, ⟨0, rfl, rfl⟩, ⟨0, rfl, rfl⟩, trivial⟩, fun j hj => by
  match j, hj with
  | 0, _ => rfl
  | 1, _ => rfl
  | 2, _ => rfl
  | 3, _ => rfl
  | 4, _ => rfl
  | 5, _ => rfl
  | 6, _ => rfl
  | 7, _ => rfl
  | n + 8, h => exact absurd h (by omega)⟩
theorem C_8 {a : XA} {y : XM} (ha : xOkA xcl xtf y a) : (xCl a)[8]? = some (RX8, TX8, 19) := by rw [ha.2.2.2.2.1]; rfl
theorem U_8 : ∀ w ∈ u_ws RX8 TX8 19, w ∈ xTs := by decide +kernel
theorem F_8 (G : XG) : ∃ vs : List Value, xSR G [.inr (.inr (.inl 0)), .inr (.inr (.inl 0)), .inr (.inr (.inl 0)), .inr (.inr (.inl 0)), .inr (.inr (.inl 0)), .inr (.inr (.inl 0)), .inr (.inr (.inl 0)), .inl 0, .inl 0, .inl 0, .inr (.inr (.inl 0)), .inl 0, .inl 0, .inr (.inl 0), .inr (.inl 0), .inr (.inl 0), .inr (.inl 0), .inr (.inl 0), .inl 0] vs ∧ ∀ j, j < 19 → defaultValue (tyX8 j) = vp_V vs j := ⟨[.null, .null, .null, .null, .null, .null, .null, .int 0, .int 0, .int 0, .null, .int 0, .int 0, .long 0, .long 0, .long 0, .long 0, .long 0, .int 0], ⟨xnull0 _, xnull0 _, xnull0 _, xnull0 _, xnull0 _, xnull0 _, xnull0 _, ⟨0, rfl, rfl⟩, ⟨0, rfl, rfl⟩, ⟨0, rfl, rfl⟩, xnull0 _, ⟨0, rfl, rfl⟩, ⟨0, rfl, rfl⟩, ⟨0, rfl, rfl⟩, ⟨0, rfl, rfl⟩, ⟨0, rfl, rfl⟩, ⟨0, rfl, rfl⟩, ⟨0, rfl, rfl⟩, ⟨0, rfl, rfl⟩, trivial⟩, fun j hj => by
  match j, hj with
  | 0, _ => rfl
  | 1, _ => rfl
  | 2, _ => rfl
  | 3, _ => rfl
  | 4, _ => rfl
  | 5, _ => rfl
  | 6, _ => rfl
  | 7, _ => rfl
  | 8, _ => rfl
  | 9, _ => rfl
  | 10, _ => rfl
  | 11, _ => rfl
  | 12, _ => rfl
  | 13, _ => rfl
  | 14, _ => rfl
  | 15, _ => rfl
  | 16, _ => rfl
  | 17, _ => rfl
  | 18, _ => rfl
  | n + 19, h => exact absurd h (by omega)⟩
theorem C_9 {a : XA} {y : XM} (ha : xOkA xcl xtf y a) : (xCl a)[9]? = some (RX9, TX9, 16) := by rw [ha.2.2.2.2.1]; rfl
theorem U_9 : ∀ w ∈ u_ws RX9 TX9 16, w ∈ xTs := by decide +kernel
theorem F_9 (G : XG) : ∃ vs : List Value, xSR G [.inr (.inr (.inl 0)), .inr (.inr (.inl 0)), .inr (.inr (.inl 0)), .inr (.inr (.inl 0)), .inr (.inr (.inl 0)), .inr (.inr (.inl 0)), .inr (.inr (.inl 0)), .inr (.inr (.inl 0)), .inl 0, .inl 0, .inl 0, .inl 0, .inl 0, .inl 0, .inl 0, .inl 0] vs ∧ ∀ j, j < 16 → defaultValue (tyX9 j) = vp_V vs j := ⟨[.null, .null, .null, .null, .null, .null, .null, .null, .int 0, .int 0, .int 0, .int 0, .int 0, .int 0, .int 0, .int 0], ⟨xnull0 _, xnull0 _, xnull0 _, xnull0 _, xnull0 _, xnull0 _, xnull0 _, xnull0 _, ⟨0, rfl, rfl⟩, ⟨0, rfl, rfl⟩, ⟨0, rfl, rfl⟩, ⟨0, rfl, rfl⟩, ⟨0, rfl, rfl⟩, ⟨0, rfl, rfl⟩, ⟨0, rfl, rfl⟩, ⟨0, rfl, rfl⟩, trivial⟩, fun j hj => by
  match j, hj with
  | 0, _ => rfl
  | 1, _ => rfl
  | 2, _ => rfl
  | 3, _ => rfl
  | 4, _ => rfl
  | 5, _ => rfl
  | 6, _ => rfl
  | 7, _ => rfl
  | 8, _ => rfl
  | 9, _ => rfl
  | 10, _ => rfl
  | 11, _ => rfl
  | 12, _ => rfl
  | 13, _ => rfl
  | 14, _ => rfl
  | 15, _ => rfl
  | n + 16, h => exact absurd h (by omega)⟩
theorem C_10 {a : XA} {y : XM} (ha : xOkA xcl xtf y a) : (xCl a)[10]? = some (RX10, TX10, 14) := by rw [ha.2.2.2.2.1]; rfl
theorem U_10 : ∀ w ∈ u_ws RX10 TX10 14, w ∈ xTs := by decide +kernel
theorem F_10 (G : XG) : ∃ vs : List Value, xSR G [.inr (.inr (.inl 0)), .inr (.inr (.inl 0)), .inl 0, .inr (.inr (.inl 0)), .inr (.inr (.inl 0)), .inr (.inr (.inl 0)), .inr (.inr (.inl 0)), .inr (.inr (.inl 0)), .inr (.inr (.inl 0)), .inr (.inr (.inl 0)), .inr (.inr (.inl 0)), .inl 0, .inl 0, .inl 0] vs ∧ ∀ j, j < 14 → defaultValue (tyX10 j) = vp_V vs j := ⟨[.null, .null, .int 0, .null, .null, .null, .null, .null, .null, .null, .null, .int 0, .int 0, .int 0], ⟨xnull0 _, xnull0 _, ⟨0, rfl, rfl⟩, xnull0 _, xnull0 _, xnull0 _, xnull0 _, xnull0 _, xnull0 _, xnull0 _, xnull0 _, ⟨0, rfl, rfl⟩, ⟨0, rfl, rfl⟩, ⟨0, rfl, rfl⟩, trivial⟩, fun j hj => by
  match j, hj with
  | 0, _ => rfl
  | 1, _ => rfl
  | 2, _ => rfl
  | 3, _ => rfl
  | 4, _ => rfl
  | 5, _ => rfl
  | 6, _ => rfl
  | 7, _ => rfl
  | 8, _ => rfl
  | 9, _ => rfl
  | 10, _ => rfl
  | 11, _ => rfl
  | 12, _ => rfl
  | 13, _ => rfl
  | n + 14, h => exact absurd h (by omega)⟩
theorem C_11 {a : XA} {y : XM} (ha : xOkA xcl xtf y a) : (xCl a)[11]? = some (RX11, TX11, 14) := by rw [ha.2.2.2.2.1]; rfl
theorem U_11 : ∀ w ∈ u_ws RX11 TX11 14, w ∈ xTs := by decide +kernel
theorem F_11 (G : XG) : ∃ vs : List Value, xSR G [.inr (.inr (.inl 0)), .inr (.inr (.inl 0)), .inr (.inr (.inl 0)), .inr (.inr (.inl 0)), .inr (.inr (.inl 0)), .inr (.inr (.inl 0)), .inl 0, .inr (.inr (.inl 0)), .inr (.inr (.inl 0)), .inr (.inr (.inl 0)), .inr (.inr (.inl 0)), .inr (.inr (.inl 0)), .inr (.inr (.inl 0)), .inl 0] vs ∧ ∀ j, j < 14 → defaultValue (tyX11 j) = vp_V vs j := ⟨[.null, .null, .null, .null, .null, .null, .int 0, .null, .null, .null, .null, .null, .null, .int 0], ⟨xnull0 _, xnull0 _, xnull0 _, xnull0 _, xnull0 _, xnull0 _, ⟨0, rfl, rfl⟩, xnull0 _, xnull0 _, xnull0 _, xnull0 _, xnull0 _, xnull0 _, ⟨0, rfl, rfl⟩, trivial⟩, fun j hj => by
  match j, hj with
  | 0, _ => rfl
  | 1, _ => rfl
  | 2, _ => rfl
  | 3, _ => rfl
  | 4, _ => rfl
  | 5, _ => rfl
  | 6, _ => rfl
  | 7, _ => rfl
  | 8, _ => rfl
  | 9, _ => rfl
  | 10, _ => rfl
  | 11, _ => rfl
  | 12, _ => rfl
  | 13, _ => rfl
  | n + 14, h => exact absurd h (by omega)⟩
theorem C_12 {a : XA} {y : XM} (ha : xOkA xcl xtf y a) : (xCl a)[12]? = some (RX12, TX12, 33) := by rw [ha.2.2.2.2.1]; rfl
theorem U_12 : ∀ w ∈ u_ws RX12 TX12 33, w ∈ xTs := by decide +kernel
theorem F_12 (G : XG) : ∃ vs : List Value, xSR G [.inr (.inr (.inl 0)), .inr (.inr (.inl 0)), .inr (.inr (.inl 0)), .inr (.inr (.inl 0)), .inr (.inr (.inl 0)), .inr (.inr (.inl 0)), .inr (.inr (.inl 0)), .inr (.inr (.inl 0)), .inr (.inr (.inl 0)), .inr (.inr (.inl 0)), .inr (.inr (.inl 0)), .inr (.inr (.inl 0)), .inr (.inr (.inl 0)), .inl 0, .inl 0, .inl 0, .inl 0, .inl 0, .inl 0, .inr (.inr (.inl 0)), .inr (.inr (.inl 0)), .inr (.inr (.inl 0)), .inr (.inr (.inl 0)), .inr (.inr (.inl 0)), .inr (.inr (.inl 0)), .inr (.inr (.inl 0)), .inr (.inr (.inl 0)), .inr (.inr (.inl 0)), .inr (.inr (.inl 0)), .inr (.inr (.inl 0)), .inr (.inr (.inl 0)), .inr (.inr (.inl 0)), .inl 0] vs ∧ ∀ j, j < 33 → defaultValue (tyX12 j) = vp_V vs j := ⟨[.null, .null, .null, .null, .null, .null, .null, .null, .null, .null, .null, .null, .null, .int 0, .int 0, .int 0, .int 0, .int 0, .int 0, .null, .null, .null, .null, .null, .null, .null, .null, .null, .null, .null, .null, .null, .int 0], ⟨xnull0 _, xnull0 _, xnull0 _, xnull0 _, xnull0 _, xnull0 _, xnull0 _, xnull0 _, xnull0 _, xnull0 _, xnull0 _, xnull0 _, xnull0 _, ⟨0, rfl, rfl⟩, ⟨0, rfl, rfl⟩, ⟨0, rfl, rfl⟩, ⟨0, rfl, rfl⟩, ⟨0, rfl, rfl⟩, ⟨0, rfl, rfl⟩, xnull0 _, xnull0 _, xnull0 _, xnull0 _, xnull0 _, xnull0 _, xnull0 _, xnull0 _, xnull0 _, xnull0 _, xnull0 _, xnull0 _, xnull0 _, ⟨0, rfl, rfl⟩, trivial⟩, fun j hj => by
  match j, hj with
  | 0, _ => rfl
  | 1, _ => rfl
  | 2, _ => rfl
  | 3, _ => rfl
  | 4, _ => rfl
  | 5, _ => rfl
  | 6, _ => rfl
  | 7, _ => rfl
  | 8, _ => rfl
  | 9, _ => rfl
  | 10, _ => rfl
  | 11, _ => rfl
  | 12, _ => rfl
  | 13, _ => rfl
  | 14, _ => rfl
  | 15, _ => rfl
  | 16, _ => rfl
  | 17, _ => rfl
  | 18, _ => rfl
  | 19, _ => rfl
  | 20, _ => rfl
  | 21, _ => rfl
  | 22, _ => rfl
  | 23, _ => rfl
  | 24, _ => rfl
  | 25, _ => rfl
  | 26, _ => rfl
  | 27, _ => rfl
  | 28, _ => rfl
  | 29, _ => rfl
  | 30, _ => rfl
  | 31, _ => rfl
  | 32, _ => rfl
  | n + 33, h => exact absurd h (by omega)⟩
theorem K_0 {a : XA} {y : XM} (ha : xOkA xcl xtf y a) : xTf a 0 = .int := by rw [ha.2.2.2.2.2]; rfl
theorem K_1 {a : XA} {y : XM} (ha : xOkA xcl xtf y a) : xTf a 1 = .long := by rw [ha.2.2.2.2.2]; rfl
theorem K_2 {a : XA} {y : XM} (ha : xOkA xcl xtf y a) : xTf a 2 = .boolean := by rw [ha.2.2.2.2.2]; rfl
theorem K_3 {a : XA} {y : XM} (ha : xOkA xcl xtf y a) : xTf a 3 = .char := by rw [ha.2.2.2.2.2]; rfl
theorem K_10 {a : XA} {y : XM} (ha : xOkA xcl xtf y a) : xTf a 10 = .array (.int) := by rw [ha.2.2.2.2.2]; rfl
theorem K_11 {a : XA} {y : XM} (ha : xOkA xcl xtf y a) : xTf a 11 = .object "EditsMeet$Shelf" := by rw [ha.2.2.2.2.2]; rfl
theorem K_12 {a : XA} {y : XM} (ha : xOkA xcl xtf y a) : xTf a 12 = .object "EditsMeet$Client" := by rw [ha.2.2.2.2.2]; rfl
theorem xtf_ref : ∀ tc, 10 ≤ tc → (xtf tc).isReference = true := by
  intro tc h
  unfold xtf
  split <;> first | rfl | omega
theorem K_ref {a : XA} {y : XM} (ha : xOkA xcl xtf y a) : ∀ tc, 10 ≤ tc → (xTf a tc).isReference = true := by rw [ha.2.2.2.2.2]; exact xtf_ref
def xokl : List (Nat × Nat) := [(11, 6), (12, 0)]
def xokn : List Nat := [11, 12]
def xoka : List Nat := [10]
noncomputable def xmem2 : List (Nat × Nat) → Nat → Nat → Bool
  | [], _, _ => false
  | q :: r, t, c => cond (Nat.beq q.1 t) (cond (Nat.beq q.2 c) true (xmem2 r t c)) (xmem2 r t c)
noncomputable def xmem1 : List Nat → Nat → Bool
  | [], _ => false
  | q :: r, t => cond (Nat.beq q t) true (xmem1 r t)
noncomputable def xok (tc : Nat) (c : XC) : Bool := match c with
  | none => xmem1 xokn tc
  | some (.inl o) => xmem2 xokl tc o.1
  | some (.inr r) => cond (Nat.beq r.1 0) (xmem1 xoka tc) false
theorem xmem1_ok : ∀ {l : List Nat} {t : Nat}, xmem1 l t = true → t ∈ l
  | [], _, h => by cases h
  | q :: r, t, h => by
    cases hq : Nat.beq q t with
    | true => rw [xb_eq.mp hq]; exact List.mem_cons_self
    | false =>
      have h : cond (Nat.beq q t) true (xmem1 r t) = true := h
      rw [hq] at h
      exact List.mem_cons_of_mem _ (xmem1_ok h)
theorem xmem2_ok : ∀ {l : List (Nat × Nat)} {t c : Nat}, xmem2 l t c = true → (t, c) ∈ l
  | [], _, _, h => by cases h
  | q :: r, t, c, h => by
    have h : cond (Nat.beq q.1 t) (cond (Nat.beq q.2 c) true (xmem2 r t c)) (xmem2 r t c) = true := h
    cases hq : Nat.beq q.1 t with
    | true =>
      rw [hq] at h
      cases hc : Nat.beq q.2 c with
      | true =>
        have e : q = (t, c) := by rw [← xb_eq.mp hq, ← xb_eq.mp hc]
        rw [e]
        exact List.mem_cons_self
      | false =>
        rw [hc] at h
        exact List.mem_cons_of_mem _ (xmem2_ok h)
    | false =>
      rw [hq] at h
      exact List.mem_cons_of_mem _ (xmem2_ok h)
theorem okN : ∀ t ∈ xokn, ∃ C, xtf t = .object C := List.forall_mem_cons.mpr ⟨⟨_, rfl⟩, List.forall_mem_cons.mpr ⟨⟨_, rfl⟩, fun _ h => absurd h List.not_mem_nil⟩⟩
theorem okP : ∀ q ∈ xokl, ∃ C r, xtf q.1 = .object C ∧ xcl[q.2]? = some r ∧ (r.1 = C ∨ Cond.castable r.1 C ∈ xNW) := List.forall_mem_cons.mpr ⟨⟨_, _, rfl, rfl, Or.inl rfl⟩, List.forall_mem_cons.mpr ⟨⟨_, _, rfl, rfl, Or.inl rfl⟩, fun _ h => absurd h List.not_mem_nil⟩⟩
theorem okA : ∀ t ∈ xoka, xtf t = .array .int := List.forall_mem_cons.mpr ⟨rfl, fun _ h => absurd h List.not_mem_nil⟩
theorem ok0 {a : XA} {y : XM} (ha : xOkA xcl xtf y a) : ∀ tc, xok tc none = true → ∃ C, xTf a tc = .object C := by
  rw [ha.2.2.2.2.2]
  exact fun tc h => okN tc (xmem1_ok h)
theorem ok1 {a : XA} {y : XM} (ha : xOkA xcl xtf y a) : ∀ tc o, xok tc (some (.inl o)) = true → ∃ C r, xTf a tc = .object C ∧ (xCl a)[o.1]? = some r ∧ (r.1 = C ∨ Cond.castable r.1 C ∈ xNW) := by
  rw [ha.2.2.2.2.2, ha.2.2.2.2.1]
  exact fun tc o h => okP (tc, o.1) (xmem2_ok h)
theorem ok2 {a : XA} {y : XM} (ha : xOkA xcl xtf y a) : ∀ tc q, xok tc (some (.inr q)) = true → ∃ t, xTf a tc = .array t ∧ xTf a q.1 = t ∧ Cond.arrayOver (.array t) ∈ xNW ∧ ∀ U cA, va_RA U cA t → U.vm.findClass (FieldType.array t).toString = some cA := by
  rw [ha.2.2.2.2.2]
  intro tc q h
  obtain ⟨h1, h2⟩ : Nat.beq q.1 0 = true ∧ xmem1 xoka tc = true := by
    have h : cond (Nat.beq q.1 0) (xmem1 xoka tc) false = true := h
    cases hb : Nat.beq q.1 0 with
    | true => rw [hb] at h; exact ⟨rfl, h⟩
    | false => rw [hb] at h; cases h
  exact ⟨.int, okA tc (xmem1_ok h2), by rw [xb_eq.mp h1]; rfl, xNm 64 rfl, fun _ _ h => h⟩
abbrev M_0 : XM := (yX12_init, (cX12_init, (1, none)))
abbrev M_1 : XM := (yX11_init, (cX11_init, (3, none)))
abbrev M_2 : XM := (yX12_days, (cX12_days, (5, (some (.int)))))
abbrev M_3 : XM := (yX11_days, (cX11_days, (7, (some (.int)))))
abbrev M_4 : XM := (yX11_apart, (cX11_apart, (5, (some (.int)))))
abbrev M_5 : XM := (yX11_back, (cX11_back, (1, (some (.int)))))
abbrev M_6 : XM := (yX11_behind, (cX11_behind, (7, (some (.int)))))
abbrev M_7 : XM := (yX11_clientOf, (cX11_clientOf, (4, (some (.int)))))
abbrev M_8 : XM := (yX11_copy, (cX11_copy, (9, (some (.int)))))
abbrev M_9 : XM := (yX11_cursor, (cX11_cursor, (4, (some (.int)))))
abbrev M_10 : XM := (yX11_cut, (cX11_cut, (5, (some (.int)))))
abbrev M_11 : XM := (yX11_differ, (cX11_differ, (5, (some (.int)))))
abbrev M_12 : XM := (yX11_does, (cX11_does, (5, (some (.int)))))
abbrev M_13 : XM := (yX11_edit, (cX11_edit, (5, (some (.int)))))
abbrev M_14 : XM := (yX11_element, (cX11_element, (4, (some (.long)))))
abbrev M_15 : XM := (yX11_feed, (cX11_feed, (2, (some (.int)))))
abbrev M_16 : XM := (yX11_hear, (cX11_hear, (3, (some (.int)))))
abbrev M_17 : XM := (yX11_holds, (cX11_holds, (3, (some (.int)))))
abbrev M_18 : XM := (yX11_image, (cX11_image, (1, (some (.int)))))
abbrev M_19 : XM := (yX11_insert, (cX11_insert, (6, (some (.int)))))
abbrev M_20 : XM := (yX11_judge, (cX11_judge, (9, (some (.int)))))
abbrev M_21 : XM := (yX11_length, (cX11_length, (2, (some (.int)))))
abbrev M_22 : XM := (yX11_letter, (cX11_letter, (6, (some (.int)))))
abbrev M_23 : XM := (yX11_mark, (cX11_mark, (9, (some (.int)))))
abbrev M_24 : XM := (yX11_marked, (cX11_marked, (3, (some (.int)))))
abbrev M_25 : XM := (yX11_meet, (cX11_meet, (6, (some (.int)))))
abbrev M_26 : XM := (yX11_of, (cX11_of, (4, (some (.int)))))
abbrev M_27 : XM := (yX11_over, (cX11_over, (8, (some (.int)))))
abbrev M_28 : XM := (yX11_part, (cX11_part, (4, (some (.int)))))
abbrev M_29 : XM := (yX11_point, (cX11_point, (7, (some (.int)))))
abbrev M_30 : XM := (yX11_redo, (cX11_redo, (4, (some (.int)))))
abbrev M_31 : XM := (yX11_revision, (cX11_revision, (3, (some (.int)))))
abbrev M_32 : XM := (yX11_row, (cX11_row, (5, (some (.int)))))
abbrev M_33 : XM := (yX11_says, (cX11_says, (4, (some (.int)))))
abbrev M_34 : XM := (yX11_seed, (cX11_seed, (3, (some (.int)))))
abbrev M_35 : XM := (yX11_serve, (cX11_serve, (3, (some (.int)))))
abbrev M_36 : XM := (yX11_set, (cX11_set, (6, (some (.int)))))
abbrev M_37 : XM := (yX11_show, (cX11_show, (5, (some (.int)))))
abbrev M_38 : XM := (yX11_spelled, (cX11_spelled, (3, (some (.int)))))
abbrev M_39 : XM := (yX11_status, (cX11_status, (3, (some (.int)))))
abbrev M_40 : XM := (yX11_takes, (cX11_takes, (5, (some (.int)))))
abbrev M_41 : XM := (yX11_text, (cX11_text, (6, (some (.int)))))
abbrev M_42 : XM := (yX11_turned, (cX11_turned, (8, (some (.int)))))
abbrev M_43 : XM := (yX11_undo, (cX11_undo, (4, (some (.int)))))
abbrev M_44 : XM := (yX11_wipe, (cX11_wipe, (2, (some (.int)))))
abbrev M_45 : XM := (yX12_apart, (cX12_apart, (3, (some (.int)))))
abbrev M_46 : XM := (yX12_back, (cX12_back, (1, (some (.int)))))
abbrev M_47 : XM := (yX12_behind, (cX12_behind, (4, (some (.int)))))
abbrev M_48 : XM := (yX12_clientOf, (cX12_clientOf, (3, (some (.int)))))
abbrev M_49 : XM := (yX12_copy, (cX12_copy, (8, (some (.int)))))
abbrev M_50 : XM := (yX12_cursor, (cX12_cursor, (3, (some (.int)))))
abbrev M_51 : XM := (yX12_cut, (cX12_cut, (4, (some (.int)))))
abbrev M_52 : XM := (yX12_differ, (cX12_differ, (10, (some (.int)))))
abbrev M_53 : XM := (yX12_does, (cX12_does, (3, (some (.int)))))
abbrev M_54 : XM := (yX12_edit, (cX12_edit, (3, (some (.int)))))
abbrev M_55 : XM := (yX12_element, (cX12_element, (3, (some (.long)))))
abbrev M_56 : XM := (yX12_feed, (cX12_feed, (2, (some (.int)))))
abbrev M_57 : XM := (yX12_hear, (cX12_hear, (2, (some (.int)))))
abbrev M_58 : XM := (yX12_holds, (cX12_holds, (2, (some (.int)))))
abbrev M_59 : XM := (yX12_image, (cX12_image, (1, (some (.int)))))
abbrev M_60 : XM := (yX12_insert, (cX12_insert, (5, (some (.int)))))
abbrev M_61 : XM := (yX12_judge, (cX12_judge, (6, (some (.int)))))
abbrev M_62 : XM := (yX12_length, (cX12_length, (2, (some (.int)))))
abbrev M_63 : XM := (yX12_letter, (cX12_letter, (6, (some (.int)))))
abbrev M_64 : XM := (yX12_mark, (cX12_mark, (8, (some (.int)))))
abbrev M_65 : XM := (yX12_marked, (cX12_marked, (7, (some (.int)))))
abbrev M_66 : XM := (yX12_meet, (cX12_meet, (4, (some (.int)))))
abbrev M_67 : XM := (yX12_of, (cX12_of, (3, (some (.int)))))
abbrev M_68 : XM := (yX12_over, (cX12_over, (5, (some (.int)))))
abbrev M_69 : XM := (yX12_part, (cX12_part, (6, (some (.int)))))
abbrev M_70 : XM := (yX12_point, (cX12_point, (4, (some (.int)))))
abbrev M_71 : XM := (yX12_redo, (cX12_redo, (3, (some (.int)))))
abbrev M_72 : XM := (yX12_revision, (cX12_revision, (4, (some (.int)))))
abbrev M_73 : XM := (yX12_row, (cX12_row, (5, (some (.int)))))
abbrev M_74 : XM := (yX12_says, (cX12_says, (4, (some (.int)))))
abbrev M_75 : XM := (yX12_seed, (cX12_seed, (3, (some (.int)))))
abbrev M_76 : XM := (yX12_serve, (cX12_serve, (2, (some (.int)))))
abbrev M_77 : XM := (yX12_set, (cX12_set, (5, (some (.int)))))
abbrev M_78 : XM := (yX12_show, (cX12_show, (5, (some (.int)))))
abbrev M_79 : XM := (yX12_spelled, (cX12_spelled, (7, (some (.int)))))
abbrev M_80 : XM := (yX12_status, (cX12_status, (4, (some (.int)))))
abbrev M_81 : XM := (yX12_takes, (cX12_takes, (6, (some (.int)))))
abbrev M_82 : XM := (yX12_text, (cX12_text, (5, (some (.int)))))
abbrev M_83 : XM := (yX12_turned, (cX12_turned, (4, (some (.int)))))
abbrev M_84 : XM := (yX12_undo, (cX12_undo, (3, (some (.int)))))
abbrev M_85 : XM := (yX12_wipe, (cX12_wipe, (2, (some (.int)))))
abbrev M_86 : XM := (yX9_init, (cX9_init, (6, none)))
abbrev M_87 : XM := (yX10_init, (cX10_init, (2, none)))
abbrev M_88 : XM := (yX4_init, (cX4_init, (2, none)))
abbrev M_89 : XM := (yX8_init, (cX8_init, (2, none)))
abbrev M_90 : XM := (yX2_init, (cX2_init, (3, none)))
abbrev M_91 : XM := (yX7_init, (cX7_init, (2, none)))
abbrev M_92 : XM := (yX10_newSlots, (cX10_newSlots, (3, (some (.int)))))
abbrev M_93 : XM := (yX0_init, (cX0_init, (3, none)))
abbrev M_94 : XM := (yX6_init, (cX6_init, (1, none)))
abbrev M_95 : XM := (yX3_init, (cX3_init, (5, none)))
abbrev M_96 : XM := (yX12_in, (cX12_in, (6, (some (.boolean)))))
abbrev M_97 : XM := (yX12_refused, (cX12_refused, (2, (some (.int)))))
abbrev M_98 : XM := (yX12_draw, (cX12_draw, (2, (some (.int)))))
abbrev M_99 : XM := (yX12_isDay, (cX12_isDay, (6, (some (.boolean)))))
abbrev M_100 : XM := (yX11_refuse, (cX11_refuse, (3, (some (.int)))))
abbrev M_101 : XM := (yX3_draw, (cX3_draw, (3, (some (.long)))))
abbrev M_102 : XM := (yX3_clientAt, (cX3_clientAt, (2, (some (.object "EditsMeet$Client")))))
abbrev M_103 : XM := (yX3_textAt, (cX3_textAt, (3, (some (.int)))))
abbrev M_104 : XM := (yX11_measured, (cX11_measured, (2, (some (.int)))))
abbrev M_105 : XM := (yX0_latest, (cX0_latest, (2, (some (.int)))))
abbrev M_106 : XM := (yX11_canBe, (cX11_canBe, (3, (some (.boolean)))))
abbrev M_107 : XM := (yX0_like, (cX0_like, (2, none)))
abbrev M_108 : XM := (yX11_draftByDraws, (cX11_draftByDraws, (8, none)))
abbrev M_109 : XM := (yX0_clear, (cX0_clear, (3, none)))
abbrev M_110 : XM := (yX0_doDraft, (cX0_doDraft, (4, none)))
abbrev M_111 : XM := (yX0_draftLatest, (cX0_draftLatest, (3, none)))
abbrev M_112 : XM := (yX3_takeSent, (cX3_takeSent, (6, none)))
abbrev M_113 : XM := (yX0_hearNext, (cX0_hearNext, (10, none)))
abbrev M_114 : XM := (yX11_hasNoRoom, (cX11_hasNoRoom, (3, (some (.boolean)))))
abbrev M_115 : XM := (yX3_hasText, (cX3_hasText, (2, (some (.boolean)))))
abbrev M_116 : XM := (yX11_fetched, (cX11_fetched, (2, (some (.int)))))
abbrev M_117 : XM := (yX10_hold, (cX10_hold, (3, none)))
abbrev M_118 : XM := (yX10_letGo, (cX10_letGo, (4, none)))
abbrev M_119 : XM := (yX8_firstUnlikePlace, (cX8_firstUnlikePlace, (3, (some (.long)))))
abbrev M_120 : XM := (yX11_told, (cX11_told, (2, (some (.int)))))
abbrev M_121 : XM := (yX11_isNumber, (cX11_isNumber, (1, (some (.boolean)))))
abbrev M_122 : XM := (yX11_isEdit, (cX11_isEdit, (2, (some (.boolean)))))
abbrev M_123 : XM := (yX0_told, (cX0_told, (2, (some (.int)))))
abbrev M_124 : XM := (yX8_sumOf, (cX8_sumOf, (11, (some (.long)))))
abbrev M_125 : XM := (yX0_countOf, (cX0_countOf, (2, (some (.int)))))
abbrev M_126 : XM := (yX11_shelfAt, (cX11_shelfAt, (2, (some (.object "EditsMeet$Shelf")))))
abbrev M_127 : XM := (yX6_holdsPart, (cX6_holdsPart, (1, (some (.boolean)))))
abbrev M_128 : XM := (yX6_holdsNothing, (cX6_holdsNothing, (1, (some (.boolean)))))
abbrev M_129 : XM := (yX0_size, (cX0_size, (1, (some (.long)))))
abbrev M_130 : XM := (yX11_isStretch, (cX11_isStretch, (4, (some (.boolean)))))
abbrev M_131 : XM := (yX7_reads, (cX7_reads, (3, (some (.int)))))
abbrev M_132 : XM := (yX10_held, (cX10_held, (2, (some (.int)))))
abbrev M_133 : XM := (yX10_failed, (cX10_failed, (2, (some (.boolean)))))
abbrev M_134 : XM := (yX6_at, (cX6_at, (2, (some (.long)))))
abbrev M_135 : XM := (yX7_add, (cX7_add, (2, none)))
abbrev M_136 : XM := (yX3_like, (cX3_like, (5, none)))
abbrev M_137 : XM := (yX2_draft, (cX2_draft, (9, none)))
abbrev M_138 : XM := (yX10_to, (cX10_to, (2, (some (.long)))))
abbrev M_139 : XM := (yX8_lettersMarked, (cX8_lettersMarked, (3, (some (.int)))))
abbrev M_140 : XM := (yX3_isSettled, (cX3_isSettled, (3, (some (.boolean)))))
abbrev M_141 : XM := (yX11_whyNotAgain, (cX11_whyNotAgain, (2, (some (.int)))))
abbrev M_142 : XM := (yX6_holdRow, (cX6_holdRow, (3, none)))
abbrev M_143 : XM := (yX6_holdsRow, (cX6_holdsRow, (1, (some (.boolean)))))
abbrev M_144 : XM := (yX0_isUnserved, (cX0_isUnserved, (1, (some (.boolean)))))
abbrev M_145 : XM := (yX6_holdNothing, (cX6_holdNothing, (1, none)))
abbrev M_146 : XM := (yX11_clientsAlike, (cX11_clientsAlike, (6, (some (.int)))))
abbrev M_147 : XM := (yX11_editsByNumber, (cX11_editsByNumber, (3, (some (.int)))))
abbrev M_148 : XM := (yX11_allLetters, (cX11_allLetters, (5, (some (.long)))))
abbrev M_149 : XM := (yX3_clientsSending, (cX3_clientsSending, (4, (some (.int)))))
abbrev M_150 : XM := (yX11_shelvesInUse, (cX11_shelvesInUse, (3, (some (.int)))))
abbrev M_151 : XM := (yX0_has, (cX0_has, (2, (some (.boolean)))))
abbrev M_152 : XM := (yX12_isText, (cX12_isText, (1, (some (.boolean)))))
abbrev M_153 : XM := (yX12_firstApart, (cX12_firstApart, (4, (some (.int)))))
abbrev M_154 : XM := (yX12_isEdit, (cX12_isEdit, (1, (some (.boolean)))))
abbrev M_155 : XM := (yX12_isKept, (cX12_isKept, (2, (some (.boolean)))))
abbrev M_156 : XM := (yX12_isClient, (cX12_isClient, (1, (some (.boolean)))))
abbrev M_157 : XM := (yX12_st, (cX12_st, (3, (some (.int)))))
abbrev M_158 : XM := (yX12_isShelf, (cX12_isShelf, (1, (some (.boolean)))))
abbrev M_159 : XM := (yX12_isStretch, (cX12_isStretch, (4, (some (.boolean)))))
abbrev M_160 : XM := (yX12_isPart, (cX12_isPart, (5, (some (.boolean)))))
abbrev M_161 : XM := (yX12_copiesRows, (cX12_copiesRows, (6, none)))
abbrev M_162 : XM := (yX12_copies, (cX12_copies, (4, none)))
abbrev M_163 : XM := (yX12_inserts, (cX12_inserts, (5, none)))
abbrev M_164 : XM := (yX12_hearAll, (cX12_hearAll, (2, none)))
abbrev M_165 : XM := (yX12_isAnySent, (cX12_isAnySent, (3, (some (.boolean)))))
abbrev M_166 : XM := (yX12_again, (cX12_again, (4, (some (.int)))))
abbrev M_167 : XM := (yX1_init, (cX1_init, (3, none)))
abbrev M_168 : XM := (yX5_init, (cX5_init, (2, none)))
abbrev M_169 : XM := (yX12_keepsAllBut, (cX12_keepsAllBut, (6, none)))
abbrev M_170 : XM := (yX12_done, (cX12_done, (4, none)))
abbrev M_171 : XM := (yX12_serves, (cX12_serves, (3, (some (.int)))))
abbrev M_172 : XM := (yX12_hears, (cX12_hears, (4, none)))
abbrev M_173 : XM := (yX0_ownText, (cX0_ownText, (1, (some (.int)))))
abbrev M_174 : XM := (yX0_slotOf, (cX0_slotOf, (2, (some (.int)))))
abbrev M_175 : XM := (yX10_holdLike, (cX10_holdLike, (5, none)))
abbrev M_176 : XM := (yX0_drop, (cX0_drop, (3, none)))
abbrev M_177 : XM := (yX2_weave, (cX2_weave, (11, (some (.int)))))
abbrev M_178 : XM := (yX0_keep, (cX0_keep, (5, none)))
abbrev M_179 : XM := (yX4_placeAfter, (cX4_placeAfter, (10, (some (.long)))))
abbrev M_180 : XM := (yX0_sendWaiting, (cX0_sendWaiting, (1, none)))
abbrev M_181 : XM := (yX0_passedAt, (cX0_passedAt, (2, (some (.int)))))
abbrev M_182 : XM := (yJ7_fill_bad5a, (cJ7_fill_bad5a, (6, none)))
abbrev M_183 : XM := (yX10_isThere, (cX10_isThere, (2, (some (.boolean)))))
abbrev M_184 : XM := (yX10_node, (cX10_node, (2, (some (.int)))))
abbrev M_185 : XM := (yX8_sum, (cX8_sum, (9, (some (.long)))))
abbrev M_186 : XM := (yX10_known, (cX10_known, (3, (some (.int)))))
abbrev M_187 : XM := (yX2_tidy, (cX2_tidy, (3, none)))
abbrev M_188 : XM := (yX9_failed, (cX9_failed, (2, (some (.boolean)))))
abbrev M_189 : XM := (yX9_leaf, (cX9_leaf, (4, (some (.int)))))
abbrev M_190 : XM := (yX5_join, (cX5_join, (9, (some (.int)))))
abbrev M_191 : XM := (yX10_isWork, (cX10_isWork, (1, (some (.boolean)))))
abbrev M_192 : XM := (yX0_isTooLongBy, (cX0_isTooLongBy, (2, (some (.boolean)))))
abbrev M_193 : XM := (yJ7_fill_d0a16, (cJ7_fill_d0a16, (5, none)))
abbrev M_194 : XM := (yX12_byteAt, (cX12_byteAt, (2, (some (.int)))))
abbrev M_195 : XM := (yX12_grown, (cX12_grown, (4, (some (.array (.int))))))
abbrev M_196 : XM := (yX12_adds, (cX12_adds, (3, none)))
abbrev M_197 : XM := (yX12_takesRow, (cX12_takesRow, (4, none)))
abbrev M_198 : XM := (yX12_isFull, (cX12_isFull, (3, (some (.boolean)))))
abbrev M_199 : XM := (yX12_turnedRow, (cX12_turnedRow, (10, none)))
abbrev M_200 : XM := (yX12_makes, (cX12_makes, (8, none)))
abbrev M_201 : XM := (yX12_cursorGoes, (cX12_cursorGoes, (4, none)))
abbrev M_202 : XM := (yX12_pushes, (cX12_pushes, (7, none)))
abbrev M_203 : XM := (yX12_keepsRow, (cX12_keepsRow, (4, none)))
abbrev M_204 : XM := (yX12_behindRow, (cX12_behindRow, (8, none)))
abbrev M_205 : XM := (yX12_overRow, (cX12_overRow, (9, none)))
abbrev M_206 : XM := (yX12_keepsWork, (cX12_keepsWork, (4, none)))
abbrev M_207 : XM := (yX12_copiesRow, (cX12_copiesRow, (3, none)))
abbrev M_208 : XM := (yX12_crosses, (cX12_crosses, (2, none)))
abbrev M_209 : XM := (yX0_putCount, (cX0_putCount, (3, none)))
abbrev M_210 : XM := (yX2_begin, (cX2_begin, (7, (some (.int)))))
abbrev M_211 : XM := (yX10_use, (cX10_use, (2, none)))
abbrev M_212 : XM := (yX10_way, (cX10_way, (2, (some (.int)))))
abbrev M_213 : XM := (yX2_beginTask, (cX2_beginTask, (6, (some (.boolean)))))
abbrev M_214 : XM := (yX10_put, (cX10_put, (3, none)))
abbrev M_215 : XM := (yX11_nodeAt, (cX11_nodeAt, (2, (some (.int)))))
abbrev M_216 : XM := (yX2_atOnce, (cX2_atOnce, (8, (some (.int)))))
abbrev M_217 : XM := (yX2_remembered, (cX2_remembered, (9, (some (.int)))))
abbrev M_218 : XM := (yX2_leafByLeaf, (cX2_leafByLeaf, (14, (some (.int)))))
abbrev M_219 : XM := (yX2_remember, (cX2_remember, (8, none)))
abbrev M_220 : XM := (yX9_placeAfter, (cX9_placeAfter, (18, (some (.long)))))
abbrev M_221 : XM := (yJ7_rangeCheck_23922, (cJ7_rangeCheck_23922, (3, none)))
abbrev M_222 : XM := (yX8_atHand, (cX8_atHand, (6, (some (.long)))))
abbrev M_223 : XM := (yX10_spare, (cX10_spare, (2, (some (.int)))))
abbrev M_224 : XM := (yX9_isScarce, (cX9_isScarce, (1, (some (.boolean)))))
abbrev M_225 : XM := (yX9_from, (cX9_from, (3, (some (.long)))))
abbrev M_226 : XM := (yX9_to, (cX9_to, (3, (some (.long)))))
abbrev M_227 : XM := (yX9_made, (cX9_made, (10, (some (.int)))))
abbrev M_228 : XM := (yX9_endsWithDelete, (cX9_endsWithDelete, (2, (some (.boolean)))))
abbrev M_229 : XM := (yX9_beginsWithLetter, (cX9_beginsWithLetter, (2, (some (.boolean)))))
abbrev M_230 : XM := (yX5_place, (cX5_place, (3, none)))
abbrev M_231 : XM := (yX5_settle, (cX5_settle, (14, (some (.int)))))
abbrev M_232 : XM := (yX12_resultLength, (cX12_resultLength, (2, (some (.int)))))
abbrev M_233 : XM := (yX12_kind, (cX12_kind, (1, (some (.int)))))
abbrev M_234 : XM := (yX12_plain, (cX12_plain, (6, none)))
abbrev M_235 : XM := (yX12_marksOf, (cX12_marksOf, (2, (some (.int)))))
abbrev M_236 : XM := (yX12_goesAlong, (cX12_goesAlong, (8, (some (.int)))))
abbrev M_237 : XM := (yX12_together, (cX12_together, (6, none)))
abbrev M_238 : XM := (yX12_overOne, (cX12_overOne, (7, none)))
abbrev M_239 : XM := (yX10_isBig, (cX10_isBig, (2, (some (.boolean)))))
abbrev M_240 : XM := (yX10_two, (cX10_two, (2, (some (.int)))))
abbrev M_241 : XM := (yX10_begin, (cX10_begin, (10, (some (.int)))))
abbrev M_242 : XM := (yX10_one, (cX10_one, (2, (some (.int)))))
abbrev M_243 : XM := (yX2_push, (cX2_push, (4, none)))
abbrev M_244 : XM := (yX11_putNode, (cX11_putNode, (3, none)))
abbrev M_245 : XM := (yX9_hasDelete, (cX9_hasDelete, (2, (some (.boolean)))))
abbrev M_246 : XM := (yX9_leaves, (cX9_leaves, (2, (some (.int)))))
abbrev M_247 : XM := (yX9_act, (cX9_act, (3, (some (.int)))))
abbrev M_248 : XM := (yX2_woven, (cX2_woven, (8, (some (.int)))))
abbrev M_249 : XM := (yX2_keyOf, (cX2_keyOf, (7, (some (.long)))))
abbrev M_250 : XM := (yX2_flatten, (cX2_flatten, (10, none)))
abbrev M_251 : XM := (yX1_base, (cX1_base, (1, (some (.int)))))
abbrev M_252 : XM := (yX2_isAlone, (cX2_isAlone, (6, (some (.boolean)))))
abbrev M_253 : XM := (yX1_count, (cX1_count, (1, (some (.long)))))
abbrev M_254 : XM := (yX2_alone, (cX2_alone, (3, (some (.int)))))
abbrev M_255 : XM := (yX1_drop, (cX1_drop, (3, none)))
abbrev M_256 : XM := (yX5_mixed, (cX5_mixed, (2, (some (.int)))))
abbrev M_257 : XM := (yX5_put, (cX5_put, (6, none)))
abbrev M_258 : XM := (yX9_isLeaf, (cX9_isLeaf, (2, (some (.boolean)))))
abbrev M_259 : XM := (yX9_left, (cX9_left, (2, (some (.int)))))
abbrev M_260 : XM := (yX9_isPair, (cX9_isPair, (2, (some (.boolean)))))
abbrev M_261 : XM := (yX9_right, (cX9_right, (2, (some (.int)))))
abbrev M_262 : XM := (yX9_placeOf, (cX9_placeOf, (6, (some (.int)))))
abbrev M_263 : XM := (yX9_knownAt, (cX9_knownAt, (3, (some (.int)))))
abbrev M_264 : XM := (yX9_spare, (cX9_spare, (1, (some (.int)))))
abbrev M_265 : XM := (yX9_putSize, (cX9_putSize, (6, (some (.boolean)))))
abbrev M_266 : XM := (yX9_know, (cX9_know, (4, none)))
abbrev M_267 : XM := (yX1_start, (cX1_start, (2, none)))
abbrev M_268 : XM := (yX1_next, (cX1_next, (5, (some (.int)))))
abbrev M_269 : XM := (yX1_isDue, (cX1_isDue, (2, (some (.boolean)))))
abbrev M_270 : XM := (yX5_arePair, (cX5_arePair, (5, (some (.boolean)))))
abbrev M_271 : XM := (yX5_putAhead, (cX5_putAhead, (3, none)))
abbrev M_272 : XM := (yX5_putBehind, (cX5_putBehind, (3, none)))
abbrev M_273 : XM := (yX9_run, (cX9_run, (8, (some (.int)))))
abbrev M_274 : XM := (yX9_pair, (cX9_pair, (10, (some (.int)))))
abbrev M_275 : XM := (yX12_count, (cX12_count, (5, (some (.int)))))
abbrev M_276 : XM := (yX10_mayDelete, (cX10_mayDelete, (2, (some (.boolean)))))
abbrev M_277 : XM := (yX10_from, (cX10_from, (2, (some (.long)))))
abbrev M_278 : XM := (yX9_base, (cX9_base, (3, (some (.int)))))
abbrev M_279 : XM := (yX1_push, (cX1_push, (3, none)))
abbrev M_280 : XM := (yX9_level, (cX9_level, (2, (some (.int)))))
abbrev M_281 : XM := (yX1_sink, (cX1_sink, (7, none)))
abbrev M_282 : XM := (yX9_times, (cX9_times, (8, (some (.long)))))
abbrev M_283 : XM := (yX1_put, (cX1_put, (5, none)))
noncomputable def xMT : Nat → XM := fun k => (cond (Nat.blt k 142) (cond (Nat.blt k 71) (cond (Nat.blt k 35) (cond (Nat.blt k 17) (cond (Nat.blt k 8) (cond (Nat.blt k 4) (cond (Nat.blt k 2) (cond (Nat.blt k 1) M_0 M_1) (cond (Nat.blt k 3) M_2 M_3)) (cond (Nat.blt k 6) (cond (Nat.blt k 5) M_4 M_5) (cond (Nat.blt k 7) M_6 M_7))) (cond (Nat.blt k 12) (cond (Nat.blt k 10) (cond (Nat.blt k 9) M_8 M_9) (cond (Nat.blt k 11) M_10 M_11)) (cond (Nat.blt k 14) (cond (Nat.blt k 13) M_12 M_13) (cond (Nat.blt k 15) M_14 (cond (Nat.blt k 16) M_15 M_16))))) (cond (Nat.blt k 26) (cond (Nat.blt k 21) (cond (Nat.blt k 19) (cond (Nat.blt k 18) M_17 M_18) (cond (Nat.blt k 20) M_19 M_20)) (cond (Nat.blt k 23) (cond (Nat.blt k 22) M_21 M_22) (cond (Nat.blt k 24) M_23 (cond (Nat.blt k 25) M_24 M_25)))) (cond (Nat.blt k 30) (cond (Nat.blt k 28) (cond (Nat.blt k 27) M_26 M_27) (cond (Nat.blt k 29) M_28 M_29)) (cond (Nat.blt k 32) (cond (Nat.blt k 31) M_30 M_31) (cond (Nat.blt k 33) M_32 (cond (Nat.blt k 34) M_33 M_34)))))) (cond (Nat.blt k 53) (cond (Nat.blt k 44) (cond (Nat.blt k 39) (cond (Nat.blt k 37) (cond (Nat.blt k 36) M_35 M_36) (cond (Nat.blt k 38) M_37 M_38)) (cond (Nat.blt k 41) (cond (Nat.blt k 40) M_39 M_40) (cond (Nat.blt k 42) M_41 (cond (Nat.blt k 43) M_42 M_43)))) (cond (Nat.blt k 48) (cond (Nat.blt k 46) (cond (Nat.blt k 45) M_44 M_45) (cond (Nat.blt k 47) M_46 M_47)) (cond (Nat.blt k 50) (cond (Nat.blt k 49) M_48 M_49) (cond (Nat.blt k 51) M_50 (cond (Nat.blt k 52) M_51 M_52))))) (cond (Nat.blt k 62) (cond (Nat.blt k 57) (cond (Nat.blt k 55) (cond (Nat.blt k 54) M_53 M_54) (cond (Nat.blt k 56) M_55 M_56)) (cond (Nat.blt k 59) (cond (Nat.blt k 58) M_57 M_58) (cond (Nat.blt k 60) M_59 (cond (Nat.blt k 61) M_60 M_61)))) (cond (Nat.blt k 66) (cond (Nat.blt k 64) (cond (Nat.blt k 63) M_62 M_63) (cond (Nat.blt k 65) M_64 M_65)) (cond (Nat.blt k 68) (cond (Nat.blt k 67) M_66 M_67) (cond (Nat.blt k 69) M_68 (cond (Nat.blt k 70) M_69 M_70))))))) (cond (Nat.blt k 106) (cond (Nat.blt k 88) (cond (Nat.blt k 79) (cond (Nat.blt k 75) (cond (Nat.blt k 73) (cond (Nat.blt k 72) M_71 M_72) (cond (Nat.blt k 74) M_73 M_74)) (cond (Nat.blt k 77) (cond (Nat.blt k 76) M_75 M_76) (cond (Nat.blt k 78) M_77 M_78))) (cond (Nat.blt k 83) (cond (Nat.blt k 81) (cond (Nat.blt k 80) M_79 M_80) (cond (Nat.blt k 82) M_81 M_82)) (cond (Nat.blt k 85) (cond (Nat.blt k 84) M_83 M_84) (cond (Nat.blt k 86) M_85 (cond (Nat.blt k 87) M_86 M_87))))) (cond (Nat.blt k 97) (cond (Nat.blt k 92) (cond (Nat.blt k 90) (cond (Nat.blt k 89) M_88 M_89) (cond (Nat.blt k 91) M_90 M_91)) (cond (Nat.blt k 94) (cond (Nat.blt k 93) M_92 M_93) (cond (Nat.blt k 95) M_94 (cond (Nat.blt k 96) M_95 M_96)))) (cond (Nat.blt k 101) (cond (Nat.blt k 99) (cond (Nat.blt k 98) M_97 M_98) (cond (Nat.blt k 100) M_99 M_100)) (cond (Nat.blt k 103) (cond (Nat.blt k 102) M_101 M_102) (cond (Nat.blt k 104) M_103 (cond (Nat.blt k 105) M_104 M_105)))))) (cond (Nat.blt k 124) (cond (Nat.blt k 115) (cond (Nat.blt k 110) (cond (Nat.blt k 108) (cond (Nat.blt k 107) M_106 M_107) (cond (Nat.blt k 109) M_108 M_109)) (cond (Nat.blt k 112) (cond (Nat.blt k 111) M_110 M_111) (cond (Nat.blt k 113) M_112 (cond (Nat.blt k 114) M_113 M_114)))) (cond (Nat.blt k 119) (cond (Nat.blt k 117) (cond (Nat.blt k 116) M_115 M_116) (cond (Nat.blt k 118) M_117 M_118)) (cond (Nat.blt k 121) (cond (Nat.blt k 120) M_119 M_120) (cond (Nat.blt k 122) M_121 (cond (Nat.blt k 123) M_122 M_123))))) (cond (Nat.blt k 133) (cond (Nat.blt k 128) (cond (Nat.blt k 126) (cond (Nat.blt k 125) M_124 M_125) (cond (Nat.blt k 127) M_126 M_127)) (cond (Nat.blt k 130) (cond (Nat.blt k 129) M_128 M_129) (cond (Nat.blt k 131) M_130 (cond (Nat.blt k 132) M_131 M_132)))) (cond (Nat.blt k 137) (cond (Nat.blt k 135) (cond (Nat.blt k 134) M_133 M_134) (cond (Nat.blt k 136) M_135 M_136)) (cond (Nat.blt k 139) (cond (Nat.blt k 138) M_137 M_138) (cond (Nat.blt k 140) M_139 (cond (Nat.blt k 141) M_140 M_141)))))))) (cond (Nat.blt k 213) (cond (Nat.blt k 177) (cond (Nat.blt k 159) (cond (Nat.blt k 150) (cond (Nat.blt k 146) (cond (Nat.blt k 144) (cond (Nat.blt k 143) M_142 M_143) (cond (Nat.blt k 145) M_144 M_145)) (cond (Nat.blt k 148) (cond (Nat.blt k 147) M_146 M_147) (cond (Nat.blt k 149) M_148 M_149))) (cond (Nat.blt k 154) (cond (Nat.blt k 152) (cond (Nat.blt k 151) M_150 M_151) (cond (Nat.blt k 153) M_152 M_153)) (cond (Nat.blt k 156) (cond (Nat.blt k 155) M_154 M_155) (cond (Nat.blt k 157) M_156 (cond (Nat.blt k 158) M_157 M_158))))) (cond (Nat.blt k 168) (cond (Nat.blt k 163) (cond (Nat.blt k 161) (cond (Nat.blt k 160) M_159 M_160) (cond (Nat.blt k 162) M_161 M_162)) (cond (Nat.blt k 165) (cond (Nat.blt k 164) M_163 M_164) (cond (Nat.blt k 166) M_165 (cond (Nat.blt k 167) M_166 M_167)))) (cond (Nat.blt k 172) (cond (Nat.blt k 170) (cond (Nat.blt k 169) M_168 M_169) (cond (Nat.blt k 171) M_170 M_171)) (cond (Nat.blt k 174) (cond (Nat.blt k 173) M_172 M_173) (cond (Nat.blt k 175) M_174 (cond (Nat.blt k 176) M_175 M_176)))))) (cond (Nat.blt k 195) (cond (Nat.blt k 186) (cond (Nat.blt k 181) (cond (Nat.blt k 179) (cond (Nat.blt k 178) M_177 M_178) (cond (Nat.blt k 180) M_179 M_180)) (cond (Nat.blt k 183) (cond (Nat.blt k 182) M_181 M_182) (cond (Nat.blt k 184) M_183 (cond (Nat.blt k 185) M_184 M_185)))) (cond (Nat.blt k 190) (cond (Nat.blt k 188) (cond (Nat.blt k 187) M_186 M_187) (cond (Nat.blt k 189) M_188 M_189)) (cond (Nat.blt k 192) (cond (Nat.blt k 191) M_190 M_191) (cond (Nat.blt k 193) M_192 (cond (Nat.blt k 194) M_193 M_194))))) (cond (Nat.blt k 204) (cond (Nat.blt k 199) (cond (Nat.blt k 197) (cond (Nat.blt k 196) M_195 M_196) (cond (Nat.blt k 198) M_197 M_198)) (cond (Nat.blt k 201) (cond (Nat.blt k 200) M_199 M_200) (cond (Nat.blt k 202) M_201 (cond (Nat.blt k 203) M_202 M_203)))) (cond (Nat.blt k 208) (cond (Nat.blt k 206) (cond (Nat.blt k 205) M_204 M_205) (cond (Nat.blt k 207) M_206 M_207)) (cond (Nat.blt k 210) (cond (Nat.blt k 209) M_208 M_209) (cond (Nat.blt k 211) M_210 (cond (Nat.blt k 212) M_211 M_212))))))) (cond (Nat.blt k 248) (cond (Nat.blt k 230) (cond (Nat.blt k 221) (cond (Nat.blt k 217) (cond (Nat.blt k 215) (cond (Nat.blt k 214) M_213 M_214) (cond (Nat.blt k 216) M_215 M_216)) (cond (Nat.blt k 219) (cond (Nat.blt k 218) M_217 M_218) (cond (Nat.blt k 220) M_219 M_220))) (cond (Nat.blt k 225) (cond (Nat.blt k 223) (cond (Nat.blt k 222) M_221 M_222) (cond (Nat.blt k 224) M_223 M_224)) (cond (Nat.blt k 227) (cond (Nat.blt k 226) M_225 M_226) (cond (Nat.blt k 228) M_227 (cond (Nat.blt k 229) M_228 M_229))))) (cond (Nat.blt k 239) (cond (Nat.blt k 234) (cond (Nat.blt k 232) (cond (Nat.blt k 231) M_230 M_231) (cond (Nat.blt k 233) M_232 M_233)) (cond (Nat.blt k 236) (cond (Nat.blt k 235) M_234 M_235) (cond (Nat.blt k 237) M_236 (cond (Nat.blt k 238) M_237 M_238)))) (cond (Nat.blt k 243) (cond (Nat.blt k 241) (cond (Nat.blt k 240) M_239 M_240) (cond (Nat.blt k 242) M_241 M_242)) (cond (Nat.blt k 245) (cond (Nat.blt k 244) M_243 M_244) (cond (Nat.blt k 246) M_245 (cond (Nat.blt k 247) M_246 M_247)))))) (cond (Nat.blt k 266) (cond (Nat.blt k 257) (cond (Nat.blt k 252) (cond (Nat.blt k 250) (cond (Nat.blt k 249) M_248 M_249) (cond (Nat.blt k 251) M_250 M_251)) (cond (Nat.blt k 254) (cond (Nat.blt k 253) M_252 M_253) (cond (Nat.blt k 255) M_254 (cond (Nat.blt k 256) M_255 M_256)))) (cond (Nat.blt k 261) (cond (Nat.blt k 259) (cond (Nat.blt k 258) M_257 M_258) (cond (Nat.blt k 260) M_259 M_260)) (cond (Nat.blt k 263) (cond (Nat.blt k 262) M_261 M_262) (cond (Nat.blt k 264) M_263 (cond (Nat.blt k 265) M_264 M_265))))) (cond (Nat.blt k 275) (cond (Nat.blt k 270) (cond (Nat.blt k 268) (cond (Nat.blt k 267) M_266 M_267) (cond (Nat.blt k 269) M_268 M_269)) (cond (Nat.blt k 272) (cond (Nat.blt k 271) M_270 M_271) (cond (Nat.blt k 273) M_272 (cond (Nat.blt k 274) M_273 M_274)))) (cond (Nat.blt k 279) (cond (Nat.blt k 277) (cond (Nat.blt k 276) M_275 M_276) (cond (Nat.blt k 278) M_277 M_278)) (cond (Nat.blt k 281) (cond (Nat.blt k 280) M_279 M_280) (cond (Nat.blt k 282) M_281 (cond (Nat.blt k 283) M_282 M_283)))))))))
