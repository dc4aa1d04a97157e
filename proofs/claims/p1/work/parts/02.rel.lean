abbrev XG : Type := (Nat → Nat) × ((Nat → Int32) × (va_G × (List vw_C × Nat)))
def xrel (G : XG) : XV → Value → Prop
  | .inl n, v => ∃ x : Int32, v = .int x ∧ x.toBitVec.toNat = n
  | .inr (.inl n), v => ∃ x : Int64, v = .long x ∧ x.toBitVec.toNat = n
  | .inr (.inr (.inl k)), v => v = (if k = 0 then Value.null else .ref (G.1 k))
  | .inr (.inr (.inr (.inl q))), v => ∃ x : Int32, v = .int x ∧ x.toInt = (G.2.1 q.1).toInt + q.2
  | .inr (.inr (.inr (.inr (.inl q)))), v => ∃ x : Int64, v = .long x ∧ x.toInt = (G.2.1 q.1).toInt + q.2
  | .inr (.inr (.inr (.inr (.inr (.inl q))))), v => ∃ x : Int32, v = .int x ∧ ∀ i, i < 32 → q.1.testBit i = false → x.toBitVec.getLsbD i = q.2.testBit i
  | .inr (.inr (.inr (.inr (.inr (.inr q))))), v => ∃ x : Int64, v = .long x ∧ ∀ i, i < 64 → q.1.testBit i = false → x.toBitVec.getLsbD i = q.2.testBit i
def xSR (G : XG) : List XV → List Value → Prop
  | [], [] => True
  | v :: r, w :: r' => xrel G v w ∧ xSR G r r'
  | _, _ => False
def xLR (G : XG) (nL : Nat) (ls : XL) (lsM : Array Slot) : Prop := lsM.size = nL ∧ lv_wf lsM ∧ ∀ i v, xlget ls i = some v → ∃ w, lsM[i]? = some (.val w) ∧ xrel G v w
def xTy (tc : Nat) : FieldType := if tc = 0 then .int else if tc = 1 then .long else if tc = 2 then .boolean else if tc = 10 then .object "EditsMeet$Edit" else if tc = 11 then .object "EditsMeet$Shelf" else .int
def xcell (tyf : Nat → FieldType) (G : XG) (U : State) (c : XC) (a : Nat) (H : Heap) : Prop := match c with
  | none => True
  | some (.inl o) => ∃ vs : List Value, va_at G.2.2.1 G.2.2.2.1 (a, .inr (o.1, vs)) H ∧ xSR G o.2 vs
  | some (.inr r) => ∃ (cA : ClassId) (g : Nat → Value), H[a]? = some (arrV cA r.2.1 g) ∧ ArrOfT U cA (tyf r.1) ∧ va_RA U cA (tyf r.1) ∧ r.2.1 ≤ 4000000 ∧ ∀ i, i < r.2.1 → xrel G (xelem r.1 r.2.2.1 r.2.2.2 i) (g i)
def xHR (tyf : Nat → FieldType) (G : XG) (U : State) (h : XH) (H : Heap) : Prop :=
  (∀ j, G.1 (h.1 + j) = H.size + j) ∧ 4 ≤ h.1 ∧ h.1 ≤ 2048 ∧ ∀ k, 3 ≤ k → k < h.1 → xcell tyf G U (xget 11 h.2.2 k) (G.1 k) H
def xGok (G : XG) : Prop := (∀ i j, 4 ≤ i → 0 < j → j ≠ 2 → G.1 i = G.1 j → i = j) ∧ ∀ k, 4 ≤ k → G.2.2.2.2 ≤ G.1 k
def xrelO (G : XG) : Option XV → Option Value → Prop
  | none, none => True
  | some v, some w => xrel G v w
  | _, _ => False
def xEok (E : XE) (G : XG) : Prop := ∀ i q, xEget E i = some q → q.1 ≤ (G.2.1 i).toInt ∧ (G.2.1 i).toInt ≤ q.2
/-- the static row of no elements that lists begin with, and the class object of rows of objects -/
def xE0 (G : XG) (U : State) (H : Heap) : Prop := ∃ cell : Cell, H[G.1 1]? = some cell ∧ U.isArrayOf cell (.object "java/lang/Object") ∧ cell.slots.size = 0 ∧ G.1 1 < G.2.2.2.2
def xEx (G : XG) (U : State) (H : Heap) : Prop := xHasE = true → xE0 G U H ∧ va_Z "java/util/ArrayList" "DEFAULTCAPACITY_EMPTY_ELEMENTDATA" "[Ljava/lang/Object;" (.ref (G.1 1)) (fun q => G.2.2.2.2 ≤ q) U H ∧ va_Mi "[Ljava/lang/Object;" (G.1 2) U
def xQc (tyf : Nat → FieldType) (G : XG) (v : Option XV) (h : XH) : Array Value → State → Outcome → State → Prop := fun _ st o t => (∃ w, o = .returned w ∧ xrelO G v w) ∧ xHR tyf G t h t.heap ∧ va_F (fun q => G.2.2.2.2 ≤ q) st t
def xPc (tyf : Nat → FieldType) (NW : List Cond) (G : XG) (av : List XV) (h : XH) : Array Value → State → Prop := fun v U => (∃ vs : List Value, v = vs.toArray ∧ xSR G av vs) ∧ xHR tyf G U h U.heap ∧ va_K G.2.2.1 G.2.2.2.1 [] U ∧ (∀ w ∈ NW, va_Nw w U) ∧ G.2.2.2.2 ≤ U.heap.size ∧ xEx G U U.heap
/-- an activation: program, launch, env, room, entry state, method, arguments, frames below, method, code, goal, world, locals, cells and slots at its start -/
abbrev XA : Type := Program × (Launch × (Env × (Room × (State × (MethodId × (Array Value × (List Frame × (Method × (Code × ((State → Prop) × (XG × (Nat × (Nat × (Nat × (Nat → FieldType)))))))))))))))
def xGo (a : XA) (pc : Nat) (ls : XL) (st : List XV) (h : XH) : Prop := match a with
  | (p, l, e, R, s, m, args, below, meth, c, Q, G, nL, n0, s0, tyf) => ∀ (H : Heap) (locs : List Loc) (lsM : Array Slot) (stM : List Value), xHR tyf G s h H → va_S (fun q => G.2.2.2.2 ≤ q) s.heap H locs → xLR G nL ls lsM → xSR G st stM → n0 ≤ h.1 → s0 ≤ h.2.1 → W p l e R s m args below meth c H locs (h.1 - n0) (h.2.1 - s0) Q (F0 m pc lsM stM)
abbrev XM : Type := MethodName × (ByteArray × (Nat × Option FieldType))
def xCon (Ts NW : List Cond) (y : XM) (a : XA) (av : List XV) (h : XH) (v : Option XV) (h' : XH) : Prop := match a with
  | (_, l, _, R, _, _, _, _, _, _, _, G, _, _, _, tyf) => ∃ rm : Room, Met l y.1 (Cond.code y.1 y.2.1 y.2.2.1 y.2.2.2 :: Ts) rm (xPc tyf NW G av h) (xQc tyf G v h') (h'.1 - h.1) (h'.2.1 - h.2.1) (fun q => G.2.2.2.2 ≤ q) ∧ rm.cells = h'.1 - h.1 ∧ rm.slots = h'.2.1 - h.2.1 ∧ rm.frames + 1 ≤ R.frames ∧ 8 + (y.2.2.1 + 11) + rm.locals ≤ R.locals
def xEnd (a : XA) (v : Option XV) (h : XH) : Prop := match a with
  | (_, _, _, _, s, _, args, below, _, _, Q, G, _, n0, s0, tyf) => Q = MQ below (xQc tyf G v h) args s (h.1 - n0) (h.2.1 - s0) (fun q => G.2.2.2.2 ≤ q)
def xFits (a : XA) (h : XH) : Prop := match a with
  | (_, _, _, R, _, _, _, _, _, _, _, _, _, n0, s0, _) => h.1 - n0 ≤ R.cells ∧ h.2.1 - s0 ≤ R.slots
def xrh : XR → XH
  | .inl c => c.2.2.2
  | .inr (.inl r) => r.2
  | .inr (.inr q) => q.2.2.2.2.2
def xThen (Ts NW : List Cond) (MT : Nat → XM) (a : XA) : XR → Prop
  | .inl c => xGo a c.1 c.2.1 c.2.2.1 c.2.2.2
  | .inr (.inl r) => xEnd a r.1 r.2
  | .inr (.inr q) => ∃ (v : Option XV) (h : XH), xCon Ts NW (MT q.1) a q.2.1 q.2.2.2.2.2 v h ∧ q.2.2.2.2.2.1 ≤ h.1 ∧ q.2.2.2.2.2.2.1 ≤ h.2.1 ∧ xFits a h ∧ xGo a q.2.2.1 q.2.2.2.1 (xpush v q.2.2.2.2.1) h
def xLe (h h' : XH) : Prop := h.1 ≤ h'.1 ∧ h.2.1 ≤ h'.2.1
def xCx (Ts NW : List Cond) (cc : ByteArray) (own : String) (a : XA) : Prop := match a with
  | (p, _, _, _, s, m, args, _, meth, c, _, G, nL, _, _, _) => CallFix p m c cc nL s args Ts own ∧ meth.locks = false ∧ va_K G.2.2.1 G.2.2.2.1 [] s ∧ (∀ w ∈ NW, va_Nw w s) ∧ xGok G ∧ G.2.2.2.2 ≤ s.heap.size ∧ xEx G s s.heap
def xG (a : XA) : XG := match a with
  | (_, _, _, _, _, _, _, _, _, _, _, G, _, _, _, _) => G
def xNL (a : XA) : Nat := match a with
  | (_, _, _, _, _, _, _, _, _, _, _, _, nL, _, _, _) => nL
def xSK (Ts NW : List Cond) (MT : Nat → XM) (cc : ByteArray) (own : String) (a : XA) (pc : Nat) (k : XK) : Prop :=
  ∀ (E : XE) (ls : XL) (st : List XV) (h : XH) (r : XR), k E ls st h = some r → xLe h (xrh r) ∧ (xCx Ts NW cc own a → xEok E (xG a) → xFits a (xrh r) → xThen Ts NW MT a r → xGo a pc ls st h)
theorem xkI_spec {G : XG} {v : XV} {w : Value} (h : xkI v = true) (hr : xrel G v w) : ∃ x : Int32, w = .int x := by
  rcases v with n | n | n | n | n | n | n <;> simp [xkI] at h <;> (obtain ⟨x, hx, -⟩ := hr; exact ⟨x, hx⟩)
theorem xkL_spec {G : XG} {v : XV} {w : Value} (h : xkL v = true) (hr : xrel G v w) : ∃ x : Int64, w = .long x := by
  rcases v with n | n | n | n | n | n | n <;> simp [xkL] at h <;> (obtain ⟨x, hx, -⟩ := hr; exact ⟨x, hx⟩)
theorem xkR_spec {G : XG} {v : XV} {w : Value} (h : xkR v = true) (hr : xrel G v w) : w = .null ∨ ∃ x, w = .ref x := by
  rcases v with n | n | n | n | n | n | n <;> simp [xkR] at h
  by_cases hn : n = 0
  · exact Or.inl (by simpa [xrel, hn] using hr)
  · exact Or.inr ⟨G.1 n, by simpa [xrel, hn] using hr⟩
theorem xkL_not {G : XG} {v : XV} {w : Value} (h : xkL v = false) (hr : xrel G v w) : w.category = 1 := by
  rcases v with n | n | n | n | n | n | n <;> simp [xkL] at h
  · obtain ⟨x, rfl, -⟩ := hr; rfl
  · have hr : w = (if n = 0 then Value.null else .ref (G.1 n)) := hr
    by_cases hn : n = 0
    · rw [hr, if_pos hn]; rfl
    · rw [hr, if_neg hn]; rfl
  · obtain ⟨x, rfl, -⟩ := hr; rfl
  · obtain ⟨x, rfl, -⟩ := hr; rfl
theorem x_cond {α : Type} {b : Bool} {x y : Option α} {r : α} (h : cond b x y = some r) (hy : y = none) : b = true ∧ x = some r := by
  cases b with
  | true => exact ⟨rfl, h⟩
  | false => rw [hy] at h; cases h
