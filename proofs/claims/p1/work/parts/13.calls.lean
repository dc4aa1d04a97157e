def xTsok (Ts : List Cond) : Prop := ∀ w ∈ Ts, (w.onTables && w.keeps) = true ∨ ∃ ty, w = .arrayClass ty
def xNWok (NW : List Cond) : Prop := ∀ w ∈ NW, (∀ s U : State, s.vm = U.vm → va_Nw w s → va_Nw w U) ∧ ∀ s U : State, s.WarmedH U.vm → va_Nw w s → va_Nw w U
theorem xtake_spec : ∀ {n : Nat} {st acc av st' : List XV}, xtake n st acc = some (av, st') → ∀ (G : XG) (stM accM : List Value), xSR G st stM → xSR G acc accM → ∃ tk stM' : List Value, stM = tk ++ stM' ∧ tk.length = n ∧ xSR G av (tk.reverse ++ accM) ∧ xSR G st' stM' := by
  intro n
  induction n with
  | zero =>
    intro st acc av st' h G stM accM h1 h2
    cases st <;> (cases h; exact ⟨[], stM, rfl, rfl, h2, h1⟩)
  | succ n ih =>
    intro st acc av st' h G stM accM h1 h2
    rcases st with _ | ⟨v, st⟩
    · cases h
    · rcases stM with _ | ⟨w, stM⟩
      · exact h1.elim
      · obtain ⟨tk, stM', e1, e2, e3, e4⟩ := ih (st := st) (acc := v :: acc) h G stM (w :: accM) h1.2 ⟨h1.1, h2⟩
        exact ⟨w :: tk, stM', by rw [e1]; rfl, by simp [e2], by simpa using e3, e4⟩
theorem xcats_spec {G : XG} : ∀ {st : List XV} {stM : List Value}, xSR G st stM → (stM.map fun v => v.category).sum = xcats st
  | [], [], _ => rfl
  | [], _ :: _, h => h.elim
  | _ :: _, [], h => h.elim
  | v :: r, w :: r', h => by
    have ih := xcats_spec (st := r) (stM := r') h.2
    show w.category + (r'.map fun v => v.category).sum = cond (xkL v) (2 + xcats r) (1 + xcats r)
    rw [ih]
    cases hv : xkL v with
    | true =>
      obtain ⟨x, rfl⟩ := xkL_spec hv h.1
      rfl
    | false => rw [xkL_not hv h.1]; rfl
theorem xEx_kept {G : XG} {U : State} {H H1 : Heap} {locs : List Loc} (h : xEx G U H) (hS : va_S (fun q => G.2.2.2.2 ≤ q) H H1 locs) : xEx G U H1 := by
  intro hx
  obtain ⟨⟨cell, e1, e2, e3, e4⟩, h1, h2⟩ := h hx
  refine ⟨⟨cell, ?_, e2, e3, e4⟩, va_Z.kept h1 hS.2.1, h2⟩
  rw [hS.2.1 _ (Array.getElem?_eq_some_iff.mp e1).1 (Nat.not_le.mpr e4)]
  exact e1
theorem xEx_moved {G : XG} {u U : State} {H : Heap} (hvm : u.vm.Alike U.vm) (h : xEx G u H) : xEx G U H := by
  intro hx
  obtain ⟨⟨cell, e1, e2, e3, e4⟩, h1, h2⟩ := h hx
  exact ⟨⟨cell, e1, State.isArrayOf_alike hvm e2, e3, e4⟩, va_Z.moved hvm h1, h2.moved hvm⟩
theorem xPc_blind {tyf : Nat → FieldType} {NW : List Cond} {G : XG} {av : List XV} {h : XH} (hN : xNWok NW) : FrameBlind (xPc tyf NW G av h) := by
  intro a U g mk ⟨h1, h2, h3, h4, h5, h6⟩
  exact ⟨h1, xHR_moved (u := U) (U := U.calling g mk a) (Vm.Alike.refl U.vm) h2, va_K.moved (u := U) (U := U.calling g mk a) (Vm.Alike.refl U.vm) h3, fun w hw => (hN w hw).1 U (U.calling g mk a) rfl (h4 w hw), h5, xEx_moved (u := U) (U := U.calling g mk a) (Vm.Alike.refl U.vm) h6⟩
section XS
variable {Ts NW : List Cond} {MT : Nat → XM} {cc : ByteArray} {own : String} {a : XA} {pc : Nat} {k : XK}
theorem xw_call {p : Program} {l : Launch} {e : Env} {R : Room} {s : State} {m : MethodId} {args : Array Value} {below : List Frame} {meth : Method} {c : Code} {H : Heap} {locs : List Loc} {cells slots mc ms : Nat} {Q : State → Prop} {ls : Array Slot} {st0 rest : List Value} {tyf : Nat → FieldType} {G : XG} {v : Option XV} {h : XH} {av : Array Value}
    (hr : va_Run p l e R s m args below meth c H locs cells slots mc ms (F0 m pc ls st0) rest (xQc tyf G v h av) (fun q => G.2.2.2.2 ≤ q)) (hS : va_S (fun q => G.2.2.2.2 ≤ q) s.heap H locs)
    (kk : ∀ (w : Option Value) (H1 : Heap) (locs1 : List Loc), xrelO G v w → xHR tyf G s h H1 → va_S (fun q => G.2.2.2.2 ≤ q) s.heap H1 locs1 → W p l e R s m args below meth c H1 locs1 (cells + mc) (slots + ms) Q (F0 m (pc + 3) ls (w.toList ++ rest))) : W p l e R s m args below meth c H locs cells slots Q (F0 m pc ls st0) := by
  intro T hT X
  obtain ⟨w, st₀, t, T', L, h0, X', hL, e1, e2, ⟨⟨w', hv, hrel⟩, hHR, hz, hk⟩, st⟩ := hr T hT X
  cases hv
  rw [h0] at hz hk
  have hal : s.vm.Alike t.vm := by rw [← e2]; exact X'.warmed.alike
  obtain ⟨t2, a1, b1⟩ := kk w T'.heap (locs ++ L) hrel (by rw [e1]; exact xHR_moved hal.symm hHR)
    ⟨Nat.le_trans hS.1 (by rw [e1]; exact hz), fun q h1 h2 => by rw [e1, hk q (Nat.lt_of_lt_of_le h1 hS.1) h2]; exact hS.2.1 q h1 h2, fun q hq => by
      rcases List.mem_append.mp hq with h | h
      · exact hS.2.2 q h
      · exact hL q h⟩ T' rfl X'
  exact ⟨t2, st t2 a1, b1⟩
theorem xpush_rel {G : XG} {v : Option XV} {w : Option Value} {st : List XV} {stM : List Value} (h : xrelO G v w) (q : xSR G st stM) : xSR G (xpush v st) (w.toList ++ stM) := by
  rcases v with _ | v <;> rcases w with _ | w <;> first | exact h.elim | exact q | exact ⟨h, q⟩
/-- what goes on behind a call -/
theorem x_callG {mid n : Nat} {y : XM} (hMT : MT mid = y) {K : XK} (hK : ∀ E ls st h r, K E ls st h = some r → ∃ q, xtake n st [] = some q ∧ r = .inr (.inr (mid, (q.1, (pc + 3, (ls, (q.2, h)))))) ∧ Nat.ble (xcats q.2) 8 = true ∧
      ∀ {p : Program} {l : Launch} {e : Env} {R : Room} {s : State} {m : MethodId} {args : Array Value} {below : List Frame} {meth : Method} {c : Code} {H : Heap} {locs : List Loc} {cells slots : Nat} {ls : Array Slot} {rest tk : List Value} {rm : Room} {v : Option XV} {h' : XH} {mc ms : Nat}, CallFix p m c cc (xNL a) s args Ts own → va_K (xG a).2.2.1 (xCl a) [] s → (∀ w ∈ NW, va_Nw w s) → xHR (xTf a) (xG a) s h H → (xG a).2.2.2.2 ≤ H.size ∧ xEx (xG a) s H → xSR (xG a) q.1 tk.reverse → tk.length = n → ls.size = xNL a → (rest.map fun v => v.category).sum ≤ 8 →
        Met l y.1 (Cond.code y.1 y.2.1 y.2.2.1 y.2.2.2 :: Ts) rm (xPc (xTf a) NW (xG a) q.1 h) (xQc (xTf a) (xG a) v h') mc ms (fun z => (xG a).2.2.2.2 ≤ z) → rm.cells = mc → rm.slots = ms → rm.frames + 1 ≤ R.frames → 8 + (y.2.2.1 + 11) + rm.locals ≤ R.locals → cells + mc ≤ R.cells → slots + ms ≤ R.slots →
        va_Run p l e R s m args below meth c H locs cells slots mc ms (F0 m pc ls (tk ++ rest)) rest (xQc (xTf a) (xG a) v h' tk.reverse.toArray) (fun z => (xG a).2.2.2.2 ≤ z)) : xSK Ts NW MT cc own a pc K := by
  intro E ls st h r hr
  obtain ⟨q, h1, rfl, h3, row⟩ := hK E ls st h r hr
  refine ⟨xLe_rf h, fun hC hE hF hT => ?_⟩
  obtain ⟨v, h', ⟨hcon, hle1, hle2, hfit, hgo⟩⟩ := hT
  rw [hMT] at hcon
  obtain ⟨p, l, e, R, s, m, args, below, meth, c, Q, G, nL, n0, s0, tyf⟩ := a
  intro H locs lsM stM a1 a2 a3 a4 a5 a6
  obtain ⟨tk, stM', rfl, e2, e3, e4⟩ := xtake_spec (av := q.1) (st' := q.2) h1 G stM [] a4 trivial
  rw [List.append_nil] at e3
  obtain ⟨rm, hM, r1, r2, r3, r4⟩ := hcon
  have f1 : h'.1 - n0 ≤ R.cells := hfit.1
  have f2 : h'.2.1 - s0 ≤ R.slots := hfit.2
  have hle1 : h.1 ≤ h'.1 := hle1
  have hle2 : h.2.1 ≤ h'.2.1 := hle2
  refine xw_call (row (mc := h'.1 - h.1) (ms := h'.2.1 - h.2.1) hC.1 hC.2.2.1 hC.2.2.2.1 a1 ⟨Nat.le_trans hC.2.2.2.2.2.1 a2.1, xEx_kept hC.2.2.2.2.2.2 a2⟩ e3 e2 a3.1 (by rw [xcats_spec e4]; exact xb_le.mp h3) hM r1 r2 r3 r4 (by omega) (by omega)) a2 fun w H1 locs1 b1 b2 b3 => ?_
  have := hgo H1 locs1 lsM (w.toList ++ stM') b2 b3 a3 (xpush_rel b1 e4) (by omega) (by omega)
  have g1 : h'.1 - n0 = h.1 - n0 + (h'.1 - h.1) := by omega
  have g2 : h'.2.1 - s0 = h.2.1 - s0 + (h'.2.1 - h.2.1) := by omega
  rw [g1, g2] at this
  exact this
theorem xws_ok (hTs : xTsok Ts) {args : Array Value} {s : State} {y : MethodName} {bytes : ByteArray} {maxL : Nat} {ret : Option FieldType} (hcw : Cond.code y bytes maxL ret ∈ Ts) (hts : ∀ w ∈ Ts, w.before args s = true) : ∀ w ∈ (Cond.code y bytes maxL ret :: Ts), ∀ (a' : Array Value) (U : State), s.WarmedH U.vm → w.before a' U = true :=
  pay_in hts fun w hw => by
    rcases List.mem_cons.mp hw with rfl | hw
    · exact ⟨hcw, hTs _ hcw⟩
    · exact ⟨hw, hTs _ hw⟩
theorem xpar {y : MethodName} {n : Nat} (h : (parseMethodDescriptor y.desc).map (fun d => d.parameters.length) = some n) : ∀ sig, parseMethodDescriptor y.desc = some sig → n = sig.parameters.length := fun sig hs => by
  rw [hs] at h
  exact (Option.some.inj h).symm
theorem xPc_pre (hN : xNWok NW) {s : State} {H : Heap} {h : XH} {av : List XV} {vs : List Value} (hK : va_K (xG a).2.2.1 (xCl a) [] s) (hNs : ∀ w ∈ NW, va_Nw w s) (hH : xHR (xTf a) (xG a) s h H) (hB : (xG a).2.2.2.2 ≤ H.size ∧ xEx (xG a) s H) (hv : xSR (xG a) av vs) : ∀ U : State, U.heap = H → s.WarmedH U.vm → xPc (xTf a) NW (xG a) av h vs.toArray U := fun U hU hW =>
  ⟨⟨vs, rfl, hv⟩, by rw [hU]; exact xHR_moved hW.alike hH, va_K.moved hW.alike hK, fun w hw => (hN w hw).2 s U hW (hNs w hw), by rw [hU]; exact hB.1, by rw [hU]; exact xEx_moved hW.alike hB.2⟩
theorem x_callS_I (hTs : xTsok Ts) (hN : xNWok NW) {mid n index : Nat} {y : XM} (hMT : MT mid = y) (hcw : Cond.code y.1 y.2.1 y.2.2.1 y.2.2.2 ∈ Ts) (hini : Cond.initialized y.1.cls ∈ Ts) (hst : Cond.static y.1 ∈ Ts) (hl : Cond.methodLink own index y.1 ∈ Ts)
    (hd1 : y.1.cls ≠ "java/lang/invoke/MethodHandle" ∧ y.1.cls ≠ "java/lang/invoke/VarHandle" ∧ (parseMethodDescriptor y.1.desc).map (fun d => d.parameters.length) = some n) (hd : decode cc pc = .ok (.invokestatic index, 3)) : xSK Ts NW MT cc own a pc (X_callS mid n (pc + 3)) :=
  x_callG hMT (n := n) fun E ls st h r hr => by
    unfold X_callS at hr
    split at hr
    · rename_i q hq
      obtain ⟨k1, hr⟩ := x_c1 hr
      cases hr
      refine ⟨q, hq, rfl, k1, fun {p l e R s m args below meth c H locs cells slots ls rest tk rm v h' mc ms} C0 hK hNs hH hB hv hlen hls hW hM r1 r2 r3 r4 r5 r6 => ?_⟩
      have hts := C0.2.2.2.2
      exact va_runS (As := tk.reverse) C0 hM ⟨⟨r1, r2, r3, r4, xws_ok hTs hcw hts, List.mem_cons_self, hts _ hcw, hts _ hini, ⟨hd1.1, hd1.2.1⟩, xpar hd1.2.2, hts _ hl⟩, hts _ hst⟩ ⟨xPc_blind hN, xPc_pre hN hK hNs hH hB hv⟩ rfl (by simpa using hlen) hls (by simp) (lv_room hW) hd ⟨r5, r6⟩
    · cases hr
theorem x_callI_I (hTs : xTsok Ts) (hN : xNWok NW) {mid n index : Nat} {y : XM} (hMT : MT mid = y) (hrt : y.2.2.2 = none) (hcw : Cond.code y.1 y.2.1 y.2.2.1 none ∈ Ts) (hini : Cond.initialized y.1.cls ∈ Ts) (hin : Cond.instanceMethod y.1 ∈ Ts) (hl : Cond.methodLink own index y.1 ∈ Ts) (hnm : y.1.name = "<init>")
    (hd1 : y.1.cls ≠ "java/lang/invoke/MethodHandle" ∧ y.1.cls ≠ "java/lang/invoke/VarHandle" ∧ (parseMethodDescriptor y.1.desc).map (fun d => d.parameters.length) = some n) (hd : decode cc pc = .ok (.invokespecial index, 3)) : xSK Ts NW MT cc own a pc (X_callI mid (n + 1) (pc + 3)) :=
  x_callG hMT (n := n + 1) fun E ls st h r hr => by
    unfold X_callI at hr
    split at hr
    · rename_i b av st' hq
      obtain ⟨k1, hr⟩ := x_c1 hr
      obtain ⟨k2, hr⟩ := x_c1 hr
      cases hr
      refine ⟨_, hq, rfl, k2, fun {p l e R s m args below meth c H locs cells slots ls rest tk rm v h' mc ms} C0 hK hNs hH hB hv hlen hls hW hM r1 r2 r3 r4 r5 r6 => ?_⟩
      have hts := C0.2.2.2.2
      have k1 := xb_le.mp k1
      cases htk : tk.reverse with
      | nil => rw [htk] at hv; exact hv.elim
      | cons w As =>
        rw [htk] at hv
        have e0 : w = (if b = 0 then Value.null else .ref ((xG a).1 b)) := hv.1
        rw [if_neg (by omega)] at e0
        subst e0
        have etk : tk = As.reverse ++ [.ref ((xG a).1 b)] := by rw [← List.reverse_reverse tk, htk]; simp
        rw [hrt] at hM
        exact va_runI (As := As) (rest := rest) (b := (xG a).1 b) (g := F0 m pc ls (tk ++ rest)) (cells := cells) (slots := slots) C0 hM ⟨⟨r1, r2, r3, r4, xws_ok hTs hcw hts, List.mem_cons_self, hts _ hcw, hts _ hini, ⟨hd1.1, hd1.2.1⟩, xpar hd1.2.2, hts _ hl⟩, hnm, hts _ hin⟩ ⟨xPc_blind hN, xPc_pre hN hK hNs hH hB hv⟩ rfl (by rw [etk] at hlen; simpa using hlen) hls (by rw [etk]; simp) (lv_room hW) hd ⟨r5, r6⟩
    · cases hr
theorem x_callV_I (hTs : xTsok Ts) (hN : xNWok NW) {mid n index ci N : Nat} {C : String} {T : u_T} {y : XM} (hc : (xCl a)[ci]? = some (C, T, N)) (hMT : MT mid = y) (hcw : Cond.code y.1 y.2.1 y.2.2.1 y.2.2.2 ∈ Ts) (hini : Cond.initialized y.1.cls ∈ Ts) (hin : Cond.instanceMethod y.1 ∈ Ts) (hse : Cond.selects C y.1 y.1 ∈ Ts) (hl : Cond.methodLink own index y.1 ∈ Ts)
    (hd1 : y.1.cls ≠ "java/lang/invoke/MethodHandle" ∧ y.1.cls ≠ "java/lang/invoke/VarHandle" ∧ (parseMethodDescriptor y.1.desc).map (fun d => d.parameters.length) = some n) (hd : decode cc pc = .ok (.invokevirtual index, 3)) : xSK Ts NW MT cc own a pc (X_callV ci mid (n + 1) (pc + 3)) :=
  x_callG hMT (n := n + 1) fun E ls st h r hr => by
    unfold X_callV at hr
    split at hr
    · rename_i b av st' hq
      split at hr
      · rename_i o hx
        obtain ⟨k1, hr⟩ := x_c1 hr
        obtain ⟨k2, hr⟩ := x_c1 hr
        cases hr
        refine ⟨_, hq, rfl, k2, fun {p l e R s m args below meth c H locs cells slots ls rest tk rm v h' mc ms} C0 hK hNs hH hB hv hlen hls hW hM r1 r2 r3 r4 r5 r6 => ?_⟩
        have hts := C0.2.2.2.2
        obtain ⟨x1, x2, x3⟩ := xat_spec hx
        cases htk : tk.reverse with
        | nil => rw [htk] at hv; exact hv.elim
        | cons w As =>
          rw [htk] at hv
          have e0 : w = (if b = 0 then Value.null else .ref ((xG a).1 b)) := hv.1
          rw [if_neg (by omega)] at e0
          subst e0
          have etk : tk = As.reverse ++ [.ref ((xG a).1 b)] := by rw [← List.reverse_reverse tk, htk]; simp
          have hcell := hH.2.2.2 b x1 x2
          rw [x3] at hcell
          obtain ⟨vs, c1, -⟩ := hcell
          rw [xb_eq.mp k1] at c1
          have hrecv := va_recv (s := s) (H := H) (ws := [((xG a).1 b, .inr (ci, vs))]) (q0 := 0) hK (fun j q hq => by
            rcases j with _ | j
            · cases hq; exact c1
            · cases hq) hc rfl
          exact va_runV (As := As) (rest := rest) (b := (xG a).1 b) (C := C) (g := F0 m pc ls (tk ++ rest)) (cells := cells) (slots := slots) C0 hM ⟨⟨r1, r2, r3, r4, xws_ok hTs hcw hts, List.mem_cons_self, hts _ hcw, hts _ hini, ⟨hd1.1, hd1.2.1⟩, xpar hd1.2.2, hts _ hl⟩, hts _ hin, hts _ hse⟩ ⟨xPc_blind hN, hrecv, xPc_pre hN hK hNs hH hB hv⟩ rfl (by rw [etk] at hlen; simpa using hlen) hls (by rw [etk]; simp) (lv_room hW) hd ⟨r5, r6⟩
      · cases hr
    · cases hr
/-- returns -/
theorem x_endG {v : Option XV} {h : XH} {E : XE} {ls : XL} {st : List XV} {Q : State → Prop} (row : ∀ {p : Program} {l : Launch} {e : Env} {R : Room} {s : State} {m : MethodId} {args : Array Value} {below : List Frame} {meth : Method} {c : Code} {H : Heap} {locs : List Loc} {cells slots : Nat} {lsM : Array Slot} {stM : List Value} {Qc : Array Value → State → Outcome → State → Prop} {free : Addr → Prop}, CallFix p m c cc (xNL a) s args Ts own → meth.locks = false → (∀ rt, xRt a rt → meth.sig.returnType = rt) → xSR (xG a) st stM → (∀ (t : State) (w : Option Value), xrelO (xG a) v w → t.heap = H → s.WarmedH t.vm → Qc args s (.returned w) t) → (∀ q ∈ locs, free q.base) → W p l e R s m args below meth c H locs cells slots (MQ below Qc args s cells slots free) (F0 m pc lsM stM)) :
    xCx Ts NW cc own a → xEnd a v h → xGo a pc ls st h := by
  intro hC hQ
  obtain ⟨p, l, e, R, s, m, args, below, meth, c, Q, G, nL, n0, s0, tyf⟩ := a
  intro H locs lsM stM a1 a2 a3 a4 a5 a6
  have hQ : Q = MQ below (xQc tyf G v h) args s (h.1 - n0) (h.2.1 - s0) (fun q => G.2.2.2.2 ≤ q) := hQ
  subst hQ
  exact row hC.1 hC.2.1 (fun rt h => h) a4 (fun t w hw ht hW => ⟨⟨w, rfl, hw⟩, by rw [ht]; exact xHR_moved hW.alike a1, a2.F ht⟩) a2.2.2
theorem x_vretI (hrt : xRt a none) (hd : decode cc pc = .ok (.return_, 1)) : xSK Ts NW MT cc own a pc X_vret := by
  intro E ls st h r hr
  rcases st with _ | ⟨v, st⟩
  · cases hr
    refine ⟨xLe_rf h, fun hC hE hF hT => ?_⟩
    exact x_endG (E := E) (Q := fun _ => True) (fun {p l e R s m args below meth c H locs cells slots lsM stM Qc free} C0 hlk hr2 hs hq hf => by
      rcases stM with _ | ⟨w, stM⟩
      · exact W.vret C0.1 C0.2.1 (hr2 _ hrt) (fun t ht hW => hq t none trivial ht hW) hf hd hlk
      · exact hs.elim) hC hT
  · cases hr
theorem x_retG {kd : XV → Bool} (row : ∀ {p : Program} {l : Launch} {e : Env} {R : Room} {s : State} {m : MethodId} {args : Array Value} {below : List Frame} {meth : Method} {c : Code} {H : Heap} {locs : List Loc} {cells slots : Nat} {lsM : Array Slot} {v : XV} {w : Value} {Qc : Array Value → State → Outcome → State → Prop} {free : Addr → Prop}, CallFix p m c cc (xNL a) s args Ts own → meth.locks = false → (∀ rt, xRt a rt → meth.sig.returnType = rt) → kd v = true → xrel (xG a) v w → (∀ t : State, t.heap = H → s.WarmedH t.vm → Qc args s (.returned (some w)) t) → (∀ q ∈ locs, free q.base) → W p l e R s m args below meth c H locs cells slots (MQ below Qc args s cells slots free) (F0 m pc lsM [w])) :
    xSK Ts NW MT cc own a pc (X_ret kd) := by
  intro E ls st h r hr
  rcases st with _ | ⟨v, _ | ⟨v2, st⟩⟩
  · cases hr
  · obtain ⟨k1, hr⟩ := x_c1 hr
    cases hr
    refine ⟨xLe_rf h, fun hC hE hF hT => ?_⟩
    exact x_endG (E := E) (Q := fun _ => True) (fun {p l e R s m args below meth c H locs cells slots lsM stM Qc free} C0 hlk hr2 hs hq hf => by
      rcases stM with _ | ⟨w, _ | ⟨w2, stM⟩⟩
      · exact hs.elim
      · exact row C0 hlk hr2 k1 hs.1 (fun t ht hW => hq t (some w) hs.1 ht hW) hf
      · exact hs.2.elim) hC hT
  · cases hr
theorem x_iretI (hrt : xRt a (some .int)) (hd : decode cc pc = .ok (.ireturn, 1)) : xSK Ts NW MT cc own a pc (X_ret xkI) :=
  x_retG (fun C0 hlk hr2 hk hrel hq hf => by
    obtain ⟨x, rfl⟩ := xkI_spec hk hrel
    exact W.iret C0.1 C0.2.1 (hr2 _ hrt) hq hf hd hlk)
theorem x_zretI (hrt : xRt a (some .boolean)) (hd : decode cc pc = .ok (.ireturn, 1)) : xSK Ts NW MT cc own a pc (X_ret xk01) :=
  x_retG (fun C0 hlk hr2 hk hrel hq hf => by
    obtain ⟨q1, -⟩ := xkd_Z (xG a) _ _ hk hrel
    rename_i v w _ _
    rcases v with n | n
    · obtain ⟨x, rfl, -⟩ := hrel
      exact W.zret C0.1 C0.2.1 (hr2 _ hrt) q1 hq hf hd hlk
    · cases hk)
theorem x_lretI (hrt : xRt a (some .long)) (hd : decode cc pc = .ok (.lreturn, 1)) : xSK Ts NW MT cc own a pc (X_ret xkL) :=
  x_retG (fun C0 hlk hr2 hk hrel hq hf => by
    obtain ⟨x, rfl⟩ := xkL_spec hk hrel
    exact W.lret C0.1 C0.2.1 (hr2 _ hrt) hq hf hd hlk)
theorem x_aretI {rt : FieldType} (hrt : xRt a (some rt)) (hty : (∃ n, rt = .object n) ∨ ∃ t, rt = .array t) (hd : decode cc pc = .ok (.areturn, 1)) : xSK Ts NW MT cc own a pc (X_ret xkR) :=
  x_retG (fun C0 hlk hr2 hk hrel hq hf => W.aret C0.1 C0.2.1 (hr2 _ hrt) hty (xkR_spec hk hrel) hq hf hd hlk)
end XS
