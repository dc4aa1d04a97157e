def lw_AE : Term := .static "java/util/ArrayList" "DEFAULTCAPACITY_EMPTY_ELEMENTDATA" "[Ljava/lang/Object;"
theorem lw_len0 {args : Array Value} {s : State} {t : Term} (h : (Cond.eq (.length t) (.int 0)).before args s = true) : ∃ a cell, t.eval args s none [] s = some (.ref a) ∧ s.arrayAt? a = some cell ∧ cell.slots.size = 0 := by
  have hv : (Term.length t).eval args s none [] s = some (.int 0) := by
    cases hv : (Term.length t).eval args s none [] s with
    | none => simp [Cond.before, Cond.holds, Cond.value, hv] at h
    | some w =>
      have hz : (Term.int 0).eval args s none [] s = some (.int 0) := rfl
      simp only [Cond.before, Cond.holds, Cond.value, hv, hz] at h
      cases w <;> simp_all
  obtain ⟨a, cell, ht, harr, he⟩ := Term.length_spec hv
  have hsz : cell.slots.size < 2147483648 := by
    simp only [Term.eval, ht, harr, Option.bind_eq_bind, Option.bind_some] at hv
    by_cases hlt : cell.slots.size < 2147483648
    · exact hlt
    · simp [hlt] at hv
  refine ⟨a, cell, ht, harr, ?_⟩
  have h0 : (Int32.ofNat cell.slots.size).toBitVec.toNat = cell.slots.size := pk_tn (by omega)
  have h1 : (0 : Int32) = Int32.ofNat cell.slots.size := Value.int.inj he
  rw [← h1] at h0
  exact h0.symm
def lw_isO (w : Cond) : Bool := match w with
  | .arrayOver _ => true
  | _ => false
theorem lw_nw {b : Nat} {s : State} (hts : ∀ w ∈ lw_tbl, w.before #[Value.ref b] s = true) : ∀ w ∈ xNW, va_Nw w s := by
  have h : ∀ w ∈ xNW, (w.onTables || lw_isO w) = true := by decide +kernel
  intro w hw
  have h0 := hts w (xNW_in w hw)
  have h1 := h w hw
  cases hq : w.onTables with
  | true => exact va_Nw.of hq h0
  | false =>
    rw [hq] at h1
    have h2 : lw_isO w = true := h1
    unfold lw_isO at h2
    split at h2
    · exact h0
    · cases h2
theorem lw_xts {b : Nat} {s : State} (hts : ∀ w ∈ lw_tbl, w.before #[Value.ref b] s = true) : ∀ w ∈ xTs, w.before #[Value.ref b] s = true := fun w hw => hts w (List.mem_filter.mp hw).1
theorem lw_c0 {b : Nat} {s : State} (hts : ∀ w ∈ lw_tbl, w.before #[Value.ref b] s = true) : ∃ (cC : ClassId) (iS : Nat → Nat), u_Kn s RX0 TX0 11 cC iS := u_known (n := 11) (lw_xts hts) U_0 (hts _ (List.mem_of_getElem? (i := 609) (by decide +kernel)))
theorem lw_c1 {b : Nat} {s : State} (hts : ∀ w ∈ lw_tbl, w.before #[Value.ref b] s = true) : ∃ (cC : ClassId) (iS : Nat → Nat), u_Kn s RX1 TX1 9 cC iS := u_known (n := 9) (lw_xts hts) U_1 (hts _ (List.mem_of_getElem? (i := 297) (by decide +kernel)))
theorem lw_c2 {b : Nat} {s : State} (hts : ∀ w ∈ lw_tbl, w.before #[Value.ref b] s = true) : ∃ (cC : ClassId) (iS : Nat → Nat), u_Kn s RX2 TX2 14 cC iS := u_known (n := 14) (lw_xts hts) U_2 (hts _ (List.mem_of_getElem? (i := 471) (by decide +kernel)))
theorem lw_c3 {b : Nat} {s : State} (hts : ∀ w ∈ lw_tbl, w.before #[Value.ref b] s = true) : ∃ (cC : ClassId) (iS : Nat → Nat), u_Kn s RX3 TX3 7 cC iS := u_known (n := 7) (lw_xts hts) U_3 (hts _ (List.mem_of_getElem? (i := 686) (by decide +kernel)))
theorem lw_c4 {b : Nat} {s : State} (hts : ∀ w ∈ lw_tbl, w.before #[Value.ref b] s = true) : ∃ (cC : ClassId) (iS : Nat → Nat), u_Kn s RX4 TX4 20 cC iS := u_known (n := 20) (lw_xts hts) U_4 (hts _ (List.mem_of_getElem? (i := 290) (by decide +kernel)))
theorem lw_c5 {b : Nat} {s : State} (hts : ∀ w ∈ lw_tbl, w.before #[Value.ref b] s = true) : ∃ (cC : ClassId) (iS : Nat → Nat), u_Kn s RX5 TX5 9 cC iS := u_known (n := 9) (lw_xts hts) U_5 (hts _ (List.mem_of_getElem? (i := 478) (by decide +kernel)))
theorem lw_c6 {b : Nat} {s : State} (hts : ∀ w ∈ lw_tbl, w.before #[Value.ref b] s = true) : ∃ (cC : ClassId) (iS : Nat → Nat), u_Kn s RX6 TX6 6 cC iS := u_known (n := 6) (lw_xts hts) U_6 (hts _ (List.mem_of_getElem? (i := 659) (by decide +kernel)))
theorem lw_c7 {b : Nat} {s : State} (hts : ∀ w ∈ lw_tbl, w.before #[Value.ref b] s = true) : ∃ (cC : ClassId) (iS : Nat → Nat), u_Kn s RX7 TX7 8 cC iS := u_known (n := 8) (lw_xts hts) U_7 (hts _ (List.mem_of_getElem? (i := 574) (by decide +kernel)))
theorem lw_c8 {b : Nat} {s : State} (hts : ∀ w ∈ lw_tbl, w.before #[Value.ref b] s = true) : ∃ (cC : ClassId) (iS : Nat → Nat), u_Kn s RX8 TX8 19 cC iS := u_known (n := 19) (lw_xts hts) U_8 (hts _ (List.mem_of_getElem? (i := 401) (by decide +kernel)))
theorem lw_c9 {b : Nat} {s : State} (hts : ∀ w ∈ lw_tbl, w.before #[Value.ref b] s = true) : ∃ (cC : ClassId) (iS : Nat → Nat), u_Kn s RX9 TX9 16 cC iS := u_known (n := 16) (lw_xts hts) U_9 (hts _ (List.mem_of_getElem? (i := 158) (by decide +kernel)))
theorem lw_c10 {b : Nat} {s : State} (hts : ∀ w ∈ lw_tbl, w.before #[Value.ref b] s = true) : ∃ (cC : ClassId) (iS : Nat → Nat), u_Kn s RX10 TX10 14 cC iS := u_known (n := 14) (lw_xts hts) U_10 (hts _ (List.mem_of_getElem? (i := 232) (by decide +kernel)))
theorem lw_c11 {b : Nat} {s : State} (hts : ∀ w ∈ lw_tbl, w.before #[Value.ref b] s = true) : ∃ (cC : ClassId) (iS : Nat → Nat), u_Kn s RX11 TX11 14 cC iS := u_known (n := 14) (lw_xts hts) U_11 (hts _ (List.mem_of_getElem? (i := 150) (by decide +kernel)))
theorem lw_c12 {b : Nat} {s : State} (hts : ∀ w ∈ lw_tbl, w.before #[Value.ref b] s = true) : ∃ (cC : ClassId) (iS : Nat → Nat), u_Kn s RX12 TX12 33 cC iS := u_known (n := 33) (lw_xts hts) U_12 (hts _ (List.mem_of_getElem? (i := 2126) (by decide +kernel)))
theorem lw_K {b : Nat} {s : State} (hts : ∀ w ∈ lw_tbl, w.before #[Value.ref b] s = true) : ∃ D : va_G, va_K D xcl [] s := by
  obtain ⟨c0, i0, h0⟩ := lw_c0 hts
  obtain ⟨c1, i1, h1⟩ := lw_c1 hts
  obtain ⟨c2, i2, h2⟩ := lw_c2 hts
  obtain ⟨c3, i3, h3⟩ := lw_c3 hts
  obtain ⟨c4, i4, h4⟩ := lw_c4 hts
  obtain ⟨c5, i5, h5⟩ := lw_c5 hts
  obtain ⟨c6, i6, h6⟩ := lw_c6 hts
  obtain ⟨c7, i7, h7⟩ := lw_c7 hts
  obtain ⟨c8, i8, h8⟩ := lw_c8 hts
  obtain ⟨c9, i9, h9⟩ := lw_c9 hts
  obtain ⟨c10, i10, h10⟩ := lw_c10 hts
  obtain ⟨c11, i11, h11⟩ := lw_c11 hts
  obtain ⟨c12, i12, h12⟩ := lw_c12 hts
  refine ⟨(fun k => match k with
    | 0 => c0
    | 1 => c1
    | 2 => c2
    | 3 => c3
    | 4 => c4
    | 5 => c5
    | 6 => c6
    | 7 => c7
    | 8 => c8
    | 9 => c9
    | 10 => c10
    | 11 => c11
    | _ => c12, fun k => match k with
    | 0 => i0
    | 1 => i1
    | 2 => i2
    | 3 => i3
    | 4 => i4
    | 5 => i5
    | 6 => i6
    | 7 => i7
    | 8 => i8
    | 9 => i9
    | 10 => i10
    | 11 => i11
    | _ => i12), fun c q hq => ?_, fun k q hk => by cases hk⟩
  match c, hq with
  | 0, hq => cases hq; exact h0
  | 1, hq => cases hq; exact h1
  | 2, hq => cases hq; exact h2
  | 3, hq => cases hq; exact h3
  | 4, hq => cases hq; exact h4
  | 5, hq => cases hq; exact h5
  | 6, hq => cases hq; exact h6
  | 7, hq => cases hq; exact h7
  | 8, hq => cases hq; exact h8
  | 9, hq => cases hq; exact h9
  | 10, hq => cases hq; exact h10
  | 11, hq => cases hq; exact h11
  | 12, hq => cases hq; exact h12
  | c + 13, hq => cases hq
def lw_rho (r mi b z : Nat) : Nat → Nat := fun k => if k = 1 then r else if k = 2 then mi else if k = 3 then b else z + (k - 4)
theorem lw_rho4 {r mi b z k : Nat} (h : 4 ≤ k) : lw_rho r mi b z k = z + (k - 4) := by
  unfold lw_rho
  rw [if_neg (by omega), if_neg (by omega), if_neg (by omega)]
theorem lw_world {p : Program} {s : State} {m : MethodId} {meth : Method} {c : Code} {b L : Nat} {xs : Nat → Int32} (C0 : lw_At p s m meth c b L xs) : ∃ G : XG, G.2.1 = xs ∧ G.1 3 = b ∧ G.2.2.2.1 = xcl ∧ G.2.2.2.2 = s.heap.size ∧ (∀ j, G.1 (4 + j) = s.heap.size + j) ∧ va_K G.2.2.1 G.2.2.2.1 [] s ∧ xEx G s s.heap ∧ xGok G := by
  obtain ⟨hx, hb, hr, hml, hown, hts, hX, hbl, hlk, hgv⟩ := C0
  have hlt : b < s.heap.size := hbl
  obtain ⟨D, hD⟩ := lw_K hts
  refine ⟨(lw_rho b b b s.heap.size, (xs, (D, (xcl, s.heap.size)))), rfl, rfl, rfl, rfl, fun j => ?_, hD, fun hE => absurd hE (by decide), fun i j h1 h2 h3 h4 => ?_, fun k hk => ?_⟩
  · show lw_rho b b b s.heap.size (4 + j) = s.heap.size + j
    rw [lw_rho4 (by omega)]
    omega
  · have h4 : lw_rho b b b s.heap.size i = lw_rho b b b s.heap.size j := h4
    rw [lw_rho4 h1] at h4
    by_cases j1 : j = 1
    · subst j1
      have h4 : s.heap.size + (i - 4) = b := h4
      have key : ∀ z r e : Nat, r < z → z + e = r → False := fun z r e q1 q2 => by omega
      exact (key _ _ _ hlt h4).elim
    · by_cases j3 : j = 3
      · subst j3
        have h4 : s.heap.size + (i - 4) = b := h4
        omega
      · rw [lw_rho4 (by omega)] at h4
        omega
  · show s.heap.size ≤ lw_rho b b b s.heap.size k
    rw [lw_rho4 hk]
    omega
def xLA (p : Program) (l : Launch) (e : Env) (s : State) (m : MethodId) (below : List Frame) (meth : Method) (c : Code) (b : Nat) (G : XG) : XA := (p, l, e, room_1, s, m, #[Value.ref b], below, meth, c, lw_Z below #[Value.ref b] s, G, 4, 4, 0, xtf)
theorem lw_wide {p : Program} {l : Launch} {e : Env} {R : Room} {s : State} {m : MethodId} {args : Array Value} {below : List Frame} {meth : Method} {c : Code} {H : Heap} {locs : List Loc} {cells slots : Nat} {Q : State → Prop} {F : JFrame} (hl : ∀ x ∈ locs, s.heap.size ≤ x.base) (hc : cells ≤ 390462) (hs : slots ≤ 7930864) (h : W p l e R s m args below meth c H [] 390462 7930864 Q F) : W p l e R s m args below meth c H locs cells slots Q F := by
  intro T hT X
  have Y := Stand.dropFresh (locs := []) (J := locs) (by simpa using X) hl
  exact h T hT ⟨Y.admits, Y.cas, Y.clock, Y.frames, Y.room, Y.hears, Y.method, Y.code, Y.here, Y.tail, Y.warmed, Y.limits, Y.bytes, Y.same.mono hc hs⟩
theorem dL_ret : decode cL_law 1670 = .ok (.ireturn, 1) := by decide +kernel
theorem lw_end {p : Program} {l : Launch} {e : Env} {s : State} {m : MethodId} {below : List Frame} {meth : Method} {c : Code} {b L : Nat} {xs : Nat → Int32} {G : XG} (C0 : lw_At p s m meth c b L xs) (hsz : G.2.2.2.2 = s.heap.size) : ∀ (ls : XL) (h' : XH), h'.1 ≤ 2048 → h'.2.1 ≤ 7302250 → xGo (xLA p l e s m below meth c b G) 1670 ls [.inl 1] h' := by
  intro ls h' b1 b2 H locs lsM stM a1 a2 a3 a4 a5 a6
  obtain ⟨hx, hb, hr, hml, hown, hts, hX, hbl, hlk, hgv⟩ := C0
  rcases stM with _ | ⟨w, _ | ⟨w2, stM⟩⟩
  · exact a4.elim
  · obtain ⟨⟨x, rfl, hn⟩, -⟩ := a4
    have e1 : x = 1 := by
      have : x.toBitVec = (1 : Int32).toBitVec := BitVec.eq_of_toNat_eq hn
      exact Int32.toBitVec_inj.mp this
    subst e1
    refine lw_wide (fun q hq => ?_) (by omega) (by omega) (lw_ret hx hb hr hlk dL_ret)
    have := a2.2.2 q hq
    rw [← hsz]
    exact this
  · exact a4.2.elim
section XS
variable {Ts NW : List Cond} {MT : Nat → XM} {cc : ByteArray} {own : String} {a : XA} {tb : Nat → Option XK} {E : XE}
theorem xleaf_go {call : Nat → List XV → XE → XH → Option (Option XV × XH)} (hT : xTab Ts NW MT cc own a tb) (hcall : ∀ mid av h v h', call mid av E h = some (v, h') → xLe h h' ∧ (xEok E (xG a) → xCon Ts NW (MT mid) a av h v h')) {stop N : Nat} {c0 : Nat × (XL × (List XV × XH))} (ht : xleaf call stop tb N c0 E = true) (hC : xCx Ts NW cc own a) (hE : xEok E (xG a)) (hf : ∀ h' : XH, h'.1 ≤ 2048 → h'.2.1 ≤ 7302250 → xFits a h') (hend : ∀ (ls : XL) (h' : XH), h'.1 ≤ 2048 → h'.2.1 ≤ 7302250 → xGo a stop ls [.inl 1] h') : xGo a c0.1 c0.2.1 c0.2.2.1 c0.2.2.2 := by
  obtain ⟨ls, h', q, b1, b2⟩ := xleaf_ok ht
  obtain ⟨-, s2⟩ := xrun_ok hT hcall N c0 _ q
  exact s2 hC hE (hf h' b1 b2) (hend ls h' b1 b2)
end XS
