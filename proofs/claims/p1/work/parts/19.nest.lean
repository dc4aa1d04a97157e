section XS
variable {Ts NW : List Cond} {MT : Nat → XM} {cc : ByteArray} {own : String} {a : XA} {pc : Nat} {k : XK}
theorem x_callS_N (hTs : xTsok Ts) (hN : xNWok NW) {mid n index : Nat} {y : XM} {host : String} (hMT : MT mid = y) (hcw : Cond.code y.1 y.2.1 y.2.2.1 y.2.2.2 ∈ Ts) (hini : Cond.initialized y.1.cls ∈ Ts) (hst : Cond.static y.1 ∈ Ts) (hl : Cond.methodLinkNest own index y.1 host ∈ NW)
    (hd1 : y.1.cls ≠ "java/lang/invoke/MethodHandle" ∧ y.1.cls ≠ "java/lang/invoke/VarHandle" ∧ (parseMethodDescriptor y.1.desc).map (fun d => d.parameters.length) = some n) (hd : decode cc pc = .ok (.invokestatic index, 3)) : xSK Ts NW MT cc own a pc (X_callS mid n (pc + 3)) :=
  x_callG hMT (n := n) fun E ls st h r hr => by
    unfold X_callS at hr
    split at hr
    · rename_i q hq
      obtain ⟨k1, hr⟩ := x_c1 hr
      cases hr
      refine ⟨q, hq, rfl, k1, fun {p l e R s m args below meth c H locs cells slots ls rest tk rm v h' mc ms} C0 hK hNs hH hB hv hlen hls hW hM r1 r2 r3 r4 r5 r6 => ?_⟩
      have hts := C0.2.2.2.2
      exact va_runSN (As := tk.reverse) C0 hM ⟨⟨⟨r1, r2, r3, r4, xws_ok hTs hcw hts, List.mem_cons_self⟩, hts _ hcw, hts _ hini, ⟨hd1.1, hd1.2.1⟩, xpar hd1.2.2, va_Nw.use rfl (hNs _ hl)⟩, hts _ hst, trivial⟩ ⟨xPc_blind hN, xPc_pre hN hK hNs hH hB hv⟩ rfl (by simpa using hlen) hls (by simp) (lv_room hW) hd ⟨r5, r6⟩
    · cases hr
theorem x_callI_N (hTs : xTsok Ts) (hN : xNWok NW) {mid n index : Nat} {y : XM} {host : String} (hMT : MT mid = y) (hrt : y.2.2.2 = none) (hcw : Cond.code y.1 y.2.1 y.2.2.1 none ∈ Ts) (hini : Cond.initialized y.1.cls ∈ Ts) (hin : Cond.instanceMethod y.1 ∈ Ts) (hl : Cond.methodLinkNest own index y.1 host ∈ NW) (hnm : y.1.name = "<init>")
    (hd1 : y.1.cls ≠ "java/lang/invoke/MethodHandle" ∧ y.1.cls ≠ "java/lang/invoke/VarHandle" ∧ (parseMethodDescriptor y.1.desc).map (fun d => d.parameters.length) = some n) (hd : decode cc pc = .ok (.invokespecial index, 3)) : xSK Ts NW MT cc own a pc (X_callI mid (n + 1) (pc + 3)) :=
  x_callG hMT (n := n + 1) fun E ls st h r hr => by
    unfold X_callI at hr
    split at hr
    · rename_i b av st' hq
      obtain ⟨k1, hr⟩ := x_c1 hr
      obtain ⟨k2, hr⟩ := x_c1 hr
      cases hr
      refine ⟨_, hq, rfl, k2, fun {p l e R s m args below meth c H locs cells slots ls rest tk rm v h' mc ms} C0 hK hNs hH hB hv hlen hls hW hM r1 r2 r3 r4 r5 r6 => ?_⟩
      have hts := C0.2.2.2.2
      have k1 := xb_le.mp k1
      cases htk : tk.reverse with
      | nil => rw [htk] at hv; exact hv.elim
      | cons w As =>
        rw [htk] at hv
        have e0 : w = (if b = 0 then Value.null else .ref ((xG a).1 b)) := hv.1
        rw [if_neg (by omega)] at e0
        subst e0
        have etk : tk = As.reverse ++ [.ref ((xG a).1 b)] := by rw [← List.reverse_reverse tk, htk]; simp
        rw [hrt] at hM
        exact va_runIN (As := As) (rest := rest) (b := (xG a).1 b) (g := F0 m pc ls (tk ++ rest)) (cells := cells) (slots := slots) C0 hM ⟨⟨⟨r1, r2, r3, r4, xws_ok hTs hcw hts, List.mem_cons_self⟩, hts _ hcw, hts _ hini, ⟨hd1.1, hd1.2.1⟩, xpar hd1.2.2, va_Nw.use rfl (hNs _ hl)⟩, hnm, hts _ hin⟩ ⟨xPc_blind hN, xPc_pre hN hK hNs hH hB hv⟩ rfl (by rw [etk] at hlen; simpa using hlen) hls (by rw [etk]; simp) (lv_room hW) hd ⟨r5, r6⟩
    · cases hr
theorem x_callV_N (hTs : xTsok Ts) (hN : xNWok NW) {mid n index ci N : Nat} {C : String} {T : u_T} {y : XM} {host : String} (hc : (xCl a)[ci]? = some (C, T, N)) (hMT : MT mid = y) (hcw : Cond.code y.1 y.2.1 y.2.2.1 y.2.2.2 ∈ Ts) (hini : Cond.initialized y.1.cls ∈ Ts) (hin : Cond.instanceMethod y.1 ∈ Ts) (hse : Cond.selects C y.1 y.1 ∈ Ts) (hl : Cond.methodLinkNest own index y.1 host ∈ NW)
    (hd1 : y.1.cls ≠ "java/lang/invoke/MethodHandle" ∧ y.1.cls ≠ "java/lang/invoke/VarHandle" ∧ (parseMethodDescriptor y.1.desc).map (fun d => d.parameters.length) = some n) (hd : decode cc pc = .ok (.invokevirtual index, 3)) : xSK Ts NW MT cc own a pc (X_callV ci mid (n + 1) (pc + 3)) :=
  x_callG hMT (n := n + 1) fun E ls st h r hr => by
    unfold X_callV at hr
    split at hr
    · rename_i b av st' hq
      split at hr
      · rename_i o hx
        obtain ⟨k1, hr⟩ := x_c1 hr
        obtain ⟨k2, hr⟩ := x_c1 hr
        cases hr
        refine ⟨_, hq, rfl, k2, fun {p l e R s m args below meth c H locs cells slots ls rest tk rm v h' mc ms} C0 hK hNs hH hB hv hlen hls hW hM r1 r2 r3 r4 r5 r6 => ?_⟩
        have hts := C0.2.2.2.2
        obtain ⟨x1, x2, x3⟩ := xat_spec hx
        cases htk : tk.reverse with
        | nil => rw [htk] at hv; exact hv.elim
        | cons w As =>
          rw [htk] at hv
          have e0 : w = (if b = 0 then Value.null else .ref ((xG a).1 b)) := hv.1
          rw [if_neg (by omega)] at e0
          subst e0
          have etk : tk = As.reverse ++ [.ref ((xG a).1 b)] := by rw [← List.reverse_reverse tk, htk]; simp
          have hcell := hH.2.2.2 b x1 x2
          rw [x3] at hcell
          obtain ⟨vs, c1, -⟩ := hcell
          rw [xb_eq.mp k1] at c1
          have hrecv := va_recv (s := s) (H := H) (ws := [((xG a).1 b, .inr (ci, vs))]) (q0 := 0) hK (fun j q hq => by
            rcases j with _ | j
            · cases hq; exact c1
            · cases hq) hc rfl
          exact va_runVN (As := As) (rest := rest) (b := (xG a).1 b) (C := C) (g := F0 m pc ls (tk ++ rest)) (cells := cells) (slots := slots) C0 hM ⟨⟨⟨r1, r2, r3, r4, xws_ok hTs hcw hts, List.mem_cons_self⟩, hts _ hcw, hts _ hini, ⟨hd1.1, hd1.2.1⟩, xpar hd1.2.2, va_Nw.use rfl (hNs _ hl)⟩, hts _ hin, hts _ hse⟩ ⟨xPc_blind hN, hrecv, xPc_pre hN hK hNs hH hB hv⟩ rfl (by rw [etk] at hlen; simpa using hlen) hls (by rw [etk]; simp) (lv_room hW) hd ⟨r5, r6⟩
      · cases hr
    · cases hr
end XS
