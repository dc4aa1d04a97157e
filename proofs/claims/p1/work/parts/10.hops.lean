section XS
variable {Ts NW : List Cond} {MT : Nat → XM} {cc : ByteArray} {own : String} {a : XA} {pc : Nat} {k : XK}
def xMn (a : XA) (nm : String) : Prop := match a with
  | (_, _, _, _, _, _, _, _, meth, _, _, _, _, _, _, _) => meth.name = nm
def xRt (a : XA) (rt : Option FieldType) : Prop := match a with
  | (_, _, _, _, _, _, _, _, meth, _, _, _, _, _, _, _) => meth.sig.returnType = rt
def xTf (a : XA) : Nat → FieldType := match a with
  | (_, _, _, _, _, _, _, _, _, _, _, _, _, _, _, tyf) => tyf
def xCl (a : XA) : List vw_C := (xG a).2.2.2.1
/-- the field's name as javac spells it, and as its class declares it -/
def xSame (Ts : List Cond) (ref : String) (f : String × String × String × Bool) : Prop := f.1 = ref ∨ Cond.sameField ref f.1 f.2.1 f.2.2.1 ∈ Ts
theorem xSame_ok {ref : String} {f : String × String × String × Bool} (h : xSame Ts ref f) {args : Array Value} {s : State} (hts : ∀ w ∈ Ts, w.before args s = true) : ∀ x, s.fieldFound? f.1 f.2.1 f.2.2.1 = some x → s.fieldFound? ref f.2.1 f.2.2.1 = some x := by
  intro x hx
  rcases h with h | h
  · rw [← h]; exact hx
  · exact u_same (hts _ h) x hx
theorem x_getG {ci i : Nat} {n : Nat} (row : ∀ {p : Program} {l : Launch} {e : Env} {R : Room} {s : State} {m : MethodId} {args : Array Value} {below : List Frame} {meth : Method} {c : Code} {H : Heap} {locs : List Loc} {cells slots : Nat} {Q : State → Prop} {ls : Array Slot} {rest : List Value} {D : va_G} {ad : Nat} {vs : List Value} {w : Value}, CallFix p m c cc (xNL a) s args Ts own → va_K D (xCl a) [] s → (∀ w ∈ NW, va_Nw w s) → va_at D (xCl a) (ad, .inr (ci, vs)) H → vs[i]? = some w →
      W p l e R s m args below meth c H locs cells slots Q (F0 m (pc + n) ls (w :: rest)) → W p l e R s m args below meth c H locs cells slots Q (F0 m pc ls (.ref ad :: rest)))
    (hk : xSK Ts NW MT cc own a (pc + n) k) : xSK Ts NW MT cc own a pc (X_getf ci i k) := by
  intro E ls st h r hr
  unfold X_getf at hr
  split at hr
  · rename_i ad st'
    split at hr
    · rename_i o hx
      obtain ⟨k1, hr⟩ := x_c1 hr
      split at hr
      · rename_i v hv
        obtain ⟨h1, h2⟩ := hk E ls (v :: st') h r hr
        refine ⟨h1, fun hC hE hF hT => ?_⟩
        have h3 := h2 hC hE hF hT
        obtain ⟨x1, x2, x3⟩ := xat_spec hx
        obtain ⟨p, l, e, R, s, m, args, below, meth, c, Q, G, nL, n0, s0, tyf⟩ := a
        intro H locs lsM stM a1 a2 a3 a4 a5 a6
        rcases stM with _ | ⟨w0, stM⟩
        · exact a4.elim
        · have e0 : w0 = (if ad = 0 then Value.null else .ref (G.1 ad)) := a4.1
          rw [if_neg (by omega)] at e0
          subst e0
          have hc := a1.2.2.2 ad x1 x2
          rw [x3] at hc
          obtain ⟨vs, c1, c2⟩ := hc
          rw [xb_eq.mp k1] at c1
          obtain ⟨w, hw, hrel⟩ := xSR_get c2 hv
          exact row hC.1 hC.2.2.1 hC.2.2.2.1 c1 hw (h3 H locs lsM (w :: stM) a1 a2 a3 ⟨hrel, a4.2⟩ a5 a6)
      · cases hr
    · cases hr
  · cases hr
theorem x_getfI {C ref : String} {T : u_T} {N ci i index : Nat} (hc : (xCl a)[ci]? = some (C, T, N)) (hi : i < N) (hin : ∀ w ∈ u_ws C T N, w ∈ Ts) (hw : Cond.fieldLink own index ref (T i).2.1 (T i).2.2.1 ∈ Ts) (hs : xSame Ts ref (T i)) (hd : decode cc pc = .ok (.getfield index, 3))
    (hk : xSK Ts NW MT cc own a (pc + 3) k) : xSK Ts NW MT cc own a pc (X_getf ci i k) :=
  x_getG (fun C0 hK _ hat hv kk => va_get C0.1 C0.2.1 C0.2.2.2.2 hin C0.2.2.2.1 hK (ws := [(_, .inr (ci, _))]) (fun j q hq => by
    rcases j with _ | j
    · cases hq; exact hat
    · cases hq) 0 rfl hc i hi (C0.2.2.2.2 _ hw) (xSame_ok hs C0.2.2.2.2) hv hd kk) hk
theorem x_getfN {C ref host : String} {T : u_T} {N ci i index : Nat} (hc : (xCl a)[ci]? = some (C, T, N)) (hi : i < N) (hin : ∀ w ∈ u_ws C T N, w ∈ Ts) (hw : Cond.fieldLinkNest own index ref (T i).2.1 (T i).2.2.1 host ∈ NW) (hs : xSame Ts ref (T i)) (hd : decode cc pc = .ok (.getfield index, 3))
    (hk : xSK Ts NW MT cc own a (pc + 3) k) : xSK Ts NW MT cc own a pc (X_getf ci i k) :=
  x_getG (fun C0 hK hN hat hv kk => va_getN C0.1 C0.2.1 C0.2.2.2.2 hin C0.2.2.2.1 hK (ws := [(_, .inr (ci, _))]) (fun j q hq => by
    rcases j with _ | j
    · cases hq; exact hat
    · cases hq) 0 rfl hc i hi (va_Nw.use rfl (hN _ hw)) (xSame_ok hs C0.2.2.2.2) hv hd kk) hk
/-- a put, what its row gives: the cell as it is then, all others as they were -/
theorem x_putG {kd : XV → Bool} {ci i n : Nat} {ty : FieldType} (hkd : ∀ v w, kd v = true → xrel (xG a) v w → narrow ty w = w ∧ fits ty w = true)
    (row : ∀ {p : Program} {l : Launch} {e : Env} {R : Room} {s : State} {m : MethodId} {args : Array Value} {below : List Frame} {meth : Method} {c : Code} {H : Heap} {locs : List Loc} {cells slots : Nat} {Q : State → Prop} {ls : Array Slot} {rest : List Value} {D : va_G} {ad : Nat} {vs : List Value} {w : Value}, CallFix p m c cc (xNL a) s args Ts own → va_K D (xCl a) [] s → (∀ w ∈ NW, va_Nw w s) → (∀ nm, xMn a nm → meth.name = nm) → va_at D (xCl a) (ad, .inr (ci, vs)) H → i < vs.length → narrow ty w = w → fits ty w = true →
      (∀ (H1 : Heap) (j : Nat), va_at D (xCl a) (ad, .inr (ci, vs.set i w)) H1 → H1.size = H.size → (∀ q : Nat, q ≠ ad → H1[q]? = H[q]?) → W p l e R s m args below meth c H1 (locs ++ [⟨ad, j⟩]) cells slots Q (F0 m (pc + n) ls rest)) → W p l e R s m args below meth c H locs cells slots Q (F0 m pc ls (w :: .ref ad :: rest)))
    (hk : xSK Ts NW MT cc own a (pc + n) k) : xSK Ts NW MT cc own a pc (X_putf kd ci i k) := by
  intro E ls st h r hr
  unfold X_putf at hr
  split at hr
  · rename_i v ad st'
    obtain ⟨k0, hr⟩ := x_c1 hr
    obtain ⟨k4, hr⟩ := x_c1 hr
    split at hr
    · rename_i o hx
      obtain ⟨k1, hr⟩ := x_c1 hr
      obtain ⟨k2, hr⟩ := x_c1 hr
      obtain ⟨h1, h2⟩ := hk E ls st' _ r hr
      refine ⟨h1, fun hC hE hF hT => ?_⟩
      have h3 := h2 hC hE hF hT
      obtain ⟨x1, x2, x3⟩ := xat_spec hx
      obtain ⟨p, l, e, R, s, m, args, below, meth, c, Q, G, nL, n0, s0, tyf⟩ := a
      intro H locs lsM stM a1 a2 a3 a4 a5 a6
      rcases stM with _ | ⟨w, _ | ⟨w0, stM⟩⟩
      · exact a4.elim
      · exact a4.2.elim
      · have e0 : w0 = (if ad = 0 then Value.null else .ref (G.1 ad)) := a4.2.1
        rw [if_neg (by omega)] at e0
        subst e0
        have hc := a1.2.2.2 ad x1 x2
        rw [x3] at hc
        obtain ⟨vs, c1, c2⟩ := hc
        rw [xb_eq.mp k1] at c1
        obtain ⟨q1, q2⟩ := hkd v w k0 a4.1
        have hl := xb_lt.mp k2
        rw [xSR_len c2] at hl
        have hB : G.2.2.2.2 ≤ G.1 ad := hC.2.2.2.2.1.2 ad (xb_le.mp k4)
        refine row hC.1 hC.2.2.1 hC.2.2.2.1 (fun _ h => h) c1 hl q1 q2 fun H1 j b1 b2 b3 => ?_
        refine h3 H1 _ lsM stM (xHR_put a1 hC.2.2.2.2.1 (xb_le.mp k4) x2 b2 b3 ⟨vs.set i w, ?_, xSR_set c2 a4.1⟩) (xS_put a2 b2 b3 hB) a3 a4.2.2 a5 a6
        show va_at G.2.2.1 G.2.2.2.1 (G.1 ad, .inr (o.1, vs.set i w)) H1
        rw [xb_eq.mp k1]
        exact b1
    · cases hr
  · cases hr
theorem x_putfI {kd : XV → Bool} {ty : FieldType} (hkd : ∀ v w, kd v = true → xrel (xG a) v w → narrow ty w = w ∧ fits ty w = true) {C ref : String} {T : u_T} {N ci i index : Nat} (hc : (xCl a)[ci]? = some (C, T, N)) (hi : i < N) (hin : ∀ w ∈ u_ws C T N, w ∈ Ts) (ty0 : Nat → FieldType) (hty : ∀ k, k < N → parseFieldDescriptor (T k).2.2.1 = some (ty0 k)) (hnm : ∀ a, a < N → ∀ b, b < N → a ≠ b → (T a).2.1 ≠ (T b).2.1)
    (hw : Cond.fieldLink own index ref (T i).2.1 (T i).2.2.1 ∈ Ts) (hs : xSame Ts ref (T i)) (hfin : (T i).2.2.2 = false) (hdt : parseFieldDescriptor (T i).2.2.1 = some ty) (hd : decode cc pc = .ok (.putfield index, 3))
    (hk : xSK Ts NW MT cc own a (pc + 3) k) : xSK Ts NW MT cc own a pc (X_putf kd ci i k) :=
  x_putG hkd (fun {p l e R s m args below meth c H locs cells slots Q ls rest D ad vs w} C0 hK hN _ hat hl hn hf kk => by
    have hap := va_apart (own := own) C0.2.2.2.2 hin ty0 hty hnm hK hc
    obtain ⟨r, h1, cell, q1, q2, q3, q4⟩ := hat
    have hr : r = (C, T, N) := Option.some.inj (h1.symm.trans hc)
    subst hr
    obtain ⟨hS, hfc, kC, hkC, hkind⟩ := hK.1 ci _ hc
    obtain ⟨cf, kf, fi, f, hif, hsl⟩ := hS i hi
    have hlay := C0.2.2.2.2 _ (hin _ (u_in_lay hi))
    unfold u_lay at hlay
    rw [if_neg (by rw [hfin]; decide)] at hlay
    have hst := (u_facts hfc hkC (u_lays C0.2.2.2.2 hin hi) hif).1
    have h6 := u_store hfc hkC hkind hlay hif hdt hn hf
    refine W.putK C0.1 C0.2.1 (f := f) ⟨C0.2.2.2.1, C0.2.2.2.2 _ hw, ⟨_, _, _, xSame_ok hs C0.2.2.2.2 _ hif⟩, hst⟩ (by rw [q2]; exact h6) q1 q3 (by rw [hsl]; exact k2_hasslot (q4 i hi)) rfl rfl hd fun H' e1 e2 e3 => ?_
    rw [hsl] at e1 ⊢
    exact kk H' _ ⟨_, hc, t_OB.to (V := updV (vp_V vs) i w) ⟨_, e1, q2, q3, t_set q4 hap hi w⟩ (fun j _ => vp_updV_set hl w j)⟩ e2 e3) hk
theorem x_putfN {kd : XV → Bool} {ty : FieldType} (hkd : ∀ v w, kd v = true → xrel (xG a) v w → narrow ty w = w ∧ fits ty w = true) {C ref host : String} {T : u_T} {N ci i index : Nat} (hc : (xCl a)[ci]? = some (C, T, N)) (hi : i < N) (hin : ∀ w ∈ u_ws C T N, w ∈ Ts) (ty0 : Nat → FieldType) (hty : ∀ k, k < N → parseFieldDescriptor (T k).2.2.1 = some (ty0 k)) (hnm : ∀ a, a < N → ∀ b, b < N → a ≠ b → (T a).2.1 ≠ (T b).2.1)
    (hw : Cond.fieldLinkNest own index ref (T i).2.1 (T i).2.2.1 host ∈ NW) (hs : xSame Ts ref (T i)) (hfin : (T i).2.2.2 = false) (hdt : parseFieldDescriptor (T i).2.2.1 = some ty) (hd : decode cc pc = .ok (.putfield index, 3))
    (hk : xSK Ts NW MT cc own a (pc + 3) k) : xSK Ts NW MT cc own a pc (X_putf kd ci i k) :=
  x_putG hkd (fun {p l e R s m args below meth c H locs cells slots Q ls rest D ad vs w} C0 hK hN _ hat hl hn hf kk => by
    have hap := va_apart (own := own) C0.2.2.2.2 hin ty0 hty hnm hK hc
    obtain ⟨r, h1, cell, q1, q2, q3, q4⟩ := hat
    have hr : r = (C, T, N) := Option.some.inj (h1.symm.trans hc)
    subst hr
    obtain ⟨hS, hfc, kC, hkC, hkind⟩ := hK.1 ci _ hc
    obtain ⟨cf, kf, fi, f, hif, hsl⟩ := hS i hi
    have hlay := C0.2.2.2.2 _ (hin _ (u_in_lay hi))
    unfold u_lay at hlay
    rw [if_neg (by rw [hfin]; decide)] at hlay
    have hst := (u_facts hfc hkC (u_lays C0.2.2.2.2 hin hi) hif).1
    have h6 := u_store hfc hkC hkind hlay hif hdt hn hf
    refine va_WputK C0.1 C0.2.1 (f := f) C0.2.2.2.1 (va_Nw.use rfl (hN _ hw)) (xSame_ok hs C0.2.2.2.2 _ hif) hst (by rw [q2]; exact h6) q1 q3 (by rw [hsl]; exact k2_hasslot (q4 i hi)) rfl rfl hd fun H' e1 e2 e3 => ?_
    rw [hsl] at e1 ⊢
    exact kk H' _ ⟨_, hc, t_OB.to (V := updV (vp_V vs) i w) ⟨_, e1, q2, q3, t_set q4 hap hi w⟩ (fun j _ => vp_updV_set hl w j)⟩ e2 e3) hk
theorem x_putfF (hm : xMn a "<init>") {kd : XV → Bool} {ty : FieldType} (hkd : ∀ v w, kd v = true → xrel (xG a) v w → narrow ty w = w ∧ fits ty w = true) {C ref : String} {T : u_T} {N ci i index : Nat} (hc : (xCl a)[ci]? = some (C, T, N)) (hi : i < N) (hin : ∀ w ∈ u_ws C T N, w ∈ Ts) (ty0 : Nat → FieldType) (hty : ∀ k, k < N → parseFieldDescriptor (T k).2.2.1 = some (ty0 k)) (hnm : ∀ a, a < N → ∀ b, b < N → a ≠ b → (T a).2.1 ≠ (T b).2.1)
    (hw : Cond.fieldLink own index ref (T i).2.1 (T i).2.2.1 ∈ Ts) (hs : xSame Ts ref (T i)) (hfin : (T i).2.2.2 = true) (hdecl : (T i).1 = own) (hdt : parseFieldDescriptor (T i).2.2.1 = some ty) (hd : decode cc pc = .ok (.putfield index, 3))
    (hk : xSK Ts NW MT cc own a (pc + 3) k) : xSK Ts NW MT cc own a pc (X_putf kd ci i k) :=
  x_putG hkd (fun {p l e R s m args below meth c H locs cells slots Q ls rest D ad vs w} C0 hK hN hnm2 hat hl hn hf kk => by
    have hap := va_apart (own := own) C0.2.2.2.2 hin ty0 hty hnm hK hc
    obtain ⟨r, h1, cell, q1, q2, q3, q4⟩ := hat
    have hr : r = (C, T, N) := Option.some.inj (h1.symm.trans hc)
    subst hr
    obtain ⟨hS, hfc, kC, hkC, hkind⟩ := hK.1 ci _ hc
    obtain ⟨cf, kf, fi, f, hif, hsl⟩ := hS i hi
    have hlay := C0.2.2.2.2 _ (hin _ (u_in_lay hi))
    unfold u_lay at hlay
    rw [if_pos hfin] at hlay
    have hst := (u_facts hfc hkC (u_lays C0.2.2.2.2 hin hi) hif).1
    have hcf : m.cls = cf := by
      obtain ⟨_, _, c', _, _, _, -, -, hf', -, -, -, hown2, -⟩ := Cond.laysFinal_spec hlay
      have e1 : c' = cf := by have := hif.symm.trans hf'; simp at this; exact this.1.symm
      rw [hdecl] at hown2
      rw [← e1]; exact Option.some.inj (C0.2.2.2.1.symm.trans hown2)
    have h6 := u_fits hfc hkC hkind (Or.inr hlay) hif hdt hn hf
    refine W.putFinK C0.1 C0.2.1 C0.2.2.2.1 (C0.2.2.2.2 _ hw) (xSame_ok hs C0.2.2.2.2 _ hif) hst hcf (hnm2 _ hm) (by rw [q2]; exact h6) q1 q3 (by rw [hsl]; exact k2_hasslot (q4 i hi)) rfl rfl hd fun H' e1 e2 e3 => ?_
    rw [hsl] at e1 ⊢
    exact kk H' _ ⟨_, hc, t_OB.to (V := updV (vp_V vs) i w) ⟨_, e1, q2, q3, t_set q4 hap hi w⟩ (fun j _ => vp_updV_set hl w j)⟩ e2 e3) hk
theorem xkd_I (G : XG) : ∀ v w, xkI v = true → xrel G v w → narrow .int w = w ∧ fits .int w = true := fun v w h hr => by
  obtain ⟨x, rfl⟩ := xkI_spec h hr
  exact ⟨rfl, rfl⟩
theorem xkd_L (G : XG) : ∀ v w, xkL v = true → xrel G v w → narrow .long w = w ∧ fits .long w = true := fun v w h hr => by
  obtain ⟨x, rfl⟩ := xkL_spec h hr
  exact ⟨rfl, rfl⟩
theorem xkd_R (G : XG) (C : String) : ∀ v w, xkR v = true → xrel G v w → narrow (.object C) w = w ∧ fits (.object C) w = true := fun v w h hr => by
  rcases xkR_spec h hr with rfl | ⟨x, rfl⟩ <;> exact ⟨rfl, rfl⟩
theorem xkd_RA (G : XG) (t : FieldType) : ∀ v w, xkR v = true → xrel G v w → narrow (.array t) w = w ∧ fits (.array t) w = true := fun v w h hr => by
  rcases xkR_spec h hr with rfl | ⟨x, rfl⟩ <;> exact ⟨rfl, rfl⟩
theorem xkd_Z (G : XG) : ∀ v w, xk01 v = true → xrel G v w → narrow .boolean w = w ∧ fits .boolean w = true := fun v w h hr => by
  rcases v with n | n
  · obtain ⟨x, rfl, hx⟩ := hr
    have hn := xb_le.mp h
    have : x = 0 ∨ x = 1 := by
      rcases (by omega : n = 0 ∨ n = 1) with e | e
      · exact Or.inl (xn_inj (by rw [hx, e]; rfl))
      · exact Or.inr (xn_inj (by rw [hx, e]; rfl))
    rcases this with rfl | rfl <;> exact ⟨by decide +kernel, by decide +kernel⟩
  · cases h
/-- new -/
theorem x_newI {C : String} {T : u_T} {N ci index : Nat} {fs : List XV} (hc : (xCl a)[ci]? = some (C, T, N)) (hin : ∀ w ∈ u_ws C T N, w ∈ Ts) (ty0 : Nat → FieldType) (hty : ∀ k, k < N → parseFieldDescriptor (T k).2.2.1 = some (ty0 k)) (hcl : Cond.classLink own index C ∈ Ts) (hins : Cond.instantiable C N ∈ Ts) (hini : Cond.initialized C ∈ Ts)
    (hfs : ∃ vs : List Value, xSR (xG a) fs vs ∧ ∀ j, j < N → defaultValue (ty0 j) = vp_V vs j) (hd : decode cc pc = .ok (.new index, 3)) (hk : xSK Ts NW MT cc own a (pc + 3) k) : xSK Ts NW MT cc own a pc (X_new ci fs N k) := by
  intro E ls st h r hr
  unfold X_new at hr
  obtain ⟨k1, hr⟩ := x_c1 hr
  obtain ⟨h1, h2⟩ := hk E ls _ _ r hr
  have h1a : h.1 + 1 ≤ (xrh r).1 := h1.1
  have h1b : h.2.1 + N ≤ (xrh r).2.1 := h1.2
  refine ⟨⟨by omega, by omega⟩, fun hC hE hF hT => ?_⟩
  have h3 := h2 hC hE hF hT
  have k1 := xb_lt.mp k1
  obtain ⟨p, l, e, R, s, m, args, below, meth, c, Q, G, nL, n0, s0, tyf⟩ := a
  intro H locs lsM stM a1 a2 a3 a4 a5 a6
  obtain ⟨vs, v1, v2⟩ := hfs
  have hF1 : (xrh r).1 - n0 ≤ R.cells := hF.1
  have hF2 : (xrh r).2.1 - s0 ≤ R.slots := hF.2
  have hKn := hC.2.2.1.1 ci _ hc
  have C0 := hC.1
  refine W.newcK C0.1 C0.2.1 C0.2.2.2.1 (C0.2.2.2.2 _ hcl) (C0.2.2.2.2 _ hins) (C0.2.2.2.2 _ hini) rfl hd (by omega) (by omega) hKn.2.1 rfl fun H1 kC hkC e1 z1 o1 => ?_
  have hcell : xcell tyf G s (some (.inl (ci, fs))) H.size H1 := ⟨vs, ⟨_, hc, (u_born ty0 C0.2.2.2.2 hin hKn hkC e1 hty).to v2⟩, v1⟩
  have e0 : H.size = G.1 h.1 := (a1.1 0).symm
  have := h3 H1 locs lsM (.ref H.size :: stM) (xHR_add a1 k1 z1 o1 hcell) (xS_add a2 (by omega) o1) a3 ⟨by show Value.ref H.size = (if h.1 = 0 then Value.null else .ref (G.1 h.1)); rw [if_neg (by have := a1.2.1; omega), e0], a4⟩ (by show n0 ≤ h.1 + 1; omega) (by show s0 ≤ h.2.1 + N; omega)
  have g1 : (xadd h N (some (.inl (ci, fs)))).1 - n0 = h.1 - n0 + 1 := by show h.1 + 1 - n0 = _; omega
  have g2 : (xadd h N (some (.inl (ci, fs)))).2.1 - s0 = h.2.1 - s0 + N := by show h.2.1 + N - s0 = _; omega
  rw [g1, g2] at this
  exact this
theorem xwd0 (i : Nat) : xwd 0 i = 0 := by
  show (0 >>> (32 * i)) % 4294967296 = 0
  rw [Nat.zero_shiftRight]
theorem xwdL0 (i : Nat) : xwdL 0 i = 0 := by
  show (0 >>> (64 * i)) % 18446744073709551616 = 0
  rw [Nat.zero_shiftRight]
/-- the default elements of a kind of array -/
def xdf (tc : Nat) : Value := if tc = 1 then .long 0 else if tc ≤ 9 then .int 0 else .null
theorem xelt0 {G : XG} (tc i : Nat) : xrel G (xelem tc 0 [] i) (xdf tc) := by
  show xrel G (cond (Nat.beq tc 1) (.inr (.inl (xwdL 0 i))) (cond (Nat.ble tc 9) (.inl (xwd 0 i)) (.inr (.inr (.inl (xwd 0 i)))))) _
  rw [xwd0, xwdL0]
  unfold xdf
  by_cases h1 : tc = 1
  · rw [xb_eq.mpr h1, if_pos h1]; exact ⟨0, rfl, rfl⟩
  · have e1 : Nat.beq tc 1 = false := by cases hb : Nat.beq tc 1 with | false => rfl | true => exact absurd (xb_eq.mp hb) h1
    rw [e1, if_neg h1]
    by_cases h2 : tc ≤ 9
    · rw [xb_le.mpr h2, if_pos h2]; exact ⟨0, rfl, rfl⟩
    · have e2 : Nat.ble tc 9 = false := by cases hb : Nat.ble tc 9 with | false => rfl | true => exact absurd (xb_le.mp hb) h2
      rw [e2, if_neg h2]
      rfl
theorem x_addA {tc : Nat} {tyf : Nat → FieldType} {G : XG} {s : State} {h : XH} {H H1 : Heap} {n : Nat} {cA : ClassId} (a1 : xHR tyf G s h H) (k1 : h.1 < 2048) (kn : n ≤ 4000000) (z1 : H1.size = H.size + 1) (o1 : ∀ q, q < H.size → H1[q]? = H[q]?) (e1 : H1[H.size]? = some (arrV cA n (fun _ => xdf tc))) (q1 : ArrOfT s cA (tyf tc)) (q2 : va_RA s cA (tyf tc)) : xHR tyf G s (xadd h n (some (.inr (tc, (n, (0, [])))))) H1 :=
  xHR_add a1 k1 z1 o1 ⟨cA, _, e1, q1, q2, kn, fun i _ => xelt0 tc i⟩
theorem xi_cl (x : Int32) {n : Nat} (hx : x.toBitVec.toNat = n) (hn : n < 2147483648) : ¬ x < 0 ∧ x.toNatClampNeg = n := by
  have h := xn_toInt x
  rw [hx, if_pos (by omega)] at h
  refine ⟨fun q => ?_, ?_⟩
  · rw [Int32.lt_iff_toInt_lt] at q
    have q : x.toInt < 0 := q
    omega
  · show x.toInt.toNat = n
    omega
theorem x_newaG {tc n0' : Nat} (row : ∀ {p : Program} {l : Launch} {e : Env} {R : Room} {s : State} {m : MethodId} {args : Array Value} {below : List Frame} {meth : Method} {c : Code} {H : Heap} {locs : List Loc} {cells slots : Nat} {Q : State → Prop} {ls : Array Slot} {rest : List Value} {x : Int32} {n : Nat}, CallFix p m c cc (xNL a) s args Ts own → (∀ w ∈ NW, va_Nw w s) → ¬ x < 0 → x.toNatClampNeg = n → n ≤ 4000000 → cells + 1 ≤ R.cells → slots + n ≤ R.slots →
      (∀ (H1 : Heap) (cA : ClassId), H1[H.size]? = some (arrV cA n (fun _ => xdf tc)) → H1.size = H.size + 1 → (∀ q, q < H.size → H1[q]? = H[q]?) → ArrOfT s cA (xTf a tc) → va_RA s cA (xTf a tc) → W p l e R s m args below meth c H1 locs (cells + 1) (slots + n) Q (F0 m (pc + n0') ls (.ref H.size :: rest))) → W p l e R s m args below meth c H locs cells slots Q (F0 m pc ls (.int x :: rest)))
    (hk : xSK Ts NW MT cc own a (pc + n0') k) : xSK Ts NW MT cc own a pc (X_newa tc k) := by
  intro E ls st h r hr
  unfold X_newa at hr
  split at hr
  · rename_i n st'
    obtain ⟨k1, hr⟩ := x_c1 hr
    obtain ⟨k2, hr⟩ := x_c1 hr
    obtain ⟨h1, h2⟩ := hk E ls _ _ r hr
    have h1a : h.1 + 1 ≤ (xrh r).1 := h1.1
    have h1b : h.2.1 + n ≤ (xrh r).2.1 := h1.2
    refine ⟨⟨by omega, by omega⟩, fun hC hE hF hT => ?_⟩
    have h3 := h2 hC hE hF hT
    have k1 := xb_lt.mp k1
    have k2 := xb_le.mp k2
    obtain ⟨p, l, e, R, s, m, args, below, meth, c, Q, G, nL, n0, s0, tyf⟩ := a
    intro H locs lsM stM a1 a2 a3 a4 a5 a6
    rcases stM with _ | ⟨w, stM⟩
    · exact a4.elim
    · obtain ⟨⟨x, rfl, hx⟩, a4⟩ := a4
      obtain ⟨y1, y2⟩ := xi_cl x hx (by omega)
      have hF1 : (xrh r).1 - n0 ≤ R.cells := hF.1
      have hF2 : (xrh r).2.1 - s0 ≤ R.slots := hF.2
      refine row hC.1 hC.2.2.2.1 y1 y2 k2 (by omega) (by omega) fun H1 cA e1 z1 o1 q1 q2 => ?_
      have e0 : H.size = G.1 h.1 := (a1.1 0).symm
      have := h3 H1 locs lsM (.ref H.size :: stM) (x_addA a1 k1 k2 z1 o1 e1 q1 q2) (xS_add a2 (by omega) o1) a3 ⟨by show Value.ref H.size = (if h.1 = 0 then Value.null else .ref (G.1 h.1)); rw [if_neg (by have := a1.2.1; omega), e0], a4⟩ (by show n0 ≤ h.1 + 1; omega) (by show s0 ≤ h.2.1 + n; omega)
      have g1 : (xadd h n (some (.inr (tc, (n, (0, [])))))).1 - n0 = h.1 - n0 + 1 := by show h.1 + 1 - n0 = _; omega
      have g2 : (xadd h n (some (.inr (tc, (n, (0, [])))))).2.1 - s0 = h.2.1 - s0 + n := by show h.2.1 + n - s0 = _; omega
      rw [g1, g2] at this
      exact this
  · cases hr
theorem x_newarr {tc : Nat} {at' : ArrayType} (hty : xTf a tc = newarray.typeOf at') (hdv : defaultValue (newarray.typeOf at') = xdf tc) (hcb : componentBytes (newarray.typeOf at') ≤ 8) (hnr : ∀ C, newarray.typeOf at' ≠ .object C) (hw : Cond.arrayClass (newarray.typeOf at') ∈ Ts) (hd : decode cc pc = .ok (.newarray at', 2)) (hk : xSK Ts NW MT cc own a (pc + 2) k) : xSK Ts NW MT cc own a pc (X_newa tc k) :=
  x_newaG (fun {p l e R s m args below meth c H locs cells slots Q ls rest x n} C0 _ y1 y2 y3 y4 y5 kk => by
    refine va_newaK C0.1 C0.2.1 (C0.2.2.2.2 _ hw) rfl hd rfl y1 y2 (by
      have : n * componentBytes (newarray.typeOf at') ≤ 4000000 * 8 := Nat.mul_le_mul y3 hcb
      omega) y4 y5 rfl fun H1 cA e1 z1 o1 hAr hNm => ?_
    rw [hdv] at e1
    refine kk H1 cA e1 z1 o1 (by rw [hty]; exact hAr) ?_
    rw [hty]
    cases h : newarray.typeOf at' <;> first | (rw [h] at hNm; exact hNm) | exact absurd h (hnr _)) hk
theorem x_anew {tc index : Nat} {C : String} (hty : xTf a tc = .object C) (htc : 10 ≤ tc) (hcl : Cond.classLink own index C ∈ Ts) (hov : Cond.arrayOver (.object C) ∈ NW) (hd : decode cc pc = .ok (.anewarray index, 3)) (hk : xSK Ts NW MT cc own a (pc + 3) k) : xSK Ts NW MT cc own a pc (X_newa tc k) :=
  x_newaG (fun {p l e R s m args below meth c H locs cells slots Q ls rest x n} C0 hN y1 y2 y3 y4 y5 kk => by
    subst y2
    have hov' : (Cond.arrayOver (.object C)).before args s = true := va_AO.use (A := args) (hN _ hov)
    refine W.anew C0.1 C0.2.1 C0.2.2.2.1 (C0.2.2.2.2 _ hcl) hov' rfl hd rfl y1 (by omega) y4 y5 fun cA kA comp g1 g2 g3 g4 => ?_
    refine kk _ cA ?_ ?_ ?_ ?_ ?_
    · rw [show xdf tc = .null by unfold xdf; rw [if_neg (by omega), if_neg (by omega)], ← arrV_new]; simp
    · simp
    · intro q hq
      rw [Array.getElem?_push, if_neg (Nat.ne_of_lt hq)]
    · rw [hty]; exact fun n z => ⟨fun k h => (by cases h), kA, g2, comp, g3⟩
    · rw [hty]; exact ⟨kA, comp, g2, g3, g4, g1⟩) hk
theorem x_alenI (hd : decode cc pc = .ok (.arraylength, 1)) (hk : xSK Ts NW MT cc own a (pc + 1) k) : xSK Ts NW MT cc own a pc (X_alen k) := by
  intro E ls st h r hr
  unfold X_alen at hr
  split at hr
  · rename_i ad st'
    split at hr
    · rename_i o hx
      obtain ⟨h1, h2⟩ := hk E ls _ h r hr
      refine ⟨h1, fun hC hE hF hT => ?_⟩
      have h3 := h2 hC hE hF hT
      obtain ⟨x1, x2, x3⟩ := xat_spec hx
      obtain ⟨p, l, e, R, s, m, args, below, meth, c, Q, G, nL, n0, s0, tyf⟩ := a
      intro H locs lsM stM a1 a2 a3 a4 a5 a6
      rcases stM with _ | ⟨w0, stM⟩
      · exact a4.elim
      · have e0 : w0 = (if ad = 0 then Value.null else .ref (G.1 ad)) := a4.1
        rw [if_neg (by omega)] at e0
        subst e0
        have hc := a1.2.2.2 ad x1 x2
        rw [x3] at hc
        obtain ⟨cA, g, c1, c2, c3, c4, c5⟩ := hc
        refine W.alen (n := Int32.ofNat o.2.1) hC.1.1 hC.1.2.1 c1 (c2 _ g) (by rw [arrV_size]) rfl rfl hd (h3 H locs lsM (.int (Int32.ofNat o.2.1) :: stM) a1 a2 a3 ⟨⟨_, rfl, pk_tn (by omega)⟩, a4.2⟩ a5 a6)
    · cases hr
    · obtain ⟨k1, hr⟩ := x_c1 hr
      obtain ⟨kE, hr⟩ := x_c1 hr
      obtain ⟨h1, h2⟩ := hk E ls _ h r hr
      refine ⟨h1, fun hC hE hF hT => ?_⟩
      have h3 := h2 hC hE hF hT
      have e1 := xb_eq.mp k1
      subst e1
      obtain ⟨p, l, e, R, s, m, args, below, meth, c, Q, G, nL, n0, s0, tyf⟩ := a
      intro H locs lsM stM a1 a2 a3 a4 a5 a6
      rcases stM with _ | ⟨w0, stM⟩
      · exact a4.elim
      · have e0 : w0 = .ref (G.1 1) := a4.1
        subst e0
        obtain ⟨cell, y1, y2, y3, y4⟩ := (hC.2.2.2.2.2.2 kE).1
        have y4 : G.1 1 < G.2.2.2.2 := y4
        refine W.alen (n := 0) hC.1.1 hC.1.2.1 (by rw [a2.2.1 _ (Array.getElem?_eq_some_iff.mp y1).1 (Nat.not_le.mpr y4)]; exact y1) y2 (by rw [y3]; rfl) rfl rfl hd (h3 H locs lsM (.int 0 :: stM) a1 a2 a3 ⟨⟨_, rfl, rfl⟩, a4.2⟩ a5 a6)
  · cases hr
end XS
