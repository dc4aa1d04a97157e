section XS
variable {Ts NW : List Cond} {MT : Nat → XM} {cc : ByteArray} {own : String} {a : XA} {pc : Nat} {k : XK}
def xCl (a : XA) : List vw_C := (xG a).2.2.2.1
/-- the field's name as javac spells it, and as its class declares it -/
def xSame (Ts : List Cond) (ref : String) (f : String × String × String × Bool) : Prop := f.1 = ref ∨ Cond.sameField ref f.1 f.2.1 f.2.2.1 ∈ Ts
theorem xSame_ok {ref : String} {f : String × String × String × Bool} (h : xSame Ts ref f) {args : Array Value} {s : State} (hts : ∀ w ∈ Ts, w.before args s = true) : ∀ x, s.fieldFound? f.1 f.2.1 f.2.2.1 = some x → s.fieldFound? ref f.2.1 f.2.2.1 = some x := by
  intro x hx
  rcases h with h | h
  · rw [← h]; exact hx
  · exact u_same (hts _ h) x hx
theorem x_getG {ci i : Nat} {n : Nat} (row : ∀ {p : Program} {l : Launch} {e : Env} {R : Room} {s : State} {m : MethodId} {args : Array Value} {below : List Frame} {meth : Method} {c : Code} {H : Heap} {locs : List Loc} {cells slots : Nat} {Q : State → Prop} {ls : Array Slot} {rest : List Value} {D : va_G} {ad : Nat} {vs : List Value} {w : Value}, CallFix p m c cc (xNL a) s args Ts own → va_K D (xCl a) [] s → (∀ w ∈ NW, va_Nw w s) → va_at D (xCl a) (ad, .inr (ci, vs)) H → vs[i]? = some w →
      W p l e R s m args below meth c H locs cells slots Q (F0 m (pc + n) ls (w :: rest)) → W p l e R s m args below meth c H locs cells slots Q (F0 m pc ls (.ref ad :: rest)))
    (hk : xSK Ts NW MT cc own a (pc + n) k) : xSK Ts NW MT cc own a pc (X_getf ci i k) := by
  intro E ls st h r hr
  unfold X_getf at hr
  split at hr
  · rename_i ad st'
    split at hr
    · rename_i o hx
      obtain ⟨k1, hr⟩ := x_c1 hr
      split at hr
      · rename_i v hv
        obtain ⟨h1, h2⟩ := hk E ls (v :: st') h r hr
        refine ⟨h1, fun hC hE hF hT => ?_⟩
        have h3 := h2 hC hE hF hT
        obtain ⟨x1, x2, x3⟩ := xat_spec hx
        obtain ⟨p, l, e, R, s, m, args, below, meth, c, Q, G, nL, n0, s0, tyf⟩ := a
        intro H locs lsM stM a1 a2 a3 a4 a5 a6
        rcases stM with _ | ⟨w0, stM⟩
        · exact a4.elim
        · have e0 : w0 = (if ad = 0 then Value.null else .ref (G.1 ad)) := a4.1
          rw [if_neg (by omega)] at e0
          subst e0
          have hc := a1.2.2.2 ad x1 x2
          rw [x3] at hc
          obtain ⟨vs, c1, c2⟩ := hc
          rw [xb_eq.mp k1] at c1
          obtain ⟨w, hw, hrel⟩ := xSR_get c2 hv
          exact row hC.1 hC.2.2.1 hC.2.2.2.1 c1 hw (h3 H locs lsM (w :: stM) a1 a2 a3 ⟨hrel, a4.2⟩ a5 a6)
      · cases hr
    · cases hr
  · cases hr
theorem x_getfI {C ref : String} {T : u_T} {N ci i index : Nat} (hc : (xCl a)[ci]? = some (C, T, N)) (hi : i < N) (hin : ∀ w ∈ u_ws C T N, w ∈ Ts) (hw : Cond.fieldLink own index ref (T i).2.1 (T i).2.2.1 ∈ Ts) (hs : xSame Ts ref (T i)) (hd : decode cc pc = .ok (.getfield index, 3))
    (hk : xSK Ts NW MT cc own a (pc + 3) k) : xSK Ts NW MT cc own a pc (X_getf ci i k) :=
  x_getG (fun C0 hK _ hat hv kk => va_get C0.1 C0.2.1 C0.2.2.2.2 hin C0.2.2.2.1 hK (ws := [(_, .inr (ci, _))]) (fun j q hq => by
    rcases j with _ | j
    · cases hq; exact hat
    · cases hq) 0 rfl hc i hi (C0.2.2.2.2 _ hw) (xSame_ok hs C0.2.2.2.2) hv hd kk) hk
theorem x_getfN {C ref host : String} {T : u_T} {N ci i index : Nat} (hc : (xCl a)[ci]? = some (C, T, N)) (hi : i < N) (hin : ∀ w ∈ u_ws C T N, w ∈ Ts) (hw : Cond.fieldLinkNest own index ref (T i).2.1 (T i).2.2.1 host ∈ NW) (hs : xSame Ts ref (T i)) (hd : decode cc pc = .ok (.getfield index, 3))
    (hk : xSK Ts NW MT cc own a (pc + 3) k) : xSK Ts NW MT cc own a pc (X_getf ci i k) :=
  x_getG (fun C0 hK hN hat hv kk => va_getN C0.1 C0.2.1 C0.2.2.2.2 hin C0.2.2.2.1 hK (ws := [(_, .inr (ci, _))]) (fun j q hq => by
    rcases j with _ | j
    · cases hq; exact hat
    · cases hq) 0 rfl hc i hi (va_Nw.use rfl (hN _ hw)) (xSame_ok hs C0.2.2.2.2) hv hd kk) hk
/-- a put, what its row gives: the cell as it is then, all others as they were -/
theorem x_putG {kd : XV → Bool} {ci i n : Nat} {ty : FieldType} (hkd : ∀ v w, kd v = true → xrel (xG a) v w → narrow ty w = w ∧ fits ty w = true)
    (row : ∀ {p : Program} {l : Launch} {e : Env} {R : Room} {s : State} {m : MethodId} {args : Array Value} {below : List Frame} {meth : Method} {c : Code} {H : Heap} {locs : List Loc} {cells slots : Nat} {Q : State → Prop} {ls : Array Slot} {rest : List Value} {D : va_G} {ad : Nat} {vs : List Value} {w : Value}, CallFix p m c cc (xNL a) s args Ts own → va_K D (xCl a) [] s → (∀ w ∈ NW, va_Nw w s) → s.vm.method? m = s.vm.method? m → va_at D (xCl a) (ad, .inr (ci, vs)) H → i < vs.length → narrow ty w = w → fits ty w = true →
      (∀ (H1 : Heap) (j : Nat), va_at D (xCl a) (ad, .inr (ci, vs.set i w)) H1 → H1.size = H.size → (∀ q : Nat, q ≠ ad → H1[q]? = H[q]?) → W p l e R s m args below meth c H1 (locs ++ [⟨ad, j⟩]) cells slots Q (F0 m (pc + n) ls rest)) → W p l e R s m args below meth c H locs cells slots Q (F0 m pc ls (w :: .ref ad :: rest)))
    (hk : xSK Ts NW MT cc own a (pc + n) k) : xSK Ts NW MT cc own a pc (X_putf kd ci i k) := by
  intro E ls st h r hr
  unfold X_putf at hr
  split at hr
  · rename_i v ad st'
    obtain ⟨k0, hr⟩ := x_c1 hr
    obtain ⟨k4, hr⟩ := x_c1 hr
    split at hr
    · rename_i o hx
      obtain ⟨k1, hr⟩ := x_c1 hr
      obtain ⟨k2, hr⟩ := x_c1 hr
      obtain ⟨h1, h2⟩ := hk E ls st' _ r hr
      refine ⟨h1, fun hC hE hF hT => ?_⟩
      have h3 := h2 hC hE hF hT
      obtain ⟨x1, x2, x3⟩ := xat_spec hx
      obtain ⟨p, l, e, R, s, m, args, below, meth, c, Q, G, nL, n0, s0, tyf⟩ := a
      intro H locs lsM stM a1 a2 a3 a4 a5 a6
      rcases stM with _ | ⟨w, _ | ⟨w0, stM⟩⟩
      · exact a4.elim
      · exact a4.2.elim
      · have e0 : w0 = (if ad = 0 then Value.null else .ref (G.1 ad)) := a4.2.1
        rw [if_neg (by omega)] at e0
        subst e0
        have hc := a1.2.2.2 ad x1 x2
        rw [x3] at hc
        obtain ⟨vs, c1, c2⟩ := hc
        rw [xb_eq.mp k1] at c1
        obtain ⟨q1, q2⟩ := hkd v w k0 a4.1
        have hl := xb_lt.mp k2
        rw [xSR_len c2] at hl
        have hB : G.2.2.2.2 ≤ G.1 ad := hC.2.2.2.2.1.2 ad (xb_le.mp k4)
        refine row hC.1 hC.2.2.1 hC.2.2.2.1 rfl c1 hl q1 q2 fun H1 j b1 b2 b3 => ?_
        refine h3 H1 _ lsM stM (xHR_put a1 hC.2.2.2.2.1 x1 x2 b2 b3 ⟨vs.set i w, ?_, xSR_set c2 a4.1⟩) (xS_put a2 b2 b3 hB) a3 a4.2.2 a5 a6
        show va_at G.2.2.1 G.2.2.2.1 (G.1 ad, .inr (o.1, vs.set i w)) H1
        rw [xb_eq.mp k1]
        exact b1
    · cases hr
  · cases hr
theorem x_putfI {kd : XV → Bool} {ty : FieldType} (hkd : ∀ v w, kd v = true → xrel (xG a) v w → narrow ty w = w ∧ fits ty w = true) {C ref : String} {T : u_T} {N ci i index : Nat} (hc : (xCl a)[ci]? = some (C, T, N)) (hi : i < N) (hin : ∀ w ∈ u_ws C T N, w ∈ Ts) (ty0 : Nat → FieldType) (hty : ∀ k, k < N → parseFieldDescriptor (T k).2.2.1 = some (ty0 k)) (hnm : ∀ a, a < N → ∀ b, b < N → a ≠ b → (T a).2.1 ≠ (T b).2.1)
    (hw : Cond.fieldLink own index ref (T i).2.1 (T i).2.2.1 ∈ Ts) (hs : xSame Ts ref (T i)) (hfin : (T i).2.2.2 = false) (hdt : parseFieldDescriptor (T i).2.2.1 = some ty) (hd : decode cc pc = .ok (.putfield index, 3))
    (hk : xSK Ts NW MT cc own a (pc + 3) k) : xSK Ts NW MT cc own a pc (X_putf kd ci i k) :=
  x_putG hkd (fun {p l e R s m args below meth c H locs cells slots Q ls rest D ad vs w} C0 hK hN _ hat hl hn hf kk => by
    have hap := va_apart (own := own) C0.2.2.2.2 hin ty0 hty hnm hK hc
    obtain ⟨r, h1, cell, q1, q2, q3, q4⟩ := hat
    have hr : r = (C, T, N) := Option.some.inj (h1.symm.trans hc)
    subst hr
    obtain ⟨hS, hfc, kC, hkC, hkind⟩ := hK.1 ci _ hc
    obtain ⟨cf, kf, fi, f, hif, hsl⟩ := hS i hi
    have hlay := C0.2.2.2.2 _ (hin _ (u_in_lay hi))
    unfold u_lay at hlay
    rw [if_neg (by rw [hfin]; decide)] at hlay
    have hst := (u_facts hfc hkC (u_lays C0.2.2.2.2 hin hi) hif).1
    have h6 := u_store hfc hkC hkind hlay hif hdt hn hf
    refine W.putK C0.1 C0.2.1 (f := f) ⟨C0.2.2.2.1, C0.2.2.2.2 _ hw, ⟨_, _, _, xSame_ok hs C0.2.2.2.2 _ hif⟩, hst⟩ (by rw [q2]; exact h6) q1 q3 (by rw [hsl]; exact k2_hasslot (q4 i hi)) rfl rfl hd fun H' e1 e2 e3 => ?_
    rw [hsl] at e1 ⊢
    exact kk H' _ ⟨_, hc, t_OB.to (V := updV (vp_V vs) i w) ⟨_, e1, q2, q3, t_set q4 hap hi w⟩ (fun j _ => vp_updV_set hl w j)⟩ e2 e3) hk
theorem x_putfN {kd : XV → Bool} {ty : FieldType} (hkd : ∀ v w, kd v = true → xrel (xG a) v w → narrow ty w = w ∧ fits ty w = true) {C ref host : String} {T : u_T} {N ci i index : Nat} (hc : (xCl a)[ci]? = some (C, T, N)) (hi : i < N) (hin : ∀ w ∈ u_ws C T N, w ∈ Ts) (ty0 : Nat → FieldType) (hty : ∀ k, k < N → parseFieldDescriptor (T k).2.2.1 = some (ty0 k)) (hnm : ∀ a, a < N → ∀ b, b < N → a ≠ b → (T a).2.1 ≠ (T b).2.1)
    (hw : Cond.fieldLinkNest own index ref (T i).2.1 (T i).2.2.1 host ∈ NW) (hs : xSame Ts ref (T i)) (hfin : (T i).2.2.2 = false) (hdt : parseFieldDescriptor (T i).2.2.1 = some ty) (hd : decode cc pc = .ok (.putfield index, 3))
    (hk : xSK Ts NW MT cc own a (pc + 3) k) : xSK Ts NW MT cc own a pc (X_putf kd ci i k) :=
  x_putG hkd (fun {p l e R s m args below meth c H locs cells slots Q ls rest D ad vs w} C0 hK hN _ hat hl hn hf kk => by
    have hap := va_apart (own := own) C0.2.2.2.2 hin ty0 hty hnm hK hc
    obtain ⟨r, h1, cell, q1, q2, q3, q4⟩ := hat
    have hr : r = (C, T, N) := Option.some.inj (h1.symm.trans hc)
    subst hr
    obtain ⟨hS, hfc, kC, hkC, hkind⟩ := hK.1 ci _ hc
    obtain ⟨cf, kf, fi, f, hif, hsl⟩ := hS i hi
    have hlay := C0.2.2.2.2 _ (hin _ (u_in_lay hi))
    unfold u_lay at hlay
    rw [if_neg (by rw [hfin]; decide)] at hlay
    have hst := (u_facts hfc hkC (u_lays C0.2.2.2.2 hin hi) hif).1
    have h6 := u_store hfc hkC hkind hlay hif hdt hn hf
    refine va_WputK C0.1 C0.2.1 (f := f) C0.2.2.2.1 (va_Nw.use rfl (hN _ hw)) (xSame_ok hs C0.2.2.2.2 _ hif) hst (by rw [q2]; exact h6) q1 q3 (by rw [hsl]; exact k2_hasslot (q4 i hi)) rfl rfl hd fun H' e1 e2 e3 => ?_
    rw [hsl] at e1 ⊢
    exact kk H' _ ⟨_, hc, t_OB.to (V := updV (vp_V vs) i w) ⟨_, e1, q2, q3, t_set q4 hap hi w⟩ (fun j _ => vp_updV_set hl w j)⟩ e2 e3) hk
theorem xkd_I (G : XG) : ∀ v w, xkI v = true → xrel G v w → narrow .int w = w ∧ fits .int w = true := fun v w h hr => by
  obtain ⟨x, rfl⟩ := xkI_spec h hr
  exact ⟨rfl, rfl⟩
theorem xkd_L (G : XG) : ∀ v w, xkL v = true → xrel G v w → narrow .long w = w ∧ fits .long w = true := fun v w h hr => by
  obtain ⟨x, rfl⟩ := xkL_spec h hr
  exact ⟨rfl, rfl⟩
theorem xkd_R (G : XG) (C : String) : ∀ v w, xkR v = true → xrel G v w → narrow (.object C) w = w ∧ fits (.object C) w = true := fun v w h hr => by
  rcases xkR_spec h hr with rfl | ⟨x, rfl⟩ <;> exact ⟨rfl, rfl⟩
theorem xkd_RA (G : XG) (t : FieldType) : ∀ v w, xkR v = true → xrel G v w → narrow (.array t) w = w ∧ fits (.array t) w = true := fun v w h hr => by
  rcases xkR_spec h hr with rfl | ⟨x, rfl⟩ <;> exact ⟨rfl, rfl⟩
theorem xkd_Z (G : XG) : ∀ v w, xk01 v = true → xrel G v w → narrow .boolean w = w ∧ fits .boolean w = true := fun v w h hr => by
  rcases v with n | n
  · obtain ⟨x, rfl, hx⟩ := hr
    have hn := xb_le.mp h
    have : x = 0 ∨ x = 1 := by
      rcases (by omega : n = 0 ∨ n = 1) with e | e
      · exact Or.inl (xn_inj (by rw [hx, e]; rfl))
      · exact Or.inr (xn_inj (by rw [hx, e]; rfl))
    rcases this with rfl | rfl <;> exact ⟨by decide +kernel, by decide +kernel⟩
  · cases h
end XS
