/-! a method's contract out of stretches of its run; calls that are told by what they come to -/
def xRoom (d : Nat) (a : XA) : Prop := match a with
  | (_, _, _, R, _, _, _, _, _, _, _, _, _, _, _, _) => d + 1 ≤ R.frames ∧ 45 * (d + 1) ≤ R.locals
theorem xmet_go {Ts NW : List Cond} {MT : Nat → XM} {cl : List vw_C} {tf : Nat → FieldType} {P : Nat → Option (Nat × (Nat → Option XK))} (hP : xPrg Ts NW MT cl tf P) {d mid : Nat} {av : List XV} {h h' : XH} {v : Option XV} {nL : Nat} {tb : Nat → Option XK} (hmid : P mid = some (nL, tb)) (q0 : Nat.ble (xcats av) nL = true) {l : Launch} {G : XG} (hcl : G.2.2.2.1 = cl) (hG : xGok G)
    (hgo : ∀ a : XA, xOkA cl tf (MT mid) a → xG a = G → xRoom d a → xCx Ts NW (MT mid).2.1 (MT mid).1.cls a → xFits a h' → xEnd a v h' → xGo a 0 (xentry av nL) [] h) : Met l (MT mid).1 (Cond.code (MT mid).1 (MT mid).2.1 (MT mid).2.2.1 (MT mid).2.2.2 :: Ts) { frames := d + 1, cells := h'.1 - h.1, slots := h'.2.1 - h.2.1, locals := 45 * (d + 1) } (xPc tf NW G av h) (xQc tf G v h') (h'.1 - h.1) (h'.2.1 - h.2.1) (fun q => G.2.2.2.2 ≤ q) := by
  obtain ⟨p1, p2, p3, p4⟩ := hP mid nL tb hmid
  refine Met.ofW (cc := (MT mid).2.1) (maxL := (MT mid).2.2.1) (ret := (MT mid).2.2.2) p3 rfl ?_
  intro p e s m args below meth c s₁ B hml hv
  obtain ⟨⟨vs, rfl, hvs⟩, hH, hK, hNs, hB, hX⟩ := hv
  rw [lg_entry_eq]
  have hts : ∀ w ∈ Ts, w.before vs.toArray s = true := fun w hw => atoms_spec (ws := Cond.code (MT mid).1 (MT mid).2.1 (MT mid).2.2.1 (MT mid).2.2.2 :: Ts) B.pre w (List.mem_cons_of_mem _ hw)
  have hown : s.vm.findClass (MT mid).1.cls = some m.cls := findClass_of_methodNamed B.named
  have hin : meth.name = (MT mid).1.name := (name_of_methodNamed B.named B.method).1
  have hgo := hgo (p, l, e, { frames := d + 1, cells := h'.1 - h.1, slots := h'.2.1 - h.2.1, locals := 45 * (d + 1) }, s, m, vs.toArray, below, meth, c, MQ below (xQc tf G v h') vs.toArray s (h'.1 - h.1) (h'.2.1 - h.2.1) (fun q => G.2.2.2.2 ≤ q), G, nL, h.1, h.2.1, tf)
    ⟨⟨show 1 ≤ d + 1 by omega, show 40 ≤ 45 * (d + 1) by omega⟩, hin, B.returns, p1, hcl, rfl⟩ rfl ⟨Nat.le_refl _, Nat.le_refl _⟩
    ⟨⟨B.exec, B.bytes, hml.trans p1.symm, hown, hts⟩, B.notSynchronized, hK, hNs, hG, hB, hX⟩ ⟨Nat.le_refl _, Nat.le_refl _⟩ rfl
  have := hgo s.heap [] ((lg_sl vs ++ List.replicate (nL - (lg_sl vs).length) Slot.unset).toArray) [] hH va_S.rf (xentry_LR hvs (xb_le.mp q0)) trivial (Nat.le_refl _) (Nat.le_refl _)
  rw [Nat.sub_self, Nat.sub_self] at this
  rw [p1] at this
  exact this
section XS
variable {Ts NW : List Cond} {MT : Nat → XM} {cc : ByteArray} {own : String} {cl : List vw_C} {tf : Nat → FieldType} {P : Nat → Option (Nat × (Nat → Option XK))} {N d : Nat} {E : XE} {a : XA} {tb : Nat → Option XK}
/-- what the calls of the program come to, for an activation with room for d frames above -/
theorem xhcall (hP : xPrg Ts NW MT cl tf P) (hcl : xCl a = cl) (htf : xTf a = tf) (hG : xGok (xG a)) (hroom : xRoom d a) : ∀ mid av h v h', xcall P N d mid av E h = some (v, h') → xLe h h' ∧ (xEok E (xG a) → xCon Ts NW (MT mid) a av h v h') := by
  intro mid av g v g' hc
  obtain ⟨c0, c1, c2⟩ := xcall_ok (Ts := Ts) (NW := NW) (MT := MT) (E := E) hP d mid av g v g' hc
  refine ⟨c1 a, fun hE => ?_⟩
  obtain ⟨p, l, e, R, s, m, args, below, meth, cd, Q, G, nL, n0, s0, tyf⟩ := a
  have htf : tyf = tf := htf
  subst htf
  obtain ⟨r1, r2⟩ := hroom
  exact ⟨_, c2 l G hcl hG hE, rfl, rfl, show d + 1 ≤ R.frames by omega, show 8 + ((MT mid).2.2.1 + 11) + 45 * d ≤ R.locals by omega⟩
noncomputable def xtwo (call : Nat → List XV → XE → XH → Option (Option XV × XH)) (B A : Nat) (tb : Nat → Option XK) (E : XE) (n : Nat) (c : Nat × (XL × (List XV × XH))) : Option (Nat × (XL × (List XV × XH))) := match xrun call B tb E n c with
  | some c' => xrun call A tb E n c'
  | none => none
theorem xtwo_ok (hP : xPrg Ts NW MT cl tf P) (hcl : xCl a = cl) (htf : xTf a = tf) (hroom : xRoom d a) (hT : xTab Ts NW MT cc own a tb) (hC : xCx Ts NW cc own a) {A B n : Nat} {c c' : Nat × (XL × (List XV × XH))} (ht : e_s (xtwo (xcall P N d) B A tb E n c) c' = true) (hE : xEok E (xG a)) {h' : XH} (hl : xLe c'.2.2.2 h') (hF : xFits a h') (hg : xGo a c'.1 c'.2.1 c'.2.2.1 c'.2.2.2) : xLe c.2.2.2 h' ∧ xGo a c.1 c.2.1 c.2.2.1 c.2.2.2 := by
  have hG : xGok (xG a) := by
    obtain ⟨p, l, e, R, s, m, args, below, meth, cd, Q, G, nL, n0, s0, tyf⟩ := a
    exact hC.2.2.2.2.1
  have ht := e_s_ok ht
  unfold xtwo at ht
  cases h1 : xrun (xcall P N d) B tb E n c with
  | none => rw [h1] at ht; cases ht
  | some c1 =>
    rw [h1] at ht
    have ht : xrun (xcall P N d) A tb E n c1 = some c' := ht
    obtain ⟨r1, r2⟩ := xrun_ok hT (xhcall hP hcl htf hG hroom) n c1 c' ht
    obtain ⟨s1, s2⟩ := xrun_ok hT (xhcall hP hcl htf hG hroom) n c c1 h1
    have hl1 := xLe_tr r1 hl
    exact ⟨xLe_tr s1 hl1, s2 hC hE (xFits_le hl1 hF) (r2 hC hE (xFits_le hl hF) hg)⟩
theorem xone_ok (hP : xPrg Ts NW MT cl tf P) (hcl : xCl a = cl) (htf : xTf a = tf) (hroom : xRoom d a) (hT : xTab Ts NW MT cc own a tb) (hC : xCx Ts NW cc own a) {A n : Nat} {c c' : Nat × (XL × (List XV × XH))} (ht : e_s (xrun (xcall P N d) A tb E n c) c' = true) (hE : xEok E (xG a)) {h' : XH} (hl : xLe c'.2.2.2 h') (hF : xFits a h') (hg : xGo a c'.1 c'.2.1 c'.2.2.1 c'.2.2.2) : xLe c.2.2.2 h' ∧ xGo a c.1 c.2.1 c.2.2.1 c.2.2.2 := by
  have hG : xGok (xG a) := by
    obtain ⟨p, l, e, R, s, m, args, below, meth, cd, Q, G, nL, n0, s0, tyf⟩ := a
    exact hC.2.2.2.2.1
  obtain ⟨s1, s2⟩ := xrun_ok hT (xhcall hP hcl htf hG hroom) n c c' (e_s_ok ht)
  exact ⟨xLe_tr s1 hl, s2 hC hE (xFits_le hl hF) hg⟩
theorem xend_ok (hP : xPrg Ts NW MT cl tf P) (hcl : xCl a = cl) (htf : xTf a = tf) (hroom : xRoom d a) (hT : xTab Ts NW MT cc own a tb) (hC : xCx Ts NW cc own a) {n : Nat} {c : Nat × (XL × (List XV × XH))} {v : Option XV} {h' : XH} (ht : e_r (xloop (xcall P N d) n tb E c) (v, h') = true) (hE : xEok E (xG a)) (hF : xFits a h') (hend : xEnd a v h') : xLe c.2.2.2 h' ∧ xGo a c.1 c.2.1 c.2.2.1 c.2.2.2 := by
  have hG : xGok (xG a) := by
    obtain ⟨p, l, e, R, s, m, args, below, meth, cd, Q, G, nL, n0, s0, tyf⟩ := a
    exact hC.2.2.2.2.1
  obtain ⟨s1, s2⟩ := xloop_ok hT (xhcall hP hcl htf hG hroom) n c v h' (e_r_ok ht)
  exact ⟨s1, s2 hC hE hF hend⟩
/-- one call is told: with these words, in this heap it comes to that -/
noncomputable def xtold (call : Nat → List XV → XE → XH → Option (Option XV × XH)) (m0 : Nat) (av0 : List XV) (h0 : XH) (r0 : Option XV × XH) : Nat → List XV → XE → XH → Option (Option XV × XH) := fun mid av E h => match Nat.beq mid m0 with
  | true => match e_l e_v av av0 with
    | true => match e_h h h0 with
      | true => some r0
      | false => none
    | false => none
  | false => call mid av E h
theorem xtold_ok {call : Nat → List XV → XE → XH → Option (Option XV × XH)} {m0 : Nat} {av0 : List XV} {h0 : XH} {r0 : Option XV × XH} (hcall : ∀ mid av h v h', call mid av E h = some (v, h') → xLe h h' ∧ (xEok E (xG a) → xCon Ts NW (MT mid) a av h v h')) (h1 : xLe h0 r0.2) (h2 : xEok E (xG a) → xCon Ts NW (MT m0) a av0 h0 r0.1 r0.2) : ∀ mid av h v h', xtold call m0 av0 h0 r0 mid av E h = some (v, h') → xLe h h' ∧ (xEok E (xG a) → xCon Ts NW (MT mid) a av h v h') := by
  intro mid av h v h' q
  unfold xtold at q
  split at q
  · rename_i e1
    split at q
    · rename_i e2
      split at q
      · rename_i e3
        cases q
        rw [xb_eq.mp e1, e_l_ok (fun _ _ => e_v_ok) e2, e_h_ok e3]
        exact ⟨h1, h2⟩
      · cases q
    · cases q
  · exact hcall mid av h v h' q
end XS
noncomputable def xEn (a b : Int) : XE := [(-2147483648, 2147483647), (a, b), (-2147483648, 2147483647), (-2147483648, 2147483647), (-2147483648, 2147483647), (-2147483648, 2147483647)]
theorem xfullI (x : Int32) : (-2147483648 : Int) ≤ x.toInt ∧ x.toInt ≤ 2147483647 := by
  have h1 := xn_toInt x
  have h2 := xn_lt x
  split at h1 <;> omega
theorem xEn_ok {G : XG} {a b : Int} (h1 : a ≤ (G.2.1 1).toInt) (h2 : (G.2.1 1).toInt ≤ b) : xEok (xEn a b) G := by
  intro j q hj
  match j with
  | 0 => cases hj; exact xfullI _
  | 1 => cases hj; exact ⟨h1, h2⟩
  | 2 => cases hj; exact xfullI _
  | 3 => cases hj; exact xfullI _
  | 4 => cases hj; exact xfullI _
  | 5 => cases hj; exact xfullI _
  | j + 6 => cases hj
