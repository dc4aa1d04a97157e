theorem xLe_tr {h1 h2 h3 : XH} (a : xLe h1 h2) (b : xLe h2 h3) : xLe h1 h3 := ⟨Nat.le_trans a.1 b.1, Nat.le_trans a.2 b.2⟩
theorem xFits_le {a : XA} {h h' : XH} (q : xLe h h') (f : xFits a h') : xFits a h := by
  obtain ⟨p, l, e, R, s, m, args, below, meth, c, Q, G, nL, n0, s0, tyf⟩ := a
  have f1 : h'.1 - n0 ≤ R.cells := f.1
  have f2 : h'.2.1 - s0 ≤ R.slots := f.2
  have q1 := q.1
  have q2 := q.2
  exact ⟨show h.1 - n0 ≤ R.cells by omega, show h.2.1 - s0 ≤ R.slots by omega⟩
/-- a table of blocks, each sound where it stands -/
def xTab (Ts NW : List Cond) (MT : Nat → XM) (cc : ByteArray) (own : String) (a : XA) (tb : Nat → Option XK) : Prop := ∀ pc k, tb pc = some k → xSK Ts NW MT cc own a pc k
theorem xTab_leaf {Ts NW : List Cond} {MT : Nat → XM} {cc : ByteArray} {own : String} {a : XA} {c : Nat} {k : XK} (h : xSK Ts NW MT cc own a c k) : xTab Ts NW MT cc own a (fun pc => cond (Nat.beq pc c) (some k) none) := by
  intro pc k' hk
  obtain ⟨h1, h2⟩ := x_c1 hk
  cases h2
  rw [xb_eq.mp h1]
  exact h
theorem xTab_node {Ts NW : List Cond} {MT : Nat → XM} {cc : ByteArray} {own : String} {a : XA} {c : Nat} {t1 t2 : Nat → Option XK} (h1 : xTab Ts NW MT cc own a t1) (h2 : xTab Ts NW MT cc own a t2) : xTab Ts NW MT cc own a (fun pc => cond (Nat.blt pc c) (t1 pc) (t2 pc)) := by
  intro pc k hk
  cases hb : Nat.blt pc c with
  | true => exact h1 pc k (by have hk : cond (Nat.blt pc c) (t1 pc) (t2 pc) = some k := hk; rw [hb] at hk; exact hk)
  | false => exact h2 pc k (by have hk : cond (Nat.blt pc c) (t1 pc) (t2 pc) = some k := hk; rw [hb] at hk; exact hk)
theorem xloop_le {Ts NW : List Cond} {MT : Nat → XM} {cc : ByteArray} {own : String} {a : XA} {tb : Nat → Option XK} {E : XE} {call : Nat → List XV → XE → XH → Option (Option XV × XH)} (hT : xTab Ts NW MT cc own a tb)
    (hcall : ∀ mid av h v h', call mid av E h = some (v, h') → xLe h h') :
    ∀ (n : Nat) (c : Nat × (XL × (List XV × XH))) (v : Option XV) (h' : XH), xloop call n tb E c = some (v, h') → xLe c.2.2.2 h' := by
  intro n
  induction n with
  | zero => intro c v h' h; cases h
  | succ n ih =>
    intro c v h' h
    have h : (match tb c.1 with
      | none => none
      | some k => match k E c.2.1 c.2.2.1 c.2.2.2 with
        | none => none
        | some (.inl c') => xloop call n tb E c'
        | some (.inr (.inl r)) => some r
        | some (.inr (.inr (mid, (av, (pc, (ls, (st, h))))))) => match call mid av E h with
          | none => none
          | some (v, h') => xloop call n tb E (pc, (ls, (xpush v st, h')))) = some (v, h') := h
    split at h
    · cases h
    · rename_i k hk
      split at h
      · cases h
      · rename_i c' hr
        exact xLe_tr (hT _ k hk E _ _ _ _ hr).1 (ih c' v h' h)
      · rename_i r hr
        cases h
        exact (hT _ k hk E _ _ _ _ hr).1
      · rename_i mid av pc ls st h1 hr
        have s1 : xLe c.2.2.2 h1 := (hT _ k hk E _ _ _ _ hr).1
        split at h
        · cases h
        · rename_i v2 h2 hc
          have i1 : xLe h2 h' := ih _ v h' h
          exact xLe_tr s1 (xLe_tr (hcall mid av h1 v2 h2 hc) i1)
theorem xloop_ok {Ts NW : List Cond} {MT : Nat → XM} {cc : ByteArray} {own : String} {a : XA} {tb : Nat → Option XK} {E : XE} {call : Nat → List XV → XE → XH → Option (Option XV × XH)} (hT : xTab Ts NW MT cc own a tb)
    (hcall : ∀ mid av h v h', call mid av E h = some (v, h') → xLe h h' ∧ (xEok E (xG a) → xCon Ts NW (MT mid) a av h v h')) :
    ∀ (n : Nat) (c : Nat × (XL × (List XV × XH))) (v : Option XV) (h' : XH), xloop call n tb E c = some (v, h') → xLe c.2.2.2 h' ∧ (xCx Ts NW cc own a → xEok E (xG a) → xFits a h' → xEnd a v h' → xGo a c.1 c.2.1 c.2.2.1 c.2.2.2) := by
  intro n
  induction n with
  | zero => intro c v h' h; cases h
  | succ n ih =>
    intro c v h' h
    have h : (match tb c.1 with
      | none => none
      | some k => match k E c.2.1 c.2.2.1 c.2.2.2 with
        | none => none
        | some (.inl c') => xloop call n tb E c'
        | some (.inr (.inl r)) => some r
        | some (.inr (.inr (mid, (av, (pc, (ls, (st, h))))))) => match call mid av E h with
          | none => none
          | some (v, h') => xloop call n tb E (pc, (ls, (xpush v st, h')))) = some (v, h') := h
    split at h
    · cases h
    · rename_i k hk
      split at h
      · cases h
      · rename_i c' hr
        obtain ⟨s1, s2⟩ := hT _ k hk E _ _ _ _ hr
        obtain ⟨i1, i2⟩ := ih c' v h' h
        exact ⟨xLe_tr s1 i1, fun hC hE hF hQ => s2 hC hE (xFits_le i1 hF) (i2 hC hE hF hQ)⟩
      · rename_i r hr
        cases h
        obtain ⟨s1, s2⟩ := hT _ k hk E _ _ _ _ hr
        exact ⟨s1, fun hC hE hF hQ => s2 hC hE hF hQ⟩
      · rename_i mid av pc ls st h1 hr
        obtain ⟨s1, s2⟩ := hT _ k hk E _ _ _ _ hr
        split at h
        · cases h
        · rename_i v2 h2 hc
          obtain ⟨c1, c2⟩ := hcall mid av h1 v2 h2 hc
          obtain ⟨i1, i2⟩ := ih _ v h' h
          have i1 : xLe h2 h' := i1
          have s1 : xLe c.2.2.2 h1 := s1
          refine ⟨xLe_tr s1 (xLe_tr c1 i1), fun hC hE hF hQ => s2 hC hE (xFits_le (xLe_tr c1 i1) hF) ⟨v2, h2, c2 hE, c1.1, c1.2, xFits_le i1 hF, i2 hC hE hF hQ⟩⟩
theorem xsl_len {G : XG} : ∀ {av : List XV} {vs : List Value}, xSR G av vs → (lg_sl vs).length = xcats av
  | [], [], _ => rfl
  | [], _ :: _, h => h.elim
  | _ :: _, [], h => h.elim
  | v :: r, w :: r', h => by
    have ih := xsl_len (av := r) (vs := r') h.2
    have e : lg_sl (w :: r') = (if w.category = 2 then [Slot.val w, .second] else [.val w]) ++ lg_sl r' := rfl
    rw [e, List.length_append, ih]
    show _ = cond (xkL v) (2 + xcats r) (1 + xcats r)
    cases hv : xkL v with
    | true =>
      obtain ⟨x, rfl⟩ := xkL_spec hv h.1
      rfl
    | false => rw [xkL_not hv h.1]; rfl
theorem xpad_get : ∀ (n i : Nat), xlget (xpad n) i = none
  | 0, _ => rfl
  | _ + 1, 0 => rfl
  | n + 1, i + 1 => xpad_get n i
theorem xentry_get {G : XG} : ∀ {av : List XV} {vs : List Value} {n i : Nat} {u : XV} (o : Nat), xSR G av vs → xlget (xentry av n) i = some u → ∃ w, (o + i, w) ∈ lv_args o vs ∧ xrel G u w
  | [], [], n, i, u, o, _, h => by rw [show xentry [] n = xpad n from rfl, xpad_get] at h; cases h
  | [], _ :: _, _, _, _, _, h, _ => h.elim
  | _ :: _, [], _, _, _, _, h, _ => h.elim
  | v :: r, w :: r', n, i, u, o, hs, h => by
    have h : xlget (cond (xkL v) (some v :: none :: xentry r (Nat.sub n 2)) (some v :: xentry r (Nat.sub n 1))) i = some u := h
    have e : lv_args o (w :: r') = (o, w) :: lv_args (if w.category = 2 then o + 2 else o + 1) r' := rfl
    rw [e]
    cases hv : xkL v with
    | true =>
      rw [hv] at h
      have hc : w.category = 2 := by
        obtain ⟨x, hx⟩ := xkL_spec hv hs.1
        rw [hx]; rfl
      rw [if_pos hc]
      match i with
      | 0 => cases h; exact ⟨w, List.mem_cons_self, hs.1⟩
      | 1 => cases h
      | i + 2 =>
        obtain ⟨w', h1, h2⟩ := xentry_get (av := r) (vs := r') (n := n - 2) (i := i) (o + 2) hs.2 h
        exact ⟨w', List.mem_cons_of_mem _ (by rw [show o + (i + 2) = o + 2 + i by omega]; exact h1), h2⟩
    | false =>
      rw [hv] at h
      have hc : ¬ w.category = 2 := by rw [xkL_not hv hs.1]; decide
      rw [if_neg hc]
      match i with
      | 0 => cases h; exact ⟨w, List.mem_cons_self, hs.1⟩
      | i + 1 =>
        obtain ⟨w', h1, h2⟩ := xentry_get (av := r) (vs := r') (n := n - 1) (i := i) (o + 1) hs.2 h
        exact ⟨w', List.mem_cons_of_mem _ (by rw [show o + (i + 1) = o + 1 + i by omega]; exact h1), h2⟩
theorem xentry_LR {G : XG} {av : List XV} {vs : List Value} {nL : Nat} (hs : xSR G av vs) (hl : xcats av ≤ nL) : xLR G nL (xentry av nL) ((lg_sl vs ++ List.replicate (nL - (lg_sl vs).length) Slot.unset).toArray) := by
  obtain ⟨h1, h2, h3⟩ := lv_entry vs (n := nL) (by rw [xsl_len hs]; exact hl)
  refine ⟨h1, h2, fun i u hu => ?_⟩
  obtain ⟨w, q1, q2⟩ := xentry_get (n := nL) 0 hs hu
  rw [Nat.zero_add] at q1
  exact ⟨w, h3 _ q1, q2⟩
/-- what a program's tables must be -/
def xOkA (cl : List vw_C) (tf : Nat → FieldType) (y : XM) (a : XA) : Prop := xRm a ∧ xMn a y.1.name ∧ xRt a y.2.2.2 ∧ xNL a = y.2.2.1 ∧ xCl a = cl ∧ xTf a = tf
def xPrg (Ts NW : List Cond) (MT : Nat → XM) (cl : List vw_C) (tf : Nat → FieldType) (P : Nat → Option (Nat × (Nat → Option XK))) : Prop := ∀ mid nL tb, P mid = some (nL, tb) → nL = (MT mid).2.2.1 ∧ nL ≤ 25 ∧ plainName (MT mid).1.cls = true ∧ ∀ a, xOkA cl tf (MT mid) a → xTab Ts NW MT (MT mid).2.1 (MT mid).1.cls a tb
theorem xOk_some {cl : List vw_C} {tf : Nat → FieldType} (y : XM) (a0 : XA) : ∃ a, xOkA cl tf y a := by
  obtain ⟨p, l, e, R, s, m, args, below, meth, c, Q, G, nL, n0, s0, tyf⟩ := a0
  exact ⟨(p, l, e, { frames := 1, cells := 0, slots := 0, locals := 40 }, s, m, args, below, { meth with name := y.1.name, sig := { meth.sig with returnType := y.2.2.2 } }, c, Q, (G.1, (G.2.1, (G.2.2.1, (cl, G.2.2.2.2)))), y.2.2.1, n0, s0, tf), ⟨Nat.le_refl _, Nat.le_refl _⟩, rfl, rfl, rfl, rfl, rfl⟩
theorem xcall_ok {Ts NW : List Cond} {MT : Nat → XM} {cl : List vw_C} {tf : Nat → FieldType} {P : Nat → Option (Nat × (Nat → Option XK))} {N : Nat} {E : XE} (hP : xPrg Ts NW MT cl tf P) :
    ∀ (d : Nat) (mid : Nat) (av : List XV) (h : XH) (v : Option XV) (h' : XH), xcall P N d mid av E h = some (v, h') → (MT mid).2.2.1 ≤ 25 ∧ (∀ _ : XA, xLe h h') ∧ ∀ (l : Launch) (G : XG), G.2.2.2.1 = cl → xGok G → xEok E G → Met l (MT mid).1 (Cond.code (MT mid).1 (MT mid).2.1 (MT mid).2.2.1 (MT mid).2.2.2 :: Ts) { frames := d, cells := h'.1 - h.1, slots := h'.2.1 - h.2.1, locals := 45 * d } (xPc tf NW G av h) (xQc tf G v h') (h'.1 - h.1) (h'.2.1 - h.2.1) (fun q => G.2.2.2.2 ≤ q) := by
  intro d
  induction d with
  | zero => intro mid av h v h' q; cases q
  | succ d ih =>
    intro mid av h v h' q
    have q : (match P mid with
      | none => none
      | some (nL, tb) => cond (Nat.ble (xcats av) nL) (xloop (xcall P N d) N tb E (0, (xentry av nL, ([], h)))) none) = some (v, h') := q
    split at q
    · cases q
    · rename_i nL tb hmid
      obtain ⟨q0, q⟩ := x_c1 q
      obtain ⟨p1, p2, p3, p4⟩ := hP mid nL tb hmid
      refine ⟨by rw [← p1]; exact p2, fun a0 => ?_, fun l G hcl hG hE => ?_⟩
      · obtain ⟨a, ha⟩ := xOk_some (cl := cl) (tf := tf) (MT mid) a0
        exact xloop_le (p4 a ha) (fun mid' av' g v' g' hc => (ih mid' av' g v' g' hc).2.1 a0) N (0, (xentry av nL, ([], h))) v h' q
      · refine Met.ofW (cc := (MT mid).2.1) (maxL := (MT mid).2.2.1) (ret := (MT mid).2.2.2) p3 rfl ?_
        intro p e s m args below meth c s₁ B hml hv
        obtain ⟨⟨vs, rfl, hvs⟩, hH, hK, hNs, hB, hX⟩ := hv
        rw [lg_entry_eq]
        have hts : ∀ w ∈ Ts, w.before vs.toArray s = true := fun w hw => atoms_spec (ws := Cond.code (MT mid).1 (MT mid).2.1 (MT mid).2.2.1 (MT mid).2.2.2 :: Ts) B.pre w (List.mem_cons_of_mem _ hw)
        have hown : s.vm.findClass (MT mid).1.cls = some m.cls := findClass_of_methodNamed B.named
        have hin : meth.name = (MT mid).1.name := (name_of_methodNamed B.named B.method).1
        have hOk : xOkA cl tf (MT mid) (p, l, e, { frames := d + 1, cells := h'.1 - h.1, slots := h'.2.1 - h.2.1, locals := 45 * (d + 1) }, s, m, vs.toArray, below, meth, c, MQ below (xQc tf G v h') vs.toArray s (h'.1 - h.1) (h'.2.1 - h.2.1) (fun q => G.2.2.2.2 ≤ q), G, nL, h.1, h.2.1, tf) :=
          ⟨⟨show 1 ≤ d + 1 by omega, show 40 ≤ 45 * (d + 1) by omega⟩, hin, B.returns, p1, hcl, rfl⟩
        have hL := xloop_ok (E := E) (p4 _ hOk) (fun mid' av' g v' g' hc => by
          obtain ⟨c0, c1, c2⟩ := ih mid' av' g v' g' hc
          exact ⟨c1 (p, l, e, { frames := d + 1, cells := h'.1 - h.1, slots := h'.2.1 - h.2.1, locals := 45 * (d + 1) }, s, m, vs.toArray, below, meth, c, fun _ => True, G, nL, h.1, h.2.1, tf), fun hE' => ⟨_, c2 l G hcl hG hE', rfl, rfl, show d + 1 ≤ d + 1 by omega, show 8 + ((MT mid').2.2.1 + 11) + 45 * d ≤ 45 * (d + 1) by omega⟩⟩) N (0, (xentry av nL, ([], h))) v h' q
        have hgo := hL.2 ⟨⟨B.exec, B.bytes, hml.trans p1.symm, hown, hts⟩, B.notSynchronized, hK, hNs, hG, hB, hX⟩ hE ⟨Nat.le_refl _, Nat.le_refl _⟩ rfl
        have := hgo s.heap [] ((lg_sl vs ++ List.replicate (nL - (lg_sl vs).length) Slot.unset).toArray) [] hH va_S.rf (xentry_LR hvs (xb_le.mp q0)) trivial (Nat.le_refl _) (Nat.le_refl _)
        rw [Nat.sub_self, Nat.sub_self] at this
        rw [p1] at this
        exact this
