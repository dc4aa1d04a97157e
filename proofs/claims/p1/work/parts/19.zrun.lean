/-! a stretch of a run: from here to where the table's place `stop` is reached, calls done -/
noncomputable def xrun (call : Nat → List XV → XE → XH → Option (Option XV × XH)) (stop : Nat) (tb : Nat → Option XK) (E : XE) (n : Nat) : (Nat × (XL × (List XV × XH))) → Option (Nat × (XL × (List XV × XH))) :=
  Nat.rec (motive := fun _ => (Nat × (XL × (List XV × XH))) → Option (Nat × (XL × (List XV × XH)))) (fun _ => none)
    (fun _ ih c => match Nat.beq c.1 stop with
      | true => some c
      | false => match tb c.1 with
        | none => none
        | some k => match k E c.2.1 c.2.2.1 c.2.2.2 with
          | none => none
          | some (.inl c') => ih c'
          | some (.inr (.inl _)) => none
          | some (.inr (.inr (mid, (av, (pc, (ls, (st, h))))))) => match call mid av E h with
            | none => none
            | some (v, h') => ih (pc, (ls, (xpush v st, h')))) n
theorem xrun_ok {Ts NW : List Cond} {MT : Nat → XM} {cc : ByteArray} {own : String} {a : XA} {tb : Nat → Option XK} {E : XE} {stop : Nat} {call : Nat → List XV → XE → XH → Option (Option XV × XH)} (hT : xTab Ts NW MT cc own a tb)
    (hcall : ∀ mid av h v h', call mid av E h = some (v, h') → xLe h h' ∧ (xEok E (xG a) → xCon Ts NW (MT mid) a av h v h')) :
    ∀ (n : Nat) (c c' : Nat × (XL × (List XV × XH))), xrun call stop tb E n c = some c' → xLe c.2.2.2 c'.2.2.2 ∧ (xCx Ts NW cc own a → xEok E (xG a) → xFits a c'.2.2.2 → xGo a c'.1 c'.2.1 c'.2.2.1 c'.2.2.2 → xGo a c.1 c.2.1 c.2.2.1 c.2.2.2) := by
  intro n
  induction n with
  | zero => intro c c' h; cases h
  | succ n ih =>
    intro c c' h
    have h : (match Nat.beq c.1 stop with
      | true => some c
      | false => match tb c.1 with
        | none => none
        | some k => match k E c.2.1 c.2.2.1 c.2.2.2 with
          | none => none
          | some (.inl c') => xrun call stop tb E n c'
          | some (.inr (.inl _)) => none
          | some (.inr (.inr (mid, (av, (pc, (ls, (st, h))))))) => match call mid av E h with
            | none => none
            | some (v, h') => xrun call stop tb E n (pc, (ls, (xpush v st, h')))) = some c' := h
    split at h
    · cases h
      exact ⟨⟨Nat.le_refl _, Nat.le_refl _⟩, fun _ _ _ hg => hg⟩
    · split at h
      · cases h
      · rename_i k hk
        split at h
        · cases h
        · rename_i c2 hr
          obtain ⟨s1, s2⟩ := hT _ k hk E _ _ _ _ hr
          obtain ⟨i1, i2⟩ := ih c2 c' h
          exact ⟨xLe_tr s1 i1, fun hC hE hF hQ => s2 hC hE (xFits_le i1 hF) (i2 hC hE hF hQ)⟩
        · cases h
        · rename_i mid av pc ls st h1 hr
          obtain ⟨s1, s2⟩ := hT _ k hk E _ _ _ _ hr
          split at h
          · cases h
          · rename_i v2 h2 hc
            obtain ⟨c1, c2⟩ := hcall mid av h1 v2 h2 hc
            obtain ⟨i1, i2⟩ := ih _ c' h
            have i1 : xLe h2 c'.2.2.2 := i1
            have s1 : xLe c.2.2.2 h1 := s1
            exact ⟨xLe_tr s1 (xLe_tr c1 i1), fun hC hE hF hQ => s2 hC hE (xFits_le (xLe_tr c1 i1) hF) ⟨v2, h2, c2 hE, c1.1, c1.2, xFits_le i1 hF, i2 hC hE hF hQ⟩⟩
/-- the calls of a stretch, by the whole program's contracts: room for d frames above -/
theorem xrun_prog {Ts NW : List Cond} {MT : Nat → XM} {cc : ByteArray} {own : String} {cl : List vw_C} {tf : Nat → FieldType} {P : Nat → Option (Nat × (Nat → Option XK))} {N d : Nat} {E : XE} (hP : xPrg Ts NW MT cl tf P) {a : XA} (hcl : xCl a = cl) (htf : xTf a = tf) (hG : xGok (xG a)) {tb : Nat → Option XK} (hT : xTab Ts NW MT cc own a tb) {stop : Nat}
    (hroom : match a with | (_, _, _, R, _, _, _, _, _, _, _, _, _, _, _, _) => d + 1 ≤ R.frames ∧ 45 * (d + 1) ≤ R.locals) :
    ∀ (n : Nat) (c c' : Nat × (XL × (List XV × XH))), xrun (xcall P N d) stop tb E n c = some c' → xCx Ts NW cc own a → xEok E (xG a) → xFits a c'.2.2.2 → xGo a c'.1 c'.2.1 c'.2.2.1 c'.2.2.2 → xGo a c.1 c.2.1 c.2.2.1 c.2.2.2 := by
  intro n c c' h
  refine (xrun_ok hT (fun mid av g v g' hc => ?_) n c c' h).2
  obtain ⟨c0, c1, c2⟩ := xcall_ok (Ts := Ts) (NW := NW) (MT := MT) (E := E) hP d mid av g v g' hc
  refine ⟨c1 a, fun hE => ?_⟩
  obtain ⟨p, l, e, R, s, m, args, below, meth, cd, Q, G, nL, n0, s0, tyf⟩ := a
  have htf : tyf = tf := htf
  subst htf
  obtain ⟨r1, r2⟩ := hroom
  exact ⟨_, c2 l G hcl hG hE, rfl, rfl, show d + 1 ≤ R.frames by omega, show 8 + ((MT mid).2.2.1 + 11) + 45 * d ≤ R.locals by omega⟩
