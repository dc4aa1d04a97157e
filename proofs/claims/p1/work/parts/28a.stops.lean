/-! a run over several places, and a call that such runs tell -/
noncomputable def xstops (call : Nat → List XV → XE → XH → Option (Option XV × XH)) (tb : Nat → Option XK) (E : XE) (n : Nat) : List Nat → (Nat × (XL × (List XV × XH))) → Option (Nat × (XL × (List XV × XH)))
  | [], c => some c
  | B :: r, c => match xrun call B tb E n c with
    | some c' => xstops call tb E n r c'
    | none => none
section XS
variable {Ts NW : List Cond} {MT : Nat → XM} {cc : ByteArray} {own : String} {cl : List vw_C} {tf : Nat → FieldType} {P : Nat → Option (Nat × (Nat → Option XK))} {N d : Nat} {E : XE} {a : XA} {tb : Nat → Option XK}
theorem xstops_ok {call : Nat → List XV → XE → XH → Option (Option XV × XH)} (hT : xTab Ts NW MT cc own a tb) (hcall : ∀ mid av h v h', call mid av E h = some (v, h') → xLe h h' ∧ (xEok E (xG a) → xCon Ts NW (MT mid) a av h v h')) (hC : xCx Ts NW cc own a) (hE : xEok E (xG a)) {n : Nat} : ∀ (l : List Nat) (c c' : Nat × (XL × (List XV × XH))), xstops call tb E n l c = some c' → ∀ h' : XH, xLe c'.2.2.2 h' → xFits a h' → xGo a c'.1 c'.2.1 c'.2.2.1 c'.2.2.2 → xLe c.2.2.2 h' ∧ xGo a c.1 c.2.1 c.2.2.1 c.2.2.2
  | [], c, c', h, h', hl, hF, hg => by
    cases h
    exact ⟨hl, hg⟩
  | B :: r, c, c', h, h', hl, hF, hg => by
    have h : (match xrun call B tb E n c with
      | some c' => xstops call tb E n r c'
      | none => none) = some c' := h
    cases h1 : xrun call B tb E n c with
    | none => rw [h1] at h; cases h
    | some c1 =>
      rw [h1] at h
      obtain ⟨i1, i2⟩ := xstops_ok hT hcall hC hE r c1 c' h h' hl hF hg
      obtain ⟨s1, s2⟩ := xrun_ok hT hcall n c c1 h1
      exact ⟨xLe_tr s1 i1, s2 hC hE (xFits_le i1 hF) i2⟩
end XS
