section XS
variable {Ts NW : List Cond} {MT : Nat → XM} {cc : ByteArray} {own : String} {a : XA} {pc : Nat} {k : XK}
theorem x_stopI : xSK Ts NW MT cc own a pc X_stop := fun E ls st h r hr => by cases hr
theorem x_castI {ci index N : Nat} {C : String} {T : u_T} (hc : (xCl a)[ci]? = some (C, T, N)) (hl : Cond.classLink own index C ∈ Ts) (hd : decode cc pc = .ok (.checkcast index, 3)) (hk : xSK Ts NW MT cc own a (pc + 3) k) : xSK Ts NW MT cc own a pc (X_cast ci k) := by
  intro E ls st h r hr
  unfold X_cast at hr
  split at hr
  · rename_i ad st'
    cases hz : Nat.beq ad 0 with
    | true =>
      rw [hz] at hr
      obtain ⟨h1, h2⟩ := hk E ls _ h r hr
      refine ⟨h1, fun hC hE hF hT => ?_⟩
      have h3 := h2 hC hE hF hT
      have hz := xb_eq.mp hz
      obtain ⟨p, l, e, R, s, m, args, below, meth, c, Q, G, nL, n0, s0, tyf⟩ := a
      intro H locs lsM stM a1 a2 a3 a4 a5 a6
      rcases stM with _ | ⟨w0, stM⟩
      · exact a4.elim
      · have e0 : w0 = (if ad = 0 then Value.null else .ref (G.1 ad)) := a4.1
        rw [if_pos hz] at e0
        subst e0
        exact lv_castN hC.1.1 hC.1.2.1 hd (h3 H locs lsM (.null :: stM) a1 a2 a3 ⟨(if_pos rfl).symm, a4.2⟩ a5 a6)
    | false =>
      rw [hz] at hr
      have hr : (match xat h ad with
        | some (.inl o) => cond (Nat.beq o.1 ci) (k E ls (.inr (.inr (.inl ad)) :: st') h) none
        | _ => none) = some r := hr
      split at hr
      · rename_i o hx
        obtain ⟨k1, hr⟩ := x_c1 hr
        obtain ⟨h1, h2⟩ := hk E ls _ h r hr
        refine ⟨h1, fun hC hE hF hT => ?_⟩
        have h3 := h2 hC hE hF hT
        obtain ⟨x1, x2, x3⟩ := xat_spec hx
        obtain ⟨p, l, e, R, s, m, args, below, meth, c, Q, G, nL, n0, s0, tyf⟩ := a
        intro H locs lsM stM a1 a2 a3 a4 a5 a6
        rcases stM with _ | ⟨w0, stM⟩
        · exact a4.elim
        · have e1 := a4.1
          have e0 : w0 = (if ad = 0 then Value.null else .ref (G.1 ad)) := a4.1
          rw [if_neg (by omega)] at e0
          subst e0
          have hcc := a1.2.2.2 ad x1 x2
          rw [x3] at hcc
          obtain ⟨vs, ⟨r', f1, cellV, g1, g2, g3, -⟩, -⟩ := hcc
          have f1 : G.2.2.2.1[o.1]? = some r' := f1
          have hc : G.2.2.2.1[ci]? = some (C, T, N) := hc
          rw [xb_eq.mp k1] at f1 g2
          have er : r' = (C, T, N) := Option.some.inj (f1.symm.trans hc)
          have hcls := (hC.2.2.1.1 ci (C, T, N) hc).2
          have C0 := hC.1
          exact va_castS C0.1 C0.2.1 C0.2.2.2.1 (C0.2.2.2.2 _ hl) hcls ⟨cellV, g1, by rw [g3]; rfl, by rw [g2]; exact hcls.1⟩ hd (h3 H locs lsM (.ref (G.1 ad) :: stM) a1 a2 a3 a4 a5 a6)
      · cases hr
  · cases hr
theorem xAOA_moved {t : FieldType} {u U : State} (hvm : u.vm.Alike U.vm) (h : va_Nw (Cond.arrayOver (.array t)) u) : va_Nw (Cond.arrayOver (.array t)) U := by
  obtain ⟨comp, c, k, h1, h2, h3, h4, h5⟩ := arrayOverA_spec h
  obtain ⟨k', hk', he⟩ := hvm.2.2 _ _ h3
  have hi : (U.vm.classes.findIdx? fun (x : Class) => match x.kind with | .array component _ => component == comp | _ => false) = some c := by
    rw [hvm.findIdx?_eq _ (fun _ => rfl)]
    exact h2
  have hkind : k'.kind = .array comp (.array t) := by rw [he]; exact h4
  have f1 : U.vm.findClass (FieldType.array t).toString = some comp := by rw [hvm.findClass]; exact h1
  have f2 : U.vm.findClass ("[" ++ (FieldType.array t).toString) = some c := by rw [hvm.findClass]; exact h5
  unfold va_Nw Cond.before Cond.holds
  simp only [Cond.value]
  rw [f1, Option.bind_some]
  refine (congrArg (fun o : Option Nat => (o.bind (fun c => (U.vm.classes[c]?).map fun (k : Class) => match k.kind with | .array _ ty => decide (ty = FieldType.array t) && decide (U.vm.findClass ("[" ++ (FieldType.array t).toString) = some c) | _ => false) == some true)) hi).trans ?_
  simp [hk', hkind, f2]
/-- words that hold further on -/
def xNWw (w : Cond) : Prop := (∀ s U : State, s.vm = U.vm → va_Nw w s → va_Nw w U) ∧ ∀ s U : State, s.WarmedH U.vm → va_Nw w s → va_Nw w U
theorem xNW_F {a : String} {i : Nat} {b n d h : String} : xNWw (.fieldLinkNest a i b n d h) := ⟨fun _ _ e q => va_Nw.same rfl e q, fun _ _ hW q => va_Nw.warmF hW q⟩
theorem xNW_M {a : String} {i : Nat} {x : MethodName} {h : String} : xNWw (.methodLinkNest a i x h) := ⟨fun _ _ e q => va_Nw.same rfl e q, fun _ _ hW q => va_Nw.warmM hW q⟩
theorem xNW_C {C T : String} : xNWw (.castable C T) := ⟨fun _ _ e q => va_Nw.same rfl e q, fun _ _ hW q => va_Nw.warmC hW q⟩
theorem xNW_D {x : MethodName} : xNWw (.declares x) := ⟨fun _ _ e q => va_Nw.same rfl e q, fun _ _ hW q => va_Nw.warmD hW q⟩
theorem xNW_O {C : String} : xNWw (.arrayOver (.object C)) := ⟨fun s U e q => va_AO.moved (u := s) (U := U) (by rw [← e]; exact Vm.Alike.refl _) q, fun s U hW q => va_AO.moved (u := s) (U := U) hW.alike q⟩
theorem xNW_A {t : FieldType} : xNWw (.arrayOver (.array t)) := ⟨fun s U e q => xAOA_moved (u := s) (U := U) (by rw [← e]; exact Vm.Alike.refl _) q, fun s U hW q => xAOA_moved (u := s) (U := U) hW.alike q⟩
theorem xb_hi {a : XA} {n i : Nat} (h : xNL a = n) (q : Nat.blt i n = true) : i < xNL a := by rw [h]; exact xb_lt.mp q
def xOf (y : XM) (T : List Cond) (NW : List Cond) (MT : Nat → XM) (cl : List vw_C) (tf : Nat → FieldType) (tb : Nat → Option XK) : Prop := y.2.2.1 ≤ 25 ∧ plainName y.1.cls = true ∧ ∀ a, xOkA cl tf y a → xTab T NW MT y.2.1 y.1.cls a tb
theorem xPrg_leaf {cl : List vw_C} {tf : Nat → FieldType} {c : Nat} {tb : Nat → Option XK} (h : xOf (MT c) Ts NW MT cl tf tb) : xPrg Ts NW MT cl tf (fun k => cond (Nat.beq k c) (some ((MT c).2.2.1, tb)) none) := by
  intro mid nL tb' hk
  obtain ⟨h1, h2⟩ := x_c1 hk
  have e := xb_eq.mp h1
  cases h2
  subst e
  exact ⟨rfl, h.1, h.2.1, h.2.2⟩
theorem xPrg_node {cl : List vw_C} {tf : Nat → FieldType} {c : Nat} {t1 t2 : Nat → Option (Nat × (Nat → Option XK))} (h1 : xPrg Ts NW MT cl tf t1) (h2 : xPrg Ts NW MT cl tf t2) : xPrg Ts NW MT cl tf (fun k => cond (Nat.blt k c) (t1 k) (t2 k)) := by
  intro mid nL tb hk
  cases hb : Nat.blt mid c with
  | true => exact h1 mid nL tb (by have hk : cond (Nat.blt mid c) (t1 mid) (t2 mid) = some (nL, tb) := hk; rw [hb] at hk; exact hk)
  | false => exact h2 mid nL tb (by have hk : cond (Nat.blt mid c) (t1 mid) (t2 mid) = some (nL, tb) := hk; rw [hb] at hk; exact hk)
end XS
