/-! lookupswitch, lxor, max of longs, rows of chars -/
noncomputable def xlook : List (Nat × Nat) → Nat → Nat → Nat
  | [], d, _ => d
  | q :: r, d, a => cond (Nat.beq q.1 a) q.2 (xlook r d a)
noncomputable def xlout : List (Nat × Nat) → Int × Int → Bool
  | [], _ => true
  | q :: r, b => cond (decide (xsgn q.1 < b.1)) (xlout r b) (cond (decide (b.2 < xsgn q.1)) (xlout r b) false)
noncomputable def X_lsw (ps : List (Nat × Nat)) (d : Nat) : XK := fun e ls st h => match st with
  | .inl a :: st' => some (.inl (xlook ps d a, (ls, (st', h))))
  | v :: st' => cond (xkI v) (match xcon e v with
    | some a => some (.inl (xlook ps d a, (ls, (st', h))))
    | none => match xivI e v with
      | some x => cond (xlout ps x) (some (.inl (d, (ls, (st', h))))) none
      | none => none) none
  | _ => none
theorem xsgn_inj {n : Nat} (x : Int32) (h : n < 4294967296) : xsgn n = x.toInt ↔ n = x.toBitVec.toNat := by
  have e : xsgn n = if n < 2147483648 then (n : Int) else (n : Int) - 4294967296 := by
    show cond (Nat.blt n 2147483648) (n : Int) ((n : Int) - 4294967296) = _
    cases hb : Nat.blt n 2147483648 with
    | true => rw [if_pos (xb_lt.mp hb)]; rfl
    | false => rw [if_neg (fun q => by rw [xb_lt.mpr q] at hb; cases hb)]; rfl
  have hl := xn_lt x
  rw [e, xn_toInt x]
  split <;> split <;> omega
theorem xlook_off {pc d : Nat} {dflt : Int} (hdf : (pc : Int) + dflt = (d : Int)) (x : Int32) : ∀ (ps : List (Nat × Nat)), (∀ q ∈ ps, q.1 < 4294967296) → (pc : Int) + Op.lookupswitch.offset (ps.map fun q => (xsgn q.1, (q.2 : Int) - (pc : Int))) dflt x.toInt = ((xlook ps d x.toBitVec.toNat : Nat) : Int)
  | [], _ => hdf
  | q :: r, h => by
    have ih := xlook_off hdf x r (fun q' h' => h q' (List.mem_cons_of_mem _ h'))
    have hq := h q List.mem_cons_self
    show (pc : Int) + (if xsgn q.1 = x.toInt then (q.2 : Int) - (pc : Int) else Op.lookupswitch.offset (r.map fun q => (xsgn q.1, (q.2 : Int) - (pc : Int))) dflt x.toInt) = ((cond (Nat.beq q.1 x.toBitVec.toNat) q.2 (xlook r d x.toBitVec.toNat) : Nat) : Int)
    by_cases e : q.1 = x.toBitVec.toNat
    · rw [if_pos ((xsgn_inj x hq).mpr e), xb_eq.mpr e]
      show (pc : Int) + ((q.2 : Int) - pc) = (q.2 : Int)
      omega
    · rw [if_neg (fun z => e ((xsgn_inj x hq).mp z)), xb_ne e]
      exact ih
theorem xlout_ok {x : Int32} {b : Int × Int} {d : Nat} (h1 : b.1 ≤ x.toInt) (h2 : x.toInt ≤ b.2) : ∀ (ps : List (Nat × Nat)), (∀ q ∈ ps, q.1 < 4294967296) → xlout ps b = true → xlook ps d x.toBitVec.toNat = d
  | [], _, _ => rfl
  | q :: r, h, hb => by
    have hq := h q List.mem_cons_self
    have ih := xlout_ok (d := d) h1 h2 r (fun q' h' => h q' (List.mem_cons_of_mem _ h'))
    have hb : cond (decide (xsgn q.1 < b.1)) (xlout r b) (cond (decide (b.2 < xsgn q.1)) (xlout r b) false) = true := hb
    have hne : ¬ q.1 = x.toBitVec.toNat ∧ xlout r b = true := by
      cases c1 : decide (xsgn q.1 < b.1) with
      | true =>
        rw [c1] at hb
        have c1 := of_decide_eq_true c1
        exact ⟨fun e => by rw [(xsgn_inj x hq).mpr e] at c1; omega, hb⟩
      | false =>
        rw [c1] at hb
        cases c2 : decide (b.2 < xsgn q.1) with
        | true =>
          rw [c2] at hb
          have c2 := of_decide_eq_true c2
          exact ⟨fun e => by rw [(xsgn_inj x hq).mpr e] at c2; omega, hb⟩
        | false => rw [c2] at hb; cases hb
    show cond (Nat.beq q.1 x.toBitVec.toNat) q.2 (xlook r d x.toBitVec.toNat) = d
    rw [xb_ne hne.1]
    exact ih hne.2
theorem x_i2cN (x : Int32) : (x.toUInt32 % 65536).toInt32.toBitVec.toNat = x.toBitVec.toNat % 65536 := by
  show (x.toBitVec % 65536#32).toNat = _
  rw [BitVec.toNat_umod]
  rfl
noncomputable def x_i2c (a : Nat) : Nat := Nat.mod a 65536
noncomputable def xkC (v : XV) : Bool := match v with
  | .inl n => Nat.blt n 65536
  | _ => false
theorem xkC_I {v : XV} (h : xkC v = true) : xkI v = true := by
  rcases v with n | n
  · rfl
  · cases h
noncomputable def X_lmax (k : XK) : XK := fun e ls st h => match st with
  | .inr (.inl b) :: .inr (.inl a) :: st' => cond (Nat.ble (xcats st') 8) (cond (Nat.blt (xsL b) (xsL a)) (k e ls (.inr (.inl a) :: st') h) (k e ls (.inr (.inl b) :: st') h)) none
  | _ => none
section XS
variable {Ts NW : List Cond} {MT : Nat → XM} {cc : ByteArray} {own : String} {a : XA} {pc : Nat} {k : XK}
theorem x_lswI (hR : xRm a) {d len : Nat} {ps : List (Nat × Nat)} {dflt : Int} {pa : Array (Int × Int)} (hd : decode cc pc = .ok (.lookupswitch dflt pa, len)) (ho : pa.toList = ps.map (fun q => (xsgn q.1, (q.2 : Int) - (pc : Int)))) (hs : (pa.toList.zip (pa.toList.drop 1)).all (fun (a, next) => a.1 < next.1) = true) (hdf : (pc : Int) + dflt = (d : Int)) (hq : ∀ q ∈ ps, q.1 < 4294967296) : xSK Ts NW MT cc own a pc (X_lsw ps d) :=
  x_step hR fun E ls st h r hr => by
    unfold X_lsw at hr
    split at hr
    · rename_i c st'
      refine ⟨_, ls, st', Or.inr (Option.some.inj hr).symm, fun _ _ lsM stM b1 b2 => ?_⟩
      rcases stM with _ | ⟨w, stM⟩
      · exact b2.elim
      · obtain ⟨⟨x, rfl, hx⟩, b3⟩ := b2
        subst hx
        exact ⟨lsM, stM, b1, b3, fun C _ _ kk => lv_lookup C.1 C.2.1 hd hs rfl (by rw [ho]; exact xlook_off hdf x ps hq) kk⟩
    · rename_i v st' _
      obtain ⟨k1, hr⟩ := x_c1 hr
      split at hr
      · rename_i c hc
        refine ⟨_, ls, st', Or.inr (Option.some.inj hr).symm, fun hE _ lsM stM b1 b2 => ?_⟩
        rcases stM with _ | ⟨w, stM⟩
        · exact b2.elim
        · obtain ⟨x, rfl, hx⟩ := xcon_spec hE hc b2.1
          subst hx
          exact ⟨lsM, stM, b1, b2.2, fun C _ _ kk => lv_lookup C.1 C.2.1 hd hs rfl (by rw [ho]; exact xlook_off hdf x ps hq) kk⟩
      · split at hr
        · rename_i q hq2
          obtain ⟨k2, hr⟩ := x_c1 hr
          refine ⟨d, ls, st', Or.inr (Option.some.inj hr).symm, fun hE _ lsM stM b1 b2 => ?_⟩
          rcases stM with _ | ⟨w, stM⟩
          · exact b2.elim
          · obtain ⟨x, rfl, l1, l2⟩ := xivI_spec hE hq2 b2.1
            exact ⟨lsM, stM, b1, b2.2, fun C _ _ kk => lv_lookup C.1 C.2.1 hd hs rfl (by rw [ho, xlook_off hdf x ps hq, xlout_ok l1 l2 ps hq k2]) kk⟩
        · cases hr
    · cases hr
theorem x_lxorI (hR : xRm a) (hd : decode cc pc = .ok (.lxor, 1)) (hk : xSK Ts NW MT cc own a (pc + 1) k) : xSK Ts NW MT cc own a pc (X_lbin Nat.xor xgn k) := x_lb hR xnL_xor xgn_l (fun _ _ _ _ => fun C _ _ kk => lv_lxor C.1 C.2.1 hd kk) hk
theorem x_i2cI (hR : xRm a) (hd : decode cc pc = .ok (.i2c, 1)) (hk : xSK Ts NW MT cc own a (pc + 1) k) : xSK Ts NW MT cc own a pc (X_inar x_i2c k) :=
  x_step hR fun E ls st h r hr => by
    unfold X_inar at hr
    split at hr
    · rename_i b st'
      refine ⟨pc + 1, ls, _, Or.inl ⟨k, hk, hr⟩, fun _ _ lsM stM b1 b2 => ?_⟩
      rcases stM with _ | ⟨w1, stM⟩
      · exact b2.elim
      · obtain ⟨⟨y, rfl, hy⟩, b3⟩ := b2
        subst hy
        exact ⟨lsM, .int (y.toUInt32 % 65536).toInt32 :: stM, b1, ⟨⟨_, rfl, x_i2cN y⟩, b3⟩, fun C _ _ kk => lv_i2c C.1 C.2.1 hd rfl kk⟩
    · cases hr
theorem x_cald (ht : xTf a 3 = .char) (hd : decode cc pc = .ok (.caload, 1)) (hk : xSK Ts NW MT cc own a (pc + 1) k) : xSK Ts NW MT cc own a pc (X_ald xt4 k) :=
  x_aldG (fun C0 hkt hc ha hin hv kk => by
    have e := xb_eq.mp hkt
    subst e
    rw [ht] at ha
    exact W.cald C0.1 C0.2.1 hc (ha _ _) (fun q => by cases q) hin hv rfl rfl hd kk) hk
theorem x_castoI (ht : xTf a 3 = .char) (hd : decode cc pc = .ok (.castore, 1)) (hk : xSK Ts NW MT cc own a (pc + 1) k) : xSK Ts NW MT cc own a pc (X_ast xt4 xkC k) :=
  x_astG (fun tc v w h1 h2 h3 => xKd_I (by have := xb_eq.mp h1; omega) (xkC_I h2) h3) (fun {p l e R s m args below meth c H locs cells slots Q ls rest ad tc n0 cA g x h v w} C0 _ _ _ hkv hrel hkt hc ha _ hin kk => by
    have e := xb_eq.mp hkt
    subst e
    rw [ht] at ha
    rcases v with n | n
    · obtain ⟨y, rfl, hy⟩ := hrel
      have hn : n < 65536 := xb_lt.mp hkv
      have hz := xn_toInt y
      rw [hy, if_pos (by omega)] at hz
      exact W.cast C0.1 C0.2.1 hc (ha _ _) (fun q => by cases q) hin rfl rfl hd (fun H1 e1 e2 e3 => kk H1 (by rw [show narrow .char (.int y) = .int y from congrArg Value.int (lg_i2c_small (by omega) (by omega))] at e1; exact e1) e2 e3)
    · cases hkv) hk
theorem xw_mxL {x y : Int64} : (if y < x then x else y).toBitVec.toNat = cond (Nat.blt (xsL y.toBitVec.toNat) (xsL x.toBitVec.toNat)) x.toBitVec.toNat y.toBitVec.toNat := by
  have h := xpL_lt y x
  have h : Nat.blt (xsL y.toBitVec.toNat) (xsL x.toBitVec.toNat) = true ↔ y < x := h
  by_cases q : y < x
  · rw [if_pos q, h.mpr q]; rfl
  · rw [if_neg q]
    cases hb : Nat.blt (xsL y.toBitVec.toNat) (xsL x.toBitVec.toNat) with
    | true => exact absurd (h.mp hb) q
    | false => rfl
theorem x_lmaxI (hR : xRm a) {index : Nat} (hl : Cond.methodLink own index Lib.MathLoose.max_long.x ∈ Ts) (hst : Cond.static Lib.MathLoose.max_long.x ∈ Ts) (hini : Cond.initialized "java/lang/Math" ∈ Ts) (hcw : Cond.code Lib.MathLoose.max_long.x Lib.MathLoose.max_long.code 4 (some .long) ∈ Ts) (hd : decode cc pc = .ok (.invokestatic index, 3)) (hk : xSK Ts NW MT cc own a (pc + 3) k) : xSK Ts NW MT cc own a pc (X_lmax k) := by
  intro E ls st h r hr
  unfold X_lmax at hr
  split at hr
  · rename_i b c st'
    obtain ⟨k1, hr⟩ := x_c1 hr
    have hr := xcond_k (f := fun z => .inr (.inl z)) hr
    obtain ⟨h1, h2⟩ := hk E ls _ h r hr
    refine ⟨h1, fun hC hE hF hT => ?_⟩
    have h3 := h2 hC hE hF hT
    obtain ⟨p, l, e, R, s, m, args, below, meth, c', Q, G, nL, n0, s0, tyf⟩ := a
    intro H locs lsM stM a1 a2 a3 a4 a5 a6
    rcases stM with _ | ⟨w1, _ | ⟨w2, stM⟩⟩
    · exact a4.elim
    · exact a4.2.elim
    · obtain ⟨⟨y, rfl, hy⟩, ⟨x, rfl, hx⟩, a4⟩ := a4
      have C := hC.1
      have hs : (stM.map fun v => v.category).sum ≤ 8 := by rw [xcats_spec a4]; exact xb_le.mp k1
      have f1 : (xrh r).1 - n0 ≤ R.cells := hF.1
      have f2 : (xrh r).2.1 - s0 ≤ R.slots := hF.2
      have g1 := h1.1
      have g2 := h1.2
      have r1 : 1 ≤ R.frames := hR.1
      have r2 : 40 ≤ R.locals := hR.2
      refine va_mmax_long C.1 C.2.1 (C.2.2.1.trans a3.1.symm) C.2.2.2.1 (C.2.2.2.2 _ hl) (C.2.2.2.2 _ hst) (C.2.2.2.2 _ hini) (C.2.2.2.2 _ hcw) r1 (by omega) (by omega) (by omega) hd (h3 H locs lsM (.long (if y < x then x else y) :: stM) a1 a2 a3 ⟨⟨_, rfl, by rw [xw_mxL, hx, hy]⟩, a4⟩ a5 a6)
  · cases hr
end XS
