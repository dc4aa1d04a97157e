section XS
variable {Ts NW : List Cond} {MT : Nat → XM} {cc : ByteArray} {own : String} {a : XA} {pc : Nat} {k : XK}
theorem x_oinitI (hR : xRm a) {index : Nat} (hl : Cond.methodLink own index Lib.objectInit ∈ Ts) (hin : Cond.instanceMethod Lib.objectInit ∈ Ts) (hcw : Cond.code Lib.objectInit ⟨#[0xb1]⟩ 1 none ∈ Ts) (hd : decode cc pc = .ok (.invokespecial index, 3)) (hk : xSK Ts NW MT cc own a (pc + 3) k) : xSK Ts NW MT cc own a pc (X_oinit k) :=
  x_step hR fun E ls st h r hr => by
    unfold X_oinit at hr
    split at hr
    · rename_i b st'
      obtain ⟨k1, hr⟩ := x_c1 hr
      obtain ⟨k2, hr⟩ := x_c1 hr
      have k1 := xb_le.mp k1
      refine ⟨pc + 3, ls, st', Or.inl ⟨k, hk, hr⟩, fun _ _ lsM stM b1 b2 => ?_⟩
      rcases stM with _ | ⟨w, stM⟩
      · exact b2.elim
      · have e0 : w = (if b = 0 then Value.null else .ref ((xG a).1 b)) := b2.1
        rw [if_neg (by omega)] at e0
        subst e0
        refine ⟨lsM, stM, b1, b2.2, fun C r1 r2 kk => ?_⟩
        have hs : (stM.map fun v => v.category).sum ≤ 8 := by rw [xcats_spec b2.2]; exact xb_le.mp k2
        refine W.objInit C.1 C.2.1 C.2.2.2.1 (C.2.2.2.2 _ hl) (C.2.2.2.2 _ hin) (C.2.2.2.2 _ hcw) rfl (b1.1.trans C.2.2.1.symm) rfl hd r1 (by show 2 * 0 + _ + 12 ≤ _; omega) kk
    · cases hr
theorem xnth_lt : ∀ {ts : List Nat} {i d : Nat}, i < ts.length → ts[i]? = some (xnth ts i d)
  | [], _, _, h => absurd h (by simp)
  | _ :: _, 0, _, _ => rfl
  | _ :: r, i + 1, d, h => by
    have := xnth_lt (ts := r) (i := i) (d := d) (by simpa using h)
    simpa [xnth] using this
theorem xnth_ge : ∀ {ts : List Nat} {i d : Nat}, ts.length ≤ i → xnth ts i d = d
  | [], _, _, _ => rfl
  | _ :: _, 0, _, h => absurd h (by simp)
  | _ :: r, i + 1, d, h => by
    show xnth r i d = d
    exact xnth_ge (ts := r) (by simpa using h)
theorem xw_tsw {lo d len : Nat} {ts : List Nat} {dflt : Int} {offs : Array Int} {nL : Nat} (hd : decode cc pc = .ok (.tableswitch dflt (lo : Int) ((lo : Int) + ts.length - 1) offs, len)) (ho : offs.toList = ts.map (fun t : Nat => (t : Int) - (pc : Int))) (hdf : (pc : Int) + dflt = (d : Int)) (hlo : lo + ts.length < 2147483648) {x : Int32} {lsM : Array Slot} {stM : List Value} :
    xP Ts own nL cc pc lsM (.int x :: stM) (cond (Nat.ble lo x.toBitVec.toNat) (xnth ts (Nat.sub x.toBitVec.toNat lo) d) d) lsM stM := by
  intro p l e R s m args below meth c H locs cells slots Q C r1 r2 kk
  have ht := xn_toInt x
  have hl := xn_lt x
  by_cases h1 : lo ≤ x.toBitVec.toNat ∧ x.toBitVec.toNat < lo + ts.length
  · rw [xb_le.mpr h1.1] at kk
    have hi : x.toBitVec.toNat - lo < ts.length := by omega
    have e1 := xnth_lt (d := d) hi
    rw [if_pos (by omega)] at ht
    have e2 : (x.toInt - (lo : Int)).toNat = x.toBitVec.toNat - lo := by omega
    refine lv_tableIn C.1 C.2.1 hd (by omega) (by omega) (off := ((xnth ts (x.toBitVec.toNat - lo) d : Nat) : Int) - pc) (by rw [e2, ← Array.getElem?_toList, ho, List.getElem?_map, e1]; rfl) (tgt := xnth ts (x.toBitVec.toNat - lo) d) (by omega) kk
  · have e3 : cond (Nat.ble lo x.toBitVec.toNat) (xnth ts (Nat.sub x.toBitVec.toNat lo) d) d = d := by
      cases hb : Nat.ble lo x.toBitVec.toNat with
      | false => rfl
      | true =>
        have := xb_le.mp hb
        exact xnth_ge (by show ts.length ≤ x.toBitVec.toNat - lo; omega)
    rw [e3] at kk
    refine lv_tableOut C.1 C.2.1 hd (by split at ht <;> omega) hdf kk
theorem x_tswI (hR : xRm a) {lo d len : Nat} {ts : List Nat} {dflt : Int} {offs : Array Int} (hd : decode cc pc = .ok (.tableswitch dflt (lo : Int) ((lo : Int) + ts.length - 1) offs, len)) (ho : offs.toList = ts.map (fun t : Nat => (t : Int) - (pc : Int))) (hdf : (pc : Int) + dflt = (d : Int)) (hlo : lo + ts.length < 2147483648) : xSK Ts NW MT cc own a pc (X_tsw lo ts d) :=
  x_step hR fun E ls st h r hr => by
    unfold X_tsw at hr
    split at hr
    · rename_i c st'
      refine ⟨_, ls, st', Or.inr (Option.some.inj hr).symm, fun _ _ lsM stM b1 b2 => ?_⟩
      rcases stM with _ | ⟨w, stM⟩
      · exact b2.elim
      · obtain ⟨⟨x, rfl, hx⟩, b3⟩ := b2
        subst hx
        exact ⟨lsM, stM, b1, b3, xw_tsw hd ho hdf hlo⟩
    · rename_i v st' _
      obtain ⟨k1, hr⟩ := x_c1 hr
      split at hr
      · rename_i c hc
        refine ⟨_, ls, st', Or.inr (Option.some.inj hr).symm, fun hE _ lsM stM b1 b2 => ?_⟩
        rcases stM with _ | ⟨w, stM⟩
        · exact b2.elim
        · obtain ⟨x, rfl, hx⟩ := xcon_spec hE hc b2.1
          subst hx
          exact ⟨lsM, stM, b1, b2.2, xw_tsw hd ho hdf hlo⟩
      · split at hr
        · rename_i q hq
          refine ⟨d, ls, st', Or.inr ?_, fun hE _ lsM stM b1 b2 => ?_⟩
          · cases h1 : decide (q.2 < Int.ofNat lo) with
            | true => rw [h1] at hr; exact (Option.some.inj hr).symm
            | false =>
              rw [h1] at hr
              have hr : cond (decide (Int.ofNat (Nat.add lo ts.length) ≤ q.1)) _ none = some r := hr
              obtain ⟨-, hr⟩ := x_c1 hr
              exact (Option.some.inj hr).symm
          · rcases stM with _ | ⟨w, stM⟩
            · exact b2.elim
            · obtain ⟨x, rfl, l1, l2⟩ := xivI_spec hE hq b2.1
              refine ⟨lsM, stM, b1, b2.2, fun C r1 r2 kk => lv_tableOut C.1 C.2.1 hd ?_ hdf kk⟩
              cases h1 : decide (q.2 < Int.ofNat lo) with
              | true =>
                have h1 : q.2 < (lo : Int) := of_decide_eq_true h1
                exact Or.inl (by omega)
              | false =>
                rw [h1] at hr
                have hr : cond (decide (Int.ofNat (Nat.add lo ts.length) ≤ q.1)) _ none = some r := hr
                obtain ⟨h2, -⟩ := x_c1 hr
                have h2 : ((lo + ts.length : Nat) : Int) ≤ q.1 := of_decide_eq_true h2
                exact Or.inr (by omega)
        · cases hr
    · cases hr
theorem xw_mm {x y : Int32} : (if y < x then y else x).toBitVec.toNat = cond (Nat.blt (xsg y.toBitVec.toNat) (xsg x.toBitVec.toNat)) y.toBitVec.toNat x.toBitVec.toNat := by
  have h := xp2_lt y x
  have h : Nat.blt (xsg y.toBitVec.toNat) (xsg x.toBitVec.toNat) = true ↔ y < x := h
  by_cases q : y < x
  · rw [if_pos q, h.mpr q]; rfl
  · rw [if_neg q]
    cases hb : Nat.blt (xsg y.toBitVec.toNat) (xsg x.toBitVec.toNat) with
    | true => exact absurd (h.mp hb) q
    | false => rfl
theorem xw_mmL {x y : Int64} : (if y < x then y else x).toBitVec.toNat = cond (Nat.blt (xsL y.toBitVec.toNat) (xsL x.toBitVec.toNat)) y.toBitVec.toNat x.toBitVec.toNat := by
  have h := xpL_lt y x
  have h : Nat.blt (xsL y.toBitVec.toNat) (xsL x.toBitVec.toNat) = true ↔ y < x := h
  by_cases q : y < x
  · rw [if_pos q, h.mpr q]; rfl
  · rw [if_neg q]
    cases hb : Nat.blt (xsL y.toBitVec.toNat) (xsL x.toBitVec.toNat) with
    | true => exact absurd (h.mp hb) q
    | false => rfl
theorem xcond_k {b : Bool} {x y : Nat} {f : Nat → XV} {k : XK} {E : XE} {ls : XL} {st : List XV} {h : XH} {r : XR} (hr : cond b (k E ls (f x :: st) h) (k E ls (f y :: st) h) = some r) : k E ls (f (cond b x y) :: st) h = some r := by
  cases b <;> exact hr
theorem x_minI (hR : xRm a) {index : Nat} (hcs : ∀ (R : Room) (cells slots : Nat), True) (hl : Cond.methodLink own index Lib.Math.min.name ∈ Ts) (hst : Cond.static Lib.Math.min.name ∈ Ts) (hini : Cond.initialized "java/lang/Math" ∈ Ts) (hcw : Cond.code Lib.Math.min.name Lib.Math.min.code 2 (some .int) ∈ Ts) (hd : decode cc pc = .ok (.invokestatic index, 3)) (hk : xSK Ts NW MT cc own a (pc + 3) k) : xSK Ts NW MT cc own a pc (X_min k) := by
  intro E ls st h r hr
  unfold X_min at hr
  split at hr
  · rename_i b c st'
    obtain ⟨k1, hr⟩ := x_c1 hr
    have hr := xcond_k (f := fun z => .inl z) hr
    obtain ⟨h1, h2⟩ := hk E ls _ h r hr
    refine ⟨h1, fun hC hE hF hT => ?_⟩
    have h3 := h2 hC hE hF hT
    obtain ⟨p, l, e, R, s, m, args, below, meth, c', Q, G, nL, n0, s0, tyf⟩ := a
    intro H locs lsM stM a1 a2 a3 a4 a5 a6
    rcases stM with _ | ⟨w1, _ | ⟨w2, stM⟩⟩
    · exact a4.elim
    · exact a4.2.elim
    · obtain ⟨⟨y, rfl, hy⟩, ⟨x, rfl, hx⟩, a4⟩ := a4
      have C := hC.1
      have hs : (stM.map fun v => v.category).sum ≤ 8 := by rw [xcats_spec a4]; exact xb_le.mp k1
      have f1 : (xrh r).1 - n0 ≤ R.cells := hF.1
      have f2 : (xrh r).2.1 - s0 ≤ R.slots := hF.2
      have g1 := h1.1
      have g2 := h1.2
      have r1 : 1 ≤ R.frames := hR.1
      have r2 : 40 ≤ R.locals := hR.2
      refine va_mmin C.1 C.2.1 (C.2.2.1.trans a3.1.symm) C.2.2.2.1 (C.2.2.2.2 _ hl) (C.2.2.2.2 _ hst) (C.2.2.2.2 _ hini) (C.2.2.2.2 _ hcw) r1 (by omega) (by omega) (by omega) hd (h3 H locs lsM (.int (if y < x then y else x) :: stM) a1 a2 a3 ⟨⟨_, rfl, by rw [xw_mm, hx, hy]⟩, a4⟩ a5 a6)
  · cases hr
theorem x_maxI (hR : xRm a) {index : Nat} (hl : Cond.methodLink own index Lib.Math.max.name ∈ Ts) (hst : Cond.static Lib.Math.max.name ∈ Ts) (hini : Cond.initialized "java/lang/Math" ∈ Ts) (hcw : Cond.code Lib.Math.max.name Lib.Math.max.code 2 (some .int) ∈ Ts) (hd : decode cc pc = .ok (.invokestatic index, 3)) (hk : xSK Ts NW MT cc own a (pc + 3) k) : xSK Ts NW MT cc own a pc (X_max k) := by
  intro E ls st h r hr
  unfold X_max at hr
  split at hr
  · rename_i b c st'
    obtain ⟨k1, hr⟩ := x_c1 hr
    have hr := xcond_k (f := fun z => .inl z) hr
    obtain ⟨h1, h2⟩ := hk E ls _ h r hr
    refine ⟨h1, fun hC hE hF hT => ?_⟩
    have h3 := h2 hC hE hF hT
    obtain ⟨p, l, e, R, s, m, args, below, meth, c', Q, G, nL, n0, s0, tyf⟩ := a
    intro H locs lsM stM a1 a2 a3 a4 a5 a6
    rcases stM with _ | ⟨w1, _ | ⟨w2, stM⟩⟩
    · exact a4.elim
    · exact a4.2.elim
    · obtain ⟨⟨y, rfl, hy⟩, ⟨x, rfl, hx⟩, a4⟩ := a4
      have C := hC.1
      have hs : (stM.map fun v => v.category).sum ≤ 8 := by rw [xcats_spec a4]; exact xb_le.mp k1
      have f1 : (xrh r).1 - n0 ≤ R.cells := hF.1
      have f2 : (xrh r).2.1 - s0 ≤ R.slots := hF.2
      have g1 := h1.1
      have g2 := h1.2
      have r1 : 1 ≤ R.frames := hR.1
      have r2 : 40 ≤ R.locals := hR.2
      have e9 : (if x < y then y else x).toBitVec.toNat = cond (Nat.blt (xsg x.toBitVec.toNat) (xsg y.toBitVec.toNat)) y.toBitVec.toNat x.toBitVec.toNat := by
        have h : Nat.blt (xsg x.toBitVec.toNat) (xsg y.toBitVec.toNat) = true ↔ x < y := xp2_lt x y
        by_cases q : x < y
        · rw [if_pos q, h.mpr q]; rfl
        · rw [if_neg q]
          cases hb : Nat.blt (xsg x.toBitVec.toNat) (xsg y.toBitVec.toNat) with
          | true => exact absurd (h.mp hb) q
          | false => rfl
      refine va_mmax C.1 C.2.1 (C.2.2.1.trans a3.1.symm) C.2.2.2.1 (C.2.2.2.2 _ hl) (C.2.2.2.2 _ hst) (C.2.2.2.2 _ hini) (C.2.2.2.2 _ hcw) r1 (by omega) (by omega) (by omega) hd (h3 H locs lsM (.int (if x < y then y else x) :: stM) a1 a2 a3 ⟨⟨_, rfl, by rw [e9, hx, hy]⟩, a4⟩ a5 a6)
  · cases hr
theorem x_lminI (hR : xRm a) {index : Nat} (hl : Cond.methodLink own index Lib.MathLoose.min_long.x ∈ Ts) (hst : Cond.static Lib.MathLoose.min_long.x ∈ Ts) (hini : Cond.initialized "java/lang/Math" ∈ Ts) (hcw : Cond.code Lib.MathLoose.min_long.x Lib.MathLoose.min_long.code 4 (some .long) ∈ Ts) (hd : decode cc pc = .ok (.invokestatic index, 3)) (hk : xSK Ts NW MT cc own a (pc + 3) k) : xSK Ts NW MT cc own a pc (X_lmin k) := by
  intro E ls st h r hr
  unfold X_lmin at hr
  split at hr
  · rename_i b c st'
    obtain ⟨k1, hr⟩ := x_c1 hr
    have hr := xcond_k (f := fun z => .inr (.inl z)) hr
    obtain ⟨h1, h2⟩ := hk E ls _ h r hr
    refine ⟨h1, fun hC hE hF hT => ?_⟩
    have h3 := h2 hC hE hF hT
    obtain ⟨p, l, e, R, s, m, args, below, meth, c', Q, G, nL, n0, s0, tyf⟩ := a
    intro H locs lsM stM a1 a2 a3 a4 a5 a6
    rcases stM with _ | ⟨w1, _ | ⟨w2, stM⟩⟩
    · exact a4.elim
    · exact a4.2.elim
    · obtain ⟨⟨y, rfl, hy⟩, ⟨x, rfl, hx⟩, a4⟩ := a4
      have C := hC.1
      have hs : (stM.map fun v => v.category).sum ≤ 8 := by rw [xcats_spec a4]; exact xb_le.mp k1
      have f1 : (xrh r).1 - n0 ≤ R.cells := hF.1
      have f2 : (xrh r).2.1 - s0 ≤ R.slots := hF.2
      have g1 := h1.1
      have g2 := h1.2
      have r1 : 1 ≤ R.frames := hR.1
      have r2 : 40 ≤ R.locals := hR.2
      refine va_mmin_long C.1 C.2.1 (C.2.2.1.trans a3.1.symm) C.2.2.2.1 (C.2.2.2.2 _ hl) (C.2.2.2.2 _ hst) (C.2.2.2.2 _ hini) (C.2.2.2.2 _ hcw) r1 (by omega) (by omega) (by omega) hd (h3 H locs lsM (.long (if y < x then y else x) :: stM) a1 a2 a3 ⟨⟨_, rfl, by rw [xw_mmL, hx, hy]⟩, a4⟩ a5 a6)
  · cases hr
/-- the static row of no elements; the class object of rows of objects -/
theorem x_getsI {index : Nat} {ref : String} (hx : xHasE = true) (hs : ref = "java/util/ArrayList") (hl : Cond.fieldLink own index ref "DEFAULTCAPACITY_EMPTY_ELEMENTDATA" "[Ljava/lang/Object;" ∈ Ts) (hd : decode cc pc = .ok (.getstatic index, 3)) (hk : xSK Ts NW MT cc own a (pc + 3) k) : xSK Ts NW MT cc own a pc (X_push (.inr (.inr (.inl 1))) k) := by
  intro E ls st h r hr
  obtain ⟨h1, h2⟩ := hk E ls _ h r hr
  refine ⟨h1, fun hC hE hF hT => ?_⟩
  have h3 := h2 hC hE hF hT
  obtain ⟨p, l, e, R, s, m, args, below, meth, c', Q, G, nL, n0, s0, tyf⟩ := a
  intro H locs lsM stM a1 a2 a3 a4 a5 a6
  have C := hC.1
  subst hs
  exact va_gets C.1 C.2.1 (hC.2.2.2.2.2.2 hx).2.1 a2 C.2.2.2.1 (C.2.2.2.2 _ hl) (fun _ h => h) hd (h3 H locs lsM (.ref (G.1 1) :: stM) a1 a2 a3 ⟨rfl, a4⟩ a5 a6)
theorem x_ldcC {index : Nat} (hx : xHasE = true) (hl : Cond.classLink own index "[Ljava/lang/Object;" ∈ Ts) (hd : decode cc pc = .ok (.ldc index, 2)) (hk : xSK Ts NW MT cc own a (pc + 2) k) : xSK Ts NW MT cc own a pc (X_push (.inr (.inr (.inl 2))) k) := by
  intro E ls st h r hr
  obtain ⟨h1, h2⟩ := hk E ls _ h r hr
  refine ⟨h1, fun hC hE hF hT => ?_⟩
  have h3 := h2 hC hE hF hT
  obtain ⟨p, l, e, R, s, m, args, below, meth, c', Q, G, nL, n0, s0, tyf⟩ := a
  intro H locs lsM stM a1 a2 a3 a4 a5 a6
  have C := hC.1
  exact va_ldcM C.1 C.2.1 C.2.2.2.1 (C.2.2.2.2 _ hl) (hC.2.2.2.2.2.2 hx).2.2 hd (h3 H locs lsM (.ref (G.1 2) :: stM) a1 a2 a3 ⟨rfl, a4⟩ a5 a6)
end XS
