def xP (Ts : List Cond) (own : String) (nL : Nat) (cc : ByteArray) (pc : Nat) (ls : Array Slot) (st : List Value) (pc' : Nat) (ls' : Array Slot) (st' : List Value) : Prop :=
  ∀ {p : Program} {l : Launch} {e : Env} {R : Room} {s : State} {m : MethodId} {args : Array Value} {below : List Frame} {meth : Method} {c : Code} {H : Heap} {locs : List Loc} {cells slots : Nat} {Q : State → Prop}, CallFix p m c cc nL s args Ts own → 1 ≤ R.frames → 40 ≤ R.locals →
    W p l e R s m args below meth c H locs cells slots Q (F0 m pc' ls' st') → W p l e R s m args below meth c H locs cells slots Q (F0 m pc ls st)
def xRm (a : XA) : Prop := match a with
  | (_, _, _, R, _, _, _, _, _, _, _, _, _, _, _, _) => 1 ≤ R.frames ∧ 40 ≤ R.locals
theorem xLe_rf (h : XH) : xLe h h := ⟨Nat.le_refl _, Nat.le_refl _⟩
section XS
variable {Ts NW : List Cond} {MT : Nat → XM} {cc : ByteArray} {own : String} {a : XA} {pc : Nat} {k : XK}
theorem x_step (hR : xRm a) {K : XK} (hst : ∀ E ls st h r, K E ls st h = some r → ∃ pc' ls' st', ((∃ k, xSK Ts NW MT cc own a pc' k ∧ k E ls' st' h = some r) ∨ r = .inl (pc', (ls', (st', h)))) ∧
      (xEok E (xG a) → xGok (xG a) → ∀ lsM stM, xLR (xG a) (xNL a) ls lsM → xSR (xG a) st stM → ∃ lsM' stM', xLR (xG a) (xNL a) ls' lsM' ∧ xSR (xG a) st' stM' ∧ xP Ts own (xNL a) cc pc lsM stM pc' lsM' stM')) : xSK Ts NW MT cc own a pc K := by
  intro E ls st h r hr
  obtain ⟨pc', ls', st', hres, hrow⟩ := hst E ls st h r hr
  have key : xCx Ts NW cc own a → xEok E (xG a) → xGo a pc' ls' st' h → xGo a pc ls st h := by
    intro hC hE hgo
    obtain ⟨p, l, e, R, s, m, args, below, meth, c, Q, G, nL, n0, s0, tyf⟩ := a
    intro H locs lsM stM a1 a2 a3 a4 a5 a6
    obtain ⟨lsM', stM', b1, b2, b3⟩ := hrow hE hC.2.2.2.2.1 lsM stM a3 a4
    exact b3 hC.1 hR.1 hR.2 (hgo H locs lsM' stM' a1 a2 b1 b2 a5 a6)
  rcases hres with ⟨k, hk, hkr⟩ | rfl
  · obtain ⟨h1, h2⟩ := hk E ls' st' h r hkr
    exact ⟨h1, fun hC hE hF hT => key hC hE (h2 hC hE hF hT)⟩
  · exact ⟨xLe_rf h, fun hC hE _ hT => key hC hE hT⟩
/-- a leader without an instruction of its own -/
theorem x_fall : xSK Ts NW MT cc own a pc (X_jump pc) := by
  intro E ls st h r hr
  cases hr
  exact ⟨xLe_rf h, fun _ _ _ hT => hT⟩
theorem x_goto (hR : xRm a) {off : Int} {t : Nat} (hd : decode cc pc = .ok (.goto off, 3)) (ht : (pc : Int) + off = (t : Int)) : xSK Ts NW MT cc own a pc (X_jump t) :=
  x_step hR fun E ls st h r hr => ⟨t, ls, st, Or.inr (Option.some.inj hr).symm, fun _ _ lsM stM h1 h2 => ⟨lsM, stM, h1, h2, fun C _ _ k => lv_goto C.1 C.2.1 hd ht k⟩⟩
/-- loads -/
theorem xnrm_rel {E : XE} {G : XG} {v : XV} {w : Value} (hE : xEok E G) (hr : xrel G v w) : xrel G (xnrm E v) w := by
  rcases v with k | k | k | k | k | k | k
  · exact hr
  · exact hr
  · exact hr
  · show xrel G (match xcon E (.inr (.inr (.inr (.inl k)))) with
      | some n => .inl n
      | none => .inr (.inr (.inr (.inl k)))) w
    cases hc : xcon E (.inr (.inr (.inr (.inl k)))) with
    | none => exact hr
    | some n => exact xcon_spec hE hc hr
  · exact hr
  · exact hr
  · exact hr
theorem x_ld (hR : xRm a) {kd : XV → Bool} {i n : Nat} (row : ∀ (v : XV) (w : Value), kd v = true → xrel (xG a) v w → ∀ lsM stM, lsM[i]? = some (.val w) → xP Ts own (xNL a) cc pc lsM stM (pc + n) lsM (w :: stM))
    (hk : xSK Ts NW MT cc own a (pc + n) k) : xSK Ts NW MT cc own a pc (X_load kd i k) :=
  x_step hR fun E ls st h r hr => by
    unfold X_load at hr
    cases hg : xlget ls i with
    | none => rw [hg] at hr; cases hr
    | some v =>
      rw [hg] at hr
      obtain ⟨h1, h2⟩ := x_cond hr rfl
      refine ⟨pc + n, ls, xnrm E v :: st, Or.inl ⟨k, hk, h2⟩, fun hE _ lsM stM b1 b2 => ?_⟩
      obtain ⟨w, hw, hrel⟩ := b1.2.2 i v hg
      exact ⟨lsM, w :: stM, b1, ⟨xnrm_rel hE hrel, b2⟩, row v w h1 hrel lsM stM hw⟩
theorem x_iload (hR : xRm a) {i : Nat} (hd : decode cc pc = .ok (.iload i, 2)) (hk : xSK Ts NW MT cc own a (pc + 2) k) : xSK Ts NW MT cc own a pc (X_load xkI i k) :=
  x_ld hR (fun v w hv hr lsM stM hw => by obtain ⟨x, rfl⟩ := xkI_spec hv hr; exact fun C _ _ kk => lv_iload C.1 C.2.1 hd hw kk) hk
theorem x_iload_n (hR : xRm a) {f : Fin 4} (hd : decode cc pc = .ok (.iload_n f, 1)) (hk : xSK Ts NW MT cc own a (pc + 1) k) : xSK Ts NW MT cc own a pc (X_load xkI f.val k) :=
  x_ld hR (fun v w hv hr lsM stM hw => by obtain ⟨x, rfl⟩ := xkI_spec hv hr; exact fun C _ _ kk => lv_iload_n C.1 C.2.1 hd rfl hw kk) hk
theorem x_lload (hR : xRm a) {i : Nat} (hd : decode cc pc = .ok (.lload i, 2)) (hk : xSK Ts NW MT cc own a (pc + 2) k) : xSK Ts NW MT cc own a pc (X_load xkL i k) :=
  x_ld hR (fun v w hv hr lsM stM hw => by obtain ⟨x, rfl⟩ := xkL_spec hv hr; exact fun C _ _ kk => lv_lload C.1 C.2.1 hd hw kk) hk
theorem x_lload_n (hR : xRm a) {f : Fin 4} (hd : decode cc pc = .ok (.lload_n f, 1)) (hk : xSK Ts NW MT cc own a (pc + 1) k) : xSK Ts NW MT cc own a pc (X_load xkL f.val k) :=
  x_ld hR (fun v w hv hr lsM stM hw => by obtain ⟨x, rfl⟩ := xkL_spec hv hr; exact fun C _ _ kk => lv_lload_n C.1 C.2.1 hd rfl hw kk) hk
theorem xw_aload {i : Nat} (hd : decode cc pc = .ok (.aload i, 2)) {w : Value} (hw : w = .null ∨ ∃ x, w = .ref x) {nL : Nat} {lsM : Array Slot} {stM : List Value} (hl : lsM[i]? = some (.val w)) : xP Ts own nL cc pc lsM stM (pc + 2) lsM (w :: stM) := by
  intro p l e R s m args below meth c H locs cells slots Q C _ _ kk
  rcases hw with rfl | ⟨x, rfl⟩
  · intro T hT X
    obtain ⟨t, a1, b1⟩ := kk T hT X
    refine ⟨t, ?_, b1⟩
    jvm_step X.here [X.here.top, C.1, C.2.1, hd, hl, Value.isRef]
    exact a1
  · exact lv_aload C.1 C.2.1 hd hl kk
theorem xw_aload_n {f : Fin 4} (hd : decode cc pc = .ok (.aload_n f, 1)) {w : Value} (hw : w = .null ∨ ∃ x, w = .ref x) {nL : Nat} {lsM : Array Slot} {stM : List Value} (hl : lsM[f.val]? = some (.val w)) : xP Ts own nL cc pc lsM stM (pc + 1) lsM (w :: stM) := by
  intro p l e R s m args below meth c H locs cells slots Q C _ _ kk
  rcases hw with rfl | ⟨x, rfl⟩
  · intro T hT X
    obtain ⟨t, a1, b1⟩ := kk T hT X
    refine ⟨t, ?_, b1⟩
    jvm_step X.here [X.here.top, C.1, C.2.1, hd, hl, Value.isRef]
    exact a1
  · exact lv_aload_n C.1 C.2.1 hd rfl hl kk
theorem x_aload (hR : xRm a) {i : Nat} (hd : decode cc pc = .ok (.aload i, 2)) (hk : xSK Ts NW MT cc own a (pc + 2) k) : xSK Ts NW MT cc own a pc (X_load xkR i k) :=
  x_ld hR (fun v w hv hr lsM stM hw => xw_aload hd (xkR_spec hv hr) hw) hk
theorem x_aload_n (hR : xRm a) {f : Fin 4} (hd : decode cc pc = .ok (.aload_n f, 1)) (hk : xSK Ts NW MT cc own a (pc + 1) k) : xSK Ts NW MT cc own a pc (X_load xkR f.val k) :=
  x_ld hR (fun v w hv hr lsM stM hw => xw_aload_n hd (xkR_spec hv hr) hw) hk
/-- constants -/
theorem x_ps (hR : xRm a) {v : XV} {n : Nat} {w : Value} (hw : xrel (xG a) v w) (row : ∀ lsM stM, xP Ts own (xNL a) cc pc lsM stM (pc + n) lsM (w :: stM)) (hk : xSK Ts NW MT cc own a (pc + n) k) : xSK Ts NW MT cc own a pc (X_push v k) :=
  x_step hR fun E ls st h r hr => ⟨pc + n, ls, v :: st, Or.inl ⟨k, hk, hr⟩, fun _ _ lsM stM b1 b2 => ⟨lsM, w :: stM, b1, ⟨hw, b2⟩, row lsM stM⟩⟩
theorem x_iconst (hR : xRm a) {n : Int} {v : Nat} (hd : decode cc pc = .ok (.iconst n, 1)) (hv : (Int32.ofInt n).toBitVec.toNat = v) (hk : xSK Ts NW MT cc own a (pc + 1) k) : xSK Ts NW MT cc own a pc (X_push (.inl v) k) :=
  x_ps hR (w := .int (Int32.ofInt n)) ⟨_, rfl, hv⟩ (fun _ _ => fun C _ _ kk => lv_iconst C.1 C.2.1 hd rfl kk) hk
theorem x_bipush (hR : xRm a) {n : Int} {v : Nat} (hd : decode cc pc = .ok (.bipush n, 2)) (hv : ((Int8.ofInt n).toInt32).toBitVec.toNat = v) (hk : xSK Ts NW MT cc own a (pc + 2) k) : xSK Ts NW MT cc own a pc (X_push (.inl v) k) :=
  x_ps hR (w := .int (Int8.ofInt n).toInt32) ⟨_, rfl, hv⟩ (fun _ _ => fun C _ _ kk => lv_bipush C.1 C.2.1 hd rfl kk) hk
theorem x_sipush (hR : xRm a) {n : Int} {v : Nat} (hd : decode cc pc = .ok (.sipush n, 3)) (hv : ((Int16.ofInt n).toInt32).toBitVec.toNat = v) (hk : xSK Ts NW MT cc own a (pc + 3) k) : xSK Ts NW MT cc own a pc (X_push (.inl v) k) :=
  x_ps hR (w := .int (Int16.ofInt n).toInt32) ⟨_, rfl, hv⟩ (fun _ _ => fun C _ _ kk => lv_sipush C.1 C.2.1 hd rfl kk) hk
theorem x_lconst (hR : xRm a) {n : Fin 2} {v : Nat} (hd : decode cc pc = .ok (.lconst n, 1)) (hv : (Int64.ofNat (n : Nat)).toBitVec.toNat = v) (hk : xSK Ts NW MT cc own a (pc + 1) k) : xSK Ts NW MT cc own a pc (X_push (.inr (.inl v)) k) :=
  x_ps hR (w := .long (Int64.ofNat (n : Nat))) ⟨_, rfl, hv⟩ (fun _ _ => fun C _ _ kk => lv_lconst C.1 C.2.1 hd rfl kk) hk
theorem x_null (hR : xRm a) (hd : decode cc pc = .ok (.aconst_null, 1)) (hk : xSK Ts NW MT cc own a (pc + 1) k) : xSK Ts NW MT cc own a pc (X_push (.inr (.inr (.inl 0))) k) :=
  x_ps hR (w := .null) rfl (fun _ _ => fun C _ _ kk => lv_null C.1 C.2.1 hd kk) hk
theorem x_ldc (hR : xRm a) {i : Nat} {z : Int32} {v : Nat} (hd : decode cc pc = .ok (.ldc i, 2)) (hw : Cond.constant own i z ∈ Ts) (hv : z.toBitVec.toNat = v) (hk : xSK Ts NW MT cc own a (pc + 2) k) : xSK Ts NW MT cc own a pc (X_push (.inl v) k) :=
  x_ps hR (w := .int z) ⟨_, rfl, hv⟩ (fun _ _ => fun C _ _ kk => lv_ldc C.1 C.2.1 C.2.2.2.1 (C.2.2.2.2 _ hw) hd kk) hk
theorem x_ldcw (hR : xRm a) {i : Nat} {z : Int32} {v : Nat} (hd : decode cc pc = .ok (.ldc_w i, 3)) (hw : Cond.constant own i z ∈ Ts) (hv : z.toBitVec.toNat = v) (hk : xSK Ts NW MT cc own a (pc + 3) k) : xSK Ts NW MT cc own a pc (X_push (.inl v) k) :=
  x_ps hR (w := .int z) ⟨_, rfl, hv⟩ (fun _ _ => fun C _ _ kk => lv_ldcw C.1 C.2.1 C.2.2.2.1 (C.2.2.2.2 _ hw) hd kk) hk
theorem x_ldc2 (hR : xRm a) {i : Nat} {z : Int64} {v : Nat} (hd : decode cc pc = .ok (.ldc2_w i, 3)) (hw : Cond.constantLong own i z ∈ Ts) (hv : z.toBitVec.toNat = v) (hk : xSK Ts NW MT cc own a (pc + 3) k) : xSK Ts NW MT cc own a pc (X_push (.inr (.inl v)) k) :=
  x_ps hR (w := .long z) ⟨_, rfl, hv⟩ (fun _ _ => fun C _ _ kk => lv_ldc2 C.1 C.2.1 C.2.2.2.1 (C.2.2.2.2 _ hw) hd kk) hk
/-- two ints to one -/
theorem x_ib (hR : xRm a) {f : Nat → Nat → Nat} {g : XE → XV → XV → Option XV} {op : Int32 → Int32 → Int32} (hf : ∀ x y : Int32, (op x y).toBitVec.toNat = f x.toBitVec.toNat y.toBitVec.toNat) (hg : xGi g op) (row : ∀ x y lsM stM, xP Ts own (xNL a) cc pc lsM (.int y :: .int x :: stM) (pc + 1) lsM (.int (op x y) :: stM))
    (hk : xSK Ts NW MT cc own a (pc + 1) k) : xSK Ts NW MT cc own a pc (X_ibin f g k) :=
  x_step hR fun E ls st h r hr => by
    unfold X_ibin at hr
    split at hr
    · rename_i b c st'
      refine ⟨pc + 1, ls, .inl (f c b) :: st', Or.inl ⟨k, hk, hr⟩, fun _ _ lsM stM b1 b2 => ?_⟩
      rcases stM with _ | ⟨w1, _ | ⟨w2, stM⟩⟩
      · exact b2.elim
      · exact b2.2.elim
      · obtain ⟨⟨y, rfl, hy⟩, ⟨x, rfl, hx⟩, b3⟩ := b2
        exact ⟨lsM, .int (op x y) :: stM, b1, ⟨⟨_, rfl, by rw [hf, hx, hy]⟩, b3⟩, row x y lsM stM⟩
    · rename_i w v st' _
      obtain ⟨k1, hr⟩ := x_c1 hr
      obtain ⟨k2, hr⟩ := x_c1 hr
      split at hr
      · rename_i u hu
        refine ⟨pc + 1, ls, u :: st', Or.inl ⟨k, hk, hr⟩, fun hE _ lsM stM b1 b2 => ?_⟩
        rcases stM with _ | ⟨w1, _ | ⟨w2, stM⟩⟩
        · exact b2.elim
        · exact b2.2.elim
        · obtain ⟨hy, hx, b3⟩ := b2
          obtain ⟨y, rfl⟩ := xkI_spec k1 hy
          obtain ⟨x, rfl⟩ := xkI_spec k2 hx
          exact ⟨lsM, .int (op x y) :: stM, b1, ⟨hg E _ v w u x y hE hu hx hy, b3⟩, row x y lsM stM⟩
      · cases hr
    · cases hr
theorem x_lb (hR : xRm a) {f : Nat → Nat → Nat} {g : XE → XV → XV → Option XV} {op : Int64 → Int64 → Int64} (hf : ∀ x y : Int64, (op x y).toBitVec.toNat = f x.toBitVec.toNat y.toBitVec.toNat) (hg : xGl g op) (row : ∀ x y lsM stM, xP Ts own (xNL a) cc pc lsM (.long y :: .long x :: stM) (pc + 1) lsM (.long (op x y) :: stM))
    (hk : xSK Ts NW MT cc own a (pc + 1) k) : xSK Ts NW MT cc own a pc (X_lbin f g k) :=
  x_step hR fun E ls st h r hr => by
    unfold X_lbin at hr
    split at hr
    · rename_i b c st'
      refine ⟨pc + 1, ls, .inr (.inl (f c b)) :: st', Or.inl ⟨k, hk, hr⟩, fun _ _ lsM stM b1 b2 => ?_⟩
      rcases stM with _ | ⟨w1, _ | ⟨w2, stM⟩⟩
      · exact b2.elim
      · exact b2.2.elim
      · obtain ⟨⟨y, rfl, hy⟩, ⟨x, rfl, hx⟩, b3⟩ := b2
        exact ⟨lsM, .long (op x y) :: stM, b1, ⟨⟨_, rfl, by rw [hf, hx, hy]⟩, b3⟩, row x y lsM stM⟩
    · rename_i w v st' _
      obtain ⟨k1, hr⟩ := x_c1 hr
      obtain ⟨k2, hr⟩ := x_c1 hr
      split at hr
      · rename_i u hu
        refine ⟨pc + 1, ls, u :: st', Or.inl ⟨k, hk, hr⟩, fun hE _ lsM stM b1 b2 => ?_⟩
        rcases stM with _ | ⟨w1, _ | ⟨w2, stM⟩⟩
        · exact b2.elim
        · exact b2.2.elim
        · obtain ⟨hy, hx, b3⟩ := b2
          obtain ⟨y, rfl⟩ := xkL_spec k1 hy
          obtain ⟨x, rfl⟩ := xkL_spec k2 hx
          exact ⟨lsM, .long (op x y) :: stM, b1, ⟨hg E _ v w u x y hE hu hx hy, b3⟩, row x y lsM stM⟩
      · cases hr
    · cases hr
theorem x_ls (hR : xRm a) {f : Nat → Nat → Nat} {g : XE → XV → XV → Option XV} {op : Int64 → Int32 → Int64} (hf : ∀ (x : Int64) (y : Int32), (op x y).toBitVec.toNat = f x.toBitVec.toNat y.toBitVec.toNat) (hg : xGs g op) (row : ∀ x y lsM stM, xP Ts own (xNL a) cc pc lsM (.int y :: .long x :: stM) (pc + 1) lsM (.long (op x y) :: stM))
    (hk : xSK Ts NW MT cc own a (pc + 1) k) : xSK Ts NW MT cc own a pc (X_lsh f g k) :=
  x_step hR fun E ls st h r hr => by
    unfold X_lsh at hr
    split at hr
    · rename_i b c st'
      refine ⟨pc + 1, ls, .inr (.inl (f c b)) :: st', Or.inl ⟨k, hk, hr⟩, fun _ _ lsM stM b1 b2 => ?_⟩
      rcases stM with _ | ⟨w1, _ | ⟨w2, stM⟩⟩
      · exact b2.elim
      · exact b2.2.elim
      · obtain ⟨⟨y, rfl, hy⟩, ⟨x, rfl, hx⟩, b3⟩ := b2
        exact ⟨lsM, .long (op x y) :: stM, b1, ⟨⟨_, rfl, by rw [hf, hx, hy]⟩, b3⟩, row x y lsM stM⟩
    · rename_i w v st' _
      obtain ⟨k1, hr⟩ := x_c1 hr
      obtain ⟨k2, hr⟩ := x_c1 hr
      split at hr
      · rename_i u hu
        refine ⟨pc + 1, ls, u :: st', Or.inl ⟨k, hk, hr⟩, fun hE _ lsM stM b1 b2 => ?_⟩
        rcases stM with _ | ⟨w1, _ | ⟨w2, stM⟩⟩
        · exact b2.elim
        · exact b2.2.elim
        · obtain ⟨hy, hx, b3⟩ := b2
          obtain ⟨y, rfl⟩ := xkI_spec k1 hy
          obtain ⟨x, rfl⟩ := xkL_spec k2 hx
          exact ⟨lsM, .long (op x y) :: stM, b1, ⟨hg E _ v w u x y hE hu hx hy, b3⟩, row x y lsM stM⟩
      · cases hr
    · cases hr
theorem x_add (hR : xRm a) (hd : decode cc pc = .ok (.iadd, 1)) (hk : xSK Ts NW MT cc own a (pc + 1) k) : xSK Ts NW MT cc own a pc (X_ibin x_iadd xg_add k) := x_ib hR xn_add xg_add_ok (fun _ _ _ _ => fun C _ _ kk => lv_iadd C.1 C.2.1 hd kk) hk
theorem x_sub (hR : xRm a) (hd : decode cc pc = .ok (.isub, 1)) (hk : xSK Ts NW MT cc own a (pc + 1) k) : xSK Ts NW MT cc own a pc (X_ibin x_isub xg_sub k) := x_ib hR xn_sub xg_sub_ok (fun _ _ _ _ => fun C _ _ kk => lv_isub C.1 C.2.1 hd kk) hk
theorem x_mul (hR : xRm a) (hd : decode cc pc = .ok (.imul, 1)) (hk : xSK Ts NW MT cc own a (pc + 1) k) : xSK Ts NW MT cc own a pc (X_ibin x_imul (xg0 x_imul) k) := x_ib hR xn_mul (xg0_ok xn_mul) (fun _ _ _ _ => fun C _ _ kk => lv_imul C.1 C.2.1 hd kk) hk
theorem x_and (hR : xRm a) (hd : decode cc pc = .ok (.iand, 1)) (hk : xSK Ts NW MT cc own a (pc + 1) k) : xSK Ts NW MT cc own a pc (X_ibin Nat.land xg_and k) := x_ib hR xn_and xg_and_ok (fun _ _ _ _ => fun C _ _ kk => lv_iand C.1 C.2.1 hd kk) hk
theorem x_or (hR : xRm a) (hd : decode cc pc = .ok (.ior, 1)) (hk : xSK Ts NW MT cc own a (pc + 1) k) : xSK Ts NW MT cc own a pc (X_ibin Nat.lor xg_or k) := x_ib hR xn_or xg_or_ok (fun _ _ _ _ => fun C _ _ kk => lv_ior C.1 C.2.1 hd kk) hk
theorem x_xor (hR : xRm a) (hd : decode cc pc = .ok (.ixor, 1)) (hk : xSK Ts NW MT cc own a (pc + 1) k) : xSK Ts NW MT cc own a pc (X_ibin Nat.xor (xg0 Nat.xor) k) := x_ib hR xn_xor (xg0_ok xn_xor) (fun _ _ _ _ => fun C _ _ kk => lv_ixor C.1 C.2.1 hd kk) hk
theorem x_shl (hR : xRm a) (hd : decode cc pc = .ok (.ishl, 1)) (hk : xSK Ts NW MT cc own a (pc + 1) k) : xSK Ts NW MT cc own a pc (X_ibin x_ishl xg_shl k) := x_ib hR xn_shl xg_shl_ok (fun _ _ _ _ => fun C _ _ kk => lv_ishl C.1 C.2.1 hd kk) hk
theorem x_shr (hR : xRm a) (hd : decode cc pc = .ok (.ishr, 1)) (hk : xSK Ts NW MT cc own a (pc + 1) k) : xSK Ts NW MT cc own a pc (X_ibin x_ishr (xg0 x_ishr) k) := x_ib hR xn_shr (xg0_ok xn_shr) (fun _ _ _ _ => fun C _ _ kk => lv_ishr C.1 C.2.1 hd kk) hk
theorem x_ushr (hR : xRm a) (hd : decode cc pc = .ok (.iushr, 1)) (hk : xSK Ts NW MT cc own a (pc + 1) k) : xSK Ts NW MT cc own a pc (X_ibin x_iushr (xg0 x_iushr) k) := x_ib hR xn_ushr (xg0_ok xn_ushr) (fun _ _ _ _ => fun C _ _ kk => lv_iushr C.1 C.2.1 hd rfl kk) hk
theorem x_laddI (hR : xRm a) (hd : decode cc pc = .ok (.ladd, 1)) (hk : xSK Ts NW MT cc own a (pc + 1) k) : xSK Ts NW MT cc own a pc (X_lbin x_ladd xgn k) := x_lb hR xnL_add xgn_l (fun _ _ _ _ => fun C _ _ kk => lv_ladd C.1 C.2.1 hd kk) hk
theorem x_lsubI (hR : xRm a) (hd : decode cc pc = .ok (.lsub, 1)) (hk : xSK Ts NW MT cc own a (pc + 1) k) : xSK Ts NW MT cc own a pc (X_lbin x_lsub xgn k) := x_lb hR xnL_sub xgn_l (fun _ _ _ _ => fun C _ _ kk => lv_lsub C.1 C.2.1 hd kk) hk
theorem x_lmulI (hR : xRm a) (hd : decode cc pc = .ok (.lmul, 1)) (hk : xSK Ts NW MT cc own a (pc + 1) k) : xSK Ts NW MT cc own a pc (X_lbin x_lmul xgn k) := x_lb hR xnL_mul xgn_l (fun _ _ _ _ => fun C _ _ kk => lv_lmul C.1 C.2.1 hd kk) hk
theorem x_landI (hR : xRm a) (hd : decode cc pc = .ok (.land, 1)) (hk : xSK Ts NW MT cc own a (pc + 1) k) : xSK Ts NW MT cc own a pc (X_lbin Nat.land xgL_and k) := x_lb hR xnL_and xgL_and_ok (fun _ _ _ _ => fun C _ _ kk => lv_land C.1 C.2.1 hd kk) hk
theorem x_lorI (hR : xRm a) (hd : decode cc pc = .ok (.lor, 1)) (hk : xSK Ts NW MT cc own a (pc + 1) k) : xSK Ts NW MT cc own a pc (X_lbin Nat.lor xgL_or k) := x_lb hR xnL_or xgL_or_ok (fun _ _ _ _ => fun C _ _ kk => lv_lor C.1 C.2.1 hd kk) hk
theorem x_lshlI (hR : xRm a) (hd : decode cc pc = .ok (.lshl, 1)) (hk : xSK Ts NW MT cc own a (pc + 1) k) : xSK Ts NW MT cc own a pc (X_lsh x_lshl xgL_shl k) := x_ls hR xnL_shl xgL_shl_ok (fun _ _ _ _ => fun C _ _ kk => lv_lshl C.1 C.2.1 hd rfl kk) hk
theorem x_lshrI (hR : xRm a) (hd : decode cc pc = .ok (.lshr, 1)) (hk : xSK Ts NW MT cc own a (pc + 1) k) : xSK Ts NW MT cc own a pc (X_lsh x_lshr xgL_shr k) := x_ls hR xnL_shr xgL_shr_ok (fun _ _ _ _ => fun C _ _ kk => lv_lshr C.1 C.2.1 hd rfl kk) hk
theorem x_lushrI (hR : xRm a) (hd : decode cc pc = .ok (.lushr, 1)) (hk : xSK Ts NW MT cc own a (pc + 1) k) : xSK Ts NW MT cc own a pc (X_lsh x_lushr xgn k) := x_ls hR xnL_ushr xgn_s (fun _ _ _ _ => fun C _ _ kk => lv_lushr C.1 C.2.1 hd rfl kk) hk
/-- one value to one -/
theorem x_un (hR : xRm a) {K : XK} {n : Nat} (hK : ∀ E ls st h r, K E ls st h = some r → ∃ v st' u, st = v :: st' ∧ k E ls (u :: st') h = some r ∧ (xEok E (xG a) → ∀ w, xrel (xG a) v w → ∃ z, xrel (xG a) u z ∧ ∀ lsM stM, xP Ts own (xNL a) cc pc lsM (w :: stM) (pc + n) lsM (z :: stM)))
    (hk : xSK Ts NW MT cc own a (pc + n) k) : xSK Ts NW MT cc own a pc K :=
  x_step hR fun E ls st h r hr => by
    obtain ⟨v, st', u, rfl, h1, h2⟩ := hK E ls st h r hr
    refine ⟨pc + n, ls, u :: st', Or.inl ⟨k, hk, h1⟩, fun hE _ lsM stM b1 b2 => ?_⟩
    rcases stM with _ | ⟨w, stM⟩
    · exact b2.elim
    · obtain ⟨z, hz, hp⟩ := h2 hE w b2.1
      exact ⟨lsM, z :: stM, b1, ⟨hz, b2.2⟩, hp lsM stM⟩
theorem x_i2lI (hR : xRm a) (hd : decode cc pc = .ok (.i2l, 1)) (hk : xSK Ts NW MT cc own a (pc + 1) k) : xSK Ts NW MT cc own a pc (X_i2l k) :=
  x_un hR (fun E ls st h r hr => by
    unfold X_i2l at hr
    split at hr
    · rename_i c st'
      refine ⟨_, st', .inr (.inl (cond (Nat.blt c 2147483648) c (Nat.add c 18446744069414584320))), rfl, ?_, fun _ w hw => ?_⟩
      · cases hb : Nat.blt c 2147483648 <;> (rw [hb] at hr; exact hr)
      · obtain ⟨x, rfl, hx⟩ := hw
        exact ⟨.long x.toInt64, ⟨_, rfl, by rw [xn_i2l, hx]⟩, fun _ _ => fun C _ _ kk => lv_i2l C.1 C.2.1 hd rfl kk⟩
    · rename_i q st'
      refine ⟨_, st', _, rfl, hr, fun _ w hw => ?_⟩
      obtain ⟨x, rfl, hx⟩ := hw
      exact ⟨.long x.toInt64, ⟨_, rfl, by rw [Int32.toInt_toInt64]; exact hx⟩, fun _ _ => fun C _ _ kk => lv_i2l C.1 C.2.1 hd rfl kk⟩
    · rename_i q st'
      obtain ⟨k1, hr⟩ := x_c1 hr
      obtain ⟨k2, hr⟩ := x_c1 hr
      have k1 := xb_lt.mp k1
      have k2 := xb_lt.mp k2
      refine ⟨_, st', _, rfl, hr, fun _ w hw => ?_⟩
      obtain ⟨x, rfl, hx⟩ := hw
      refine ⟨.long x.toInt64, ⟨_, rfl, fun i hi hm => ?_⟩, fun _ _ => fun C _ _ kk => lv_i2l C.1 C.2.1 hd rfl kk⟩
      have b31 : ∀ z : Nat, z < 2147483648 → ∀ j, 31 ≤ j → z.testBit j = false := fun z hz j hj =>
        Nat.testBit_lt_two_pow (Nat.lt_of_lt_of_le hz (by rw [show (2147483648 : Nat) = 2 ^ 31 from rfl]; exact Nat.pow_le_pow_right (by decide) hj))
      have hlt : x.toBitVec.toNat < 2147483648 := by
        have h31 : x.toBitVec.toNat.testBit 31 = false := by
          have := hx 31 (by decide) (b31 _ k1 31 (Nat.le_refl _))
          rw [BitVec.getLsbD] at this
          rw [this]
          exact b31 _ k2 31 (Nat.le_refl _)
        have h32 := xn_lt x
        rcases Nat.lt_or_ge x.toBitVec.toNat 2147483648 with q2 | q2
        · exact q2
        · have : x.toBitVec.toNat.testBit 31 = true := by
            have e : x.toBitVec.toNat = 2 ^ 31 * 1 + (x.toBitVec.toNat - 2147483648) := by omega
            rw [e, Nat.testBit_two_pow_mul_add _ (by omega)]
            simp
          rw [this] at h31
          cases h31
      have e : x.toInt64.toBitVec.toNat = x.toBitVec.toNat := by
        rw [xn_i2l, xb_lt.mpr hlt]; rfl
      rw [BitVec.getLsbD, e]
      by_cases q3 : i < 32
      · have := hx i q3 hm
        rwa [BitVec.getLsbD] at this
      · rw [b31 _ hlt i (by omega), b31 _ k2 i (by omega)]
    · cases hr) hk
theorem x_l2iI (hR : xRm a) (hd : decode cc pc = .ok (.l2i, 1)) (hk : xSK Ts NW MT cc own a (pc + 1) k) : xSK Ts NW MT cc own a pc (X_l2i k) :=
  x_un hR (fun E ls st h r hr => by
    unfold X_l2i at hr
    split at hr
    · rename_i c st'
      refine ⟨_, st', _, rfl, hr, fun _ w hw => ?_⟩
      obtain ⟨x, rfl, hx⟩ := hw
      exact ⟨.int x.toInt32, ⟨_, rfl, by rw [xn_l2i, hx]⟩, fun _ _ => fun C _ _ kk => lv_l2i C.1 C.2.1 hd rfl kk⟩
    · rename_i q st'
      refine ⟨_, st', _, rfl, hr, fun _ w hw => ?_⟩
      obtain ⟨x, rfl, hx⟩ := hw
      refine ⟨.int x.toInt32, xmI_rel fun i hi hm => ?_, fun _ _ => fun C _ _ kk => lv_l2i C.1 C.2.1 hd rfl kk⟩
      have hm : (q.1 % 2 ^ 32).testBit i = false := hm
      rw [Nat.testBit_mod_two_pow] at hm
      have := hx i (by omega) (by simpa [hi] using hm)
      rw [BitVec.getLsbD] at this ⊢
      rw [xn_l2i]
      show (x.toBitVec.toNat % 2 ^ 32).testBit i = (q.2 % 2 ^ 32).testBit i
      rw [Nat.testBit_mod_two_pow, Nat.testBit_mod_two_pow, this]
    · cases hr) hk
theorem x_negI (hR : xRm a) (hd : decode cc pc = .ok (.ineg, 1)) (hk : xSK Ts NW MT cc own a (pc + 1) k) : xSK Ts NW MT cc own a pc (X_ineg k) :=
  x_un hR (fun E ls st h r hr => by
    unfold X_ineg at hr
    split at hr
    · rename_i c st'
      refine ⟨_, st', _, rfl, hr, fun _ w hw => ?_⟩
      obtain ⟨x, rfl, hx⟩ := hw
      exact ⟨.int (-x), ⟨_, rfl, by rw [xn_neg, hx]⟩, fun _ _ => fun C _ _ kk => lv_ineg C.1 C.2.1 hd kk⟩
    · cases hr) hk
theorem xne0 {y : Int32} (h : 1 ≤ y.toBitVec.toNat) : ¬ y = 0 := fun e => by rw [e] at h; exact absurd h (by decide)
theorem xneL0 {y : Int64} (h : 1 ≤ y.toBitVec.toNat) : ¬ y = 0 := fun e => by rw [e] at h; exact absurd h (by decide)
theorem x_iremI (hR : xRm a) (hd : decode cc pc = .ok (.irem, 1)) (hk : xSK Ts NW MT cc own a (pc + 1) k) : xSK Ts NW MT cc own a pc (X_irem k) :=
  x_step hR fun E ls st h r hr => by
    unfold X_irem at hr
    split at hr
    · rename_i b c st'
      obtain ⟨k1, hr⟩ := x_c1 hr
      obtain ⟨k2, hr⟩ := x_c1 hr
      obtain ⟨k3, hr⟩ := x_c1 hr
      refine ⟨pc + 1, ls, _, Or.inl ⟨k, hk, hr⟩, fun _ _ lsM stM b1 b2 => ?_⟩
      rcases stM with _ | ⟨w1, _ | ⟨w2, stM⟩⟩
      · exact b2.elim
      · exact b2.2.elim
      · obtain ⟨⟨y, rfl, hy⟩, ⟨x, rfl, hx⟩, b3⟩ := b2
        subst hy; subst hx
        exact ⟨lsM, .int (x - x / y * y) :: stM, b1, ⟨⟨_, rfl, (xn_rem x y (xb_lt.mp k1) (xb_lt.mp k2) (xb_le.mp k3)).1⟩, b3⟩, fun C _ _ kk => lv_irem C.1 C.2.1 hd (xne0 (xb_le.mp k3)) kk⟩
    · cases hr
theorem x_idivI (hR : xRm a) (hd : decode cc pc = .ok (.idiv, 1)) (hk : xSK Ts NW MT cc own a (pc + 1) k) : xSK Ts NW MT cc own a pc (X_idiv k) :=
  x_step hR fun E ls st h r hr => by
    unfold X_idiv at hr
    split at hr
    · rename_i b c st'
      obtain ⟨k1, hr⟩ := x_c1 hr
      obtain ⟨k2, hr⟩ := x_c1 hr
      obtain ⟨k3, hr⟩ := x_c1 hr
      refine ⟨pc + 1, ls, _, Or.inl ⟨k, hk, hr⟩, fun _ _ lsM stM b1 b2 => ?_⟩
      rcases stM with _ | ⟨w1, _ | ⟨w2, stM⟩⟩
      · exact b2.elim
      · exact b2.2.elim
      · obtain ⟨⟨y, rfl, hy⟩, ⟨x, rfl, hx⟩, b3⟩ := b2
        subst hy; subst hx
        exact ⟨lsM, .int (x / y) :: stM, b1, ⟨⟨_, rfl, (xn_rem x y (xb_lt.mp k1) (xb_lt.mp k2) (xb_le.mp k3)).2⟩, b3⟩, fun C _ _ kk => lv_idiv C.1 C.2.1 hd (xne0 (xb_le.mp k3)) kk⟩
    · cases hr
theorem x_lremI (hR : xRm a) (hd : decode cc pc = .ok (.lrem, 1)) (hk : xSK Ts NW MT cc own a (pc + 1) k) : xSK Ts NW MT cc own a pc (X_lrem k) :=
  x_step hR fun E ls st h r hr => by
    unfold X_lrem at hr
    split at hr
    · rename_i b c st'
      obtain ⟨k1, hr⟩ := x_c1 hr
      obtain ⟨k2, hr⟩ := x_c1 hr
      obtain ⟨k3, hr⟩ := x_c1 hr
      refine ⟨pc + 1, ls, _, Or.inl ⟨k, hk, hr⟩, fun _ _ lsM stM b1 b2 => ?_⟩
      rcases stM with _ | ⟨w1, _ | ⟨w2, stM⟩⟩
      · exact b2.elim
      · exact b2.2.elim
      · obtain ⟨⟨y, rfl, hy⟩, ⟨x, rfl, hx⟩, b3⟩ := b2
        subst hy; subst hx
        exact ⟨lsM, .long (x - x / y * y) :: stM, b1, ⟨⟨_, rfl, (xnL_rem x y (xb_lt.mp k1) (xb_lt.mp k2) (xb_le.mp k3)).1⟩, b3⟩, fun C _ _ kk => lv_lrem C.1 C.2.1 hd (xneL0 (xb_le.mp k3)) kk⟩
    · cases hr
/-- the stack alone -/
theorem x_dupI (hR : xRm a) (hd : decode cc pc = .ok (.dup, 1)) (hk : xSK Ts NW MT cc own a (pc + 1) k) : xSK Ts NW MT cc own a pc (X_dup k) :=
  x_step hR fun E ls st h r hr => by
    unfold X_dup at hr
    split at hr
    · rename_i v st'
      obtain ⟨k1, hr⟩ := x_c0 hr
      refine ⟨pc + 1, ls, _, Or.inl ⟨k, hk, hr⟩, fun _ _ lsM stM b1 b2 => ?_⟩
      rcases stM with _ | ⟨w, stM⟩
      · exact b2.elim
      · exact ⟨lsM, w :: w :: stM, b1, ⟨b2.1, b2.1, b2.2⟩, fun C _ _ kk => lv_dup C.1 C.2.1 hd (xkL_not k1 b2.1) kk⟩
    · cases hr
theorem x_dupx1I (hR : xRm a) (hd : decode cc pc = .ok (.dup_x1, 1)) (hk : xSK Ts NW MT cc own a (pc + 1) k) : xSK Ts NW MT cc own a pc (X_dupx1 k) :=
  x_step hR fun E ls st h r hr => by
    unfold X_dupx1 at hr
    split at hr
    · rename_i v w st'
      obtain ⟨k1, hr⟩ := x_c0 hr
      obtain ⟨k2, hr⟩ := x_c0 hr
      refine ⟨pc + 1, ls, _, Or.inl ⟨k, hk, hr⟩, fun _ _ lsM stM b1 b2 => ?_⟩
      rcases stM with _ | ⟨w1, _ | ⟨w2, stM⟩⟩
      · exact b2.elim
      · exact b2.2.elim
      · exact ⟨lsM, w1 :: w2 :: w1 :: stM, b1, ⟨b2.1, b2.2.1, b2.1, b2.2.2⟩, fun C _ _ kk => lv_dup_x1 C.1 C.2.1 hd (xkL_not k1 b2.1) (xkL_not k2 b2.2.1) kk⟩
    · cases hr
theorem x_dup2I (hR : xRm a) (hd : decode cc pc = .ok (.dup2, 1)) (hk : xSK Ts NW MT cc own a (pc + 1) k) : xSK Ts NW MT cc own a pc (X_dup2 k) :=
  x_step hR fun E ls st h r hr => by
    unfold X_dup2 at hr
    split at hr
    · rename_i v w st'
      obtain ⟨k1, hr⟩ := x_c0 hr
      obtain ⟨k2, hr⟩ := x_c0 hr
      refine ⟨pc + 1, ls, _, Or.inl ⟨k, hk, hr⟩, fun _ _ lsM stM b1 b2 => ?_⟩
      rcases stM with _ | ⟨w1, _ | ⟨w2, stM⟩⟩
      · exact b2.elim
      · exact b2.2.elim
      · exact ⟨lsM, w1 :: w2 :: w1 :: w2 :: stM, b1, ⟨b2.1, b2.2.1, b2.1, b2.2.1, b2.2.2⟩, fun C _ _ kk => lv_dup2_11 C.1 C.2.1 hd (xkL_not k1 b2.1) (xkL_not k2 b2.2.1) kk⟩
    · cases hr
theorem x_popI (hR : xRm a) (hd : decode cc pc = .ok (.pop, 1)) (hk : xSK Ts NW MT cc own a (pc + 1) k) : xSK Ts NW MT cc own a pc (X_pop k) :=
  x_step hR fun E ls st h r hr => by
    unfold X_pop at hr
    split at hr
    · rename_i v st'
      obtain ⟨k1, hr⟩ := x_c0 hr
      refine ⟨pc + 1, ls, _, Or.inl ⟨k, hk, hr⟩, fun _ _ lsM stM b1 b2 => ?_⟩
      rcases stM with _ | ⟨w, stM⟩
      · exact b2.elim
      · exact ⟨lsM, stM, b1, b2.2, fun C _ _ kk => lv_pop C.1 C.2.1 hd (xkL_not k1 b2.1) kk⟩
    · cases hr
end XS
