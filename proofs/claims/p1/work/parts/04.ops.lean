def xP (Ts : List Cond) (own : String) (nL : Nat) (cc : ByteArray) (pc : Nat) (ls : Array Slot) (st : List Value) (pc' : Nat) (ls' : Array Slot) (st' : List Value) : Prop :=
  ∀ {p : Program} {l : Launch} {e : Env} {R : Room} {s : State} {m : MethodId} {args : Array Value} {below : List Frame} {meth : Method} {c : Code} {H : Heap} {locs : List Loc} {cells slots : Nat} {Q : State → Prop}, CallFix p m c cc nL s args Ts own → 1 ≤ R.frames → 40 ≤ R.locals →
    W p l e R s m args below meth c H locs cells slots Q (F0 m pc' ls' st') → W p l e R s m args below meth c H locs cells slots Q (F0 m pc ls st)
def xRm (a : XA) : Prop := match a with
  | (_, _, _, R, _, _, _, _, _, _, _, _, _, _, _, _) => 1 ≤ R.frames ∧ 40 ≤ R.locals
theorem xLe_rf (h : XH) : xLe h h := ⟨Nat.le_refl _, Nat.le_refl _⟩
section XS
variable {Ts NW : List Cond} {MT : Nat → XM} {cc : ByteArray} {own : String} {a : XA} {pc : Nat} {k : XK}
theorem x_step (hR : xRm a) {K : XK} (hst : ∀ E ls st h r, K E ls st h = some r → ∃ pc' ls' st', ((∃ k, xSK Ts NW MT cc own a pc' k ∧ k E ls' st' h = some r) ∨ r = .inl (pc', (ls', (st', h)))) ∧
      ∀ lsM stM, xLR (xG a) (xNL a) ls lsM → xSR (xG a) st stM → ∃ lsM' stM', xLR (xG a) (xNL a) ls' lsM' ∧ xSR (xG a) st' stM' ∧ xP Ts own (xNL a) cc pc lsM stM pc' lsM' stM') : xSK Ts NW MT cc own a pc K := by
  intro E ls st h r hr
  obtain ⟨pc', ls', st', hres, hrow⟩ := hst E ls st h r hr
  have key : xCx Ts NW cc own a → xGo a pc' ls' st' h → xGo a pc ls st h := by
    intro hC hgo
    obtain ⟨p, l, e, R, s, m, args, below, meth, c, Q, G, nL, n0, s0, tyf⟩ := a
    intro H locs lsM stM a1 a2 a3 a4 a5 a6
    obtain ⟨lsM', stM', b1, b2, b3⟩ := hrow lsM stM a3 a4
    exact b3 hC.1 hR.1 hR.2 (hgo H locs lsM' stM' a1 a2 b1 b2 a5 a6)
  rcases hres with ⟨k, hk, hkr⟩ | rfl
  · obtain ⟨h1, h2⟩ := hk E ls' st' h r hkr
    exact ⟨h1, fun hC hE hF hT => key hC (h2 hC hE hF hT)⟩
  · exact ⟨xLe_rf h, fun hC _ _ hT => key hC hT⟩
/-- a leader without an instruction of its own -/
theorem x_fall : xSK Ts NW MT cc own a pc (X_jump pc) := by
  intro E ls st h r hr
  cases hr
  exact ⟨xLe_rf h, fun _ _ _ hT => hT⟩
theorem x_goto (hR : xRm a) {off : Int} {t : Nat} (hd : decode cc pc = .ok (.goto off, 3)) (ht : (pc : Int) + off = (t : Int)) : xSK Ts NW MT cc own a pc (X_jump t) :=
  x_step hR fun E ls st h r hr => ⟨t, ls, st, Or.inr (Option.some.inj hr).symm, fun lsM stM h1 h2 => ⟨lsM, stM, h1, h2, fun C _ _ k => lv_goto C.1 C.2.1 hd ht k⟩⟩
/-- loads -/
theorem x_ld (hR : xRm a) {kd : XV → Bool} {i n : Nat} (row : ∀ (v : XV) (w : Value), kd v = true → xrel (xG a) v w → ∀ lsM stM, lsM[i]? = some (.val w) → xP Ts own (xNL a) cc pc lsM stM (pc + n) lsM (w :: stM))
    (hk : xSK Ts NW MT cc own a (pc + n) k) : xSK Ts NW MT cc own a pc (X_load kd i k) :=
  x_step hR fun E ls st h r hr => by
    unfold X_load at hr
    cases hg : xlget ls i with
    | none => rw [hg] at hr; cases hr
    | some v =>
      rw [hg] at hr
      obtain ⟨h1, h2⟩ := x_cond hr rfl
      refine ⟨pc + n, ls, v :: st, Or.inl ⟨k, hk, h2⟩, fun lsM stM b1 b2 => ?_⟩
      obtain ⟨w, hw, hrel⟩ := b1.2.2 i v hg
      exact ⟨lsM, w :: stM, b1, ⟨hrel, b2⟩, row v w h1 hrel lsM stM hw⟩
theorem x_iload (hR : xRm a) {i : Nat} (hd : decode cc pc = .ok (.iload i, 2)) (hk : xSK Ts NW MT cc own a (pc + 2) k) : xSK Ts NW MT cc own a pc (X_load xkI i k) :=
  x_ld hR (fun v w hv hr lsM stM hw => by obtain ⟨x, rfl⟩ := xkI_spec hv hr; exact fun C _ _ kk => lv_iload C.1 C.2.1 hd hw kk) hk
theorem x_iload_n (hR : xRm a) {f : Fin 4} (hd : decode cc pc = .ok (.iload_n f, 1)) (hk : xSK Ts NW MT cc own a (pc + 1) k) : xSK Ts NW MT cc own a pc (X_load xkI f.val k) :=
  x_ld hR (fun v w hv hr lsM stM hw => by obtain ⟨x, rfl⟩ := xkI_spec hv hr; exact fun C _ _ kk => lv_iload_n C.1 C.2.1 hd rfl hw kk) hk
theorem x_lload (hR : xRm a) {i : Nat} (hd : decode cc pc = .ok (.lload i, 2)) (hk : xSK Ts NW MT cc own a (pc + 2) k) : xSK Ts NW MT cc own a pc (X_load xkL i k) :=
  x_ld hR (fun v w hv hr lsM stM hw => by obtain ⟨x, rfl⟩ := xkL_spec hv hr; exact fun C _ _ kk => lv_lload C.1 C.2.1 hd hw kk) hk
theorem x_lload_n (hR : xRm a) {f : Fin 4} (hd : decode cc pc = .ok (.lload_n f, 1)) (hk : xSK Ts NW MT cc own a (pc + 1) k) : xSK Ts NW MT cc own a pc (X_load xkL f.val k) :=
  x_ld hR (fun v w hv hr lsM stM hw => by obtain ⟨x, rfl⟩ := xkL_spec hv hr; exact fun C _ _ kk => lv_lload_n C.1 C.2.1 hd rfl hw kk) hk
theorem xw_aload {i : Nat} (hd : decode cc pc = .ok (.aload i, 2)) {w : Value} (hw : w = .null ∨ ∃ x, w = .ref x) {nL : Nat} {lsM : Array Slot} {stM : List Value} (hl : lsM[i]? = some (.val w)) : xP Ts own nL cc pc lsM stM (pc + 2) lsM (w :: stM) := by
  intro p l e R s m args below meth c H locs cells slots Q C _ _ kk
  rcases hw with rfl | ⟨x, rfl⟩
  · intro T hT X
    obtain ⟨t, a1, b1⟩ := kk T hT X
    refine ⟨t, ?_, b1⟩
    jvm_step X.here [X.here.top, C.1, C.2.1, hd, hl, Value.isRef]
    exact a1
  · exact lv_aload C.1 C.2.1 hd hl kk
theorem xw_aload_n {f : Fin 4} (hd : decode cc pc = .ok (.aload_n f, 1)) {w : Value} (hw : w = .null ∨ ∃ x, w = .ref x) {nL : Nat} {lsM : Array Slot} {stM : List Value} (hl : lsM[f.val]? = some (.val w)) : xP Ts own nL cc pc lsM stM (pc + 1) lsM (w :: stM) := by
  intro p l e R s m args below meth c H locs cells slots Q C _ _ kk
  rcases hw with rfl | ⟨x, rfl⟩
  · intro T hT X
    obtain ⟨t, a1, b1⟩ := kk T hT X
    refine ⟨t, ?_, b1⟩
    jvm_step X.here [X.here.top, C.1, C.2.1, hd, hl, Value.isRef]
    exact a1
  · exact lv_aload_n C.1 C.2.1 hd rfl hl kk
theorem x_aload (hR : xRm a) {i : Nat} (hd : decode cc pc = .ok (.aload i, 2)) (hk : xSK Ts NW MT cc own a (pc + 2) k) : xSK Ts NW MT cc own a pc (X_load xkR i k) :=
  x_ld hR (fun v w hv hr lsM stM hw => xw_aload hd (xkR_spec hv hr) hw) hk
theorem x_aload_n (hR : xRm a) {f : Fin 4} (hd : decode cc pc = .ok (.aload_n f, 1)) (hk : xSK Ts NW MT cc own a (pc + 1) k) : xSK Ts NW MT cc own a pc (X_load xkR f.val k) :=
  x_ld hR (fun v w hv hr lsM stM hw => xw_aload_n hd (xkR_spec hv hr) hw) hk
/-- constants -/
theorem x_ps (hR : xRm a) {v : XV} {n : Nat} {w : Value} (hw : xrel (xG a) v w) (row : ∀ lsM stM, xP Ts own (xNL a) cc pc lsM stM (pc + n) lsM (w :: stM)) (hk : xSK Ts NW MT cc own a (pc + n) k) : xSK Ts NW MT cc own a pc (X_push v k) :=
  x_step hR fun E ls st h r hr => ⟨pc + n, ls, v :: st, Or.inl ⟨k, hk, hr⟩, fun lsM stM b1 b2 => ⟨lsM, w :: stM, b1, ⟨hw, b2⟩, row lsM stM⟩⟩
theorem x_iconst (hR : xRm a) {n : Int} {v : Nat} (hd : decode cc pc = .ok (.iconst n, 1)) (hv : (Int32.ofInt n).toBitVec.toNat = v) (hk : xSK Ts NW MT cc own a (pc + 1) k) : xSK Ts NW MT cc own a pc (X_push (.inl v) k) :=
  x_ps hR (w := .int (Int32.ofInt n)) ⟨_, rfl, hv⟩ (fun _ _ => fun C _ _ kk => lv_iconst C.1 C.2.1 hd rfl kk) hk
theorem x_bipush (hR : xRm a) {n : Int} {v : Nat} (hd : decode cc pc = .ok (.bipush n, 2)) (hv : ((Int8.ofInt n).toInt32).toBitVec.toNat = v) (hk : xSK Ts NW MT cc own a (pc + 2) k) : xSK Ts NW MT cc own a pc (X_push (.inl v) k) :=
  x_ps hR (w := .int (Int8.ofInt n).toInt32) ⟨_, rfl, hv⟩ (fun _ _ => fun C _ _ kk => lv_bipush C.1 C.2.1 hd rfl kk) hk
theorem x_sipush (hR : xRm a) {n : Int} {v : Nat} (hd : decode cc pc = .ok (.sipush n, 3)) (hv : ((Int16.ofInt n).toInt32).toBitVec.toNat = v) (hk : xSK Ts NW MT cc own a (pc + 3) k) : xSK Ts NW MT cc own a pc (X_push (.inl v) k) :=
  x_ps hR (w := .int (Int16.ofInt n).toInt32) ⟨_, rfl, hv⟩ (fun _ _ => fun C _ _ kk => lv_sipush C.1 C.2.1 hd rfl kk) hk
theorem x_lconst (hR : xRm a) {n : Fin 2} {v : Nat} (hd : decode cc pc = .ok (.lconst n, 1)) (hv : (Int64.ofNat (n : Nat)).toBitVec.toNat = v) (hk : xSK Ts NW MT cc own a (pc + 1) k) : xSK Ts NW MT cc own a pc (X_push (.inr (.inl v)) k) :=
  x_ps hR (w := .long (Int64.ofNat (n : Nat))) ⟨_, rfl, hv⟩ (fun _ _ => fun C _ _ kk => lv_lconst C.1 C.2.1 hd rfl kk) hk
theorem x_null (hR : xRm a) (hd : decode cc pc = .ok (.aconst_null, 1)) (hk : xSK Ts NW MT cc own a (pc + 1) k) : xSK Ts NW MT cc own a pc (X_push (.inr (.inr (.inl 0))) k) :=
  x_ps hR (w := .null) rfl (fun _ _ => fun C _ _ kk => lv_null C.1 C.2.1 hd kk) hk
theorem x_ldc (hR : xRm a) {i : Nat} {z : Int32} {v : Nat} (hd : decode cc pc = .ok (.ldc i, 2)) (hw : Cond.constant own i z ∈ Ts) (hv : z.toBitVec.toNat = v) (hk : xSK Ts NW MT cc own a (pc + 2) k) : xSK Ts NW MT cc own a pc (X_push (.inl v) k) :=
  x_ps hR (w := .int z) ⟨_, rfl, hv⟩ (fun _ _ => fun C _ _ kk => lv_ldc C.1 C.2.1 C.2.2.2.1 (C.2.2.2.2 _ hw) hd kk) hk
theorem x_ldcw (hR : xRm a) {i : Nat} {z : Int32} {v : Nat} (hd : decode cc pc = .ok (.ldc_w i, 3)) (hw : Cond.constant own i z ∈ Ts) (hv : z.toBitVec.toNat = v) (hk : xSK Ts NW MT cc own a (pc + 3) k) : xSK Ts NW MT cc own a pc (X_push (.inl v) k) :=
  x_ps hR (w := .int z) ⟨_, rfl, hv⟩ (fun _ _ => fun C _ _ kk => lv_ldcw C.1 C.2.1 C.2.2.2.1 (C.2.2.2.2 _ hw) hd kk) hk
theorem x_ldc2 (hR : xRm a) {i : Nat} {z : Int64} {v : Nat} (hd : decode cc pc = .ok (.ldc2_w i, 3)) (hw : Cond.constantLong own i z ∈ Ts) (hv : z.toBitVec.toNat = v) (hk : xSK Ts NW MT cc own a (pc + 3) k) : xSK Ts NW MT cc own a pc (X_push (.inr (.inl v)) k) :=
  x_ps hR (w := .long z) ⟨_, rfl, hv⟩ (fun _ _ => fun C _ _ kk => lv_ldc2 C.1 C.2.1 C.2.2.2.1 (C.2.2.2.2 _ hw) hd kk) hk
/-- two ints to one -/
theorem x_ib (hR : xRm a) {f : Nat → Nat → Nat} {op : Int32 → Int32 → Int32} (hf : ∀ x y : Int32, (op x y).toBitVec.toNat = f x.toBitVec.toNat y.toBitVec.toNat) (row : ∀ x y lsM stM, xP Ts own (xNL a) cc pc lsM (.int y :: .int x :: stM) (pc + 1) lsM (.int (op x y) :: stM))
    (hk : xSK Ts NW MT cc own a (pc + 1) k) : xSK Ts NW MT cc own a pc (X_ibin f k) :=
  x_step hR fun E ls st h r hr => by
    unfold X_ibin at hr
    split at hr
    · rename_i b c st'
      refine ⟨pc + 1, ls, .inl (f c b) :: st', Or.inl ⟨k, hk, hr⟩, fun lsM stM b1 b2 => ?_⟩
      rcases stM with _ | ⟨w1, _ | ⟨w2, stM⟩⟩
      · exact b2.elim
      · exact b2.2.elim
      · obtain ⟨⟨y, rfl, hy⟩, ⟨x, rfl, hx⟩, b3⟩ := b2
        exact ⟨lsM, .int (op x y) :: stM, b1, ⟨⟨_, rfl, by rw [hf, hx, hy]⟩, b3⟩, row x y lsM stM⟩
    · cases hr
theorem x_lb (hR : xRm a) {f : Nat → Nat → Nat} {op : Int64 → Int64 → Int64} (hf : ∀ x y : Int64, (op x y).toBitVec.toNat = f x.toBitVec.toNat y.toBitVec.toNat) (row : ∀ x y lsM stM, xP Ts own (xNL a) cc pc lsM (.long y :: .long x :: stM) (pc + 1) lsM (.long (op x y) :: stM))
    (hk : xSK Ts NW MT cc own a (pc + 1) k) : xSK Ts NW MT cc own a pc (X_lbin f k) :=
  x_step hR fun E ls st h r hr => by
    unfold X_lbin at hr
    split at hr
    · rename_i b c st'
      refine ⟨pc + 1, ls, .inr (.inl (f c b)) :: st', Or.inl ⟨k, hk, hr⟩, fun lsM stM b1 b2 => ?_⟩
      rcases stM with _ | ⟨w1, _ | ⟨w2, stM⟩⟩
      · exact b2.elim
      · exact b2.2.elim
      · obtain ⟨⟨y, rfl, hy⟩, ⟨x, rfl, hx⟩, b3⟩ := b2
        exact ⟨lsM, .long (op x y) :: stM, b1, ⟨⟨_, rfl, by rw [hf, hx, hy]⟩, b3⟩, row x y lsM stM⟩
    · cases hr
theorem x_ls (hR : xRm a) {f : Nat → Nat → Nat} {op : Int64 → Int32 → Int64} (hf : ∀ (x : Int64) (y : Int32), (op x y).toBitVec.toNat = f x.toBitVec.toNat y.toBitVec.toNat) (row : ∀ x y lsM stM, xP Ts own (xNL a) cc pc lsM (.int y :: .long x :: stM) (pc + 1) lsM (.long (op x y) :: stM))
    (hk : xSK Ts NW MT cc own a (pc + 1) k) : xSK Ts NW MT cc own a pc (X_lsh f k) :=
  x_step hR fun E ls st h r hr => by
    unfold X_lsh at hr
    split at hr
    · rename_i b c st'
      refine ⟨pc + 1, ls, .inr (.inl (f c b)) :: st', Or.inl ⟨k, hk, hr⟩, fun lsM stM b1 b2 => ?_⟩
      rcases stM with _ | ⟨w1, _ | ⟨w2, stM⟩⟩
      · exact b2.elim
      · exact b2.2.elim
      · obtain ⟨⟨y, rfl, hy⟩, ⟨x, rfl, hx⟩, b3⟩ := b2
        exact ⟨lsM, .long (op x y) :: stM, b1, ⟨⟨_, rfl, by rw [hf, hx, hy]⟩, b3⟩, row x y lsM stM⟩
    · cases hr
theorem x_add (hR : xRm a) (hd : decode cc pc = .ok (.iadd, 1)) (hk : xSK Ts NW MT cc own a (pc + 1) k) : xSK Ts NW MT cc own a pc (X_ibin x_iadd k) := x_ib hR xn_add (fun _ _ _ _ => fun C _ _ kk => lv_iadd C.1 C.2.1 hd kk) hk
theorem x_sub (hR : xRm a) (hd : decode cc pc = .ok (.isub, 1)) (hk : xSK Ts NW MT cc own a (pc + 1) k) : xSK Ts NW MT cc own a pc (X_ibin x_isub k) := x_ib hR xn_sub (fun _ _ _ _ => fun C _ _ kk => lv_isub C.1 C.2.1 hd kk) hk
theorem x_mul (hR : xRm a) (hd : decode cc pc = .ok (.imul, 1)) (hk : xSK Ts NW MT cc own a (pc + 1) k) : xSK Ts NW MT cc own a pc (X_ibin x_imul k) := x_ib hR xn_mul (fun _ _ _ _ => fun C _ _ kk => lv_imul C.1 C.2.1 hd kk) hk
theorem x_and (hR : xRm a) (hd : decode cc pc = .ok (.iand, 1)) (hk : xSK Ts NW MT cc own a (pc + 1) k) : xSK Ts NW MT cc own a pc (X_ibin Nat.land k) := x_ib hR xn_and (fun _ _ _ _ => fun C _ _ kk => lv_iand C.1 C.2.1 hd kk) hk
theorem x_or (hR : xRm a) (hd : decode cc pc = .ok (.ior, 1)) (hk : xSK Ts NW MT cc own a (pc + 1) k) : xSK Ts NW MT cc own a pc (X_ibin Nat.lor k) := x_ib hR xn_or (fun _ _ _ _ => fun C _ _ kk => lv_ior C.1 C.2.1 hd kk) hk
theorem x_xor (hR : xRm a) (hd : decode cc pc = .ok (.ixor, 1)) (hk : xSK Ts NW MT cc own a (pc + 1) k) : xSK Ts NW MT cc own a pc (X_ibin Nat.xor k) := x_ib hR xn_xor (fun _ _ _ _ => fun C _ _ kk => lv_ixor C.1 C.2.1 hd kk) hk
theorem x_shl (hR : xRm a) (hd : decode cc pc = .ok (.ishl, 1)) (hk : xSK Ts NW MT cc own a (pc + 1) k) : xSK Ts NW MT cc own a pc (X_ibin x_ishl k) := x_ib hR xn_shl (fun _ _ _ _ => fun C _ _ kk => lv_ishl C.1 C.2.1 hd kk) hk
theorem x_shr (hR : xRm a) (hd : decode cc pc = .ok (.ishr, 1)) (hk : xSK Ts NW MT cc own a (pc + 1) k) : xSK Ts NW MT cc own a pc (X_ibin x_ishr k) := x_ib hR xn_shr (fun _ _ _ _ => fun C _ _ kk => lv_ishr C.1 C.2.1 hd kk) hk
theorem x_ushr (hR : xRm a) (hd : decode cc pc = .ok (.iushr, 1)) (hk : xSK Ts NW MT cc own a (pc + 1) k) : xSK Ts NW MT cc own a pc (X_ibin x_iushr k) := x_ib hR xn_ushr (fun _ _ _ _ => fun C _ _ kk => lv_iushr C.1 C.2.1 hd rfl kk) hk
theorem x_laddI (hR : xRm a) (hd : decode cc pc = .ok (.ladd, 1)) (hk : xSK Ts NW MT cc own a (pc + 1) k) : xSK Ts NW MT cc own a pc (X_lbin x_ladd k) := x_lb hR xnL_add (fun _ _ _ _ => fun C _ _ kk => lv_ladd C.1 C.2.1 hd kk) hk
theorem x_lsubI (hR : xRm a) (hd : decode cc pc = .ok (.lsub, 1)) (hk : xSK Ts NW MT cc own a (pc + 1) k) : xSK Ts NW MT cc own a pc (X_lbin x_lsub k) := x_lb hR xnL_sub (fun _ _ _ _ => fun C _ _ kk => lv_lsub C.1 C.2.1 hd kk) hk
theorem x_lmulI (hR : xRm a) (hd : decode cc pc = .ok (.lmul, 1)) (hk : xSK Ts NW MT cc own a (pc + 1) k) : xSK Ts NW MT cc own a pc (X_lbin x_lmul k) := x_lb hR xnL_mul (fun _ _ _ _ => fun C _ _ kk => lv_lmul C.1 C.2.1 hd kk) hk
theorem x_land (hR : xRm a) (hd : decode cc pc = .ok (.land, 1)) (hk : xSK Ts NW MT cc own a (pc + 1) k) : xSK Ts NW MT cc own a pc (X_lbin Nat.land k) := x_lb hR xnL_and (fun _ _ _ _ => fun C _ _ kk => lv_land C.1 C.2.1 hd kk) hk
theorem x_lor (hR : xRm a) (hd : decode cc pc = .ok (.lor, 1)) (hk : xSK Ts NW MT cc own a (pc + 1) k) : xSK Ts NW MT cc own a pc (X_lbin Nat.lor k) := x_lb hR xnL_or (fun _ _ _ _ => fun C _ _ kk => lv_lor C.1 C.2.1 hd kk) hk
theorem x_lshlI (hR : xRm a) (hd : decode cc pc = .ok (.lshl, 1)) (hk : xSK Ts NW MT cc own a (pc + 1) k) : xSK Ts NW MT cc own a pc (X_lsh x_lshl k) := x_ls hR xnL_shl (fun _ _ _ _ => fun C _ _ kk => lv_lshl C.1 C.2.1 hd rfl kk) hk
theorem x_lshrI (hR : xRm a) (hd : decode cc pc = .ok (.lshr, 1)) (hk : xSK Ts NW MT cc own a (pc + 1) k) : xSK Ts NW MT cc own a pc (X_lsh x_lshr k) := x_ls hR xnL_shr (fun _ _ _ _ => fun C _ _ kk => lv_lshr C.1 C.2.1 hd rfl kk) hk
theorem x_lushrI (hR : xRm a) (hd : decode cc pc = .ok (.lushr, 1)) (hk : xSK Ts NW MT cc own a (pc + 1) k) : xSK Ts NW MT cc own a pc (X_lsh x_lushr k) := x_ls hR xnL_ushr (fun _ _ _ _ => fun C _ _ kk => lv_lushr C.1 C.2.1 hd rfl kk) hk
end XS
