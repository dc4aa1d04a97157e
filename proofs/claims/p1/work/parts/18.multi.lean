theorem xk_zero {A v : Nat} (hv : v < 4294967296) : xwd (Nat.add (Nat.shiftLeft A 32) v) 0 = v := by
  show ((A <<< 32 + v) >>> (32 * 0)) % 4294967296 = v
  rw [Nat.shiftLeft_eq]
  show ((A * 4294967296 + v) >>> 0) % 4294967296 = v
  rw [Nat.shiftRight_zero]
  omega
theorem xk_succ {A v m : Nat} (hv : v < 4294967296) : xwd (Nat.add (Nat.shiftLeft A 32) v) (m + 1) = xwd A m := by
  show ((A <<< 32 + v) >>> (32 * (m + 1))) % 4294967296 = (A >>> (32 * m)) % 4294967296
  rw [Nat.shiftLeft_eq, Nat.shiftRight_eq_div_pow, Nat.shiftRight_eq_div_pow, Nat.mul_add, Nat.add_comm (32 * m), Nat.pow_add, ← Nat.div_div_eq_div_mul]
  congr 2
  show (A * 4294967296 + v) / 4294967296 = A
  omega
theorem xk_keys : ∀ {n key acc i : Nat}, n ≤ key → key < 4294967296 → xwd (xkeys n key acc) i = if i < n then key - n + i else xwd acc (i - n) := by
  intro n
  induction n with
  | zero => intro key acc i _ _; rfl
  | succ n ih =>
    intro key acc i h1 h2
    show xwd (xkeys n (key - 1) (Nat.add (Nat.shiftLeft acc 32) (key - 1))) i = _
    rw [ih (by omega) (by omega)]
    by_cases h : i < n
    · rw [if_pos h, if_pos (by omega)]
      omega
    · rw [if_neg h]
      by_cases e : i = n
      · subst e
        rw [if_pos (by omega), Nat.sub_self, xk_zero (by omega)]
        omega
      · rw [if_neg (by omega)]
        obtain ⟨d, rfl⟩ : ∃ d, i = n + 1 + d := ⟨i - (n + 1), by omega⟩
        rw [show n + 1 + d - n = d + 1 by omega, xk_succ (by omega), show n + 1 + d - (n + 1) = d by omega]
theorem xmk_get : ∀ {n key len : Nat} {t : XT 11} {j : Nat}, key + n ≤ 2048 → j < 2048 → xget 11 (xmk n key len t) j = if key ≤ j ∧ j < key + n then some (.inr (0, (len, (0, [])))) else xget 11 t j := by
  intro n
  induction n with
  | zero => intro key len t j _ _; rw [if_neg (by omega)]; rfl
  | succ n ih =>
    intro key len t j h1 h2
    show xget 11 (xmk n (key + 1) len (xset 11 t key (some (.inr (0, (len, (0, []))))))) j = _
    rw [ih (by omega) h2]
    by_cases h : key + 1 ≤ j ∧ j < key + 1 + n
    · rw [if_pos h, if_pos (by omega)]
    · rw [if_neg h]
      by_cases e : key = j
      · subst e
        rw [xget_same, if_pos (by omega)]
      · rw [xget_ne 11 t key j _ (by show key < 2048; omega) (by show j < 2048; omega) e, if_neg (by omega)]
theorem xm_outer (c : ClassId) (N h0 : Nat) : ∀ i : Nat, Jvm.Free.Multi.outerC c N h0 i = arrV c N (fun j => if j < i then .ref (h0 + 1 + j) else .null)
  | 0 => by
    show ({ cls := c, slots := Array.replicate N .null, vm := .none } : Cell) = _
    rw [arrV_new]
    rfl
  | i + 1 => by
    show (Jvm.Free.Multi.outerC c N h0 i).setSlot i (.ref (h0 + 1 + i)) = _
    rw [xm_outer c N h0 i, arrV_store]
    refine congrArg (arrV c N) (funext fun j => ?_)
    unfold updV
    by_cases e : j = i
    · subst e
      rw [if_pos rfl, if_pos (by omega)]
    · rw [if_neg e]
      show (if j < i then Value.ref (h0 + 1 + j) else Value.null) = _
      by_cases h : j < i
      · rw [if_pos h, if_pos (by omega)]
      · rw [if_neg h, if_neg (by omega)]
section XS
variable {Ts NW : List Cond} {MT : Nat → XM} {cc : ByteArray} {own : String} {a : XA} {pc : Nat} {k : XK}
theorem x_multiI {tc : Nat} (t0 : xTf a 0 = .int) (t3 : xTf a tc = .array .int) (h3c : 10 ≤ tc) {index : Nat} {nm : String} (hnm : "[" ++ (FieldType.array .int).toString = nm) (hl : Cond.classLink own index nm ∈ Ts) (hac : Cond.arrayClass .int ∈ Ts) (hov : Cond.arrayOver (.array .int) ∈ NW)
    (hd : decode cc pc = .ok (.multianewarray index 2, 4)) (hk : xSK Ts NW MT cc own a (pc + 4) k) : xSK Ts NW MT cc own a pc (X_multi tc k) := by
  intro E ls st h r hr
  unfold X_multi at hr
  split at hr
  · rename_i b n st'
    obtain ⟨k1, hr⟩ := x_c1 hr
    obtain ⟨k2, hr⟩ := x_c1 hr
    obtain ⟨h1, h2⟩ := hk E ls _ _ r hr
    have k1 : h.1 + (1 + n) ≤ 2048 := xb_le.mp k1
    have k2 : b ≤ 4000000 := xb_le.mp k2
    have l1 : h.1 + (1 + n) ≤ (xrh r).1 := h1.1
    have l2 : h.2.1 + (n + n * b) ≤ (xrh r).2.1 := h1.2
    refine ⟨⟨by omega, by omega⟩, fun hC hE hF hT => ?_⟩
    have h3 := h2 hC hE hF hT
    obtain ⟨p, l, e, R, s, m, args, below, meth, c, Q, G, nL, n0, s0, tyf⟩ := a
    have t0 : tyf 0 = .int := t0
    have t3 : tyf tc = .array .int := t3
    intro H locs lsM stM a1 a2 a3 a4 a5 a6
    rcases stM with _ | ⟨w1, _ | ⟨w0, stM⟩⟩
    · exact a4.elim
    · exact a4.2.elim
    · obtain ⟨⟨xb, rfl, eb⟩, ⟨xn, rfl, en⟩, a4⟩ := a4
      obtain ⟨y1, y2⟩ := xi_cl xb eb (by omega)
      obtain ⟨y3, y4⟩ := xi_cl xn en (by omega)
      have C := hC.1
      have f1 : (xrh r).1 - n0 ≤ R.cells := hF.1
      have f2 : (xrh r).2.1 - s0 ≤ R.slots := hF.2
      intro T hT X
      obtain ⟨vm₁, cA, comp, -, fA, fC, hO, hI, X', step⟩ := X.multianewarray2F C.1 C.2.2.2.1 (ty := .int) (index := index) (by rw [hnm]; exact C.2.2.2.2 _ hl) (hC.2.2.2.1 _ hov) (C.2.2.2.2 _ hac) (g := F0 m pc lsM (.int xb :: .int xn :: stM)) rfl (by rw [C.2.1]; exact hd) (n := xn) (k := xb) rfl y3 y1 (by omega) (by show xb.toNatClampNeg * 4 ≤ _; omega) (by omega) rfl rfl (by omega) (by rw [y4, y2]; omega)
      rw [y4, y2] at X' step
      generalize hFl : Jvm.Free.Multi.fill (T.setVm vm₁) cA comp n b (defaultValue .int) n = F at X' step
      have hTh : (T.setVm vm₁).heap = H := hT
      obtain ⟨g1, g2, -, -⟩ := Jvm.Free.Multi.fill_facts (T.setVm vm₁) cA comp n b (defaultValue .int) n
      rw [hFl, hTh] at g1 g2
      have hold : ∀ x : Nat, x < H.size → F.heap[x]? = H[x]? := fun x hx => by
        have := Jvm.Free.Multi.fill_old (T.setVm vm₁) cA comp n b (defaultValue .int) (a := x) (by rw [hTh]; exact hx) n
        rw [hFl, hTh] at this
        exact this
      have hrow : ∀ j : Nat, j < n → F.heap[H.size + 1 + j]? = some (arrV comp b (fun _ => .int 0)) := fun j hj => by
        have := Jvm.Free.Multi.fill_inner (T.setVm vm₁) cA comp n b (defaultValue .int) n j hj
        rw [hFl, hTh] at this
        rw [this, ← arrV_new]
        rfl
      rw [xm_outer] at g2
      have eG : ∀ j, G.1 (h.1 + j) = H.size + j := a1.1
      have hm := a1.2.2.1
      have hHR : xHR tyf G s (Nat.add h.1 (Nat.add 1 n), (Nat.add h.2.1 (Nat.add n (Nat.mul n b)), xmk n (Nat.add h.1 1) b (xset 11 h.2.2 h.1 (some (.inr (tc, (n, (xkeys n (Nat.add h.1 (Nat.add 1 n)) 0, [])))))))) F.heap := by
        refine ⟨fun j => ?_, by show 4 ≤ h.1 + (1 + n); have := a1.2.1; omega, k1, fun q q1 q2 => ?_⟩
        · show G.1 (h.1 + (1 + n) + j) = _
          rw [Nat.add_assoc, eG, g1]
          omega
        · have q2 : q < h.1 + (1 + n) := q2
          show xcell tyf G s (xget 11 (xmk n (h.1 + 1) b _) q) (G.1 q) F.heap
          rw [xmk_get (by omega) (by omega)]
          by_cases hq : h.1 + 1 ≤ q ∧ q < h.1 + 1 + n
          · rw [if_pos hq]
            obtain ⟨d, rfl⟩ : ∃ d, q = h.1 + 1 + d := ⟨q - (h.1 + 1), by omega⟩
            rw [Nat.add_assoc, eG, ← Nat.add_assoc]
            refine ⟨comp, fun _ => .int 0, hrow d (by omega), ?_, ?_, k2, fun i hi => ⟨0, rfl, ?_⟩⟩
            · show ArrOfT s comp (tyf 0)
              rw [t0]
              exact fun N z => (hI N .null).1
            · show va_RA s comp (tyf 0)
              rw [t0]
              exact fC
            · show _ = Nat.mod (Nat.shiftRight 0 (Nat.mul 32 i)) 4294967296
              have : Nat.shiftRight 0 (Nat.mul 32 i) = 0 := Nat.zero_shiftRight _
              rw [this]
              rfl
          · rw [if_neg hq]
            by_cases e : h.1 = q
            · subst e
              rw [xget_same]
              have e0 : G.1 h.1 = H.size := eG 0
              rw [e0]
              refine ⟨cA, _, g2, ?_, ?_, by show n ≤ 4000000; omega, fun i hi => ?_⟩
              · show ArrOfT s cA (tyf tc)
                rw [t3]
                exact fun N z => (hO N 0 0).1
              · show va_RA s cA (tyf tc)
                rw [t3]
                exact fA
              · have hi : i < n := hi
                show xrel G (xelem tc (xkeys n (h.1 + (1 + n)) 0) [] i) _
                have er : xelem tc (xkeys n (h.1 + (1 + n)) 0) [] i = .inr (.inr (.inl (xwd (xkeys n (h.1 + (1 + n)) 0) i))) := xelt_r h3c
                rw [er, xk_keys (by omega) (by omega), if_pos hi, if_pos hi]
                show _ = (if h.1 + (1 + n) - n + i = 0 then Value.null else .ref (G.1 (h.1 + (1 + n) - n + i)))
                rw [if_neg (by omega), show h.1 + (1 + n) - n + i = h.1 + (1 + i) by omega, eG, Nat.add_assoc]
            · rw [xget_ne 11 h.2.2 h.1 q _ (by show h.1 < 2048; omega) (by show q < 2048; omega) e]
              have hk := a1.2.2.2 q q1 (by omega)
              cases hx : xget 11 h.2.2 q with
              | none => trivial
              | some o =>
                rw [hx] at hk
                exact xcell_kept hk (hold _ (xcell_lt hk))
      have ec : h.1 - n0 + 1 + n = Nat.add h.1 (Nat.add 1 n) - n0 := by show _ = h.1 + (1 + n) - n0; omega
      have es : h.2.1 - s0 + n + n * b = Nat.add h.2.1 (Nat.add n (Nat.mul n b)) - s0 := by show _ = h.2.1 + (n + n * b) - s0; omega
      rw [ec, es] at X'
      have eT : T.heap.size = G.1 h.1 := by rw [hT]; exact (eG 0).symm
      rw [eT] at step
      have hz : (if h.1 = 0 then Value.null else Value.ref (G.1 h.1)) = .ref (G.1 h.1) := if_neg (by have := a1.2.1; omega)
      obtain ⟨t, b1, b2⟩ := h3 F.heap locs lsM (.ref (G.1 h.1) :: stM) hHR (xS_add a2 (by rw [g1]; omega) hold) a3 ⟨hz.symm, a4⟩ (by show n0 ≤ h.1 + (1 + n); omega) (by show s0 ≤ h.2.1 + (n + n * b); omega) F rfl X'
      exact ⟨t, step t b1, b2⟩
  · cases hr
theorem x_getCI (hR : xRm a) (hx : xHasE = true) {tc : Nat} (t3 : xTf a tc = .object "java/lang/Object") {index : Nat} (hl : Cond.methodLink own index ⟨"java/lang/Object", "getClass", "()Ljava/lang/Class;"⟩ ∈ Ts) (hde : Cond.declares ⟨"java/lang/Object", "getClass", "()Ljava/lang/Class;"⟩ ∈ NW)
    (hse : Cond.selects "[Ljava/lang/Object;" ⟨"java/lang/Object", "getClass", "()Ljava/lang/Class;"⟩ ⟨"java/lang/Object", "getClass", "()Ljava/lang/Class;"⟩ ∈ Ts) (hin : Cond.instanceMethod ⟨"java/lang/Object", "getClass", "()Ljava/lang/Class;"⟩ ∈ Ts) (hnat : Cond.native ⟨"java/lang/Object", "getClass", "()Ljava/lang/Class;"⟩ ∈ Ts)
    (hd : decode cc pc = .ok (.invokevirtual index, 3)) (hk : xSK Ts NW MT cc own a (pc + 3) k) : xSK Ts NW MT cc own a pc (X_getC tc k) := by
  intro E ls st h r hr
  unfold X_getC at hr
  split at hr
  · rename_i ad st'
    split at hr
    · rename_i o hxo
      obtain ⟨k1, hr⟩ := x_c1 hr
      obtain ⟨k8, hr⟩ := x_c1 hr
      obtain ⟨h1, h2⟩ := hk E ls _ _ r hr
      refine ⟨h1, fun hC hE hF hT => ?_⟩
      have h3 := h2 hC hE hF hT
      obtain ⟨x1, x2, x3⟩ := xat_spec hxo
      obtain ⟨p, l, e, R, s, m, args, below, meth, c, Q, G, nL, n0, s0, tyf⟩ := a
      intro H locs lsM stM a1 a2 a3 a4 a5 a6
      rcases stM with _ | ⟨w0, stM⟩
      · exact a4.elim
      · have e0 : w0 = (if ad = 0 then Value.null else .ref (G.1 ad)) := a4.1
        rw [if_neg (by omega)] at e0
        subst e0
        have hc := a1.2.2.2 ad x1 x2
        rw [x3] at hc
        obtain ⟨cA, g, c1, c2, c3, c4, c5⟩ := hc
        have k1 := xb_eq.mp k1
        have c3 : va_RA s cA (tyf o.1) := c3
        rw [k1, show tyf tc = .object "java/lang/Object" from t3] at c3
        have hnm := va_nmO c3 (nm := "[Ljava/lang/Object;") rfl
        have C := hC.1
        have hs : (stM.map fun v => v.category).sum ≤ 8 := by rw [xcats_spec a4.2]; exact xb_le.mp k8
        have r1 : 1 ≤ R.frames := hR.1
        have r2 : 40 ≤ R.locals := hR.2
        exact va_getC C.1 C.2.1 (C.2.2.1.trans a3.1.symm) C.2.2.2.1 (C.2.2.2.2 _ hl) (va_Nw.use rfl (hC.2.2.2.1 _ hde)) (C.2.2.2.2 _ hse) (C.2.2.2.2 _ hin) (C.2.2.2.2 _ hnat) (hC.2.2.2.2.2.2 hx).2.2 ⟨_, c1, rfl, hnm⟩ r1 (by omega) hd (h3 H locs lsM (.ref (G.1 2) :: stM) a1 a2 a3 ⟨rfl, a4.2⟩ a5 a6)
    · cases hr
  · cases hr
end XS
