theorem xveq_ok : ∀ {u v : XV}, xveq u v = true → u = v := by
  intro u v h
  rcases u with n | n | n | n | n | n | n <;> rcases v with m | m | m | m | m | m | m <;> first | (cases h; done) | (have := xb_eq.mp h; subst this; rfl)
theorem xuni_ok {tc P : Nat} {ov : List (Nat × XV)} {v : XV} : ∀ {n l : Nat}, xuni tc P ov v l n = true → ∀ j, l ≤ j → j < l + n → xelem tc P ov j = v := by
  intro n
  induction n with
  | zero => intro l _ j h1 h2; omega
  | succ n ih =>
    intro l h j h1 h2
    have h : cond (xveq (xelem tc P ov l) v) (xuni tc P ov v (l + 1) n) false = true := h
    cases hq : xveq (xelem tc P ov l) v with
    | false => rw [hq] at h; cases h
    | true =>
      rw [hq] at h
      by_cases e : j = l
      · rw [e]; exact xveq_ok hq
      · exact ih h j (by omega) (by omega)
section XS
variable {Ts NW : List Cond} {MT : Nat → XM} {cc : ByteArray} {own : String} {a : XA} {pc : Nat} {k : XK}
theorem x_aldG {kt : Nat → Bool} (row : ∀ {p : Program} {l : Launch} {e : Env} {R : Room} {s : State} {m : MethodId} {args : Array Value} {below : List Frame} {meth : Method} {c : Code} {H : Heap} {locs : List Loc} {cells slots : Nat} {Q : State → Prop} {ls : Array Slot} {rest : List Value} {ad tc n : Nat} {cA : ClassId} {g : Nat → Value} {x : Int32}, CallFix p m c cc (xNL a) s args Ts own → kt tc = true → H[ad]? = some (arrV cA n g) → ArrOfT s cA (xTf a tc) → ¬ (x < 0 ∨ (arrV cA n g).slots.size ≤ x.toNatClampNeg) → (arrV cA n g).slots[x.toNatClampNeg]? = some (g x.toNatClampNeg) →
      W p l e R s m args below meth c H locs cells slots Q (F0 m (pc + 1) ls (g x.toNatClampNeg :: rest)) → W p l e R s m args below meth c H locs cells slots Q (F0 m pc ls (.int x :: .ref ad :: rest)))
    (hk : xSK Ts NW MT cc own a (pc + 1) k) : xSK Ts NW MT cc own a pc (X_ald kt k) := by
  intro E ls st h r hr
  unfold X_ald at hr
  split at hr
  · rename_i i ad st'
    split at hr
    · rename_i o hx
      obtain ⟨k1, hr⟩ := x_c1 hr
      obtain ⟨k2, hr⟩ := x_c1 hr
      obtain ⟨h1, h2⟩ := hk E ls _ h r hr
      refine ⟨h1, fun hC hE hF hT => ?_⟩
      have h3 := h2 hC hE hF hT
      have k2 := xb_lt.mp k2
      obtain ⟨x1, x2, x3⟩ := xat_spec hx
      obtain ⟨p, l, e, R, s, m, args, below, meth, c, Q, G, nL, n0, s0, tyf⟩ := a
      intro H locs lsM stM a1 a2 a3 a4 a5 a6
      rcases stM with _ | ⟨w, _ | ⟨w0, stM⟩⟩
      · exact a4.elim
      · exact a4.2.elim
      · have e0 : w0 = (if ad = 0 then Value.null else .ref (G.1 ad)) := a4.2.1
        rw [if_neg (by omega)] at e0
        subst e0
        obtain ⟨x, rfl, hxn⟩ := a4.1
        have hc := a1.2.2.2 ad x1 x2
        rw [x3] at hc
        obtain ⟨cA, g, c1, c2, c3, c4, c5⟩ := hc
        obtain ⟨y1, y2⟩ := xi_cl x hxn (by omega)
        have hv := c5 i k2
        rw [← y2] at hv
        exact row hC.1 k1 c1 c2 (by rw [arrV_size, y2]; intro q; rcases q with q | q; exact y1 q; omega) (arrV_read _ _ (by omega)) (h3 H locs lsM (g x.toNatClampNeg :: stM) a1 a2 a3 ⟨by rw [y2] at hv ⊢; exact hv, a4.2.2⟩ a5 a6)
    · cases hr
  · rename_i v ad st' _
    split at hr
    · rename_i q o hv hx
      obtain ⟨k1, hr⟩ := x_c1 hr
      obtain ⟨k2, hr⟩ := x_c1 hr
      obtain ⟨k3, hr⟩ := x_c1 hr
      obtain ⟨k4, hr⟩ := x_c1 hr
      obtain ⟨k5, hr⟩ := x_c1 hr
      obtain ⟨h1, h2⟩ := hk E ls _ h r hr
      refine ⟨h1, fun hC hE hF hT => ?_⟩
      have h3 := h2 hC hE hF hT
      have k2 := of_decide_eq_true k2
      have k3 := of_decide_eq_true k3
      have k4 := xb_lt.mp k4
      obtain ⟨x1, x2, x3⟩ := xat_spec hx
      obtain ⟨p, l, e, R, s, m, args, below, meth, c, Q, G, nL, n0, s0, tyf⟩ := a
      intro H locs lsM stM a1 a2 a3 a4 a5 a6
      rcases stM with _ | ⟨w, _ | ⟨w0, stM⟩⟩
      · exact a4.elim
      · exact a4.2.elim
      · have e0 : w0 = (if ad = 0 then Value.null else .ref (G.1 ad)) := a4.2.1
        rw [if_neg (by omega)] at e0
        subst e0
        obtain ⟨x, rfl, l1, l2⟩ := xivI_spec hE hv a4.1
        have hc := a1.2.2.2 ad x1 x2
        rw [x3] at hc
        obtain ⟨cA, g, c1, c2, c3, c4, c5⟩ := hc
        have y1 : ¬ x < 0 := fun z => by
          rw [Int32.lt_iff_toInt_lt] at z
          have z : x.toInt < 0 := z
          omega
        have y2 : x.toNatClampNeg = x.toInt.toNat := rfl
        have hj := c5 x.toInt.toNat (by omega)
        rw [xuni_ok k5 x.toInt.toNat (by omega) (by have e9 : Nat.sub (Nat.add (Int.toNat q.2) 1) (Int.toNat q.1) = Int.toNat q.2 + 1 - Int.toNat q.1 := rfl; rw [e9]; omega)] at hj
        exact row hC.1 k1 c1 c2 (by rw [arrV_size, y2]; intro z; rcases z with z | z; exact y1 z; omega) (arrV_read _ _ (by omega)) (h3 H locs lsM (g x.toNatClampNeg :: stM) a1 a2 a3 ⟨hj, a4.2.2⟩ a5 a6)
    · cases hr
  · cases hr
theorem x_iald (ht : xTf a 0 = .int) (hd : decode cc pc = .ok (.iaload, 1)) (hk : xSK Ts NW MT cc own a (pc + 1) k) : xSK Ts NW MT cc own a pc (X_ald xt0 k) :=
  x_aldG (fun C0 hkt hc ha hin hv kk => by
    have e := xb_eq.mp hkt
    subst e
    rw [ht] at ha
    exact W.iald C0.1 C0.2.1 hc (ha _ _) (fun q => by cases q) hin hv rfl rfl hd kk) hk
theorem x_lald (ht : xTf a 1 = .long) (hd : decode cc pc = .ok (.laload, 1)) (hk : xSK Ts NW MT cc own a (pc + 1) k) : xSK Ts NW MT cc own a pc (X_ald xt1 k) :=
  x_aldG (fun C0 hkt hc ha hin hv kk => by
    have e := xb_eq.mp hkt
    subst e
    rw [ht] at ha
    exact W.lald C0.1 C0.2.1 hc (ha _ _) (fun q => by cases q) hin hv rfl rfl hd kk) hk
theorem x_zald (ht : xTf a 2 = .boolean) (hd : decode cc pc = .ok (.baload, 1)) (hk : xSK Ts NW MT cc own a (pc + 1) k) : xSK Ts NW MT cc own a pc (X_ald xt2 k) :=
  x_aldG (fun C0 hkt hc ha hin hv kk => by
    have e := xb_eq.mp hkt
    subst e
    rw [ht] at ha
    exact W.zald C0.1 C0.2.1 hc (ha _ _) (fun q => by cases q) hin hv rfl rfl hd kk) hk
theorem x_aaldI (ht : ∀ tc, 10 ≤ tc → (xTf a tc).isReference = true) (hd : decode cc pc = .ok (.aaload, 1)) (hk : xSK Ts NW MT cc own a (pc + 1) k) : xSK Ts NW MT cc own a pc (X_ald xt3 k) :=
  x_aldG (fun C0 hkt hc ha hin hv kk => W.aald C0.1 C0.2.1 hc (ha _ _) (ht _ (xb_le.mp hkt)) (fun q => by cases q) hin hv rfl rfl hd kk) hk
theorem x_astG {kt : Nat → Bool} {kd : XV → Bool} (hkd : ∀ tc v w, kt tc = true → kd v = true → xrel (xG a) v w → xKd tc v)
    (row : ∀ {p : Program} {l : Launch} {e : Env} {R : Room} {s : State} {m : MethodId} {args : Array Value} {below : List Frame} {meth : Method} {c : Code} {H : Heap} {locs : List Loc} {cells slots : Nat} {Q : State → Prop} {ls : Array Slot} {rest : List Value} {ad tc n : Nat} {cA : ClassId} {g : Nat → Value} {x : Int32} {h : XH} {v : XV} {w : Value}, CallFix p m c cc (xNL a) s args Ts own → va_K (xG a).2.2.1 (xCl a) [] s → (∀ w ∈ NW, va_Nw w s) → xHR (xTf a) (xG a) s h H → kd v = true → xrel (xG a) v w → kt tc = true → H[ad]? = some (arrV cA n g) → ArrOfT s cA (xTf a tc) → va_RA s cA (xTf a tc) → ¬ (x < 0 ∨ (arrV cA n g).slots.size ≤ x.toNatClampNeg) →
      (∀ H1 : Heap, H1[ad]? = some ((arrV cA n g).setSlot x.toNatClampNeg w) → H1.size = H.size → (∀ q : Nat, q ≠ ad → H1[q]? = H[q]?) → W p l e R s m args below meth c H1 (locs ++ [⟨ad, x.toNatClampNeg⟩]) cells slots Q (F0 m (pc + 1) ls rest)) → W p l e R s m args below meth c H locs cells slots Q (F0 m pc ls (w :: .int x :: .ref ad :: rest)))
    (hk : xSK Ts NW MT cc own a (pc + 1) k) : xSK Ts NW MT cc own a pc (X_ast kt kd k) := by
  intro E ls st h r hr
  unfold X_ast at hr
  split at hr
  · rename_i v j ad st'
    obtain ⟨k0, hr⟩ := x_c1 hr
    obtain ⟨k4, hr⟩ := x_c1 hr
    split at hr
    · rename_i i hi
      split at hr
      · rename_i o hx
        obtain ⟨k1, hr⟩ := x_c1 hr
        obtain ⟨k2, hr⟩ := x_c1 hr
        obtain ⟨h1, h2⟩ := hk E ls _ _ r hr
        refine ⟨h1, fun hC hE hF hT => ?_⟩
        have h3 := h2 hC hE hF hT
        have k2 := xb_lt.mp k2
        obtain ⟨x1, x2, x3⟩ := xat_spec hx
        obtain ⟨p, l, e, R, s, m, args, below, meth, c, Q, G, nL, n0, s0, tyf⟩ := a
        intro H locs lsM stM a1 a2 a3 a4 a5 a6
        rcases stM with _ | ⟨w, _ | ⟨w1, _ | ⟨w0, stM⟩⟩⟩
        · exact a4.elim
        · exact a4.2.elim
        · exact a4.2.2.elim
        · have e0 : w0 = (if ad = 0 then Value.null else .ref (G.1 ad)) := a4.2.2.1
          rw [if_neg (by omega)] at e0
          subst e0
          obtain ⟨x, rfl, hxn⟩ := xcon_spec hE hi a4.2.1
          have hc := a1.2.2.2 ad x1 x2
          rw [x3] at hc
          obtain ⟨cA, g, c1, c2, c3, c4, c5⟩ := hc
          obtain ⟨y1, y2⟩ := xi_cl x hxn (by omega)
          have hB : G.2.2.2.2 ≤ G.1 ad := hC.2.2.2.2.1.2 ad (xb_le.mp k4)
          refine row hC.1 hC.2.2.1 hC.2.2.2.1 a1 k0 a4.1 k1 c1 c2 c3 (by rw [arrV_size, y2]; intro q; rcases q with q | q; exact y1 q; omega) fun H1 b1 b2 b3 => ?_
          rw [y2, arrV_store] at b1
          rw [y2]
          refine h3 H1 _ lsM stM (xHR_put a1 hC.2.2.2.2.1 (xb_le.mp k4) x2 b2 b3 ⟨cA, updV g i w, b1, c2, c3, c4, fun t ht => ?_⟩) (xS_put a2 b2 b3 hB) a3 a4.2.2.2 a5 a6
          show xrel G (xelem o.1 (xstore o.1 o.2.2.1 o.2.2.2 i v).1 (xstore o.1 o.2.2.1 o.2.2.2 i v).2 t) _
          rw [xstore_elem (hkd _ v w k1 k0 a4.1)]
          unfold updV
          by_cases q : t = i
          · rw [if_pos q, if_pos q]; exact a4.1
          · rw [if_neg q, if_neg q]; exact c5 t ht
      · cases hr
    · cases hr
  · cases hr
theorem xKd_I {G : XG} {tc : Nat} {v : XV} {w : Value} (ht : tc ≠ 1 ∧ tc ≤ 9) (h : xkI v = true) (hr : xrel G v w) : xKd tc v := by
  rcases v with n | n | n | n | n | n | n <;> first | (cases h; done) | exact trivial | skip
  obtain ⟨x, -, hx⟩ := hr
  exact ⟨ht, by rw [← hx]; exact xn_lt x⟩
theorem xKd_L {G : XG} {v : XV} {w : Value} (h : xkL v = true) (hr : xrel G v w) : xKd 1 v := by
  rcases v with n | n | n | n | n | n | n <;> first | (cases h; done) | exact trivial | skip
  obtain ⟨x, -, hx⟩ := hr
  exact ⟨rfl, by rw [← hx]; exact xnL_lt x⟩
theorem x_iastI (ht : xTf a 0 = .int) (hd : decode cc pc = .ok (.iastore, 1)) (hk : xSK Ts NW MT cc own a (pc + 1) k) : xSK Ts NW MT cc own a pc (X_ast xt0 xkI k) :=
  x_astG (fun tc v w h1 h2 h3 => xKd_I (by have := xb_eq.mp h1; omega) h2 h3) (fun C0 _ _ _ hkv hrel hkt hc ha _ hin kk => by
    have e := xb_eq.mp hkt
    subst e
    rw [ht] at ha
    obtain ⟨y, rfl⟩ := xkI_spec hkv hrel
    exact W.iast C0.1 C0.2.1 hc (ha _ _) (fun q => by cases q) hin rfl rfl hd kk) hk
theorem x_lastI (ht : xTf a 1 = .long) (hd : decode cc pc = .ok (.lastore, 1)) (hk : xSK Ts NW MT cc own a (pc + 1) k) : xSK Ts NW MT cc own a pc (X_ast xt1 xkL k) :=
  x_astG (fun tc v w h1 h2 h3 => by have e := xb_eq.mp h1; subst e; exact xKd_L h2 h3) (fun C0 _ _ _ hkv hrel hkt hc ha _ hin kk => by
    have e := xb_eq.mp hkt
    subst e
    rw [ht] at ha
    obtain ⟨y, rfl⟩ := xkL_spec hkv hrel
    exact W.last C0.1 C0.2.1 hc (ha _ _) (fun q => by cases q) hin rfl rfl hd kk) hk
end XS
