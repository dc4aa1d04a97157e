/-! case trees over the bounds of the arguments; weaker heaps; numbers below 64 -/
noncomputable def xEset : XE → Nat → (Int × Int) → XE
  | [], _, _ => []
  | _ :: r, 0, q => q :: r
  | x :: r, i + 1, q => x :: xEset r i q
theorem xEget_set : ∀ (E : XE) (i j : Nat) (q : Int × Int), xEget (xEset E i q) j = if j = i then (xEget E i).map (fun _ => q) else xEget E j
  | [], i, j, q => by
    show xEget [] j = _
    split <;> rfl
  | _ :: r, 0, 0, q => rfl
  | _ :: r, 0, j + 1, q => by
    rw [if_neg (by omega)]
    rfl
  | _ :: r, i + 1, 0, q => by
    rw [if_neg (by omega)]
    rfl
  | x :: r, i + 1, j + 1, q => by
    show xEget (xEset r i q) j = _
    rw [xEget_set r i j q]
    by_cases e : j = i
    · rw [if_pos e, if_pos (by omega)]; rfl
    · rw [if_neg e, if_neg (by omega)]; rfl
theorem xEok_set {E : XE} {G : XG} {i : Nat} {q : Int × Int} (h : xEok E G) (h1 : q.1 ≤ (G.2.1 i).toInt) (h2 : (G.2.1 i).toInt ≤ q.2) : xEok (xEset E i q) G := by
  intro j r hj
  rw [xEget_set] at hj
  by_cases e : j = i
  · rw [if_pos e] at hj
    subst e
    cases hx : xEget E j with
    | none => rw [hx] at hj; cases hj
    | some b => rw [hx] at hj; cases hj; exact ⟨h1, h2⟩
  · rw [if_neg e] at hj
    exact h j r hj
noncomputable def xtr (f : XE → Bool) (n : Nat) : List (Nat × Int) → XE → Option (List (Nat × Int)) :=
  Nat.rec (motive := fun _ => List (Nat × Int) → XE → Option (List (Nat × Int))) (fun _ _ => none)
    (fun _ ih ts E => match ts with
      | [] => none
      | t :: r => match t.1 with
        | 0 => cond (f E) (some r) none
        | i + 1 => match xEget E i with
          | none => none
          | some b => match ih r (xEset E i (b.1, t.2)) with
            | none => none
            | some r' => ih r' (xEset E i (t.2 + 1, b.2))) n
theorem xtr_nd {f : XE → Bool} {n i : Nat} {z : Int} {r : List (Nat × Int)} {E : XE} : xtr f (n + 1) ((i + 1, z) :: r) E = match xEget E i with
  | none => none
  | some b => match xtr f n r (xEset E i (b.1, z)) with
    | none => none
    | some r' => xtr f n r' (xEset E i (z + 1, b.2)) := rfl
theorem xtr_ok {f : XE → Bool} {G : XG} : ∀ (n : Nat) (ts : List (Nat × Int)) (E : XE) (r : List (Nat × Int)), xtr f n ts E = some r → xEok E G → ∃ E', xEok E' G ∧ f E' = true := by
  intro n
  induction n with
  | zero => intro ts E r h; cases h
  | succ n ih =>
    intro ts E r h hE
    rcases ts with _ | ⟨⟨t1, z⟩, r0⟩
    · cases h
    · rcases t1 with _ | i
      · have h : cond (f E) (some r0) none = some r := h
        obtain ⟨h1, -⟩ := x_c1 h
        exact ⟨E, hE, h1⟩
      · rw [xtr_nd] at h
        cases hb : xEget E i with
        | none => rw [hb] at h; cases h
        | some b =>
          rw [hb] at h
          obtain ⟨b1, b2⟩ := hE i b hb
          cases hr : xtr f n r0 (xEset E i (b.1, z)) with
          | none =>
            have h : (match xtr f n r0 (xEset E i (b.1, z)) with
              | none => none
              | some r' => xtr f n r' (xEset E i (z + 1, b.2))) = some r := h
            rw [hr] at h
            cases h
          | some r' =>
            have h : (match xtr f n r0 (xEset E i (b.1, z)) with
              | none => none
              | some r' => xtr f n r' (xEset E i (z + 1, b.2))) = some r := h
            rw [hr] at h
            by_cases q : (G.2.1 i).toInt ≤ z
            · exact ih _ _ _ hr (xEok_set hE b1 q)
            · exact ih _ _ _ h (xEok_set hE (by show z + 1 ≤ _; omega) b2)
noncomputable def xtrb (f : XE → Bool) (n : Nat) (ts : List (Nat × Int)) (E : XE) : Bool := match xtr f n ts E with
  | some _ => true
  | none => false
theorem xtrb_ok {f : XE → Bool} {G : XG} {n : Nat} {ts : List (Nat × Int)} {E : XE} (h : xtrb f n ts E = true) (hE : xEok E G) : ∃ E', xEok E' G ∧ f E' = true := by
  unfold xtrb at h
  split at h
  · rename_i r hr
    exact xtr_ok n ts E r hr hE
  · cases h
/-- the law's run from a place comes to another with the number 1, in the claim's room -/
noncomputable def xleaf (call : Nat → List XV → XE → XH → Option (Option XV × XH)) (stop : Nat) (tb : Nat → Option XK) (N : Nat) (c0 : Nat × (XL × (List XV × XH))) (E : XE) : Bool := match xrun call stop tb E N c0 with
  | some c => match c.2.2.1 with
    | [.inl v] => cond (Nat.beq v 1) (cond (Nat.beq c.1 stop) (cond (Nat.ble c.2.2.2.1 2048) (Nat.ble c.2.2.2.2.1 7302250) false) false) false
    | _ => false
  | none => false
theorem xleaf_ok {call : Nat → List XV → XE → XH → Option (Option XV × XH)} {stop : Nat} {tb : Nat → Option XK} {N : Nat} {c0 : Nat × (XL × (List XV × XH))} {E : XE} (h : xleaf call stop tb N c0 E = true) : ∃ ls h', xrun call stop tb E N c0 = some (stop, (ls, ([.inl 1], h'))) ∧ h'.1 ≤ 2048 ∧ h'.2.1 ≤ 7302250 := by
  unfold xleaf at h
  cases hc : xrun call stop tb E N c0 with
  | none => rw [hc] at h; cases h
  | some c =>
    rw [hc] at h
    obtain ⟨c1, ls, st, h'⟩ := c
    rcases st with _ | ⟨v, st⟩
    · cases h
    · rcases v with v | v
      · rcases st with _ | ⟨w, st⟩
        · have h : cond (Nat.beq v 1) (cond (Nat.beq c1 stop) (cond (Nat.ble h'.1 2048) (Nat.ble h'.2.1 7302250) false) false) false = true := h
          obtain ⟨e1, h⟩ := e_c2 h
          obtain ⟨e2, h⟩ := e_c2 h
          obtain ⟨e3, e4⟩ := e_c2 h
          have e1 := xb_eq.mp e1
          have e2 := xb_eq.mp e2
          subst e1; subst e2
          exact ⟨ls, h', rfl, xb_le.mp e3, xb_le.mp e4⟩
        · cases h
      · cases h
/-- fewer cells are known -/
noncomputable def xsub : (d : Nat) → XT d → XT d → Bool
  | 0, a, b => match (a : XC) with
    | none => true
    | some c => e_cell (some c) b
  | d + 1, a, b => cond (xsub d a.1 b.1) (xsub d a.2 b.2) false
theorem xsub_ok : ∀ {d : Nat} {a b : XT d} (k : Nat), xsub d a b = true → xget d a k = none ∨ xget d a k = xget d b k
  | 0, a, b, k, h => by
    rcases (a : XC) with _ | c
    · exact Or.inl rfl
    · exact Or.inr (e_cell_ok h)
  | d + 1, a, b, k, h => by
    obtain ⟨h1, h2⟩ := e_c2 h
    show (match Nat.mod k 2 with
      | 0 => xget d a.1 (Nat.div k 2)
      | _ + 1 => xget d a.2 (Nat.div k 2)) = none ∨ (match Nat.mod k 2 with
      | 0 => xget d a.1 (Nat.div k 2)
      | _ + 1 => xget d a.2 (Nat.div k 2)) = (match Nat.mod k 2 with
      | 0 => xget d b.1 (Nat.div k 2)
      | _ + 1 => xget d b.2 (Nat.div k 2))
    cases Nat.mod k 2 with
    | zero => exact xsub_ok (Nat.div k 2) h1
    | succ n => exact xsub_ok (Nat.div k 2) h2
noncomputable def xsubh (a b : XH) : Bool := cond (Nat.beq a.1 b.1) (cond (Nat.beq a.2.1 b.2.1) (xsub 11 a.2.2 b.2.2) false) false
theorem xHR_sub {tyf : Nat → FieldType} {G : XG} {U : State} {h h' : XH} {H : Heap} (hs : xsubh h' h = true) (q : xHR tyf G U h H) : xHR tyf G U h' H := by
  obtain ⟨h1, h2⟩ := e_c2 hs
  obtain ⟨-, h3⟩ := e_c2 h2
  have h1 : h'.1 = h.1 := xb_eq.mp h1
  refine ⟨fun j => by rw [h1]; exact q.1 j, by rw [h1]; exact q.2.1, by rw [h1]; exact q.2.2.1, fun k k1 k2 => ?_⟩
  rw [h1] at k2
  rcases xsub_ok k h3 with e | e
  · rw [e]; exact True.intro
  · rw [e]; exact q.2.2.2 k k1 k2
theorem xGo_sub {a : XA} {pc : Nat} {ls : XL} {st : List XV} {h h' : XH} (hs : xsubh h' h = true) (g : xGo a pc ls st h') : xGo a pc ls st h := by
  obtain ⟨p, l, e, R, s, m, args, below, meth, c, Q, G, nL, n0, s0, tyf⟩ := a
  obtain ⟨h1, h2⟩ := e_c2 hs
  obtain ⟨h3, -⟩ := e_c2 h2
  have h1 : h'.1 = h.1 := xb_eq.mp h1
  have h3 : h'.2.1 = h.2.1 := xb_eq.mp h3
  intro H locs lsM stM a1 a2 a3 a4 a5 a6
  have := g H locs lsM stM (xHR_sub hs a1) a2 a3 a4 (by rw [h1]; exact a5) (by rw [h3]; exact a6)
  rw [h1, h3] at this
  exact this
theorem x_bits64 {x : Int32} (h : ∀ i, i < 32 → (63 : Nat).testBit i = false → x.toBitVec.getLsbD i = (0 : Nat).testBit i) : x.toBitVec.toNat < 64 := by
  refine Nat.lt_pow_two_of_testBit (n := 6) _ fun i hi => ?_
  by_cases h32 : i < 32
  · have e : (63 : Nat).testBit i = false := Nat.testBit_lt_two_pow (Nat.lt_of_lt_of_le (by decide : 63 < 2 ^ 6) (Nat.pow_le_pow_right (by decide) hi))
    have := h i h32 e
    rw [Nat.zero_testBit] at this
    exact this
  · exact Nat.testBit_lt_two_pow (Nat.lt_of_lt_of_le x.toBitVec.isLt (Nat.pow_le_pow_right (by decide) (by omega)))
theorem x_cases64 {a : XA} {pc : Nat} {ls : XL} {st : List XV} {h : XH} (hall : ∀ k, k < 64 → xGo a pc ls (.inl k :: st) h) : xGo a pc ls (.inr (.inr (.inr (.inr (.inr (.inl (63, 0)))))) :: st) h := by
  obtain ⟨p, l, e, R, s, m, args, below, meth, c, Q, G, nL, n0, s0, tyf⟩ := a
  intro H locs lsM stM a1 a2 a3 a4 a5 a6
  rcases stM with _ | ⟨w, stM⟩
  · exact a4.elim
  · obtain ⟨⟨x, rfl, hx⟩, a4⟩ := a4
    exact hall x.toBitVec.toNat (x_bits64 hx) H locs lsM (.int x :: stM) a1 a2 a3 ⟨⟨x, rfl, rfl⟩, a4⟩ a5 a6
/-! the law reads its script: the cell of key 3, that is never written -/
def xScr (L : Nat) (a : XA) : Prop := match a with
  | (_, _, _, _, s, _, _, _, _, _, _, G, _, _, _, _) => va_X (G.1 3) L G.2.1 s s.heap ∧ G.1 3 < s.heap.size ∧ G.1 3 < G.2.2.2.2 ∧ L < 2147483648
noncomputable def X_sld (L : Nat) (k : XK) : XK := fun e ls st h => match st with
  | .inl i :: .inr (.inr (.inl a)) :: st' => cond (Nat.beq a 3) (cond (Nat.blt i L) (k e ls (.inr (.inr (.inr (.inl (i, 0)))) :: st') h) none) none
  | _ => none
noncomputable def X_slen (L : Nat) (k : XK) : XK := fun e ls st h => match st with
  | .inr (.inr (.inl a)) :: st' => cond (Nat.beq a 3) (k e ls (.inl L :: st') h) none
  | _ => none
section XS
variable {Ts NW : List Cond} {MT : Nat → XM} {cc : ByteArray} {own : String} {a : XA} {pc : Nat} {k : XK}
theorem x_sldI {L : Nat} (hl : xScr L a) (hd : decode cc pc = .ok (.iaload, 1)) (hk : xSK Ts NW MT cc own a (pc + 1) k) : xSK Ts NW MT cc own a pc (X_sld L k) := by
  intro E ls st h r hr
  unfold X_sld at hr
  split at hr
  · rename_i i ad st'
    obtain ⟨k1, hr1⟩ := x_c1 hr
    obtain ⟨k2, hr2⟩ := x_c1 hr1
    have e1 := xb_eq.mp k1
    subst e1
    have k2 := xb_lt.mp k2
    obtain ⟨h1, h2⟩ := hk E ls _ h r hr2
    refine ⟨h1, fun hC hE hF hT => ?_⟩
    have h3 := h2 hC hE hF hT
    obtain ⟨p, l, e, R, s, m, args, below, meth, c, Q, G, nL, n0, s0, tyf⟩ := a
    obtain ⟨l1, l2, l3, l4⟩ := hl
    intro H locs lsM stM a1 a2 a3 a4 a5 a6
    rcases stM with _ | ⟨w, _ | ⟨w0, stM⟩⟩
    · exact a4.elim
    · exact a4.2.elim
    · have e0 : w0 = .ref (G.1 3) := a4.2.1
      subst e0
      obtain ⟨⟨x, rfl, hx⟩, a4⟩ := a4
      obtain ⟨y1, y2⟩ := xi_cl x hx (by omega)
      have y3 : vp_in x L := fun q => by
        rcases q with q | q
        · exact y1 q
        · rw [y2] at q; omega
      refine va_sld (A := fun q => G.2.2.2.2 ≤ q) hC.1.1 hC.1.2.1 l1 l2 (Nat.not_le.mpr l3) a2 y3 hd (h3 H locs lsM (.int (G.2.1 x.toNatClampNeg) :: stM) a1 a2 a3 ⟨⟨_, rfl, ?_⟩, a4.2⟩ a5 a6)
      rw [y2]
      exact (Int.add_zero _).symm
  · cases hr
theorem x_slenI {L : Nat} (hl : xScr L a) (hd : decode cc pc = .ok (.arraylength, 1)) (hk : xSK Ts NW MT cc own a (pc + 1) k) : xSK Ts NW MT cc own a pc (X_slen L k) := by
  intro E ls st h r hr
  unfold X_slen at hr
  split at hr
  · rename_i ad st'
    obtain ⟨k1, hr⟩ := x_c1 hr
    have e1 := xb_eq.mp k1
    subst e1
    obtain ⟨h1, h2⟩ := hk E ls _ h r hr
    refine ⟨h1, fun hC hE hF hT => ?_⟩
    have h3 := h2 hC hE hF hT
    obtain ⟨p, l, e, R, s, m, args, below, meth, c, Q, G, nL, n0, s0, tyf⟩ := a
    obtain ⟨l1, l2, l3, l4⟩ := hl
    intro H locs lsM stM a1 a2 a3 a4 a5 a6
    rcases stM with _ | ⟨w0, stM⟩
    · exact a4.elim
    · have e0 : w0 = .ref (G.1 3) := a4.1
      subst e0
      exact va_slen (A := fun q => G.2.2.2.2 ≤ q) hC.1.1 hC.1.2.1 l1 l2 (Nat.not_le.mpr l3) a2 hd (h3 H locs lsM (.int (Int32.ofNat L) :: stM) a1 a2 a3 ⟨⟨_, rfl, pk_tn (by omega)⟩, a4.2⟩ a5 a6)
  · cases hr
end XS
