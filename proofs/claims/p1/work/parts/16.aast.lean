section XS
variable {Ts NW : List Cond} {MT : Nat → XM} {cc : ByteArray} {own : String} {a : XA} {pc : Nat} {k : XK}
theorem x_aastI {ok : Nat → XC → Bool} (ok0 : ∀ tc, ok tc none = true → ∃ C, xTf a tc = .object C)
    (ok1 : ∀ tc o, ok tc (some (.inl o)) = true → ∃ C r, xTf a tc = .object C ∧ (xCl a)[o.1]? = some r ∧ (r.1 = C ∨ Cond.castable r.1 C ∈ NW))
    (ok2 : ∀ tc q, ok tc (some (.inr q)) = true → ∃ t, xTf a tc = .array t ∧ xTf a q.1 = t ∧ Cond.arrayOver (.array t) ∈ NW ∧ ∀ U cA, va_RA U cA t → U.vm.findClass (FieldType.array t).toString = some cA)
    (hd : decode cc pc = .ok (.aastore, 1)) (hk : xSK Ts NW MT cc own a (pc + 1) k) : xSK Ts NW MT cc own a pc (X_aast ok k) := by
  intro E ls st h r hr
  unfold X_aast at hr
  split at hr
  · rename_i v j ad st'
    obtain ⟨k4, hr⟩ := x_c1 hr
    split at hr
    · rename_i i o hi hx
      obtain ⟨k0, hr⟩ := x_c1 hr
      obtain ⟨k3, hr⟩ := x_c1 hr
      obtain ⟨k5, hr⟩ := x_c1 hr
      obtain ⟨k2, hr⟩ := x_c1 hr
      obtain ⟨h1, h2⟩ := hk E ls _ _ r hr
      refine ⟨h1, fun hC hE hF hT => ?_⟩
      have h3 := h2 hC hE hF hT
      have k2 := xb_lt.mp k2
      have k3 := xb_le.mp k3
      have k5 := xb_lt.mp k5
      obtain ⟨x1, x2, x3⟩ := xat_spec hx
      obtain ⟨p, l, e, R, s, m, args, below, meth, c, Q, G, nL, n0, s0, tyf⟩ := a
      intro H locs lsM stM a1 a2 a3 a4 a5 a6
      rcases stM with _ | ⟨w, _ | ⟨w1, _ | ⟨w0, stM⟩⟩⟩
      · exact a4.elim
      · exact a4.2.elim
      · exact a4.2.2.elim
      · have e0 : w0 = (if ad = 0 then Value.null else .ref (G.1 ad)) := a4.2.2.1
        rw [if_neg (by omega)] at e0
        subst e0
        obtain ⟨x, rfl, hxn⟩ := xcon_spec hE hi a4.2.1
        have hc := a1.2.2.2 ad x1 x2
        rw [x3] at hc
        obtain ⟨cA, g, c1, c2, c3, c4, c5⟩ := hc
        obtain ⟨y1, y2⟩ := xi_cl x hxn (by omega)
        have hB : G.2.2.2.2 ≤ G.1 ad := hC.2.2.2.2.1.2 ad (xb_le.mp k4)
        have fin : ∀ H1 : Heap, H1[G.1 ad]? = some ((arrV cA o.2.1 g).setSlot x.toNatClampNeg w) → H1.size = H.size → (∀ q : Nat, q ≠ G.1 ad → H1[q]? = H[q]?) → W p l e R s m args below meth c H1 (locs ++ [⟨G.1 ad, x.toNatClampNeg⟩]) (h.1 - n0) (h.2.1 - s0) Q (F0 m (pc + 1) lsM stM) := fun H1 b1 b2 b3 => by
          rw [y2, arrV_store] at b1
          rw [y2]
          refine h3 H1 _ lsM stM (xHR_put a1 hC.2.2.2.2.1 (xb_le.mp k4) x2 b2 b3 ⟨cA, updV g i w, b1, c2, c3, c4, fun t ht => ?_⟩) (xS_put a2 b2 b3 hB) a3 a4.2.2.2 a5 a6
          show xrel G (xelem o.1 (xstore o.1 o.2.2.1 o.2.2.2 i (.inr (.inr (.inl v)))).1 (xstore o.1 o.2.2.1 o.2.2.2 i (.inr (.inr (.inl v)))).2 t) _
          rw [xstore_elem (v := .inr (.inr (.inl v))) ⟨k3, by omega⟩]
          unfold updV
          by_cases q : t = i
          · rw [if_pos q, if_pos q]; exact a4.1
          · rw [if_neg q, if_neg q]; exact c5 t ht
        have e1 : w = (if v = 0 then Value.null else .ref (G.1 v)) := a4.1
        have hin1 : ¬ (x < 0 ∨ (arrV cA o.2.1 g).slots.size ≤ x.toNatClampNeg) := by rw [arrV_size, y2]; intro q; rcases q with q | q; exact y1 q; omega
        have hin2 : ¬ x < 0 ∧ x.toNatClampNeg < (arrV cA o.2.1 g).slots.size := by rw [arrV_size, y2]; exact ⟨y1, k2⟩
        cases hv0 : Nat.beq v 0 with
        | true =>
          rw [hv0] at k0
          have hv0 := xb_eq.mp hv0
          rw [if_pos hv0] at e1
          subst e1
          obtain ⟨C, hC0⟩ := ok0 _ k0
          have hC0 : tyf o.1 = .object C := hC0
          rw [hC0] at c2
          exact va_WaastN (C := C) hC.1.1 hC.1.2.1 c1 (c2 _ _) (fun h => by cases h) hin1 rfl rfl hd fin
        | false =>
          rw [hv0] at k0
          have hv1 : v ≠ 0 := fun z => by rw [z] at hv0; cases hv0
          rw [if_neg hv1] at e1
          subst e1
          have k0 : (match xat h v with
            | some o' => ok o.1 (some o')
            | none => false) = true := k0
          split at k0
          · rename_i ov hov
            obtain ⟨z1, z2, z3⟩ := xat_spec hov
            have hcv := a1.2.2.2 v z1 z2
            rw [z3] at hcv
            rcases ov with ov | ov
            · obtain ⟨C, rr, d1, d2, d3⟩ := ok1 _ _ k0
              have d1 : tyf o.1 = .object C := d1
              have d2 : G.2.2.2.1[ov.1]? = some rr := d2
              rw [d1] at c2 c3
              obtain ⟨vs, ⟨r', f1, cellV, g1, g2, g3, -⟩, -⟩ := hcv
              have f1 : G.2.2.2.1[ov.1]? = some r' := f1
              have er : r' = rr := Option.some.inj (f1.symm.trans d2)
              subst er
              have hcls := (hC.2.2.1.1 ov.1 r' f1).2
              obtain ⟨kA, comp, m1, m2, m3, -⟩ := c3
              obtain ⟨kE, hkE, -⟩ := Vm.findClass_spec m3
              obtain ⟨kC, hkC, -⟩ := hcls.2
              refine W.aast hC.1.1 hC.1.2.1 c1 (fun q h => by cases h) (fun h => by cases h) m1 m2 rfl hkE hin2 g1 (fun q h => by rw [h] at g3; cases g3) (by rw [g2]; exact hkC) ?_ rfl rfl hd fin
              rw [g2]
              rcases d3 with d3 | d3
              · exact vb_asgS (s := s) _ _ m3 (by rw [← d3]; exact hcls.1)
              · exact vb_asgC (s := s) (hC.2.2.2.1 _ d3) _ _ m3 hcls.1
            · obtain ⟨t, d1, d2, d3, d4⟩ := ok2 _ _ k0
              have d1 : tyf o.1 = .array t := d1
              have d2 : tyf ov.1 = t := d2
              obtain ⟨cV, gV, v1, v2, v3, -⟩ := hcv
              have v3 : va_RA s cV (tyf ov.1) := v3
              rw [d2] at v3
              have v4 := d4 _ _ v3
              rw [d1] at c3
              have c3 : s.vm.findClass ("[" ++ (FieldType.array t).toString) = some cA := c3
              obtain ⟨comp, cO, kO, n1, -, n3, n4, n5⟩ := arrayOverA_spec (hC.2.2.2.1 _ d3)
              cases c3.symm.trans n5
              cases v4.symm.trans n1
              obtain ⟨kC, hkC, -⟩ := Vm.findClass_spec v4
              exact W.aast hC.1.1 hC.1.2.1 c1 (fun q h => by cases h) (fun h => by cases h) n3 n4 rfl hkC hin2 v1 (fun q h => by cases h) hkC (va_asg _ _) rfl rfl hd fin
          · cases k0
    · cases hr
  · cases hr
end XS
