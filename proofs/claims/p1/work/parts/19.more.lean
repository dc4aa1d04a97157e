section XS
variable {Ts NW : List Cond} {MT : Nat → XM} {cc : ByteArray} {own : String} {a : XA} {pc : Nat} {k : XK}
theorem xk01_I {v : XV} (h : xk01 v = true) : xkI v = true := by
  rcases v with n | n
  · rfl
  · cases h
theorem x_zastI (ht : xTf a 2 = .boolean) (hd : decode cc pc = .ok (.bastore, 1)) (hk : xSK Ts NW MT cc own a (pc + 1) k) : xSK Ts NW MT cc own a pc (X_ast xt2 xk01 k) :=
  x_astG (fun tc v w h1 h2 h3 => xKd_I (by have := xb_eq.mp h1; omega) (xk01_I h2) h3) (fun C0 _ _ _ hkv hrel hkt hc ha _ hin kk => by
    have e := xb_eq.mp hkt
    subst e
    rw [ht] at ha
    obtain ⟨q1, -⟩ := xkd_Z (xG a) _ _ hkv hrel
    obtain ⟨y, rfl⟩ := xkI_spec (xk01_I hkv) hrel
    exact W.zast C0.1 C0.2.1 hc (ha _ _) (fun q => by cases q) hin rfl rfl hd (fun H1 e1 e2 e3 => kk H1 (by rw [q1] at e1; exact e1) e2 e3)) hk
theorem x_ldivI (hR : xRm a) (hd : decode cc pc = .ok (.ldiv, 1)) (hk : xSK Ts NW MT cc own a (pc + 1) k) : xSK Ts NW MT cc own a pc (X_ldiv k) :=
  x_step hR fun E ls st h r hr => by
    unfold X_ldiv at hr
    split at hr
    · rename_i b c st'
      obtain ⟨k1, hr⟩ := x_c1 hr
      obtain ⟨k2, hr⟩ := x_c1 hr
      obtain ⟨k3, hr⟩ := x_c1 hr
      refine ⟨pc + 1, ls, _, Or.inl ⟨k, hk, hr⟩, fun _ _ lsM stM b1 b2 => ?_⟩
      rcases stM with _ | ⟨w1, _ | ⟨w2, stM⟩⟩
      · exact b2.elim
      · exact b2.2.elim
      · obtain ⟨⟨y, rfl, hy⟩, ⟨x, rfl, hx⟩, b3⟩ := b2
        subst hy; subst hx
        exact ⟨lsM, .long (x / y) :: stM, b1, ⟨⟨_, rfl, (xnL_rem x y (xb_lt.mp k1) (xb_lt.mp k2) (xb_le.mp k3)).2⟩, b3⟩, fun C _ _ kk => lv_ldiv C.1 C.2.1 hd (xneL0 (xb_le.mp k3)) kk⟩
    · cases hr
end XS
