noncomputable def x_i2b (a : Nat) : Nat := cond (Nat.blt (Nat.mod a 256) 128) (Nat.mod a 256) (Nat.add (Nat.mod a 256) 4294967040)
noncomputable def x_i2s (a : Nat) : Nat := cond (Nat.blt (Nat.mod a 65536) 32768) (Nat.mod a 65536) (Nat.add (Nat.mod a 65536) 4294901760)
theorem xn_i2b (x : Int32) : x.toInt8.toInt32.toBitVec.toNat = x_i2b x.toBitVec.toNat := by
  have e : x.toInt8.toInt32.toBitVec = (x.toBitVec.signExtend 8).signExtend 32 := rfl
  rw [e]
  generalize x.toBitVec = b
  have h1 : (b.signExtend 8).toNat = b.toNat % 256 := by
    rw [BitVec.toNat_signExtend, BitVec.toNat_setWidth]
    simp
  rw [BitVec.toNat_signExtend, BitVec.toNat_setWidth, h1, BitVec.msb_eq_decide, h1]
  show _ = cond (Nat.blt (b.toNat % 256) 128) (b.toNat % 256) (b.toNat % 256 + 4294967040)
  cases h : Nat.blt (b.toNat % 256) 128 with
  | true => have := xb_lt.mp h; simp; split <;> omega
  | false =>
    have : ¬ b.toNat % 256 < 128 := fun q => by rw [xb_lt.mpr q] at h; cases h
    simp; split <;> omega
theorem xn_i2s (x : Int32) : x.toInt16.toInt32.toBitVec.toNat = x_i2s x.toBitVec.toNat := by
  have e : x.toInt16.toInt32.toBitVec = (x.toBitVec.signExtend 16).signExtend 32 := rfl
  rw [e]
  generalize x.toBitVec = b
  have h1 : (b.signExtend 16).toNat = b.toNat % 65536 := by
    rw [BitVec.toNat_signExtend, BitVec.toNat_setWidth]
    simp
  rw [BitVec.toNat_signExtend, BitVec.toNat_setWidth, h1, BitVec.msb_eq_decide, h1]
  show _ = cond (Nat.blt (b.toNat % 65536) 32768) (b.toNat % 65536) (b.toNat % 65536 + 4294901760)
  cases h : Nat.blt (b.toNat % 65536) 32768 with
  | true => have := xb_lt.mp h; simp; split <;> omega
  | false =>
    have : ¬ b.toNat % 65536 < 32768 := fun q => by rw [xb_lt.mpr q] at h; cases h
    simp; split <;> omega
noncomputable def X_inar (f : Nat → Nat) (k : XK) : XK := fun e ls st h => match st with
  | .inl a :: st' => k e ls (.inl (f a) :: st') h
  | _ => none
section XS
variable {Ts NW : List Cond} {MT : Nat → XM} {cc : ByteArray} {own : String} {a : XA} {pc : Nat} {k : XK}
theorem x_i2bI (hR : xRm a) (hd : decode cc pc = .ok (.i2b, 1)) (hk : xSK Ts NW MT cc own a (pc + 1) k) : xSK Ts NW MT cc own a pc (X_inar x_i2b k) :=
  x_step hR fun E ls st h r hr => by
    unfold X_inar at hr
    split at hr
    · rename_i b st'
      refine ⟨pc + 1, ls, _, Or.inl ⟨k, hk, hr⟩, fun _ _ lsM stM b1 b2 => ?_⟩
      rcases stM with _ | ⟨w1, stM⟩
      · exact b2.elim
      · obtain ⟨⟨y, rfl, hy⟩, b3⟩ := b2
        subst hy
        exact ⟨lsM, .int y.toInt8.toInt32 :: stM, b1, ⟨⟨_, rfl, xn_i2b y⟩, b3⟩, fun C _ _ kk => lv_i2b C.1 C.2.1 hd rfl kk⟩
    · cases hr
theorem x_i2sI (hR : xRm a) (hd : decode cc pc = .ok (.i2s, 1)) (hk : xSK Ts NW MT cc own a (pc + 1) k) : xSK Ts NW MT cc own a pc (X_inar x_i2s k) :=
  x_step hR fun E ls st h r hr => by
    unfold X_inar at hr
    split at hr
    · rename_i b st'
      refine ⟨pc + 1, ls, _, Or.inl ⟨k, hk, hr⟩, fun _ _ lsM stM b1 b2 => ?_⟩
      rcases stM with _ | ⟨w1, stM⟩
      · exact b2.elim
      · obtain ⟨⟨y, rfl, hy⟩, b3⟩ := b2
        subst hy
        exact ⟨lsM, .int y.toInt16.toInt32 :: stM, b1, ⟨⟨_, rfl, xn_i2s y⟩, b3⟩, fun C _ _ kk => lv_i2s C.1 C.2.1 hd rfl kk⟩
    · cases hr
end XS
