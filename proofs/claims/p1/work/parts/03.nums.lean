/-! numbers: what the executor reckons is what the machine reckons -/
theorem xn_add (x y : Int32) : (x + y).toBitVec.toNat = x_iadd x.toBitVec.toNat y.toBitVec.toNat := by
  show _ = (x.toBitVec.toNat + y.toBitVec.toNat) % 4294967296
  rw [Int32.toBitVec_add, BitVec.toNat_add]
theorem xn_sub (x y : Int32) : (x - y).toBitVec.toNat = x_isub x.toBitVec.toNat y.toBitVec.toNat := by
  show _ = (x.toBitVec.toNat + (4294967296 - y.toBitVec.toNat)) % 4294967296
  rw [Int32.toBitVec_sub, BitVec.toNat_sub, Nat.add_comm]
theorem xn_mul (x y : Int32) : (x * y).toBitVec.toNat = x_imul x.toBitVec.toNat y.toBitVec.toNat := by
  show _ = (x.toBitVec.toNat * y.toBitVec.toNat) % 4294967296
  rw [Int32.toBitVec_mul, BitVec.toNat_mul]
theorem xn_and (x y : Int32) : (x &&& y).toBitVec.toNat = Nat.land x.toBitVec.toNat y.toBitVec.toNat := by
  rw [Int32.toBitVec_and, BitVec.toNat_and]; rfl
theorem xn_or (x y : Int32) : (x ||| y).toBitVec.toNat = Nat.lor x.toBitVec.toNat y.toBitVec.toNat := by
  rw [Int32.toBitVec_or, BitVec.toNat_or]; rfl
theorem xn_xor (x y : Int32) : (x ^^^ y).toBitVec.toNat = Nat.xor x.toBitVec.toNat y.toBitVec.toNat := by
  rw [Int32.toBitVec_xor, BitVec.toNat_xor]; rfl
theorem xnL_add (x y : Int64) : (x + y).toBitVec.toNat = x_ladd x.toBitVec.toNat y.toBitVec.toNat := by
  show _ = (x.toBitVec.toNat + y.toBitVec.toNat) % 18446744073709551616
  rw [Int64.toBitVec_add, BitVec.toNat_add]
theorem xnL_sub (x y : Int64) : (x - y).toBitVec.toNat = x_lsub x.toBitVec.toNat y.toBitVec.toNat := by
  show _ = (x.toBitVec.toNat + (18446744073709551616 - y.toBitVec.toNat)) % 18446744073709551616
  rw [Int64.toBitVec_sub, BitVec.toNat_sub, Nat.add_comm]
theorem xnL_mul (x y : Int64) : (x * y).toBitVec.toNat = x_lmul x.toBitVec.toNat y.toBitVec.toNat := by
  show _ = (x.toBitVec.toNat * y.toBitVec.toNat) % 18446744073709551616
  rw [Int64.toBitVec_mul, BitVec.toNat_mul]
theorem xnL_and (x y : Int64) : (x &&& y).toBitVec.toNat = Nat.land x.toBitVec.toNat y.toBitVec.toNat := by
  rw [Int64.toBitVec_and, BitVec.toNat_and]; rfl
theorem xnL_or (x y : Int64) : (x ||| y).toBitVec.toNat = Nat.lor x.toBitVec.toNat y.toBitVec.toNat := by
  rw [Int64.toBitVec_or, BitVec.toNat_or]; rfl
theorem xnL_xor (x y : Int64) : (x ^^^ y).toBitVec.toNat = Nat.xor x.toBitVec.toNat y.toBitVec.toNat := by
  rw [Int64.toBitVec_xor, BitVec.toNat_xor]; rfl
theorem xn_inj {x y : Int32} (h : x.toBitVec.toNat = y.toBitVec.toNat) : x = y := Int32.toBitVec_inj.mp (BitVec.eq_of_toNat_eq h)
theorem xnL_inj {x y : Int64} (h : x.toBitVec.toNat = y.toBitVec.toNat) : x = y := Int64.toBitVec_inj.mp (BitVec.eq_of_toNat_eq h)
theorem xn_lt (x : Int32) : x.toBitVec.toNat < 4294967296 := x.toBitVec.isLt
theorem xnL_lt (x : Int64) : x.toBitVec.toNat < 18446744073709551616 := x.toBitVec.isLt
theorem xn_toInt (x : Int32) : x.toInt = if 2 * x.toBitVec.toNat < 4294967296 then (x.toBitVec.toNat : Int) else (x.toBitVec.toNat : Int) - 4294967296 := by
  show x.toBitVec.toInt = _
  rw [BitVec.toInt_eq_toNat_cond]; rfl
theorem xnL_toInt (x : Int64) : x.toInt = if 2 * x.toBitVec.toNat < 18446744073709551616 then (x.toBitVec.toNat : Int) else (x.toBitVec.toNat : Int) - 18446744073709551616 := by
  show x.toBitVec.toInt = _
  rw [BitVec.toInt_eq_toNat_cond]; rfl
theorem xn_sg (x : Int32) : (xsg x.toBitVec.toNat : Int) = x.toInt + 2147483648 := by
  have h := xn_lt x
  rw [xn_toInt]
  show (((x.toBitVec.toNat + 2147483648) % 4294967296 : Nat) : Int) = _
  split <;> omega
theorem xnL_sg (x : Int64) : (xsL x.toBitVec.toNat : Int) = x.toInt + 9223372036854775808 := by
  have h := xnL_lt x
  rw [xnL_toInt]
  show (((x.toBitVec.toNat + 9223372036854775808) % 18446744073709551616 : Nat) : Int) = _
  split <;> omega
theorem xb_lt {a b : Nat} : Nat.blt a b = true ↔ a < b := by
  show Nat.ble (a + 1) b = true ↔ _
  rw [Nat.ble_eq]
  exact Iff.rfl
theorem xb_le {a b : Nat} : Nat.ble a b = true ↔ a ≤ b := by rw [Nat.ble_eq]
theorem xb_eq {a b : Nat} : Nat.beq a b = true ↔ a = b := by rw [Nat.beq_eq]
theorem xp2_eq (x y : Int32) : p2_eq x.toBitVec.toNat y.toBitVec.toNat = true ↔ x = y := by
  show Nat.beq _ _ = true ↔ _
  rw [xb_eq]
  exact ⟨xn_inj, fun h => by rw [h]⟩
theorem xp2_ne (x y : Int32) : p2_ne x.toBitVec.toNat y.toBitVec.toNat = true ↔ ¬ x = y := by
  rw [← xp2_eq]
  show cond (Nat.beq _ _) false true = true ↔ ¬ (Nat.beq _ _ = true)
  cases Nat.beq x.toBitVec.toNat y.toBitVec.toNat <;> simp
theorem xp2_lt (x y : Int32) : p2_lt x.toBitVec.toNat y.toBitVec.toNat = true ↔ x < y := by
  show Nat.blt _ _ = true ↔ _
  rw [xb_lt, Int32.lt_iff_toInt_lt]
  have h1 := xn_sg x
  have h2 := xn_sg y
  omega
theorem xp2_ge (x y : Int32) : p2_ge x.toBitVec.toNat y.toBitVec.toNat = true ↔ y ≤ x := by
  show Nat.ble _ _ = true ↔ _
  rw [xb_le, Int32.le_iff_toInt_le]
  have h1 := xn_sg x
  have h2 := xn_sg y
  omega
theorem xp2_gt (x y : Int32) : p2_gt x.toBitVec.toNat y.toBitVec.toNat = true ↔ y < x := by
  show Nat.blt _ _ = true ↔ _
  rw [xb_lt, Int32.lt_iff_toInt_lt]
  have h1 := xn_sg x
  have h2 := xn_sg y
  omega
theorem xp2_le (x y : Int32) : p2_le x.toBitVec.toNat y.toBitVec.toNat = true ↔ x ≤ y := by
  show Nat.ble _ _ = true ↔ _
  rw [xb_le, Int32.le_iff_toInt_le]
  have h1 := xn_sg x
  have h2 := xn_sg y
  omega
theorem xp_eq (x : Int32) : p_eq x.toBitVec.toNat = true ↔ x = 0 := by
  show Nat.beq _ _ = true ↔ _
  rw [xb_eq]
  exact ⟨fun h => xn_inj (y := 0) h, fun h => by rw [h]; rfl⟩
theorem xp_ne (x : Int32) : p_ne x.toBitVec.toNat = true ↔ ¬ x = 0 := by
  show Nat.ble _ _ = true ↔ _
  rw [xb_le]
  have h : x.toBitVec.toNat = 0 ↔ x = 0 := ⟨fun h => xn_inj (y := 0) h, fun h => by rw [h]; rfl⟩
  rw [← h]; omega
theorem xp_lt (x : Int32) : p_lt x.toBitVec.toNat = true ↔ x < 0 := by
  show Nat.ble _ _ = true ↔ _
  rw [xb_le, Int32.lt_iff_toInt_lt, xn_toInt]
  show _ ↔ _ < (0 : Int)
  have := xn_lt x
  split <;> omega
theorem xp_ge (x : Int32) : p_ge x.toBitVec.toNat = true ↔ 0 ≤ x := by
  show Nat.blt _ _ = true ↔ _
  rw [xb_lt, Int32.le_iff_toInt_le, xn_toInt x]
  show _ ↔ (0 : Int) ≤ _
  have := xn_lt x
  split <;> omega
theorem xp_gt (x : Int32) : p_gt x.toBitVec.toNat = true ↔ 0 < x := by
  show Nat.blt _ _ = true ↔ _
  rw [xb_lt, Int32.lt_iff_toInt_lt]
  show _ ↔ (0 : Int) < _
  have := xn_sg x
  omega
theorem xp_le (x : Int32) : p_le x.toBitVec.toNat = true ↔ x ≤ 0 := by
  show Nat.ble _ _ = true ↔ _
  rw [xb_le, Int32.le_iff_toInt_le]
  show _ ↔ _ ≤ (0 : Int)
  have := xn_sg x
  omega
theorem xn_c31 (y : Int32) : (y &&& 31).toBitVec.toNat = y.toBitVec.toNat % 32 := by
  rw [xn_and]
  exact Nat.and_two_pow_sub_one_eq_mod y.toBitVec.toNat 5
theorem xn_sm31 (y : Int32) : ((y &&& 31).toBitVec.smod 32).toNat = y.toBitVec.toNat % 32 := by
  have h := xn_c31 y
  have h2 : ∀ n, n < 32 → ((BitVec.ofNat 32 n).smod 32).toNat = n := by decide +kernel
  have e : (y &&& 31).toBitVec = BitVec.ofNat 32 (y.toBitVec.toNat % 32) := by
    apply BitVec.eq_of_toNat_eq
    rw [h, BitVec.toNat_ofNat]
    exact (Nat.mod_eq_of_lt (by omega)).symm
  rw [e]
  exact h2 _ (Nat.mod_lt _ (by decide))
theorem xn_shl (x y : Int32) : (x <<< (y &&& 31)).toBitVec.toNat = x_ishl x.toBitVec.toNat y.toBitVec.toNat := by
  rw [pk_shl x (y &&& 31) _ (xn_sm31 y)]
  show _ = (x.toBitVec.toNat <<< (y.toBitVec.toNat % 32)) % 4294967296
  rw [Nat.shiftLeft_eq]
theorem xn_ushr (x y : Int32) : (x.toUInt32 >>> (y.toUInt32 &&& Int32.toUInt32 31)).toInt32.toBitVec.toNat = x_iushr x.toBitVec.toNat y.toBitVec.toNat := by
  have e : ((y.toUInt32 &&& Int32.toUInt32 31).toBitVec % 32).toNat = y.toBitVec.toNat % 32 := by
    have h := xn_c31 y
    show (((y &&& 31).toBitVec) % 32).toNat = _
    rw [BitVec.toNat_umod, h]
    show y.toBitVec.toNat % 32 % 32 = _
    omega
  rw [pk_ushr x y _ e]
  show _ = x.toBitVec.toNat >>> (y.toBitVec.toNat % 32)
  rw [Nat.shiftRight_eq_div_pow]
theorem xi_div (a b : Nat) : ((a / b : Nat) : Int) = (a : Int) / (b : Int) := by
  first | exact Int.natCast_ediv _ _ | exact Int.natCast_div _ _ | exact Int.ofNat_ediv _ _
theorem xi_shr (t : Int) (sg d m P : Nat) (hP : P = 2 ^ d) (hs : (sg : Int) = t + (m * P : Nat)) : ((sg >>> d : Nat) : Int) - (((m * P) >>> d : Nat) : Int) = t >>> d := by
  have h0 : 0 < P := by rw [hP]; exact Nat.two_pow_pos d
  rw [Nat.shiftRight_eq_div_pow, Nat.shiftRight_eq_div_pow, ← hP, xi_div, hs, Nat.mul_div_cancel _ h0, Int.shiftRight_eq_div_pow, ← hP]
  have e : ((m * P : Nat) : Int) = (m : Int) * (P : Int) := Int.natCast_mul m P
  rw [e, Int.add_mul_ediv_right _ _ (by omega)]
  omega
theorem xn_shr (x y : Int32) : (x >>> (y &&& 31)).toBitVec.toNat = x_ishr x.toBitVec.toNat y.toBitVec.toNat := by
  have h1 := pk_shr x (y &&& 31) _ (xn_sm31 y)
  have hd : y.toBitVec.toNat % 32 < 32 := Nat.mod_lt _ (by decide)
  show _ = (4294967296 + (xsg x.toBitVec.toNat) >>> (y.toBitVec.toNat % 32) - 2147483648 >>> (y.toBitVec.toNat % 32)) % 4294967296
  generalize hdd : y.toBitVec.toNat % 32 = d at h1 hd
  have hm : (2147483648 : Nat) = 2 ^ (31 - d) * 2 ^ d := by rw [← Nat.pow_add, show 31 - d + d = 31 by omega]
  have h2 := xi_shr x.toInt (xsg x.toBitVec.toNat) d (2 ^ (31 - d)) (2 ^ d) rfl (by rw [← hm]; exact xn_sg x)
  rw [← hm] at h2
  rw [← h1] at h2
  have h3 := xn_toInt (x >>> (y &&& 31))
  have h4 := xn_lt (x >>> (y &&& 31))
  generalize (x >>> (y &&& 31)).toBitVec.toNat = z at h3 h4 ⊢
  generalize (x >>> (y &&& 31)).toInt = q at h2 h3
  generalize xsg x.toBitVec.toNat >>> d = A at h2 ⊢
  have hB : (2147483648 : Nat) >>> d ≤ 2147483648 := by rw [Nat.shiftRight_eq_div_pow]; exact Nat.div_le_self _ _
  generalize (2147483648 : Nat) >>> d = B at h2 hB ⊢
  split at h3 <;> omega
theorem xnL_c63 (y : Int32) : (y.toInt64 &&& 63).toBitVec.toNat = y.toBitVec.toNat % 64 := by
  rw [xnL_and]
  show Nat.land _ 63 = _
  rw [show Nat.land y.toInt64.toBitVec.toNat 63 = y.toInt64.toBitVec.toNat &&& (2 ^ 6 - 1) from rfl, Nat.and_two_pow_sub_one_eq_mod]
  have h1 := xnL_toInt y.toInt64
  rw [Int32.toInt_toInt64] at h1
  have h2 := xn_toInt y
  have h3 := xn_lt y
  have h4 := xnL_lt y.toInt64
  split at h1 <;> split at h2 <;> omega
theorem xnL_bv63 (y : Int32) : (y.toInt64 &&& 63).toBitVec = BitVec.ofNat 64 (y.toBitVec.toNat % 64) := by
  apply BitVec.eq_of_toNat_eq
  rw [xnL_c63, BitVec.toNat_ofNat]
  exact (Nat.mod_eq_of_lt (by omega)).symm
theorem xnL_sm63 (y : Int32) : (y.toInt64 &&& 63).toBitVec.smod 64 = BitVec.ofNat 64 (y.toBitVec.toNat % 64) := by
  have h2 : ∀ n, n < 64 → (BitVec.ofNat 64 n).smod 64 = BitVec.ofNat 64 n := by decide +kernel
  rw [xnL_bv63]
  exact h2 _ (Nat.mod_lt _ (by decide))
theorem xnL_um63 (y : Int32) : (y.toInt64.toUInt64 &&& Int64.toUInt64 63).toBitVec % 64 = BitVec.ofNat 64 (y.toBitVec.toNat % 64) := by
  have h2 : ∀ n, n < 64 → BitVec.ofNat 64 n % 64 = BitVec.ofNat 64 n := by decide +kernel
  show (y.toInt64 &&& 63).toBitVec % 64 = _
  rw [xnL_bv63]
  exact h2 _ (Nat.mod_lt _ (by decide))
theorem xnL_shl (x : Int64) (y : Int32) : (x <<< (y.toInt64 &&& 63)).toBitVec.toNat = x_lshl x.toBitVec.toNat y.toBitVec.toNat := by
  show (x.toBitVec <<< ((y.toInt64 &&& 63).toBitVec.smod 64)).toNat = _
  rw [xnL_sm63]
  show (x.toBitVec <<< (BitVec.ofNat 64 (y.toBitVec.toNat % 64)).toNat).toNat = (x.toBitVec.toNat <<< (y.toBitVec.toNat % 64)) % 18446744073709551616
  rw [BitVec.toNat_ofNat, Nat.mod_eq_of_lt (by omega : y.toBitVec.toNat % 64 < 2 ^ 64), BitVec.toNat_shiftLeft]
theorem xnL_ushr (x : Int64) (y : Int32) : (x.toUInt64 >>> (y.toInt64.toUInt64 &&& Int64.toUInt64 63)).toInt64.toBitVec.toNat = x_lushr x.toBitVec.toNat y.toBitVec.toNat := by
  show (x.toBitVec >>> ((y.toInt64.toUInt64 &&& Int64.toUInt64 63).toBitVec % 64)).toNat = _
  rw [xnL_um63]
  show (x.toBitVec >>> (BitVec.ofNat 64 (y.toBitVec.toNat % 64)).toNat).toNat = x.toBitVec.toNat >>> (y.toBitVec.toNat % 64)
  rw [BitVec.toNat_ofNat, Nat.mod_eq_of_lt (by omega : y.toBitVec.toNat % 64 < 2 ^ 64), BitVec.toNat_ushiftRight]
theorem xnL_shr (x : Int64) (y : Int32) : (x >>> (y.toInt64 &&& 63)).toBitVec.toNat = x_lshr x.toBitVec.toNat y.toBitVec.toNat := by
  have h1 : (x >>> (y.toInt64 &&& 63)).toInt = x.toInt >>> (y.toBitVec.toNat % 64) := by
    show (x.toBitVec.sshiftRight' ((y.toInt64 &&& 63).toBitVec.smod 64)).toInt = x.toBitVec.toInt >>> _
    rw [xnL_sm63]
    show (x.toBitVec.sshiftRight (BitVec.ofNat 64 (y.toBitVec.toNat % 64)).toNat).toInt = _
    rw [BitVec.toNat_ofNat, Nat.mod_eq_of_lt (by omega : y.toBitVec.toNat % 64 < 2 ^ 64), BitVec.toInt_sshiftRight]
  have hd : y.toBitVec.toNat % 64 < 64 := Nat.mod_lt _ (by decide)
  show _ = (18446744073709551616 + (xsL x.toBitVec.toNat) >>> (y.toBitVec.toNat % 64) - 9223372036854775808 >>> (y.toBitVec.toNat % 64)) % 18446744073709551616
  generalize hdd : y.toBitVec.toNat % 64 = d at h1 hd
  have hm : (9223372036854775808 : Nat) = 2 ^ (63 - d) * 2 ^ d := by rw [← Nat.pow_add, show 63 - d + d = 63 by omega]
  have h2 := xi_shr x.toInt (xsL x.toBitVec.toNat) d (2 ^ (63 - d)) (2 ^ d) rfl (by rw [← hm]; exact xnL_sg x)
  rw [← hm] at h2
  rw [← h1] at h2
  have h3 := xnL_toInt (x >>> (y.toInt64 &&& 63))
  have h4 := xnL_lt (x >>> (y.toInt64 &&& 63))
  generalize (x >>> (y.toInt64 &&& 63)).toBitVec.toNat = z at h3 h4 ⊢
  generalize (x >>> (y.toInt64 &&& 63)).toInt = q at h2 h3
  generalize xsL x.toBitVec.toNat >>> d = A at h2 ⊢
  have hB : (9223372036854775808 : Nat) >>> d ≤ 9223372036854775808 := by rw [Nat.shiftRight_eq_div_pow]; exact Nat.div_le_self _ _
  generalize (9223372036854775808 : Nat) >>> d = B at h2 hB ⊢
  split at h3 <;> omega
theorem xn_i2l (x : Int32) : x.toInt64.toBitVec.toNat = cond (Nat.blt x.toBitVec.toNat 2147483648) x.toBitVec.toNat (x.toBitVec.toNat + 18446744069414584320) := by
  have h1 := xnL_toInt x.toInt64
  rw [Int32.toInt_toInt64] at h1
  have h2 := xn_toInt x
  have h3 := xn_lt x
  have h4 := xnL_lt x.toInt64
  cases hb : Nat.blt x.toBitVec.toNat 2147483648 with
  | true =>
    have := xb_lt.mp hb
    show _ = x.toBitVec.toNat
    split at h1 <;> split at h2 <;> omega
  | false =>
    have : ¬ x.toBitVec.toNat < 2147483648 := fun h => by rw [xb_lt.mpr h] at hb; cases hb
    show _ = x.toBitVec.toNat + 18446744069414584320
    split at h1 <;> split at h2 <;> omega
theorem xn_l2i (x : Int64) : x.toInt32.toBitVec.toNat = Nat.mod x.toBitVec.toNat 4294967296 := by
  show (x.toBitVec.signExtend 32).toNat = x.toBitVec.toNat % 4294967296
  rw [BitVec.signExtend_eq_setWidth_of_le _ (by decide), BitVec.toNat_setWidth]
theorem xn_neg (x : Int32) : (-x).toBitVec.toNat = Nat.mod (Nat.sub 4294967296 x.toBitVec.toNat) 4294967296 := by
  rw [Int32.toBitVec_neg, BitVec.toNat_neg]; rfl
theorem xn_cmp (x y : Int64) : (lg_cmp x y).toBitVec.toNat = cond (Nat.beq x.toBitVec.toNat y.toBitVec.toNat) 0 (cond (Nat.blt (xsL x.toBitVec.toNat) (xsL y.toBitVec.toNat)) 4294967295 1) := by
  have hx := xnL_sg x
  have hy := xnL_sg y
  cases h1 : Nat.beq x.toBitVec.toNat y.toBitVec.toNat with
  | true =>
    have e : x = y := xnL_inj (xb_eq.mp h1)
    subst e
    simp [lg_cmp]
  | false =>
    have ne : ¬ x = y := fun e => by rw [e, xb_eq.mpr rfl] at h1; cases h1
    cases h2 : Nat.blt (xsL x.toBitVec.toNat) (xsL y.toBitVec.toNat) with
    | true =>
      have h3 := xb_lt.mp h2
      have : ¬ y < x := by rw [Int64.lt_iff_toInt_lt]; omega
      simp [lg_cmp, this, ne]
    | false =>
      have h3 : ¬ xsL x.toBitVec.toNat < xsL y.toBitVec.toNat := fun h => by rw [xb_lt.mpr h] at h2; cases h2
      have h4 : ¬ x.toInt = y.toInt := fun h => ne (Int64.toInt_inj.mp h)
      have : y < x := by rw [Int64.lt_iff_toInt_lt]; omega
      simp [lg_cmp, this]
theorem xn_rem (x y : Int32) (hx : x.toBitVec.toNat < 2147483648) (hy : y.toBitVec.toNat < 2147483648) (h0 : 1 ≤ y.toBitVec.toNat) : (x - x / y * y).toBitVec.toNat = Nat.mod x.toBitVec.toNat y.toBitVec.toNat ∧ (x / y).toBitVec.toNat = Nat.div x.toBitVec.toNat y.toBitVec.toNat := by
  have ex : x = nI x.toBitVec.toNat := xn_inj (by rw [pk_tn (by omega)])
  have ey : y = nI y.toBitVec.toNat := xn_inj (by rw [pk_tn (by omega)])
  have h1 := pk_rem (a := x.toBitVec.toNat) (d := y.toBitVec.toNat) hx (by omega) hy
  have h2 := pk_div (a := x.toBitVec.toNat) (d := y.toBitVec.toNat) hx (by omega) hy
  rw [← ex, ← ey] at h1 h2
  have l1 : x.toBitVec.toNat % y.toBitVec.toNat < y.toBitVec.toNat := Nat.mod_lt _ (by omega)
  have l2 : x.toBitVec.toNat / y.toBitVec.toNat ≤ x.toBitVec.toNat := Nat.div_le_self _ _
  exact ⟨by rw [h1, pk_tn (by omega)]; rfl, by rw [h2, pk_tn (by omega)]; rfl⟩
theorem xnL_tn {n : Nat} (h : n < 2 ^ 64) : (lN n).toBitVec.toNat = n := by
  show (BitVec.ofNat 64 n).toNat = n
  rw [BitVec.toNat_ofNat]
  exact Nat.mod_eq_of_lt h
theorem xnL_rem (x y : Int64) (hx : x.toBitVec.toNat < 9223372036854775808) (hy : y.toBitVec.toNat < 9223372036854775808) (h0 : 1 ≤ y.toBitVec.toNat) : (x - x / y * y).toBitVec.toNat = Nat.mod x.toBitVec.toNat y.toBitVec.toNat ∧ (x / y).toBitVec.toNat = Nat.div x.toBitVec.toNat y.toBitVec.toNat := by
  have ex : x = lN x.toBitVec.toNat := xnL_inj (by rw [xnL_tn (by omega)])
  have ey : y = lN y.toBitVec.toNat := xnL_inj (by rw [xnL_tn (by omega)])
  have h1 := pk_lRem (a := x.toBitVec.toNat) (b := y.toBitVec.toNat) hx (by omega) hy
  have h2 := pk_lDiv (a := x.toBitVec.toNat) (b := y.toBitVec.toNat) hx (by omega) hy
  rw [← ex, ← ey] at h1 h2
  have l1 : x.toBitVec.toNat % y.toBitVec.toNat < y.toBitVec.toNat := Nat.mod_lt _ (by omega)
  have l2 : x.toBitVec.toNat / y.toBitVec.toNat ≤ x.toBitVec.toNat := Nat.div_le_self _ _
  exact ⟨by rw [h1, xnL_tn (by omega)]; rfl, by rw [h2, xnL_tn (by omega)]; rfl⟩
