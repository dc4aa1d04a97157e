/-! what stands apart, reckoned -/
def xGi (g : XE → XV → XV → Option XV) (op : Int32 → Int32 → Int32) : Prop := ∀ (E : XE) (G : XG) (v w u : XV) (x y : Int32), xEok E G → g E v w = some u → xrel G v (.int x) → xrel G w (.int y) → xrel G u (.int (op x y))
def xGl (g : XE → XV → XV → Option XV) (op : Int64 → Int64 → Int64) : Prop := ∀ (E : XE) (G : XG) (v w u : XV) (x y : Int64), xEok E G → g E v w = some u → xrel G v (.long x) → xrel G w (.long y) → xrel G u (.long (op x y))
def xGs (g : XE → XV → XV → Option XV) (op : Int64 → Int32 → Int64) : Prop := ∀ (E : XE) (G : XG) (v w u : XV) (x : Int64) (y : Int32), xEok E G → g E v w = some u → xrel G v (.long x) → xrel G w (.int y) → xrel G u (.long (op x y))
theorem xg0_ok {f : Nat → Nat → Nat} {op : Int32 → Int32 → Int32} (hf : ∀ x y : Int32, (op x y).toBitVec.toNat = f x.toBitVec.toNat y.toBitVec.toNat) : xGi (xg0 f) op := by
  intro E G v w u x y hE h hx hy
  unfold xg0 at h
  split at h
  · rename_i a b ha hb
    cases h
    obtain ⟨x', e1, h1⟩ := xcon_spec hE ha hx
    obtain ⟨y', e2, h2⟩ := xcon_spec hE hb hy
    cases e1
    cases e2
    exact ⟨_, rfl, by rw [hf, h1, h2]⟩
  · cases h
theorem xgn_i {op : Int32 → Int32 → Int32} : xGi xgn op := fun _ _ _ _ _ _ _ _ h => by cases h
theorem xgn_l {op : Int64 → Int64 → Int64} : xGl xgn op := fun _ _ _ _ _ _ _ _ h => by cases h
theorem xgn_s {op : Int64 → Int32 → Int64} : xGs xgn op := fun _ _ _ _ _ _ _ _ h => by cases h
theorem xgadd_ok {E : XE} {G : XG} {q : Nat × Int} {z : Int} {u : XV} {x r : Int32} (hE : xEok E G) (h : xgadd E q z = some u) (hx : x.toInt = (G.2.1 q.1).toInt + q.2) (hr : ∃ k : Int, r.toInt = x.toInt + z + 4294967296 * k) : xrel G u (.int r) := by
  unfold xgadd at h
  split at h
  · rename_i b hb
    have hq := hE _ _ hb
    obtain ⟨k, hk⟩ := hr
    have r1 := r.le_toInt
    have r2 := r.toInt_lt
    cases h1 : decide (-2147483648 ≤ b.1 + (q.2 + z)) with
    | true =>
      rw [h1] at h
      simp only [cond_true] at h
      have h1 := of_decide_eq_true h1
      cases h2 : decide (b.2 + (q.2 + z) < 2147483648) with
      | true =>
        rw [h2] at h
        cases h
        have h2 := of_decide_eq_true h2
        exact ⟨r, rfl, by show r.toInt = (G.2.1 q.1).toInt + (q.2 + z); omega⟩
      | false =>
        rw [h2] at h
        simp only [cond_false] at h
        obtain ⟨h3, h⟩ := x_c1 h
        obtain ⟨h4, h⟩ := x_c1 h
        cases h
        have h3 := of_decide_eq_true h3
        have h4 := of_decide_eq_true h4
        exact ⟨r, rfl, by show r.toInt = (G.2.1 q.1).toInt + (q.2 + z - 4294967296); omega⟩
    | false =>
      rw [h1] at h
      simp only [cond_false] at h
      obtain ⟨h3, h⟩ := x_c1 h
      obtain ⟨h4, h⟩ := x_c1 h
      cases h
      have h3 := of_decide_eq_true h3
      have h4 := of_decide_eq_true h4
      exact ⟨r, rfl, by show r.toInt = (G.2.1 q.1).toInt + (q.2 + z + 4294967296); omega⟩
  · cases h
theorem xadd_mod (x y : Int32) : ∃ k : Int, (x + y).toInt = x.toInt + y.toInt + 4294967296 * k := by
  have h := xn_add x y
  have e : x_iadd x.toBitVec.toNat y.toBitVec.toNat = (x.toBitVec.toNat + y.toBitVec.toNat) % 4294967296 := rfl
  rw [e] at h
  have h1 := xn_toInt x
  have h2 := xn_toInt y
  have h3 := xn_toInt (x + y)
  have l1 := xn_lt x
  have l2 := xn_lt y
  refine ⟨((x + y).toInt - (x.toInt + y.toInt)) / 4294967296, ?_⟩
  split at h1 <;> split at h2 <;> split at h3 <;> omega
theorem xsub_mod (x y : Int32) : ∃ k : Int, (x - y).toInt = x.toInt - y.toInt + 4294967296 * k := by
  have h := xn_sub x y
  have e : x_isub x.toBitVec.toNat y.toBitVec.toNat = (x.toBitVec.toNat + (4294967296 - y.toBitVec.toNat)) % 4294967296 := rfl
  rw [e] at h
  have h1 := xn_toInt x
  have h2 := xn_toInt y
  have h3 := xn_toInt (x - y)
  have l1 := xn_lt x
  have l2 := xn_lt y
  refine ⟨((x - y).toInt - (x.toInt - y.toInt)) / 4294967296, ?_⟩
  split at h1 <;> split at h2 <;> split at h3 <;> omega
theorem xg_add_ok : xGi xg_add (fun x y => x + y) := by
  intro E G v w u x y hE h hx hy
  unfold xg_add at h
  split at h
  · rename_i u' hu
    cases h
    exact xg0_ok xn_add E G v w u x y hE hu hx hy
  · split at h
    · rename_i q n
      obtain ⟨x', e1, h1⟩ := hx
      obtain ⟨y', e2, h2⟩ := hy
      cases e1; cases e2
      refine xgadd_ok hE h h1 ?_
      rw [← h2, xsgn_spec]
      exact xadd_mod x y
    · rename_i n q
      obtain ⟨x', e1, h1⟩ := hx
      obtain ⟨y', e2, h2⟩ := hy
      cases e1; cases e2
      refine xgadd_ok hE h h2 ?_
      rw [← h1, xsgn_spec]
      obtain ⟨k, hk⟩ := xadd_mod x y
      exact ⟨k, by show (x + y).toInt = _; omega⟩
    · cases h
theorem xg_sub_ok : xGi xg_sub (fun x y => x - y) := by
  intro E G v w u x y hE h hx hy
  unfold xg_sub at h
  split at h
  · rename_i u' hu
    cases h
    exact xg0_ok xn_sub E G v w u x y hE hu hx hy
  · split at h
    · rename_i q n
      obtain ⟨x', e1, h1⟩ := hx
      obtain ⟨y', e2, h2⟩ := hy
      cases e1; cases e2
      refine xgadd_ok hE h h1 ?_
      rw [← h2, xsgn_spec]
      obtain ⟨k, hk⟩ := xsub_mod x y
      exact ⟨k, by show (x - y).toInt = _; omega⟩
    · cases h
theorem xgor1_ok {E : XE} {G : XG} {q : Nat × Int} {n : Nat} {u : XV} {x y : Int32} (hE : xEok E G) (h : xgor1 E q n = some u) (hx : x.toInt = (G.2.1 q.1).toInt + q.2) (hy : y.toBitVec.toNat = n) : xrel G u (.int (x ||| y)) := by
  unfold xgor1 at h
  split at h
  · rename_i b hb
    obtain ⟨h1, h⟩ := x_c1 h
    obtain ⟨h2, h⟩ := x_c1 h
    obtain ⟨h3, h⟩ := x_c1 h
    cases h
    have h1 := of_decide_eq_true h1
    have h2 := of_decide_eq_true h2
    obtain ⟨K, hK⟩ : ∃ K, K = Nat.log2 (Int.toNat (b.2 + q.2)) + 1 := ⟨_, rfl⟩
    have h3 : n % 2 ^ (Nat.log2 (Int.toNat (b.2 + q.2)) + 1) = 0 := xb_eq.mp h3
    rw [← hK] at h3
    obtain ⟨q1, q2⟩ := hE _ _ hb
    refine ⟨x ||| y, rfl, ?_⟩
    show (x ||| y).toInt = (G.2.1 q.1).toInt + (q.2 + (n : Int))
    have h2 : b.2 + q.2 + (n : Int) < 2147483648 := h2
    have t1 := xn_toInt x
    have l1 := xn_lt x
    have t3 := xn_toInt (x ||| y)
    have e : (x ||| y).toBitVec.toNat = x.toBitVec.toNat ||| n := by rw [Int32.toBitVec_or, BitVec.toNat_or, hy]
    have hm : x.toBitVec.toNat < 2 ^ K := by
      rw [hK]
      refine Nat.lt_of_le_of_lt (?_ : _ ≤ Int.toNat (b.2 + q.2)) Nat.lt_log2_self
      split at t1 <;> omega
    obtain ⟨c, hc⟩ := Nat.dvd_of_mod_eq_zero h3
    have e3 : x.toBitVec.toNat ||| n = n + x.toBitVec.toNat := by
      rw [Nat.or_comm, hc]
      exact (Nat.two_pow_add_eq_or_of_lt hm c).symm
    rw [e, e3] at t3
    split at t1 <;> split at t3 <;> omega
  · cases h
theorem xg_or_ok : xGi xg_or (fun x y => x ||| y) := by
  intro E G v w u x y hE h hx hy
  unfold xg_or at h
  split at h
  · rename_i u' hu
    cases h
    unfold xgor0 at hu
    split at hu
    · rename_i q n
      obtain ⟨x', e1, h1⟩ := hx
      obtain ⟨y', e2, h2⟩ := hy
      cases e1; cases e2
      exact xgor1_ok hE hu h1 h2
    · rename_i n q
      obtain ⟨x', e1, h1⟩ := hx
      obtain ⟨y', e2, h2⟩ := hy
      cases e1; cases e2
      have := xgor1_ok hE hu h2 h1
      rwa [Int32.or_comm] at this
    · cases hu
  · split at h
    · rename_i a b ha hb
      cases h
      refine xmI_rel fun i hi hm => ?_
      rw [xlor_bit] at hm ⊢
      simp only [Bool.or_eq_false_iff] at hm
      rw [Int32.toBitVec_or, BitVec.getLsbD_or, xbI_spec hE ha hx i hi hm.1, xbI_spec hE hb hy i hi hm.2]
    · cases h
theorem xg_and_ok : xGi xg_and (fun x y => x &&& y) := by
  intro E G v w u x y hE h hx hy
  unfold xg_and at h
  split at h
  · rename_i a b ha hb
    cases h
    refine xmI_rel fun i hi hm => ?_
    rw [Int32.toBitVec_and, BitVec.getLsbD_and]
    exact xandm_bit hm (xbI_spec hE ha hx i hi) (xbI_spec hE hb hy i hi)
  · cases h
theorem xgL_or_ok : xGl xgL_or (fun x y => x ||| y) := by
  intro E G v w u x y hE h hx hy
  unfold xgL_or at h
  split at h
  · rename_i a b ha hb
    cases h
    refine xmL_rel fun i hi hm => ?_
    rw [xlor_bit] at hm ⊢
    simp only [Bool.or_eq_false_iff] at hm
    rw [Int64.toBitVec_or, BitVec.getLsbD_or, xbL_spec hE ha hx i hi hm.1, xbL_spec hE hb hy i hi hm.2]
  · cases h
theorem xgL_and_ok : xGl xgL_and (fun x y => x &&& y) := by
  intro E G v w u x y hE h hx hy
  unfold xgL_and at h
  split at h
  · rename_i a b ha hb
    cases h
    refine xmL_rel fun i hi hm => ?_
    rw [Int64.toBitVec_and, BitVec.getLsbD_and]
    exact xandm_bit hm (xbL_spec hE ha hx i hi) (xbL_spec hE hb hy i hi)
  · cases h
theorem xshl_bit {w a n i : Nat} (hi : i < w) : (Nat.mod (Nat.shiftLeft a n) (2 ^ w)).testBit i = (decide (n ≤ i) && a.testBit (i - n)) := by
  show ((a <<< n) % 2 ^ w).testBit i = _
  rw [Nat.testBit_mod_two_pow, Nat.testBit_shiftLeft]
  simp [hi]
theorem xg_shl_ok : xGi xg_shl (fun x y => x <<< (y &&& 31)) := by
  intro E G v w u x y hE h hx hy
  unfold xg_shl at h
  split at h
  · rename_i a n ha hn
    cases h
    obtain ⟨y', e2, h2⟩ := xcon_spec hE hn hy
    cases e2
    refine xmI_rel fun i hi hm => ?_
    have e : (x <<< (y &&& 31)).toBitVec.getLsbD i = (decide (n % 32 ≤ i) && x.toBitVec.getLsbD (i - n % 32)) := by
      show (x.toBitVec <<< ((y &&& 31).toBitVec.smod 32)).getLsbD i = _
      show (x.toBitVec <<< ((y &&& 31).toBitVec.smod 32).toNat).getLsbD i = _
      rw [xn_sm31, h2, BitVec.getLsbD_shiftLeft]
      by_cases q : i < n % 32
      · simp [hi, q, Nat.not_le.mpr q]
      · simp [hi, q, Nat.not_lt.mp q]
    rw [e]
    have hm : (Nat.mod (Nat.shiftLeft a.1 (n % 32)) (2 ^ 32)).testBit i = false := hm
    rw [xshl_bit hi] at hm
    show _ = (Nat.mod (Nat.shiftLeft a.2 (n % 32)) (2 ^ 32)).testBit i
    rw [xshl_bit hi]
    by_cases q : n % 32 ≤ i
    · simp only [q, decide_true, Bool.true_and] at hm ⊢
      exact xbI_spec hE ha hx _ (by omega) hm
    · simp [q]
  · cases h
theorem xgL_shl_ok : xGs xgL_shl (fun x y => x <<< (y.toInt64 &&& 63)) := by
  intro E G v w u x y hE h hx hy
  unfold xgL_shl at h
  split at h
  · rename_i a n ha hn
    cases h
    obtain ⟨y', e2, h2⟩ := xcon_spec hE hn hy
    cases e2
    refine xmL_rel fun i hi hm => ?_
    have e : (x <<< (y.toInt64 &&& 63)).toBitVec.getLsbD i = (decide (n % 64 ≤ i) && x.toBitVec.getLsbD (i - n % 64)) := by
      show (x.toBitVec <<< ((y.toInt64 &&& 63).toBitVec.smod 64)).getLsbD i = _
      rw [xnL_sm63, h2]
      show (x.toBitVec <<< (BitVec.ofNat 64 (n % 64)).toNat).getLsbD i = _
      rw [BitVec.toNat_ofNat, Nat.mod_eq_of_lt (by omega : n % 64 < 2 ^ 64), BitVec.getLsbD_shiftLeft]
      by_cases q : i < n % 64
      · simp [hi, q, Nat.not_le.mpr q]
      · simp [hi, q, Nat.not_lt.mp q]
    rw [e]
    have hm : (Nat.mod (Nat.shiftLeft a.1 (n % 64)) (2 ^ 64)).testBit i = false := hm
    rw [xshl_bit hi] at hm
    show _ = (Nat.mod (Nat.shiftLeft a.2 (n % 64)) (2 ^ 64)).testBit i
    rw [xshl_bit hi]
    by_cases q : n % 64 ≤ i
    · simp only [q, decide_true, Bool.true_and] at hm ⊢
      exact xbL_spec hE ha hx _ (by omega) hm
    · simp [q]
  · cases h
theorem xgL_shr_ok : xGs xgL_shr (fun x y => x >>> (y.toInt64 &&& 63)) := by
  intro E G v w u x y hE h hx hy
  unfold xgL_shr at h
  split at h
  · rename_i a n ha hn
    obtain ⟨l1, h⟩ := x_c1 h
    obtain ⟨l2, h⟩ := x_c1 h
    cases h
    have l1 := xb_lt.mp l1
    have l2 := xb_lt.mp l2
    obtain ⟨y', e2, h2⟩ := xcon_spec hE hn hy
    cases e2
    have b63 : ∀ z : Nat, z < 9223372036854775808 → ∀ j, 63 ≤ j → z.testBit j = false := fun z hz j hj =>
      Nat.testBit_lt_two_pow (Nat.lt_of_lt_of_le hz (by rw [show (9223372036854775808 : Nat) = 2 ^ 63 from rfl]; exact Nat.pow_le_pow_right (by decide) hj))
    have hs := xbL_spec hE ha hx
    have hmsb : x.toBitVec.msb = false := by
      rw [BitVec.msb_eq_getLsbD_last]
      rw [hs 63 (by decide) (b63 _ l1 63 (Nat.le_refl _))]
      exact b63 _ l2 63 (Nat.le_refl _)
    refine xmL_rel fun i hi hm => ?_
    have e : (x >>> (y.toInt64 &&& 63)).toBitVec.getLsbD i = x.toBitVec.getLsbD (n % 64 + i) := by
      show (x.toBitVec.sshiftRight' ((y.toInt64 &&& 63).toBitVec.smod 64)).getLsbD i = _
      rw [xnL_sm63, h2]
      show (x.toBitVec.sshiftRight (BitVec.ofNat 64 (n % 64)).toNat).getLsbD i = _
      rw [BitVec.toNat_ofNat, Nat.mod_eq_of_lt (by omega : n % 64 < 2 ^ 64), BitVec.getLsbD_sshiftRight, hmsb]
      by_cases q : n % 64 + i < 64
      · simp [q, Nat.not_le.mpr hi]
      · simp [q, Nat.not_le.mpr hi, BitVec.getLsbD_of_ge x.toBitVec (n % 64 + i) (by omega)]
    rw [e]
    have hm : (a.1 >>> (n % 64)).testBit i = false := hm
    rw [Nat.testBit_shiftRight] at hm
    show _ = (a.2 >>> (n % 64)).testBit i
    rw [Nat.testBit_shiftRight]
    by_cases q : n % 64 + i < 64
    · exact hs _ q hm
    · rw [BitVec.getLsbD_of_ge x.toBitVec (n % 64 + i) (by omega)]
      exact (b63 _ l2 _ (by omega)).symm
  · cases h
