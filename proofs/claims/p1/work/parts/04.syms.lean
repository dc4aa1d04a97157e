/-! what stands apart: intervals, bits, decisions -/
theorem xsgn_spec (x : Int32) : xsgn x.toBitVec.toNat = x.toInt := by
  have h := xn_toInt x
  unfold xsgn
  cases hb : Nat.blt x.toBitVec.toNat 2147483648 with
  | true =>
    have := xb_lt.mp hb
    show (x.toBitVec.toNat : Int) = _
    split at h <;> omega
  | false =>
    have : ¬ x.toBitVec.toNat < 2147483648 := fun h => by rw [xb_lt.mpr h] at hb; cases hb
    show (x.toBitVec.toNat : Int) - 4294967296 = _
    split at h <;> omega
theorem xsgnL_spec (x : Int64) : xsgnL x.toBitVec.toNat = x.toInt := by
  have h := xnL_toInt x
  unfold xsgnL
  cases hb : Nat.blt x.toBitVec.toNat 9223372036854775808 with
  | true =>
    have := xb_lt.mp hb
    show (x.toBitVec.toNat : Int) = _
    split at h <;> omega
  | false =>
    have : ¬ x.toBitVec.toNat < 9223372036854775808 := fun h => by rw [xb_lt.mpr h] at hb; cases hb
    show (x.toBitVec.toNat : Int) - 18446744073709551616 = _
    split at h <;> omega
theorem x_c1 {α : Type} {b : Bool} {x : Option α} {r : α} (h : cond b x none = some r) : b = true ∧ x = some r := x_cond h rfl
theorem x_c0 {α : Type} {b : Bool} {x : Option α} {r : α} (h : cond b none x = some r) : b = false ∧ x = some r := by
  cases b with
  | true => cases h
  | false => exact ⟨rfl, h⟩
theorem xle_of_bits {n : Nat} (x : BitVec n) (m : Nat) (h : ∀ i, i < n → m.testBit i = false → x.getLsbD i = false) : x.toNat ≤ m := by
  have e : x.toNat = x.toNat &&& m := by
    apply Nat.eq_of_testBit_eq
    intro i
    rw [Nat.testBit_and]
    by_cases hi : i < n
    · cases hm : m.testBit i with
      | true => simp
      | false =>
        have := h i hi hm
        rw [BitVec.getLsbD] at this
        rw [this]; rfl
    · have : x.toNat.testBit i = false := by
        have := BitVec.getLsbD_of_ge x i (by omega)
        rwa [BitVec.getLsbD] at this
      rw [this]; rfl
  rw [e]
  exact Nat.and_le_right
theorem xivI_spec {E : XE} {G : XG} {v : XV} {q : Int × Int} {w : Value} (hE : xEok E G) (h : xivI E v = some q) (hr : xrel G v w) : ∃ x : Int32, w = .int x ∧ q.1 ≤ x.toInt ∧ x.toInt ≤ q.2 := by
  rcases v with n | n | n | n | n | n | n
  · cases h
    obtain ⟨x, hx, hn⟩ := hr
    exact ⟨x, hx, by rw [← hn, xsgn_spec]; exact Int.le_refl _, by rw [← hn, xsgn_spec]; exact Int.le_refl _⟩
  · cases h
  · cases h
  · obtain ⟨x, hx, hn⟩ := hr
    simp only [xivI] at h
    split at h
    · rename_i b hb
      cases h
      have := hE _ _ hb
      exact ⟨x, hx, by rw [hn]; show b.1 + n.2 ≤ _; omega, by rw [hn]; show _ ≤ b.2 + n.2; omega⟩
    · cases h
  · cases h
  · obtain ⟨x, hx, hn⟩ := hr
    simp only [xivI] at h
    obtain ⟨h1, h2⟩ := x_c1 h
    obtain ⟨h3, h4⟩ := x_c1 h2
    cases h4
    have hb := xb_eq.mp h1
    have hm := xb_lt.mp h3
    have hle : x.toBitVec.toNat ≤ n.1 := xle_of_bits _ _ fun i hi hz => by rw [hn i hi hz, hb]; exact Nat.zero_testBit i
    have := xn_toInt x
    refine ⟨x, hx, ?_, ?_⟩
    · show (0 : Int) ≤ _; split at this <;> omega
    · show _ ≤ (n.1 : Int); split at this <;> omega
  · cases h
theorem xivL_spec {E : XE} {G : XG} {v : XV} {q : Int × Int} {w : Value} (hE : xEok E G) (h : xivL E v = some q) (hr : xrel G v w) : ∃ x : Int64, w = .long x ∧ q.1 ≤ x.toInt ∧ x.toInt ≤ q.2 := by
  rcases v with n | n | n | n | n | n | n
  · cases h
  · cases h
    obtain ⟨x, hx, hn⟩ := hr
    exact ⟨x, hx, by rw [← hn, xsgnL_spec]; exact Int.le_refl _, by rw [← hn, xsgnL_spec]; exact Int.le_refl _⟩
  · cases h
  · cases h
  · obtain ⟨x, hx, hn⟩ := hr
    simp only [xivL] at h
    split at h
    · rename_i b hb
      cases h
      have := hE _ _ hb
      exact ⟨x, hx, by rw [hn]; show b.1 + n.2 ≤ _; omega, by rw [hn]; show _ ≤ b.2 + n.2; omega⟩
    · cases h
  · cases h
  · obtain ⟨x, hx, hn⟩ := hr
    simp only [xivL] at h
    obtain ⟨h1, h2⟩ := x_c1 h
    obtain ⟨h3, h4⟩ := x_c1 h2
    cases h4
    have hb := xb_eq.mp h1
    have hm := xb_lt.mp h3
    have hle : x.toBitVec.toNat ≤ n.1 := xle_of_bits _ _ fun i hi hz => by rw [hn i hi hz, hb]; exact Nat.zero_testBit i
    have := xnL_toInt x
    refine ⟨x, hx, ?_, ?_⟩
    · show (0 : Int) ≤ _; split at this <;> omega
    · show _ ≤ (n.1 : Int); split at this <;> omega
theorem xnat_spec (x : Int32) : xnat x.toInt = x.toBitVec.toNat := by
  have h1 := xn_toInt x
  have h2 := xn_lt x
  unfold xnat
  split at h1 <;> omega
theorem xcon_spec {E : XE} {G : XG} {v : XV} {n : Nat} {w : Value} (hE : xEok E G) (h : xcon E v = some n) (hr : xrel G v w) : ∃ x : Int32, w = .int x ∧ x.toBitVec.toNat = n := by
  rcases v with k | k | k | k | k | k | k
  · cases h; exact hr
  · cases h
  · cases h
  · obtain ⟨x, hx, hn⟩ := hr
    simp only [xcon] at h
    split at h
    · rename_i b hb
      obtain ⟨h1, h2⟩ := x_c1 h
      cases h2
      have := hE _ _ hb
      have h3 := of_decide_eq_true h1
      refine ⟨x, hx, ?_⟩
      rw [← xnat_spec]
      congr 1
      omega
    · cases h
  · cases h
  · cases h
  · cases h
theorem xfull_bit {w h x i : Nat} (hw : x < 2 ^ w) (hx : x ≤ h) (hb : (xfull w h).testBit i = false) : x.testBit i = false := by
  have e : xfull w h = 2 ^ (min w (Nat.log2 h + 1)) - 1 := rfl
  rw [e, Nat.testBit_two_pow_sub_one] at hb
  have hi : min w (Nat.log2 h + 1) ≤ i := by simpa using hb
  apply Nat.testBit_lt_two_pow
  have h2 : x < 2 ^ (Nat.log2 h + 1) := Nat.lt_of_le_of_lt hx (Nat.lt_log2_self)
  rcases Nat.le_total w (Nat.log2 h + 1) with q | q
  · rw [Nat.min_eq_left q] at hi
    exact Nat.lt_of_lt_of_le hw (Nat.pow_le_pow_right (by decide) hi)
  · rw [Nat.min_eq_right q] at hi
    exact Nat.lt_of_lt_of_le h2 (Nat.pow_le_pow_right (by decide) hi)
theorem xall_bit {w i : Nat} (hi : i < w) (h : (2 ^ w - 1).testBit i = false) : False := by
  rw [Nat.testBit_two_pow_sub_one] at h
  simp [hi] at h
theorem xspan_bit {lo hi n i : Nat} (h1 : lo ≤ n) (h2 : n ≤ hi) (hb : (xspan lo hi).1.testBit i = false) : n.testBit i = (xspan lo hi).2.testBit i := by
  have e1 : (xspan lo hi).1 = 2 ^ xspk lo hi - 1 := rfl
  have e2 : (xspan lo hi).2 = (lo >>> xspk lo hi) <<< xspk lo hi := rfl
  rw [e1, Nat.testBit_two_pow_sub_one] at hb
  have hk : xspk lo hi ≤ i := by simpa using hb
  have hs : lo >>> xspk lo hi = hi >>> xspk lo hi := by
    cases hq : Nat.beq lo hi with
    | true => rw [xb_eq.mp hq]
    | false =>
      have e3 : xspk lo hi = Nat.log2 (lo ^^^ hi) + 1 := by
        show cond (Nat.beq lo hi) 0 _ = _
        rw [hq]
        rfl
      apply Nat.eq_of_testBit_eq
      intro j
      rw [Nat.testBit_shiftRight, Nat.testBit_shiftRight]
      have hx : (lo ^^^ hi).testBit (xspk lo hi + j) = false := Nat.testBit_lt_two_pow (Nat.lt_of_lt_of_le Nat.lt_log2_self (Nat.pow_le_pow_right (by decide) (by omega)))
      rw [Nat.testBit_xor] at hx
      revert hx
      cases lo.testBit (xspk lo hi + j) <;> cases hi.testBit (xspk lo hi + j) <;> simp
  have hn : n >>> xspk lo hi = lo >>> xspk lo hi := by
    have a1 : lo >>> xspk lo hi ≤ n >>> xspk lo hi := by rw [Nat.shiftRight_eq_div_pow, Nat.shiftRight_eq_div_pow]; exact Nat.div_le_div_right h1
    have a2 : n >>> xspk lo hi ≤ hi >>> xspk lo hi := by rw [Nat.shiftRight_eq_div_pow, Nat.shiftRight_eq_div_pow]; exact Nat.div_le_div_right h2
    omega
  rw [e2, Nat.testBit_shiftLeft, decide_eq_true (show i ≥ xspk lo hi from hk), Bool.true_and, ← hn, Nat.testBit_shiftRight]
  congr 1
  omega
theorem xbI_spec {E : XE} {G : XG} {v : XV} {q : Nat × Nat} {x : Int32} (hE : xEok E G) (h : xbI E v = some q) (hr : xrel G v (.int x)) : ∀ i, i < 32 → q.1.testBit i = false → x.toBitVec.getLsbD i = q.2.testBit i := by
  rcases v with k | k | k | k | k | k | k
  · cases h
    obtain ⟨y, hy, hn⟩ := hr
    cases hy
    intro i hi _
    rw [← hn]; rfl
  · cases h
  · cases h
  · obtain ⟨y, hy, hn⟩ := hr
    cases hy
    simp only [xbI] at h
    split at h
    · rename_i b hb
      have hq := hE _ _ hb
      have ht := xn_toInt x
      have hl := xn_lt x
      cases hd : decide (0 ≤ b.1 + k.2) with
      | true =>
        rw [hd] at h
        have hd := of_decide_eq_true hd
        cases hd2 : decide (b.2 + k.2 < 2147483648) with
        | true =>
          rw [hd2] at h
          cases h
          intro i hi hz
          exact xspan_bit (by split at ht <;> omega) (by split at ht <;> omega) hz
        | false =>
          rw [hd2] at h
          cases h
          exact fun i hi hz => (xall_bit (w := 32) hi hz).elim
      | false =>
        rw [hd] at h
        cases h
        exact fun i hi hz => (xall_bit (w := 32) hi hz).elim
    · cases h
  · cases h
  · cases h
    obtain ⟨y, hy, hn⟩ := hr
    cases hy
    exact hn
  · cases h
theorem xbL_spec {E : XE} {G : XG} {v : XV} {q : Nat × Nat} {x : Int64} (hE : xEok E G) (h : xbL E v = some q) (hr : xrel G v (.long x)) : ∀ i, i < 64 → q.1.testBit i = false → x.toBitVec.getLsbD i = q.2.testBit i := by
  rcases v with k | k | k | k | k | k | k
  · cases h
  · cases h
    obtain ⟨y, hy, hn⟩ := hr
    cases hy
    intro i hi _
    rw [← hn]; rfl
  · cases h
  · cases h
  · obtain ⟨y, hy, hn⟩ := hr
    cases hy
    simp only [xbL] at h
    split at h
    · rename_i b hb
      have hq := hE _ _ hb
      have ht := xnL_toInt x
      have hl := xnL_lt x
      cases hd : decide (0 ≤ b.1 + k.2) with
      | true =>
        have hd := of_decide_eq_true hd
        rw [show decide (0 ≤ b.1 + k.2) = true from decide_eq_true hd] at h
        cases h
        intro i hi hz
        have h0 : x.toBitVec.toNat ≤ Int.toNat (b.2 + k.2) := by split at ht <;> omega
        rw [BitVec.getLsbD, xfull_bit hl h0 hz]
        exact (Nat.zero_testBit i).symm
      | false =>
        rw [hd] at h
        cases h
        exact fun i hi hz => (xall_bit (w := 64) hi hz).elim
    · cases h
  · cases h
  · cases h
    obtain ⟨y, hy, hn⟩ := hr
    cases hy
    exact hn
theorem xmI_rel {G : XG} {m b : Nat} {x : Int32} (h : ∀ i, i < 32 → m.testBit i = false → x.toBitVec.getLsbD i = b.testBit i) : xrel G (xmI m b) (.int x) := by
  unfold xmI
  cases hm : Nat.beq m 0 with
  | true =>
    have hm := xb_eq.mp hm
    refine ⟨x, rfl, ?_⟩
    apply Nat.eq_of_testBit_eq
    intro i
    show _ = (b % 2 ^ 32).testBit i
    rw [Nat.testBit_mod_two_pow]
    by_cases hi : i < 32
    · have := h i hi (by rw [hm]; exact Nat.zero_testBit i)
      rw [BitVec.getLsbD] at this
      simp [this, hi]
    · have := BitVec.getLsbD_of_ge x.toBitVec i (by omega)
      rw [BitVec.getLsbD] at this
      simp [this, hi]
  | false => exact ⟨x, rfl, h⟩
theorem xmL_rel {G : XG} {m b : Nat} {x : Int64} (h : ∀ i, i < 64 → m.testBit i = false → x.toBitVec.getLsbD i = b.testBit i) : xrel G (xmL m b) (.long x) := by
  unfold xmL
  cases hm : Nat.beq m 0 with
  | true =>
    have hm := xb_eq.mp hm
    refine ⟨x, rfl, ?_⟩
    apply Nat.eq_of_testBit_eq
    intro i
    show _ = (b % 2 ^ 64).testBit i
    rw [Nat.testBit_mod_two_pow]
    by_cases hi : i < 64
    · have := h i hi (by rw [hm]; exact Nat.zero_testBit i)
      rw [BitVec.getLsbD] at this
      simp [this, hi]
    · have := BitVec.getLsbD_of_ge x.toBitVec i (by omega)
      rw [BitVec.getLsbD] at this
      simp [this, hi]
  | false => exact ⟨x, rfl, h⟩
theorem xandm_bit {a b : Nat × Nat} {i : Nat} {u v : Bool} (h : (xandm a b).testBit i = false) (hu : a.1.testBit i = false → u = a.2.testBit i) (hv : b.1.testBit i = false → v = b.2.testBit i) : (u && v) = (Nat.land a.2 b.2).testBit i := by
  have e : (xandm a b).testBit i = ((a.1.testBit i && (b.1.testBit i || b.2.testBit i)) || (b.1.testBit i && (a.1.testBit i || a.2.testBit i))) := by
    show ((a.1 &&& (b.1 ||| b.2)) ||| (b.1 &&& (a.1 ||| a.2))).testBit i = _
    simp only [Nat.testBit_or, Nat.testBit_and]
  rw [e] at h
  have e2 : (Nat.land a.2 b.2).testBit i = (a.2.testBit i && b.2.testBit i) := Nat.testBit_and a.2 b.2 i
  rw [e2]
  revert hu hv h
  cases a.1.testBit i <;> cases b.1.testBit i <;> cases a.2.testBit i <;> cases b.2.testBit i <;> cases u <;> cases v <;> simp
theorem xlor_bit {a b i : Nat} : (Nat.lor a b).testBit i = (a.testBit i || b.testBit i) := Nat.testBit_or a b i
/-- a decision says what is so -/
def xDs (d : Int → Int → Int → Int → Option Bool) (P : Int → Int → Prop) : Prop := ∀ a b c e r x y, d a b c e = some r → a ≤ x → x ≤ b → c ≤ y → y ≤ e → (r = true ↔ P x y)
theorem xd_lt : xDs d_lt (fun x y => x < y) := by
  intro a b c e r x y h h1 h2 h3 h4
  unfold d_lt at h
  by_cases q : b < c
  · rw [decide_eq_true q] at h; cases h; simp; omega
  · rw [decide_eq_false q] at h
    obtain ⟨q2, q3⟩ := x_c1 h
    cases q3
    have := of_decide_eq_true q2
    simp; omega
theorem xd_eq : xDs d_eq (fun x y => x = y) := by
  intro a b c e r x y h h1 h2 h3 h4
  unfold d_eq at h
  by_cases q : b < c
  · rw [decide_eq_true q] at h; cases h; simp; omega
  · rw [decide_eq_false q] at h
    by_cases q2 : e < a
    · have h : cond (decide (e < a)) (some false) _ = some r := h
      rw [decide_eq_true q2] at h; cases h; simp; omega
    · have h : cond (decide (e < a)) (some false) _ = some r := h
      rw [decide_eq_false q2] at h
      obtain ⟨h5, h⟩ := x_c1 h
      obtain ⟨h6, h⟩ := x_c1 h
      obtain ⟨h7, h⟩ := x_c1 h
      cases h
      have h5 := of_decide_eq_true h5
      have h6 := of_decide_eq_true h6
      have h7 := of_decide_eq_true h7
      simp; omega
theorem xd_neg {d : Int → Int → Int → Int → Option Bool} {P : Int → Int → Prop} (h : xDs d P) : xDs (fun a b c e => d_neg (d a b c e)) (fun x y => ¬ P x y) := by
  intro a b c e r x y hd h1 h2 h3 h4
  have hd : d_neg (d a b c e) = some r := hd
  cases hq : d a b c e with
  | none => rw [hq] at hd; cases hd
  | some z =>
    rw [hq] at hd
    cases hd
    have := h a b c e z x y hq h1 h2 h3 h4
    cases z <;> simp_all
theorem xd_swap {d : Int → Int → Int → Int → Option Bool} {P : Int → Int → Prop} (h : xDs d P) : xDs (fun a b c e => d c e a b) (fun x y => P y x) := by
  intro a b c e r x y hd h1 h2 h3 h4
  exact h c e a b r y x hd h3 h4 h1 h2
theorem xd_iff {d : Int → Int → Int → Int → Option Bool} {P Q : Int → Int → Prop} (h : xDs d P) (hq : ∀ x y, P x y ↔ Q x y) : xDs d Q := fun a b c e r x y hd h1 h2 h3 h4 => (h a b c e r x y hd h1 h2 h3 h4).trans (hq x y)
theorem xd_ne : xDs d_ne (fun x y => ¬ x = y) := xd_neg xd_eq
theorem xd_ge : xDs d_ge (fun x y => y ≤ x) := xd_iff (xd_neg xd_lt) fun x y => by omega
theorem xd_gt : xDs d_gt (fun x y => y < x) := xd_swap xd_lt
theorem xd_le : xDs d_le (fun x y => x ≤ y) := xd_iff (xd_swap (xd_neg xd_lt)) fun x y => by omega
