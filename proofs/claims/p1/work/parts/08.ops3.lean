theorem lc_lt {x y : Int64} : lg_cmp x y < 0 ↔ x < y := by
  unfold lg_cmp
  rcases lg_tri x y with h | h | h
  · have h1 := lg_lt_not h
    have h2 := lg_lt_ne h
    simp [h1, h2, h]
  · subst h; simp [Int64.lt_irrefl]
  · have h1 := lg_lt_not h
    simp [h, h1]
theorem lc_gt {x y : Int64} : 0 < lg_cmp x y ↔ y < x := by
  unfold lg_cmp
  rcases lg_tri x y with h | h | h
  · have h1 := lg_lt_not h
    have h2 := lg_lt_ne h
    simp [h1, h2]
  · subst h; simp [Int64.lt_irrefl]
  · simp [h]
theorem lc_eq {x y : Int64} : lg_cmp x y = 0 ↔ x = y := by
  unfold lg_cmp
  rcases lg_tri x y with h | h | h
  · have h1 := lg_lt_not h
    have h2 := lg_lt_ne h
    simp [h1, h2]
  · subst h; simp [Int64.lt_irrefl]
  · have h2 := lg_lt_ne h
    simp [h, Ne.symm h2]
theorem lc_ge {x y : Int64} : 0 ≤ lg_cmp x y ↔ y ≤ x := by
  rw [← Int32.not_lt, lc_lt, Int64.not_lt]
theorem lc_le {x y : Int64} : lg_cmp x y ≤ 0 ↔ x ≤ y := by
  rw [← Int32.not_lt, lc_gt, Int64.not_lt]
theorem xpL_eq (x y : Int64) : pL_eq x.toBitVec.toNat y.toBitVec.toNat = true ↔ x = y := by
  show Nat.beq _ _ = true ↔ _
  rw [xb_eq]
  exact ⟨xnL_inj, fun h => by rw [h]⟩
theorem xpL_ne (x y : Int64) : pL_ne x.toBitVec.toNat y.toBitVec.toNat = true ↔ ¬ x = y := by
  rw [← xpL_eq]
  show cond (Nat.beq _ _) false true = true ↔ ¬ (Nat.beq _ _ = true)
  cases Nat.beq x.toBitVec.toNat y.toBitVec.toNat <;> simp
theorem xpL_lt (x y : Int64) : pL_lt x.toBitVec.toNat y.toBitVec.toNat = true ↔ x < y := by
  show Nat.blt _ _ = true ↔ _
  rw [xb_lt, Int64.lt_iff_toInt_lt]
  have h1 := xnL_sg x
  have h2 := xnL_sg y
  omega
theorem xpL_ge (x y : Int64) : pL_ge x.toBitVec.toNat y.toBitVec.toNat = true ↔ y ≤ x := by
  show Nat.ble _ _ = true ↔ _
  rw [xb_le, Int64.le_iff_toInt_le]
  have h1 := xnL_sg x
  have h2 := xnL_sg y
  omega
theorem xpL_gt (x y : Int64) : pL_gt x.toBitVec.toNat y.toBitVec.toNat = true ↔ y < x := by
  show Nat.blt _ _ = true ↔ _
  rw [xb_lt, Int64.lt_iff_toInt_lt]
  have h1 := xnL_sg x
  have h2 := xnL_sg y
  omega
theorem xpL_le (x y : Int64) : pL_le x.toBitVec.toNat y.toBitVec.toNat = true ↔ x ≤ y := by
  show Nat.ble _ _ = true ↔ _
  rw [xb_le, Int64.le_iff_toInt_le]
  have h1 := xnL_sg x
  have h2 := xnL_sg y
  omega
theorem xcnd {b : Bool} {t : Nat} {ls : XL} {st : List XV} {h : XH} {E : XE} {k : XK} {r : XR} (hr : cond b (some (.inl (t, (ls, (st, h))))) (k E ls st h) = some r) : (b = true ∧ r = .inl (t, (ls, (st, h)))) ∨ (b = false ∧ k E ls st h = some r) := by
  cases b with
  | true => exact Or.inl ⟨rfl, (Option.some.inj hr).symm⟩
  | false => exact Or.inr ⟨rfl, hr⟩
section XS
variable {Ts NW : List Cond} {MT : Nat → XM} {cc : ByteArray} {own : String} {a : XA} {pc : Nat} {k : XK}
theorem x_ifG (hR : xRm a) {p : Nat → Bool} {d : Int → Int → Int → Int → Option Bool} {t n : Nat} {P : Int32 → Prop} {R' : Int → Int → Prop} (hp : ∀ x : Int32, p x.toBitVec.toNat = true ↔ P x) (hd : xDs d R') (hq : ∀ x : Int32, R' x.toInt 0 ↔ P x)
    (rT : ∀ x lsM stM, P x → xP Ts own (xNL a) cc pc lsM (.int x :: stM) t lsM stM) (rF : ∀ x lsM stM, ¬ P x → xP Ts own (xNL a) cc pc lsM (.int x :: stM) (pc + n) lsM stM)
    (hk : xSK Ts NW MT cc own a (pc + n) k) : xSK Ts NW MT cc own a pc (X_if p d t k) :=
  x_step hR fun E ls st h r hr => by
    unfold X_if at hr
    split at hr
    · rename_i c st'
      rcases xcnd hr with ⟨hb, rfl⟩ | ⟨hb, hr⟩
      · refine ⟨t, ls, st', Or.inr rfl, fun _ _ lsM stM b1 b2 => ?_⟩
        rcases stM with _ | ⟨w, stM⟩
        · exact b2.elim
        · obtain ⟨⟨x, rfl, hx⟩, b3⟩ := b2
          exact ⟨lsM, stM, b1, b3, rT x lsM stM ((hp x).mp (by rw [hx]; exact hb))⟩
      · refine ⟨pc + n, ls, st', Or.inl ⟨k, hk, hr⟩, fun _ _ lsM stM b1 b2 => ?_⟩
        rcases stM with _ | ⟨w, stM⟩
        · exact b2.elim
        · obtain ⟨⟨x, rfl, hx⟩, b3⟩ := b2
          exact ⟨lsM, stM, b1, b3, rF x lsM stM fun q => by have := (hp x).mpr q; rw [hx, hb] at this; cases this⟩
    · rename_i v st' _
      split at hr
      · rename_i q hv
        split at hr
        · rename_i b hb
          rcases xcnd hr with ⟨rfl, rfl⟩ | ⟨rfl, hr⟩
          · refine ⟨t, ls, st', Or.inr rfl, fun hE _ lsM stM b1 b2 => ?_⟩
            rcases stM with _ | ⟨w, stM⟩
            · exact b2.elim
            · obtain ⟨x, rfl, l1, l2⟩ := xivI_spec hE hv b2.1
              exact ⟨lsM, stM, b1, b2.2, rT x lsM stM ((hq x).mp ((hd _ _ _ _ _ _ _ hb l1 l2 (Int.le_refl _) (Int.le_refl _)).mp rfl))⟩
          · refine ⟨pc + n, ls, st', Or.inl ⟨k, hk, hr⟩, fun hE _ lsM stM b1 b2 => ?_⟩
            rcases stM with _ | ⟨w, stM⟩
            · exact b2.elim
            · obtain ⟨x, rfl, l1, l2⟩ := xivI_spec hE hv b2.1
              exact ⟨lsM, stM, b1, b2.2, rF x lsM stM fun q => by have := (hd _ _ _ _ _ _ _ hb l1 l2 (Int.le_refl _) (Int.le_refl _)).mpr ((hq x).mpr q); cases this⟩
        · cases hr
      · cases hr
    · cases hr
theorem x_if2G (hR : xRm a) {p : Nat → Nat → Bool} {d : Int → Int → Int → Int → Option Bool} {t n : Nat} {P : Int32 → Int32 → Prop} {R' : Int → Int → Prop} (hp : ∀ x y : Int32, p x.toBitVec.toNat y.toBitVec.toNat = true ↔ P x y) (hd : xDs d R') (hq : ∀ x y : Int32, R' x.toInt y.toInt ↔ P x y)
    (rT : ∀ x y lsM stM, P x y → xP Ts own (xNL a) cc pc lsM (.int y :: .int x :: stM) t lsM stM) (rF : ∀ x y lsM stM, ¬ P x y → xP Ts own (xNL a) cc pc lsM (.int y :: .int x :: stM) (pc + n) lsM stM)
    (hk : xSK Ts NW MT cc own a (pc + n) k) : xSK Ts NW MT cc own a pc (X_if2 p d t k) :=
  x_step hR fun E ls st h r hr => by
    unfold X_if2 at hr
    split at hr
    · rename_i c2 c1 st'
      rcases xcnd hr with ⟨hb, rfl⟩ | ⟨hb, hr⟩
      · refine ⟨t, ls, st', Or.inr rfl, fun _ _ lsM stM b1 b2 => ?_⟩
        rcases stM with _ | ⟨w1, _ | ⟨w2, stM⟩⟩
        · exact b2.elim
        · exact b2.2.elim
        · obtain ⟨⟨y, rfl, hy⟩, ⟨x, rfl, hx⟩, b3⟩ := b2
          exact ⟨lsM, stM, b1, b3, rT x y lsM stM ((hp x y).mp (by rw [hx, hy]; exact hb))⟩
      · refine ⟨pc + n, ls, st', Or.inl ⟨k, hk, hr⟩, fun _ _ lsM stM b1 b2 => ?_⟩
        rcases stM with _ | ⟨w1, _ | ⟨w2, stM⟩⟩
        · exact b2.elim
        · exact b2.2.elim
        · obtain ⟨⟨y, rfl, hy⟩, ⟨x, rfl, hx⟩, b3⟩ := b2
          exact ⟨lsM, stM, b1, b3, rF x y lsM stM fun q => by have := (hp x y).mpr q; rw [hx, hy, hb] at this; cases this⟩
    · rename_i w v st' _
      split at hr
      · rename_i q1 q2 hv hw
        split at hr
        · rename_i b hb
          rcases xcnd hr with ⟨rfl, rfl⟩ | ⟨rfl, hr⟩
          · refine ⟨t, ls, st', Or.inr rfl, fun hE _ lsM stM b1 b2 => ?_⟩
            rcases stM with _ | ⟨w1, _ | ⟨w2, stM⟩⟩
            · exact b2.elim
            · exact b2.2.elim
            · obtain ⟨y, rfl, l3, l4⟩ := xivI_spec hE hw b2.1
              obtain ⟨x, rfl, l1, l2⟩ := xivI_spec hE hv b2.2.1
              exact ⟨lsM, stM, b1, b2.2.2, rT x y lsM stM ((hq x y).mp ((hd _ _ _ _ _ _ _ hb l1 l2 l3 l4).mp rfl))⟩
          · refine ⟨pc + n, ls, st', Or.inl ⟨k, hk, hr⟩, fun hE _ lsM stM b1 b2 => ?_⟩
            rcases stM with _ | ⟨w1, _ | ⟨w2, stM⟩⟩
            · exact b2.elim
            · exact b2.2.elim
            · obtain ⟨y, rfl, l3, l4⟩ := xivI_spec hE hw b2.1
              obtain ⟨x, rfl, l1, l2⟩ := xivI_spec hE hv b2.2.1
              exact ⟨lsM, stM, b1, b2.2.2, rF x y lsM stM fun q => by have := (hd _ _ _ _ _ _ _ hb l1 l2 l3 l4).mpr ((hq x y).mpr q); cases this⟩
        · cases hr
      · cases hr
    · cases hr
theorem x_lcG (hR : xRm a) {p : Nat → Nat → Bool} {d : Int → Int → Int → Int → Option Bool} {t n : Nat} {P : Int64 → Int64 → Prop} {R' : Int → Int → Prop} (hp : ∀ x y : Int64, p x.toBitVec.toNat y.toBitVec.toNat = true ↔ P x y) (hd : xDs d R') (hq : ∀ x y : Int64, R' x.toInt y.toInt ↔ P x y)
    (rT : ∀ x y lsM stM, P x y → xP Ts own (xNL a) cc pc lsM (.long y :: .long x :: stM) t lsM stM) (rF : ∀ x y lsM stM, ¬ P x y → xP Ts own (xNL a) cc pc lsM (.long y :: .long x :: stM) (pc + n) lsM stM)
    (hk : xSK Ts NW MT cc own a (pc + n) k) : xSK Ts NW MT cc own a pc (X_lcif p d t k) :=
  x_step hR fun E ls st h r hr => by
    unfold X_lcif at hr
    split at hr
    · rename_i c2 c1 st'
      rcases xcnd hr with ⟨hb, rfl⟩ | ⟨hb, hr⟩
      · refine ⟨t, ls, st', Or.inr rfl, fun _ _ lsM stM b1 b2 => ?_⟩
        rcases stM with _ | ⟨w1, _ | ⟨w2, stM⟩⟩
        · exact b2.elim
        · exact b2.2.elim
        · obtain ⟨⟨y, rfl, hy⟩, ⟨x, rfl, hx⟩, b3⟩ := b2
          exact ⟨lsM, stM, b1, b3, rT x y lsM stM ((hp x y).mp (by rw [hx, hy]; exact hb))⟩
      · refine ⟨pc + n, ls, st', Or.inl ⟨k, hk, hr⟩, fun _ _ lsM stM b1 b2 => ?_⟩
        rcases stM with _ | ⟨w1, _ | ⟨w2, stM⟩⟩
        · exact b2.elim
        · exact b2.2.elim
        · obtain ⟨⟨y, rfl, hy⟩, ⟨x, rfl, hx⟩, b3⟩ := b2
          exact ⟨lsM, stM, b1, b3, rF x y lsM stM fun q => by have := (hp x y).mpr q; rw [hx, hy, hb] at this; cases this⟩
    · rename_i w v st' _
      split at hr
      · rename_i q1 q2 hv hw
        split at hr
        · rename_i b hb
          rcases xcnd hr with ⟨rfl, rfl⟩ | ⟨rfl, hr⟩
          · refine ⟨t, ls, st', Or.inr rfl, fun hE _ lsM stM b1 b2 => ?_⟩
            rcases stM with _ | ⟨w1, _ | ⟨w2, stM⟩⟩
            · exact b2.elim
            · exact b2.2.elim
            · obtain ⟨y, rfl, l3, l4⟩ := xivL_spec hE hw b2.1
              obtain ⟨x, rfl, l1, l2⟩ := xivL_spec hE hv b2.2.1
              exact ⟨lsM, stM, b1, b2.2.2, rT x y lsM stM ((hq x y).mp ((hd _ _ _ _ _ _ _ hb l1 l2 l3 l4).mp rfl))⟩
          · refine ⟨pc + n, ls, st', Or.inl ⟨k, hk, hr⟩, fun hE _ lsM stM b1 b2 => ?_⟩
            rcases stM with _ | ⟨w1, _ | ⟨w2, stM⟩⟩
            · exact b2.elim
            · exact b2.2.elim
            · obtain ⟨y, rfl, l3, l4⟩ := xivL_spec hE hw b2.1
              obtain ⟨x, rfl, l1, l2⟩ := xivL_spec hE hv b2.2.1
              exact ⟨lsM, stM, b1, b2.2.2, rF x y lsM stM fun q => by have := (hd _ _ _ _ _ _ _ hb l1 l2 l3 l4).mpr ((hq x y).mpr q); cases this⟩
        · cases hr
      · cases hr
    · cases hr
theorem x_ifrG (hR : xRm a) {p : Nat → Bool} {t n : Nat} (jn : p 0 = true → ∀ lsM stM, xP Ts own (xNL a) cc pc lsM (.null :: stM) t lsM stM) (fn : p 0 = false → ∀ lsM stM, xP Ts own (xNL a) cc pc lsM (.null :: stM) (pc + n) lsM stM)
    (jr : ∀ c, p (c + 1) = true → ∀ x lsM stM, xP Ts own (xNL a) cc pc lsM (.ref x :: stM) t lsM stM) (fr : ∀ c, p (c + 1) = false → ∀ x lsM stM, xP Ts own (xNL a) cc pc lsM (.ref x :: stM) (pc + n) lsM stM)
    (hk : xSK Ts NW MT cc own a (pc + n) k) : xSK Ts NW MT cc own a pc (X_ifr p t k) :=
  x_step hR fun E ls st h r hr => by
    unfold X_ifr at hr
    split at hr
    · rename_i c st'
      rcases xcnd hr with ⟨hb, rfl⟩ | ⟨hb, hr⟩
      · refine ⟨t, ls, st', Or.inr rfl, fun _ _ lsM stM b1 b2 => ?_⟩
        rcases stM with _ | ⟨w, stM⟩
        · exact b2.elim
        · obtain ⟨hw, b3⟩ := b2
          rcases c with _ | c
          · cases hw
            exact ⟨lsM, stM, b1, b3, jn hb lsM stM⟩
          · cases hw
            exact ⟨lsM, stM, b1, b3, jr c hb _ lsM stM⟩
      · refine ⟨pc + n, ls, st', Or.inl ⟨k, hk, hr⟩, fun _ _ lsM stM b1 b2 => ?_⟩
        rcases stM with _ | ⟨w, stM⟩
        · exact b2.elim
        · obtain ⟨hw, b3⟩ := b2
          rcases c with _ | c
          · cases hw
            exact ⟨lsM, stM, b1, b3, fn hb lsM stM⟩
          · cases hw
            exact ⟨lsM, stM, b1, b3, fr c hb _ lsM stM⟩
    · cases hr
def xkey (G : XG) (c : Nat) : Option Nat := if c = 0 then none else some (G.1 c)
theorem xkey_rf {G : XG} {c : Nat} {w : Value} (h : xrel G (.inr (.inr (.inl c))) w) : w = va_rf (xkey G c) := by
  have h : w = (if c = 0 then Value.null else .ref (G.1 c)) := h
  rw [h]
  unfold xkey
  split <;> rfl
theorem xapt_or {a b : Nat} (h : xapt a b = true) : a = b ∨ a = 0 ∨ b = 0 ∨ (a ≠ 2 ∧ b ≠ 2 ∧ (4 ≤ a ∨ 4 ≤ b)) := by
  have h : cond (Nat.beq a b) true (cond (Nat.beq a 0) true (cond (Nat.beq b 0) true (cond (Nat.beq a 2) false (cond (Nat.beq b 2) false (cond (Nat.ble 4 a) true (Nat.ble 4 b)))))) = true := h
  cases h1 : Nat.beq a b with
  | true => exact Or.inl (xb_eq.mp h1)
  | false =>
    rw [h1] at h
    cases h2 : Nat.beq a 0 with
    | true => exact Or.inr (Or.inl (xb_eq.mp h2))
    | false =>
      rw [h2] at h
      cases h3 : Nat.beq b 0 with
      | true => exact Or.inr (Or.inr (Or.inl (xb_eq.mp h3)))
      | false =>
        rw [h3] at h
        cases h5 : Nat.beq a 2 with
        | true => rw [h5] at h; cases h
        | false =>
          rw [h5] at h
          cases h6 : Nat.beq b 2 with
          | true => rw [h6] at h; cases h
          | false =>
            rw [h6] at h
            refine Or.inr (Or.inr (Or.inr ⟨fun e => ?_, fun e => ?_, ?_⟩))
            · rw [xb_eq.mpr e] at h5; cases h5
            · rw [xb_eq.mpr e] at h6; cases h6
            · cases h4 : Nat.ble 4 a with
              | true => exact Or.inl (xb_le.mp h4)
              | false =>
                rw [h4] at h
                exact Or.inr (xb_le.mp h)
theorem xkey_eq {G : XG} (hG : xGok G) {c c' : Nat} (hc : xapt c c' = true) : xkey G c = xkey G c' ↔ c = c' := by
  unfold xkey
  constructor
  · intro h
    by_cases h1 : c = 0 <;> by_cases h2 : c' = 0 <;> simp [h1, h2] at h
    · omega
    · rcases xapt_or hc with q | q | q | ⟨n1, n2, q | q⟩
      · exact q
      · omega
      · omega
      · exact hG.1 c c' q (by omega) n2 h
      · exact (hG.1 c' c q (by omega) n1 h.symm).symm
  · rintro rfl; rfl
theorem x_ifr2G (hR : xRm a) {p : Nat → Nat → Bool} {t n : Nat} {P : Nat → Nat → Prop} (hp : ∀ x y, p x y = true ↔ P x y) (rT : ∀ x y lsM stM, xapt x y = true → xGok (xG a) → P x y → xP Ts own (xNL a) cc pc lsM (va_rf (xkey (xG a) y) :: va_rf (xkey (xG a) x) :: stM) t lsM stM)
    (rF : ∀ x y lsM stM, xapt x y = true → xGok (xG a) → ¬ P x y → xP Ts own (xNL a) cc pc lsM (va_rf (xkey (xG a) y) :: va_rf (xkey (xG a) x) :: stM) (pc + n) lsM stM)
    (hk : xSK Ts NW MT cc own a (pc + n) k) : xSK Ts NW MT cc own a pc (X_ifr2 p t k) :=
  x_step hR fun E ls st h r hr => by
    unfold X_ifr2 at hr
    split at hr
    · rename_i c2 c1 st'
      obtain ⟨k0, hr⟩ := x_c1 hr
      rcases xcnd hr with ⟨hb, rfl⟩ | ⟨hb, hr⟩
      · refine ⟨t, ls, st', Or.inr rfl, fun _ hG lsM stM b1 b2 => ?_⟩
        rcases stM with _ | ⟨w1, _ | ⟨w2, stM⟩⟩
        · exact b2.elim
        · exact b2.2.elim
        · obtain ⟨h1, h2, b3⟩ := b2
          rw [xkey_rf h1, xkey_rf h2]
          exact ⟨lsM, stM, b1, b3, rT c1 c2 lsM stM k0 hG ((hp _ _).mp hb)⟩
      · refine ⟨pc + n, ls, st', Or.inl ⟨k, hk, hr⟩, fun _ hG lsM stM b1 b2 => ?_⟩
        rcases stM with _ | ⟨w1, _ | ⟨w2, stM⟩⟩
        · exact b2.elim
        · exact b2.2.elim
        · obtain ⟨h1, h2, b3⟩ := b2
          rw [xkey_rf h1, xkey_rf h2]
          exact ⟨lsM, stM, b1, b3, rF c1 c2 lsM stM k0 hG fun q => by rw [(hp _ _).mpr q] at hb; cases hb⟩
    · cases hr
theorem x_acmp_eq (hR : xRm a) {off : Int} {t : Nat} (hd : decode cc pc = .ok (.if_acmp .eq off, 3)) (ht : (pc : Int) + off = (t : Int)) (hk : xSK Ts NW MT cc own a (pc + 3) k) : xSK Ts NW MT cc own a pc (X_ifr2 p2_eq t k) :=
  x_ifr2G hR (P := fun x y => x = y) (fun x y => xb_eq) (fun x y _ _ k0 hG h => fun C _ _ kk => lv_acmp_eq C.1 C.2.1 hd ht (fun _ => kk) (fun n => absurd ((xkey_eq hG k0).mpr h) n)) (fun x y _ _ k0 hG h => fun C _ _ kk => lv_acmp_eq C.1 C.2.1 hd ht (fun n => absurd ((xkey_eq hG k0).mp n) h) (fun _ => kk)) hk
theorem x_acmp_ne (hR : xRm a) {off : Int} {t : Nat} (hd : decode cc pc = .ok (.if_acmp .ne off, 3)) (ht : (pc : Int) + off = (t : Int)) (hk : xSK Ts NW MT cc own a (pc + 3) k) : xSK Ts NW MT cc own a pc (X_ifr2 p2_ne t k) :=
  x_ifr2G hR (P := fun x y => ¬ x = y) (fun x y => by
      show cond (Nat.beq x y) false true = true ↔ _
      cases hb : Nat.beq x y with
      | true => simp [xb_eq.mp hb]
      | false => simp; intro e; rw [xb_eq.mpr e] at hb; cases hb)
    (fun x y _ _ k0 hG h => fun C _ _ kk => lv_acmp_ne C.1 C.2.1 hd ht (fun _ => kk) (fun n => absurd ((xkey_eq hG k0).mp n) h)) (fun x y _ _ k0 hG h => fun C _ _ kk => lv_acmp_ne C.1 C.2.1 hd ht (fun n => absurd (fun q => n ((xkey_eq hG k0).mpr q)) h) (fun _ => kk)) hk
theorem x_ifnullI (hR : xRm a) {off : Int} {t : Nat} (hd : decode cc pc = .ok (.ifnull off, 3)) (ht : (pc : Int) + off = (t : Int)) (hk : xSK Ts NW MT cc own a (pc + 3) k) : xSK Ts NW MT cc own a pc (X_ifr p_eq t k) :=
  x_ifrG hR (fun _ _ _ => fun C _ _ kk => lv_ifnullN C.1 C.2.1 hd ht kk) (fun h => by cases h) (fun c h => by cases h) (fun _ _ _ _ _ => fun C _ _ kk => lv_ifnull C.1 C.2.1 hd kk) hk
theorem x_ifnonnullI (hR : xRm a) {off : Int} {t : Nat} (hd : decode cc pc = .ok (.ifnonnull off, 3)) (ht : (pc : Int) + off = (t : Int)) (hk : xSK Ts NW MT cc own a (pc + 3) k) : xSK Ts NW MT cc own a pc (X_ifr p_ne t k) :=
  x_ifrG hR (fun h => by cases h) (fun _ _ _ => fun C _ _ kk => lv_ifnonnullN C.1 C.2.1 hd kk) (fun _ _ _ _ _ => fun C _ _ kk => lv_ifnonnull C.1 C.2.1 hd ht kk) (fun c h => by
    have h : Nat.ble 1 (c + 1) = false := h
    have : Nat.ble 1 (c + 1) = true := xb_le.mpr (by omega)
    rw [this] at h; cases h) hk
theorem x_if_eq (hR : xRm a) {off : Int} {t : Nat} (hd : decode cc pc = .ok (.ifCond .eq off, 3)) (ht : (pc : Int) + off = (t : Int)) (hk : xSK Ts NW MT cc own a (pc + 3) k) : xSK Ts NW MT cc own a pc (X_if p_eq d_eq t k) :=
  x_ifG hR (P := fun x => x = 0) xp_eq xd_eq (fun x => by rw [← Int32.toInt_inj]; exact Iff.rfl) (fun x _ _ h => fun C _ _ kk => lv_if_eq C.1 C.2.1 hd ht (fun _ => kk) (fun n => absurd h n)) (fun x _ _ h => fun C _ _ kk => lv_if_eq C.1 C.2.1 hd ht (fun n => absurd n h) (fun _ => kk)) hk
theorem x_if_ne (hR : xRm a) {off : Int} {t : Nat} (hd : decode cc pc = .ok (.ifCond .ne off, 3)) (ht : (pc : Int) + off = (t : Int)) (hk : xSK Ts NW MT cc own a (pc + 3) k) : xSK Ts NW MT cc own a pc (X_if p_ne d_ne t k) :=
  x_ifG hR (P := fun x => ¬ x = 0) xp_ne xd_ne (fun x => by rw [← Int32.toInt_inj]; exact Iff.rfl) (fun x _ _ h => fun C _ _ kk => lv_if_ne C.1 C.2.1 hd ht (fun _ => kk) (fun n => absurd n h)) (fun x _ _ h => fun C _ _ kk => lv_if_ne C.1 C.2.1 hd ht (fun n => absurd n h) (fun _ => kk)) hk
theorem x_if_lt (hR : xRm a) {off : Int} {t : Nat} (hd : decode cc pc = .ok (.ifCond .lt off, 3)) (ht : (pc : Int) + off = (t : Int)) (hk : xSK Ts NW MT cc own a (pc + 3) k) : xSK Ts NW MT cc own a pc (X_if p_lt d_lt t k) :=
  x_ifG hR (P := fun x => x < 0) xp_lt xd_lt (fun x => by rw [Int32.lt_iff_toInt_lt]; exact Iff.rfl) (fun x _ _ h => fun C _ _ kk => lv_if_lt C.1 C.2.1 hd ht (fun _ => kk) (fun n => absurd h n)) (fun x _ _ h => fun C _ _ kk => lv_if_lt C.1 C.2.1 hd ht (fun n => absurd n h) (fun _ => kk)) hk
theorem x_if_ge (hR : xRm a) {off : Int} {t : Nat} (hd : decode cc pc = .ok (.ifCond .ge off, 3)) (ht : (pc : Int) + off = (t : Int)) (hk : xSK Ts NW MT cc own a (pc + 3) k) : xSK Ts NW MT cc own a pc (X_if p_ge d_ge t k) :=
  x_ifG hR (P := fun x => 0 ≤ x) xp_ge xd_ge (fun x => by rw [Int32.le_iff_toInt_le]; exact Iff.rfl) (fun x _ _ h => fun C _ _ kk => lv_if_ge C.1 C.2.1 hd ht (fun _ => kk) (fun n => absurd h n)) (fun x _ _ h => fun C _ _ kk => lv_if_ge C.1 C.2.1 hd ht (fun n => absurd n h) (fun _ => kk)) hk
theorem x_if_gt (hR : xRm a) {off : Int} {t : Nat} (hd : decode cc pc = .ok (.ifCond .gt off, 3)) (ht : (pc : Int) + off = (t : Int)) (hk : xSK Ts NW MT cc own a (pc + 3) k) : xSK Ts NW MT cc own a pc (X_if p_gt d_gt t k) :=
  x_ifG hR (P := fun x => 0 < x) xp_gt xd_gt (fun x => by rw [Int32.lt_iff_toInt_lt]; exact Iff.rfl) (fun x _ _ h => fun C _ _ kk => lv_if_gt C.1 C.2.1 hd ht (fun _ => kk) (fun n => absurd h n)) (fun x _ _ h => fun C _ _ kk => lv_if_gt C.1 C.2.1 hd ht (fun n => absurd n h) (fun _ => kk)) hk
theorem x_if_le (hR : xRm a) {off : Int} {t : Nat} (hd : decode cc pc = .ok (.ifCond .le off, 3)) (ht : (pc : Int) + off = (t : Int)) (hk : xSK Ts NW MT cc own a (pc + 3) k) : xSK Ts NW MT cc own a pc (X_if p_le d_le t k) :=
  x_ifG hR (P := fun x => x ≤ 0) xp_le xd_le (fun x => by rw [Int32.le_iff_toInt_le]; exact Iff.rfl) (fun x _ _ h => fun C _ _ kk => lv_if_le C.1 C.2.1 hd ht (fun _ => kk) (fun n => absurd h n)) (fun x _ _ h => fun C _ _ kk => lv_if_le C.1 C.2.1 hd ht (fun n => absurd n h) (fun _ => kk)) hk
theorem x_icmp_eq (hR : xRm a) {off : Int} {t : Nat} (hd : decode cc pc = .ok (.if_icmp .eq off, 3)) (ht : (pc : Int) + off = (t : Int)) (hk : xSK Ts NW MT cc own a (pc + 3) k) : xSK Ts NW MT cc own a pc (X_if2 p2_eq d_eq t k) :=
  x_if2G hR (P := fun x y => x = y) xp2_eq xd_eq (fun x y => by rw [← Int32.toInt_inj]) (fun x y _ _ h => fun C _ _ kk => lv_icmp_eq C.1 C.2.1 hd ht (fun _ => kk) (fun n => absurd h n)) (fun x y _ _ h => fun C _ _ kk => lv_icmp_eq C.1 C.2.1 hd ht (fun n => absurd n h) (fun _ => kk)) hk
theorem x_icmp_ne (hR : xRm a) {off : Int} {t : Nat} (hd : decode cc pc = .ok (.if_icmp .ne off, 3)) (ht : (pc : Int) + off = (t : Int)) (hk : xSK Ts NW MT cc own a (pc + 3) k) : xSK Ts NW MT cc own a pc (X_if2 p2_ne d_ne t k) :=
  x_if2G hR (P := fun x y => ¬ x = y) xp2_ne xd_ne (fun x y => by rw [← Int32.toInt_inj]) (fun x y _ _ h => fun C _ _ kk => lv_icmp_ne C.1 C.2.1 hd ht (fun _ => kk) (fun n => absurd n h)) (fun x y _ _ h => fun C _ _ kk => lv_icmp_ne C.1 C.2.1 hd ht (fun n => absurd n h) (fun _ => kk)) hk
theorem x_icmp_lt (hR : xRm a) {off : Int} {t : Nat} (hd : decode cc pc = .ok (.if_icmp .lt off, 3)) (ht : (pc : Int) + off = (t : Int)) (hk : xSK Ts NW MT cc own a (pc + 3) k) : xSK Ts NW MT cc own a pc (X_if2 p2_lt d_lt t k) :=
  x_if2G hR (P := fun x y => x < y) xp2_lt xd_lt (fun x y => by rw [Int32.lt_iff_toInt_lt]) (fun x y _ _ h => fun C _ _ kk => lv_icmp_lt C.1 C.2.1 hd ht (fun _ => kk) (fun n => absurd h n)) (fun x y _ _ h => fun C _ _ kk => lv_icmp_lt C.1 C.2.1 hd ht (fun n => absurd n h) (fun _ => kk)) hk
theorem x_icmp_ge (hR : xRm a) {off : Int} {t : Nat} (hd : decode cc pc = .ok (.if_icmp .ge off, 3)) (ht : (pc : Int) + off = (t : Int)) (hk : xSK Ts NW MT cc own a (pc + 3) k) : xSK Ts NW MT cc own a pc (X_if2 p2_ge d_ge t k) :=
  x_if2G hR (P := fun x y => y ≤ x) xp2_ge xd_ge (fun x y => by rw [Int32.le_iff_toInt_le]) (fun x y _ _ h => fun C _ _ kk => lv_icmp_ge C.1 C.2.1 hd ht (fun _ => kk) (fun n => absurd h n)) (fun x y _ _ h => fun C _ _ kk => lv_icmp_ge C.1 C.2.1 hd ht (fun n => absurd n h) (fun _ => kk)) hk
theorem x_icmp_gt (hR : xRm a) {off : Int} {t : Nat} (hd : decode cc pc = .ok (.if_icmp .gt off, 3)) (ht : (pc : Int) + off = (t : Int)) (hk : xSK Ts NW MT cc own a (pc + 3) k) : xSK Ts NW MT cc own a pc (X_if2 p2_gt d_gt t k) :=
  x_if2G hR (P := fun x y => y < x) xp2_gt xd_gt (fun x y => by rw [Int32.lt_iff_toInt_lt]) (fun x y _ _ h => fun C _ _ kk => lv_icmp_gt C.1 C.2.1 hd ht (fun _ => kk) (fun n => absurd h n)) (fun x y _ _ h => fun C _ _ kk => lv_icmp_gt C.1 C.2.1 hd ht (fun n => absurd n h) (fun _ => kk)) hk
theorem x_icmp_le (hR : xRm a) {off : Int} {t : Nat} (hd : decode cc pc = .ok (.if_icmp .le off, 3)) (ht : (pc : Int) + off = (t : Int)) (hk : xSK Ts NW MT cc own a (pc + 3) k) : xSK Ts NW MT cc own a pc (X_if2 p2_le d_le t k) :=
  x_if2G hR (P := fun x y => x ≤ y) xp2_le xd_le (fun x y => by rw [Int32.le_iff_toInt_le]) (fun x y _ _ h => fun C _ _ kk => lv_icmp_le C.1 C.2.1 hd ht (fun _ => kk) (fun n => absurd h n)) (fun x y _ _ h => fun C _ _ kk => lv_icmp_le C.1 C.2.1 hd ht (fun n => absurd n h) (fun _ => kk)) hk
theorem x_lc_eq (hR : xRm a) {off : Int} {t : Nat} (hd : decode cc pc = .ok (.lcmp, 1)) (hd2 : decode cc (pc + 1) = .ok (.ifCond .eq off, 3)) (ht : ((pc + 1 : Nat) : Int) + off = (t : Int)) (hk : xSK Ts NW MT cc own a (pc + 4) k) : xSK Ts NW MT cc own a pc (X_lcif pL_eq d_eq t k) :=
  x_lcG hR (P := fun x y => x = y) xpL_eq xd_eq (fun x y => by rw [← Int64.toInt_inj]) (fun x y _ _ h => fun C _ _ kk => W.lcmp C.1 C.2.1 hd (lv_if_eq C.1 C.2.1 hd2 ht (fun _ => kk) (fun n => absurd (lc_eq.mpr h) n))) (fun x y _ _ h => fun C _ _ kk => W.lcmp C.1 C.2.1 hd (lv_if_eq C.1 C.2.1 hd2 ht (fun n => absurd (lc_eq.mp n) h) (fun _ => kk))) hk
theorem x_lc_ne (hR : xRm a) {off : Int} {t : Nat} (hd : decode cc pc = .ok (.lcmp, 1)) (hd2 : decode cc (pc + 1) = .ok (.ifCond .ne off, 3)) (ht : ((pc + 1 : Nat) : Int) + off = (t : Int)) (hk : xSK Ts NW MT cc own a (pc + 4) k) : xSK Ts NW MT cc own a pc (X_lcif pL_ne d_ne t k) :=
  x_lcG hR (P := fun x y => ¬ x = y) xpL_ne xd_ne (fun x y => by rw [← Int64.toInt_inj]) (fun x y _ _ h => fun C _ _ kk => W.lcmp C.1 C.2.1 hd (lv_if_ne C.1 C.2.1 hd2 ht (fun _ => kk) (fun n => absurd n ((not_congr lc_eq).mpr h)))) (fun x y _ _ h => fun C _ _ kk => W.lcmp C.1 C.2.1 hd (lv_if_ne C.1 C.2.1 hd2 ht (fun n => absurd ((not_congr lc_eq).mp n) h) (fun _ => kk))) hk
theorem x_lc_lt (hR : xRm a) {off : Int} {t : Nat} (hd : decode cc pc = .ok (.lcmp, 1)) (hd2 : decode cc (pc + 1) = .ok (.ifCond .lt off, 3)) (ht : ((pc + 1 : Nat) : Int) + off = (t : Int)) (hk : xSK Ts NW MT cc own a (pc + 4) k) : xSK Ts NW MT cc own a pc (X_lcif pL_lt d_lt t k) :=
  x_lcG hR (P := fun x y => x < y) xpL_lt xd_lt (fun x y => by rw [Int64.lt_iff_toInt_lt]) (fun x y _ _ h => fun C _ _ kk => W.lcmp C.1 C.2.1 hd (lv_if_lt C.1 C.2.1 hd2 ht (fun _ => kk) (fun n => absurd (lc_lt.mpr h) n))) (fun x y _ _ h => fun C _ _ kk => W.lcmp C.1 C.2.1 hd (lv_if_lt C.1 C.2.1 hd2 ht (fun n => absurd (lc_lt.mp n) h) (fun _ => kk))) hk
theorem x_lc_ge (hR : xRm a) {off : Int} {t : Nat} (hd : decode cc pc = .ok (.lcmp, 1)) (hd2 : decode cc (pc + 1) = .ok (.ifCond .ge off, 3)) (ht : ((pc + 1 : Nat) : Int) + off = (t : Int)) (hk : xSK Ts NW MT cc own a (pc + 4) k) : xSK Ts NW MT cc own a pc (X_lcif pL_ge d_ge t k) :=
  x_lcG hR (P := fun x y => y ≤ x) xpL_ge xd_ge (fun x y => by rw [Int64.le_iff_toInt_le]) (fun x y _ _ h => fun C _ _ kk => W.lcmp C.1 C.2.1 hd (lv_if_ge C.1 C.2.1 hd2 ht (fun _ => kk) (fun n => absurd (lc_ge.mpr h) n))) (fun x y _ _ h => fun C _ _ kk => W.lcmp C.1 C.2.1 hd (lv_if_ge C.1 C.2.1 hd2 ht (fun n => absurd (lc_ge.mp n) h) (fun _ => kk))) hk
theorem x_lc_gt (hR : xRm a) {off : Int} {t : Nat} (hd : decode cc pc = .ok (.lcmp, 1)) (hd2 : decode cc (pc + 1) = .ok (.ifCond .gt off, 3)) (ht : ((pc + 1 : Nat) : Int) + off = (t : Int)) (hk : xSK Ts NW MT cc own a (pc + 4) k) : xSK Ts NW MT cc own a pc (X_lcif pL_gt d_gt t k) :=
  x_lcG hR (P := fun x y => y < x) xpL_gt xd_gt (fun x y => by rw [Int64.lt_iff_toInt_lt]) (fun x y _ _ h => fun C _ _ kk => W.lcmp C.1 C.2.1 hd (lv_if_gt C.1 C.2.1 hd2 ht (fun _ => kk) (fun n => absurd (lc_gt.mpr h) n))) (fun x y _ _ h => fun C _ _ kk => W.lcmp C.1 C.2.1 hd (lv_if_gt C.1 C.2.1 hd2 ht (fun n => absurd (lc_gt.mp n) h) (fun _ => kk))) hk
theorem x_lc_le (hR : xRm a) {off : Int} {t : Nat} (hd : decode cc pc = .ok (.lcmp, 1)) (hd2 : decode cc (pc + 1) = .ok (.ifCond .le off, 3)) (ht : ((pc + 1 : Nat) : Int) + off = (t : Int)) (hk : xSK Ts NW MT cc own a (pc + 4) k) : xSK Ts NW MT cc own a pc (X_lcif pL_le d_le t k) :=
  x_lcG hR (P := fun x y => x ≤ y) xpL_le xd_le (fun x y => by rw [Int64.le_iff_toInt_le]) (fun x y _ _ h => fun C _ _ kk => W.lcmp C.1 C.2.1 hd (lv_if_le C.1 C.2.1 hd2 ht (fun _ => kk) (fun n => absurd (lc_le.mpr h) n))) (fun x y _ _ h => fun C _ _ kk => W.lcmp C.1 C.2.1 hd (lv_if_le C.1 C.2.1 hd2 ht (fun n => absurd (lc_le.mp n) h) (fun _ => kk))) hk
end XS
