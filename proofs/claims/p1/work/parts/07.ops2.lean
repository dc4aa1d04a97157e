theorem xlget_set : ∀ (ls : XL) (i : Nat) (v : XV) (j : Nat) (u : XV), xlget (xlset ls i v) j = some u → (j = i ∧ u = v) ∨ (j ≠ i ∧ xlget ls j = some u ∧ (j + 1 = i → xkL u = false)) := by
  intro ls
  induction ls with
  | nil => intro i v j u h; simp [xlset, xlget] at h
  | cons x r ih =>
    intro i v j u h
    match i, j with
    | 0, 0 => simp [xlset, xlget] at h; exact Or.inl ⟨rfl, h.symm⟩
    | 0, j + 1 => simp [xlset, xlget] at h; exact Or.inr ⟨by omega, h, fun q => by omega⟩
    | 1, 0 =>
      have h : xclr x = some u := by simpa [xlset, xlget] using h
      refine Or.inr ⟨by omega, ?_, fun _ => ?_⟩
      · rcases x with _ | (n | n | n | n | n | n | n) <;> simp [xclr] at h <;> simp [xlget, h]
      · rcases x with _ | (n | n | n | n | n | n | n) <;> simp [xclr] at h <;> (rw [← h]; rfl)
    | 1, j + 1 =>
      have h : xlget (xlset r 0 v) j = some u := by simpa [xlset, xlget] using h
      rcases ih 0 v j u h with ⟨h1, h2⟩ | ⟨h1, h2, h3⟩
      · exact Or.inl ⟨by omega, h2⟩
      · exact Or.inr ⟨by omega, h2, fun q => by omega⟩
    | i + 2, 0 =>
      have h : x = some u := by simpa [xlset, xlget] using h
      exact Or.inr ⟨by omega, by simp [xlget, h], fun q => by omega⟩
    | i + 2, j + 1 =>
      have h : xlget (xlset r (i + 1) v) j = some u := by simpa [xlset, xlget] using h
      rcases ih (i + 1) v j u h with ⟨h1, h2⟩ | ⟨h1, h2, h3⟩
      · exact Or.inl ⟨by omega, h2⟩
      · exact Or.inr ⟨by omega, h2, fun q => h3 (by omega)⟩
theorem xlget_set2 : ∀ (ls : XL) (i : Nat) (v : XV) (j : Nat) (u : XV), xlget (xlset2 ls i v) j = some u → (j = i ∧ u = v) ∨ (j ≠ i ∧ j ≠ i + 1 ∧ xlget ls j = some u ∧ (j + 1 = i → xkL u = false)) := by
  intro ls
  induction ls with
  | nil => intro i v j u h; simp [xlset2, xlget] at h
  | cons x r ih =>
    intro i v j u h
    match i with
    | 0 =>
      rcases r with _ | ⟨y, r⟩
      · simp [xlset2, xlget] at h
      · match j with
        | 0 => simp [xlset2, xlget] at h; exact Or.inl ⟨rfl, h.symm⟩
        | 1 => simp [xlset2, xlget] at h
        | j + 2 => simp [xlset2, xlget] at h; exact Or.inr ⟨by omega, by omega, by simpa [xlget] using h, fun q => by omega⟩
    | 1 =>
      have e : xlset2 (x :: r) 1 v = xclr x :: xlset2 r 0 v := by simp [xlset2]
      rw [e] at h
      match j with
      | 0 =>
        have h : xclr x = some u := by simpa [xlget] using h
        refine Or.inr ⟨by omega, by omega, ?_, fun _ => ?_⟩
        · rcases x with _ | (n | n | n | n | n | n | n) <;> simp [xclr] at h <;> simp [xlget, h]
        · rcases x with _ | (n | n | n | n | n | n | n) <;> simp [xclr] at h <;> (rw [← h]; rfl)
      | j + 1 =>
        have h : xlget (xlset2 r 0 v) j = some u := by simpa [xlget] using h
        rcases ih 0 v j u h with ⟨h1, h2⟩ | ⟨h1, h2, h3, h4⟩
        · exact Or.inl ⟨by omega, h2⟩
        · exact Or.inr ⟨by omega, by omega, h3, fun q => by omega⟩
    | i + 2 =>
      have e : xlset2 (x :: r) (i + 2) v = x :: xlset2 r (i + 1) v := by simp [xlset2]
      rw [e] at h
      match j with
      | 0 =>
        have h : x = some u := by simpa [xlget] using h
        exact Or.inr ⟨by omega, by omega, by simp [xlget, h], fun q => by omega⟩
      | j + 1 =>
        have h : xlget (xlset2 r (i + 1) v) j = some u := by simpa [xlget] using h
        rcases ih (i + 1) v j u h with ⟨h1, h2⟩ | ⟨h1, h2, h3, h4⟩
        · exact Or.inl ⟨by omega, h2⟩
        · exact Or.inr ⟨by omega, by omega, h3, fun q => h4 (by omega)⟩
theorem xLR_store1 {G : XG} {nL : Nat} {ls : XL} {lsM : Array Slot} {i : Nat} {v : XV} {w : Value} (h : xLR G nL ls lsM) (hi : i < nL) (hw : xrel G v w) (hc : w.category = 1) : ∃ ls', storeLocals lsM i w = some ls' ∧ xLR G nL (xlset ls i v) ls' := by
  obtain ⟨h1, h2, h3⟩ := h
  obtain ⟨ls', e', q1, q2, q3⟩ := lv_store1 (ls := lsM) (nL := nL) (l := []) (i := i) (v := w) ⟨h1, h2, fun _ h => by cases h⟩ hi hc
  refine ⟨ls', e', q1, q2, fun j u hu => ?_⟩
  rcases xlget_set ls i v j u hu with ⟨rfl, rfl⟩ | ⟨n1, n2, n3⟩
  · exact ⟨w, q3 (j, w) List.mem_cons_self, hw⟩
  · obtain ⟨w', hw', hr'⟩ := h3 j u n2
    obtain ⟨ls2, e2, -, -, q4⟩ := lv_store1 (ls := lsM) (nL := nL) (l := [(j, w')]) (i := i) (v := w) ⟨h1, h2, fun q hq => by rw [List.mem_singleton.mp hq]; exact hw'⟩ hi hc
    cases e'.symm.trans e2
    refine ⟨w', q4 (j, w') (List.mem_cons_of_mem _ (List.mem_filter.mpr ⟨List.mem_singleton.mpr rfl, ?_⟩)), hr'⟩
    have e1 : (j == i) = false := by simpa using n1
    by_cases hj : j + 1 = i
    · have := xkL_not (n3 hj) hr'
      simp [e1, this]
    · have e2 : (j + 1 == i) = false := by simpa using hj
      simp [e1, e2]
theorem xLR_store2 {G : XG} {nL : Nat} {ls : XL} {lsM : Array Slot} {i : Nat} {v : XV} {w : Value} (h : xLR G nL ls lsM) (hi : i + 1 < nL) (hw : xrel G v w) (hc : w.category = 2) : ∃ ls', storeLocals lsM i w = some ls' ∧ xLR G nL (xlset2 ls i v) ls' := by
  obtain ⟨h1, h2, h3⟩ := h
  obtain ⟨ls', e', q1, q2, q3⟩ := lv_store2 (ls := lsM) (nL := nL) (l := []) (i := i) (v := w) ⟨h1, h2, fun _ h => by cases h⟩ hi hc
  refine ⟨ls', e', q1, q2, fun j u hu => ?_⟩
  rcases xlget_set2 ls i v j u hu with ⟨rfl, rfl⟩ | ⟨n1, n2, n3, n4⟩
  · exact ⟨w, q3 (j, w) List.mem_cons_self, hw⟩
  · obtain ⟨w', hw', hr'⟩ := h3 j u n3
    obtain ⟨ls2, e2, -, -, q4⟩ := lv_store2 (ls := lsM) (nL := nL) (l := [(j, w')]) (i := i) (v := w) ⟨h1, h2, fun q hq => by rw [List.mem_singleton.mp hq]; exact hw'⟩ hi hc
    cases e'.symm.trans e2
    refine ⟨w', q4 (j, w') (List.mem_cons_of_mem _ (List.mem_filter.mpr ⟨List.mem_singleton.mpr rfl, ?_⟩)), hr'⟩
    have e1 : (j == i) = false := by simpa using n1
    have e3 : (j == i + 1) = false := by simpa using n2
    by_cases hj : j + 1 = i
    · have := xkL_not (n4 hj) hr'
      simp [e1, e3, this]
    · have e2 : (j + 1 == i) = false := by simpa using hj
      simp [e1, e2, e3]
section XS
variable {Ts NW : List Cond} {MT : Nat → XM} {cc : ByteArray} {own : String} {a : XA} {pc : Nat} {k : XK}
theorem x_st1 (hR : xRm a) {kd : XV → Bool} {i n : Nat} (hi : i < xNL a) (row : ∀ (v : XV) (w : Value), kd v = true → xrel (xG a) v w → w.category = 1 ∧ ∀ lsM ls' stM, storeLocals lsM i w = some ls' → xP Ts own (xNL a) cc pc lsM (w :: stM) (pc + n) ls' stM)
    (hk : xSK Ts NW MT cc own a (pc + n) k) : xSK Ts NW MT cc own a pc (X_store kd i k) :=
  x_step hR fun E ls st h r hr => by
    unfold X_store at hr
    split at hr
    · rename_i v st'
      obtain ⟨k1, hr⟩ := x_c1 hr
      refine ⟨pc + n, xlset ls i v, st', Or.inl ⟨k, hk, hr⟩, fun _ _ lsM stM b1 b2 => ?_⟩
      rcases stM with _ | ⟨w, stM⟩
      · exact b2.elim
      · obtain ⟨hc, hp⟩ := row v w k1 b2.1
        obtain ⟨ls', e', h'⟩ := xLR_store1 b1 hi b2.1 hc
        exact ⟨ls', stM, h', b2.2, hp lsM ls' stM e'⟩
    · cases hr
theorem x_istore (hR : xRm a) {i : Nat} (hd : decode cc pc = .ok (.istore i, 2)) (hi : i < xNL a) (hk : xSK Ts NW MT cc own a (pc + 2) k) : xSK Ts NW MT cc own a pc (X_store xkI i k) :=
  x_st1 hR hi (fun v w hv hr => by
    obtain ⟨x, rfl⟩ := xkI_spec hv hr
    refine ⟨rfl, fun lsM ls' stM e' => fun C _ _ kk => ?_⟩
    intro T hT X
    obtain ⟨t, a1, b1⟩ := kk T hT X
    refine ⟨t, ?_, b1⟩
    jvm_step X.here [X.here.top, ↓top_set X.here.top, C.1, C.2.1, hd, e']
    exact a1) hk
theorem x_istore_n (hR : xRm a) {f : Fin 4} (hd : decode cc pc = .ok (.istore_n f, 1)) (hi : f.val < xNL a) (hk : xSK Ts NW MT cc own a (pc + 1) k) : xSK Ts NW MT cc own a pc (X_store xkI f.val k) :=
  x_st1 hR hi (fun v w hv hr => by
    obtain ⟨x, rfl⟩ := xkI_spec hv hr
    refine ⟨rfl, fun lsM ls' stM e' => fun C _ _ kk => ?_⟩
    intro T hT X
    obtain ⟨t, a1, b1⟩ := kk T hT X
    refine ⟨t, ?_, b1⟩
    jvm_step X.here [X.here.top, ↓top_set X.here.top, C.1, C.2.1, hd, e']
    exact a1) hk
theorem x_astore (hR : xRm a) {i : Nat} (hd : decode cc pc = .ok (.astore i, 2)) (hi : i < xNL a) (hk : xSK Ts NW MT cc own a (pc + 2) k) : xSK Ts NW MT cc own a pc (X_store xkR i k) :=
  x_st1 hR hi (fun v w hv hr => by
    rcases xkR_spec hv hr with rfl | ⟨x, rfl⟩ <;>
    (refine ⟨rfl, fun lsM ls' stM e' => fun C _ _ kk => ?_⟩
     intro T hT X
     obtain ⟨t, a1, b1⟩ := kk T hT X
     refine ⟨t, ?_, b1⟩
     jvm_step X.here [X.here.top, ↓top_set X.here.top, C.1, C.2.1, hd, e', Value.isRef]
     exact a1)) hk
theorem x_astore_n (hR : xRm a) {f : Fin 4} (hd : decode cc pc = .ok (.astore_n f, 1)) (hi : f.val < xNL a) (hk : xSK Ts NW MT cc own a (pc + 1) k) : xSK Ts NW MT cc own a pc (X_store xkR f.val k) :=
  x_st1 hR hi (fun v w hv hr => by
    rcases xkR_spec hv hr with rfl | ⟨x, rfl⟩ <;>
    (refine ⟨rfl, fun lsM ls' stM e' => fun C _ _ kk => ?_⟩
     intro T hT X
     obtain ⟨t, a1, b1⟩ := kk T hT X
     refine ⟨t, ?_, b1⟩
     jvm_step X.here [X.here.top, ↓top_set X.here.top, C.1, C.2.1, hd, e', Value.isRef]
     exact a1)) hk
theorem x_st2 (hR : xRm a) {i n : Nat} (hi : i + 1 < xNL a) (row : ∀ (x : Int64) lsM ls' stM, storeLocals lsM i (.long x) = some ls' → xP Ts own (xNL a) cc pc lsM (.long x :: stM) (pc + n) ls' stM)
    (hk : xSK Ts NW MT cc own a (pc + n) k) : xSK Ts NW MT cc own a pc (X_lstore i k) :=
  x_step hR fun E ls st h r hr => by
    unfold X_lstore at hr
    split at hr
    · rename_i v st'
      obtain ⟨k1, hr⟩ := x_c1 hr
      refine ⟨pc + n, xlset2 ls i v, st', Or.inl ⟨k, hk, hr⟩, fun _ _ lsM stM b1 b2 => ?_⟩
      rcases stM with _ | ⟨w, stM⟩
      · exact b2.elim
      · have hx := b2.1
        obtain ⟨x, rfl⟩ := xkL_spec k1 hx
        obtain ⟨ls', e', h'⟩ := xLR_store2 b1 hi hx rfl
        exact ⟨ls', stM, h', b2.2, row x lsM ls' stM e'⟩
    · cases hr
theorem x_lstoreI (hR : xRm a) {i : Nat} (hd : decode cc pc = .ok (.lstore i, 2)) (hi : i + 1 < xNL a) (hk : xSK Ts NW MT cc own a (pc + 2) k) : xSK Ts NW MT cc own a pc (X_lstore i k) :=
  x_st2 hR hi (fun x lsM ls' stM e' => fun C _ _ kk => by
    intro T hT X
    obtain ⟨t, a1, b1⟩ := kk T hT X
    refine ⟨t, ?_, b1⟩
    jvm_step X.here [X.here.top, ↓top_set X.here.top, C.1, C.2.1, hd, e']
    exact a1) hk
theorem x_lstore_n (hR : xRm a) {f : Fin 4} (hd : decode cc pc = .ok (.lstore_n f, 1)) (hi : f.val + 1 < xNL a) (hk : xSK Ts NW MT cc own a (pc + 1) k) : xSK Ts NW MT cc own a pc (X_lstore f.val k) :=
  x_st2 hR hi (fun x lsM ls' stM e' => fun C _ _ kk => by
    intro T hT X
    obtain ⟨t, a1, b1⟩ := kk T hT X
    refine ⟨t, ?_, b1⟩
    jvm_step X.here [X.here.top, ↓top_set X.here.top, C.1, C.2.1, hd, e']
    exact a1) hk
theorem x_iincI (hR : xRm a) {i n : Nat} {z : Int} (hd : decode cc pc = .ok (.iinc i z, 3)) (hz : (Int32.ofInt z).toBitVec.toNat = n) (hi : i < xNL a) (hk : xSK Ts NW MT cc own a (pc + 3) k) : xSK Ts NW MT cc own a pc (X_iinc i n k) :=
  x_step hR fun E ls st h r hr => by
    unfold X_iinc at hr
    split at hr
    · rename_i c hc
      refine ⟨pc + 3, _, st, Or.inl ⟨k, hk, hr⟩, fun _ _ lsM stM b1 b2 => ?_⟩
      obtain ⟨w, hw, x, rfl, hx⟩ := b1.2.2 i _ hc
      obtain ⟨ls', e', h'⟩ := xLR_store1 (v := .inl (Nat.mod (Nat.add c n) 4294967296)) (w := .int (x + Int32.ofInt z)) b1 hi ⟨_, rfl, by rw [xn_add, hx, hz]; rfl⟩ rfl
      refine ⟨ls', stM, h', b2, fun C _ _ kk => ?_⟩
      intro T hT X
      obtain ⟨t, a1, b1⟩ := kk T hT X
      refine ⟨t, ?_, b1⟩
      jvm_step X.here [X.here.top, ↓top_set X.here.top, C.1, C.2.1, hd, hw, e']
      exact a1
    · cases hr
end XS
