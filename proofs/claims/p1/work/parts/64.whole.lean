theorem LT0_ok {L : Nat} {y : XM} {a : XA} (ha : xOkA xcl xtf y a) (hn : xNL a = 4) (hl : xScr L a) : xTab xTs xNW xMT cL_law RL a LT0 := by
  have q : ∀ pc k, LT0 pc = some k → xSK xTs xNW xMT cL_law RL a pc k := by
    intro pc k h
    have h : cond (Nat.beq pc 0) (some (LB_0 0)) (cond (Nat.beq pc 7) (some (LB_7 0)) (cond (Nat.beq pc 15) (some (LB_15 0)) none)) = some k := h
    cases h0 : Nat.beq pc 0 with
    | true =>
      rw [h0] at h
      cases h
      rw [xb_eq.mp h0]
      exact LS_0 (L := L) ha hn hl
    | false =>
      rw [h0] at h
      cases h1 : Nat.beq pc 7 with
      | true =>
        have h : cond (Nat.beq pc 7) (some (LB_7 0)) (cond (Nat.beq pc 15) (some (LB_15 0)) none) = some k := h
        rw [h1] at h
        cases h
        rw [xb_eq.mp h1]
        exact LS_7 (L := L) ha hn hl
      | false =>
        have h : cond (Nat.beq pc 7) (some (LB_7 0)) (cond (Nat.beq pc 15) (some (LB_15 0)) none) = some k := h
        rw [h1] at h
        have h : cond (Nat.beq pc 15) (some (LB_15 0)) none = some k := h
        obtain ⟨h2, h3⟩ := x_c1 h
        cases h3
        rw [xb_eq.mp h2]
        exact LS_15 (L := L) ha hn hl
  exact q
/-- what the law's activation is, at all of its places -/
def lw_B (L : Nat) (a : XA) : Prop := xCl a = xcl ∧ xTf a = xtf ∧ xNL a = 4 ∧ (∃ y : XM, xOkA xcl xtf y a) ∧ xScr L a ∧ xRoom 14 a ∧ xCx xTs xNW cL_law RL a ∧ xGok (xG a) ∧ (∀ h' : XH, h'.1 ≤ 2048 → h'.2.1 ≤ 7302250 → xFits a h') ∧ ∀ (ls : XL) (h' : XH), h'.1 ≤ 2048 → h'.2.1 ≤ 7302250 → xGo a 1670 ls [.inl 1] h'
theorem lw_T {L : Nat} {a : XA} (hB : lw_B L a) : xTab xTs xNW xMT cL_law RL a (LT L) := by
  obtain ⟨-, -, hn, ⟨y, ha⟩, hl, -⟩ := hB
  exact LT_ok ha hn hl
theorem lw_T0 {L : Nat} {a : XA} (hB : lw_B L a) : xTab xTs xNW xMT cL_law RL a LT0 := by
  obtain ⟨-, -, hn, ⟨y, ha⟩, hl, -⟩ := hB
  exact LT0_ok ha hn hl
theorem lw_calls {L : Nat} {a : XA} {E : XE} (hB : lw_B L a) : ∀ mid av h v h', xcall PROG FN 14 mid av E h = some (v, h') → xLe h h' ∧ (xEok E (xG a) → xCon xTs xNW (xMT mid) a av h v h') := by
  obtain ⟨hcl, htf, -, -, -, hroom, -, hG, -⟩ := hB
  exact xhcall PROG_ok hcl htf hG hroom
theorem lw_go {L : Nat} {a : XA} (hB : lw_B L a) {tb : Nat → Option XK} (hT : xTab xTs xNW xMT cL_law RL a tb) {call : Nat → List XV → XE → XH → Option (Option XV × XH)} {E : XE} (hcall : ∀ mid av h v h', call mid av E h = some (v, h') → xLe h h' ∧ (xEok E (xG a) → xCon xTs xNW (xMT mid) a av h v h')) (hE : xEok E (xG a)) {A n : Nat} {c c' : Nat × (XL × (List XV × XH))} (ht : e_s (xrun call A tb E n c) c' = true) (h1 : c'.2.2.2.1 ≤ 2048) (h2 : c'.2.2.2.2.1 ≤ 7302250) (hg : xGoC a c') : xGoC a c := by
  obtain ⟨hcl, htf, -, -, -, hroom, hC, hG, hf, -⟩ := hB
  obtain ⟨s1, s2⟩ := xrun_ok hT hcall n c c' (e_s_ok ht)
  exact s2 hC hE (hf _ h1 h2) hg
theorem lw_leafG {L : Nat} {a : XA} (hB : lw_B L a) {call : Nat → List XV → XE → XH → Option (Option XV × XH)} {E : XE} (hcall : ∀ mid av h v h', call mid av E h = some (v, h') → xLe h h' ∧ (xEok E (xG a) → xCon xTs xNW (xMT mid) a av h v h')) (hE : xEok E (xG a)) {N : Nat} {c0 : Nat × (XL × (List XV × XH))} (ht : xleaf call 1670 (LT L) N c0 E = true) : xGoC a c0 := by
  have hT := lw_T hB
  obtain ⟨hcl, htf, -, -, -, hroom, hC, hG, hf, hend⟩ := hB
  exact xleaf_go hT hcall ht hC hE hf hend
theorem lw_leaf {L : Nat} {a : XA} (hB : lw_B L a) {E : XE} (hE : xEok E (xG a)) {N : Nat} {c0 : Nat × (XL × (List XV × XH))} (ht : xleaf (xcall PROG FN 14) 1670 (LT L) N c0 E = true) : xGoC a c0 := lw_leafG hB (lw_calls hB) hE ht
theorem E0_ok (G : XG) : xEok E0 G := xEn_ok (xfullI _).1 (xfullI _).2
theorem lw_case {a : XA} (hB : lw_B 6 a) {k : Nat} (h : ∃ E', xEok E' (xG a) ∧ xleaf (xcall PROG FN 14) 1670 (LT 6) FN (33, (LSW, ([.inl k], HS))) E' = true) : xGo a 33 LSW [.inl k] HS := by
  obtain ⟨E', h1, h2⟩ := h
  exact lw_leaf hB h1 h2
theorem lw_d1 {a : XA} (hB : lw_B 6 a) (hn : xn1 a = 1) : xGo a 33 LSW [.inl 37] HS := by
  have hE : xEok (xEn 1 1) (xG a) := xEn_ok (by show _ ≤ xn1 a; omega) (by show xn1 a ≤ _; omega)
  obtain ⟨c1, c2⟩ := CM_1 hB.1 hB.2.1 hB.2.2.2.2.2.2.2.1 hB.2.2.2.2.2.1 hn
  obtain ⟨m1, m2⟩ := MM_1 hB.1 hB.2.1 hB.2.2.2.2.2.2.2.1 hB.2.2.2.2.2.1 hn
  have g1 : xGo a 1577 LSW [.inl 0] HM := lw_leafG hB (xtold_ok (lw_calls hB) m1 (fun _ => m2)) hE t_dm1
  have g2 : xGo a 1577 LSW [.inl 0] CH_1 := xGo_sub t_ds1 g1
  exact lw_go hB (lw_T hB) (xtold_ok (lw_calls hB) c1 (fun _ => c2)) hE t_dc1 (by decide +kernel) (by decide +kernel) g2
theorem lw_d2 {a : XA} (hB : lw_B 6 a) (hn : xn1 a = 2) : xGo a 33 LSW [.inl 37] HS := by
  have hE : xEok (xEn 2 2) (xG a) := xEn_ok (by show _ ≤ xn1 a; omega) (by show xn1 a ≤ _; omega)
  obtain ⟨c1, c2⟩ := CM_2 hB.1 hB.2.1 hB.2.2.2.2.2.2.2.1 hB.2.2.2.2.2.1 hn
  obtain ⟨m1, m2⟩ := MM_2 hB.1 hB.2.1 hB.2.2.2.2.2.2.2.1 hB.2.2.2.2.2.1 hn
  have g1 : xGo a 1577 LSW [.inl 0] HM := lw_leafG hB (xtold_ok (lw_calls hB) m1 (fun _ => m2)) hE t_dm2
  have g2 : xGo a 1577 LSW [.inl 0] CH_2 := xGo_sub t_ds2 g1
  exact lw_go hB (lw_T hB) (xtold_ok (lw_calls hB) c1 (fun _ => c2)) hE t_dc2 (by decide +kernel) (by decide +kernel) g2
theorem lw_d3 {a : XA} (hB : lw_B 6 a) (hn : xn1 a = 3) : xGo a 33 LSW [.inl 37] HS := by
  have hE : xEok (xEn 3 3) (xG a) := xEn_ok (by show _ ≤ xn1 a; omega) (by show xn1 a ≤ _; omega)
  obtain ⟨c1, c2⟩ := CM_3 hB.1 hB.2.1 hB.2.2.2.2.2.2.2.1 hB.2.2.2.2.2.1 hn
  obtain ⟨m1, m2⟩ := MM_3 hB.1 hB.2.1 hB.2.2.2.2.2.2.2.1 hB.2.2.2.2.2.1 hn
  have g1 : xGo a 1577 LSW [.inl 0] HM := lw_leafG hB (xtold_ok (lw_calls hB) m1 (fun _ => m2)) hE t_dm3
  have g2 : xGo a 1577 LSW [.inl 0] CH_3 := xGo_sub t_ds3 g1
  exact lw_go hB (lw_T hB) (xtold_ok (lw_calls hB) c1 (fun _ => c2)) hE t_dc3 (by decide +kernel) (by decide +kernel) g2
theorem lw_d4 {a : XA} (hB : lw_B 6 a) (hn : xn1 a = 4) : xGo a 33 LSW [.inl 37] HS := by
  have hE : xEok (xEn 4 4) (xG a) := xEn_ok (by show _ ≤ xn1 a; omega) (by show xn1 a ≤ _; omega)
  obtain ⟨c1, c2⟩ := CM_4 hB.1 hB.2.1 hB.2.2.2.2.2.2.2.1 hB.2.2.2.2.2.1 hn
  obtain ⟨m1, m2⟩ := MM_4 hB.1 hB.2.1 hB.2.2.2.2.2.2.2.1 hB.2.2.2.2.2.1 hn
  have g1 : xGo a 1577 LSW [.inl 0] HM := lw_leafG hB (xtold_ok (lw_calls hB) m1 (fun _ => m2)) hE t_dm4
  have g2 : xGo a 1577 LSW [.inl 0] CH_4 := xGo_sub t_ds4 g1
  exact lw_go hB (lw_T hB) (xtold_ok (lw_calls hB) c1 (fun _ => c2)) hE t_dc4 (by decide +kernel) (by decide +kernel) g2
theorem lw_d5 {a : XA} (hB : lw_B 6 a) (hn : xn1 a = 5) : xGo a 33 LSW [.inl 37] HS := by
  have hE : xEok (xEn 5 5) (xG a) := xEn_ok (by show _ ≤ xn1 a; omega) (by show xn1 a ≤ _; omega)
  obtain ⟨c1, c2⟩ := CM_5 hB.1 hB.2.1 hB.2.2.2.2.2.2.2.1 hB.2.2.2.2.2.1 hn
  obtain ⟨m1, m2⟩ := MM_5 hB.1 hB.2.1 hB.2.2.2.2.2.2.2.1 hB.2.2.2.2.2.1 hn
  have g1 : xGo a 1577 LSW [.inl 0] HM := lw_leafG hB (xtold_ok (lw_calls hB) m1 (fun _ => m2)) hE t_dm5
  have g2 : xGo a 1577 LSW [.inl 0] CH_5 := xGo_sub t_ds5 g1
  exact lw_go hB (lw_T hB) (xtold_ok (lw_calls hB) c1 (fun _ => c2)) hE t_dc5 (by decide +kernel) (by decide +kernel) g2
theorem lw_d6 {a : XA} (hB : lw_B 6 a) (hn : xn1 a = 6) : xGo a 33 LSW [.inl 37] HS := by
  have hE : xEok (xEn 6 6) (xG a) := xEn_ok (by show _ ≤ xn1 a; omega) (by show xn1 a ≤ _; omega)
  obtain ⟨c1, c2⟩ := CM_6 hB.1 hB.2.1 hB.2.2.2.2.2.2.2.1 hB.2.2.2.2.2.1 hn
  obtain ⟨m1, m2⟩ := MM_6 hB.1 hB.2.1 hB.2.2.2.2.2.2.2.1 hB.2.2.2.2.2.1 hn
  have g1 : xGo a 1577 LSW [.inl 0] HM := lw_leafG hB (xtold_ok (lw_calls hB) m1 (fun _ => m2)) hE t_dm6
  have g2 : xGo a 1577 LSW [.inl 0] CH_6 := xGo_sub t_ds6 g1
  exact lw_go hB (lw_T hB) (xtold_ok (lw_calls hB) c1 (fun _ => c2)) hE t_dc6 (by decide +kernel) (by decide +kernel) g2
theorem lw_d7 {a : XA} (hB : lw_B 6 a) (hn : xn1 a = 7) : xGo a 33 LSW [.inl 37] HS := by
  have hE : xEok (xEn 7 7) (xG a) := xEn_ok (by show _ ≤ xn1 a; omega) (by show xn1 a ≤ _; omega)
  obtain ⟨c1, c2⟩ := CM_7 hB.1 hB.2.1 hB.2.2.2.2.2.2.2.1 hB.2.2.2.2.2.1 hn
  obtain ⟨m1, m2⟩ := MM_7 hB.1 hB.2.1 hB.2.2.2.2.2.2.2.1 hB.2.2.2.2.2.1 hn
  have g1 : xGo a 1577 LSW [.inl 0] HM := lw_leafG hB (xtold_ok (lw_calls hB) m1 (fun _ => m2)) hE t_dm7
  have g2 : xGo a 1577 LSW [.inl 0] CH_7 := xGo_sub t_ds7 g1
  exact lw_go hB (lw_T hB) (xtold_ok (lw_calls hB) c1 (fun _ => c2)) hE t_dc7 (by decide +kernel) (by decide +kernel) g2
theorem lw_d8 {a : XA} (hB : lw_B 6 a) (hn : xn1 a = 8) : xGo a 33 LSW [.inl 37] HS := by
  have hE : xEok (xEn 8 8) (xG a) := xEn_ok (by show _ ≤ xn1 a; omega) (by show xn1 a ≤ _; omega)
  obtain ⟨c1, c2⟩ := CM_8 hB.1 hB.2.1 hB.2.2.2.2.2.2.2.1 hB.2.2.2.2.2.1 hn
  obtain ⟨m1, m2⟩ := MM_8 hB.1 hB.2.1 hB.2.2.2.2.2.2.2.1 hB.2.2.2.2.2.1 hn
  have g1 : xGo a 1577 LSW [.inl 0] HM := lw_leafG hB (xtold_ok (lw_calls hB) m1 (fun _ => m2)) hE t_dm8
  have g2 : xGo a 1577 LSW [.inl 0] CH_8 := xGo_sub t_ds8 g1
  exact lw_go hB (lw_T hB) (xtold_ok (lw_calls hB) c1 (fun _ => c2)) hE t_dc8 (by decide +kernel) (by decide +kernel) g2
theorem lw_d9 {a : XA} (hB : lw_B 6 a) (hn : xn1 a = 9) : xGo a 33 LSW [.inl 37] HS := by
  have hE : xEok (xEn 9 9) (xG a) := xEn_ok (by show _ ≤ xn1 a; omega) (by show xn1 a ≤ _; omega)
  obtain ⟨c1, c2⟩ := CM_9 hB.1 hB.2.1 hB.2.2.2.2.2.2.2.1 hB.2.2.2.2.2.1 hn
  obtain ⟨m1, m2⟩ := MM_9 hB.1 hB.2.1 hB.2.2.2.2.2.2.2.1 hB.2.2.2.2.2.1 hn
  have g1 : xGo a 1577 LSW [.inl 0] HM := lw_leafG hB (xtold_ok (lw_calls hB) m1 (fun _ => m2)) hE t_dm9
  have g2 : xGo a 1577 LSW [.inl 0] CH_9 := xGo_sub t_ds9 g1
  exact lw_go hB (lw_T hB) (xtold_ok (lw_calls hB) c1 (fun _ => c2)) hE t_dc9 (by decide +kernel) (by decide +kernel) g2
theorem lw_d10 {a : XA} (hB : lw_B 6 a) (hn : xn1 a = 10) : xGo a 33 LSW [.inl 37] HS := by
  have hE : xEok (xEn 10 10) (xG a) := xEn_ok (by show _ ≤ xn1 a; omega) (by show xn1 a ≤ _; omega)
  obtain ⟨c1, c2⟩ := CM_10 hB.1 hB.2.1 hB.2.2.2.2.2.2.2.1 hB.2.2.2.2.2.1 hn
  obtain ⟨m1, m2⟩ := MM_10 hB.1 hB.2.1 hB.2.2.2.2.2.2.2.1 hB.2.2.2.2.2.1 hn
  have g1 : xGo a 1577 LSW [.inl 0] HM := lw_leafG hB (xtold_ok (lw_calls hB) m1 (fun _ => m2)) hE t_dm10
  have g2 : xGo a 1577 LSW [.inl 0] CH_10 := xGo_sub t_ds10 g1
  exact lw_go hB (lw_T hB) (xtold_ok (lw_calls hB) c1 (fun _ => c2)) hE t_dc10 (by decide +kernel) (by decide +kernel) g2
theorem lw_d11 {a : XA} (hB : lw_B 6 a) (hn : xn1 a = 11) : xGo a 33 LSW [.inl 37] HS := by
  have hE : xEok (xEn 11 11) (xG a) := xEn_ok (by show _ ≤ xn1 a; omega) (by show xn1 a ≤ _; omega)
  obtain ⟨c1, c2⟩ := CM_11 hB.1 hB.2.1 hB.2.2.2.2.2.2.2.1 hB.2.2.2.2.2.1 hn
  obtain ⟨m1, m2⟩ := MM_11 hB.1 hB.2.1 hB.2.2.2.2.2.2.2.1 hB.2.2.2.2.2.1 hn
  have g1 : xGo a 1577 LSW [.inl 1] HM := lw_leafG hB (xtold_ok (lw_calls hB) m1 (fun _ => m2)) hE t_dm11
  have g2 : xGo a 1577 LSW [.inl 1] CH_11 := xGo_sub t_ds11 g1
  exact lw_go hB (lw_T hB) (xtold_ok (lw_calls hB) c1 (fun _ => c2)) hE t_dc11 (by decide +kernel) (by decide +kernel) g2
theorem lw_d12 {a : XA} (hB : lw_B 6 a) (hn : xn1 a = 12) : xGo a 33 LSW [.inl 37] HS := by
  have hE : xEok (xEn 12 12) (xG a) := xEn_ok (by show _ ≤ xn1 a; omega) (by show xn1 a ≤ _; omega)
  obtain ⟨c1, c2⟩ := CM_12 hB.1 hB.2.1 hB.2.2.2.2.2.2.2.1 hB.2.2.2.2.2.1 hn
  obtain ⟨m1, m2⟩ := MM_12 hB.1 hB.2.1 hB.2.2.2.2.2.2.2.1 hB.2.2.2.2.2.1 hn
  have g1 : xGo a 1577 LSW [.inl 1] HM := lw_leafG hB (xtold_ok (lw_calls hB) m1 (fun _ => m2)) hE t_dm12
  have g2 : xGo a 1577 LSW [.inl 1] CH_12 := xGo_sub t_ds12 g1
  exact lw_go hB (lw_T hB) (xtold_ok (lw_calls hB) c1 (fun _ => c2)) hE t_dc12 (by decide +kernel) (by decide +kernel) g2
theorem lw_d13 {a : XA} (hB : lw_B 6 a) (hn : xn1 a = 13) : xGo a 33 LSW [.inl 37] HS := by
  have hE : xEok (xEn 13 13) (xG a) := xEn_ok (by show _ ≤ xn1 a; omega) (by show xn1 a ≤ _; omega)
  obtain ⟨c1, c2⟩ := CM_13 hB.1 hB.2.1 hB.2.2.2.2.2.2.2.1 hB.2.2.2.2.2.1 hn
  obtain ⟨m1, m2⟩ := MM_13 hB.1 hB.2.1 hB.2.2.2.2.2.2.2.1 hB.2.2.2.2.2.1 hn
  have g1 : xGo a 1577 LSW [.inl 2] HM := lw_leafG hB (xtold_ok (lw_calls hB) m1 (fun _ => m2)) hE t_dm13
  have g2 : xGo a 1577 LSW [.inl 2] CH_13 := xGo_sub t_ds13 g1
  exact lw_go hB (lw_T hB) (xtold_ok (lw_calls hB) c1 (fun _ => c2)) hE t_dc13 (by decide +kernel) (by decide +kernel) g2
theorem lw_d14 {a : XA} (hB : lw_B 6 a) (hn : xn1 a = 14) : xGo a 33 LSW [.inl 37] HS := by
  have hE : xEok (xEn 14 14) (xG a) := xEn_ok (by show _ ≤ xn1 a; omega) (by show xn1 a ≤ _; omega)
  obtain ⟨c1, c2⟩ := CM_14 hB.1 hB.2.1 hB.2.2.2.2.2.2.2.1 hB.2.2.2.2.2.1 hn
  obtain ⟨m1, m2⟩ := MM_14 hB.1 hB.2.1 hB.2.2.2.2.2.2.2.1 hB.2.2.2.2.2.1 hn
  have g1 : xGo a 1577 LSW [.inl 3] HM := lw_leafG hB (xtold_ok (lw_calls hB) m1 (fun _ => m2)) hE t_dm14
  have g2 : xGo a 1577 LSW [.inl 3] CH_14 := xGo_sub t_ds14 g1
  exact lw_go hB (lw_T hB) (xtold_ok (lw_calls hB) c1 (fun _ => c2)) hE t_dc14 (by decide +kernel) (by decide +kernel) g2
theorem lw_d15 {a : XA} (hB : lw_B 6 a) (hn : xn1 a = 15) : xGo a 33 LSW [.inl 37] HS := by
  have hE : xEok (xEn 15 15) (xG a) := xEn_ok (by show _ ≤ xn1 a; omega) (by show xn1 a ≤ _; omega)
  obtain ⟨c1, c2⟩ := CM_15 hB.1 hB.2.1 hB.2.2.2.2.2.2.2.1 hB.2.2.2.2.2.1 hn
  obtain ⟨m1, m2⟩ := MM_15 hB.1 hB.2.1 hB.2.2.2.2.2.2.2.1 hB.2.2.2.2.2.1 hn
  have g1 : xGo a 1577 LSW [.inl 4] HM := lw_leafG hB (xtold_ok (lw_calls hB) m1 (fun _ => m2)) hE t_dm15
  have g2 : xGo a 1577 LSW [.inl 4] CH_15 := xGo_sub t_ds15 g1
  exact lw_go hB (lw_T hB) (xtold_ok (lw_calls hB) c1 (fun _ => c2)) hE t_dc15 (by decide +kernel) (by decide +kernel) g2
theorem lw_d16 {a : XA} (hB : lw_B 6 a) (hn : xn1 a = 16) : xGo a 33 LSW [.inl 37] HS := by
  have hE : xEok (xEn 16 16) (xG a) := xEn_ok (by show _ ≤ xn1 a; omega) (by show xn1 a ≤ _; omega)
  obtain ⟨c1, c2⟩ := CM_16 hB.1 hB.2.1 hB.2.2.2.2.2.2.2.1 hB.2.2.2.2.2.1 hn
  obtain ⟨m1, m2⟩ := MM_16 hB.1 hB.2.1 hB.2.2.2.2.2.2.2.1 hB.2.2.2.2.2.1 hn
  have g1 : xGo a 1577 LSW [.inl 5] HM := lw_leafG hB (xtold_ok (lw_calls hB) m1 (fun _ => m2)) hE t_dm16
  have g2 : xGo a 1577 LSW [.inl 5] CH_16 := xGo_sub t_ds16 g1
  exact lw_go hB (lw_T hB) (xtold_ok (lw_calls hB) c1 (fun _ => c2)) hE t_dc16 (by decide +kernel) (by decide +kernel) g2
theorem lw_d17 {a : XA} (hB : lw_B 6 a) (hn : xn1 a = 17) : xGo a 33 LSW [.inl 37] HS := by
  have hE : xEok (xEn 17 17) (xG a) := xEn_ok (by show _ ≤ xn1 a; omega) (by show xn1 a ≤ _; omega)
  obtain ⟨c1, c2⟩ := CM_17 hB.1 hB.2.1 hB.2.2.2.2.2.2.2.1 hB.2.2.2.2.2.1 hn
  obtain ⟨m1, m2⟩ := MM_17 hB.1 hB.2.1 hB.2.2.2.2.2.2.2.1 hB.2.2.2.2.2.1 hn
  have g1 : xGo a 1577 LSW [.inl 6] HM := lw_leafG hB (xtold_ok (lw_calls hB) m1 (fun _ => m2)) hE t_dm17
  have g2 : xGo a 1577 LSW [.inl 6] CH_17 := xGo_sub t_ds17 g1
  exact lw_go hB (lw_T hB) (xtold_ok (lw_calls hB) c1 (fun _ => c2)) hE t_dc17 (by decide +kernel) (by decide +kernel) g2
theorem lw_d18 {a : XA} (hB : lw_B 6 a) (hn : xn1 a = 18) : xGo a 33 LSW [.inl 37] HS := by
  have hE : xEok (xEn 18 18) (xG a) := xEn_ok (by show _ ≤ xn1 a; omega) (by show xn1 a ≤ _; omega)
  obtain ⟨c1, c2⟩ := CM_18 hB.1 hB.2.1 hB.2.2.2.2.2.2.2.1 hB.2.2.2.2.2.1 hn
  obtain ⟨m1, m2⟩ := MM_18 hB.1 hB.2.1 hB.2.2.2.2.2.2.2.1 hB.2.2.2.2.2.1 hn
  have g1 : xGo a 1577 LSW [.inl 6] HM := lw_leafG hB (xtold_ok (lw_calls hB) m1 (fun _ => m2)) hE t_dm18
  have g2 : xGo a 1577 LSW [.inl 6] CH_18 := xGo_sub t_ds18 g1
  exact lw_go hB (lw_T hB) (xtold_ok (lw_calls hB) c1 (fun _ => c2)) hE t_dc18 (by decide +kernel) (by decide +kernel) g2
theorem lw_d19 {a : XA} (hB : lw_B 6 a) (hn : xn1 a = 19) : xGo a 33 LSW [.inl 37] HS := by
  have hE : xEok (xEn 19 19) (xG a) := xEn_ok (by show _ ≤ xn1 a; omega) (by show xn1 a ≤ _; omega)
  obtain ⟨c1, c2⟩ := CM_19 hB.1 hB.2.1 hB.2.2.2.2.2.2.2.1 hB.2.2.2.2.2.1 hn
  obtain ⟨m1, m2⟩ := MM_19 hB.1 hB.2.1 hB.2.2.2.2.2.2.2.1 hB.2.2.2.2.2.1 hn
  have g1 : xGo a 1577 LSW [.inl 7] HM := lw_leafG hB (xtold_ok (lw_calls hB) m1 (fun _ => m2)) hE t_dm19
  have g2 : xGo a 1577 LSW [.inl 7] CH_19 := xGo_sub t_ds19 g1
  exact lw_go hB (lw_T hB) (xtold_ok (lw_calls hB) c1 (fun _ => c2)) hE t_dc19 (by decide +kernel) (by decide +kernel) g2
theorem lw_d20 {a : XA} (hB : lw_B 6 a) (hn : xn1 a = 20) : xGo a 33 LSW [.inl 37] HS := by
  have hE : xEok (xEn 20 20) (xG a) := xEn_ok (by show _ ≤ xn1 a; omega) (by show xn1 a ≤ _; omega)
  obtain ⟨c1, c2⟩ := CM_20 hB.1 hB.2.1 hB.2.2.2.2.2.2.2.1 hB.2.2.2.2.2.1 hn
  obtain ⟨m1, m2⟩ := MM_20 hB.1 hB.2.1 hB.2.2.2.2.2.2.2.1 hB.2.2.2.2.2.1 hn
  have g1 : xGo a 1577 LSW [.inl 8] HM := lw_leafG hB (xtold_ok (lw_calls hB) m1 (fun _ => m2)) hE t_dm20
  have g2 : xGo a 1577 LSW [.inl 8] CH_20 := xGo_sub t_ds20 g1
  exact lw_go hB (lw_T hB) (xtold_ok (lw_calls hB) c1 (fun _ => c2)) hE t_dc20 (by decide +kernel) (by decide +kernel) g2
theorem lw_d21 {a : XA} (hB : lw_B 6 a) (hn : xn1 a = 21) : xGo a 33 LSW [.inl 37] HS := by
  have hE : xEok (xEn 21 21) (xG a) := xEn_ok (by show _ ≤ xn1 a; omega) (by show xn1 a ≤ _; omega)
  obtain ⟨c1, c2⟩ := CM_21 hB.1 hB.2.1 hB.2.2.2.2.2.2.2.1 hB.2.2.2.2.2.1 hn
  obtain ⟨m1, m2⟩ := MM_21 hB.1 hB.2.1 hB.2.2.2.2.2.2.2.1 hB.2.2.2.2.2.1 hn
  have g1 : xGo a 1577 LSW [.inl 8] HM := lw_leafG hB (xtold_ok (lw_calls hB) m1 (fun _ => m2)) hE t_dm21
  have g2 : xGo a 1577 LSW [.inl 8] CH_21 := xGo_sub t_ds21 g1
  exact lw_go hB (lw_T hB) (xtold_ok (lw_calls hB) c1 (fun _ => c2)) hE t_dc21 (by decide +kernel) (by decide +kernel) g2
theorem lw_d22 {a : XA} (hB : lw_B 6 a) (hn : xn1 a = 22) : xGo a 33 LSW [.inl 37] HS := by
  have hE : xEok (xEn 22 22) (xG a) := xEn_ok (by show _ ≤ xn1 a; omega) (by show xn1 a ≤ _; omega)
  obtain ⟨c1, c2⟩ := CM_22 hB.1 hB.2.1 hB.2.2.2.2.2.2.2.1 hB.2.2.2.2.2.1 hn
  obtain ⟨m1, m2⟩ := MM_22 hB.1 hB.2.1 hB.2.2.2.2.2.2.2.1 hB.2.2.2.2.2.1 hn
  have g1 : xGo a 1577 LSW [.inl 9] HM := lw_leafG hB (xtold_ok (lw_calls hB) m1 (fun _ => m2)) hE t_dm22
  have g2 : xGo a 1577 LSW [.inl 9] CH_22 := xGo_sub t_ds22 g1
  exact lw_go hB (lw_T hB) (xtold_ok (lw_calls hB) c1 (fun _ => c2)) hE t_dc22 (by decide +kernel) (by decide +kernel) g2
theorem lw_d23 {a : XA} (hB : lw_B 6 a) (hn : xn1 a = 23) : xGo a 33 LSW [.inl 37] HS := by
  have hE : xEok (xEn 23 23) (xG a) := xEn_ok (by show _ ≤ xn1 a; omega) (by show xn1 a ≤ _; omega)
  obtain ⟨c1, c2⟩ := CM_23 hB.1 hB.2.1 hB.2.2.2.2.2.2.2.1 hB.2.2.2.2.2.1 hn
  obtain ⟨m1, m2⟩ := MM_23 hB.1 hB.2.1 hB.2.2.2.2.2.2.2.1 hB.2.2.2.2.2.1 hn
  have g1 : xGo a 1577 LSW [.inl 10] HM := lw_leafG hB (xtold_ok (lw_calls hB) m1 (fun _ => m2)) hE t_dm23
  have g2 : xGo a 1577 LSW [.inl 10] CH_23 := xGo_sub t_ds23 g1
  exact lw_go hB (lw_T hB) (xtold_ok (lw_calls hB) c1 (fun _ => c2)) hE t_dc23 (by decide +kernel) (by decide +kernel) g2
theorem lw_d24 {a : XA} (hB : lw_B 6 a) (hn : xn1 a = 24) : xGo a 33 LSW [.inl 37] HS := by
  have hE : xEok (xEn 24 24) (xG a) := xEn_ok (by show _ ≤ xn1 a; omega) (by show xn1 a ≤ _; omega)
  obtain ⟨c1, c2⟩ := CM_24 hB.1 hB.2.1 hB.2.2.2.2.2.2.2.1 hB.2.2.2.2.2.1 hn
  obtain ⟨m1, m2⟩ := MM_24 hB.1 hB.2.1 hB.2.2.2.2.2.2.2.1 hB.2.2.2.2.2.1 hn
  have g1 : xGo a 1577 LSW [.inl 10] HM := lw_leafG hB (xtold_ok (lw_calls hB) m1 (fun _ => m2)) hE t_dm24
  have g2 : xGo a 1577 LSW [.inl 10] CH_24 := xGo_sub t_ds24 g1
  exact lw_go hB (lw_T hB) (xtold_ok (lw_calls hB) c1 (fun _ => c2)) hE t_dc24 (by decide +kernel) (by decide +kernel) g2
theorem lw_d25 {a : XA} (hB : lw_B 6 a) (hn : xn1 a = 25) : xGo a 33 LSW [.inl 37] HS := by
  have hE : xEok (xEn 25 25) (xG a) := xEn_ok (by show _ ≤ xn1 a; omega) (by show xn1 a ≤ _; omega)
  obtain ⟨c1, c2⟩ := CM_25 hB.1 hB.2.1 hB.2.2.2.2.2.2.2.1 hB.2.2.2.2.2.1 hn
  obtain ⟨m1, m2⟩ := MM_25 hB.1 hB.2.1 hB.2.2.2.2.2.2.2.1 hB.2.2.2.2.2.1 hn
  have g1 : xGo a 1577 LSW [.inl 11] HM := lw_leafG hB (xtold_ok (lw_calls hB) m1 (fun _ => m2)) hE t_dm25
  have g2 : xGo a 1577 LSW [.inl 11] CH_25 := xGo_sub t_ds25 g1
  exact lw_go hB (lw_T hB) (xtold_ok (lw_calls hB) c1 (fun _ => c2)) hE t_dc25 (by decide +kernel) (by decide +kernel) g2
theorem lw_d26 {a : XA} (hB : lw_B 6 a) (hn : xn1 a = 26) : xGo a 33 LSW [.inl 37] HS := by
  have hE : xEok (xEn 26 26) (xG a) := xEn_ok (by show _ ≤ xn1 a; omega) (by show xn1 a ≤ _; omega)
  obtain ⟨c1, c2⟩ := CM_26 hB.1 hB.2.1 hB.2.2.2.2.2.2.2.1 hB.2.2.2.2.2.1 hn
  obtain ⟨m1, m2⟩ := MM_26 hB.1 hB.2.1 hB.2.2.2.2.2.2.2.1 hB.2.2.2.2.2.1 hn
  have g1 : xGo a 1577 LSW [.inl 12] HM := lw_leafG hB (xtold_ok (lw_calls hB) m1 (fun _ => m2)) hE t_dm26
  have g2 : xGo a 1577 LSW [.inl 12] CH_26 := xGo_sub t_ds26 g1
  exact lw_go hB (lw_T hB) (xtold_ok (lw_calls hB) c1 (fun _ => c2)) hE t_dc26 (by decide +kernel) (by decide +kernel) g2
theorem lw_d27 {a : XA} (hB : lw_B 6 a) (hn : xn1 a = 27) : xGo a 33 LSW [.inl 37] HS := by
  have hE : xEok (xEn 27 27) (xG a) := xEn_ok (by show _ ≤ xn1 a; omega) (by show xn1 a ≤ _; omega)
  obtain ⟨c1, c2⟩ := CM_27 hB.1 hB.2.1 hB.2.2.2.2.2.2.2.1 hB.2.2.2.2.2.1 hn
  obtain ⟨m1, m2⟩ := MM_27 hB.1 hB.2.1 hB.2.2.2.2.2.2.2.1 hB.2.2.2.2.2.1 hn
  have g1 : xGo a 1577 LSW [.inl 12] HM := lw_leafG hB (xtold_ok (lw_calls hB) m1 (fun _ => m2)) hE t_dm27
  have g2 : xGo a 1577 LSW [.inl 12] CH_27 := xGo_sub t_ds27 g1
  exact lw_go hB (lw_T hB) (xtold_ok (lw_calls hB) c1 (fun _ => c2)) hE t_dc27 (by decide +kernel) (by decide +kernel) g2
theorem lw_d28 {a : XA} (hB : lw_B 6 a) (hn : xn1 a = 28) : xGo a 33 LSW [.inl 37] HS := by
  have hE : xEok (xEn 28 28) (xG a) := xEn_ok (by show _ ≤ xn1 a; omega) (by show xn1 a ≤ _; omega)
  obtain ⟨c1, c2⟩ := CM_28 hB.1 hB.2.1 hB.2.2.2.2.2.2.2.1 hB.2.2.2.2.2.1 hn
  obtain ⟨m1, m2⟩ := MM_28 hB.1 hB.2.1 hB.2.2.2.2.2.2.2.1 hB.2.2.2.2.2.1 hn
  have g1 : xGo a 1577 LSW [.inl 13] HM := lw_leafG hB (xtold_ok (lw_calls hB) m1 (fun _ => m2)) hE t_dm28
  have g2 : xGo a 1577 LSW [.inl 13] CH_28 := xGo_sub t_ds28 g1
  exact lw_go hB (lw_T hB) (xtold_ok (lw_calls hB) c1 (fun _ => c2)) hE t_dc28 (by decide +kernel) (by decide +kernel) g2
theorem lw_d29 {a : XA} (hB : lw_B 6 a) (hn : xn1 a = 29) : xGo a 33 LSW [.inl 37] HS := by
  have hE : xEok (xEn 29 29) (xG a) := xEn_ok (by show _ ≤ xn1 a; omega) (by show xn1 a ≤ _; omega)
  obtain ⟨c1, c2⟩ := CM_29 hB.1 hB.2.1 hB.2.2.2.2.2.2.2.1 hB.2.2.2.2.2.1 hn
  obtain ⟨m1, m2⟩ := MM_29 hB.1 hB.2.1 hB.2.2.2.2.2.2.2.1 hB.2.2.2.2.2.1 hn
  have g1 : xGo a 1577 LSW [.inl 14] HM := lw_leafG hB (xtold_ok (lw_calls hB) m1 (fun _ => m2)) hE t_dm29
  have g2 : xGo a 1577 LSW [.inl 14] CH_29 := xGo_sub t_ds29 g1
  exact lw_go hB (lw_T hB) (xtold_ok (lw_calls hB) c1 (fun _ => c2)) hE t_dc29 (by decide +kernel) (by decide +kernel) g2
theorem lw_d30 {a : XA} (hB : lw_B 6 a) (hn : xn1 a = 30) : xGo a 33 LSW [.inl 37] HS := by
  have hE : xEok (xEn 30 30) (xG a) := xEn_ok (by show _ ≤ xn1 a; omega) (by show xn1 a ≤ _; omega)
  obtain ⟨c1, c2⟩ := CM_30 hB.1 hB.2.1 hB.2.2.2.2.2.2.2.1 hB.2.2.2.2.2.1 hn
  obtain ⟨m1, m2⟩ := MM_30 hB.1 hB.2.1 hB.2.2.2.2.2.2.2.1 hB.2.2.2.2.2.1 hn
  have g1 : xGo a 1577 LSW [.inl 15] HM := lw_leafG hB (xtold_ok (lw_calls hB) m1 (fun _ => m2)) hE t_dm30
  have g2 : xGo a 1577 LSW [.inl 15] CH_30 := xGo_sub t_ds30 g1
  exact lw_go hB (lw_T hB) (xtold_ok (lw_calls hB) c1 (fun _ => c2)) hE t_dc30 (by decide +kernel) (by decide +kernel) g2
theorem lw_d31 {a : XA} (hB : lw_B 6 a) (hn : xn1 a = 31) : xGo a 33 LSW [.inl 37] HS := by
  have hE : xEok (xEn 31 31) (xG a) := xEn_ok (by show _ ≤ xn1 a; omega) (by show xn1 a ≤ _; omega)
  obtain ⟨c1, c2⟩ := CM_31 hB.1 hB.2.1 hB.2.2.2.2.2.2.2.1 hB.2.2.2.2.2.1 hn
  obtain ⟨m1, m2⟩ := MM_31 hB.1 hB.2.1 hB.2.2.2.2.2.2.2.1 hB.2.2.2.2.2.1 hn
  have g1 : xGo a 1577 LSW [.inl 16] HM := lw_leafG hB (xtold_ok (lw_calls hB) m1 (fun _ => m2)) hE t_dm31
  have g2 : xGo a 1577 LSW [.inl 16] CH_31 := xGo_sub t_ds31 g1
  exact lw_go hB (lw_T hB) (xtold_ok (lw_calls hB) c1 (fun _ => c2)) hE t_dc31 (by decide +kernel) (by decide +kernel) g2
theorem lw_d32 {a : XA} (hB : lw_B 6 a) (hn : xn1 a = 32) : xGo a 33 LSW [.inl 37] HS := by
  have hE : xEok (xEn 32 32) (xG a) := xEn_ok (by show _ ≤ xn1 a; omega) (by show xn1 a ≤ _; omega)
  obtain ⟨c1, c2⟩ := CM_32 hB.1 hB.2.1 hB.2.2.2.2.2.2.2.1 hB.2.2.2.2.2.1 hn
  obtain ⟨m1, m2⟩ := MM_32 hB.1 hB.2.1 hB.2.2.2.2.2.2.2.1 hB.2.2.2.2.2.1 hn
  have g1 : xGo a 1577 LSW [.inl 17] HM := lw_leafG hB (xtold_ok (lw_calls hB) m1 (fun _ => m2)) hE t_dm32
  have g2 : xGo a 1577 LSW [.inl 17] CH_32 := xGo_sub t_ds32 g1
  exact lw_go hB (lw_T hB) (xtold_ok (lw_calls hB) c1 (fun _ => c2)) hE t_dc32 (by decide +kernel) (by decide +kernel) g2
theorem lw_d33 {a : XA} (hB : lw_B 6 a) (hn : xn1 a = 33) : xGo a 33 LSW [.inl 37] HS := by
  have hE : xEok (xEn 33 33) (xG a) := xEn_ok (by show _ ≤ xn1 a; omega) (by show xn1 a ≤ _; omega)
  obtain ⟨c1, c2⟩ := CM_33 hB.1 hB.2.1 hB.2.2.2.2.2.2.2.1 hB.2.2.2.2.2.1 hn
  obtain ⟨m1, m2⟩ := MM_33 hB.1 hB.2.1 hB.2.2.2.2.2.2.2.1 hB.2.2.2.2.2.1 hn
  have g1 : xGo a 1577 LSW [.inl 18] HM := lw_leafG hB (xtold_ok (lw_calls hB) m1 (fun _ => m2)) hE t_dm33
  have g2 : xGo a 1577 LSW [.inl 18] CH_33 := xGo_sub t_ds33 g1
  exact lw_go hB (lw_T hB) (xtold_ok (lw_calls hB) c1 (fun _ => c2)) hE t_dc33 (by decide +kernel) (by decide +kernel) g2
theorem lw_d34 {a : XA} (hB : lw_B 6 a) (hn : xn1 a = 34) : xGo a 33 LSW [.inl 37] HS := by
  have hE : xEok (xEn 34 34) (xG a) := xEn_ok (by show _ ≤ xn1 a; omega) (by show xn1 a ≤ _; omega)
  obtain ⟨c1, c2⟩ := CM_34 hB.1 hB.2.1 hB.2.2.2.2.2.2.2.1 hB.2.2.2.2.2.1 hn
  obtain ⟨m1, m2⟩ := MM_34 hB.1 hB.2.1 hB.2.2.2.2.2.2.2.1 hB.2.2.2.2.2.1 hn
  have g1 : xGo a 1577 LSW [.inl 19] HM := lw_leafG hB (xtold_ok (lw_calls hB) m1 (fun _ => m2)) hE t_dm34
  have g2 : xGo a 1577 LSW [.inl 19] CH_34 := xGo_sub t_ds34 g1
  exact lw_go hB (lw_T hB) (xtold_ok (lw_calls hB) c1 (fun _ => c2)) hE t_dc34 (by decide +kernel) (by decide +kernel) g2
theorem lw_d35 {a : XA} (hB : lw_B 6 a) (hn : xn1 a = 35) : xGo a 33 LSW [.inl 37] HS := by
  have hE : xEok (xEn 35 35) (xG a) := xEn_ok (by show _ ≤ xn1 a; omega) (by show xn1 a ≤ _; omega)
  obtain ⟨c1, c2⟩ := CM_35 hB.1 hB.2.1 hB.2.2.2.2.2.2.2.1 hB.2.2.2.2.2.1 hn
  obtain ⟨m1, m2⟩ := MM_35 hB.1 hB.2.1 hB.2.2.2.2.2.2.2.1 hB.2.2.2.2.2.1 hn
  have g1 : xGo a 1577 LSW [.inl 20] HM := lw_leafG hB (xtold_ok (lw_calls hB) m1 (fun _ => m2)) hE t_dm35
  have g2 : xGo a 1577 LSW [.inl 20] CH_35 := xGo_sub t_ds35 g1
  exact lw_go hB (lw_T hB) (xtold_ok (lw_calls hB) c1 (fun _ => c2)) hE t_dc35 (by decide +kernel) (by decide +kernel) g2
theorem lw_d36 {a : XA} (hB : lw_B 6 a) (hn : xn1 a = 36) : xGo a 33 LSW [.inl 37] HS := by
  have hE : xEok (xEn 36 36) (xG a) := xEn_ok (by show _ ≤ xn1 a; omega) (by show xn1 a ≤ _; omega)
  obtain ⟨c1, c2⟩ := CM_36 hB.1 hB.2.1 hB.2.2.2.2.2.2.2.1 hB.2.2.2.2.2.1 hn
  obtain ⟨m1, m2⟩ := MM_36 hB.1 hB.2.1 hB.2.2.2.2.2.2.2.1 hB.2.2.2.2.2.1 hn
  have g1 : xGo a 1577 LSW [.inl 21] HM := lw_leafG hB (xtold_ok (lw_calls hB) m1 (fun _ => m2)) hE t_dm36
  have g2 : xGo a 1577 LSW [.inl 21] CH_36 := xGo_sub t_ds36 g1
  exact lw_go hB (lw_T hB) (xtold_ok (lw_calls hB) c1 (fun _ => c2)) hE t_dc36 (by decide +kernel) (by decide +kernel) g2
theorem lw_d37 {a : XA} (hB : lw_B 6 a) (hn : xn1 a = 37) : xGo a 33 LSW [.inl 37] HS := by
  have hE : xEok (xEn 37 37) (xG a) := xEn_ok (by show _ ≤ xn1 a; omega) (by show xn1 a ≤ _; omega)
  obtain ⟨c1, c2⟩ := CM_37 hB.1 hB.2.1 hB.2.2.2.2.2.2.2.1 hB.2.2.2.2.2.1 hn
  obtain ⟨m1, m2⟩ := MM_37 hB.1 hB.2.1 hB.2.2.2.2.2.2.2.1 hB.2.2.2.2.2.1 hn
  have g1 : xGo a 1577 LSW [.inl 22] HM := lw_leafG hB (xtold_ok (lw_calls hB) m1 (fun _ => m2)) hE t_dm37
  have g2 : xGo a 1577 LSW [.inl 22] CH_37 := xGo_sub t_ds37 g1
  exact lw_go hB (lw_T hB) (xtold_ok (lw_calls hB) c1 (fun _ => c2)) hE t_dc37 (by decide +kernel) (by decide +kernel) g2
theorem lw_d38 {a : XA} (hB : lw_B 6 a) (hn : xn1 a = 38) : xGo a 33 LSW [.inl 37] HS := by
  have hE : xEok (xEn 38 38) (xG a) := xEn_ok (by show _ ≤ xn1 a; omega) (by show xn1 a ≤ _; omega)
  obtain ⟨c1, c2⟩ := CM_38 hB.1 hB.2.1 hB.2.2.2.2.2.2.2.1 hB.2.2.2.2.2.1 hn
  obtain ⟨m1, m2⟩ := MM_38 hB.1 hB.2.1 hB.2.2.2.2.2.2.2.1 hB.2.2.2.2.2.1 hn
  have g1 : xGo a 1577 LSW [.inl 23] HM := lw_leafG hB (xtold_ok (lw_calls hB) m1 (fun _ => m2)) hE t_dm38
  have g2 : xGo a 1577 LSW [.inl 23] CH_38 := xGo_sub t_ds38 g1
  exact lw_go hB (lw_T hB) (xtold_ok (lw_calls hB) c1 (fun _ => c2)) hE t_dc38 (by decide +kernel) (by decide +kernel) g2
theorem lw_d39 {a : XA} (hB : lw_B 6 a) (hn : xn1 a = 39) : xGo a 33 LSW [.inl 37] HS := by
  have hE : xEok (xEn 39 39) (xG a) := xEn_ok (by show _ ≤ xn1 a; omega) (by show xn1 a ≤ _; omega)
  obtain ⟨c1, c2⟩ := CM_39 hB.1 hB.2.1 hB.2.2.2.2.2.2.2.1 hB.2.2.2.2.2.1 hn
  obtain ⟨m1, m2⟩ := MM_39 hB.1 hB.2.1 hB.2.2.2.2.2.2.2.1 hB.2.2.2.2.2.1 hn
  have g1 : xGo a 1577 LSW [.inl 24] HM := lw_leafG hB (xtold_ok (lw_calls hB) m1 (fun _ => m2)) hE t_dm39
  have g2 : xGo a 1577 LSW [.inl 24] CH_39 := xGo_sub t_ds39 g1
  exact lw_go hB (lw_T hB) (xtold_ok (lw_calls hB) c1 (fun _ => c2)) hE t_dc39 (by decide +kernel) (by decide +kernel) g2
theorem lw_d40 {a : XA} (hB : lw_B 6 a) (hn : xn1 a = 40) : xGo a 33 LSW [.inl 37] HS := by
  have hE : xEok (xEn 40 40) (xG a) := xEn_ok (by show _ ≤ xn1 a; omega) (by show xn1 a ≤ _; omega)
  obtain ⟨c1, c2⟩ := CM_40 hB.1 hB.2.1 hB.2.2.2.2.2.2.2.1 hB.2.2.2.2.2.1 hn
  obtain ⟨m1, m2⟩ := MM_40 hB.1 hB.2.1 hB.2.2.2.2.2.2.2.1 hB.2.2.2.2.2.1 hn
  have g1 : xGo a 1577 LSW [.inl 25] HM := lw_leafG hB (xtold_ok (lw_calls hB) m1 (fun _ => m2)) hE t_dm40
  have g2 : xGo a 1577 LSW [.inl 25] CH_40 := xGo_sub t_ds40 g1
  exact lw_go hB (lw_T hB) (xtold_ok (lw_calls hB) c1 (fun _ => c2)) hE t_dc40 (by decide +kernel) (by decide +kernel) g2
theorem lw_d41 {a : XA} (hB : lw_B 6 a) (hn : xn1 a = 41) : xGo a 33 LSW [.inl 37] HS := by
  have hE : xEok (xEn 41 41) (xG a) := xEn_ok (by show _ ≤ xn1 a; omega) (by show xn1 a ≤ _; omega)
  obtain ⟨c1, c2⟩ := CM_41 hB.1 hB.2.1 hB.2.2.2.2.2.2.2.1 hB.2.2.2.2.2.1 hn
  obtain ⟨m1, m2⟩ := MM_41 hB.1 hB.2.1 hB.2.2.2.2.2.2.2.1 hB.2.2.2.2.2.1 hn
  have g1 : xGo a 1577 LSW [.inl 26] HM := lw_leafG hB (xtold_ok (lw_calls hB) m1 (fun _ => m2)) hE t_dm41
  have g2 : xGo a 1577 LSW [.inl 26] CH_41 := xGo_sub t_ds41 g1
  exact lw_go hB (lw_T hB) (xtold_ok (lw_calls hB) c1 (fun _ => c2)) hE t_dc41 (by decide +kernel) (by decide +kernel) g2
theorem lw_d42 {a : XA} (hB : lw_B 6 a) (hn : xn1 a = 42) : xGo a 33 LSW [.inl 37] HS := by
  have hE : xEok (xEn 42 42) (xG a) := xEn_ok (by show _ ≤ xn1 a; omega) (by show xn1 a ≤ _; omega)
  obtain ⟨c1, c2⟩ := CM_42 hB.1 hB.2.1 hB.2.2.2.2.2.2.2.1 hB.2.2.2.2.2.1 hn
  obtain ⟨m1, m2⟩ := MM_42 hB.1 hB.2.1 hB.2.2.2.2.2.2.2.1 hB.2.2.2.2.2.1 hn
  have g1 : xGo a 1577 LSW [.inl 27] HM := lw_leafG hB (xtold_ok (lw_calls hB) m1 (fun _ => m2)) hE t_dm42
  have g2 : xGo a 1577 LSW [.inl 27] CH_42 := xGo_sub t_ds42 g1
  exact lw_go hB (lw_T hB) (xtold_ok (lw_calls hB) c1 (fun _ => c2)) hE t_dc42 (by decide +kernel) (by decide +kernel) g2
theorem lw_d43 {a : XA} (hB : lw_B 6 a) (hn : xn1 a = 43) : xGo a 33 LSW [.inl 37] HS := by
  have hE : xEok (xEn 43 43) (xG a) := xEn_ok (by show _ ≤ xn1 a; omega) (by show xn1 a ≤ _; omega)
  obtain ⟨c1, c2⟩ := CM_43 hB.1 hB.2.1 hB.2.2.2.2.2.2.2.1 hB.2.2.2.2.2.1 hn
  obtain ⟨m1, m2⟩ := MM_43 hB.1 hB.2.1 hB.2.2.2.2.2.2.2.1 hB.2.2.2.2.2.1 hn
  have g1 : xGo a 1577 LSW [.inl 27] HM := lw_leafG hB (xtold_ok (lw_calls hB) m1 (fun _ => m2)) hE t_dm43
  have g2 : xGo a 1577 LSW [.inl 27] CH_43 := xGo_sub t_ds43 g1
  exact lw_go hB (lw_T hB) (xtold_ok (lw_calls hB) c1 (fun _ => c2)) hE t_dc43 (by decide +kernel) (by decide +kernel) g2
theorem lw_d44 {a : XA} (hB : lw_B 6 a) (hn : xn1 a = 44) : xGo a 33 LSW [.inl 37] HS := by
  have hE : xEok (xEn 44 44) (xG a) := xEn_ok (by show _ ≤ xn1 a; omega) (by show xn1 a ≤ _; omega)
  obtain ⟨c1, c2⟩ := CM_44 hB.1 hB.2.1 hB.2.2.2.2.2.2.2.1 hB.2.2.2.2.2.1 hn
  obtain ⟨m1, m2⟩ := MM_44 hB.1 hB.2.1 hB.2.2.2.2.2.2.2.1 hB.2.2.2.2.2.1 hn
  have g1 : xGo a 1577 LSW [.inl 28] HM := lw_leafG hB (xtold_ok (lw_calls hB) m1 (fun _ => m2)) hE t_dm44
  have g2 : xGo a 1577 LSW [.inl 28] CH_44 := xGo_sub t_ds44 g1
  exact lw_go hB (lw_T hB) (xtold_ok (lw_calls hB) c1 (fun _ => c2)) hE t_dc44 (by decide +kernel) (by decide +kernel) g2
theorem lw_d45 {a : XA} (hB : lw_B 6 a) (hn : xn1 a = 45) : xGo a 33 LSW [.inl 37] HS := by
  have hE : xEok (xEn 45 45) (xG a) := xEn_ok (by show _ ≤ xn1 a; omega) (by show xn1 a ≤ _; omega)
  obtain ⟨c1, c2⟩ := CM_45 hB.1 hB.2.1 hB.2.2.2.2.2.2.2.1 hB.2.2.2.2.2.1 hn
  obtain ⟨m1, m2⟩ := MM_45 hB.1 hB.2.1 hB.2.2.2.2.2.2.2.1 hB.2.2.2.2.2.1 hn
  have g1 : xGo a 1577 LSW [.inl 29] HM := lw_leafG hB (xtold_ok (lw_calls hB) m1 (fun _ => m2)) hE t_dm45
  have g2 : xGo a 1577 LSW [.inl 29] CH_45 := xGo_sub t_ds45 g1
  exact lw_go hB (lw_T hB) (xtold_ok (lw_calls hB) c1 (fun _ => c2)) hE t_dc45 (by decide +kernel) (by decide +kernel) g2
theorem lw_d46 {a : XA} (hB : lw_B 6 a) (hn : xn1 a = 46) : xGo a 33 LSW [.inl 37] HS := by
  have hE : xEok (xEn 46 46) (xG a) := xEn_ok (by show _ ≤ xn1 a; omega) (by show xn1 a ≤ _; omega)
  obtain ⟨c1, c2⟩ := CM_46 hB.1 hB.2.1 hB.2.2.2.2.2.2.2.1 hB.2.2.2.2.2.1 hn
  obtain ⟨m1, m2⟩ := MM_46 hB.1 hB.2.1 hB.2.2.2.2.2.2.2.1 hB.2.2.2.2.2.1 hn
  have g1 : xGo a 1577 LSW [.inl 30] HM := lw_leafG hB (xtold_ok (lw_calls hB) m1 (fun _ => m2)) hE t_dm46
  have g2 : xGo a 1577 LSW [.inl 30] CH_46 := xGo_sub t_ds46 g1
  exact lw_go hB (lw_T hB) (xtold_ok (lw_calls hB) c1 (fun _ => c2)) hE t_dc46 (by decide +kernel) (by decide +kernel) g2
theorem lw_d47 {a : XA} (hB : lw_B 6 a) (hn : xn1 a = 47) : xGo a 33 LSW [.inl 37] HS := by
  have hE : xEok (xEn 47 47) (xG a) := xEn_ok (by show _ ≤ xn1 a; omega) (by show xn1 a ≤ _; omega)
  obtain ⟨c1, c2⟩ := CM_47 hB.1 hB.2.1 hB.2.2.2.2.2.2.2.1 hB.2.2.2.2.2.1 hn
  obtain ⟨m1, m2⟩ := MM_47 hB.1 hB.2.1 hB.2.2.2.2.2.2.2.1 hB.2.2.2.2.2.1 hn
  have g1 : xGo a 1577 LSW [.inl 31] HM := lw_leafG hB (xtold_ok (lw_calls hB) m1 (fun _ => m2)) hE t_dm47
  have g2 : xGo a 1577 LSW [.inl 31] CH_47 := xGo_sub t_ds47 g1
  exact lw_go hB (lw_T hB) (xtold_ok (lw_calls hB) c1 (fun _ => c2)) hE t_dc47 (by decide +kernel) (by decide +kernel) g2
theorem lw_d48 {a : XA} (hB : lw_B 6 a) (hn : xn1 a = 48) : xGo a 33 LSW [.inl 37] HS := by
  have hE : xEok (xEn 48 48) (xG a) := xEn_ok (by show _ ≤ xn1 a; omega) (by show xn1 a ≤ _; omega)
  obtain ⟨c1, c2⟩ := CM_48 hB.1 hB.2.1 hB.2.2.2.2.2.2.2.1 hB.2.2.2.2.2.1 hn
  obtain ⟨m1, m2⟩ := MM_48 hB.1 hB.2.1 hB.2.2.2.2.2.2.2.1 hB.2.2.2.2.2.1 hn
  have g1 : xGo a 1577 LSW [.inl 32] HM := lw_leafG hB (xtold_ok (lw_calls hB) m1 (fun _ => m2)) hE t_dm48
  have g2 : xGo a 1577 LSW [.inl 32] CH_48 := xGo_sub t_ds48 g1
  exact lw_go hB (lw_T hB) (xtold_ok (lw_calls hB) c1 (fun _ => c2)) hE t_dc48 (by decide +kernel) (by decide +kernel) g2
theorem lw_d49 {a : XA} (hB : lw_B 6 a) (hn : xn1 a = 49) : xGo a 33 LSW [.inl 37] HS := by
  have hE : xEok (xEn 49 49) (xG a) := xEn_ok (by show _ ≤ xn1 a; omega) (by show xn1 a ≤ _; omega)
  obtain ⟨c1, c2⟩ := CM_49 hB.1 hB.2.1 hB.2.2.2.2.2.2.2.1 hB.2.2.2.2.2.1 hn
  obtain ⟨m1, m2⟩ := MM_49 hB.1 hB.2.1 hB.2.2.2.2.2.2.2.1 hB.2.2.2.2.2.1 hn
  have g1 : xGo a 1577 LSW [.inl 32] HM := lw_leafG hB (xtold_ok (lw_calls hB) m1 (fun _ => m2)) hE t_dm49
  have g2 : xGo a 1577 LSW [.inl 32] CH_49 := xGo_sub t_ds49 g1
  exact lw_go hB (lw_T hB) (xtold_ok (lw_calls hB) c1 (fun _ => c2)) hE t_dc49 (by decide +kernel) (by decide +kernel) g2
theorem lw_d50 {a : XA} (hB : lw_B 6 a) (hn : xn1 a = 50) : xGo a 33 LSW [.inl 37] HS := by
  have hE : xEok (xEn 50 50) (xG a) := xEn_ok (by show _ ≤ xn1 a; omega) (by show xn1 a ≤ _; omega)
  obtain ⟨c1, c2⟩ := CM_50 hB.1 hB.2.1 hB.2.2.2.2.2.2.2.1 hB.2.2.2.2.2.1 hn
  obtain ⟨m1, m2⟩ := MM_50 hB.1 hB.2.1 hB.2.2.2.2.2.2.2.1 hB.2.2.2.2.2.1 hn
  have g1 : xGo a 1577 LSW [.inl 33] HM := lw_leafG hB (xtold_ok (lw_calls hB) m1 (fun _ => m2)) hE t_dm50
  have g2 : xGo a 1577 LSW [.inl 33] CH_50 := xGo_sub t_ds50 g1
  exact lw_go hB (lw_T hB) (xtold_ok (lw_calls hB) c1 (fun _ => c2)) hE t_dc50 (by decide +kernel) (by decide +kernel) g2
theorem lw_d51 {a : XA} (hB : lw_B 6 a) (hn : xn1 a = 51) : xGo a 33 LSW [.inl 37] HS := by
  have hE : xEok (xEn 51 51) (xG a) := xEn_ok (by show _ ≤ xn1 a; omega) (by show xn1 a ≤ _; omega)
  obtain ⟨c1, c2⟩ := CM_51 hB.1 hB.2.1 hB.2.2.2.2.2.2.2.1 hB.2.2.2.2.2.1 hn
  obtain ⟨m1, m2⟩ := MM_51 hB.1 hB.2.1 hB.2.2.2.2.2.2.2.1 hB.2.2.2.2.2.1 hn
  have g1 : xGo a 1577 LSW [.inl 34] HM := lw_leafG hB (xtold_ok (lw_calls hB) m1 (fun _ => m2)) hE t_dm51
  have g2 : xGo a 1577 LSW [.inl 34] CH_51 := xGo_sub t_ds51 g1
  exact lw_go hB (lw_T hB) (xtold_ok (lw_calls hB) c1 (fun _ => c2)) hE t_dc51 (by decide +kernel) (by decide +kernel) g2
theorem lw_d52 {a : XA} (hB : lw_B 6 a) (hn : xn1 a = 52) : xGo a 33 LSW [.inl 37] HS := by
  have hE : xEok (xEn 52 52) (xG a) := xEn_ok (by show _ ≤ xn1 a; omega) (by show xn1 a ≤ _; omega)
  obtain ⟨c1, c2⟩ := CM_52 hB.1 hB.2.1 hB.2.2.2.2.2.2.2.1 hB.2.2.2.2.2.1 hn
  obtain ⟨m1, m2⟩ := MM_52 hB.1 hB.2.1 hB.2.2.2.2.2.2.2.1 hB.2.2.2.2.2.1 hn
  have g1 : xGo a 1577 LSW [.inl 35] HM := lw_leafG hB (xtold_ok (lw_calls hB) m1 (fun _ => m2)) hE t_dm52
  have g2 : xGo a 1577 LSW [.inl 35] CH_52 := xGo_sub t_ds52 g1
  exact lw_go hB (lw_T hB) (xtold_ok (lw_calls hB) c1 (fun _ => c2)) hE t_dc52 (by decide +kernel) (by decide +kernel) g2
theorem lw_d53 {a : XA} (hB : lw_B 6 a) (hn : xn1 a = 53) : xGo a 33 LSW [.inl 37] HS := by
  have hE : xEok (xEn 53 53) (xG a) := xEn_ok (by show _ ≤ xn1 a; omega) (by show xn1 a ≤ _; omega)
  obtain ⟨c1, c2⟩ := CM_53 hB.1 hB.2.1 hB.2.2.2.2.2.2.2.1 hB.2.2.2.2.2.1 hn
  obtain ⟨m1, m2⟩ := MM_53 hB.1 hB.2.1 hB.2.2.2.2.2.2.2.1 hB.2.2.2.2.2.1 hn
  have g1 : xGo a 1577 LSW [.inl 36] HM := lw_leafG hB (xtold_ok (lw_calls hB) m1 (fun _ => m2)) hE t_dm53
  have g2 : xGo a 1577 LSW [.inl 36] CH_53 := xGo_sub t_ds53 g1
  exact lw_go hB (lw_T hB) (xtold_ok (lw_calls hB) c1 (fun _ => c2)) hE t_dc53 (by decide +kernel) (by decide +kernel) g2
theorem lw_d54 {a : XA} (hB : lw_B 6 a) (hn : xn1 a = 54) : xGo a 33 LSW [.inl 37] HS := by
  have hE : xEok (xEn 54 54) (xG a) := xEn_ok (by show _ ≤ xn1 a; omega) (by show xn1 a ≤ _; omega)
  obtain ⟨c1, c2⟩ := CM_54 hB.1 hB.2.1 hB.2.2.2.2.2.2.2.1 hB.2.2.2.2.2.1 hn
  obtain ⟨m1, m2⟩ := MM_54 hB.1 hB.2.1 hB.2.2.2.2.2.2.2.1 hB.2.2.2.2.2.1 hn
  have g1 : xGo a 1577 LSW [.inl 37] HM := lw_leafG hB (xtold_ok (lw_calls hB) m1 (fun _ => m2)) hE t_dm54
  have g2 : xGo a 1577 LSW [.inl 37] CH_54 := xGo_sub t_ds54 g1
  exact lw_go hB (lw_T hB) (xtold_ok (lw_calls hB) c1 (fun _ => c2)) hE t_dc54 (by decide +kernel) (by decide +kernel) g2
theorem lw_d55 {a : XA} (hB : lw_B 6 a) (hn : xn1 a = 55) : xGo a 33 LSW [.inl 37] HS := by
  have hE : xEok (xEn 55 55) (xG a) := xEn_ok (by show _ ≤ xn1 a; omega) (by show xn1 a ≤ _; omega)
  obtain ⟨c1, c2⟩ := CM_55 hB.1 hB.2.1 hB.2.2.2.2.2.2.2.1 hB.2.2.2.2.2.1 hn
  obtain ⟨m1, m2⟩ := MM_55 hB.1 hB.2.1 hB.2.2.2.2.2.2.2.1 hB.2.2.2.2.2.1 hn
  have g1 : xGo a 1577 LSW [.inl 38] HM := lw_leafG hB (xtold_ok (lw_calls hB) m1 (fun _ => m2)) hE t_dm55
  have g2 : xGo a 1577 LSW [.inl 38] CH_55 := xGo_sub t_ds55 g1
  exact lw_go hB (lw_T hB) (xtold_ok (lw_calls hB) c1 (fun _ => c2)) hE t_dc55 (by decide +kernel) (by decide +kernel) g2
theorem lw_d56 {a : XA} (hB : lw_B 6 a) (hn : xn1 a = 56) : xGo a 33 LSW [.inl 37] HS := by
  have hE : xEok (xEn 56 56) (xG a) := xEn_ok (by show _ ≤ xn1 a; omega) (by show xn1 a ≤ _; omega)
  obtain ⟨c1, c2⟩ := CM_56 hB.1 hB.2.1 hB.2.2.2.2.2.2.2.1 hB.2.2.2.2.2.1 hn
  obtain ⟨m1, m2⟩ := MM_56 hB.1 hB.2.1 hB.2.2.2.2.2.2.2.1 hB.2.2.2.2.2.1 hn
  have g1 : xGo a 1577 LSW [.inl 39] HM := lw_leafG hB (xtold_ok (lw_calls hB) m1 (fun _ => m2)) hE t_dm56
  have g2 : xGo a 1577 LSW [.inl 39] CH_56 := xGo_sub t_ds56 g1
  exact lw_go hB (lw_T hB) (xtold_ok (lw_calls hB) c1 (fun _ => c2)) hE t_dc56 (by decide +kernel) (by decide +kernel) g2
theorem lw_d57 {a : XA} (hB : lw_B 6 a) (hn : xn1 a = 57) : xGo a 33 LSW [.inl 37] HS := by
  have hE : xEok (xEn 57 57) (xG a) := xEn_ok (by show _ ≤ xn1 a; omega) (by show xn1 a ≤ _; omega)
  obtain ⟨c1, c2⟩ := CM_57 hB.1 hB.2.1 hB.2.2.2.2.2.2.2.1 hB.2.2.2.2.2.1 hn
  obtain ⟨m1, m2⟩ := MM_57 hB.1 hB.2.1 hB.2.2.2.2.2.2.2.1 hB.2.2.2.2.2.1 hn
  have g1 : xGo a 1577 LSW [.inl 40] HM := lw_leafG hB (xtold_ok (lw_calls hB) m1 (fun _ => m2)) hE t_dm57
  have g2 : xGo a 1577 LSW [.inl 40] CH_57 := xGo_sub t_ds57 g1
  exact lw_go hB (lw_T hB) (xtold_ok (lw_calls hB) c1 (fun _ => c2)) hE t_dc57 (by decide +kernel) (by decide +kernel) g2
theorem lw_d58 {a : XA} (hB : lw_B 6 a) (hn : xn1 a = 58) : xGo a 33 LSW [.inl 37] HS := by
  have hE : xEok (xEn 58 58) (xG a) := xEn_ok (by show _ ≤ xn1 a; omega) (by show xn1 a ≤ _; omega)
  obtain ⟨c1, c2⟩ := CM_58 hB.1 hB.2.1 hB.2.2.2.2.2.2.2.1 hB.2.2.2.2.2.1 hn
  obtain ⟨m1, m2⟩ := MM_58 hB.1 hB.2.1 hB.2.2.2.2.2.2.2.1 hB.2.2.2.2.2.1 hn
  have g1 : xGo a 1577 LSW [.inl 41] HM := lw_leafG hB (xtold_ok (lw_calls hB) m1 (fun _ => m2)) hE t_dm58
  have g2 : xGo a 1577 LSW [.inl 41] CH_58 := xGo_sub t_ds58 g1
  exact lw_go hB (lw_T hB) (xtold_ok (lw_calls hB) c1 (fun _ => c2)) hE t_dc58 (by decide +kernel) (by decide +kernel) g2
theorem lw_d59 {a : XA} (hB : lw_B 6 a) (hn : xn1 a = 59) : xGo a 33 LSW [.inl 37] HS := by
  have hE : xEok (xEn 59 59) (xG a) := xEn_ok (by show _ ≤ xn1 a; omega) (by show xn1 a ≤ _; omega)
  obtain ⟨c1, c2⟩ := CM_59 hB.1 hB.2.1 hB.2.2.2.2.2.2.2.1 hB.2.2.2.2.2.1 hn
  obtain ⟨m1, m2⟩ := MM_59 hB.1 hB.2.1 hB.2.2.2.2.2.2.2.1 hB.2.2.2.2.2.1 hn
  have g1 : xGo a 1577 LSW [.inl 42] HM := lw_leafG hB (xtold_ok (lw_calls hB) m1 (fun _ => m2)) hE t_dm59
  have g2 : xGo a 1577 LSW [.inl 42] CH_59 := xGo_sub t_ds59 g1
  exact lw_go hB (lw_T hB) (xtold_ok (lw_calls hB) c1 (fun _ => c2)) hE t_dc59 (by decide +kernel) (by decide +kernel) g2
theorem lw_d60 {a : XA} (hB : lw_B 6 a) (hn : xn1 a = 60) : xGo a 33 LSW [.inl 37] HS := by
  have hE : xEok (xEn 60 60) (xG a) := xEn_ok (by show _ ≤ xn1 a; omega) (by show xn1 a ≤ _; omega)
  obtain ⟨c1, c2⟩ := CM_60 hB.1 hB.2.1 hB.2.2.2.2.2.2.2.1 hB.2.2.2.2.2.1 hn
  obtain ⟨m1, m2⟩ := MM_60 hB.1 hB.2.1 hB.2.2.2.2.2.2.2.1 hB.2.2.2.2.2.1 hn
  have g1 : xGo a 1577 LSW [.inl 43] HM := lw_leafG hB (xtold_ok (lw_calls hB) m1 (fun _ => m2)) hE t_dm60
  have g2 : xGo a 1577 LSW [.inl 43] CH_60 := xGo_sub t_ds60 g1
  exact lw_go hB (lw_T hB) (xtold_ok (lw_calls hB) c1 (fun _ => c2)) hE t_dc60 (by decide +kernel) (by decide +kernel) g2
theorem lw_37 {a : XA} (hB : lw_B 6 a) : xGo a 33 LSW [.inl 37] HS := by
  by_cases h1 : xn1 a ≤ 0
  · exact lw_leaf hB (xEn_ok (xfullI _).1 h1) t_d37a
  · by_cases h2 : 61 ≤ xn1 a
    · exact lw_leaf hB (xEn_ok h2 (xfullI _).2) t_d37b
    · obtain ⟨k, hk⟩ : ∃ k : Nat, xn1 a = (k : Int) := ⟨(xn1 a).toNat, by omega⟩
      have k1 : 1 ≤ k := by omega
      have k2 : k ≤ 60 := by omega
      match k, hk, k1, k2 with
      | 1, hk, _, _ => exact lw_d1 hB hk
      | 2, hk, _, _ => exact lw_d2 hB hk
      | 3, hk, _, _ => exact lw_d3 hB hk
      | 4, hk, _, _ => exact lw_d4 hB hk
      | 5, hk, _, _ => exact lw_d5 hB hk
      | 6, hk, _, _ => exact lw_d6 hB hk
      | 7, hk, _, _ => exact lw_d7 hB hk
      | 8, hk, _, _ => exact lw_d8 hB hk
      | 9, hk, _, _ => exact lw_d9 hB hk
      | 10, hk, _, _ => exact lw_d10 hB hk
      | 11, hk, _, _ => exact lw_d11 hB hk
      | 12, hk, _, _ => exact lw_d12 hB hk
      | 13, hk, _, _ => exact lw_d13 hB hk
      | 14, hk, _, _ => exact lw_d14 hB hk
      | 15, hk, _, _ => exact lw_d15 hB hk
      | 16, hk, _, _ => exact lw_d16 hB hk
      | 17, hk, _, _ => exact lw_d17 hB hk
      | 18, hk, _, _ => exact lw_d18 hB hk
      | 19, hk, _, _ => exact lw_d19 hB hk
      | 20, hk, _, _ => exact lw_d20 hB hk
      | 21, hk, _, _ => exact lw_d21 hB hk
      | 22, hk, _, _ => exact lw_d22 hB hk
      | 23, hk, _, _ => exact lw_d23 hB hk
      | 24, hk, _, _ => exact lw_d24 hB hk
      | 25, hk, _, _ => exact lw_d25 hB hk
      | 26, hk, _, _ => exact lw_d26 hB hk
      | 27, hk, _, _ => exact lw_d27 hB hk
      | 28, hk, _, _ => exact lw_d28 hB hk
      | 29, hk, _, _ => exact lw_d29 hB hk
      | 30, hk, _, _ => exact lw_d30 hB hk
      | 31, hk, _, _ => exact lw_d31 hB hk
      | 32, hk, _, _ => exact lw_d32 hB hk
      | 33, hk, _, _ => exact lw_d33 hB hk
      | 34, hk, _, _ => exact lw_d34 hB hk
      | 35, hk, _, _ => exact lw_d35 hB hk
      | 36, hk, _, _ => exact lw_d36 hB hk
      | 37, hk, _, _ => exact lw_d37 hB hk
      | 38, hk, _, _ => exact lw_d38 hB hk
      | 39, hk, _, _ => exact lw_d39 hB hk
      | 40, hk, _, _ => exact lw_d40 hB hk
      | 41, hk, _, _ => exact lw_d41 hB hk
      | 42, hk, _, _ => exact lw_d42 hB hk
      | 43, hk, _, _ => exact lw_d43 hB hk
      | 44, hk, _, _ => exact lw_d44 hB hk
      | 45, hk, _, _ => exact lw_d45 hB hk
      | 46, hk, _, _ => exact lw_d46 hB hk
      | 47, hk, _, _ => exact lw_d47 hB hk
      | 48, hk, _, _ => exact lw_d48 hB hk
      | 49, hk, _, _ => exact lw_d49 hB hk
      | 50, hk, _, _ => exact lw_d50 hB hk
      | 51, hk, _, _ => exact lw_d51 hB hk
      | 52, hk, _, _ => exact lw_d52 hB hk
      | 53, hk, _, _ => exact lw_d53 hB hk
      | 54, hk, _, _ => exact lw_d54 hB hk
      | 55, hk, _, _ => exact lw_d55 hB hk
      | 56, hk, _, _ => exact lw_d56 hB hk
      | 57, hk, _, _ => exact lw_d57 hB hk
      | 58, hk, _, _ => exact lw_d58 hB hk
      | 59, hk, _, _ => exact lw_d59 hB hk
      | 60, hk, _, _ => exact lw_d60 hB hk
      | k + 61, _, _, k2 => exact absurd k2 (by omega)
theorem lw_sw {a : XA} (hB : lw_B 6 a) : xGo a 33 LSW [.inr (.inr (.inr (.inr (.inr (.inl (63, 0))))))] HS := by
  refine x_cases64 fun k hk => ?_
  match k, hk with
  | 0, _ => exact lw_case hB (t_k0_e (E0_ok _))
  | 1, _ => exact lw_case hB (t_k1_e (E0_ok _))
  | 2, _ => exact lw_case hB (t_k2_e (E0_ok _))
  | 3, _ => exact lw_case hB (t_k3_e (E0_ok _))
  | 4, _ => exact lw_case hB (t_k4_e (E0_ok _))
  | 5, _ => exact lw_case hB (t_k5_e (E0_ok _))
  | 6, _ => exact lw_case hB (t_k6_e (E0_ok _))
  | 7, _ => exact lw_case hB (t_k7_e (E0_ok _))
  | 8, _ => exact lw_case hB (t_k8_e (E0_ok _))
  | 9, _ => exact lw_case hB (t_k9_e (E0_ok _))
  | 10, _ => exact lw_case hB (t_k10_e (E0_ok _))
  | 11, _ => exact lw_case hB (t_k11_e (E0_ok _))
  | 12, _ => exact lw_case hB (t_k12_e (E0_ok _))
  | 13, _ => exact lw_case hB (t_k13_e (E0_ok _))
  | 14, _ => exact lw_case hB (t_k14_e (E0_ok _))
  | 15, _ => exact lw_case hB (t_k15_e (E0_ok _))
  | 16, _ => exact lw_case hB (t_k16_e (E0_ok _))
  | 17, _ => exact lw_case hB (t_k17_e (E0_ok _))
  | 18, _ => exact lw_case hB (t_k18_e (E0_ok _))
  | 19, _ => exact lw_case hB (t_k19_e (E0_ok _))
  | 20, _ => exact lw_case hB (t_k20_e (E0_ok _))
  | 21, _ => exact lw_case hB (t_k21_e (E0_ok _))
  | 22, _ => exact lw_case hB (t_k22_e (E0_ok _))
  | 23, _ => exact lw_case hB (t_k23_e (E0_ok _))
  | 24, _ => exact lw_case hB (t_k24_e (E0_ok _))
  | 25, _ => exact lw_case hB (t_k25_e (E0_ok _))
  | 26, _ => exact lw_case hB (t_k26_e (E0_ok _))
  | 27, _ => exact lw_case hB (t_k27_e (E0_ok _))
  | 28, _ => exact lw_case hB (t_k28_e (E0_ok _))
  | 29, _ => exact lw_case hB (t_k29_e (E0_ok _))
  | 30, _ => exact lw_case hB (t_k30_e (E0_ok _))
  | 31, _ => exact lw_case hB (t_k31_e (E0_ok _))
  | 32, _ => exact lw_case hB (t_k32_e (E0_ok _))
  | 33, _ => exact lw_case hB (t_k33_e (E0_ok _))
  | 34, _ => exact lw_case hB (t_k34_e (E0_ok _))
  | 35, _ => exact lw_case hB (t_k35_e (E0_ok _))
  | 36, _ => exact lw_case hB (t_k36_e (E0_ok _))
  | 37, _ => exact lw_37 hB
  | 38, _ => exact lw_case hB (t_k38_e (E0_ok _))
  | 39, _ => exact lw_case hB (t_k39_e (E0_ok _))
  | 40, _ => exact lw_case hB (t_k40_e (E0_ok _))
  | 41, _ => exact lw_case hB (t_k41_e (E0_ok _))
  | 42, _ => exact lw_case hB (t_k42_e (E0_ok _))
  | 43, _ => exact lw_case hB (t_k43_e (E0_ok _))
  | 44, _ => exact lw_case hB (t_k44_e (E0_ok _))
  | 45, _ => exact lw_case hB (t_k45_e (E0_ok _))
  | 46, _ => exact lw_case hB (t_k46_e (E0_ok _))
  | 47, _ => exact lw_case hB (t_k47_e (E0_ok _))
  | 48, _ => exact lw_case hB (t_k48_e (E0_ok _))
  | 49, _ => exact lw_case hB (t_k49_e (E0_ok _))
  | 50, _ => exact lw_case hB (t_k50_e (E0_ok _))
  | 51, _ => exact lw_case hB (t_k51_e (E0_ok _))
  | 52, _ => exact lw_case hB (t_k52_e (E0_ok _))
  | 53, _ => exact lw_case hB (t_k53_e (E0_ok _))
  | 54, _ => exact lw_case hB (t_k54_e (E0_ok _))
  | 55, _ => exact lw_case hB (t_k55_e (E0_ok _))
  | 56, _ => exact lw_case hB (t_k56_e (E0_ok _))
  | 57, _ => exact lw_case hB (t_k57_e (E0_ok _))
  | 58, _ => exact lw_case hB (t_k58_e (E0_ok _))
  | 59, _ => exact lw_case hB (t_k59_e (E0_ok _))
  | 60, _ => exact lw_case hB (t_k60_e (E0_ok _))
  | 61, _ => exact lw_case hB (t_k61_e (E0_ok _))
  | 62, _ => exact lw_case hB (t_k62_e (E0_ok _))
  | 63, _ => exact lw_case hB (t_k63_e (E0_ok _))
  | k + 64, hk => exact absurd hk (by omega)
theorem lw_head {L : Nat} {a : XA} (hL : L ≤ 6) (hB : lw_B L a) : xGo a 18 LS0 [] HS := by
  match L, hL, hB with
  | 0, _, hB => exact lw_leaf hB (E0_ok _) t_L0
  | 1, _, hB => exact lw_leaf hB (E0_ok _) t_L1
  | 2, _, hB => exact lw_leaf hB (E0_ok _) t_L2
  | 3, _, hB => exact lw_leaf hB (E0_ok _) t_L3
  | 4, _, hB => exact lw_leaf hB (E0_ok _) t_L4
  | 5, _, hB => exact lw_leaf hB (E0_ok _) t_L5
  | 6, _, hB =>
    exact lw_go hB (lw_T hB) (lw_calls hB) (E0_ok _) t_sw (by decide +kernel) (by decide +kernel) (lw_sw hB)
  | L + 7, hL, _ => exact absurd hL (by omega)
theorem whole_start {p : Program} {e : Env} {s : State} {m : MethodId} {below : List Frame} {meth : Method} {c : Code} (l : Launch) (hflags : l.flags = flags0) {b L : Nat} {xs : Nat → Int32} (hL : L ≤ 6) (C0 : lw_At p s m meth c b L xs) : W p l e room_1 s m #[Value.ref b] below meth c s.heap [] 0 0 (lw_Z below #[Value.ref b] s) (entryFrame m ([Value.ref b] : List Value).toArray 4) := by
  obtain ⟨G, g1, g2, g3, g4, g5, g6, g7, g8⟩ := lw_world C0
  have hend := lw_end (l := l) (e := e) (below := below) (G := G) C0 g4
  obtain ⟨hx, hb, hr, hml, hown, hts, hX, hbl, hlk, hgv⟩ := C0
  have hB : lw_B L (xLA p l e s m below meth c b G) := by
    refine ⟨g3, rfl, rfl, ⟨(⟨"", meth.name, ""⟩, (cL_law, (4, ret))), ⟨show 1 ≤ 2048 by omega, show 40 ≤ 84000 by omega⟩, rfl, hr, rfl, g3, rfl⟩, ⟨?_, ?_, ?_, by omega⟩, ⟨show 14 + 1 ≤ 2048 by omega, show 45 * (14 + 1) ≤ 84000 by omega⟩, ⟨⟨hx, hb, hml, hown, lw_xts hts⟩, hlk, g6, lw_nw hts, g8, Nat.le_of_eq g4, g7⟩, g8, fun h' b1 b2 => ⟨show h'.1 - 4 ≤ 390462 by omega, show h'.2.1 - 0 ≤ 7930864 by omega⟩, hend⟩
    · show va_X (G.1 3) L G.2.1 s s.heap
      rw [g1, g2]
      exact hX
    · show G.1 3 < s.heap.size
      rw [g2]
      exact hbl
    · show G.1 3 < G.2.2.2.2
      rw [g2, g4]
      exact hbl
  have hgo : xGo (xLA p l e s m below meth c b G) 0 [some (.inr (.inr (.inl 3))), none, none, none] [] H0 :=
    lw_go hB (lw_T0 hB) (lw_calls hB) (E0_ok _) t_pre (by decide +kernel) (by decide +kernel) (lw_head hL hB)
  rw [lg_entry_eq]
  have hH : xHR xtf G s H0 s.heap := ⟨fun j => g5 j, Nat.le_refl _, show 4 ≤ 2048 by omega, fun k h1 h2 => by
    have h2 : k < 4 := h2
    have : k = 3 := by omega
    subst this
    exact trivial⟩
  have hS : xSR G [.inr (.inr (.inl 3))] [Value.ref b] := ⟨by
    show Value.ref b = (if 3 = 0 then Value.null else .ref (G.1 3))
    rw [if_neg (by omega), g2], trivial⟩
  have := hgo s.heap [] _ [] hH va_S.rf (xentry_LR (nL := 4) hS (by decide)) trivial (Nat.le_refl _) (Nat.le_refl _)
  exact this
