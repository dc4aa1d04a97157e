def xDA (mid : Nat) (tb : Nat → Option XK) (a : XA) : Prop := xOkA xcl xtf (xMT mid) a ∧ xRoom 13 a ∧ xCx xTs xNW (xMT mid).2.1 (xMT mid).1.cls a ∧ xTab xTs xNW xMT (xMT mid).2.1 (xMT mid).1.cls a tb
def xGoC (a : XA) (c : Nat × (XL × (List XV × XH))) : Prop := xGo a c.1 c.2.1 c.2.2.1 c.2.2.2
theorem xd_one {mid : Nat} {tb : Nat → Option XK} {a : XA} (hb : xDA mid tb a) {A n : Nat} {E : XE} {c c' : Nat × (XL × (List XV × XH))} (ht : e_s (xrun (xcall PROG FN 13) A tb E n c) c' = true) (hE : xEok E (xG a)) {h' : XH} (hl : xLe c'.2.2.2 h') (hF : xFits a h') (hg : xGoC a c') : xLe c.2.2.2 h' ∧ xGoC a c :=
  xone_ok PROG_ok hb.1.2.2.2.2.1 hb.1.2.2.2.2.2 hb.2.1 hb.2.2.2 hb.2.2.1 ht hE hl hF hg
theorem xd_two {mid : Nat} {tb : Nat → Option XK} {a : XA} (hb : xDA mid tb a) {A B n : Nat} {E : XE} {c c' : Nat × (XL × (List XV × XH))} (ht : e_s (xtwo (xcall PROG FN 13) B A tb E n c) c' = true) (hE : xEok E (xG a)) {h' : XH} (hl : xLe c'.2.2.2 h') (hF : xFits a h') (hg : xGoC a c') : xLe c.2.2.2 h' ∧ xGoC a c :=
  xtwo_ok PROG_ok hb.1.2.2.2.2.1 hb.1.2.2.2.2.2 hb.2.1 hb.2.2.2 hb.2.2.1 ht hE hl hF hg
theorem xd_end {mid : Nat} {tb : Nat → Option XK} {a : XA} (hb : xDA mid tb a) {n : Nat} {E : XE} {c : Nat × (XL × (List XV × XH))} {v : Option XV} {h' : XH} (ht : e_r (xloop (xcall PROG FN 13) n tb E c) (v, h') = true) (hE : xEok E (xG a)) (hF : xFits a h') (hend : xEnd a v h') : xLe c.2.2.2 h' ∧ xGoC a c :=
  xend_ok PROG_ok hb.1.2.2.2.2.1 hb.1.2.2.2.2.2 hb.2.1 hb.2.2.2 hb.2.2.1 ht hE hF hend
def xn1 (a : XA) : Int := ((xG a).2.1 1).toInt
theorem xCx_G {Ts NW : List Cond} {cc : ByteArray} {own : String} {a : XA} (hC : xCx Ts NW cc own a) : xGok (xG a) := by
  obtain ⟨p, l, e, R, s, m, args, below, meth, cd, Q, G, nL, n0, s0, tyf⟩ := a
  exact hC.2.2.2.2.1
theorem CG_0 {a : XA} (hb : xDA 3 T_3 a) (h1 : 1 ≤ xn1 a) (h2 : xn1 a ≤ 60) {h' : XH} (hl : xLe CC_0.2.2.2 h') (hF : xFits a h') (hg : xGoC a CC_0) : xGo a 0 (xentry [.inr (.inr (.inl 4)), .inr (.inr (.inr (.inl (1, 0))))] 7) [] HS := (xd_one hb Ct_0 (xEn_ok h1 h2) hl hF hg).2
theorem CG_1 {a : XA} (hb : xDA 3 T_3 a) (h1 : 1 ≤ xn1 a) (h2 : xn1 a ≤ 60) {h' : XH} (hl : xLe CC_1.2.2.2 h') (hF : xFits a h') (hg : xGoC a CC_1) : xGo a 0 (xentry [.inr (.inr (.inl 4)), .inr (.inr (.inr (.inl (1, 0))))] 7) [] HS := by
  obtain ⟨q1, q2⟩ := xd_two hb Ct_1 (xEn_ok h1 h2) hl hF hg
  exact CG_0 hb (by omega) h2 q1 hF q2
theorem CG_2 {a : XA} (hb : xDA 3 T_3 a) (h1 : 2 ≤ xn1 a) (h2 : xn1 a ≤ 60) {h' : XH} (hl : xLe CC_2.2.2.2 h') (hF : xFits a h') (hg : xGoC a CC_2) : xGo a 0 (xentry [.inr (.inr (.inl 4)), .inr (.inr (.inr (.inl (1, 0))))] 7) [] HS := by
  obtain ⟨q1, q2⟩ := xd_two hb Ct_2 (xEn_ok h1 h2) hl hF hg
  exact CG_1 hb (by omega) h2 q1 hF q2
theorem CG_3 {a : XA} (hb : xDA 3 T_3 a) (h1 : 3 ≤ xn1 a) (h2 : xn1 a ≤ 60) {h' : XH} (hl : xLe CC_3.2.2.2 h') (hF : xFits a h') (hg : xGoC a CC_3) : xGo a 0 (xentry [.inr (.inr (.inl 4)), .inr (.inr (.inr (.inl (1, 0))))] 7) [] HS := by
  obtain ⟨q1, q2⟩ := xd_two hb Ct_3 (xEn_ok h1 h2) hl hF hg
  exact CG_2 hb (by omega) h2 q1 hF q2
theorem CG_4 {a : XA} (hb : xDA 3 T_3 a) (h1 : 4 ≤ xn1 a) (h2 : xn1 a ≤ 60) {h' : XH} (hl : xLe CC_4.2.2.2 h') (hF : xFits a h') (hg : xGoC a CC_4) : xGo a 0 (xentry [.inr (.inr (.inl 4)), .inr (.inr (.inr (.inl (1, 0))))] 7) [] HS := by
  obtain ⟨q1, q2⟩ := xd_two hb Ct_4 (xEn_ok h1 h2) hl hF hg
  exact CG_3 hb (by omega) h2 q1 hF q2
theorem CG_5 {a : XA} (hb : xDA 3 T_3 a) (h1 : 5 ≤ xn1 a) (h2 : xn1 a ≤ 60) {h' : XH} (hl : xLe CC_5.2.2.2 h') (hF : xFits a h') (hg : xGoC a CC_5) : xGo a 0 (xentry [.inr (.inr (.inl 4)), .inr (.inr (.inr (.inl (1, 0))))] 7) [] HS := by
  obtain ⟨q1, q2⟩ := xd_two hb Ct_5 (xEn_ok h1 h2) hl hF hg
  exact CG_4 hb (by omega) h2 q1 hF q2
theorem CG_6 {a : XA} (hb : xDA 3 T_3 a) (h1 : 6 ≤ xn1 a) (h2 : xn1 a ≤ 60) {h' : XH} (hl : xLe CC_6.2.2.2 h') (hF : xFits a h') (hg : xGoC a CC_6) : xGo a 0 (xentry [.inr (.inr (.inl 4)), .inr (.inr (.inr (.inl (1, 0))))] 7) [] HS := by
  obtain ⟨q1, q2⟩ := xd_two hb Ct_6 (xEn_ok h1 h2) hl hF hg
  exact CG_5 hb (by omega) h2 q1 hF q2
theorem CG_7 {a : XA} (hb : xDA 3 T_3 a) (h1 : 7 ≤ xn1 a) (h2 : xn1 a ≤ 60) {h' : XH} (hl : xLe CC_7.2.2.2 h') (hF : xFits a h') (hg : xGoC a CC_7) : xGo a 0 (xentry [.inr (.inr (.inl 4)), .inr (.inr (.inr (.inl (1, 0))))] 7) [] HS := by
  obtain ⟨q1, q2⟩ := xd_two hb Ct_7 (xEn_ok h1 h2) hl hF hg
  exact CG_6 hb (by omega) h2 q1 hF q2
theorem CG_8 {a : XA} (hb : xDA 3 T_3 a) (h1 : 8 ≤ xn1 a) (h2 : xn1 a ≤ 60) {h' : XH} (hl : xLe CC_8.2.2.2 h') (hF : xFits a h') (hg : xGoC a CC_8) : xGo a 0 (xentry [.inr (.inr (.inl 4)), .inr (.inr (.inr (.inl (1, 0))))] 7) [] HS := by
  obtain ⟨q1, q2⟩ := xd_two hb Ct_8 (xEn_ok h1 h2) hl hF hg
  exact CG_7 hb (by omega) h2 q1 hF q2
theorem CG_9 {a : XA} (hb : xDA 3 T_3 a) (h1 : 9 ≤ xn1 a) (h2 : xn1 a ≤ 60) {h' : XH} (hl : xLe CC_9.2.2.2 h') (hF : xFits a h') (hg : xGoC a CC_9) : xGo a 0 (xentry [.inr (.inr (.inl 4)), .inr (.inr (.inr (.inl (1, 0))))] 7) [] HS := by
  obtain ⟨q1, q2⟩ := xd_two hb Ct_9 (xEn_ok h1 h2) hl hF hg
  exact CG_8 hb (by omega) h2 q1 hF q2
theorem CG_10 {a : XA} (hb : xDA 3 T_3 a) (h1 : 10 ≤ xn1 a) (h2 : xn1 a ≤ 60) {h' : XH} (hl : xLe CC_10.2.2.2 h') (hF : xFits a h') (hg : xGoC a CC_10) : xGo a 0 (xentry [.inr (.inr (.inl 4)), .inr (.inr (.inr (.inl (1, 0))))] 7) [] HS := by
  obtain ⟨q1, q2⟩ := xd_two hb Ct_10 (xEn_ok h1 h2) hl hF hg
  exact CG_9 hb (by omega) h2 q1 hF q2
theorem CG_11 {a : XA} (hb : xDA 3 T_3 a) (h1 : 11 ≤ xn1 a) (h2 : xn1 a ≤ 60) {h' : XH} (hl : xLe CC_11.2.2.2 h') (hF : xFits a h') (hg : xGoC a CC_11) : xGo a 0 (xentry [.inr (.inr (.inl 4)), .inr (.inr (.inr (.inl (1, 0))))] 7) [] HS := by
  obtain ⟨q1, q2⟩ := xd_two hb Ct_11 (xEn_ok h1 h2) hl hF hg
  exact CG_10 hb (by omega) h2 q1 hF q2
theorem CG_12 {a : XA} (hb : xDA 3 T_3 a) (h1 : 12 ≤ xn1 a) (h2 : xn1 a ≤ 60) {h' : XH} (hl : xLe CC_12.2.2.2 h') (hF : xFits a h') (hg : xGoC a CC_12) : xGo a 0 (xentry [.inr (.inr (.inl 4)), .inr (.inr (.inr (.inl (1, 0))))] 7) [] HS := by
  obtain ⟨q1, q2⟩ := xd_two hb Ct_12 (xEn_ok h1 h2) hl hF hg
  exact CG_11 hb (by omega) h2 q1 hF q2
theorem CG_13 {a : XA} (hb : xDA 3 T_3 a) (h1 : 13 ≤ xn1 a) (h2 : xn1 a ≤ 60) {h' : XH} (hl : xLe CC_13.2.2.2 h') (hF : xFits a h') (hg : xGoC a CC_13) : xGo a 0 (xentry [.inr (.inr (.inl 4)), .inr (.inr (.inr (.inl (1, 0))))] 7) [] HS := by
  obtain ⟨q1, q2⟩ := xd_two hb Ct_13 (xEn_ok h1 h2) hl hF hg
  exact CG_12 hb (by omega) h2 q1 hF q2
theorem CG_14 {a : XA} (hb : xDA 3 T_3 a) (h1 : 14 ≤ xn1 a) (h2 : xn1 a ≤ 60) {h' : XH} (hl : xLe CC_14.2.2.2 h') (hF : xFits a h') (hg : xGoC a CC_14) : xGo a 0 (xentry [.inr (.inr (.inl 4)), .inr (.inr (.inr (.inl (1, 0))))] 7) [] HS := by
  obtain ⟨q1, q2⟩ := xd_two hb Ct_14 (xEn_ok h1 h2) hl hF hg
  exact CG_13 hb (by omega) h2 q1 hF q2
theorem CG_15 {a : XA} (hb : xDA 3 T_3 a) (h1 : 15 ≤ xn1 a) (h2 : xn1 a ≤ 60) {h' : XH} (hl : xLe CC_15.2.2.2 h') (hF : xFits a h') (hg : xGoC a CC_15) : xGo a 0 (xentry [.inr (.inr (.inl 4)), .inr (.inr (.inr (.inl (1, 0))))] 7) [] HS := by
  obtain ⟨q1, q2⟩ := xd_two hb Ct_15 (xEn_ok h1 h2) hl hF hg
  exact CG_14 hb (by omega) h2 q1 hF q2
theorem CG_16 {a : XA} (hb : xDA 3 T_3 a) (h1 : 16 ≤ xn1 a) (h2 : xn1 a ≤ 60) {h' : XH} (hl : xLe CC_16.2.2.2 h') (hF : xFits a h') (hg : xGoC a CC_16) : xGo a 0 (xentry [.inr (.inr (.inl 4)), .inr (.inr (.inr (.inl (1, 0))))] 7) [] HS := by
  obtain ⟨q1, q2⟩ := xd_two hb Ct_16 (xEn_ok h1 h2) hl hF hg
  exact CG_15 hb (by omega) h2 q1 hF q2
theorem CG_17 {a : XA} (hb : xDA 3 T_3 a) (h1 : 17 ≤ xn1 a) (h2 : xn1 a ≤ 60) {h' : XH} (hl : xLe CC_17.2.2.2 h') (hF : xFits a h') (hg : xGoC a CC_17) : xGo a 0 (xentry [.inr (.inr (.inl 4)), .inr (.inr (.inr (.inl (1, 0))))] 7) [] HS := by
  obtain ⟨q1, q2⟩ := xd_two hb Ct_17 (xEn_ok h1 h2) hl hF hg
  exact CG_16 hb (by omega) h2 q1 hF q2
theorem CG_18 {a : XA} (hb : xDA 3 T_3 a) (h1 : 18 ≤ xn1 a) (h2 : xn1 a ≤ 60) {h' : XH} (hl : xLe CC_18.2.2.2 h') (hF : xFits a h') (hg : xGoC a CC_18) : xGo a 0 (xentry [.inr (.inr (.inl 4)), .inr (.inr (.inr (.inl (1, 0))))] 7) [] HS := by
  obtain ⟨q1, q2⟩ := xd_two hb Ct_18 (xEn_ok h1 h2) hl hF hg
  exact CG_17 hb (by omega) h2 q1 hF q2
theorem CG_19 {a : XA} (hb : xDA 3 T_3 a) (h1 : 19 ≤ xn1 a) (h2 : xn1 a ≤ 60) {h' : XH} (hl : xLe CC_19.2.2.2 h') (hF : xFits a h') (hg : xGoC a CC_19) : xGo a 0 (xentry [.inr (.inr (.inl 4)), .inr (.inr (.inr (.inl (1, 0))))] 7) [] HS := by
  obtain ⟨q1, q2⟩ := xd_two hb Ct_19 (xEn_ok h1 h2) hl hF hg
  exact CG_18 hb (by omega) h2 q1 hF q2
theorem CG_20 {a : XA} (hb : xDA 3 T_3 a) (h1 : 20 ≤ xn1 a) (h2 : xn1 a ≤ 60) {h' : XH} (hl : xLe CC_20.2.2.2 h') (hF : xFits a h') (hg : xGoC a CC_20) : xGo a 0 (xentry [.inr (.inr (.inl 4)), .inr (.inr (.inr (.inl (1, 0))))] 7) [] HS := by
  obtain ⟨q1, q2⟩ := xd_two hb Ct_20 (xEn_ok h1 h2) hl hF hg
  exact CG_19 hb (by omega) h2 q1 hF q2
theorem CG_21 {a : XA} (hb : xDA 3 T_3 a) (h1 : 21 ≤ xn1 a) (h2 : xn1 a ≤ 60) {h' : XH} (hl : xLe CC_21.2.2.2 h') (hF : xFits a h') (hg : xGoC a CC_21) : xGo a 0 (xentry [.inr (.inr (.inl 4)), .inr (.inr (.inr (.inl (1, 0))))] 7) [] HS := by
  obtain ⟨q1, q2⟩ := xd_two hb Ct_21 (xEn_ok h1 h2) hl hF hg
  exact CG_20 hb (by omega) h2 q1 hF q2
theorem CG_22 {a : XA} (hb : xDA 3 T_3 a) (h1 : 22 ≤ xn1 a) (h2 : xn1 a ≤ 60) {h' : XH} (hl : xLe CC_22.2.2.2 h') (hF : xFits a h') (hg : xGoC a CC_22) : xGo a 0 (xentry [.inr (.inr (.inl 4)), .inr (.inr (.inr (.inl (1, 0))))] 7) [] HS := by
  obtain ⟨q1, q2⟩ := xd_two hb Ct_22 (xEn_ok h1 h2) hl hF hg
  exact CG_21 hb (by omega) h2 q1 hF q2
theorem CG_23 {a : XA} (hb : xDA 3 T_3 a) (h1 : 23 ≤ xn1 a) (h2 : xn1 a ≤ 60) {h' : XH} (hl : xLe CC_23.2.2.2 h') (hF : xFits a h') (hg : xGoC a CC_23) : xGo a 0 (xentry [.inr (.inr (.inl 4)), .inr (.inr (.inr (.inl (1, 0))))] 7) [] HS := by
  obtain ⟨q1, q2⟩ := xd_two hb Ct_23 (xEn_ok h1 h2) hl hF hg
  exact CG_22 hb (by omega) h2 q1 hF q2
theorem CG_24 {a : XA} (hb : xDA 3 T_3 a) (h1 : 24 ≤ xn1 a) (h2 : xn1 a ≤ 60) {h' : XH} (hl : xLe CC_24.2.2.2 h') (hF : xFits a h') (hg : xGoC a CC_24) : xGo a 0 (xentry [.inr (.inr (.inl 4)), .inr (.inr (.inr (.inl (1, 0))))] 7) [] HS := by
  obtain ⟨q1, q2⟩ := xd_two hb Ct_24 (xEn_ok h1 h2) hl hF hg
  exact CG_23 hb (by omega) h2 q1 hF q2
theorem CG_25 {a : XA} (hb : xDA 3 T_3 a) (h1 : 25 ≤ xn1 a) (h2 : xn1 a ≤ 60) {h' : XH} (hl : xLe CC_25.2.2.2 h') (hF : xFits a h') (hg : xGoC a CC_25) : xGo a 0 (xentry [.inr (.inr (.inl 4)), .inr (.inr (.inr (.inl (1, 0))))] 7) [] HS := by
  obtain ⟨q1, q2⟩ := xd_two hb Ct_25 (xEn_ok h1 h2) hl hF hg
  exact CG_24 hb (by omega) h2 q1 hF q2
theorem CG_26 {a : XA} (hb : xDA 3 T_3 a) (h1 : 26 ≤ xn1 a) (h2 : xn1 a ≤ 60) {h' : XH} (hl : xLe CC_26.2.2.2 h') (hF : xFits a h') (hg : xGoC a CC_26) : xGo a 0 (xentry [.inr (.inr (.inl 4)), .inr (.inr (.inr (.inl (1, 0))))] 7) [] HS := by
  obtain ⟨q1, q2⟩ := xd_two hb Ct_26 (xEn_ok h1 h2) hl hF hg
  exact CG_25 hb (by omega) h2 q1 hF q2
theorem CG_27 {a : XA} (hb : xDA 3 T_3 a) (h1 : 27 ≤ xn1 a) (h2 : xn1 a ≤ 60) {h' : XH} (hl : xLe CC_27.2.2.2 h') (hF : xFits a h') (hg : xGoC a CC_27) : xGo a 0 (xentry [.inr (.inr (.inl 4)), .inr (.inr (.inr (.inl (1, 0))))] 7) [] HS := by
  obtain ⟨q1, q2⟩ := xd_two hb Ct_27 (xEn_ok h1 h2) hl hF hg
  exact CG_26 hb (by omega) h2 q1 hF q2
theorem CG_28 {a : XA} (hb : xDA 3 T_3 a) (h1 : 28 ≤ xn1 a) (h2 : xn1 a ≤ 60) {h' : XH} (hl : xLe CC_28.2.2.2 h') (hF : xFits a h') (hg : xGoC a CC_28) : xGo a 0 (xentry [.inr (.inr (.inl 4)), .inr (.inr (.inr (.inl (1, 0))))] 7) [] HS := by
  obtain ⟨q1, q2⟩ := xd_two hb Ct_28 (xEn_ok h1 h2) hl hF hg
  exact CG_27 hb (by omega) h2 q1 hF q2
theorem CG_29 {a : XA} (hb : xDA 3 T_3 a) (h1 : 29 ≤ xn1 a) (h2 : xn1 a ≤ 60) {h' : XH} (hl : xLe CC_29.2.2.2 h') (hF : xFits a h') (hg : xGoC a CC_29) : xGo a 0 (xentry [.inr (.inr (.inl 4)), .inr (.inr (.inr (.inl (1, 0))))] 7) [] HS := by
  obtain ⟨q1, q2⟩ := xd_two hb Ct_29 (xEn_ok h1 h2) hl hF hg
  exact CG_28 hb (by omega) h2 q1 hF q2
theorem CG_30 {a : XA} (hb : xDA 3 T_3 a) (h1 : 30 ≤ xn1 a) (h2 : xn1 a ≤ 60) {h' : XH} (hl : xLe CC_30.2.2.2 h') (hF : xFits a h') (hg : xGoC a CC_30) : xGo a 0 (xentry [.inr (.inr (.inl 4)), .inr (.inr (.inr (.inl (1, 0))))] 7) [] HS := by
  obtain ⟨q1, q2⟩ := xd_two hb Ct_30 (xEn_ok h1 h2) hl hF hg
  exact CG_29 hb (by omega) h2 q1 hF q2
theorem CG_31 {a : XA} (hb : xDA 3 T_3 a) (h1 : 31 ≤ xn1 a) (h2 : xn1 a ≤ 60) {h' : XH} (hl : xLe CC_31.2.2.2 h') (hF : xFits a h') (hg : xGoC a CC_31) : xGo a 0 (xentry [.inr (.inr (.inl 4)), .inr (.inr (.inr (.inl (1, 0))))] 7) [] HS := by
  obtain ⟨q1, q2⟩ := xd_two hb Ct_31 (xEn_ok h1 h2) hl hF hg
  exact CG_30 hb (by omega) h2 q1 hF q2
theorem K32M {a0 : XA} (hcl : xCl a0 = xcl) (htf : xTf a0 = xtf) (hG : xGok (xG a0)) (hroom : xRoom 13 a0) (hE : xEok (xEn 32 60) (xG a0)) : xLe K32P K32Q ∧ xCon xTs xNW (xMT 113) a0 [.inr (.inr (.inl 111)), .inl 61, .inr (.inr (.inl 105)), .inr (.inr (.inl 50))] K32P none K32Q := by
  obtain ⟨p, l, e, R, s, m, args, below, meth, c, Q, G, nL, n0, s0, tyf⟩ := a0
  have htf : tyf = xtf := htf
  subst htf
  obtain ⟨r1, r2⟩ := hroom
  have hE : xEok (xEn 32 60) G := hE
  refine ⟨⟨by decide +kernel, by decide +kernel⟩, ⟨_, xmet_go (d := 12) PROG_ok (mid := 113) (nL := 10) (tb := T_113) rfl rfl hcl hG (fun a ha hGa hr hC hF hEnd => ?_), rfl, rfl, show 13 + 1 ≤ R.frames by omega, show 8 + (10 + 11) + 45 * 13 ≤ R.locals by omega⟩⟩
  have hT : xTab xTs xNW xMT (xMT 113).2.1 (xMT 113).1.cls a T_113 := (PROG_ok 113 _ _ rfl).2.2.2 a ha
  have hE : xEok (xEn 32 60) (xG a) := by rw [hGa]; exact hE
  have hG : xGok (xG a) := by rw [hGa]; exact hG
  have hc := xhcall (N := FN) (d := 12) (E := xEn 32 60) PROG_ok ha.2.2.2.2.1 ha.2.2.2.2.2 hG hr
  obtain ⟨l2, g2⟩ := xend_ok PROG_ok ha.2.2.2.2.1 ha.2.2.2.2.2 hr hT hC K32e hE hF hEnd
  obtain ⟨l1, g1⟩ := xstops_ok hT hc hC hE _ _ _ (e_s_ok K32t_2) _ l2 hF g2
  obtain ⟨l0, g0⟩ := xstops_ok hT hc hC hE _ _ _ (e_s_ok K32t_1) _ l1 hF g1
  exact g0
theorem CG_32 {a : XA} (hb : xDA 3 T_3 a) (h1 : 32 ≤ xn1 a) (h2 : xn1 a ≤ 60) {h' : XH} (hl : xLe CC_32.2.2.2 h') (hF : xFits a h') (hg : xGoC a CC_32) : xGo a 0 (xentry [.inr (.inr (.inl 4)), .inr (.inr (.inr (.inl (1, 0))))] 7) [] HS := by
  have hE : xEok (xEn 32 60) (xG a) := xEn_ok h1 h2
  have hG : xGok (xG a) := xCx_G hb.2.2.1
  obtain ⟨k1, k2⟩ := K32M hb.1.2.2.2.2.1 hb.1.2.2.2.2.2 hG hb.2.1 hE
  obtain ⟨q1, q2⟩ := xstops_ok hb.2.2.2 (xtold_ok (xhcall PROG_ok hb.1.2.2.2.2.1 hb.1.2.2.2.2.2 hG hb.2.1) k1 (fun _ => k2)) hb.2.2.1 hE _ _ _ (e_s_ok Ct_32) _ hl hF hg
  exact CG_31 hb (by omega) h2 q1 hF q2
theorem CG_33 {a : XA} (hb : xDA 3 T_3 a) (h1 : 33 ≤ xn1 a) (h2 : xn1 a ≤ 60) {h' : XH} (hl : xLe CC_33.2.2.2 h') (hF : xFits a h') (hg : xGoC a CC_33) : xGo a 0 (xentry [.inr (.inr (.inl 4)), .inr (.inr (.inr (.inl (1, 0))))] 7) [] HS := by
  obtain ⟨q1, q2⟩ := xd_two hb Ct_33 (xEn_ok h1 h2) hl hF hg
  exact CG_32 hb (by omega) h2 q1 hF q2
theorem CG_34 {a : XA} (hb : xDA 3 T_3 a) (h1 : 34 ≤ xn1 a) (h2 : xn1 a ≤ 60) {h' : XH} (hl : xLe CC_34.2.2.2 h') (hF : xFits a h') (hg : xGoC a CC_34) : xGo a 0 (xentry [.inr (.inr (.inl 4)), .inr (.inr (.inr (.inl (1, 0))))] 7) [] HS := by
  obtain ⟨q1, q2⟩ := xd_two hb Ct_34 (xEn_ok h1 h2) hl hF hg
  exact CG_33 hb (by omega) h2 q1 hF q2
theorem CG_35 {a : XA} (hb : xDA 3 T_3 a) (h1 : 35 ≤ xn1 a) (h2 : xn1 a ≤ 60) {h' : XH} (hl : xLe CC_35.2.2.2 h') (hF : xFits a h') (hg : xGoC a CC_35) : xGo a 0 (xentry [.inr (.inr (.inl 4)), .inr (.inr (.inr (.inl (1, 0))))] 7) [] HS := by
  obtain ⟨q1, q2⟩ := xd_two hb Ct_35 (xEn_ok h1 h2) hl hF hg
  exact CG_34 hb (by omega) h2 q1 hF q2
theorem CG_36 {a : XA} (hb : xDA 3 T_3 a) (h1 : 36 ≤ xn1 a) (h2 : xn1 a ≤ 60) {h' : XH} (hl : xLe CC_36.2.2.2 h') (hF : xFits a h') (hg : xGoC a CC_36) : xGo a 0 (xentry [.inr (.inr (.inl 4)), .inr (.inr (.inr (.inl (1, 0))))] 7) [] HS := by
  obtain ⟨q1, q2⟩ := xd_two hb Ct_36 (xEn_ok h1 h2) hl hF hg
  exact CG_35 hb (by omega) h2 q1 hF q2
theorem CG_37 {a : XA} (hb : xDA 3 T_3 a) (h1 : 37 ≤ xn1 a) (h2 : xn1 a ≤ 60) {h' : XH} (hl : xLe CC_37.2.2.2 h') (hF : xFits a h') (hg : xGoC a CC_37) : xGo a 0 (xentry [.inr (.inr (.inl 4)), .inr (.inr (.inr (.inl (1, 0))))] 7) [] HS := by
  obtain ⟨q1, q2⟩ := xd_two hb Ct_37 (xEn_ok h1 h2) hl hF hg
  exact CG_36 hb (by omega) h2 q1 hF q2
theorem CG_38 {a : XA} (hb : xDA 3 T_3 a) (h1 : 38 ≤ xn1 a) (h2 : xn1 a ≤ 60) {h' : XH} (hl : xLe CC_38.2.2.2 h') (hF : xFits a h') (hg : xGoC a CC_38) : xGo a 0 (xentry [.inr (.inr (.inl 4)), .inr (.inr (.inr (.inl (1, 0))))] 7) [] HS := by
  obtain ⟨q1, q2⟩ := xd_two hb Ct_38 (xEn_ok h1 h2) hl hF hg
  exact CG_37 hb (by omega) h2 q1 hF q2
theorem CG_39 {a : XA} (hb : xDA 3 T_3 a) (h1 : 39 ≤ xn1 a) (h2 : xn1 a ≤ 60) {h' : XH} (hl : xLe CC_39.2.2.2 h') (hF : xFits a h') (hg : xGoC a CC_39) : xGo a 0 (xentry [.inr (.inr (.inl 4)), .inr (.inr (.inr (.inl (1, 0))))] 7) [] HS := by
  obtain ⟨q1, q2⟩ := xd_two hb Ct_39 (xEn_ok h1 h2) hl hF hg
  exact CG_38 hb (by omega) h2 q1 hF q2
theorem CG_40 {a : XA} (hb : xDA 3 T_3 a) (h1 : 40 ≤ xn1 a) (h2 : xn1 a ≤ 60) {h' : XH} (hl : xLe CC_40.2.2.2 h') (hF : xFits a h') (hg : xGoC a CC_40) : xGo a 0 (xentry [.inr (.inr (.inl 4)), .inr (.inr (.inr (.inl (1, 0))))] 7) [] HS := by
  obtain ⟨q1, q2⟩ := xd_two hb Ct_40 (xEn_ok h1 h2) hl hF hg
  exact CG_39 hb (by omega) h2 q1 hF q2
theorem CG_41 {a : XA} (hb : xDA 3 T_3 a) (h1 : 41 ≤ xn1 a) (h2 : xn1 a ≤ 60) {h' : XH} (hl : xLe CC_41.2.2.2 h') (hF : xFits a h') (hg : xGoC a CC_41) : xGo a 0 (xentry [.inr (.inr (.inl 4)), .inr (.inr (.inr (.inl (1, 0))))] 7) [] HS := by
  obtain ⟨q1, q2⟩ := xd_two hb Ct_41 (xEn_ok h1 h2) hl hF hg
  exact CG_40 hb (by omega) h2 q1 hF q2
theorem CG_42 {a : XA} (hb : xDA 3 T_3 a) (h1 : 42 ≤ xn1 a) (h2 : xn1 a ≤ 60) {h' : XH} (hl : xLe CC_42.2.2.2 h') (hF : xFits a h') (hg : xGoC a CC_42) : xGo a 0 (xentry [.inr (.inr (.inl 4)), .inr (.inr (.inr (.inl (1, 0))))] 7) [] HS := by
  obtain ⟨q1, q2⟩ := xd_two hb Ct_42 (xEn_ok h1 h2) hl hF hg
  exact CG_41 hb (by omega) h2 q1 hF q2
theorem CG_43 {a : XA} (hb : xDA 3 T_3 a) (h1 : 43 ≤ xn1 a) (h2 : xn1 a ≤ 60) {h' : XH} (hl : xLe CC_43.2.2.2 h') (hF : xFits a h') (hg : xGoC a CC_43) : xGo a 0 (xentry [.inr (.inr (.inl 4)), .inr (.inr (.inr (.inl (1, 0))))] 7) [] HS := by
  obtain ⟨q1, q2⟩ := xd_two hb Ct_43 (xEn_ok h1 h2) hl hF hg
  exact CG_42 hb (by omega) h2 q1 hF q2
theorem K44M {a0 : XA} (hcl : xCl a0 = xcl) (htf : xTf a0 = xtf) (hG : xGok (xG a0)) (hroom : xRoom 13 a0) (hE : xEok (xEn 44 60) (xG a0)) : xLe K44P K44Q ∧ xCon xTs xNW (xMT 113) a0 [.inr (.inr (.inl 111)), .inl 61, .inr (.inr (.inl 105)), .inr (.inr (.inl 50))] K44P none K44Q := by
  obtain ⟨p, l, e, R, s, m, args, below, meth, c, Q, G, nL, n0, s0, tyf⟩ := a0
  have htf : tyf = xtf := htf
  subst htf
  obtain ⟨r1, r2⟩ := hroom
  have hE : xEok (xEn 44 60) G := hE
  refine ⟨⟨by decide +kernel, by decide +kernel⟩, ⟨_, xmet_go (d := 12) PROG_ok (mid := 113) (nL := 10) (tb := T_113) rfl rfl hcl hG (fun a ha hGa hr hC hF hEnd => ?_), rfl, rfl, show 13 + 1 ≤ R.frames by omega, show 8 + (10 + 11) + 45 * 13 ≤ R.locals by omega⟩⟩
  have hT : xTab xTs xNW xMT (xMT 113).2.1 (xMT 113).1.cls a T_113 := (PROG_ok 113 _ _ rfl).2.2.2 a ha
  have hE : xEok (xEn 44 60) (xG a) := by rw [hGa]; exact hE
  have hG : xGok (xG a) := by rw [hGa]; exact hG
  have hc := xhcall (N := FN) (d := 12) (E := xEn 44 60) PROG_ok ha.2.2.2.2.1 ha.2.2.2.2.2 hG hr
  obtain ⟨l4, g4⟩ := xend_ok PROG_ok ha.2.2.2.2.1 ha.2.2.2.2.2 hr hT hC K44e hE hF hEnd
  obtain ⟨l3, g3⟩ := xstops_ok hT hc hC hE _ _ _ (e_s_ok K44t_4) _ l4 hF g4
  obtain ⟨l2, g2⟩ := xstops_ok hT hc hC hE _ _ _ (e_s_ok K44t_3) _ l3 hF g3
  obtain ⟨l1, g1⟩ := xstops_ok hT hc hC hE _ _ _ (e_s_ok K44t_2) _ l2 hF g2
  obtain ⟨l0, g0⟩ := xstops_ok hT hc hC hE _ _ _ (e_s_ok K44t_1) _ l1 hF g1
  exact g0
theorem CG_44 {a : XA} (hb : xDA 3 T_3 a) (h1 : 44 ≤ xn1 a) (h2 : xn1 a ≤ 60) {h' : XH} (hl : xLe CC_44.2.2.2 h') (hF : xFits a h') (hg : xGoC a CC_44) : xGo a 0 (xentry [.inr (.inr (.inl 4)), .inr (.inr (.inr (.inl (1, 0))))] 7) [] HS := by
  have hE : xEok (xEn 44 60) (xG a) := xEn_ok h1 h2
  have hG : xGok (xG a) := xCx_G hb.2.2.1
  obtain ⟨k1, k2⟩ := K44M hb.1.2.2.2.2.1 hb.1.2.2.2.2.2 hG hb.2.1 hE
  obtain ⟨q1, q2⟩ := xstops_ok hb.2.2.2 (xtold_ok (xhcall PROG_ok hb.1.2.2.2.2.1 hb.1.2.2.2.2.2 hG hb.2.1) k1 (fun _ => k2)) hb.2.2.1 hE _ _ _ (e_s_ok Ct_44) _ hl hF hg
  exact CG_43 hb (by omega) h2 q1 hF q2
theorem CG_45 {a : XA} (hb : xDA 3 T_3 a) (h1 : 45 ≤ xn1 a) (h2 : xn1 a ≤ 60) {h' : XH} (hl : xLe CC_45.2.2.2 h') (hF : xFits a h') (hg : xGoC a CC_45) : xGo a 0 (xentry [.inr (.inr (.inl 4)), .inr (.inr (.inr (.inl (1, 0))))] 7) [] HS := by
  obtain ⟨q1, q2⟩ := xd_two hb Ct_45 (xEn_ok h1 h2) hl hF hg
  exact CG_44 hb (by omega) h2 q1 hF q2
theorem CG_46 {a : XA} (hb : xDA 3 T_3 a) (h1 : 46 ≤ xn1 a) (h2 : xn1 a ≤ 60) {h' : XH} (hl : xLe CC_46.2.2.2 h') (hF : xFits a h') (hg : xGoC a CC_46) : xGo a 0 (xentry [.inr (.inr (.inl 4)), .inr (.inr (.inr (.inl (1, 0))))] 7) [] HS := by
  obtain ⟨q1, q2⟩ := xd_two hb Ct_46 (xEn_ok h1 h2) hl hF hg
  exact CG_45 hb (by omega) h2 q1 hF q2
theorem CG_47 {a : XA} (hb : xDA 3 T_3 a) (h1 : 47 ≤ xn1 a) (h2 : xn1 a ≤ 60) {h' : XH} (hl : xLe CC_47.2.2.2 h') (hF : xFits a h') (hg : xGoC a CC_47) : xGo a 0 (xentry [.inr (.inr (.inl 4)), .inr (.inr (.inr (.inl (1, 0))))] 7) [] HS := by
  obtain ⟨q1, q2⟩ := xd_two hb Ct_47 (xEn_ok h1 h2) hl hF hg
  exact CG_46 hb (by omega) h2 q1 hF q2
theorem CG_48 {a : XA} (hb : xDA 3 T_3 a) (h1 : 48 ≤ xn1 a) (h2 : xn1 a ≤ 60) {h' : XH} (hl : xLe CC_48.2.2.2 h') (hF : xFits a h') (hg : xGoC a CC_48) : xGo a 0 (xentry [.inr (.inr (.inl 4)), .inr (.inr (.inr (.inl (1, 0))))] 7) [] HS := by
  obtain ⟨q1, q2⟩ := xd_two hb Ct_48 (xEn_ok h1 h2) hl hF hg
  exact CG_47 hb (by omega) h2 q1 hF q2
theorem CG_49 {a : XA} (hb : xDA 3 T_3 a) (h1 : 49 ≤ xn1 a) (h2 : xn1 a ≤ 60) {h' : XH} (hl : xLe CC_49.2.2.2 h') (hF : xFits a h') (hg : xGoC a CC_49) : xGo a 0 (xentry [.inr (.inr (.inl 4)), .inr (.inr (.inr (.inl (1, 0))))] 7) [] HS := by
  obtain ⟨q1, q2⟩ := xd_two hb Ct_49 (xEn_ok h1 h2) hl hF hg
  exact CG_48 hb (by omega) h2 q1 hF q2
theorem CG_50 {a : XA} (hb : xDA 3 T_3 a) (h1 : 50 ≤ xn1 a) (h2 : xn1 a ≤ 60) {h' : XH} (hl : xLe CC_50.2.2.2 h') (hF : xFits a h') (hg : xGoC a CC_50) : xGo a 0 (xentry [.inr (.inr (.inl 4)), .inr (.inr (.inr (.inl (1, 0))))] 7) [] HS := by
  obtain ⟨q1, q2⟩ := xd_two hb Ct_50 (xEn_ok h1 h2) hl hF hg
  exact CG_49 hb (by omega) h2 q1 hF q2
theorem CG_51 {a : XA} (hb : xDA 3 T_3 a) (h1 : 51 ≤ xn1 a) (h2 : xn1 a ≤ 60) {h' : XH} (hl : xLe CC_51.2.2.2 h') (hF : xFits a h') (hg : xGoC a CC_51) : xGo a 0 (xentry [.inr (.inr (.inl 4)), .inr (.inr (.inr (.inl (1, 0))))] 7) [] HS := by
  obtain ⟨q1, q2⟩ := xd_two hb Ct_51 (xEn_ok h1 h2) hl hF hg
  exact CG_50 hb (by omega) h2 q1 hF q2
theorem CG_52 {a : XA} (hb : xDA 3 T_3 a) (h1 : 52 ≤ xn1 a) (h2 : xn1 a ≤ 60) {h' : XH} (hl : xLe CC_52.2.2.2 h') (hF : xFits a h') (hg : xGoC a CC_52) : xGo a 0 (xentry [.inr (.inr (.inl 4)), .inr (.inr (.inr (.inl (1, 0))))] 7) [] HS := by
  obtain ⟨q1, q2⟩ := xd_two hb Ct_52 (xEn_ok h1 h2) hl hF hg
  exact CG_51 hb (by omega) h2 q1 hF q2
theorem CG_53 {a : XA} (hb : xDA 3 T_3 a) (h1 : 53 ≤ xn1 a) (h2 : xn1 a ≤ 60) {h' : XH} (hl : xLe CC_53.2.2.2 h') (hF : xFits a h') (hg : xGoC a CC_53) : xGo a 0 (xentry [.inr (.inr (.inl 4)), .inr (.inr (.inr (.inl (1, 0))))] 7) [] HS := by
  obtain ⟨q1, q2⟩ := xd_two hb Ct_53 (xEn_ok h1 h2) hl hF hg
  exact CG_52 hb (by omega) h2 q1 hF q2
theorem CG_54 {a : XA} (hb : xDA 3 T_3 a) (h1 : 54 ≤ xn1 a) (h2 : xn1 a ≤ 60) {h' : XH} (hl : xLe CC_54.2.2.2 h') (hF : xFits a h') (hg : xGoC a CC_54) : xGo a 0 (xentry [.inr (.inr (.inl 4)), .inr (.inr (.inr (.inl (1, 0))))] 7) [] HS := by
  obtain ⟨q1, q2⟩ := xd_two hb Ct_54 (xEn_ok h1 h2) hl hF hg
  exact CG_53 hb (by omega) h2 q1 hF q2
theorem CG_55 {a : XA} (hb : xDA 3 T_3 a) (h1 : 55 ≤ xn1 a) (h2 : xn1 a ≤ 60) {h' : XH} (hl : xLe CC_55.2.2.2 h') (hF : xFits a h') (hg : xGoC a CC_55) : xGo a 0 (xentry [.inr (.inr (.inl 4)), .inr (.inr (.inr (.inl (1, 0))))] 7) [] HS := by
  obtain ⟨q1, q2⟩ := xd_two hb Ct_55 (xEn_ok h1 h2) hl hF hg
  exact CG_54 hb (by omega) h2 q1 hF q2
theorem CG_56 {a : XA} (hb : xDA 3 T_3 a) (h1 : 56 ≤ xn1 a) (h2 : xn1 a ≤ 60) {h' : XH} (hl : xLe CC_56.2.2.2 h') (hF : xFits a h') (hg : xGoC a CC_56) : xGo a 0 (xentry [.inr (.inr (.inl 4)), .inr (.inr (.inr (.inl (1, 0))))] 7) [] HS := by
  obtain ⟨q1, q2⟩ := xd_two hb Ct_56 (xEn_ok h1 h2) hl hF hg
  exact CG_55 hb (by omega) h2 q1 hF q2
theorem CG_57 {a : XA} (hb : xDA 3 T_3 a) (h1 : 57 ≤ xn1 a) (h2 : xn1 a ≤ 60) {h' : XH} (hl : xLe CC_57.2.2.2 h') (hF : xFits a h') (hg : xGoC a CC_57) : xGo a 0 (xentry [.inr (.inr (.inl 4)), .inr (.inr (.inr (.inl (1, 0))))] 7) [] HS := by
  obtain ⟨q1, q2⟩ := xd_two hb Ct_57 (xEn_ok h1 h2) hl hF hg
  exact CG_56 hb (by omega) h2 q1 hF q2
theorem CG_58 {a : XA} (hb : xDA 3 T_3 a) (h1 : 58 ≤ xn1 a) (h2 : xn1 a ≤ 60) {h' : XH} (hl : xLe CC_58.2.2.2 h') (hF : xFits a h') (hg : xGoC a CC_58) : xGo a 0 (xentry [.inr (.inr (.inl 4)), .inr (.inr (.inr (.inl (1, 0))))] 7) [] HS := by
  obtain ⟨q1, q2⟩ := xd_two hb Ct_58 (xEn_ok h1 h2) hl hF hg
  exact CG_57 hb (by omega) h2 q1 hF q2
theorem CG_59 {a : XA} (hb : xDA 3 T_3 a) (h1 : 59 ≤ xn1 a) (h2 : xn1 a ≤ 60) {h' : XH} (hl : xLe CC_59.2.2.2 h') (hF : xFits a h') (hg : xGoC a CC_59) : xGo a 0 (xentry [.inr (.inr (.inl 4)), .inr (.inr (.inr (.inl (1, 0))))] 7) [] HS := by
  obtain ⟨q1, q2⟩ := xd_two hb Ct_59 (xEn_ok h1 h2) hl hF hg
  exact CG_58 hb (by omega) h2 q1 hF q2
theorem CG_60 {a : XA} (hb : xDA 3 T_3 a) (h1 : 60 ≤ xn1 a) (h2 : xn1 a ≤ 60) {h' : XH} (hl : xLe CC_60.2.2.2 h') (hF : xFits a h') (hg : xGoC a CC_60) : xGo a 0 (xentry [.inr (.inr (.inl 4)), .inr (.inr (.inr (.inl (1, 0))))] 7) [] HS := by
  obtain ⟨q1, q2⟩ := xd_two hb Ct_60 (xEn_ok h1 h2) hl hF hg
  exact CG_59 hb (by omega) h2 q1 hF q2
theorem CM_1 {a0 : XA} (hcl : xCl a0 = xcl) (htf : xTf a0 = xtf) (hG : xGok (xG a0)) (hroom : xRoom 14 a0) (hn : xn1 a0 = 1) : xLe HS CH_1 ∧ xCon xTs xNW (xMT 3) a0 [.inr (.inr (.inl 4)), .inr (.inr (.inr (.inl (1, 0))))] HS (some (.inl 0)) CH_1 := by
  obtain ⟨p, l, e, R, s, m, args, below, meth, c, Q, G, nL, n0, s0, tyf⟩ := a0
  have htf : tyf = xtf := htf
  subst htf
  obtain ⟨r1, r2⟩ := hroom
  have hn : (G.2.1 1).toInt = 1 := hn
  refine ⟨⟨by decide +kernel, by decide +kernel⟩, ⟨_, xmet_go (d := 13) PROG_ok (mid := 3) (nL := 7) (tb := T_3) rfl rfl hcl hG (fun a ha hGa hr hC hF hEnd => ?_), rfl, rfl, show 14 + 1 ≤ R.frames by omega, show 8 + (7 + 11) + 45 * 14 ≤ R.locals by omega⟩⟩
  have hb : xDA 3 T_3 a := ⟨ha, hr, hC, (PROG_ok 3 _ _ rfl).2.2.2 a ha⟩
  have hna : xn1 a = 1 := by
    show ((xG a).2.1 1).toInt = _
    rw [hGa]
    exact hn
  obtain ⟨q1, q2⟩ := xd_end hb Ce_1 (xEn_ok (by show _ ≤ xn1 a; omega) (by show xn1 a ≤ _; omega)) hF hEnd
  exact CG_1 hb (by omega) (by omega) q1 hF q2
theorem CM_2 {a0 : XA} (hcl : xCl a0 = xcl) (htf : xTf a0 = xtf) (hG : xGok (xG a0)) (hroom : xRoom 14 a0) (hn : xn1 a0 = 2) : xLe HS CH_2 ∧ xCon xTs xNW (xMT 3) a0 [.inr (.inr (.inl 4)), .inr (.inr (.inr (.inl (1, 0))))] HS (some (.inl 0)) CH_2 := by
  obtain ⟨p, l, e, R, s, m, args, below, meth, c, Q, G, nL, n0, s0, tyf⟩ := a0
  have htf : tyf = xtf := htf
  subst htf
  obtain ⟨r1, r2⟩ := hroom
  have hn : (G.2.1 1).toInt = 2 := hn
  refine ⟨⟨by decide +kernel, by decide +kernel⟩, ⟨_, xmet_go (d := 13) PROG_ok (mid := 3) (nL := 7) (tb := T_3) rfl rfl hcl hG (fun a ha hGa hr hC hF hEnd => ?_), rfl, rfl, show 14 + 1 ≤ R.frames by omega, show 8 + (7 + 11) + 45 * 14 ≤ R.locals by omega⟩⟩
  have hb : xDA 3 T_3 a := ⟨ha, hr, hC, (PROG_ok 3 _ _ rfl).2.2.2 a ha⟩
  have hna : xn1 a = 2 := by
    show ((xG a).2.1 1).toInt = _
    rw [hGa]
    exact hn
  obtain ⟨q1, q2⟩ := xd_end hb Ce_2 (xEn_ok (by show _ ≤ xn1 a; omega) (by show xn1 a ≤ _; omega)) hF hEnd
  exact CG_2 hb (by omega) (by omega) q1 hF q2
theorem CM_3 {a0 : XA} (hcl : xCl a0 = xcl) (htf : xTf a0 = xtf) (hG : xGok (xG a0)) (hroom : xRoom 14 a0) (hn : xn1 a0 = 3) : xLe HS CH_3 ∧ xCon xTs xNW (xMT 3) a0 [.inr (.inr (.inl 4)), .inr (.inr (.inr (.inl (1, 0))))] HS (some (.inl 0)) CH_3 := by
  obtain ⟨p, l, e, R, s, m, args, below, meth, c, Q, G, nL, n0, s0, tyf⟩ := a0
  have htf : tyf = xtf := htf
  subst htf
  obtain ⟨r1, r2⟩ := hroom
  have hn : (G.2.1 1).toInt = 3 := hn
  refine ⟨⟨by decide +kernel, by decide +kernel⟩, ⟨_, xmet_go (d := 13) PROG_ok (mid := 3) (nL := 7) (tb := T_3) rfl rfl hcl hG (fun a ha hGa hr hC hF hEnd => ?_), rfl, rfl, show 14 + 1 ≤ R.frames by omega, show 8 + (7 + 11) + 45 * 14 ≤ R.locals by omega⟩⟩
  have hb : xDA 3 T_3 a := ⟨ha, hr, hC, (PROG_ok 3 _ _ rfl).2.2.2 a ha⟩
  have hna : xn1 a = 3 := by
    show ((xG a).2.1 1).toInt = _
    rw [hGa]
    exact hn
  obtain ⟨q1, q2⟩ := xd_end hb Ce_3 (xEn_ok (by show _ ≤ xn1 a; omega) (by show xn1 a ≤ _; omega)) hF hEnd
  exact CG_3 hb (by omega) (by omega) q1 hF q2
theorem CM_4 {a0 : XA} (hcl : xCl a0 = xcl) (htf : xTf a0 = xtf) (hG : xGok (xG a0)) (hroom : xRoom 14 a0) (hn : xn1 a0 = 4) : xLe HS CH_4 ∧ xCon xTs xNW (xMT 3) a0 [.inr (.inr (.inl 4)), .inr (.inr (.inr (.inl (1, 0))))] HS (some (.inl 0)) CH_4 := by
  obtain ⟨p, l, e, R, s, m, args, below, meth, c, Q, G, nL, n0, s0, tyf⟩ := a0
  have htf : tyf = xtf := htf
  subst htf
  obtain ⟨r1, r2⟩ := hroom
  have hn : (G.2.1 1).toInt = 4 := hn
  refine ⟨⟨by decide +kernel, by decide +kernel⟩, ⟨_, xmet_go (d := 13) PROG_ok (mid := 3) (nL := 7) (tb := T_3) rfl rfl hcl hG (fun a ha hGa hr hC hF hEnd => ?_), rfl, rfl, show 14 + 1 ≤ R.frames by omega, show 8 + (7 + 11) + 45 * 14 ≤ R.locals by omega⟩⟩
  have hb : xDA 3 T_3 a := ⟨ha, hr, hC, (PROG_ok 3 _ _ rfl).2.2.2 a ha⟩
  have hna : xn1 a = 4 := by
    show ((xG a).2.1 1).toInt = _
    rw [hGa]
    exact hn
  obtain ⟨q1, q2⟩ := xd_end hb Ce_4 (xEn_ok (by show _ ≤ xn1 a; omega) (by show xn1 a ≤ _; omega)) hF hEnd
  exact CG_4 hb (by omega) (by omega) q1 hF q2
theorem CM_5 {a0 : XA} (hcl : xCl a0 = xcl) (htf : xTf a0 = xtf) (hG : xGok (xG a0)) (hroom : xRoom 14 a0) (hn : xn1 a0 = 5) : xLe HS CH_5 ∧ xCon xTs xNW (xMT 3) a0 [.inr (.inr (.inl 4)), .inr (.inr (.inr (.inl (1, 0))))] HS (some (.inl 0)) CH_5 := by
  obtain ⟨p, l, e, R, s, m, args, below, meth, c, Q, G, nL, n0, s0, tyf⟩ := a0
  have htf : tyf = xtf := htf
  subst htf
  obtain ⟨r1, r2⟩ := hroom
  have hn : (G.2.1 1).toInt = 5 := hn
  refine ⟨⟨by decide +kernel, by decide +kernel⟩, ⟨_, xmet_go (d := 13) PROG_ok (mid := 3) (nL := 7) (tb := T_3) rfl rfl hcl hG (fun a ha hGa hr hC hF hEnd => ?_), rfl, rfl, show 14 + 1 ≤ R.frames by omega, show 8 + (7 + 11) + 45 * 14 ≤ R.locals by omega⟩⟩
  have hb : xDA 3 T_3 a := ⟨ha, hr, hC, (PROG_ok 3 _ _ rfl).2.2.2 a ha⟩
  have hna : xn1 a = 5 := by
    show ((xG a).2.1 1).toInt = _
    rw [hGa]
    exact hn
  obtain ⟨q1, q2⟩ := xd_end hb Ce_5 (xEn_ok (by show _ ≤ xn1 a; omega) (by show xn1 a ≤ _; omega)) hF hEnd
  exact CG_5 hb (by omega) (by omega) q1 hF q2
theorem CM_6 {a0 : XA} (hcl : xCl a0 = xcl) (htf : xTf a0 = xtf) (hG : xGok (xG a0)) (hroom : xRoom 14 a0) (hn : xn1 a0 = 6) : xLe HS CH_6 ∧ xCon xTs xNW (xMT 3) a0 [.inr (.inr (.inl 4)), .inr (.inr (.inr (.inl (1, 0))))] HS (some (.inl 0)) CH_6 := by
  obtain ⟨p, l, e, R, s, m, args, below, meth, c, Q, G, nL, n0, s0, tyf⟩ := a0
  have htf : tyf = xtf := htf
  subst htf
  obtain ⟨r1, r2⟩ := hroom
  have hn : (G.2.1 1).toInt = 6 := hn
  refine ⟨⟨by decide +kernel, by decide +kernel⟩, ⟨_, xmet_go (d := 13) PROG_ok (mid := 3) (nL := 7) (tb := T_3) rfl rfl hcl hG (fun a ha hGa hr hC hF hEnd => ?_), rfl, rfl, show 14 + 1 ≤ R.frames by omega, show 8 + (7 + 11) + 45 * 14 ≤ R.locals by omega⟩⟩
  have hb : xDA 3 T_3 a := ⟨ha, hr, hC, (PROG_ok 3 _ _ rfl).2.2.2 a ha⟩
  have hna : xn1 a = 6 := by
    show ((xG a).2.1 1).toInt = _
    rw [hGa]
    exact hn
  obtain ⟨q1, q2⟩ := xd_end hb Ce_6 (xEn_ok (by show _ ≤ xn1 a; omega) (by show xn1 a ≤ _; omega)) hF hEnd
  exact CG_6 hb (by omega) (by omega) q1 hF q2
theorem CM_7 {a0 : XA} (hcl : xCl a0 = xcl) (htf : xTf a0 = xtf) (hG : xGok (xG a0)) (hroom : xRoom 14 a0) (hn : xn1 a0 = 7) : xLe HS CH_7 ∧ xCon xTs xNW (xMT 3) a0 [.inr (.inr (.inl 4)), .inr (.inr (.inr (.inl (1, 0))))] HS (some (.inl 0)) CH_7 := by
  obtain ⟨p, l, e, R, s, m, args, below, meth, c, Q, G, nL, n0, s0, tyf⟩ := a0
  have htf : tyf = xtf := htf
  subst htf
  obtain ⟨r1, r2⟩ := hroom
  have hn : (G.2.1 1).toInt = 7 := hn
  refine ⟨⟨by decide +kernel, by decide +kernel⟩, ⟨_, xmet_go (d := 13) PROG_ok (mid := 3) (nL := 7) (tb := T_3) rfl rfl hcl hG (fun a ha hGa hr hC hF hEnd => ?_), rfl, rfl, show 14 + 1 ≤ R.frames by omega, show 8 + (7 + 11) + 45 * 14 ≤ R.locals by omega⟩⟩
  have hb : xDA 3 T_3 a := ⟨ha, hr, hC, (PROG_ok 3 _ _ rfl).2.2.2 a ha⟩
  have hna : xn1 a = 7 := by
    show ((xG a).2.1 1).toInt = _
    rw [hGa]
    exact hn
  obtain ⟨q1, q2⟩ := xd_end hb Ce_7 (xEn_ok (by show _ ≤ xn1 a; omega) (by show xn1 a ≤ _; omega)) hF hEnd
  exact CG_7 hb (by omega) (by omega) q1 hF q2
theorem CM_8 {a0 : XA} (hcl : xCl a0 = xcl) (htf : xTf a0 = xtf) (hG : xGok (xG a0)) (hroom : xRoom 14 a0) (hn : xn1 a0 = 8) : xLe HS CH_8 ∧ xCon xTs xNW (xMT 3) a0 [.inr (.inr (.inl 4)), .inr (.inr (.inr (.inl (1, 0))))] HS (some (.inl 0)) CH_8 := by
  obtain ⟨p, l, e, R, s, m, args, below, meth, c, Q, G, nL, n0, s0, tyf⟩ := a0
  have htf : tyf = xtf := htf
  subst htf
  obtain ⟨r1, r2⟩ := hroom
  have hn : (G.2.1 1).toInt = 8 := hn
  refine ⟨⟨by decide +kernel, by decide +kernel⟩, ⟨_, xmet_go (d := 13) PROG_ok (mid := 3) (nL := 7) (tb := T_3) rfl rfl hcl hG (fun a ha hGa hr hC hF hEnd => ?_), rfl, rfl, show 14 + 1 ≤ R.frames by omega, show 8 + (7 + 11) + 45 * 14 ≤ R.locals by omega⟩⟩
  have hb : xDA 3 T_3 a := ⟨ha, hr, hC, (PROG_ok 3 _ _ rfl).2.2.2 a ha⟩
  have hna : xn1 a = 8 := by
    show ((xG a).2.1 1).toInt = _
    rw [hGa]
    exact hn
  obtain ⟨q1, q2⟩ := xd_end hb Ce_8 (xEn_ok (by show _ ≤ xn1 a; omega) (by show xn1 a ≤ _; omega)) hF hEnd
  exact CG_8 hb (by omega) (by omega) q1 hF q2
theorem CM_9 {a0 : XA} (hcl : xCl a0 = xcl) (htf : xTf a0 = xtf) (hG : xGok (xG a0)) (hroom : xRoom 14 a0) (hn : xn1 a0 = 9) : xLe HS CH_9 ∧ xCon xTs xNW (xMT 3) a0 [.inr (.inr (.inl 4)), .inr (.inr (.inr (.inl (1, 0))))] HS (some (.inl 0)) CH_9 := by
  obtain ⟨p, l, e, R, s, m, args, below, meth, c, Q, G, nL, n0, s0, tyf⟩ := a0
  have htf : tyf = xtf := htf
  subst htf
  obtain ⟨r1, r2⟩ := hroom
  have hn : (G.2.1 1).toInt = 9 := hn
  refine ⟨⟨by decide +kernel, by decide +kernel⟩, ⟨_, xmet_go (d := 13) PROG_ok (mid := 3) (nL := 7) (tb := T_3) rfl rfl hcl hG (fun a ha hGa hr hC hF hEnd => ?_), rfl, rfl, show 14 + 1 ≤ R.frames by omega, show 8 + (7 + 11) + 45 * 14 ≤ R.locals by omega⟩⟩
  have hb : xDA 3 T_3 a := ⟨ha, hr, hC, (PROG_ok 3 _ _ rfl).2.2.2 a ha⟩
  have hna : xn1 a = 9 := by
    show ((xG a).2.1 1).toInt = _
    rw [hGa]
    exact hn
  obtain ⟨q1, q2⟩ := xd_end hb Ce_9 (xEn_ok (by show _ ≤ xn1 a; omega) (by show xn1 a ≤ _; omega)) hF hEnd
  exact CG_9 hb (by omega) (by omega) q1 hF q2
theorem CM_10 {a0 : XA} (hcl : xCl a0 = xcl) (htf : xTf a0 = xtf) (hG : xGok (xG a0)) (hroom : xRoom 14 a0) (hn : xn1 a0 = 10) : xLe HS CH_10 ∧ xCon xTs xNW (xMT 3) a0 [.inr (.inr (.inl 4)), .inr (.inr (.inr (.inl (1, 0))))] HS (some (.inl 0)) CH_10 := by
  obtain ⟨p, l, e, R, s, m, args, below, meth, c, Q, G, nL, n0, s0, tyf⟩ := a0
  have htf : tyf = xtf := htf
  subst htf
  obtain ⟨r1, r2⟩ := hroom
  have hn : (G.2.1 1).toInt = 10 := hn
  refine ⟨⟨by decide +kernel, by decide +kernel⟩, ⟨_, xmet_go (d := 13) PROG_ok (mid := 3) (nL := 7) (tb := T_3) rfl rfl hcl hG (fun a ha hGa hr hC hF hEnd => ?_), rfl, rfl, show 14 + 1 ≤ R.frames by omega, show 8 + (7 + 11) + 45 * 14 ≤ R.locals by omega⟩⟩
  have hb : xDA 3 T_3 a := ⟨ha, hr, hC, (PROG_ok 3 _ _ rfl).2.2.2 a ha⟩
  have hna : xn1 a = 10 := by
    show ((xG a).2.1 1).toInt = _
    rw [hGa]
    exact hn
  obtain ⟨q1, q2⟩ := xd_end hb Ce_10 (xEn_ok (by show _ ≤ xn1 a; omega) (by show xn1 a ≤ _; omega)) hF hEnd
  exact CG_10 hb (by omega) (by omega) q1 hF q2
theorem CM_11 {a0 : XA} (hcl : xCl a0 = xcl) (htf : xTf a0 = xtf) (hG : xGok (xG a0)) (hroom : xRoom 14 a0) (hn : xn1 a0 = 11) : xLe HS CH_11 ∧ xCon xTs xNW (xMT 3) a0 [.inr (.inr (.inl 4)), .inr (.inr (.inr (.inl (1, 0))))] HS (some (.inl 1)) CH_11 := by
  obtain ⟨p, l, e, R, s, m, args, below, meth, c, Q, G, nL, n0, s0, tyf⟩ := a0
  have htf : tyf = xtf := htf
  subst htf
  obtain ⟨r1, r2⟩ := hroom
  have hn : (G.2.1 1).toInt = 11 := hn
  refine ⟨⟨by decide +kernel, by decide +kernel⟩, ⟨_, xmet_go (d := 13) PROG_ok (mid := 3) (nL := 7) (tb := T_3) rfl rfl hcl hG (fun a ha hGa hr hC hF hEnd => ?_), rfl, rfl, show 14 + 1 ≤ R.frames by omega, show 8 + (7 + 11) + 45 * 14 ≤ R.locals by omega⟩⟩
  have hb : xDA 3 T_3 a := ⟨ha, hr, hC, (PROG_ok 3 _ _ rfl).2.2.2 a ha⟩
  have hna : xn1 a = 11 := by
    show ((xG a).2.1 1).toInt = _
    rw [hGa]
    exact hn
  obtain ⟨q1, q2⟩ := xd_end hb Ce_11 (xEn_ok (by show _ ≤ xn1 a; omega) (by show xn1 a ≤ _; omega)) hF hEnd
  exact CG_11 hb (by omega) (by omega) q1 hF q2
theorem CM_12 {a0 : XA} (hcl : xCl a0 = xcl) (htf : xTf a0 = xtf) (hG : xGok (xG a0)) (hroom : xRoom 14 a0) (hn : xn1 a0 = 12) : xLe HS CH_12 ∧ xCon xTs xNW (xMT 3) a0 [.inr (.inr (.inl 4)), .inr (.inr (.inr (.inl (1, 0))))] HS (some (.inl 1)) CH_12 := by
  obtain ⟨p, l, e, R, s, m, args, below, meth, c, Q, G, nL, n0, s0, tyf⟩ := a0
  have htf : tyf = xtf := htf
  subst htf
  obtain ⟨r1, r2⟩ := hroom
  have hn : (G.2.1 1).toInt = 12 := hn
  refine ⟨⟨by decide +kernel, by decide +kernel⟩, ⟨_, xmet_go (d := 13) PROG_ok (mid := 3) (nL := 7) (tb := T_3) rfl rfl hcl hG (fun a ha hGa hr hC hF hEnd => ?_), rfl, rfl, show 14 + 1 ≤ R.frames by omega, show 8 + (7 + 11) + 45 * 14 ≤ R.locals by omega⟩⟩
  have hb : xDA 3 T_3 a := ⟨ha, hr, hC, (PROG_ok 3 _ _ rfl).2.2.2 a ha⟩
  have hna : xn1 a = 12 := by
    show ((xG a).2.1 1).toInt = _
    rw [hGa]
    exact hn
  obtain ⟨q1, q2⟩ := xd_end hb Ce_12 (xEn_ok (by show _ ≤ xn1 a; omega) (by show xn1 a ≤ _; omega)) hF hEnd
  exact CG_12 hb (by omega) (by omega) q1 hF q2
theorem CM_13 {a0 : XA} (hcl : xCl a0 = xcl) (htf : xTf a0 = xtf) (hG : xGok (xG a0)) (hroom : xRoom 14 a0) (hn : xn1 a0 = 13) : xLe HS CH_13 ∧ xCon xTs xNW (xMT 3) a0 [.inr (.inr (.inl 4)), .inr (.inr (.inr (.inl (1, 0))))] HS (some (.inl 2)) CH_13 := by
  obtain ⟨p, l, e, R, s, m, args, below, meth, c, Q, G, nL, n0, s0, tyf⟩ := a0
  have htf : tyf = xtf := htf
  subst htf
  obtain ⟨r1, r2⟩ := hroom
  have hn : (G.2.1 1).toInt = 13 := hn
  refine ⟨⟨by decide +kernel, by decide +kernel⟩, ⟨_, xmet_go (d := 13) PROG_ok (mid := 3) (nL := 7) (tb := T_3) rfl rfl hcl hG (fun a ha hGa hr hC hF hEnd => ?_), rfl, rfl, show 14 + 1 ≤ R.frames by omega, show 8 + (7 + 11) + 45 * 14 ≤ R.locals by omega⟩⟩
  have hb : xDA 3 T_3 a := ⟨ha, hr, hC, (PROG_ok 3 _ _ rfl).2.2.2 a ha⟩
  have hna : xn1 a = 13 := by
    show ((xG a).2.1 1).toInt = _
    rw [hGa]
    exact hn
  obtain ⟨q1, q2⟩ := xd_end hb Ce_13 (xEn_ok (by show _ ≤ xn1 a; omega) (by show xn1 a ≤ _; omega)) hF hEnd
  exact CG_13 hb (by omega) (by omega) q1 hF q2
theorem CM_14 {a0 : XA} (hcl : xCl a0 = xcl) (htf : xTf a0 = xtf) (hG : xGok (xG a0)) (hroom : xRoom 14 a0) (hn : xn1 a0 = 14) : xLe HS CH_14 ∧ xCon xTs xNW (xMT 3) a0 [.inr (.inr (.inl 4)), .inr (.inr (.inr (.inl (1, 0))))] HS (some (.inl 3)) CH_14 := by
  obtain ⟨p, l, e, R, s, m, args, below, meth, c, Q, G, nL, n0, s0, tyf⟩ := a0
  have htf : tyf = xtf := htf
  subst htf
  obtain ⟨r1, r2⟩ := hroom
  have hn : (G.2.1 1).toInt = 14 := hn
  refine ⟨⟨by decide +kernel, by decide +kernel⟩, ⟨_, xmet_go (d := 13) PROG_ok (mid := 3) (nL := 7) (tb := T_3) rfl rfl hcl hG (fun a ha hGa hr hC hF hEnd => ?_), rfl, rfl, show 14 + 1 ≤ R.frames by omega, show 8 + (7 + 11) + 45 * 14 ≤ R.locals by omega⟩⟩
  have hb : xDA 3 T_3 a := ⟨ha, hr, hC, (PROG_ok 3 _ _ rfl).2.2.2 a ha⟩
  have hna : xn1 a = 14 := by
    show ((xG a).2.1 1).toInt = _
    rw [hGa]
    exact hn
  obtain ⟨q1, q2⟩ := xd_end hb Ce_14 (xEn_ok (by show _ ≤ xn1 a; omega) (by show xn1 a ≤ _; omega)) hF hEnd
  exact CG_14 hb (by omega) (by omega) q1 hF q2
theorem CM_15 {a0 : XA} (hcl : xCl a0 = xcl) (htf : xTf a0 = xtf) (hG : xGok (xG a0)) (hroom : xRoom 14 a0) (hn : xn1 a0 = 15) : xLe HS CH_15 ∧ xCon xTs xNW (xMT 3) a0 [.inr (.inr (.inl 4)), .inr (.inr (.inr (.inl (1, 0))))] HS (some (.inl 4)) CH_15 := by
  obtain ⟨p, l, e, R, s, m, args, below, meth, c, Q, G, nL, n0, s0, tyf⟩ := a0
  have htf : tyf = xtf := htf
  subst htf
  obtain ⟨r1, r2⟩ := hroom
  have hn : (G.2.1 1).toInt = 15 := hn
  refine ⟨⟨by decide +kernel, by decide +kernel⟩, ⟨_, xmet_go (d := 13) PROG_ok (mid := 3) (nL := 7) (tb := T_3) rfl rfl hcl hG (fun a ha hGa hr hC hF hEnd => ?_), rfl, rfl, show 14 + 1 ≤ R.frames by omega, show 8 + (7 + 11) + 45 * 14 ≤ R.locals by omega⟩⟩
  have hb : xDA 3 T_3 a := ⟨ha, hr, hC, (PROG_ok 3 _ _ rfl).2.2.2 a ha⟩
  have hna : xn1 a = 15 := by
    show ((xG a).2.1 1).toInt = _
    rw [hGa]
    exact hn
  obtain ⟨q1, q2⟩ := xd_end hb Ce_15 (xEn_ok (by show _ ≤ xn1 a; omega) (by show xn1 a ≤ _; omega)) hF hEnd
  exact CG_15 hb (by omega) (by omega) q1 hF q2
theorem CM_16 {a0 : XA} (hcl : xCl a0 = xcl) (htf : xTf a0 = xtf) (hG : xGok (xG a0)) (hroom : xRoom 14 a0) (hn : xn1 a0 = 16) : xLe HS CH_16 ∧ xCon xTs xNW (xMT 3) a0 [.inr (.inr (.inl 4)), .inr (.inr (.inr (.inl (1, 0))))] HS (some (.inl 5)) CH_16 := by
  obtain ⟨p, l, e, R, s, m, args, below, meth, c, Q, G, nL, n0, s0, tyf⟩ := a0
  have htf : tyf = xtf := htf
  subst htf
  obtain ⟨r1, r2⟩ := hroom
  have hn : (G.2.1 1).toInt = 16 := hn
  refine ⟨⟨by decide +kernel, by decide +kernel⟩, ⟨_, xmet_go (d := 13) PROG_ok (mid := 3) (nL := 7) (tb := T_3) rfl rfl hcl hG (fun a ha hGa hr hC hF hEnd => ?_), rfl, rfl, show 14 + 1 ≤ R.frames by omega, show 8 + (7 + 11) + 45 * 14 ≤ R.locals by omega⟩⟩
  have hb : xDA 3 T_3 a := ⟨ha, hr, hC, (PROG_ok 3 _ _ rfl).2.2.2 a ha⟩
  have hna : xn1 a = 16 := by
    show ((xG a).2.1 1).toInt = _
    rw [hGa]
    exact hn
  obtain ⟨q1, q2⟩ := xd_end hb Ce_16 (xEn_ok (by show _ ≤ xn1 a; omega) (by show xn1 a ≤ _; omega)) hF hEnd
  exact CG_16 hb (by omega) (by omega) q1 hF q2
theorem CM_17 {a0 : XA} (hcl : xCl a0 = xcl) (htf : xTf a0 = xtf) (hG : xGok (xG a0)) (hroom : xRoom 14 a0) (hn : xn1 a0 = 17) : xLe HS CH_17 ∧ xCon xTs xNW (xMT 3) a0 [.inr (.inr (.inl 4)), .inr (.inr (.inr (.inl (1, 0))))] HS (some (.inl 6)) CH_17 := by
  obtain ⟨p, l, e, R, s, m, args, below, meth, c, Q, G, nL, n0, s0, tyf⟩ := a0
  have htf : tyf = xtf := htf
  subst htf
  obtain ⟨r1, r2⟩ := hroom
  have hn : (G.2.1 1).toInt = 17 := hn
  refine ⟨⟨by decide +kernel, by decide +kernel⟩, ⟨_, xmet_go (d := 13) PROG_ok (mid := 3) (nL := 7) (tb := T_3) rfl rfl hcl hG (fun a ha hGa hr hC hF hEnd => ?_), rfl, rfl, show 14 + 1 ≤ R.frames by omega, show 8 + (7 + 11) + 45 * 14 ≤ R.locals by omega⟩⟩
  have hb : xDA 3 T_3 a := ⟨ha, hr, hC, (PROG_ok 3 _ _ rfl).2.2.2 a ha⟩
  have hna : xn1 a = 17 := by
    show ((xG a).2.1 1).toInt = _
    rw [hGa]
    exact hn
  obtain ⟨q1, q2⟩ := xd_end hb Ce_17 (xEn_ok (by show _ ≤ xn1 a; omega) (by show xn1 a ≤ _; omega)) hF hEnd
  exact CG_17 hb (by omega) (by omega) q1 hF q2
theorem CM_18 {a0 : XA} (hcl : xCl a0 = xcl) (htf : xTf a0 = xtf) (hG : xGok (xG a0)) (hroom : xRoom 14 a0) (hn : xn1 a0 = 18) : xLe HS CH_18 ∧ xCon xTs xNW (xMT 3) a0 [.inr (.inr (.inl 4)), .inr (.inr (.inr (.inl (1, 0))))] HS (some (.inl 6)) CH_18 := by
  obtain ⟨p, l, e, R, s, m, args, below, meth, c, Q, G, nL, n0, s0, tyf⟩ := a0
  have htf : tyf = xtf := htf
  subst htf
  obtain ⟨r1, r2⟩ := hroom
  have hn : (G.2.1 1).toInt = 18 := hn
  refine ⟨⟨by decide +kernel, by decide +kernel⟩, ⟨_, xmet_go (d := 13) PROG_ok (mid := 3) (nL := 7) (tb := T_3) rfl rfl hcl hG (fun a ha hGa hr hC hF hEnd => ?_), rfl, rfl, show 14 + 1 ≤ R.frames by omega, show 8 + (7 + 11) + 45 * 14 ≤ R.locals by omega⟩⟩
  have hb : xDA 3 T_3 a := ⟨ha, hr, hC, (PROG_ok 3 _ _ rfl).2.2.2 a ha⟩
  have hna : xn1 a = 18 := by
    show ((xG a).2.1 1).toInt = _
    rw [hGa]
    exact hn
  obtain ⟨q1, q2⟩ := xd_end hb Ce_18 (xEn_ok (by show _ ≤ xn1 a; omega) (by show xn1 a ≤ _; omega)) hF hEnd
  exact CG_18 hb (by omega) (by omega) q1 hF q2
theorem CM_19 {a0 : XA} (hcl : xCl a0 = xcl) (htf : xTf a0 = xtf) (hG : xGok (xG a0)) (hroom : xRoom 14 a0) (hn : xn1 a0 = 19) : xLe HS CH_19 ∧ xCon xTs xNW (xMT 3) a0 [.inr (.inr (.inl 4)), .inr (.inr (.inr (.inl (1, 0))))] HS (some (.inl 7)) CH_19 := by
  obtain ⟨p, l, e, R, s, m, args, below, meth, c, Q, G, nL, n0, s0, tyf⟩ := a0
  have htf : tyf = xtf := htf
  subst htf
  obtain ⟨r1, r2⟩ := hroom
  have hn : (G.2.1 1).toInt = 19 := hn
  refine ⟨⟨by decide +kernel, by decide +kernel⟩, ⟨_, xmet_go (d := 13) PROG_ok (mid := 3) (nL := 7) (tb := T_3) rfl rfl hcl hG (fun a ha hGa hr hC hF hEnd => ?_), rfl, rfl, show 14 + 1 ≤ R.frames by omega, show 8 + (7 + 11) + 45 * 14 ≤ R.locals by omega⟩⟩
  have hb : xDA 3 T_3 a := ⟨ha, hr, hC, (PROG_ok 3 _ _ rfl).2.2.2 a ha⟩
  have hna : xn1 a = 19 := by
    show ((xG a).2.1 1).toInt = _
    rw [hGa]
    exact hn
  obtain ⟨q1, q2⟩ := xd_end hb Ce_19 (xEn_ok (by show _ ≤ xn1 a; omega) (by show xn1 a ≤ _; omega)) hF hEnd
  exact CG_19 hb (by omega) (by omega) q1 hF q2
theorem CM_20 {a0 : XA} (hcl : xCl a0 = xcl) (htf : xTf a0 = xtf) (hG : xGok (xG a0)) (hroom : xRoom 14 a0) (hn : xn1 a0 = 20) : xLe HS CH_20 ∧ xCon xTs xNW (xMT 3) a0 [.inr (.inr (.inl 4)), .inr (.inr (.inr (.inl (1, 0))))] HS (some (.inl 8)) CH_20 := by
  obtain ⟨p, l, e, R, s, m, args, below, meth, c, Q, G, nL, n0, s0, tyf⟩ := a0
  have htf : tyf = xtf := htf
  subst htf
  obtain ⟨r1, r2⟩ := hroom
  have hn : (G.2.1 1).toInt = 20 := hn
  refine ⟨⟨by decide +kernel, by decide +kernel⟩, ⟨_, xmet_go (d := 13) PROG_ok (mid := 3) (nL := 7) (tb := T_3) rfl rfl hcl hG (fun a ha hGa hr hC hF hEnd => ?_), rfl, rfl, show 14 + 1 ≤ R.frames by omega, show 8 + (7 + 11) + 45 * 14 ≤ R.locals by omega⟩⟩
  have hb : xDA 3 T_3 a := ⟨ha, hr, hC, (PROG_ok 3 _ _ rfl).2.2.2 a ha⟩
  have hna : xn1 a = 20 := by
    show ((xG a).2.1 1).toInt = _
    rw [hGa]
    exact hn
  obtain ⟨q1, q2⟩ := xd_end hb Ce_20 (xEn_ok (by show _ ≤ xn1 a; omega) (by show xn1 a ≤ _; omega)) hF hEnd
  exact CG_20 hb (by omega) (by omega) q1 hF q2
theorem CM_21 {a0 : XA} (hcl : xCl a0 = xcl) (htf : xTf a0 = xtf) (hG : xGok (xG a0)) (hroom : xRoom 14 a0) (hn : xn1 a0 = 21) : xLe HS CH_21 ∧ xCon xTs xNW (xMT 3) a0 [.inr (.inr (.inl 4)), .inr (.inr (.inr (.inl (1, 0))))] HS (some (.inl 8)) CH_21 := by
  obtain ⟨p, l, e, R, s, m, args, below, meth, c, Q, G, nL, n0, s0, tyf⟩ := a0
  have htf : tyf = xtf := htf
  subst htf
  obtain ⟨r1, r2⟩ := hroom
  have hn : (G.2.1 1).toInt = 21 := hn
  refine ⟨⟨by decide +kernel, by decide +kernel⟩, ⟨_, xmet_go (d := 13) PROG_ok (mid := 3) (nL := 7) (tb := T_3) rfl rfl hcl hG (fun a ha hGa hr hC hF hEnd => ?_), rfl, rfl, show 14 + 1 ≤ R.frames by omega, show 8 + (7 + 11) + 45 * 14 ≤ R.locals by omega⟩⟩
  have hb : xDA 3 T_3 a := ⟨ha, hr, hC, (PROG_ok 3 _ _ rfl).2.2.2 a ha⟩
  have hna : xn1 a = 21 := by
    show ((xG a).2.1 1).toInt = _
    rw [hGa]
    exact hn
  obtain ⟨q1, q2⟩ := xd_end hb Ce_21 (xEn_ok (by show _ ≤ xn1 a; omega) (by show xn1 a ≤ _; omega)) hF hEnd
  exact CG_21 hb (by omega) (by omega) q1 hF q2
theorem CM_22 {a0 : XA} (hcl : xCl a0 = xcl) (htf : xTf a0 = xtf) (hG : xGok (xG a0)) (hroom : xRoom 14 a0) (hn : xn1 a0 = 22) : xLe HS CH_22 ∧ xCon xTs xNW (xMT 3) a0 [.inr (.inr (.inl 4)), .inr (.inr (.inr (.inl (1, 0))))] HS (some (.inl 9)) CH_22 := by
  obtain ⟨p, l, e, R, s, m, args, below, meth, c, Q, G, nL, n0, s0, tyf⟩ := a0
  have htf : tyf = xtf := htf
  subst htf
  obtain ⟨r1, r2⟩ := hroom
  have hn : (G.2.1 1).toInt = 22 := hn
  refine ⟨⟨by decide +kernel, by decide +kernel⟩, ⟨_, xmet_go (d := 13) PROG_ok (mid := 3) (nL := 7) (tb := T_3) rfl rfl hcl hG (fun a ha hGa hr hC hF hEnd => ?_), rfl, rfl, show 14 + 1 ≤ R.frames by omega, show 8 + (7 + 11) + 45 * 14 ≤ R.locals by omega⟩⟩
  have hb : xDA 3 T_3 a := ⟨ha, hr, hC, (PROG_ok 3 _ _ rfl).2.2.2 a ha⟩
  have hna : xn1 a = 22 := by
    show ((xG a).2.1 1).toInt = _
    rw [hGa]
    exact hn
  obtain ⟨q1, q2⟩ := xd_end hb Ce_22 (xEn_ok (by show _ ≤ xn1 a; omega) (by show xn1 a ≤ _; omega)) hF hEnd
  exact CG_22 hb (by omega) (by omega) q1 hF q2
theorem CM_23 {a0 : XA} (hcl : xCl a0 = xcl) (htf : xTf a0 = xtf) (hG : xGok (xG a0)) (hroom : xRoom 14 a0) (hn : xn1 a0 = 23) : xLe HS CH_23 ∧ xCon xTs xNW (xMT 3) a0 [.inr (.inr (.inl 4)), .inr (.inr (.inr (.inl (1, 0))))] HS (some (.inl 10)) CH_23 := by
  obtain ⟨p, l, e, R, s, m, args, below, meth, c, Q, G, nL, n0, s0, tyf⟩ := a0
  have htf : tyf = xtf := htf
  subst htf
  obtain ⟨r1, r2⟩ := hroom
  have hn : (G.2.1 1).toInt = 23 := hn
  refine ⟨⟨by decide +kernel, by decide +kernel⟩, ⟨_, xmet_go (d := 13) PROG_ok (mid := 3) (nL := 7) (tb := T_3) rfl rfl hcl hG (fun a ha hGa hr hC hF hEnd => ?_), rfl, rfl, show 14 + 1 ≤ R.frames by omega, show 8 + (7 + 11) + 45 * 14 ≤ R.locals by omega⟩⟩
  have hb : xDA 3 T_3 a := ⟨ha, hr, hC, (PROG_ok 3 _ _ rfl).2.2.2 a ha⟩
  have hna : xn1 a = 23 := by
    show ((xG a).2.1 1).toInt = _
    rw [hGa]
    exact hn
  obtain ⟨q1, q2⟩ := xd_end hb Ce_23 (xEn_ok (by show _ ≤ xn1 a; omega) (by show xn1 a ≤ _; omega)) hF hEnd
  exact CG_23 hb (by omega) (by omega) q1 hF q2
theorem CM_24 {a0 : XA} (hcl : xCl a0 = xcl) (htf : xTf a0 = xtf) (hG : xGok (xG a0)) (hroom : xRoom 14 a0) (hn : xn1 a0 = 24) : xLe HS CH_24 ∧ xCon xTs xNW (xMT 3) a0 [.inr (.inr (.inl 4)), .inr (.inr (.inr (.inl (1, 0))))] HS (some (.inl 10)) CH_24 := by
  obtain ⟨p, l, e, R, s, m, args, below, meth, c, Q, G, nL, n0, s0, tyf⟩ := a0
  have htf : tyf = xtf := htf
  subst htf
  obtain ⟨r1, r2⟩ := hroom
  have hn : (G.2.1 1).toInt = 24 := hn
  refine ⟨⟨by decide +kernel, by decide +kernel⟩, ⟨_, xmet_go (d := 13) PROG_ok (mid := 3) (nL := 7) (tb := T_3) rfl rfl hcl hG (fun a ha hGa hr hC hF hEnd => ?_), rfl, rfl, show 14 + 1 ≤ R.frames by omega, show 8 + (7 + 11) + 45 * 14 ≤ R.locals by omega⟩⟩
  have hb : xDA 3 T_3 a := ⟨ha, hr, hC, (PROG_ok 3 _ _ rfl).2.2.2 a ha⟩
  have hna : xn1 a = 24 := by
    show ((xG a).2.1 1).toInt = _
    rw [hGa]
    exact hn
  obtain ⟨q1, q2⟩ := xd_end hb Ce_24 (xEn_ok (by show _ ≤ xn1 a; omega) (by show xn1 a ≤ _; omega)) hF hEnd
  exact CG_24 hb (by omega) (by omega) q1 hF q2
theorem CM_25 {a0 : XA} (hcl : xCl a0 = xcl) (htf : xTf a0 = xtf) (hG : xGok (xG a0)) (hroom : xRoom 14 a0) (hn : xn1 a0 = 25) : xLe HS CH_25 ∧ xCon xTs xNW (xMT 3) a0 [.inr (.inr (.inl 4)), .inr (.inr (.inr (.inl (1, 0))))] HS (some (.inl 11)) CH_25 := by
  obtain ⟨p, l, e, R, s, m, args, below, meth, c, Q, G, nL, n0, s0, tyf⟩ := a0
  have htf : tyf = xtf := htf
  subst htf
  obtain ⟨r1, r2⟩ := hroom
  have hn : (G.2.1 1).toInt = 25 := hn
  refine ⟨⟨by decide +kernel, by decide +kernel⟩, ⟨_, xmet_go (d := 13) PROG_ok (mid := 3) (nL := 7) (tb := T_3) rfl rfl hcl hG (fun a ha hGa hr hC hF hEnd => ?_), rfl, rfl, show 14 + 1 ≤ R.frames by omega, show 8 + (7 + 11) + 45 * 14 ≤ R.locals by omega⟩⟩
  have hb : xDA 3 T_3 a := ⟨ha, hr, hC, (PROG_ok 3 _ _ rfl).2.2.2 a ha⟩
  have hna : xn1 a = 25 := by
    show ((xG a).2.1 1).toInt = _
    rw [hGa]
    exact hn
  obtain ⟨q1, q2⟩ := xd_end hb Ce_25 (xEn_ok (by show _ ≤ xn1 a; omega) (by show xn1 a ≤ _; omega)) hF hEnd
  exact CG_25 hb (by omega) (by omega) q1 hF q2
theorem CM_26 {a0 : XA} (hcl : xCl a0 = xcl) (htf : xTf a0 = xtf) (hG : xGok (xG a0)) (hroom : xRoom 14 a0) (hn : xn1 a0 = 26) : xLe HS CH_26 ∧ xCon xTs xNW (xMT 3) a0 [.inr (.inr (.inl 4)), .inr (.inr (.inr (.inl (1, 0))))] HS (some (.inl 12)) CH_26 := by
  obtain ⟨p, l, e, R, s, m, args, below, meth, c, Q, G, nL, n0, s0, tyf⟩ := a0
  have htf : tyf = xtf := htf
  subst htf
  obtain ⟨r1, r2⟩ := hroom
  have hn : (G.2.1 1).toInt = 26 := hn
  refine ⟨⟨by decide +kernel, by decide +kernel⟩, ⟨_, xmet_go (d := 13) PROG_ok (mid := 3) (nL := 7) (tb := T_3) rfl rfl hcl hG (fun a ha hGa hr hC hF hEnd => ?_), rfl, rfl, show 14 + 1 ≤ R.frames by omega, show 8 + (7 + 11) + 45 * 14 ≤ R.locals by omega⟩⟩
  have hb : xDA 3 T_3 a := ⟨ha, hr, hC, (PROG_ok 3 _ _ rfl).2.2.2 a ha⟩
  have hna : xn1 a = 26 := by
    show ((xG a).2.1 1).toInt = _
    rw [hGa]
    exact hn
  obtain ⟨q1, q2⟩ := xd_end hb Ce_26 (xEn_ok (by show _ ≤ xn1 a; omega) (by show xn1 a ≤ _; omega)) hF hEnd
  exact CG_26 hb (by omega) (by omega) q1 hF q2
theorem CM_27 {a0 : XA} (hcl : xCl a0 = xcl) (htf : xTf a0 = xtf) (hG : xGok (xG a0)) (hroom : xRoom 14 a0) (hn : xn1 a0 = 27) : xLe HS CH_27 ∧ xCon xTs xNW (xMT 3) a0 [.inr (.inr (.inl 4)), .inr (.inr (.inr (.inl (1, 0))))] HS (some (.inl 12)) CH_27 := by
  obtain ⟨p, l, e, R, s, m, args, below, meth, c, Q, G, nL, n0, s0, tyf⟩ := a0
  have htf : tyf = xtf := htf
  subst htf
  obtain ⟨r1, r2⟩ := hroom
  have hn : (G.2.1 1).toInt = 27 := hn
  refine ⟨⟨by decide +kernel, by decide +kernel⟩, ⟨_, xmet_go (d := 13) PROG_ok (mid := 3) (nL := 7) (tb := T_3) rfl rfl hcl hG (fun a ha hGa hr hC hF hEnd => ?_), rfl, rfl, show 14 + 1 ≤ R.frames by omega, show 8 + (7 + 11) + 45 * 14 ≤ R.locals by omega⟩⟩
  have hb : xDA 3 T_3 a := ⟨ha, hr, hC, (PROG_ok 3 _ _ rfl).2.2.2 a ha⟩
  have hna : xn1 a = 27 := by
    show ((xG a).2.1 1).toInt = _
    rw [hGa]
    exact hn
  obtain ⟨q1, q2⟩ := xd_end hb Ce_27 (xEn_ok (by show _ ≤ xn1 a; omega) (by show xn1 a ≤ _; omega)) hF hEnd
  exact CG_27 hb (by omega) (by omega) q1 hF q2
theorem CM_28 {a0 : XA} (hcl : xCl a0 = xcl) (htf : xTf a0 = xtf) (hG : xGok (xG a0)) (hroom : xRoom 14 a0) (hn : xn1 a0 = 28) : xLe HS CH_28 ∧ xCon xTs xNW (xMT 3) a0 [.inr (.inr (.inl 4)), .inr (.inr (.inr (.inl (1, 0))))] HS (some (.inl 13)) CH_28 := by
  obtain ⟨p, l, e, R, s, m, args, below, meth, c, Q, G, nL, n0, s0, tyf⟩ := a0
  have htf : tyf = xtf := htf
  subst htf
  obtain ⟨r1, r2⟩ := hroom
  have hn : (G.2.1 1).toInt = 28 := hn
  refine ⟨⟨by decide +kernel, by decide +kernel⟩, ⟨_, xmet_go (d := 13) PROG_ok (mid := 3) (nL := 7) (tb := T_3) rfl rfl hcl hG (fun a ha hGa hr hC hF hEnd => ?_), rfl, rfl, show 14 + 1 ≤ R.frames by omega, show 8 + (7 + 11) + 45 * 14 ≤ R.locals by omega⟩⟩
  have hb : xDA 3 T_3 a := ⟨ha, hr, hC, (PROG_ok 3 _ _ rfl).2.2.2 a ha⟩
  have hna : xn1 a = 28 := by
    show ((xG a).2.1 1).toInt = _
    rw [hGa]
    exact hn
  obtain ⟨q1, q2⟩ := xd_end hb Ce_28 (xEn_ok (by show _ ≤ xn1 a; omega) (by show xn1 a ≤ _; omega)) hF hEnd
  exact CG_28 hb (by omega) (by omega) q1 hF q2
theorem CM_29 {a0 : XA} (hcl : xCl a0 = xcl) (htf : xTf a0 = xtf) (hG : xGok (xG a0)) (hroom : xRoom 14 a0) (hn : xn1 a0 = 29) : xLe HS CH_29 ∧ xCon xTs xNW (xMT 3) a0 [.inr (.inr (.inl 4)), .inr (.inr (.inr (.inl (1, 0))))] HS (some (.inl 14)) CH_29 := by
  obtain ⟨p, l, e, R, s, m, args, below, meth, c, Q, G, nL, n0, s0, tyf⟩ := a0
  have htf : tyf = xtf := htf
  subst htf
  obtain ⟨r1, r2⟩ := hroom
  have hn : (G.2.1 1).toInt = 29 := hn
  refine ⟨⟨by decide +kernel, by decide +kernel⟩, ⟨_, xmet_go (d := 13) PROG_ok (mid := 3) (nL := 7) (tb := T_3) rfl rfl hcl hG (fun a ha hGa hr hC hF hEnd => ?_), rfl, rfl, show 14 + 1 ≤ R.frames by omega, show 8 + (7 + 11) + 45 * 14 ≤ R.locals by omega⟩⟩
  have hb : xDA 3 T_3 a := ⟨ha, hr, hC, (PROG_ok 3 _ _ rfl).2.2.2 a ha⟩
  have hna : xn1 a = 29 := by
    show ((xG a).2.1 1).toInt = _
    rw [hGa]
    exact hn
  obtain ⟨q1, q2⟩ := xd_end hb Ce_29 (xEn_ok (by show _ ≤ xn1 a; omega) (by show xn1 a ≤ _; omega)) hF hEnd
  exact CG_29 hb (by omega) (by omega) q1 hF q2
theorem CM_30 {a0 : XA} (hcl : xCl a0 = xcl) (htf : xTf a0 = xtf) (hG : xGok (xG a0)) (hroom : xRoom 14 a0) (hn : xn1 a0 = 30) : xLe HS CH_30 ∧ xCon xTs xNW (xMT 3) a0 [.inr (.inr (.inl 4)), .inr (.inr (.inr (.inl (1, 0))))] HS (some (.inl 15)) CH_30 := by
  obtain ⟨p, l, e, R, s, m, args, below, meth, c, Q, G, nL, n0, s0, tyf⟩ := a0
  have htf : tyf = xtf := htf
  subst htf
  obtain ⟨r1, r2⟩ := hroom
  have hn : (G.2.1 1).toInt = 30 := hn
  refine ⟨⟨by decide +kernel, by decide +kernel⟩, ⟨_, xmet_go (d := 13) PROG_ok (mid := 3) (nL := 7) (tb := T_3) rfl rfl hcl hG (fun a ha hGa hr hC hF hEnd => ?_), rfl, rfl, show 14 + 1 ≤ R.frames by omega, show 8 + (7 + 11) + 45 * 14 ≤ R.locals by omega⟩⟩
  have hb : xDA 3 T_3 a := ⟨ha, hr, hC, (PROG_ok 3 _ _ rfl).2.2.2 a ha⟩
  have hna : xn1 a = 30 := by
    show ((xG a).2.1 1).toInt = _
    rw [hGa]
    exact hn
  obtain ⟨q1, q2⟩ := xd_end hb Ce_30 (xEn_ok (by show _ ≤ xn1 a; omega) (by show xn1 a ≤ _; omega)) hF hEnd
  exact CG_30 hb (by omega) (by omega) q1 hF q2
theorem CM_31 {a0 : XA} (hcl : xCl a0 = xcl) (htf : xTf a0 = xtf) (hG : xGok (xG a0)) (hroom : xRoom 14 a0) (hn : xn1 a0 = 31) : xLe HS CH_31 ∧ xCon xTs xNW (xMT 3) a0 [.inr (.inr (.inl 4)), .inr (.inr (.inr (.inl (1, 0))))] HS (some (.inl 16)) CH_31 := by
  obtain ⟨p, l, e, R, s, m, args, below, meth, c, Q, G, nL, n0, s0, tyf⟩ := a0
  have htf : tyf = xtf := htf
  subst htf
  obtain ⟨r1, r2⟩ := hroom
  have hn : (G.2.1 1).toInt = 31 := hn
  refine ⟨⟨by decide +kernel, by decide +kernel⟩, ⟨_, xmet_go (d := 13) PROG_ok (mid := 3) (nL := 7) (tb := T_3) rfl rfl hcl hG (fun a ha hGa hr hC hF hEnd => ?_), rfl, rfl, show 14 + 1 ≤ R.frames by omega, show 8 + (7 + 11) + 45 * 14 ≤ R.locals by omega⟩⟩
  have hb : xDA 3 T_3 a := ⟨ha, hr, hC, (PROG_ok 3 _ _ rfl).2.2.2 a ha⟩
  have hna : xn1 a = 31 := by
    show ((xG a).2.1 1).toInt = _
    rw [hGa]
    exact hn
  obtain ⟨q1, q2⟩ := xd_end hb Ce_31 (xEn_ok (by show _ ≤ xn1 a; omega) (by show xn1 a ≤ _; omega)) hF hEnd
  exact CG_31 hb (by omega) (by omega) q1 hF q2
theorem CM_32 {a0 : XA} (hcl : xCl a0 = xcl) (htf : xTf a0 = xtf) (hG : xGok (xG a0)) (hroom : xRoom 14 a0) (hn : xn1 a0 = 32) : xLe HS CH_32 ∧ xCon xTs xNW (xMT 3) a0 [.inr (.inr (.inl 4)), .inr (.inr (.inr (.inl (1, 0))))] HS (some (.inl 17)) CH_32 := by
  obtain ⟨p, l, e, R, s, m, args, below, meth, c, Q, G, nL, n0, s0, tyf⟩ := a0
  have htf : tyf = xtf := htf
  subst htf
  obtain ⟨r1, r2⟩ := hroom
  have hn : (G.2.1 1).toInt = 32 := hn
  refine ⟨⟨by decide +kernel, by decide +kernel⟩, ⟨_, xmet_go (d := 13) PROG_ok (mid := 3) (nL := 7) (tb := T_3) rfl rfl hcl hG (fun a ha hGa hr hC hF hEnd => ?_), rfl, rfl, show 14 + 1 ≤ R.frames by omega, show 8 + (7 + 11) + 45 * 14 ≤ R.locals by omega⟩⟩
  have hb : xDA 3 T_3 a := ⟨ha, hr, hC, (PROG_ok 3 _ _ rfl).2.2.2 a ha⟩
  have hna : xn1 a = 32 := by
    show ((xG a).2.1 1).toInt = _
    rw [hGa]
    exact hn
  obtain ⟨q1, q2⟩ := xd_end hb Ce_32 (xEn_ok (by show _ ≤ xn1 a; omega) (by show xn1 a ≤ _; omega)) hF hEnd
  exact CG_32 hb (by omega) (by omega) q1 hF q2
theorem CM_33 {a0 : XA} (hcl : xCl a0 = xcl) (htf : xTf a0 = xtf) (hG : xGok (xG a0)) (hroom : xRoom 14 a0) (hn : xn1 a0 = 33) : xLe HS CH_33 ∧ xCon xTs xNW (xMT 3) a0 [.inr (.inr (.inl 4)), .inr (.inr (.inr (.inl (1, 0))))] HS (some (.inl 18)) CH_33 := by
  obtain ⟨p, l, e, R, s, m, args, below, meth, c, Q, G, nL, n0, s0, tyf⟩ := a0
  have htf : tyf = xtf := htf
  subst htf
  obtain ⟨r1, r2⟩ := hroom
  have hn : (G.2.1 1).toInt = 33 := hn
  refine ⟨⟨by decide +kernel, by decide +kernel⟩, ⟨_, xmet_go (d := 13) PROG_ok (mid := 3) (nL := 7) (tb := T_3) rfl rfl hcl hG (fun a ha hGa hr hC hF hEnd => ?_), rfl, rfl, show 14 + 1 ≤ R.frames by omega, show 8 + (7 + 11) + 45 * 14 ≤ R.locals by omega⟩⟩
  have hb : xDA 3 T_3 a := ⟨ha, hr, hC, (PROG_ok 3 _ _ rfl).2.2.2 a ha⟩
  have hna : xn1 a = 33 := by
    show ((xG a).2.1 1).toInt = _
    rw [hGa]
    exact hn
  obtain ⟨q1, q2⟩ := xd_end hb Ce_33 (xEn_ok (by show _ ≤ xn1 a; omega) (by show xn1 a ≤ _; omega)) hF hEnd
  exact CG_33 hb (by omega) (by omega) q1 hF q2
theorem CM_34 {a0 : XA} (hcl : xCl a0 = xcl) (htf : xTf a0 = xtf) (hG : xGok (xG a0)) (hroom : xRoom 14 a0) (hn : xn1 a0 = 34) : xLe HS CH_34 ∧ xCon xTs xNW (xMT 3) a0 [.inr (.inr (.inl 4)), .inr (.inr (.inr (.inl (1, 0))))] HS (some (.inl 19)) CH_34 := by
  obtain ⟨p, l, e, R, s, m, args, below, meth, c, Q, G, nL, n0, s0, tyf⟩ := a0
  have htf : tyf = xtf := htf
  subst htf
  obtain ⟨r1, r2⟩ := hroom
  have hn : (G.2.1 1).toInt = 34 := hn
  refine ⟨⟨by decide +kernel, by decide +kernel⟩, ⟨_, xmet_go (d := 13) PROG_ok (mid := 3) (nL := 7) (tb := T_3) rfl rfl hcl hG (fun a ha hGa hr hC hF hEnd => ?_), rfl, rfl, show 14 + 1 ≤ R.frames by omega, show 8 + (7 + 11) + 45 * 14 ≤ R.locals by omega⟩⟩
  have hb : xDA 3 T_3 a := ⟨ha, hr, hC, (PROG_ok 3 _ _ rfl).2.2.2 a ha⟩
  have hna : xn1 a = 34 := by
    show ((xG a).2.1 1).toInt = _
    rw [hGa]
    exact hn
  obtain ⟨q1, q2⟩ := xd_end hb Ce_34 (xEn_ok (by show _ ≤ xn1 a; omega) (by show xn1 a ≤ _; omega)) hF hEnd
  exact CG_34 hb (by omega) (by omega) q1 hF q2
theorem CM_35 {a0 : XA} (hcl : xCl a0 = xcl) (htf : xTf a0 = xtf) (hG : xGok (xG a0)) (hroom : xRoom 14 a0) (hn : xn1 a0 = 35) : xLe HS CH_35 ∧ xCon xTs xNW (xMT 3) a0 [.inr (.inr (.inl 4)), .inr (.inr (.inr (.inl (1, 0))))] HS (some (.inl 20)) CH_35 := by
  obtain ⟨p, l, e, R, s, m, args, below, meth, c, Q, G, nL, n0, s0, tyf⟩ := a0
  have htf : tyf = xtf := htf
  subst htf
  obtain ⟨r1, r2⟩ := hroom
  have hn : (G.2.1 1).toInt = 35 := hn
  refine ⟨⟨by decide +kernel, by decide +kernel⟩, ⟨_, xmet_go (d := 13) PROG_ok (mid := 3) (nL := 7) (tb := T_3) rfl rfl hcl hG (fun a ha hGa hr hC hF hEnd => ?_), rfl, rfl, show 14 + 1 ≤ R.frames by omega, show 8 + (7 + 11) + 45 * 14 ≤ R.locals by omega⟩⟩
  have hb : xDA 3 T_3 a := ⟨ha, hr, hC, (PROG_ok 3 _ _ rfl).2.2.2 a ha⟩
  have hna : xn1 a = 35 := by
    show ((xG a).2.1 1).toInt = _
    rw [hGa]
    exact hn
  obtain ⟨q1, q2⟩ := xd_end hb Ce_35 (xEn_ok (by show _ ≤ xn1 a; omega) (by show xn1 a ≤ _; omega)) hF hEnd
  exact CG_35 hb (by omega) (by omega) q1 hF q2
theorem CM_36 {a0 : XA} (hcl : xCl a0 = xcl) (htf : xTf a0 = xtf) (hG : xGok (xG a0)) (hroom : xRoom 14 a0) (hn : xn1 a0 = 36) : xLe HS CH_36 ∧ xCon xTs xNW (xMT 3) a0 [.inr (.inr (.inl 4)), .inr (.inr (.inr (.inl (1, 0))))] HS (some (.inl 21)) CH_36 := by
  obtain ⟨p, l, e, R, s, m, args, below, meth, c, Q, G, nL, n0, s0, tyf⟩ := a0
  have htf : tyf = xtf := htf
  subst htf
  obtain ⟨r1, r2⟩ := hroom
  have hn : (G.2.1 1).toInt = 36 := hn
  refine ⟨⟨by decide +kernel, by decide +kernel⟩, ⟨_, xmet_go (d := 13) PROG_ok (mid := 3) (nL := 7) (tb := T_3) rfl rfl hcl hG (fun a ha hGa hr hC hF hEnd => ?_), rfl, rfl, show 14 + 1 ≤ R.frames by omega, show 8 + (7 + 11) + 45 * 14 ≤ R.locals by omega⟩⟩
  have hb : xDA 3 T_3 a := ⟨ha, hr, hC, (PROG_ok 3 _ _ rfl).2.2.2 a ha⟩
  have hna : xn1 a = 36 := by
    show ((xG a).2.1 1).toInt = _
    rw [hGa]
    exact hn
  obtain ⟨q1, q2⟩ := xd_end hb Ce_36 (xEn_ok (by show _ ≤ xn1 a; omega) (by show xn1 a ≤ _; omega)) hF hEnd
  exact CG_36 hb (by omega) (by omega) q1 hF q2
theorem CM_37 {a0 : XA} (hcl : xCl a0 = xcl) (htf : xTf a0 = xtf) (hG : xGok (xG a0)) (hroom : xRoom 14 a0) (hn : xn1 a0 = 37) : xLe HS CH_37 ∧ xCon xTs xNW (xMT 3) a0 [.inr (.inr (.inl 4)), .inr (.inr (.inr (.inl (1, 0))))] HS (some (.inl 22)) CH_37 := by
  obtain ⟨p, l, e, R, s, m, args, below, meth, c, Q, G, nL, n0, s0, tyf⟩ := a0
  have htf : tyf = xtf := htf
  subst htf
  obtain ⟨r1, r2⟩ := hroom
  have hn : (G.2.1 1).toInt = 37 := hn
  refine ⟨⟨by decide +kernel, by decide +kernel⟩, ⟨_, xmet_go (d := 13) PROG_ok (mid := 3) (nL := 7) (tb := T_3) rfl rfl hcl hG (fun a ha hGa hr hC hF hEnd => ?_), rfl, rfl, show 14 + 1 ≤ R.frames by omega, show 8 + (7 + 11) + 45 * 14 ≤ R.locals by omega⟩⟩
  have hb : xDA 3 T_3 a := ⟨ha, hr, hC, (PROG_ok 3 _ _ rfl).2.2.2 a ha⟩
  have hna : xn1 a = 37 := by
    show ((xG a).2.1 1).toInt = _
    rw [hGa]
    exact hn
  obtain ⟨q1, q2⟩ := xd_end hb Ce_37 (xEn_ok (by show _ ≤ xn1 a; omega) (by show xn1 a ≤ _; omega)) hF hEnd
  exact CG_37 hb (by omega) (by omega) q1 hF q2
theorem CM_38 {a0 : XA} (hcl : xCl a0 = xcl) (htf : xTf a0 = xtf) (hG : xGok (xG a0)) (hroom : xRoom 14 a0) (hn : xn1 a0 = 38) : xLe HS CH_38 ∧ xCon xTs xNW (xMT 3) a0 [.inr (.inr (.inl 4)), .inr (.inr (.inr (.inl (1, 0))))] HS (some (.inl 23)) CH_38 := by
  obtain ⟨p, l, e, R, s, m, args, below, meth, c, Q, G, nL, n0, s0, tyf⟩ := a0
  have htf : tyf = xtf := htf
  subst htf
  obtain ⟨r1, r2⟩ := hroom
  have hn : (G.2.1 1).toInt = 38 := hn
  refine ⟨⟨by decide +kernel, by decide +kernel⟩, ⟨_, xmet_go (d := 13) PROG_ok (mid := 3) (nL := 7) (tb := T_3) rfl rfl hcl hG (fun a ha hGa hr hC hF hEnd => ?_), rfl, rfl, show 14 + 1 ≤ R.frames by omega, show 8 + (7 + 11) + 45 * 14 ≤ R.locals by omega⟩⟩
  have hb : xDA 3 T_3 a := ⟨ha, hr, hC, (PROG_ok 3 _ _ rfl).2.2.2 a ha⟩
  have hna : xn1 a = 38 := by
    show ((xG a).2.1 1).toInt = _
    rw [hGa]
    exact hn
  obtain ⟨q1, q2⟩ := xd_end hb Ce_38 (xEn_ok (by show _ ≤ xn1 a; omega) (by show xn1 a ≤ _; omega)) hF hEnd
  exact CG_38 hb (by omega) (by omega) q1 hF q2
theorem CM_39 {a0 : XA} (hcl : xCl a0 = xcl) (htf : xTf a0 = xtf) (hG : xGok (xG a0)) (hroom : xRoom 14 a0) (hn : xn1 a0 = 39) : xLe HS CH_39 ∧ xCon xTs xNW (xMT 3) a0 [.inr (.inr (.inl 4)), .inr (.inr (.inr (.inl (1, 0))))] HS (some (.inl 24)) CH_39 := by
  obtain ⟨p, l, e, R, s, m, args, below, meth, c, Q, G, nL, n0, s0, tyf⟩ := a0
  have htf : tyf = xtf := htf
  subst htf
  obtain ⟨r1, r2⟩ := hroom
  have hn : (G.2.1 1).toInt = 39 := hn
  refine ⟨⟨by decide +kernel, by decide +kernel⟩, ⟨_, xmet_go (d := 13) PROG_ok (mid := 3) (nL := 7) (tb := T_3) rfl rfl hcl hG (fun a ha hGa hr hC hF hEnd => ?_), rfl, rfl, show 14 + 1 ≤ R.frames by omega, show 8 + (7 + 11) + 45 * 14 ≤ R.locals by omega⟩⟩
  have hb : xDA 3 T_3 a := ⟨ha, hr, hC, (PROG_ok 3 _ _ rfl).2.2.2 a ha⟩
  have hna : xn1 a = 39 := by
    show ((xG a).2.1 1).toInt = _
    rw [hGa]
    exact hn
  obtain ⟨q1, q2⟩ := xd_end hb Ce_39 (xEn_ok (by show _ ≤ xn1 a; omega) (by show xn1 a ≤ _; omega)) hF hEnd
  exact CG_39 hb (by omega) (by omega) q1 hF q2
theorem CM_40 {a0 : XA} (hcl : xCl a0 = xcl) (htf : xTf a0 = xtf) (hG : xGok (xG a0)) (hroom : xRoom 14 a0) (hn : xn1 a0 = 40) : xLe HS CH_40 ∧ xCon xTs xNW (xMT 3) a0 [.inr (.inr (.inl 4)), .inr (.inr (.inr (.inl (1, 0))))] HS (some (.inl 25)) CH_40 := by
  obtain ⟨p, l, e, R, s, m, args, below, meth, c, Q, G, nL, n0, s0, tyf⟩ := a0
  have htf : tyf = xtf := htf
  subst htf
  obtain ⟨r1, r2⟩ := hroom
  have hn : (G.2.1 1).toInt = 40 := hn
  refine ⟨⟨by decide +kernel, by decide +kernel⟩, ⟨_, xmet_go (d := 13) PROG_ok (mid := 3) (nL := 7) (tb := T_3) rfl rfl hcl hG (fun a ha hGa hr hC hF hEnd => ?_), rfl, rfl, show 14 + 1 ≤ R.frames by omega, show 8 + (7 + 11) + 45 * 14 ≤ R.locals by omega⟩⟩
  have hb : xDA 3 T_3 a := ⟨ha, hr, hC, (PROG_ok 3 _ _ rfl).2.2.2 a ha⟩
  have hna : xn1 a = 40 := by
    show ((xG a).2.1 1).toInt = _
    rw [hGa]
    exact hn
  obtain ⟨q1, q2⟩ := xd_end hb Ce_40 (xEn_ok (by show _ ≤ xn1 a; omega) (by show xn1 a ≤ _; omega)) hF hEnd
  exact CG_40 hb (by omega) (by omega) q1 hF q2
theorem CM_41 {a0 : XA} (hcl : xCl a0 = xcl) (htf : xTf a0 = xtf) (hG : xGok (xG a0)) (hroom : xRoom 14 a0) (hn : xn1 a0 = 41) : xLe HS CH_41 ∧ xCon xTs xNW (xMT 3) a0 [.inr (.inr (.inl 4)), .inr (.inr (.inr (.inl (1, 0))))] HS (some (.inl 26)) CH_41 := by
  obtain ⟨p, l, e, R, s, m, args, below, meth, c, Q, G, nL, n0, s0, tyf⟩ := a0
  have htf : tyf = xtf := htf
  subst htf
  obtain ⟨r1, r2⟩ := hroom
  have hn : (G.2.1 1).toInt = 41 := hn
  refine ⟨⟨by decide +kernel, by decide +kernel⟩, ⟨_, xmet_go (d := 13) PROG_ok (mid := 3) (nL := 7) (tb := T_3) rfl rfl hcl hG (fun a ha hGa hr hC hF hEnd => ?_), rfl, rfl, show 14 + 1 ≤ R.frames by omega, show 8 + (7 + 11) + 45 * 14 ≤ R.locals by omega⟩⟩
  have hb : xDA 3 T_3 a := ⟨ha, hr, hC, (PROG_ok 3 _ _ rfl).2.2.2 a ha⟩
  have hna : xn1 a = 41 := by
    show ((xG a).2.1 1).toInt = _
    rw [hGa]
    exact hn
  obtain ⟨q1, q2⟩ := xd_end hb Ce_41 (xEn_ok (by show _ ≤ xn1 a; omega) (by show xn1 a ≤ _; omega)) hF hEnd
  exact CG_41 hb (by omega) (by omega) q1 hF q2
theorem CM_42 {a0 : XA} (hcl : xCl a0 = xcl) (htf : xTf a0 = xtf) (hG : xGok (xG a0)) (hroom : xRoom 14 a0) (hn : xn1 a0 = 42) : xLe HS CH_42 ∧ xCon xTs xNW (xMT 3) a0 [.inr (.inr (.inl 4)), .inr (.inr (.inr (.inl (1, 0))))] HS (some (.inl 27)) CH_42 := by
  obtain ⟨p, l, e, R, s, m, args, below, meth, c, Q, G, nL, n0, s0, tyf⟩ := a0
  have htf : tyf = xtf := htf
  subst htf
  obtain ⟨r1, r2⟩ := hroom
  have hn : (G.2.1 1).toInt = 42 := hn
  refine ⟨⟨by decide +kernel, by decide +kernel⟩, ⟨_, xmet_go (d := 13) PROG_ok (mid := 3) (nL := 7) (tb := T_3) rfl rfl hcl hG (fun a ha hGa hr hC hF hEnd => ?_), rfl, rfl, show 14 + 1 ≤ R.frames by omega, show 8 + (7 + 11) + 45 * 14 ≤ R.locals by omega⟩⟩
  have hb : xDA 3 T_3 a := ⟨ha, hr, hC, (PROG_ok 3 _ _ rfl).2.2.2 a ha⟩
  have hna : xn1 a = 42 := by
    show ((xG a).2.1 1).toInt = _
    rw [hGa]
    exact hn
  obtain ⟨q1, q2⟩ := xd_end hb Ce_42 (xEn_ok (by show _ ≤ xn1 a; omega) (by show xn1 a ≤ _; omega)) hF hEnd
  exact CG_42 hb (by omega) (by omega) q1 hF q2
theorem CM_43 {a0 : XA} (hcl : xCl a0 = xcl) (htf : xTf a0 = xtf) (hG : xGok (xG a0)) (hroom : xRoom 14 a0) (hn : xn1 a0 = 43) : xLe HS CH_43 ∧ xCon xTs xNW (xMT 3) a0 [.inr (.inr (.inl 4)), .inr (.inr (.inr (.inl (1, 0))))] HS (some (.inl 27)) CH_43 := by
  obtain ⟨p, l, e, R, s, m, args, below, meth, c, Q, G, nL, n0, s0, tyf⟩ := a0
  have htf : tyf = xtf := htf
  subst htf
  obtain ⟨r1, r2⟩ := hroom
  have hn : (G.2.1 1).toInt = 43 := hn
  refine ⟨⟨by decide +kernel, by decide +kernel⟩, ⟨_, xmet_go (d := 13) PROG_ok (mid := 3) (nL := 7) (tb := T_3) rfl rfl hcl hG (fun a ha hGa hr hC hF hEnd => ?_), rfl, rfl, show 14 + 1 ≤ R.frames by omega, show 8 + (7 + 11) + 45 * 14 ≤ R.locals by omega⟩⟩
  have hb : xDA 3 T_3 a := ⟨ha, hr, hC, (PROG_ok 3 _ _ rfl).2.2.2 a ha⟩
  have hna : xn1 a = 43 := by
    show ((xG a).2.1 1).toInt = _
    rw [hGa]
    exact hn
  obtain ⟨q1, q2⟩ := xd_end hb Ce_43 (xEn_ok (by show _ ≤ xn1 a; omega) (by show xn1 a ≤ _; omega)) hF hEnd
  exact CG_43 hb (by omega) (by omega) q1 hF q2
theorem CM_44 {a0 : XA} (hcl : xCl a0 = xcl) (htf : xTf a0 = xtf) (hG : xGok (xG a0)) (hroom : xRoom 14 a0) (hn : xn1 a0 = 44) : xLe HS CH_44 ∧ xCon xTs xNW (xMT 3) a0 [.inr (.inr (.inl 4)), .inr (.inr (.inr (.inl (1, 0))))] HS (some (.inl 28)) CH_44 := by
  obtain ⟨p, l, e, R, s, m, args, below, meth, c, Q, G, nL, n0, s0, tyf⟩ := a0
  have htf : tyf = xtf := htf
  subst htf
  obtain ⟨r1, r2⟩ := hroom
  have hn : (G.2.1 1).toInt = 44 := hn
  refine ⟨⟨by decide +kernel, by decide +kernel⟩, ⟨_, xmet_go (d := 13) PROG_ok (mid := 3) (nL := 7) (tb := T_3) rfl rfl hcl hG (fun a ha hGa hr hC hF hEnd => ?_), rfl, rfl, show 14 + 1 ≤ R.frames by omega, show 8 + (7 + 11) + 45 * 14 ≤ R.locals by omega⟩⟩
  have hb : xDA 3 T_3 a := ⟨ha, hr, hC, (PROG_ok 3 _ _ rfl).2.2.2 a ha⟩
  have hna : xn1 a = 44 := by
    show ((xG a).2.1 1).toInt = _
    rw [hGa]
    exact hn
  obtain ⟨q1, q2⟩ := xd_end hb Ce_44 (xEn_ok (by show _ ≤ xn1 a; omega) (by show xn1 a ≤ _; omega)) hF hEnd
  exact CG_44 hb (by omega) (by omega) q1 hF q2
theorem CM_45 {a0 : XA} (hcl : xCl a0 = xcl) (htf : xTf a0 = xtf) (hG : xGok (xG a0)) (hroom : xRoom 14 a0) (hn : xn1 a0 = 45) : xLe HS CH_45 ∧ xCon xTs xNW (xMT 3) a0 [.inr (.inr (.inl 4)), .inr (.inr (.inr (.inl (1, 0))))] HS (some (.inl 29)) CH_45 := by
  obtain ⟨p, l, e, R, s, m, args, below, meth, c, Q, G, nL, n0, s0, tyf⟩ := a0
  have htf : tyf = xtf := htf
  subst htf
  obtain ⟨r1, r2⟩ := hroom
  have hn : (G.2.1 1).toInt = 45 := hn
  refine ⟨⟨by decide +kernel, by decide +kernel⟩, ⟨_, xmet_go (d := 13) PROG_ok (mid := 3) (nL := 7) (tb := T_3) rfl rfl hcl hG (fun a ha hGa hr hC hF hEnd => ?_), rfl, rfl, show 14 + 1 ≤ R.frames by omega, show 8 + (7 + 11) + 45 * 14 ≤ R.locals by omega⟩⟩
  have hb : xDA 3 T_3 a := ⟨ha, hr, hC, (PROG_ok 3 _ _ rfl).2.2.2 a ha⟩
  have hna : xn1 a = 45 := by
    show ((xG a).2.1 1).toInt = _
    rw [hGa]
    exact hn
  obtain ⟨q1, q2⟩ := xd_end hb Ce_45 (xEn_ok (by show _ ≤ xn1 a; omega) (by show xn1 a ≤ _; omega)) hF hEnd
  exact CG_45 hb (by omega) (by omega) q1 hF q2
theorem CM_46 {a0 : XA} (hcl : xCl a0 = xcl) (htf : xTf a0 = xtf) (hG : xGok (xG a0)) (hroom : xRoom 14 a0) (hn : xn1 a0 = 46) : xLe HS CH_46 ∧ xCon xTs xNW (xMT 3) a0 [.inr (.inr (.inl 4)), .inr (.inr (.inr (.inl (1, 0))))] HS (some (.inl 30)) CH_46 := by
  obtain ⟨p, l, e, R, s, m, args, below, meth, c, Q, G, nL, n0, s0, tyf⟩ := a0
  have htf : tyf = xtf := htf
  subst htf
  obtain ⟨r1, r2⟩ := hroom
  have hn : (G.2.1 1).toInt = 46 := hn
  refine ⟨⟨by decide +kernel, by decide +kernel⟩, ⟨_, xmet_go (d := 13) PROG_ok (mid := 3) (nL := 7) (tb := T_3) rfl rfl hcl hG (fun a ha hGa hr hC hF hEnd => ?_), rfl, rfl, show 14 + 1 ≤ R.frames by omega, show 8 + (7 + 11) + 45 * 14 ≤ R.locals by omega⟩⟩
  have hb : xDA 3 T_3 a := ⟨ha, hr, hC, (PROG_ok 3 _ _ rfl).2.2.2 a ha⟩
  have hna : xn1 a = 46 := by
    show ((xG a).2.1 1).toInt = _
    rw [hGa]
    exact hn
  obtain ⟨q1, q2⟩ := xd_end hb Ce_46 (xEn_ok (by show _ ≤ xn1 a; omega) (by show xn1 a ≤ _; omega)) hF hEnd
  exact CG_46 hb (by omega) (by omega) q1 hF q2
theorem CM_47 {a0 : XA} (hcl : xCl a0 = xcl) (htf : xTf a0 = xtf) (hG : xGok (xG a0)) (hroom : xRoom 14 a0) (hn : xn1 a0 = 47) : xLe HS CH_47 ∧ xCon xTs xNW (xMT 3) a0 [.inr (.inr (.inl 4)), .inr (.inr (.inr (.inl (1, 0))))] HS (some (.inl 31)) CH_47 := by
  obtain ⟨p, l, e, R, s, m, args, below, meth, c, Q, G, nL, n0, s0, tyf⟩ := a0
  have htf : tyf = xtf := htf
  subst htf
  obtain ⟨r1, r2⟩ := hroom
  have hn : (G.2.1 1).toInt = 47 := hn
  refine ⟨⟨by decide +kernel, by decide +kernel⟩, ⟨_, xmet_go (d := 13) PROG_ok (mid := 3) (nL := 7) (tb := T_3) rfl rfl hcl hG (fun a ha hGa hr hC hF hEnd => ?_), rfl, rfl, show 14 + 1 ≤ R.frames by omega, show 8 + (7 + 11) + 45 * 14 ≤ R.locals by omega⟩⟩
  have hb : xDA 3 T_3 a := ⟨ha, hr, hC, (PROG_ok 3 _ _ rfl).2.2.2 a ha⟩
  have hna : xn1 a = 47 := by
    show ((xG a).2.1 1).toInt = _
    rw [hGa]
    exact hn
  obtain ⟨q1, q2⟩ := xd_end hb Ce_47 (xEn_ok (by show _ ≤ xn1 a; omega) (by show xn1 a ≤ _; omega)) hF hEnd
  exact CG_47 hb (by omega) (by omega) q1 hF q2
theorem CM_48 {a0 : XA} (hcl : xCl a0 = xcl) (htf : xTf a0 = xtf) (hG : xGok (xG a0)) (hroom : xRoom 14 a0) (hn : xn1 a0 = 48) : xLe HS CH_48 ∧ xCon xTs xNW (xMT 3) a0 [.inr (.inr (.inl 4)), .inr (.inr (.inr (.inl (1, 0))))] HS (some (.inl 32)) CH_48 := by
  obtain ⟨p, l, e, R, s, m, args, below, meth, c, Q, G, nL, n0, s0, tyf⟩ := a0
  have htf : tyf = xtf := htf
  subst htf
  obtain ⟨r1, r2⟩ := hroom
  have hn : (G.2.1 1).toInt = 48 := hn
  refine ⟨⟨by decide +kernel, by decide +kernel⟩, ⟨_, xmet_go (d := 13) PROG_ok (mid := 3) (nL := 7) (tb := T_3) rfl rfl hcl hG (fun a ha hGa hr hC hF hEnd => ?_), rfl, rfl, show 14 + 1 ≤ R.frames by omega, show 8 + (7 + 11) + 45 * 14 ≤ R.locals by omega⟩⟩
  have hb : xDA 3 T_3 a := ⟨ha, hr, hC, (PROG_ok 3 _ _ rfl).2.2.2 a ha⟩
  have hna : xn1 a = 48 := by
    show ((xG a).2.1 1).toInt = _
    rw [hGa]
    exact hn
  obtain ⟨q1, q2⟩ := xd_end hb Ce_48 (xEn_ok (by show _ ≤ xn1 a; omega) (by show xn1 a ≤ _; omega)) hF hEnd
  exact CG_48 hb (by omega) (by omega) q1 hF q2
theorem CM_49 {a0 : XA} (hcl : xCl a0 = xcl) (htf : xTf a0 = xtf) (hG : xGok (xG a0)) (hroom : xRoom 14 a0) (hn : xn1 a0 = 49) : xLe HS CH_49 ∧ xCon xTs xNW (xMT 3) a0 [.inr (.inr (.inl 4)), .inr (.inr (.inr (.inl (1, 0))))] HS (some (.inl 32)) CH_49 := by
  obtain ⟨p, l, e, R, s, m, args, below, meth, c, Q, G, nL, n0, s0, tyf⟩ := a0
  have htf : tyf = xtf := htf
  subst htf
  obtain ⟨r1, r2⟩ := hroom
  have hn : (G.2.1 1).toInt = 49 := hn
  refine ⟨⟨by decide +kernel, by decide +kernel⟩, ⟨_, xmet_go (d := 13) PROG_ok (mid := 3) (nL := 7) (tb := T_3) rfl rfl hcl hG (fun a ha hGa hr hC hF hEnd => ?_), rfl, rfl, show 14 + 1 ≤ R.frames by omega, show 8 + (7 + 11) + 45 * 14 ≤ R.locals by omega⟩⟩
  have hb : xDA 3 T_3 a := ⟨ha, hr, hC, (PROG_ok 3 _ _ rfl).2.2.2 a ha⟩
  have hna : xn1 a = 49 := by
    show ((xG a).2.1 1).toInt = _
    rw [hGa]
    exact hn
  obtain ⟨q1, q2⟩ := xd_end hb Ce_49 (xEn_ok (by show _ ≤ xn1 a; omega) (by show xn1 a ≤ _; omega)) hF hEnd
  exact CG_49 hb (by omega) (by omega) q1 hF q2
theorem CM_50 {a0 : XA} (hcl : xCl a0 = xcl) (htf : xTf a0 = xtf) (hG : xGok (xG a0)) (hroom : xRoom 14 a0) (hn : xn1 a0 = 50) : xLe HS CH_50 ∧ xCon xTs xNW (xMT 3) a0 [.inr (.inr (.inl 4)), .inr (.inr (.inr (.inl (1, 0))))] HS (some (.inl 33)) CH_50 := by
  obtain ⟨p, l, e, R, s, m, args, below, meth, c, Q, G, nL, n0, s0, tyf⟩ := a0
  have htf : tyf = xtf := htf
  subst htf
  obtain ⟨r1, r2⟩ := hroom
  have hn : (G.2.1 1).toInt = 50 := hn
  refine ⟨⟨by decide +kernel, by decide +kernel⟩, ⟨_, xmet_go (d := 13) PROG_ok (mid := 3) (nL := 7) (tb := T_3) rfl rfl hcl hG (fun a ha hGa hr hC hF hEnd => ?_), rfl, rfl, show 14 + 1 ≤ R.frames by omega, show 8 + (7 + 11) + 45 * 14 ≤ R.locals by omega⟩⟩
  have hb : xDA 3 T_3 a := ⟨ha, hr, hC, (PROG_ok 3 _ _ rfl).2.2.2 a ha⟩
  have hna : xn1 a = 50 := by
    show ((xG a).2.1 1).toInt = _
    rw [hGa]
    exact hn
  obtain ⟨q1, q2⟩ := xd_end hb Ce_50 (xEn_ok (by show _ ≤ xn1 a; omega) (by show xn1 a ≤ _; omega)) hF hEnd
  exact CG_50 hb (by omega) (by omega) q1 hF q2
theorem CM_51 {a0 : XA} (hcl : xCl a0 = xcl) (htf : xTf a0 = xtf) (hG : xGok (xG a0)) (hroom : xRoom 14 a0) (hn : xn1 a0 = 51) : xLe HS CH_51 ∧ xCon xTs xNW (xMT 3) a0 [.inr (.inr (.inl 4)), .inr (.inr (.inr (.inl (1, 0))))] HS (some (.inl 34)) CH_51 := by
  obtain ⟨p, l, e, R, s, m, args, below, meth, c, Q, G, nL, n0, s0, tyf⟩ := a0
  have htf : tyf = xtf := htf
  subst htf
  obtain ⟨r1, r2⟩ := hroom
  have hn : (G.2.1 1).toInt = 51 := hn
  refine ⟨⟨by decide +kernel, by decide +kernel⟩, ⟨_, xmet_go (d := 13) PROG_ok (mid := 3) (nL := 7) (tb := T_3) rfl rfl hcl hG (fun a ha hGa hr hC hF hEnd => ?_), rfl, rfl, show 14 + 1 ≤ R.frames by omega, show 8 + (7 + 11) + 45 * 14 ≤ R.locals by omega⟩⟩
  have hb : xDA 3 T_3 a := ⟨ha, hr, hC, (PROG_ok 3 _ _ rfl).2.2.2 a ha⟩
  have hna : xn1 a = 51 := by
    show ((xG a).2.1 1).toInt = _
    rw [hGa]
    exact hn
  obtain ⟨q1, q2⟩ := xd_end hb Ce_51 (xEn_ok (by show _ ≤ xn1 a; omega) (by show xn1 a ≤ _; omega)) hF hEnd
  exact CG_51 hb (by omega) (by omega) q1 hF q2
theorem CM_52 {a0 : XA} (hcl : xCl a0 = xcl) (htf : xTf a0 = xtf) (hG : xGok (xG a0)) (hroom : xRoom 14 a0) (hn : xn1 a0 = 52) : xLe HS CH_52 ∧ xCon xTs xNW (xMT 3) a0 [.inr (.inr (.inl 4)), .inr (.inr (.inr (.inl (1, 0))))] HS (some (.inl 35)) CH_52 := by
  obtain ⟨p, l, e, R, s, m, args, below, meth, c, Q, G, nL, n0, s0, tyf⟩ := a0
  have htf : tyf = xtf := htf
  subst htf
  obtain ⟨r1, r2⟩ := hroom
  have hn : (G.2.1 1).toInt = 52 := hn
  refine ⟨⟨by decide +kernel, by decide +kernel⟩, ⟨_, xmet_go (d := 13) PROG_ok (mid := 3) (nL := 7) (tb := T_3) rfl rfl hcl hG (fun a ha hGa hr hC hF hEnd => ?_), rfl, rfl, show 14 + 1 ≤ R.frames by omega, show 8 + (7 + 11) + 45 * 14 ≤ R.locals by omega⟩⟩
  have hb : xDA 3 T_3 a := ⟨ha, hr, hC, (PROG_ok 3 _ _ rfl).2.2.2 a ha⟩
  have hna : xn1 a = 52 := by
    show ((xG a).2.1 1).toInt = _
    rw [hGa]
    exact hn
  obtain ⟨q1, q2⟩ := xd_end hb Ce_52 (xEn_ok (by show _ ≤ xn1 a; omega) (by show xn1 a ≤ _; omega)) hF hEnd
  exact CG_52 hb (by omega) (by omega) q1 hF q2
theorem CM_53 {a0 : XA} (hcl : xCl a0 = xcl) (htf : xTf a0 = xtf) (hG : xGok (xG a0)) (hroom : xRoom 14 a0) (hn : xn1 a0 = 53) : xLe HS CH_53 ∧ xCon xTs xNW (xMT 3) a0 [.inr (.inr (.inl 4)), .inr (.inr (.inr (.inl (1, 0))))] HS (some (.inl 36)) CH_53 := by
  obtain ⟨p, l, e, R, s, m, args, below, meth, c, Q, G, nL, n0, s0, tyf⟩ := a0
  have htf : tyf = xtf := htf
  subst htf
  obtain ⟨r1, r2⟩ := hroom
  have hn : (G.2.1 1).toInt = 53 := hn
  refine ⟨⟨by decide +kernel, by decide +kernel⟩, ⟨_, xmet_go (d := 13) PROG_ok (mid := 3) (nL := 7) (tb := T_3) rfl rfl hcl hG (fun a ha hGa hr hC hF hEnd => ?_), rfl, rfl, show 14 + 1 ≤ R.frames by omega, show 8 + (7 + 11) + 45 * 14 ≤ R.locals by omega⟩⟩
  have hb : xDA 3 T_3 a := ⟨ha, hr, hC, (PROG_ok 3 _ _ rfl).2.2.2 a ha⟩
  have hna : xn1 a = 53 := by
    show ((xG a).2.1 1).toInt = _
    rw [hGa]
    exact hn
  obtain ⟨q1, q2⟩ := xd_end hb Ce_53 (xEn_ok (by show _ ≤ xn1 a; omega) (by show xn1 a ≤ _; omega)) hF hEnd
  exact CG_53 hb (by omega) (by omega) q1 hF q2
theorem CM_54 {a0 : XA} (hcl : xCl a0 = xcl) (htf : xTf a0 = xtf) (hG : xGok (xG a0)) (hroom : xRoom 14 a0) (hn : xn1 a0 = 54) : xLe HS CH_54 ∧ xCon xTs xNW (xMT 3) a0 [.inr (.inr (.inl 4)), .inr (.inr (.inr (.inl (1, 0))))] HS (some (.inl 37)) CH_54 := by
  obtain ⟨p, l, e, R, s, m, args, below, meth, c, Q, G, nL, n0, s0, tyf⟩ := a0
  have htf : tyf = xtf := htf
  subst htf
  obtain ⟨r1, r2⟩ := hroom
  have hn : (G.2.1 1).toInt = 54 := hn
  refine ⟨⟨by decide +kernel, by decide +kernel⟩, ⟨_, xmet_go (d := 13) PROG_ok (mid := 3) (nL := 7) (tb := T_3) rfl rfl hcl hG (fun a ha hGa hr hC hF hEnd => ?_), rfl, rfl, show 14 + 1 ≤ R.frames by omega, show 8 + (7 + 11) + 45 * 14 ≤ R.locals by omega⟩⟩
  have hb : xDA 3 T_3 a := ⟨ha, hr, hC, (PROG_ok 3 _ _ rfl).2.2.2 a ha⟩
  have hna : xn1 a = 54 := by
    show ((xG a).2.1 1).toInt = _
    rw [hGa]
    exact hn
  obtain ⟨q1, q2⟩ := xd_end hb Ce_54 (xEn_ok (by show _ ≤ xn1 a; omega) (by show xn1 a ≤ _; omega)) hF hEnd
  exact CG_54 hb (by omega) (by omega) q1 hF q2
theorem CM_55 {a0 : XA} (hcl : xCl a0 = xcl) (htf : xTf a0 = xtf) (hG : xGok (xG a0)) (hroom : xRoom 14 a0) (hn : xn1 a0 = 55) : xLe HS CH_55 ∧ xCon xTs xNW (xMT 3) a0 [.inr (.inr (.inl 4)), .inr (.inr (.inr (.inl (1, 0))))] HS (some (.inl 38)) CH_55 := by
  obtain ⟨p, l, e, R, s, m, args, below, meth, c, Q, G, nL, n0, s0, tyf⟩ := a0
  have htf : tyf = xtf := htf
  subst htf
  obtain ⟨r1, r2⟩ := hroom
  have hn : (G.2.1 1).toInt = 55 := hn
  refine ⟨⟨by decide +kernel, by decide +kernel⟩, ⟨_, xmet_go (d := 13) PROG_ok (mid := 3) (nL := 7) (tb := T_3) rfl rfl hcl hG (fun a ha hGa hr hC hF hEnd => ?_), rfl, rfl, show 14 + 1 ≤ R.frames by omega, show 8 + (7 + 11) + 45 * 14 ≤ R.locals by omega⟩⟩
  have hb : xDA 3 T_3 a := ⟨ha, hr, hC, (PROG_ok 3 _ _ rfl).2.2.2 a ha⟩
  have hna : xn1 a = 55 := by
    show ((xG a).2.1 1).toInt = _
    rw [hGa]
    exact hn
  obtain ⟨q1, q2⟩ := xd_end hb Ce_55 (xEn_ok (by show _ ≤ xn1 a; omega) (by show xn1 a ≤ _; omega)) hF hEnd
  exact CG_55 hb (by omega) (by omega) q1 hF q2
theorem CM_56 {a0 : XA} (hcl : xCl a0 = xcl) (htf : xTf a0 = xtf) (hG : xGok (xG a0)) (hroom : xRoom 14 a0) (hn : xn1 a0 = 56) : xLe HS CH_56 ∧ xCon xTs xNW (xMT 3) a0 [.inr (.inr (.inl 4)), .inr (.inr (.inr (.inl (1, 0))))] HS (some (.inl 39)) CH_56 := by
  obtain ⟨p, l, e, R, s, m, args, below, meth, c, Q, G, nL, n0, s0, tyf⟩ := a0
  have htf : tyf = xtf := htf
  subst htf
  obtain ⟨r1, r2⟩ := hroom
  have hn : (G.2.1 1).toInt = 56 := hn
  refine ⟨⟨by decide +kernel, by decide +kernel⟩, ⟨_, xmet_go (d := 13) PROG_ok (mid := 3) (nL := 7) (tb := T_3) rfl rfl hcl hG (fun a ha hGa hr hC hF hEnd => ?_), rfl, rfl, show 14 + 1 ≤ R.frames by omega, show 8 + (7 + 11) + 45 * 14 ≤ R.locals by omega⟩⟩
  have hb : xDA 3 T_3 a := ⟨ha, hr, hC, (PROG_ok 3 _ _ rfl).2.2.2 a ha⟩
  have hna : xn1 a = 56 := by
    show ((xG a).2.1 1).toInt = _
    rw [hGa]
    exact hn
  obtain ⟨q1, q2⟩ := xd_end hb Ce_56 (xEn_ok (by show _ ≤ xn1 a; omega) (by show xn1 a ≤ _; omega)) hF hEnd
  exact CG_56 hb (by omega) (by omega) q1 hF q2
theorem CM_57 {a0 : XA} (hcl : xCl a0 = xcl) (htf : xTf a0 = xtf) (hG : xGok (xG a0)) (hroom : xRoom 14 a0) (hn : xn1 a0 = 57) : xLe HS CH_57 ∧ xCon xTs xNW (xMT 3) a0 [.inr (.inr (.inl 4)), .inr (.inr (.inr (.inl (1, 0))))] HS (some (.inl 40)) CH_57 := by
  obtain ⟨p, l, e, R, s, m, args, below, meth, c, Q, G, nL, n0, s0, tyf⟩ := a0
  have htf : tyf = xtf := htf
  subst htf
  obtain ⟨r1, r2⟩ := hroom
  have hn : (G.2.1 1).toInt = 57 := hn
  refine ⟨⟨by decide +kernel, by decide +kernel⟩, ⟨_, xmet_go (d := 13) PROG_ok (mid := 3) (nL := 7) (tb := T_3) rfl rfl hcl hG (fun a ha hGa hr hC hF hEnd => ?_), rfl, rfl, show 14 + 1 ≤ R.frames by omega, show 8 + (7 + 11) + 45 * 14 ≤ R.locals by omega⟩⟩
  have hb : xDA 3 T_3 a := ⟨ha, hr, hC, (PROG_ok 3 _ _ rfl).2.2.2 a ha⟩
  have hna : xn1 a = 57 := by
    show ((xG a).2.1 1).toInt = _
    rw [hGa]
    exact hn
  obtain ⟨q1, q2⟩ := xd_end hb Ce_57 (xEn_ok (by show _ ≤ xn1 a; omega) (by show xn1 a ≤ _; omega)) hF hEnd
  exact CG_57 hb (by omega) (by omega) q1 hF q2
theorem CM_58 {a0 : XA} (hcl : xCl a0 = xcl) (htf : xTf a0 = xtf) (hG : xGok (xG a0)) (hroom : xRoom 14 a0) (hn : xn1 a0 = 58) : xLe HS CH_58 ∧ xCon xTs xNW (xMT 3) a0 [.inr (.inr (.inl 4)), .inr (.inr (.inr (.inl (1, 0))))] HS (some (.inl 41)) CH_58 := by
  obtain ⟨p, l, e, R, s, m, args, below, meth, c, Q, G, nL, n0, s0, tyf⟩ := a0
  have htf : tyf = xtf := htf
  subst htf
  obtain ⟨r1, r2⟩ := hroom
  have hn : (G.2.1 1).toInt = 58 := hn
  refine ⟨⟨by decide +kernel, by decide +kernel⟩, ⟨_, xmet_go (d := 13) PROG_ok (mid := 3) (nL := 7) (tb := T_3) rfl rfl hcl hG (fun a ha hGa hr hC hF hEnd => ?_), rfl, rfl, show 14 + 1 ≤ R.frames by omega, show 8 + (7 + 11) + 45 * 14 ≤ R.locals by omega⟩⟩
  have hb : xDA 3 T_3 a := ⟨ha, hr, hC, (PROG_ok 3 _ _ rfl).2.2.2 a ha⟩
  have hna : xn1 a = 58 := by
    show ((xG a).2.1 1).toInt = _
    rw [hGa]
    exact hn
  obtain ⟨q1, q2⟩ := xd_end hb Ce_58 (xEn_ok (by show _ ≤ xn1 a; omega) (by show xn1 a ≤ _; omega)) hF hEnd
  exact CG_58 hb (by omega) (by omega) q1 hF q2
theorem CM_59 {a0 : XA} (hcl : xCl a0 = xcl) (htf : xTf a0 = xtf) (hG : xGok (xG a0)) (hroom : xRoom 14 a0) (hn : xn1 a0 = 59) : xLe HS CH_59 ∧ xCon xTs xNW (xMT 3) a0 [.inr (.inr (.inl 4)), .inr (.inr (.inr (.inl (1, 0))))] HS (some (.inl 42)) CH_59 := by
  obtain ⟨p, l, e, R, s, m, args, below, meth, c, Q, G, nL, n0, s0, tyf⟩ := a0
  have htf : tyf = xtf := htf
  subst htf
  obtain ⟨r1, r2⟩ := hroom
  have hn : (G.2.1 1).toInt = 59 := hn
  refine ⟨⟨by decide +kernel, by decide +kernel⟩, ⟨_, xmet_go (d := 13) PROG_ok (mid := 3) (nL := 7) (tb := T_3) rfl rfl hcl hG (fun a ha hGa hr hC hF hEnd => ?_), rfl, rfl, show 14 + 1 ≤ R.frames by omega, show 8 + (7 + 11) + 45 * 14 ≤ R.locals by omega⟩⟩
  have hb : xDA 3 T_3 a := ⟨ha, hr, hC, (PROG_ok 3 _ _ rfl).2.2.2 a ha⟩
  have hna : xn1 a = 59 := by
    show ((xG a).2.1 1).toInt = _
    rw [hGa]
    exact hn
  obtain ⟨q1, q2⟩ := xd_end hb Ce_59 (xEn_ok (by show _ ≤ xn1 a; omega) (by show xn1 a ≤ _; omega)) hF hEnd
  exact CG_59 hb (by omega) (by omega) q1 hF q2
theorem CM_60 {a0 : XA} (hcl : xCl a0 = xcl) (htf : xTf a0 = xtf) (hG : xGok (xG a0)) (hroom : xRoom 14 a0) (hn : xn1 a0 = 60) : xLe HS CH_60 ∧ xCon xTs xNW (xMT 3) a0 [.inr (.inr (.inl 4)), .inr (.inr (.inr (.inl (1, 0))))] HS (some (.inl 43)) CH_60 := by
  obtain ⟨p, l, e, R, s, m, args, below, meth, c, Q, G, nL, n0, s0, tyf⟩ := a0
  have htf : tyf = xtf := htf
  subst htf
  obtain ⟨r1, r2⟩ := hroom
  have hn : (G.2.1 1).toInt = 60 := hn
  refine ⟨⟨by decide +kernel, by decide +kernel⟩, ⟨_, xmet_go (d := 13) PROG_ok (mid := 3) (nL := 7) (tb := T_3) rfl rfl hcl hG (fun a ha hGa hr hC hF hEnd => ?_), rfl, rfl, show 14 + 1 ≤ R.frames by omega, show 8 + (7 + 11) + 45 * 14 ≤ R.locals by omega⟩⟩
  have hb : xDA 3 T_3 a := ⟨ha, hr, hC, (PROG_ok 3 _ _ rfl).2.2.2 a ha⟩
  have hna : xn1 a = 60 := by
    show ((xG a).2.1 1).toInt = _
    rw [hGa]
    exact hn
  obtain ⟨q1, q2⟩ := xd_end hb Ce_60 (xEn_ok (by show _ ≤ xn1 a; omega) (by show xn1 a ≤ _; omega)) hF hEnd
  exact CG_60 hb (by omega) (by omega) q1 hF q2
theorem MG_0 {a : XA} (hb : xDA 2 T_2 a) (h1 : 1 ≤ xn1 a) (h2 : xn1 a ≤ 60) {h' : XH} (hl : xLe MC_0.2.2.2 h') (hF : xFits a h') (hg : xGoC a MC_0) : xGo a 0 (xentry [.inr (.inr (.inl 118)), .inr (.inr (.inr (.inl (1, 0))))] 5) [] HM := (xd_one hb Mt_0 (xEn_ok h1 h2) hl hF hg).2
theorem MG_1 {a : XA} (hb : xDA 2 T_2 a) (h1 : 1 ≤ xn1 a) (h2 : xn1 a ≤ 60) {h' : XH} (hl : xLe MC_1.2.2.2 h') (hF : xFits a h') (hg : xGoC a MC_1) : xGo a 0 (xentry [.inr (.inr (.inl 118)), .inr (.inr (.inr (.inl (1, 0))))] 5) [] HM := by
  obtain ⟨q1, q2⟩ := xd_two hb Mt_1 (xEn_ok h1 h2) hl hF hg
  exact MG_0 hb (by omega) h2 q1 hF q2
theorem MG_2 {a : XA} (hb : xDA 2 T_2 a) (h1 : 2 ≤ xn1 a) (h2 : xn1 a ≤ 60) {h' : XH} (hl : xLe MC_2.2.2.2 h') (hF : xFits a h') (hg : xGoC a MC_2) : xGo a 0 (xentry [.inr (.inr (.inl 118)), .inr (.inr (.inr (.inl (1, 0))))] 5) [] HM := by
  obtain ⟨q1, q2⟩ := xd_two hb Mt_2 (xEn_ok h1 h2) hl hF hg
  exact MG_1 hb (by omega) h2 q1 hF q2
theorem MG_3 {a : XA} (hb : xDA 2 T_2 a) (h1 : 3 ≤ xn1 a) (h2 : xn1 a ≤ 60) {h' : XH} (hl : xLe MC_3.2.2.2 h') (hF : xFits a h') (hg : xGoC a MC_3) : xGo a 0 (xentry [.inr (.inr (.inl 118)), .inr (.inr (.inr (.inl (1, 0))))] 5) [] HM := by
  obtain ⟨q1, q2⟩ := xd_two hb Mt_3 (xEn_ok h1 h2) hl hF hg
  exact MG_2 hb (by omega) h2 q1 hF q2
theorem MG_4 {a : XA} (hb : xDA 2 T_2 a) (h1 : 4 ≤ xn1 a) (h2 : xn1 a ≤ 60) {h' : XH} (hl : xLe MC_4.2.2.2 h') (hF : xFits a h') (hg : xGoC a MC_4) : xGo a 0 (xentry [.inr (.inr (.inl 118)), .inr (.inr (.inr (.inl (1, 0))))] 5) [] HM := by
  obtain ⟨q1, q2⟩ := xd_two hb Mt_4 (xEn_ok h1 h2) hl hF hg
  exact MG_3 hb (by omega) h2 q1 hF q2
theorem MG_5 {a : XA} (hb : xDA 2 T_2 a) (h1 : 5 ≤ xn1 a) (h2 : xn1 a ≤ 60) {h' : XH} (hl : xLe MC_5.2.2.2 h') (hF : xFits a h') (hg : xGoC a MC_5) : xGo a 0 (xentry [.inr (.inr (.inl 118)), .inr (.inr (.inr (.inl (1, 0))))] 5) [] HM := by
  obtain ⟨q1, q2⟩ := xd_two hb Mt_5 (xEn_ok h1 h2) hl hF hg
  exact MG_4 hb (by omega) h2 q1 hF q2
theorem MG_6 {a : XA} (hb : xDA 2 T_2 a) (h1 : 6 ≤ xn1 a) (h2 : xn1 a ≤ 60) {h' : XH} (hl : xLe MC_6.2.2.2 h') (hF : xFits a h') (hg : xGoC a MC_6) : xGo a 0 (xentry [.inr (.inr (.inl 118)), .inr (.inr (.inr (.inl (1, 0))))] 5) [] HM := by
  obtain ⟨q1, q2⟩ := xd_two hb Mt_6 (xEn_ok h1 h2) hl hF hg
  exact MG_5 hb (by omega) h2 q1 hF q2
theorem MG_7 {a : XA} (hb : xDA 2 T_2 a) (h1 : 7 ≤ xn1 a) (h2 : xn1 a ≤ 60) {h' : XH} (hl : xLe MC_7.2.2.2 h') (hF : xFits a h') (hg : xGoC a MC_7) : xGo a 0 (xentry [.inr (.inr (.inl 118)), .inr (.inr (.inr (.inl (1, 0))))] 5) [] HM := by
  obtain ⟨q1, q2⟩ := xd_two hb Mt_7 (xEn_ok h1 h2) hl hF hg
  exact MG_6 hb (by omega) h2 q1 hF q2
theorem MG_8 {a : XA} (hb : xDA 2 T_2 a) (h1 : 8 ≤ xn1 a) (h2 : xn1 a ≤ 60) {h' : XH} (hl : xLe MC_8.2.2.2 h') (hF : xFits a h') (hg : xGoC a MC_8) : xGo a 0 (xentry [.inr (.inr (.inl 118)), .inr (.inr (.inr (.inl (1, 0))))] 5) [] HM := by
  obtain ⟨q1, q2⟩ := xd_two hb Mt_8 (xEn_ok h1 h2) hl hF hg
  exact MG_7 hb (by omega) h2 q1 hF q2
theorem MG_9 {a : XA} (hb : xDA 2 T_2 a) (h1 : 9 ≤ xn1 a) (h2 : xn1 a ≤ 60) {h' : XH} (hl : xLe MC_9.2.2.2 h') (hF : xFits a h') (hg : xGoC a MC_9) : xGo a 0 (xentry [.inr (.inr (.inl 118)), .inr (.inr (.inr (.inl (1, 0))))] 5) [] HM := by
  obtain ⟨q1, q2⟩ := xd_two hb Mt_9 (xEn_ok h1 h2) hl hF hg
  exact MG_8 hb (by omega) h2 q1 hF q2
theorem MG_10 {a : XA} (hb : xDA 2 T_2 a) (h1 : 10 ≤ xn1 a) (h2 : xn1 a ≤ 60) {h' : XH} (hl : xLe MC_10.2.2.2 h') (hF : xFits a h') (hg : xGoC a MC_10) : xGo a 0 (xentry [.inr (.inr (.inl 118)), .inr (.inr (.inr (.inl (1, 0))))] 5) [] HM := by
  obtain ⟨q1, q2⟩ := xd_two hb Mt_10 (xEn_ok h1 h2) hl hF hg
  exact MG_9 hb (by omega) h2 q1 hF q2
theorem MG_11 {a : XA} (hb : xDA 2 T_2 a) (h1 : 11 ≤ xn1 a) (h2 : xn1 a ≤ 60) {h' : XH} (hl : xLe MC_11.2.2.2 h') (hF : xFits a h') (hg : xGoC a MC_11) : xGo a 0 (xentry [.inr (.inr (.inl 118)), .inr (.inr (.inr (.inl (1, 0))))] 5) [] HM := by
  obtain ⟨q1, q2⟩ := xd_two hb Mt_11 (xEn_ok h1 h2) hl hF hg
  exact MG_10 hb (by omega) h2 q1 hF q2
theorem MG_12 {a : XA} (hb : xDA 2 T_2 a) (h1 : 12 ≤ xn1 a) (h2 : xn1 a ≤ 60) {h' : XH} (hl : xLe MC_12.2.2.2 h') (hF : xFits a h') (hg : xGoC a MC_12) : xGo a 0 (xentry [.inr (.inr (.inl 118)), .inr (.inr (.inr (.inl (1, 0))))] 5) [] HM := by
  obtain ⟨q1, q2⟩ := xd_two hb Mt_12 (xEn_ok h1 h2) hl hF hg
  exact MG_11 hb (by omega) h2 q1 hF q2
theorem MG_13 {a : XA} (hb : xDA 2 T_2 a) (h1 : 13 ≤ xn1 a) (h2 : xn1 a ≤ 60) {h' : XH} (hl : xLe MC_13.2.2.2 h') (hF : xFits a h') (hg : xGoC a MC_13) : xGo a 0 (xentry [.inr (.inr (.inl 118)), .inr (.inr (.inr (.inl (1, 0))))] 5) [] HM := by
  obtain ⟨q1, q2⟩ := xd_two hb Mt_13 (xEn_ok h1 h2) hl hF hg
  exact MG_12 hb (by omega) h2 q1 hF q2
theorem MG_14 {a : XA} (hb : xDA 2 T_2 a) (h1 : 14 ≤ xn1 a) (h2 : xn1 a ≤ 60) {h' : XH} (hl : xLe MC_14.2.2.2 h') (hF : xFits a h') (hg : xGoC a MC_14) : xGo a 0 (xentry [.inr (.inr (.inl 118)), .inr (.inr (.inr (.inl (1, 0))))] 5) [] HM := by
  obtain ⟨q1, q2⟩ := xd_two hb Mt_14 (xEn_ok h1 h2) hl hF hg
  exact MG_13 hb (by omega) h2 q1 hF q2
theorem MG_15 {a : XA} (hb : xDA 2 T_2 a) (h1 : 15 ≤ xn1 a) (h2 : xn1 a ≤ 60) {h' : XH} (hl : xLe MC_15.2.2.2 h') (hF : xFits a h') (hg : xGoC a MC_15) : xGo a 0 (xentry [.inr (.inr (.inl 118)), .inr (.inr (.inr (.inl (1, 0))))] 5) [] HM := by
  obtain ⟨q1, q2⟩ := xd_two hb Mt_15 (xEn_ok h1 h2) hl hF hg
  exact MG_14 hb (by omega) h2 q1 hF q2
theorem MG_16 {a : XA} (hb : xDA 2 T_2 a) (h1 : 16 ≤ xn1 a) (h2 : xn1 a ≤ 60) {h' : XH} (hl : xLe MC_16.2.2.2 h') (hF : xFits a h') (hg : xGoC a MC_16) : xGo a 0 (xentry [.inr (.inr (.inl 118)), .inr (.inr (.inr (.inl (1, 0))))] 5) [] HM := by
  obtain ⟨q1, q2⟩ := xd_two hb Mt_16 (xEn_ok h1 h2) hl hF hg
  exact MG_15 hb (by omega) h2 q1 hF q2
theorem MG_17 {a : XA} (hb : xDA 2 T_2 a) (h1 : 17 ≤ xn1 a) (h2 : xn1 a ≤ 60) {h' : XH} (hl : xLe MC_17.2.2.2 h') (hF : xFits a h') (hg : xGoC a MC_17) : xGo a 0 (xentry [.inr (.inr (.inl 118)), .inr (.inr (.inr (.inl (1, 0))))] 5) [] HM := by
  obtain ⟨q1, q2⟩ := xd_two hb Mt_17 (xEn_ok h1 h2) hl hF hg
  exact MG_16 hb (by omega) h2 q1 hF q2
theorem MG_18 {a : XA} (hb : xDA 2 T_2 a) (h1 : 18 ≤ xn1 a) (h2 : xn1 a ≤ 60) {h' : XH} (hl : xLe MC_18.2.2.2 h') (hF : xFits a h') (hg : xGoC a MC_18) : xGo a 0 (xentry [.inr (.inr (.inl 118)), .inr (.inr (.inr (.inl (1, 0))))] 5) [] HM := by
  obtain ⟨q1, q2⟩ := xd_two hb Mt_18 (xEn_ok h1 h2) hl hF hg
  exact MG_17 hb (by omega) h2 q1 hF q2
theorem MG_19 {a : XA} (hb : xDA 2 T_2 a) (h1 : 19 ≤ xn1 a) (h2 : xn1 a ≤ 60) {h' : XH} (hl : xLe MC_19.2.2.2 h') (hF : xFits a h') (hg : xGoC a MC_19) : xGo a 0 (xentry [.inr (.inr (.inl 118)), .inr (.inr (.inr (.inl (1, 0))))] 5) [] HM := by
  obtain ⟨q1, q2⟩ := xd_two hb Mt_19 (xEn_ok h1 h2) hl hF hg
  exact MG_18 hb (by omega) h2 q1 hF q2
theorem MG_20 {a : XA} (hb : xDA 2 T_2 a) (h1 : 20 ≤ xn1 a) (h2 : xn1 a ≤ 60) {h' : XH} (hl : xLe MC_20.2.2.2 h') (hF : xFits a h') (hg : xGoC a MC_20) : xGo a 0 (xentry [.inr (.inr (.inl 118)), .inr (.inr (.inr (.inl (1, 0))))] 5) [] HM := by
  obtain ⟨q1, q2⟩ := xd_two hb Mt_20 (xEn_ok h1 h2) hl hF hg
  exact MG_19 hb (by omega) h2 q1 hF q2
theorem MG_21 {a : XA} (hb : xDA 2 T_2 a) (h1 : 21 ≤ xn1 a) (h2 : xn1 a ≤ 60) {h' : XH} (hl : xLe MC_21.2.2.2 h') (hF : xFits a h') (hg : xGoC a MC_21) : xGo a 0 (xentry [.inr (.inr (.inl 118)), .inr (.inr (.inr (.inl (1, 0))))] 5) [] HM := by
  obtain ⟨q1, q2⟩ := xd_two hb Mt_21 (xEn_ok h1 h2) hl hF hg
  exact MG_20 hb (by omega) h2 q1 hF q2
theorem MG_22 {a : XA} (hb : xDA 2 T_2 a) (h1 : 22 ≤ xn1 a) (h2 : xn1 a ≤ 60) {h' : XH} (hl : xLe MC_22.2.2.2 h') (hF : xFits a h') (hg : xGoC a MC_22) : xGo a 0 (xentry [.inr (.inr (.inl 118)), .inr (.inr (.inr (.inl (1, 0))))] 5) [] HM := by
  obtain ⟨q1, q2⟩ := xd_two hb Mt_22 (xEn_ok h1 h2) hl hF hg
  exact MG_21 hb (by omega) h2 q1 hF q2
theorem MG_23 {a : XA} (hb : xDA 2 T_2 a) (h1 : 23 ≤ xn1 a) (h2 : xn1 a ≤ 60) {h' : XH} (hl : xLe MC_23.2.2.2 h') (hF : xFits a h') (hg : xGoC a MC_23) : xGo a 0 (xentry [.inr (.inr (.inl 118)), .inr (.inr (.inr (.inl (1, 0))))] 5) [] HM := by
  obtain ⟨q1, q2⟩ := xd_two hb Mt_23 (xEn_ok h1 h2) hl hF hg
  exact MG_22 hb (by omega) h2 q1 hF q2
theorem MG_24 {a : XA} (hb : xDA 2 T_2 a) (h1 : 24 ≤ xn1 a) (h2 : xn1 a ≤ 60) {h' : XH} (hl : xLe MC_24.2.2.2 h') (hF : xFits a h') (hg : xGoC a MC_24) : xGo a 0 (xentry [.inr (.inr (.inl 118)), .inr (.inr (.inr (.inl (1, 0))))] 5) [] HM := by
  obtain ⟨q1, q2⟩ := xd_two hb Mt_24 (xEn_ok h1 h2) hl hF hg
  exact MG_23 hb (by omega) h2 q1 hF q2
theorem MG_25 {a : XA} (hb : xDA 2 T_2 a) (h1 : 25 ≤ xn1 a) (h2 : xn1 a ≤ 60) {h' : XH} (hl : xLe MC_25.2.2.2 h') (hF : xFits a h') (hg : xGoC a MC_25) : xGo a 0 (xentry [.inr (.inr (.inl 118)), .inr (.inr (.inr (.inl (1, 0))))] 5) [] HM := by
  obtain ⟨q1, q2⟩ := xd_two hb Mt_25 (xEn_ok h1 h2) hl hF hg
  exact MG_24 hb (by omega) h2 q1 hF q2
theorem MG_26 {a : XA} (hb : xDA 2 T_2 a) (h1 : 26 ≤ xn1 a) (h2 : xn1 a ≤ 60) {h' : XH} (hl : xLe MC_26.2.2.2 h') (hF : xFits a h') (hg : xGoC a MC_26) : xGo a 0 (xentry [.inr (.inr (.inl 118)), .inr (.inr (.inr (.inl (1, 0))))] 5) [] HM := by
  obtain ⟨q1, q2⟩ := xd_two hb Mt_26 (xEn_ok h1 h2) hl hF hg
  exact MG_25 hb (by omega) h2 q1 hF q2
theorem MG_27 {a : XA} (hb : xDA 2 T_2 a) (h1 : 27 ≤ xn1 a) (h2 : xn1 a ≤ 60) {h' : XH} (hl : xLe MC_27.2.2.2 h') (hF : xFits a h') (hg : xGoC a MC_27) : xGo a 0 (xentry [.inr (.inr (.inl 118)), .inr (.inr (.inr (.inl (1, 0))))] 5) [] HM := by
  obtain ⟨q1, q2⟩ := xd_two hb Mt_27 (xEn_ok h1 h2) hl hF hg
  exact MG_26 hb (by omega) h2 q1 hF q2
theorem MG_28 {a : XA} (hb : xDA 2 T_2 a) (h1 : 28 ≤ xn1 a) (h2 : xn1 a ≤ 60) {h' : XH} (hl : xLe MC_28.2.2.2 h') (hF : xFits a h') (hg : xGoC a MC_28) : xGo a 0 (xentry [.inr (.inr (.inl 118)), .inr (.inr (.inr (.inl (1, 0))))] 5) [] HM := by
  obtain ⟨q1, q2⟩ := xd_two hb Mt_28 (xEn_ok h1 h2) hl hF hg
  exact MG_27 hb (by omega) h2 q1 hF q2
theorem MG_29 {a : XA} (hb : xDA 2 T_2 a) (h1 : 29 ≤ xn1 a) (h2 : xn1 a ≤ 60) {h' : XH} (hl : xLe MC_29.2.2.2 h') (hF : xFits a h') (hg : xGoC a MC_29) : xGo a 0 (xentry [.inr (.inr (.inl 118)), .inr (.inr (.inr (.inl (1, 0))))] 5) [] HM := by
  obtain ⟨q1, q2⟩ := xd_two hb Mt_29 (xEn_ok h1 h2) hl hF hg
  exact MG_28 hb (by omega) h2 q1 hF q2
theorem MG_30 {a : XA} (hb : xDA 2 T_2 a) (h1 : 30 ≤ xn1 a) (h2 : xn1 a ≤ 60) {h' : XH} (hl : xLe MC_30.2.2.2 h') (hF : xFits a h') (hg : xGoC a MC_30) : xGo a 0 (xentry [.inr (.inr (.inl 118)), .inr (.inr (.inr (.inl (1, 0))))] 5) [] HM := by
  obtain ⟨q1, q2⟩ := xd_two hb Mt_30 (xEn_ok h1 h2) hl hF hg
  exact MG_29 hb (by omega) h2 q1 hF q2
theorem MG_31 {a : XA} (hb : xDA 2 T_2 a) (h1 : 31 ≤ xn1 a) (h2 : xn1 a ≤ 60) {h' : XH} (hl : xLe MC_31.2.2.2 h') (hF : xFits a h') (hg : xGoC a MC_31) : xGo a 0 (xentry [.inr (.inr (.inl 118)), .inr (.inr (.inr (.inl (1, 0))))] 5) [] HM := by
  obtain ⟨q1, q2⟩ := xd_two hb Mt_31 (xEn_ok h1 h2) hl hF hg
  exact MG_30 hb (by omega) h2 q1 hF q2
theorem MG_32 {a : XA} (hb : xDA 2 T_2 a) (h1 : 32 ≤ xn1 a) (h2 : xn1 a ≤ 60) {h' : XH} (hl : xLe MC_32.2.2.2 h') (hF : xFits a h') (hg : xGoC a MC_32) : xGo a 0 (xentry [.inr (.inr (.inl 118)), .inr (.inr (.inr (.inl (1, 0))))] 5) [] HM := by
  obtain ⟨q1, q2⟩ := xd_two hb Mt_32 (xEn_ok h1 h2) hl hF hg
  exact MG_31 hb (by omega) h2 q1 hF q2
theorem MG_33 {a : XA} (hb : xDA 2 T_2 a) (h1 : 33 ≤ xn1 a) (h2 : xn1 a ≤ 60) {h' : XH} (hl : xLe MC_33.2.2.2 h') (hF : xFits a h') (hg : xGoC a MC_33) : xGo a 0 (xentry [.inr (.inr (.inl 118)), .inr (.inr (.inr (.inl (1, 0))))] 5) [] HM := by
  obtain ⟨q1, q2⟩ := xd_two hb Mt_33 (xEn_ok h1 h2) hl hF hg
  exact MG_32 hb (by omega) h2 q1 hF q2
theorem MG_34 {a : XA} (hb : xDA 2 T_2 a) (h1 : 34 ≤ xn1 a) (h2 : xn1 a ≤ 60) {h' : XH} (hl : xLe MC_34.2.2.2 h') (hF : xFits a h') (hg : xGoC a MC_34) : xGo a 0 (xentry [.inr (.inr (.inl 118)), .inr (.inr (.inr (.inl (1, 0))))] 5) [] HM := by
  obtain ⟨q1, q2⟩ := xd_two hb Mt_34 (xEn_ok h1 h2) hl hF hg
  exact MG_33 hb (by omega) h2 q1 hF q2
theorem MG_35 {a : XA} (hb : xDA 2 T_2 a) (h1 : 35 ≤ xn1 a) (h2 : xn1 a ≤ 60) {h' : XH} (hl : xLe MC_35.2.2.2 h') (hF : xFits a h') (hg : xGoC a MC_35) : xGo a 0 (xentry [.inr (.inr (.inl 118)), .inr (.inr (.inr (.inl (1, 0))))] 5) [] HM := by
  obtain ⟨q1, q2⟩ := xd_two hb Mt_35 (xEn_ok h1 h2) hl hF hg
  exact MG_34 hb (by omega) h2 q1 hF q2
theorem MG_36 {a : XA} (hb : xDA 2 T_2 a) (h1 : 36 ≤ xn1 a) (h2 : xn1 a ≤ 60) {h' : XH} (hl : xLe MC_36.2.2.2 h') (hF : xFits a h') (hg : xGoC a MC_36) : xGo a 0 (xentry [.inr (.inr (.inl 118)), .inr (.inr (.inr (.inl (1, 0))))] 5) [] HM := by
  obtain ⟨q1, q2⟩ := xd_two hb Mt_36 (xEn_ok h1 h2) hl hF hg
  exact MG_35 hb (by omega) h2 q1 hF q2
theorem MG_37 {a : XA} (hb : xDA 2 T_2 a) (h1 : 37 ≤ xn1 a) (h2 : xn1 a ≤ 60) {h' : XH} (hl : xLe MC_37.2.2.2 h') (hF : xFits a h') (hg : xGoC a MC_37) : xGo a 0 (xentry [.inr (.inr (.inl 118)), .inr (.inr (.inr (.inl (1, 0))))] 5) [] HM := by
  obtain ⟨q1, q2⟩ := xd_two hb Mt_37 (xEn_ok h1 h2) hl hF hg
  exact MG_36 hb (by omega) h2 q1 hF q2
theorem MG_38 {a : XA} (hb : xDA 2 T_2 a) (h1 : 38 ≤ xn1 a) (h2 : xn1 a ≤ 60) {h' : XH} (hl : xLe MC_38.2.2.2 h') (hF : xFits a h') (hg : xGoC a MC_38) : xGo a 0 (xentry [.inr (.inr (.inl 118)), .inr (.inr (.inr (.inl (1, 0))))] 5) [] HM := by
  obtain ⟨q1, q2⟩ := xd_two hb Mt_38 (xEn_ok h1 h2) hl hF hg
  exact MG_37 hb (by omega) h2 q1 hF q2
theorem MG_39 {a : XA} (hb : xDA 2 T_2 a) (h1 : 39 ≤ xn1 a) (h2 : xn1 a ≤ 60) {h' : XH} (hl : xLe MC_39.2.2.2 h') (hF : xFits a h') (hg : xGoC a MC_39) : xGo a 0 (xentry [.inr (.inr (.inl 118)), .inr (.inr (.inr (.inl (1, 0))))] 5) [] HM := by
  obtain ⟨q1, q2⟩ := xd_two hb Mt_39 (xEn_ok h1 h2) hl hF hg
  exact MG_38 hb (by omega) h2 q1 hF q2
theorem MG_40 {a : XA} (hb : xDA 2 T_2 a) (h1 : 40 ≤ xn1 a) (h2 : xn1 a ≤ 60) {h' : XH} (hl : xLe MC_40.2.2.2 h') (hF : xFits a h') (hg : xGoC a MC_40) : xGo a 0 (xentry [.inr (.inr (.inl 118)), .inr (.inr (.inr (.inl (1, 0))))] 5) [] HM := by
  obtain ⟨q1, q2⟩ := xd_two hb Mt_40 (xEn_ok h1 h2) hl hF hg
  exact MG_39 hb (by omega) h2 q1 hF q2
theorem MG_41 {a : XA} (hb : xDA 2 T_2 a) (h1 : 41 ≤ xn1 a) (h2 : xn1 a ≤ 60) {h' : XH} (hl : xLe MC_41.2.2.2 h') (hF : xFits a h') (hg : xGoC a MC_41) : xGo a 0 (xentry [.inr (.inr (.inl 118)), .inr (.inr (.inr (.inl (1, 0))))] 5) [] HM := by
  obtain ⟨q1, q2⟩ := xd_two hb Mt_41 (xEn_ok h1 h2) hl hF hg
  exact MG_40 hb (by omega) h2 q1 hF q2
theorem MG_42 {a : XA} (hb : xDA 2 T_2 a) (h1 : 42 ≤ xn1 a) (h2 : xn1 a ≤ 60) {h' : XH} (hl : xLe MC_42.2.2.2 h') (hF : xFits a h') (hg : xGoC a MC_42) : xGo a 0 (xentry [.inr (.inr (.inl 118)), .inr (.inr (.inr (.inl (1, 0))))] 5) [] HM := by
  obtain ⟨q1, q2⟩ := xd_two hb Mt_42 (xEn_ok h1 h2) hl hF hg
  exact MG_41 hb (by omega) h2 q1 hF q2
theorem MG_43 {a : XA} (hb : xDA 2 T_2 a) (h1 : 43 ≤ xn1 a) (h2 : xn1 a ≤ 60) {h' : XH} (hl : xLe MC_43.2.2.2 h') (hF : xFits a h') (hg : xGoC a MC_43) : xGo a 0 (xentry [.inr (.inr (.inl 118)), .inr (.inr (.inr (.inl (1, 0))))] 5) [] HM := by
  obtain ⟨q1, q2⟩ := xd_two hb Mt_43 (xEn_ok h1 h2) hl hF hg
  exact MG_42 hb (by omega) h2 q1 hF q2
theorem MG_44 {a : XA} (hb : xDA 2 T_2 a) (h1 : 44 ≤ xn1 a) (h2 : xn1 a ≤ 60) {h' : XH} (hl : xLe MC_44.2.2.2 h') (hF : xFits a h') (hg : xGoC a MC_44) : xGo a 0 (xentry [.inr (.inr (.inl 118)), .inr (.inr (.inr (.inl (1, 0))))] 5) [] HM := by
  obtain ⟨q1, q2⟩ := xd_two hb Mt_44 (xEn_ok h1 h2) hl hF hg
  exact MG_43 hb (by omega) h2 q1 hF q2
theorem MG_45 {a : XA} (hb : xDA 2 T_2 a) (h1 : 45 ≤ xn1 a) (h2 : xn1 a ≤ 60) {h' : XH} (hl : xLe MC_45.2.2.2 h') (hF : xFits a h') (hg : xGoC a MC_45) : xGo a 0 (xentry [.inr (.inr (.inl 118)), .inr (.inr (.inr (.inl (1, 0))))] 5) [] HM := by
  obtain ⟨q1, q2⟩ := xd_two hb Mt_45 (xEn_ok h1 h2) hl hF hg
  exact MG_44 hb (by omega) h2 q1 hF q2
theorem MG_46 {a : XA} (hb : xDA 2 T_2 a) (h1 : 46 ≤ xn1 a) (h2 : xn1 a ≤ 60) {h' : XH} (hl : xLe MC_46.2.2.2 h') (hF : xFits a h') (hg : xGoC a MC_46) : xGo a 0 (xentry [.inr (.inr (.inl 118)), .inr (.inr (.inr (.inl (1, 0))))] 5) [] HM := by
  obtain ⟨q1, q2⟩ := xd_two hb Mt_46 (xEn_ok h1 h2) hl hF hg
  exact MG_45 hb (by omega) h2 q1 hF q2
theorem MG_47 {a : XA} (hb : xDA 2 T_2 a) (h1 : 47 ≤ xn1 a) (h2 : xn1 a ≤ 60) {h' : XH} (hl : xLe MC_47.2.2.2 h') (hF : xFits a h') (hg : xGoC a MC_47) : xGo a 0 (xentry [.inr (.inr (.inl 118)), .inr (.inr (.inr (.inl (1, 0))))] 5) [] HM := by
  obtain ⟨q1, q2⟩ := xd_two hb Mt_47 (xEn_ok h1 h2) hl hF hg
  exact MG_46 hb (by omega) h2 q1 hF q2
theorem MG_48 {a : XA} (hb : xDA 2 T_2 a) (h1 : 48 ≤ xn1 a) (h2 : xn1 a ≤ 60) {h' : XH} (hl : xLe MC_48.2.2.2 h') (hF : xFits a h') (hg : xGoC a MC_48) : xGo a 0 (xentry [.inr (.inr (.inl 118)), .inr (.inr (.inr (.inl (1, 0))))] 5) [] HM := by
  obtain ⟨q1, q2⟩ := xd_two hb Mt_48 (xEn_ok h1 h2) hl hF hg
  exact MG_47 hb (by omega) h2 q1 hF q2
theorem MG_49 {a : XA} (hb : xDA 2 T_2 a) (h1 : 49 ≤ xn1 a) (h2 : xn1 a ≤ 60) {h' : XH} (hl : xLe MC_49.2.2.2 h') (hF : xFits a h') (hg : xGoC a MC_49) : xGo a 0 (xentry [.inr (.inr (.inl 118)), .inr (.inr (.inr (.inl (1, 0))))] 5) [] HM := by
  obtain ⟨q1, q2⟩ := xd_two hb Mt_49 (xEn_ok h1 h2) hl hF hg
  exact MG_48 hb (by omega) h2 q1 hF q2
theorem MG_50 {a : XA} (hb : xDA 2 T_2 a) (h1 : 50 ≤ xn1 a) (h2 : xn1 a ≤ 60) {h' : XH} (hl : xLe MC_50.2.2.2 h') (hF : xFits a h') (hg : xGoC a MC_50) : xGo a 0 (xentry [.inr (.inr (.inl 118)), .inr (.inr (.inr (.inl (1, 0))))] 5) [] HM := by
  obtain ⟨q1, q2⟩ := xd_two hb Mt_50 (xEn_ok h1 h2) hl hF hg
  exact MG_49 hb (by omega) h2 q1 hF q2
theorem MG_51 {a : XA} (hb : xDA 2 T_2 a) (h1 : 51 ≤ xn1 a) (h2 : xn1 a ≤ 60) {h' : XH} (hl : xLe MC_51.2.2.2 h') (hF : xFits a h') (hg : xGoC a MC_51) : xGo a 0 (xentry [.inr (.inr (.inl 118)), .inr (.inr (.inr (.inl (1, 0))))] 5) [] HM := by
  obtain ⟨q1, q2⟩ := xd_two hb Mt_51 (xEn_ok h1 h2) hl hF hg
  exact MG_50 hb (by omega) h2 q1 hF q2
theorem MG_52 {a : XA} (hb : xDA 2 T_2 a) (h1 : 52 ≤ xn1 a) (h2 : xn1 a ≤ 60) {h' : XH} (hl : xLe MC_52.2.2.2 h') (hF : xFits a h') (hg : xGoC a MC_52) : xGo a 0 (xentry [.inr (.inr (.inl 118)), .inr (.inr (.inr (.inl (1, 0))))] 5) [] HM := by
  obtain ⟨q1, q2⟩ := xd_two hb Mt_52 (xEn_ok h1 h2) hl hF hg
  exact MG_51 hb (by omega) h2 q1 hF q2
theorem MG_53 {a : XA} (hb : xDA 2 T_2 a) (h1 : 53 ≤ xn1 a) (h2 : xn1 a ≤ 60) {h' : XH} (hl : xLe MC_53.2.2.2 h') (hF : xFits a h') (hg : xGoC a MC_53) : xGo a 0 (xentry [.inr (.inr (.inl 118)), .inr (.inr (.inr (.inl (1, 0))))] 5) [] HM := by
  obtain ⟨q1, q2⟩ := xd_two hb Mt_53 (xEn_ok h1 h2) hl hF hg
  exact MG_52 hb (by omega) h2 q1 hF q2
theorem MG_54 {a : XA} (hb : xDA 2 T_2 a) (h1 : 54 ≤ xn1 a) (h2 : xn1 a ≤ 60) {h' : XH} (hl : xLe MC_54.2.2.2 h') (hF : xFits a h') (hg : xGoC a MC_54) : xGo a 0 (xentry [.inr (.inr (.inl 118)), .inr (.inr (.inr (.inl (1, 0))))] 5) [] HM := by
  obtain ⟨q1, q2⟩ := xd_two hb Mt_54 (xEn_ok h1 h2) hl hF hg
  exact MG_53 hb (by omega) h2 q1 hF q2
theorem MG_55 {a : XA} (hb : xDA 2 T_2 a) (h1 : 55 ≤ xn1 a) (h2 : xn1 a ≤ 60) {h' : XH} (hl : xLe MC_55.2.2.2 h') (hF : xFits a h') (hg : xGoC a MC_55) : xGo a 0 (xentry [.inr (.inr (.inl 118)), .inr (.inr (.inr (.inl (1, 0))))] 5) [] HM := by
  obtain ⟨q1, q2⟩ := xd_two hb Mt_55 (xEn_ok h1 h2) hl hF hg
  exact MG_54 hb (by omega) h2 q1 hF q2
theorem MG_56 {a : XA} (hb : xDA 2 T_2 a) (h1 : 56 ≤ xn1 a) (h2 : xn1 a ≤ 60) {h' : XH} (hl : xLe MC_56.2.2.2 h') (hF : xFits a h') (hg : xGoC a MC_56) : xGo a 0 (xentry [.inr (.inr (.inl 118)), .inr (.inr (.inr (.inl (1, 0))))] 5) [] HM := by
  obtain ⟨q1, q2⟩ := xd_two hb Mt_56 (xEn_ok h1 h2) hl hF hg
  exact MG_55 hb (by omega) h2 q1 hF q2
theorem MG_57 {a : XA} (hb : xDA 2 T_2 a) (h1 : 57 ≤ xn1 a) (h2 : xn1 a ≤ 60) {h' : XH} (hl : xLe MC_57.2.2.2 h') (hF : xFits a h') (hg : xGoC a MC_57) : xGo a 0 (xentry [.inr (.inr (.inl 118)), .inr (.inr (.inr (.inl (1, 0))))] 5) [] HM := by
  obtain ⟨q1, q2⟩ := xd_two hb Mt_57 (xEn_ok h1 h2) hl hF hg
  exact MG_56 hb (by omega) h2 q1 hF q2
theorem MG_58 {a : XA} (hb : xDA 2 T_2 a) (h1 : 58 ≤ xn1 a) (h2 : xn1 a ≤ 60) {h' : XH} (hl : xLe MC_58.2.2.2 h') (hF : xFits a h') (hg : xGoC a MC_58) : xGo a 0 (xentry [.inr (.inr (.inl 118)), .inr (.inr (.inr (.inl (1, 0))))] 5) [] HM := by
  obtain ⟨q1, q2⟩ := xd_two hb Mt_58 (xEn_ok h1 h2) hl hF hg
  exact MG_57 hb (by omega) h2 q1 hF q2
theorem MG_59 {a : XA} (hb : xDA 2 T_2 a) (h1 : 59 ≤ xn1 a) (h2 : xn1 a ≤ 60) {h' : XH} (hl : xLe MC_59.2.2.2 h') (hF : xFits a h') (hg : xGoC a MC_59) : xGo a 0 (xentry [.inr (.inr (.inl 118)), .inr (.inr (.inr (.inl (1, 0))))] 5) [] HM := by
  obtain ⟨q1, q2⟩ := xd_two hb Mt_59 (xEn_ok h1 h2) hl hF hg
  exact MG_58 hb (by omega) h2 q1 hF q2
theorem MG_60 {a : XA} (hb : xDA 2 T_2 a) (h1 : 60 ≤ xn1 a) (h2 : xn1 a ≤ 60) {h' : XH} (hl : xLe MC_60.2.2.2 h') (hF : xFits a h') (hg : xGoC a MC_60) : xGo a 0 (xentry [.inr (.inr (.inl 118)), .inr (.inr (.inr (.inl (1, 0))))] 5) [] HM := by
  obtain ⟨q1, q2⟩ := xd_two hb Mt_60 (xEn_ok h1 h2) hl hF hg
  exact MG_59 hb (by omega) h2 q1 hF q2
theorem MM_1 {a0 : XA} (hcl : xCl a0 = xcl) (htf : xTf a0 = xtf) (hG : xGok (xG a0)) (hroom : xRoom 14 a0) (hn : xn1 a0 = 1) : xLe HM MH_1 ∧ xCon xTs xNW (xMT 2) a0 [.inr (.inr (.inl 118)), .inr (.inr (.inr (.inl (1, 0))))] HM (some (.inl 0)) MH_1 := by
  obtain ⟨p, l, e, R, s, m, args, below, meth, c, Q, G, nL, n0, s0, tyf⟩ := a0
  have htf : tyf = xtf := htf
  subst htf
  obtain ⟨r1, r2⟩ := hroom
  have hn : (G.2.1 1).toInt = 1 := hn
  refine ⟨⟨by decide +kernel, by decide +kernel⟩, ⟨_, xmet_go (d := 13) PROG_ok (mid := 2) (nL := 5) (tb := T_2) rfl rfl hcl hG (fun a ha hGa hr hC hF hEnd => ?_), rfl, rfl, show 14 + 1 ≤ R.frames by omega, show 8 + (5 + 11) + 45 * 14 ≤ R.locals by omega⟩⟩
  have hb : xDA 2 T_2 a := ⟨ha, hr, hC, (PROG_ok 2 _ _ rfl).2.2.2 a ha⟩
  have hna : xn1 a = 1 := by
    show ((xG a).2.1 1).toInt = _
    rw [hGa]
    exact hn
  obtain ⟨q1, q2⟩ := xd_end hb Me_1 (xEn_ok (by show _ ≤ xn1 a; omega) (by show xn1 a ≤ _; omega)) hF hEnd
  exact MG_1 hb (by omega) (by omega) q1 hF q2
theorem MM_2 {a0 : XA} (hcl : xCl a0 = xcl) (htf : xTf a0 = xtf) (hG : xGok (xG a0)) (hroom : xRoom 14 a0) (hn : xn1 a0 = 2) : xLe HM MH_2 ∧ xCon xTs xNW (xMT 2) a0 [.inr (.inr (.inl 118)), .inr (.inr (.inr (.inl (1, 0))))] HM (some (.inl 0)) MH_2 := by
  obtain ⟨p, l, e, R, s, m, args, below, meth, c, Q, G, nL, n0, s0, tyf⟩ := a0
  have htf : tyf = xtf := htf
  subst htf
  obtain ⟨r1, r2⟩ := hroom
  have hn : (G.2.1 1).toInt = 2 := hn
  refine ⟨⟨by decide +kernel, by decide +kernel⟩, ⟨_, xmet_go (d := 13) PROG_ok (mid := 2) (nL := 5) (tb := T_2) rfl rfl hcl hG (fun a ha hGa hr hC hF hEnd => ?_), rfl, rfl, show 14 + 1 ≤ R.frames by omega, show 8 + (5 + 11) + 45 * 14 ≤ R.locals by omega⟩⟩
  have hb : xDA 2 T_2 a := ⟨ha, hr, hC, (PROG_ok 2 _ _ rfl).2.2.2 a ha⟩
  have hna : xn1 a = 2 := by
    show ((xG a).2.1 1).toInt = _
    rw [hGa]
    exact hn
  obtain ⟨q1, q2⟩ := xd_end hb Me_2 (xEn_ok (by show _ ≤ xn1 a; omega) (by show xn1 a ≤ _; omega)) hF hEnd
  exact MG_2 hb (by omega) (by omega) q1 hF q2
theorem MM_3 {a0 : XA} (hcl : xCl a0 = xcl) (htf : xTf a0 = xtf) (hG : xGok (xG a0)) (hroom : xRoom 14 a0) (hn : xn1 a0 = 3) : xLe HM MH_3 ∧ xCon xTs xNW (xMT 2) a0 [.inr (.inr (.inl 118)), .inr (.inr (.inr (.inl (1, 0))))] HM (some (.inl 0)) MH_3 := by
  obtain ⟨p, l, e, R, s, m, args, below, meth, c, Q, G, nL, n0, s0, tyf⟩ := a0
  have htf : tyf = xtf := htf
  subst htf
  obtain ⟨r1, r2⟩ := hroom
  have hn : (G.2.1 1).toInt = 3 := hn
  refine ⟨⟨by decide +kernel, by decide +kernel⟩, ⟨_, xmet_go (d := 13) PROG_ok (mid := 2) (nL := 5) (tb := T_2) rfl rfl hcl hG (fun a ha hGa hr hC hF hEnd => ?_), rfl, rfl, show 14 + 1 ≤ R.frames by omega, show 8 + (5 + 11) + 45 * 14 ≤ R.locals by omega⟩⟩
  have hb : xDA 2 T_2 a := ⟨ha, hr, hC, (PROG_ok 2 _ _ rfl).2.2.2 a ha⟩
  have hna : xn1 a = 3 := by
    show ((xG a).2.1 1).toInt = _
    rw [hGa]
    exact hn
  obtain ⟨q1, q2⟩ := xd_end hb Me_3 (xEn_ok (by show _ ≤ xn1 a; omega) (by show xn1 a ≤ _; omega)) hF hEnd
  exact MG_3 hb (by omega) (by omega) q1 hF q2
theorem MM_4 {a0 : XA} (hcl : xCl a0 = xcl) (htf : xTf a0 = xtf) (hG : xGok (xG a0)) (hroom : xRoom 14 a0) (hn : xn1 a0 = 4) : xLe HM MH_4 ∧ xCon xTs xNW (xMT 2) a0 [.inr (.inr (.inl 118)), .inr (.inr (.inr (.inl (1, 0))))] HM (some (.inl 0)) MH_4 := by
  obtain ⟨p, l, e, R, s, m, args, below, meth, c, Q, G, nL, n0, s0, tyf⟩ := a0
  have htf : tyf = xtf := htf
  subst htf
  obtain ⟨r1, r2⟩ := hroom
  have hn : (G.2.1 1).toInt = 4 := hn
  refine ⟨⟨by decide +kernel, by decide +kernel⟩, ⟨_, xmet_go (d := 13) PROG_ok (mid := 2) (nL := 5) (tb := T_2) rfl rfl hcl hG (fun a ha hGa hr hC hF hEnd => ?_), rfl, rfl, show 14 + 1 ≤ R.frames by omega, show 8 + (5 + 11) + 45 * 14 ≤ R.locals by omega⟩⟩
  have hb : xDA 2 T_2 a := ⟨ha, hr, hC, (PROG_ok 2 _ _ rfl).2.2.2 a ha⟩
  have hna : xn1 a = 4 := by
    show ((xG a).2.1 1).toInt = _
    rw [hGa]
    exact hn
  obtain ⟨q1, q2⟩ := xd_end hb Me_4 (xEn_ok (by show _ ≤ xn1 a; omega) (by show xn1 a ≤ _; omega)) hF hEnd
  exact MG_4 hb (by omega) (by omega) q1 hF q2
theorem MM_5 {a0 : XA} (hcl : xCl a0 = xcl) (htf : xTf a0 = xtf) (hG : xGok (xG a0)) (hroom : xRoom 14 a0) (hn : xn1 a0 = 5) : xLe HM MH_5 ∧ xCon xTs xNW (xMT 2) a0 [.inr (.inr (.inl 118)), .inr (.inr (.inr (.inl (1, 0))))] HM (some (.inl 0)) MH_5 := by
  obtain ⟨p, l, e, R, s, m, args, below, meth, c, Q, G, nL, n0, s0, tyf⟩ := a0
  have htf : tyf = xtf := htf
  subst htf
  obtain ⟨r1, r2⟩ := hroom
  have hn : (G.2.1 1).toInt = 5 := hn
  refine ⟨⟨by decide +kernel, by decide +kernel⟩, ⟨_, xmet_go (d := 13) PROG_ok (mid := 2) (nL := 5) (tb := T_2) rfl rfl hcl hG (fun a ha hGa hr hC hF hEnd => ?_), rfl, rfl, show 14 + 1 ≤ R.frames by omega, show 8 + (5 + 11) + 45 * 14 ≤ R.locals by omega⟩⟩
  have hb : xDA 2 T_2 a := ⟨ha, hr, hC, (PROG_ok 2 _ _ rfl).2.2.2 a ha⟩
  have hna : xn1 a = 5 := by
    show ((xG a).2.1 1).toInt = _
    rw [hGa]
    exact hn
  obtain ⟨q1, q2⟩ := xd_end hb Me_5 (xEn_ok (by show _ ≤ xn1 a; omega) (by show xn1 a ≤ _; omega)) hF hEnd
  exact MG_5 hb (by omega) (by omega) q1 hF q2
theorem MM_6 {a0 : XA} (hcl : xCl a0 = xcl) (htf : xTf a0 = xtf) (hG : xGok (xG a0)) (hroom : xRoom 14 a0) (hn : xn1 a0 = 6) : xLe HM MH_6 ∧ xCon xTs xNW (xMT 2) a0 [.inr (.inr (.inl 118)), .inr (.inr (.inr (.inl (1, 0))))] HM (some (.inl 0)) MH_6 := by
  obtain ⟨p, l, e, R, s, m, args, below, meth, c, Q, G, nL, n0, s0, tyf⟩ := a0
  have htf : tyf = xtf := htf
  subst htf
  obtain ⟨r1, r2⟩ := hroom
  have hn : (G.2.1 1).toInt = 6 := hn
  refine ⟨⟨by decide +kernel, by decide +kernel⟩, ⟨_, xmet_go (d := 13) PROG_ok (mid := 2) (nL := 5) (tb := T_2) rfl rfl hcl hG (fun a ha hGa hr hC hF hEnd => ?_), rfl, rfl, show 14 + 1 ≤ R.frames by omega, show 8 + (5 + 11) + 45 * 14 ≤ R.locals by omega⟩⟩
  have hb : xDA 2 T_2 a := ⟨ha, hr, hC, (PROG_ok 2 _ _ rfl).2.2.2 a ha⟩
  have hna : xn1 a = 6 := by
    show ((xG a).2.1 1).toInt = _
    rw [hGa]
    exact hn
  obtain ⟨q1, q2⟩ := xd_end hb Me_6 (xEn_ok (by show _ ≤ xn1 a; omega) (by show xn1 a ≤ _; omega)) hF hEnd
  exact MG_6 hb (by omega) (by omega) q1 hF q2
theorem MM_7 {a0 : XA} (hcl : xCl a0 = xcl) (htf : xTf a0 = xtf) (hG : xGok (xG a0)) (hroom : xRoom 14 a0) (hn : xn1 a0 = 7) : xLe HM MH_7 ∧ xCon xTs xNW (xMT 2) a0 [.inr (.inr (.inl 118)), .inr (.inr (.inr (.inl (1, 0))))] HM (some (.inl 0)) MH_7 := by
  obtain ⟨p, l, e, R, s, m, args, below, meth, c, Q, G, nL, n0, s0, tyf⟩ := a0
  have htf : tyf = xtf := htf
  subst htf
  obtain ⟨r1, r2⟩ := hroom
  have hn : (G.2.1 1).toInt = 7 := hn
  refine ⟨⟨by decide +kernel, by decide +kernel⟩, ⟨_, xmet_go (d := 13) PROG_ok (mid := 2) (nL := 5) (tb := T_2) rfl rfl hcl hG (fun a ha hGa hr hC hF hEnd => ?_), rfl, rfl, show 14 + 1 ≤ R.frames by omega, show 8 + (5 + 11) + 45 * 14 ≤ R.locals by omega⟩⟩
  have hb : xDA 2 T_2 a := ⟨ha, hr, hC, (PROG_ok 2 _ _ rfl).2.2.2 a ha⟩
  have hna : xn1 a = 7 := by
    show ((xG a).2.1 1).toInt = _
    rw [hGa]
    exact hn
  obtain ⟨q1, q2⟩ := xd_end hb Me_7 (xEn_ok (by show _ ≤ xn1 a; omega) (by show xn1 a ≤ _; omega)) hF hEnd
  exact MG_7 hb (by omega) (by omega) q1 hF q2
theorem MM_8 {a0 : XA} (hcl : xCl a0 = xcl) (htf : xTf a0 = xtf) (hG : xGok (xG a0)) (hroom : xRoom 14 a0) (hn : xn1 a0 = 8) : xLe HM MH_8 ∧ xCon xTs xNW (xMT 2) a0 [.inr (.inr (.inl 118)), .inr (.inr (.inr (.inl (1, 0))))] HM (some (.inl 0)) MH_8 := by
  obtain ⟨p, l, e, R, s, m, args, below, meth, c, Q, G, nL, n0, s0, tyf⟩ := a0
  have htf : tyf = xtf := htf
  subst htf
  obtain ⟨r1, r2⟩ := hroom
  have hn : (G.2.1 1).toInt = 8 := hn
  refine ⟨⟨by decide +kernel, by decide +kernel⟩, ⟨_, xmet_go (d := 13) PROG_ok (mid := 2) (nL := 5) (tb := T_2) rfl rfl hcl hG (fun a ha hGa hr hC hF hEnd => ?_), rfl, rfl, show 14 + 1 ≤ R.frames by omega, show 8 + (5 + 11) + 45 * 14 ≤ R.locals by omega⟩⟩
  have hb : xDA 2 T_2 a := ⟨ha, hr, hC, (PROG_ok 2 _ _ rfl).2.2.2 a ha⟩
  have hna : xn1 a = 8 := by
    show ((xG a).2.1 1).toInt = _
    rw [hGa]
    exact hn
  obtain ⟨q1, q2⟩ := xd_end hb Me_8 (xEn_ok (by show _ ≤ xn1 a; omega) (by show xn1 a ≤ _; omega)) hF hEnd
  exact MG_8 hb (by omega) (by omega) q1 hF q2
theorem MM_9 {a0 : XA} (hcl : xCl a0 = xcl) (htf : xTf a0 = xtf) (hG : xGok (xG a0)) (hroom : xRoom 14 a0) (hn : xn1 a0 = 9) : xLe HM MH_9 ∧ xCon xTs xNW (xMT 2) a0 [.inr (.inr (.inl 118)), .inr (.inr (.inr (.inl (1, 0))))] HM (some (.inl 0)) MH_9 := by
  obtain ⟨p, l, e, R, s, m, args, below, meth, c, Q, G, nL, n0, s0, tyf⟩ := a0
  have htf : tyf = xtf := htf
  subst htf
  obtain ⟨r1, r2⟩ := hroom
  have hn : (G.2.1 1).toInt = 9 := hn
  refine ⟨⟨by decide +kernel, by decide +kernel⟩, ⟨_, xmet_go (d := 13) PROG_ok (mid := 2) (nL := 5) (tb := T_2) rfl rfl hcl hG (fun a ha hGa hr hC hF hEnd => ?_), rfl, rfl, show 14 + 1 ≤ R.frames by omega, show 8 + (5 + 11) + 45 * 14 ≤ R.locals by omega⟩⟩
  have hb : xDA 2 T_2 a := ⟨ha, hr, hC, (PROG_ok 2 _ _ rfl).2.2.2 a ha⟩
  have hna : xn1 a = 9 := by
    show ((xG a).2.1 1).toInt = _
    rw [hGa]
    exact hn
  obtain ⟨q1, q2⟩ := xd_end hb Me_9 (xEn_ok (by show _ ≤ xn1 a; omega) (by show xn1 a ≤ _; omega)) hF hEnd
  exact MG_9 hb (by omega) (by omega) q1 hF q2
theorem MM_10 {a0 : XA} (hcl : xCl a0 = xcl) (htf : xTf a0 = xtf) (hG : xGok (xG a0)) (hroom : xRoom 14 a0) (hn : xn1 a0 = 10) : xLe HM MH_10 ∧ xCon xTs xNW (xMT 2) a0 [.inr (.inr (.inl 118)), .inr (.inr (.inr (.inl (1, 0))))] HM (some (.inl 0)) MH_10 := by
  obtain ⟨p, l, e, R, s, m, args, below, meth, c, Q, G, nL, n0, s0, tyf⟩ := a0
  have htf : tyf = xtf := htf
  subst htf
  obtain ⟨r1, r2⟩ := hroom
  have hn : (G.2.1 1).toInt = 10 := hn
  refine ⟨⟨by decide +kernel, by decide +kernel⟩, ⟨_, xmet_go (d := 13) PROG_ok (mid := 2) (nL := 5) (tb := T_2) rfl rfl hcl hG (fun a ha hGa hr hC hF hEnd => ?_), rfl, rfl, show 14 + 1 ≤ R.frames by omega, show 8 + (5 + 11) + 45 * 14 ≤ R.locals by omega⟩⟩
  have hb : xDA 2 T_2 a := ⟨ha, hr, hC, (PROG_ok 2 _ _ rfl).2.2.2 a ha⟩
  have hna : xn1 a = 10 := by
    show ((xG a).2.1 1).toInt = _
    rw [hGa]
    exact hn
  obtain ⟨q1, q2⟩ := xd_end hb Me_10 (xEn_ok (by show _ ≤ xn1 a; omega) (by show xn1 a ≤ _; omega)) hF hEnd
  exact MG_10 hb (by omega) (by omega) q1 hF q2
theorem MM_11 {a0 : XA} (hcl : xCl a0 = xcl) (htf : xTf a0 = xtf) (hG : xGok (xG a0)) (hroom : xRoom 14 a0) (hn : xn1 a0 = 11) : xLe HM MH_11 ∧ xCon xTs xNW (xMT 2) a0 [.inr (.inr (.inl 118)), .inr (.inr (.inr (.inl (1, 0))))] HM (some (.inl 1)) MH_11 := by
  obtain ⟨p, l, e, R, s, m, args, below, meth, c, Q, G, nL, n0, s0, tyf⟩ := a0
  have htf : tyf = xtf := htf
  subst htf
  obtain ⟨r1, r2⟩ := hroom
  have hn : (G.2.1 1).toInt = 11 := hn
  refine ⟨⟨by decide +kernel, by decide +kernel⟩, ⟨_, xmet_go (d := 13) PROG_ok (mid := 2) (nL := 5) (tb := T_2) rfl rfl hcl hG (fun a ha hGa hr hC hF hEnd => ?_), rfl, rfl, show 14 + 1 ≤ R.frames by omega, show 8 + (5 + 11) + 45 * 14 ≤ R.locals by omega⟩⟩
  have hb : xDA 2 T_2 a := ⟨ha, hr, hC, (PROG_ok 2 _ _ rfl).2.2.2 a ha⟩
  have hna : xn1 a = 11 := by
    show ((xG a).2.1 1).toInt = _
    rw [hGa]
    exact hn
  obtain ⟨q1, q2⟩ := xd_end hb Me_11 (xEn_ok (by show _ ≤ xn1 a; omega) (by show xn1 a ≤ _; omega)) hF hEnd
  exact MG_11 hb (by omega) (by omega) q1 hF q2
theorem MM_12 {a0 : XA} (hcl : xCl a0 = xcl) (htf : xTf a0 = xtf) (hG : xGok (xG a0)) (hroom : xRoom 14 a0) (hn : xn1 a0 = 12) : xLe HM MH_12 ∧ xCon xTs xNW (xMT 2) a0 [.inr (.inr (.inl 118)), .inr (.inr (.inr (.inl (1, 0))))] HM (some (.inl 1)) MH_12 := by
  obtain ⟨p, l, e, R, s, m, args, below, meth, c, Q, G, nL, n0, s0, tyf⟩ := a0
  have htf : tyf = xtf := htf
  subst htf
  obtain ⟨r1, r2⟩ := hroom
  have hn : (G.2.1 1).toInt = 12 := hn
  refine ⟨⟨by decide +kernel, by decide +kernel⟩, ⟨_, xmet_go (d := 13) PROG_ok (mid := 2) (nL := 5) (tb := T_2) rfl rfl hcl hG (fun a ha hGa hr hC hF hEnd => ?_), rfl, rfl, show 14 + 1 ≤ R.frames by omega, show 8 + (5 + 11) + 45 * 14 ≤ R.locals by omega⟩⟩
  have hb : xDA 2 T_2 a := ⟨ha, hr, hC, (PROG_ok 2 _ _ rfl).2.2.2 a ha⟩
  have hna : xn1 a = 12 := by
    show ((xG a).2.1 1).toInt = _
    rw [hGa]
    exact hn
  obtain ⟨q1, q2⟩ := xd_end hb Me_12 (xEn_ok (by show _ ≤ xn1 a; omega) (by show xn1 a ≤ _; omega)) hF hEnd
  exact MG_12 hb (by omega) (by omega) q1 hF q2
theorem MM_13 {a0 : XA} (hcl : xCl a0 = xcl) (htf : xTf a0 = xtf) (hG : xGok (xG a0)) (hroom : xRoom 14 a0) (hn : xn1 a0 = 13) : xLe HM MH_13 ∧ xCon xTs xNW (xMT 2) a0 [.inr (.inr (.inl 118)), .inr (.inr (.inr (.inl (1, 0))))] HM (some (.inl 2)) MH_13 := by
  obtain ⟨p, l, e, R, s, m, args, below, meth, c, Q, G, nL, n0, s0, tyf⟩ := a0
  have htf : tyf = xtf := htf
  subst htf
  obtain ⟨r1, r2⟩ := hroom
  have hn : (G.2.1 1).toInt = 13 := hn
  refine ⟨⟨by decide +kernel, by decide +kernel⟩, ⟨_, xmet_go (d := 13) PROG_ok (mid := 2) (nL := 5) (tb := T_2) rfl rfl hcl hG (fun a ha hGa hr hC hF hEnd => ?_), rfl, rfl, show 14 + 1 ≤ R.frames by omega, show 8 + (5 + 11) + 45 * 14 ≤ R.locals by omega⟩⟩
  have hb : xDA 2 T_2 a := ⟨ha, hr, hC, (PROG_ok 2 _ _ rfl).2.2.2 a ha⟩
  have hna : xn1 a = 13 := by
    show ((xG a).2.1 1).toInt = _
    rw [hGa]
    exact hn
  obtain ⟨q1, q2⟩ := xd_end hb Me_13 (xEn_ok (by show _ ≤ xn1 a; omega) (by show xn1 a ≤ _; omega)) hF hEnd
  exact MG_13 hb (by omega) (by omega) q1 hF q2
theorem MM_14 {a0 : XA} (hcl : xCl a0 = xcl) (htf : xTf a0 = xtf) (hG : xGok (xG a0)) (hroom : xRoom 14 a0) (hn : xn1 a0 = 14) : xLe HM MH_14 ∧ xCon xTs xNW (xMT 2) a0 [.inr (.inr (.inl 118)), .inr (.inr (.inr (.inl (1, 0))))] HM (some (.inl 3)) MH_14 := by
  obtain ⟨p, l, e, R, s, m, args, below, meth, c, Q, G, nL, n0, s0, tyf⟩ := a0
  have htf : tyf = xtf := htf
  subst htf
  obtain ⟨r1, r2⟩ := hroom
  have hn : (G.2.1 1).toInt = 14 := hn
  refine ⟨⟨by decide +kernel, by decide +kernel⟩, ⟨_, xmet_go (d := 13) PROG_ok (mid := 2) (nL := 5) (tb := T_2) rfl rfl hcl hG (fun a ha hGa hr hC hF hEnd => ?_), rfl, rfl, show 14 + 1 ≤ R.frames by omega, show 8 + (5 + 11) + 45 * 14 ≤ R.locals by omega⟩⟩
  have hb : xDA 2 T_2 a := ⟨ha, hr, hC, (PROG_ok 2 _ _ rfl).2.2.2 a ha⟩
  have hna : xn1 a = 14 := by
    show ((xG a).2.1 1).toInt = _
    rw [hGa]
    exact hn
  obtain ⟨q1, q2⟩ := xd_end hb Me_14 (xEn_ok (by show _ ≤ xn1 a; omega) (by show xn1 a ≤ _; omega)) hF hEnd
  exact MG_14 hb (by omega) (by omega) q1 hF q2
theorem MM_15 {a0 : XA} (hcl : xCl a0 = xcl) (htf : xTf a0 = xtf) (hG : xGok (xG a0)) (hroom : xRoom 14 a0) (hn : xn1 a0 = 15) : xLe HM MH_15 ∧ xCon xTs xNW (xMT 2) a0 [.inr (.inr (.inl 118)), .inr (.inr (.inr (.inl (1, 0))))] HM (some (.inl 4)) MH_15 := by
  obtain ⟨p, l, e, R, s, m, args, below, meth, c, Q, G, nL, n0, s0, tyf⟩ := a0
  have htf : tyf = xtf := htf
  subst htf
  obtain ⟨r1, r2⟩ := hroom
  have hn : (G.2.1 1).toInt = 15 := hn
  refine ⟨⟨by decide +kernel, by decide +kernel⟩, ⟨_, xmet_go (d := 13) PROG_ok (mid := 2) (nL := 5) (tb := T_2) rfl rfl hcl hG (fun a ha hGa hr hC hF hEnd => ?_), rfl, rfl, show 14 + 1 ≤ R.frames by omega, show 8 + (5 + 11) + 45 * 14 ≤ R.locals by omega⟩⟩
  have hb : xDA 2 T_2 a := ⟨ha, hr, hC, (PROG_ok 2 _ _ rfl).2.2.2 a ha⟩
  have hna : xn1 a = 15 := by
    show ((xG a).2.1 1).toInt = _
    rw [hGa]
    exact hn
  obtain ⟨q1, q2⟩ := xd_end hb Me_15 (xEn_ok (by show _ ≤ xn1 a; omega) (by show xn1 a ≤ _; omega)) hF hEnd
  exact MG_15 hb (by omega) (by omega) q1 hF q2
theorem MM_16 {a0 : XA} (hcl : xCl a0 = xcl) (htf : xTf a0 = xtf) (hG : xGok (xG a0)) (hroom : xRoom 14 a0) (hn : xn1 a0 = 16) : xLe HM MH_16 ∧ xCon xTs xNW (xMT 2) a0 [.inr (.inr (.inl 118)), .inr (.inr (.inr (.inl (1, 0))))] HM (some (.inl 5)) MH_16 := by
  obtain ⟨p, l, e, R, s, m, args, below, meth, c, Q, G, nL, n0, s0, tyf⟩ := a0
  have htf : tyf = xtf := htf
  subst htf
  obtain ⟨r1, r2⟩ := hroom
  have hn : (G.2.1 1).toInt = 16 := hn
  refine ⟨⟨by decide +kernel, by decide +kernel⟩, ⟨_, xmet_go (d := 13) PROG_ok (mid := 2) (nL := 5) (tb := T_2) rfl rfl hcl hG (fun a ha hGa hr hC hF hEnd => ?_), rfl, rfl, show 14 + 1 ≤ R.frames by omega, show 8 + (5 + 11) + 45 * 14 ≤ R.locals by omega⟩⟩
  have hb : xDA 2 T_2 a := ⟨ha, hr, hC, (PROG_ok 2 _ _ rfl).2.2.2 a ha⟩
  have hna : xn1 a = 16 := by
    show ((xG a).2.1 1).toInt = _
    rw [hGa]
    exact hn
  obtain ⟨q1, q2⟩ := xd_end hb Me_16 (xEn_ok (by show _ ≤ xn1 a; omega) (by show xn1 a ≤ _; omega)) hF hEnd
  exact MG_16 hb (by omega) (by omega) q1 hF q2
theorem MM_17 {a0 : XA} (hcl : xCl a0 = xcl) (htf : xTf a0 = xtf) (hG : xGok (xG a0)) (hroom : xRoom 14 a0) (hn : xn1 a0 = 17) : xLe HM MH_17 ∧ xCon xTs xNW (xMT 2) a0 [.inr (.inr (.inl 118)), .inr (.inr (.inr (.inl (1, 0))))] HM (some (.inl 6)) MH_17 := by
  obtain ⟨p, l, e, R, s, m, args, below, meth, c, Q, G, nL, n0, s0, tyf⟩ := a0
  have htf : tyf = xtf := htf
  subst htf
  obtain ⟨r1, r2⟩ := hroom
  have hn : (G.2.1 1).toInt = 17 := hn
  refine ⟨⟨by decide +kernel, by decide +kernel⟩, ⟨_, xmet_go (d := 13) PROG_ok (mid := 2) (nL := 5) (tb := T_2) rfl rfl hcl hG (fun a ha hGa hr hC hF hEnd => ?_), rfl, rfl, show 14 + 1 ≤ R.frames by omega, show 8 + (5 + 11) + 45 * 14 ≤ R.locals by omega⟩⟩
  have hb : xDA 2 T_2 a := ⟨ha, hr, hC, (PROG_ok 2 _ _ rfl).2.2.2 a ha⟩
  have hna : xn1 a = 17 := by
    show ((xG a).2.1 1).toInt = _
    rw [hGa]
    exact hn
  obtain ⟨q1, q2⟩ := xd_end hb Me_17 (xEn_ok (by show _ ≤ xn1 a; omega) (by show xn1 a ≤ _; omega)) hF hEnd
  exact MG_17 hb (by omega) (by omega) q1 hF q2
theorem MM_18 {a0 : XA} (hcl : xCl a0 = xcl) (htf : xTf a0 = xtf) (hG : xGok (xG a0)) (hroom : xRoom 14 a0) (hn : xn1 a0 = 18) : xLe HM MH_18 ∧ xCon xTs xNW (xMT 2) a0 [.inr (.inr (.inl 118)), .inr (.inr (.inr (.inl (1, 0))))] HM (some (.inl 6)) MH_18 := by
  obtain ⟨p, l, e, R, s, m, args, below, meth, c, Q, G, nL, n0, s0, tyf⟩ := a0
  have htf : tyf = xtf := htf
  subst htf
  obtain ⟨r1, r2⟩ := hroom
  have hn : (G.2.1 1).toInt = 18 := hn
  refine ⟨⟨by decide +kernel, by decide +kernel⟩, ⟨_, xmet_go (d := 13) PROG_ok (mid := 2) (nL := 5) (tb := T_2) rfl rfl hcl hG (fun a ha hGa hr hC hF hEnd => ?_), rfl, rfl, show 14 + 1 ≤ R.frames by omega, show 8 + (5 + 11) + 45 * 14 ≤ R.locals by omega⟩⟩
  have hb : xDA 2 T_2 a := ⟨ha, hr, hC, (PROG_ok 2 _ _ rfl).2.2.2 a ha⟩
  have hna : xn1 a = 18 := by
    show ((xG a).2.1 1).toInt = _
    rw [hGa]
    exact hn
  obtain ⟨q1, q2⟩ := xd_end hb Me_18 (xEn_ok (by show _ ≤ xn1 a; omega) (by show xn1 a ≤ _; omega)) hF hEnd
  exact MG_18 hb (by omega) (by omega) q1 hF q2
theorem MM_19 {a0 : XA} (hcl : xCl a0 = xcl) (htf : xTf a0 = xtf) (hG : xGok (xG a0)) (hroom : xRoom 14 a0) (hn : xn1 a0 = 19) : xLe HM MH_19 ∧ xCon xTs xNW (xMT 2) a0 [.inr (.inr (.inl 118)), .inr (.inr (.inr (.inl (1, 0))))] HM (some (.inl 7)) MH_19 := by
  obtain ⟨p, l, e, R, s, m, args, below, meth, c, Q, G, nL, n0, s0, tyf⟩ := a0
  have htf : tyf = xtf := htf
  subst htf
  obtain ⟨r1, r2⟩ := hroom
  have hn : (G.2.1 1).toInt = 19 := hn
  refine ⟨⟨by decide +kernel, by decide +kernel⟩, ⟨_, xmet_go (d := 13) PROG_ok (mid := 2) (nL := 5) (tb := T_2) rfl rfl hcl hG (fun a ha hGa hr hC hF hEnd => ?_), rfl, rfl, show 14 + 1 ≤ R.frames by omega, show 8 + (5 + 11) + 45 * 14 ≤ R.locals by omega⟩⟩
  have hb : xDA 2 T_2 a := ⟨ha, hr, hC, (PROG_ok 2 _ _ rfl).2.2.2 a ha⟩
  have hna : xn1 a = 19 := by
    show ((xG a).2.1 1).toInt = _
    rw [hGa]
    exact hn
  obtain ⟨q1, q2⟩ := xd_end hb Me_19 (xEn_ok (by show _ ≤ xn1 a; omega) (by show xn1 a ≤ _; omega)) hF hEnd
  exact MG_19 hb (by omega) (by omega) q1 hF q2
theorem MM_20 {a0 : XA} (hcl : xCl a0 = xcl) (htf : xTf a0 = xtf) (hG : xGok (xG a0)) (hroom : xRoom 14 a0) (hn : xn1 a0 = 20) : xLe HM MH_20 ∧ xCon xTs xNW (xMT 2) a0 [.inr (.inr (.inl 118)), .inr (.inr (.inr (.inl (1, 0))))] HM (some (.inl 8)) MH_20 := by
  obtain ⟨p, l, e, R, s, m, args, below, meth, c, Q, G, nL, n0, s0, tyf⟩ := a0
  have htf : tyf = xtf := htf
  subst htf
  obtain ⟨r1, r2⟩ := hroom
  have hn : (G.2.1 1).toInt = 20 := hn
  refine ⟨⟨by decide +kernel, by decide +kernel⟩, ⟨_, xmet_go (d := 13) PROG_ok (mid := 2) (nL := 5) (tb := T_2) rfl rfl hcl hG (fun a ha hGa hr hC hF hEnd => ?_), rfl, rfl, show 14 + 1 ≤ R.frames by omega, show 8 + (5 + 11) + 45 * 14 ≤ R.locals by omega⟩⟩
  have hb : xDA 2 T_2 a := ⟨ha, hr, hC, (PROG_ok 2 _ _ rfl).2.2.2 a ha⟩
  have hna : xn1 a = 20 := by
    show ((xG a).2.1 1).toInt = _
    rw [hGa]
    exact hn
  obtain ⟨q1, q2⟩ := xd_end hb Me_20 (xEn_ok (by show _ ≤ xn1 a; omega) (by show xn1 a ≤ _; omega)) hF hEnd
  exact MG_20 hb (by omega) (by omega) q1 hF q2
theorem MM_21 {a0 : XA} (hcl : xCl a0 = xcl) (htf : xTf a0 = xtf) (hG : xGok (xG a0)) (hroom : xRoom 14 a0) (hn : xn1 a0 = 21) : xLe HM MH_21 ∧ xCon xTs xNW (xMT 2) a0 [.inr (.inr (.inl 118)), .inr (.inr (.inr (.inl (1, 0))))] HM (some (.inl 8)) MH_21 := by
  obtain ⟨p, l, e, R, s, m, args, below, meth, c, Q, G, nL, n0, s0, tyf⟩ := a0
  have htf : tyf = xtf := htf
  subst htf
  obtain ⟨r1, r2⟩ := hroom
  have hn : (G.2.1 1).toInt = 21 := hn
  refine ⟨⟨by decide +kernel, by decide +kernel⟩, ⟨_, xmet_go (d := 13) PROG_ok (mid := 2) (nL := 5) (tb := T_2) rfl rfl hcl hG (fun a ha hGa hr hC hF hEnd => ?_), rfl, rfl, show 14 + 1 ≤ R.frames by omega, show 8 + (5 + 11) + 45 * 14 ≤ R.locals by omega⟩⟩
  have hb : xDA 2 T_2 a := ⟨ha, hr, hC, (PROG_ok 2 _ _ rfl).2.2.2 a ha⟩
  have hna : xn1 a = 21 := by
    show ((xG a).2.1 1).toInt = _
    rw [hGa]
    exact hn
  obtain ⟨q1, q2⟩ := xd_end hb Me_21 (xEn_ok (by show _ ≤ xn1 a; omega) (by show xn1 a ≤ _; omega)) hF hEnd
  exact MG_21 hb (by omega) (by omega) q1 hF q2
theorem MM_22 {a0 : XA} (hcl : xCl a0 = xcl) (htf : xTf a0 = xtf) (hG : xGok (xG a0)) (hroom : xRoom 14 a0) (hn : xn1 a0 = 22) : xLe HM MH_22 ∧ xCon xTs xNW (xMT 2) a0 [.inr (.inr (.inl 118)), .inr (.inr (.inr (.inl (1, 0))))] HM (some (.inl 9)) MH_22 := by
  obtain ⟨p, l, e, R, s, m, args, below, meth, c, Q, G, nL, n0, s0, tyf⟩ := a0
  have htf : tyf = xtf := htf
  subst htf
  obtain ⟨r1, r2⟩ := hroom
  have hn : (G.2.1 1).toInt = 22 := hn
  refine ⟨⟨by decide +kernel, by decide +kernel⟩, ⟨_, xmet_go (d := 13) PROG_ok (mid := 2) (nL := 5) (tb := T_2) rfl rfl hcl hG (fun a ha hGa hr hC hF hEnd => ?_), rfl, rfl, show 14 + 1 ≤ R.frames by omega, show 8 + (5 + 11) + 45 * 14 ≤ R.locals by omega⟩⟩
  have hb : xDA 2 T_2 a := ⟨ha, hr, hC, (PROG_ok 2 _ _ rfl).2.2.2 a ha⟩
  have hna : xn1 a = 22 := by
    show ((xG a).2.1 1).toInt = _
    rw [hGa]
    exact hn
  obtain ⟨q1, q2⟩ := xd_end hb Me_22 (xEn_ok (by show _ ≤ xn1 a; omega) (by show xn1 a ≤ _; omega)) hF hEnd
  exact MG_22 hb (by omega) (by omega) q1 hF q2
theorem MM_23 {a0 : XA} (hcl : xCl a0 = xcl) (htf : xTf a0 = xtf) (hG : xGok (xG a0)) (hroom : xRoom 14 a0) (hn : xn1 a0 = 23) : xLe HM MH_23 ∧ xCon xTs xNW (xMT 2) a0 [.inr (.inr (.inl 118)), .inr (.inr (.inr (.inl (1, 0))))] HM (some (.inl 10)) MH_23 := by
  obtain ⟨p, l, e, R, s, m, args, below, meth, c, Q, G, nL, n0, s0, tyf⟩ := a0
  have htf : tyf = xtf := htf
  subst htf
  obtain ⟨r1, r2⟩ := hroom
  have hn : (G.2.1 1).toInt = 23 := hn
  refine ⟨⟨by decide +kernel, by decide +kernel⟩, ⟨_, xmet_go (d := 13) PROG_ok (mid := 2) (nL := 5) (tb := T_2) rfl rfl hcl hG (fun a ha hGa hr hC hF hEnd => ?_), rfl, rfl, show 14 + 1 ≤ R.frames by omega, show 8 + (5 + 11) + 45 * 14 ≤ R.locals by omega⟩⟩
  have hb : xDA 2 T_2 a := ⟨ha, hr, hC, (PROG_ok 2 _ _ rfl).2.2.2 a ha⟩
  have hna : xn1 a = 23 := by
    show ((xG a).2.1 1).toInt = _
    rw [hGa]
    exact hn
  obtain ⟨q1, q2⟩ := xd_end hb Me_23 (xEn_ok (by show _ ≤ xn1 a; omega) (by show xn1 a ≤ _; omega)) hF hEnd
  exact MG_23 hb (by omega) (by omega) q1 hF q2
theorem MM_24 {a0 : XA} (hcl : xCl a0 = xcl) (htf : xTf a0 = xtf) (hG : xGok (xG a0)) (hroom : xRoom 14 a0) (hn : xn1 a0 = 24) : xLe HM MH_24 ∧ xCon xTs xNW (xMT 2) a0 [.inr (.inr (.inl 118)), .inr (.inr (.inr (.inl (1, 0))))] HM (some (.inl 10)) MH_24 := by
  obtain ⟨p, l, e, R, s, m, args, below, meth, c, Q, G, nL, n0, s0, tyf⟩ := a0
  have htf : tyf = xtf := htf
  subst htf
  obtain ⟨r1, r2⟩ := hroom
  have hn : (G.2.1 1).toInt = 24 := hn
  refine ⟨⟨by decide +kernel, by decide +kernel⟩, ⟨_, xmet_go (d := 13) PROG_ok (mid := 2) (nL := 5) (tb := T_2) rfl rfl hcl hG (fun a ha hGa hr hC hF hEnd => ?_), rfl, rfl, show 14 + 1 ≤ R.frames by omega, show 8 + (5 + 11) + 45 * 14 ≤ R.locals by omega⟩⟩
  have hb : xDA 2 T_2 a := ⟨ha, hr, hC, (PROG_ok 2 _ _ rfl).2.2.2 a ha⟩
  have hna : xn1 a = 24 := by
    show ((xG a).2.1 1).toInt = _
    rw [hGa]
    exact hn
  obtain ⟨q1, q2⟩ := xd_end hb Me_24 (xEn_ok (by show _ ≤ xn1 a; omega) (by show xn1 a ≤ _; omega)) hF hEnd
  exact MG_24 hb (by omega) (by omega) q1 hF q2
theorem MM_25 {a0 : XA} (hcl : xCl a0 = xcl) (htf : xTf a0 = xtf) (hG : xGok (xG a0)) (hroom : xRoom 14 a0) (hn : xn1 a0 = 25) : xLe HM MH_25 ∧ xCon xTs xNW (xMT 2) a0 [.inr (.inr (.inl 118)), .inr (.inr (.inr (.inl (1, 0))))] HM (some (.inl 11)) MH_25 := by
  obtain ⟨p, l, e, R, s, m, args, below, meth, c, Q, G, nL, n0, s0, tyf⟩ := a0
  have htf : tyf = xtf := htf
  subst htf
  obtain ⟨r1, r2⟩ := hroom
  have hn : (G.2.1 1).toInt = 25 := hn
  refine ⟨⟨by decide +kernel, by decide +kernel⟩, ⟨_, xmet_go (d := 13) PROG_ok (mid := 2) (nL := 5) (tb := T_2) rfl rfl hcl hG (fun a ha hGa hr hC hF hEnd => ?_), rfl, rfl, show 14 + 1 ≤ R.frames by omega, show 8 + (5 + 11) + 45 * 14 ≤ R.locals by omega⟩⟩
  have hb : xDA 2 T_2 a := ⟨ha, hr, hC, (PROG_ok 2 _ _ rfl).2.2.2 a ha⟩
  have hna : xn1 a = 25 := by
    show ((xG a).2.1 1).toInt = _
    rw [hGa]
    exact hn
  obtain ⟨q1, q2⟩ := xd_end hb Me_25 (xEn_ok (by show _ ≤ xn1 a; omega) (by show xn1 a ≤ _; omega)) hF hEnd
  exact MG_25 hb (by omega) (by omega) q1 hF q2
theorem MM_26 {a0 : XA} (hcl : xCl a0 = xcl) (htf : xTf a0 = xtf) (hG : xGok (xG a0)) (hroom : xRoom 14 a0) (hn : xn1 a0 = 26) : xLe HM MH_26 ∧ xCon xTs xNW (xMT 2) a0 [.inr (.inr (.inl 118)), .inr (.inr (.inr (.inl (1, 0))))] HM (some (.inl 12)) MH_26 := by
  obtain ⟨p, l, e, R, s, m, args, below, meth, c, Q, G, nL, n0, s0, tyf⟩ := a0
  have htf : tyf = xtf := htf
  subst htf
  obtain ⟨r1, r2⟩ := hroom
  have hn : (G.2.1 1).toInt = 26 := hn
  refine ⟨⟨by decide +kernel, by decide +kernel⟩, ⟨_, xmet_go (d := 13) PROG_ok (mid := 2) (nL := 5) (tb := T_2) rfl rfl hcl hG (fun a ha hGa hr hC hF hEnd => ?_), rfl, rfl, show 14 + 1 ≤ R.frames by omega, show 8 + (5 + 11) + 45 * 14 ≤ R.locals by omega⟩⟩
  have hb : xDA 2 T_2 a := ⟨ha, hr, hC, (PROG_ok 2 _ _ rfl).2.2.2 a ha⟩
  have hna : xn1 a = 26 := by
    show ((xG a).2.1 1).toInt = _
    rw [hGa]
    exact hn
  obtain ⟨q1, q2⟩ := xd_end hb Me_26 (xEn_ok (by show _ ≤ xn1 a; omega) (by show xn1 a ≤ _; omega)) hF hEnd
  exact MG_26 hb (by omega) (by omega) q1 hF q2
theorem MM_27 {a0 : XA} (hcl : xCl a0 = xcl) (htf : xTf a0 = xtf) (hG : xGok (xG a0)) (hroom : xRoom 14 a0) (hn : xn1 a0 = 27) : xLe HM MH_27 ∧ xCon xTs xNW (xMT 2) a0 [.inr (.inr (.inl 118)), .inr (.inr (.inr (.inl (1, 0))))] HM (some (.inl 12)) MH_27 := by
  obtain ⟨p, l, e, R, s, m, args, below, meth, c, Q, G, nL, n0, s0, tyf⟩ := a0
  have htf : tyf = xtf := htf
  subst htf
  obtain ⟨r1, r2⟩ := hroom
  have hn : (G.2.1 1).toInt = 27 := hn
  refine ⟨⟨by decide +kernel, by decide +kernel⟩, ⟨_, xmet_go (d := 13) PROG_ok (mid := 2) (nL := 5) (tb := T_2) rfl rfl hcl hG (fun a ha hGa hr hC hF hEnd => ?_), rfl, rfl, show 14 + 1 ≤ R.frames by omega, show 8 + (5 + 11) + 45 * 14 ≤ R.locals by omega⟩⟩
  have hb : xDA 2 T_2 a := ⟨ha, hr, hC, (PROG_ok 2 _ _ rfl).2.2.2 a ha⟩
  have hna : xn1 a = 27 := by
    show ((xG a).2.1 1).toInt = _
    rw [hGa]
    exact hn
  obtain ⟨q1, q2⟩ := xd_end hb Me_27 (xEn_ok (by show _ ≤ xn1 a; omega) (by show xn1 a ≤ _; omega)) hF hEnd
  exact MG_27 hb (by omega) (by omega) q1 hF q2
theorem MM_28 {a0 : XA} (hcl : xCl a0 = xcl) (htf : xTf a0 = xtf) (hG : xGok (xG a0)) (hroom : xRoom 14 a0) (hn : xn1 a0 = 28) : xLe HM MH_28 ∧ xCon xTs xNW (xMT 2) a0 [.inr (.inr (.inl 118)), .inr (.inr (.inr (.inl (1, 0))))] HM (some (.inl 13)) MH_28 := by
  obtain ⟨p, l, e, R, s, m, args, below, meth, c, Q, G, nL, n0, s0, tyf⟩ := a0
  have htf : tyf = xtf := htf
  subst htf
  obtain ⟨r1, r2⟩ := hroom
  have hn : (G.2.1 1).toInt = 28 := hn
  refine ⟨⟨by decide +kernel, by decide +kernel⟩, ⟨_, xmet_go (d := 13) PROG_ok (mid := 2) (nL := 5) (tb := T_2) rfl rfl hcl hG (fun a ha hGa hr hC hF hEnd => ?_), rfl, rfl, show 14 + 1 ≤ R.frames by omega, show 8 + (5 + 11) + 45 * 14 ≤ R.locals by omega⟩⟩
  have hb : xDA 2 T_2 a := ⟨ha, hr, hC, (PROG_ok 2 _ _ rfl).2.2.2 a ha⟩
  have hna : xn1 a = 28 := by
    show ((xG a).2.1 1).toInt = _
    rw [hGa]
    exact hn
  obtain ⟨q1, q2⟩ := xd_end hb Me_28 (xEn_ok (by show _ ≤ xn1 a; omega) (by show xn1 a ≤ _; omega)) hF hEnd
  exact MG_28 hb (by omega) (by omega) q1 hF q2
theorem MM_29 {a0 : XA} (hcl : xCl a0 = xcl) (htf : xTf a0 = xtf) (hG : xGok (xG a0)) (hroom : xRoom 14 a0) (hn : xn1 a0 = 29) : xLe HM MH_29 ∧ xCon xTs xNW (xMT 2) a0 [.inr (.inr (.inl 118)), .inr (.inr (.inr (.inl (1, 0))))] HM (some (.inl 14)) MH_29 := by
  obtain ⟨p, l, e, R, s, m, args, below, meth, c, Q, G, nL, n0, s0, tyf⟩ := a0
  have htf : tyf = xtf := htf
  subst htf
  obtain ⟨r1, r2⟩ := hroom
  have hn : (G.2.1 1).toInt = 29 := hn
  refine ⟨⟨by decide +kernel, by decide +kernel⟩, ⟨_, xmet_go (d := 13) PROG_ok (mid := 2) (nL := 5) (tb := T_2) rfl rfl hcl hG (fun a ha hGa hr hC hF hEnd => ?_), rfl, rfl, show 14 + 1 ≤ R.frames by omega, show 8 + (5 + 11) + 45 * 14 ≤ R.locals by omega⟩⟩
  have hb : xDA 2 T_2 a := ⟨ha, hr, hC, (PROG_ok 2 _ _ rfl).2.2.2 a ha⟩
  have hna : xn1 a = 29 := by
    show ((xG a).2.1 1).toInt = _
    rw [hGa]
    exact hn
  obtain ⟨q1, q2⟩ := xd_end hb Me_29 (xEn_ok (by show _ ≤ xn1 a; omega) (by show xn1 a ≤ _; omega)) hF hEnd
  exact MG_29 hb (by omega) (by omega) q1 hF q2
theorem MM_30 {a0 : XA} (hcl : xCl a0 = xcl) (htf : xTf a0 = xtf) (hG : xGok (xG a0)) (hroom : xRoom 14 a0) (hn : xn1 a0 = 30) : xLe HM MH_30 ∧ xCon xTs xNW (xMT 2) a0 [.inr (.inr (.inl 118)), .inr (.inr (.inr (.inl (1, 0))))] HM (some (.inl 15)) MH_30 := by
  obtain ⟨p, l, e, R, s, m, args, below, meth, c, Q, G, nL, n0, s0, tyf⟩ := a0
  have htf : tyf = xtf := htf
  subst htf
  obtain ⟨r1, r2⟩ := hroom
  have hn : (G.2.1 1).toInt = 30 := hn
  refine ⟨⟨by decide +kernel, by decide +kernel⟩, ⟨_, xmet_go (d := 13) PROG_ok (mid := 2) (nL := 5) (tb := T_2) rfl rfl hcl hG (fun a ha hGa hr hC hF hEnd => ?_), rfl, rfl, show 14 + 1 ≤ R.frames by omega, show 8 + (5 + 11) + 45 * 14 ≤ R.locals by omega⟩⟩
  have hb : xDA 2 T_2 a := ⟨ha, hr, hC, (PROG_ok 2 _ _ rfl).2.2.2 a ha⟩
  have hna : xn1 a = 30 := by
    show ((xG a).2.1 1).toInt = _
    rw [hGa]
    exact hn
  obtain ⟨q1, q2⟩ := xd_end hb Me_30 (xEn_ok (by show _ ≤ xn1 a; omega) (by show xn1 a ≤ _; omega)) hF hEnd
  exact MG_30 hb (by omega) (by omega) q1 hF q2
theorem MM_31 {a0 : XA} (hcl : xCl a0 = xcl) (htf : xTf a0 = xtf) (hG : xGok (xG a0)) (hroom : xRoom 14 a0) (hn : xn1 a0 = 31) : xLe HM MH_31 ∧ xCon xTs xNW (xMT 2) a0 [.inr (.inr (.inl 118)), .inr (.inr (.inr (.inl (1, 0))))] HM (some (.inl 16)) MH_31 := by
  obtain ⟨p, l, e, R, s, m, args, below, meth, c, Q, G, nL, n0, s0, tyf⟩ := a0
  have htf : tyf = xtf := htf
  subst htf
  obtain ⟨r1, r2⟩ := hroom
  have hn : (G.2.1 1).toInt = 31 := hn
  refine ⟨⟨by decide +kernel, by decide +kernel⟩, ⟨_, xmet_go (d := 13) PROG_ok (mid := 2) (nL := 5) (tb := T_2) rfl rfl hcl hG (fun a ha hGa hr hC hF hEnd => ?_), rfl, rfl, show 14 + 1 ≤ R.frames by omega, show 8 + (5 + 11) + 45 * 14 ≤ R.locals by omega⟩⟩
  have hb : xDA 2 T_2 a := ⟨ha, hr, hC, (PROG_ok 2 _ _ rfl).2.2.2 a ha⟩
  have hna : xn1 a = 31 := by
    show ((xG a).2.1 1).toInt = _
    rw [hGa]
    exact hn
  obtain ⟨q1, q2⟩ := xd_end hb Me_31 (xEn_ok (by show _ ≤ xn1 a; omega) (by show xn1 a ≤ _; omega)) hF hEnd
  exact MG_31 hb (by omega) (by omega) q1 hF q2
theorem MM_32 {a0 : XA} (hcl : xCl a0 = xcl) (htf : xTf a0 = xtf) (hG : xGok (xG a0)) (hroom : xRoom 14 a0) (hn : xn1 a0 = 32) : xLe HM MH_32 ∧ xCon xTs xNW (xMT 2) a0 [.inr (.inr (.inl 118)), .inr (.inr (.inr (.inl (1, 0))))] HM (some (.inl 17)) MH_32 := by
  obtain ⟨p, l, e, R, s, m, args, below, meth, c, Q, G, nL, n0, s0, tyf⟩ := a0
  have htf : tyf = xtf := htf
  subst htf
  obtain ⟨r1, r2⟩ := hroom
  have hn : (G.2.1 1).toInt = 32 := hn
  refine ⟨⟨by decide +kernel, by decide +kernel⟩, ⟨_, xmet_go (d := 13) PROG_ok (mid := 2) (nL := 5) (tb := T_2) rfl rfl hcl hG (fun a ha hGa hr hC hF hEnd => ?_), rfl, rfl, show 14 + 1 ≤ R.frames by omega, show 8 + (5 + 11) + 45 * 14 ≤ R.locals by omega⟩⟩
  have hb : xDA 2 T_2 a := ⟨ha, hr, hC, (PROG_ok 2 _ _ rfl).2.2.2 a ha⟩
  have hna : xn1 a = 32 := by
    show ((xG a).2.1 1).toInt = _
    rw [hGa]
    exact hn
  obtain ⟨q1, q2⟩ := xd_end hb Me_32 (xEn_ok (by show _ ≤ xn1 a; omega) (by show xn1 a ≤ _; omega)) hF hEnd
  exact MG_32 hb (by omega) (by omega) q1 hF q2
theorem MM_33 {a0 : XA} (hcl : xCl a0 = xcl) (htf : xTf a0 = xtf) (hG : xGok (xG a0)) (hroom : xRoom 14 a0) (hn : xn1 a0 = 33) : xLe HM MH_33 ∧ xCon xTs xNW (xMT 2) a0 [.inr (.inr (.inl 118)), .inr (.inr (.inr (.inl (1, 0))))] HM (some (.inl 18)) MH_33 := by
  obtain ⟨p, l, e, R, s, m, args, below, meth, c, Q, G, nL, n0, s0, tyf⟩ := a0
  have htf : tyf = xtf := htf
  subst htf
  obtain ⟨r1, r2⟩ := hroom
  have hn : (G.2.1 1).toInt = 33 := hn
  refine ⟨⟨by decide +kernel, by decide +kernel⟩, ⟨_, xmet_go (d := 13) PROG_ok (mid := 2) (nL := 5) (tb := T_2) rfl rfl hcl hG (fun a ha hGa hr hC hF hEnd => ?_), rfl, rfl, show 14 + 1 ≤ R.frames by omega, show 8 + (5 + 11) + 45 * 14 ≤ R.locals by omega⟩⟩
  have hb : xDA 2 T_2 a := ⟨ha, hr, hC, (PROG_ok 2 _ _ rfl).2.2.2 a ha⟩
  have hna : xn1 a = 33 := by
    show ((xG a).2.1 1).toInt = _
    rw [hGa]
    exact hn
  obtain ⟨q1, q2⟩ := xd_end hb Me_33 (xEn_ok (by show _ ≤ xn1 a; omega) (by show xn1 a ≤ _; omega)) hF hEnd
  exact MG_33 hb (by omega) (by omega) q1 hF q2
theorem MM_34 {a0 : XA} (hcl : xCl a0 = xcl) (htf : xTf a0 = xtf) (hG : xGok (xG a0)) (hroom : xRoom 14 a0) (hn : xn1 a0 = 34) : xLe HM MH_34 ∧ xCon xTs xNW (xMT 2) a0 [.inr (.inr (.inl 118)), .inr (.inr (.inr (.inl (1, 0))))] HM (some (.inl 19)) MH_34 := by
  obtain ⟨p, l, e, R, s, m, args, below, meth, c, Q, G, nL, n0, s0, tyf⟩ := a0
  have htf : tyf = xtf := htf
  subst htf
  obtain ⟨r1, r2⟩ := hroom
  have hn : (G.2.1 1).toInt = 34 := hn
  refine ⟨⟨by decide +kernel, by decide +kernel⟩, ⟨_, xmet_go (d := 13) PROG_ok (mid := 2) (nL := 5) (tb := T_2) rfl rfl hcl hG (fun a ha hGa hr hC hF hEnd => ?_), rfl, rfl, show 14 + 1 ≤ R.frames by omega, show 8 + (5 + 11) + 45 * 14 ≤ R.locals by omega⟩⟩
  have hb : xDA 2 T_2 a := ⟨ha, hr, hC, (PROG_ok 2 _ _ rfl).2.2.2 a ha⟩
  have hna : xn1 a = 34 := by
    show ((xG a).2.1 1).toInt = _
    rw [hGa]
    exact hn
  obtain ⟨q1, q2⟩ := xd_end hb Me_34 (xEn_ok (by show _ ≤ xn1 a; omega) (by show xn1 a ≤ _; omega)) hF hEnd
  exact MG_34 hb (by omega) (by omega) q1 hF q2
theorem MM_35 {a0 : XA} (hcl : xCl a0 = xcl) (htf : xTf a0 = xtf) (hG : xGok (xG a0)) (hroom : xRoom 14 a0) (hn : xn1 a0 = 35) : xLe HM MH_35 ∧ xCon xTs xNW (xMT 2) a0 [.inr (.inr (.inl 118)), .inr (.inr (.inr (.inl (1, 0))))] HM (some (.inl 20)) MH_35 := by
  obtain ⟨p, l, e, R, s, m, args, below, meth, c, Q, G, nL, n0, s0, tyf⟩ := a0
  have htf : tyf = xtf := htf
  subst htf
  obtain ⟨r1, r2⟩ := hroom
  have hn : (G.2.1 1).toInt = 35 := hn
  refine ⟨⟨by decide +kernel, by decide +kernel⟩, ⟨_, xmet_go (d := 13) PROG_ok (mid := 2) (nL := 5) (tb := T_2) rfl rfl hcl hG (fun a ha hGa hr hC hF hEnd => ?_), rfl, rfl, show 14 + 1 ≤ R.frames by omega, show 8 + (5 + 11) + 45 * 14 ≤ R.locals by omega⟩⟩
  have hb : xDA 2 T_2 a := ⟨ha, hr, hC, (PROG_ok 2 _ _ rfl).2.2.2 a ha⟩
  have hna : xn1 a = 35 := by
    show ((xG a).2.1 1).toInt = _
    rw [hGa]
    exact hn
  obtain ⟨q1, q2⟩ := xd_end hb Me_35 (xEn_ok (by show _ ≤ xn1 a; omega) (by show xn1 a ≤ _; omega)) hF hEnd
  exact MG_35 hb (by omega) (by omega) q1 hF q2
theorem MM_36 {a0 : XA} (hcl : xCl a0 = xcl) (htf : xTf a0 = xtf) (hG : xGok (xG a0)) (hroom : xRoom 14 a0) (hn : xn1 a0 = 36) : xLe HM MH_36 ∧ xCon xTs xNW (xMT 2) a0 [.inr (.inr (.inl 118)), .inr (.inr (.inr (.inl (1, 0))))] HM (some (.inl 21)) MH_36 := by
  obtain ⟨p, l, e, R, s, m, args, below, meth, c, Q, G, nL, n0, s0, tyf⟩ := a0
  have htf : tyf = xtf := htf
  subst htf
  obtain ⟨r1, r2⟩ := hroom
  have hn : (G.2.1 1).toInt = 36 := hn
  refine ⟨⟨by decide +kernel, by decide +kernel⟩, ⟨_, xmet_go (d := 13) PROG_ok (mid := 2) (nL := 5) (tb := T_2) rfl rfl hcl hG (fun a ha hGa hr hC hF hEnd => ?_), rfl, rfl, show 14 + 1 ≤ R.frames by omega, show 8 + (5 + 11) + 45 * 14 ≤ R.locals by omega⟩⟩
  have hb : xDA 2 T_2 a := ⟨ha, hr, hC, (PROG_ok 2 _ _ rfl).2.2.2 a ha⟩
  have hna : xn1 a = 36 := by
    show ((xG a).2.1 1).toInt = _
    rw [hGa]
    exact hn
  obtain ⟨q1, q2⟩ := xd_end hb Me_36 (xEn_ok (by show _ ≤ xn1 a; omega) (by show xn1 a ≤ _; omega)) hF hEnd
  exact MG_36 hb (by omega) (by omega) q1 hF q2
theorem MM_37 {a0 : XA} (hcl : xCl a0 = xcl) (htf : xTf a0 = xtf) (hG : xGok (xG a0)) (hroom : xRoom 14 a0) (hn : xn1 a0 = 37) : xLe HM MH_37 ∧ xCon xTs xNW (xMT 2) a0 [.inr (.inr (.inl 118)), .inr (.inr (.inr (.inl (1, 0))))] HM (some (.inl 22)) MH_37 := by
  obtain ⟨p, l, e, R, s, m, args, below, meth, c, Q, G, nL, n0, s0, tyf⟩ := a0
  have htf : tyf = xtf := htf
  subst htf
  obtain ⟨r1, r2⟩ := hroom
  have hn : (G.2.1 1).toInt = 37 := hn
  refine ⟨⟨by decide +kernel, by decide +kernel⟩, ⟨_, xmet_go (d := 13) PROG_ok (mid := 2) (nL := 5) (tb := T_2) rfl rfl hcl hG (fun a ha hGa hr hC hF hEnd => ?_), rfl, rfl, show 14 + 1 ≤ R.frames by omega, show 8 + (5 + 11) + 45 * 14 ≤ R.locals by omega⟩⟩
  have hb : xDA 2 T_2 a := ⟨ha, hr, hC, (PROG_ok 2 _ _ rfl).2.2.2 a ha⟩
  have hna : xn1 a = 37 := by
    show ((xG a).2.1 1).toInt = _
    rw [hGa]
    exact hn
  obtain ⟨q1, q2⟩ := xd_end hb Me_37 (xEn_ok (by show _ ≤ xn1 a; omega) (by show xn1 a ≤ _; omega)) hF hEnd
  exact MG_37 hb (by omega) (by omega) q1 hF q2
theorem MM_38 {a0 : XA} (hcl : xCl a0 = xcl) (htf : xTf a0 = xtf) (hG : xGok (xG a0)) (hroom : xRoom 14 a0) (hn : xn1 a0 = 38) : xLe HM MH_38 ∧ xCon xTs xNW (xMT 2) a0 [.inr (.inr (.inl 118)), .inr (.inr (.inr (.inl (1, 0))))] HM (some (.inl 23)) MH_38 := by
  obtain ⟨p, l, e, R, s, m, args, below, meth, c, Q, G, nL, n0, s0, tyf⟩ := a0
  have htf : tyf = xtf := htf
  subst htf
  obtain ⟨r1, r2⟩ := hroom
  have hn : (G.2.1 1).toInt = 38 := hn
  refine ⟨⟨by decide +kernel, by decide +kernel⟩, ⟨_, xmet_go (d := 13) PROG_ok (mid := 2) (nL := 5) (tb := T_2) rfl rfl hcl hG (fun a ha hGa hr hC hF hEnd => ?_), rfl, rfl, show 14 + 1 ≤ R.frames by omega, show 8 + (5 + 11) + 45 * 14 ≤ R.locals by omega⟩⟩
  have hb : xDA 2 T_2 a := ⟨ha, hr, hC, (PROG_ok 2 _ _ rfl).2.2.2 a ha⟩
  have hna : xn1 a = 38 := by
    show ((xG a).2.1 1).toInt = _
    rw [hGa]
    exact hn
  obtain ⟨q1, q2⟩ := xd_end hb Me_38 (xEn_ok (by show _ ≤ xn1 a; omega) (by show xn1 a ≤ _; omega)) hF hEnd
  exact MG_38 hb (by omega) (by omega) q1 hF q2
theorem MM_39 {a0 : XA} (hcl : xCl a0 = xcl) (htf : xTf a0 = xtf) (hG : xGok (xG a0)) (hroom : xRoom 14 a0) (hn : xn1 a0 = 39) : xLe HM MH_39 ∧ xCon xTs xNW (xMT 2) a0 [.inr (.inr (.inl 118)), .inr (.inr (.inr (.inl (1, 0))))] HM (some (.inl 24)) MH_39 := by
  obtain ⟨p, l, e, R, s, m, args, below, meth, c, Q, G, nL, n0, s0, tyf⟩ := a0
  have htf : tyf = xtf := htf
  subst htf
  obtain ⟨r1, r2⟩ := hroom
  have hn : (G.2.1 1).toInt = 39 := hn
  refine ⟨⟨by decide +kernel, by decide +kernel⟩, ⟨_, xmet_go (d := 13) PROG_ok (mid := 2) (nL := 5) (tb := T_2) rfl rfl hcl hG (fun a ha hGa hr hC hF hEnd => ?_), rfl, rfl, show 14 + 1 ≤ R.frames by omega, show 8 + (5 + 11) + 45 * 14 ≤ R.locals by omega⟩⟩
  have hb : xDA 2 T_2 a := ⟨ha, hr, hC, (PROG_ok 2 _ _ rfl).2.2.2 a ha⟩
  have hna : xn1 a = 39 := by
    show ((xG a).2.1 1).toInt = _
    rw [hGa]
    exact hn
  obtain ⟨q1, q2⟩ := xd_end hb Me_39 (xEn_ok (by show _ ≤ xn1 a; omega) (by show xn1 a ≤ _; omega)) hF hEnd
  exact MG_39 hb (by omega) (by omega) q1 hF q2
theorem MM_40 {a0 : XA} (hcl : xCl a0 = xcl) (htf : xTf a0 = xtf) (hG : xGok (xG a0)) (hroom : xRoom 14 a0) (hn : xn1 a0 = 40) : xLe HM MH_40 ∧ xCon xTs xNW (xMT 2) a0 [.inr (.inr (.inl 118)), .inr (.inr (.inr (.inl (1, 0))))] HM (some (.inl 25)) MH_40 := by
  obtain ⟨p, l, e, R, s, m, args, below, meth, c, Q, G, nL, n0, s0, tyf⟩ := a0
  have htf : tyf = xtf := htf
  subst htf
  obtain ⟨r1, r2⟩ := hroom
  have hn : (G.2.1 1).toInt = 40 := hn
  refine ⟨⟨by decide +kernel, by decide +kernel⟩, ⟨_, xmet_go (d := 13) PROG_ok (mid := 2) (nL := 5) (tb := T_2) rfl rfl hcl hG (fun a ha hGa hr hC hF hEnd => ?_), rfl, rfl, show 14 + 1 ≤ R.frames by omega, show 8 + (5 + 11) + 45 * 14 ≤ R.locals by omega⟩⟩
  have hb : xDA 2 T_2 a := ⟨ha, hr, hC, (PROG_ok 2 _ _ rfl).2.2.2 a ha⟩
  have hna : xn1 a = 40 := by
    show ((xG a).2.1 1).toInt = _
    rw [hGa]
    exact hn
  obtain ⟨q1, q2⟩ := xd_end hb Me_40 (xEn_ok (by show _ ≤ xn1 a; omega) (by show xn1 a ≤ _; omega)) hF hEnd
  exact MG_40 hb (by omega) (by omega) q1 hF q2
theorem MM_41 {a0 : XA} (hcl : xCl a0 = xcl) (htf : xTf a0 = xtf) (hG : xGok (xG a0)) (hroom : xRoom 14 a0) (hn : xn1 a0 = 41) : xLe HM MH_41 ∧ xCon xTs xNW (xMT 2) a0 [.inr (.inr (.inl 118)), .inr (.inr (.inr (.inl (1, 0))))] HM (some (.inl 26)) MH_41 := by
  obtain ⟨p, l, e, R, s, m, args, below, meth, c, Q, G, nL, n0, s0, tyf⟩ := a0
  have htf : tyf = xtf := htf
  subst htf
  obtain ⟨r1, r2⟩ := hroom
  have hn : (G.2.1 1).toInt = 41 := hn
  refine ⟨⟨by decide +kernel, by decide +kernel⟩, ⟨_, xmet_go (d := 13) PROG_ok (mid := 2) (nL := 5) (tb := T_2) rfl rfl hcl hG (fun a ha hGa hr hC hF hEnd => ?_), rfl, rfl, show 14 + 1 ≤ R.frames by omega, show 8 + (5 + 11) + 45 * 14 ≤ R.locals by omega⟩⟩
  have hb : xDA 2 T_2 a := ⟨ha, hr, hC, (PROG_ok 2 _ _ rfl).2.2.2 a ha⟩
  have hna : xn1 a = 41 := by
    show ((xG a).2.1 1).toInt = _
    rw [hGa]
    exact hn
  obtain ⟨q1, q2⟩ := xd_end hb Me_41 (xEn_ok (by show _ ≤ xn1 a; omega) (by show xn1 a ≤ _; omega)) hF hEnd
  exact MG_41 hb (by omega) (by omega) q1 hF q2
theorem MM_42 {a0 : XA} (hcl : xCl a0 = xcl) (htf : xTf a0 = xtf) (hG : xGok (xG a0)) (hroom : xRoom 14 a0) (hn : xn1 a0 = 42) : xLe HM MH_42 ∧ xCon xTs xNW (xMT 2) a0 [.inr (.inr (.inl 118)), .inr (.inr (.inr (.inl (1, 0))))] HM (some (.inl 27)) MH_42 := by
  obtain ⟨p, l, e, R, s, m, args, below, meth, c, Q, G, nL, n0, s0, tyf⟩ := a0
  have htf : tyf = xtf := htf
  subst htf
  obtain ⟨r1, r2⟩ := hroom
  have hn : (G.2.1 1).toInt = 42 := hn
  refine ⟨⟨by decide +kernel, by decide +kernel⟩, ⟨_, xmet_go (d := 13) PROG_ok (mid := 2) (nL := 5) (tb := T_2) rfl rfl hcl hG (fun a ha hGa hr hC hF hEnd => ?_), rfl, rfl, show 14 + 1 ≤ R.frames by omega, show 8 + (5 + 11) + 45 * 14 ≤ R.locals by omega⟩⟩
  have hb : xDA 2 T_2 a := ⟨ha, hr, hC, (PROG_ok 2 _ _ rfl).2.2.2 a ha⟩
  have hna : xn1 a = 42 := by
    show ((xG a).2.1 1).toInt = _
    rw [hGa]
    exact hn
  obtain ⟨q1, q2⟩ := xd_end hb Me_42 (xEn_ok (by show _ ≤ xn1 a; omega) (by show xn1 a ≤ _; omega)) hF hEnd
  exact MG_42 hb (by omega) (by omega) q1 hF q2
theorem MM_43 {a0 : XA} (hcl : xCl a0 = xcl) (htf : xTf a0 = xtf) (hG : xGok (xG a0)) (hroom : xRoom 14 a0) (hn : xn1 a0 = 43) : xLe HM MH_43 ∧ xCon xTs xNW (xMT 2) a0 [.inr (.inr (.inl 118)), .inr (.inr (.inr (.inl (1, 0))))] HM (some (.inl 27)) MH_43 := by
  obtain ⟨p, l, e, R, s, m, args, below, meth, c, Q, G, nL, n0, s0, tyf⟩ := a0
  have htf : tyf = xtf := htf
  subst htf
  obtain ⟨r1, r2⟩ := hroom
  have hn : (G.2.1 1).toInt = 43 := hn
  refine ⟨⟨by decide +kernel, by decide +kernel⟩, ⟨_, xmet_go (d := 13) PROG_ok (mid := 2) (nL := 5) (tb := T_2) rfl rfl hcl hG (fun a ha hGa hr hC hF hEnd => ?_), rfl, rfl, show 14 + 1 ≤ R.frames by omega, show 8 + (5 + 11) + 45 * 14 ≤ R.locals by omega⟩⟩
  have hb : xDA 2 T_2 a := ⟨ha, hr, hC, (PROG_ok 2 _ _ rfl).2.2.2 a ha⟩
  have hna : xn1 a = 43 := by
    show ((xG a).2.1 1).toInt = _
    rw [hGa]
    exact hn
  obtain ⟨q1, q2⟩ := xd_end hb Me_43 (xEn_ok (by show _ ≤ xn1 a; omega) (by show xn1 a ≤ _; omega)) hF hEnd
  exact MG_43 hb (by omega) (by omega) q1 hF q2
theorem MM_44 {a0 : XA} (hcl : xCl a0 = xcl) (htf : xTf a0 = xtf) (hG : xGok (xG a0)) (hroom : xRoom 14 a0) (hn : xn1 a0 = 44) : xLe HM MH_44 ∧ xCon xTs xNW (xMT 2) a0 [.inr (.inr (.inl 118)), .inr (.inr (.inr (.inl (1, 0))))] HM (some (.inl 28)) MH_44 := by
  obtain ⟨p, l, e, R, s, m, args, below, meth, c, Q, G, nL, n0, s0, tyf⟩ := a0
  have htf : tyf = xtf := htf
  subst htf
  obtain ⟨r1, r2⟩ := hroom
  have hn : (G.2.1 1).toInt = 44 := hn
  refine ⟨⟨by decide +kernel, by decide +kernel⟩, ⟨_, xmet_go (d := 13) PROG_ok (mid := 2) (nL := 5) (tb := T_2) rfl rfl hcl hG (fun a ha hGa hr hC hF hEnd => ?_), rfl, rfl, show 14 + 1 ≤ R.frames by omega, show 8 + (5 + 11) + 45 * 14 ≤ R.locals by omega⟩⟩
  have hb : xDA 2 T_2 a := ⟨ha, hr, hC, (PROG_ok 2 _ _ rfl).2.2.2 a ha⟩
  have hna : xn1 a = 44 := by
    show ((xG a).2.1 1).toInt = _
    rw [hGa]
    exact hn
  obtain ⟨q1, q2⟩ := xd_end hb Me_44 (xEn_ok (by show _ ≤ xn1 a; omega) (by show xn1 a ≤ _; omega)) hF hEnd
  exact MG_44 hb (by omega) (by omega) q1 hF q2
theorem MM_45 {a0 : XA} (hcl : xCl a0 = xcl) (htf : xTf a0 = xtf) (hG : xGok (xG a0)) (hroom : xRoom 14 a0) (hn : xn1 a0 = 45) : xLe HM MH_45 ∧ xCon xTs xNW (xMT 2) a0 [.inr (.inr (.inl 118)), .inr (.inr (.inr (.inl (1, 0))))] HM (some (.inl 29)) MH_45 := by
  obtain ⟨p, l, e, R, s, m, args, below, meth, c, Q, G, nL, n0, s0, tyf⟩ := a0
  have htf : tyf = xtf := htf
  subst htf
  obtain ⟨r1, r2⟩ := hroom
  have hn : (G.2.1 1).toInt = 45 := hn
  refine ⟨⟨by decide +kernel, by decide +kernel⟩, ⟨_, xmet_go (d := 13) PROG_ok (mid := 2) (nL := 5) (tb := T_2) rfl rfl hcl hG (fun a ha hGa hr hC hF hEnd => ?_), rfl, rfl, show 14 + 1 ≤ R.frames by omega, show 8 + (5 + 11) + 45 * 14 ≤ R.locals by omega⟩⟩
  have hb : xDA 2 T_2 a := ⟨ha, hr, hC, (PROG_ok 2 _ _ rfl).2.2.2 a ha⟩
  have hna : xn1 a = 45 := by
    show ((xG a).2.1 1).toInt = _
    rw [hGa]
    exact hn
  obtain ⟨q1, q2⟩ := xd_end hb Me_45 (xEn_ok (by show _ ≤ xn1 a; omega) (by show xn1 a ≤ _; omega)) hF hEnd
  exact MG_45 hb (by omega) (by omega) q1 hF q2
theorem MM_46 {a0 : XA} (hcl : xCl a0 = xcl) (htf : xTf a0 = xtf) (hG : xGok (xG a0)) (hroom : xRoom 14 a0) (hn : xn1 a0 = 46) : xLe HM MH_46 ∧ xCon xTs xNW (xMT 2) a0 [.inr (.inr (.inl 118)), .inr (.inr (.inr (.inl (1, 0))))] HM (some (.inl 30)) MH_46 := by
  obtain ⟨p, l, e, R, s, m, args, below, meth, c, Q, G, nL, n0, s0, tyf⟩ := a0
  have htf : tyf = xtf := htf
  subst htf
  obtain ⟨r1, r2⟩ := hroom
  have hn : (G.2.1 1).toInt = 46 := hn
  refine ⟨⟨by decide +kernel, by decide +kernel⟩, ⟨_, xmet_go (d := 13) PROG_ok (mid := 2) (nL := 5) (tb := T_2) rfl rfl hcl hG (fun a ha hGa hr hC hF hEnd => ?_), rfl, rfl, show 14 + 1 ≤ R.frames by omega, show 8 + (5 + 11) + 45 * 14 ≤ R.locals by omega⟩⟩
  have hb : xDA 2 T_2 a := ⟨ha, hr, hC, (PROG_ok 2 _ _ rfl).2.2.2 a ha⟩
  have hna : xn1 a = 46 := by
    show ((xG a).2.1 1).toInt = _
    rw [hGa]
    exact hn
  obtain ⟨q1, q2⟩ := xd_end hb Me_46 (xEn_ok (by show _ ≤ xn1 a; omega) (by show xn1 a ≤ _; omega)) hF hEnd
  exact MG_46 hb (by omega) (by omega) q1 hF q2
theorem MM_47 {a0 : XA} (hcl : xCl a0 = xcl) (htf : xTf a0 = xtf) (hG : xGok (xG a0)) (hroom : xRoom 14 a0) (hn : xn1 a0 = 47) : xLe HM MH_47 ∧ xCon xTs xNW (xMT 2) a0 [.inr (.inr (.inl 118)), .inr (.inr (.inr (.inl (1, 0))))] HM (some (.inl 31)) MH_47 := by
  obtain ⟨p, l, e, R, s, m, args, below, meth, c, Q, G, nL, n0, s0, tyf⟩ := a0
  have htf : tyf = xtf := htf
  subst htf
  obtain ⟨r1, r2⟩ := hroom
  have hn : (G.2.1 1).toInt = 47 := hn
  refine ⟨⟨by decide +kernel, by decide +kernel⟩, ⟨_, xmet_go (d := 13) PROG_ok (mid := 2) (nL := 5) (tb := T_2) rfl rfl hcl hG (fun a ha hGa hr hC hF hEnd => ?_), rfl, rfl, show 14 + 1 ≤ R.frames by omega, show 8 + (5 + 11) + 45 * 14 ≤ R.locals by omega⟩⟩
  have hb : xDA 2 T_2 a := ⟨ha, hr, hC, (PROG_ok 2 _ _ rfl).2.2.2 a ha⟩
  have hna : xn1 a = 47 := by
    show ((xG a).2.1 1).toInt = _
    rw [hGa]
    exact hn
  obtain ⟨q1, q2⟩ := xd_end hb Me_47 (xEn_ok (by show _ ≤ xn1 a; omega) (by show xn1 a ≤ _; omega)) hF hEnd
  exact MG_47 hb (by omega) (by omega) q1 hF q2
theorem MM_48 {a0 : XA} (hcl : xCl a0 = xcl) (htf : xTf a0 = xtf) (hG : xGok (xG a0)) (hroom : xRoom 14 a0) (hn : xn1 a0 = 48) : xLe HM MH_48 ∧ xCon xTs xNW (xMT 2) a0 [.inr (.inr (.inl 118)), .inr (.inr (.inr (.inl (1, 0))))] HM (some (.inl 32)) MH_48 := by
  obtain ⟨p, l, e, R, s, m, args, below, meth, c, Q, G, nL, n0, s0, tyf⟩ := a0
  have htf : tyf = xtf := htf
  subst htf
  obtain ⟨r1, r2⟩ := hroom
  have hn : (G.2.1 1).toInt = 48 := hn
  refine ⟨⟨by decide +kernel, by decide +kernel⟩, ⟨_, xmet_go (d := 13) PROG_ok (mid := 2) (nL := 5) (tb := T_2) rfl rfl hcl hG (fun a ha hGa hr hC hF hEnd => ?_), rfl, rfl, show 14 + 1 ≤ R.frames by omega, show 8 + (5 + 11) + 45 * 14 ≤ R.locals by omega⟩⟩
  have hb : xDA 2 T_2 a := ⟨ha, hr, hC, (PROG_ok 2 _ _ rfl).2.2.2 a ha⟩
  have hna : xn1 a = 48 := by
    show ((xG a).2.1 1).toInt = _
    rw [hGa]
    exact hn
  obtain ⟨q1, q2⟩ := xd_end hb Me_48 (xEn_ok (by show _ ≤ xn1 a; omega) (by show xn1 a ≤ _; omega)) hF hEnd
  exact MG_48 hb (by omega) (by omega) q1 hF q2
theorem MM_49 {a0 : XA} (hcl : xCl a0 = xcl) (htf : xTf a0 = xtf) (hG : xGok (xG a0)) (hroom : xRoom 14 a0) (hn : xn1 a0 = 49) : xLe HM MH_49 ∧ xCon xTs xNW (xMT 2) a0 [.inr (.inr (.inl 118)), .inr (.inr (.inr (.inl (1, 0))))] HM (some (.inl 32)) MH_49 := by
  obtain ⟨p, l, e, R, s, m, args, below, meth, c, Q, G, nL, n0, s0, tyf⟩ := a0
  have htf : tyf = xtf := htf
  subst htf
  obtain ⟨r1, r2⟩ := hroom
  have hn : (G.2.1 1).toInt = 49 := hn
  refine ⟨⟨by decide +kernel, by decide +kernel⟩, ⟨_, xmet_go (d := 13) PROG_ok (mid := 2) (nL := 5) (tb := T_2) rfl rfl hcl hG (fun a ha hGa hr hC hF hEnd => ?_), rfl, rfl, show 14 + 1 ≤ R.frames by omega, show 8 + (5 + 11) + 45 * 14 ≤ R.locals by omega⟩⟩
  have hb : xDA 2 T_2 a := ⟨ha, hr, hC, (PROG_ok 2 _ _ rfl).2.2.2 a ha⟩
  have hna : xn1 a = 49 := by
    show ((xG a).2.1 1).toInt = _
    rw [hGa]
    exact hn
  obtain ⟨q1, q2⟩ := xd_end hb Me_49 (xEn_ok (by show _ ≤ xn1 a; omega) (by show xn1 a ≤ _; omega)) hF hEnd
  exact MG_49 hb (by omega) (by omega) q1 hF q2
theorem MM_50 {a0 : XA} (hcl : xCl a0 = xcl) (htf : xTf a0 = xtf) (hG : xGok (xG a0)) (hroom : xRoom 14 a0) (hn : xn1 a0 = 50) : xLe HM MH_50 ∧ xCon xTs xNW (xMT 2) a0 [.inr (.inr (.inl 118)), .inr (.inr (.inr (.inl (1, 0))))] HM (some (.inl 33)) MH_50 := by
  obtain ⟨p, l, e, R, s, m, args, below, meth, c, Q, G, nL, n0, s0, tyf⟩ := a0
  have htf : tyf = xtf := htf
  subst htf
  obtain ⟨r1, r2⟩ := hroom
  have hn : (G.2.1 1).toInt = 50 := hn
  refine ⟨⟨by decide +kernel, by decide +kernel⟩, ⟨_, xmet_go (d := 13) PROG_ok (mid := 2) (nL := 5) (tb := T_2) rfl rfl hcl hG (fun a ha hGa hr hC hF hEnd => ?_), rfl, rfl, show 14 + 1 ≤ R.frames by omega, show 8 + (5 + 11) + 45 * 14 ≤ R.locals by omega⟩⟩
  have hb : xDA 2 T_2 a := ⟨ha, hr, hC, (PROG_ok 2 _ _ rfl).2.2.2 a ha⟩
  have hna : xn1 a = 50 := by
    show ((xG a).2.1 1).toInt = _
    rw [hGa]
    exact hn
  obtain ⟨q1, q2⟩ := xd_end hb Me_50 (xEn_ok (by show _ ≤ xn1 a; omega) (by show xn1 a ≤ _; omega)) hF hEnd
  exact MG_50 hb (by omega) (by omega) q1 hF q2
theorem MM_51 {a0 : XA} (hcl : xCl a0 = xcl) (htf : xTf a0 = xtf) (hG : xGok (xG a0)) (hroom : xRoom 14 a0) (hn : xn1 a0 = 51) : xLe HM MH_51 ∧ xCon xTs xNW (xMT 2) a0 [.inr (.inr (.inl 118)), .inr (.inr (.inr (.inl (1, 0))))] HM (some (.inl 34)) MH_51 := by
  obtain ⟨p, l, e, R, s, m, args, below, meth, c, Q, G, nL, n0, s0, tyf⟩ := a0
  have htf : tyf = xtf := htf
  subst htf
  obtain ⟨r1, r2⟩ := hroom
  have hn : (G.2.1 1).toInt = 51 := hn
  refine ⟨⟨by decide +kernel, by decide +kernel⟩, ⟨_, xmet_go (d := 13) PROG_ok (mid := 2) (nL := 5) (tb := T_2) rfl rfl hcl hG (fun a ha hGa hr hC hF hEnd => ?_), rfl, rfl, show 14 + 1 ≤ R.frames by omega, show 8 + (5 + 11) + 45 * 14 ≤ R.locals by omega⟩⟩
  have hb : xDA 2 T_2 a := ⟨ha, hr, hC, (PROG_ok 2 _ _ rfl).2.2.2 a ha⟩
  have hna : xn1 a = 51 := by
    show ((xG a).2.1 1).toInt = _
    rw [hGa]
    exact hn
  obtain ⟨q1, q2⟩ := xd_end hb Me_51 (xEn_ok (by show _ ≤ xn1 a; omega) (by show xn1 a ≤ _; omega)) hF hEnd
  exact MG_51 hb (by omega) (by omega) q1 hF q2
theorem MM_52 {a0 : XA} (hcl : xCl a0 = xcl) (htf : xTf a0 = xtf) (hG : xGok (xG a0)) (hroom : xRoom 14 a0) (hn : xn1 a0 = 52) : xLe HM MH_52 ∧ xCon xTs xNW (xMT 2) a0 [.inr (.inr (.inl 118)), .inr (.inr (.inr (.inl (1, 0))))] HM (some (.inl 35)) MH_52 := by
  obtain ⟨p, l, e, R, s, m, args, below, meth, c, Q, G, nL, n0, s0, tyf⟩ := a0
  have htf : tyf = xtf := htf
  subst htf
  obtain ⟨r1, r2⟩ := hroom
  have hn : (G.2.1 1).toInt = 52 := hn
  refine ⟨⟨by decide +kernel, by decide +kernel⟩, ⟨_, xmet_go (d := 13) PROG_ok (mid := 2) (nL := 5) (tb := T_2) rfl rfl hcl hG (fun a ha hGa hr hC hF hEnd => ?_), rfl, rfl, show 14 + 1 ≤ R.frames by omega, show 8 + (5 + 11) + 45 * 14 ≤ R.locals by omega⟩⟩
  have hb : xDA 2 T_2 a := ⟨ha, hr, hC, (PROG_ok 2 _ _ rfl).2.2.2 a ha⟩
  have hna : xn1 a = 52 := by
    show ((xG a).2.1 1).toInt = _
    rw [hGa]
    exact hn
  obtain ⟨q1, q2⟩ := xd_end hb Me_52 (xEn_ok (by show _ ≤ xn1 a; omega) (by show xn1 a ≤ _; omega)) hF hEnd
  exact MG_52 hb (by omega) (by omega) q1 hF q2
theorem MM_53 {a0 : XA} (hcl : xCl a0 = xcl) (htf : xTf a0 = xtf) (hG : xGok (xG a0)) (hroom : xRoom 14 a0) (hn : xn1 a0 = 53) : xLe HM MH_53 ∧ xCon xTs xNW (xMT 2) a0 [.inr (.inr (.inl 118)), .inr (.inr (.inr (.inl (1, 0))))] HM (some (.inl 36)) MH_53 := by
  obtain ⟨p, l, e, R, s, m, args, below, meth, c, Q, G, nL, n0, s0, tyf⟩ := a0
  have htf : tyf = xtf := htf
  subst htf
  obtain ⟨r1, r2⟩ := hroom
  have hn : (G.2.1 1).toInt = 53 := hn
  refine ⟨⟨by decide +kernel, by decide +kernel⟩, ⟨_, xmet_go (d := 13) PROG_ok (mid := 2) (nL := 5) (tb := T_2) rfl rfl hcl hG (fun a ha hGa hr hC hF hEnd => ?_), rfl, rfl, show 14 + 1 ≤ R.frames by omega, show 8 + (5 + 11) + 45 * 14 ≤ R.locals by omega⟩⟩
  have hb : xDA 2 T_2 a := ⟨ha, hr, hC, (PROG_ok 2 _ _ rfl).2.2.2 a ha⟩
  have hna : xn1 a = 53 := by
    show ((xG a).2.1 1).toInt = _
    rw [hGa]
    exact hn
  obtain ⟨q1, q2⟩ := xd_end hb Me_53 (xEn_ok (by show _ ≤ xn1 a; omega) (by show xn1 a ≤ _; omega)) hF hEnd
  exact MG_53 hb (by omega) (by omega) q1 hF q2
theorem MM_54 {a0 : XA} (hcl : xCl a0 = xcl) (htf : xTf a0 = xtf) (hG : xGok (xG a0)) (hroom : xRoom 14 a0) (hn : xn1 a0 = 54) : xLe HM MH_54 ∧ xCon xTs xNW (xMT 2) a0 [.inr (.inr (.inl 118)), .inr (.inr (.inr (.inl (1, 0))))] HM (some (.inl 37)) MH_54 := by
  obtain ⟨p, l, e, R, s, m, args, below, meth, c, Q, G, nL, n0, s0, tyf⟩ := a0
  have htf : tyf = xtf := htf
  subst htf
  obtain ⟨r1, r2⟩ := hroom
  have hn : (G.2.1 1).toInt = 54 := hn
  refine ⟨⟨by decide +kernel, by decide +kernel⟩, ⟨_, xmet_go (d := 13) PROG_ok (mid := 2) (nL := 5) (tb := T_2) rfl rfl hcl hG (fun a ha hGa hr hC hF hEnd => ?_), rfl, rfl, show 14 + 1 ≤ R.frames by omega, show 8 + (5 + 11) + 45 * 14 ≤ R.locals by omega⟩⟩
  have hb : xDA 2 T_2 a := ⟨ha, hr, hC, (PROG_ok 2 _ _ rfl).2.2.2 a ha⟩
  have hna : xn1 a = 54 := by
    show ((xG a).2.1 1).toInt = _
    rw [hGa]
    exact hn
  obtain ⟨q1, q2⟩ := xd_end hb Me_54 (xEn_ok (by show _ ≤ xn1 a; omega) (by show xn1 a ≤ _; omega)) hF hEnd
  exact MG_54 hb (by omega) (by omega) q1 hF q2
theorem MM_55 {a0 : XA} (hcl : xCl a0 = xcl) (htf : xTf a0 = xtf) (hG : xGok (xG a0)) (hroom : xRoom 14 a0) (hn : xn1 a0 = 55) : xLe HM MH_55 ∧ xCon xTs xNW (xMT 2) a0 [.inr (.inr (.inl 118)), .inr (.inr (.inr (.inl (1, 0))))] HM (some (.inl 38)) MH_55 := by
  obtain ⟨p, l, e, R, s, m, args, below, meth, c, Q, G, nL, n0, s0, tyf⟩ := a0
  have htf : tyf = xtf := htf
  subst htf
  obtain ⟨r1, r2⟩ := hroom
  have hn : (G.2.1 1).toInt = 55 := hn
  refine ⟨⟨by decide +kernel, by decide +kernel⟩, ⟨_, xmet_go (d := 13) PROG_ok (mid := 2) (nL := 5) (tb := T_2) rfl rfl hcl hG (fun a ha hGa hr hC hF hEnd => ?_), rfl, rfl, show 14 + 1 ≤ R.frames by omega, show 8 + (5 + 11) + 45 * 14 ≤ R.locals by omega⟩⟩
  have hb : xDA 2 T_2 a := ⟨ha, hr, hC, (PROG_ok 2 _ _ rfl).2.2.2 a ha⟩
  have hna : xn1 a = 55 := by
    show ((xG a).2.1 1).toInt = _
    rw [hGa]
    exact hn
  obtain ⟨q1, q2⟩ := xd_end hb Me_55 (xEn_ok (by show _ ≤ xn1 a; omega) (by show xn1 a ≤ _; omega)) hF hEnd
  exact MG_55 hb (by omega) (by omega) q1 hF q2
theorem MM_56 {a0 : XA} (hcl : xCl a0 = xcl) (htf : xTf a0 = xtf) (hG : xGok (xG a0)) (hroom : xRoom 14 a0) (hn : xn1 a0 = 56) : xLe HM MH_56 ∧ xCon xTs xNW (xMT 2) a0 [.inr (.inr (.inl 118)), .inr (.inr (.inr (.inl (1, 0))))] HM (some (.inl 39)) MH_56 := by
  obtain ⟨p, l, e, R, s, m, args, below, meth, c, Q, G, nL, n0, s0, tyf⟩ := a0
  have htf : tyf = xtf := htf
  subst htf
  obtain ⟨r1, r2⟩ := hroom
  have hn : (G.2.1 1).toInt = 56 := hn
  refine ⟨⟨by decide +kernel, by decide +kernel⟩, ⟨_, xmet_go (d := 13) PROG_ok (mid := 2) (nL := 5) (tb := T_2) rfl rfl hcl hG (fun a ha hGa hr hC hF hEnd => ?_), rfl, rfl, show 14 + 1 ≤ R.frames by omega, show 8 + (5 + 11) + 45 * 14 ≤ R.locals by omega⟩⟩
  have hb : xDA 2 T_2 a := ⟨ha, hr, hC, (PROG_ok 2 _ _ rfl).2.2.2 a ha⟩
  have hna : xn1 a = 56 := by
    show ((xG a).2.1 1).toInt = _
    rw [hGa]
    exact hn
  obtain ⟨q1, q2⟩ := xd_end hb Me_56 (xEn_ok (by show _ ≤ xn1 a; omega) (by show xn1 a ≤ _; omega)) hF hEnd
  exact MG_56 hb (by omega) (by omega) q1 hF q2
theorem MM_57 {a0 : XA} (hcl : xCl a0 = xcl) (htf : xTf a0 = xtf) (hG : xGok (xG a0)) (hroom : xRoom 14 a0) (hn : xn1 a0 = 57) : xLe HM MH_57 ∧ xCon xTs xNW (xMT 2) a0 [.inr (.inr (.inl 118)), .inr (.inr (.inr (.inl (1, 0))))] HM (some (.inl 40)) MH_57 := by
  obtain ⟨p, l, e, R, s, m, args, below, meth, c, Q, G, nL, n0, s0, tyf⟩ := a0
  have htf : tyf = xtf := htf
  subst htf
  obtain ⟨r1, r2⟩ := hroom
  have hn : (G.2.1 1).toInt = 57 := hn
  refine ⟨⟨by decide +kernel, by decide +kernel⟩, ⟨_, xmet_go (d := 13) PROG_ok (mid := 2) (nL := 5) (tb := T_2) rfl rfl hcl hG (fun a ha hGa hr hC hF hEnd => ?_), rfl, rfl, show 14 + 1 ≤ R.frames by omega, show 8 + (5 + 11) + 45 * 14 ≤ R.locals by omega⟩⟩
  have hb : xDA 2 T_2 a := ⟨ha, hr, hC, (PROG_ok 2 _ _ rfl).2.2.2 a ha⟩
  have hna : xn1 a = 57 := by
    show ((xG a).2.1 1).toInt = _
    rw [hGa]
    exact hn
  obtain ⟨q1, q2⟩ := xd_end hb Me_57 (xEn_ok (by show _ ≤ xn1 a; omega) (by show xn1 a ≤ _; omega)) hF hEnd
  exact MG_57 hb (by omega) (by omega) q1 hF q2
theorem MM_58 {a0 : XA} (hcl : xCl a0 = xcl) (htf : xTf a0 = xtf) (hG : xGok (xG a0)) (hroom : xRoom 14 a0) (hn : xn1 a0 = 58) : xLe HM MH_58 ∧ xCon xTs xNW (xMT 2) a0 [.inr (.inr (.inl 118)), .inr (.inr (.inr (.inl (1, 0))))] HM (some (.inl 41)) MH_58 := by
  obtain ⟨p, l, e, R, s, m, args, below, meth, c, Q, G, nL, n0, s0, tyf⟩ := a0
  have htf : tyf = xtf := htf
  subst htf
  obtain ⟨r1, r2⟩ := hroom
  have hn : (G.2.1 1).toInt = 58 := hn
  refine ⟨⟨by decide +kernel, by decide +kernel⟩, ⟨_, xmet_go (d := 13) PROG_ok (mid := 2) (nL := 5) (tb := T_2) rfl rfl hcl hG (fun a ha hGa hr hC hF hEnd => ?_), rfl, rfl, show 14 + 1 ≤ R.frames by omega, show 8 + (5 + 11) + 45 * 14 ≤ R.locals by omega⟩⟩
  have hb : xDA 2 T_2 a := ⟨ha, hr, hC, (PROG_ok 2 _ _ rfl).2.2.2 a ha⟩
  have hna : xn1 a = 58 := by
    show ((xG a).2.1 1).toInt = _
    rw [hGa]
    exact hn
  obtain ⟨q1, q2⟩ := xd_end hb Me_58 (xEn_ok (by show _ ≤ xn1 a; omega) (by show xn1 a ≤ _; omega)) hF hEnd
  exact MG_58 hb (by omega) (by omega) q1 hF q2
theorem MM_59 {a0 : XA} (hcl : xCl a0 = xcl) (htf : xTf a0 = xtf) (hG : xGok (xG a0)) (hroom : xRoom 14 a0) (hn : xn1 a0 = 59) : xLe HM MH_59 ∧ xCon xTs xNW (xMT 2) a0 [.inr (.inr (.inl 118)), .inr (.inr (.inr (.inl (1, 0))))] HM (some (.inl 42)) MH_59 := by
  obtain ⟨p, l, e, R, s, m, args, below, meth, c, Q, G, nL, n0, s0, tyf⟩ := a0
  have htf : tyf = xtf := htf
  subst htf
  obtain ⟨r1, r2⟩ := hroom
  have hn : (G.2.1 1).toInt = 59 := hn
  refine ⟨⟨by decide +kernel, by decide +kernel⟩, ⟨_, xmet_go (d := 13) PROG_ok (mid := 2) (nL := 5) (tb := T_2) rfl rfl hcl hG (fun a ha hGa hr hC hF hEnd => ?_), rfl, rfl, show 14 + 1 ≤ R.frames by omega, show 8 + (5 + 11) + 45 * 14 ≤ R.locals by omega⟩⟩
  have hb : xDA 2 T_2 a := ⟨ha, hr, hC, (PROG_ok 2 _ _ rfl).2.2.2 a ha⟩
  have hna : xn1 a = 59 := by
    show ((xG a).2.1 1).toInt = _
    rw [hGa]
    exact hn
  obtain ⟨q1, q2⟩ := xd_end hb Me_59 (xEn_ok (by show _ ≤ xn1 a; omega) (by show xn1 a ≤ _; omega)) hF hEnd
  exact MG_59 hb (by omega) (by omega) q1 hF q2
theorem MM_60 {a0 : XA} (hcl : xCl a0 = xcl) (htf : xTf a0 = xtf) (hG : xGok (xG a0)) (hroom : xRoom 14 a0) (hn : xn1 a0 = 60) : xLe HM MH_60 ∧ xCon xTs xNW (xMT 2) a0 [.inr (.inr (.inl 118)), .inr (.inr (.inr (.inl (1, 0))))] HM (some (.inl 43)) MH_60 := by
  obtain ⟨p, l, e, R, s, m, args, below, meth, c, Q, G, nL, n0, s0, tyf⟩ := a0
  have htf : tyf = xtf := htf
  subst htf
  obtain ⟨r1, r2⟩ := hroom
  have hn : (G.2.1 1).toInt = 60 := hn
  refine ⟨⟨by decide +kernel, by decide +kernel⟩, ⟨_, xmet_go (d := 13) PROG_ok (mid := 2) (nL := 5) (tb := T_2) rfl rfl hcl hG (fun a ha hGa hr hC hF hEnd => ?_), rfl, rfl, show 14 + 1 ≤ R.frames by omega, show 8 + (5 + 11) + 45 * 14 ≤ R.locals by omega⟩⟩
  have hb : xDA 2 T_2 a := ⟨ha, hr, hC, (PROG_ok 2 _ _ rfl).2.2.2 a ha⟩
  have hna : xn1 a = 60 := by
    show ((xG a).2.1 1).toInt = _
    rw [hGa]
    exact hn
  obtain ⟨q1, q2⟩ := xd_end hb Me_60 (xEn_ok (by show _ ≤ xn1 a; omega) (by show xn1 a ≤ _; omega)) hF hEnd
  exact MG_60 hb (by omega) (by omega) q1 hF q2
