theorem Ct_39 : e_s (xtwo (xcall PROG FN 13) 37 22 T_3 (xEn 39 60) FN CC_38) CC_39 = true := by decide +kernel
theorem Ce_39 : e_r (xloop (xcall PROG FN 13) FN T_3 (xEn 39 39) CC_39) (some (.inl 24), CH_39) = true := by decide +kernel
theorem Ct_40 : e_s (xtwo (xcall PROG FN 13) 37 22 T_3 (xEn 40 60) FN CC_39) CC_40 = true := by decide +kernel
theorem Ce_40 : e_r (xloop (xcall PROG FN 13) FN T_3 (xEn 40 40) CC_40) (some (.inl 25), CH_40) = true := by decide +kernel
theorem Ct_41 : e_s (xtwo (xcall PROG FN 13) 37 22 T_3 (xEn 41 60) FN CC_40) CC_41 = true := by decide +kernel
theorem Ce_41 : e_r (xloop (xcall PROG FN 13) FN T_3 (xEn 41 41) CC_41) (some (.inl 26), CH_41) = true := by decide +kernel
theorem Ct_42 : e_s (xtwo (xcall PROG FN 13) 37 22 T_3 (xEn 42 60) FN CC_41) CC_42 = true := by decide +kernel
theorem Ce_42 : e_r (xloop (xcall PROG FN 13) FN T_3 (xEn 42 42) CC_42) (some (.inl 27), CH_42) = true := by decide +kernel
theorem Ct_43 : e_s (xtwo (xcall PROG FN 13) 37 22 T_3 (xEn 43 60) FN CC_42) CC_43 = true := by decide +kernel
theorem Ce_43 : e_r (xloop (xcall PROG FN 13) FN T_3 (xEn 43 43) CC_43) (some (.inl 27), CH_43) = true := by decide +kernel
theorem K44t_1 : e_s (xstops (xcall PROG FN 12) T_113 (xEn 44 60) FN [302, 269, 302, 269] K44C_0) K44C_1 = true := by decide +kernel
theorem K44t_2 : e_s (xstops (xcall PROG FN 12) T_113 (xEn 44 60) FN [302, 269] K44C_1) K44C_2 = true := by decide +kernel
theorem K44t_3 : e_s (xstops (xcall PROG FN 12) T_113 (xEn 44 60) FN [302, 269, 302, 269] K44C_2) K44C_3 = true := by decide +kernel
theorem K44t_4 : e_s (xstops (xcall PROG FN 12) T_113 (xEn 44 60) FN [302, 269, 302, 269] K44C_3) K44C_4 = true := by decide +kernel
theorem K44e : e_r (xloop (xcall PROG FN 12) FN T_113 (xEn 44 60) K44C_4) (none, K44Q) = true := by decide +kernel
theorem Ct_44 : e_s (xstops (xtold (xcall PROG FN 13) 113 [.inr (.inr (.inl 111)), .inl 61, .inr (.inr (.inl 105)), .inr (.inr (.inl 50))] K44P (none, K44Q)) T_3 (xEn 44 60) FN [37, 22] CC_43) CC_44 = true := by decide +kernel
theorem Ce_44 : e_r (xloop (xcall PROG FN 13) FN T_3 (xEn 44 44) CC_44) (some (.inl 28), CH_44) = true := by decide +kernel
