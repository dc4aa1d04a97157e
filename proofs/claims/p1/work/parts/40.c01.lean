theorem Ct_30 : e_s (xtwo (xcall PROG FN 13) 37 22 T_3 (xEn 30 60) FN CC_29) CC_30 = true := by decide +kernel
theorem Ce_30 : e_r (xloop (xcall PROG FN 13) FN T_3 (xEn 30 30) CC_30) (some (.inl 15), CH_30) = true := by decide +kernel
theorem Ct_31 : e_s (xtwo (xcall PROG FN 13) 37 22 T_3 (xEn 31 60) FN CC_30) CC_31 = true := by decide +kernel
theorem Ce_31 : e_r (xloop (xcall PROG FN 13) FN T_3 (xEn 31 31) CC_31) (some (.inl 16), CH_31) = true := by decide +kernel
theorem K32t_1 : e_s (xstops (xcall PROG FN 12) T_109 (xEn 32 60) FN [232, 183, 232, 183, 232, 183] K32C_0) K32C_1 = true := by decide +kernel
theorem K32t_2 : e_s (xstops (xcall PROG FN 12) T_109 (xEn 32 60) FN [232, 183, 232, 183, 232, 183] K32C_1) K32C_2 = true := by decide +kernel
theorem K32e : e_r (xloop (xcall PROG FN 12) FN T_109 (xEn 32 60) K32C_2) (none, K32Q) = true := by decide +kernel
theorem Ct_32 : e_s (xstops (xtold (xcall PROG FN 13) 109 [.inr (.inr (.inl 123)), .inr (.inr (.inl 107)), .inr (.inr (.inl 109)), .inr (.inr (.inl 41))] K32P (none, K32Q)) T_3 (xEn 32 60) FN [37, 22] CC_31) CC_32 = true := by decide +kernel
theorem Ce_32 : e_r (xloop (xcall PROG FN 13) FN T_3 (xEn 32 32) CC_32) (some (.inl 17), CH_32) = true := by decide +kernel
theorem Ct_33 : e_s (xtwo (xcall PROG FN 13) 37 22 T_3 (xEn 33 60) FN CC_32) CC_33 = true := by decide +kernel
theorem Ce_33 : e_r (xloop (xcall PROG FN 13) FN T_3 (xEn 33 33) CC_33) (some (.inl 18), CH_33) = true := by decide +kernel
theorem Ct_34 : e_s (xtwo (xcall PROG FN 13) 37 22 T_3 (xEn 34 60) FN CC_33) CC_34 = true := by decide +kernel
theorem Ce_34 : e_r (xloop (xcall PROG FN 13) FN T_3 (xEn 34 34) CC_34) (some (.inl 19), CH_34) = true := by decide +kernel
