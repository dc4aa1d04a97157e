theorem Ct_27 : e_s (xtwo (xcall PROG FN 13) 37 22 T_3 (xEn 27 60) FN CC_26) CC_27 = true := by decide +kernel
theorem Ce_27 : e_r (xloop (xcall PROG FN 13) FN T_3 (xEn 27 27) CC_27) (some (.inl 12), CH_27) = true := by decide +kernel
theorem Ct_28 : e_s (xtwo (xcall PROG FN 13) 37 22 T_3 (xEn 28 60) FN CC_27) CC_28 = true := by decide +kernel
theorem Ce_28 : e_r (xloop (xcall PROG FN 13) FN T_3 (xEn 28 28) CC_28) (some (.inl 13), CH_28) = true := by decide +kernel
theorem Ct_29 : e_s (xtwo (xcall PROG FN 13) 37 22 T_3 (xEn 29 60) FN CC_28) CC_29 = true := by decide +kernel
theorem Ce_29 : e_r (xloop (xcall PROG FN 13) FN T_3 (xEn 29 29) CC_29) (some (.inl 14), CH_29) = true := by decide +kernel
theorem Ct_30 : e_s (xtwo (xcall PROG FN 13) 37 22 T_3 (xEn 30 60) FN CC_29) CC_30 = true := by decide +kernel
theorem Ce_30 : e_r (xloop (xcall PROG FN 13) FN T_3 (xEn 30 30) CC_30) (some (.inl 15), CH_30) = true := by decide +kernel
theorem Ct_31 : e_s (xtwo (xcall PROG FN 13) 37 22 T_3 (xEn 31 60) FN CC_30) CC_31 = true := by decide +kernel
theorem Ce_31 : e_r (xloop (xcall PROG FN 13) FN T_3 (xEn 31 31) CC_31) (some (.inl 16), CH_31) = true := by decide +kernel
theorem K32t_1 : e_s (xstops (xcall PROG FN 12) T_113 (xEn 32 60) FN [302, 269, 302, 269, 302, 269] K32C_0) K32C_1 = true := by decide +kernel
theorem K32t_2 : e_s (xstops (xcall PROG FN 12) T_113 (xEn 32 60) FN [302, 269, 302, 269, 302, 269] K32C_1) K32C_2 = true := by decide +kernel
theorem K32e : e_r (xloop (xcall PROG FN 12) FN T_113 (xEn 32 60) K32C_2) (none, K32Q) = true := by decide +kernel
theorem Ct_32 : e_s (xstops (xtold (xcall PROG FN 13) 113 [.inr (.inr (.inl 111)), .inl 61, .inr (.inr (.inl 105)), .inr (.inr (.inl 50))] K32P (none, K32Q)) T_3 (xEn 32 60) FN [37, 22] CC_31) CC_32 = true := by decide +kernel
theorem Ce_32 : e_r (xloop (xcall PROG FN 13) FN T_3 (xEn 32 32) CC_32) (some (.inl 17), CH_32) = true := by decide +kernel
