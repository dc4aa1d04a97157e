theorem Ct_54 : e_s (xtwo (xcall PROG FN 13) 37 22 T_3 (xEn 54 60) FN CC_53) CC_54 = true := by decide +kernel
theorem Ce_54 : e_r (xloop (xcall PROG FN 13) FN T_3 (xEn 54 54) CC_54) (some (.inl 37), CH_54) = true := by decide +kernel
theorem Ct_55 : e_s (xtwo (xcall PROG FN 13) 37 22 T_3 (xEn 55 60) FN CC_54) CC_55 = true := by decide +kernel
theorem Ce_55 : e_r (xloop (xcall PROG FN 13) FN T_3 (xEn 55 55) CC_55) (some (.inl 38), CH_55) = true := by decide +kernel
theorem Ct_56 : e_s (xtwo (xcall PROG FN 13) 37 22 T_3 (xEn 56 60) FN CC_55) CC_56 = true := by decide +kernel
theorem Ce_56 : e_r (xloop (xcall PROG FN 13) FN T_3 (xEn 56 56) CC_56) (some (.inl 39), CH_56) = true := by decide +kernel
theorem Ct_57 : e_s (xtwo (xcall PROG FN 13) 37 22 T_3 (xEn 57 60) FN CC_56) CC_57 = true := by decide +kernel
theorem Ce_57 : e_r (xloop (xcall PROG FN 13) FN T_3 (xEn 57 57) CC_57) (some (.inl 40), CH_57) = true := by decide +kernel
theorem Ct_58 : e_s (xtwo (xcall PROG FN 13) 37 22 T_3 (xEn 58 60) FN CC_57) CC_58 = true := by decide +kernel
theorem Ce_58 : e_r (xloop (xcall PROG FN 13) FN T_3 (xEn 58 58) CC_58) (some (.inl 41), CH_58) = true := by decide +kernel
