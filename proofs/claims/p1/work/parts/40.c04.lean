theorem Ct_45 : e_s (xtwo (xcall PROG FN 13) 37 22 T_3 (xEn 45 60) FN CC_44) CC_45 = true := by decide +kernel
theorem Ce_45 : e_r (xloop (xcall PROG FN 13) FN T_3 (xEn 45 45) CC_45) (some (.inl 29), CH_45) = true := by decide +kernel
theorem Ct_46 : e_s (xtwo (xcall PROG FN 13) 37 22 T_3 (xEn 46 60) FN CC_45) CC_46 = true := by decide +kernel
theorem Ce_46 : e_r (xloop (xcall PROG FN 13) FN T_3 (xEn 46 46) CC_46) (some (.inl 30), CH_46) = true := by decide +kernel
theorem Ct_47 : e_s (xtwo (xcall PROG FN 13) 37 22 T_3 (xEn 47 60) FN CC_46) CC_47 = true := by decide +kernel
theorem Ce_47 : e_r (xloop (xcall PROG FN 13) FN T_3 (xEn 47 47) CC_47) (some (.inl 31), CH_47) = true := by decide +kernel
theorem Ct_48 : e_s (xtwo (xcall PROG FN 13) 37 22 T_3 (xEn 48 60) FN CC_47) CC_48 = true := by decide +kernel
theorem Ce_48 : e_r (xloop (xcall PROG FN 13) FN T_3 (xEn 48 48) CC_48) (some (.inl 32), CH_48) = true := by decide +kernel
theorem Ct_49 : e_s (xtwo (xcall PROG FN 13) 37 22 T_3 (xEn 49 60) FN CC_48) CC_49 = true := by decide +kernel
theorem Ce_49 : e_r (xloop (xcall PROG FN 13) FN T_3 (xEn 49 49) CC_49) (some (.inl 32), CH_49) = true := by decide +kernel
theorem Ct_50 : e_s (xtwo (xcall PROG FN 13) 37 22 T_3 (xEn 50 60) FN CC_49) CC_50 = true := by decide +kernel
theorem Ce_50 : e_r (xloop (xcall PROG FN 13) FN T_3 (xEn 50 50) CC_50) (some (.inl 33), CH_50) = true := by decide +kernel
