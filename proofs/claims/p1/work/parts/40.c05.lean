theorem Ct_51 : e_s (xtwo (xcall PROG FN 13) 37 22 T_3 (xEn 51 60) FN CC_50) CC_51 = true := by decide +kernel
theorem Ce_51 : e_r (xloop (xcall PROG FN 13) FN T_3 (xEn 51 51) CC_51) (some (.inl 34), CH_51) = true := by decide +kernel
theorem Ct_52 : e_s (xtwo (xcall PROG FN 13) 37 22 T_3 (xEn 52 60) FN CC_51) CC_52 = true := by decide +kernel
theorem Ce_52 : e_r (xloop (xcall PROG FN 13) FN T_3 (xEn 52 52) CC_52) (some (.inl 35), CH_52) = true := by decide +kernel
theorem Ct_53 : e_s (xtwo (xcall PROG FN 13) 37 22 T_3 (xEn 53 60) FN CC_52) CC_53 = true := by decide +kernel
theorem Ce_53 : e_r (xloop (xcall PROG FN 13) FN T_3 (xEn 53 53) CC_53) (some (.inl 36), CH_53) = true := by decide +kernel
