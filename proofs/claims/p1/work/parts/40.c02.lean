theorem Ct_33 : e_s (xtwo (xcall PROG FN 13) 37 22 T_3 (xEn 33 60) FN CC_32) CC_33 = true := by decide +kernel
theorem Ce_33 : e_r (xloop (xcall PROG FN 13) FN T_3 (xEn 33 33) CC_33) (some (.inl 18), CH_33) = true := by decide +kernel
theorem Ct_34 : e_s (xtwo (xcall PROG FN 13) 37 22 T_3 (xEn 34 60) FN CC_33) CC_34 = true := by decide +kernel
theorem Ce_34 : e_r (xloop (xcall PROG FN 13) FN T_3 (xEn 34 34) CC_34) (some (.inl 19), CH_34) = true := by decide +kernel
theorem Ct_35 : e_s (xtwo (xcall PROG FN 13) 37 22 T_3 (xEn 35 60) FN CC_34) CC_35 = true := by decide +kernel
theorem Ce_35 : e_r (xloop (xcall PROG FN 13) FN T_3 (xEn 35 35) CC_35) (some (.inl 20), CH_35) = true := by decide +kernel
theorem Ct_36 : e_s (xtwo (xcall PROG FN 13) 37 22 T_3 (xEn 36 60) FN CC_35) CC_36 = true := by decide +kernel
theorem Ce_36 : e_r (xloop (xcall PROG FN 13) FN T_3 (xEn 36 36) CC_36) (some (.inl 21), CH_36) = true := by decide +kernel
theorem Ct_37 : e_s (xtwo (xcall PROG FN 13) 37 22 T_3 (xEn 37 60) FN CC_36) CC_37 = true := by decide +kernel
theorem Ce_37 : e_r (xloop (xcall PROG FN 13) FN T_3 (xEn 37 37) CC_37) (some (.inl 22), CH_37) = true := by decide +kernel
theorem Ct_38 : e_s (xtwo (xcall PROG FN 13) 37 22 T_3 (xEn 38 60) FN CC_37) CC_38 = true := by decide +kernel
theorem Ce_38 : e_r (xloop (xcall PROG FN 13) FN T_3 (xEn 38 38) CC_38) (some (.inl 23), CH_38) = true := by decide +kernel
