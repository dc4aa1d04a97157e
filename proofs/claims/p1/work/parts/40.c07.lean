theorem Ct_59 : e_s (xtwo (xcall PROG FN 13) 37 22 T_3 (xEn 59 60) FN CC_58) CC_59 = true := by decide +kernel
theorem Ce_59 : e_r (xloop (xcall PROG FN 13) FN T_3 (xEn 59 59) CC_59) (some (.inl 42), CH_59) = true := by decide +kernel
theorem Ct_60 : e_s (xtwo (xcall PROG FN 13) 37 22 T_3 (xEn 60 60) FN CC_59) CC_60 = true := by decide +kernel
theorem Ce_60 : e_r (xloop (xcall PROG FN 13) FN T_3 (xEn 60 60) CC_60) (some (.inl 43), CH_60) = true := by decide +kernel
