theorem Ct_0 : e_s (xrun (xcall PROG FN 13) 22 T_3 (xEn 1 60) FN (0, (xentry [.inr (.inr (.inl 4)), .inr (.inr (.inr (.inl (1, 0))))] 7, ([], HS)))) CC_0 = true := by decide +kernel
theorem Ct_1 : e_s (xtwo (xcall PROG FN 13) 37 22 T_3 (xEn 1 60) FN CC_0) CC_1 = true := by decide +kernel
theorem Ce_1 : e_r (xloop (xcall PROG FN 13) FN T_3 (xEn 1 1) CC_1) (some (.inl 0), CH_1) = true := by decide +kernel
theorem Ct_2 : e_s (xtwo (xcall PROG FN 13) 37 22 T_3 (xEn 2 60) FN CC_1) CC_2 = true := by decide +kernel
theorem Ce_2 : e_r (xloop (xcall PROG FN 13) FN T_3 (xEn 2 2) CC_2) (some (.inl 0), CH_2) = true := by decide +kernel
theorem Ct_3 : e_s (xtwo (xcall PROG FN 13) 37 22 T_3 (xEn 3 60) FN CC_2) CC_3 = true := by decide +kernel
theorem Ce_3 : e_r (xloop (xcall PROG FN 13) FN T_3 (xEn 3 3) CC_3) (some (.inl 0), CH_3) = true := by decide +kernel
theorem Ct_4 : e_s (xtwo (xcall PROG FN 13) 37 22 T_3 (xEn 4 60) FN CC_3) CC_4 = true := by decide +kernel
theorem Ce_4 : e_r (xloop (xcall PROG FN 13) FN T_3 (xEn 4 4) CC_4) (some (.inl 0), CH_4) = true := by decide +kernel
theorem Ct_5 : e_s (xtwo (xcall PROG FN 13) 37 22 T_3 (xEn 5 60) FN CC_4) CC_5 = true := by decide +kernel
theorem Ce_5 : e_r (xloop (xcall PROG FN 13) FN T_3 (xEn 5 5) CC_5) (some (.inl 0), CH_5) = true := by decide +kernel
theorem Ct_6 : e_s (xtwo (xcall PROG FN 13) 37 22 T_3 (xEn 6 60) FN CC_5) CC_6 = true := by decide +kernel
theorem Ce_6 : e_r (xloop (xcall PROG FN 13) FN T_3 (xEn 6 6) CC_6) (some (.inl 0), CH_6) = true := by decide +kernel
theorem Ct_7 : e_s (xtwo (xcall PROG FN 13) 37 22 T_3 (xEn 7 60) FN CC_6) CC_7 = true := by decide +kernel
theorem Ce_7 : e_r (xloop (xcall PROG FN 13) FN T_3 (xEn 7 7) CC_7) (some (.inl 0), CH_7) = true := by decide +kernel
theorem Ct_8 : e_s (xtwo (xcall PROG FN 13) 37 22 T_3 (xEn 8 60) FN CC_7) CC_8 = true := by decide +kernel
theorem Ce_8 : e_r (xloop (xcall PROG FN 13) FN T_3 (xEn 8 8) CC_8) (some (.inl 0), CH_8) = true := by decide +kernel
theorem Ct_9 : e_s (xtwo (xcall PROG FN 13) 37 22 T_3 (xEn 9 60) FN CC_8) CC_9 = true := by decide +kernel
theorem Ce_9 : e_r (xloop (xcall PROG FN 13) FN T_3 (xEn 9 9) CC_9) (some (.inl 0), CH_9) = true := by decide +kernel
theorem Ct_10 : e_s (xtwo (xcall PROG FN 13) 37 22 T_3 (xEn 10 60) FN CC_9) CC_10 = true := by decide +kernel
theorem Ce_10 : e_r (xloop (xcall PROG FN 13) FN T_3 (xEn 10 10) CC_10) (some (.inl 0), CH_10) = true := by decide +kernel
theorem Ct_11 : e_s (xtwo (xcall PROG FN 13) 37 22 T_3 (xEn 11 60) FN CC_10) CC_11 = true := by decide +kernel
theorem Ce_11 : e_r (xloop (xcall PROG FN 13) FN T_3 (xEn 11 11) CC_11) (some (.inl 1), CH_11) = true := by decide +kernel
theorem Ct_12 : e_s (xtwo (xcall PROG FN 13) 37 22 T_3 (xEn 12 60) FN CC_11) CC_12 = true := by decide +kernel
theorem Ce_12 : e_r (xloop (xcall PROG FN 13) FN T_3 (xEn 12 12) CC_12) (some (.inl 1), CH_12) = true := by decide +kernel
theorem Ct_13 : e_s (xtwo (xcall PROG FN 13) 37 22 T_3 (xEn 13 60) FN CC_12) CC_13 = true := by decide +kernel
theorem Ce_13 : e_r (xloop (xcall PROG FN 13) FN T_3 (xEn 13 13) CC_13) (some (.inl 2), CH_13) = true := by decide +kernel
theorem Ct_14 : e_s (xtwo (xcall PROG FN 13) 37 22 T_3 (xEn 14 60) FN CC_13) CC_14 = true := by decide +kernel
theorem Ce_14 : e_r (xloop (xcall PROG FN 13) FN T_3 (xEn 14 14) CC_14) (some (.inl 3), CH_14) = true := by decide +kernel
theorem Ct_15 : e_s (xtwo (xcall PROG FN 13) 37 22 T_3 (xEn 15 60) FN CC_14) CC_15 = true := by decide +kernel
theorem Ce_15 : e_r (xloop (xcall PROG FN 13) FN T_3 (xEn 15 15) CC_15) (some (.inl 4), CH_15) = true := by decide +kernel
theorem Ct_16 : e_s (xtwo (xcall PROG FN 13) 37 22 T_3 (xEn 16 60) FN CC_15) CC_16 = true := by decide +kernel
theorem Ce_16 : e_r (xloop (xcall PROG FN 13) FN T_3 (xEn 16 16) CC_16) (some (.inl 5), CH_16) = true := by decide +kernel
theorem Ct_17 : e_s (xtwo (xcall PROG FN 13) 37 22 T_3 (xEn 17 60) FN CC_16) CC_17 = true := by decide +kernel
theorem Ce_17 : e_r (xloop (xcall PROG FN 13) FN T_3 (xEn 17 17) CC_17) (some (.inl 6), CH_17) = true := by decide +kernel
theorem Ct_18 : e_s (xtwo (xcall PROG FN 13) 37 22 T_3 (xEn 18 60) FN CC_17) CC_18 = true := by decide +kernel
theorem Ce_18 : e_r (xloop (xcall PROG FN 13) FN T_3 (xEn 18 18) CC_18) (some (.inl 6), CH_18) = true := by decide +kernel
theorem Ct_19 : e_s (xtwo (xcall PROG FN 13) 37 22 T_3 (xEn 19 60) FN CC_18) CC_19 = true := by decide +kernel
theorem Ce_19 : e_r (xloop (xcall PROG FN 13) FN T_3 (xEn 19 19) CC_19) (some (.inl 7), CH_19) = true := by decide +kernel
theorem Ct_20 : e_s (xtwo (xcall PROG FN 13) 37 22 T_3 (xEn 20 60) FN CC_19) CC_20 = true := by decide +kernel
theorem Ce_20 : e_r (xloop (xcall PROG FN 13) FN T_3 (xEn 20 20) CC_20) (some (.inl 8), CH_20) = true := by decide +kernel
theorem Ct_21 : e_s (xtwo (xcall PROG FN 13) 37 22 T_3 (xEn 21 60) FN CC_20) CC_21 = true := by decide +kernel
theorem Ce_21 : e_r (xloop (xcall PROG FN 13) FN T_3 (xEn 21 21) CC_21) (some (.inl 8), CH_21) = true := by decide +kernel
theorem Ct_22 : e_s (xtwo (xcall PROG FN 13) 37 22 T_3 (xEn 22 60) FN CC_21) CC_22 = true := by decide +kernel
theorem Ce_22 : e_r (xloop (xcall PROG FN 13) FN T_3 (xEn 22 22) CC_22) (some (.inl 9), CH_22) = true := by decide +kernel
theorem Ct_23 : e_s (xtwo (xcall PROG FN 13) 37 22 T_3 (xEn 23 60) FN CC_22) CC_23 = true := by decide +kernel
theorem Ce_23 : e_r (xloop (xcall PROG FN 13) FN T_3 (xEn 23 23) CC_23) (some (.inl 10), CH_23) = true := by decide +kernel
theorem Ct_24 : e_s (xtwo (xcall PROG FN 13) 37 22 T_3 (xEn 24 60) FN CC_23) CC_24 = true := by decide +kernel
theorem Ce_24 : e_r (xloop (xcall PROG FN 13) FN T_3 (xEn 24 24) CC_24) (some (.inl 10), CH_24) = true := by decide +kernel
theorem Ct_25 : e_s (xtwo (xcall PROG FN 13) 37 22 T_3 (xEn 25 60) FN CC_24) CC_25 = true := by decide +kernel
theorem Ce_25 : e_r (xloop (xcall PROG FN 13) FN T_3 (xEn 25 25) CC_25) (some (.inl 11), CH_25) = true := by decide +kernel
theorem Ct_26 : e_s (xtwo (xcall PROG FN 13) 37 22 T_3 (xEn 26 60) FN CC_25) CC_26 = true := by decide +kernel
theorem Ce_26 : e_r (xloop (xcall PROG FN 13) FN T_3 (xEn 26 26) CC_26) (some (.inl 12), CH_26) = true := by decide +kernel
