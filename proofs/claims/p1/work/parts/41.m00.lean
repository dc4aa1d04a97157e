theorem Mt_0 : e_s (xrun (xcall PROG FN 13) 23 T_2 (xEn 1 60) FN (0, (xentry [.inr (.inr (.inl 118)), .inr (.inr (.inr (.inl (1, 0))))] 5, ([], HM)))) MC_0 = true := by decide +kernel
theorem Mt_1 : e_s (xtwo (xcall PROG FN 13) 33 23 T_2 (xEn 1 60) FN MC_0) MC_1 = true := by decide +kernel
theorem Me_1 : e_r (xloop (xcall PROG FN 13) FN T_2 (xEn 1 1) MC_1) (some (.inl 0), MH_1) = true := by decide +kernel
theorem Mt_2 : e_s (xtwo (xcall PROG FN 13) 33 23 T_2 (xEn 2 60) FN MC_1) MC_2 = true := by decide +kernel
theorem Me_2 : e_r (xloop (xcall PROG FN 13) FN T_2 (xEn 2 2) MC_2) (some (.inl 0), MH_2) = true := by decide +kernel
theorem Mt_3 : e_s (xtwo (xcall PROG FN 13) 33 23 T_2 (xEn 3 60) FN MC_2) MC_3 = true := by decide +kernel
theorem Me_3 : e_r (xloop (xcall PROG FN 13) FN T_2 (xEn 3 3) MC_3) (some (.inl 0), MH_3) = true := by decide +kernel
theorem Mt_4 : e_s (xtwo (xcall PROG FN 13) 33 23 T_2 (xEn 4 60) FN MC_3) MC_4 = true := by decide +kernel
theorem Me_4 : e_r (xloop (xcall PROG FN 13) FN T_2 (xEn 4 4) MC_4) (some (.inl 0), MH_4) = true := by decide +kernel
theorem Mt_5 : e_s (xtwo (xcall PROG FN 13) 33 23 T_2 (xEn 5 60) FN MC_4) MC_5 = true := by decide +kernel
theorem Me_5 : e_r (xloop (xcall PROG FN 13) FN T_2 (xEn 5 5) MC_5) (some (.inl 0), MH_5) = true := by decide +kernel
theorem Mt_6 : e_s (xtwo (xcall PROG FN 13) 33 23 T_2 (xEn 6 60) FN MC_5) MC_6 = true := by decide +kernel
theorem Me_6 : e_r (xloop (xcall PROG FN 13) FN T_2 (xEn 6 6) MC_6) (some (.inl 0), MH_6) = true := by decide +kernel
theorem Mt_7 : e_s (xtwo (xcall PROG FN 13) 33 23 T_2 (xEn 7 60) FN MC_6) MC_7 = true := by decide +kernel
theorem Me_7 : e_r (xloop (xcall PROG FN 13) FN T_2 (xEn 7 7) MC_7) (some (.inl 0), MH_7) = true := by decide +kernel
theorem Mt_8 : e_s (xtwo (xcall PROG FN 13) 33 23 T_2 (xEn 8 60) FN MC_7) MC_8 = true := by decide +kernel
theorem Me_8 : e_r (xloop (xcall PROG FN 13) FN T_2 (xEn 8 8) MC_8) (some (.inl 0), MH_8) = true := by decide +kernel
theorem Mt_9 : e_s (xtwo (xcall PROG FN 13) 33 23 T_2 (xEn 9 60) FN MC_8) MC_9 = true := by decide +kernel
theorem Me_9 : e_r (xloop (xcall PROG FN 13) FN T_2 (xEn 9 9) MC_9) (some (.inl 0), MH_9) = true := by decide +kernel
theorem Mt_10 : e_s (xtwo (xcall PROG FN 13) 33 23 T_2 (xEn 10 60) FN MC_9) MC_10 = true := by decide +kernel
theorem Me_10 : e_r (xloop (xcall PROG FN 13) FN T_2 (xEn 10 10) MC_10) (some (.inl 0), MH_10) = true := by decide +kernel
theorem Mt_11 : e_s (xtwo (xcall PROG FN 13) 33 23 T_2 (xEn 11 60) FN MC_10) MC_11 = true := by decide +kernel
theorem Me_11 : e_r (xloop (xcall PROG FN 13) FN T_2 (xEn 11 11) MC_11) (some (.inl 1), MH_11) = true := by decide +kernel
theorem Mt_12 : e_s (xtwo (xcall PROG FN 13) 33 23 T_2 (xEn 12 60) FN MC_11) MC_12 = true := by decide +kernel
theorem Me_12 : e_r (xloop (xcall PROG FN 13) FN T_2 (xEn 12 12) MC_12) (some (.inl 1), MH_12) = true := by decide +kernel
theorem Mt_13 : e_s (xtwo (xcall PROG FN 13) 33 23 T_2 (xEn 13 60) FN MC_12) MC_13 = true := by decide +kernel
theorem Me_13 : e_r (xloop (xcall PROG FN 13) FN T_2 (xEn 13 13) MC_13) (some (.inl 2), MH_13) = true := by decide +kernel
theorem Mt_14 : e_s (xtwo (xcall PROG FN 13) 33 23 T_2 (xEn 14 60) FN MC_13) MC_14 = true := by decide +kernel
theorem Me_14 : e_r (xloop (xcall PROG FN 13) FN T_2 (xEn 14 14) MC_14) (some (.inl 3), MH_14) = true := by decide +kernel
theorem Mt_15 : e_s (xtwo (xcall PROG FN 13) 33 23 T_2 (xEn 15 60) FN MC_14) MC_15 = true := by decide +kernel
theorem Me_15 : e_r (xloop (xcall PROG FN 13) FN T_2 (xEn 15 15) MC_15) (some (.inl 4), MH_15) = true := by decide +kernel
theorem Mt_16 : e_s (xtwo (xcall PROG FN 13) 33 23 T_2 (xEn 16 60) FN MC_15) MC_16 = true := by decide +kernel
theorem Me_16 : e_r (xloop (xcall PROG FN 13) FN T_2 (xEn 16 16) MC_16) (some (.inl 5), MH_16) = true := by decide +kernel
theorem Mt_17 : e_s (xtwo (xcall PROG FN 13) 33 23 T_2 (xEn 17 60) FN MC_16) MC_17 = true := by decide +kernel
theorem Me_17 : e_r (xloop (xcall PROG FN 13) FN T_2 (xEn 17 17) MC_17) (some (.inl 6), MH_17) = true := by decide +kernel
theorem Mt_18 : e_s (xtwo (xcall PROG FN 13) 33 23 T_2 (xEn 18 60) FN MC_17) MC_18 = true := by decide +kernel
theorem Me_18 : e_r (xloop (xcall PROG FN 13) FN T_2 (xEn 18 18) MC_18) (some (.inl 6), MH_18) = true := by decide +kernel
theorem Mt_19 : e_s (xtwo (xcall PROG FN 13) 33 23 T_2 (xEn 19 60) FN MC_18) MC_19 = true := by decide +kernel
theorem Me_19 : e_r (xloop (xcall PROG FN 13) FN T_2 (xEn 19 19) MC_19) (some (.inl 7), MH_19) = true := by decide +kernel
theorem Mt_20 : e_s (xtwo (xcall PROG FN 13) 33 23 T_2 (xEn 20 60) FN MC_19) MC_20 = true := by decide +kernel
theorem Me_20 : e_r (xloop (xcall PROG FN 13) FN T_2 (xEn 20 20) MC_20) (some (.inl 8), MH_20) = true := by decide +kernel
theorem Mt_21 : e_s (xtwo (xcall PROG FN 13) 33 23 T_2 (xEn 21 60) FN MC_20) MC_21 = true := by decide +kernel
theorem Me_21 : e_r (xloop (xcall PROG FN 13) FN T_2 (xEn 21 21) MC_21) (some (.inl 8), MH_21) = true := by decide +kernel
theorem Mt_22 : e_s (xtwo (xcall PROG FN 13) 33 23 T_2 (xEn 22 60) FN MC_21) MC_22 = true := by decide +kernel
theorem Me_22 : e_r (xloop (xcall PROG FN 13) FN T_2 (xEn 22 22) MC_22) (some (.inl 9), MH_22) = true := by decide +kernel
theorem Mt_23 : e_s (xtwo (xcall PROG FN 13) 33 23 T_2 (xEn 23 60) FN MC_22) MC_23 = true := by decide +kernel
theorem Me_23 : e_r (xloop (xcall PROG FN 13) FN T_2 (xEn 23 23) MC_23) (some (.inl 10), MH_23) = true := by decide +kernel
theorem Mt_24 : e_s (xtwo (xcall PROG FN 13) 33 23 T_2 (xEn 24 60) FN MC_23) MC_24 = true := by decide +kernel
theorem Me_24 : e_r (xloop (xcall PROG FN 13) FN T_2 (xEn 24 24) MC_24) (some (.inl 10), MH_24) = true := by decide +kernel
theorem Mt_25 : e_s (xtwo (xcall PROG FN 13) 33 23 T_2 (xEn 25 60) FN MC_24) MC_25 = true := by decide +kernel
theorem Me_25 : e_r (xloop (xcall PROG FN 13) FN T_2 (xEn 25 25) MC_25) (some (.inl 11), MH_25) = true := by decide +kernel
theorem Mt_26 : e_s (xtwo (xcall PROG FN 13) 33 23 T_2 (xEn 26 60) FN MC_25) MC_26 = true := by decide +kernel
theorem Me_26 : e_r (xloop (xcall PROG FN 13) FN T_2 (xEn 26 26) MC_26) (some (.inl 12), MH_26) = true := by decide +kernel
theorem Mt_27 : e_s (xtwo (xcall PROG FN 13) 33 23 T_2 (xEn 27 60) FN MC_26) MC_27 = true := by decide +kernel
theorem Me_27 : e_r (xloop (xcall PROG FN 13) FN T_2 (xEn 27 27) MC_27) (some (.inl 12), MH_27) = true := by decide +kernel
theorem Mt_28 : e_s (xtwo (xcall PROG FN 13) 33 23 T_2 (xEn 28 60) FN MC_27) MC_28 = true := by decide +kernel
theorem Me_28 : e_r (xloop (xcall PROG FN 13) FN T_2 (xEn 28 28) MC_28) (some (.inl 13), MH_28) = true := by decide +kernel
theorem Mt_29 : e_s (xtwo (xcall PROG FN 13) 33 23 T_2 (xEn 29 60) FN MC_28) MC_29 = true := by decide +kernel
theorem Me_29 : e_r (xloop (xcall PROG FN 13) FN T_2 (xEn 29 29) MC_29) (some (.inl 14), MH_29) = true := by decide +kernel
theorem Mt_30 : e_s (xtwo (xcall PROG FN 13) 33 23 T_2 (xEn 30 60) FN MC_29) MC_30 = true := by decide +kernel
theorem Me_30 : e_r (xloop (xcall PROG FN 13) FN T_2 (xEn 30 30) MC_30) (some (.inl 15), MH_30) = true := by decide +kernel
theorem Mt_31 : e_s (xtwo (xcall PROG FN 13) 33 23 T_2 (xEn 31 60) FN MC_30) MC_31 = true := by decide +kernel
theorem Me_31 : e_r (xloop (xcall PROG FN 13) FN T_2 (xEn 31 31) MC_31) (some (.inl 16), MH_31) = true := by decide +kernel
theorem Mt_32 : e_s (xtwo (xcall PROG FN 13) 33 23 T_2 (xEn 32 60) FN MC_31) MC_32 = true := by decide +kernel
theorem Me_32 : e_r (xloop (xcall PROG FN 13) FN T_2 (xEn 32 32) MC_32) (some (.inl 17), MH_32) = true := by decide +kernel
theorem Mt_33 : e_s (xtwo (xcall PROG FN 13) 33 23 T_2 (xEn 33 60) FN MC_32) MC_33 = true := by decide +kernel
theorem Me_33 : e_r (xloop (xcall PROG FN 13) FN T_2 (xEn 33 33) MC_33) (some (.inl 18), MH_33) = true := by decide +kernel
theorem Mt_34 : e_s (xtwo (xcall PROG FN 13) 33 23 T_2 (xEn 34 60) FN MC_33) MC_34 = true := by decide +kernel
theorem Me_34 : e_r (xloop (xcall PROG FN 13) FN T_2 (xEn 34 34) MC_34) (some (.inl 19), MH_34) = true := by decide +kernel
theorem Mt_35 : e_s (xtwo (xcall PROG FN 13) 33 23 T_2 (xEn 35 60) FN MC_34) MC_35 = true := by decide +kernel
theorem Me_35 : e_r (xloop (xcall PROG FN 13) FN T_2 (xEn 35 35) MC_35) (some (.inl 20), MH_35) = true := by decide +kernel
theorem Mt_36 : e_s (xtwo (xcall PROG FN 13) 33 23 T_2 (xEn 36 60) FN MC_35) MC_36 = true := by decide +kernel
theorem Me_36 : e_r (xloop (xcall PROG FN 13) FN T_2 (xEn 36 36) MC_36) (some (.inl 21), MH_36) = true := by decide +kernel
theorem Mt_37 : e_s (xtwo (xcall PROG FN 13) 33 23 T_2 (xEn 37 60) FN MC_36) MC_37 = true := by decide +kernel
theorem Me_37 : e_r (xloop (xcall PROG FN 13) FN T_2 (xEn 37 37) MC_37) (some (.inl 22), MH_37) = true := by decide +kernel
theorem Mt_38 : e_s (xtwo (xcall PROG FN 13) 33 23 T_2 (xEn 38 60) FN MC_37) MC_38 = true := by decide +kernel
theorem Me_38 : e_r (xloop (xcall PROG FN 13) FN T_2 (xEn 38 38) MC_38) (some (.inl 23), MH_38) = true := by decide +kernel
theorem Mt_39 : e_s (xtwo (xcall PROG FN 13) 33 23 T_2 (xEn 39 60) FN MC_38) MC_39 = true := by decide +kernel
theorem Me_39 : e_r (xloop (xcall PROG FN 13) FN T_2 (xEn 39 39) MC_39) (some (.inl 24), MH_39) = true := by decide +kernel
theorem Mt_40 : e_s (xtwo (xcall PROG FN 13) 33 23 T_2 (xEn 40 60) FN MC_39) MC_40 = true := by decide +kernel
theorem Me_40 : e_r (xloop (xcall PROG FN 13) FN T_2 (xEn 40 40) MC_40) (some (.inl 25), MH_40) = true := by decide +kernel
theorem Mt_41 : e_s (xtwo (xcall PROG FN 13) 33 23 T_2 (xEn 41 60) FN MC_40) MC_41 = true := by decide +kernel
theorem Me_41 : e_r (xloop (xcall PROG FN 13) FN T_2 (xEn 41 41) MC_41) (some (.inl 26), MH_41) = true := by decide +kernel
theorem Mt_42 : e_s (xtwo (xcall PROG FN 13) 33 23 T_2 (xEn 42 60) FN MC_41) MC_42 = true := by decide +kernel
theorem Me_42 : e_r (xloop (xcall PROG FN 13) FN T_2 (xEn 42 42) MC_42) (some (.inl 27), MH_42) = true := by decide +kernel
theorem Mt_43 : e_s (xtwo (xcall PROG FN 13) 33 23 T_2 (xEn 43 60) FN MC_42) MC_43 = true := by decide +kernel
theorem Me_43 : e_r (xloop (xcall PROG FN 13) FN T_2 (xEn 43 43) MC_43) (some (.inl 27), MH_43) = true := by decide +kernel
theorem Mt_44 : e_s (xtwo (xcall PROG FN 13) 33 23 T_2 (xEn 44 60) FN MC_43) MC_44 = true := by decide +kernel
theorem Me_44 : e_r (xloop (xcall PROG FN 13) FN T_2 (xEn 44 44) MC_44) (some (.inl 28), MH_44) = true := by decide +kernel
theorem Mt_45 : e_s (xtwo (xcall PROG FN 13) 33 23 T_2 (xEn 45 60) FN MC_44) MC_45 = true := by decide +kernel
theorem Me_45 : e_r (xloop (xcall PROG FN 13) FN T_2 (xEn 45 45) MC_45) (some (.inl 29), MH_45) = true := by decide +kernel
theorem Mt_46 : e_s (xtwo (xcall PROG FN 13) 33 23 T_2 (xEn 46 60) FN MC_45) MC_46 = true := by decide +kernel
theorem Me_46 : e_r (xloop (xcall PROG FN 13) FN T_2 (xEn 46 46) MC_46) (some (.inl 30), MH_46) = true := by decide +kernel
theorem Mt_47 : e_s (xtwo (xcall PROG FN 13) 33 23 T_2 (xEn 47 60) FN MC_46) MC_47 = true := by decide +kernel
theorem Me_47 : e_r (xloop (xcall PROG FN 13) FN T_2 (xEn 47 47) MC_47) (some (.inl 31), MH_47) = true := by decide +kernel
theorem Mt_48 : e_s (xtwo (xcall PROG FN 13) 33 23 T_2 (xEn 48 60) FN MC_47) MC_48 = true := by decide +kernel
theorem Me_48 : e_r (xloop (xcall PROG FN 13) FN T_2 (xEn 48 48) MC_48) (some (.inl 32), MH_48) = true := by decide +kernel
theorem Mt_49 : e_s (xtwo (xcall PROG FN 13) 33 23 T_2 (xEn 49 60) FN MC_48) MC_49 = true := by decide +kernel
theorem Me_49 : e_r (xloop (xcall PROG FN 13) FN T_2 (xEn 49 49) MC_49) (some (.inl 32), MH_49) = true := by decide +kernel
theorem Mt_50 : e_s (xtwo (xcall PROG FN 13) 33 23 T_2 (xEn 50 60) FN MC_49) MC_50 = true := by decide +kernel
theorem Me_50 : e_r (xloop (xcall PROG FN 13) FN T_2 (xEn 50 50) MC_50) (some (.inl 33), MH_50) = true := by decide +kernel
theorem Mt_51 : e_s (xtwo (xcall PROG FN 13) 33 23 T_2 (xEn 51 60) FN MC_50) MC_51 = true := by decide +kernel
theorem Me_51 : e_r (xloop (xcall PROG FN 13) FN T_2 (xEn 51 51) MC_51) (some (.inl 34), MH_51) = true := by decide +kernel
theorem Mt_52 : e_s (xtwo (xcall PROG FN 13) 33 23 T_2 (xEn 52 60) FN MC_51) MC_52 = true := by decide +kernel
theorem Me_52 : e_r (xloop (xcall PROG FN 13) FN T_2 (xEn 52 52) MC_52) (some (.inl 35), MH_52) = true := by decide +kernel
theorem Mt_53 : e_s (xtwo (xcall PROG FN 13) 33 23 T_2 (xEn 53 60) FN MC_52) MC_53 = true := by decide +kernel
theorem Me_53 : e_r (xloop (xcall PROG FN 13) FN T_2 (xEn 53 53) MC_53) (some (.inl 36), MH_53) = true := by decide +kernel
theorem Mt_54 : e_s (xtwo (xcall PROG FN 13) 33 23 T_2 (xEn 54 60) FN MC_53) MC_54 = true := by decide +kernel
theorem Me_54 : e_r (xloop (xcall PROG FN 13) FN T_2 (xEn 54 54) MC_54) (some (.inl 37), MH_54) = true := by decide +kernel
theorem Mt_55 : e_s (xtwo (xcall PROG FN 13) 33 23 T_2 (xEn 55 60) FN MC_54) MC_55 = true := by decide +kernel
theorem Me_55 : e_r (xloop (xcall PROG FN 13) FN T_2 (xEn 55 55) MC_55) (some (.inl 38), MH_55) = true := by decide +kernel
theorem Mt_56 : e_s (xtwo (xcall PROG FN 13) 33 23 T_2 (xEn 56 60) FN MC_55) MC_56 = true := by decide +kernel
theorem Me_56 : e_r (xloop (xcall PROG FN 13) FN T_2 (xEn 56 56) MC_56) (some (.inl 39), MH_56) = true := by decide +kernel
theorem Mt_57 : e_s (xtwo (xcall PROG FN 13) 33 23 T_2 (xEn 57 60) FN MC_56) MC_57 = true := by decide +kernel
theorem Me_57 : e_r (xloop (xcall PROG FN 13) FN T_2 (xEn 57 57) MC_57) (some (.inl 40), MH_57) = true := by decide +kernel
theorem Mt_58 : e_s (xtwo (xcall PROG FN 13) 33 23 T_2 (xEn 58 60) FN MC_57) MC_58 = true := by decide +kernel
theorem Me_58 : e_r (xloop (xcall PROG FN 13) FN T_2 (xEn 58 58) MC_58) (some (.inl 41), MH_58) = true := by decide +kernel
theorem Mt_59 : e_s (xtwo (xcall PROG FN 13) 33 23 T_2 (xEn 59 60) FN MC_58) MC_59 = true := by decide +kernel
theorem Me_59 : e_r (xloop (xcall PROG FN 13) FN T_2 (xEn 59 59) MC_59) (some (.inl 42), MH_59) = true := by decide +kernel
theorem Mt_60 : e_s (xtwo (xcall PROG FN 13) 33 23 T_2 (xEn 60 60) FN MC_59) MC_60 = true := by decide +kernel
theorem Me_60 : e_r (xloop (xcall PROG FN 13) FN T_2 (xEn 60 60) MC_60) (some (.inl 43), MH_60) = true := by decide +kernel
