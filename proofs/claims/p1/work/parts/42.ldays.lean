theorem t_d37a : xleaf (xcall PROG FN 14) 1670 (LT 6) FN (33, (LSW, ([.inl 37], HS))) (xEn (-2147483648) 0) = true := by decide +kernel
theorem t_d37b : xleaf (xcall PROG FN 14) 1670 (LT 6) FN (33, (LSW, ([.inl 37], HS))) (xEn 61 2147483647) = true := by decide +kernel
theorem t_dc1 : e_s (xrun (xtold (xcall PROG FN 14) 3 [.inr (.inr (.inl 4)), .inr (.inr (.inr (.inl (1, 0))))] HS (some (.inl 0), CH_1)) 1577 (LT 6) (xEn 1 1) 100 (33, (LSW, ([.inl 37], HS)))) (1577, (LSW, ([.inl 0], CH_1))) = true := by decide +kernel
theorem t_ds1 : xsubh HM CH_1 = true := by decide +kernel
theorem t_dm1 : xleaf (xtold (xcall PROG FN 14) 2 [.inr (.inr (.inl 118)), .inr (.inr (.inr (.inl (1, 0))))] HM (some (.inl 0), MH_1)) 1670 (LT 6) 100 (1577, (LSW, ([.inl 0], HM))) (xEn 1 1) = true := by decide +kernel
theorem t_dc2 : e_s (xrun (xtold (xcall PROG FN 14) 3 [.inr (.inr (.inl 4)), .inr (.inr (.inr (.inl (1, 0))))] HS (some (.inl 0), CH_2)) 1577 (LT 6) (xEn 2 2) 100 (33, (LSW, ([.inl 37], HS)))) (1577, (LSW, ([.inl 0], CH_2))) = true := by decide +kernel
theorem t_ds2 : xsubh HM CH_2 = true := by decide +kernel
theorem t_dm2 : xleaf (xtold (xcall PROG FN 14) 2 [.inr (.inr (.inl 118)), .inr (.inr (.inr (.inl (1, 0))))] HM (some (.inl 0), MH_2)) 1670 (LT 6) 100 (1577, (LSW, ([.inl 0], HM))) (xEn 2 2) = true := by decide +kernel
theorem t_dc3 : e_s (xrun (xtold (xcall PROG FN 14) 3 [.inr (.inr (.inl 4)), .inr (.inr (.inr (.inl (1, 0))))] HS (some (.inl 0), CH_3)) 1577 (LT 6) (xEn 3 3) 100 (33, (LSW, ([.inl 37], HS)))) (1577, (LSW, ([.inl 0], CH_3))) = true := by decide +kernel
theorem t_ds3 : xsubh HM CH_3 = true := by decide +kernel
theorem t_dm3 : xleaf (xtold (xcall PROG FN 14) 2 [.inr (.inr (.inl 118)), .inr (.inr (.inr (.inl (1, 0))))] HM (some (.inl 0), MH_3)) 1670 (LT 6) 100 (1577, (LSW, ([.inl 0], HM))) (xEn 3 3) = true := by decide +kernel
theorem t_dc4 : e_s (xrun (xtold (xcall PROG FN 14) 3 [.inr (.inr (.inl 4)), .inr (.inr (.inr (.inl (1, 0))))] HS (some (.inl 0), CH_4)) 1577 (LT 6) (xEn 4 4) 100 (33, (LSW, ([.inl 37], HS)))) (1577, (LSW, ([.inl 0], CH_4))) = true := by decide +kernel
theorem t_ds4 : xsubh HM CH_4 = true := by decide +kernel
theorem t_dm4 : xleaf (xtold (xcall PROG FN 14) 2 [.inr (.inr (.inl 118)), .inr (.inr (.inr (.inl (1, 0))))] HM (some (.inl 0), MH_4)) 1670 (LT 6) 100 (1577, (LSW, ([.inl 0], HM))) (xEn 4 4) = true := by decide +kernel
theorem t_dc5 : e_s (xrun (xtold (xcall PROG FN 14) 3 [.inr (.inr (.inl 4)), .inr (.inr (.inr (.inl (1, 0))))] HS (some (.inl 0), CH_5)) 1577 (LT 6) (xEn 5 5) 100 (33, (LSW, ([.inl 37], HS)))) (1577, (LSW, ([.inl 0], CH_5))) = true := by decide +kernel
theorem t_ds5 : xsubh HM CH_5 = true := by decide +kernel
theorem t_dm5 : xleaf (xtold (xcall PROG FN 14) 2 [.inr (.inr (.inl 118)), .inr (.inr (.inr (.inl (1, 0))))] HM (some (.inl 0), MH_5)) 1670 (LT 6) 100 (1577, (LSW, ([.inl 0], HM))) (xEn 5 5) = true := by decide +kernel
theorem t_dc6 : e_s (xrun (xtold (xcall PROG FN 14) 3 [.inr (.inr (.inl 4)), .inr (.inr (.inr (.inl (1, 0))))] HS (some (.inl 0), CH_6)) 1577 (LT 6) (xEn 6 6) 100 (33, (LSW, ([.inl 37], HS)))) (1577, (LSW, ([.inl 0], CH_6))) = true := by decide +kernel
theorem t_ds6 : xsubh HM CH_6 = true := by decide +kernel
theorem t_dm6 : xleaf (xtold (xcall PROG FN 14) 2 [.inr (.inr (.inl 118)), .inr (.inr (.inr (.inl (1, 0))))] HM (some (.inl 0), MH_6)) 1670 (LT 6) 100 (1577, (LSW, ([.inl 0], HM))) (xEn 6 6) = true := by decide +kernel
theorem t_dc7 : e_s (xrun (xtold (xcall PROG FN 14) 3 [.inr (.inr (.inl 4)), .inr (.inr (.inr (.inl (1, 0))))] HS (some (.inl 0), CH_7)) 1577 (LT 6) (xEn 7 7) 100 (33, (LSW, ([.inl 37], HS)))) (1577, (LSW, ([.inl 0], CH_7))) = true := by decide +kernel
theorem t_ds7 : xsubh HM CH_7 = true := by decide +kernel
theorem t_dm7 : xleaf (xtold (xcall PROG FN 14) 2 [.inr (.inr (.inl 118)), .inr (.inr (.inr (.inl (1, 0))))] HM (some (.inl 0), MH_7)) 1670 (LT 6) 100 (1577, (LSW, ([.inl 0], HM))) (xEn 7 7) = true := by decide +kernel
theorem t_dc8 : e_s (xrun (xtold (xcall PROG FN 14) 3 [.inr (.inr (.inl 4)), .inr (.inr (.inr (.inl (1, 0))))] HS (some (.inl 0), CH_8)) 1577 (LT 6) (xEn 8 8) 100 (33, (LSW, ([.inl 37], HS)))) (1577, (LSW, ([.inl 0], CH_8))) = true := by decide +kernel
theorem t_ds8 : xsubh HM CH_8 = true := by decide +kernel
theorem t_dm8 : xleaf (xtold (xcall PROG FN 14) 2 [.inr (.inr (.inl 118)), .inr (.inr (.inr (.inl (1, 0))))] HM (some (.inl 0), MH_8)) 1670 (LT 6) 100 (1577, (LSW, ([.inl 0], HM))) (xEn 8 8) = true := by decide +kernel
theorem t_dc9 : e_s (xrun (xtold (xcall PROG FN 14) 3 [.inr (.inr (.inl 4)), .inr (.inr (.inr (.inl (1, 0))))] HS (some (.inl 0), CH_9)) 1577 (LT 6) (xEn 9 9) 100 (33, (LSW, ([.inl 37], HS)))) (1577, (LSW, ([.inl 0], CH_9))) = true := by decide +kernel
theorem t_ds9 : xsubh HM CH_9 = true := by decide +kernel
theorem t_dm9 : xleaf (xtold (xcall PROG FN 14) 2 [.inr (.inr (.inl 118)), .inr (.inr (.inr (.inl (1, 0))))] HM (some (.inl 0), MH_9)) 1670 (LT 6) 100 (1577, (LSW, ([.inl 0], HM))) (xEn 9 9) = true := by decide +kernel
theorem t_dc10 : e_s (xrun (xtold (xcall PROG FN 14) 3 [.inr (.inr (.inl 4)), .inr (.inr (.inr (.inl (1, 0))))] HS (some (.inl 0), CH_10)) 1577 (LT 6) (xEn 10 10) 100 (33, (LSW, ([.inl 37], HS)))) (1577, (LSW, ([.inl 0], CH_10))) = true := by decide +kernel
theorem t_ds10 : xsubh HM CH_10 = true := by decide +kernel
theorem t_dm10 : xleaf (xtold (xcall PROG FN 14) 2 [.inr (.inr (.inl 118)), .inr (.inr (.inr (.inl (1, 0))))] HM (some (.inl 0), MH_10)) 1670 (LT 6) 100 (1577, (LSW, ([.inl 0], HM))) (xEn 10 10) = true := by decide +kernel
theorem t_dc11 : e_s (xrun (xtold (xcall PROG FN 14) 3 [.inr (.inr (.inl 4)), .inr (.inr (.inr (.inl (1, 0))))] HS (some (.inl 1), CH_11)) 1577 (LT 6) (xEn 11 11) 100 (33, (LSW, ([.inl 37], HS)))) (1577, (LSW, ([.inl 1], CH_11))) = true := by decide +kernel
theorem t_ds11 : xsubh HM CH_11 = true := by decide +kernel
theorem t_dm11 : xleaf (xtold (xcall PROG FN 14) 2 [.inr (.inr (.inl 118)), .inr (.inr (.inr (.inl (1, 0))))] HM (some (.inl 1), MH_11)) 1670 (LT 6) 100 (1577, (LSW, ([.inl 1], HM))) (xEn 11 11) = true := by decide +kernel
theorem t_dc12 : e_s (xrun (xtold (xcall PROG FN 14) 3 [.inr (.inr (.inl 4)), .inr (.inr (.inr (.inl (1, 0))))] HS (some (.inl 1), CH_12)) 1577 (LT 6) (xEn 12 12) 100 (33, (LSW, ([.inl 37], HS)))) (1577, (LSW, ([.inl 1], CH_12))) = true := by decide +kernel
theorem t_ds12 : xsubh HM CH_12 = true := by decide +kernel
theorem t_dm12 : xleaf (xtold (xcall PROG FN 14) 2 [.inr (.inr (.inl 118)), .inr (.inr (.inr (.inl (1, 0))))] HM (some (.inl 1), MH_12)) 1670 (LT 6) 100 (1577, (LSW, ([.inl 1], HM))) (xEn 12 12) = true := by decide +kernel
theorem t_dc13 : e_s (xrun (xtold (xcall PROG FN 14) 3 [.inr (.inr (.inl 4)), .inr (.inr (.inr (.inl (1, 0))))] HS (some (.inl 2), CH_13)) 1577 (LT 6) (xEn 13 13) 100 (33, (LSW, ([.inl 37], HS)))) (1577, (LSW, ([.inl 2], CH_13))) = true := by decide +kernel
theorem t_ds13 : xsubh HM CH_13 = true := by decide +kernel
theorem t_dm13 : xleaf (xtold (xcall PROG FN 14) 2 [.inr (.inr (.inl 118)), .inr (.inr (.inr (.inl (1, 0))))] HM (some (.inl 2), MH_13)) 1670 (LT 6) 100 (1577, (LSW, ([.inl 2], HM))) (xEn 13 13) = true := by decide +kernel
theorem t_dc14 : e_s (xrun (xtold (xcall PROG FN 14) 3 [.inr (.inr (.inl 4)), .inr (.inr (.inr (.inl (1, 0))))] HS (some (.inl 3), CH_14)) 1577 (LT 6) (xEn 14 14) 100 (33, (LSW, ([.inl 37], HS)))) (1577, (LSW, ([.inl 3], CH_14))) = true := by decide +kernel
theorem t_ds14 : xsubh HM CH_14 = true := by decide +kernel
theorem t_dm14 : xleaf (xtold (xcall PROG FN 14) 2 [.inr (.inr (.inl 118)), .inr (.inr (.inr (.inl (1, 0))))] HM (some (.inl 3), MH_14)) 1670 (LT 6) 100 (1577, (LSW, ([.inl 3], HM))) (xEn 14 14) = true := by decide +kernel
theorem t_dc15 : e_s (xrun (xtold (xcall PROG FN 14) 3 [.inr (.inr (.inl 4)), .inr (.inr (.inr (.inl (1, 0))))] HS (some (.inl 4), CH_15)) 1577 (LT 6) (xEn 15 15) 100 (33, (LSW, ([.inl 37], HS)))) (1577, (LSW, ([.inl 4], CH_15))) = true := by decide +kernel
theorem t_ds15 : xsubh HM CH_15 = true := by decide +kernel
theorem t_dm15 : xleaf (xtold (xcall PROG FN 14) 2 [.inr (.inr (.inl 118)), .inr (.inr (.inr (.inl (1, 0))))] HM (some (.inl 4), MH_15)) 1670 (LT 6) 100 (1577, (LSW, ([.inl 4], HM))) (xEn 15 15) = true := by decide +kernel
theorem t_dc16 : e_s (xrun (xtold (xcall PROG FN 14) 3 [.inr (.inr (.inl 4)), .inr (.inr (.inr (.inl (1, 0))))] HS (some (.inl 5), CH_16)) 1577 (LT 6) (xEn 16 16) 100 (33, (LSW, ([.inl 37], HS)))) (1577, (LSW, ([.inl 5], CH_16))) = true := by decide +kernel
theorem t_ds16 : xsubh HM CH_16 = true := by decide +kernel
theorem t_dm16 : xleaf (xtold (xcall PROG FN 14) 2 [.inr (.inr (.inl 118)), .inr (.inr (.inr (.inl (1, 0))))] HM (some (.inl 5), MH_16)) 1670 (LT 6) 100 (1577, (LSW, ([.inl 5], HM))) (xEn 16 16) = true := by decide +kernel
theorem t_dc17 : e_s (xrun (xtold (xcall PROG FN 14) 3 [.inr (.inr (.inl 4)), .inr (.inr (.inr (.inl (1, 0))))] HS (some (.inl 6), CH_17)) 1577 (LT 6) (xEn 17 17) 100 (33, (LSW, ([.inl 37], HS)))) (1577, (LSW, ([.inl 6], CH_17))) = true := by decide +kernel
theorem t_ds17 : xsubh HM CH_17 = true := by decide +kernel
theorem t_dm17 : xleaf (xtold (xcall PROG FN 14) 2 [.inr (.inr (.inl 118)), .inr (.inr (.inr (.inl (1, 0))))] HM (some (.inl 6), MH_17)) 1670 (LT 6) 100 (1577, (LSW, ([.inl 6], HM))) (xEn 17 17) = true := by decide +kernel
theorem t_dc18 : e_s (xrun (xtold (xcall PROG FN 14) 3 [.inr (.inr (.inl 4)), .inr (.inr (.inr (.inl (1, 0))))] HS (some (.inl 6), CH_18)) 1577 (LT 6) (xEn 18 18) 100 (33, (LSW, ([.inl 37], HS)))) (1577, (LSW, ([.inl 6], CH_18))) = true := by decide +kernel
theorem t_ds18 : xsubh HM CH_18 = true := by decide +kernel
theorem t_dm18 : xleaf (xtold (xcall PROG FN 14) 2 [.inr (.inr (.inl 118)), .inr (.inr (.inr (.inl (1, 0))))] HM (some (.inl 6), MH_18)) 1670 (LT 6) 100 (1577, (LSW, ([.inl 6], HM))) (xEn 18 18) = true := by decide +kernel
theorem t_dc19 : e_s (xrun (xtold (xcall PROG FN 14) 3 [.inr (.inr (.inl 4)), .inr (.inr (.inr (.inl (1, 0))))] HS (some (.inl 7), CH_19)) 1577 (LT 6) (xEn 19 19) 100 (33, (LSW, ([.inl 37], HS)))) (1577, (LSW, ([.inl 7], CH_19))) = true := by decide +kernel
theorem t_ds19 : xsubh HM CH_19 = true := by decide +kernel
theorem t_dm19 : xleaf (xtold (xcall PROG FN 14) 2 [.inr (.inr (.inl 118)), .inr (.inr (.inr (.inl (1, 0))))] HM (some (.inl 7), MH_19)) 1670 (LT 6) 100 (1577, (LSW, ([.inl 7], HM))) (xEn 19 19) = true := by decide +kernel
theorem t_dc20 : e_s (xrun (xtold (xcall PROG FN 14) 3 [.inr (.inr (.inl 4)), .inr (.inr (.inr (.inl (1, 0))))] HS (some (.inl 8), CH_20)) 1577 (LT 6) (xEn 20 20) 100 (33, (LSW, ([.inl 37], HS)))) (1577, (LSW, ([.inl 8], CH_20))) = true := by decide +kernel
theorem t_ds20 : xsubh HM CH_20 = true := by decide +kernel
theorem t_dm20 : xleaf (xtold (xcall PROG FN 14) 2 [.inr (.inr (.inl 118)), .inr (.inr (.inr (.inl (1, 0))))] HM (some (.inl 8), MH_20)) 1670 (LT 6) 100 (1577, (LSW, ([.inl 8], HM))) (xEn 20 20) = true := by decide +kernel
theorem t_dc21 : e_s (xrun (xtold (xcall PROG FN 14) 3 [.inr (.inr (.inl 4)), .inr (.inr (.inr (.inl (1, 0))))] HS (some (.inl 8), CH_21)) 1577 (LT 6) (xEn 21 21) 100 (33, (LSW, ([.inl 37], HS)))) (1577, (LSW, ([.inl 8], CH_21))) = true := by decide +kernel
theorem t_ds21 : xsubh HM CH_21 = true := by decide +kernel
theorem t_dm21 : xleaf (xtold (xcall PROG FN 14) 2 [.inr (.inr (.inl 118)), .inr (.inr (.inr (.inl (1, 0))))] HM (some (.inl 8), MH_21)) 1670 (LT 6) 100 (1577, (LSW, ([.inl 8], HM))) (xEn 21 21) = true := by decide +kernel
theorem t_dc22 : e_s (xrun (xtold (xcall PROG FN 14) 3 [.inr (.inr (.inl 4)), .inr (.inr (.inr (.inl (1, 0))))] HS (some (.inl 9), CH_22)) 1577 (LT 6) (xEn 22 22) 100 (33, (LSW, ([.inl 37], HS)))) (1577, (LSW, ([.inl 9], CH_22))) = true := by decide +kernel
theorem t_ds22 : xsubh HM CH_22 = true := by decide +kernel
theorem t_dm22 : xleaf (xtold (xcall PROG FN 14) 2 [.inr (.inr (.inl 118)), .inr (.inr (.inr (.inl (1, 0))))] HM (some (.inl 9), MH_22)) 1670 (LT 6) 100 (1577, (LSW, ([.inl 9], HM))) (xEn 22 22) = true := by decide +kernel
theorem t_dc23 : e_s (xrun (xtold (xcall PROG FN 14) 3 [.inr (.inr (.inl 4)), .inr (.inr (.inr (.inl (1, 0))))] HS (some (.inl 10), CH_23)) 1577 (LT 6) (xEn 23 23) 100 (33, (LSW, ([.inl 37], HS)))) (1577, (LSW, ([.inl 10], CH_23))) = true := by decide +kernel
theorem t_ds23 : xsubh HM CH_23 = true := by decide +kernel
theorem t_dm23 : xleaf (xtold (xcall PROG FN 14) 2 [.inr (.inr (.inl 118)), .inr (.inr (.inr (.inl (1, 0))))] HM (some (.inl 10), MH_23)) 1670 (LT 6) 100 (1577, (LSW, ([.inl 10], HM))) (xEn 23 23) = true := by decide +kernel
theorem t_dc24 : e_s (xrun (xtold (xcall PROG FN 14) 3 [.inr (.inr (.inl 4)), .inr (.inr (.inr (.inl (1, 0))))] HS (some (.inl 10), CH_24)) 1577 (LT 6) (xEn 24 24) 100 (33, (LSW, ([.inl 37], HS)))) (1577, (LSW, ([.inl 10], CH_24))) = true := by decide +kernel
theorem t_ds24 : xsubh HM CH_24 = true := by decide +kernel
theorem t_dm24 : xleaf (xtold (xcall PROG FN 14) 2 [.inr (.inr (.inl 118)), .inr (.inr (.inr (.inl (1, 0))))] HM (some (.inl 10), MH_24)) 1670 (LT 6) 100 (1577, (LSW, ([.inl 10], HM))) (xEn 24 24) = true := by decide +kernel
theorem t_dc25 : e_s (xrun (xtold (xcall PROG FN 14) 3 [.inr (.inr (.inl 4)), .inr (.inr (.inr (.inl (1, 0))))] HS (some (.inl 11), CH_25)) 1577 (LT 6) (xEn 25 25) 100 (33, (LSW, ([.inl 37], HS)))) (1577, (LSW, ([.inl 11], CH_25))) = true := by decide +kernel
theorem t_ds25 : xsubh HM CH_25 = true := by decide +kernel
theorem t_dm25 : xleaf (xtold (xcall PROG FN 14) 2 [.inr (.inr (.inl 118)), .inr (.inr (.inr (.inl (1, 0))))] HM (some (.inl 11), MH_25)) 1670 (LT 6) 100 (1577, (LSW, ([.inl 11], HM))) (xEn 25 25) = true := by decide +kernel
theorem t_dc26 : e_s (xrun (xtold (xcall PROG FN 14) 3 [.inr (.inr (.inl 4)), .inr (.inr (.inr (.inl (1, 0))))] HS (some (.inl 12), CH_26)) 1577 (LT 6) (xEn 26 26) 100 (33, (LSW, ([.inl 37], HS)))) (1577, (LSW, ([.inl 12], CH_26))) = true := by decide +kernel
theorem t_ds26 : xsubh HM CH_26 = true := by decide +kernel
theorem t_dm26 : xleaf (xtold (xcall PROG FN 14) 2 [.inr (.inr (.inl 118)), .inr (.inr (.inr (.inl (1, 0))))] HM (some (.inl 12), MH_26)) 1670 (LT 6) 100 (1577, (LSW, ([.inl 12], HM))) (xEn 26 26) = true := by decide +kernel
theorem t_dc27 : e_s (xrun (xtold (xcall PROG FN 14) 3 [.inr (.inr (.inl 4)), .inr (.inr (.inr (.inl (1, 0))))] HS (some (.inl 12), CH_27)) 1577 (LT 6) (xEn 27 27) 100 (33, (LSW, ([.inl 37], HS)))) (1577, (LSW, ([.inl 12], CH_27))) = true := by decide +kernel
theorem t_ds27 : xsubh HM CH_27 = true := by decide +kernel
theorem t_dm27 : xleaf (xtold (xcall PROG FN 14) 2 [.inr (.inr (.inl 118)), .inr (.inr (.inr (.inl (1, 0))))] HM (some (.inl 12), MH_27)) 1670 (LT 6) 100 (1577, (LSW, ([.inl 12], HM))) (xEn 27 27) = true := by decide +kernel
theorem t_dc28 : e_s (xrun (xtold (xcall PROG FN 14) 3 [.inr (.inr (.inl 4)), .inr (.inr (.inr (.inl (1, 0))))] HS (some (.inl 13), CH_28)) 1577 (LT 6) (xEn 28 28) 100 (33, (LSW, ([.inl 37], HS)))) (1577, (LSW, ([.inl 13], CH_28))) = true := by decide +kernel
theorem t_ds28 : xsubh HM CH_28 = true := by decide +kernel
theorem t_dm28 : xleaf (xtold (xcall PROG FN 14) 2 [.inr (.inr (.inl 118)), .inr (.inr (.inr (.inl (1, 0))))] HM (some (.inl 13), MH_28)) 1670 (LT 6) 100 (1577, (LSW, ([.inl 13], HM))) (xEn 28 28) = true := by decide +kernel
theorem t_dc29 : e_s (xrun (xtold (xcall PROG FN 14) 3 [.inr (.inr (.inl 4)), .inr (.inr (.inr (.inl (1, 0))))] HS (some (.inl 14), CH_29)) 1577 (LT 6) (xEn 29 29) 100 (33, (LSW, ([.inl 37], HS)))) (1577, (LSW, ([.inl 14], CH_29))) = true := by decide +kernel
theorem t_ds29 : xsubh HM CH_29 = true := by decide +kernel
theorem t_dm29 : xleaf (xtold (xcall PROG FN 14) 2 [.inr (.inr (.inl 118)), .inr (.inr (.inr (.inl (1, 0))))] HM (some (.inl 14), MH_29)) 1670 (LT 6) 100 (1577, (LSW, ([.inl 14], HM))) (xEn 29 29) = true := by decide +kernel
theorem t_dc30 : e_s (xrun (xtold (xcall PROG FN 14) 3 [.inr (.inr (.inl 4)), .inr (.inr (.inr (.inl (1, 0))))] HS (some (.inl 15), CH_30)) 1577 (LT 6) (xEn 30 30) 100 (33, (LSW, ([.inl 37], HS)))) (1577, (LSW, ([.inl 15], CH_30))) = true := by decide +kernel
theorem t_ds30 : xsubh HM CH_30 = true := by decide +kernel
theorem t_dm30 : xleaf (xtold (xcall PROG FN 14) 2 [.inr (.inr (.inl 118)), .inr (.inr (.inr (.inl (1, 0))))] HM (some (.inl 15), MH_30)) 1670 (LT 6) 100 (1577, (LSW, ([.inl 15], HM))) (xEn 30 30) = true := by decide +kernel
theorem t_dc31 : e_s (xrun (xtold (xcall PROG FN 14) 3 [.inr (.inr (.inl 4)), .inr (.inr (.inr (.inl (1, 0))))] HS (some (.inl 16), CH_31)) 1577 (LT 6) (xEn 31 31) 100 (33, (LSW, ([.inl 37], HS)))) (1577, (LSW, ([.inl 16], CH_31))) = true := by decide +kernel
theorem t_ds31 : xsubh HM CH_31 = true := by decide +kernel
theorem t_dm31 : xleaf (xtold (xcall PROG FN 14) 2 [.inr (.inr (.inl 118)), .inr (.inr (.inr (.inl (1, 0))))] HM (some (.inl 16), MH_31)) 1670 (LT 6) 100 (1577, (LSW, ([.inl 16], HM))) (xEn 31 31) = true := by decide +kernel
theorem t_dc32 : e_s (xrun (xtold (xcall PROG FN 14) 3 [.inr (.inr (.inl 4)), .inr (.inr (.inr (.inl (1, 0))))] HS (some (.inl 17), CH_32)) 1577 (LT 6) (xEn 32 32) 100 (33, (LSW, ([.inl 37], HS)))) (1577, (LSW, ([.inl 17], CH_32))) = true := by decide +kernel
theorem t_ds32 : xsubh HM CH_32 = true := by decide +kernel
theorem t_dm32 : xleaf (xtold (xcall PROG FN 14) 2 [.inr (.inr (.inl 118)), .inr (.inr (.inr (.inl (1, 0))))] HM (some (.inl 17), MH_32)) 1670 (LT 6) 100 (1577, (LSW, ([.inl 17], HM))) (xEn 32 32) = true := by decide +kernel
theorem t_dc33 : e_s (xrun (xtold (xcall PROG FN 14) 3 [.inr (.inr (.inl 4)), .inr (.inr (.inr (.inl (1, 0))))] HS (some (.inl 18), CH_33)) 1577 (LT 6) (xEn 33 33) 100 (33, (LSW, ([.inl 37], HS)))) (1577, (LSW, ([.inl 18], CH_33))) = true := by decide +kernel
theorem t_ds33 : xsubh HM CH_33 = true := by decide +kernel
theorem t_dm33 : xleaf (xtold (xcall PROG FN 14) 2 [.inr (.inr (.inl 118)), .inr (.inr (.inr (.inl (1, 0))))] HM (some (.inl 18), MH_33)) 1670 (LT 6) 100 (1577, (LSW, ([.inl 18], HM))) (xEn 33 33) = true := by decide +kernel
theorem t_dc34 : e_s (xrun (xtold (xcall PROG FN 14) 3 [.inr (.inr (.inl 4)), .inr (.inr (.inr (.inl (1, 0))))] HS (some (.inl 19), CH_34)) 1577 (LT 6) (xEn 34 34) 100 (33, (LSW, ([.inl 37], HS)))) (1577, (LSW, ([.inl 19], CH_34))) = true := by decide +kernel
theorem t_ds34 : xsubh HM CH_34 = true := by decide +kernel
theorem t_dm34 : xleaf (xtold (xcall PROG FN 14) 2 [.inr (.inr (.inl 118)), .inr (.inr (.inr (.inl (1, 0))))] HM (some (.inl 19), MH_34)) 1670 (LT 6) 100 (1577, (LSW, ([.inl 19], HM))) (xEn 34 34) = true := by decide +kernel
theorem t_dc35 : e_s (xrun (xtold (xcall PROG FN 14) 3 [.inr (.inr (.inl 4)), .inr (.inr (.inr (.inl (1, 0))))] HS (some (.inl 20), CH_35)) 1577 (LT 6) (xEn 35 35) 100 (33, (LSW, ([.inl 37], HS)))) (1577, (LSW, ([.inl 20], CH_35))) = true := by decide +kernel
theorem t_ds35 : xsubh HM CH_35 = true := by decide +kernel
theorem t_dm35 : xleaf (xtold (xcall PROG FN 14) 2 [.inr (.inr (.inl 118)), .inr (.inr (.inr (.inl (1, 0))))] HM (some (.inl 20), MH_35)) 1670 (LT 6) 100 (1577, (LSW, ([.inl 20], HM))) (xEn 35 35) = true := by decide +kernel
theorem t_dc36 : e_s (xrun (xtold (xcall PROG FN 14) 3 [.inr (.inr (.inl 4)), .inr (.inr (.inr (.inl (1, 0))))] HS (some (.inl 21), CH_36)) 1577 (LT 6) (xEn 36 36) 100 (33, (LSW, ([.inl 37], HS)))) (1577, (LSW, ([.inl 21], CH_36))) = true := by decide +kernel
theorem t_ds36 : xsubh HM CH_36 = true := by decide +kernel
theorem t_dm36 : xleaf (xtold (xcall PROG FN 14) 2 [.inr (.inr (.inl 118)), .inr (.inr (.inr (.inl (1, 0))))] HM (some (.inl 21), MH_36)) 1670 (LT 6) 100 (1577, (LSW, ([.inl 21], HM))) (xEn 36 36) = true := by decide +kernel
theorem t_dc37 : e_s (xrun (xtold (xcall PROG FN 14) 3 [.inr (.inr (.inl 4)), .inr (.inr (.inr (.inl (1, 0))))] HS (some (.inl 22), CH_37)) 1577 (LT 6) (xEn 37 37) 100 (33, (LSW, ([.inl 37], HS)))) (1577, (LSW, ([.inl 22], CH_37))) = true := by decide +kernel
theorem t_ds37 : xsubh HM CH_37 = true := by decide +kernel
theorem t_dm37 : xleaf (xtold (xcall PROG FN 14) 2 [.inr (.inr (.inl 118)), .inr (.inr (.inr (.inl (1, 0))))] HM (some (.inl 22), MH_37)) 1670 (LT 6) 100 (1577, (LSW, ([.inl 22], HM))) (xEn 37 37) = true := by decide +kernel
theorem t_dc38 : e_s (xrun (xtold (xcall PROG FN 14) 3 [.inr (.inr (.inl 4)), .inr (.inr (.inr (.inl (1, 0))))] HS (some (.inl 23), CH_38)) 1577 (LT 6) (xEn 38 38) 100 (33, (LSW, ([.inl 37], HS)))) (1577, (LSW, ([.inl 23], CH_38))) = true := by decide +kernel
theorem t_ds38 : xsubh HM CH_38 = true := by decide +kernel
theorem t_dm38 : xleaf (xtold (xcall PROG FN 14) 2 [.inr (.inr (.inl 118)), .inr (.inr (.inr (.inl (1, 0))))] HM (some (.inl 23), MH_38)) 1670 (LT 6) 100 (1577, (LSW, ([.inl 23], HM))) (xEn 38 38) = true := by decide +kernel
theorem t_dc39 : e_s (xrun (xtold (xcall PROG FN 14) 3 [.inr (.inr (.inl 4)), .inr (.inr (.inr (.inl (1, 0))))] HS (some (.inl 24), CH_39)) 1577 (LT 6) (xEn 39 39) 100 (33, (LSW, ([.inl 37], HS)))) (1577, (LSW, ([.inl 24], CH_39))) = true := by decide +kernel
theorem t_ds39 : xsubh HM CH_39 = true := by decide +kernel
theorem t_dm39 : xleaf (xtold (xcall PROG FN 14) 2 [.inr (.inr (.inl 118)), .inr (.inr (.inr (.inl (1, 0))))] HM (some (.inl 24), MH_39)) 1670 (LT 6) 100 (1577, (LSW, ([.inl 24], HM))) (xEn 39 39) = true := by decide +kernel
theorem t_dc40 : e_s (xrun (xtold (xcall PROG FN 14) 3 [.inr (.inr (.inl 4)), .inr (.inr (.inr (.inl (1, 0))))] HS (some (.inl 25), CH_40)) 1577 (LT 6) (xEn 40 40) 100 (33, (LSW, ([.inl 37], HS)))) (1577, (LSW, ([.inl 25], CH_40))) = true := by decide +kernel
theorem t_ds40 : xsubh HM CH_40 = true := by decide +kernel
theorem t_dm40 : xleaf (xtold (xcall PROG FN 14) 2 [.inr (.inr (.inl 118)), .inr (.inr (.inr (.inl (1, 0))))] HM (some (.inl 25), MH_40)) 1670 (LT 6) 100 (1577, (LSW, ([.inl 25], HM))) (xEn 40 40) = true := by decide +kernel
theorem t_dc41 : e_s (xrun (xtold (xcall PROG FN 14) 3 [.inr (.inr (.inl 4)), .inr (.inr (.inr (.inl (1, 0))))] HS (some (.inl 26), CH_41)) 1577 (LT 6) (xEn 41 41) 100 (33, (LSW, ([.inl 37], HS)))) (1577, (LSW, ([.inl 26], CH_41))) = true := by decide +kernel
theorem t_ds41 : xsubh HM CH_41 = true := by decide +kernel
theorem t_dm41 : xleaf (xtold (xcall PROG FN 14) 2 [.inr (.inr (.inl 118)), .inr (.inr (.inr (.inl (1, 0))))] HM (some (.inl 26), MH_41)) 1670 (LT 6) 100 (1577, (LSW, ([.inl 26], HM))) (xEn 41 41) = true := by decide +kernel
theorem t_dc42 : e_s (xrun (xtold (xcall PROG FN 14) 3 [.inr (.inr (.inl 4)), .inr (.inr (.inr (.inl (1, 0))))] HS (some (.inl 27), CH_42)) 1577 (LT 6) (xEn 42 42) 100 (33, (LSW, ([.inl 37], HS)))) (1577, (LSW, ([.inl 27], CH_42))) = true := by decide +kernel
theorem t_ds42 : xsubh HM CH_42 = true := by decide +kernel
theorem t_dm42 : xleaf (xtold (xcall PROG FN 14) 2 [.inr (.inr (.inl 118)), .inr (.inr (.inr (.inl (1, 0))))] HM (some (.inl 27), MH_42)) 1670 (LT 6) 100 (1577, (LSW, ([.inl 27], HM))) (xEn 42 42) = true := by decide +kernel
theorem t_dc43 : e_s (xrun (xtold (xcall PROG FN 14) 3 [.inr (.inr (.inl 4)), .inr (.inr (.inr (.inl (1, 0))))] HS (some (.inl 27), CH_43)) 1577 (LT 6) (xEn 43 43) 100 (33, (LSW, ([.inl 37], HS)))) (1577, (LSW, ([.inl 27], CH_43))) = true := by decide +kernel
theorem t_ds43 : xsubh HM CH_43 = true := by decide +kernel
theorem t_dm43 : xleaf (xtold (xcall PROG FN 14) 2 [.inr (.inr (.inl 118)), .inr (.inr (.inr (.inl (1, 0))))] HM (some (.inl 27), MH_43)) 1670 (LT 6) 100 (1577, (LSW, ([.inl 27], HM))) (xEn 43 43) = true := by decide +kernel
theorem t_dc44 : e_s (xrun (xtold (xcall PROG FN 14) 3 [.inr (.inr (.inl 4)), .inr (.inr (.inr (.inl (1, 0))))] HS (some (.inl 28), CH_44)) 1577 (LT 6) (xEn 44 44) 100 (33, (LSW, ([.inl 37], HS)))) (1577, (LSW, ([.inl 28], CH_44))) = true := by decide +kernel
theorem t_ds44 : xsubh HM CH_44 = true := by decide +kernel
theorem t_dm44 : xleaf (xtold (xcall PROG FN 14) 2 [.inr (.inr (.inl 118)), .inr (.inr (.inr (.inl (1, 0))))] HM (some (.inl 28), MH_44)) 1670 (LT 6) 100 (1577, (LSW, ([.inl 28], HM))) (xEn 44 44) = true := by decide +kernel
theorem t_dc45 : e_s (xrun (xtold (xcall PROG FN 14) 3 [.inr (.inr (.inl 4)), .inr (.inr (.inr (.inl (1, 0))))] HS (some (.inl 29), CH_45)) 1577 (LT 6) (xEn 45 45) 100 (33, (LSW, ([.inl 37], HS)))) (1577, (LSW, ([.inl 29], CH_45))) = true := by decide +kernel
theorem t_ds45 : xsubh HM CH_45 = true := by decide +kernel
theorem t_dm45 : xleaf (xtold (xcall PROG FN 14) 2 [.inr (.inr (.inl 118)), .inr (.inr (.inr (.inl (1, 0))))] HM (some (.inl 29), MH_45)) 1670 (LT 6) 100 (1577, (LSW, ([.inl 29], HM))) (xEn 45 45) = true := by decide +kernel
theorem t_dc46 : e_s (xrun (xtold (xcall PROG FN 14) 3 [.inr (.inr (.inl 4)), .inr (.inr (.inr (.inl (1, 0))))] HS (some (.inl 30), CH_46)) 1577 (LT 6) (xEn 46 46) 100 (33, (LSW, ([.inl 37], HS)))) (1577, (LSW, ([.inl 30], CH_46))) = true := by decide +kernel
theorem t_ds46 : xsubh HM CH_46 = true := by decide +kernel
theorem t_dm46 : xleaf (xtold (xcall PROG FN 14) 2 [.inr (.inr (.inl 118)), .inr (.inr (.inr (.inl (1, 0))))] HM (some (.inl 30), MH_46)) 1670 (LT 6) 100 (1577, (LSW, ([.inl 30], HM))) (xEn 46 46) = true := by decide +kernel
theorem t_dc47 : e_s (xrun (xtold (xcall PROG FN 14) 3 [.inr (.inr (.inl 4)), .inr (.inr (.inr (.inl (1, 0))))] HS (some (.inl 31), CH_47)) 1577 (LT 6) (xEn 47 47) 100 (33, (LSW, ([.inl 37], HS)))) (1577, (LSW, ([.inl 31], CH_47))) = true := by decide +kernel
theorem t_ds47 : xsubh HM CH_47 = true := by decide +kernel
theorem t_dm47 : xleaf (xtold (xcall PROG FN 14) 2 [.inr (.inr (.inl 118)), .inr (.inr (.inr (.inl (1, 0))))] HM (some (.inl 31), MH_47)) 1670 (LT 6) 100 (1577, (LSW, ([.inl 31], HM))) (xEn 47 47) = true := by decide +kernel
theorem t_dc48 : e_s (xrun (xtold (xcall PROG FN 14) 3 [.inr (.inr (.inl 4)), .inr (.inr (.inr (.inl (1, 0))))] HS (some (.inl 32), CH_48)) 1577 (LT 6) (xEn 48 48) 100 (33, (LSW, ([.inl 37], HS)))) (1577, (LSW, ([.inl 32], CH_48))) = true := by decide +kernel
theorem t_ds48 : xsubh HM CH_48 = true := by decide +kernel
theorem t_dm48 : xleaf (xtold (xcall PROG FN 14) 2 [.inr (.inr (.inl 118)), .inr (.inr (.inr (.inl (1, 0))))] HM (some (.inl 32), MH_48)) 1670 (LT 6) 100 (1577, (LSW, ([.inl 32], HM))) (xEn 48 48) = true := by decide +kernel
theorem t_dc49 : e_s (xrun (xtold (xcall PROG FN 14) 3 [.inr (.inr (.inl 4)), .inr (.inr (.inr (.inl (1, 0))))] HS (some (.inl 32), CH_49)) 1577 (LT 6) (xEn 49 49) 100 (33, (LSW, ([.inl 37], HS)))) (1577, (LSW, ([.inl 32], CH_49))) = true := by decide +kernel
theorem t_ds49 : xsubh HM CH_49 = true := by decide +kernel
theorem t_dm49 : xleaf (xtold (xcall PROG FN 14) 2 [.inr (.inr (.inl 118)), .inr (.inr (.inr (.inl (1, 0))))] HM (some (.inl 32), MH_49)) 1670 (LT 6) 100 (1577, (LSW, ([.inl 32], HM))) (xEn 49 49) = true := by decide +kernel
theorem t_dc50 : e_s (xrun (xtold (xcall PROG FN 14) 3 [.inr (.inr (.inl 4)), .inr (.inr (.inr (.inl (1, 0))))] HS (some (.inl 33), CH_50)) 1577 (LT 6) (xEn 50 50) 100 (33, (LSW, ([.inl 37], HS)))) (1577, (LSW, ([.inl 33], CH_50))) = true := by decide +kernel
theorem t_ds50 : xsubh HM CH_50 = true := by decide +kernel
theorem t_dm50 : xleaf (xtold (xcall PROG FN 14) 2 [.inr (.inr (.inl 118)), .inr (.inr (.inr (.inl (1, 0))))] HM (some (.inl 33), MH_50)) 1670 (LT 6) 100 (1577, (LSW, ([.inl 33], HM))) (xEn 50 50) = true := by decide +kernel
theorem t_dc51 : e_s (xrun (xtold (xcall PROG FN 14) 3 [.inr (.inr (.inl 4)), .inr (.inr (.inr (.inl (1, 0))))] HS (some (.inl 34), CH_51)) 1577 (LT 6) (xEn 51 51) 100 (33, (LSW, ([.inl 37], HS)))) (1577, (LSW, ([.inl 34], CH_51))) = true := by decide +kernel
theorem t_ds51 : xsubh HM CH_51 = true := by decide +kernel
theorem t_dm51 : xleaf (xtold (xcall PROG FN 14) 2 [.inr (.inr (.inl 118)), .inr (.inr (.inr (.inl (1, 0))))] HM (some (.inl 34), MH_51)) 1670 (LT 6) 100 (1577, (LSW, ([.inl 34], HM))) (xEn 51 51) = true := by decide +kernel
theorem t_dc52 : e_s (xrun (xtold (xcall PROG FN 14) 3 [.inr (.inr (.inl 4)), .inr (.inr (.inr (.inl (1, 0))))] HS (some (.inl 35), CH_52)) 1577 (LT 6) (xEn 52 52) 100 (33, (LSW, ([.inl 37], HS)))) (1577, (LSW, ([.inl 35], CH_52))) = true := by decide +kernel
theorem t_ds52 : xsubh HM CH_52 = true := by decide +kernel
theorem t_dm52 : xleaf (xtold (xcall PROG FN 14) 2 [.inr (.inr (.inl 118)), .inr (.inr (.inr (.inl (1, 0))))] HM (some (.inl 35), MH_52)) 1670 (LT 6) 100 (1577, (LSW, ([.inl 35], HM))) (xEn 52 52) = true := by decide +kernel
theorem t_dc53 : e_s (xrun (xtold (xcall PROG FN 14) 3 [.inr (.inr (.inl 4)), .inr (.inr (.inr (.inl (1, 0))))] HS (some (.inl 36), CH_53)) 1577 (LT 6) (xEn 53 53) 100 (33, (LSW, ([.inl 37], HS)))) (1577, (LSW, ([.inl 36], CH_53))) = true := by decide +kernel
theorem t_ds53 : xsubh HM CH_53 = true := by decide +kernel
theorem t_dm53 : xleaf (xtold (xcall PROG FN 14) 2 [.inr (.inr (.inl 118)), .inr (.inr (.inr (.inl (1, 0))))] HM (some (.inl 36), MH_53)) 1670 (LT 6) 100 (1577, (LSW, ([.inl 36], HM))) (xEn 53 53) = true := by decide +kernel
theorem t_dc54 : e_s (xrun (xtold (xcall PROG FN 14) 3 [.inr (.inr (.inl 4)), .inr (.inr (.inr (.inl (1, 0))))] HS (some (.inl 37), CH_54)) 1577 (LT 6) (xEn 54 54) 100 (33, (LSW, ([.inl 37], HS)))) (1577, (LSW, ([.inl 37], CH_54))) = true := by decide +kernel
theorem t_ds54 : xsubh HM CH_54 = true := by decide +kernel
theorem t_dm54 : xleaf (xtold (xcall PROG FN 14) 2 [.inr (.inr (.inl 118)), .inr (.inr (.inr (.inl (1, 0))))] HM (some (.inl 37), MH_54)) 1670 (LT 6) 100 (1577, (LSW, ([.inl 37], HM))) (xEn 54 54) = true := by decide +kernel
theorem t_dc55 : e_s (xrun (xtold (xcall PROG FN 14) 3 [.inr (.inr (.inl 4)), .inr (.inr (.inr (.inl (1, 0))))] HS (some (.inl 38), CH_55)) 1577 (LT 6) (xEn 55 55) 100 (33, (LSW, ([.inl 37], HS)))) (1577, (LSW, ([.inl 38], CH_55))) = true := by decide +kernel
theorem t_ds55 : xsubh HM CH_55 = true := by decide +kernel
theorem t_dm55 : xleaf (xtold (xcall PROG FN 14) 2 [.inr (.inr (.inl 118)), .inr (.inr (.inr (.inl (1, 0))))] HM (some (.inl 38), MH_55)) 1670 (LT 6) 100 (1577, (LSW, ([.inl 38], HM))) (xEn 55 55) = true := by decide +kernel
theorem t_dc56 : e_s (xrun (xtold (xcall PROG FN 14) 3 [.inr (.inr (.inl 4)), .inr (.inr (.inr (.inl (1, 0))))] HS (some (.inl 39), CH_56)) 1577 (LT 6) (xEn 56 56) 100 (33, (LSW, ([.inl 37], HS)))) (1577, (LSW, ([.inl 39], CH_56))) = true := by decide +kernel
theorem t_ds56 : xsubh HM CH_56 = true := by decide +kernel
theorem t_dm56 : xleaf (xtold (xcall PROG FN 14) 2 [.inr (.inr (.inl 118)), .inr (.inr (.inr (.inl (1, 0))))] HM (some (.inl 39), MH_56)) 1670 (LT 6) 100 (1577, (LSW, ([.inl 39], HM))) (xEn 56 56) = true := by decide +kernel
theorem t_dc57 : e_s (xrun (xtold (xcall PROG FN 14) 3 [.inr (.inr (.inl 4)), .inr (.inr (.inr (.inl (1, 0))))] HS (some (.inl 40), CH_57)) 1577 (LT 6) (xEn 57 57) 100 (33, (LSW, ([.inl 37], HS)))) (1577, (LSW, ([.inl 40], CH_57))) = true := by decide +kernel
theorem t_ds57 : xsubh HM CH_57 = true := by decide +kernel
theorem t_dm57 : xleaf (xtold (xcall PROG FN 14) 2 [.inr (.inr (.inl 118)), .inr (.inr (.inr (.inl (1, 0))))] HM (some (.inl 40), MH_57)) 1670 (LT 6) 100 (1577, (LSW, ([.inl 40], HM))) (xEn 57 57) = true := by decide +kernel
theorem t_dc58 : e_s (xrun (xtold (xcall PROG FN 14) 3 [.inr (.inr (.inl 4)), .inr (.inr (.inr (.inl (1, 0))))] HS (some (.inl 41), CH_58)) 1577 (LT 6) (xEn 58 58) 100 (33, (LSW, ([.inl 37], HS)))) (1577, (LSW, ([.inl 41], CH_58))) = true := by decide +kernel
theorem t_ds58 : xsubh HM CH_58 = true := by decide +kernel
theorem t_dm58 : xleaf (xtold (xcall PROG FN 14) 2 [.inr (.inr (.inl 118)), .inr (.inr (.inr (.inl (1, 0))))] HM (some (.inl 41), MH_58)) 1670 (LT 6) 100 (1577, (LSW, ([.inl 41], HM))) (xEn 58 58) = true := by decide +kernel
theorem t_dc59 : e_s (xrun (xtold (xcall PROG FN 14) 3 [.inr (.inr (.inl 4)), .inr (.inr (.inr (.inl (1, 0))))] HS (some (.inl 42), CH_59)) 1577 (LT 6) (xEn 59 59) 100 (33, (LSW, ([.inl 37], HS)))) (1577, (LSW, ([.inl 42], CH_59))) = true := by decide +kernel
theorem t_ds59 : xsubh HM CH_59 = true := by decide +kernel
theorem t_dm59 : xleaf (xtold (xcall PROG FN 14) 2 [.inr (.inr (.inl 118)), .inr (.inr (.inr (.inl (1, 0))))] HM (some (.inl 42), MH_59)) 1670 (LT 6) 100 (1577, (LSW, ([.inl 42], HM))) (xEn 59 59) = true := by decide +kernel
theorem t_dc60 : e_s (xrun (xtold (xcall PROG FN 14) 3 [.inr (.inr (.inl 4)), .inr (.inr (.inr (.inl (1, 0))))] HS (some (.inl 43), CH_60)) 1577 (LT 6) (xEn 60 60) 100 (33, (LSW, ([.inl 37], HS)))) (1577, (LSW, ([.inl 43], CH_60))) = true := by decide +kernel
theorem t_ds60 : xsubh HM CH_60 = true := by decide +kernel
theorem t_dm60 : xleaf (xtold (xcall PROG FN 14) 2 [.inr (.inr (.inl 118)), .inr (.inr (.inr (.inl (1, 0))))] HM (some (.inl 43), MH_60)) 1670 (LT 6) 100 (1577, (LSW, ([.inl 43], HM))) (xEn 60 60) = true := by decide +kernel
