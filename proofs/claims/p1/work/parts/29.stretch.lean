theorem t_pre : e_s (xrun (xcall PROG FN 14) 18 LT0 E0 FN (0, ([some (.inr (.inr (.inl 3))), none, none, none], ([], H0)))) (18, (LS0, ([], HS))) = true := by decide +kernel
theorem t_L0 : xleaf (xcall PROG FN 14) 1670 (LT 0) FN (18, (LS0, ([], HS))) E0 = true := by decide +kernel
theorem t_L1 : xleaf (xcall PROG FN 14) 1670 (LT 1) FN (18, (LS0, ([], HS))) E0 = true := by decide +kernel
theorem t_L2 : xleaf (xcall PROG FN 14) 1670 (LT 2) FN (18, (LS0, ([], HS))) E0 = true := by decide +kernel
theorem t_L3 : xleaf (xcall PROG FN 14) 1670 (LT 3) FN (18, (LS0, ([], HS))) E0 = true := by decide +kernel
theorem t_L4 : xleaf (xcall PROG FN 14) 1670 (LT 4) FN (18, (LS0, ([], HS))) E0 = true := by decide +kernel
theorem t_L5 : xleaf (xcall PROG FN 14) 1670 (LT 5) FN (18, (LS0, ([], HS))) E0 = true := by decide +kernel
theorem t_sw : e_s (xrun (xcall PROG FN 14) 33 (LT 6) E0 FN (18, (LS0, ([], HS)))) (33, (LSW, ([.inr (.inr (.inr (.inr (.inr (.inl (63, 0))))))], HS))) = true := by decide +kernel
