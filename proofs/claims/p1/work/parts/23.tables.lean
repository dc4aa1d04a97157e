noncomputable def B_0_0 : XK := X_load xkR 0 <| X_oinit <| X_jump 4
noncomputable def B_0_4 : XK := X_load xkR 0 <| X_push (.inl 276) <| X_push (.inl 4) <| X_multi 10 <| X_putf xkR 12 0 <| X_load xkR 0 <| X_push (.inl 276) <| X_newa 0 <| X_putf xkR 12 1 <| X_load xkR 0 <| X_push (.inl 12) <| X_newa 2 <| X_putf xkR 12 2 <| X_load xkR 0 <| X_push (.inl 5) <| X_push (.inl 64) <| X_multi 10 <| X_putf xkR 12 3 <| X_load xkR 0 <| X_push (.inl 5) <| X_newa 0 <| X_putf xkR 12 4 <| X_load xkR 0 <| X_push (.inl 32) <| X_newa 0 <| X_putf xkR 12 5 <| X_load xkR 0 <| X_push (.inl 91) <| X_newa 0 <| X_putf xkR 12 6 <| X_load xkR 0 <| X_push (.inl 2) <| X_newa 0 <| X_dup <| X_push (.inl 0) <| X_push (.inl 0) <| X_ast xt0 xkI <| X_dup <| X_push (.inl 1) <| X_push (.inl 1) <| X_ast xt0 xkI <| X_putf xkR 12 7 <| X_load xkR 0 <| X_push (.inl 7) <| X_newa 0 <| X_putf xkR 12 8 <| X_load xkR 0 <| X_push (.inl 4) <| X_push (.inl 24000) <| X_multi 10 <| X_putf xkR 12 9 <| X_load xkR 0 <| X_push (.inl 4) <| X_newa 0 <| X_putf xkR 12 10 <| X_load xkR 0 <| X_push (.inl 24000) <| X_newa 0 <| X_putf xkR 12 11 <| X_load xkR 0 <| X_push (.inl 250) <| X_newa 0 <| X_putf xkR 12 12 <| X_load xkR 0 <| X_push (.inl 8) <| X_newa 0 <| X_dup <| X_push (.inl 0) <| X_push (.inl 4294967295) <| X_ast xt0 xkI <| X_dup <| X_push (.inl 1) <| X_push (.inl 4294967295) <| X_ast xt0 xkI <| X_dup <| X_push (.inl 2) <| X_push (.inl 4294967295) <| X_ast xt0 xkI <| X_dup <| X_push (.inl 3) <| X_push (.inl 4294967295) <| X_ast xt0 xkI <| X_dup <| X_push (.inl 4) <| X_push (.inl 4294967295) <| X_ast xt0 xkI <| X_dup <| X_push (.inl 5) <| X_push (.inl 4294967295) <| X_ast xt0 xkI <| X_dup <| X_push (.inl 6) <| X_push (.inl 4294967295) <| X_ast xt0 xkI <| X_dup <| X_push (.inl 7) <| X_push (.inl 4294967295) <| X_ast xt0 xkI <| X_putf xkR 12 19 <| X_load xkR 0 <| X_push (.inl 8) <| X_newa 0 <| X_putf xkR 12 20 <| X_load xkR 0 <| X_push (.inl 320) <| X_newa 1 <| X_putf xkR 12 21 <| X_load xkR 0 <| X_push (.inl 8) <| X_newa 0 <| X_putf xkR 12 22 <| X_load xkR 0 <| X_push (.inl 8) <| X_newa 0 <| X_putf xkR 12 23 <| X_load xkR 0 <| X_push (.inl 8) <| X_newa 0 <| X_putf xkR 12 24 <| X_load xkR 0 <| X_push (.inl 276) <| X_push (.inl 4) <| X_multi 10 <| X_putf xkR 12 25 <| X_load xkR 0 <| X_push (.inl 276) <| X_newa 0 <| X_putf xkR 12 26 <| X_load xkR 0 <| X_push (.inl 5) <| X_push (.inl 64) <| X_multi 10 <| X_putf xkR 12 27 <| X_load xkR 0 <| X_push (.inl 5) <| X_newa 0 <| X_putf xkR 12 28 <| X_load xkR 0 <| X_push (.inl 32) <| X_newa 0 <| X_putf xkR 12 29 <| X_load xkR 0 <| X_push (.inl 91) <| X_newa 0 <| X_putf xkR 12 30 <| X_load xkR 0 <| X_push (.inl 2) <| X_newa 0 <| X_putf xkR 12 31 <| X_vret
noncomputable def T_0 : Nat → Option XK := fun pc => (cond (Nat.blt pc 4) (cond (Nat.beq pc 0) (some B_0_0) none) (cond (Nat.beq pc 4) (some B_0_4) none))
noncomputable def B_1_0 : XK := X_load xkR 0 <| X_oinit <| X_jump 4
noncomputable def B_1_4 : XK := X_load xkR 0 <| X_push (.inl 12) <| X_newa 11 <| X_putf xkR 11 0 <| X_load xkR 0 <| X_push (.inl 8) <| X_newa 12 <| X_putf xkR 11 1 <| X_load xkR 0 <| X_push (.inl 5) <| X_newa 0 <| X_putf xkR 11 2 <| X_load xkR 0 <| X_new 3 [.inr (.inr (.inl 0)), .inr (.inr (.inl 0)), .inr (.inr (.inl 0)), .inr (.inr (.inl 0)), .inr (.inr (.inl 0)), .inr (.inr (.inl 0)), .inr (.inr (.inl 0)), .inr (.inr (.inl 0)), .inr (.inr (.inl 0)), .inr (.inr (.inl 0)), .inr (.inr (.inl 0)), .inl 0, .inl 0, .inl 0, .inl 0] 15 <| X_dup <| X_callI 4 1 37
noncomputable def B_1_37 : XK := X_putf xkR 11 3 <| X_load xkR 0 <| X_new 9 [.inr (.inr (.inl 0)), .inl 0, .inl 0] 3 <| X_dup <| X_load xkR 0 <| X_getf 11 3 <| X_callI 5 2 52
noncomputable def B_1_52 : XK := X_putf xkR 11 4 <| X_load xkR 0 <| X_new 7 [.inr (.inr (.inl 0)), .inr (.inr (.inl 0)), .inl 0] 3 <| X_dup <| X_load xkR 0 <| X_getf 11 3 <| X_callI 6 2 67
noncomputable def B_1_67 : XK := X_putf xkR 11 5 <| X_load xkR 0 <| X_new 4 [.inr (.inr (.inl 0)), .inr (.inr (.inl 0)), .inr (.inr (.inl 0)), .inr (.inr (.inl 0)), .inr (.inr (.inl 0)), .inr (.inr (.inl 0)), .inr (.inr (.inl 0))] 7 <| X_dup <| X_load xkR 0 <| X_getf 11 3 <| X_callI 7 2 82
noncomputable def B_1_82 : XK := X_putf xkR 11 6 <| X_load xkR 0 <| X_load xkR 0 <| X_getf 11 3 <| X_callV 3 8 1 93
noncomputable def B_1_93 : XK := X_putf xkR 11 7 <| X_load xkR 0 <| X_new 5 [.inr (.inr (.inl 0)), .inr (.inr (.inl 0)), .inr (.inr (.inl 0)), .inr (.inr (.inl 0)), .inl 0, .inl 0] 6 <| X_dup <| X_load xkR 0 <| X_getf 11 3 <| X_new 6 [.inr (.inr (.inl 0)), .inr (.inr (.inl 0)), .inr (.inr (.inl 0))] 3 <| X_dup <| X_load xkR 0 <| X_getf 11 3 <| X_callI 9 2 116
noncomputable def B_1_116 : XK := X_callI 10 3 119
noncomputable def B_1_119 : XK := X_putf xkR 11 8 <| X_vret
noncomputable def T_1 : Nat → Option XK := fun pc => (cond (Nat.blt pc 67) (cond (Nat.blt pc 37) (cond (Nat.blt pc 4) (cond (Nat.beq pc 0) (some B_1_0) none) (cond (Nat.beq pc 4) (some B_1_4) none)) (cond (Nat.blt pc 52) (cond (Nat.beq pc 37) (some B_1_37) none) (cond (Nat.beq pc 52) (some B_1_52) none))) (cond (Nat.blt pc 93) (cond (Nat.blt pc 82) (cond (Nat.beq pc 67) (some B_1_67) none) (cond (Nat.beq pc 82) (some B_1_82) none)) (cond (Nat.blt pc 116) (cond (Nat.beq pc 93) (some B_1_93) none) (cond (Nat.blt pc 119) (cond (Nat.beq pc 116) (some B_1_116) none) (cond (Nat.beq pc 119) (some B_1_119) none)))))
noncomputable def B_2_0 : XK := X_load xkI 1 <| X_i2l <| X_push (.inr (.inl 1)) <| X_push (.inr (.inl 60)) <| X_callS 11 3 9
noncomputable def B_2_9 : XK := X_if p_ne d_ne 19 <| X_load xkR 0 <| X_push (.inl 4294967294) <| X_callV 12 12 2 18
noncomputable def B_2_18 : XK := X_ret xkI
noncomputable def B_2_19 : XK := X_push (.inl 0) <| X_store xkI 2 <| X_push (.inl 0) <| X_store xkI 3 <| X_jump 23
noncomputable def B_2_23 : XK := X_load xkI 3 <| X_load xkI 1 <| X_if2 p2_ge d_ge 64 <| X_load xkR 0 <| X_push (.inl 4) <| X_callV 12 13 2 33
noncomputable def B_2_33 : XK := X_store xkI 4 <| X_load xkI 2 <| X_load xkR 0 <| X_load xkI 4 <| X_load xkR 0 <| X_push (.inl 8) <| X_callV 12 13 2 45
noncomputable def B_2_45 : XK := X_callV 12 14 3 48
noncomputable def B_2_48 : XK := X_if p_eq d_eq 55 <| X_push (.inl 1) <| X_jump 56
noncomputable def B_2_55 : XK := X_push (.inl 0) <| X_jump 56
noncomputable def B_2_56 : XK := X_ibin x_iadd xg_add <| X_store xkI 2 <| X_iinc 3 1 <| X_jump 23
noncomputable def B_2_64 : XK := X_load xkI 2 <| X_ret xkI
noncomputable def T_2 : Nat → Option XK := fun pc => (cond (Nat.blt pc 33) (cond (Nat.blt pc 18) (cond (Nat.blt pc 9) (cond (Nat.beq pc 0) (some B_2_0) none) (cond (Nat.beq pc 9) (some B_2_9) none)) (cond (Nat.blt pc 19) (cond (Nat.beq pc 18) (some B_2_18) none) (cond (Nat.blt pc 23) (cond (Nat.beq pc 19) (some B_2_19) none) (cond (Nat.beq pc 23) (some B_2_23) none)))) (cond (Nat.blt pc 55) (cond (Nat.blt pc 45) (cond (Nat.beq pc 33) (some B_2_33) none) (cond (Nat.blt pc 48) (cond (Nat.beq pc 45) (some B_2_45) none) (cond (Nat.beq pc 48) (some B_2_48) none))) (cond (Nat.blt pc 56) (cond (Nat.beq pc 55) (some B_2_55) none) (cond (Nat.blt pc 64) (cond (Nat.beq pc 56) (some B_2_56) none) (cond (Nat.beq pc 64) (some B_2_64) none)))))
noncomputable def B_3_0 : XK := X_load xkI 1 <| X_push (.inl 1) <| X_if2 p2_lt d_lt 11 <| X_load xkI 1 <| X_push (.inl 60) <| X_if2 p2_le d_le 18 <| X_jump 11
noncomputable def B_3_11 : XK := X_load xkR 0 <| X_push (.inl 4294967294) <| X_callV 11 15 2 17
noncomputable def B_3_17 : XK := X_ret xkI
noncomputable def B_3_18 : XK := X_push (.inl 0) <| X_store xkI 2 <| X_push (.inl 0) <| X_store xkI 3 <| X_jump 22
noncomputable def B_3_22 : XK := X_load xkI 3 <| X_load xkI 1 <| X_if2 p2_ge d_ge 189 <| X_load xkR 0 <| X_getf 11 8 <| X_push (.inr (.inl 4)) <| X_callV 5 16 2 37
noncomputable def B_3_37 : XK := X_l2i <| X_store xkI 4 <| X_load xkR 0 <| X_getf 11 8 <| X_push (.inr (.inl 8)) <| X_callV 5 16 2 50
noncomputable def B_3_50 : XK := X_l2i <| X_store xkI 5 <| X_load xkR 0 <| X_getf 11 8 <| X_load xkI 4 <| X_callV 5 17 2 62
noncomputable def B_3_62 : XK := X_store xkR 6 <| X_load xkR 6 <| X_ifr p_eq 183 <| X_load xkR 0 <| X_load xkR 6 <| X_load xkI 5 <| X_callV 11 18 3 77
noncomputable def B_3_77 : XK := X_if p_ne d_ne 83 <| X_jump 183
noncomputable def B_3_83 : XK := X_iinc 2 1 <| X_load xkI 5 <| X_push (.inl 4) <| X_if2 p2_gt d_gt 116 <| X_load xkR 0 <| X_load xkR 6 <| X_load xkI 5 <| X_callV 11 19 3 100
noncomputable def B_3_100 : XK := X_load xkR 6 <| X_load xkR 0 <| X_getf 11 7 <| X_load xkR 0 <| X_getf 11 6 <| X_callV 0 20 3 113
noncomputable def B_3_113 : XK := X_jump 183
noncomputable def B_3_116 : XK := X_load xkI 5 <| X_push (.inl 5) <| X_if2 p2_ne d_ne 144 <| X_load xkR 6 <| X_load xkR 6 <| X_getf 0 4 <| X_load xkR 6 <| X_getf 0 5 <| X_load xkR 0 <| X_getf 11 6 <| X_callV 0 21 4 141
noncomputable def B_3_141 : XK := X_jump 183
noncomputable def B_3_144 : XK := X_load xkI 5 <| X_push (.inl 6) <| X_if2 p2_ne d_ne 167 <| X_load xkR 0 <| X_getf 11 8 <| X_load xkI 4 <| X_load xkR 0 <| X_getf 11 6 <| X_callV 5 22 3 164
noncomputable def B_3_164 : XK := X_jump 183
noncomputable def B_3_167 : XK := X_load xkR 6 <| X_load xkR 0 <| X_getf 11 8 <| X_getf 5 0 <| X_load xkR 0 <| X_getf 11 6 <| X_callV 0 23 3 183
noncomputable def B_3_183 : XK := X_iinc 3 1 <| X_jump 22
noncomputable def B_3_189 : XK := X_load xkI 2 <| X_ret xkI
noncomputable def T_3 : Nat → Option XK := fun pc => (cond (Nat.blt pc 83) (cond (Nat.blt pc 22) (cond (Nat.blt pc 17) (cond (Nat.blt pc 11) (cond (Nat.beq pc 0) (some B_3_0) none) (cond (Nat.beq pc 11) (some B_3_11) none)) (cond (Nat.blt pc 18) (cond (Nat.beq pc 17) (some B_3_17) none) (cond (Nat.beq pc 18) (some B_3_18) none))) (cond (Nat.blt pc 50) (cond (Nat.blt pc 37) (cond (Nat.beq pc 22) (some B_3_22) none) (cond (Nat.beq pc 37) (some B_3_37) none)) (cond (Nat.blt pc 62) (cond (Nat.beq pc 50) (some B_3_50) none) (cond (Nat.blt pc 77) (cond (Nat.beq pc 62) (some B_3_62) none) (cond (Nat.beq pc 77) (some B_3_77) none))))) (cond (Nat.blt pc 144) (cond (Nat.blt pc 113) (cond (Nat.blt pc 100) (cond (Nat.beq pc 83) (some B_3_83) none) (cond (Nat.beq pc 100) (some B_3_100) none)) (cond (Nat.blt pc 116) (cond (Nat.beq pc 113) (some B_3_113) none) (cond (Nat.blt pc 141) (cond (Nat.beq pc 116) (some B_3_116) none) (cond (Nat.beq pc 141) (some B_3_141) none)))) (cond (Nat.blt pc 167) (cond (Nat.blt pc 164) (cond (Nat.beq pc 144) (some B_3_144) none) (cond (Nat.beq pc 164) (some B_3_164) none)) (cond (Nat.blt pc 183) (cond (Nat.beq pc 167) (some B_3_167) none) (cond (Nat.blt pc 189) (cond (Nat.beq pc 183) (some B_3_183) none) (cond (Nat.beq pc 189) (some B_3_189) none))))))
noncomputable def B_4_0 : XK := X_load xkR 0 <| X_oinit <| X_jump 4
noncomputable def B_4_4 : XK := X_load xkR 0 <| X_new 13 [.inl 0, .inr (.inr (.inl 0)), .inl 0] 3 <| X_dup <| X_callI 24 1 12
noncomputable def B_4_12 : XK := X_putf xkR 3 0 <| X_load xkR 0 <| X_push (.inl 128) <| X_newa 0 <| X_putf xkR 3 1 <| X_load xkR 0 <| X_push (.inl 128) <| X_newa 0 <| X_putf xkR 3 2 <| X_load xkR 0 <| X_push (.inl 1024) <| X_newa 0 <| X_putf xkR 3 3 <| X_load xkR 0 <| X_push (.inl 1024) <| X_newa 0 <| X_putf xkR 3 4 <| X_load xkR 0 <| X_push (.inl 1024) <| X_newa 1 <| X_putf xkR 3 5 <| X_load xkR 0 <| X_push (.inl 1024) <| X_newa 0 <| X_putf xkR 3 6 <| X_load xkR 0 <| X_push (.inl 1024) <| X_newa 0 <| X_putf xkR 3 7 <| X_load xkR 0 <| X_push (.inl 1024) <| X_newa 0 <| X_putf xkR 3 8 <| X_load xkR 0 <| X_push (.inl 1024) <| X_newa 0 <| X_putf xkR 3 9 <| X_load xkR 0 <| X_push (.inl 2048) <| X_newa 0 <| X_putf xkR 3 10 <| X_load xkR 0 <| X_push (.inl 16777216) <| X_putf xkI 3 11 <| X_load xkR 0 <| X_push (.inl 512) <| X_putf xkI 3 13 <| X_load xkR 0 <| X_push (.inl 1024) <| X_putf xkI 3 14 <| X_push (.inl 0) <| X_store xkI 1 <| X_jump 127
noncomputable def B_4_127 : XK := X_load xkI 1 <| X_push (.inl 512) <| X_if2 p2_ge d_ge 163 <| X_load xkI 1 <| X_push (.inl 1024) <| X_if2 p2_ge d_ge 163 <| X_load xkR 0 <| X_getf 3 5 <| X_load xkI 1 <| X_push (.inr (.inl 1)) <| X_ast xt1 xkL <| X_load xkR 0 <| X_getf 3 7 <| X_load xkI 1 <| X_load xkI 1 <| X_push (.inl 5) <| X_ibin x_ishr (xg0 x_ishr) <| X_ast xt0 xkI <| X_iinc 1 1 <| X_jump 127
noncomputable def B_4_163 : XK := X_vret
noncomputable def T_4 : Nat → Option XK := fun pc => (cond (Nat.blt pc 12) (cond (Nat.blt pc 4) (cond (Nat.beq pc 0) (some B_4_0) none) (cond (Nat.beq pc 4) (some B_4_4) none)) (cond (Nat.blt pc 127) (cond (Nat.beq pc 12) (some B_4_12) none) (cond (Nat.blt pc 163) (cond (Nat.beq pc 127) (some B_4_127) none) (cond (Nat.beq pc 163) (some B_4_163) none))))
noncomputable def B_5_0 : XK := X_load xkR 0 <| X_oinit <| X_jump 4
noncomputable def B_5_4 : XK := X_load xkR 0 <| X_new 7 [.inr (.inr (.inl 0)), .inr (.inr (.inl 0)), .inl 0] 3 <| X_dup <| X_load xkR 1 <| X_callI 6 2 13
noncomputable def B_5_13 : XK := X_putf xkR 9 0 <| X_vret
noncomputable def T_5 : Nat → Option XK := fun pc => (cond (Nat.blt pc 4) (cond (Nat.beq pc 0) (some B_5_0) none) (cond (Nat.blt pc 13) (cond (Nat.beq pc 4) (some B_5_4) none) (cond (Nat.beq pc 13) (some B_5_13) none)))
noncomputable def B_6_0 : XK := X_load xkR 0 <| X_oinit <| X_jump 4
noncomputable def B_6_4 : XK := X_load xkR 0 <| X_push (.inl 4) <| X_newa 1 <| X_putf xkR 7 1 <| X_load xkR 0 <| X_load xkR 1 <| X_putf xkR 7 0 <| X_vret
noncomputable def T_6 : Nat → Option XK := fun pc => (cond (Nat.blt pc 4) (cond (Nat.beq pc 0) (some B_6_0) none) (cond (Nat.beq pc 4) (some B_6_4) none))
noncomputable def B_7_0 : XK := X_load xkR 0 <| X_oinit <| X_jump 4
noncomputable def B_7_4 : XK := X_load xkR 0 <| X_new 10 [.inr (.inr (.inl 0)), .inl 0, .inl 0, .inr (.inl 0), .inr (.inl 0), .inl 0, .inl 0] 7 <| X_dup <| X_callI 25 1 12
noncomputable def B_7_12 : XK := X_putf xkR 4 1 <| X_load xkR 0 <| X_new 10 [.inr (.inr (.inl 0)), .inl 0, .inl 0, .inr (.inl 0), .inr (.inl 0), .inl 0, .inl 0] 7 <| X_dup <| X_callI 25 1 23
noncomputable def B_7_23 : XK := X_putf xkR 4 2 <| X_load xkR 0 <| X_load xkR 1 <| X_putf xkR 4 0 <| X_load xkR 0 <| X_load xkR 0 <| X_getf 4 0 <| X_callV 3 8 1 39
noncomputable def B_7_39 : XK := X_putf xkR 4 3 <| X_load xkR 0 <| X_load xkR 0 <| X_getf 4 0 <| X_callV 3 8 1 50
noncomputable def B_7_50 : XK := X_putf xkR 4 4 <| X_load xkR 0 <| X_load xkR 0 <| X_getf 4 0 <| X_callV 3 8 1 61
noncomputable def B_7_61 : XK := X_putf xkR 4 5 <| X_load xkR 0 <| X_load xkR 0 <| X_getf 4 0 <| X_callV 3 8 1 72
noncomputable def B_7_72 : XK := X_putf xkR 4 6 <| X_vret
noncomputable def T_7 : Nat → Option XK := fun pc => (cond (Nat.blt pc 39) (cond (Nat.blt pc 12) (cond (Nat.blt pc 4) (cond (Nat.beq pc 0) (some B_7_0) none) (cond (Nat.beq pc 4) (some B_7_4) none)) (cond (Nat.blt pc 23) (cond (Nat.beq pc 12) (some B_7_12) none) (cond (Nat.beq pc 23) (some B_7_23) none))) (cond (Nat.blt pc 61) (cond (Nat.blt pc 50) (cond (Nat.beq pc 39) (some B_7_39) none) (cond (Nat.beq pc 50) (some B_7_50) none)) (cond (Nat.blt pc 72) (cond (Nat.beq pc 61) (some B_7_61) none) (cond (Nat.beq pc 72) (some B_7_72) none))))
noncomputable def B_8_0 : XK := X_new 1 [.inr (.inr (.inl 0)), .inr (.inr (.inl 0)), .inl 0, .inr (.inl 0), .inr (.inl 0)] 5 <| X_dup <| X_load xkR 0 <| X_callI 26 2 8
noncomputable def B_8_8 : XK := X_store xkR 1 <| X_load xkR 0 <| X_getf 3 0 <| X_load xkR 1 <| X_callV 13 27 2 17
noncomputable def B_8_17 : XK := X_pop <| X_load xkR 1 <| X_ret xkR
noncomputable def T_8 : Nat → Option XK := fun pc => (cond (Nat.blt pc 8) (cond (Nat.beq pc 0) (some B_8_0) none) (cond (Nat.blt pc 17) (cond (Nat.beq pc 8) (some B_8_8) none) (cond (Nat.beq pc 17) (some B_8_17) none)))
noncomputable def B_9_0 : XK := X_load xkR 0 <| X_oinit <| X_jump 4
noncomputable def B_9_4 : XK := X_load xkR 0 <| X_push (.inl 90) <| X_newa 11 <| X_putf xkR 6 0 <| X_load xkR 0 <| X_push (.inl 90) <| X_newa 0 <| X_putf xkR 6 1 <| X_load xkR 0 <| X_load xkR 1 <| X_putf xkR 6 2 <| X_vret
noncomputable def T_9 : Nat → Option XK := fun pc => (cond (Nat.blt pc 4) (cond (Nat.beq pc 0) (some B_9_0) none) (cond (Nat.beq pc 4) (some B_9_4) none))
noncomputable def B_10_0 : XK := X_load xkR 0 <| X_oinit <| X_jump 4
noncomputable def B_10_4 : XK := X_load xkR 0 <| X_push (.inl 4) <| X_newa 13 <| X_putf xkR 5 1 <| X_load xkR 0 <| X_push (.inl 1) <| X_putf xkI 5 5 <| X_load xkR 0 <| X_load xkR 1 <| X_putf xkR 5 3 <| X_load xkR 0 <| X_load xkR 2 <| X_putf xkR 5 0 <| X_load xkR 0 <| X_load xkR 0 <| X_getf 5 3 <| X_callV 3 8 1 35
noncomputable def B_10_35 : XK := X_putf xkR 5 2 <| X_push (.inl 0) <| X_store xkI 3 <| X_jump 40
noncomputable def B_10_40 : XK := X_load xkI 3 <| X_load xkR 0 <| X_getf 5 1 <| X_alen <| X_if2 p2_ge d_ge 73 <| X_load xkR 0 <| X_getf 5 1 <| X_load xkI 3 <| X_new 0 [.inl 0, .inr (.inr (.inl 0)), .inr (.inr (.inl 0)), .inr (.inr (.inl 0)), .inr (.inr (.inl 0)), .inr (.inr (.inl 0)), .inl 0, .inl 0, .inl 0, .inl 0, .inr (.inl 0), .inr (.inl 0)] 12 <| X_dup <| X_load xkI 3 <| X_load xkR 0 <| X_getf 5 3 <| X_callI 28 3 66
noncomputable def B_10_66 : XK := X_aast xok <| X_iinc 3 1 <| X_jump 40
noncomputable def B_10_73 : XK := X_vret
noncomputable def T_10 : Nat → Option XK := fun pc => (cond (Nat.blt pc 40) (cond (Nat.blt pc 4) (cond (Nat.beq pc 0) (some B_10_0) none) (cond (Nat.blt pc 35) (cond (Nat.beq pc 4) (some B_10_4) none) (cond (Nat.beq pc 35) (some B_10_35) none))) (cond (Nat.blt pc 66) (cond (Nat.beq pc 40) (some B_10_40) none) (cond (Nat.blt pc 73) (cond (Nat.beq pc 66) (some B_10_66) none) (cond (Nat.beq pc 73) (some B_10_73) none))))
noncomputable def B_11_0 : XK := X_load xkL 0 <| X_load xkL 2 <| X_lcif pL_lt d_lt 17 <| X_load xkL 0 <| X_load xkL 4 <| X_lcif pL_gt d_gt 17 <| X_push (.inl 1) <| X_jump 18
noncomputable def B_11_17 : XK := X_push (.inl 0) <| X_jump 18
noncomputable def B_11_18 : XK := X_ret xk01
noncomputable def T_11 : Nat → Option XK := fun pc => (cond (Nat.blt pc 17) (cond (Nat.beq pc 0) (some B_11_0) none) (cond (Nat.blt pc 18) (cond (Nat.beq pc 17) (some B_11_17) none) (cond (Nat.beq pc 18) (some B_11_18) none)))
noncomputable def B_12_0 : XK := X_load xkR 0 <| X_getf 12 8 <| X_load xkI 1 <| X_ineg <| X_dup2 <| X_ald xt0 <| X_push (.inl 1) <| X_ibin x_iadd xg_add <| X_ast xt0 xkI <| X_load xkI 1 <| X_ret xkI
noncomputable def T_12 : Nat → Option XK := fun pc => (cond (Nat.beq pc 0) (some B_12_0) none)
noncomputable def B_13_0 : XK := X_load xkR 0 <| X_getf 12 7 <| X_push (.inl 1) <| X_load xkR 0 <| X_getf 12 7 <| X_push (.inl 1) <| X_ald xt0 <| X_push (.inl 1103515245) <| X_ibin x_imul (xg0 x_imul) <| X_push (.inl 12345) <| X_ibin x_iadd xg_add <| X_ast xt0 xkI <| X_load xkR 0 <| X_getf 12 7 <| X_push (.inl 1) <| X_ald xt0 <| X_push (.inl 16) <| X_ibin x_iushr (xg0 x_iushr) <| X_load xkI 1 <| X_irem <| X_ret xkI
noncomputable def T_13 : Nat → Option XK := fun pc => (cond (Nat.beq pc 0) (some B_13_0) none)
noncomputable def B_14_0 : XK := X_load xkR 0 <| X_getf 12 4 <| X_load xkI 1 <| X_ald xt0 <| X_store xkI 3 <| X_load xkI 2 <| X_push (.inl 3) <| X_if2 p2_ge d_ge 47 <| X_load xkI 3 <| X_push (.inl 60) <| X_if2 p2_lt d_lt 20 <| X_push (.inl 0) <| X_ret xk01
noncomputable def B_14_20 : XK := X_load xkR 0 <| X_push (.inl 26) <| X_callV 12 13 2 26
noncomputable def B_14_26 : XK := X_store xkI 4 <| X_load xkR 0 <| X_load xkI 1 <| X_load xkR 0 <| X_load xkI 3 <| X_push (.inl 1) <| X_ibin x_iadd xg_add <| X_callV 12 13 2 37
noncomputable def B_14_37 : XK := X_push (.inl 1048576) <| X_load xkI 4 <| X_ibin Nat.lor xg_or <| X_callV 12 29 4 45
noncomputable def B_14_45 : XK := X_push (.inl 1) <| X_ret xk01
noncomputable def B_14_47 : XK := X_load xkI 2 <| X_push (.inl 5) <| X_if2 p2_ge d_ge 103 <| X_load xkI 3 <| X_if p_ne d_ne 58 <| X_push (.inl 0) <| X_ret xk01
noncomputable def B_14_58 : XK := X_load xkR 0 <| X_load xkI 3 <| X_callV 12 13 2 63
noncomputable def B_14_63 : XK := X_store xkI 4 <| X_load xkR 0 <| X_load xkI 1 <| X_load xkI 4 <| X_push (.inl 1) <| X_load xkI 2 <| X_push (.inl 3) <| X_if2 p2_ne d_ne 80 <| X_push (.inl 3145728) <| X_jump 91
noncomputable def B_14_80 : XK := X_push (.inl 4194304) <| X_push (.inl 16) <| X_load xkR 0 <| X_push (.inl 4) <| X_callV 12 13 2 89
noncomputable def B_14_89 : XK := X_ibin x_ishl xg_shl <| X_ibin Nat.lor xg_or <| X_jump 91
noncomputable def B_14_91 : XK := X_callV 12 30 5 94
noncomputable def B_14_94 : XK := X_load xkR 0 <| X_load xkI 1 <| X_push (.inl 4) <| X_push (.inl 1) <| X_callV 12 31 4 101
noncomputable def B_14_101 : XK := X_push (.inl 1) <| X_ret xk01
noncomputable def B_14_103 : XK := X_load xkI 2 <| X_push (.inl 5) <| X_if2 p2_ne d_ne 123 <| X_load xkR 0 <| X_load xkI 1 <| X_push (.inl 4) <| X_callV 12 32 3 114
noncomputable def B_14_114 : XK := X_if p_ne d_ne 121 <| X_push (.inl 1) <| X_jump 122
noncomputable def B_14_121 : XK := X_push (.inl 0) <| X_jump 122
noncomputable def B_14_122 : XK := X_ret xk01
noncomputable def B_14_123 : XK := X_load xkI 2 <| X_push (.inl 6) <| X_if2 p2_ne d_ne 176 <| X_load xkR 0 <| X_load xkI 1 <| X_push (.inl 1) <| X_callV 12 33 3 135
noncomputable def B_14_135 : XK := X_push (.inl 1) <| X_if2 p2_ne d_ne 154 <| X_load xkR 0 <| X_getf 12 7 <| X_push (.inl 0) <| X_ald xt0 <| X_push (.inl 90) <| X_if2 p2_ge d_ge 154 <| X_push (.inl 1) <| X_jump 155
noncomputable def B_14_154 : XK := X_push (.inl 0) <| X_jump 155
noncomputable def B_14_155 : XK := X_store xkI 4 <| X_load xkI 4 <| X_if p_eq d_eq 170 <| X_load xkR 0 <| X_load xkI 1 <| X_callV 12 34 2 167
noncomputable def B_14_167 : XK := X_jump 171
noncomputable def B_14_170 : XK := X_push (.inl 0) <| X_jump 171
noncomputable def B_14_171 : XK := X_store xkI 5 <| X_load xkI 4 <| X_ret xk01
noncomputable def B_14_176 : XK := X_load xkR 0 <| X_load xkI 1 <| X_push (.inl 0) <| X_callV 12 33 3 182
noncomputable def B_14_182 : XK := X_load xkR 0 <| X_getf 12 7 <| X_push (.inl 0) <| X_ald xt0 <| X_if2 p2_ne d_ne 193 <| X_push (.inl 0) <| X_ret xk01
noncomputable def B_14_193 : XK := X_load xkR 0 <| X_load xkI 1 <| X_callV 12 35 2 198
noncomputable def B_14_198 : XK := X_push (.inl 1) <| X_ret xk01
noncomputable def T_14 : Nat → Option XK := fun pc => (cond (Nat.blt pc 114) (cond (Nat.blt pc 63) (cond (Nat.blt pc 37) (cond (Nat.blt pc 20) (cond (Nat.beq pc 0) (some B_14_0) none) (cond (Nat.blt pc 26) (cond (Nat.beq pc 20) (some B_14_20) none) (cond (Nat.beq pc 26) (some B_14_26) none))) (cond (Nat.blt pc 47) (cond (Nat.blt pc 45) (cond (Nat.beq pc 37) (some B_14_37) none) (cond (Nat.beq pc 45) (some B_14_45) none)) (cond (Nat.blt pc 58) (cond (Nat.beq pc 47) (some B_14_47) none) (cond (Nat.beq pc 58) (some B_14_58) none)))) (cond (Nat.blt pc 91) (cond (Nat.blt pc 80) (cond (Nat.beq pc 63) (some B_14_63) none) (cond (Nat.blt pc 89) (cond (Nat.beq pc 80) (some B_14_80) none) (cond (Nat.beq pc 89) (some B_14_89) none))) (cond (Nat.blt pc 101) (cond (Nat.blt pc 94) (cond (Nat.beq pc 91) (some B_14_91) none) (cond (Nat.beq pc 94) (some B_14_94) none)) (cond (Nat.blt pc 103) (cond (Nat.beq pc 101) (some B_14_101) none) (cond (Nat.beq pc 103) (some B_14_103) none))))) (cond (Nat.blt pc 167) (cond (Nat.blt pc 123) (cond (Nat.blt pc 121) (cond (Nat.beq pc 114) (some B_14_114) none) (cond (Nat.blt pc 122) (cond (Nat.beq pc 121) (some B_14_121) none) (cond (Nat.beq pc 122) (some B_14_122) none))) (cond (Nat.blt pc 154) (cond (Nat.blt pc 135) (cond (Nat.beq pc 123) (some B_14_123) none) (cond (Nat.beq pc 135) (some B_14_135) none)) (cond (Nat.blt pc 155) (cond (Nat.beq pc 154) (some B_14_154) none) (cond (Nat.beq pc 155) (some B_14_155) none)))) (cond (Nat.blt pc 176) (cond (Nat.blt pc 170) (cond (Nat.beq pc 167) (some B_14_167) none) (cond (Nat.blt pc 171) (cond (Nat.beq pc 170) (some B_14_170) none) (cond (Nat.beq pc 171) (some B_14_171) none))) (cond (Nat.blt pc 193) (cond (Nat.blt pc 182) (cond (Nat.beq pc 176) (some B_14_176) none) (cond (Nat.beq pc 182) (some B_14_182) none)) (cond (Nat.blt pc 198) (cond (Nat.beq pc 193) (some B_14_193) none) (cond (Nat.beq pc 198) (some B_14_198) none))))))
noncomputable def B_15_0 : XK := X_push (.inl 4294967294) <| X_load xkI 1 <| X_ibin x_isub xg_sub <| X_store xkI 2 <| X_load xkI 2 <| X_if p_lt d_lt 28 <| X_load xkI 2 <| X_load xkR 0 <| X_getf 11 2 <| X_alen <| X_if2 p2_ge d_ge 28 <| X_load xkR 0 <| X_getf 11 2 <| X_load xkI 2 <| X_dup2 <| X_ald xt0 <| X_push (.inl 1) <| X_ibin x_iadd xg_add <| X_ast xt0 xkI <| X_jump 28
noncomputable def B_15_28 : XK := X_load xkI 1 <| X_ret xkI
noncomputable def T_15 : Nat → Option XK := fun pc => (cond (Nat.blt pc 28) (cond (Nat.beq pc 0) (some B_15_0) none) (cond (Nat.beq pc 28) (some B_15_28) none))
noncomputable def B_16_0 : XK := X_load xkR 0 <| X_load xkR 0 <| X_getf 5 5 <| X_push (.inl 1103515245) <| X_ibin x_imul (xg0 x_imul) <| X_push (.inl 12345) <| X_ibin x_iadd xg_add <| X_putf xkI 5 5 <| X_load xkL 1 <| X_push (.inr (.inl 0)) <| X_lcif pL_le d_le 34 <| X_load xkR 0 <| X_getf 5 5 <| X_push (.inl 16) <| X_ibin x_iushr (xg0 x_iushr) <| X_i2l <| X_load xkL 1 <| X_lrem <| X_jump 35
noncomputable def B_16_34 : XK := X_push (.inr (.inl 0)) <| X_jump 35
noncomputable def B_16_35 : XK := X_ret xkL
noncomputable def T_16 : Nat → Option XK := fun pc => (cond (Nat.blt pc 34) (cond (Nat.beq pc 0) (some B_16_0) none) (cond (Nat.blt pc 35) (cond (Nat.beq pc 34) (some B_16_34) none) (cond (Nat.beq pc 35) (some B_16_35) none)))
noncomputable def B_17_0 : XK := X_load xkI 1 <| X_if p_lt d_lt 22 <| X_load xkI 1 <| X_load xkR 0 <| X_getf 5 1 <| X_alen <| X_if2 p2_ge d_ge 22 <| X_load xkR 0 <| X_getf 5 1 <| X_load xkI 1 <| X_ald xt3 <| X_jump 23
noncomputable def B_17_22 : XK := X_push (.inr (.inr (.inl 0))) <| X_jump 23
noncomputable def B_17_23 : XK := X_ret xkR
noncomputable def T_17 : Nat → Option XK := fun pc => (cond (Nat.blt pc 22) (cond (Nat.beq pc 0) (some B_17_0) none) (cond (Nat.blt pc 23) (cond (Nat.beq pc 22) (some B_17_22) none) (cond (Nat.beq pc 23) (some B_17_23) none)))
noncomputable def B_18_0 : XK := X_load xkI 2 <| X_push (.inl 2) <| X_if2 p2_gt d_gt 25 <| X_load xkR 1 <| X_getf 0 1 <| X_getf 1 4 <| X_push (.inr (.inl 60)) <| X_lcif pL_ge d_ge 23 <| X_push (.inl 1) <| X_jump 24
noncomputable def B_18_23 : XK := X_push (.inl 0) <| X_jump 24
noncomputable def B_18_24 : XK := X_ret xk01
noncomputable def B_18_25 : XK := X_load xkI 2 <| X_push (.inl 4) <| X_if2 p2_gt d_gt 48 <| X_load xkR 1 <| X_getf 0 1 <| X_getf 1 4 <| X_push (.inr (.inl 0)) <| X_lcif pL_le d_le 46 <| X_push (.inl 1) <| X_jump 47
noncomputable def B_18_46 : XK := X_push (.inl 0) <| X_jump 47
noncomputable def B_18_47 : XK := X_ret xk01
noncomputable def B_18_48 : XK := X_load xkI 2 <| X_push (.inl 5) <| X_if2 p2_ne d_ne 70 <| X_load xkR 1 <| X_load xkR 1 <| X_getf 0 4 <| X_callS 36 2 61
noncomputable def B_18_61 : XK := X_if p_ne d_ne 68 <| X_push (.inl 1) <| X_jump 69
noncomputable def B_18_68 : XK := X_push (.inl 0) <| X_jump 69
noncomputable def B_18_69 : XK := X_ret xk01
noncomputable def B_18_70 : XK := X_load xkI 2 <| X_push (.inl 6) <| X_if2 p2_ne d_ne 101 <| X_load xkR 1 <| X_callV 0 37 1 80
noncomputable def B_18_80 : XK := X_if p_eq d_eq 99 <| X_load xkR 0 <| X_getf 11 8 <| X_getf 5 4 <| X_push (.inl 90) <| X_if2 p2_ge d_ge 99 <| X_push (.inl 1) <| X_jump 100
noncomputable def B_18_99 : XK := X_push (.inl 0) <| X_jump 100
noncomputable def B_18_100 : XK := X_ret xk01
noncomputable def B_18_101 : XK := X_load xkR 1 <| X_getf 0 9 <| X_load xkR 0 <| X_getf 11 8 <| X_getf 5 4 <| X_if2 p2_ge d_ge 119 <| X_push (.inl 1) <| X_jump 120
noncomputable def B_18_119 : XK := X_push (.inl 0) <| X_jump 120
noncomputable def B_18_120 : XK := X_ret xk01
noncomputable def T_18 : Nat → Option XK := fun pc => (cond (Nat.blt pc 68) (cond (Nat.blt pc 46) (cond (Nat.blt pc 24) (cond (Nat.blt pc 23) (cond (Nat.beq pc 0) (some B_18_0) none) (cond (Nat.beq pc 23) (some B_18_23) none)) (cond (Nat.blt pc 25) (cond (Nat.beq pc 24) (some B_18_24) none) (cond (Nat.beq pc 25) (some B_18_25) none))) (cond (Nat.blt pc 48) (cond (Nat.blt pc 47) (cond (Nat.beq pc 46) (some B_18_46) none) (cond (Nat.beq pc 47) (some B_18_47) none)) (cond (Nat.blt pc 61) (cond (Nat.beq pc 48) (some B_18_48) none) (cond (Nat.beq pc 61) (some B_18_61) none)))) (cond (Nat.blt pc 99) (cond (Nat.blt pc 70) (cond (Nat.blt pc 69) (cond (Nat.beq pc 68) (some B_18_68) none) (cond (Nat.beq pc 69) (some B_18_69) none)) (cond (Nat.blt pc 80) (cond (Nat.beq pc 70) (some B_18_70) none) (cond (Nat.beq pc 80) (some B_18_80) none))) (cond (Nat.blt pc 101) (cond (Nat.blt pc 100) (cond (Nat.beq pc 99) (some B_18_99) none) (cond (Nat.beq pc 100) (some B_18_100) none)) (cond (Nat.blt pc 119) (cond (Nat.beq pc 101) (some B_18_101) none) (cond (Nat.blt pc 120) (cond (Nat.beq pc 119) (some B_18_119) none) (cond (Nat.beq pc 120) (some B_18_120) none))))))
noncomputable def B_19_0 : XK := X_load xkI 2 <| X_push (.inl 2) <| X_if2 p2_gt d_gt 40 <| X_load xkR 0 <| X_getf 11 8 <| X_push (.inr (.inl 26)) <| X_callV 5 16 2 15
noncomputable def B_19_15 : XK := X_l2i <| X_store xkI 3 <| X_load xkR 0 <| X_load xkR 1 <| X_load xkR 0 <| X_getf 11 8 <| X_load xkR 1 <| X_getf 0 1 <| X_getf 1 4 <| X_push (.inr (.inl 1)) <| X_lbin x_ladd xgn <| X_callV 5 16 2 35
noncomputable def B_19_35 : XK := X_load xkI 3 <| X_callV 11 38 4 39
noncomputable def B_19_39 : XK := X_vret
noncomputable def B_19_40 : XK := X_load xkR 0 <| X_getf 11 8 <| X_load xkR 1 <| X_getf 0 1 <| X_getf 1 4 <| X_callV 5 16 2 54
noncomputable def B_19_54 : XK := X_lstore 3 <| X_load xkI 2 <| X_push (.inl 3) <| X_if2 p2_ne d_ne 73 <| X_load xkR 0 <| X_load xkR 1 <| X_load xkL 3 <| X_push (.inl 1) <| X_push (.inl 4) <| X_push (.inl 0) <| X_push (.inl 0) <| X_callV 11 39 7 70
noncomputable def B_19_70 : XK := X_jump 95
noncomputable def B_19_73 : XK := X_load xkR 0 <| X_load xkR 1 <| X_load xkL 3 <| X_push (.inl 1) <| X_push (.inl 5) <| X_push (.inl 1) <| X_load xkR 0 <| X_getf 11 8 <| X_push (.inr (.inl 4)) <| X_callV 5 16 2 89
noncomputable def B_19_89 : XK := X_l2i <| X_ibin x_ishl xg_shl <| X_push (.inl 0) <| X_callV 11 39 7 95
noncomputable def B_19_95 : XK := X_vret
noncomputable def T_19 : Nat → Option XK := fun pc => (cond (Nat.blt pc 54) (cond (Nat.blt pc 35) (cond (Nat.blt pc 15) (cond (Nat.beq pc 0) (some B_19_0) none) (cond (Nat.beq pc 15) (some B_19_15) none)) (cond (Nat.blt pc 39) (cond (Nat.beq pc 35) (some B_19_35) none) (cond (Nat.blt pc 40) (cond (Nat.beq pc 39) (some B_19_39) none) (cond (Nat.beq pc 40) (some B_19_40) none)))) (cond (Nat.blt pc 73) (cond (Nat.blt pc 70) (cond (Nat.beq pc 54) (some B_19_54) none) (cond (Nat.beq pc 70) (some B_19_70) none)) (cond (Nat.blt pc 89) (cond (Nat.beq pc 73) (some B_19_73) none) (cond (Nat.blt pc 95) (cond (Nat.beq pc 89) (some B_19_89) none) (cond (Nat.beq pc 95) (some B_19_95) none)))))
noncomputable def B_20_0 : XK := X_load xkR 2 <| X_load xkR 1 <| X_load xkR 0 <| X_getf 0 1 <| X_load xkR 0 <| X_getf 0 4 <| X_callV 2 40 1 13
noncomputable def B_20_13 : XK := X_callV 4 41 4 16
noncomputable def B_20_16 : XK := X_load xkR 0 <| X_getf 0 5 <| X_callV 2 42 1 23
noncomputable def B_20_23 : XK := X_load xkR 0 <| X_load xkR 1 <| X_push (.inl 1) <| X_load xkR 2 <| X_callV 0 43 4 30
noncomputable def B_20_30 : XK := X_load xkR 0 <| X_load xkR 1 <| X_load xkR 2 <| X_callV 0 44 3 36
noncomputable def B_20_36 : XK := X_vret
noncomputable def T_20 : Nat → Option XK := fun pc => (cond (Nat.blt pc 23) (cond (Nat.blt pc 13) (cond (Nat.beq pc 0) (some B_20_0) none) (cond (Nat.blt pc 16) (cond (Nat.beq pc 13) (some B_20_13) none) (cond (Nat.beq pc 16) (some B_20_16) none))) (cond (Nat.blt pc 30) (cond (Nat.beq pc 23) (some B_20_23) none) (cond (Nat.blt pc 36) (cond (Nat.beq pc 30) (some B_20_30) none) (cond (Nat.beq pc 36) (some B_20_36) none))))
noncomputable def B_21_0 : XK := X_load xkR 1 <| X_callV 2 45 1 4
noncomputable def B_21_4 : XK := X_store xkR 4 <| X_load xkR 4 <| X_ifr p_ne 12 <| X_vret
noncomputable def B_21_12 : XK := X_load xkR 1 <| X_callV 2 46 1 16
noncomputable def B_21_16 : XK := X_load xkR 3 <| X_load xkR 4 <| X_load xkR 0 <| X_getf 0 1 <| X_load xkR 2 <| X_callV 2 40 1 27
noncomputable def B_21_27 : XK := X_callV 4 41 4 30
noncomputable def B_21_30 : XK := X_load xkR 0 <| X_load xkR 4 <| X_push (.inl 1) <| X_load xkR 3 <| X_callV 0 43 4 38
noncomputable def B_21_38 : XK := X_load xkR 0 <| X_load xkR 4 <| X_load xkR 3 <| X_callV 0 44 3 45
noncomputable def B_21_45 : XK := X_vret
noncomputable def T_21 : Nat → Option XK := fun pc => (cond (Nat.blt pc 27) (cond (Nat.blt pc 12) (cond (Nat.blt pc 4) (cond (Nat.beq pc 0) (some B_21_0) none) (cond (Nat.beq pc 4) (some B_21_4) none)) (cond (Nat.blt pc 16) (cond (Nat.beq pc 12) (some B_21_12) none) (cond (Nat.beq pc 16) (some B_21_16) none))) (cond (Nat.blt pc 38) (cond (Nat.blt pc 30) (cond (Nat.beq pc 27) (some B_21_27) none) (cond (Nat.beq pc 30) (some B_21_30) none)) (cond (Nat.blt pc 45) (cond (Nat.beq pc 38) (some B_21_38) none) (cond (Nat.beq pc 45) (some B_21_45) none))))
noncomputable def B_22_0 : XK := X_load xkR 0 <| X_load xkI 1 <| X_callV 5 17 2 5
noncomputable def B_22_5 : XK := X_store xkR 3 <| X_load xkR 3 <| X_ifr p_eq 19 <| X_load xkR 0 <| X_getf 5 4 <| X_push (.inl 90) <| X_if2 p2_lt d_lt 20 <| X_jump 19
noncomputable def B_22_19 : XK := X_vret
noncomputable def B_22_20 : XK := X_load xkR 0 <| X_getf 5 0 <| X_load xkR 0 <| X_getf 5 4 <| X_callV 6 47 2 31
noncomputable def B_22_31 : XK := X_store xkR 4 <| X_load xkR 4 <| X_load xkR 3 <| X_getf 0 2 <| X_callV 1 48 2 42
noncomputable def B_22_42 : XK := X_load xkR 3 <| X_getf 0 9 <| X_store xkI 5 <| X_jump 48
noncomputable def B_22_48 : XK := X_load xkI 5 <| X_load xkR 0 <| X_getf 5 4 <| X_if2 p2_ge d_ge 92 <| X_load xkR 2 <| X_load xkR 4 <| X_load xkR 0 <| X_getf 5 0 <| X_load xkI 5 <| X_callV 6 47 2 69
noncomputable def B_22_69 : XK := X_push (.inl 0) <| X_load xkR 2 <| X_getf 4 3 <| X_callV 4 49 5 77
noncomputable def B_22_77 : XK := X_load xkR 4 <| X_load xkR 2 <| X_getf 4 3 <| X_callV 1 50 2 86
noncomputable def B_22_86 : XK := X_iinc 5 1 <| X_jump 48
noncomputable def B_22_92 : XK := X_load xkR 2 <| X_load xkR 0 <| X_getf 5 2 <| X_load xkR 4 <| X_load xkR 2 <| X_getf 4 3 <| X_callV 4 51 4 106
noncomputable def B_22_106 : XK := X_load xkR 0 <| X_getf 5 2 <| X_load xkR 2 <| X_getf 4 3 <| X_callV 1 50 2 117
noncomputable def B_22_117 : XK := X_load xkR 0 <| X_getf 5 0 <| X_load xkR 0 <| X_getf 5 4 <| X_load xkI 1 <| X_callV 6 52 3 129
noncomputable def B_22_129 : XK := X_load xkR 0 <| X_dup <| X_getf 5 4 <| X_push (.inl 1) <| X_ibin x_iadd xg_add <| X_putf xkI 5 4 <| X_load xkR 3 <| X_push (.inl 1) <| X_putf xk01 0 7 <| X_vret
noncomputable def T_22 : Nat → Option XK := fun pc => (cond (Nat.blt pc 69) (cond (Nat.blt pc 20) (cond (Nat.blt pc 5) (cond (Nat.beq pc 0) (some B_22_0) none) (cond (Nat.blt pc 19) (cond (Nat.beq pc 5) (some B_22_5) none) (cond (Nat.beq pc 19) (some B_22_19) none))) (cond (Nat.blt pc 42) (cond (Nat.blt pc 31) (cond (Nat.beq pc 20) (some B_22_20) none) (cond (Nat.beq pc 31) (some B_22_31) none)) (cond (Nat.blt pc 48) (cond (Nat.beq pc 42) (some B_22_42) none) (cond (Nat.beq pc 48) (some B_22_48) none)))) (cond (Nat.blt pc 92) (cond (Nat.blt pc 77) (cond (Nat.beq pc 69) (some B_22_69) none) (cond (Nat.blt pc 86) (cond (Nat.beq pc 77) (some B_22_77) none) (cond (Nat.beq pc 86) (some B_22_86) none))) (cond (Nat.blt pc 117) (cond (Nat.blt pc 106) (cond (Nat.beq pc 92) (some B_22_92) none) (cond (Nat.beq pc 106) (some B_22_106) none)) (cond (Nat.blt pc 129) (cond (Nat.beq pc 117) (some B_22_117) none) (cond (Nat.beq pc 129) (some B_22_129) none)))))
noncomputable def B_23_0 : XK := X_load xkR 1 <| X_load xkR 0 <| X_getf 0 9 <| X_callV 6 53 2 8
noncomputable def B_23_8 : XK := X_load xkR 0 <| X_getf 0 0 <| X_if2 p2_ne d_ne 19 <| X_push (.inl 1) <| X_jump 20
noncomputable def B_23_19 : XK := X_push (.inl 0) <| X_jump 20
noncomputable def B_23_20 : XK := X_store xkI 3 <| X_load xkR 1 <| X_load xkR 0 <| X_getf 0 9 <| X_callV 6 47 2 29
noncomputable def B_23_29 : XK := X_store xkR 4 <| X_load xkR 0 <| X_dup <| X_getf 0 9 <| X_push (.inl 1) <| X_ibin x_iadd xg_add <| X_putf xkI 0 9 <| X_load xkI 3 <| X_if p_eq d_eq 50 <| X_load xkR 0 <| X_callV 0 54 1 49
noncomputable def B_23_49 : XK := X_vret
noncomputable def B_23_50 : XK := X_load xkR 2 <| X_getf 4 5 <| X_load xkR 4 <| X_callV 1 48 2 59
noncomputable def B_23_59 : XK := X_load xkR 0 <| X_getf 0 6 <| X_if p_eq d_eq 74 <| X_load xkR 2 <| X_load xkR 0 <| X_getf 0 2 <| X_callV 4 55 2 74
noncomputable def B_23_74 : XK := X_load xkR 0 <| X_getf 0 8 <| X_if p_eq d_eq 89 <| X_load xkR 2 <| X_load xkR 0 <| X_getf 0 3 <| X_callV 4 55 2 89
noncomputable def B_23_89 : XK := X_load xkR 0 <| X_load xkR 2 <| X_getf 4 5 <| X_push (.inl 0) <| X_load xkR 2 <| X_callV 0 43 4 99
noncomputable def B_23_99 : XK := X_load xkR 2 <| X_getf 4 6 <| X_load xkR 2 <| X_getf 4 5 <| X_callV 1 48 2 110
noncomputable def B_23_110 : XK := X_load xkR 0 <| X_getf 0 4 <| X_getf 2 2 <| X_push (.inl 1) <| X_ibin x_isub xg_sub <| X_store xkI 5 <| X_jump 121
noncomputable def B_23_121 : XK := X_load xkI 5 <| X_if p_lt d_lt 145 <| X_load xkR 2 <| X_load xkR 0 <| X_getf 0 4 <| X_load xkI 5 <| X_callV 2 56 2 136
noncomputable def B_23_136 : XK := X_callV 4 55 2 139
noncomputable def B_23_139 : XK := X_iinc 5 4294967295 <| X_jump 121
noncomputable def B_23_145 : XK := X_load xkR 2 <| X_getf 4 5 <| X_load xkR 2 <| X_getf 4 6 <| X_callV 1 48 2 156
noncomputable def B_23_156 : XK := X_load xkR 0 <| X_getf 0 5 <| X_getf 2 2 <| X_push (.inl 1) <| X_ibin x_isub xg_sub <| X_store xkI 5 <| X_jump 167
noncomputable def B_23_167 : XK := X_load xkI 5 <| X_if p_lt d_lt 191 <| X_load xkR 2 <| X_load xkR 0 <| X_getf 0 5 <| X_load xkI 5 <| X_callV 2 56 2 182
noncomputable def B_23_182 : XK := X_callV 4 55 2 185
noncomputable def B_23_185 : XK := X_iinc 5 4294967295 <| X_jump 167
noncomputable def B_23_191 : XK := X_vret
noncomputable def T_23 : Nat → Option XK := fun pc => (cond (Nat.blt pc 99) (cond (Nat.blt pc 49) (cond (Nat.blt pc 19) (cond (Nat.blt pc 8) (cond (Nat.beq pc 0) (some B_23_0) none) (cond (Nat.beq pc 8) (some B_23_8) none)) (cond (Nat.blt pc 20) (cond (Nat.beq pc 19) (some B_23_19) none) (cond (Nat.blt pc 29) (cond (Nat.beq pc 20) (some B_23_20) none) (cond (Nat.beq pc 29) (some B_23_29) none)))) (cond (Nat.blt pc 59) (cond (Nat.blt pc 50) (cond (Nat.beq pc 49) (some B_23_49) none) (cond (Nat.beq pc 50) (some B_23_50) none)) (cond (Nat.blt pc 74) (cond (Nat.beq pc 59) (some B_23_59) none) (cond (Nat.blt pc 89) (cond (Nat.beq pc 74) (some B_23_74) none) (cond (Nat.beq pc 89) (some B_23_89) none))))) (cond (Nat.blt pc 145) (cond (Nat.blt pc 121) (cond (Nat.blt pc 110) (cond (Nat.beq pc 99) (some B_23_99) none) (cond (Nat.beq pc 110) (some B_23_110) none)) (cond (Nat.blt pc 136) (cond (Nat.beq pc 121) (some B_23_121) none) (cond (Nat.blt pc 139) (cond (Nat.beq pc 136) (some B_23_136) none) (cond (Nat.beq pc 139) (some B_23_139) none)))) (cond (Nat.blt pc 182) (cond (Nat.blt pc 156) (cond (Nat.beq pc 145) (some B_23_145) none) (cond (Nat.blt pc 167) (cond (Nat.beq pc 156) (some B_23_156) none) (cond (Nat.beq pc 167) (some B_23_167) none))) (cond (Nat.blt pc 185) (cond (Nat.beq pc 182) (some B_23_182) none) (cond (Nat.blt pc 191) (cond (Nat.beq pc 185) (some B_23_185) none) (cond (Nat.beq pc 191) (some B_23_191) none))))))
noncomputable def B_24_0 : XK := X_load xkR 0 <| X_callI 57 1 4
noncomputable def B_24_4 : XK := X_load xkR 0 <| X_push (.inr (.inr (.inl 1))) <| X_putf xkR 13 1 <| X_vret
noncomputable def T_24 : Nat → Option XK := fun pc => (cond (Nat.blt pc 4) (cond (Nat.beq pc 0) (some B_24_0) none) (cond (Nat.beq pc 4) (some B_24_4) none))
noncomputable def B_25_0 : XK := X_load xkR 0 <| X_oinit <| X_jump 4
noncomputable def B_25_4 : XK := X_vret
noncomputable def T_25 : Nat → Option XK := fun pc => (cond (Nat.blt pc 4) (cond (Nat.beq pc 0) (some B_25_0) none) (cond (Nat.beq pc 4) (some B_25_4) none))
noncomputable def B_26_0 : XK := X_load xkR 0 <| X_oinit <| X_jump 4
noncomputable def B_26_4 : XK := X_load xkR 0 <| X_load xkR 1 <| X_putf xkR 1 0 <| X_load xkR 0 <| X_new 7 [.inr (.inr (.inl 0)), .inr (.inr (.inl 0)), .inl 0] 3 <| X_dup <| X_load xkR 1 <| X_callI 6 2 18
noncomputable def B_26_18 : XK := X_putf xkR 1 1 <| X_vret
noncomputable def T_26 : Nat → Option XK := fun pc => (cond (Nat.blt pc 4) (cond (Nat.beq pc 0) (some B_26_0) none) (cond (Nat.blt pc 18) (cond (Nat.beq pc 4) (some B_26_4) none) (cond (Nat.beq pc 18) (some B_26_18) none)))
noncomputable def B_27_0 : XK := X_load xkR 0 <| X_dup <| X_getf 13 0 <| X_push (.inl 1) <| X_ibin x_iadd xg_add <| X_putf xkI 13 0 <| X_load xkR 0 <| X_load xkR 1 <| X_load xkR 0 <| X_getf 13 1 <| X_load xkR 0 <| X_getf 13 2 <| X_callV 13 58 4 23
noncomputable def B_27_23 : XK := X_push (.inl 1) <| X_ret xk01
noncomputable def T_27 : Nat → Option XK := fun pc => (cond (Nat.blt pc 23) (cond (Nat.beq pc 0) (some B_27_0) none) (cond (Nat.beq pc 23) (some B_27_23) none))
noncomputable def B_28_0 : XK := X_load xkR 0 <| X_oinit <| X_jump 4
noncomputable def B_28_4 : XK := X_load xkR 0 <| X_load xkI 1 <| X_putf xkI 0 0 <| X_load xkR 0 <| X_load xkR 2 <| X_callV 3 8 1 14
noncomputable def B_28_14 : XK := X_putf xkR 0 1 <| X_load xkR 0 <| X_load xkR 2 <| X_callV 3 8 1 22
noncomputable def B_28_22 : XK := X_putf xkR 0 2 <| X_load xkR 0 <| X_load xkR 2 <| X_callV 3 8 1 30
noncomputable def B_28_30 : XK := X_putf xkR 0 3 <| X_load xkR 0 <| X_new 2 [.inr (.inr (.inl 0)), .inr (.inr (.inl 0)), .inl 0] 3 <| X_dup <| X_load xkR 2 <| X_callI 59 2 42
noncomputable def B_28_42 : XK := X_putf xkR 0 4 <| X_load xkR 0 <| X_new 2 [.inr (.inr (.inl 0)), .inr (.inr (.inl 0)), .inl 0] 3 <| X_dup <| X_load xkR 2 <| X_callI 59 2 54
noncomputable def B_28_54 : XK := X_putf xkR 0 5 <| X_vret
noncomputable def T_28 : Nat → Option XK := fun pc => (cond (Nat.blt pc 22) (cond (Nat.blt pc 4) (cond (Nat.beq pc 0) (some B_28_0) none) (cond (Nat.blt pc 14) (cond (Nat.beq pc 4) (some B_28_4) none) (cond (Nat.beq pc 14) (some B_28_14) none))) (cond (Nat.blt pc 42) (cond (Nat.blt pc 30) (cond (Nat.beq pc 22) (some B_28_22) none) (cond (Nat.beq pc 30) (some B_28_30) none)) (cond (Nat.blt pc 54) (cond (Nat.beq pc 42) (some B_28_42) none) (cond (Nat.beq pc 54) (some B_28_54) none))))
noncomputable def B_29_0 : XK := X_load xkR 0 <| X_getf 12 10 <| X_push (.inl 0) <| X_push (.inl 0) <| X_ast xt0 xkI <| X_push (.inl 0) <| X_store xkI 4 <| X_jump 10
noncomputable def B_29_10 : XK := X_load xkI 4 <| X_load xkR 0 <| X_getf 12 4 <| X_load xkI 1 <| X_ald xt0 <| X_if2 p2_gt d_gt 57 <| X_load xkI 4 <| X_load xkI 2 <| X_if2 p2_ne d_ne 33 <| X_load xkR 0 <| X_push (.inl 0) <| X_load xkI 3 <| X_callV 12 60 3 33
noncomputable def B_29_33 : XK := X_load xkI 4 <| X_load xkR 0 <| X_getf 12 4 <| X_load xkI 1 <| X_ald xt0 <| X_if2 p2_ge d_ge 51 <| X_load xkR 0 <| X_push (.inl 0) <| X_push (.inl 2097152) <| X_callV 12 60 3 51
noncomputable def B_29_51 : XK := X_iinc 4 1 <| X_jump 10
noncomputable def B_29_57 : XK := X_load xkR 0 <| X_load xkI 1 <| X_push (.inl 4) <| X_push (.inl 1) <| X_callV 12 31 4 64
noncomputable def B_29_64 : XK := X_vret
noncomputable def T_29 : Nat → Option XK := fun pc => (cond (Nat.blt pc 51) (cond (Nat.blt pc 10) (cond (Nat.beq pc 0) (some B_29_0) none) (cond (Nat.blt pc 33) (cond (Nat.beq pc 10) (some B_29_10) none) (cond (Nat.beq pc 33) (some B_29_33) none))) (cond (Nat.blt pc 57) (cond (Nat.beq pc 51) (some B_29_51) none) (cond (Nat.blt pc 64) (cond (Nat.beq pc 57) (some B_29_57) none) (cond (Nat.beq pc 64) (some B_29_64) none))))
noncomputable def B_30_0 : XK := X_load xkR 0 <| X_getf 12 10 <| X_push (.inl 0) <| X_push (.inl 0) <| X_ast xt0 xkI <| X_push (.inl 0) <| X_store xkI 5 <| X_jump 10
noncomputable def B_30_10 : XK := X_load xkI 5 <| X_load xkR 0 <| X_getf 12 4 <| X_load xkI 1 <| X_ald xt0 <| X_if2 p2_ge d_ge 53 <| X_load xkR 0 <| X_push (.inl 0) <| X_load xkI 5 <| X_load xkI 2 <| X_if2 p2_lt d_lt 42 <| X_load xkI 5 <| X_load xkI 2 <| X_load xkI 3 <| X_ibin x_iadd xg_add <| X_if2 p2_ge d_ge 42 <| X_load xkI 4 <| X_jump 44
noncomputable def B_30_42 : XK := X_push (.inl 2097152) <| X_jump 44
noncomputable def B_30_44 : XK := X_callV 12 60 3 47
noncomputable def B_30_47 : XK := X_iinc 5 1 <| X_jump 10
noncomputable def B_30_53 : XK := X_vret
noncomputable def T_30 : Nat → Option XK := fun pc => (cond (Nat.blt pc 44) (cond (Nat.blt pc 10) (cond (Nat.beq pc 0) (some B_30_0) none) (cond (Nat.blt pc 42) (cond (Nat.beq pc 10) (some B_30_10) none) (cond (Nat.beq pc 42) (some B_30_42) none))) (cond (Nat.blt pc 47) (cond (Nat.beq pc 44) (some B_30_44) none) (cond (Nat.blt pc 53) (cond (Nat.beq pc 47) (some B_30_47) none) (cond (Nat.beq pc 53) (some B_30_53) none))))
noncomputable def B_31_0 : XK := X_load xkR 0 <| X_push (.inl 0) <| X_load xkI 1 <| X_push (.inl 1) <| X_callV 12 61 4 7
noncomputable def B_31_7 : XK := X_load xkR 0 <| X_load xkI 1 <| X_push (.inl 0) <| X_callV 12 62 3 13
noncomputable def B_31_13 : XK := X_load xkR 0 <| X_load xkI 1 <| X_push (.inl 0) <| X_push (.inl 1) <| X_callV 12 63 4 20
noncomputable def B_31_20 : XK := X_load xkR 0 <| X_load xkI 1 <| X_load xkI 2 <| X_push (.inl 1) <| X_callV 12 64 4 27
noncomputable def B_31_27 : XK := X_load xkI 3 <| X_if p_eq d_eq 43 <| X_load xkR 0 <| X_getf 12 5 <| X_push (.inl 8) <| X_load xkI 1 <| X_ibin x_imul (xg0 x_imul) <| X_push (.inl 5) <| X_ibin x_iadd xg_add <| X_push (.inl 0) <| X_ast xt0 xkI <| X_jump 43
noncomputable def B_31_43 : XK := X_load xkR 0 <| X_load xkI 1 <| X_push (.inl 1) <| X_callV 12 33 3 49
noncomputable def B_31_49 : XK := X_if p_ne d_ne 102 <| X_load xkR 0 <| X_push (.inl 16) <| X_load xkI 1 <| X_ibin x_iadd xg_add <| X_push (.inl 0) <| X_callV 12 65 3 61
noncomputable def B_31_61 : XK := X_load xkR 0 <| X_push (.inl 12) <| X_load xkI 1 <| X_ibin x_iadd xg_add <| X_push (.inl 0) <| X_callV 12 65 3 70
noncomputable def B_31_70 : XK := X_load xkR 0 <| X_getf 12 5 <| X_push (.inl 8) <| X_load xkI 1 <| X_ibin x_imul (xg0 x_imul) <| X_push (.inl 1) <| X_ibin x_iadd xg_add <| X_push (.inl 1) <| X_ast xt0 xkI <| X_load xkR 0 <| X_getf 12 5 <| X_push (.inl 8) <| X_load xkI 1 <| X_ibin x_imul (xg0 x_imul) <| X_push (.inl 2) <| X_ibin x_iadd xg_add <| X_load xkR 0 <| X_load xkI 1 <| X_push (.inl 0) <| X_callV 12 33 3 98
noncomputable def B_31_98 : XK := X_ast xt0 xkI <| X_jump 160
noncomputable def B_31_102 : XK := X_load xkR 0 <| X_load xkI 1 <| X_push (.inl 3) <| X_callV 12 33 3 108
noncomputable def B_31_108 : XK := X_if p_ne d_ne 135 <| X_load xkR 0 <| X_push (.inl 20) <| X_load xkI 1 <| X_ibin x_iadd xg_add <| X_push (.inl 0) <| X_callV 12 65 3 120
noncomputable def B_31_120 : XK := X_load xkR 0 <| X_getf 12 5 <| X_push (.inl 8) <| X_load xkI 1 <| X_ibin x_imul (xg0 x_imul) <| X_push (.inl 3) <| X_ibin x_iadd xg_add <| X_push (.inl 1) <| X_ast xt0 xkI <| X_jump 160
noncomputable def B_31_135 : XK := X_load xkR 0 <| X_push (.inl 1) <| X_push (.inl 20) <| X_load xkI 1 <| X_ibin x_iadd xg_add <| X_callV 12 66 3 144
noncomputable def B_31_144 : XK := X_load xkR 0 <| X_push (.inl 1) <| X_push (.inl 0) <| X_push (.inl 2) <| X_callV 12 67 4 151
noncomputable def B_31_151 : XK := X_load xkR 0 <| X_push (.inl 20) <| X_load xkI 1 <| X_ibin x_iadd xg_add <| X_push (.inl 2) <| X_callV 12 65 3 160
noncomputable def B_31_160 : XK := X_vret
noncomputable def T_31 : Nat → Option XK := fun pc => (cond (Nat.blt pc 70) (cond (Nat.blt pc 27) (cond (Nat.blt pc 13) (cond (Nat.blt pc 7) (cond (Nat.beq pc 0) (some B_31_0) none) (cond (Nat.beq pc 7) (some B_31_7) none)) (cond (Nat.blt pc 20) (cond (Nat.beq pc 13) (some B_31_13) none) (cond (Nat.beq pc 20) (some B_31_20) none))) (cond (Nat.blt pc 49) (cond (Nat.blt pc 43) (cond (Nat.beq pc 27) (some B_31_27) none) (cond (Nat.beq pc 43) (some B_31_43) none)) (cond (Nat.blt pc 61) (cond (Nat.beq pc 49) (some B_31_49) none) (cond (Nat.beq pc 61) (some B_31_61) none)))) (cond (Nat.blt pc 120) (cond (Nat.blt pc 102) (cond (Nat.blt pc 98) (cond (Nat.beq pc 70) (some B_31_70) none) (cond (Nat.beq pc 98) (some B_31_98) none)) (cond (Nat.blt pc 108) (cond (Nat.beq pc 102) (some B_31_102) none) (cond (Nat.beq pc 108) (some B_31_108) none))) (cond (Nat.blt pc 144) (cond (Nat.blt pc 135) (cond (Nat.beq pc 120) (some B_31_120) none) (cond (Nat.beq pc 135) (some B_31_135) none)) (cond (Nat.blt pc 151) (cond (Nat.beq pc 144) (some B_31_144) none) (cond (Nat.blt pc 160) (cond (Nat.beq pc 151) (some B_31_151) none) (cond (Nat.beq pc 160) (some B_31_160) none))))))
noncomputable def B_32_0 : XK := X_load xkR 0 <| X_load xkI 1 <| X_load xkI 2 <| X_callV 12 33 3 6
noncomputable def B_32_6 : XK := X_store xkI 3 <| X_load xkI 3 <| X_if p_ne d_ne 14 <| X_push (.inl 4294967291) <| X_ret xkI
noncomputable def B_32_14 : XK := X_load xkR 0 <| X_push (.inl 0) <| X_load xkI 2 <| X_push (.inl 4) <| X_if2 p2_ne d_ne 26 <| X_push (.inl 24) <| X_jump 28
noncomputable def B_32_26 : XK := X_push (.inl 104) <| X_jump 28
noncomputable def B_32_28 : XK := X_push (.inl 20) <| X_load xkI 1 <| X_ibin x_imul (xg0 x_imul) <| X_ibin x_iadd xg_add <| X_load xkI 3 <| X_ibin x_iadd xg_add <| X_push (.inl 1) <| X_ibin x_isub xg_sub <| X_callV 12 66 3 40
noncomputable def B_32_40 : XK := X_load xkR 0 <| X_load xkI 1 <| X_push (.inl 0) <| X_callV 12 68 3 46
noncomputable def B_32_46 : XK := X_if p_eq d_eq 52 <| X_push (.inl 4294967290) <| X_ret xkI
noncomputable def B_32_52 : XK := X_load xkR 0 <| X_getf 12 5 <| X_push (.inl 8) <| X_load xkI 1 <| X_ibin x_imul (xg0 x_imul) <| X_load xkI 2 <| X_ibin x_iadd xg_add <| X_load xkI 3 <| X_push (.inl 1) <| X_ibin x_isub xg_sub <| X_ast xt0 xkI <| X_load xkR 0 <| X_load xkI 1 <| X_push (.inl 9) <| X_load xkI 2 <| X_ibin x_isub xg_sub <| X_push (.inl 0) <| X_callV 12 31 4 76
noncomputable def B_32_76 : XK := X_push (.inl 0) <| X_ret xkI
noncomputable def T_32 : Nat → Option XK := fun pc => (cond (Nat.blt pc 28) (cond (Nat.blt pc 14) (cond (Nat.blt pc 6) (cond (Nat.beq pc 0) (some B_32_0) none) (cond (Nat.beq pc 6) (some B_32_6) none)) (cond (Nat.blt pc 26) (cond (Nat.beq pc 14) (some B_32_14) none) (cond (Nat.beq pc 26) (some B_32_26) none))) (cond (Nat.blt pc 46) (cond (Nat.blt pc 40) (cond (Nat.beq pc 28) (some B_32_28) none) (cond (Nat.beq pc 40) (some B_32_40) none)) (cond (Nat.blt pc 52) (cond (Nat.beq pc 46) (some B_32_46) none) (cond (Nat.blt pc 76) (cond (Nat.beq pc 52) (some B_32_52) none) (cond (Nat.beq pc 76) (some B_32_76) none)))))
noncomputable def B_33_0 : XK := X_load xkR 0 <| X_getf 12 5 <| X_push (.inl 8) <| X_load xkI 1 <| X_ibin x_imul (xg0 x_imul) <| X_load xkI 2 <| X_ibin x_iadd xg_add <| X_ald xt0 <| X_ret xkI
noncomputable def T_33 : Nat → Option XK := fun pc => (cond (Nat.beq pc 0) (some B_33_0) none)
noncomputable def B_34_0 : XK := X_load xkR 0 <| X_push (.inl 0) <| X_push (.inl 12) <| X_load xkI 1 <| X_ibin x_iadd xg_add <| X_callV 12 66 3 9
noncomputable def B_34_9 : XK := X_load xkR 0 <| X_load xkI 1 <| X_push (.inl 2) <| X_callV 12 33 3 15
noncomputable def B_34_15 : XK := X_push (.inl 1) <| X_ibin x_iadd xg_add <| X_store xkI 2 <| X_jump 18
noncomputable def B_34_18 : XK := X_load xkI 2 <| X_load xkR 0 <| X_getf 12 7 <| X_push (.inl 0) <| X_ald xt0 <| X_if2 p2_gt d_gt 58 <| X_load xkR 0 <| X_push (.inl 1) <| X_push (.inl 184) <| X_load xkI 2 <| X_ibin x_iadd xg_add <| X_callV 12 66 3 38
noncomputable def B_34_38 : XK := X_load xkR 0 <| X_push (.inl 0) <| X_push (.inl 1) <| X_push (.inl 0) <| X_push (.inl 2) <| X_callV 12 69 5 46
noncomputable def B_34_46 : XK := X_load xkR 0 <| X_push (.inl 2) <| X_push (.inl 0) <| X_callV 12 70 3 52
noncomputable def B_34_52 : XK := X_iinc 2 1 <| X_jump 18
noncomputable def B_34_58 : XK := X_load xkR 0 <| X_push (.inl 4) <| X_push (.inl 0) <| X_callV 12 62 3 64
noncomputable def B_34_64 : XK := X_load xkR 0 <| X_getf 12 7 <| X_push (.inl 0) <| X_dup2 <| X_ald xt0 <| X_push (.inl 1) <| X_ibin x_iadd xg_add <| X_ast xt0 xkI <| X_load xkR 0 <| X_push (.inl 184) <| X_load xkR 0 <| X_getf 12 7 <| X_push (.inl 0) <| X_ald xt0 <| X_ibin x_iadd xg_add <| X_push (.inl 0) <| X_callV 12 65 3 89
noncomputable def B_34_89 : XK := X_load xkR 0 <| X_getf 12 6 <| X_load xkR 0 <| X_getf 12 7 <| X_push (.inl 0) <| X_ald xt0 <| X_load xkI 1 <| X_ast xt0 xkI <| X_load xkR 0 <| X_getf 12 5 <| X_push (.inl 8) <| X_load xkI 1 <| X_ibin x_imul (xg0 x_imul) <| X_push (.inl 1) <| X_ibin x_iadd xg_add <| X_push (.inl 2) <| X_ast xt0 xkI <| X_load xkR 0 <| X_getf 12 7 <| X_push (.inl 0) <| X_ald xt0 <| X_ret xkI
noncomputable def T_34 : Nat → Option XK := fun pc => (cond (Nat.blt pc 46) (cond (Nat.blt pc 15) (cond (Nat.blt pc 9) (cond (Nat.beq pc 0) (some B_34_0) none) (cond (Nat.beq pc 9) (some B_34_9) none)) (cond (Nat.blt pc 18) (cond (Nat.beq pc 15) (some B_34_15) none) (cond (Nat.blt pc 38) (cond (Nat.beq pc 18) (some B_34_18) none) (cond (Nat.beq pc 38) (some B_34_38) none)))) (cond (Nat.blt pc 58) (cond (Nat.blt pc 52) (cond (Nat.beq pc 46) (some B_34_46) none) (cond (Nat.beq pc 52) (some B_34_52) none)) (cond (Nat.blt pc 64) (cond (Nat.beq pc 58) (some B_34_58) none) (cond (Nat.blt pc 89) (cond (Nat.beq pc 64) (some B_34_64) none) (cond (Nat.beq pc 89) (some B_34_89) none)))))
noncomputable def B_35_0 : XK := X_load xkR 0 <| X_load xkI 1 <| X_push (.inl 0) <| X_callV 12 33 3 6
noncomputable def B_35_6 : XK := X_push (.inl 1) <| X_ibin x_iadd xg_add <| X_store xkI 2 <| X_load xkR 0 <| X_getf 12 5 <| X_push (.inl 8) <| X_load xkI 1 <| X_ibin x_imul (xg0 x_imul) <| X_load xkI 2 <| X_ast xt0 xkI <| X_load xkR 0 <| X_getf 12 6 <| X_load xkI 2 <| X_ald xt0 <| X_load xkI 1 <| X_if2 p2_ne d_ne 105 <| X_load xkR 0 <| X_getf 12 5 <| X_push (.inl 8) <| X_load xkI 1 <| X_ibin x_imul (xg0 x_imul) <| X_push (.inl 1) <| X_ibin x_iadd xg_add <| X_load xkR 0 <| X_load xkI 1 <| X_push (.inl 3) <| X_callV 12 33 3 45
noncomputable def B_35_45 : XK := X_ast xt0 xkI <| X_load xkR 0 <| X_load xkI 1 <| X_push (.inl 3) <| X_callV 12 33 3 52
noncomputable def B_35_52 : XK := X_push (.inl 1) <| X_if2 p2_ne d_ne 104 <| X_load xkR 0 <| X_push (.inl 20) <| X_load xkI 1 <| X_ibin x_iadd xg_add <| X_push (.inl 16) <| X_load xkI 1 <| X_ibin x_iadd xg_add <| X_callV 12 71 3 68
noncomputable def B_35_68 : XK := X_load xkR 0 <| X_push (.inl 20) <| X_load xkI 1 <| X_ibin x_iadd xg_add <| X_push (.inl 12) <| X_load xkI 1 <| X_ibin x_iadd xg_add <| X_callV 12 71 3 80
noncomputable def B_35_80 : XK := X_load xkR 0 <| X_getf 12 5 <| X_push (.inl 8) <| X_load xkI 1 <| X_ibin x_imul (xg0 x_imul) <| X_push (.inl 2) <| X_ibin x_iadd xg_add <| X_load xkI 2 <| X_ast xt0 xkI <| X_load xkR 0 <| X_getf 12 5 <| X_push (.inl 8) <| X_load xkI 1 <| X_ibin x_imul (xg0 x_imul) <| X_push (.inl 3) <| X_ibin x_iadd xg_add <| X_push (.inl 0) <| X_ast xt0 xkI <| X_jump 104
noncomputable def B_35_104 : XK := X_vret
noncomputable def B_35_105 : XK := X_load xkR 0 <| X_push (.inl 0) <| X_push (.inl 184) <| X_load xkI 2 <| X_ibin x_iadd xg_add <| X_callV 12 66 3 115
noncomputable def B_35_115 : XK := X_load xkR 0 <| X_load xkI 1 <| X_push (.inl 1) <| X_callV 12 33 3 121
noncomputable def B_35_121 : XK := X_if p_le d_le 132 <| X_load xkR 0 <| X_push (.inl 16) <| X_load xkI 1 <| X_ibin x_iadd xg_add <| X_callV 12 72 2 132
noncomputable def B_35_132 : XK := X_load xkR 0 <| X_load xkI 1 <| X_push (.inl 3) <| X_callV 12 33 3 138
noncomputable def B_35_138 : XK := X_if p_le d_le 149 <| X_load xkR 0 <| X_push (.inl 20) <| X_load xkI 1 <| X_ibin x_iadd xg_add <| X_callV 12 72 2 149
noncomputable def B_35_149 : XK := X_load xkR 0 <| X_load xkI 1 <| X_push (.inl 0) <| X_callV 12 62 3 155
noncomputable def B_35_155 : XK := X_load xkR 0 <| X_load xkI 1 <| X_push (.inl 0) <| X_push (.inl 0) <| X_callV 12 63 4 162
noncomputable def B_35_162 : XK := X_load xkR 0 <| X_push (.inl 275) <| X_push (.inl 0) <| X_callV 12 65 3 170
noncomputable def B_35_170 : XK := X_load xkR 0 <| X_load xkI 1 <| X_push (.inl 4) <| X_callV 12 33 3 176
noncomputable def B_35_176 : XK := X_push (.inl 1) <| X_ibin x_isub xg_sub <| X_store xkI 3 <| X_jump 179
noncomputable def B_35_179 : XK := X_load xkI 3 <| X_if p_lt d_lt 202 <| X_load xkR 0 <| X_push (.inl 24) <| X_push (.inl 20) <| X_load xkI 1 <| X_ibin x_imul (xg0 x_imul) <| X_ibin x_iadd xg_add <| X_load xkI 3 <| X_ibin x_iadd xg_add <| X_callV 12 72 2 196
noncomputable def B_35_196 : XK := X_iinc 3 4294967295 <| X_jump 179
noncomputable def B_35_202 : XK := X_load xkR 0 <| X_push (.inl 0) <| X_push (.inl 275) <| X_callV 12 66 3 210
noncomputable def B_35_210 : XK := X_load xkR 0 <| X_load xkI 1 <| X_push (.inl 5) <| X_callV 12 33 3 216
noncomputable def B_35_216 : XK := X_push (.inl 1) <| X_ibin x_isub xg_sub <| X_store xkI 3 <| X_jump 219
noncomputable def B_35_219 : XK := X_load xkI 3 <| X_if p_lt d_lt 242 <| X_load xkR 0 <| X_push (.inl 104) <| X_push (.inl 20) <| X_load xkI 1 <| X_ibin x_imul (xg0 x_imul) <| X_ibin x_iadd xg_add <| X_load xkI 3 <| X_ibin x_iadd xg_add <| X_callV 12 72 2 236
noncomputable def B_35_236 : XK := X_iinc 3 4294967295 <| X_jump 219
noncomputable def B_35_242 : XK := X_vret
noncomputable def T_35 : Nat → Option XK := fun pc => (cond (Nat.blt pc 149) (cond (Nat.blt pc 104) (cond (Nat.blt pc 52) (cond (Nat.blt pc 6) (cond (Nat.beq pc 0) (some B_35_0) none) (cond (Nat.blt pc 45) (cond (Nat.beq pc 6) (some B_35_6) none) (cond (Nat.beq pc 45) (some B_35_45) none))) (cond (Nat.blt pc 68) (cond (Nat.beq pc 52) (some B_35_52) none) (cond (Nat.blt pc 80) (cond (Nat.beq pc 68) (some B_35_68) none) (cond (Nat.beq pc 80) (some B_35_80) none)))) (cond (Nat.blt pc 121) (cond (Nat.blt pc 105) (cond (Nat.beq pc 104) (some B_35_104) none) (cond (Nat.blt pc 115) (cond (Nat.beq pc 105) (some B_35_105) none) (cond (Nat.beq pc 115) (some B_35_115) none))) (cond (Nat.blt pc 132) (cond (Nat.beq pc 121) (some B_35_121) none) (cond (Nat.blt pc 138) (cond (Nat.beq pc 132) (some B_35_132) none) (cond (Nat.beq pc 138) (some B_35_138) none))))) (cond (Nat.blt pc 196) (cond (Nat.blt pc 170) (cond (Nat.blt pc 155) (cond (Nat.beq pc 149) (some B_35_149) none) (cond (Nat.blt pc 162) (cond (Nat.beq pc 155) (some B_35_155) none) (cond (Nat.beq pc 162) (some B_35_162) none))) (cond (Nat.blt pc 176) (cond (Nat.beq pc 170) (some B_35_170) none) (cond (Nat.blt pc 179) (cond (Nat.beq pc 176) (some B_35_176) none) (cond (Nat.beq pc 179) (some B_35_179) none)))) (cond (Nat.blt pc 216) (cond (Nat.blt pc 202) (cond (Nat.beq pc 196) (some B_35_196) none) (cond (Nat.blt pc 210) (cond (Nat.beq pc 202) (some B_35_202) none) (cond (Nat.beq pc 210) (some B_35_210) none))) (cond (Nat.blt pc 236) (cond (Nat.blt pc 219) (cond (Nat.beq pc 216) (some B_35_216) none) (cond (Nat.beq pc 219) (some B_35_219) none)) (cond (Nat.blt pc 242) (cond (Nat.beq pc 236) (some B_35_236) none) (cond (Nat.beq pc 242) (some B_35_242) none))))))
noncomputable def B_36_0 : XK := X_load xkR 1 <| X_callV 2 45 1 4
noncomputable def B_36_4 : XK := X_store xkR 2 <| X_load xkR 2 <| X_ifr p_ne 12 <| X_push (.inl 4294967291) <| X_ret xkI
noncomputable def B_36_12 : XK := X_load xkR 0 <| X_load xkR 2 <| X_callV 0 73 2 17
noncomputable def B_36_17 : XK := X_if p_eq d_eq 25 <| X_push (.inl 4294967290) <| X_jump 26
noncomputable def B_36_25 : XK := X_push (.inl 0) <| X_jump 26
noncomputable def B_36_26 : XK := X_ret xkI
noncomputable def T_36 : Nat → Option XK := fun pc => (cond (Nat.blt pc 17) (cond (Nat.blt pc 4) (cond (Nat.beq pc 0) (some B_36_0) none) (cond (Nat.blt pc 12) (cond (Nat.beq pc 4) (some B_36_4) none) (cond (Nat.beq pc 12) (some B_36_12) none))) (cond (Nat.blt pc 25) (cond (Nat.beq pc 17) (some B_36_17) none) (cond (Nat.blt pc 26) (cond (Nat.beq pc 25) (some B_36_25) none) (cond (Nat.beq pc 26) (some B_36_26) none))))
noncomputable def B_37_0 : XK := X_load xkR 0 <| X_getf 0 6 <| X_if p_eq d_eq 18 <| X_load xkR 0 <| X_getf 0 7 <| X_if p_ne d_ne 18 <| X_push (.inl 1) <| X_jump 19
noncomputable def B_37_18 : XK := X_push (.inl 0) <| X_jump 19
noncomputable def B_37_19 : XK := X_ret xk01
noncomputable def T_37 : Nat → Option XK := fun pc => (cond (Nat.blt pc 18) (cond (Nat.beq pc 0) (some B_37_0) none) (cond (Nat.blt pc 19) (cond (Nat.beq pc 18) (some B_37_18) none) (cond (Nat.beq pc 19) (some B_37_19) none)))
noncomputable def B_38_0 : XK := X_load xkR 0 <| X_getf 11 7 <| X_callV 1 74 1 7
noncomputable def B_38_7 : XK := X_load xkR 0 <| X_getf 11 7 <| X_push (.inl 3) <| X_push (.inl 0) <| X_push (.inl 0) <| X_load xkL 2 <| X_callV 1 75 5 18
noncomputable def B_38_18 : XK := X_load xkR 0 <| X_getf 11 7 <| X_load xkI 4 <| X_callV 1 76 2 27
noncomputable def B_38_27 : XK := X_load xkR 0 <| X_getf 11 7 <| X_push (.inl 3) <| X_push (.inl 0) <| X_push (.inl 0) <| X_load xkR 1 <| X_getf 0 1 <| X_getf 1 4 <| X_load xkL 2 <| X_lbin x_lsub xgn <| X_callV 1 75 5 46
noncomputable def B_38_46 : XK := X_vret
noncomputable def T_38 : Nat → Option XK := fun pc => (cond (Nat.blt pc 18) (cond (Nat.blt pc 7) (cond (Nat.beq pc 0) (some B_38_0) none) (cond (Nat.beq pc 7) (some B_38_7) none)) (cond (Nat.blt pc 27) (cond (Nat.beq pc 18) (some B_38_18) none) (cond (Nat.blt pc 46) (cond (Nat.beq pc 27) (some B_38_27) none) (cond (Nat.beq pc 46) (some B_38_46) none))))
noncomputable def B_39_0 : XK := X_load xkR 0 <| X_getf 11 7 <| X_callV 1 74 1 7
noncomputable def B_39_7 : XK := X_load xkR 0 <| X_getf 11 7 <| X_push (.inl 3) <| X_push (.inl 0) <| X_push (.inl 0) <| X_load xkL 2 <| X_callV 1 75 5 18
noncomputable def B_39_18 : XK := X_load xkR 0 <| X_getf 11 7 <| X_load xkI 5 <| X_load xkI 6 <| X_load xkI 7 <| X_load xkI 4 <| X_i2l <| X_callV 1 75 5 34
noncomputable def B_39_34 : XK := X_load xkR 0 <| X_getf 11 7 <| X_push (.inl 3) <| X_push (.inl 0) <| X_push (.inl 0) <| X_load xkR 1 <| X_getf 0 1 <| X_getf 1 4 <| X_load xkL 2 <| X_lbin x_lsub xgn <| X_load xkI 4 <| X_i2l <| X_lbin x_lsub xgn <| X_callV 1 75 5 57
noncomputable def B_39_57 : XK := X_vret
noncomputable def T_39 : Nat → Option XK := fun pc => (cond (Nat.blt pc 18) (cond (Nat.blt pc 7) (cond (Nat.beq pc 0) (some B_39_0) none) (cond (Nat.beq pc 7) (some B_39_7) none)) (cond (Nat.blt pc 34) (cond (Nat.beq pc 18) (some B_39_18) none) (cond (Nat.blt pc 57) (cond (Nat.beq pc 34) (some B_39_34) none) (cond (Nat.beq pc 57) (some B_39_57) none))))
noncomputable def B_40_0 : XK := X_load xkR 0 <| X_getf 2 2 <| X_load xkR 0 <| X_getf 2 0 <| X_alen <| X_if2 p2_ge d_ge 25 <| X_load xkR 0 <| X_dup <| X_getf 2 2 <| X_push (.inl 1) <| X_ibin x_iadd xg_add <| X_putf xkI 2 2 <| X_jump 29
noncomputable def B_40_25 : XK := X_load xkR 0 <| X_callV 2 77 1 29
noncomputable def B_40_29 : XK := X_load xkR 0 <| X_getf 2 2 <| X_push (.inl 1) <| X_ibin x_isub xg_sub <| X_store xkI 1 <| X_load xkI 1 <| X_if p_lt d_lt 49 <| X_load xkI 1 <| X_load xkR 0 <| X_getf 2 0 <| X_alen <| X_if2 p2_lt d_lt 57 <| X_jump 49
noncomputable def B_40_49 : XK := X_load xkR 0 <| X_getf 2 1 <| X_callV 3 8 1 56
noncomputable def B_40_56 : XK := X_ret xkR
noncomputable def B_40_57 : XK := X_load xkR 0 <| X_getf 2 0 <| X_load xkI 1 <| X_ald xt3 <| X_ifr p_ne 79 <| X_load xkR 0 <| X_getf 2 0 <| X_load xkI 1 <| X_load xkR 0 <| X_getf 2 1 <| X_callV 3 8 1 78
noncomputable def B_40_78 : XK := X_aast xok <| X_jump 79
noncomputable def B_40_79 : XK := X_load xkR 0 <| X_getf 2 0 <| X_load xkI 1 <| X_ald xt3 <| X_ret xkR
noncomputable def T_40 : Nat → Option XK := fun pc => (cond (Nat.blt pc 56) (cond (Nat.blt pc 29) (cond (Nat.blt pc 25) (cond (Nat.beq pc 0) (some B_40_0) none) (cond (Nat.beq pc 25) (some B_40_25) none)) (cond (Nat.blt pc 49) (cond (Nat.beq pc 29) (some B_40_29) none) (cond (Nat.beq pc 49) (some B_40_49) none))) (cond (Nat.blt pc 78) (cond (Nat.blt pc 57) (cond (Nat.beq pc 56) (some B_40_56) none) (cond (Nat.beq pc 57) (some B_40_57) none)) (cond (Nat.blt pc 79) (cond (Nat.beq pc 78) (some B_40_78) none) (cond (Nat.beq pc 79) (some B_40_79) none))))
noncomputable def B_41_0 : XK := X_load xkR 3 <| X_callV 1 74 1 4
noncomputable def B_41_4 : XK := X_push (.inr (.inl 0)) <| X_lstore 4 <| X_push (.inl 0) <| X_store xkI 6 <| X_jump 10
noncomputable def B_41_10 : XK := X_load xkI 6 <| X_load xkR 1 <| X_callV 1 78 1 16
noncomputable def B_41_16 : XK := X_if2 p2_ge d_ge 147 <| X_load xkR 0 <| X_getf 4 0 <| X_callV 3 79 1 26
noncomputable def B_41_26 : XK := X_load xkR 2 <| X_push (.inl 0) <| X_callV 1 80 2 31
noncomputable def B_41_31 : XK := X_store xkI 7 <| X_load xkR 1 <| X_load xkI 6 <| X_callV 1 81 2 39
noncomputable def B_41_39 : XK := X_store xkI 8 <| X_load xkR 1 <| X_load xkI 6 <| X_callV 1 82 2 47
noncomputable def B_41_47 : XK := X_lstore 9 <| X_load xkI 8 <| X_push (.inl 1) <| X_if2 p2_ne d_ne 67 <| X_load xkR 3 <| X_push (.inl 4) <| X_push (.inl 0) <| X_push (.inl 0) <| X_load xkL 9 <| X_callV 1 75 5 64
noncomputable def B_41_64 : XK := X_jump 141
noncomputable def B_41_67 : XK := X_load xkI 8 <| X_push (.inl 4) <| X_if2 p2_ne d_ne 93 <| X_load xkR 3 <| X_load xkR 0 <| X_getf 4 0 <| X_load xkI 7 <| X_load xkL 4 <| X_load xkL 9 <| X_callV 3 83 4 87
noncomputable def B_41_87 : XK := X_callV 1 76 2 90
noncomputable def B_41_90 : XK := X_jump 134
noncomputable def B_41_93 : XK := X_load xkI 8 <| X_push (.inl 3) <| X_if2 p2_ne d_ne 111 <| X_load xkR 3 <| X_push (.inl 3) <| X_push (.inl 0) <| X_push (.inl 0) <| X_load xkL 9 <| X_callV 1 75 5 108
noncomputable def B_41_108 : XK := X_jump 134
noncomputable def B_41_111 : XK := X_load xkR 0 <| X_load xkI 7 <| X_load xkL 4 <| X_load xkL 9 <| X_load xkR 1 <| X_load xkI 6 <| X_callV 1 84 2 124
noncomputable def B_41_124 : XK := X_load xkR 1 <| X_load xkI 6 <| X_callV 1 85 2 130
noncomputable def B_41_130 : XK := X_load xkR 3 <| X_callV 4 86 7 134
noncomputable def B_41_134 : XK := X_load xkL 4 <| X_load xkL 9 <| X_lbin x_ladd xgn <| X_lstore 4 <| X_jump 141
noncomputable def B_41_141 : XK := X_iinc 6 1 <| X_jump 10
noncomputable def B_41_147 : XK := X_vret
noncomputable def T_41 : Nat → Option XK := fun pc => (cond (Nat.blt pc 87) (cond (Nat.blt pc 31) (cond (Nat.blt pc 10) (cond (Nat.blt pc 4) (cond (Nat.beq pc 0) (some B_41_0) none) (cond (Nat.beq pc 4) (some B_41_4) none)) (cond (Nat.blt pc 16) (cond (Nat.beq pc 10) (some B_41_10) none) (cond (Nat.blt pc 26) (cond (Nat.beq pc 16) (some B_41_16) none) (cond (Nat.beq pc 26) (some B_41_26) none)))) (cond (Nat.blt pc 47) (cond (Nat.blt pc 39) (cond (Nat.beq pc 31) (some B_41_31) none) (cond (Nat.beq pc 39) (some B_41_39) none)) (cond (Nat.blt pc 64) (cond (Nat.beq pc 47) (some B_41_47) none) (cond (Nat.blt pc 67) (cond (Nat.beq pc 64) (some B_41_64) none) (cond (Nat.beq pc 67) (some B_41_67) none))))) (cond (Nat.blt pc 124) (cond (Nat.blt pc 93) (cond (Nat.blt pc 90) (cond (Nat.beq pc 87) (some B_41_87) none) (cond (Nat.beq pc 90) (some B_41_90) none)) (cond (Nat.blt pc 108) (cond (Nat.beq pc 93) (some B_41_93) none) (cond (Nat.blt pc 111) (cond (Nat.beq pc 108) (some B_41_108) none) (cond (Nat.beq pc 111) (some B_41_111) none)))) (cond (Nat.blt pc 134) (cond (Nat.blt pc 130) (cond (Nat.beq pc 124) (some B_41_124) none) (cond (Nat.beq pc 130) (some B_41_130) none)) (cond (Nat.blt pc 141) (cond (Nat.beq pc 134) (some B_41_134) none) (cond (Nat.blt pc 147) (cond (Nat.beq pc 141) (some B_41_141) none) (cond (Nat.beq pc 147) (some B_41_147) none))))))
noncomputable def B_42_0 : XK := X_load xkR 0 <| X_push (.inl 0) <| X_putf xkI 2 2 <| X_vret
noncomputable def T_42 : Nat → Option XK := fun pc => (cond (Nat.beq pc 0) (some B_42_0) none)
noncomputable def B_43_0 : XK := X_load xkR 3 <| X_load xkR 0 <| X_getf 0 1 <| X_load xkR 1 <| X_load xkR 3 <| X_getf 4 3 <| X_callV 4 51 4 13
noncomputable def B_43_13 : XK := X_load xkR 0 <| X_getf 0 1 <| X_load xkR 3 <| X_getf 4 3 <| X_callV 1 50 2 24
noncomputable def B_43_24 : XK := X_load xkR 0 <| X_load xkR 1 <| X_load xkR 0 <| X_getf 0 10 <| X_load xkI 2 <| X_callV 1 87 3 34
noncomputable def B_43_34 : XK := X_putf xkL 0 10 <| X_load xkR 0 <| X_load xkR 1 <| X_load xkR 0 <| X_getf 0 11 <| X_load xkI 2 <| X_callV 1 87 3 47
noncomputable def B_43_47 : XK := X_putf xkL 0 11 <| X_vret
noncomputable def T_43 : Nat → Option XK := fun pc => (cond (Nat.blt pc 24) (cond (Nat.blt pc 13) (cond (Nat.beq pc 0) (some B_43_0) none) (cond (Nat.beq pc 13) (some B_43_13) none)) (cond (Nat.blt pc 34) (cond (Nat.beq pc 24) (some B_43_24) none) (cond (Nat.blt pc 47) (cond (Nat.beq pc 34) (some B_43_34) none) (cond (Nat.beq pc 47) (some B_43_47) none))))
noncomputable def B_44_0 : XK := X_load xkR 0 <| X_getf 0 6 <| X_if p_ne d_ne 28 <| X_load xkR 0 <| X_getf 0 2 <| X_load xkR 1 <| X_callV 1 48 2 15
noncomputable def B_44_15 : XK := X_load xkR 0 <| X_push (.inl 1) <| X_putf xk01 0 6 <| X_load xkR 0 <| X_push (.inl 0) <| X_putf xk01 0 7 <| X_jump 75
noncomputable def B_44_28 : XK := X_load xkR 0 <| X_getf 0 8 <| X_if p_ne d_ne 51 <| X_load xkR 0 <| X_getf 0 3 <| X_load xkR 1 <| X_callV 1 48 2 43
noncomputable def B_44_43 : XK := X_load xkR 0 <| X_push (.inl 1) <| X_putf xk01 0 8 <| X_jump 75
noncomputable def B_44_51 : XK := X_load xkR 2 <| X_load xkR 0 <| X_getf 0 3 <| X_load xkR 1 <| X_load xkR 2 <| X_getf 4 3 <| X_callV 4 51 4 64
noncomputable def B_44_64 : XK := X_load xkR 0 <| X_getf 0 3 <| X_load xkR 2 <| X_getf 4 3 <| X_callV 1 50 2 75
noncomputable def B_44_75 : XK := X_vret
noncomputable def T_44 : Nat → Option XK := fun pc => (cond (Nat.blt pc 43) (cond (Nat.blt pc 15) (cond (Nat.beq pc 0) (some B_44_0) none) (cond (Nat.blt pc 28) (cond (Nat.beq pc 15) (some B_44_15) none) (cond (Nat.beq pc 28) (some B_44_28) none))) (cond (Nat.blt pc 64) (cond (Nat.blt pc 51) (cond (Nat.beq pc 43) (some B_44_43) none) (cond (Nat.beq pc 51) (some B_44_51) none)) (cond (Nat.blt pc 75) (cond (Nat.beq pc 64) (some B_44_64) none) (cond (Nat.beq pc 75) (some B_44_75) none))))
noncomputable def B_45_0 : XK := X_load xkR 0 <| X_load xkR 0 <| X_getf 2 2 <| X_push (.inl 1) <| X_ibin x_isub xg_sub <| X_callV 2 56 2 10
noncomputable def B_45_10 : XK := X_ret xkR
noncomputable def T_45 : Nat → Option XK := fun pc => (cond (Nat.blt pc 10) (cond (Nat.beq pc 0) (some B_45_0) none) (cond (Nat.beq pc 10) (some B_45_10) none))
noncomputable def B_46_0 : XK := X_load xkR 0 <| X_getf 2 2 <| X_if p_le d_le 17 <| X_load xkR 0 <| X_dup <| X_getf 2 2 <| X_push (.inl 1) <| X_ibin x_isub xg_sub <| X_putf xkI 2 2 <| X_jump 17
noncomputable def B_46_17 : XK := X_vret
noncomputable def T_46 : Nat → Option XK := fun pc => (cond (Nat.blt pc 17) (cond (Nat.beq pc 0) (some B_46_0) none) (cond (Nat.beq pc 17) (some B_46_17) none))
noncomputable def B_47_0 : XK := X_load xkI 1 <| X_if p_lt d_lt 13 <| X_load xkI 1 <| X_load xkR 0 <| X_getf 6 0 <| X_alen <| X_if2 p2_lt d_lt 21 <| X_jump 13
noncomputable def B_47_13 : XK := X_load xkR 0 <| X_getf 6 2 <| X_callV 3 8 1 20
noncomputable def B_47_20 : XK := X_ret xkR
noncomputable def B_47_21 : XK := X_load xkR 0 <| X_getf 6 0 <| X_load xkI 1 <| X_ald xt3 <| X_ifr p_ne 43 <| X_load xkR 0 <| X_getf 6 0 <| X_load xkI 1 <| X_load xkR 0 <| X_getf 6 2 <| X_callV 3 8 1 42
noncomputable def B_47_42 : XK := X_aast xok <| X_jump 43
noncomputable def B_47_43 : XK := X_load xkR 0 <| X_getf 6 0 <| X_load xkI 1 <| X_ald xt3 <| X_ret xkR
noncomputable def T_47 : Nat → Option XK := fun pc => (cond (Nat.blt pc 21) (cond (Nat.blt pc 13) (cond (Nat.beq pc 0) (some B_47_0) none) (cond (Nat.blt pc 20) (cond (Nat.beq pc 13) (some B_47_13) none) (cond (Nat.beq pc 20) (some B_47_20) none))) (cond (Nat.blt pc 42) (cond (Nat.beq pc 21) (some B_47_21) none) (cond (Nat.blt pc 43) (cond (Nat.beq pc 42) (some B_47_42) none) (cond (Nat.beq pc 43) (some B_47_43) none))))
noncomputable def B_48_0 : XK := X_load xkR 0 <| X_getf 1 1 <| X_load xkR 1 <| X_getf 1 1 <| X_callV 7 88 2 11
noncomputable def B_48_11 : XK := X_load xkR 0 <| X_load xkR 1 <| X_getf 1 2 <| X_putf xk01 1 2 <| X_load xkR 0 <| X_load xkR 1 <| X_getf 1 3 <| X_putf xkL 1 3 <| X_load xkR 0 <| X_load xkR 1 <| X_getf 1 4 <| X_putf xkL 1 4 <| X_vret
noncomputable def T_48 : Nat → Option XK := fun pc => (cond (Nat.blt pc 11) (cond (Nat.beq pc 0) (some B_48_0) none) (cond (Nat.beq pc 11) (some B_48_11) none))
noncomputable def B_49_0 : XK := X_load xkR 4 <| X_callV 1 74 1 5
noncomputable def B_49_5 : XK := X_load xkR 0 <| X_getf 4 1 <| X_load xkR 1 <| X_callV 10 89 2 13
noncomputable def B_49_13 : XK := X_load xkR 0 <| X_getf 4 2 <| X_load xkR 2 <| X_callV 10 89 2 21
noncomputable def B_49_21 : XK := X_load xkR 1 <| X_callV 1 78 1 25
noncomputable def B_49_25 : XK := X_load xkR 2 <| X_callV 1 78 1 29
noncomputable def B_49_29 : XK := X_ibin x_iadd xg_add <| X_store xkI 5 <| X_push (.inl 0) <| X_store xkI 6 <| X_jump 35
noncomputable def B_49_35 : XK := X_load xkI 6 <| X_load xkI 5 <| X_if2 p2_ge d_ge 266 <| X_load xkR 0 <| X_getf 4 0 <| X_callV 3 79 1 49
noncomputable def B_49_49 : XK := X_load xkR 0 <| X_getf 4 1 <| X_getf 10 2 <| X_push (.inl 1) <| X_if2 p2_ne d_ne 105 <| X_load xkI 3 <| X_push (.inl 1) <| X_if2 p2_eq d_eq 76 <| X_load xkR 0 <| X_getf 4 2 <| X_getf 10 2 <| X_push (.inl 1) <| X_if2 p2_eq d_eq 105 <| X_jump 76
noncomputable def B_49_76 : XK := X_load xkR 4 <| X_load xkR 0 <| X_getf 4 1 <| X_callV 10 90 1 85
noncomputable def B_49_85 : XK := X_callV 1 76 2 88
noncomputable def B_49_88 : XK := X_load xkR 0 <| X_getf 4 1 <| X_load xkR 0 <| X_getf 4 1 <| X_getf 10 4 <| X_callV 10 91 2 102
noncomputable def B_49_102 : XK := X_jump 260
noncomputable def B_49_105 : XK := X_load xkR 0 <| X_getf 4 2 <| X_getf 10 2 <| X_push (.inl 1) <| X_if2 p2_ne d_ne 148 <| X_load xkR 4 <| X_push (.inl 3) <| X_push (.inl 0) <| X_push (.inl 0) <| X_load xkR 0 <| X_getf 4 2 <| X_getf 10 4 <| X_callV 1 75 5 131
noncomputable def B_49_131 : XK := X_load xkR 0 <| X_getf 4 2 <| X_load xkR 0 <| X_getf 4 2 <| X_getf 10 4 <| X_callV 10 91 2 145
noncomputable def B_49_145 : XK := X_jump 260
noncomputable def B_49_148 : XK := X_load xkR 0 <| X_getf 4 1 <| X_getf 10 4 <| X_load xkR 0 <| X_getf 4 2 <| X_getf 10 4 <| X_lmin <| X_jump 165
noncomputable def B_49_165 : XK := X_lstore 7 <| X_load xkI 3 <| X_push (.inl 1) <| X_if2 p2_ne d_ne 190 <| X_load xkR 0 <| X_getf 4 2 <| X_getf 10 5 <| X_load xkR 0 <| X_getf 4 2 <| X_getf 10 6 <| X_ibin Nat.lor xg_or <| X_jump 191
noncomputable def B_49_190 : XK := X_push (.inl 0) <| X_jump 191
noncomputable def B_49_191 : XK := X_store xkI 9 <| X_load xkR 0 <| X_getf 4 2 <| X_getf 10 2 <| X_push (.inl 4) <| X_if2 p2_eq d_eq 242 <| X_load xkR 4 <| X_load xkR 0 <| X_getf 4 1 <| X_getf 10 2 <| X_load xkR 0 <| X_getf 4 1 <| X_getf 10 5 <| X_load xkI 9 <| X_push (.inl 4294967295) <| X_ibin Nat.xor (xg0 Nat.xor) <| X_ibin Nat.land xg_and <| X_load xkR 0 <| X_getf 4 1 <| X_getf 10 6 <| X_load xkI 9 <| X_push (.inl 4294967295) <| X_ibin Nat.xor (xg0 Nat.xor) <| X_ibin Nat.land xg_and <| X_load xkL 7 <| X_callV 1 75 5 242
noncomputable def B_49_242 : XK := X_load xkR 0 <| X_getf 4 1 <| X_load xkL 7 <| X_callV 10 91 2 251
noncomputable def B_49_251 : XK := X_load xkR 0 <| X_getf 4 2 <| X_load xkL 7 <| X_callV 10 91 2 260
noncomputable def B_49_260 : XK := X_iinc 6 1 <| X_jump 35
noncomputable def B_49_266 : XK := X_vret
noncomputable def T_49 : Nat → Option XK := fun pc => (cond (Nat.blt pc 102) (cond (Nat.blt pc 29) (cond (Nat.blt pc 13) (cond (Nat.blt pc 5) (cond (Nat.beq pc 0) (some B_49_0) none) (cond (Nat.beq pc 5) (some B_49_5) none)) (cond (Nat.blt pc 21) (cond (Nat.beq pc 13) (some B_49_13) none) (cond (Nat.blt pc 25) (cond (Nat.beq pc 21) (some B_49_21) none) (cond (Nat.beq pc 25) (some B_49_25) none)))) (cond (Nat.blt pc 76) (cond (Nat.blt pc 35) (cond (Nat.beq pc 29) (some B_49_29) none) (cond (Nat.blt pc 49) (cond (Nat.beq pc 35) (some B_49_35) none) (cond (Nat.beq pc 49) (some B_49_49) none))) (cond (Nat.blt pc 85) (cond (Nat.beq pc 76) (some B_49_76) none) (cond (Nat.blt pc 88) (cond (Nat.beq pc 85) (some B_49_85) none) (cond (Nat.beq pc 88) (some B_49_88) none))))) (cond (Nat.blt pc 190) (cond (Nat.blt pc 145) (cond (Nat.blt pc 105) (cond (Nat.beq pc 102) (some B_49_102) none) (cond (Nat.blt pc 131) (cond (Nat.beq pc 105) (some B_49_105) none) (cond (Nat.beq pc 131) (some B_49_131) none))) (cond (Nat.blt pc 148) (cond (Nat.beq pc 145) (some B_49_145) none) (cond (Nat.blt pc 165) (cond (Nat.beq pc 148) (some B_49_148) none) (cond (Nat.beq pc 165) (some B_49_165) none)))) (cond (Nat.blt pc 251) (cond (Nat.blt pc 191) (cond (Nat.beq pc 190) (some B_49_190) none) (cond (Nat.blt pc 242) (cond (Nat.beq pc 191) (some B_49_191) none) (cond (Nat.beq pc 242) (some B_49_242) none))) (cond (Nat.blt pc 260) (cond (Nat.beq pc 251) (some B_49_251) none) (cond (Nat.blt pc 266) (cond (Nat.beq pc 260) (some B_49_260) none) (cond (Nat.beq pc 266) (some B_49_266) none))))))
noncomputable def B_50_0 : XK := X_load xkR 0 <| X_getf 1 1 <| X_load xkR 1 <| X_getf 1 1 <| X_callV 7 92 2 11
noncomputable def B_50_11 : XK := X_load xkR 0 <| X_load xkR 1 <| X_getf 1 2 <| X_putf xk01 1 2 <| X_load xkR 0 <| X_load xkR 1 <| X_getf 1 3 <| X_putf xkL 1 3 <| X_load xkR 0 <| X_load xkR 1 <| X_getf 1 4 <| X_putf xkL 1 4 <| X_load xkR 1 <| X_callV 1 74 1 39
noncomputable def B_50_39 : XK := X_vret
noncomputable def T_50 : Nat → Option XK := fun pc => (cond (Nat.blt pc 11) (cond (Nat.beq pc 0) (some B_50_0) none) (cond (Nat.blt pc 39) (cond (Nat.beq pc 11) (some B_50_11) none) (cond (Nat.beq pc 39) (some B_50_39) none)))
noncomputable def B_51_0 : XK := X_load xkR 3 <| X_callV 1 74 1 4
noncomputable def B_51_4 : XK := X_load xkR 0 <| X_getf 4 1 <| X_load xkR 1 <| X_callV 10 89 2 12
noncomputable def B_51_12 : XK := X_load xkR 0 <| X_getf 4 2 <| X_load xkR 2 <| X_callV 10 89 2 20
noncomputable def B_51_20 : XK := X_load xkR 1 <| X_callV 1 78 1 24
noncomputable def B_51_24 : XK := X_load xkR 2 <| X_callV 1 78 1 28
noncomputable def B_51_28 : XK := X_ibin x_iadd xg_add <| X_store xkI 4 <| X_push (.inl 0) <| X_store xkI 5 <| X_jump 34
noncomputable def B_51_34 : XK := X_load xkI 5 <| X_load xkI 4 <| X_if2 p2_ge d_ge 329 <| X_load xkR 0 <| X_getf 4 0 <| X_callV 3 79 1 48
noncomputable def B_51_48 : XK := X_load xkR 0 <| X_getf 4 1 <| X_getf 10 2 <| X_push (.inl 4) <| X_if2 p2_ne d_ne 90 <| X_load xkR 3 <| X_push (.inl 4) <| X_push (.inl 0) <| X_push (.inl 0) <| X_load xkR 0 <| X_getf 4 1 <| X_getf 10 4 <| X_callV 1 75 5 73
noncomputable def B_51_73 : XK := X_load xkR 0 <| X_getf 4 1 <| X_load xkR 0 <| X_getf 4 1 <| X_getf 10 4 <| X_callV 10 91 2 87
noncomputable def B_51_87 : XK := X_jump 323
noncomputable def B_51_90 : XK := X_load xkR 0 <| X_getf 4 2 <| X_getf 10 2 <| X_push (.inl 1) <| X_if2 p2_ne d_ne 129 <| X_load xkR 3 <| X_load xkR 0 <| X_getf 4 2 <| X_callV 10 90 1 109
noncomputable def B_51_109 : XK := X_callV 1 76 2 112
noncomputable def B_51_112 : XK := X_load xkR 0 <| X_getf 4 2 <| X_load xkR 0 <| X_getf 4 2 <| X_getf 10 4 <| X_callV 10 91 2 126
noncomputable def B_51_126 : XK := X_jump 323
noncomputable def B_51_129 : XK := X_load xkR 0 <| X_getf 4 1 <| X_getf 10 4 <| X_load xkR 0 <| X_getf 4 2 <| X_getf 10 4 <| X_lmin <| X_jump 146
noncomputable def B_51_146 : XK := X_lstore 6 <| X_load xkR 0 <| X_getf 4 2 <| X_getf 10 2 <| X_push (.inl 4) <| X_if2 p2_ne d_ne 182 <| X_load xkR 0 <| X_getf 4 1 <| X_getf 10 2 <| X_push (.inl 1) <| X_if2 p2_eq d_eq 305 <| X_load xkR 3 <| X_push (.inl 4) <| X_push (.inl 0) <| X_push (.inl 0) <| X_load xkL 6 <| X_callV 1 75 5 179
noncomputable def B_51_179 : XK := X_jump 305
noncomputable def B_51_182 : XK := X_load xkR 0 <| X_getf 4 1 <| X_getf 10 2 <| X_push (.inl 1) <| X_if2 p2_ne d_ne 248 <| X_load xkR 0 <| X_getf 4 0 <| X_load xkR 0 <| X_getf 4 1 <| X_callV 10 90 1 204
noncomputable def B_51_204 : XK := X_load xkR 0 <| X_getf 4 1 <| X_getf 10 3 <| X_load xkL 6 <| X_callV 3 83 4 216
noncomputable def B_51_216 : XK := X_store xkI 8 <| X_load xkR 3 <| X_load xkR 0 <| X_getf 4 0 <| X_load xkI 8 <| X_load xkR 0 <| X_getf 4 2 <| X_getf 10 5 <| X_load xkR 0 <| X_getf 4 2 <| X_getf 10 6 <| X_callV 3 93 4 242
noncomputable def B_51_242 : XK := X_callV 1 76 2 245
noncomputable def B_51_245 : XK := X_jump 305
noncomputable def B_51_248 : XK := X_load xkR 3 <| X_push (.inl 5) <| X_load xkR 0 <| X_getf 4 1 <| X_getf 10 5 <| X_load xkR 0 <| X_getf 4 2 <| X_getf 10 6 <| X_push (.inl 4294967295) <| X_ibin Nat.xor (xg0 Nat.xor) <| X_ibin Nat.land xg_and <| X_load xkR 0 <| X_getf 4 2 <| X_getf 10 5 <| X_ibin Nat.lor xg_or <| X_load xkR 0 <| X_getf 4 1 <| X_getf 10 6 <| X_load xkR 0 <| X_getf 4 2 <| X_getf 10 5 <| X_push (.inl 4294967295) <| X_ibin Nat.xor (xg0 Nat.xor) <| X_ibin Nat.land xg_and <| X_load xkR 0 <| X_getf 4 2 <| X_getf 10 6 <| X_ibin Nat.lor xg_or <| X_load xkL 6 <| X_callV 1 75 5 305
noncomputable def B_51_305 : XK := X_load xkR 0 <| X_getf 4 1 <| X_load xkL 6 <| X_callV 10 91 2 314
noncomputable def B_51_314 : XK := X_load xkR 0 <| X_getf 4 2 <| X_load xkL 6 <| X_callV 10 91 2 323
noncomputable def B_51_323 : XK := X_iinc 5 1 <| X_jump 34
noncomputable def B_51_329 : XK := X_vret
noncomputable def T_51 : Nat → Option XK := fun pc => (cond (Nat.blt pc 126) (cond (Nat.blt pc 34) (cond (Nat.blt pc 20) (cond (Nat.blt pc 4) (cond (Nat.beq pc 0) (some B_51_0) none) (cond (Nat.blt pc 12) (cond (Nat.beq pc 4) (some B_51_4) none) (cond (Nat.beq pc 12) (some B_51_12) none))) (cond (Nat.blt pc 24) (cond (Nat.beq pc 20) (some B_51_20) none) (cond (Nat.blt pc 28) (cond (Nat.beq pc 24) (some B_51_24) none) (cond (Nat.beq pc 28) (some B_51_28) none)))) (cond (Nat.blt pc 87) (cond (Nat.blt pc 48) (cond (Nat.beq pc 34) (some B_51_34) none) (cond (Nat.blt pc 73) (cond (Nat.beq pc 48) (some B_51_48) none) (cond (Nat.beq pc 73) (some B_51_73) none))) (cond (Nat.blt pc 109) (cond (Nat.blt pc 90) (cond (Nat.beq pc 87) (some B_51_87) none) (cond (Nat.beq pc 90) (some B_51_90) none)) (cond (Nat.blt pc 112) (cond (Nat.beq pc 109) (some B_51_109) none) (cond (Nat.beq pc 112) (some B_51_112) none))))) (cond (Nat.blt pc 242) (cond (Nat.blt pc 179) (cond (Nat.blt pc 129) (cond (Nat.beq pc 126) (some B_51_126) none) (cond (Nat.blt pc 146) (cond (Nat.beq pc 129) (some B_51_129) none) (cond (Nat.beq pc 146) (some B_51_146) none))) (cond (Nat.blt pc 204) (cond (Nat.blt pc 182) (cond (Nat.beq pc 179) (some B_51_179) none) (cond (Nat.beq pc 182) (some B_51_182) none)) (cond (Nat.blt pc 216) (cond (Nat.beq pc 204) (some B_51_204) none) (cond (Nat.beq pc 216) (some B_51_216) none)))) (cond (Nat.blt pc 305) (cond (Nat.blt pc 245) (cond (Nat.beq pc 242) (some B_51_242) none) (cond (Nat.blt pc 248) (cond (Nat.beq pc 245) (some B_51_245) none) (cond (Nat.beq pc 248) (some B_51_248) none))) (cond (Nat.blt pc 323) (cond (Nat.blt pc 314) (cond (Nat.beq pc 305) (some B_51_305) none) (cond (Nat.beq pc 314) (some B_51_314) none)) (cond (Nat.blt pc 329) (cond (Nat.beq pc 323) (some B_51_323) none) (cond (Nat.beq pc 329) (some B_51_329) none))))))
noncomputable def B_52_0 : XK := X_load xkI 1 <| X_if p_lt d_lt 20 <| X_load xkI 1 <| X_load xkR 0 <| X_getf 6 1 <| X_alen <| X_if2 p2_ge d_ge 20 <| X_load xkR 0 <| X_getf 6 1 <| X_load xkI 1 <| X_load xkI 2 <| X_ast xt0 xkI <| X_jump 20
noncomputable def B_52_20 : XK := X_vret
noncomputable def T_52 : Nat → Option XK := fun pc => (cond (Nat.blt pc 20) (cond (Nat.beq pc 0) (some B_52_0) none) (cond (Nat.beq pc 20) (some B_52_20) none))
noncomputable def B_53_0 : XK := X_load xkI 1 <| X_if p_lt d_lt 22 <| X_load xkI 1 <| X_load xkR 0 <| X_getf 6 1 <| X_alen <| X_if2 p2_ge d_ge 22 <| X_load xkR 0 <| X_getf 6 1 <| X_load xkI 1 <| X_ald xt0 <| X_jump 23
noncomputable def B_53_22 : XK := X_push (.inl 4294967295) <| X_jump 23
noncomputable def B_53_23 : XK := X_ret xkI
noncomputable def T_53 : Nat → Option XK := fun pc => (cond (Nat.blt pc 22) (cond (Nat.beq pc 0) (some B_53_0) none) (cond (Nat.blt pc 23) (cond (Nat.beq pc 22) (some B_53_22) none) (cond (Nat.beq pc 23) (some B_53_23) none)))
noncomputable def B_54_0 : XK := X_load xkR 0 <| X_load xkR 0 <| X_getf 0 8 <| X_putf xk01 0 6 <| X_load xkR 0 <| X_push (.inl 0) <| X_putf xk01 0 7 <| X_load xkR 0 <| X_getf 0 8 <| X_if p_eq d_eq 31 <| X_load xkR 0 <| X_getf 0 2 <| X_load xkR 0 <| X_getf 0 3 <| X_callV 1 50 2 31
noncomputable def B_54_31 : XK := X_load xkR 0 <| X_push (.inl 0) <| X_putf xk01 0 8 <| X_vret
noncomputable def T_54 : Nat → Option XK := fun pc => (cond (Nat.blt pc 31) (cond (Nat.beq pc 0) (some B_54_0) none) (cond (Nat.beq pc 31) (some B_54_31) none))
noncomputable def B_55_0 : XK := X_load xkR 1 <| X_ifr p_ne 5 <| X_vret
noncomputable def B_55_5 : XK := X_load xkR 0 <| X_load xkR 1 <| X_load xkR 0 <| X_getf 4 5 <| X_push (.inl 0) <| X_load xkR 0 <| X_getf 4 3 <| X_callV 4 49 5 19
noncomputable def B_55_19 : XK := X_load xkR 0 <| X_load xkR 0 <| X_getf 4 5 <| X_load xkR 1 <| X_push (.inl 1) <| X_load xkR 0 <| X_getf 4 4 <| X_callV 4 49 5 33
noncomputable def B_55_33 : XK := X_load xkR 1 <| X_load xkR 0 <| X_getf 4 3 <| X_callV 1 50 2 41
noncomputable def B_55_41 : XK := X_load xkR 0 <| X_getf 4 5 <| X_load xkR 0 <| X_getf 4 4 <| X_callV 1 50 2 52
noncomputable def B_55_52 : XK := X_vret
noncomputable def T_55 : Nat → Option XK := fun pc => (cond (Nat.blt pc 33) (cond (Nat.blt pc 5) (cond (Nat.beq pc 0) (some B_55_0) none) (cond (Nat.blt pc 19) (cond (Nat.beq pc 5) (some B_55_5) none) (cond (Nat.beq pc 19) (some B_55_19) none))) (cond (Nat.blt pc 41) (cond (Nat.beq pc 33) (some B_55_33) none) (cond (Nat.blt pc 52) (cond (Nat.beq pc 41) (some B_55_41) none) (cond (Nat.beq pc 52) (some B_55_52) none))))
noncomputable def B_56_0 : XK := X_load xkI 1 <| X_if p_lt d_lt 30 <| X_load xkI 1 <| X_load xkR 0 <| X_getf 2 2 <| X_if2 p2_ge d_ge 30 <| X_load xkI 1 <| X_load xkR 0 <| X_getf 2 0 <| X_alen <| X_if2 p2_ge d_ge 30 <| X_load xkR 0 <| X_getf 2 0 <| X_load xkI 1 <| X_ald xt3 <| X_jump 31
noncomputable def B_56_30 : XK := X_push (.inr (.inr (.inl 0))) <| X_jump 31
noncomputable def B_56_31 : XK := X_ret xkR
noncomputable def T_56 : Nat → Option XK := fun pc => (cond (Nat.blt pc 30) (cond (Nat.beq pc 0) (some B_56_0) none) (cond (Nat.blt pc 31) (cond (Nat.beq pc 30) (some B_56_30) none) (cond (Nat.beq pc 31) (some B_56_31) none)))
noncomputable def B_57_0 : XK := X_load xkR 0 <| X_callI 94 1 4
noncomputable def B_57_4 : XK := X_load xkR 0 <| X_push (.inl 0) <| X_putf xkI 13 0 <| X_vret
noncomputable def T_57 : Nat → Option XK := fun pc => (cond (Nat.blt pc 4) (cond (Nat.beq pc 0) (some B_57_0) none) (cond (Nat.beq pc 4) (some B_57_4) none))
noncomputable def B_58_0 : XK := X_load xkI 3 <| X_load xkR 2 <| X_alen <| X_if2 p2_ne d_ne 11 <| X_load xkR 0 <| X_callV 13 95 1 10
noncomputable def B_58_10 : XK := X_store xkR 2 <| X_jump 11
noncomputable def B_58_11 : XK := X_load xkR 2 <| X_load xkI 3 <| X_load xkR 1 <| X_aast xok <| X_load xkR 0 <| X_load xkI 3 <| X_push (.inl 1) <| X_ibin x_iadd xg_add <| X_putf xkI 13 2 <| X_vret
noncomputable def T_58 : Nat → Option XK := fun pc => (cond (Nat.blt pc 10) (cond (Nat.beq pc 0) (some B_58_0) none) (cond (Nat.blt pc 11) (cond (Nat.beq pc 10) (some B_58_10) none) (cond (Nat.beq pc 11) (some B_58_11) none)))
noncomputable def B_59_0 : XK := X_load xkR 0 <| X_oinit <| X_jump 4
noncomputable def B_59_4 : XK := X_load xkR 0 <| X_push (.inl 20) <| X_newa 11 <| X_putf xkR 2 0 <| X_load xkR 0 <| X_load xkR 1 <| X_putf xkR 2 1 <| X_vret
noncomputable def T_59 : Nat → Option XK := fun pc => (cond (Nat.blt pc 4) (cond (Nat.beq pc 0) (some B_59_0) none) (cond (Nat.beq pc 4) (some B_59_4) none))
noncomputable def B_60_0 : XK := X_load xkR 0 <| X_getf 12 9 <| X_load xkI 1 <| X_ald xt3 <| X_load xkR 0 <| X_getf 12 10 <| X_load xkI 1 <| X_ald xt0 <| X_load xkI 2 <| X_ast xt0 xkI <| X_load xkR 0 <| X_getf 12 10 <| X_load xkI 1 <| X_dup2 <| X_ald xt0 <| X_push (.inl 1) <| X_ibin x_iadd xg_add <| X_ast xt0 xkI <| X_vret
noncomputable def T_60 : Nat → Option XK := fun pc => (cond (Nat.beq pc 0) (some B_60_0) none)
noncomputable def B_61_0 : XK := X_push (.inl 0) <| X_store xkI 4 <| X_load xkR 0 <| X_getf 12 10 <| X_load xkI 3 <| X_push (.inl 0) <| X_ast xt0 xkI <| X_push (.inl 0) <| X_store xkI 5 <| X_jump 13
noncomputable def B_61_13 : XK := X_load xkI 5 <| X_load xkR 0 <| X_getf 12 10 <| X_load xkI 1 <| X_ald xt0 <| X_if2 p2_ge d_ge 168 <| X_load xkR 0 <| X_getf 12 9 <| X_load xkI 1 <| X_ald xt3 <| X_load xkI 5 <| X_ald xt0 <| X_store xkI 6 <| X_load xkI 6 <| X_callS 96 1 40
noncomputable def B_61_40 : XK := X_push (.inl 1048576) <| X_if2 p2_ne d_ne 55 <| X_load xkR 0 <| X_load xkI 3 <| X_push (.inl 3145728) <| X_callV 12 60 3 52
noncomputable def B_61_52 : XK := X_jump 162
noncomputable def B_61_55 : XK := X_load xkR 0 <| X_getf 12 3 <| X_load xkI 2 <| X_ald xt3 <| X_load xkI 4 <| X_ald xt0 <| X_store xkI 7 <| X_iinc 4 1 <| X_load xkI 6 <| X_callS 96 1 74
noncomputable def B_61_74 : XK := X_push (.inl 4194304) <| X_if2 p2_ne d_ne 137 <| X_load xkI 7 <| X_push (.inl 8) <| X_ibin x_ishr (xg0 x_ishr) <| X_push (.inl 15) <| X_ibin Nat.land xg_and <| X_store xkI 8 <| X_load xkI 6 <| X_push (.inl 15) <| X_ibin Nat.land xg_and <| X_load xkI 8 <| X_ibin Nat.land xg_and <| X_push (.inl 4) <| X_ibin x_ishl xg_shl <| X_load xkI 6 <| X_push (.inl 4) <| X_ibin x_ishr (xg0 x_ishr) <| X_push (.inl 15) <| X_ibin Nat.land xg_and <| X_load xkI 8 <| X_push (.inl 4294967295) <| X_ibin Nat.xor (xg0 Nat.xor) <| X_ibin Nat.land xg_and <| X_ibin Nat.lor xg_or <| X_store xkI 9 <| X_load xkR 0 <| X_load xkI 3 <| X_load xkI 9 <| X_if p_ne d_ne 126 <| X_push (.inl 2097152) <| X_jump 131
noncomputable def B_61_126 : XK := X_push (.inl 4194304) <| X_load xkI 9 <| X_ibin Nat.lor xg_or <| X_jump 131
noncomputable def B_61_131 : XK := X_callV 12 60 3 134
noncomputable def B_61_134 : XK := X_jump 162
noncomputable def B_61_137 : XK := X_load xkR 0 <| X_load xkI 3 <| X_load xkI 6 <| X_callS 96 1 144
noncomputable def B_61_144 : XK := X_push (.inl 2097152) <| X_if2 p2_ne d_ne 154 <| X_push (.inl 2097152) <| X_jump 159
noncomputable def B_61_154 : XK := X_push (.inl 1048576) <| X_load xkI 7 <| X_ibin Nat.lor xg_or <| X_jump 159
noncomputable def B_61_159 : XK := X_callV 12 60 3 162
noncomputable def B_61_162 : XK := X_iinc 5 1 <| X_jump 13
noncomputable def B_61_168 : XK := X_load xkR 0 <| X_load xkI 3 <| X_callV 12 97 2 173
noncomputable def B_61_173 : XK := X_vret
noncomputable def T_61 : Nat → Option XK := fun pc => (cond (Nat.blt pc 134) (cond (Nat.blt pc 55) (cond (Nat.blt pc 40) (cond (Nat.blt pc 13) (cond (Nat.beq pc 0) (some B_61_0) none) (cond (Nat.beq pc 13) (some B_61_13) none)) (cond (Nat.blt pc 52) (cond (Nat.beq pc 40) (some B_61_40) none) (cond (Nat.beq pc 52) (some B_61_52) none))) (cond (Nat.blt pc 126) (cond (Nat.blt pc 74) (cond (Nat.beq pc 55) (some B_61_55) none) (cond (Nat.beq pc 74) (some B_61_74) none)) (cond (Nat.blt pc 131) (cond (Nat.beq pc 126) (some B_61_126) none) (cond (Nat.beq pc 131) (some B_61_131) none)))) (cond (Nat.blt pc 159) (cond (Nat.blt pc 144) (cond (Nat.blt pc 137) (cond (Nat.beq pc 134) (some B_61_134) none) (cond (Nat.beq pc 137) (some B_61_137) none)) (cond (Nat.blt pc 154) (cond (Nat.beq pc 144) (some B_61_144) none) (cond (Nat.beq pc 154) (some B_61_154) none))) (cond (Nat.blt pc 168) (cond (Nat.blt pc 162) (cond (Nat.beq pc 159) (some B_61_159) none) (cond (Nat.beq pc 162) (some B_61_162) none)) (cond (Nat.blt pc 173) (cond (Nat.beq pc 168) (some B_61_168) none) (cond (Nat.beq pc 173) (some B_61_173) none)))))
noncomputable def B_62_0 : XK := X_push (.inl 0) <| X_store xkI 3 <| X_push (.inl 0) <| X_store xkI 4 <| X_push (.inl 0) <| X_store xkI 5 <| X_jump 8
noncomputable def B_62_8 : XK := X_load xkI 5 <| X_load xkR 0 <| X_getf 12 10 <| X_load xkI 2 <| X_ald xt0 <| X_if2 p2_ge d_ge 133 <| X_load xkR 0 <| X_getf 12 9 <| X_load xkI 2 <| X_ald xt3 <| X_load xkI 5 <| X_ald xt0 <| X_store xkI 6 <| X_load xkI 6 <| X_callS 96 1 35
noncomputable def B_62_35 : XK := X_push (.inl 1048576) <| X_if2 p2_ne d_ne 59 <| X_load xkR 0 <| X_getf 12 11 <| X_load xkI 4 <| X_load xkI 6 <| X_push (.inl 4095) <| X_ibin Nat.land xg_and <| X_ast xt0 xkI <| X_iinc 4 1 <| X_jump 127
noncomputable def B_62_59 : XK := X_load xkR 0 <| X_getf 12 3 <| X_load xkI 1 <| X_ald xt3 <| X_load xkI 3 <| X_ald xt0 <| X_store xkI 7 <| X_iinc 3 1 <| X_load xkI 6 <| X_callS 96 1 77
noncomputable def B_62_77 : XK := X_push (.inl 3145728) <| X_if2 p2_eq d_eq 127 <| X_load xkR 0 <| X_getf 12 11 <| X_load xkI 4 <| X_load xkI 6 <| X_callS 96 1 93
noncomputable def B_62_93 : XK := X_push (.inl 4194304) <| X_if2 p2_ne d_ne 121 <| X_load xkI 7 <| X_push (.inl 8) <| X_ibin x_ishr (xg0 x_ishr) <| X_load xkI 6 <| X_callS 98 2 108
noncomputable def B_62_108 : XK := X_push (.inl 8) <| X_ibin x_ishl xg_shl <| X_load xkI 7 <| X_push (.inl 255) <| X_ibin Nat.land xg_and <| X_ibin Nat.lor xg_or <| X_jump 123
noncomputable def B_62_121 : XK := X_load xkI 7 <| X_jump 123
noncomputable def B_62_123 : XK := X_ast xt0 xkI <| X_iinc 4 1 <| X_jump 127
noncomputable def B_62_127 : XK := X_iinc 5 1 <| X_jump 8
noncomputable def B_62_133 : XK := X_load xkR 0 <| X_getf 12 3 <| X_load xkI 1 <| X_load xkR 0 <| X_getf 12 3 <| X_load xkI 1 <| X_ald xt3 <| X_load xkI 4 <| X_callS 99 2 149
noncomputable def B_62_149 : XK := X_aast xok <| X_load xkR 0 <| X_getf 12 4 <| X_load xkI 1 <| X_load xkI 4 <| X_ast xt0 xkI <| X_push (.inl 0) <| X_store xkI 5 <| X_jump 161
noncomputable def B_62_161 : XK := X_load xkI 5 <| X_load xkI 4 <| X_if2 p2_ge d_ge 190 <| X_load xkR 0 <| X_getf 12 3 <| X_load xkI 1 <| X_ald xt3 <| X_load xkI 5 <| X_load xkR 0 <| X_getf 12 11 <| X_load xkI 5 <| X_ald xt0 <| X_ast xt0 xkI <| X_iinc 5 1 <| X_jump 161
noncomputable def B_62_190 : XK := X_vret
noncomputable def T_62 : Nat → Option XK := fun pc => (cond (Nat.blt pc 121) (cond (Nat.blt pc 59) (cond (Nat.blt pc 8) (cond (Nat.beq pc 0) (some B_62_0) none) (cond (Nat.blt pc 35) (cond (Nat.beq pc 8) (some B_62_8) none) (cond (Nat.beq pc 35) (some B_62_35) none))) (cond (Nat.blt pc 93) (cond (Nat.blt pc 77) (cond (Nat.beq pc 59) (some B_62_59) none) (cond (Nat.beq pc 77) (some B_62_77) none)) (cond (Nat.blt pc 108) (cond (Nat.beq pc 93) (some B_62_93) none) (cond (Nat.beq pc 108) (some B_62_108) none)))) (cond (Nat.blt pc 133) (cond (Nat.blt pc 123) (cond (Nat.beq pc 121) (some B_62_121) none) (cond (Nat.blt pc 127) (cond (Nat.beq pc 123) (some B_62_123) none) (cond (Nat.beq pc 127) (some B_62_127) none))) (cond (Nat.blt pc 161) (cond (Nat.blt pc 149) (cond (Nat.beq pc 133) (some B_62_133) none) (cond (Nat.beq pc 149) (some B_62_149) none)) (cond (Nat.blt pc 190) (cond (Nat.beq pc 161) (some B_62_161) none) (cond (Nat.beq pc 190) (some B_62_190) none)))))
noncomputable def B_63_0 : XK := X_load xkR 0 <| X_getf 12 5 <| X_push (.inl 8) <| X_load xkI 1 <| X_ibin x_imul (xg0 x_imul) <| X_push (.inl 6) <| X_ibin x_iadd xg_add <| X_load xkR 0 <| X_load xkR 0 <| X_load xkI 1 <| X_push (.inl 6) <| X_callV 12 33 3 19
noncomputable def B_63_19 : XK := X_load xkI 2 <| X_load xkI 3 <| X_callV 12 100 4 24
noncomputable def B_63_24 : XK := X_ast xt0 xkI <| X_load xkR 0 <| X_getf 12 5 <| X_push (.inl 8) <| X_load xkI 1 <| X_ibin x_imul (xg0 x_imul) <| X_push (.inl 7) <| X_ibin x_iadd xg_add <| X_load xkR 0 <| X_load xkR 0 <| X_load xkI 1 <| X_push (.inl 7) <| X_callV 12 33 3 44
noncomputable def B_63_44 : XK := X_load xkI 2 <| X_load xkI 3 <| X_callV 12 100 4 49
noncomputable def B_63_49 : XK := X_ast xt0 xkI <| X_vret
noncomputable def T_63 : Nat → Option XK := fun pc => (cond (Nat.blt pc 24) (cond (Nat.blt pc 19) (cond (Nat.beq pc 0) (some B_63_0) none) (cond (Nat.beq pc 19) (some B_63_19) none)) (cond (Nat.blt pc 44) (cond (Nat.beq pc 24) (some B_63_24) none) (cond (Nat.blt pc 49) (cond (Nat.beq pc 44) (some B_63_44) none) (cond (Nat.beq pc 49) (some B_63_49) none))))
noncomputable def B_64_0 : XK := X_load xkI 2 <| X_push (.inl 4) <| X_if2 p2_ne d_ne 10 <| X_push (.inl 24) <| X_jump 12
noncomputable def B_64_10 : XK := X_push (.inl 104) <| X_jump 12
noncomputable def B_64_12 : XK := X_push (.inl 20) <| X_load xkI 1 <| X_ibin x_imul (xg0 x_imul) <| X_ibin x_iadd xg_add <| X_store xkI 4 <| X_load xkR 0 <| X_load xkI 1 <| X_load xkI 2 <| X_callV 12 33 3 25
noncomputable def B_64_25 : XK := X_store xkI 5 <| X_load xkI 5 <| X_push (.inl 20) <| X_if2 p2_ne d_ne 70 <| X_push (.inl 1) <| X_store xkI 6 <| X_jump 37
noncomputable def B_64_37 : XK := X_load xkI 6 <| X_push (.inl 20) <| X_if2 p2_ge d_ge 66 <| X_load xkR 0 <| X_load xkI 4 <| X_load xkI 6 <| X_ibin x_iadd xg_add <| X_load xkI 4 <| X_load xkI 6 <| X_ibin x_iadd xg_add <| X_push (.inl 1) <| X_ibin x_isub xg_sub <| X_callV 12 71 3 60
noncomputable def B_64_60 : XK := X_iinc 6 1 <| X_jump 37
noncomputable def B_64_66 : XK := X_push (.inl 19) <| X_store xkI 5 <| X_jump 70
noncomputable def B_64_70 : XK := X_load xkR 0 <| X_load xkI 4 <| X_load xkI 5 <| X_ibin x_iadd xg_add <| X_load xkI 3 <| X_callV 12 65 3 80
noncomputable def B_64_80 : XK := X_load xkR 0 <| X_getf 12 5 <| X_push (.inl 8) <| X_load xkI 1 <| X_ibin x_imul (xg0 x_imul) <| X_load xkI 2 <| X_ibin x_iadd xg_add <| X_load xkI 5 <| X_push (.inl 1) <| X_ibin x_iadd xg_add <| X_ast xt0 xkI <| X_vret
noncomputable def T_64 : Nat → Option XK := fun pc => (cond (Nat.blt pc 37) (cond (Nat.blt pc 12) (cond (Nat.blt pc 10) (cond (Nat.beq pc 0) (some B_64_0) none) (cond (Nat.beq pc 10) (some B_64_10) none)) (cond (Nat.blt pc 25) (cond (Nat.beq pc 12) (some B_64_12) none) (cond (Nat.beq pc 25) (some B_64_25) none))) (cond (Nat.blt pc 66) (cond (Nat.blt pc 60) (cond (Nat.beq pc 37) (some B_64_37) none) (cond (Nat.beq pc 60) (some B_64_60) none)) (cond (Nat.blt pc 70) (cond (Nat.beq pc 66) (some B_64_66) none) (cond (Nat.blt pc 80) (cond (Nat.beq pc 70) (some B_64_70) none) (cond (Nat.beq pc 80) (some B_64_80) none)))))
noncomputable def B_65_0 : XK := X_load xkR 0 <| X_getf 12 0 <| X_load xkI 1 <| X_load xkR 0 <| X_getf 12 0 <| X_load xkI 1 <| X_ald xt3 <| X_load xkR 0 <| X_getf 12 10 <| X_load xkI 2 <| X_ald xt0 <| X_callS 99 2 20
noncomputable def B_65_20 : XK := X_aast xok <| X_push (.inl 0) <| X_store xkI 3 <| X_jump 23
noncomputable def B_65_23 : XK := X_load xkI 3 <| X_load xkR 0 <| X_getf 12 10 <| X_load xkI 2 <| X_ald xt0 <| X_if2 p2_ge d_ge 55 <| X_load xkR 0 <| X_getf 12 0 <| X_load xkI 1 <| X_ald xt3 <| X_load xkI 3 <| X_load xkR 0 <| X_getf 12 9 <| X_load xkI 2 <| X_ald xt3 <| X_load xkI 3 <| X_ald xt0 <| X_ast xt0 xkI <| X_iinc 3 1 <| X_jump 23
noncomputable def B_65_55 : XK := X_load xkR 0 <| X_getf 12 1 <| X_load xkI 1 <| X_load xkR 0 <| X_getf 12 10 <| X_load xkI 2 <| X_ald xt0 <| X_ast xt0 xkI <| X_vret
noncomputable def T_65 : Nat → Option XK := fun pc => (cond (Nat.blt pc 23) (cond (Nat.blt pc 20) (cond (Nat.beq pc 0) (some B_65_0) none) (cond (Nat.beq pc 20) (some B_65_20) none)) (cond (Nat.blt pc 55) (cond (Nat.beq pc 23) (some B_65_23) none) (cond (Nat.beq pc 55) (some B_65_55) none)))
noncomputable def B_66_0 : XK := X_load xkR 0 <| X_getf 12 10 <| X_load xkI 1 <| X_load xkR 0 <| X_getf 12 1 <| X_load xkI 2 <| X_ald xt0 <| X_ast xt0 xkI <| X_push (.inl 0) <| X_store xkI 3 <| X_jump 14
noncomputable def B_66_14 : XK := X_load xkI 3 <| X_load xkR 0 <| X_getf 12 1 <| X_load xkI 2 <| X_ald xt0 <| X_if2 p2_ge d_ge 46 <| X_load xkR 0 <| X_getf 12 9 <| X_load xkI 1 <| X_ald xt3 <| X_load xkI 3 <| X_load xkR 0 <| X_getf 12 0 <| X_load xkI 2 <| X_ald xt3 <| X_load xkI 3 <| X_ald xt0 <| X_ast xt0 xkI <| X_iinc 3 1 <| X_jump 14
noncomputable def B_66_46 : XK := X_vret
noncomputable def T_66 : Nat → Option XK := fun pc => (cond (Nat.blt pc 14) (cond (Nat.beq pc 0) (some B_66_0) none) (cond (Nat.blt pc 46) (cond (Nat.beq pc 14) (some B_66_14) none) (cond (Nat.beq pc 46) (some B_66_46) none)))
noncomputable def B_67_0 : XK := X_push (.inl 0) <| X_store xkI 4 <| X_push (.inl 0) <| X_store xkI 5 <| X_load xkR 0 <| X_getf 12 10 <| X_load xkI 3 <| X_push (.inl 0) <| X_ast xt0 xkI <| X_jump 13
noncomputable def B_67_13 : XK := X_load xkI 4 <| X_load xkR 0 <| X_getf 12 10 <| X_load xkI 1 <| X_ald xt0 <| X_if2 p2_lt d_lt 35 <| X_load xkI 5 <| X_load xkR 0 <| X_getf 12 10 <| X_load xkI 2 <| X_ald xt0 <| X_if2 p2_ge d_ge 151 <| X_jump 35
noncomputable def B_67_35 : XK := X_load xkI 4 <| X_load xkR 0 <| X_getf 12 10 <| X_load xkI 1 <| X_ald xt0 <| X_if2 p2_ge d_ge 58 <| X_load xkR 0 <| X_getf 12 9 <| X_load xkI 1 <| X_ald xt3 <| X_load xkI 4 <| X_ald xt0 <| X_jump 59
noncomputable def B_67_58 : XK := X_push (.inl 0) <| X_jump 59
noncomputable def B_67_59 : XK := X_store xkI 6 <| X_load xkI 5 <| X_load xkR 0 <| X_getf 12 10 <| X_load xkI 2 <| X_ald xt0 <| X_if2 p2_ge d_ge 84 <| X_load xkR 0 <| X_getf 12 9 <| X_load xkI 2 <| X_ald xt3 <| X_load xkI 5 <| X_ald xt0 <| X_jump 85
noncomputable def B_67_84 : XK := X_push (.inl 0) <| X_jump 85
noncomputable def B_67_85 : XK := X_store xkI 7 <| X_load xkI 6 <| X_callS 96 1 92
noncomputable def B_67_92 : XK := X_push (.inl 3145728) <| X_if2 p2_ne d_ne 110 <| X_load xkR 0 <| X_load xkI 3 <| X_load xkI 6 <| X_callV 12 60 3 104
noncomputable def B_67_104 : XK := X_iinc 4 1 <| X_jump 148
noncomputable def B_67_110 : XK := X_load xkI 7 <| X_callS 96 1 115
noncomputable def B_67_115 : XK := X_push (.inl 1048576) <| X_if2 p2_ne d_ne 133 <| X_load xkR 0 <| X_load xkI 3 <| X_load xkI 7 <| X_callV 12 60 3 127
noncomputable def B_67_127 : XK := X_iinc 5 1 <| X_jump 148
noncomputable def B_67_133 : XK := X_iinc 4 1 <| X_iinc 5 1 <| X_load xkR 0 <| X_load xkI 6 <| X_load xkI 7 <| X_load xkI 3 <| X_callV 12 101 4 148
noncomputable def B_67_148 : XK := X_jump 13
noncomputable def B_67_151 : XK := X_load xkR 0 <| X_load xkI 3 <| X_callV 12 97 2 156
noncomputable def B_67_156 : XK := X_vret
noncomputable def T_67 : Nat → Option XK := fun pc => (cond (Nat.blt pc 104) (cond (Nat.blt pc 59) (cond (Nat.blt pc 35) (cond (Nat.blt pc 13) (cond (Nat.beq pc 0) (some B_67_0) none) (cond (Nat.beq pc 13) (some B_67_13) none)) (cond (Nat.blt pc 58) (cond (Nat.beq pc 35) (some B_67_35) none) (cond (Nat.beq pc 58) (some B_67_58) none))) (cond (Nat.blt pc 85) (cond (Nat.blt pc 84) (cond (Nat.beq pc 59) (some B_67_59) none) (cond (Nat.beq pc 84) (some B_67_84) none)) (cond (Nat.blt pc 92) (cond (Nat.beq pc 85) (some B_67_85) none) (cond (Nat.beq pc 92) (some B_67_92) none)))) (cond (Nat.blt pc 133) (cond (Nat.blt pc 115) (cond (Nat.blt pc 110) (cond (Nat.beq pc 104) (some B_67_104) none) (cond (Nat.beq pc 110) (some B_67_110) none)) (cond (Nat.blt pc 127) (cond (Nat.beq pc 115) (some B_67_115) none) (cond (Nat.beq pc 127) (some B_67_127) none))) (cond (Nat.blt pc 151) (cond (Nat.blt pc 148) (cond (Nat.beq pc 133) (some B_67_133) none) (cond (Nat.beq pc 148) (some B_67_148) none)) (cond (Nat.blt pc 156) (cond (Nat.beq pc 151) (some B_67_151) none) (cond (Nat.beq pc 156) (some B_67_156) none)))))
noncomputable def B_68_0 : XK := X_load xkR 0 <| X_load xkI 2 <| X_callV 12 102 2 5
noncomputable def B_68_5 : XK := X_push (.inl 60) <| X_if2 p2_le d_le 28 <| X_load xkR 0 <| X_load xkI 2 <| X_callV 12 102 2 15
noncomputable def B_68_15 : XK := X_load xkR 0 <| X_getf 12 4 <| X_load xkI 1 <| X_ald xt0 <| X_if2 p2_le d_le 28 <| X_push (.inl 1) <| X_jump 29
noncomputable def B_68_28 : XK := X_push (.inl 0) <| X_jump 29
noncomputable def B_68_29 : XK := X_ret xk01
noncomputable def T_68 : Nat → Option XK := fun pc => (cond (Nat.blt pc 15) (cond (Nat.blt pc 5) (cond (Nat.beq pc 0) (some B_68_0) none) (cond (Nat.beq pc 5) (some B_68_5) none)) (cond (Nat.blt pc 28) (cond (Nat.beq pc 15) (some B_68_15) none) (cond (Nat.blt pc 29) (cond (Nat.beq pc 28) (some B_68_28) none) (cond (Nat.beq pc 29) (some B_68_29) none))))
noncomputable def B_69_0 : XK := X_push (.inl 0) <| X_store xkI 5 <| X_push (.inl 0) <| X_store xkI 6 <| X_load xkR 0 <| X_getf 12 10 <| X_load xkI 4 <| X_push (.inl 0) <| X_ast xt0 xkI <| X_jump 14
noncomputable def B_69_14 : XK := X_load xkI 5 <| X_load xkR 0 <| X_getf 12 10 <| X_load xkI 1 <| X_ald xt0 <| X_if2 p2_lt d_lt 36 <| X_load xkI 6 <| X_load xkR 0 <| X_getf 12 10 <| X_load xkI 2 <| X_ald xt0 <| X_if2 p2_ge d_ge 195 <| X_jump 36
noncomputable def B_69_36 : XK := X_load xkI 5 <| X_load xkR 0 <| X_getf 12 10 <| X_load xkI 1 <| X_ald xt0 <| X_if2 p2_ge d_ge 68 <| X_load xkR 0 <| X_getf 12 9 <| X_load xkI 1 <| X_ald xt3 <| X_load xkI 5 <| X_ald xt0 <| X_callS 96 1 59
noncomputable def B_69_59 : XK := X_push (.inl 1048576) <| X_if2 p2_ne d_ne 68 <| X_push (.inl 1) <| X_jump 69
noncomputable def B_69_68 : XK := X_push (.inl 0) <| X_jump 69
noncomputable def B_69_69 : XK := X_store xkI 7 <| X_load xkI 6 <| X_load xkR 0 <| X_getf 12 10 <| X_load xkI 2 <| X_ald xt0 <| X_if2 p2_ge d_ge 103 <| X_load xkR 0 <| X_getf 12 9 <| X_load xkI 2 <| X_ald xt3 <| X_load xkI 6 <| X_ald xt0 <| X_callS 96 1 94
noncomputable def B_69_94 : XK := X_push (.inl 1048576) <| X_if2 p2_ne d_ne 103 <| X_push (.inl 1) <| X_jump 104
noncomputable def B_69_103 : XK := X_push (.inl 0) <| X_jump 104
noncomputable def B_69_104 : XK := X_store xkI 8 <| X_load xkI 7 <| X_if p_eq d_eq 142 <| X_load xkI 3 <| X_push (.inl 1) <| X_if2 p2_eq d_eq 121 <| X_load xkI 8 <| X_if p_ne d_ne 142 <| X_jump 121
noncomputable def B_69_121 : XK := X_load xkR 0 <| X_load xkI 4 <| X_load xkR 0 <| X_getf 12 9 <| X_load xkI 1 <| X_ald xt3 <| X_load xkI 5 <| X_ald xt0 <| X_callV 12 60 3 136
noncomputable def B_69_136 : XK := X_iinc 5 1 <| X_jump 192
noncomputable def B_69_142 : XK := X_load xkI 8 <| X_if p_eq d_eq 161 <| X_load xkR 0 <| X_load xkI 4 <| X_push (.inl 2097152) <| X_callV 12 60 3 155
noncomputable def B_69_155 : XK := X_iinc 6 1 <| X_jump 192
noncomputable def B_69_161 : XK := X_load xkR 0 <| X_load xkR 0 <| X_getf 12 9 <| X_load xkI 1 <| X_ald xt3 <| X_load xkI 5 <| X_ald xt0 <| X_load xkR 0 <| X_getf 12 9 <| X_load xkI 2 <| X_ald xt3 <| X_load xkI 6 <| X_ald xt0 <| X_load xkI 3 <| X_load xkI 4 <| X_callV 12 103 5 186
noncomputable def B_69_186 : XK := X_iinc 5 1 <| X_iinc 6 1 <| X_jump 192
noncomputable def B_69_192 : XK := X_jump 14
noncomputable def B_69_195 : XK := X_load xkR 0 <| X_load xkI 4 <| X_callV 12 97 2 201
noncomputable def B_69_201 : XK := X_vret
noncomputable def T_69 : Nat → Option XK := fun pc => (cond (Nat.blt pc 121) (cond (Nat.blt pc 68) (cond (Nat.blt pc 36) (cond (Nat.blt pc 14) (cond (Nat.beq pc 0) (some B_69_0) none) (cond (Nat.beq pc 14) (some B_69_14) none)) (cond (Nat.blt pc 59) (cond (Nat.beq pc 36) (some B_69_36) none) (cond (Nat.beq pc 59) (some B_69_59) none))) (cond (Nat.blt pc 94) (cond (Nat.blt pc 69) (cond (Nat.beq pc 68) (some B_69_68) none) (cond (Nat.beq pc 69) (some B_69_69) none)) (cond (Nat.blt pc 103) (cond (Nat.beq pc 94) (some B_69_94) none) (cond (Nat.blt pc 104) (cond (Nat.beq pc 103) (some B_69_103) none) (cond (Nat.beq pc 104) (some B_69_104) none))))) (cond (Nat.blt pc 161) (cond (Nat.blt pc 142) (cond (Nat.blt pc 136) (cond (Nat.beq pc 121) (some B_69_121) none) (cond (Nat.beq pc 136) (some B_69_136) none)) (cond (Nat.blt pc 155) (cond (Nat.beq pc 142) (some B_69_142) none) (cond (Nat.beq pc 155) (some B_69_155) none))) (cond (Nat.blt pc 192) (cond (Nat.blt pc 186) (cond (Nat.beq pc 161) (some B_69_161) none) (cond (Nat.beq pc 186) (some B_69_186) none)) (cond (Nat.blt pc 195) (cond (Nat.beq pc 192) (some B_69_192) none) (cond (Nat.blt pc 201) (cond (Nat.beq pc 195) (some B_69_195) none) (cond (Nat.beq pc 201) (some B_69_201) none))))))
noncomputable def B_70_0 : XK := X_load xkR 0 <| X_getf 12 10 <| X_load xkI 2 <| X_load xkR 0 <| X_getf 12 10 <| X_load xkI 1 <| X_ald xt0 <| X_ast xt0 xkI <| X_push (.inl 0) <| X_store xkI 3 <| X_jump 14
noncomputable def B_70_14 : XK := X_load xkI 3 <| X_load xkR 0 <| X_getf 12 10 <| X_load xkI 1 <| X_ald xt0 <| X_if2 p2_ge d_ge 46 <| X_load xkR 0 <| X_getf 12 9 <| X_load xkI 2 <| X_ald xt3 <| X_load xkI 3 <| X_load xkR 0 <| X_getf 12 9 <| X_load xkI 1 <| X_ald xt3 <| X_load xkI 3 <| X_ald xt0 <| X_ast xt0 xkI <| X_iinc 3 1 <| X_jump 14
noncomputable def B_70_46 : XK := X_vret
noncomputable def T_70 : Nat → Option XK := fun pc => (cond (Nat.blt pc 14) (cond (Nat.beq pc 0) (some B_70_0) none) (cond (Nat.blt pc 46) (cond (Nat.beq pc 14) (some B_70_14) none) (cond (Nat.beq pc 46) (some B_70_46) none)))
noncomputable def B_71_0 : XK := X_load xkR 0 <| X_push (.inl 3) <| X_load xkI 1 <| X_callV 12 66 3 6
noncomputable def B_71_6 : XK := X_load xkR 0 <| X_load xkI 2 <| X_push (.inl 3) <| X_callV 12 65 3 12
noncomputable def B_71_12 : XK := X_vret
noncomputable def T_71 : Nat → Option XK := fun pc => (cond (Nat.blt pc 6) (cond (Nat.beq pc 0) (some B_71_0) none) (cond (Nat.blt pc 12) (cond (Nat.beq pc 6) (some B_71_6) none) (cond (Nat.beq pc 12) (some B_71_12) none)))
noncomputable def B_72_0 : XK := X_load xkR 0 <| X_push (.inl 1) <| X_load xkI 1 <| X_callV 12 66 3 6
noncomputable def B_72_6 : XK := X_load xkR 0 <| X_push (.inl 1) <| X_push (.inl 0) <| X_push (.inl 0) <| X_push (.inl 2) <| X_callV 12 69 5 14
noncomputable def B_72_14 : XK := X_load xkR 0 <| X_load xkI 1 <| X_push (.inl 2) <| X_callV 12 65 3 20
noncomputable def B_72_20 : XK := X_load xkR 0 <| X_push (.inl 0) <| X_push (.inl 1) <| X_push (.inl 1) <| X_push (.inl 2) <| X_callV 12 69 5 28
noncomputable def B_72_28 : XK := X_load xkR 0 <| X_push (.inl 2) <| X_push (.inl 0) <| X_callV 12 70 3 34
noncomputable def B_72_34 : XK := X_vret
noncomputable def T_72 : Nat → Option XK := fun pc => (cond (Nat.blt pc 20) (cond (Nat.blt pc 6) (cond (Nat.beq pc 0) (some B_72_0) none) (cond (Nat.blt pc 14) (cond (Nat.beq pc 6) (some B_72_6) none) (cond (Nat.beq pc 14) (some B_72_14) none))) (cond (Nat.blt pc 28) (cond (Nat.beq pc 20) (some B_72_20) none) (cond (Nat.blt pc 34) (cond (Nat.beq pc 28) (some B_72_28) none) (cond (Nat.beq pc 34) (some B_72_34) none))))
noncomputable def B_73_0 : XK := X_load xkR 1 <| X_getf 1 4 <| X_push (.inr (.inl 60)) <| X_lcif pL_le d_le 30 <| X_load xkR 1 <| X_getf 1 4 <| X_load xkR 0 <| X_getf 0 1 <| X_getf 1 4 <| X_lcif pL_le d_le 30 <| X_push (.inl 1) <| X_jump 31
noncomputable def B_73_30 : XK := X_push (.inl 0) <| X_jump 31
noncomputable def B_73_31 : XK := X_ret xk01
noncomputable def T_73 : Nat → Option XK := fun pc => (cond (Nat.blt pc 30) (cond (Nat.beq pc 0) (some B_73_0) none) (cond (Nat.blt pc 31) (cond (Nat.beq pc 30) (some B_73_30) none) (cond (Nat.beq pc 31) (some B_73_31) none)))
noncomputable def B_74_0 : XK := X_load xkR 0 <| X_getf 1 1 <| X_callV 7 104 1 7
noncomputable def B_74_7 : XK := X_load xkR 0 <| X_push (.inl 0) <| X_putf xk01 1 2 <| X_load xkR 0 <| X_push (.inr (.inl 0)) <| X_putf xkL 1 3 <| X_load xkR 0 <| X_push (.inr (.inl 0)) <| X_putf xkL 1 4 <| X_vret
noncomputable def T_74 : Nat → Option XK := fun pc => (cond (Nat.blt pc 7) (cond (Nat.beq pc 0) (some B_74_0) none) (cond (Nat.beq pc 7) (some B_74_7) none))
noncomputable def B_75_0 : XK := X_load xkL 4 <| X_push (.inr (.inl 1)) <| X_lcif pL_ge d_ge 8 <| X_vret
noncomputable def B_75_8 : XK := X_load xkI 1 <| X_push (.inl 5) <| X_if2 p2_ne d_ne 23 <| X_load xkI 2 <| X_load xkI 3 <| X_ibin Nat.lor xg_or <| X_if p_ne d_ne 23 <| X_push (.inl 3) <| X_jump 24
noncomputable def B_75_23 : XK := X_load xkI 1 <| X_jump 24
noncomputable def B_75_24 : XK := X_store xkI 6 <| X_load xkI 6 <| X_push (.inl 8) <| X_ibin x_ishl xg_shl <| X_load xkI 2 <| X_push (.inl 4) <| X_ibin x_ishl xg_shl <| X_ibin Nat.lor xg_or <| X_load xkI 3 <| X_ibin Nat.lor xg_or <| X_store xkI 7 <| X_load xkR 0 <| X_getf 1 1 <| X_load xkR 0 <| X_getf 1 1 <| X_getf 7 2 <| X_push (.inl 1) <| X_ibin x_isub xg_sub <| X_callV 7 105 2 55
noncomputable def B_75_55 : XK := X_lstore 8 <| X_load xkL 8 <| X_push (.inr (.inl 4095)) <| X_lbin Nat.land xgL_and <| X_load xkI 7 <| X_i2l <| X_lcif pL_ne d_ne 97 <| X_load xkR 0 <| X_getf 1 1 <| X_load xkR 0 <| X_getf 1 1 <| X_getf 7 2 <| X_push (.inl 1) <| X_ibin x_isub xg_sub <| X_load xkL 8 <| X_load xkL 4 <| X_push (.inl 12) <| X_lsh x_lshl xgL_shl <| X_lbin x_ladd xgn <| X_callV 7 106 3 94
noncomputable def B_75_94 : XK := X_jump 113
noncomputable def B_75_97 : XK := X_load xkR 0 <| X_getf 1 1 <| X_load xkI 7 <| X_i2l <| X_load xkL 4 <| X_push (.inl 12) <| X_lsh x_lshl xgL_shl <| X_lbin Nat.lor xgL_or <| X_callV 7 107 2 113
noncomputable def B_75_113 : XK := X_load xkR 0 <| X_dup <| X_getf 1 3 <| X_load xkL 4 <| X_lbin x_ladd xgn <| X_putf xkL 1 3 <| X_load xkI 1 <| X_push (.inl 4) <| X_if2 p2_eq d_eq 140 <| X_load xkR 0 <| X_dup <| X_getf 1 4 <| X_load xkL 4 <| X_lbin x_ladd xgn <| X_putf xkL 1 4 <| X_jump 140
noncomputable def B_75_140 : XK := X_vret
noncomputable def T_75 : Nat → Option XK := fun pc => (cond (Nat.blt pc 55) (cond (Nat.blt pc 23) (cond (Nat.blt pc 8) (cond (Nat.beq pc 0) (some B_75_0) none) (cond (Nat.beq pc 8) (some B_75_8) none)) (cond (Nat.blt pc 24) (cond (Nat.beq pc 23) (some B_75_23) none) (cond (Nat.beq pc 24) (some B_75_24) none))) (cond (Nat.blt pc 97) (cond (Nat.blt pc 94) (cond (Nat.beq pc 55) (some B_75_55) none) (cond (Nat.beq pc 94) (some B_75_94) none)) (cond (Nat.blt pc 113) (cond (Nat.beq pc 97) (some B_75_97) none) (cond (Nat.blt pc 140) (cond (Nat.beq pc 113) (some B_75_113) none) (cond (Nat.beq pc 140) (some B_75_140) none)))))
noncomputable def B_76_0 : XK := X_load xkR 0 <| X_getf 1 0 <| X_load xkI 1 <| X_callV 3 108 2 8
noncomputable def B_76_8 : XK := X_lstore 2 <| X_load xkL 2 <| X_push (.inr (.inl 1)) <| X_lcif pL_ge d_ge 16 <| X_vret
noncomputable def B_76_16 : XK := X_load xkR 0 <| X_push (.inl 1) <| X_putf xk01 1 2 <| X_load xkR 0 <| X_dup <| X_getf 1 4 <| X_load xkL 2 <| X_lbin x_ladd xgn <| X_putf xkL 1 4 <| X_load xkR 0 <| X_getf 1 1 <| X_getf 7 2 <| X_push (.inl 1) <| X_ibin x_isub xg_sub <| X_store xkI 4 <| X_load xkR 0 <| X_load xkI 4 <| X_callV 1 81 2 48
noncomputable def B_76_48 : XK := X_push (.inl 4) <| X_if2 p2_ne d_ne 59 <| X_load xkI 4 <| X_push (.inl 1) <| X_ibin x_isub xg_sub <| X_jump 61
noncomputable def B_76_59 : XK := X_load xkI 4 <| X_jump 61
noncomputable def B_76_61 : XK := X_store xkI 5 <| X_load xkR 0 <| X_load xkI 5 <| X_callV 1 81 2 69
noncomputable def B_76_69 : XK := X_push (.inl 1) <| X_if2 p2_ne d_ne 94 <| X_load xkR 0 <| X_load xkI 5 <| X_load xkR 0 <| X_getf 1 0 <| X_load xkR 0 <| X_load xkI 5 <| X_callV 1 80 2 86
noncomputable def B_76_86 : XK := X_load xkI 1 <| X_callV 3 109 3 90
noncomputable def B_76_90 : XK := X_callV 1 110 3 93
noncomputable def B_76_93 : XK := X_vret
noncomputable def B_76_94 : XK := X_load xkR 0 <| X_getf 1 1 <| X_load xkI 4 <| X_callV 7 105 2 103
noncomputable def B_76_103 : XK := X_lstore 6 <| X_load xkR 0 <| X_getf 1 1 <| X_load xkL 6 <| X_callV 7 107 2 114
noncomputable def B_76_114 : XK := X_load xkR 0 <| X_load xkI 5 <| X_push (.inl 1) <| X_ibin x_iadd xg_add <| X_load xkI 1 <| X_callV 1 110 3 123
noncomputable def B_76_123 : XK := X_vret
noncomputable def T_76 : Nat → Option XK := fun pc => (cond (Nat.blt pc 86) (cond (Nat.blt pc 48) (cond (Nat.blt pc 8) (cond (Nat.beq pc 0) (some B_76_0) none) (cond (Nat.blt pc 16) (cond (Nat.beq pc 8) (some B_76_8) none) (cond (Nat.beq pc 16) (some B_76_16) none))) (cond (Nat.blt pc 61) (cond (Nat.blt pc 59) (cond (Nat.beq pc 48) (some B_76_48) none) (cond (Nat.beq pc 59) (some B_76_59) none)) (cond (Nat.blt pc 69) (cond (Nat.beq pc 61) (some B_76_61) none) (cond (Nat.beq pc 69) (some B_76_69) none)))) (cond (Nat.blt pc 94) (cond (Nat.blt pc 90) (cond (Nat.beq pc 86) (some B_76_86) none) (cond (Nat.blt pc 93) (cond (Nat.beq pc 90) (some B_76_90) none) (cond (Nat.beq pc 93) (some B_76_93) none))) (cond (Nat.blt pc 114) (cond (Nat.blt pc 103) (cond (Nat.beq pc 94) (some B_76_94) none) (cond (Nat.beq pc 103) (some B_76_103) none)) (cond (Nat.blt pc 123) (cond (Nat.beq pc 114) (some B_76_114) none) (cond (Nat.beq pc 123) (some B_76_123) none)))))
noncomputable def B_77_0 : XK := X_push (.inl 1) <| X_store xkI 1 <| X_jump 2
noncomputable def B_77_2 : XK := X_load xkI 1 <| X_load xkR 0 <| X_getf 2 0 <| X_alen <| X_if2 p2_ge d_ge 47 <| X_load xkR 0 <| X_getf 2 0 <| X_load xkI 1 <| X_push (.inl 1) <| X_ibin x_isub xg_sub <| X_ald xt3 <| X_store xkR 2 <| X_load xkR 0 <| X_getf 2 0 <| X_load xkI 1 <| X_push (.inl 1) <| X_ibin x_isub xg_sub <| X_load xkR 0 <| X_getf 2 0 <| X_load xkI 1 <| X_ald xt3 <| X_aast xok <| X_load xkR 0 <| X_getf 2 0 <| X_load xkI 1 <| X_load xkR 2 <| X_aast xok <| X_iinc 1 1 <| X_jump 2
noncomputable def B_77_47 : XK := X_vret
noncomputable def T_77 : Nat → Option XK := fun pc => (cond (Nat.blt pc 2) (cond (Nat.beq pc 0) (some B_77_0) none) (cond (Nat.blt pc 47) (cond (Nat.beq pc 2) (some B_77_2) none) (cond (Nat.beq pc 47) (some B_77_47) none)))
noncomputable def B_78_0 : XK := X_load xkR 0 <| X_getf 1 1 <| X_getf 7 2 <| X_ret xkI
noncomputable def T_78 : Nat → Option XK := fun pc => (cond (Nat.beq pc 0) (some B_78_0) none)
noncomputable def B_79_0 : XK := X_load xkR 0 <| X_getf 3 13 <| X_load xkR 0 <| X_getf 3 14 <| X_if2 p2_ge d_ge 12 <| X_vret
noncomputable def B_79_12 : XK := X_load xkR 0 <| X_getf 3 9 <| X_push (.inl 0) <| X_callS 111 2 20
noncomputable def B_79_20 : XK := X_push (.inl 0) <| X_store xkI 1 <| X_jump 22
noncomputable def B_79_22 : XK := X_load xkI 1 <| X_load xkR 0 <| X_getf 3 0 <| X_callV 13 112 1 30
noncomputable def B_79_30 : XK := X_if2 p2_ge d_ge 54 <| X_load xkR 0 <| X_load xkR 0 <| X_getf 3 0 <| X_load xkI 1 <| X_callV 13 113 2 42
noncomputable def B_79_42 : XK := X_cast 1 <| X_callV 3 114 2 48
noncomputable def B_79_48 : XK := X_iinc 1 1 <| X_jump 22
noncomputable def B_79_54 : XK := X_load xkR 0 <| X_getf 3 13 <| X_push (.inl 1) <| X_ibin x_isub xg_sub <| X_store xkI 1 <| X_jump 61
noncomputable def B_79_61 : XK := X_load xkI 1 <| X_push (.inl 512) <| X_if2 p2_lt d_lt 110 <| X_load xkR 0 <| X_getf 3 9 <| X_load xkI 1 <| X_ald xt0 <| X_if p_ne d_ne 80 <| X_jump 104
noncomputable def B_79_80 : XK := X_load xkR 0 <| X_getf 3 9 <| X_load xkR 0 <| X_getf 3 3 <| X_load xkI 1 <| X_ald xt0 <| X_push (.inl 1) <| X_ast xt0 xkI <| X_load xkR 0 <| X_getf 3 9 <| X_load xkR 0 <| X_getf 3 4 <| X_load xkI 1 <| X_ald xt0 <| X_push (.inl 1) <| X_ast xt0 xkI <| X_jump 104
noncomputable def B_79_104 : XK := X_iinc 1 4294967295 <| X_jump 61
noncomputable def B_79_110 : XK := X_load xkR 0 <| X_callV 3 115 1 114
noncomputable def B_79_114 : XK := X_load xkR 0 <| X_getf 3 10 <| X_push (.inl 0) <| X_callS 111 2 122
noncomputable def B_79_122 : XK := X_load xkR 0 <| X_callV 3 116 1 126
noncomputable def B_79_126 : XK := X_push (.inl 0) <| X_store xkI 1 <| X_jump 128
noncomputable def B_79_128 : XK := X_load xkI 1 <| X_load xkR 0 <| X_getf 3 0 <| X_callV 13 112 1 136
noncomputable def B_79_136 : XK := X_if2 p2_ge d_ge 160 <| X_load xkR 0 <| X_load xkR 0 <| X_getf 3 0 <| X_load xkI 1 <| X_callV 13 113 2 148
noncomputable def B_79_148 : XK := X_cast 1 <| X_callV 3 117 2 154
noncomputable def B_79_154 : XK := X_iinc 1 1 <| X_jump 128
noncomputable def B_79_160 : XK := X_load xkR 0 <| X_load xkR 0 <| X_getf 3 13 <| X_load xkR 0 <| X_getf 3 13 <| X_push (.inl 512) <| X_max <| X_jump 175
noncomputable def B_79_175 : XK := X_push (.inl 65536) <| X_min <| X_jump 180
noncomputable def B_79_180 : XK := X_ibin x_iadd xg_add <| X_putf xkI 3 14 <| X_vret
noncomputable def T_79 : Nat → Option XK := fun pc => (cond (Nat.blt pc 110) (cond (Nat.blt pc 42) (cond (Nat.blt pc 20) (cond (Nat.blt pc 12) (cond (Nat.beq pc 0) (some B_79_0) none) (cond (Nat.beq pc 12) (some B_79_12) none)) (cond (Nat.blt pc 22) (cond (Nat.beq pc 20) (some B_79_20) none) (cond (Nat.blt pc 30) (cond (Nat.beq pc 22) (some B_79_22) none) (cond (Nat.beq pc 30) (some B_79_30) none)))) (cond (Nat.blt pc 61) (cond (Nat.blt pc 48) (cond (Nat.beq pc 42) (some B_79_42) none) (cond (Nat.blt pc 54) (cond (Nat.beq pc 48) (some B_79_48) none) (cond (Nat.beq pc 54) (some B_79_54) none))) (cond (Nat.blt pc 80) (cond (Nat.beq pc 61) (some B_79_61) none) (cond (Nat.blt pc 104) (cond (Nat.beq pc 80) (some B_79_80) none) (cond (Nat.beq pc 104) (some B_79_104) none))))) (cond (Nat.blt pc 136) (cond (Nat.blt pc 122) (cond (Nat.blt pc 114) (cond (Nat.beq pc 110) (some B_79_110) none) (cond (Nat.beq pc 114) (some B_79_114) none)) (cond (Nat.blt pc 126) (cond (Nat.beq pc 122) (some B_79_122) none) (cond (Nat.blt pc 128) (cond (Nat.beq pc 126) (some B_79_126) none) (cond (Nat.beq pc 128) (some B_79_128) none)))) (cond (Nat.blt pc 160) (cond (Nat.blt pc 148) (cond (Nat.beq pc 136) (some B_79_136) none) (cond (Nat.blt pc 154) (cond (Nat.beq pc 148) (some B_79_148) none) (cond (Nat.beq pc 154) (some B_79_154) none))) (cond (Nat.blt pc 175) (cond (Nat.beq pc 160) (some B_79_160) none) (cond (Nat.blt pc 180) (cond (Nat.beq pc 175) (some B_79_175) none) (cond (Nat.beq pc 180) (some B_79_180) none))))))
noncomputable def B_80_0 : XK := X_load xkR 0 <| X_getf 1 1 <| X_load xkI 1 <| X_callV 7 105 2 8
noncomputable def B_80_8 : XK := X_lstore 2 <| X_load xkL 2 <| X_push (.inl 8) <| X_lsh x_lshr xgL_shr <| X_push (.inr (.inl 15)) <| X_lbin Nat.land xgL_and <| X_push (.inr (.inl 1)) <| X_lcif pL_ne d_ne 26 <| X_push (.inl 1) <| X_jump 27
noncomputable def B_80_26 : XK := X_push (.inl 0) <| X_jump 27
noncomputable def B_80_27 : XK := X_store xkI 4 <| X_load xkI 4 <| X_if p_eq d_eq 42 <| X_load xkL 2 <| X_push (.inl 12) <| X_lsh x_lshr xgL_shr <| X_l2i <| X_jump 43
noncomputable def B_80_42 : XK := X_push (.inl 4294967295) <| X_jump 43
noncomputable def B_80_43 : XK := X_ret xkI
noncomputable def T_80 : Nat → Option XK := fun pc => (cond (Nat.blt pc 27) (cond (Nat.blt pc 8) (cond (Nat.beq pc 0) (some B_80_0) none) (cond (Nat.blt pc 26) (cond (Nat.beq pc 8) (some B_80_8) none) (cond (Nat.beq pc 26) (some B_80_26) none))) (cond (Nat.blt pc 42) (cond (Nat.beq pc 27) (some B_80_27) none) (cond (Nat.blt pc 43) (cond (Nat.beq pc 42) (some B_80_42) none) (cond (Nat.beq pc 43) (some B_80_43) none))))
noncomputable def B_81_0 : XK := X_load xkR 0 <| X_getf 1 1 <| X_load xkI 1 <| X_callV 7 105 2 8
noncomputable def B_81_8 : XK := X_push (.inl 8) <| X_lsh x_lshr xgL_shr <| X_l2i <| X_push (.inl 15) <| X_ibin Nat.land xg_and <| X_ret xkI
noncomputable def T_81 : Nat → Option XK := fun pc => (cond (Nat.blt pc 8) (cond (Nat.beq pc 0) (some B_81_0) none) (cond (Nat.beq pc 8) (some B_81_8) none))
noncomputable def B_82_0 : XK := X_load xkR 0 <| X_load xkI 1 <| X_callV 1 81 2 5
noncomputable def B_82_5 : XK := X_push (.inl 1) <| X_if2 p2_ne d_ne 24 <| X_load xkR 0 <| X_getf 1 0 <| X_load xkR 0 <| X_load xkI 1 <| X_callV 1 80 2 18
noncomputable def B_82_18 : XK := X_callV 3 108 2 21
noncomputable def B_82_21 : XK := X_jump 35
noncomputable def B_82_24 : XK := X_load xkR 0 <| X_getf 1 1 <| X_load xkI 1 <| X_callV 7 105 2 32
noncomputable def B_82_32 : XK := X_push (.inl 12) <| X_lsh x_lshr xgL_shr <| X_jump 35
noncomputable def B_82_35 : XK := X_ret xkL
noncomputable def T_82 : Nat → Option XK := fun pc => (cond (Nat.blt pc 21) (cond (Nat.blt pc 5) (cond (Nat.beq pc 0) (some B_82_0) none) (cond (Nat.blt pc 18) (cond (Nat.beq pc 5) (some B_82_5) none) (cond (Nat.beq pc 18) (some B_82_18) none))) (cond (Nat.blt pc 32) (cond (Nat.blt pc 24) (cond (Nat.beq pc 21) (some B_82_21) none) (cond (Nat.beq pc 24) (some B_82_24) none)) (cond (Nat.blt pc 35) (cond (Nat.beq pc 32) (some B_82_32) none) (cond (Nat.beq pc 35) (some B_82_35) none))))
noncomputable def B_83_0 : XK := X_load xkR 0 <| X_load xkI 1 <| X_callV 3 118 2 5
noncomputable def B_83_5 : XK := X_if p_eq d_eq 26 <| X_load xkL 2 <| X_push (.inr (.inl 0)) <| X_lcif pL_ne d_ne 28 <| X_load xkL 4 <| X_load xkR 0 <| X_getf 3 5 <| X_load xkI 1 <| X_ald xt1 <| X_lcif pL_ne d_ne 28 <| X_jump 26
noncomputable def B_83_26 : XK := X_load xkI 1 <| X_ret xkI
noncomputable def B_83_28 : XK := X_push (.inl 4294967295) <| X_store xkI 6 <| X_push (.inl 0) <| X_store xkI 7 <| X_load xkR 0 <| X_getf 3 2 <| X_load xkI 7 <| X_iinc 7 1 <| X_load xkI 1 <| X_ast xt0 xkI <| X_push (.inr (.inl 0)) <| X_lstore 8 <| X_push (.inl 0) <| X_store xkI 10 <| X_jump 51
noncomputable def B_83_51 : XK := X_load xkI 10 <| X_push (.inl 512) <| X_if2 p2_ge d_ge 214 <| X_load xkI 7 <| X_if p_le d_le 214 <| X_load xkR 0 <| X_getf 3 2 <| X_iinc 7 4294967295 <| X_load xkI 7 <| X_ald xt0 <| X_store xkI 11 <| X_load xkL 8 <| X_load xkR 0 <| X_load xkI 11 <| X_callV 3 108 2 84
noncomputable def B_83_84 : XK := X_lbin x_ladd xgn <| X_lstore 12 <| X_load xkL 12 <| X_load xkL 2 <| X_lcif pL_le d_le 104 <| X_load xkL 8 <| X_load xkL 2 <| X_load xkL 4 <| X_lbin x_ladd xgn <| X_lcif pL_lt d_lt 108 <| X_jump 104
noncomputable def B_83_104 : XK := X_push (.inl 1) <| X_jump 109
noncomputable def B_83_108 : XK := X_push (.inl 0) <| X_jump 109
noncomputable def B_83_109 : XK := X_store xkI 14 <| X_load xkI 14 <| X_if p_ne d_ne 133 <| X_load xkL 8 <| X_load xkL 2 <| X_lcif pL_lt d_lt 155 <| X_load xkL 12 <| X_load xkL 2 <| X_load xkL 4 <| X_lbin x_ladd xgn <| X_lcif pL_gt d_gt 155 <| X_jump 133
noncomputable def B_83_133 : XK := X_load xkI 14 <| X_if p_ne d_ne 148 <| X_load xkR 0 <| X_load xkI 6 <| X_load xkI 11 <| X_callV 3 109 3 146
noncomputable def B_83_146 : XK := X_store xkI 6 <| X_jump 148
noncomputable def B_83_148 : XK := X_load xkL 12 <| X_lstore 8 <| X_jump 208
noncomputable def B_83_155 : XK := X_load xkR 0 <| X_load xkI 11 <| X_callV 3 119 2 161
noncomputable def B_83_161 : XK := X_if p_eq d_eq 208 <| X_load xkI 7 <| X_push (.inl 1) <| X_ibin x_iadd xg_add <| X_push (.inl 128) <| X_if2 p2_ge d_ge 208 <| X_load xkR 0 <| X_getf 3 2 <| X_load xkI 7 <| X_iinc 7 1 <| X_load xkR 0 <| X_getf 3 4 <| X_load xkI 11 <| X_ald xt0 <| X_ast xt0 xkI <| X_load xkR 0 <| X_getf 3 2 <| X_load xkI 7 <| X_iinc 7 1 <| X_load xkR 0 <| X_getf 3 3 <| X_load xkI 11 <| X_ald xt0 <| X_ast xt0 xkI <| X_jump 208
noncomputable def B_83_208 : XK := X_iinc 10 1 <| X_jump 51
noncomputable def B_83_214 : XK := X_load xkI 6 <| X_ret xkI
noncomputable def T_83 : Nat → Option XK := fun pc => (cond (Nat.blt pc 109) (cond (Nat.blt pc 51) (cond (Nat.blt pc 26) (cond (Nat.blt pc 5) (cond (Nat.beq pc 0) (some B_83_0) none) (cond (Nat.beq pc 5) (some B_83_5) none)) (cond (Nat.blt pc 28) (cond (Nat.beq pc 26) (some B_83_26) none) (cond (Nat.beq pc 28) (some B_83_28) none))) (cond (Nat.blt pc 104) (cond (Nat.blt pc 84) (cond (Nat.beq pc 51) (some B_83_51) none) (cond (Nat.beq pc 84) (some B_83_84) none)) (cond (Nat.blt pc 108) (cond (Nat.beq pc 104) (some B_83_104) none) (cond (Nat.beq pc 108) (some B_83_108) none)))) (cond (Nat.blt pc 155) (cond (Nat.blt pc 146) (cond (Nat.blt pc 133) (cond (Nat.beq pc 109) (some B_83_109) none) (cond (Nat.beq pc 133) (some B_83_133) none)) (cond (Nat.blt pc 148) (cond (Nat.beq pc 146) (some B_83_146) none) (cond (Nat.beq pc 148) (some B_83_148) none))) (cond (Nat.blt pc 208) (cond (Nat.blt pc 161) (cond (Nat.beq pc 155) (some B_83_155) none) (cond (Nat.beq pc 161) (some B_83_161) none)) (cond (Nat.blt pc 214) (cond (Nat.beq pc 208) (some B_83_208) none) (cond (Nat.beq pc 214) (some B_83_214) none)))))
noncomputable def B_84_0 : XK := X_load xkR 0 <| X_getf 1 1 <| X_load xkI 1 <| X_callV 7 105 2 8
noncomputable def B_84_8 : XK := X_push (.inl 4) <| X_lsh x_lshr xgL_shr <| X_l2i <| X_push (.inl 15) <| X_ibin Nat.land xg_and <| X_ret xkI
noncomputable def T_84 : Nat → Option XK := fun pc => (cond (Nat.blt pc 8) (cond (Nat.beq pc 0) (some B_84_0) none) (cond (Nat.beq pc 8) (some B_84_8) none))
noncomputable def B_85_0 : XK := X_load xkR 0 <| X_getf 1 1 <| X_load xkI 1 <| X_callV 7 105 2 8
noncomputable def B_85_8 : XK := X_l2i <| X_push (.inl 15) <| X_ibin Nat.land xg_and <| X_ret xkI
noncomputable def T_85 : Nat → Option XK := fun pc => (cond (Nat.blt pc 8) (cond (Nat.beq pc 0) (some B_85_0) none) (cond (Nat.beq pc 8) (some B_85_8) none))
noncomputable def B_86_0 : XK := X_push (.inr (.inl 0)) <| X_lstore 9 <| X_push (.inl 0) <| X_store xkI 11 <| X_jump 6
noncomputable def B_86_6 : XK := X_load xkI 11 <| X_push (.inl 8388608) <| X_if2 p2_ge d_ge 90 <| X_load xkL 9 <| X_load xkL 4 <| X_lcif pL_ge d_ge 90 <| X_load xkR 0 <| X_getf 4 0 <| X_load xkI 1 <| X_load xkL 2 <| X_load xkL 9 <| X_lbin x_ladd xgn <| X_callV 3 120 3 33
noncomputable def B_86_33 : XK := X_lstore 12 <| X_load xkL 12 <| X_l2i <| X_push (.inl 15) <| X_ibin Nat.land xg_and <| X_store xkI 14 <| X_load xkL 12 <| X_push (.inl 4) <| X_lsh x_lshr xgL_shr <| X_load xkL 4 <| X_load xkL 9 <| X_lbin x_lsub xgn <| X_lmin <| X_jump 55
noncomputable def B_86_55 : XK := X_lstore 15 <| X_load xkR 8 <| X_push (.inl 5) <| X_load xkI 7 <| X_load xkI 14 <| X_ibin Nat.land xg_and <| X_load xkI 6 <| X_load xkI 14 <| X_push (.inl 4294967295) <| X_ibin Nat.xor (xg0 Nat.xor) <| X_ibin Nat.land xg_and <| X_load xkL 15 <| X_callV 1 75 5 77
noncomputable def B_86_77 : XK := X_load xkL 9 <| X_load xkL 15 <| X_lbin x_ladd xgn <| X_lstore 9 <| X_iinc 11 1 <| X_jump 6
noncomputable def B_86_90 : XK := X_load xkR 8 <| X_push (.inl 3) <| X_push (.inl 0) <| X_push (.inl 0) <| X_load xkL 4 <| X_load xkL 9 <| X_lbin x_lsub xgn <| X_callV 1 75 5 103
noncomputable def B_86_103 : XK := X_vret
noncomputable def T_86 : Nat → Option XK := fun pc => (cond (Nat.blt pc 55) (cond (Nat.blt pc 6) (cond (Nat.beq pc 0) (some B_86_0) none) (cond (Nat.blt pc 33) (cond (Nat.beq pc 6) (some B_86_6) none) (cond (Nat.beq pc 33) (some B_86_33) none))) (cond (Nat.blt pc 90) (cond (Nat.blt pc 77) (cond (Nat.beq pc 55) (some B_86_55) none) (cond (Nat.beq pc 77) (some B_86_77) none)) (cond (Nat.blt pc 103) (cond (Nat.beq pc 90) (some B_86_90) none) (cond (Nat.beq pc 103) (some B_86_103) none))))
noncomputable def B_87_0 : XK := X_load xkL 1 <| X_lstore 4 <| X_push (.inr (.inl 0)) <| X_lstore 6 <| X_push (.inl 0) <| X_store xkI 8 <| X_jump 9
noncomputable def B_87_9 : XK := X_load xkI 8 <| X_load xkR 0 <| X_getf 1 1 <| X_getf 7 2 <| X_if2 p2_ge d_ge 111 <| X_load xkR 0 <| X_load xkI 8 <| X_callV 1 82 2 27
noncomputable def B_87_27 : XK := X_lstore 9 <| X_load xkR 0 <| X_load xkI 8 <| X_callV 1 81 2 35
noncomputable def B_87_35 : XK := X_store xkI 11 <| X_load xkI 11 <| X_push (.inl 1) <| X_if2 p2_ne d_ne 71 <| X_load xkL 6 <| X_load xkL 1 <| X_lcif pL_lt d_lt 61 <| X_load xkI 3 <| X_if p_eq d_eq 105 <| X_load xkL 6 <| X_load xkL 1 <| X_lcif pL_ne d_ne 105 <| X_jump 61
noncomputable def B_87_61 : XK := X_load xkL 4 <| X_load xkL 9 <| X_lbin x_ladd xgn <| X_lstore 4 <| X_jump 105
noncomputable def B_87_71 : XK := X_load xkI 11 <| X_push (.inl 4) <| X_if2 p2_ne d_ne 98 <| X_load xkL 6 <| X_load xkL 1 <| X_lcif pL_ge d_ge 98 <| X_load xkL 4 <| X_load xkL 9 <| X_load xkL 1 <| X_load xkL 6 <| X_lbin x_lsub xgn <| X_lmin <| X_jump 95
noncomputable def B_87_95 : XK := X_lbin x_lsub xgn <| X_lstore 4 <| X_jump 98
noncomputable def B_87_98 : XK := X_load xkL 6 <| X_load xkL 9 <| X_lbin x_ladd xgn <| X_lstore 6 <| X_jump 105
noncomputable def B_87_105 : XK := X_iinc 8 1 <| X_jump 9
noncomputable def B_87_111 : XK := X_load xkL 4 <| X_ret xkL
noncomputable def T_87 : Nat → Option XK := fun pc => (cond (Nat.blt pc 71) (cond (Nat.blt pc 27) (cond (Nat.blt pc 9) (cond (Nat.beq pc 0) (some B_87_0) none) (cond (Nat.beq pc 9) (some B_87_9) none)) (cond (Nat.blt pc 35) (cond (Nat.beq pc 27) (some B_87_27) none) (cond (Nat.blt pc 61) (cond (Nat.beq pc 35) (some B_87_35) none) (cond (Nat.beq pc 61) (some B_87_61) none)))) (cond (Nat.blt pc 98) (cond (Nat.blt pc 95) (cond (Nat.beq pc 71) (some B_87_71) none) (cond (Nat.beq pc 95) (some B_87_95) none)) (cond (Nat.blt pc 105) (cond (Nat.beq pc 98) (some B_87_98) none) (cond (Nat.blt pc 111) (cond (Nat.beq pc 105) (some B_87_105) none) (cond (Nat.beq pc 111) (some B_87_111) none)))))
noncomputable def B_88_0 : XK := X_load xkR 1 <| X_getf 7 2 <| X_push (.inl 2) <| X_load xkR 0 <| X_getf 7 1 <| X_alen <| X_ibin x_imul (xg0 x_imul) <| X_max <| X_jump 14
noncomputable def B_88_14 : XK := X_store xkI 2 <| X_load xkR 1 <| X_getf 7 2 <| X_load xkR 0 <| X_getf 7 1 <| X_alen <| X_if2 p2_le d_le 51 <| X_load xkR 0 <| X_getf 7 0 <| X_load xkI 2 <| X_load xkR 0 <| X_getf 7 1 <| X_alen <| X_ibin x_isub xg_sub <| X_callV 3 121 2 41
noncomputable def B_88_41 : XK := X_if p_eq d_eq 51 <| X_load xkR 0 <| X_load xkI 2 <| X_newa 1 <| X_putf xkR 7 1 <| X_jump 51
noncomputable def B_88_51 : XK := X_load xkR 0 <| X_load xkR 1 <| X_getf 7 2 <| X_load xkR 0 <| X_getf 7 1 <| X_alen <| X_min <| X_jump 64
noncomputable def B_88_64 : XK := X_putf xkI 7 2 <| X_load xkR 1 <| X_getf 7 1 <| X_push (.inl 0) <| X_load xkR 0 <| X_getf 7 1 <| X_push (.inl 0) <| X_load xkR 0 <| X_getf 7 2 <| X_acopy xok <| X_jump 84
noncomputable def B_88_84 : XK := X_vret
noncomputable def T_88 : Nat → Option XK := fun pc => (cond (Nat.blt pc 51) (cond (Nat.blt pc 14) (cond (Nat.beq pc 0) (some B_88_0) none) (cond (Nat.blt pc 41) (cond (Nat.beq pc 14) (some B_88_14) none) (cond (Nat.beq pc 41) (some B_88_41) none))) (cond (Nat.blt pc 64) (cond (Nat.beq pc 51) (some B_88_51) none) (cond (Nat.blt pc 84) (cond (Nat.beq pc 64) (some B_88_64) none) (cond (Nat.beq pc 84) (some B_88_84) none))))
noncomputable def B_89_0 : XK := X_load xkR 0 <| X_load xkR 1 <| X_putf xkR 10 0 <| X_load xkR 0 <| X_push (.inl 4294967295) <| X_putf xkI 10 1 <| X_load xkR 0 <| X_callV 10 122 1 14
noncomputable def B_89_14 : XK := X_vret
noncomputable def T_89 : Nat → Option XK := fun pc => (cond (Nat.blt pc 14) (cond (Nat.beq pc 0) (some B_89_0) none) (cond (Nat.beq pc 14) (some B_89_14) none))
noncomputable def B_90_0 : XK := X_load xkR 0 <| X_getf 10 0 <| X_ifr p_ne 11 <| X_push (.inl 4294967295) <| X_jump 22
noncomputable def B_90_11 : XK := X_load xkR 0 <| X_getf 10 0 <| X_load xkR 0 <| X_getf 10 1 <| X_callV 1 80 2 22
noncomputable def B_90_22 : XK := X_ret xkI
noncomputable def T_90 : Nat → Option XK := fun pc => (cond (Nat.blt pc 11) (cond (Nat.beq pc 0) (some B_90_0) none) (cond (Nat.blt pc 22) (cond (Nat.beq pc 11) (some B_90_11) none) (cond (Nat.beq pc 22) (some B_90_22) none)))
noncomputable def B_91_0 : XK := X_load xkR 0 <| X_dup <| X_getf 10 3 <| X_load xkL 1 <| X_lbin x_ladd xgn <| X_putf xkL 10 3 <| X_load xkR 0 <| X_dup <| X_getf 10 4 <| X_load xkL 1 <| X_lbin x_lsub xgn <| X_putf xkL 10 4 <| X_load xkR 0 <| X_getf 10 4 <| X_push (.inr (.inl 0)) <| X_lcif pL_gt d_gt 33 <| X_load xkR 0 <| X_callV 10 122 1 33
noncomputable def B_91_33 : XK := X_vret
noncomputable def T_91 : Nat → Option XK := fun pc => (cond (Nat.blt pc 33) (cond (Nat.beq pc 0) (some B_91_0) none) (cond (Nat.beq pc 33) (some B_91_33) none))
noncomputable def B_92_0 : XK := X_load xkR 1 <| X_getf 7 1 <| X_alen <| X_push (.inl 8) <| X_load xkR 1 <| X_getf 7 2 <| X_ibin x_imul (xg0 x_imul) <| X_push (.inl 64) <| X_ibin x_iadd xg_add <| X_if2 p2_le d_le 24 <| X_load xkR 0 <| X_load xkR 1 <| X_callV 7 88 2 23
noncomputable def B_92_23 : XK := X_vret
noncomputable def B_92_24 : XK := X_load xkR 1 <| X_getf 7 1 <| X_store xkR 2 <| X_load xkR 1 <| X_getf 7 2 <| X_store xkI 3 <| X_load xkR 1 <| X_load xkR 0 <| X_getf 7 1 <| X_putf xkR 7 1 <| X_load xkR 1 <| X_load xkR 0 <| X_getf 7 2 <| X_putf xkI 7 2 <| X_load xkR 0 <| X_load xkR 2 <| X_putf xkR 7 1 <| X_load xkR 0 <| X_load xkI 3 <| X_putf xkI 7 2 <| X_vret
noncomputable def T_92 : Nat → Option XK := fun pc => (cond (Nat.blt pc 23) (cond (Nat.beq pc 0) (some B_92_0) none) (cond (Nat.blt pc 24) (cond (Nat.beq pc 23) (some B_92_23) none) (cond (Nat.beq pc 24) (some B_92_24) none)))
noncomputable def B_93_0 : XK := X_load xkR 0 <| X_load xkI 1 <| X_callV 3 118 2 5
noncomputable def B_93_5 : XK := X_if p_eq d_eq 14 <| X_load xkI 2 <| X_load xkI 3 <| X_ibin Nat.lor xg_or <| X_if p_ne d_ne 16 <| X_jump 14
noncomputable def B_93_14 : XK := X_load xkI 1 <| X_ret xkI
noncomputable def B_93_16 : XK := X_load xkR 0 <| X_dup <| X_getf 3 12 <| X_push (.inl 1) <| X_ibin x_iadd xg_add <| X_putf xkI 3 12 <| X_push (.inl 0) <| X_store xkI 4 <| X_load xkR 0 <| X_getf 3 2 <| X_load xkI 4 <| X_iinc 4 1 <| X_load xkI 1 <| X_ast xt0 xkI <| X_push (.inl 4) <| X_load xkR 0 <| X_getf 3 13 <| X_ibin x_imul (xg0 x_imul) <| X_store xkI 5 <| X_push (.inl 0) <| X_store xkI 6 <| X_jump 51
noncomputable def B_93_51 : XK := X_load xkI 6 <| X_load xkI 5 <| X_if2 p2_ge d_ge 238 <| X_load xkI 4 <| X_if p_le d_le 238 <| X_load xkR 0 <| X_getf 3 2 <| X_load xkI 4 <| X_push (.inl 1) <| X_ibin x_isub xg_sub <| X_ald xt0 <| X_store xkI 7 <| X_load xkR 0 <| X_load xkI 7 <| X_load xkI 2 <| X_load xkI 3 <| X_callV 3 123 4 82
noncomputable def B_93_82 : XK := X_if p_eq d_eq 91 <| X_iinc 4 4294967295 <| X_jump 232
noncomputable def B_93_91 : XK := X_load xkR 0 <| X_load xkR 0 <| X_getf 3 3 <| X_load xkI 7 <| X_ald xt0 <| X_load xkI 2 <| X_load xkI 3 <| X_callV 3 123 4 104
noncomputable def B_93_104 : XK := X_if p_ne d_ne 135 <| X_load xkI 4 <| X_push (.inl 128) <| X_if2 p2_ge d_ge 135 <| X_load xkR 0 <| X_getf 3 2 <| X_load xkI 4 <| X_iinc 4 1 <| X_load xkR 0 <| X_getf 3 3 <| X_load xkI 7 <| X_ald xt0 <| X_ast xt0 xkI <| X_jump 232
noncomputable def B_93_135 : XK := X_load xkR 0 <| X_load xkR 0 <| X_getf 3 4 <| X_load xkI 7 <| X_ald xt0 <| X_load xkI 2 <| X_load xkI 3 <| X_callV 3 123 4 148
noncomputable def B_93_148 : XK := X_if p_ne d_ne 179 <| X_load xkI 4 <| X_push (.inl 128) <| X_if2 p2_ge d_ge 179 <| X_load xkR 0 <| X_getf 3 2 <| X_load xkI 4 <| X_iinc 4 1 <| X_load xkR 0 <| X_getf 3 4 <| X_load xkI 7 <| X_ald xt0 <| X_ast xt0 xkI <| X_jump 232
noncomputable def B_93_179 : XK := X_load xkR 0 <| X_callV 3 124 1 183
noncomputable def B_93_183 : XK := X_load xkR 0 <| X_getf 3 9 <| X_load xkI 7 <| X_load xkR 0 <| X_load xkR 0 <| X_getf 3 9 <| X_load xkR 0 <| X_getf 3 3 <| X_load xkI 7 <| X_ald xt0 <| X_ald xt0 <| X_load xkR 0 <| X_getf 3 9 <| X_load xkR 0 <| X_getf 3 4 <| X_load xkI 7 <| X_ald xt0 <| X_ald xt0 <| X_callV 3 125 3 217
noncomputable def B_93_217 : XK := X_ast xt0 xkI <| X_load xkR 0 <| X_getf 3 8 <| X_load xkI 7 <| X_load xkR 0 <| X_getf 3 12 <| X_ast xt0 xkI <| X_iinc 4 4294967295 <| X_jump 232
noncomputable def B_93_232 : XK := X_iinc 6 1 <| X_jump 51
noncomputable def B_93_238 : XK := X_load xkR 0 <| X_getf 3 9 <| X_load xkI 1 <| X_ald xt0 <| X_ret xkI
noncomputable def T_93 : Nat → Option XK := fun pc => (cond (Nat.blt pc 104) (cond (Nat.blt pc 16) (cond (Nat.blt pc 5) (cond (Nat.beq pc 0) (some B_93_0) none) (cond (Nat.blt pc 14) (cond (Nat.beq pc 5) (some B_93_5) none) (cond (Nat.beq pc 14) (some B_93_14) none))) (cond (Nat.blt pc 82) (cond (Nat.blt pc 51) (cond (Nat.beq pc 16) (some B_93_16) none) (cond (Nat.beq pc 51) (some B_93_51) none)) (cond (Nat.blt pc 91) (cond (Nat.beq pc 82) (some B_93_82) none) (cond (Nat.beq pc 91) (some B_93_91) none)))) (cond (Nat.blt pc 183) (cond (Nat.blt pc 148) (cond (Nat.blt pc 135) (cond (Nat.beq pc 104) (some B_93_104) none) (cond (Nat.beq pc 135) (some B_93_135) none)) (cond (Nat.blt pc 179) (cond (Nat.beq pc 148) (some B_93_148) none) (cond (Nat.beq pc 179) (some B_93_179) none))) (cond (Nat.blt pc 232) (cond (Nat.blt pc 217) (cond (Nat.beq pc 183) (some B_93_183) none) (cond (Nat.beq pc 217) (some B_93_217) none)) (cond (Nat.blt pc 238) (cond (Nat.beq pc 232) (some B_93_232) none) (cond (Nat.beq pc 238) (some B_93_238) none)))))
noncomputable def B_94_0 : XK := X_load xkR 0 <| X_oinit <| X_jump 4
noncomputable def B_94_4 : XK := X_vret
noncomputable def T_94 : Nat → Option XK := fun pc => (cond (Nat.blt pc 4) (cond (Nat.beq pc 0) (some B_94_0) none) (cond (Nat.beq pc 4) (some B_94_4) none))
noncomputable def B_95_0 : XK := X_load xkR 0 <| X_load xkR 0 <| X_getf 13 2 <| X_push (.inl 1) <| X_ibin x_iadd xg_add <| X_callV 13 126 2 10
noncomputable def B_95_10 : XK := X_ret xkR
noncomputable def T_95 : Nat → Option XK := fun pc => (cond (Nat.blt pc 10) (cond (Nat.beq pc 0) (some B_95_0) none) (cond (Nat.beq pc 10) (some B_95_10) none))
noncomputable def B_96_0 : XK := X_load xkI 0 <| X_push (.inl 7340032) <| X_ibin Nat.land xg_and <| X_ret xkI
noncomputable def T_96 : Nat → Option XK := fun pc => (cond (Nat.beq pc 0) (some B_96_0) none)
noncomputable def B_97_0 : XK := X_push (.inl 0) <| X_store xkI 2 <| X_push (.inl 0) <| X_store xkI 3 <| X_push (.inl 0) <| X_store xkI 4 <| X_jump 7
noncomputable def B_97_7 : XK := X_load xkI 4 <| X_load xkR 0 <| X_getf 12 10 <| X_load xkI 1 <| X_ald xt0 <| X_if2 p2_gt d_gt 124 <| X_load xkI 4 <| X_load xkR 0 <| X_getf 12 10 <| X_load xkI 1 <| X_ald xt0 <| X_if2 p2_ge d_ge 44 <| X_load xkR 0 <| X_getf 12 9 <| X_load xkI 1 <| X_ald xt3 <| X_load xkI 4 <| X_ald xt0 <| X_callS 96 1 41
noncomputable def B_97_41 : XK := X_jump 46
noncomputable def B_97_44 : XK := X_push (.inl 2097152) <| X_jump 46
noncomputable def B_97_46 : XK := X_store xkI 5 <| X_load xkI 5 <| X_push (.inl 3145728) <| X_if2 p2_ne d_ne 61 <| X_iinc 3 1 <| X_jump 118
noncomputable def B_97_61 : XK := X_load xkI 5 <| X_push (.inl 1048576) <| X_if2 p2_eq d_eq 89 <| X_load xkI 3 <| X_if p_le d_le 89 <| X_load xkR 0 <| X_getf 12 11 <| X_load xkI 2 <| X_push (.inl 3145728) <| X_ast xt0 xkI <| X_iinc 2 1 <| X_iinc 3 4294967295 <| X_jump 61
noncomputable def B_97_89 : XK := X_load xkI 4 <| X_load xkR 0 <| X_getf 12 10 <| X_load xkI 1 <| X_ald xt0 <| X_if2 p2_ge d_ge 118 <| X_load xkR 0 <| X_getf 12 11 <| X_load xkI 2 <| X_load xkR 0 <| X_getf 12 9 <| X_load xkI 1 <| X_ald xt3 <| X_load xkI 4 <| X_ald xt0 <| X_ast xt0 xkI <| X_iinc 2 1 <| X_jump 118
noncomputable def B_97_118 : XK := X_iinc 4 1 <| X_jump 7
noncomputable def B_97_124 : XK := X_push (.inl 0) <| X_store xkI 4 <| X_jump 127
noncomputable def B_97_127 : XK := X_load xkI 4 <| X_load xkI 2 <| X_if2 p2_ge d_ge 155 <| X_load xkR 0 <| X_getf 12 9 <| X_load xkI 1 <| X_ald xt3 <| X_load xkI 4 <| X_load xkR 0 <| X_getf 12 11 <| X_load xkI 4 <| X_ald xt0 <| X_ast xt0 xkI <| X_iinc 4 1 <| X_jump 127
noncomputable def B_97_155 : XK := X_vret
noncomputable def T_97 : Nat → Option XK := fun pc => (cond (Nat.blt pc 61) (cond (Nat.blt pc 41) (cond (Nat.blt pc 7) (cond (Nat.beq pc 0) (some B_97_0) none) (cond (Nat.beq pc 7) (some B_97_7) none)) (cond (Nat.blt pc 44) (cond (Nat.beq pc 41) (some B_97_41) none) (cond (Nat.blt pc 46) (cond (Nat.beq pc 44) (some B_97_44) none) (cond (Nat.beq pc 46) (some B_97_46) none)))) (cond (Nat.blt pc 124) (cond (Nat.blt pc 89) (cond (Nat.beq pc 61) (some B_97_61) none) (cond (Nat.blt pc 118) (cond (Nat.beq pc 89) (some B_97_89) none) (cond (Nat.beq pc 118) (some B_97_118) none))) (cond (Nat.blt pc 127) (cond (Nat.beq pc 124) (some B_97_124) none) (cond (Nat.blt pc 155) (cond (Nat.beq pc 127) (some B_97_127) none) (cond (Nat.beq pc 155) (some B_97_155) none)))))
noncomputable def B_98_0 : XK := X_load xkI 0 <| X_load xkI 1 <| X_push (.inl 4) <| X_ibin x_ishr (xg0 x_ishr) <| X_push (.inl 15) <| X_ibin Nat.land xg_and <| X_ibin Nat.lor xg_or <| X_load xkI 1 <| X_push (.inl 15) <| X_ibin Nat.land xg_and <| X_push (.inl 4294967295) <| X_ibin Nat.xor (xg0 Nat.xor) <| X_ibin Nat.land xg_and <| X_ret xkI
noncomputable def T_98 : Nat → Option XK := fun pc => (cond (Nat.beq pc 0) (some B_98_0) none)
noncomputable def B_99_0 : XK := X_load xkI 1 <| X_load xkR 0 <| X_alen <| X_if2 p2_gt d_gt 8 <| X_load xkR 0 <| X_ret xkR
noncomputable def B_99_8 : XK := X_push (.inl 2) <| X_load xkI 1 <| X_ibin x_imul (xg0 x_imul) <| X_newa 0 <| X_store xkR 2 <| X_push (.inl 0) <| X_store xkI 3 <| X_jump 16
noncomputable def B_99_16 : XK := X_load xkI 3 <| X_load xkR 0 <| X_alen <| X_if2 p2_ge d_ge 34 <| X_load xkR 2 <| X_load xkI 3 <| X_load xkR 0 <| X_load xkI 3 <| X_ald xt0 <| X_ast xt0 xkI <| X_iinc 3 1 <| X_jump 16
noncomputable def B_99_34 : XK := X_load xkR 2 <| X_ret xkR
noncomputable def T_99 : Nat → Option XK := fun pc => (cond (Nat.blt pc 16) (cond (Nat.blt pc 8) (cond (Nat.beq pc 0) (some B_99_0) none) (cond (Nat.beq pc 8) (some B_99_8) none)) (cond (Nat.blt pc 34) (cond (Nat.beq pc 16) (some B_99_16) none) (cond (Nat.beq pc 34) (some B_99_34) none)))
noncomputable def B_100_0 : XK := X_push (.inl 0) <| X_store xkI 4 <| X_load xkI 1 <| X_store xkI 5 <| X_push (.inl 0) <| X_store xkI 6 <| X_jump 9
noncomputable def B_100_9 : XK := X_load xkI 6 <| X_load xkR 0 <| X_getf 12 10 <| X_load xkI 2 <| X_ald xt0 <| X_if2 p2_ge d_ge 102 <| X_load xkR 0 <| X_getf 12 9 <| X_load xkI 2 <| X_ald xt3 <| X_load xkI 6 <| X_ald xt0 <| X_callS 96 1 32
noncomputable def B_100_32 : XK := X_store xkI 7 <| X_load xkI 7 <| X_push (.inl 1048576) <| X_if2 p2_ne d_ne 70 <| X_load xkI 5 <| X_load xkI 4 <| X_load xkI 1 <| X_if2 p2_lt d_lt 59 <| X_load xkI 3 <| X_if p_eq d_eq 63 <| X_load xkI 4 <| X_load xkI 1 <| X_if2 p2_ne d_ne 63 <| X_jump 59
noncomputable def B_100_59 : XK := X_push (.inl 1) <| X_jump 64
noncomputable def B_100_63 : XK := X_push (.inl 0) <| X_jump 64
noncomputable def B_100_64 : XK := X_ibin x_iadd xg_add <| X_store xkI 5 <| X_jump 96
noncomputable def B_100_70 : XK := X_load xkI 5 <| X_load xkI 7 <| X_push (.inl 3145728) <| X_if2 p2_ne d_ne 89 <| X_load xkI 4 <| X_load xkI 1 <| X_if2 p2_ge d_ge 89 <| X_push (.inl 1) <| X_jump 90
noncomputable def B_100_89 : XK := X_push (.inl 0) <| X_jump 90
noncomputable def B_100_90 : XK := X_ibin x_isub xg_sub <| X_store xkI 5 <| X_iinc 4 1 <| X_jump 96
noncomputable def B_100_96 : XK := X_iinc 6 1 <| X_jump 9
noncomputable def B_100_102 : XK := X_load xkI 5 <| X_ret xkI
noncomputable def T_100 : Nat → Option XK := fun pc => (cond (Nat.blt pc 64) (cond (Nat.blt pc 32) (cond (Nat.blt pc 9) (cond (Nat.beq pc 0) (some B_100_0) none) (cond (Nat.beq pc 9) (some B_100_9) none)) (cond (Nat.blt pc 59) (cond (Nat.beq pc 32) (some B_100_32) none) (cond (Nat.blt pc 63) (cond (Nat.beq pc 59) (some B_100_59) none) (cond (Nat.beq pc 63) (some B_100_63) none)))) (cond (Nat.blt pc 90) (cond (Nat.blt pc 70) (cond (Nat.beq pc 64) (some B_100_64) none) (cond (Nat.blt pc 89) (cond (Nat.beq pc 70) (some B_100_70) none) (cond (Nat.beq pc 89) (some B_100_89) none))) (cond (Nat.blt pc 96) (cond (Nat.beq pc 90) (some B_100_90) none) (cond (Nat.blt pc 102) (cond (Nat.beq pc 96) (some B_100_96) none) (cond (Nat.beq pc 102) (some B_100_102) none)))))
noncomputable def B_101_0 : XK := X_load xkI 2 <| X_callS 96 1 4
noncomputable def B_101_4 : XK := X_push (.inl 2097152) <| X_if2 p2_ne d_ne 18 <| X_load xkR 0 <| X_load xkI 3 <| X_load xkI 1 <| X_callV 12 60 3 15
noncomputable def B_101_15 : XK := X_jump 155
noncomputable def B_101_18 : XK := X_load xkI 1 <| X_callS 96 1 22
noncomputable def B_101_22 : XK := X_push (.inl 1048576) <| X_if2 p2_ne d_ne 71 <| X_load xkI 2 <| X_callS 96 1 31
noncomputable def B_101_31 : XK := X_push (.inl 4194304) <| X_if2 p2_ne d_ne 155 <| X_load xkI 1 <| X_push (.inl 8) <| X_ibin x_ishr (xg0 x_ishr) <| X_push (.inl 15) <| X_ibin Nat.land xg_and <| X_load xkI 2 <| X_callS 98 2 47
noncomputable def B_101_47 : XK := X_store xkI 4 <| X_load xkR 0 <| X_load xkI 3 <| X_push (.inl 1048576) <| X_load xkI 4 <| X_push (.inl 8) <| X_ibin x_ishl xg_shl <| X_ibin Nat.lor xg_or <| X_load xkI 1 <| X_push (.inl 255) <| X_ibin Nat.land xg_and <| X_ibin Nat.lor xg_or <| X_callV 12 60 3 68
noncomputable def B_101_68 : XK := X_jump 155
noncomputable def B_101_71 : XK := X_load xkI 2 <| X_callS 96 1 75
noncomputable def B_101_75 : XK := X_push (.inl 3145728) <| X_if2 p2_eq d_eq 89 <| X_load xkI 1 <| X_callS 96 1 84
noncomputable def B_101_84 : XK := X_push (.inl 2097152) <| X_if2 p2_ne d_ne 98 <| X_jump 89
noncomputable def B_101_89 : XK := X_load xkR 0 <| X_load xkI 3 <| X_load xkI 2 <| X_callV 12 60 3 95
noncomputable def B_101_95 : XK := X_jump 155
noncomputable def B_101_98 : XK := X_load xkI 1 <| X_push (.inl 4) <| X_ibin x_ishr (xg0 x_ishr) <| X_push (.inl 15) <| X_ibin Nat.land xg_and <| X_load xkI 2 <| X_push (.inl 15) <| X_ibin Nat.land xg_and <| X_push (.inl 4294967295) <| X_ibin Nat.xor (xg0 Nat.xor) <| X_ibin Nat.land xg_and <| X_load xkI 2 <| X_push (.inl 4) <| X_ibin x_ishr (xg0 x_ishr) <| X_push (.inl 15) <| X_ibin Nat.land xg_and <| X_ibin Nat.lor xg_or <| X_store xkI 4 <| X_load xkI 1 <| X_push (.inl 15) <| X_ibin Nat.land xg_and <| X_load xkI 2 <| X_push (.inl 4) <| X_ibin x_ishr (xg0 x_ishr) <| X_push (.inl 15) <| X_ibin Nat.land xg_and <| X_push (.inl 4294967295) <| X_ibin Nat.xor (xg0 Nat.xor) <| X_ibin Nat.land xg_and <| X_load xkI 2 <| X_push (.inl 15) <| X_ibin Nat.land xg_and <| X_ibin Nat.lor xg_or <| X_store xkI 5 <| X_load xkR 0 <| X_load xkI 3 <| X_push (.inl 4194304) <| X_load xkI 4 <| X_push (.inl 4) <| X_ibin x_ishl xg_shl <| X_ibin Nat.lor xg_or <| X_load xkI 5 <| X_ibin Nat.lor xg_or <| X_callV 12 60 3 155
noncomputable def B_101_155 : XK := X_vret
noncomputable def T_101 : Nat → Option XK := fun pc => (cond (Nat.blt pc 68) (cond (Nat.blt pc 18) (cond (Nat.blt pc 4) (cond (Nat.beq pc 0) (some B_101_0) none) (cond (Nat.blt pc 15) (cond (Nat.beq pc 4) (some B_101_4) none) (cond (Nat.beq pc 15) (some B_101_15) none))) (cond (Nat.blt pc 31) (cond (Nat.blt pc 22) (cond (Nat.beq pc 18) (some B_101_18) none) (cond (Nat.beq pc 22) (some B_101_22) none)) (cond (Nat.blt pc 47) (cond (Nat.beq pc 31) (some B_101_31) none) (cond (Nat.beq pc 47) (some B_101_47) none)))) (cond (Nat.blt pc 89) (cond (Nat.blt pc 75) (cond (Nat.blt pc 71) (cond (Nat.beq pc 68) (some B_101_68) none) (cond (Nat.beq pc 71) (some B_101_71) none)) (cond (Nat.blt pc 84) (cond (Nat.beq pc 75) (some B_101_75) none) (cond (Nat.beq pc 84) (some B_101_84) none))) (cond (Nat.blt pc 98) (cond (Nat.blt pc 95) (cond (Nat.beq pc 89) (some B_101_89) none) (cond (Nat.beq pc 95) (some B_101_95) none)) (cond (Nat.blt pc 155) (cond (Nat.beq pc 98) (some B_101_98) none) (cond (Nat.beq pc 155) (some B_101_155) none)))))
noncomputable def B_102_0 : XK := X_load xkR 0 <| X_getf 12 10 <| X_load xkI 1 <| X_ald xt0 <| X_load xkR 0 <| X_getf 12 9 <| X_load xkI 1 <| X_ald xt3 <| X_load xkR 0 <| X_getf 12 10 <| X_load xkI 1 <| X_ald xt0 <| X_push (.inl 3145728) <| X_callS 127 3 23
noncomputable def B_102_23 : XK := X_ibin x_isub xg_sub <| X_ret xkI
noncomputable def T_102 : Nat → Option XK := fun pc => (cond (Nat.blt pc 23) (cond (Nat.beq pc 0) (some B_102_0) none) (cond (Nat.beq pc 23) (some B_102_23) none))
noncomputable def B_103_0 : XK := X_load xkI 2 <| X_callS 96 1 4
noncomputable def B_103_4 : XK := X_push (.inl 3145728) <| X_if2 p2_ne d_ne 10 <| X_vret
noncomputable def B_103_10 : XK := X_load xkI 1 <| X_callS 96 1 14
noncomputable def B_103_14 : XK := X_push (.inl 4194304) <| X_if2 p2_ne d_ne 89 <| X_load xkI 2 <| X_callS 96 1 23
noncomputable def B_103_23 : XK := X_push (.inl 4194304) <| X_if2 p2_ne d_ne 89 <| X_load xkI 3 <| X_push (.inl 1) <| X_if2 p2_ne d_ne 89 <| X_load xkI 2 <| X_push (.inl 4) <| X_ibin x_ishr (xg0 x_ishr) <| X_push (.inl 15) <| X_ibin Nat.land xg_and <| X_load xkI 2 <| X_push (.inl 15) <| X_ibin Nat.land xg_and <| X_ibin Nat.lor xg_or <| X_store xkI 5 <| X_load xkI 1 <| X_load xkI 5 <| X_push (.inl 4294967295) <| X_ibin Nat.xor (xg0 Nat.xor) <| X_ibin Nat.land xg_and <| X_load xkI 5 <| X_push (.inl 4) <| X_ibin x_ishl xg_shl <| X_push (.inl 4294967295) <| X_ibin Nat.xor (xg0 Nat.xor) <| X_ibin Nat.land xg_and <| X_push (.inl 255) <| X_ibin Nat.land xg_and <| X_store xkI 6 <| X_load xkR 0 <| X_load xkI 4 <| X_load xkI 6 <| X_if p_ne d_ne 78 <| X_push (.inl 2097152) <| X_jump 83
noncomputable def B_103_78 : XK := X_push (.inl 4194304) <| X_load xkI 6 <| X_ibin Nat.lor xg_or <| X_jump 83
noncomputable def B_103_83 : XK := X_callV 12 60 3 86
noncomputable def B_103_86 : XK := X_jump 96
noncomputable def B_103_89 : XK := X_load xkR 0 <| X_load xkI 4 <| X_load xkI 1 <| X_callV 12 60 3 96
noncomputable def B_103_96 : XK := X_vret
noncomputable def T_103 : Nat → Option XK := fun pc => (cond (Nat.blt pc 78) (cond (Nat.blt pc 10) (cond (Nat.blt pc 4) (cond (Nat.beq pc 0) (some B_103_0) none) (cond (Nat.beq pc 4) (some B_103_4) none)) (cond (Nat.blt pc 14) (cond (Nat.beq pc 10) (some B_103_10) none) (cond (Nat.blt pc 23) (cond (Nat.beq pc 14) (some B_103_14) none) (cond (Nat.beq pc 23) (some B_103_23) none)))) (cond (Nat.blt pc 86) (cond (Nat.blt pc 83) (cond (Nat.beq pc 78) (some B_103_78) none) (cond (Nat.beq pc 83) (some B_103_83) none)) (cond (Nat.blt pc 89) (cond (Nat.beq pc 86) (some B_103_86) none) (cond (Nat.blt pc 96) (cond (Nat.beq pc 89) (some B_103_89) none) (cond (Nat.beq pc 96) (some B_103_96) none)))))
noncomputable def B_104_0 : XK := X_load xkR 0 <| X_push (.inl 0) <| X_putf xkI 7 2 <| X_vret
noncomputable def T_104 : Nat → Option XK := fun pc => (cond (Nat.beq pc 0) (some B_104_0) none)
noncomputable def B_105_0 : XK := X_load xkI 1 <| X_if p_lt d_lt 30 <| X_load xkI 1 <| X_load xkR 0 <| X_getf 7 2 <| X_if2 p2_ge d_ge 30 <| X_load xkI 1 <| X_load xkR 0 <| X_getf 7 1 <| X_alen <| X_if2 p2_ge d_ge 30 <| X_load xkR 0 <| X_getf 7 1 <| X_load xkI 1 <| X_ald xt1 <| X_jump 31
noncomputable def B_105_30 : XK := X_push (.inr (.inl 0)) <| X_jump 31
noncomputable def B_105_31 : XK := X_ret xkL
noncomputable def T_105 : Nat → Option XK := fun pc => (cond (Nat.blt pc 30) (cond (Nat.beq pc 0) (some B_105_0) none) (cond (Nat.blt pc 31) (cond (Nat.beq pc 30) (some B_105_30) none) (cond (Nat.beq pc 31) (some B_105_31) none)))
noncomputable def B_106_0 : XK := X_load xkI 1 <| X_if p_lt d_lt 28 <| X_load xkI 1 <| X_load xkR 0 <| X_getf 7 2 <| X_if2 p2_ge d_ge 28 <| X_load xkI 1 <| X_load xkR 0 <| X_getf 7 1 <| X_alen <| X_if2 p2_ge d_ge 28 <| X_load xkR 0 <| X_getf 7 1 <| X_load xkI 1 <| X_load xkL 2 <| X_ast xt1 xkL <| X_jump 28
noncomputable def B_106_28 : XK := X_vret
noncomputable def T_106 : Nat → Option XK := fun pc => (cond (Nat.blt pc 28) (cond (Nat.beq pc 0) (some B_106_0) none) (cond (Nat.beq pc 28) (some B_106_28) none))
noncomputable def B_107_0 : XK := X_load xkR 0 <| X_getf 7 2 <| X_load xkR 0 <| X_getf 7 1 <| X_alen <| X_if2 p2_lt d_lt 55 <| X_load xkR 0 <| X_getf 7 2 <| X_push (.inl 2097152) <| X_if2 p2_ge d_ge 36 <| X_load xkR 0 <| X_getf 7 0 <| X_load xkR 0 <| X_getf 7 1 <| X_alen <| X_callV 3 121 2 33
noncomputable def B_107_33 : XK := X_if p_ne d_ne 37 <| X_jump 36
noncomputable def B_107_36 : XK := X_vret
noncomputable def B_107_37 : XK := X_load xkR 0 <| X_load xkR 0 <| X_getf 7 1 <| X_push (.inl 2) <| X_load xkR 0 <| X_getf 7 1 <| X_alen <| X_ibin x_imul (xg0 x_imul) <| X_callS 128 2 52
noncomputable def B_107_52 : XK := X_putf xkR 7 1 <| X_jump 55
noncomputable def B_107_55 : XK := X_load xkR 0 <| X_getf 7 2 <| X_if p_lt d_lt 91 <| X_load xkR 0 <| X_getf 7 2 <| X_load xkR 0 <| X_getf 7 1 <| X_alen <| X_if2 p2_ge d_ge 91 <| X_load xkR 0 <| X_getf 7 1 <| X_load xkR 0 <| X_dup <| X_getf 7 2 <| X_dupx1 <| X_push (.inl 1) <| X_ibin x_iadd xg_add <| X_putf xkI 7 2 <| X_load xkL 1 <| X_ast xt1 xkL <| X_jump 91
noncomputable def B_107_91 : XK := X_vret
noncomputable def T_107 : Nat → Option XK := fun pc => (cond (Nat.blt pc 37) (cond (Nat.blt pc 33) (cond (Nat.beq pc 0) (some B_107_0) none) (cond (Nat.blt pc 36) (cond (Nat.beq pc 33) (some B_107_33) none) (cond (Nat.beq pc 36) (some B_107_36) none))) (cond (Nat.blt pc 55) (cond (Nat.blt pc 52) (cond (Nat.beq pc 37) (some B_107_37) none) (cond (Nat.beq pc 52) (some B_107_52) none)) (cond (Nat.blt pc 91) (cond (Nat.beq pc 55) (some B_107_55) none) (cond (Nat.beq pc 91) (some B_107_91) none))))
noncomputable def B_108_0 : XK := X_load xkR 0 <| X_load xkI 1 <| X_callV 3 118 2 5
noncomputable def B_108_5 : XK := X_if p_eq d_eq 17 <| X_load xkR 0 <| X_getf 3 5 <| X_load xkI 1 <| X_ald xt1 <| X_jump 18
noncomputable def B_108_17 : XK := X_push (.inr (.inl 0)) <| X_jump 18
noncomputable def B_108_18 : XK := X_ret xkL
noncomputable def T_108 : Nat → Option XK := fun pc => (cond (Nat.blt pc 17) (cond (Nat.blt pc 5) (cond (Nat.beq pc 0) (some B_108_0) none) (cond (Nat.beq pc 5) (some B_108_5) none)) (cond (Nat.blt pc 18) (cond (Nat.beq pc 17) (some B_108_17) none) (cond (Nat.beq pc 18) (some B_108_18) none)))
noncomputable def B_109_0 : XK := X_load xkR 0 <| X_load xkI 1 <| X_callV 3 118 2 5
noncomputable def B_109_5 : XK := X_if p_ne d_ne 10 <| X_load xkI 2 <| X_ret xkI
noncomputable def B_109_10 : XK := X_load xkR 0 <| X_load xkI 2 <| X_callV 3 118 2 15
noncomputable def B_109_15 : XK := X_if p_ne d_ne 20 <| X_load xkI 1 <| X_ret xkI
noncomputable def B_109_20 : XK := X_load xkR 0 <| X_callV 3 124 1 24
noncomputable def B_109_24 : XK := X_load xkR 0 <| X_getf 3 6 <| X_load xkI 1 <| X_ald xt0 <| X_load xkR 0 <| X_getf 3 6 <| X_load xkI 2 <| X_ald xt0 <| X_if2 p2_le d_le 43 <| X_push (.inl 1) <| X_jump 44
noncomputable def B_109_43 : XK := X_push (.inl 0) <| X_jump 44
noncomputable def B_109_44 : XK := X_store xkI 3 <| X_load xkI 3 <| X_if p_eq d_eq 58 <| X_load xkR 0 <| X_getf 3 6 <| X_load xkI 2 <| X_ald xt0 <| X_jump 64
noncomputable def B_109_58 : XK := X_load xkR 0 <| X_getf 3 6 <| X_load xkI 1 <| X_ald xt0 <| X_jump 64
noncomputable def B_109_64 : XK := X_store xkI 4 <| X_load xkI 3 <| X_if p_eq d_eq 74 <| X_load xkI 1 <| X_jump 75
noncomputable def B_109_74 : XK := X_load xkI 2 <| X_jump 75
noncomputable def B_109_75 : XK := X_store xkI 5 <| X_push (.inl 0) <| X_store xkI 6 <| X_jump 80
noncomputable def B_109_80 : XK := X_load xkI 6 <| X_push (.inl 128) <| X_if2 p2_ge d_ge 149 <| X_load xkR 0 <| X_load xkI 5 <| X_callV 3 119 2 94
noncomputable def B_109_94 : XK := X_if p_eq d_eq 149 <| X_load xkR 0 <| X_getf 3 6 <| X_load xkI 5 <| X_ald xt0 <| X_load xkI 4 <| X_push (.inl 1) <| X_ibin x_iadd xg_add <| X_if2 p2_le d_le 149 <| X_load xkR 0 <| X_getf 3 1 <| X_load xkI 6 <| X_load xkI 5 <| X_ast xt0 xkI <| X_load xkI 3 <| X_if p_eq d_eq 134 <| X_load xkR 0 <| X_getf 3 4 <| X_load xkI 5 <| X_ald xt0 <| X_jump 141
noncomputable def B_109_134 : XK := X_load xkR 0 <| X_getf 3 3 <| X_load xkI 5 <| X_ald xt0 <| X_jump 141
noncomputable def B_109_141 : XK := X_store xkI 5 <| X_iinc 6 1 <| X_jump 80
noncomputable def B_109_149 : XK := X_load xkI 3 <| X_if p_eq d_eq 163 <| X_load xkR 0 <| X_load xkI 5 <| X_load xkI 2 <| X_callV 3 125 3 160
noncomputable def B_109_160 : XK := X_jump 170
noncomputable def B_109_163 : XK := X_load xkR 0 <| X_load xkI 1 <| X_load xkI 5 <| X_callV 3 125 3 170
noncomputable def B_109_170 : XK := X_store xkI 7 <| X_load xkI 6 <| X_push (.inl 1) <| X_ibin x_isub xg_sub <| X_store xkI 8 <| X_jump 178
noncomputable def B_109_178 : XK := X_load xkI 8 <| X_if p_lt d_lt 233 <| X_load xkR 0 <| X_getf 3 1 <| X_load xkI 8 <| X_ald xt0 <| X_store xkI 9 <| X_load xkI 3 <| X_if p_eq d_eq 212 <| X_load xkR 0 <| X_load xkR 0 <| X_getf 3 3 <| X_load xkI 9 <| X_ald xt0 <| X_load xkI 7 <| X_callV 3 129 3 209
noncomputable def B_109_209 : XK := X_jump 225
noncomputable def B_109_212 : XK := X_load xkR 0 <| X_load xkI 7 <| X_load xkR 0 <| X_getf 3 4 <| X_load xkI 9 <| X_ald xt0 <| X_callV 3 129 3 225
noncomputable def B_109_225 : XK := X_store xkI 7 <| X_iinc 8 4294967295 <| X_jump 178
noncomputable def B_109_233 : XK := X_load xkI 7 <| X_ret xkI
noncomputable def T_109 : Nat → Option XK := fun pc => (cond (Nat.blt pc 80) (cond (Nat.blt pc 43) (cond (Nat.blt pc 15) (cond (Nat.blt pc 5) (cond (Nat.beq pc 0) (some B_109_0) none) (cond (Nat.blt pc 10) (cond (Nat.beq pc 5) (some B_109_5) none) (cond (Nat.beq pc 10) (some B_109_10) none))) (cond (Nat.blt pc 20) (cond (Nat.beq pc 15) (some B_109_15) none) (cond (Nat.blt pc 24) (cond (Nat.beq pc 20) (some B_109_20) none) (cond (Nat.beq pc 24) (some B_109_24) none)))) (cond (Nat.blt pc 64) (cond (Nat.blt pc 44) (cond (Nat.beq pc 43) (some B_109_43) none) (cond (Nat.blt pc 58) (cond (Nat.beq pc 44) (some B_109_44) none) (cond (Nat.beq pc 58) (some B_109_58) none))) (cond (Nat.blt pc 74) (cond (Nat.beq pc 64) (some B_109_64) none) (cond (Nat.blt pc 75) (cond (Nat.beq pc 74) (some B_109_74) none) (cond (Nat.beq pc 75) (some B_109_75) none))))) (cond (Nat.blt pc 163) (cond (Nat.blt pc 141) (cond (Nat.blt pc 94) (cond (Nat.beq pc 80) (some B_109_80) none) (cond (Nat.blt pc 134) (cond (Nat.beq pc 94) (some B_109_94) none) (cond (Nat.beq pc 134) (some B_109_134) none))) (cond (Nat.blt pc 149) (cond (Nat.beq pc 141) (some B_109_141) none) (cond (Nat.blt pc 160) (cond (Nat.beq pc 149) (some B_109_149) none) (cond (Nat.beq pc 160) (some B_109_160) none)))) (cond (Nat.blt pc 209) (cond (Nat.blt pc 170) (cond (Nat.beq pc 163) (some B_109_163) none) (cond (Nat.blt pc 178) (cond (Nat.beq pc 170) (some B_109_170) none) (cond (Nat.beq pc 178) (some B_109_178) none))) (cond (Nat.blt pc 225) (cond (Nat.blt pc 212) (cond (Nat.beq pc 209) (some B_109_209) none) (cond (Nat.beq pc 212) (some B_109_212) none)) (cond (Nat.blt pc 233) (cond (Nat.beq pc 225) (some B_109_225) none) (cond (Nat.beq pc 233) (some B_109_233) none))))))
noncomputable def B_110_0 : XK := X_load xkR 0 <| X_getf 1 1 <| X_load xkI 1 <| X_load xkI 2 <| X_i2l <| X_push (.inl 12) <| X_lsh x_lshl xgL_shl <| X_push (.inr (.inl 256)) <| X_lbin Nat.lor xgL_or <| X_callV 7 106 3 17
noncomputable def B_110_17 : XK := X_vret
noncomputable def T_110 : Nat → Option XK := fun pc => (cond (Nat.blt pc 17) (cond (Nat.beq pc 0) (some B_110_0) none) (cond (Nat.beq pc 17) (some B_110_17) none))
noncomputable def B_111_0 : XK := X_push (.inl 0) <| X_store xkI 2 <| X_load xkR 0 <| X_alen <| X_store xkI 3 <| X_jump 5
noncomputable def B_111_5 : XK := X_load xkI 2 <| X_load xkI 3 <| X_if2 p2_ge d_ge 20 <| X_load xkR 0 <| X_load xkI 2 <| X_load xkI 1 <| X_ast xt0 xkI <| X_iinc 2 1 <| X_jump 5
noncomputable def B_111_20 : XK := X_vret
noncomputable def T_111 : Nat → Option XK := fun pc => (cond (Nat.blt pc 5) (cond (Nat.beq pc 0) (some B_111_0) none) (cond (Nat.blt pc 20) (cond (Nat.beq pc 5) (some B_111_5) none) (cond (Nat.beq pc 20) (some B_111_20) none)))
noncomputable def B_112_0 : XK := X_load xkR 0 <| X_getf 13 2 <| X_ret xkI
noncomputable def T_112 : Nat → Option XK := fun pc => (cond (Nat.beq pc 0) (some B_112_0) none)
noncomputable def B_113_0 : XK := X_load xkI 1 <| X_load xkR 0 <| X_getf 13 2 <| X_callS 130 2 8
noncomputable def B_113_8 : XK := X_pop <| X_load xkR 0 <| X_load xkI 1 <| X_callV 13 131 2 14
noncomputable def B_113_14 : XK := X_ret xkR
noncomputable def T_113 : Nat → Option XK := fun pc => (cond (Nat.blt pc 8) (cond (Nat.beq pc 0) (some B_113_0) none) (cond (Nat.blt pc 14) (cond (Nat.beq pc 8) (some B_113_8) none) (cond (Nat.beq pc 14) (some B_113_14) none)))
noncomputable def B_114_0 : XK := X_push (.inl 0) <| X_store xkI 2 <| X_jump 2
noncomputable def B_114_2 : XK := X_load xkI 2 <| X_load xkR 1 <| X_callV 1 78 1 7
noncomputable def B_114_7 : XK := X_if2 p2_ge d_ge 44 <| X_load xkR 1 <| X_getf 1 2 <| X_if p_eq d_eq 44 <| X_load xkR 1 <| X_load xkI 2 <| X_callV 1 80 2 22
noncomputable def B_114_22 : XK := X_store xkI 3 <| X_load xkR 0 <| X_load xkI 3 <| X_callV 3 119 2 28
noncomputable def B_114_28 : XK := X_if p_eq d_eq 38 <| X_load xkR 0 <| X_getf 3 9 <| X_load xkI 3 <| X_push (.inl 1) <| X_ast xt0 xkI <| X_jump 38
noncomputable def B_114_38 : XK := X_iinc 2 1 <| X_jump 2
noncomputable def B_114_44 : XK := X_vret
noncomputable def T_114 : Nat → Option XK := fun pc => (cond (Nat.blt pc 22) (cond (Nat.blt pc 2) (cond (Nat.beq pc 0) (some B_114_0) none) (cond (Nat.blt pc 7) (cond (Nat.beq pc 2) (some B_114_2) none) (cond (Nat.beq pc 7) (some B_114_7) none))) (cond (Nat.blt pc 38) (cond (Nat.blt pc 28) (cond (Nat.beq pc 22) (some B_114_22) none) (cond (Nat.beq pc 28) (some B_114_28) none)) (cond (Nat.blt pc 44) (cond (Nat.beq pc 38) (some B_114_38) none) (cond (Nat.beq pc 44) (some B_114_44) none))))
noncomputable def B_115_0 : XK := X_push (.inl 0) <| X_store xkI 1 <| X_jump 2
noncomputable def B_115_2 : XK := X_load xkI 1 <| X_push (.inl 512) <| X_if2 p2_ge d_ge 22 <| X_load xkR 0 <| X_getf 3 9 <| X_load xkI 1 <| X_load xkI 1 <| X_ast xt0 xkI <| X_iinc 1 1 <| X_jump 2
noncomputable def B_115_22 : XK := X_push (.inl 512) <| X_store xkI 1 <| X_push (.inl 512) <| X_store xkI 2 <| X_jump 30
noncomputable def B_115_30 : XK := X_load xkI 2 <| X_load xkR 0 <| X_getf 3 13 <| X_if2 p2_ge d_ge 136 <| X_load xkR 0 <| X_getf 3 9 <| X_load xkI 2 <| X_ald xt0 <| X_if p_ne d_ne 50 <| X_jump 130
noncomputable def B_115_50 : XK := X_load xkR 0 <| X_getf 3 3 <| X_load xkI 1 <| X_load xkR 0 <| X_getf 3 9 <| X_load xkR 0 <| X_getf 3 3 <| X_load xkI 2 <| X_ald xt0 <| X_ald xt0 <| X_ast xt0 xkI <| X_load xkR 0 <| X_getf 3 4 <| X_load xkI 1 <| X_load xkR 0 <| X_getf 3 9 <| X_load xkR 0 <| X_getf 3 4 <| X_load xkI 2 <| X_ald xt0 <| X_ald xt0 <| X_ast xt0 xkI <| X_load xkR 0 <| X_getf 3 5 <| X_load xkI 1 <| X_load xkR 0 <| X_getf 3 5 <| X_load xkI 2 <| X_ald xt1 <| X_ast xt1 xkL <| X_load xkR 0 <| X_getf 3 6 <| X_load xkI 1 <| X_load xkR 0 <| X_getf 3 6 <| X_load xkI 2 <| X_ald xt0 <| X_ast xt0 xkI <| X_load xkR 0 <| X_getf 3 7 <| X_load xkI 1 <| X_load xkR 0 <| X_getf 3 7 <| X_load xkI 2 <| X_ald xt0 <| X_ast xt0 xkI <| X_load xkR 0 <| X_getf 3 9 <| X_load xkI 2 <| X_load xkI 1 <| X_iinc 1 1 <| X_ast xt0 xkI <| X_jump 130
noncomputable def B_115_130 : XK := X_iinc 2 1 <| X_jump 30
noncomputable def B_115_136 : XK := X_load xkR 0 <| X_load xkI 1 <| X_putf xkI 3 13 <| X_vret
noncomputable def T_115 : Nat → Option XK := fun pc => (cond (Nat.blt pc 30) (cond (Nat.blt pc 2) (cond (Nat.beq pc 0) (some B_115_0) none) (cond (Nat.blt pc 22) (cond (Nat.beq pc 2) (some B_115_2) none) (cond (Nat.beq pc 22) (some B_115_22) none))) (cond (Nat.blt pc 130) (cond (Nat.blt pc 50) (cond (Nat.beq pc 30) (some B_115_30) none) (cond (Nat.beq pc 50) (some B_115_50) none)) (cond (Nat.blt pc 136) (cond (Nat.beq pc 130) (some B_115_130) none) (cond (Nat.beq pc 136) (some B_115_136) none))))
noncomputable def B_116_0 : XK := X_load xkR 0 <| X_getf 3 10 <| X_alen <| X_push (.inl 1) <| X_ibin x_isub xg_sub <| X_store xkI 1 <| X_push (.inl 512) <| X_store xkI 2 <| X_jump 12
noncomputable def B_116_12 : XK := X_load xkI 2 <| X_load xkR 0 <| X_getf 3 13 <| X_if2 p2_ge d_ge 88 <| X_load xkR 0 <| X_getf 3 3 <| X_load xkI 2 <| X_ald xt0 <| X_push (.inl 2654435761) <| X_ibin x_imul (xg0 x_imul) <| X_load xkR 0 <| X_getf 3 4 <| X_load xkI 2 <| X_ald xt0 <| X_push (.inl 2246822519) <| X_ibin x_imul (xg0 x_imul) <| X_ibin x_iadd xg_add <| X_push (.inl 8) <| X_ibin x_iushr (xg0 x_iushr) <| X_load xkI 1 <| X_ibin Nat.land xg_and <| X_store xkI 3 <| X_push (.inl 0) <| X_store xkI 4 <| X_jump 48
noncomputable def B_116_48 : XK := X_load xkI 4 <| X_load xkI 1 <| X_if2 p2_ge d_ge 75 <| X_load xkR 0 <| X_getf 3 10 <| X_load xkI 3 <| X_ald xt0 <| X_if p_eq d_eq 75 <| X_load xkI 3 <| X_push (.inl 1) <| X_ibin x_iadd xg_add <| X_load xkI 1 <| X_ibin Nat.land xg_and <| X_store xkI 3 <| X_iinc 4 1 <| X_jump 48
noncomputable def B_116_75 : XK := X_load xkR 0 <| X_getf 3 10 <| X_load xkI 3 <| X_load xkI 2 <| X_ast xt0 xkI <| X_iinc 2 1 <| X_jump 12
noncomputable def B_116_88 : XK := X_vret
noncomputable def T_116 : Nat → Option XK := fun pc => (cond (Nat.blt pc 48) (cond (Nat.blt pc 12) (cond (Nat.beq pc 0) (some B_116_0) none) (cond (Nat.beq pc 12) (some B_116_12) none)) (cond (Nat.blt pc 75) (cond (Nat.beq pc 48) (some B_116_48) none) (cond (Nat.blt pc 88) (cond (Nat.beq pc 75) (some B_116_75) none) (cond (Nat.beq pc 88) (some B_116_88) none))))
noncomputable def B_117_0 : XK := X_push (.inl 0) <| X_store xkI 2 <| X_jump 2
noncomputable def B_117_2 : XK := X_load xkI 2 <| X_load xkR 1 <| X_callV 1 78 1 7
noncomputable def B_117_7 : XK := X_if2 p2_ge d_ge 56 <| X_load xkR 1 <| X_getf 1 2 <| X_if p_eq d_eq 56 <| X_load xkR 1 <| X_load xkI 2 <| X_callV 1 80 2 22
noncomputable def B_117_22 : XK := X_store xkI 3 <| X_load xkI 3 <| X_push (.inl 512) <| X_if2 p2_lt d_lt 50 <| X_load xkI 3 <| X_load xkR 0 <| X_getf 3 9 <| X_alen <| X_if2 p2_ge d_ge 50 <| X_load xkR 1 <| X_load xkI 2 <| X_load xkR 0 <| X_getf 3 9 <| X_load xkI 3 <| X_ald xt0 <| X_callV 1 110 3 50
noncomputable def B_117_50 : XK := X_iinc 2 1 <| X_jump 2
noncomputable def B_117_56 : XK := X_vret
noncomputable def T_117 : Nat → Option XK := fun pc => (cond (Nat.blt pc 22) (cond (Nat.blt pc 2) (cond (Nat.beq pc 0) (some B_117_0) none) (cond (Nat.blt pc 7) (cond (Nat.beq pc 2) (some B_117_2) none) (cond (Nat.beq pc 7) (some B_117_7) none))) (cond (Nat.blt pc 50) (cond (Nat.beq pc 22) (some B_117_22) none) (cond (Nat.blt pc 56) (cond (Nat.beq pc 50) (some B_117_50) none) (cond (Nat.beq pc 56) (some B_117_56) none))))
noncomputable def B_118_0 : XK := X_load xkI 1 <| X_if p_lt d_lt 25 <| X_load xkI 1 <| X_load xkR 0 <| X_getf 3 13 <| X_if2 p2_ge d_ge 25 <| X_load xkI 1 <| X_load xkR 0 <| X_getf 3 3 <| X_alen <| X_if2 p2_ge d_ge 25 <| X_push (.inl 1) <| X_jump 26
noncomputable def B_118_25 : XK := X_push (.inl 0) <| X_jump 26
noncomputable def B_118_26 : XK := X_ret xk01
noncomputable def T_118 : Nat → Option XK := fun pc => (cond (Nat.blt pc 25) (cond (Nat.beq pc 0) (some B_118_0) none) (cond (Nat.blt pc 26) (cond (Nat.beq pc 25) (some B_118_25) none) (cond (Nat.beq pc 26) (some B_118_26) none)))
noncomputable def B_119_0 : XK := X_load xkI 1 <| X_push (.inl 512) <| X_if2 p2_lt d_lt 28 <| X_load xkI 1 <| X_load xkR 0 <| X_getf 3 13 <| X_if2 p2_ge d_ge 28 <| X_load xkI 1 <| X_load xkR 0 <| X_getf 3 3 <| X_alen <| X_if2 p2_ge d_ge 28 <| X_push (.inl 1) <| X_jump 29
noncomputable def B_119_28 : XK := X_push (.inl 0) <| X_jump 29
noncomputable def B_119_29 : XK := X_ret xk01
noncomputable def T_119 : Nat → Option XK := fun pc => (cond (Nat.blt pc 28) (cond (Nat.beq pc 0) (some B_119_0) none) (cond (Nat.blt pc 29) (cond (Nat.beq pc 28) (some B_119_28) none) (cond (Nat.beq pc 29) (some B_119_29) none)))
noncomputable def B_120_0 : XK := X_load xkI 1 <| X_store xkI 4 <| X_load xkL 2 <| X_lstore 5 <| X_push (.inl 0) <| X_store xkI 7 <| X_jump 9
noncomputable def B_120_9 : XK := X_load xkI 7 <| X_push (.inl 128) <| X_if2 p2_ge d_ge 93 <| X_load xkR 0 <| X_load xkI 4 <| X_callV 3 119 2 23
noncomputable def B_120_23 : XK := X_if p_eq d_eq 93 <| X_load xkR 0 <| X_getf 3 7 <| X_load xkI 4 <| X_ald xt0 <| X_push (.inl 16) <| X_if2 p2_ne d_ne 93 <| X_load xkR 0 <| X_load xkR 0 <| X_getf 3 3 <| X_load xkI 4 <| X_ald xt0 <| X_callV 3 108 2 49
noncomputable def B_120_49 : XK := X_lstore 8 <| X_load xkL 5 <| X_load xkL 8 <| X_lcif pL_ge d_ge 71 <| X_load xkR 0 <| X_getf 3 3 <| X_load xkI 4 <| X_ald xt0 <| X_store xkI 4 <| X_jump 87
noncomputable def B_120_71 : XK := X_load xkL 5 <| X_load xkL 8 <| X_lbin x_lsub xgn <| X_lstore 5 <| X_load xkR 0 <| X_getf 3 4 <| X_load xkI 4 <| X_ald xt0 <| X_store xkI 4 <| X_jump 87
noncomputable def B_120_87 : XK := X_iinc 7 1 <| X_jump 9
noncomputable def B_120_93 : XK := X_load xkR 0 <| X_load xkI 4 <| X_callV 3 118 2 99
noncomputable def B_120_99 : XK := X_if p_ne d_ne 106 <| X_push (.inr (.inl 16)) <| X_ret xkL
noncomputable def B_120_106 : XK := X_load xkR 0 <| X_getf 3 5 <| X_load xkI 4 <| X_ald xt1 <| X_load xkL 5 <| X_lbin x_lsub xgn <| X_push (.inl 4) <| X_lsh x_lshl xgL_shl <| X_load xkR 0 <| X_getf 3 7 <| X_load xkI 4 <| X_ald xt0 <| X_push (.inl 15) <| X_ibin Nat.land xg_and <| X_i2l <| X_lbin Nat.lor xgL_or <| X_ret xkL
noncomputable def T_120 : Nat → Option XK := fun pc => (cond (Nat.blt pc 71) (cond (Nat.blt pc 23) (cond (Nat.blt pc 9) (cond (Nat.beq pc 0) (some B_120_0) none) (cond (Nat.beq pc 9) (some B_120_9) none)) (cond (Nat.blt pc 49) (cond (Nat.beq pc 23) (some B_120_23) none) (cond (Nat.beq pc 49) (some B_120_49) none))) (cond (Nat.blt pc 93) (cond (Nat.blt pc 87) (cond (Nat.beq pc 71) (some B_120_71) none) (cond (Nat.beq pc 87) (some B_120_87) none)) (cond (Nat.blt pc 99) (cond (Nat.beq pc 93) (some B_120_93) none) (cond (Nat.blt pc 106) (cond (Nat.beq pc 99) (some B_120_99) none) (cond (Nat.beq pc 106) (some B_120_106) none)))))
noncomputable def B_121_0 : XK := X_load xkI 1 <| X_if p_lt d_lt 12 <| X_load xkI 1 <| X_load xkR 0 <| X_getf 3 11 <| X_if2 p2_le d_le 14 <| X_jump 12
noncomputable def B_121_12 : XK := X_push (.inl 0) <| X_ret xk01
noncomputable def B_121_14 : XK := X_load xkR 0 <| X_dup <| X_getf 3 11 <| X_load xkI 1 <| X_ibin x_isub xg_sub <| X_putf xkI 3 11 <| X_push (.inl 1) <| X_ret xk01
noncomputable def T_121 : Nat → Option XK := fun pc => (cond (Nat.blt pc 12) (cond (Nat.beq pc 0) (some B_121_0) none) (cond (Nat.blt pc 14) (cond (Nat.beq pc 12) (some B_121_12) none) (cond (Nat.beq pc 14) (some B_121_14) none)))
noncomputable def B_122_0 : XK := X_load xkR 0 <| X_getf 10 0 <| X_ifr p_ne 8 <| X_vret
noncomputable def B_122_8 : XK := X_load xkR 0 <| X_dup <| X_getf 10 1 <| X_push (.inl 1) <| X_ibin x_iadd xg_add <| X_putf xkI 10 1 <| X_load xkR 0 <| X_getf 10 0 <| X_getf 1 1 <| X_load xkR 0 <| X_getf 10 1 <| X_callV 7 105 2 32
noncomputable def B_122_32 : XK := X_lstore 1 <| X_load xkR 0 <| X_load xkL 1 <| X_push (.inl 8) <| X_lsh x_lshr xgL_shr <| X_l2i <| X_push (.inl 15) <| X_ibin Nat.land xg_and <| X_putf xkI 10 2 <| X_load xkR 0 <| X_push (.inr (.inl 0)) <| X_putf xkL 10 3 <| X_load xkR 0 <| X_load xkR 0 <| X_getf 10 2 <| X_push (.inl 1) <| X_if2 p2_ne d_ne 77 <| X_load xkR 0 <| X_getf 10 0 <| X_getf 1 0 <| X_load xkL 1 <| X_push (.inl 12) <| X_lsh x_lshr xgL_shr <| X_l2i <| X_callV 3 108 2 74
noncomputable def B_122_74 : XK := X_jump 81
noncomputable def B_122_77 : XK := X_load xkL 1 <| X_push (.inl 12) <| X_lsh x_lshr xgL_shr <| X_jump 81
noncomputable def B_122_81 : XK := X_putf xkL 10 4 <| X_load xkR 0 <| X_load xkL 1 <| X_push (.inl 4) <| X_lsh x_lshr xgL_shr <| X_l2i <| X_push (.inl 15) <| X_ibin Nat.land xg_and <| X_putf xkI 10 5 <| X_load xkR 0 <| X_load xkL 1 <| X_l2i <| X_push (.inl 15) <| X_ibin Nat.land xg_and <| X_putf xkI 10 6 <| X_vret
noncomputable def T_122 : Nat → Option XK := fun pc => (cond (Nat.blt pc 74) (cond (Nat.blt pc 8) (cond (Nat.beq pc 0) (some B_122_0) none) (cond (Nat.blt pc 32) (cond (Nat.beq pc 8) (some B_122_8) none) (cond (Nat.beq pc 32) (some B_122_32) none))) (cond (Nat.blt pc 77) (cond (Nat.beq pc 74) (some B_122_74) none) (cond (Nat.blt pc 81) (cond (Nat.beq pc 77) (some B_122_77) none) (cond (Nat.beq pc 81) (some B_122_81) none))))
noncomputable def B_123_0 : XK := X_load xkR 0 <| X_load xkI 1 <| X_callV 3 118 2 5
noncomputable def B_123_5 : XK := X_if p_eq d_eq 21 <| X_load xkR 0 <| X_getf 3 8 <| X_load xkI 1 <| X_ald xt0 <| X_load xkR 0 <| X_getf 3 12 <| X_if2 p2_ne d_ne 23 <| X_jump 21
noncomputable def B_123_21 : XK := X_push (.inl 1) <| X_ret xk01
noncomputable def B_123_23 : XK := X_load xkR 0 <| X_load xkI 1 <| X_callV 3 119 2 28
noncomputable def B_123_28 : XK := X_if p_eq d_eq 33 <| X_push (.inl 0) <| X_ret xk01
noncomputable def B_123_33 : XK := X_load xkR 0 <| X_getf 3 9 <| X_load xkI 1 <| X_load xkI 1 <| X_load xkI 2 <| X_load xkI 3 <| X_callS 132 3 44
noncomputable def B_123_44 : XK := X_ast xt0 xkI <| X_load xkR 0 <| X_getf 3 8 <| X_load xkI 1 <| X_load xkR 0 <| X_getf 3 12 <| X_ast xt0 xkI <| X_push (.inl 1) <| X_ret xk01
noncomputable def T_123 : Nat → Option XK := fun pc => (cond (Nat.blt pc 23) (cond (Nat.blt pc 5) (cond (Nat.beq pc 0) (some B_123_0) none) (cond (Nat.blt pc 21) (cond (Nat.beq pc 5) (some B_123_5) none) (cond (Nat.beq pc 21) (some B_123_21) none))) (cond (Nat.blt pc 33) (cond (Nat.blt pc 28) (cond (Nat.beq pc 23) (some B_123_23) none) (cond (Nat.beq pc 28) (some B_123_28) none)) (cond (Nat.blt pc 44) (cond (Nat.beq pc 33) (some B_123_33) none) (cond (Nat.beq pc 44) (some B_123_44) none))))
noncomputable def B_124_0 : XK := X_load xkR 0 <| X_getf 3 3 <| X_alen <| X_store xkI 1 <| X_load xkR 0 <| X_getf 3 13 <| X_push (.inl 512) <| X_ibin x_iadd xg_add <| X_load xkI 1 <| X_if2 p2_le d_le 24 <| X_load xkI 1 <| X_push (.inl 1048576) <| X_if2 p2_lt d_lt 25 <| X_jump 24
noncomputable def B_124_24 : XK := X_vret
noncomputable def B_124_25 : XK := X_load xkR 0 <| X_load xkR 0 <| X_getf 3 3 <| X_push (.inl 2) <| X_load xkI 1 <| X_ibin x_imul (xg0 x_imul) <| X_callS 133 2 36
noncomputable def B_124_36 : XK := X_putf xkR 3 3 <| X_load xkR 0 <| X_load xkR 0 <| X_getf 3 4 <| X_push (.inl 2) <| X_load xkI 1 <| X_ibin x_imul (xg0 x_imul) <| X_callS 133 2 50
noncomputable def B_124_50 : XK := X_putf xkR 3 4 <| X_load xkR 0 <| X_load xkR 0 <| X_getf 3 5 <| X_push (.inl 2) <| X_load xkI 1 <| X_ibin x_imul (xg0 x_imul) <| X_callS 128 2 64
noncomputable def B_124_64 : XK := X_putf xkR 3 5 <| X_load xkR 0 <| X_load xkR 0 <| X_getf 3 6 <| X_push (.inl 2) <| X_load xkI 1 <| X_ibin x_imul (xg0 x_imul) <| X_callS 133 2 78
noncomputable def B_124_78 : XK := X_putf xkR 3 6 <| X_load xkR 0 <| X_load xkR 0 <| X_getf 3 7 <| X_push (.inl 2) <| X_load xkI 1 <| X_ibin x_imul (xg0 x_imul) <| X_callS 133 2 92
noncomputable def B_124_92 : XK := X_putf xkR 3 7 <| X_load xkR 0 <| X_load xkR 0 <| X_getf 3 8 <| X_push (.inl 2) <| X_load xkI 1 <| X_ibin x_imul (xg0 x_imul) <| X_callS 133 2 106
noncomputable def B_124_106 : XK := X_putf xkR 3 8 <| X_load xkR 0 <| X_load xkR 0 <| X_getf 3 9 <| X_push (.inl 2) <| X_load xkI 1 <| X_ibin x_imul (xg0 x_imul) <| X_callS 133 2 120
noncomputable def B_124_120 : XK := X_putf xkR 3 9 <| X_load xkR 0 <| X_push (.inl 4) <| X_load xkI 1 <| X_ibin x_imul (xg0 x_imul) <| X_newa 0 <| X_putf xkR 3 10 <| X_load xkR 0 <| X_callV 3 116 1 136
noncomputable def B_124_136 : XK := X_vret
noncomputable def T_124 : Nat → Option XK := fun pc => (cond (Nat.blt pc 64) (cond (Nat.blt pc 25) (cond (Nat.blt pc 24) (cond (Nat.beq pc 0) (some B_124_0) none) (cond (Nat.beq pc 24) (some B_124_24) none)) (cond (Nat.blt pc 36) (cond (Nat.beq pc 25) (some B_124_25) none) (cond (Nat.blt pc 50) (cond (Nat.beq pc 36) (some B_124_36) none) (cond (Nat.beq pc 50) (some B_124_50) none)))) (cond (Nat.blt pc 106) (cond (Nat.blt pc 78) (cond (Nat.beq pc 64) (some B_124_64) none) (cond (Nat.blt pc 92) (cond (Nat.beq pc 78) (some B_124_78) none) (cond (Nat.beq pc 92) (some B_124_92) none))) (cond (Nat.blt pc 120) (cond (Nat.beq pc 106) (some B_124_106) none) (cond (Nat.blt pc 136) (cond (Nat.beq pc 120) (some B_124_120) none) (cond (Nat.beq pc 136) (some B_124_136) none)))))
noncomputable def B_125_0 : XK := X_load xkI 1 <| X_if p_lt d_lt 36 <| X_load xkI 2 <| X_if p_lt d_lt 36 <| X_load xkI 1 <| X_load xkR 0 <| X_getf 3 13 <| X_if2 p2_ge d_ge 36 <| X_load xkI 2 <| X_load xkR 0 <| X_getf 3 13 <| X_if2 p2_ge d_ge 36 <| X_load xkR 0 <| X_getf 3 13 <| X_load xkR 0 <| X_getf 3 3 <| X_alen <| X_if2 p2_lt d_lt 38 <| X_jump 36
noncomputable def B_125_36 : XK := X_load xkI 1 <| X_ret xkI
noncomputable def B_125_38 : XK := X_load xkR 0 <| X_getf 3 10 <| X_alen <| X_push (.inl 1) <| X_ibin x_isub xg_sub <| X_store xkI 3 <| X_load xkI 1 <| X_push (.inl 2654435761) <| X_ibin x_imul (xg0 x_imul) <| X_load xkI 2 <| X_push (.inl 2246822519) <| X_ibin x_imul (xg0 x_imul) <| X_ibin x_iadd xg_add <| X_push (.inl 8) <| X_ibin x_iushr (xg0 x_iushr) <| X_load xkI 3 <| X_ibin Nat.land xg_and <| X_store xkI 4 <| X_push (.inl 0) <| X_store xkI 5 <| X_jump 65
noncomputable def B_125_65 : XK := X_load xkI 5 <| X_load xkI 3 <| X_if2 p2_ge d_ge 129 <| X_load xkR 0 <| X_getf 3 10 <| X_load xkI 4 <| X_ald xt0 <| X_if p_eq d_eq 129 <| X_load xkR 0 <| X_getf 3 10 <| X_load xkI 4 <| X_ald xt0 <| X_store xkI 6 <| X_load xkR 0 <| X_getf 3 3 <| X_load xkI 6 <| X_ald xt0 <| X_load xkI 1 <| X_if2 p2_ne d_ne 115 <| X_load xkR 0 <| X_getf 3 4 <| X_load xkI 6 <| X_ald xt0 <| X_load xkI 2 <| X_if2 p2_ne d_ne 115 <| X_load xkI 6 <| X_ret xkI
noncomputable def B_125_115 : XK := X_load xkI 4 <| X_push (.inl 1) <| X_ibin x_iadd xg_add <| X_load xkI 3 <| X_ibin Nat.land xg_and <| X_store xkI 4 <| X_iinc 5 1 <| X_jump 65
noncomputable def B_125_129 : XK := X_load xkR 0 <| X_getf 3 10 <| X_load xkI 4 <| X_load xkR 0 <| X_getf 3 13 <| X_ast xt0 xkI <| X_load xkR 0 <| X_getf 3 3 <| X_load xkR 0 <| X_getf 3 13 <| X_load xkI 1 <| X_ast xt0 xkI <| X_load xkR 0 <| X_getf 3 4 <| X_load xkR 0 <| X_getf 3 13 <| X_load xkI 2 <| X_ast xt0 xkI <| X_load xkR 0 <| X_getf 3 5 <| X_load xkR 0 <| X_getf 3 13 <| X_load xkR 0 <| X_getf 3 5 <| X_load xkI 1 <| X_ald xt1 <| X_load xkR 0 <| X_getf 3 5 <| X_load xkI 2 <| X_ald xt1 <| X_lbin x_ladd xgn <| X_ast xt1 xkL <| X_load xkR 0 <| X_getf 3 6 <| X_load xkR 0 <| X_getf 3 13 <| X_push (.inl 1) <| X_load xkR 0 <| X_getf 3 6 <| X_load xkI 1 <| X_ald xt0 <| X_load xkR 0 <| X_getf 3 6 <| X_load xkI 2 <| X_ald xt0 <| X_if2 p2_le d_le 215 <| X_load xkR 0 <| X_getf 3 6 <| X_load xkI 1 <| X_ald xt0 <| X_jump 221
noncomputable def B_125_215 : XK := X_load xkR 0 <| X_getf 3 6 <| X_load xkI 2 <| X_ald xt0 <| X_jump 221
noncomputable def B_125_221 : XK := X_ibin x_iadd xg_add <| X_ast xt0 xkI <| X_load xkR 0 <| X_getf 3 7 <| X_load xkR 0 <| X_getf 3 13 <| X_load xkR 0 <| X_getf 3 7 <| X_load xkI 1 <| X_ald xt0 <| X_load xkR 0 <| X_getf 3 7 <| X_load xkI 2 <| X_ald xt0 <| X_if2 p2_ne d_ne 255 <| X_load xkR 0 <| X_getf 3 7 <| X_load xkI 1 <| X_ald xt0 <| X_jump 257
noncomputable def B_125_255 : XK := X_push (.inl 16) <| X_jump 257
noncomputable def B_125_257 : XK := X_ast xt0 xkI <| X_load xkR 0 <| X_dup <| X_getf 3 13 <| X_dupx1 <| X_push (.inl 1) <| X_ibin x_iadd xg_add <| X_putf xkI 3 13 <| X_ret xkI
noncomputable def T_125 : Nat → Option XK := fun pc => (cond (Nat.blt pc 129) (cond (Nat.blt pc 38) (cond (Nat.blt pc 36) (cond (Nat.beq pc 0) (some B_125_0) none) (cond (Nat.beq pc 36) (some B_125_36) none)) (cond (Nat.blt pc 65) (cond (Nat.beq pc 38) (some B_125_38) none) (cond (Nat.blt pc 115) (cond (Nat.beq pc 65) (some B_125_65) none) (cond (Nat.beq pc 115) (some B_125_115) none)))) (cond (Nat.blt pc 221) (cond (Nat.blt pc 215) (cond (Nat.beq pc 129) (some B_125_129) none) (cond (Nat.beq pc 215) (some B_125_215) none)) (cond (Nat.blt pc 255) (cond (Nat.beq pc 221) (some B_125_221) none) (cond (Nat.blt pc 257) (cond (Nat.beq pc 255) (some B_125_255) none) (cond (Nat.beq pc 257) (some B_125_257) none)))))
noncomputable def B_126_0 : XK := X_load xkR 0 <| X_getf 13 1 <| X_alen <| X_store xkI 2 <| X_load xkI 2 <| X_if p_gt d_gt 20 <| X_load xkR 0 <| X_getf 13 1 <| X_push (.inr (.inr (.inl 1))) <| X_ifr2 p2_eq 45 <| X_jump 20
noncomputable def B_126_20 : XK := X_load xkI 2 <| X_load xkI 1 <| X_load xkI 2 <| X_ibin x_isub xg_sub <| X_load xkI 2 <| X_push (.inl 1) <| X_ibin x_ishr (xg0 x_ishr) <| X_callS 134 3 30
noncomputable def B_126_30 : XK := X_store xkI 3 <| X_load xkR 0 <| X_load xkR 0 <| X_getf 13 1 <| X_load xkI 3 <| X_callS 135 2 40
noncomputable def B_126_40 : XK := X_dupx1 <| X_putf xkR 13 1 <| X_ret xkR
noncomputable def B_126_45 : XK := X_load xkR 0 <| X_push (.inl 10) <| X_load xkI 1 <| X_max <| X_jump 52
noncomputable def B_126_52 : XK := X_newa 14 <| X_dupx1 <| X_putf xkR 13 1 <| X_ret xkR
noncomputable def T_126 : Nat → Option XK := fun pc => (cond (Nat.blt pc 40) (cond (Nat.blt pc 20) (cond (Nat.beq pc 0) (some B_126_0) none) (cond (Nat.blt pc 30) (cond (Nat.beq pc 20) (some B_126_20) none) (cond (Nat.beq pc 30) (some B_126_30) none))) (cond (Nat.blt pc 45) (cond (Nat.beq pc 40) (some B_126_40) none) (cond (Nat.blt pc 52) (cond (Nat.beq pc 45) (some B_126_45) none) (cond (Nat.beq pc 52) (some B_126_52) none))))
noncomputable def B_127_0 : XK := X_push (.inl 0) <| X_store xkI 3 <| X_push (.inl 0) <| X_store xkI 4 <| X_jump 5
noncomputable def B_127_5 : XK := X_load xkI 4 <| X_load xkI 1 <| X_if2 p2_ge d_ge 36 <| X_load xkI 3 <| X_load xkR 0 <| X_load xkI 4 <| X_ald xt0 <| X_callS 96 1 19
noncomputable def B_127_19 : XK := X_load xkI 2 <| X_if2 p2_ne d_ne 27 <| X_push (.inl 1) <| X_jump 28
noncomputable def B_127_27 : XK := X_push (.inl 0) <| X_jump 28
noncomputable def B_127_28 : XK := X_ibin x_iadd xg_add <| X_store xkI 3 <| X_iinc 4 1 <| X_jump 5
noncomputable def B_127_36 : XK := X_load xkI 3 <| X_ret xkI
noncomputable def T_127 : Nat → Option XK := fun pc => (cond (Nat.blt pc 27) (cond (Nat.blt pc 5) (cond (Nat.beq pc 0) (some B_127_0) none) (cond (Nat.blt pc 19) (cond (Nat.beq pc 5) (some B_127_5) none) (cond (Nat.beq pc 19) (some B_127_19) none))) (cond (Nat.blt pc 28) (cond (Nat.beq pc 27) (some B_127_27) none) (cond (Nat.blt pc 36) (cond (Nat.beq pc 28) (some B_127_28) none) (cond (Nat.beq pc 36) (some B_127_36) none))))
noncomputable def B_128_0 : XK := X_load xkI 1 <| X_load xkR 0 <| X_alen <| X_if2 p2_ne d_ne 14 <| X_load xkR 0 <| X_stop
noncomputable def B_128_10 : XK := X_stop
noncomputable def B_128_14 : XK := X_load xkI 1 <| X_newa 1 <| X_store xkR 2 <| X_load xkR 0 <| X_push (.inl 0) <| X_load xkR 2 <| X_push (.inl 0) <| X_load xkR 0 <| X_alen <| X_load xkI 1 <| X_min <| X_jump 28
noncomputable def B_128_28 : XK := X_acopy xok <| X_jump 31
noncomputable def B_128_31 : XK := X_load xkR 2 <| X_ret xkR
noncomputable def T_128 : Nat → Option XK := fun pc => (cond (Nat.blt pc 14) (cond (Nat.blt pc 10) (cond (Nat.beq pc 0) (some B_128_0) none) (cond (Nat.beq pc 10) (some B_128_10) none)) (cond (Nat.blt pc 28) (cond (Nat.beq pc 14) (some B_128_14) none) (cond (Nat.blt pc 31) (cond (Nat.beq pc 28) (some B_128_28) none) (cond (Nat.beq pc 31) (some B_128_31) none))))
noncomputable def B_129_0 : XK := X_load xkR 0 <| X_load xkI 1 <| X_callV 3 118 2 5
noncomputable def B_129_5 : XK := X_if p_eq d_eq 16 <| X_load xkR 0 <| X_load xkI 2 <| X_callV 3 118 2 13
noncomputable def B_129_13 : XK := X_if p_ne d_ne 18 <| X_jump 16
noncomputable def B_129_16 : XK := X_load xkI 1 <| X_ret xkI
noncomputable def B_129_18 : XK := X_load xkR 0 <| X_load xkI 2 <| X_callV 3 119 2 23
noncomputable def B_129_23 : XK := X_if p_eq d_eq 115 <| X_load xkR 0 <| X_getf 3 6 <| X_load xkI 2 <| X_ald xt0 <| X_load xkR 0 <| X_getf 3 6 <| X_load xkI 1 <| X_ald xt0 <| X_push (.inl 1) <| X_ibin x_iadd xg_add <| X_if2 p2_le d_le 115 <| X_load xkR 0 <| X_getf 3 3 <| X_load xkI 2 <| X_ald xt0 <| X_store xkI 3 <| X_load xkR 0 <| X_getf 3 4 <| X_load xkI 2 <| X_ald xt0 <| X_store xkI 4 <| X_load xkR 0 <| X_getf 3 6 <| X_load xkI 3 <| X_ald xt0 <| X_load xkR 0 <| X_getf 3 6 <| X_load xkI 4 <| X_ald xt0 <| X_if2 p2_gt d_gt 87 <| X_load xkR 0 <| X_load xkR 0 <| X_load xkI 1 <| X_load xkI 3 <| X_callV 3 125 3 81
noncomputable def B_129_81 : XK := X_load xkI 4 <| X_callV 3 125 3 86
noncomputable def B_129_86 : XK := X_ret xkI
noncomputable def B_129_87 : XK := X_load xkR 0 <| X_load xkR 0 <| X_load xkI 1 <| X_load xkR 0 <| X_getf 3 3 <| X_load xkI 3 <| X_ald xt0 <| X_callV 3 125 3 99
noncomputable def B_129_99 : XK := X_load xkR 0 <| X_load xkR 0 <| X_getf 3 4 <| X_load xkI 3 <| X_ald xt0 <| X_load xkI 4 <| X_callV 3 125 3 111
noncomputable def B_129_111 : XK := X_callV 3 125 3 114
noncomputable def B_129_114 : XK := X_ret xkI
noncomputable def B_129_115 : XK := X_load xkR 0 <| X_load xkI 1 <| X_callV 3 119 2 120
noncomputable def B_129_120 : XK := X_if p_eq d_eq 212 <| X_load xkR 0 <| X_getf 3 6 <| X_load xkI 1 <| X_ald xt0 <| X_load xkR 0 <| X_getf 3 6 <| X_load xkI 2 <| X_ald xt0 <| X_push (.inl 1) <| X_ibin x_iadd xg_add <| X_if2 p2_le d_le 212 <| X_load xkR 0 <| X_getf 3 4 <| X_load xkI 1 <| X_ald xt0 <| X_store xkI 3 <| X_load xkR 0 <| X_getf 3 3 <| X_load xkI 1 <| X_ald xt0 <| X_store xkI 4 <| X_load xkR 0 <| X_getf 3 6 <| X_load xkI 3 <| X_ald xt0 <| X_load xkR 0 <| X_getf 3 6 <| X_load xkI 4 <| X_ald xt0 <| X_if2 p2_gt d_gt 184 <| X_load xkR 0 <| X_load xkI 4 <| X_load xkR 0 <| X_load xkI 3 <| X_load xkI 2 <| X_callV 3 125 3 180
noncomputable def B_129_180 : XK := X_callV 3 125 3 183
noncomputable def B_129_183 : XK := X_ret xkI
noncomputable def B_129_184 : XK := X_load xkR 0 <| X_load xkR 0 <| X_load xkI 4 <| X_load xkR 0 <| X_getf 3 3 <| X_load xkI 3 <| X_ald xt0 <| X_callV 3 125 3 197
noncomputable def B_129_197 : XK := X_load xkR 0 <| X_load xkR 0 <| X_getf 3 4 <| X_load xkI 3 <| X_ald xt0 <| X_load xkI 2 <| X_callV 3 125 3 208
noncomputable def B_129_208 : XK := X_callV 3 125 3 211
noncomputable def B_129_211 : XK := X_ret xkI
noncomputable def B_129_212 : XK := X_load xkR 0 <| X_load xkI 1 <| X_load xkI 2 <| X_callV 3 125 3 218
noncomputable def B_129_218 : XK := X_ret xkI
noncomputable def T_129 : Nat → Option XK := fun pc => (cond (Nat.blt pc 114) (cond (Nat.blt pc 23) (cond (Nat.blt pc 13) (cond (Nat.blt pc 5) (cond (Nat.beq pc 0) (some B_129_0) none) (cond (Nat.beq pc 5) (some B_129_5) none)) (cond (Nat.blt pc 16) (cond (Nat.beq pc 13) (some B_129_13) none) (cond (Nat.blt pc 18) (cond (Nat.beq pc 16) (some B_129_16) none) (cond (Nat.beq pc 18) (some B_129_18) none)))) (cond (Nat.blt pc 87) (cond (Nat.blt pc 81) (cond (Nat.beq pc 23) (some B_129_23) none) (cond (Nat.blt pc 86) (cond (Nat.beq pc 81) (some B_129_81) none) (cond (Nat.beq pc 86) (some B_129_86) none))) (cond (Nat.blt pc 99) (cond (Nat.beq pc 87) (some B_129_87) none) (cond (Nat.blt pc 111) (cond (Nat.beq pc 99) (some B_129_99) none) (cond (Nat.beq pc 111) (some B_129_111) none))))) (cond (Nat.blt pc 184) (cond (Nat.blt pc 120) (cond (Nat.blt pc 115) (cond (Nat.beq pc 114) (some B_129_114) none) (cond (Nat.beq pc 115) (some B_129_115) none)) (cond (Nat.blt pc 180) (cond (Nat.beq pc 120) (some B_129_120) none) (cond (Nat.blt pc 183) (cond (Nat.beq pc 180) (some B_129_180) none) (cond (Nat.beq pc 183) (some B_129_183) none)))) (cond (Nat.blt pc 211) (cond (Nat.blt pc 197) (cond (Nat.beq pc 184) (some B_129_184) none) (cond (Nat.blt pc 208) (cond (Nat.beq pc 197) (some B_129_197) none) (cond (Nat.beq pc 208) (some B_129_208) none))) (cond (Nat.blt pc 212) (cond (Nat.beq pc 211) (some B_129_211) none) (cond (Nat.blt pc 218) (cond (Nat.beq pc 212) (some B_129_212) none) (cond (Nat.beq pc 218) (some B_129_218) none))))))
noncomputable def B_130_0 : XK := X_load xkI 0 <| X_load xkI 1 <| X_push (.inr (.inr (.inl 0))) <| X_callS 136 3 6
noncomputable def B_130_6 : XK := X_ret xkI
noncomputable def T_130 : Nat → Option XK := fun pc => (cond (Nat.blt pc 6) (cond (Nat.beq pc 0) (some B_130_0) none) (cond (Nat.beq pc 6) (some B_130_6) none))
noncomputable def B_131_0 : XK := X_load xkR 0 <| X_getf 13 1 <| X_load xkI 1 <| X_ald xt3 <| X_ret xkR
noncomputable def T_131 : Nat → Option XK := fun pc => (cond (Nat.beq pc 0) (some B_131_0) none)
noncomputable def B_132_0 : XK := X_load xkI 0 <| X_load xkI 1 <| X_push (.inl 5) <| X_ibin x_ishl xg_shl <| X_ibin Nat.lor xg_or <| X_load xkI 2 <| X_push (.inl 5) <| X_ibin x_ishl xg_shl <| X_push (.inl 4294967295) <| X_ibin Nat.xor (xg0 Nat.xor) <| X_ibin Nat.land xg_and <| X_ret xkI
noncomputable def T_132 : Nat → Option XK := fun pc => (cond (Nat.beq pc 0) (some B_132_0) none)
noncomputable def B_133_0 : XK := X_load xkI 1 <| X_load xkR 0 <| X_alen <| X_if2 p2_ne d_ne 14 <| X_load xkR 0 <| X_stop
noncomputable def B_133_10 : XK := X_stop
noncomputable def B_133_14 : XK := X_load xkI 1 <| X_newa 0 <| X_store xkR 2 <| X_load xkR 0 <| X_push (.inl 0) <| X_load xkR 2 <| X_push (.inl 0) <| X_load xkR 0 <| X_alen <| X_load xkI 1 <| X_min <| X_jump 28
noncomputable def B_133_28 : XK := X_acopy xok <| X_jump 31
noncomputable def B_133_31 : XK := X_load xkR 2 <| X_ret xkR
noncomputable def T_133 : Nat → Option XK := fun pc => (cond (Nat.blt pc 14) (cond (Nat.blt pc 10) (cond (Nat.beq pc 0) (some B_133_0) none) (cond (Nat.beq pc 10) (some B_133_10) none)) (cond (Nat.blt pc 28) (cond (Nat.beq pc 14) (some B_133_14) none) (cond (Nat.blt pc 31) (cond (Nat.beq pc 28) (some B_133_28) none) (cond (Nat.beq pc 31) (some B_133_31) none))))
noncomputable def B_134_0 : XK := X_load xkI 0 <| X_load xkI 1 <| X_load xkI 2 <| X_max <| X_jump 6
noncomputable def B_134_6 : XK := X_ibin x_iadd xg_add <| X_store xkI 3 <| X_push (.inl 0) <| X_load xkI 3 <| X_if2 p2_ge d_ge 21 <| X_load xkI 3 <| X_push (.inl 2147483639) <| X_if2 p2_gt d_gt 21 <| X_load xkI 3 <| X_ret xkI
noncomputable def B_134_21 : XK := X_load xkI 0 <| X_load xkI 1 <| X_callS 137 2 26
noncomputable def B_134_26 : XK := X_ret xkI
noncomputable def T_134 : Nat → Option XK := fun pc => (cond (Nat.blt pc 21) (cond (Nat.blt pc 6) (cond (Nat.beq pc 0) (some B_134_0) none) (cond (Nat.beq pc 6) (some B_134_6) none)) (cond (Nat.blt pc 26) (cond (Nat.beq pc 21) (some B_134_21) none) (cond (Nat.beq pc 26) (some B_134_26) none)))
noncomputable def B_135_0 : XK := X_load xkR 0 <| X_load xkI 1 <| X_load xkR 0 <| X_getC 14 <| X_jump 6
noncomputable def B_135_6 : XK := X_callS 138 3 9
noncomputable def B_135_9 : XK := X_ret xkR
noncomputable def T_135 : Nat → Option XK := fun pc => (cond (Nat.blt pc 6) (cond (Nat.beq pc 0) (some B_135_0) none) (cond (Nat.blt pc 9) (cond (Nat.beq pc 6) (some B_135_6) none) (cond (Nat.beq pc 9) (some B_135_9) none)))
noncomputable def B_136_0 : XK := X_load xkI 0 <| X_if p_lt d_lt 9 <| X_load xkI 0 <| X_load xkI 1 <| X_if2 p2_lt d_lt 16 <| X_jump 9
noncomputable def B_136_9 : XK := X_load xkR 2 <| X_load xkI 0 <| X_load xkI 1 <| X_stop
noncomputable def B_136_15 : XK := X_stop
noncomputable def B_136_16 : XK := X_load xkI 0 <| X_ret xkI
noncomputable def T_136 : Nat → Option XK := fun pc => (cond (Nat.blt pc 15) (cond (Nat.blt pc 9) (cond (Nat.beq pc 0) (some B_136_0) none) (cond (Nat.beq pc 9) (some B_136_9) none)) (cond (Nat.blt pc 16) (cond (Nat.beq pc 15) (some B_136_15) none) (cond (Nat.beq pc 16) (some B_136_16) none)))
noncomputable def B_137_0 : XK := X_load xkI 0 <| X_load xkI 1 <| X_ibin x_iadd xg_add <| X_store xkI 2 <| X_load xkI 2 <| X_if p_ge d_ge 49 <| X_stop
noncomputable def B_137_19 : XK := X_stop
noncomputable def B_137_24 : XK := X_load xkI 0 <| X_stop
noncomputable def B_137_28 : XK := X_stop
noncomputable def B_137_33 : XK := X_load xkI 1 <| X_stop
noncomputable def B_137_37 : XK := X_stop
noncomputable def B_137_42 : XK := X_stop
noncomputable def B_137_45 : XK := X_stop
noncomputable def B_137_48 : XK := X_stop
noncomputable def B_137_49 : XK := X_load xkI 2 <| X_push (.inl 2147483639) <| X_if2 p2_gt d_gt 58 <| X_push (.inl 2147483639) <| X_ret xkI
noncomputable def B_137_58 : XK := X_load xkI 2 <| X_ret xkI
noncomputable def T_137 : Nat → Option XK := fun pc => (cond (Nat.blt pc 37) (cond (Nat.blt pc 24) (cond (Nat.blt pc 19) (cond (Nat.beq pc 0) (some B_137_0) none) (cond (Nat.beq pc 19) (some B_137_19) none)) (cond (Nat.blt pc 28) (cond (Nat.beq pc 24) (some B_137_24) none) (cond (Nat.blt pc 33) (cond (Nat.beq pc 28) (some B_137_28) none) (cond (Nat.beq pc 33) (some B_137_33) none)))) (cond (Nat.blt pc 48) (cond (Nat.blt pc 42) (cond (Nat.beq pc 37) (some B_137_37) none) (cond (Nat.blt pc 45) (cond (Nat.beq pc 42) (some B_137_42) none) (cond (Nat.beq pc 45) (some B_137_45) none))) (cond (Nat.blt pc 49) (cond (Nat.beq pc 48) (some B_137_48) none) (cond (Nat.blt pc 58) (cond (Nat.beq pc 49) (some B_137_49) none) (cond (Nat.beq pc 58) (some B_137_58) none)))))
noncomputable def B_138_0 : XK := X_load xkR 2 <| X_push (.inr (.inr (.inl 2))) <| X_ifr2 p2_ne 13 <| X_load xkI 1 <| X_newa 14 <| X_jump 24
noncomputable def B_138_13 : XK := X_load xkR 2 <| X_stop
noncomputable def B_138_17 : XK := X_load xkI 1 <| X_stop
noncomputable def B_138_21 : XK := X_stop
noncomputable def B_138_24 : XK := X_store xkR 3 <| X_load xkR 0 <| X_push (.inl 0) <| X_load xkR 3 <| X_push (.inl 0) <| X_load xkR 0 <| X_alen <| X_load xkI 1 <| X_min <| X_jump 35
noncomputable def B_138_35 : XK := X_acopy xok <| X_jump 38
noncomputable def B_138_38 : XK := X_load xkR 3 <| X_ret xkR
noncomputable def T_138 : Nat → Option XK := fun pc => (cond (Nat.blt pc 21) (cond (Nat.blt pc 13) (cond (Nat.beq pc 0) (some B_138_0) none) (cond (Nat.blt pc 17) (cond (Nat.beq pc 13) (some B_138_13) none) (cond (Nat.beq pc 17) (some B_138_17) none))) (cond (Nat.blt pc 35) (cond (Nat.blt pc 24) (cond (Nat.beq pc 21) (some B_138_21) none) (cond (Nat.beq pc 24) (some B_138_24) none)) (cond (Nat.blt pc 38) (cond (Nat.beq pc 35) (some B_138_35) none) (cond (Nat.beq pc 38) (some B_138_38) none))))
