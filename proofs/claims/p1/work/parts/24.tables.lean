noncomputable def B_0_0 : XK := X_load xkR 0 <| X_oinit <| X_jump 4
noncomputable def B_0_4 : XK := X_load xkR 0 <| X_push (.inl 276) <| X_push (.inl 4) <| X_multi 10 <| X_putf xkR 12 0 <| X_load xkR 0 <| X_push (.inl 276) <| X_newa 0 <| X_putf xkR 12 1 <| X_load xkR 0 <| X_push (.inl 12) <| X_newa 2 <| X_putf xkR 12 2 <| X_load xkR 0 <| X_push (.inl 5) <| X_push (.inl 64) <| X_multi 10 <| X_putf xkR 12 3 <| X_load xkR 0 <| X_push (.inl 5) <| X_newa 0 <| X_putf xkR 12 4 <| X_load xkR 0 <| X_push (.inl 32) <| X_newa 0 <| X_putf xkR 12 5 <| X_load xkR 0 <| X_push (.inl 91) <| X_newa 0 <| X_putf xkR 12 6 <| X_load xkR 0 <| X_push (.inl 2) <| X_newa 0 <| X_dup <| X_push (.inl 0) <| X_push (.inl 0) <| X_ast xt0 xkI <| X_dup <| X_push (.inl 1) <| X_push (.inl 1) <| X_ast xt0 xkI <| X_putf xkR 12 7 <| X_load xkR 0 <| X_push (.inl 7) <| X_newa 0 <| X_putf xkR 12 8 <| X_load xkR 0 <| X_push (.inl 4) <| X_push (.inl 24000) <| X_multi 10 <| X_putf xkR 12 9 <| X_load xkR 0 <| X_push (.inl 4) <| X_newa 0 <| X_putf xkR 12 10 <| X_load xkR 0 <| X_push (.inl 24000) <| X_newa 0 <| X_putf xkR 12 11 <| X_load xkR 0 <| X_push (.inl 250) <| X_newa 0 <| X_putf xkR 12 12 <| X_load xkR 0 <| X_push (.inl 8) <| X_newa 0 <| X_dup <| X_push (.inl 0) <| X_push (.inl 4294967295) <| X_ast xt0 xkI <| X_dup <| X_push (.inl 1) <| X_push (.inl 4294967295) <| X_ast xt0 xkI <| X_dup <| X_push (.inl 2) <| X_push (.inl 4294967295) <| X_ast xt0 xkI <| X_dup <| X_push (.inl 3) <| X_push (.inl 4294967295) <| X_ast xt0 xkI <| X_dup <| X_push (.inl 4) <| X_push (.inl 4294967295) <| X_ast xt0 xkI <| X_dup <| X_push (.inl 5) <| X_push (.inl 4294967295) <| X_ast xt0 xkI <| X_dup <| X_push (.inl 6) <| X_push (.inl 4294967295) <| X_ast xt0 xkI <| X_dup <| X_push (.inl 7) <| X_push (.inl 4294967295) <| X_ast xt0 xkI <| X_putf xkR 12 19 <| X_load xkR 0 <| X_push (.inl 8) <| X_newa 0 <| X_putf xkR 12 20 <| X_load xkR 0 <| X_push (.inl 320) <| X_newa 1 <| X_putf xkR 12 21 <| X_load xkR 0 <| X_push (.inl 8) <| X_newa 0 <| X_putf xkR 12 22 <| X_load xkR 0 <| X_push (.inl 8) <| X_newa 0 <| X_putf xkR 12 23 <| X_load xkR 0 <| X_push (.inl 8) <| X_newa 0 <| X_putf xkR 12 24 <| X_load xkR 0 <| X_push (.inl 276) <| X_push (.inl 4) <| X_multi 10 <| X_putf xkR 12 25 <| X_load xkR 0 <| X_push (.inl 276) <| X_newa 0 <| X_putf xkR 12 26 <| X_load xkR 0 <| X_push (.inl 5) <| X_push (.inl 64) <| X_multi 10 <| X_putf xkR 12 27 <| X_load xkR 0 <| X_push (.inl 5) <| X_newa 0 <| X_putf xkR 12 28 <| X_load xkR 0 <| X_push (.inl 32) <| X_newa 0 <| X_putf xkR 12 29 <| X_load xkR 0 <| X_push (.inl 91) <| X_newa 0 <| X_putf xkR 12 30 <| X_load xkR 0 <| X_push (.inl 2) <| X_newa 0 <| X_putf xkR 12 31 <| X_vret
noncomputable def T_0 : Nat → Option XK := fun pc => (cond (Nat.blt pc 4) (cond (Nat.beq pc 0) (some B_0_0) none) (cond (Nat.beq pc 4) (some B_0_4) none))
noncomputable def B_1_0 : XK := X_load xkR 0 <| X_oinit <| X_jump 4
noncomputable def B_1_4 : XK := X_load xkR 0 <| X_new 9 [.inr (.inr (.inl 0)), .inr (.inr (.inl 0)), .inr (.inr (.inl 0)), .inr (.inr (.inl 0)), .inr (.inr (.inl 0)), .inr (.inr (.inl 0)), .inr (.inr (.inl 0)), .inr (.inr (.inl 0)), .inl 0, .inl 0, .inl 0, .inl 0, .inl 0, .inl 0, .inl 0, .inl 0] 16 <| X_dup <| X_callI 86 1 12
noncomputable def B_1_12 : XK := X_putf xkR 11 0 <| X_load xkR 0 <| X_new 10 [.inr (.inr (.inl 0)), .inr (.inr (.inl 0)), .inl 0, .inr (.inr (.inl 0)), .inr (.inr (.inl 0)), .inr (.inr (.inl 0)), .inr (.inr (.inl 0)), .inr (.inr (.inl 0)), .inr (.inr (.inl 0)), .inr (.inr (.inl 0)), .inr (.inr (.inl 0)), .inl 0, .inl 0, .inl 0] 14 <| X_dup <| X_load xkR 0 <| X_getf 11 0 <| X_callI 87 2 27
noncomputable def B_1_27 : XK := X_putf xkR 11 1 <| X_load xkR 0 <| X_new 4 [.inr (.inr (.inl 0)), .inr (.inr (.inl 0)), .inr (.inr (.inl 0)), .inr (.inr (.inl 0)), .inr (.inr (.inl 0)), .inr (.inr (.inl 0)), .inr (.inr (.inl 0)), .inr (.inr (.inl 0)), .inr (.inr (.inl 0)), .inl 0, .inl 0, .inl 0, .inl 0, .inl 0, .inr (.inl 0), .inr (.inl 0), .inl 0, .inr (.inl 0), .inr (.inl 0), .inr (.inl 0)] 20 <| X_dup <| X_load xkR 0 <| X_getf 11 1 <| X_callI 88 2 42
noncomputable def B_1_42 : XK := X_putf xkR 11 2 <| X_load xkR 0 <| X_new 8 [.inr (.inr (.inl 0)), .inr (.inr (.inl 0)), .inr (.inr (.inl 0)), .inr (.inr (.inl 0)), .inr (.inr (.inl 0)), .inr (.inr (.inl 0)), .inr (.inr (.inl 0)), .inl 0, .inl 0, .inl 0, .inr (.inr (.inl 0)), .inl 0, .inl 0, .inr (.inl 0), .inr (.inl 0), .inr (.inl 0), .inr (.inl 0), .inr (.inl 0), .inl 0] 19 <| X_dup <| X_load xkR 0 <| X_getf 11 2 <| X_callI 89 2 57
noncomputable def B_1_57 : XK := X_putf xkR 11 3 <| X_load xkR 0 <| X_new 2 [.inr (.inr (.inl 0)), .inr (.inr (.inl 0)), .inr (.inr (.inl 0)), .inr (.inr (.inl 0)), .inl 0, .inr (.inr (.inl 0)), .inr (.inr (.inl 0)), .inr (.inr (.inl 0)), .inr (.inr (.inl 0)), .inr (.inr (.inl 0)), .inl 0, .inl 0, .inl 0, .inl 0] 14 <| X_dup <| X_load xkR 0 <| X_getf 11 1 <| X_load xkR 0 <| X_getf 11 2 <| X_callI 90 3 76
noncomputable def B_1_76 : XK := X_putf xkR 11 4 <| X_load xkR 0 <| X_new 7 [.inr (.inr (.inl 0)), .inr (.inr (.inl 0)), .inl 0, .inl 0, .inl 0, .inl 0, .inl 0, .inl 0] 8 <| X_dup <| X_load xkR 0 <| X_getf 11 4 <| X_callI 91 2 91
noncomputable def B_1_91 : XK := X_putf xkR 11 5 <| X_load xkR 0 <| X_load xkR 0 <| X_getf 11 1 <| X_push (.inl 12) <| X_callV 10 92 2 104
noncomputable def B_1_104 : XK := X_putf xkI 11 6 <| X_load xkR 0 <| X_push (.inl 12) <| X_newa 2 <| X_putf xkR 11 7 <| X_load xkR 0 <| X_push (.inl 8) <| X_newa 11 <| X_putf xkR 11 8 <| X_load xkR 0 <| X_push (.inl 5) <| X_newa 0 <| X_putf xkR 11 9 <| X_load xkR 0 <| X_new 0 [.inl 0, .inr (.inr (.inl 0)), .inl 0, .inl 0, .inl 0, .inl 0, .inl 0, .inl 0, .inl 0, .inr (.inl 0), .inr (.inl 0)] 11 <| X_dup <| X_push (.inl 4294967295) <| X_load xkR 0 <| X_getf 11 1 <| X_callI 93 3 144
noncomputable def B_1_144 : XK := X_putf xkR 11 12 <| X_push (.inl 0) <| X_store xkI 1 <| X_jump 149
noncomputable def B_1_149 : XK := X_load xkI 1 <| X_load xkR 0 <| X_getf 11 8 <| X_alen <| X_if2 p2_ge d_ge 177 <| X_load xkR 0 <| X_getf 11 8 <| X_load xkI 1 <| X_new 6 [.inr (.inr (.inl 0)), .inl 0, .inr (.inl 0), .inl 0, .inl 0, .inl 0] 6 <| X_dup <| X_callI 94 1 170
noncomputable def B_1_170 : XK := X_aast xok <| X_iinc 1 1 <| X_jump 149
noncomputable def B_1_177 : XK := X_load xkR 0 <| X_getf 11 1 <| X_push (.inl 90) <| X_callV 10 92 2 186
noncomputable def B_1_186 : XK := X_store xkI 1 <| X_push (.inl 90) <| X_newa 0 <| X_store xkR 2 <| X_load xkR 0 <| X_new 3 [.inr (.inr (.inl 0)), .inl 0, .inr (.inr (.inl 0)), .inr (.inr (.inl 0)), .inl 0, .inl 0, .inl 0] 7 <| X_dup <| X_load xkR 0 <| X_getf 11 1 <| X_load xkI 1 <| X_load xkR 2 <| X_callI 95 4 206
noncomputable def B_1_206 : XK := X_putf xkR 11 10 <| X_load xkR 0 <| X_new 3 [.inr (.inr (.inl 0)), .inl 0, .inr (.inr (.inl 0)), .inr (.inr (.inl 0)), .inl 0, .inl 0, .inl 0] 7 <| X_dup <| X_load xkR 0 <| X_getf 11 1 <| X_load xkI 1 <| X_load xkR 2 <| X_callI 95 4 223
noncomputable def B_1_223 : XK := X_putf xkR 11 11 <| X_vret
noncomputable def T_1 : Nat → Option XK := fun pc => (cond (Nat.blt pc 104) (cond (Nat.blt pc 42) (cond (Nat.blt pc 12) (cond (Nat.blt pc 4) (cond (Nat.beq pc 0) (some B_1_0) none) (cond (Nat.beq pc 4) (some B_1_4) none)) (cond (Nat.blt pc 27) (cond (Nat.beq pc 12) (some B_1_12) none) (cond (Nat.beq pc 27) (some B_1_27) none))) (cond (Nat.blt pc 76) (cond (Nat.blt pc 57) (cond (Nat.beq pc 42) (some B_1_42) none) (cond (Nat.beq pc 57) (some B_1_57) none)) (cond (Nat.blt pc 91) (cond (Nat.beq pc 76) (some B_1_76) none) (cond (Nat.beq pc 91) (some B_1_91) none)))) (cond (Nat.blt pc 177) (cond (Nat.blt pc 149) (cond (Nat.blt pc 144) (cond (Nat.beq pc 104) (some B_1_104) none) (cond (Nat.beq pc 144) (some B_1_144) none)) (cond (Nat.blt pc 170) (cond (Nat.beq pc 149) (some B_1_149) none) (cond (Nat.beq pc 170) (some B_1_170) none))) (cond (Nat.blt pc 206) (cond (Nat.blt pc 186) (cond (Nat.beq pc 177) (some B_1_177) none) (cond (Nat.beq pc 186) (some B_1_186) none)) (cond (Nat.blt pc 223) (cond (Nat.beq pc 206) (some B_1_206) none) (cond (Nat.beq pc 223) (some B_1_223) none)))))
noncomputable def B_2_0 : XK := X_load xkI 1 <| X_i2l <| X_push (.inr (.inl 1)) <| X_push (.inr (.inl 60)) <| X_callS 96 3 9
noncomputable def B_2_9 : XK := X_if p_ne d_ne 19 <| X_load xkR 0 <| X_push (.inl 4294967294) <| X_callV 12 97 2 18
noncomputable def B_2_18 : XK := X_ret xkI
noncomputable def B_2_19 : XK := X_push (.inl 0) <| X_store xkI 2 <| X_push (.inl 0) <| X_store xkI 3 <| X_jump 23
noncomputable def B_2_23 : XK := X_load xkI 3 <| X_load xkI 1 <| X_if2 p2_ge d_ge 64 <| X_load xkR 0 <| X_push (.inl 4) <| X_callV 12 98 2 33
noncomputable def B_2_33 : XK := X_store xkI 4 <| X_load xkI 2 <| X_load xkR 0 <| X_load xkI 4 <| X_load xkR 0 <| X_push (.inl 8) <| X_callV 12 98 2 45
noncomputable def B_2_45 : XK := X_callV 12 99 3 48
noncomputable def B_2_48 : XK := X_if p_eq d_eq 55 <| X_push (.inl 1) <| X_jump 56
noncomputable def B_2_55 : XK := X_push (.inl 0) <| X_jump 56
noncomputable def B_2_56 : XK := X_ibin x_iadd xg_add <| X_store xkI 2 <| X_iinc 3 1 <| X_jump 23
noncomputable def B_2_64 : XK := X_load xkI 2 <| X_ret xkI
noncomputable def T_2 : Nat → Option XK := fun pc => (cond (Nat.blt pc 33) (cond (Nat.blt pc 18) (cond (Nat.blt pc 9) (cond (Nat.beq pc 0) (some B_2_0) none) (cond (Nat.beq pc 9) (some B_2_9) none)) (cond (Nat.blt pc 19) (cond (Nat.beq pc 18) (some B_2_18) none) (cond (Nat.blt pc 23) (cond (Nat.beq pc 19) (some B_2_19) none) (cond (Nat.beq pc 23) (some B_2_23) none)))) (cond (Nat.blt pc 55) (cond (Nat.blt pc 45) (cond (Nat.beq pc 33) (some B_2_33) none) (cond (Nat.blt pc 48) (cond (Nat.beq pc 45) (some B_2_45) none) (cond (Nat.beq pc 48) (some B_2_48) none))) (cond (Nat.blt pc 56) (cond (Nat.beq pc 55) (some B_2_55) none) (cond (Nat.blt pc 64) (cond (Nat.beq pc 56) (some B_2_56) none) (cond (Nat.beq pc 64) (some B_2_64) none)))))
noncomputable def B_3_0 : XK := X_load xkI 1 <| X_push (.inl 1) <| X_if2 p2_lt d_lt 11 <| X_load xkI 1 <| X_push (.inl 60) <| X_if2 p2_le d_le 18 <| X_jump 11
noncomputable def B_3_11 : XK := X_load xkR 0 <| X_push (.inl 4294967294) <| X_callV 11 100 2 17
noncomputable def B_3_17 : XK := X_ret xkI
noncomputable def B_3_18 : XK := X_push (.inl 0) <| X_store xkI 2 <| X_push (.inl 0) <| X_store xkI 3 <| X_jump 22
noncomputable def B_3_22 : XK := X_load xkI 3 <| X_load xkI 1 <| X_if2 p2_ge d_ge 254 <| X_load xkR 0 <| X_getf 11 10 <| X_push (.inr (.inl 4)) <| X_callV 3 101 2 37
noncomputable def B_3_37 : XK := X_l2i <| X_store xkI 4 <| X_load xkR 0 <| X_getf 11 10 <| X_push (.inr (.inl 8)) <| X_callV 3 101 2 50
noncomputable def B_3_50 : XK := X_l2i <| X_store xkI 5 <| X_load xkR 0 <| X_getf 11 10 <| X_load xkI 4 <| X_callV 3 102 2 62
noncomputable def B_3_62 : XK := X_store xkR 6 <| X_load xkR 0 <| X_load xkR 0 <| X_getf 11 10 <| X_load xkI 4 <| X_callV 3 103 2 74
noncomputable def B_3_74 : XK := X_callV 11 104 2 77
noncomputable def B_3_77 : XK := X_pop <| X_load xkR 6 <| X_ifr p_eq 100 <| X_load xkI 5 <| X_push (.inl 5) <| X_if2 p2_ne d_ne 100 <| X_load xkR 0 <| X_load xkR 6 <| X_push (.inl 0) <| X_callV 0 105 2 96
noncomputable def B_3_96 : XK := X_callV 11 104 2 99
noncomputable def B_3_99 : XK := X_pop <| X_jump 100
noncomputable def B_3_100 : XK := X_load xkR 6 <| X_ifr p_eq 248 <| X_load xkR 0 <| X_load xkR 6 <| X_load xkI 5 <| X_callV 11 106 3 113
noncomputable def B_3_113 : XK := X_if p_ne d_ne 119 <| X_jump 248
noncomputable def B_3_119 : XK := X_load xkR 0 <| X_getf 11 12 <| X_load xkR 6 <| X_callV 0 107 2 128
noncomputable def B_3_128 : XK := X_load xkI 5 <| X_push (.inl 4) <| X_if2 p2_gt d_gt 161 <| X_load xkR 0 <| X_load xkR 6 <| X_load xkI 5 <| X_callV 11 108 3 142
noncomputable def B_3_142 : XK := X_load xkR 6 <| X_push (.inl 1) <| X_callV 0 109 2 148
noncomputable def B_3_148 : XK := X_load xkR 6 <| X_push (.inl 0) <| X_load xkR 0 <| X_getf 11 4 <| X_callV 0 110 3 158
noncomputable def B_3_158 : XK := X_jump 236
noncomputable def B_3_161 : XK := X_load xkI 5 <| X_push (.inl 5) <| X_if2 p2_ne d_ne 190 <| X_load xkR 6 <| X_push (.inl 0) <| X_load xkR 0 <| X_getf 11 4 <| X_callV 0 111 3 177
noncomputable def B_3_177 : XK := X_load xkR 6 <| X_push (.inl 1) <| X_load xkR 0 <| X_getf 11 4 <| X_callV 0 110 3 187
noncomputable def B_3_187 : XK := X_jump 236
noncomputable def B_3_190 : XK := X_load xkI 5 <| X_push (.inl 6) <| X_if2 p2_ne d_ne 213 <| X_load xkR 0 <| X_getf 11 10 <| X_load xkI 4 <| X_load xkR 0 <| X_getf 11 4 <| X_callV 3 112 3 210
noncomputable def B_3_210 : XK := X_jump 236
noncomputable def B_3_213 : XK := X_load xkR 6 <| X_load xkR 0 <| X_getf 11 10 <| X_getf 3 1 <| X_load xkR 0 <| X_getf 11 10 <| X_getf 3 2 <| X_load xkR 0 <| X_getf 11 4 <| X_callV 0 113 4 236
noncomputable def B_3_236 : XK := X_load xkR 0 <| X_load xkR 6 <| X_callV 11 114 2 242
noncomputable def B_3_242 : XK := X_if p_ne d_ne 248 <| X_iinc 2 1 <| X_jump 248
noncomputable def B_3_248 : XK := X_iinc 3 1 <| X_jump 22
noncomputable def B_3_254 : XK := X_load xkI 2 <| X_ret xkI
noncomputable def T_3 : Nat → Option XK := fun pc => (cond (Nat.blt pc 119) (cond (Nat.blt pc 62) (cond (Nat.blt pc 18) (cond (Nat.blt pc 11) (cond (Nat.beq pc 0) (some B_3_0) none) (cond (Nat.blt pc 17) (cond (Nat.beq pc 11) (some B_3_11) none) (cond (Nat.beq pc 17) (some B_3_17) none))) (cond (Nat.blt pc 37) (cond (Nat.blt pc 22) (cond (Nat.beq pc 18) (some B_3_18) none) (cond (Nat.beq pc 22) (some B_3_22) none)) (cond (Nat.blt pc 50) (cond (Nat.beq pc 37) (some B_3_37) none) (cond (Nat.beq pc 50) (some B_3_50) none)))) (cond (Nat.blt pc 96) (cond (Nat.blt pc 74) (cond (Nat.beq pc 62) (some B_3_62) none) (cond (Nat.blt pc 77) (cond (Nat.beq pc 74) (some B_3_74) none) (cond (Nat.beq pc 77) (some B_3_77) none))) (cond (Nat.blt pc 100) (cond (Nat.blt pc 99) (cond (Nat.beq pc 96) (some B_3_96) none) (cond (Nat.beq pc 99) (some B_3_99) none)) (cond (Nat.blt pc 113) (cond (Nat.beq pc 100) (some B_3_100) none) (cond (Nat.beq pc 113) (some B_3_113) none))))) (cond (Nat.blt pc 187) (cond (Nat.blt pc 148) (cond (Nat.blt pc 128) (cond (Nat.beq pc 119) (some B_3_119) none) (cond (Nat.blt pc 142) (cond (Nat.beq pc 128) (some B_3_128) none) (cond (Nat.beq pc 142) (some B_3_142) none))) (cond (Nat.blt pc 161) (cond (Nat.blt pc 158) (cond (Nat.beq pc 148) (some B_3_148) none) (cond (Nat.beq pc 158) (some B_3_158) none)) (cond (Nat.blt pc 177) (cond (Nat.beq pc 161) (some B_3_161) none) (cond (Nat.beq pc 177) (some B_3_177) none)))) (cond (Nat.blt pc 236) (cond (Nat.blt pc 210) (cond (Nat.blt pc 190) (cond (Nat.beq pc 187) (some B_3_187) none) (cond (Nat.beq pc 190) (some B_3_190) none)) (cond (Nat.blt pc 213) (cond (Nat.beq pc 210) (some B_3_210) none) (cond (Nat.beq pc 213) (some B_3_213) none))) (cond (Nat.blt pc 248) (cond (Nat.blt pc 242) (cond (Nat.beq pc 236) (some B_3_236) none) (cond (Nat.beq pc 242) (some B_3_242) none)) (cond (Nat.blt pc 254) (cond (Nat.beq pc 248) (some B_3_248) none) (cond (Nat.beq pc 254) (some B_3_254) none))))))
noncomputable def B_4_0 : XK := X_load xkR 0 <| X_getf 11 10 <| X_load xkI 1 <| X_callV 3 115 2 8
noncomputable def B_4_8 : XK := X_if p_eq d_eq 22 <| X_load xkR 0 <| X_getf 11 10 <| X_load xkI 2 <| X_callV 3 115 2 19
noncomputable def B_4_19 : XK := X_if p_ne d_ne 29 <| X_jump 22
noncomputable def B_4_22 : XK := X_load xkR 0 <| X_push (.inl 4294967294) <| X_callV 11 100 2 28
noncomputable def B_4_28 : XK := X_ret xkI
noncomputable def B_4_29 : XK := X_load xkR 0 <| X_load xkR 0 <| X_getf 11 10 <| X_load xkI 1 <| X_callV 3 103 2 38
noncomputable def B_4_38 : XK := X_callV 11 116 2 41
noncomputable def B_4_41 : XK := X_store xkI 3 <| X_load xkR 0 <| X_getf 11 1 <| X_load xkR 0 <| X_getf 11 4 <| X_getf 2 4 <| X_push (.inl 4) <| X_ibin x_iadd xg_add <| X_load xkI 3 <| X_callV 10 117 3 59
noncomputable def B_4_59 : XK := X_load xkR 0 <| X_load xkR 0 <| X_getf 11 10 <| X_load xkI 2 <| X_callV 3 103 2 68
noncomputable def B_4_68 : XK := X_callV 11 116 2 71
noncomputable def B_4_71 : XK := X_store xkI 4 <| X_load xkR 0 <| X_getf 11 1 <| X_load xkR 0 <| X_getf 11 4 <| X_getf 2 4 <| X_push (.inl 6) <| X_callV 10 118 3 89
noncomputable def B_4_89 : XK := X_load xkR 0 <| X_getf 11 3 <| X_load xkI 3 <| X_load xkI 4 <| X_callV 8 119 3 99
noncomputable def B_4_99 : XK := X_callS 120 1 102
noncomputable def B_4_102 : XK := X_ret xkI
noncomputable def T_4 : Nat → Option XK := fun pc => (cond (Nat.blt pc 41) (cond (Nat.blt pc 22) (cond (Nat.blt pc 8) (cond (Nat.beq pc 0) (some B_4_0) none) (cond (Nat.blt pc 19) (cond (Nat.beq pc 8) (some B_4_8) none) (cond (Nat.beq pc 19) (some B_4_19) none))) (cond (Nat.blt pc 29) (cond (Nat.blt pc 28) (cond (Nat.beq pc 22) (some B_4_22) none) (cond (Nat.beq pc 28) (some B_4_28) none)) (cond (Nat.blt pc 38) (cond (Nat.beq pc 29) (some B_4_29) none) (cond (Nat.beq pc 38) (some B_4_38) none)))) (cond (Nat.blt pc 71) (cond (Nat.blt pc 59) (cond (Nat.beq pc 41) (some B_4_41) none) (cond (Nat.blt pc 68) (cond (Nat.beq pc 59) (some B_4_59) none) (cond (Nat.beq pc 68) (some B_4_68) none))) (cond (Nat.blt pc 99) (cond (Nat.blt pc 89) (cond (Nat.beq pc 71) (some B_4_71) none) (cond (Nat.beq pc 89) (some B_4_89) none)) (cond (Nat.blt pc 102) (cond (Nat.beq pc 99) (some B_4_99) none) (cond (Nat.beq pc 102) (some B_4_102) none)))))
noncomputable def B_5_0 : XK := X_load xkR 0 <| X_getf 11 13 <| X_if p_ne d_ne 14 <| X_load xkR 0 <| X_push (.inl 4294967291) <| X_callV 11 100 2 13
noncomputable def B_5_13 : XK := X_ret xkI
noncomputable def T_5 : Nat → Option XK := fun pc => (cond (Nat.blt pc 13) (cond (Nat.beq pc 0) (some B_5_0) none) (cond (Nat.beq pc 13) (some B_5_13) none))
noncomputable def B_6_0 : XK := X_load xkI 1 <| X_callS 121 1 4
noncomputable def B_6_4 : XK := X_if p_eq d_eq 21 <| X_load xkI 2 <| X_callS 121 1 11
noncomputable def B_6_11 : XK := X_if p_eq d_eq 21 <| X_load xkI 3 <| X_callS 121 1 18
noncomputable def B_6_18 : XK := X_if p_ne d_ne 28 <| X_jump 21
noncomputable def B_6_21 : XK := X_load xkR 0 <| X_push (.inl 4294967294) <| X_callV 11 100 2 27
noncomputable def B_6_27 : XK := X_ret xkI
noncomputable def B_6_28 : XK := X_load xkR 0 <| X_load xkI 2 <| X_callV 11 122 2 33
noncomputable def B_6_33 : XK := X_if p_eq d_eq 44 <| X_stop
noncomputable def B_6_44 : XK := X_load xkR 0 <| X_push (.inl 4294967292) <| X_callV 11 100 2 50
noncomputable def B_6_50 : XK := X_ret xkI
noncomputable def T_6 : Nat → Option XK := fun pc => (cond (Nat.blt pc 27) (cond (Nat.blt pc 11) (cond (Nat.blt pc 4) (cond (Nat.beq pc 0) (some B_6_0) none) (cond (Nat.beq pc 4) (some B_6_4) none)) (cond (Nat.blt pc 18) (cond (Nat.beq pc 11) (some B_6_11) none) (cond (Nat.blt pc 21) (cond (Nat.beq pc 18) (some B_6_18) none) (cond (Nat.beq pc 21) (some B_6_21) none)))) (cond (Nat.blt pc 33) (cond (Nat.blt pc 28) (cond (Nat.beq pc 27) (some B_6_27) none) (cond (Nat.beq pc 28) (some B_6_28) none)) (cond (Nat.blt pc 44) (cond (Nat.beq pc 33) (some B_6_33) none) (cond (Nat.blt pc 50) (cond (Nat.beq pc 44) (some B_6_44) none) (cond (Nat.beq pc 50) (some B_6_50) none)))))
noncomputable def B_7_0 : XK := X_load xkR 0 <| X_getf 11 10 <| X_load xkI 1 <| X_callV 3 102 2 8
noncomputable def B_7_8 : XK := X_store xkR 3 <| X_load xkR 3 <| X_ifr p_eq 23 <| X_load xkI 2 <| X_if p_lt d_lt 23 <| X_load xkI 2 <| X_push (.inl 6) <| X_if2 p2_le d_le 30 <| X_jump 23
noncomputable def B_7_23 : XK := X_load xkR 0 <| X_push (.inl 4294967294) <| X_callV 11 100 2 29
noncomputable def B_7_29 : XK := X_ret xkI
noncomputable def B_7_30 : XK := X_load xkI 2 <| X_tsw 0 [68, 93, 73, 93, 116, 122] 128
noncomputable def B_7_68 : XK := X_load xkR 3 <| X_getf 0 8 <| X_ret xkI
noncomputable def B_7_73 : XK := X_load xkR 3 <| X_getf 0 5 <| X_if p_eq d_eq 91 <| X_stop
noncomputable def B_7_91 : XK := X_push (.inl 0) <| X_jump 92
noncomputable def B_7_92 : XK := X_ret xkI
noncomputable def B_7_93 : XK := X_load xkR 0 <| X_getf 11 3 <| X_push (.inl 2) <| X_load xkR 0 <| X_load xkR 3 <| X_load xkI 2 <| X_push (.inl 2) <| X_idiv <| X_callV 0 123 2 106
noncomputable def B_7_106 : XK := X_callV 11 116 2 109
noncomputable def B_7_109 : XK := X_callV 8 124 3 112
noncomputable def B_7_112 : XK := X_callS 120 1 115
noncomputable def B_7_115 : XK := X_ret xkI
noncomputable def B_7_116 : XK := X_load xkR 3 <| X_push (.inl 0) <| X_callV 0 125 2 121
noncomputable def B_7_121 : XK := X_ret xkI
noncomputable def B_7_122 : XK := X_load xkR 3 <| X_push (.inl 1) <| X_callV 0 125 2 127
noncomputable def B_7_127 : XK := X_ret xkI
noncomputable def B_7_128 : XK := X_load xkR 0 <| X_getf 11 10 <| X_getf 3 5 <| X_load xkR 3 <| X_getf 0 8 <| X_ibin x_isub xg_sub <| X_ret xkI
noncomputable def T_7 : Nat → Option XK := fun pc => (cond (Nat.blt pc 93) (cond (Nat.blt pc 30) (cond (Nat.blt pc 23) (cond (Nat.blt pc 8) (cond (Nat.beq pc 0) (some B_7_0) none) (cond (Nat.beq pc 8) (some B_7_8) none)) (cond (Nat.blt pc 29) (cond (Nat.beq pc 23) (some B_7_23) none) (cond (Nat.beq pc 29) (some B_7_29) none))) (cond (Nat.blt pc 73) (cond (Nat.blt pc 68) (cond (Nat.beq pc 30) (some B_7_30) none) (cond (Nat.beq pc 68) (some B_7_68) none)) (cond (Nat.blt pc 91) (cond (Nat.beq pc 73) (some B_7_73) none) (cond (Nat.blt pc 92) (cond (Nat.beq pc 91) (some B_7_91) none) (cond (Nat.beq pc 92) (some B_7_92) none))))) (cond (Nat.blt pc 116) (cond (Nat.blt pc 109) (cond (Nat.blt pc 106) (cond (Nat.beq pc 93) (some B_7_93) none) (cond (Nat.beq pc 106) (some B_7_106) none)) (cond (Nat.blt pc 112) (cond (Nat.beq pc 109) (some B_7_109) none) (cond (Nat.blt pc 115) (cond (Nat.beq pc 112) (some B_7_112) none) (cond (Nat.beq pc 115) (some B_7_115) none)))) (cond (Nat.blt pc 122) (cond (Nat.blt pc 121) (cond (Nat.beq pc 116) (some B_7_116) none) (cond (Nat.beq pc 121) (some B_7_121) none)) (cond (Nat.blt pc 127) (cond (Nat.beq pc 122) (some B_7_122) none) (cond (Nat.blt pc 128) (cond (Nat.beq pc 127) (some B_7_127) none) (cond (Nat.beq pc 128) (some B_7_128) none))))))
noncomputable def B_8_0 : XK := X_load xkR 0 <| X_load xkI 1 <| X_callV 11 126 2 5
noncomputable def B_8_5 : XK := X_store xkR 6 <| X_load xkR 0 <| X_load xkI 2 <| X_callV 11 126 2 12
noncomputable def B_8_12 : XK := X_store xkR 7 <| X_load xkR 6 <| X_ifr p_eq 24 <| X_load xkR 7 <| X_ifr p_ne 31 <| X_jump 24
noncomputable def B_8_24 : XK := X_load xkR 0 <| X_push (.inl 4294967294) <| X_callV 11 100 2 30
noncomputable def B_8_30 : XK := X_ret xkI
noncomputable def B_8_31 : XK := X_load xkR 6 <| X_callV 6 127 1 36
noncomputable def B_8_36 : XK := X_if p_ne d_ne 47 <| X_load xkR 7 <| X_callV 6 127 1 44
noncomputable def B_8_44 : XK := X_if p_eq d_eq 54 <| X_jump 47
noncomputable def B_8_54 : XK := X_load xkR 6 <| X_callV 6 128 1 59
noncomputable def B_8_59 : XK := X_if p_ne d_ne 70 <| X_stop
noncomputable def B_8_70 : XK := X_push (.inl 1) <| X_jump 75
noncomputable def B_8_75 : XK := X_store xkI 8 <| X_load xkI 8 <| X_if p_ne d_ne 102 <| X_stop
noncomputable def B_8_102 : XK := X_load xkI 8 <| X_if p_eq d_eq 114 <| X_load xkR 0 <| X_push (.inl 4294967292) <| X_callV 11 100 2 113
noncomputable def B_8_113 : XK := X_ret xkI
noncomputable def T_8 : Nat → Option XK := fun pc => (cond (Nat.blt pc 44) (cond (Nat.blt pc 24) (cond (Nat.blt pc 5) (cond (Nat.beq pc 0) (some B_8_0) none) (cond (Nat.blt pc 12) (cond (Nat.beq pc 5) (some B_8_5) none) (cond (Nat.beq pc 12) (some B_8_12) none))) (cond (Nat.blt pc 31) (cond (Nat.blt pc 30) (cond (Nat.beq pc 24) (some B_8_24) none) (cond (Nat.beq pc 30) (some B_8_30) none)) (cond (Nat.blt pc 36) (cond (Nat.beq pc 31) (some B_8_31) none) (cond (Nat.beq pc 36) (some B_8_36) none)))) (cond (Nat.blt pc 70) (cond (Nat.blt pc 54) (cond (Nat.beq pc 44) (some B_8_44) none) (cond (Nat.blt pc 59) (cond (Nat.beq pc 54) (some B_8_54) none) (cond (Nat.beq pc 59) (some B_8_59) none))) (cond (Nat.blt pc 102) (cond (Nat.blt pc 75) (cond (Nat.beq pc 70) (some B_8_70) none) (cond (Nat.beq pc 75) (some B_8_75) none)) (cond (Nat.blt pc 113) (cond (Nat.beq pc 102) (some B_8_102) none) (cond (Nat.beq pc 113) (some B_8_113) none)))))
noncomputable def B_9_0 : XK := X_load xkR 0 <| X_getf 11 10 <| X_load xkI 1 <| X_callV 3 102 2 8
noncomputable def B_9_8 : XK := X_store xkR 3 <| X_load xkR 3 <| X_ifr p_eq 22 <| X_load xkI 2 <| X_if p_lt d_lt 22 <| X_load xkI 2 <| X_push (.inl 1) <| X_if2 p2_le d_le 29 <| X_jump 22
noncomputable def B_9_22 : XK := X_load xkR 0 <| X_push (.inl 4294967294) <| X_callV 11 100 2 28
noncomputable def B_9_28 : XK := X_ret xkI
noncomputable def B_9_29 : XK := X_load xkI 2 <| X_if p_ne d_ne 40 <| X_load xkR 3 <| X_getf 0 9 <| X_jump 44
noncomputable def B_9_40 : XK := X_load xkR 3 <| X_getf 0 10 <| X_jump 44
noncomputable def B_9_44 : XK := X_callS 120 1 47
noncomputable def B_9_47 : XK := X_ret xkI
noncomputable def T_9 : Nat → Option XK := fun pc => (cond (Nat.blt pc 29) (cond (Nat.blt pc 22) (cond (Nat.blt pc 8) (cond (Nat.beq pc 0) (some B_9_0) none) (cond (Nat.beq pc 8) (some B_9_8) none)) (cond (Nat.blt pc 28) (cond (Nat.beq pc 22) (some B_9_22) none) (cond (Nat.beq pc 28) (some B_9_28) none))) (cond (Nat.blt pc 44) (cond (Nat.blt pc 40) (cond (Nat.beq pc 29) (some B_9_29) none) (cond (Nat.beq pc 40) (some B_9_40) none)) (cond (Nat.blt pc 47) (cond (Nat.beq pc 44) (some B_9_44) none) (cond (Nat.beq pc 47) (some B_9_47) none))))
noncomputable def B_10_0 : XK := X_load xkR 0 <| X_getf 11 10 <| X_load xkI 1 <| X_callV 3 102 2 8
noncomputable def B_10_8 : XK := X_store xkR 4 <| X_load xkR 0 <| X_load xkR 0 <| X_getf 11 10 <| X_load xkI 1 <| X_callV 3 103 2 19
noncomputable def B_10_19 : XK := X_callV 11 104 2 22
noncomputable def B_10_22 : XK := X_pop <| X_load xkR 4 <| X_ifr p_eq 46 <| X_load xkI 3 <| X_push (.inl 1) <| X_if2 p2_lt d_lt 46 <| X_load xkI 2 <| X_load xkI 3 <| X_load xkR 4 <| X_callV 0 129 1 40
noncomputable def B_10_40 : XK := X_callS 130 3 43
noncomputable def B_10_43 : XK := X_if p_ne d_ne 53 <| X_jump 46
noncomputable def B_10_46 : XK := X_load xkR 0 <| X_push (.inl 4294967294) <| X_callV 11 100 2 52
noncomputable def B_10_52 : XK := X_ret xkI
noncomputable def T_10 : Nat → Option XK := fun pc => (cond (Nat.blt pc 40) (cond (Nat.blt pc 19) (cond (Nat.blt pc 8) (cond (Nat.beq pc 0) (some B_10_0) none) (cond (Nat.beq pc 8) (some B_10_8) none)) (cond (Nat.blt pc 22) (cond (Nat.beq pc 19) (some B_10_19) none) (cond (Nat.beq pc 22) (some B_10_22) none))) (cond (Nat.blt pc 46) (cond (Nat.blt pc 43) (cond (Nat.beq pc 40) (some B_10_40) none) (cond (Nat.beq pc 43) (some B_10_43) none)) (cond (Nat.blt pc 52) (cond (Nat.beq pc 46) (some B_10_46) none) (cond (Nat.beq pc 52) (some B_10_52) none))))
noncomputable def B_11_0 : XK := X_load xkI 1 <| X_callS 121 1 4
noncomputable def B_11_4 : XK := X_if p_eq d_eq 14 <| X_load xkI 2 <| X_callS 121 1 11
noncomputable def B_11_11 : XK := X_if p_ne d_ne 21 <| X_jump 14
noncomputable def B_11_14 : XK := X_load xkR 0 <| X_push (.inl 4294967294) <| X_callV 11 100 2 20
noncomputable def B_11_20 : XK := X_ret xkI
noncomputable def B_11_21 : XK := X_load xkR 0 <| X_load xkI 1 <| X_callV 11 122 2 26
noncomputable def B_11_26 : XK := X_if p_eq d_eq 37 <| X_stop
noncomputable def B_11_37 : XK := X_load xkR 0 <| X_push (.inl 4294967292) <| X_callV 11 100 2 43
noncomputable def B_11_43 : XK := X_ret xkI
noncomputable def T_11 : Nat → Option XK := fun pc => (cond (Nat.blt pc 20) (cond (Nat.blt pc 11) (cond (Nat.blt pc 4) (cond (Nat.beq pc 0) (some B_11_0) none) (cond (Nat.beq pc 4) (some B_11_4) none)) (cond (Nat.blt pc 14) (cond (Nat.beq pc 11) (some B_11_11) none) (cond (Nat.beq pc 14) (some B_11_14) none))) (cond (Nat.blt pc 26) (cond (Nat.blt pc 21) (cond (Nat.beq pc 20) (some B_11_20) none) (cond (Nat.beq pc 21) (some B_11_21) none)) (cond (Nat.blt pc 37) (cond (Nat.beq pc 26) (some B_11_26) none) (cond (Nat.blt pc 43) (cond (Nat.beq pc 37) (some B_11_37) none) (cond (Nat.beq pc 43) (some B_11_43) none)))))
noncomputable def B_12_0 : XK := X_load xkR 0 <| X_getf 11 10 <| X_load xkI 1 <| X_callV 3 102 2 8
noncomputable def B_12_8 : XK := X_store xkR 3 <| X_load xkR 0 <| X_load xkR 0 <| X_getf 11 10 <| X_load xkI 1 <| X_callV 3 103 2 18
noncomputable def B_12_18 : XK := X_callV 11 104 2 21
noncomputable def B_12_21 : XK := X_pop <| X_load xkR 3 <| X_ifr p_eq 33 <| X_load xkI 2 <| X_callS 121 1 30
noncomputable def B_12_30 : XK := X_if p_ne d_ne 40 <| X_jump 33
noncomputable def B_12_33 : XK := X_load xkR 0 <| X_push (.inl 4294967294) <| X_callV 11 100 2 39
noncomputable def B_12_39 : XK := X_ret xkI
noncomputable def B_12_40 : XK := X_load xkR 0 <| X_load xkI 2 <| X_callV 11 122 2 45
noncomputable def B_12_45 : XK := X_if p_ne d_ne 55 <| X_load xkR 0 <| X_push (.inl 4294967292) <| X_callV 11 100 2 54
noncomputable def B_12_54 : XK := X_ret xkI
noncomputable def T_12 : Nat → Option XK := fun pc => (cond (Nat.blt pc 33) (cond (Nat.blt pc 18) (cond (Nat.blt pc 8) (cond (Nat.beq pc 0) (some B_12_0) none) (cond (Nat.beq pc 8) (some B_12_8) none)) (cond (Nat.blt pc 21) (cond (Nat.beq pc 18) (some B_12_18) none) (cond (Nat.blt pc 30) (cond (Nat.beq pc 21) (some B_12_21) none) (cond (Nat.beq pc 30) (some B_12_30) none)))) (cond (Nat.blt pc 40) (cond (Nat.blt pc 39) (cond (Nat.beq pc 33) (some B_12_33) none) (cond (Nat.beq pc 39) (some B_12_39) none)) (cond (Nat.blt pc 45) (cond (Nat.beq pc 40) (some B_12_40) none) (cond (Nat.blt pc 54) (cond (Nat.beq pc 45) (some B_12_45) none) (cond (Nat.beq pc 54) (some B_12_54) none)))))
noncomputable def B_13_0 : XK := X_load xkI 1 <| X_callS 121 1 4
noncomputable def B_13_4 : XK := X_if p_eq d_eq 17 <| X_load xkR 0 <| X_getf 11 5 <| X_callV 7 131 1 14
noncomputable def B_13_14 : XK := X_jump 18
noncomputable def B_13_17 : XK := X_push (.inl 4294967295) <| X_jump 18
noncomputable def B_13_18 : XK := X_store xkI 2 <| X_load xkR 0 <| X_getf 11 1 <| X_load xkR 0 <| X_getf 11 4 <| X_getf 2 4 <| X_push (.inl 0) <| X_ibin x_iadd xg_add <| X_callV 10 132 2 35
noncomputable def B_13_35 : XK := X_store xkI 3 <| X_load xkR 0 <| X_getf 11 1 <| X_callV 10 133 1 43
noncomputable def B_13_43 : XK := X_store xkI 4 <| X_load xkR 0 <| X_getf 11 1 <| X_load xkR 0 <| X_getf 11 4 <| X_getf 2 4 <| X_push (.inl 6) <| X_callV 10 118 3 61
noncomputable def B_13_61 : XK := X_load xkR 0 <| X_getf 11 5 <| X_push (.inl 0) <| X_putf xkI 7 2 <| X_load xkI 1 <| X_callS 121 1 73
noncomputable def B_13_73 : XK := X_if p_ne d_ne 83 <| X_load xkR 0 <| X_push (.inl 4294967294) <| X_callV 11 100 2 82
noncomputable def B_13_82 : XK := X_ret xkI
noncomputable def B_13_83 : XK := X_load xkI 2 <| X_push (.inl 4294967295) <| X_if2 p2_eq d_eq 101 <| X_load xkR 0 <| X_push (.inl 4294967294) <| X_callV 11 100 2 94
noncomputable def B_13_94 : XK := X_pop <| X_push (.inl 4294966996) <| X_load xkI 2 <| X_ibin x_isub xg_sub <| X_ret xkI
noncomputable def T_13 : Nat → Option XK := fun pc => (cond (Nat.blt pc 43) (cond (Nat.blt pc 17) (cond (Nat.blt pc 4) (cond (Nat.beq pc 0) (some B_13_0) none) (cond (Nat.blt pc 14) (cond (Nat.beq pc 4) (some B_13_4) none) (cond (Nat.beq pc 14) (some B_13_14) none))) (cond (Nat.blt pc 18) (cond (Nat.beq pc 17) (some B_13_17) none) (cond (Nat.blt pc 35) (cond (Nat.beq pc 18) (some B_13_18) none) (cond (Nat.beq pc 35) (some B_13_35) none)))) (cond (Nat.blt pc 82) (cond (Nat.blt pc 61) (cond (Nat.beq pc 43) (some B_13_43) none) (cond (Nat.blt pc 73) (cond (Nat.beq pc 61) (some B_13_61) none) (cond (Nat.beq pc 73) (some B_13_73) none))) (cond (Nat.blt pc 83) (cond (Nat.beq pc 82) (some B_13_82) none) (cond (Nat.blt pc 94) (cond (Nat.beq pc 83) (some B_13_83) none) (cond (Nat.beq pc 94) (some B_13_94) none)))))
noncomputable def B_14_0 : XK := X_load xkR 0 <| X_load xkI 1 <| X_callV 11 126 2 5
noncomputable def B_14_5 : XK := X_store xkR 3 <| X_load xkR 3 <| X_ifr p_ne 14 <| X_push (.inr (.inl 0)) <| X_jump 19
noncomputable def B_14_14 : XK := X_load xkR 3 <| X_load xkI 2 <| X_callV 6 134 2 19
noncomputable def B_14_19 : XK := X_ret xkL
noncomputable def T_14 : Nat → Option XK := fun pc => (cond (Nat.blt pc 14) (cond (Nat.blt pc 5) (cond (Nat.beq pc 0) (some B_14_0) none) (cond (Nat.beq pc 5) (some B_14_5) none)) (cond (Nat.blt pc 19) (cond (Nat.beq pc 14) (some B_14_14) none) (cond (Nat.beq pc 19) (some B_14_19) none)))
noncomputable def B_15_0 : XK := X_load xkI 1 <| X_if p_lt d_lt 11 <| X_load xkI 1 <| X_push (.inl 255) <| X_if2 p2_le d_le 18 <| X_jump 11
noncomputable def B_15_11 : XK := X_load xkR 0 <| X_push (.inl 4294967294) <| X_callV 11 100 2 17
noncomputable def B_15_17 : XK := X_ret xkI
noncomputable def B_15_18 : XK := X_load xkR 0 <| X_getf 11 5 <| X_getf 7 2 <| X_push (.inl 250) <| X_if2 p2_lt d_lt 38 <| X_stop
noncomputable def B_15_38 : XK := X_load xkR 0 <| X_getf 11 5 <| X_load xkI 1 <| X_callV 7 135 2 46
noncomputable def B_15_46 : XK := X_load xkR 0 <| X_getf 11 5 <| X_getf 7 2 <| X_ret xkI
noncomputable def T_15 : Nat → Option XK := fun pc => (cond (Nat.blt pc 18) (cond (Nat.blt pc 11) (cond (Nat.beq pc 0) (some B_15_0) none) (cond (Nat.blt pc 17) (cond (Nat.beq pc 11) (some B_15_11) none) (cond (Nat.beq pc 17) (some B_15_17) none))) (cond (Nat.blt pc 38) (cond (Nat.beq pc 18) (some B_15_18) none) (cond (Nat.blt pc 46) (cond (Nat.beq pc 38) (some B_15_38) none) (cond (Nat.beq pc 46) (some B_15_46) none))))
noncomputable def B_16_0 : XK := X_load xkR 0 <| X_getf 11 10 <| X_load xkI 1 <| X_callV 3 102 2 8
noncomputable def B_16_8 : XK := X_store xkR 2 <| X_load xkR 2 <| X_ifr p_ne 20 <| X_load xkR 0 <| X_push (.inl 4294967294) <| X_callV 11 100 2 19
noncomputable def B_16_19 : XK := X_ret xkI
noncomputable def B_16_20 : XK := X_load xkR 2 <| X_getf 0 8 <| X_load xkR 0 <| X_getf 11 10 <| X_getf 3 5 <| X_if2 p2_lt d_lt 41 <| X_load xkR 0 <| X_push (.inl 4294967291) <| X_callV 11 100 2 40
noncomputable def B_16_40 : XK := X_ret xkI
noncomputable def T_16 : Nat → Option XK := fun pc => (cond (Nat.blt pc 19) (cond (Nat.blt pc 8) (cond (Nat.beq pc 0) (some B_16_0) none) (cond (Nat.beq pc 8) (some B_16_8) none)) (cond (Nat.blt pc 20) (cond (Nat.beq pc 19) (some B_16_19) none) (cond (Nat.blt pc 40) (cond (Nat.beq pc 20) (some B_16_20) none) (cond (Nat.beq pc 40) (some B_16_40) none))))
noncomputable def B_17_0 : XK := X_load xkR 0 <| X_load xkI 1 <| X_callV 11 126 2 5
noncomputable def B_17_5 : XK := X_store xkR 2 <| X_load xkR 2 <| X_ifr p_ne 14 <| X_push (.inl 4294967295) <| X_jump 18
noncomputable def B_17_14 : XK := X_load xkR 2 <| X_getf 6 1 <| X_jump 18
noncomputable def B_17_18 : XK := X_ret xkI
noncomputable def T_17 : Nat → Option XK := fun pc => (cond (Nat.blt pc 14) (cond (Nat.blt pc 5) (cond (Nat.beq pc 0) (some B_17_0) none) (cond (Nat.beq pc 5) (some B_17_5) none)) (cond (Nat.blt pc 18) (cond (Nat.beq pc 14) (some B_17_14) none) (cond (Nat.beq pc 18) (some B_17_18) none)))
noncomputable def B_18_0 : XK := X_load xkR 0 <| X_getf 11 11 <| X_load xkR 0 <| X_getf 11 10 <| X_callV 3 136 2 11
noncomputable def B_18_11 : XK := X_load xkR 0 <| X_push (.inl 1) <| X_putf xk01 11 13 <| X_push (.inl 1) <| X_ret xkI
noncomputable def T_18 : Nat → Option XK := fun pc => (cond (Nat.blt pc 11) (cond (Nat.beq pc 0) (some B_18_0) none) (cond (Nat.beq pc 11) (some B_18_11) none))
noncomputable def B_19_0 : XK := X_load xkR 0 <| X_getf 11 10 <| X_load xkI 1 <| X_callV 3 102 2 8
noncomputable def B_19_8 : XK := X_store xkR 5 <| X_load xkR 0 <| X_load xkR 0 <| X_getf 11 10 <| X_load xkI 1 <| X_callV 3 103 2 19
noncomputable def B_19_19 : XK := X_callV 11 104 2 22
noncomputable def B_19_22 : XK := X_pop <| X_load xkR 5 <| X_ifr p_eq 43 <| X_load xkI 2 <| X_if p_lt d_lt 43 <| X_load xkI 2 <| X_i2l <| X_load xkR 5 <| X_callV 0 129 1 39
noncomputable def B_19_39 : XK := X_lcif pL_le d_le 50 <| X_jump 43
noncomputable def B_19_43 : XK := X_load xkR 0 <| X_push (.inl 4294967294) <| X_callV 11 100 2 49
noncomputable def B_19_49 : XK := X_ret xkI
noncomputable def B_19_50 : XK := X_load xkI 3 <| X_if p_lt d_lt 72 <| X_load xkI 3 <| X_push (.inl 26) <| X_if2 p2_ge d_ge 72 <| X_load xkI 4 <| X_if p_lt d_lt 72 <| X_load xkI 4 <| X_push (.inl 15) <| X_if2 p2_le d_le 79 <| X_jump 72
noncomputable def B_19_72 : XK := X_load xkR 0 <| X_push (.inl 4294967294) <| X_callV 11 100 2 78
noncomputable def B_19_78 : XK := X_ret xkI
noncomputable def B_19_79 : XK := X_load xkR 5 <| X_callV 0 129 1 84
noncomputable def B_19_84 : XK := X_push (.inr (.inl 60)) <| X_lcif pL_lt d_lt 98 <| X_stop
noncomputable def B_19_98 : XK := X_load xkR 0 <| X_getf 11 12 <| X_load xkR 5 <| X_callV 0 107 2 107
noncomputable def B_19_107 : XK := X_load xkR 0 <| X_getf 11 4 <| X_load xkI 2 <| X_i2l <| X_load xkI 3 <| X_load xkI 4 <| X_push (.inl 5) <| X_ibin x_ishl xg_shl <| X_ibin Nat.lor xg_or <| X_push (.inr (.inl 1)) <| X_load xkR 5 <| X_callV 0 129 1 125
noncomputable def B_19_125 : XK := X_load xkI 2 <| X_i2l <| X_lbin x_lsub xgn <| X_callV 2 137 5 131
noncomputable def B_19_131 : XK := X_load xkR 5 <| X_push (.inl 1) <| X_callV 0 109 2 137
noncomputable def B_19_137 : XK := X_load xkR 5 <| X_push (.inl 0) <| X_load xkR 0 <| X_getf 11 4 <| X_callV 0 110 3 147
noncomputable def B_19_147 : XK := X_load xkR 0 <| X_load xkR 5 <| X_callV 11 114 2 153
noncomputable def B_19_153 : XK := X_if p_eq d_eq 165 <| X_stop
noncomputable def B_19_165 : XK := X_load xkR 5 <| X_callV 0 129 1 170
noncomputable def B_19_170 : XK := X_callS 120 1 173
noncomputable def B_19_173 : XK := X_ret xkI
noncomputable def T_19 : Nat → Option XK := fun pc => (cond (Nat.blt pc 84) (cond (Nat.blt pc 43) (cond (Nat.blt pc 19) (cond (Nat.blt pc 8) (cond (Nat.beq pc 0) (some B_19_0) none) (cond (Nat.beq pc 8) (some B_19_8) none)) (cond (Nat.blt pc 22) (cond (Nat.beq pc 19) (some B_19_19) none) (cond (Nat.blt pc 39) (cond (Nat.beq pc 22) (some B_19_22) none) (cond (Nat.beq pc 39) (some B_19_39) none)))) (cond (Nat.blt pc 72) (cond (Nat.blt pc 49) (cond (Nat.beq pc 43) (some B_19_43) none) (cond (Nat.blt pc 50) (cond (Nat.beq pc 49) (some B_19_49) none) (cond (Nat.beq pc 50) (some B_19_50) none))) (cond (Nat.blt pc 78) (cond (Nat.beq pc 72) (some B_19_72) none) (cond (Nat.blt pc 79) (cond (Nat.beq pc 78) (some B_19_78) none) (cond (Nat.beq pc 79) (some B_19_79) none))))) (cond (Nat.blt pc 137) (cond (Nat.blt pc 107) (cond (Nat.blt pc 98) (cond (Nat.beq pc 84) (some B_19_84) none) (cond (Nat.beq pc 98) (some B_19_98) none)) (cond (Nat.blt pc 125) (cond (Nat.beq pc 107) (some B_19_107) none) (cond (Nat.blt pc 131) (cond (Nat.beq pc 125) (some B_19_125) none) (cond (Nat.beq pc 131) (some B_19_131) none)))) (cond (Nat.blt pc 165) (cond (Nat.blt pc 147) (cond (Nat.beq pc 137) (some B_19_137) none) (cond (Nat.blt pc 153) (cond (Nat.beq pc 147) (some B_19_147) none) (cond (Nat.beq pc 153) (some B_19_153) none))) (cond (Nat.blt pc 170) (cond (Nat.beq pc 165) (some B_19_165) none) (cond (Nat.blt pc 173) (cond (Nat.beq pc 170) (some B_19_170) none) (cond (Nat.beq pc 173) (some B_19_173) none))))))
noncomputable def B_20_0 : XK := X_load xkR 0 <| X_load xkI 2 <| X_callV 11 126 2 5
noncomputable def B_20_5 : XK := X_store xkR 4 <| X_load xkR 0 <| X_getf 11 10 <| X_load xkI 1 <| X_callV 3 115 2 15
noncomputable def B_20_15 : XK := X_if p_eq d_eq 33 <| X_load xkR 4 <| X_ifr p_eq 33 <| X_load xkI 3 <| X_if p_lt d_lt 33 <| X_load xkI 3 <| X_push (.inl 20) <| X_if2 p2_le d_le 40 <| X_jump 33
noncomputable def B_20_33 : XK := X_load xkR 0 <| X_push (.inl 4294967294) <| X_callV 11 100 2 39
noncomputable def B_20_39 : XK := X_ret xkI
noncomputable def B_20_40 : XK := X_load xkR 4 <| X_callV 6 127 1 45
noncomputable def B_20_45 : XK := X_if p_eq d_eq 55 <| X_stop
noncomputable def B_20_55 : XK := X_load xkR 4 <| X_callV 6 128 1 60
noncomputable def B_20_60 : XK := X_if p_eq d_eq 70 <| X_load xkR 0 <| X_push (.inl 4294967292) <| X_callV 11 100 2 69
noncomputable def B_20_69 : XK := X_ret xkI
noncomputable def T_20 : Nat → Option XK := fun pc => (cond (Nat.blt pc 40) (cond (Nat.blt pc 15) (cond (Nat.blt pc 5) (cond (Nat.beq pc 0) (some B_20_0) none) (cond (Nat.beq pc 5) (some B_20_5) none)) (cond (Nat.blt pc 33) (cond (Nat.beq pc 15) (some B_20_15) none) (cond (Nat.blt pc 39) (cond (Nat.beq pc 33) (some B_20_33) none) (cond (Nat.beq pc 39) (some B_20_39) none)))) (cond (Nat.blt pc 55) (cond (Nat.blt pc 45) (cond (Nat.beq pc 40) (some B_20_40) none) (cond (Nat.beq pc 45) (some B_20_45) none)) (cond (Nat.blt pc 60) (cond (Nat.beq pc 55) (some B_20_55) none) (cond (Nat.blt pc 69) (cond (Nat.beq pc 60) (some B_20_60) none) (cond (Nat.beq pc 69) (some B_20_69) none)))))
noncomputable def B_21_0 : XK := X_load xkR 0 <| X_getf 11 10 <| X_load xkI 1 <| X_callV 3 115 2 8
noncomputable def B_21_8 : XK := X_if p_ne d_ne 18 <| X_load xkR 0 <| X_push (.inl 4294967294) <| X_callV 11 100 2 17
noncomputable def B_21_17 : XK := X_ret xkI
noncomputable def B_21_18 : XK := X_load xkR 0 <| X_getf 11 1 <| X_load xkR 0 <| X_load xkR 0 <| X_getf 11 10 <| X_load xkI 1 <| X_callV 3 103 2 31
noncomputable def B_21_31 : XK := X_callV 11 104 2 34
noncomputable def B_21_34 : XK := X_callV 10 138 2 37
noncomputable def B_21_37 : XK := X_callS 120 1 40
noncomputable def B_21_40 : XK := X_ret xkI
noncomputable def T_21 : Nat → Option XK := fun pc => (cond (Nat.blt pc 31) (cond (Nat.blt pc 17) (cond (Nat.blt pc 8) (cond (Nat.beq pc 0) (some B_21_0) none) (cond (Nat.beq pc 8) (some B_21_8) none)) (cond (Nat.blt pc 18) (cond (Nat.beq pc 17) (some B_21_17) none) (cond (Nat.beq pc 18) (some B_21_18) none))) (cond (Nat.blt pc 37) (cond (Nat.blt pc 34) (cond (Nat.beq pc 31) (some B_21_31) none) (cond (Nat.beq pc 34) (some B_21_34) none)) (cond (Nat.blt pc 40) (cond (Nat.beq pc 37) (some B_21_37) none) (cond (Nat.beq pc 40) (some B_21_40) none))))
noncomputable def B_22_0 : XK := X_load xkI 1 <| X_callS 121 1 4
noncomputable def B_22_4 : XK := X_if p_ne d_ne 14 <| X_load xkR 0 <| X_push (.inl 4294967294) <| X_callV 11 100 2 13
noncomputable def B_22_13 : XK := X_ret xkI
noncomputable def B_22_14 : XK := X_load xkR 0 <| X_load xkI 1 <| X_callV 11 122 2 19
noncomputable def B_22_19 : XK := X_if p_ne d_ne 29 <| X_load xkR 0 <| X_push (.inl 4294967292) <| X_callV 11 100 2 28
noncomputable def B_22_28 : XK := X_ret xkI
noncomputable def T_22 : Nat → Option XK := fun pc => (cond (Nat.blt pc 14) (cond (Nat.blt pc 4) (cond (Nat.beq pc 0) (some B_22_0) none) (cond (Nat.blt pc 13) (cond (Nat.beq pc 4) (some B_22_4) none) (cond (Nat.beq pc 13) (some B_22_13) none))) (cond (Nat.blt pc 19) (cond (Nat.beq pc 14) (some B_22_14) none) (cond (Nat.blt pc 28) (cond (Nat.beq pc 19) (some B_22_19) none) (cond (Nat.beq pc 28) (some B_22_28) none))))
noncomputable def B_23_0 : XK := X_load xkR 0 <| X_getf 11 10 <| X_load xkI 1 <| X_callV 3 102 2 8
noncomputable def B_23_8 : XK := X_store xkR 6 <| X_load xkR 0 <| X_load xkR 0 <| X_getf 11 10 <| X_load xkI 1 <| X_callV 3 103 2 19
noncomputable def B_23_19 : XK := X_callV 11 104 2 22
noncomputable def B_23_22 : XK := X_pop <| X_load xkR 6 <| X_ifr p_eq 46 <| X_load xkI 3 <| X_push (.inl 1) <| X_if2 p2_lt d_lt 46 <| X_load xkI 2 <| X_load xkI 3 <| X_load xkR 6 <| X_callV 0 129 1 40
noncomputable def B_23_40 : XK := X_callS 130 3 43
noncomputable def B_23_43 : XK := X_if p_ne d_ne 53 <| X_jump 46
noncomputable def B_23_46 : XK := X_load xkR 0 <| X_push (.inl 4294967294) <| X_callV 11 100 2 52
noncomputable def B_23_52 : XK := X_ret xkI
noncomputable def T_23 : Nat → Option XK := fun pc => (cond (Nat.blt pc 40) (cond (Nat.blt pc 19) (cond (Nat.blt pc 8) (cond (Nat.beq pc 0) (some B_23_0) none) (cond (Nat.beq pc 8) (some B_23_8) none)) (cond (Nat.blt pc 22) (cond (Nat.beq pc 19) (some B_23_19) none) (cond (Nat.beq pc 22) (some B_23_22) none))) (cond (Nat.blt pc 46) (cond (Nat.blt pc 43) (cond (Nat.beq pc 40) (some B_23_40) none) (cond (Nat.beq pc 43) (some B_23_43) none)) (cond (Nat.blt pc 52) (cond (Nat.beq pc 46) (some B_23_46) none) (cond (Nat.beq pc 52) (some B_23_52) none))))
noncomputable def B_24_0 : XK := X_load xkR 0 <| X_getf 11 10 <| X_load xkI 1 <| X_callV 3 115 2 8
noncomputable def B_24_8 : XK := X_if p_eq d_eq 20 <| X_load xkI 2 <| X_if p_lt d_lt 20 <| X_load xkI 2 <| X_push (.inl 4) <| X_if2 p2_le d_le 27 <| X_jump 20
noncomputable def B_24_20 : XK := X_load xkR 0 <| X_push (.inl 4294967294) <| X_callV 11 100 2 26
noncomputable def B_24_26 : XK := X_ret xkI
noncomputable def B_24_27 : XK := X_load xkR 0 <| X_getf 11 3 <| X_load xkR 0 <| X_load xkR 0 <| X_getf 11 10 <| X_load xkI 1 <| X_callV 3 103 2 40
noncomputable def B_24_40 : XK := X_callV 11 116 2 43
noncomputable def B_24_43 : XK := X_load xkI 2 <| X_callV 8 139 3 47
noncomputable def B_24_47 : XK := X_ret xkI
noncomputable def T_24 : Nat → Option XK := fun pc => (cond (Nat.blt pc 27) (cond (Nat.blt pc 20) (cond (Nat.blt pc 8) (cond (Nat.beq pc 0) (some B_24_0) none) (cond (Nat.beq pc 8) (some B_24_8) none)) (cond (Nat.blt pc 26) (cond (Nat.beq pc 20) (some B_24_20) none) (cond (Nat.beq pc 26) (some B_24_26) none))) (cond (Nat.blt pc 43) (cond (Nat.blt pc 40) (cond (Nat.beq pc 27) (some B_24_27) none) (cond (Nat.beq pc 40) (some B_24_40) none)) (cond (Nat.blt pc 47) (cond (Nat.beq pc 43) (some B_24_43) none) (cond (Nat.beq pc 47) (some B_24_47) none))))
noncomputable def B_25_0 : XK := X_push (.inl 0) <| X_store xkI 1 <| X_jump 2
noncomputable def B_25_2 : XK := X_load xkI 1 <| X_push (.inl 90) <| X_if2 p2_gt d_gt 219 <| X_load xkR 0 <| X_getf 11 10 <| X_callV 3 140 1 15
noncomputable def B_25_15 : XK := X_if p_ne d_ne 219 <| X_stop
noncomputable def B_25_219 : XK := X_load xkR 0 <| X_getf 11 10 <| X_getf 3 5 <| X_ret xkI
noncomputable def T_25 : Nat → Option XK := fun pc => (cond (Nat.blt pc 15) (cond (Nat.blt pc 2) (cond (Nat.beq pc 0) (some B_25_0) none) (cond (Nat.beq pc 2) (some B_25_2) none)) (cond (Nat.blt pc 219) (cond (Nat.beq pc 15) (some B_25_15) none) (cond (Nat.beq pc 219) (some B_25_219) none)))
noncomputable def B_26_0 : XK := X_load xkI 1 <| X_callS 121 1 4
noncomputable def B_26_4 : XK := X_if p_eq d_eq 16 <| X_load xkI 2 <| X_if p_lt d_lt 16 <| X_load xkI 2 <| X_push (.inl 5) <| X_if2 p2_le d_le 23 <| X_jump 16
noncomputable def B_26_16 : XK := X_load xkR 0 <| X_push (.inl 4294967294) <| X_callV 11 100 2 22
noncomputable def B_26_22 : XK := X_ret xkI
noncomputable def B_26_23 : XK := X_load xkR 0 <| X_load xkI 1 <| X_callV 11 122 2 28
noncomputable def B_26_28 : XK := X_if p_ne d_ne 38 <| X_load xkR 0 <| X_push (.inl 4294967292) <| X_callV 11 100 2 37
noncomputable def B_26_37 : XK := X_ret xkI
noncomputable def T_26 : Nat → Option XK := fun pc => (cond (Nat.blt pc 22) (cond (Nat.blt pc 4) (cond (Nat.beq pc 0) (some B_26_0) none) (cond (Nat.blt pc 16) (cond (Nat.beq pc 4) (some B_26_4) none) (cond (Nat.beq pc 16) (some B_26_16) none))) (cond (Nat.blt pc 28) (cond (Nat.blt pc 23) (cond (Nat.beq pc 22) (some B_26_22) none) (cond (Nat.beq pc 23) (some B_26_23) none)) (cond (Nat.blt pc 37) (cond (Nat.beq pc 28) (some B_26_28) none) (cond (Nat.beq pc 37) (some B_26_37) none))))
noncomputable def B_27_0 : XK := X_load xkI 1 <| X_callS 121 1 4
noncomputable def B_27_4 : XK := X_if p_eq d_eq 21 <| X_load xkI 2 <| X_callS 121 1 11
noncomputable def B_27_11 : XK := X_if p_eq d_eq 21 <| X_load xkI 3 <| X_callS 121 1 18
noncomputable def B_27_18 : XK := X_if p_ne d_ne 28 <| X_jump 21
noncomputable def B_27_21 : XK := X_load xkR 0 <| X_push (.inl 4294967294) <| X_callV 11 100 2 27
noncomputable def B_27_27 : XK := X_ret xkI
noncomputable def B_27_28 : XK := X_load xkI 4 <| X_if p_lt d_lt 39 <| X_load xkI 4 <| X_push (.inl 1) <| X_if2 p2_le d_le 46 <| X_jump 39
noncomputable def B_27_39 : XK := X_load xkR 0 <| X_push (.inl 4294967294) <| X_callV 11 100 2 45
noncomputable def B_27_45 : XK := X_ret xkI
noncomputable def B_27_46 : XK := X_load xkR 0 <| X_load xkI 2 <| X_callV 11 122 2 51
noncomputable def B_27_51 : XK := X_if p_eq d_eq 62 <| X_stop
noncomputable def B_27_62 : XK := X_load xkR 0 <| X_push (.inl 4294967292) <| X_callV 11 100 2 68
noncomputable def B_27_68 : XK := X_ret xkI
noncomputable def T_27 : Nat → Option XK := fun pc => (cond (Nat.blt pc 28) (cond (Nat.blt pc 18) (cond (Nat.blt pc 4) (cond (Nat.beq pc 0) (some B_27_0) none) (cond (Nat.blt pc 11) (cond (Nat.beq pc 4) (some B_27_4) none) (cond (Nat.beq pc 11) (some B_27_11) none))) (cond (Nat.blt pc 21) (cond (Nat.beq pc 18) (some B_27_18) none) (cond (Nat.blt pc 27) (cond (Nat.beq pc 21) (some B_27_21) none) (cond (Nat.beq pc 27) (some B_27_27) none)))) (cond (Nat.blt pc 46) (cond (Nat.blt pc 39) (cond (Nat.beq pc 28) (some B_27_28) none) (cond (Nat.blt pc 45) (cond (Nat.beq pc 39) (some B_27_39) none) (cond (Nat.beq pc 45) (some B_27_45) none))) (cond (Nat.blt pc 62) (cond (Nat.blt pc 51) (cond (Nat.beq pc 46) (some B_27_46) none) (cond (Nat.beq pc 51) (some B_27_51) none)) (cond (Nat.blt pc 68) (cond (Nat.beq pc 62) (some B_27_62) none) (cond (Nat.beq pc 68) (some B_27_68) none)))))
noncomputable def B_28_0 : XK := X_load xkI 1 <| X_callS 121 1 4
noncomputable def B_28_4 : XK := X_if p_eq d_eq 16 <| X_load xkI 3 <| X_if p_lt d_lt 16 <| X_load xkI 3 <| X_push (.inl 3) <| X_if2 p2_le d_le 23 <| X_jump 16
noncomputable def B_28_16 : XK := X_load xkR 0 <| X_push (.inl 4294967294) <| X_callV 11 100 2 22
noncomputable def B_28_22 : XK := X_ret xkI
noncomputable def B_28_23 : XK := X_load xkR 0 <| X_load xkI 1 <| X_callV 11 122 2 28
noncomputable def B_28_28 : XK := X_if p_ne d_ne 38 <| X_load xkR 0 <| X_push (.inl 4294967292) <| X_callV 11 100 2 37
noncomputable def B_28_37 : XK := X_ret xkI
noncomputable def T_28 : Nat → Option XK := fun pc => (cond (Nat.blt pc 22) (cond (Nat.blt pc 4) (cond (Nat.beq pc 0) (some B_28_0) none) (cond (Nat.blt pc 16) (cond (Nat.beq pc 4) (some B_28_4) none) (cond (Nat.beq pc 16) (some B_28_16) none))) (cond (Nat.blt pc 28) (cond (Nat.blt pc 23) (cond (Nat.beq pc 22) (some B_28_22) none) (cond (Nat.beq pc 23) (some B_28_23) none)) (cond (Nat.blt pc 37) (cond (Nat.beq pc 28) (some B_28_28) none) (cond (Nat.beq pc 37) (some B_28_37) none))))
noncomputable def B_29_0 : XK := X_load xkR 0 <| X_getf 11 10 <| X_load xkI 1 <| X_callV 3 102 2 8
noncomputable def B_29_8 : XK := X_store xkR 4 <| X_load xkR 0 <| X_load xkR 0 <| X_getf 11 10 <| X_load xkI 1 <| X_callV 3 103 2 19
noncomputable def B_29_19 : XK := X_callV 11 104 2 22
noncomputable def B_29_22 : XK := X_pop <| X_load xkR 4 <| X_ifr p_ne 35 <| X_load xkR 0 <| X_push (.inl 4294967294) <| X_callV 11 100 2 34
noncomputable def B_29_34 : XK := X_ret xkI
noncomputable def B_29_35 : XK := X_load xkR 4 <| X_callV 0 129 1 40
noncomputable def B_29_40 : XK := X_lstore 5 <| X_load xkI 2 <| X_if p_lt d_lt 66 <| X_load xkI 2 <| X_i2l <| X_load xkL 5 <| X_lcif pL_gt d_gt 66 <| X_load xkI 3 <| X_if p_lt d_lt 66 <| X_load xkI 3 <| X_i2l <| X_load xkL 5 <| X_lcif pL_le d_le 73 <| X_jump 66
noncomputable def B_29_66 : XK := X_load xkR 0 <| X_push (.inl 4294967294) <| X_callV 11 100 2 72
noncomputable def B_29_72 : XK := X_ret xkI
noncomputable def B_29_73 : XK := X_load xkR 4 <| X_load xkI 2 <| X_i2l <| X_putf xkL 0 9 <| X_load xkR 4 <| X_load xkI 3 <| X_i2l <| X_putf xkL 0 10 <| X_push (.inl 1) <| X_ret xkI
noncomputable def T_29 : Nat → Option XK := fun pc => (cond (Nat.blt pc 35) (cond (Nat.blt pc 19) (cond (Nat.blt pc 8) (cond (Nat.beq pc 0) (some B_29_0) none) (cond (Nat.beq pc 8) (some B_29_8) none)) (cond (Nat.blt pc 22) (cond (Nat.beq pc 19) (some B_29_19) none) (cond (Nat.blt pc 34) (cond (Nat.beq pc 22) (some B_29_22) none) (cond (Nat.beq pc 34) (some B_29_34) none)))) (cond (Nat.blt pc 66) (cond (Nat.blt pc 40) (cond (Nat.beq pc 35) (some B_29_35) none) (cond (Nat.beq pc 40) (some B_29_40) none)) (cond (Nat.blt pc 72) (cond (Nat.beq pc 66) (some B_29_66) none) (cond (Nat.blt pc 73) (cond (Nat.beq pc 72) (some B_29_72) none) (cond (Nat.beq pc 73) (some B_29_73) none)))))
noncomputable def B_30_0 : XK := X_load xkR 0 <| X_getf 11 10 <| X_load xkI 1 <| X_callV 3 102 2 8
noncomputable def B_30_8 : XK := X_store xkR 2 <| X_load xkR 0 <| X_load xkR 0 <| X_getf 11 10 <| X_load xkI 1 <| X_callV 3 103 2 18
noncomputable def B_30_18 : XK := X_callV 11 104 2 21
noncomputable def B_30_21 : XK := X_pop <| X_load xkR 2 <| X_ifr p_ne 33 <| X_load xkR 0 <| X_push (.inl 4294967294) <| X_callV 11 100 2 32
noncomputable def B_30_32 : XK := X_ret xkI
noncomputable def B_30_33 : XK := X_load xkR 0 <| X_load xkR 2 <| X_push (.inl 1) <| X_callV 0 105 2 39
noncomputable def B_30_39 : XK := X_callV 11 104 2 42
noncomputable def B_30_42 : XK := X_pop <| X_load xkR 2 <| X_push (.inl 1) <| X_callS 141 2 48
noncomputable def B_30_48 : XK := X_store xkI 3 <| X_load xkI 3 <| X_if p_eq d_eq 59 <| X_load xkR 0 <| X_load xkI 3 <| X_callV 11 100 2 58
noncomputable def B_30_58 : XK := X_ret xkI
noncomputable def T_30 : Nat → Option XK := fun pc => (cond (Nat.blt pc 33) (cond (Nat.blt pc 18) (cond (Nat.blt pc 8) (cond (Nat.beq pc 0) (some B_30_0) none) (cond (Nat.beq pc 8) (some B_30_8) none)) (cond (Nat.blt pc 21) (cond (Nat.beq pc 18) (some B_30_18) none) (cond (Nat.blt pc 32) (cond (Nat.beq pc 21) (some B_30_21) none) (cond (Nat.beq pc 32) (some B_30_32) none)))) (cond (Nat.blt pc 42) (cond (Nat.blt pc 39) (cond (Nat.beq pc 33) (some B_30_33) none) (cond (Nat.beq pc 39) (some B_30_39) none)) (cond (Nat.blt pc 48) (cond (Nat.beq pc 42) (some B_30_42) none) (cond (Nat.blt pc 58) (cond (Nat.beq pc 48) (some B_30_48) none) (cond (Nat.beq pc 58) (some B_30_58) none)))))
noncomputable def B_31_0 : XK := X_load xkI 1 <| X_callS 121 1 4
noncomputable def B_31_4 : XK := X_if p_eq d_eq 23 <| X_load xkI 2 <| X_push (.inl 1) <| X_if2 p2_lt d_lt 23 <| X_load xkI 2 <| X_load xkR 0 <| X_getf 11 10 <| X_getf 3 5 <| X_if2 p2_le d_le 30 <| X_jump 23
noncomputable def B_31_23 : XK := X_load xkR 0 <| X_push (.inl 4294967294) <| X_callV 11 100 2 29
noncomputable def B_31_29 : XK := X_ret xkI
noncomputable def T_31 : Nat → Option XK := fun pc => (cond (Nat.blt pc 23) (cond (Nat.blt pc 4) (cond (Nat.beq pc 0) (some B_31_0) none) (cond (Nat.beq pc 4) (some B_31_4) none)) (cond (Nat.blt pc 29) (cond (Nat.beq pc 23) (some B_31_23) none) (cond (Nat.beq pc 29) (some B_31_29) none)))
noncomputable def B_32_0 : XK := X_load xkR 0 <| X_load xkI 1 <| X_callV 11 126 2 5
noncomputable def B_32_5 : XK := X_store xkR 4 <| X_load xkR 4 <| X_ifr p_eq 31 <| X_load xkI 2 <| X_if p_lt d_lt 31 <| X_load xkI 2 <| X_push (.inl 5) <| X_if2 p2_ge d_ge 31 <| X_load xkI 3 <| X_if p_lt d_lt 31 <| X_load xkI 3 <| X_push (.inl 40) <| X_if2 p2_le d_le 38 <| X_jump 31
noncomputable def B_32_31 : XK := X_load xkR 0 <| X_push (.inl 4294967294) <| X_callV 11 100 2 37
noncomputable def B_32_37 : XK := X_ret xkI
noncomputable def B_32_38 : XK := X_load xkR 4 <| X_load xkI 2 <| X_load xkI 3 <| X_callV 6 142 3 45
noncomputable def B_32_45 : XK := X_push (.inl 1) <| X_ret xkI
noncomputable def T_32 : Nat → Option XK := fun pc => (cond (Nat.blt pc 37) (cond (Nat.blt pc 5) (cond (Nat.beq pc 0) (some B_32_0) none) (cond (Nat.blt pc 31) (cond (Nat.beq pc 5) (some B_32_5) none) (cond (Nat.beq pc 31) (some B_32_31) none))) (cond (Nat.blt pc 38) (cond (Nat.beq pc 37) (some B_32_37) none) (cond (Nat.blt pc 45) (cond (Nat.beq pc 38) (some B_32_38) none) (cond (Nat.beq pc 45) (some B_32_45) none))))
noncomputable def B_33_0 : XK := X_load xkR 0 <| X_load xkI 1 <| X_callV 11 126 2 5
noncomputable def B_33_5 : XK := X_store xkR 3 <| X_load xkR 3 <| X_ifr p_eq 19 <| X_load xkI 2 <| X_if p_lt d_lt 19 <| X_load xkI 2 <| X_push (.inl 5) <| X_if2 p2_le d_le 26 <| X_jump 19
noncomputable def B_33_19 : XK := X_load xkR 0 <| X_push (.inl 4294967294) <| X_callV 11 100 2 25
noncomputable def B_33_25 : XK := X_ret xkI
noncomputable def B_33_26 : XK := X_load xkR 3 <| X_callV 6 143 1 30
noncomputable def B_33_30 : XK := X_if p_eq d_eq 40 <| X_stop
noncomputable def B_33_40 : XK := X_load xkR 3 <| X_callV 6 128 1 44
noncomputable def B_33_44 : XK := X_if p_eq d_eq 54 <| X_load xkR 0 <| X_push (.inl 4294967292) <| X_callV 11 100 2 53
noncomputable def B_33_53 : XK := X_ret xkI
noncomputable def T_33 : Nat → Option XK := fun pc => (cond (Nat.blt pc 26) (cond (Nat.blt pc 19) (cond (Nat.blt pc 5) (cond (Nat.beq pc 0) (some B_33_0) none) (cond (Nat.beq pc 5) (some B_33_5) none)) (cond (Nat.blt pc 25) (cond (Nat.beq pc 19) (some B_33_19) none) (cond (Nat.beq pc 25) (some B_33_25) none))) (cond (Nat.blt pc 40) (cond (Nat.blt pc 30) (cond (Nat.beq pc 26) (some B_33_26) none) (cond (Nat.beq pc 30) (some B_33_30) none)) (cond (Nat.blt pc 44) (cond (Nat.beq pc 40) (some B_33_40) none) (cond (Nat.blt pc 53) (cond (Nat.beq pc 44) (some B_33_44) none) (cond (Nat.beq pc 53) (some B_33_53) none)))))
noncomputable def B_34_0 : XK := X_load xkR 0 <| X_getf 11 10 <| X_getf 3 6 <| X_store xkI 2 <| X_load xkR 0 <| X_getf 11 10 <| X_load xkI 1 <| X_putf xkI 3 6 <| X_load xkI 2 <| X_ret xkI
noncomputable def T_34 : Nat → Option XK := fun pc => (cond (Nat.beq pc 0) (some B_34_0) none)
noncomputable def B_35_0 : XK := X_load xkR 0 <| X_getf 11 10 <| X_load xkI 1 <| X_callV 3 102 2 8
noncomputable def B_35_8 : XK := X_store xkR 2 <| X_load xkR 2 <| X_ifr p_ne 20 <| X_load xkR 0 <| X_push (.inl 4294967294) <| X_callV 11 100 2 19
noncomputable def B_35_19 : XK := X_ret xkI
noncomputable def B_35_20 : XK := X_load xkR 2 <| X_callV 0 144 1 24
noncomputable def B_35_24 : XK := X_if p_ne d_ne 34 <| X_load xkR 0 <| X_push (.inl 4294967291) <| X_callV 11 100 2 33
noncomputable def B_35_33 : XK := X_ret xkI
noncomputable def T_35 : Nat → Option XK := fun pc => (cond (Nat.blt pc 20) (cond (Nat.blt pc 8) (cond (Nat.beq pc 0) (some B_35_0) none) (cond (Nat.blt pc 19) (cond (Nat.beq pc 8) (some B_35_8) none) (cond (Nat.beq pc 19) (some B_35_19) none))) (cond (Nat.blt pc 24) (cond (Nat.beq pc 20) (some B_35_20) none) (cond (Nat.blt pc 33) (cond (Nat.beq pc 24) (some B_35_24) none) (cond (Nat.beq pc 33) (some B_35_33) none))))
noncomputable def B_36_0 : XK := X_load xkR 0 <| X_load xkI 1 <| X_callV 11 126 2 5
noncomputable def B_36_5 : XK := X_store xkR 5 <| X_load xkR 5 <| X_ifr p_ne 19 <| X_load xkR 0 <| X_push (.inl 4294967294) <| X_callV 11 100 2 18
noncomputable def B_36_18 : XK := X_ret xkI
noncomputable def B_36_19 : XK := X_load xkR 5 <| X_callV 6 127 1 24
noncomputable def B_36_24 : XK := X_if p_eq d_eq 34 <| X_stop
noncomputable def B_36_34 : XK := X_load xkR 5 <| X_callV 6 128 1 39
noncomputable def B_36_39 : XK := X_if p_eq d_eq 49 <| X_load xkR 0 <| X_push (.inl 4294967292) <| X_callV 11 100 2 48
noncomputable def B_36_48 : XK := X_ret xkI
noncomputable def T_36 : Nat → Option XK := fun pc => (cond (Nat.blt pc 24) (cond (Nat.blt pc 18) (cond (Nat.blt pc 5) (cond (Nat.beq pc 0) (some B_36_0) none) (cond (Nat.beq pc 5) (some B_36_5) none)) (cond (Nat.blt pc 19) (cond (Nat.beq pc 18) (some B_36_18) none) (cond (Nat.beq pc 19) (some B_36_19) none))) (cond (Nat.blt pc 39) (cond (Nat.blt pc 34) (cond (Nat.beq pc 24) (some B_36_24) none) (cond (Nat.beq pc 34) (some B_36_34) none)) (cond (Nat.blt pc 48) (cond (Nat.beq pc 39) (some B_36_39) none) (cond (Nat.beq pc 48) (some B_36_48) none))))
noncomputable def B_37_0 : XK := X_load xkR 0 <| X_load xkI 1 <| X_callV 11 126 2 5
noncomputable def B_37_5 : XK := X_store xkR 4 <| X_load xkR 4 <| X_ifr p_eq 24 <| X_load xkI 2 <| X_push (.inl 4294967295) <| X_if2 p2_eq d_eq 31 <| X_load xkI 2 <| X_callS 121 1 21
noncomputable def B_37_21 : XK := X_if p_ne d_ne 31 <| X_jump 24
noncomputable def B_37_24 : XK := X_load xkR 0 <| X_push (.inl 4294967294) <| X_callV 11 100 2 30
noncomputable def B_37_30 : XK := X_ret xkI
noncomputable def B_37_31 : XK := X_load xkI 2 <| X_push (.inl 4294967295) <| X_if2 p2_ne d_ne 43 <| X_load xkR 4 <| X_callV 6 145 1 41
noncomputable def B_37_41 : XK := X_push (.inl 1) <| X_ret xkI
noncomputable def B_37_43 : XK := X_load xkR 0 <| X_load xkI 2 <| X_callV 11 122 2 48
noncomputable def B_37_48 : XK := X_if p_ne d_ne 58 <| X_load xkR 0 <| X_push (.inl 4294967292) <| X_callV 11 100 2 57
noncomputable def B_37_57 : XK := X_ret xkI
noncomputable def T_37 : Nat → Option XK := fun pc => (cond (Nat.blt pc 31) (cond (Nat.blt pc 21) (cond (Nat.blt pc 5) (cond (Nat.beq pc 0) (some B_37_0) none) (cond (Nat.beq pc 5) (some B_37_5) none)) (cond (Nat.blt pc 24) (cond (Nat.beq pc 21) (some B_37_21) none) (cond (Nat.blt pc 30) (cond (Nat.beq pc 24) (some B_37_24) none) (cond (Nat.beq pc 30) (some B_37_30) none)))) (cond (Nat.blt pc 43) (cond (Nat.blt pc 41) (cond (Nat.beq pc 31) (some B_37_31) none) (cond (Nat.beq pc 41) (some B_37_41) none)) (cond (Nat.blt pc 48) (cond (Nat.beq pc 43) (some B_37_43) none) (cond (Nat.blt pc 57) (cond (Nat.beq pc 48) (some B_37_48) none) (cond (Nat.beq pc 57) (some B_37_57) none)))))
noncomputable def B_38_0 : XK := X_load xkI 1 <| X_callS 121 1 4
noncomputable def B_38_4 : XK := X_if p_ne d_ne 14 <| X_load xkR 0 <| X_push (.inl 4294967294) <| X_callV 11 100 2 13
noncomputable def B_38_13 : XK := X_ret xkI
noncomputable def B_38_14 : XK := X_load xkR 0 <| X_load xkI 1 <| X_callV 11 122 2 19
noncomputable def B_38_19 : XK := X_if p_ne d_ne 29 <| X_load xkR 0 <| X_push (.inl 4294967292) <| X_callV 11 100 2 28
noncomputable def B_38_28 : XK := X_ret xkI
noncomputable def T_38 : Nat → Option XK := fun pc => (cond (Nat.blt pc 14) (cond (Nat.blt pc 4) (cond (Nat.beq pc 0) (some B_38_0) none) (cond (Nat.blt pc 13) (cond (Nat.beq pc 4) (some B_38_4) none) (cond (Nat.beq pc 13) (some B_38_13) none))) (cond (Nat.blt pc 19) (cond (Nat.beq pc 14) (some B_38_14) none) (cond (Nat.blt pc 28) (cond (Nat.beq pc 19) (some B_38_19) none) (cond (Nat.beq pc 28) (some B_38_28) none))))
noncomputable def B_39_0 : XK := X_load xkI 1 <| X_tsw 0 [48, 56, 61, 66, 74, 82, 90, 98] 103
noncomputable def B_39_48 : XK := X_load xkR 0 <| X_getf 11 10 <| X_getf 3 5 <| X_ret xkI
noncomputable def B_39_56 : XK := X_load xkR 0 <| X_callV 11 146 1 60
noncomputable def B_39_60 : XK := X_ret xkI
noncomputable def B_39_61 : XK := X_load xkR 0 <| X_callV 11 147 1 65
noncomputable def B_39_65 : XK := X_ret xkI
noncomputable def B_39_66 : XK := X_load xkR 0 <| X_callV 11 148 1 70
noncomputable def B_39_70 : XK := X_callS 120 1 73
noncomputable def B_39_73 : XK := X_ret xkI
noncomputable def B_39_74 : XK := X_load xkR 0 <| X_getf 11 10 <| X_callV 3 149 1 81
noncomputable def B_39_81 : XK := X_ret xkI
noncomputable def B_39_82 : XK := X_load xkR 0 <| X_getf 11 5 <| X_getf 7 2 <| X_ret xkI
noncomputable def B_39_90 : XK := X_load xkR 0 <| X_getf 11 10 <| X_getf 3 6 <| X_ret xkI
noncomputable def B_39_98 : XK := X_load xkR 0 <| X_callV 11 150 1 102
noncomputable def B_39_102 : XK := X_ret xkI
noncomputable def B_39_103 : XK := X_load xkI 1 <| X_push (.inl 12) <| X_ibin x_isub xg_sub <| X_store xkI 2 <| X_load xkI 2 <| X_if p_lt d_lt 130 <| X_load xkI 2 <| X_load xkR 0 <| X_getf 11 9 <| X_alen <| X_if2 p2_ge d_ge 130 <| X_load xkR 0 <| X_getf 11 9 <| X_load xkI 2 <| X_ald xt0 <| X_jump 131
noncomputable def B_39_130 : XK := X_push (.inl 4294967295) <| X_jump 131
noncomputable def B_39_131 : XK := X_ret xkI
noncomputable def T_39 : Nat → Option XK := fun pc => (cond (Nat.blt pc 74) (cond (Nat.blt pc 61) (cond (Nat.blt pc 56) (cond (Nat.blt pc 48) (cond (Nat.beq pc 0) (some B_39_0) none) (cond (Nat.beq pc 48) (some B_39_48) none)) (cond (Nat.blt pc 60) (cond (Nat.beq pc 56) (some B_39_56) none) (cond (Nat.beq pc 60) (some B_39_60) none))) (cond (Nat.blt pc 66) (cond (Nat.blt pc 65) (cond (Nat.beq pc 61) (some B_39_61) none) (cond (Nat.beq pc 65) (some B_39_65) none)) (cond (Nat.blt pc 70) (cond (Nat.beq pc 66) (some B_39_66) none) (cond (Nat.blt pc 73) (cond (Nat.beq pc 70) (some B_39_70) none) (cond (Nat.beq pc 73) (some B_39_73) none))))) (cond (Nat.blt pc 98) (cond (Nat.blt pc 82) (cond (Nat.blt pc 81) (cond (Nat.beq pc 74) (some B_39_74) none) (cond (Nat.beq pc 81) (some B_39_81) none)) (cond (Nat.blt pc 90) (cond (Nat.beq pc 82) (some B_39_82) none) (cond (Nat.beq pc 90) (some B_39_90) none))) (cond (Nat.blt pc 103) (cond (Nat.blt pc 102) (cond (Nat.beq pc 98) (some B_39_98) none) (cond (Nat.beq pc 102) (some B_39_102) none)) (cond (Nat.blt pc 130) (cond (Nat.beq pc 103) (some B_39_103) none) (cond (Nat.blt pc 131) (cond (Nat.beq pc 130) (some B_39_130) none) (cond (Nat.beq pc 131) (some B_39_131) none))))))
noncomputable def B_40_0 : XK := X_load xkR 0 <| X_getf 11 10 <| X_load xkI 2 <| X_callV 3 102 2 8
noncomputable def B_40_8 : XK := X_store xkR 4 <| X_load xkI 1 <| X_callS 121 1 14
noncomputable def B_40_14 : XK := X_if p_eq d_eq 31 <| X_load xkR 4 <| X_ifr p_eq 31 <| X_load xkI 3 <| X_if p_lt d_lt 31 <| X_load xkI 3 <| X_push (.inl 3) <| X_if2 p2_le d_le 38 <| X_jump 31
noncomputable def B_40_31 : XK := X_load xkR 0 <| X_push (.inl 4294967294) <| X_callV 11 100 2 37
noncomputable def B_40_37 : XK := X_ret xkI
noncomputable def B_40_38 : XK := X_load xkR 4 <| X_load xkI 3 <| X_callV 0 151 2 44
noncomputable def B_40_44 : XK := X_if p_ne d_ne 54 <| X_load xkR 0 <| X_push (.inl 4294967291) <| X_callV 11 100 2 53
noncomputable def B_40_53 : XK := X_ret xkI
noncomputable def T_40 : Nat → Option XK := fun pc => (cond (Nat.blt pc 37) (cond (Nat.blt pc 14) (cond (Nat.blt pc 8) (cond (Nat.beq pc 0) (some B_40_0) none) (cond (Nat.beq pc 8) (some B_40_8) none)) (cond (Nat.blt pc 31) (cond (Nat.beq pc 14) (some B_40_14) none) (cond (Nat.beq pc 31) (some B_40_31) none))) (cond (Nat.blt pc 44) (cond (Nat.blt pc 38) (cond (Nat.beq pc 37) (some B_40_37) none) (cond (Nat.beq pc 38) (some B_40_38) none)) (cond (Nat.blt pc 53) (cond (Nat.beq pc 44) (some B_40_44) none) (cond (Nat.beq pc 53) (some B_40_53) none))))
noncomputable def B_41_0 : XK := X_load xkR 0 <| X_load xkR 0 <| X_getf 11 10 <| X_load xkI 1 <| X_callV 3 103 2 9
noncomputable def B_41_9 : XK := X_callV 11 104 2 12
noncomputable def B_41_12 : XK := X_store xkI 4 <| X_load xkR 0 <| X_getf 11 10 <| X_load xkI 1 <| X_callV 3 115 2 22
noncomputable def B_41_22 : XK := X_if p_eq d_eq 44 <| X_load xkI 2 <| X_if p_lt d_lt 44 <| X_load xkI 2 <| X_i2l <| X_load xkR 0 <| X_getf 11 1 <| X_load xkI 4 <| X_callV 10 138 2 40
noncomputable def B_41_40 : XK := X_lcif pL_lt d_lt 51 <| X_jump 44
noncomputable def B_41_44 : XK := X_load xkR 0 <| X_push (.inl 4294967294) <| X_callV 11 100 2 50
noncomputable def B_41_50 : XK := X_ret xkI
noncomputable def T_41 : Nat → Option XK := fun pc => (cond (Nat.blt pc 22) (cond (Nat.blt pc 9) (cond (Nat.beq pc 0) (some B_41_0) none) (cond (Nat.blt pc 12) (cond (Nat.beq pc 9) (some B_41_9) none) (cond (Nat.beq pc 12) (some B_41_12) none))) (cond (Nat.blt pc 44) (cond (Nat.blt pc 40) (cond (Nat.beq pc 22) (some B_41_22) none) (cond (Nat.beq pc 40) (some B_41_40) none)) (cond (Nat.blt pc 50) (cond (Nat.beq pc 44) (some B_41_44) none) (cond (Nat.beq pc 50) (some B_41_50) none))))
noncomputable def B_42_0 : XK := X_load xkR 0 <| X_getf 11 10 <| X_load xkI 3 <| X_callV 3 102 2 8
noncomputable def B_42_8 : XK := X_store xkR 4 <| X_load xkI 1 <| X_callS 121 1 14
noncomputable def B_42_14 : XK := X_if p_eq d_eq 29 <| X_load xkI 2 <| X_callS 121 1 21
noncomputable def B_42_21 : XK := X_if p_eq d_eq 29 <| X_load xkR 4 <| X_ifr p_ne 36 <| X_jump 29
noncomputable def B_42_29 : XK := X_load xkR 0 <| X_push (.inl 4294967294) <| X_callV 11 100 2 35
noncomputable def B_42_35 : XK := X_ret xkI
noncomputable def B_42_36 : XK := X_load xkR 0 <| X_load xkI 2 <| X_callV 11 122 2 41
noncomputable def B_42_41 : XK := X_if p_ne d_ne 51 <| X_load xkR 0 <| X_push (.inl 4294967292) <| X_callV 11 100 2 50
noncomputable def B_42_50 : XK := X_ret xkI
noncomputable def T_42 : Nat → Option XK := fun pc => (cond (Nat.blt pc 29) (cond (Nat.blt pc 14) (cond (Nat.blt pc 8) (cond (Nat.beq pc 0) (some B_42_0) none) (cond (Nat.beq pc 8) (some B_42_8) none)) (cond (Nat.blt pc 21) (cond (Nat.beq pc 14) (some B_42_14) none) (cond (Nat.beq pc 21) (some B_42_21) none))) (cond (Nat.blt pc 36) (cond (Nat.blt pc 35) (cond (Nat.beq pc 29) (some B_42_29) none) (cond (Nat.beq pc 35) (some B_42_35) none)) (cond (Nat.blt pc 41) (cond (Nat.beq pc 36) (some B_42_36) none) (cond (Nat.blt pc 50) (cond (Nat.beq pc 41) (some B_42_41) none) (cond (Nat.beq pc 50) (some B_42_50) none)))))
noncomputable def B_43_0 : XK := X_load xkR 0 <| X_getf 11 10 <| X_load xkI 1 <| X_callV 3 102 2 8
noncomputable def B_43_8 : XK := X_store xkR 2 <| X_load xkR 0 <| X_load xkR 0 <| X_getf 11 10 <| X_load xkI 1 <| X_callV 3 103 2 18
noncomputable def B_43_18 : XK := X_callV 11 104 2 21
noncomputable def B_43_21 : XK := X_pop <| X_load xkR 2 <| X_ifr p_ne 33 <| X_load xkR 0 <| X_push (.inl 4294967294) <| X_callV 11 100 2 32
noncomputable def B_43_32 : XK := X_ret xkI
noncomputable def B_43_33 : XK := X_load xkR 0 <| X_load xkR 2 <| X_push (.inl 0) <| X_callV 0 105 2 39
noncomputable def B_43_39 : XK := X_callV 11 104 2 42
noncomputable def B_43_42 : XK := X_pop <| X_load xkR 2 <| X_push (.inl 0) <| X_callS 141 2 48
noncomputable def B_43_48 : XK := X_store xkI 3 <| X_load xkI 3 <| X_if p_eq d_eq 59 <| X_load xkR 0 <| X_load xkI 3 <| X_callV 11 100 2 58
noncomputable def B_43_58 : XK := X_ret xkI
noncomputable def T_43 : Nat → Option XK := fun pc => (cond (Nat.blt pc 33) (cond (Nat.blt pc 18) (cond (Nat.blt pc 8) (cond (Nat.beq pc 0) (some B_43_0) none) (cond (Nat.beq pc 8) (some B_43_8) none)) (cond (Nat.blt pc 21) (cond (Nat.beq pc 18) (some B_43_18) none) (cond (Nat.blt pc 32) (cond (Nat.beq pc 21) (some B_43_21) none) (cond (Nat.beq pc 32) (some B_43_32) none)))) (cond (Nat.blt pc 42) (cond (Nat.blt pc 39) (cond (Nat.beq pc 33) (some B_43_33) none) (cond (Nat.beq pc 39) (some B_43_39) none)) (cond (Nat.blt pc 48) (cond (Nat.beq pc 42) (some B_43_42) none) (cond (Nat.blt pc 58) (cond (Nat.beq pc 48) (some B_43_48) none) (cond (Nat.beq pc 58) (some B_43_58) none)))))
noncomputable def B_44_0 : XK := X_load xkR 0 <| X_getf 11 5 <| X_getf 7 2 <| X_store xkI 1 <| X_load xkR 0 <| X_getf 11 5 <| X_push (.inl 0) <| X_putf xkI 7 2 <| X_load xkI 1 <| X_ret xkI
noncomputable def T_44 : Nat → Option XK := fun pc => (cond (Nat.beq pc 0) (some B_44_0) none)
noncomputable def B_45_0 : XK := X_load xkI 1 <| X_callS 152 1 4
noncomputable def B_45_4 : XK := X_if p_eq d_eq 23 <| X_load xkI 2 <| X_callS 152 1 11
noncomputable def B_45_11 : XK := X_if p_eq d_eq 23 <| X_load xkR 0 <| X_load xkI 1 <| X_load xkI 2 <| X_callV 12 153 3 20
noncomputable def B_45_20 : XK := X_jump 29
noncomputable def B_45_23 : XK := X_load xkR 0 <| X_push (.inl 4294967294) <| X_callV 12 97 2 29
noncomputable def B_45_29 : XK := X_ret xkI
noncomputable def T_45 : Nat → Option XK := fun pc => (cond (Nat.blt pc 20) (cond (Nat.blt pc 4) (cond (Nat.beq pc 0) (some B_45_0) none) (cond (Nat.blt pc 11) (cond (Nat.beq pc 4) (some B_45_4) none) (cond (Nat.beq pc 11) (some B_45_11) none))) (cond (Nat.blt pc 23) (cond (Nat.beq pc 20) (some B_45_20) none) (cond (Nat.blt pc 29) (cond (Nat.beq pc 23) (some B_45_23) none) (cond (Nat.beq pc 29) (some B_45_29) none))))
noncomputable def B_46_0 : XK := X_load xkR 0 <| X_getf 12 32 <| X_if p_ne d_ne 14 <| X_load xkR 0 <| X_push (.inl 4294967291) <| X_callV 12 97 2 13
noncomputable def B_46_13 : XK := X_ret xkI
noncomputable def T_46 : Nat → Option XK := fun pc => (cond (Nat.blt pc 13) (cond (Nat.beq pc 0) (some B_46_0) none) (cond (Nat.beq pc 13) (some B_46_13) none))
noncomputable def B_47_0 : XK := X_load xkI 1 <| X_callS 154 1 4
noncomputable def B_47_4 : XK := X_if p_eq d_eq 21 <| X_load xkI 2 <| X_callS 154 1 11
noncomputable def B_47_11 : XK := X_if p_eq d_eq 21 <| X_load xkI 3 <| X_callS 154 1 18
noncomputable def B_47_18 : XK := X_if p_ne d_ne 28 <| X_jump 21
noncomputable def B_47_21 : XK := X_load xkR 0 <| X_push (.inl 4294967294) <| X_callV 12 97 2 27
noncomputable def B_47_27 : XK := X_ret xkI
noncomputable def B_47_28 : XK := X_load xkR 0 <| X_load xkI 2 <| X_callV 12 155 2 33
noncomputable def B_47_33 : XK := X_if p_eq d_eq 44 <| X_stop
noncomputable def B_47_44 : XK := X_load xkR 0 <| X_push (.inl 4294967292) <| X_callV 12 97 2 50
noncomputable def B_47_50 : XK := X_ret xkI
noncomputable def T_47 : Nat → Option XK := fun pc => (cond (Nat.blt pc 27) (cond (Nat.blt pc 11) (cond (Nat.blt pc 4) (cond (Nat.beq pc 0) (some B_47_0) none) (cond (Nat.beq pc 4) (some B_47_4) none)) (cond (Nat.blt pc 18) (cond (Nat.beq pc 11) (some B_47_11) none) (cond (Nat.blt pc 21) (cond (Nat.beq pc 18) (some B_47_18) none) (cond (Nat.beq pc 21) (some B_47_21) none)))) (cond (Nat.blt pc 33) (cond (Nat.blt pc 28) (cond (Nat.beq pc 27) (some B_47_27) none) (cond (Nat.beq pc 28) (some B_47_28) none)) (cond (Nat.blt pc 44) (cond (Nat.beq pc 33) (some B_47_33) none) (cond (Nat.blt pc 50) (cond (Nat.beq pc 44) (some B_47_44) none) (cond (Nat.beq pc 50) (some B_47_50) none)))))
noncomputable def B_48_0 : XK := X_load xkI 1 <| X_callS 156 1 4
noncomputable def B_48_4 : XK := X_if p_eq d_eq 19 <| X_load xkI 2 <| X_i2l <| X_push (.inr (.inl 0)) <| X_push (.inr (.inl 6)) <| X_callS 96 3 16
noncomputable def B_48_16 : XK := X_if p_ne d_ne 26 <| X_jump 19
noncomputable def B_48_19 : XK := X_load xkR 0 <| X_push (.inl 4294967294) <| X_callV 12 97 2 25
noncomputable def B_48_25 : XK := X_ret xkI
noncomputable def B_48_26 : XK := X_load xkI 2 <| X_tsw 0 [64, 71, 93, 109, 131, 131] 138
noncomputable def B_48_64 : XK := X_load xkR 0 <| X_load xkI 1 <| X_push (.inl 0) <| X_callV 12 157 3 70
noncomputable def B_48_70 : XK := X_ret xkI
noncomputable def B_48_71 : XK := X_load xkR 0 <| X_load xkI 1 <| X_push (.inl 1) <| X_callV 12 157 3 77
noncomputable def B_48_77 : XK := X_if p_le d_le 91 <| X_stop
noncomputable def B_48_91 : XK := X_push (.inl 0) <| X_jump 92
noncomputable def B_48_92 : XK := X_ret xkI
noncomputable def B_48_93 : XK := X_load xkR 0 <| X_load xkI 1 <| X_push (.inl 1) <| X_callV 12 157 3 99
noncomputable def B_48_99 : XK := X_push (.inl 2) <| X_if2 p2_ne d_ne 107 <| X_stop
noncomputable def B_48_107 : XK := X_push (.inl 0) <| X_jump 108
noncomputable def B_48_108 : XK := X_ret xkI
noncomputable def B_48_109 : XK := X_load xkR 0 <| X_load xkI 1 <| X_push (.inl 3) <| X_callV 12 157 3 115
noncomputable def B_48_115 : XK := X_if p_le d_le 129 <| X_stop
noncomputable def B_48_129 : XK := X_push (.inl 0) <| X_jump 130
noncomputable def B_48_130 : XK := X_ret xkI
noncomputable def B_48_131 : XK := X_load xkR 0 <| X_load xkI 1 <| X_load xkI 2 <| X_callV 12 157 3 137
noncomputable def B_48_137 : XK := X_ret xkI
noncomputable def B_48_138 : XK := X_load xkR 0 <| X_getf 12 7 <| X_push (.inl 0) <| X_ald xt0 <| X_load xkR 0 <| X_load xkI 1 <| X_push (.inl 0) <| X_callV 12 157 3 150
noncomputable def B_48_150 : XK := X_ibin x_isub xg_sub <| X_ret xkI
noncomputable def T_48 : Nat → Option XK := fun pc => (cond (Nat.blt pc 93) (cond (Nat.blt pc 64) (cond (Nat.blt pc 19) (cond (Nat.blt pc 4) (cond (Nat.beq pc 0) (some B_48_0) none) (cond (Nat.blt pc 16) (cond (Nat.beq pc 4) (some B_48_4) none) (cond (Nat.beq pc 16) (some B_48_16) none))) (cond (Nat.blt pc 25) (cond (Nat.beq pc 19) (some B_48_19) none) (cond (Nat.blt pc 26) (cond (Nat.beq pc 25) (some B_48_25) none) (cond (Nat.beq pc 26) (some B_48_26) none)))) (cond (Nat.blt pc 77) (cond (Nat.blt pc 70) (cond (Nat.beq pc 64) (some B_48_64) none) (cond (Nat.blt pc 71) (cond (Nat.beq pc 70) (some B_48_70) none) (cond (Nat.beq pc 71) (some B_48_71) none))) (cond (Nat.blt pc 91) (cond (Nat.beq pc 77) (some B_48_77) none) (cond (Nat.blt pc 92) (cond (Nat.beq pc 91) (some B_48_91) none) (cond (Nat.beq pc 92) (some B_48_92) none))))) (cond (Nat.blt pc 129) (cond (Nat.blt pc 108) (cond (Nat.blt pc 99) (cond (Nat.beq pc 93) (some B_48_93) none) (cond (Nat.blt pc 107) (cond (Nat.beq pc 99) (some B_48_99) none) (cond (Nat.beq pc 107) (some B_48_107) none))) (cond (Nat.blt pc 109) (cond (Nat.beq pc 108) (some B_48_108) none) (cond (Nat.blt pc 115) (cond (Nat.beq pc 109) (some B_48_109) none) (cond (Nat.beq pc 115) (some B_48_115) none)))) (cond (Nat.blt pc 137) (cond (Nat.blt pc 130) (cond (Nat.beq pc 129) (some B_48_129) none) (cond (Nat.blt pc 131) (cond (Nat.beq pc 130) (some B_48_130) none) (cond (Nat.beq pc 131) (some B_48_131) none))) (cond (Nat.blt pc 138) (cond (Nat.beq pc 137) (some B_48_137) none) (cond (Nat.blt pc 150) (cond (Nat.beq pc 138) (some B_48_138) none) (cond (Nat.beq pc 150) (some B_48_150) none))))))
noncomputable def B_49_0 : XK := X_load xkI 1 <| X_callS 158 1 4
noncomputable def B_49_4 : XK := X_if p_eq d_eq 14 <| X_load xkI 2 <| X_callS 158 1 11
noncomputable def B_49_11 : XK := X_if p_ne d_ne 21 <| X_jump 14
noncomputable def B_49_14 : XK := X_load xkR 0 <| X_push (.inl 4294967294) <| X_callV 12 97 2 20
noncomputable def B_49_20 : XK := X_ret xkI
noncomputable def B_49_21 : XK := X_load xkR 0 <| X_getf 12 19 <| X_load xkI 1 <| X_ald xt0 <| X_push (.inl 4) <| X_if2 p2_gt d_gt 74 <| X_load xkR 0 <| X_getf 12 19 <| X_load xkI 2 <| X_ald xt0 <| X_push (.inl 4) <| X_if2 p2_gt d_gt 74 <| X_load xkR 0 <| X_getf 12 19 <| X_load xkI 1 <| X_ald xt0 <| X_if p_lt d_lt 81 <| X_stop
noncomputable def B_49_81 : XK := X_load xkR 0 <| X_getf 12 19 <| X_load xkI 1 <| X_ald xt0 <| X_if p_lt d_lt 99 <| X_stop
noncomputable def B_49_99 : XK := X_load xkR 0 <| X_push (.inl 4294967292) <| X_callV 12 97 2 105
noncomputable def B_49_105 : XK := X_ret xkI
noncomputable def T_49 : Nat → Option XK := fun pc => (cond (Nat.blt pc 20) (cond (Nat.blt pc 11) (cond (Nat.blt pc 4) (cond (Nat.beq pc 0) (some B_49_0) none) (cond (Nat.beq pc 4) (some B_49_4) none)) (cond (Nat.blt pc 14) (cond (Nat.beq pc 11) (some B_49_11) none) (cond (Nat.beq pc 14) (some B_49_14) none))) (cond (Nat.blt pc 81) (cond (Nat.blt pc 21) (cond (Nat.beq pc 20) (some B_49_20) none) (cond (Nat.beq pc 21) (some B_49_21) none)) (cond (Nat.blt pc 99) (cond (Nat.beq pc 81) (some B_49_81) none) (cond (Nat.blt pc 105) (cond (Nat.beq pc 99) (some B_49_99) none) (cond (Nat.beq pc 105) (some B_49_105) none)))))
noncomputable def B_50_0 : XK := X_load xkI 1 <| X_callS 156 1 4
noncomputable def B_50_4 : XK := X_if p_eq d_eq 29 <| X_load xkI 2 <| X_i2l <| X_push (.inr (.inl 0)) <| X_push (.inr (.inl 1)) <| X_callS 96 3 14
noncomputable def B_50_14 : XK := X_if p_eq d_eq 29 <| X_load xkR 0 <| X_load xkI 1 <| X_push (.inl 6) <| X_load xkI 2 <| X_ibin x_iadd xg_add <| X_callV 12 157 3 26
noncomputable def B_50_26 : XK := X_jump 35
noncomputable def B_50_29 : XK := X_load xkR 0 <| X_push (.inl 4294967294) <| X_callV 12 97 2 35
noncomputable def B_50_35 : XK := X_ret xkI
noncomputable def T_50 : Nat → Option XK := fun pc => (cond (Nat.blt pc 26) (cond (Nat.blt pc 4) (cond (Nat.beq pc 0) (some B_50_0) none) (cond (Nat.blt pc 14) (cond (Nat.beq pc 4) (some B_50_4) none) (cond (Nat.beq pc 14) (some B_50_14) none))) (cond (Nat.blt pc 29) (cond (Nat.beq pc 26) (some B_50_26) none) (cond (Nat.blt pc 35) (cond (Nat.beq pc 29) (some B_50_29) none) (cond (Nat.beq pc 35) (some B_50_35) none))))
noncomputable def B_51_0 : XK := X_load xkR 0 <| X_load xkI 1 <| X_load xkI 2 <| X_load xkI 3 <| X_callV 12 159 4 7
noncomputable def B_51_7 : XK := X_if p_ne d_ne 17 <| X_load xkR 0 <| X_push (.inl 4294967294) <| X_callV 12 97 2 16
noncomputable def B_51_16 : XK := X_ret xkI
noncomputable def T_51 : Nat → Option XK := fun pc => (cond (Nat.blt pc 7) (cond (Nat.beq pc 0) (some B_51_0) none) (cond (Nat.blt pc 16) (cond (Nat.beq pc 7) (some B_51_7) none) (cond (Nat.beq pc 16) (some B_51_16) none)))
noncomputable def B_52_0 : XK := X_load xkI 1 <| X_callS 154 1 4
noncomputable def B_52_4 : XK := X_if p_eq d_eq 14 <| X_load xkI 2 <| X_callS 154 1 11
noncomputable def B_52_11 : XK := X_if p_ne d_ne 21 <| X_jump 14
noncomputable def B_52_14 : XK := X_load xkR 0 <| X_push (.inl 4294967294) <| X_callV 12 97 2 20
noncomputable def B_52_20 : XK := X_ret xkI
noncomputable def B_52_21 : XK := X_load xkR 0 <| X_load xkI 1 <| X_callV 12 155 2 26
noncomputable def B_52_26 : XK := X_if p_eq d_eq 37 <| X_stop
noncomputable def B_52_37 : XK := X_load xkR 0 <| X_push (.inl 4294967292) <| X_callV 12 97 2 43
noncomputable def B_52_43 : XK := X_ret xkI
noncomputable def T_52 : Nat → Option XK := fun pc => (cond (Nat.blt pc 20) (cond (Nat.blt pc 11) (cond (Nat.blt pc 4) (cond (Nat.beq pc 0) (some B_52_0) none) (cond (Nat.beq pc 4) (some B_52_4) none)) (cond (Nat.blt pc 14) (cond (Nat.beq pc 11) (some B_52_11) none) (cond (Nat.beq pc 14) (some B_52_14) none))) (cond (Nat.blt pc 26) (cond (Nat.blt pc 21) (cond (Nat.beq pc 20) (some B_52_20) none) (cond (Nat.beq pc 21) (some B_52_21) none)) (cond (Nat.blt pc 37) (cond (Nat.beq pc 26) (some B_52_26) none) (cond (Nat.blt pc 43) (cond (Nat.beq pc 37) (some B_52_37) none) (cond (Nat.beq pc 43) (some B_52_43) none)))))
noncomputable def B_53_0 : XK := X_load xkI 1 <| X_callS 156 1 4
noncomputable def B_53_4 : XK := X_if p_eq d_eq 14 <| X_load xkI 2 <| X_callS 154 1 11
noncomputable def B_53_11 : XK := X_if p_ne d_ne 21 <| X_jump 14
noncomputable def B_53_14 : XK := X_load xkR 0 <| X_push (.inl 4294967294) <| X_callV 12 97 2 20
noncomputable def B_53_20 : XK := X_ret xkI
noncomputable def B_53_21 : XK := X_load xkR 0 <| X_load xkI 2 <| X_callV 12 155 2 26
noncomputable def B_53_26 : XK := X_if p_ne d_ne 36 <| X_load xkR 0 <| X_push (.inl 4294967292) <| X_callV 12 97 2 35
noncomputable def B_53_35 : XK := X_ret xkI
noncomputable def T_53 : Nat → Option XK := fun pc => (cond (Nat.blt pc 20) (cond (Nat.blt pc 11) (cond (Nat.blt pc 4) (cond (Nat.beq pc 0) (some B_53_0) none) (cond (Nat.beq pc 4) (some B_53_4) none)) (cond (Nat.blt pc 14) (cond (Nat.beq pc 11) (some B_53_11) none) (cond (Nat.beq pc 14) (some B_53_14) none))) (cond (Nat.blt pc 26) (cond (Nat.blt pc 21) (cond (Nat.beq pc 20) (some B_53_20) none) (cond (Nat.beq pc 21) (some B_53_21) none)) (cond (Nat.blt pc 35) (cond (Nat.beq pc 26) (some B_53_26) none) (cond (Nat.beq pc 35) (some B_53_35) none))))
noncomputable def B_54_0 : XK := X_load xkI 1 <| X_callS 154 1 4
noncomputable def B_54_4 : XK := X_if p_ne d_ne 19 <| X_load xkR 0 <| X_push (.inl 0) <| X_putf xkI 12 13 <| X_load xkR 0 <| X_push (.inl 4294967294) <| X_callV 12 97 2 18
noncomputable def B_54_18 : XK := X_ret xkI
noncomputable def B_54_19 : XK := X_load xkR 0 <| X_push (.inl 0) <| X_putf xkI 12 14 <| X_load xkR 0 <| X_getf 12 10 <| X_push (.inl 0) <| X_push (.inl 0) <| X_ast xt0 xkI <| X_load xkR 0 <| X_callV 12 160 1 35
noncomputable def B_54_35 : XK := X_store xkI 2 <| X_jump 36
noncomputable def B_54_36 : XK := X_load xkI 2 <| X_if p_eq d_eq 59 <| X_stop
noncomputable def B_54_59 : XK := X_load xkR 0 <| X_push (.inl 0) <| X_putf xkI 12 13 <| X_load xkI 2 <| X_if p_ne d_ne 87 <| X_load xkR 0 <| X_getf 12 8 <| X_push (.inl 2) <| X_dup2 <| X_ald xt0 <| X_push (.inl 1) <| X_ibin x_iadd xg_add <| X_ast xt0 xkI <| X_push (.inl 4294966996) <| X_load xkR 0 <| X_getf 12 14 <| X_ibin x_isub xg_sub <| X_ret xkI
noncomputable def T_54 : Nat → Option XK := fun pc => (cond (Nat.blt pc 19) (cond (Nat.blt pc 4) (cond (Nat.beq pc 0) (some B_54_0) none) (cond (Nat.blt pc 18) (cond (Nat.beq pc 4) (some B_54_4) none) (cond (Nat.beq pc 18) (some B_54_18) none))) (cond (Nat.blt pc 36) (cond (Nat.blt pc 35) (cond (Nat.beq pc 19) (some B_54_19) none) (cond (Nat.beq pc 35) (some B_54_35) none)) (cond (Nat.blt pc 59) (cond (Nat.beq pc 36) (some B_54_36) none) (cond (Nat.beq pc 59) (some B_54_59) none))))
noncomputable def B_55_0 : XK := X_load xkI 1 <| X_callS 158 1 4
noncomputable def B_55_4 : XK := X_if p_eq d_eq 56 <| X_load xkR 0 <| X_getf 12 19 <| X_load xkI 1 <| X_ald xt0 <| X_i2l <| X_push (.inr (.inl 0)) <| X_push (.inr (.inl 4)) <| X_callS 96 3 21
noncomputable def B_55_21 : XK := X_if p_eq d_eq 56 <| X_stop
noncomputable def B_55_56 : XK := X_push (.inr (.inl 0)) <| X_jump 57
noncomputable def B_55_57 : XK := X_ret xkL
noncomputable def T_55 : Nat → Option XK := fun pc => (cond (Nat.blt pc 21) (cond (Nat.blt pc 4) (cond (Nat.beq pc 0) (some B_55_0) none) (cond (Nat.beq pc 4) (some B_55_4) none)) (cond (Nat.blt pc 56) (cond (Nat.beq pc 21) (some B_55_21) none) (cond (Nat.blt pc 57) (cond (Nat.beq pc 56) (some B_55_56) none) (cond (Nat.beq pc 57) (some B_55_57) none))))
noncomputable def B_56_0 : XK := X_load xkI 1 <| X_i2l <| X_push (.inr (.inl 0)) <| X_push (.inr (.inl 255)) <| X_callS 96 3 9
noncomputable def B_56_9 : XK := X_if p_ne d_ne 19 <| X_load xkR 0 <| X_push (.inl 4294967294) <| X_callV 12 97 2 18
noncomputable def B_56_18 : XK := X_ret xkI
noncomputable def B_56_19 : XK := X_load xkR 0 <| X_getf 12 13 <| X_push (.inl 250) <| X_if2 p2_ne d_ne 36 <| X_stop
noncomputable def B_56_36 : XK := X_load xkR 0 <| X_getf 12 12 <| X_load xkR 0 <| X_getf 12 13 <| X_load xkI 1 <| X_ast xt0 xkI <| X_load xkR 0 <| X_dup <| X_getf 12 13 <| X_push (.inl 1) <| X_ibin x_iadd xg_add <| X_putf xkI 12 13 <| X_load xkR 0 <| X_getf 12 13 <| X_ret xkI
noncomputable def T_56 : Nat → Option XK := fun pc => (cond (Nat.blt pc 18) (cond (Nat.blt pc 9) (cond (Nat.beq pc 0) (some B_56_0) none) (cond (Nat.beq pc 9) (some B_56_9) none)) (cond (Nat.blt pc 19) (cond (Nat.beq pc 18) (some B_56_18) none) (cond (Nat.blt pc 36) (cond (Nat.beq pc 19) (some B_56_19) none) (cond (Nat.beq pc 36) (some B_56_36) none))))
noncomputable def B_57_0 : XK := X_load xkI 1 <| X_callS 156 1 4
noncomputable def B_57_4 : XK := X_if p_ne d_ne 14 <| X_load xkR 0 <| X_push (.inl 4294967294) <| X_callV 12 97 2 13
noncomputable def B_57_13 : XK := X_ret xkI
noncomputable def B_57_14 : XK := X_load xkR 0 <| X_load xkI 1 <| X_push (.inl 0) <| X_callV 12 157 3 20
noncomputable def B_57_20 : XK := X_load xkR 0 <| X_getf 12 7 <| X_push (.inl 0) <| X_ald xt0 <| X_if2 p2_ne d_ne 36 <| X_load xkR 0 <| X_push (.inl 4294967291) <| X_callV 12 97 2 35
noncomputable def B_57_35 : XK := X_ret xkI
noncomputable def T_57 : Nat → Option XK := fun pc => (cond (Nat.blt pc 14) (cond (Nat.blt pc 4) (cond (Nat.beq pc 0) (some B_57_0) none) (cond (Nat.blt pc 13) (cond (Nat.beq pc 4) (some B_57_4) none) (cond (Nat.beq pc 13) (some B_57_13) none))) (cond (Nat.blt pc 20) (cond (Nat.beq pc 14) (some B_57_14) none) (cond (Nat.blt pc 35) (cond (Nat.beq pc 20) (some B_57_20) none) (cond (Nat.beq pc 35) (some B_57_35) none))))
noncomputable def B_58_0 : XK := X_load xkI 1 <| X_callS 158 1 4
noncomputable def B_58_4 : XK := X_if p_eq d_eq 16 <| X_load xkR 0 <| X_getf 12 19 <| X_load xkI 1 <| X_ald xt0 <| X_jump 17
noncomputable def B_58_16 : XK := X_push (.inl 4294967295) <| X_jump 17
noncomputable def B_58_17 : XK := X_ret xkI
noncomputable def T_58 : Nat → Option XK := fun pc => (cond (Nat.blt pc 16) (cond (Nat.blt pc 4) (cond (Nat.beq pc 0) (some B_58_0) none) (cond (Nat.beq pc 4) (some B_58_4) none)) (cond (Nat.blt pc 17) (cond (Nat.beq pc 16) (some B_58_16) none) (cond (Nat.beq pc 17) (some B_58_17) none)))
noncomputable def B_59_0 : XK := X_load xkR 0 <| X_getf 12 0 <| X_load xkR 0 <| X_getf 12 1 <| X_push (.inl 12) <| X_load xkR 0 <| X_getf 12 25 <| X_load xkR 0 <| X_getf 12 26 <| X_callS 161 5 21
noncomputable def B_59_21 : XK := X_load xkR 0 <| X_getf 12 3 <| X_load xkR 0 <| X_getf 12 4 <| X_push (.inl 0) <| X_load xkR 0 <| X_getf 12 27 <| X_load xkR 0 <| X_getf 12 28 <| X_callS 161 5 41
noncomputable def B_59_41 : XK := X_load xkR 0 <| X_getf 12 5 <| X_load xkR 0 <| X_getf 12 29 <| X_push (.inl 32) <| X_callS 162 3 54
noncomputable def B_59_54 : XK := X_load xkR 0 <| X_getf 12 6 <| X_load xkR 0 <| X_getf 12 30 <| X_push (.inl 91) <| X_callS 162 3 67
noncomputable def B_59_67 : XK := X_load xkR 0 <| X_getf 12 7 <| X_load xkR 0 <| X_getf 12 31 <| X_push (.inl 2) <| X_callS 162 3 79
noncomputable def B_59_79 : XK := X_load xkR 0 <| X_push (.inl 1) <| X_putf xk01 12 32 <| X_push (.inl 1) <| X_ret xkI
noncomputable def T_59 : Nat → Option XK := fun pc => (cond (Nat.blt pc 54) (cond (Nat.blt pc 21) (cond (Nat.beq pc 0) (some B_59_0) none) (cond (Nat.blt pc 41) (cond (Nat.beq pc 21) (some B_59_21) none) (cond (Nat.beq pc 41) (some B_59_41) none))) (cond (Nat.blt pc 67) (cond (Nat.beq pc 54) (some B_59_54) none) (cond (Nat.blt pc 79) (cond (Nat.beq pc 67) (some B_59_67) none) (cond (Nat.beq pc 79) (some B_59_79) none))))
noncomputable def B_60_0 : XK := X_load xkI 1 <| X_callS 156 1 4
noncomputable def B_60_4 : XK := X_if p_eq d_eq 48 <| X_load xkI 2 <| X_i2l <| X_push (.inr (.inl 0)) <| X_load xkR 0 <| X_getf 12 4 <| X_load xkI 1 <| X_ald xt0 <| X_i2l <| X_callS 96 3 20
noncomputable def B_60_20 : XK := X_if p_eq d_eq 48 <| X_load xkI 3 <| X_i2l <| X_push (.inr (.inl 0)) <| X_push (.inr (.inl 25)) <| X_callS 96 3 32
noncomputable def B_60_32 : XK := X_if p_eq d_eq 48 <| X_load xkI 4 <| X_i2l <| X_push (.inr (.inl 0)) <| X_push (.inr (.inl 15)) <| X_callS 96 3 45
noncomputable def B_60_45 : XK := X_if p_ne d_ne 55 <| X_jump 48
noncomputable def B_60_48 : XK := X_load xkR 0 <| X_push (.inl 4294967294) <| X_callV 12 97 2 54
noncomputable def B_60_54 : XK := X_ret xkI
noncomputable def B_60_55 : XK := X_load xkR 0 <| X_getf 12 4 <| X_load xkI 1 <| X_ald xt0 <| X_push (.inl 60) <| X_if2 p2_lt d_lt 73 <| X_stop
noncomputable def B_60_73 : XK := X_load xkR 0 <| X_load xkI 1 <| X_load xkI 2 <| X_push (.inl 1048576) <| X_load xkI 4 <| X_push (.inl 8) <| X_ibin x_ishl xg_shl <| X_ibin Nat.lor xg_or <| X_load xkI 3 <| X_ibin Nat.lor xg_or <| X_callV 12 163 4 89
noncomputable def B_60_89 : XK := X_load xkR 0 <| X_getf 12 4 <| X_load xkI 1 <| X_ald xt0 <| X_ret xkI
noncomputable def T_60 : Nat → Option XK := fun pc => (cond (Nat.blt pc 48) (cond (Nat.blt pc 20) (cond (Nat.blt pc 4) (cond (Nat.beq pc 0) (some B_60_0) none) (cond (Nat.beq pc 4) (some B_60_4) none)) (cond (Nat.blt pc 32) (cond (Nat.beq pc 20) (some B_60_20) none) (cond (Nat.blt pc 45) (cond (Nat.beq pc 32) (some B_60_32) none) (cond (Nat.beq pc 45) (some B_60_45) none)))) (cond (Nat.blt pc 55) (cond (Nat.blt pc 54) (cond (Nat.beq pc 48) (some B_60_48) none) (cond (Nat.beq pc 54) (some B_60_54) none)) (cond (Nat.blt pc 73) (cond (Nat.beq pc 55) (some B_60_55) none) (cond (Nat.blt pc 89) (cond (Nat.beq pc 73) (some B_60_73) none) (cond (Nat.beq pc 89) (some B_60_89) none)))))
noncomputable def B_61_0 : XK := X_load xkI 1 <| X_callS 152 1 4
noncomputable def B_61_4 : XK := X_if p_eq d_eq 26 <| X_load xkI 2 <| X_callS 158 1 11
noncomputable def B_61_11 : XK := X_if p_eq d_eq 26 <| X_load xkI 3 <| X_i2l <| X_push (.inr (.inl 0)) <| X_push (.inr (.inl 20)) <| X_callS 96 3 23
noncomputable def B_61_23 : XK := X_if p_ne d_ne 33 <| X_jump 26
noncomputable def B_61_26 : XK := X_load xkR 0 <| X_push (.inl 4294967294) <| X_callV 12 97 2 32
noncomputable def B_61_32 : XK := X_ret xkI
noncomputable def B_61_33 : XK := X_load xkR 0 <| X_getf 12 19 <| X_load xkI 2 <| X_ald xt0 <| X_push (.inl 4) <| X_if2 p2_le d_le 50 <| X_stop
noncomputable def B_61_50 : XK := X_load xkR 0 <| X_getf 12 19 <| X_load xkI 2 <| X_ald xt0 <| X_if p_ge d_ge 66 <| X_load xkR 0 <| X_push (.inl 4294967292) <| X_callV 12 97 2 65
noncomputable def B_61_65 : XK := X_ret xkI
noncomputable def T_61 : Nat → Option XK := fun pc => (cond (Nat.blt pc 26) (cond (Nat.blt pc 11) (cond (Nat.blt pc 4) (cond (Nat.beq pc 0) (some B_61_0) none) (cond (Nat.beq pc 4) (some B_61_4) none)) (cond (Nat.blt pc 23) (cond (Nat.beq pc 11) (some B_61_11) none) (cond (Nat.beq pc 23) (some B_61_23) none))) (cond (Nat.blt pc 33) (cond (Nat.blt pc 32) (cond (Nat.beq pc 26) (some B_61_26) none) (cond (Nat.beq pc 32) (some B_61_32) none)) (cond (Nat.blt pc 50) (cond (Nat.beq pc 33) (some B_61_33) none) (cond (Nat.blt pc 65) (cond (Nat.beq pc 50) (some B_61_50) none) (cond (Nat.beq pc 65) (some B_61_65) none)))))
noncomputable def B_62_0 : XK := X_load xkI 1 <| X_callS 152 1 4
noncomputable def B_62_4 : XK := X_if p_eq d_eq 16 <| X_load xkR 0 <| X_getf 12 4 <| X_load xkI 1 <| X_ald xt0 <| X_jump 22
noncomputable def B_62_16 : XK := X_load xkR 0 <| X_push (.inl 4294967294) <| X_callV 12 97 2 22
noncomputable def B_62_22 : XK := X_ret xkI
noncomputable def T_62 : Nat → Option XK := fun pc => (cond (Nat.blt pc 16) (cond (Nat.blt pc 4) (cond (Nat.beq pc 0) (some B_62_0) none) (cond (Nat.beq pc 4) (some B_62_4) none)) (cond (Nat.blt pc 22) (cond (Nat.beq pc 16) (some B_62_16) none) (cond (Nat.beq pc 22) (some B_62_22) none)))
noncomputable def B_63_0 : XK := X_load xkI 1 <| X_callS 154 1 4
noncomputable def B_63_4 : XK := X_if p_ne d_ne 14 <| X_load xkR 0 <| X_push (.inl 4294967294) <| X_callV 12 97 2 13
noncomputable def B_63_13 : XK := X_ret xkI
noncomputable def B_63_14 : XK := X_load xkR 0 <| X_load xkI 1 <| X_callV 12 155 2 19
noncomputable def B_63_19 : XK := X_if p_ne d_ne 29 <| X_load xkR 0 <| X_push (.inl 4294967292) <| X_callV 12 97 2 28
noncomputable def B_63_28 : XK := X_ret xkI
noncomputable def T_63 : Nat → Option XK := fun pc => (cond (Nat.blt pc 14) (cond (Nat.blt pc 4) (cond (Nat.beq pc 0) (some B_63_0) none) (cond (Nat.blt pc 13) (cond (Nat.beq pc 4) (some B_63_4) none) (cond (Nat.beq pc 13) (some B_63_13) none))) (cond (Nat.blt pc 19) (cond (Nat.beq pc 14) (some B_63_14) none) (cond (Nat.blt pc 28) (cond (Nat.beq pc 19) (some B_63_19) none) (cond (Nat.beq pc 28) (some B_63_28) none))))
noncomputable def B_64_0 : XK := X_load xkR 0 <| X_load xkI 1 <| X_load xkI 2 <| X_load xkI 3 <| X_callV 12 159 4 7
noncomputable def B_64_7 : XK := X_if p_eq d_eq 34 <| X_stop
noncomputable def B_64_34 : XK := X_load xkR 0 <| X_push (.inl 4294967294) <| X_callV 12 97 2 40
noncomputable def B_64_40 : XK := X_ret xkI
noncomputable def T_64 : Nat → Option XK := fun pc => (cond (Nat.blt pc 34) (cond (Nat.blt pc 7) (cond (Nat.beq pc 0) (some B_64_0) none) (cond (Nat.beq pc 7) (some B_64_7) none)) (cond (Nat.blt pc 40) (cond (Nat.beq pc 34) (some B_64_34) none) (cond (Nat.beq pc 40) (some B_64_40) none)))
noncomputable def B_65_0 : XK := X_load xkI 1 <| X_callS 152 1 4
noncomputable def B_65_4 : XK := X_if p_eq d_eq 19 <| X_load xkI 2 <| X_i2l <| X_push (.inr (.inl 0)) <| X_push (.inr (.inl 4)) <| X_callS 96 3 16
noncomputable def B_65_16 : XK := X_if p_ne d_ne 26 <| X_jump 19
noncomputable def B_65_19 : XK := X_load xkR 0 <| X_push (.inl 4294967294) <| X_callV 12 97 2 25
noncomputable def B_65_25 : XK := X_ret xkI
noncomputable def B_65_26 : XK := X_push (.inl 0) <| X_store xkI 3 <| X_push (.inl 0) <| X_store xkI 4 <| X_jump 31
noncomputable def B_65_31 : XK := X_load xkI 4 <| X_load xkR 0 <| X_getf 12 4 <| X_load xkI 1 <| X_ald xt0 <| X_if2 p2_ge d_ge 127 <| X_stop
noncomputable def B_65_127 : XK := X_load xkI 3 <| X_ret xkI
noncomputable def T_65 : Nat → Option XK := fun pc => (cond (Nat.blt pc 25) (cond (Nat.blt pc 16) (cond (Nat.blt pc 4) (cond (Nat.beq pc 0) (some B_65_0) none) (cond (Nat.beq pc 4) (some B_65_4) none)) (cond (Nat.blt pc 19) (cond (Nat.beq pc 16) (some B_65_16) none) (cond (Nat.beq pc 19) (some B_65_19) none))) (cond (Nat.blt pc 31) (cond (Nat.blt pc 26) (cond (Nat.beq pc 25) (some B_65_25) none) (cond (Nat.beq pc 26) (some B_65_26) none)) (cond (Nat.blt pc 127) (cond (Nat.beq pc 31) (some B_65_31) none) (cond (Nat.beq pc 127) (some B_65_127) none))))
noncomputable def B_66_0 : XK := X_push (.inl 1) <| X_store xkI 1 <| X_jump 2
noncomputable def B_66_2 : XK := X_load xkI 1 <| X_if p_eq d_eq 65 <| X_push (.inl 0) <| X_store xkI 2 <| X_jump 8
noncomputable def B_66_8 : XK := X_load xkI 2 <| X_push (.inl 4) <| X_if2 p2_ge d_ge 53 <| X_load xkR 0 <| X_load xkI 2 <| X_push (.inl 1) <| X_callV 12 157 3 19
noncomputable def B_66_19 : XK := X_push (.inl 1) <| X_if2 p2_ne d_ne 47 <| X_stop
noncomputable def B_66_47 : XK := X_iinc 2 1 <| X_jump 8
noncomputable def B_66_53 : XK := X_load xkR 0 <| X_callV 12 164 1 57
noncomputable def B_66_57 : XK := X_load xkR 0 <| X_callV 12 165 1 61
noncomputable def B_66_61 : XK := X_store xkI 1 <| X_jump 2
noncomputable def B_66_65 : XK := X_load xkR 0 <| X_getf 12 7 <| X_push (.inl 0) <| X_ald xt0 <| X_ret xkI
noncomputable def T_66 : Nat → Option XK := fun pc => (cond (Nat.blt pc 47) (cond (Nat.blt pc 8) (cond (Nat.blt pc 2) (cond (Nat.beq pc 0) (some B_66_0) none) (cond (Nat.beq pc 2) (some B_66_2) none)) (cond (Nat.blt pc 19) (cond (Nat.beq pc 8) (some B_66_8) none) (cond (Nat.beq pc 19) (some B_66_19) none))) (cond (Nat.blt pc 57) (cond (Nat.blt pc 53) (cond (Nat.beq pc 47) (some B_66_47) none) (cond (Nat.beq pc 53) (some B_66_53) none)) (cond (Nat.blt pc 61) (cond (Nat.beq pc 57) (some B_66_57) none) (cond (Nat.blt pc 65) (cond (Nat.beq pc 61) (some B_66_61) none) (cond (Nat.beq pc 65) (some B_66_65) none)))))
noncomputable def B_67_0 : XK := X_load xkI 1 <| X_callS 154 1 4
noncomputable def B_67_4 : XK := X_if p_eq d_eq 19 <| X_load xkI 2 <| X_i2l <| X_push (.inr (.inl 0)) <| X_push (.inr (.inl 5)) <| X_callS 96 3 16
noncomputable def B_67_16 : XK := X_if p_ne d_ne 26 <| X_jump 19
noncomputable def B_67_19 : XK := X_load xkR 0 <| X_push (.inl 4294967294) <| X_callV 12 97 2 25
noncomputable def B_67_25 : XK := X_ret xkI
noncomputable def B_67_26 : XK := X_load xkR 0 <| X_load xkI 1 <| X_callV 12 155 2 31
noncomputable def B_67_31 : XK := X_if p_ne d_ne 41 <| X_load xkR 0 <| X_push (.inl 4294967292) <| X_callV 12 97 2 40
noncomputable def B_67_40 : XK := X_ret xkI
noncomputable def T_67 : Nat → Option XK := fun pc => (cond (Nat.blt pc 25) (cond (Nat.blt pc 16) (cond (Nat.blt pc 4) (cond (Nat.beq pc 0) (some B_67_0) none) (cond (Nat.beq pc 4) (some B_67_4) none)) (cond (Nat.blt pc 19) (cond (Nat.beq pc 16) (some B_67_16) none) (cond (Nat.beq pc 19) (some B_67_19) none))) (cond (Nat.blt pc 31) (cond (Nat.blt pc 26) (cond (Nat.beq pc 25) (some B_67_25) none) (cond (Nat.beq pc 26) (some B_67_26) none)) (cond (Nat.blt pc 40) (cond (Nat.beq pc 31) (some B_67_31) none) (cond (Nat.beq pc 40) (some B_67_40) none))))
noncomputable def B_68_0 : XK := X_load xkI 1 <| X_callS 154 1 4
noncomputable def B_68_4 : XK := X_if p_eq d_eq 32 <| X_load xkI 2 <| X_callS 154 1 11
noncomputable def B_68_11 : XK := X_if p_eq d_eq 32 <| X_load xkI 3 <| X_callS 154 1 18
noncomputable def B_68_18 : XK := X_if p_eq d_eq 32 <| X_load xkI 4 <| X_i2l <| X_push (.inr (.inl 0)) <| X_push (.inr (.inl 1)) <| X_callS 96 3 29
noncomputable def B_68_29 : XK := X_if p_ne d_ne 39 <| X_jump 32
noncomputable def B_68_32 : XK := X_load xkR 0 <| X_push (.inl 4294967294) <| X_callV 12 97 2 38
noncomputable def B_68_38 : XK := X_ret xkI
noncomputable def B_68_39 : XK := X_load xkR 0 <| X_load xkI 2 <| X_callV 12 155 2 44
noncomputable def B_68_44 : XK := X_if p_eq d_eq 55 <| X_stop
noncomputable def B_68_55 : XK := X_load xkR 0 <| X_push (.inl 4294967292) <| X_callV 12 97 2 61
noncomputable def B_68_61 : XK := X_ret xkI
noncomputable def T_68 : Nat → Option XK := fun pc => (cond (Nat.blt pc 32) (cond (Nat.blt pc 11) (cond (Nat.blt pc 4) (cond (Nat.beq pc 0) (some B_68_0) none) (cond (Nat.beq pc 4) (some B_68_4) none)) (cond (Nat.blt pc 18) (cond (Nat.beq pc 11) (some B_68_11) none) (cond (Nat.blt pc 29) (cond (Nat.beq pc 18) (some B_68_18) none) (cond (Nat.beq pc 29) (some B_68_29) none)))) (cond (Nat.blt pc 44) (cond (Nat.blt pc 38) (cond (Nat.beq pc 32) (some B_68_32) none) (cond (Nat.blt pc 39) (cond (Nat.beq pc 38) (some B_68_38) none) (cond (Nat.beq pc 39) (some B_68_39) none))) (cond (Nat.blt pc 55) (cond (Nat.beq pc 44) (some B_68_44) none) (cond (Nat.blt pc 61) (cond (Nat.beq pc 55) (some B_68_55) none) (cond (Nat.beq pc 61) (some B_68_61) none)))))
noncomputable def B_69_0 : XK := X_load xkI 1 <| X_callS 154 1 4
noncomputable def B_69_4 : XK := X_if p_eq d_eq 19 <| X_load xkI 3 <| X_i2l <| X_push (.inr (.inl 0)) <| X_push (.inr (.inl 3)) <| X_callS 96 3 16
noncomputable def B_69_16 : XK := X_if p_ne d_ne 26 <| X_jump 19
noncomputable def B_69_19 : XK := X_load xkR 0 <| X_push (.inl 4294967294) <| X_callV 12 97 2 25
noncomputable def B_69_25 : XK := X_ret xkI
noncomputable def B_69_26 : XK := X_load xkR 0 <| X_load xkI 1 <| X_callV 12 155 2 31
noncomputable def B_69_31 : XK := X_if p_ne d_ne 41 <| X_load xkR 0 <| X_push (.inl 4294967292) <| X_callV 12 97 2 40
noncomputable def B_69_40 : XK := X_ret xkI
noncomputable def T_69 : Nat → Option XK := fun pc => (cond (Nat.blt pc 25) (cond (Nat.blt pc 16) (cond (Nat.blt pc 4) (cond (Nat.beq pc 0) (some B_69_0) none) (cond (Nat.beq pc 4) (some B_69_4) none)) (cond (Nat.blt pc 19) (cond (Nat.beq pc 16) (some B_69_16) none) (cond (Nat.beq pc 19) (some B_69_19) none))) (cond (Nat.blt pc 31) (cond (Nat.blt pc 26) (cond (Nat.beq pc 25) (some B_69_25) none) (cond (Nat.beq pc 26) (some B_69_26) none)) (cond (Nat.blt pc 40) (cond (Nat.beq pc 31) (some B_69_31) none) (cond (Nat.beq pc 40) (some B_69_40) none))))
noncomputable def B_70_0 : XK := X_load xkI 1 <| X_callS 156 1 4
noncomputable def B_70_4 : XK := X_if p_eq d_eq 39 <| X_load xkI 2 <| X_i2l <| X_push (.inr (.inl 0)) <| X_load xkR 0 <| X_getf 12 4 <| X_load xkI 1 <| X_ald xt0 <| X_i2l <| X_callS 96 3 20
noncomputable def B_70_20 : XK := X_if p_eq d_eq 39 <| X_load xkI 3 <| X_i2l <| X_push (.inr (.inl 0)) <| X_load xkR 0 <| X_getf 12 4 <| X_load xkI 1 <| X_ald xt0 <| X_i2l <| X_callS 96 3 36
noncomputable def B_70_36 : XK := X_if p_ne d_ne 46 <| X_jump 39
noncomputable def B_70_39 : XK := X_load xkR 0 <| X_push (.inl 4294967294) <| X_callV 12 97 2 45
noncomputable def B_70_45 : XK := X_ret xkI
noncomputable def B_70_46 : XK := X_load xkR 0 <| X_getf 12 5 <| X_push (.inl 8) <| X_load xkI 1 <| X_ibin x_imul (xg0 x_imul) <| X_push (.inl 6) <| X_ibin x_iadd xg_add <| X_load xkI 2 <| X_ast xt0 xkI <| X_load xkR 0 <| X_getf 12 5 <| X_push (.inl 8) <| X_load xkI 1 <| X_ibin x_imul (xg0 x_imul) <| X_push (.inl 7) <| X_ibin x_iadd xg_add <| X_load xkI 3 <| X_ast xt0 xkI <| X_push (.inl 1) <| X_ret xkI
noncomputable def T_70 : Nat → Option XK := fun pc => (cond (Nat.blt pc 36) (cond (Nat.blt pc 4) (cond (Nat.beq pc 0) (some B_70_0) none) (cond (Nat.blt pc 20) (cond (Nat.beq pc 4) (some B_70_4) none) (cond (Nat.beq pc 20) (some B_70_20) none))) (cond (Nat.blt pc 45) (cond (Nat.blt pc 39) (cond (Nat.beq pc 36) (some B_70_36) none) (cond (Nat.beq pc 39) (some B_70_39) none)) (cond (Nat.blt pc 46) (cond (Nat.beq pc 45) (some B_70_45) none) (cond (Nat.beq pc 46) (some B_70_46) none))))
noncomputable def B_71_0 : XK := X_load xkI 1 <| X_callS 156 1 4
noncomputable def B_71_4 : XK := X_if p_ne d_ne 14 <| X_load xkR 0 <| X_push (.inl 4294967294) <| X_callV 12 97 2 13
noncomputable def B_71_13 : XK := X_ret xkI
noncomputable def B_71_14 : XK := X_load xkR 0 <| X_load xkI 1 <| X_push (.inl 5) <| X_callV 12 166 3 20
noncomputable def B_71_20 : XK := X_store xkI 2 <| X_load xkI 2 <| X_if p_ge d_ge 33 <| X_load xkR 0 <| X_load xkI 2 <| X_callV 12 97 2 30
noncomputable def B_71_30 : XK := X_jump 39
noncomputable def B_71_39 : XK := X_ret xkI
noncomputable def T_71 : Nat → Option XK := fun pc => (cond (Nat.blt pc 14) (cond (Nat.blt pc 4) (cond (Nat.beq pc 0) (some B_71_0) none) (cond (Nat.blt pc 13) (cond (Nat.beq pc 4) (some B_71_4) none) (cond (Nat.beq pc 13) (some B_71_13) none))) (cond (Nat.blt pc 30) (cond (Nat.blt pc 20) (cond (Nat.beq pc 14) (some B_71_14) none) (cond (Nat.beq pc 20) (some B_71_20) none)) (cond (Nat.blt pc 39) (cond (Nat.beq pc 30) (some B_71_30) none) (cond (Nat.beq pc 39) (some B_71_39) none))))
noncomputable def B_72_0 : XK := X_load xkI 1 <| X_callS 154 1 4
noncomputable def B_72_4 : XK := X_if p_eq d_eq 23 <| X_load xkI 2 <| X_i2l <| X_push (.inr (.inl 1)) <| X_load xkR 0 <| X_getf 12 7 <| X_push (.inl 0) <| X_ald xt0 <| X_i2l <| X_callS 96 3 20
noncomputable def B_72_20 : XK := X_if p_ne d_ne 30 <| X_jump 23
noncomputable def B_72_23 : XK := X_load xkR 0 <| X_push (.inl 4294967294) <| X_callV 12 97 2 29
noncomputable def B_72_29 : XK := X_ret xkI
noncomputable def T_72 : Nat → Option XK := fun pc => (cond (Nat.blt pc 20) (cond (Nat.blt pc 4) (cond (Nat.beq pc 0) (some B_72_0) none) (cond (Nat.beq pc 4) (some B_72_4) none)) (cond (Nat.blt pc 23) (cond (Nat.beq pc 20) (some B_72_20) none) (cond (Nat.blt pc 29) (cond (Nat.beq pc 23) (some B_72_23) none) (cond (Nat.beq pc 29) (some B_72_29) none))))
noncomputable def B_73_0 : XK := X_load xkI 1 <| X_callS 158 1 4
noncomputable def B_73_4 : XK := X_if p_eq d_eq 31 <| X_load xkI 2 <| X_i2l <| X_push (.inr (.inl 0)) <| X_push (.inr (.inl 4)) <| X_callS 96 3 16
noncomputable def B_73_16 : XK := X_if p_eq d_eq 31 <| X_load xkI 3 <| X_i2l <| X_push (.inr (.inl 0)) <| X_push (.inr (.inl 40)) <| X_callS 96 3 28
noncomputable def B_73_28 : XK := X_if p_ne d_ne 38 <| X_jump 31
noncomputable def B_73_31 : XK := X_load xkR 0 <| X_push (.inl 4294967294) <| X_callV 12 97 2 37
noncomputable def B_73_37 : XK := X_ret xkI
noncomputable def B_73_38 : XK := X_load xkR 0 <| X_getf 12 19 <| X_load xkI 1 <| X_load xkI 2 <| X_ast xt0 xkI <| X_load xkR 0 <| X_getf 12 20 <| X_load xkI 1 <| X_load xkI 3 <| X_ast xt0 xkI <| X_push (.inl 0) <| X_store xkI 4 <| X_jump 55
noncomputable def B_73_55 : XK := X_load xkI 4 <| X_push (.inl 40) <| X_if2 p2_ge d_ge 81 <| X_load xkR 0 <| X_getf 12 21 <| X_push (.inl 40) <| X_load xkI 1 <| X_ibin x_imul (xg0 x_imul) <| X_load xkI 4 <| X_ibin x_iadd xg_add <| X_push (.inr (.inl 0)) <| X_ast xt1 xkL <| X_iinc 4 1 <| X_jump 55
noncomputable def B_73_81 : XK := X_push (.inl 1) <| X_ret xkI
noncomputable def T_73 : Nat → Option XK := fun pc => (cond (Nat.blt pc 31) (cond (Nat.blt pc 16) (cond (Nat.blt pc 4) (cond (Nat.beq pc 0) (some B_73_0) none) (cond (Nat.beq pc 4) (some B_73_4) none)) (cond (Nat.blt pc 28) (cond (Nat.beq pc 16) (some B_73_16) none) (cond (Nat.beq pc 28) (some B_73_28) none))) (cond (Nat.blt pc 38) (cond (Nat.blt pc 37) (cond (Nat.beq pc 31) (some B_73_31) none) (cond (Nat.beq pc 37) (some B_73_37) none)) (cond (Nat.blt pc 55) (cond (Nat.beq pc 38) (some B_73_38) none) (cond (Nat.blt pc 81) (cond (Nat.beq pc 55) (some B_73_55) none) (cond (Nat.beq pc 81) (some B_73_81) none)))))
noncomputable def B_74_0 : XK := X_load xkI 1 <| X_callS 158 1 4
noncomputable def B_74_4 : XK := X_if p_eq d_eq 19 <| X_load xkI 2 <| X_i2l <| X_push (.inr (.inl 0)) <| X_push (.inr (.inl 5)) <| X_callS 96 3 16
noncomputable def B_74_16 : XK := X_if p_ne d_ne 26 <| X_jump 19
noncomputable def B_74_19 : XK := X_load xkR 0 <| X_push (.inl 4294967294) <| X_callV 12 97 2 25
noncomputable def B_74_25 : XK := X_ret xkI
noncomputable def B_74_26 : XK := X_load xkR 0 <| X_getf 12 19 <| X_load xkI 1 <| X_ald xt0 <| X_i2l <| X_push (.inr (.inl 0)) <| X_push (.inr (.inl 4)) <| X_callS 96 3 40
noncomputable def B_74_40 : XK := X_if p_eq d_eq 50 <| X_stop
noncomputable def B_74_50 : XK := X_load xkR 0 <| X_getf 12 19 <| X_load xkI 1 <| X_ald xt0 <| X_if p_ge d_ge 66 <| X_load xkR 0 <| X_push (.inl 4294967292) <| X_callV 12 97 2 65
noncomputable def B_74_65 : XK := X_ret xkI
noncomputable def T_74 : Nat → Option XK := fun pc => (cond (Nat.blt pc 25) (cond (Nat.blt pc 16) (cond (Nat.blt pc 4) (cond (Nat.beq pc 0) (some B_74_0) none) (cond (Nat.beq pc 4) (some B_74_4) none)) (cond (Nat.blt pc 19) (cond (Nat.beq pc 16) (some B_74_16) none) (cond (Nat.beq pc 19) (some B_74_19) none))) (cond (Nat.blt pc 40) (cond (Nat.blt pc 26) (cond (Nat.beq pc 25) (some B_74_25) none) (cond (Nat.beq pc 26) (some B_74_26) none)) (cond (Nat.blt pc 50) (cond (Nat.beq pc 40) (some B_74_40) none) (cond (Nat.blt pc 65) (cond (Nat.beq pc 50) (some B_74_50) none) (cond (Nat.beq pc 65) (some B_74_65) none)))))
noncomputable def B_75_0 : XK := X_load xkR 0 <| X_getf 12 7 <| X_push (.inl 1) <| X_ald xt0 <| X_store xkI 2 <| X_load xkR 0 <| X_getf 12 7 <| X_push (.inl 1) <| X_load xkI 1 <| X_ast xt0 xkI <| X_load xkI 2 <| X_ret xkI
noncomputable def T_75 : Nat → Option XK := fun pc => (cond (Nat.beq pc 0) (some B_75_0) none)
noncomputable def B_76_0 : XK := X_load xkI 1 <| X_callS 156 1 4
noncomputable def B_76_4 : XK := X_if p_ne d_ne 14 <| X_load xkR 0 <| X_push (.inl 4294967294) <| X_callV 12 97 2 13
noncomputable def B_76_13 : XK := X_ret xkI
noncomputable def B_76_14 : XK := X_load xkR 0 <| X_load xkI 1 <| X_push (.inl 1) <| X_callV 12 157 3 20
noncomputable def B_76_20 : XK := X_push (.inl 1) <| X_if2 p2_eq d_eq 31 <| X_load xkR 0 <| X_push (.inl 4294967291) <| X_callV 12 97 2 30
noncomputable def B_76_30 : XK := X_ret xkI
noncomputable def T_76 : Nat → Option XK := fun pc => (cond (Nat.blt pc 14) (cond (Nat.blt pc 4) (cond (Nat.beq pc 0) (some B_76_0) none) (cond (Nat.blt pc 13) (cond (Nat.beq pc 4) (some B_76_4) none) (cond (Nat.beq pc 13) (some B_76_13) none))) (cond (Nat.blt pc 20) (cond (Nat.beq pc 14) (some B_76_14) none) (cond (Nat.blt pc 30) (cond (Nat.beq pc 20) (some B_76_20) none) (cond (Nat.beq pc 30) (some B_76_30) none))))
noncomputable def B_77_0 : XK := X_load xkI 1 <| X_callS 158 1 4
noncomputable def B_77_4 : XK := X_if p_ne d_ne 14 <| X_load xkR 0 <| X_push (.inl 4294967294) <| X_callV 12 97 2 13
noncomputable def B_77_13 : XK := X_ret xkI
noncomputable def B_77_14 : XK := X_load xkR 0 <| X_getf 12 19 <| X_load xkI 1 <| X_ald xt0 <| X_push (.inl 4) <| X_if2 p2_le d_le 31 <| X_stop
noncomputable def B_77_31 : XK := X_load xkR 0 <| X_getf 12 19 <| X_load xkI 1 <| X_ald xt0 <| X_if p_ge d_ge 47 <| X_load xkR 0 <| X_push (.inl 4294967292) <| X_callV 12 97 2 46
noncomputable def B_77_46 : XK := X_ret xkI
noncomputable def T_77 : Nat → Option XK := fun pc => (cond (Nat.blt pc 14) (cond (Nat.blt pc 4) (cond (Nat.beq pc 0) (some B_77_0) none) (cond (Nat.blt pc 13) (cond (Nat.beq pc 4) (some B_77_4) none) (cond (Nat.beq pc 13) (some B_77_13) none))) (cond (Nat.blt pc 31) (cond (Nat.beq pc 14) (some B_77_14) none) (cond (Nat.blt pc 46) (cond (Nat.beq pc 31) (some B_77_31) none) (cond (Nat.beq pc 46) (some B_77_46) none))))
noncomputable def B_78_0 : XK := X_load xkI 1 <| X_callS 158 1 4
noncomputable def B_78_4 : XK := X_if p_eq d_eq 19 <| X_load xkI 2 <| X_push (.inl 4294967295) <| X_if2 p2_eq d_eq 26 <| X_load xkI 2 <| X_callS 154 1 16
noncomputable def B_78_16 : XK := X_if p_ne d_ne 26 <| X_jump 19
noncomputable def B_78_19 : XK := X_load xkR 0 <| X_push (.inl 4294967294) <| X_callV 12 97 2 25
noncomputable def B_78_25 : XK := X_ret xkI
noncomputable def B_78_26 : XK := X_load xkI 2 <| X_push (.inl 4294967295) <| X_if2 p2_ne d_ne 40 <| X_load xkR 0 <| X_getf 12 19 <| X_load xkI 1 <| X_push (.inl 4294967295) <| X_ast xt0 xkI <| X_push (.inl 1) <| X_ret xkI
noncomputable def B_78_40 : XK := X_load xkR 0 <| X_load xkI 2 <| X_callV 12 155 2 45
noncomputable def B_78_45 : XK := X_if p_ne d_ne 55 <| X_load xkR 0 <| X_push (.inl 4294967292) <| X_callV 12 97 2 54
noncomputable def B_78_54 : XK := X_ret xkI
noncomputable def T_78 : Nat → Option XK := fun pc => (cond (Nat.blt pc 25) (cond (Nat.blt pc 16) (cond (Nat.blt pc 4) (cond (Nat.beq pc 0) (some B_78_0) none) (cond (Nat.beq pc 4) (some B_78_4) none)) (cond (Nat.blt pc 19) (cond (Nat.beq pc 16) (some B_78_16) none) (cond (Nat.beq pc 19) (some B_78_19) none))) (cond (Nat.blt pc 40) (cond (Nat.blt pc 26) (cond (Nat.beq pc 25) (some B_78_25) none) (cond (Nat.beq pc 26) (some B_78_26) none)) (cond (Nat.blt pc 45) (cond (Nat.beq pc 40) (some B_78_40) none) (cond (Nat.blt pc 54) (cond (Nat.beq pc 45) (some B_78_45) none) (cond (Nat.beq pc 54) (some B_78_54) none)))))
noncomputable def B_79_0 : XK := X_load xkI 1 <| X_callS 154 1 4
noncomputable def B_79_4 : XK := X_if p_ne d_ne 14 <| X_load xkR 0 <| X_push (.inl 4294967294) <| X_callV 12 97 2 13
noncomputable def B_79_13 : XK := X_ret xkI
noncomputable def B_79_14 : XK := X_load xkR 0 <| X_load xkI 1 <| X_callV 12 155 2 19
noncomputable def B_79_19 : XK := X_if p_ne d_ne 29 <| X_load xkR 0 <| X_push (.inl 4294967292) <| X_callV 12 97 2 28
noncomputable def B_79_28 : XK := X_ret xkI
noncomputable def T_79 : Nat → Option XK := fun pc => (cond (Nat.blt pc 14) (cond (Nat.blt pc 4) (cond (Nat.beq pc 0) (some B_79_0) none) (cond (Nat.blt pc 13) (cond (Nat.beq pc 4) (some B_79_4) none) (cond (Nat.beq pc 13) (some B_79_13) none))) (cond (Nat.blt pc 19) (cond (Nat.beq pc 14) (some B_79_14) none) (cond (Nat.blt pc 28) (cond (Nat.beq pc 19) (some B_79_19) none) (cond (Nat.beq pc 28) (some B_79_28) none))))
noncomputable def B_80_0 : XK := X_push (.inl 0) <| X_store xkI 2 <| X_load xkI 1 <| X_tsw 0 [48, 55, 87, 120, 144, 176, 181, 188] 221
noncomputable def B_80_48 : XK := X_load xkR 0 <| X_getf 12 7 <| X_push (.inl 0) <| X_ald xt0 <| X_ret xkI
noncomputable def B_80_55 : XK := X_push (.inl 0) <| X_store xkI 3 <| X_jump 57
noncomputable def B_80_57 : XK := X_load xkI 3 <| X_push (.inl 4) <| X_if2 p2_ge d_ge 85 <| X_load xkI 2 <| X_load xkR 0 <| X_load xkI 3 <| X_push (.inl 4) <| X_callV 12 153 3 69
noncomputable def B_80_69 : XK := X_if p_ge d_ge 76 <| X_push (.inl 1) <| X_jump 77
noncomputable def B_80_77 : XK := X_ibin x_iadd xg_add <| X_store xkI 2 <| X_iinc 3 1 <| X_jump 57
noncomputable def B_80_85 : XK := X_load xkI 2 <| X_ret xkI
noncomputable def B_80_87 : XK := X_push (.inl 0) <| X_store xkI 3 <| X_jump 89
noncomputable def B_80_89 : XK := X_load xkI 3 <| X_push (.inl 12) <| X_if2 p2_ge d_ge 118 <| X_load xkI 2 <| X_load xkR 0 <| X_getf 12 2 <| X_load xkI 3 <| X_ald xt2 <| X_if p_eq d_eq 109 <| X_stop
noncomputable def B_80_109 : XK := X_push (.inl 0) <| X_jump 110
noncomputable def B_80_110 : XK := X_ibin x_iadd xg_add <| X_store xkI 2 <| X_iinc 3 1 <| X_jump 89
noncomputable def B_80_118 : XK := X_load xkI 2 <| X_ret xkI
noncomputable def B_80_120 : XK := X_push (.inl 0) <| X_store xkI 3 <| X_jump 122
noncomputable def B_80_122 : XK := X_load xkI 3 <| X_push (.inl 5) <| X_if2 p2_ge d_ge 142 <| X_load xkI 2 <| X_load xkR 0 <| X_getf 12 4 <| X_load xkI 3 <| X_ald xt0 <| X_ibin x_iadd xg_add <| X_store xkI 2 <| X_iinc 3 1 <| X_jump 122
noncomputable def B_80_142 : XK := X_load xkI 2 <| X_ret xkI
noncomputable def B_80_144 : XK := X_push (.inl 0) <| X_store xkI 3 <| X_jump 146
noncomputable def B_80_146 : XK := X_load xkI 3 <| X_push (.inl 4) <| X_if2 p2_ge d_ge 174 <| X_load xkI 2 <| X_load xkR 0 <| X_load xkI 3 <| X_push (.inl 1) <| X_callV 12 157 3 158
noncomputable def B_80_158 : XK := X_if p_le d_le 165 <| X_stop
noncomputable def B_80_165 : XK := X_push (.inl 0) <| X_jump 166
noncomputable def B_80_166 : XK := X_ibin x_iadd xg_add <| X_store xkI 2 <| X_iinc 3 1 <| X_jump 146
noncomputable def B_80_174 : XK := X_load xkI 2 <| X_ret xkI
noncomputable def B_80_176 : XK := X_load xkR 0 <| X_getf 12 13 <| X_ret xkI
noncomputable def B_80_181 : XK := X_load xkR 0 <| X_getf 12 7 <| X_push (.inl 1) <| X_ald xt0 <| X_ret xkI
noncomputable def B_80_188 : XK := X_push (.inl 0) <| X_store xkI 3 <| X_jump 190
noncomputable def B_80_190 : XK := X_load xkI 3 <| X_push (.inl 8) <| X_if2 p2_ge d_ge 219 <| X_load xkI 2 <| X_load xkR 0 <| X_getf 12 19 <| X_load xkI 3 <| X_ald xt0 <| X_if p_lt d_lt 210 <| X_stop
noncomputable def B_80_210 : XK := X_push (.inl 0) <| X_jump 211
noncomputable def B_80_211 : XK := X_ibin x_iadd xg_add <| X_store xkI 2 <| X_iinc 3 1 <| X_jump 190
noncomputable def B_80_219 : XK := X_load xkI 2 <| X_ret xkI
noncomputable def B_80_221 : XK := X_load xkI 1 <| X_i2l <| X_push (.inr (.inl 12)) <| X_push (.inr (.inl 16)) <| X_callS 96 3 232
noncomputable def B_80_232 : XK := X_if p_eq d_eq 247 <| X_load xkR 0 <| X_getf 12 8 <| X_load xkI 1 <| X_push (.inl 10) <| X_ibin x_isub xg_sub <| X_ald xt0 <| X_jump 248
noncomputable def B_80_247 : XK := X_push (.inl 4294967295) <| X_jump 248
noncomputable def B_80_248 : XK := X_ret xkI
noncomputable def T_80 : Nat → Option XK := fun pc => (cond (Nat.blt pc 146) (cond (Nat.blt pc 89) (cond (Nat.blt pc 69) (cond (Nat.blt pc 55) (cond (Nat.blt pc 48) (cond (Nat.beq pc 0) (some B_80_0) none) (cond (Nat.beq pc 48) (some B_80_48) none)) (cond (Nat.blt pc 57) (cond (Nat.beq pc 55) (some B_80_55) none) (cond (Nat.beq pc 57) (some B_80_57) none))) (cond (Nat.blt pc 85) (cond (Nat.blt pc 77) (cond (Nat.beq pc 69) (some B_80_69) none) (cond (Nat.beq pc 77) (some B_80_77) none)) (cond (Nat.blt pc 87) (cond (Nat.beq pc 85) (some B_80_85) none) (cond (Nat.beq pc 87) (some B_80_87) none)))) (cond (Nat.blt pc 120) (cond (Nat.blt pc 110) (cond (Nat.blt pc 109) (cond (Nat.beq pc 89) (some B_80_89) none) (cond (Nat.beq pc 109) (some B_80_109) none)) (cond (Nat.blt pc 118) (cond (Nat.beq pc 110) (some B_80_110) none) (cond (Nat.beq pc 118) (some B_80_118) none))) (cond (Nat.blt pc 142) (cond (Nat.blt pc 122) (cond (Nat.beq pc 120) (some B_80_120) none) (cond (Nat.beq pc 122) (some B_80_122) none)) (cond (Nat.blt pc 144) (cond (Nat.beq pc 142) (some B_80_142) none) (cond (Nat.beq pc 144) (some B_80_144) none))))) (cond (Nat.blt pc 190) (cond (Nat.blt pc 174) (cond (Nat.blt pc 165) (cond (Nat.blt pc 158) (cond (Nat.beq pc 146) (some B_80_146) none) (cond (Nat.beq pc 158) (some B_80_158) none)) (cond (Nat.blt pc 166) (cond (Nat.beq pc 165) (some B_80_165) none) (cond (Nat.beq pc 166) (some B_80_166) none))) (cond (Nat.blt pc 181) (cond (Nat.blt pc 176) (cond (Nat.beq pc 174) (some B_80_174) none) (cond (Nat.beq pc 176) (some B_80_176) none)) (cond (Nat.blt pc 188) (cond (Nat.beq pc 181) (some B_80_181) none) (cond (Nat.beq pc 188) (some B_80_188) none)))) (cond (Nat.blt pc 221) (cond (Nat.blt pc 211) (cond (Nat.blt pc 210) (cond (Nat.beq pc 190) (some B_80_190) none) (cond (Nat.beq pc 210) (some B_80_210) none)) (cond (Nat.blt pc 219) (cond (Nat.beq pc 211) (some B_80_211) none) (cond (Nat.beq pc 219) (some B_80_219) none))) (cond (Nat.blt pc 247) (cond (Nat.blt pc 232) (cond (Nat.beq pc 221) (some B_80_221) none) (cond (Nat.beq pc 232) (some B_80_232) none)) (cond (Nat.blt pc 248) (cond (Nat.beq pc 247) (some B_80_247) none) (cond (Nat.beq pc 248) (some B_80_248) none))))))
noncomputable def B_81_0 : XK := X_load xkI 1 <| X_callS 154 1 4
noncomputable def B_81_4 : XK := X_if p_eq d_eq 26 <| X_load xkI 2 <| X_callS 156 1 11
noncomputable def B_81_11 : XK := X_if p_eq d_eq 26 <| X_load xkI 3 <| X_i2l <| X_push (.inr (.inl 0)) <| X_push (.inr (.inl 3)) <| X_callS 96 3 23
noncomputable def B_81_23 : XK := X_if p_ne d_ne 33 <| X_jump 26
noncomputable def B_81_26 : XK := X_load xkR 0 <| X_push (.inl 4294967294) <| X_callV 12 97 2 32
noncomputable def B_81_32 : XK := X_ret xkI
noncomputable def B_81_33 : XK := X_load xkI 3 <| X_if p_ne d_ne 46 <| X_load xkR 0 <| X_load xkI 2 <| X_push (.inl 1) <| X_callV 12 157 3 43
noncomputable def B_81_43 : XK := X_jump 68
noncomputable def B_81_46 : XK := X_load xkI 3 <| X_push (.inl 1) <| X_if2 p2_ne d_ne 60 <| X_load xkR 0 <| X_load xkI 2 <| X_push (.inl 3) <| X_callV 12 157 3 57
noncomputable def B_81_57 : XK := X_jump 68
noncomputable def B_81_60 : XK := X_load xkR 0 <| X_load xkI 2 <| X_push (.inl 2) <| X_load xkI 3 <| X_ibin x_iadd xg_add <| X_callV 12 157 3 68
noncomputable def B_81_68 : XK := X_store xkI 4 <| X_load xkI 4 <| X_if p_ne d_ne 82 <| X_load xkR 0 <| X_push (.inl 4294967291) <| X_callV 12 97 2 81
noncomputable def B_81_81 : XK := X_ret xkI
noncomputable def T_81 : Nat → Option XK := fun pc => (cond (Nat.blt pc 33) (cond (Nat.blt pc 23) (cond (Nat.blt pc 4) (cond (Nat.beq pc 0) (some B_81_0) none) (cond (Nat.blt pc 11) (cond (Nat.beq pc 4) (some B_81_4) none) (cond (Nat.beq pc 11) (some B_81_11) none))) (cond (Nat.blt pc 26) (cond (Nat.beq pc 23) (some B_81_23) none) (cond (Nat.blt pc 32) (cond (Nat.beq pc 26) (some B_81_26) none) (cond (Nat.beq pc 32) (some B_81_32) none)))) (cond (Nat.blt pc 57) (cond (Nat.blt pc 43) (cond (Nat.beq pc 33) (some B_81_33) none) (cond (Nat.blt pc 46) (cond (Nat.beq pc 43) (some B_81_43) none) (cond (Nat.beq pc 46) (some B_81_46) none))) (cond (Nat.blt pc 68) (cond (Nat.blt pc 60) (cond (Nat.beq pc 57) (some B_81_57) none) (cond (Nat.beq pc 60) (some B_81_60) none)) (cond (Nat.blt pc 81) (cond (Nat.beq pc 68) (some B_81_68) none) (cond (Nat.beq pc 81) (some B_81_81) none)))))
noncomputable def B_82_0 : XK := X_load xkI 1 <| X_callS 152 1 4
noncomputable def B_82_4 : XK := X_if p_eq d_eq 35 <| X_load xkI 2 <| X_i2l <| X_push (.inr (.inl 0)) <| X_load xkR 0 <| X_getf 12 4 <| X_load xkI 1 <| X_ald xt0 <| X_push (.inl 1) <| X_ibin x_isub xg_sub <| X_i2l <| X_callS 96 3 22
noncomputable def B_82_22 : XK := X_if p_eq d_eq 35 <| X_stop
noncomputable def B_82_35 : XK := X_load xkR 0 <| X_push (.inl 4294967294) <| X_callV 12 97 2 41
noncomputable def B_82_41 : XK := X_ret xkI
noncomputable def T_82 : Nat → Option XK := fun pc => (cond (Nat.blt pc 22) (cond (Nat.blt pc 4) (cond (Nat.beq pc 0) (some B_82_0) none) (cond (Nat.beq pc 4) (some B_82_4) none)) (cond (Nat.blt pc 35) (cond (Nat.beq pc 22) (some B_82_22) none) (cond (Nat.blt pc 41) (cond (Nat.beq pc 35) (some B_82_35) none) (cond (Nat.beq pc 41) (some B_82_41) none))))
noncomputable def B_83_0 : XK := X_load xkI 1 <| X_callS 154 1 4
noncomputable def B_83_4 : XK := X_if p_eq d_eq 21 <| X_load xkI 2 <| X_callS 154 1 11
noncomputable def B_83_11 : XK := X_if p_eq d_eq 21 <| X_load xkI 3 <| X_callS 156 1 18
noncomputable def B_83_18 : XK := X_if p_ne d_ne 28 <| X_jump 21
noncomputable def B_83_21 : XK := X_load xkR 0 <| X_push (.inl 4294967294) <| X_callV 12 97 2 27
noncomputable def B_83_27 : XK := X_ret xkI
noncomputable def B_83_28 : XK := X_load xkR 0 <| X_load xkI 2 <| X_callV 12 155 2 33
noncomputable def B_83_33 : XK := X_if p_ne d_ne 43 <| X_load xkR 0 <| X_push (.inl 4294967292) <| X_callV 12 97 2 42
noncomputable def B_83_42 : XK := X_ret xkI
noncomputable def T_83 : Nat → Option XK := fun pc => (cond (Nat.blt pc 21) (cond (Nat.blt pc 11) (cond (Nat.blt pc 4) (cond (Nat.beq pc 0) (some B_83_0) none) (cond (Nat.beq pc 4) (some B_83_4) none)) (cond (Nat.blt pc 18) (cond (Nat.beq pc 11) (some B_83_11) none) (cond (Nat.beq pc 18) (some B_83_18) none))) (cond (Nat.blt pc 28) (cond (Nat.blt pc 27) (cond (Nat.beq pc 21) (some B_83_21) none) (cond (Nat.beq pc 27) (some B_83_27) none)) (cond (Nat.blt pc 33) (cond (Nat.beq pc 28) (some B_83_28) none) (cond (Nat.blt pc 42) (cond (Nat.beq pc 33) (some B_83_33) none) (cond (Nat.beq pc 42) (some B_83_42) none)))))
noncomputable def B_84_0 : XK := X_load xkI 1 <| X_callS 156 1 4
noncomputable def B_84_4 : XK := X_if p_ne d_ne 14 <| X_load xkR 0 <| X_push (.inl 4294967294) <| X_callV 12 97 2 13
noncomputable def B_84_13 : XK := X_ret xkI
noncomputable def B_84_14 : XK := X_load xkR 0 <| X_load xkI 1 <| X_push (.inl 4) <| X_callV 12 166 3 20
noncomputable def B_84_20 : XK := X_store xkI 2 <| X_load xkI 2 <| X_if p_ge d_ge 33 <| X_load xkR 0 <| X_load xkI 2 <| X_callV 12 97 2 30
noncomputable def B_84_30 : XK := X_jump 39
noncomputable def B_84_39 : XK := X_ret xkI
noncomputable def T_84 : Nat → Option XK := fun pc => (cond (Nat.blt pc 14) (cond (Nat.blt pc 4) (cond (Nat.beq pc 0) (some B_84_0) none) (cond (Nat.blt pc 13) (cond (Nat.beq pc 4) (some B_84_4) none) (cond (Nat.beq pc 13) (some B_84_13) none))) (cond (Nat.blt pc 30) (cond (Nat.blt pc 20) (cond (Nat.beq pc 14) (some B_84_14) none) (cond (Nat.beq pc 20) (some B_84_20) none)) (cond (Nat.blt pc 39) (cond (Nat.beq pc 30) (some B_84_30) none) (cond (Nat.beq pc 39) (some B_84_39) none))))
noncomputable def B_85_0 : XK := X_load xkR 0 <| X_getf 12 13 <| X_store xkI 1 <| X_load xkR 0 <| X_push (.inl 0) <| X_putf xkI 12 13 <| X_load xkI 1 <| X_ret xkI
noncomputable def T_85 : Nat → Option XK := fun pc => (cond (Nat.beq pc 0) (some B_85_0) none)
noncomputable def B_86_0 : XK := X_load xkR 0 <| X_oinit <| X_jump 4
noncomputable def B_86_4 : XK := X_load xkR 0 <| X_push (.inl 2048) <| X_newa 0 <| X_putf xkR 9 0 <| X_load xkR 0 <| X_push (.inl 65536) <| X_newa 0 <| X_putf xkR 9 1 <| X_load xkR 0 <| X_push (.inl 1700000) <| X_newa 1 <| X_putf xkR 9 2 <| X_load xkR 0 <| X_push (.inl 1700000) <| X_newa 1 <| X_putf xkR 9 3 <| X_load xkR 0 <| X_push (.inl 65536) <| X_newa 1 <| X_putf xkR 9 4 <| X_load xkR 0 <| X_push (.inl 65536) <| X_newa 1 <| X_putf xkR 9 5 <| X_load xkR 0 <| X_push (.inl 850000) <| X_newa 1 <| X_putf xkR 9 6 <| X_load xkR 0 <| X_push (.inl 1200000) <| X_newa 1 <| X_putf xkR 9 7 <| X_load xkR 0 <| X_push (.inl 1698975) <| X_putf xkI 9 8 <| X_load xkR 0 <| X_push (.inl 1025) <| X_putf xkI 9 9 <| X_load xkR 0 <| X_push (.inl 65536) <| X_putf xkI 9 11 <| X_load xkR 0 <| X_push (.inl 1025) <| X_putf xkI 9 12 <| X_push (.inl 0) <| X_store xkI 1 <| X_jump 97
noncomputable def B_86_97 : XK := X_load xkI 1 <| X_push (.inl 1024) <| X_if2 p2_ge d_ge 202 <| X_load xkI 1 <| X_push (.inl 512) <| X_if2 p2_ne d_ne 115 <| X_push (.inl 1) <| X_jump 116
noncomputable def B_86_115 : XK := X_push (.inl 0) <| X_jump 116
noncomputable def B_86_116 : XK := X_store xkI 2 <| X_load xkI 1 <| X_push (.inl 512) <| X_if2 p2_ge d_ge 128 <| X_push (.inl 1) <| X_jump 129
noncomputable def B_86_128 : XK := X_push (.inl 0) <| X_jump 129
noncomputable def B_86_129 : XK := X_store xkI 3 <| X_load xkI 2 <| X_if p_eq d_eq 140 <| X_push (.inr (.inl 27021597764222976)) <| X_jump 141
noncomputable def B_86_140 : XK := X_push (.inr (.inl 0)) <| X_jump 141
noncomputable def B_86_141 : XK := X_lstore 4 <| X_load xkR 0 <| X_getf 9 2 <| X_load xkI 1 <| X_push (.inl 1) <| X_ibin x_iadd xg_add <| X_load xkI 3 <| X_if p_eq d_eq 160 <| X_push (.inr (.inl 6755399441055744)) <| X_jump 162
noncomputable def B_86_160 : XK := X_load xkL 4 <| X_jump 162
noncomputable def B_86_162 : XK := X_push (.inr (.inl 72057594037927936)) <| X_lbin Nat.lor xgL_or <| X_ast xt1 xkL <| X_load xkR 0 <| X_getf 9 3 <| X_load xkI 1 <| X_push (.inl 1) <| X_ibin x_iadd xg_add <| X_load xkI 3 <| X_if p_eq d_eq 182 <| X_push (.inr (.inl 0)) <| X_jump 185
noncomputable def B_86_182 : XK := X_push (.inr (.inl 4294967296)) <| X_jump 185
noncomputable def B_86_185 : XK := X_load xkI 2 <| X_if p_eq d_eq 193 <| X_push (.inr (.inl 0)) <| X_jump 194
noncomputable def B_86_193 : XK := X_push (.inr (.inl 1)) <| X_jump 194
noncomputable def B_86_194 : XK := X_lbin Nat.lor xgL_or <| X_ast xt1 xkL <| X_iinc 1 1 <| X_jump 97
noncomputable def B_86_202 : XK := X_vret
noncomputable def T_86 : Nat → Option XK := fun pc => (cond (Nat.blt pc 141) (cond (Nat.blt pc 116) (cond (Nat.blt pc 97) (cond (Nat.blt pc 4) (cond (Nat.beq pc 0) (some B_86_0) none) (cond (Nat.beq pc 4) (some B_86_4) none)) (cond (Nat.blt pc 115) (cond (Nat.beq pc 97) (some B_86_97) none) (cond (Nat.beq pc 115) (some B_86_115) none))) (cond (Nat.blt pc 129) (cond (Nat.blt pc 128) (cond (Nat.beq pc 116) (some B_86_116) none) (cond (Nat.beq pc 128) (some B_86_128) none)) (cond (Nat.blt pc 140) (cond (Nat.beq pc 129) (some B_86_129) none) (cond (Nat.beq pc 140) (some B_86_140) none)))) (cond (Nat.blt pc 185) (cond (Nat.blt pc 162) (cond (Nat.blt pc 160) (cond (Nat.beq pc 141) (some B_86_141) none) (cond (Nat.beq pc 160) (some B_86_160) none)) (cond (Nat.blt pc 182) (cond (Nat.beq pc 162) (some B_86_162) none) (cond (Nat.beq pc 182) (some B_86_182) none))) (cond (Nat.blt pc 194) (cond (Nat.blt pc 193) (cond (Nat.beq pc 185) (some B_86_185) none) (cond (Nat.beq pc 193) (some B_86_193) none)) (cond (Nat.blt pc 202) (cond (Nat.beq pc 194) (some B_86_194) none) (cond (Nat.beq pc 202) (some B_86_202) none)))))
noncomputable def B_87_0 : XK := X_load xkR 0 <| X_oinit <| X_jump 4
noncomputable def B_87_4 : XK := X_load xkR 0 <| X_push (.inl 512) <| X_newa 0 <| X_putf xkR 10 1 <| X_load xkR 0 <| X_push (.inl 65536) <| X_newa 0 <| X_putf xkR 10 3 <| X_load xkR 0 <| X_push (.inl 65536) <| X_newa 1 <| X_putf xkR 10 4 <| X_load xkR 0 <| X_push (.inl 65536) <| X_newa 1 <| X_putf xkR 10 5 <| X_load xkR 0 <| X_push (.inl 65536) <| X_newa 1 <| X_putf xkR 10 6 <| X_load xkR 0 <| X_push (.inl 65536) <| X_newa 0 <| X_putf xkR 10 7 <| X_load xkR 0 <| X_push (.inl 65536) <| X_newa 0 <| X_putf xkR 10 8 <| X_load xkR 0 <| X_push (.inl 65536) <| X_newa 0 <| X_putf xkR 10 9 <| X_load xkR 0 <| X_push (.inl 65536) <| X_newa 0 <| X_putf xkR 10 10 <| X_load xkR 0 <| X_push (.inl 1) <| X_putf xkI 10 11 <| X_load xkR 0 <| X_load xkR 1 <| X_putf xkR 10 0 <| X_load xkR 0 <| X_getf 10 7 <| X_push (.inl 0) <| X_push (.inl 2) <| X_ast xt0 xkI <| X_vret
noncomputable def T_87 : Nat → Option XK := fun pc => (cond (Nat.blt pc 4) (cond (Nat.beq pc 0) (some B_87_0) none) (cond (Nat.beq pc 4) (some B_87_4) none))
noncomputable def B_88_0 : XK := X_load xkR 0 <| X_oinit <| X_jump 4
noncomputable def B_88_4 : XK := X_load xkR 0 <| X_push (.inl 65536) <| X_newa 0 <| X_putf xkR 4 3 <| X_load xkR 0 <| X_push (.inl 65536) <| X_newa 0 <| X_putf xkR 4 4 <| X_load xkR 0 <| X_push (.inl 65536) <| X_newa 0 <| X_putf xkR 4 5 <| X_load xkR 0 <| X_push (.inl 16) <| X_newa 0 <| X_putf xkR 4 6 <| X_load xkR 0 <| X_push (.inl 4) <| X_newa 1 <| X_putf xkR 4 7 <| X_load xkR 0 <| X_push (.inl 4) <| X_newa 1 <| X_putf xkR 4 8 <| X_load xkR 0 <| X_load xkR 1 <| X_putf xkR 4 0 <| X_load xkR 0 <| X_load xkR 1 <| X_getf 10 10 <| X_putf xkR 4 2 <| X_load xkR 0 <| X_new 1 [.inr (.inr (.inl 0)), .inl 0, .inr (.inr (.inl 0)), .inr (.inr (.inl 0)), .inr (.inr (.inl 0)), .inl 0, .inr (.inr (.inl 0)), .inl 0, .inl 0] 9 <| X_dup <| X_load xkR 1 <| X_getf 10 0 <| X_push (.inl 0) <| X_callI 167 3 76
noncomputable def B_88_76 : XK := X_putf xkR 4 1 <| X_vret
noncomputable def T_88 : Nat → Option XK := fun pc => (cond (Nat.blt pc 4) (cond (Nat.beq pc 0) (some B_88_0) none) (cond (Nat.blt pc 76) (cond (Nat.beq pc 4) (some B_88_4) none) (cond (Nat.beq pc 76) (some B_88_76) none)))
noncomputable def B_89_0 : XK := X_load xkR 0 <| X_oinit <| X_jump 4
noncomputable def B_89_4 : XK := X_load xkR 0 <| X_push (.inl 2048) <| X_newa 0 <| X_putf xkR 8 5 <| X_load xkR 0 <| X_push (.inl 2048) <| X_newa 1 <| X_putf xkR 8 6 <| X_load xkR 0 <| X_push (.inl 9) <| X_putf xkI 8 7 <| X_load xkR 0 <| X_push (.inl 4294967295) <| X_putf xkI 8 8 <| X_load xkR 0 <| X_push (.inl 32) <| X_newa 3 <| X_putf xkR 8 10 <| X_load xkR 0 <| X_load xkR 1 <| X_putf xkR 8 2 <| X_load xkR 0 <| X_load xkR 1 <| X_getf 4 0 <| X_putf xkR 8 1 <| X_load xkR 0 <| X_load xkR 1 <| X_getf 4 0 <| X_getf 10 0 <| X_putf xkR 8 0 <| X_load xkR 0 <| X_new 1 [.inr (.inr (.inl 0)), .inl 0, .inr (.inr (.inl 0)), .inr (.inr (.inl 0)), .inr (.inr (.inl 0)), .inl 0, .inr (.inr (.inl 0)), .inl 0, .inl 0] 9 <| X_dup <| X_load xkR 0 <| X_getf 8 0 <| X_push (.inl 0) <| X_callI 167 3 78
noncomputable def B_89_78 : XK := X_putf xkR 8 3 <| X_load xkR 0 <| X_new 1 [.inr (.inr (.inl 0)), .inl 0, .inr (.inr (.inl 0)), .inr (.inr (.inl 0)), .inr (.inr (.inl 0)), .inl 0, .inr (.inr (.inl 0)), .inl 0, .inl 0] 9 <| X_dup <| X_load xkR 0 <| X_getf 8 0 <| X_push (.inl 0) <| X_callI 167 3 94
noncomputable def B_89_94 : XK := X_putf xkR 8 4 <| X_vret
noncomputable def T_89 : Nat → Option XK := fun pc => (cond (Nat.blt pc 78) (cond (Nat.blt pc 4) (cond (Nat.beq pc 0) (some B_89_0) none) (cond (Nat.beq pc 4) (some B_89_4) none)) (cond (Nat.blt pc 94) (cond (Nat.beq pc 78) (some B_89_78) none) (cond (Nat.beq pc 94) (some B_89_94) none)))
noncomputable def B_90_0 : XK := X_load xkR 0 <| X_oinit <| X_jump 4
noncomputable def B_90_4 : XK := X_load xkR 0 <| X_push (.inl 20480) <| X_newa 0 <| X_putf xkR 2 5 <| X_load xkR 0 <| X_push (.inl 255) <| X_newa 0 <| X_putf xkR 2 8 <| X_load xkR 0 <| X_push (.inl 65536) <| X_newa 0 <| X_putf xkR 2 9 <| X_load xkR 0 <| X_load xkR 1 <| X_putf xkR 2 0 <| X_load xkR 0 <| X_load xkR 2 <| X_putf xkR 2 2 <| X_load xkR 0 <| X_load xkR 1 <| X_getf 10 0 <| X_putf xkR 2 1 <| X_load xkR 0 <| X_new 5 [.inr (.inr (.inl 0)), .inr (.inr (.inl 0)), .inr (.inr (.inl 0)), .inr (.inr (.inl 0)), .inr (.inr (.inl 0)), .inr (.inr (.inl 0)), .inr (.inr (.inl 0)), .inl 0, .inl 0] 9 <| X_dup <| X_load xkR 0 <| X_getf 2 1 <| X_callI 168 2 60
noncomputable def B_90_60 : XK := X_putf xkR 2 3 <| X_load xkR 0 <| X_new 1 [.inr (.inr (.inl 0)), .inl 0, .inr (.inr (.inl 0)), .inr (.inr (.inl 0)), .inr (.inr (.inl 0)), .inl 0, .inr (.inr (.inl 0)), .inl 0, .inl 0] 9 <| X_dup <| X_load xkR 0 <| X_getf 2 1 <| X_push (.inl 0) <| X_callI 167 3 76
noncomputable def B_90_76 : XK := X_putf xkR 2 6 <| X_load xkR 0 <| X_new 1 [.inr (.inr (.inl 0)), .inl 0, .inr (.inr (.inl 0)), .inr (.inr (.inl 0)), .inr (.inr (.inl 0)), .inl 0, .inr (.inr (.inl 0)), .inl 0, .inl 0] 9 <| X_dup <| X_load xkR 0 <| X_getf 2 1 <| X_push (.inl 0) <| X_callI 167 3 92
noncomputable def B_90_92 : XK := X_putf xkR 2 7 <| X_load xkR 0 <| X_load xkR 1 <| X_push (.inl 6) <| X_callV 10 92 2 102
noncomputable def B_90_102 : XK := X_putf xkI 2 4 <| X_vret
noncomputable def T_90 : Nat → Option XK := fun pc => (cond (Nat.blt pc 76) (cond (Nat.blt pc 4) (cond (Nat.beq pc 0) (some B_90_0) none) (cond (Nat.blt pc 60) (cond (Nat.beq pc 4) (some B_90_4) none) (cond (Nat.beq pc 60) (some B_90_60) none))) (cond (Nat.blt pc 92) (cond (Nat.beq pc 76) (some B_90_76) none) (cond (Nat.blt pc 102) (cond (Nat.beq pc 92) (some B_90_92) none) (cond (Nat.beq pc 102) (some B_90_102) none))))
noncomputable def B_91_0 : XK := X_load xkR 0 <| X_oinit <| X_jump 4
noncomputable def B_91_4 : XK := X_load xkR 0 <| X_push (.inl 250) <| X_newa 0 <| X_putf xkR 7 1 <| X_load xkR 0 <| X_load xkR 1 <| X_putf xkR 7 0 <| X_vret
noncomputable def T_91 : Nat → Option XK := fun pc => (cond (Nat.blt pc 4) (cond (Nat.beq pc 0) (some B_91_0) none) (cond (Nat.beq pc 4) (some B_91_4) none))
noncomputable def B_92_0 : XK := X_load xkR 0 <| X_getf 10 2 <| X_store xkI 2 <| X_load xkR 0 <| X_dup <| X_getf 10 2 <| X_load xkI 1 <| X_ibin x_iadd xg_add <| X_putf xkI 10 2 <| X_load xkI 2 <| X_ret xkI
noncomputable def T_92 : Nat → Option XK := fun pc => (cond (Nat.beq pc 0) (some B_92_0) none)
noncomputable def B_93_0 : XK := X_load xkR 0 <| X_oinit <| X_jump 4
noncomputable def B_93_4 : XK := X_load xkR 0 <| X_load xkI 1 <| X_putf xkI 0 0 <| X_load xkR 0 <| X_load xkR 2 <| X_putf xkR 0 1 <| X_load xkR 0 <| X_load xkR 2 <| X_push (.inl 43) <| X_callV 10 92 2 21
noncomputable def B_93_21 : XK := X_putf xkI 0 2 <| X_vret
noncomputable def T_93 : Nat → Option XK := fun pc => (cond (Nat.blt pc 4) (cond (Nat.beq pc 0) (some B_93_0) none) (cond (Nat.blt pc 21) (cond (Nat.beq pc 4) (some B_93_4) none) (cond (Nat.beq pc 21) (some B_93_21) none)))
noncomputable def B_94_0 : XK := X_load xkR 0 <| X_oinit <| X_jump 4
noncomputable def B_94_4 : XK := X_load xkR 0 <| X_push (.inl 40) <| X_newa 1 <| X_putf xkR 6 0 <| X_load xkR 0 <| X_push (.inl 4294967295) <| X_putf xkI 6 1 <| X_vret
noncomputable def T_94 : Nat → Option XK := fun pc => (cond (Nat.blt pc 4) (cond (Nat.beq pc 0) (some B_94_0) none) (cond (Nat.beq pc 4) (some B_94_4) none))
noncomputable def B_95_0 : XK := X_load xkR 0 <| X_oinit <| X_jump 4
noncomputable def B_95_4 : XK := X_load xkR 0 <| X_push (.inl 4) <| X_newa 12 <| X_putf xkR 3 3 <| X_load xkR 0 <| X_push (.inl 1) <| X_putf xkI 3 6 <| X_load xkR 0 <| X_load xkR 1 <| X_putf xkR 3 0 <| X_load xkR 0 <| X_load xkI 2 <| X_putf xkI 3 1 <| X_load xkR 0 <| X_load xkR 3 <| X_putf xkR 3 2 <| X_load xkR 0 <| X_load xkR 1 <| X_push (.inl 1) <| X_callV 10 92 2 38
noncomputable def B_95_38 : XK := X_putf xkI 3 4 <| X_push (.inl 0) <| X_store xkI 4 <| X_jump 44
noncomputable def B_95_44 : XK := X_load xkI 4 <| X_load xkR 0 <| X_getf 3 3 <| X_alen <| X_if2 p2_ge d_ge 77 <| X_load xkR 0 <| X_getf 3 3 <| X_load xkI 4 <| X_new 0 [.inl 0, .inr (.inr (.inl 0)), .inl 0, .inl 0, .inl 0, .inl 0, .inl 0, .inl 0, .inl 0, .inr (.inl 0), .inr (.inl 0)] 11 <| X_dup <| X_load xkI 4 <| X_load xkR 1 <| X_callI 93 3 70
noncomputable def B_95_70 : XK := X_aast xok <| X_iinc 4 1 <| X_jump 44
noncomputable def B_95_77 : XK := X_vret
noncomputable def T_95 : Nat → Option XK := fun pc => (cond (Nat.blt pc 44) (cond (Nat.blt pc 4) (cond (Nat.beq pc 0) (some B_95_0) none) (cond (Nat.blt pc 38) (cond (Nat.beq pc 4) (some B_95_4) none) (cond (Nat.beq pc 38) (some B_95_38) none))) (cond (Nat.blt pc 70) (cond (Nat.beq pc 44) (some B_95_44) none) (cond (Nat.blt pc 77) (cond (Nat.beq pc 70) (some B_95_70) none) (cond (Nat.beq pc 77) (some B_95_77) none))))
noncomputable def B_96_0 : XK := X_load xkL 0 <| X_load xkL 2 <| X_lcif pL_lt d_lt 17 <| X_load xkL 0 <| X_load xkL 4 <| X_lcif pL_gt d_gt 17 <| X_push (.inl 1) <| X_jump 18
noncomputable def B_96_17 : XK := X_push (.inl 0) <| X_jump 18
noncomputable def B_96_18 : XK := X_ret xk01
noncomputable def T_96 : Nat → Option XK := fun pc => (cond (Nat.blt pc 17) (cond (Nat.beq pc 0) (some B_96_0) none) (cond (Nat.blt pc 18) (cond (Nat.beq pc 17) (some B_96_17) none) (cond (Nat.beq pc 18) (some B_96_18) none)))
noncomputable def B_97_0 : XK := X_load xkR 0 <| X_getf 12 8 <| X_load xkI 1 <| X_ineg <| X_dup2 <| X_ald xt0 <| X_push (.inl 1) <| X_ibin x_iadd xg_add <| X_ast xt0 xkI <| X_load xkI 1 <| X_ret xkI
noncomputable def T_97 : Nat → Option XK := fun pc => (cond (Nat.beq pc 0) (some B_97_0) none)
noncomputable def B_98_0 : XK := X_load xkR 0 <| X_getf 12 7 <| X_push (.inl 1) <| X_load xkR 0 <| X_getf 12 7 <| X_push (.inl 1) <| X_ald xt0 <| X_push (.inl 1103515245) <| X_ibin x_imul (xg0 x_imul) <| X_push (.inl 12345) <| X_ibin x_iadd xg_add <| X_ast xt0 xkI <| X_load xkR 0 <| X_getf 12 7 <| X_push (.inl 1) <| X_ald xt0 <| X_push (.inl 16) <| X_ibin x_iushr (xg0 x_iushr) <| X_load xkI 1 <| X_irem <| X_ret xkI
noncomputable def T_98 : Nat → Option XK := fun pc => (cond (Nat.beq pc 0) (some B_98_0) none)
noncomputable def B_99_0 : XK := X_load xkR 0 <| X_getf 12 4 <| X_load xkI 1 <| X_ald xt0 <| X_store xkI 3 <| X_load xkI 2 <| X_push (.inl 3) <| X_if2 p2_ge d_ge 47 <| X_load xkI 3 <| X_push (.inl 60) <| X_if2 p2_lt d_lt 20 <| X_stop
noncomputable def B_99_20 : XK := X_load xkR 0 <| X_push (.inl 26) <| X_callV 12 98 2 26
noncomputable def B_99_26 : XK := X_store xkI 4 <| X_load xkR 0 <| X_load xkI 1 <| X_load xkR 0 <| X_load xkI 3 <| X_push (.inl 1) <| X_ibin x_iadd xg_add <| X_callV 12 98 2 37
noncomputable def B_99_37 : XK := X_push (.inl 1048576) <| X_load xkI 4 <| X_ibin Nat.lor xg_or <| X_callV 12 163 4 45
noncomputable def B_99_45 : XK := X_push (.inl 1) <| X_ret xk01
noncomputable def B_99_47 : XK := X_load xkI 2 <| X_push (.inl 5) <| X_if2 p2_ge d_ge 103 <| X_load xkI 3 <| X_if p_ne d_ne 58 <| X_push (.inl 0) <| X_ret xk01
noncomputable def B_99_58 : XK := X_load xkR 0 <| X_load xkI 3 <| X_callV 12 98 2 63
noncomputable def B_99_63 : XK := X_store xkI 4 <| X_load xkR 0 <| X_load xkI 1 <| X_load xkI 4 <| X_push (.inl 1) <| X_load xkI 2 <| X_push (.inl 3) <| X_if2 p2_ne d_ne 80 <| X_push (.inl 3145728) <| X_jump 91
noncomputable def B_99_80 : XK := X_push (.inl 4194304) <| X_push (.inl 16) <| X_load xkR 0 <| X_push (.inl 4) <| X_callV 12 98 2 89
noncomputable def B_99_89 : XK := X_ibin x_ishl xg_shl <| X_ibin Nat.lor xg_or <| X_jump 91
noncomputable def B_99_91 : XK := X_callV 12 169 5 94
noncomputable def B_99_94 : XK := X_load xkR 0 <| X_load xkI 1 <| X_push (.inl 4) <| X_push (.inl 1) <| X_callV 12 170 4 101
noncomputable def B_99_101 : XK := X_push (.inl 1) <| X_ret xk01
noncomputable def B_99_103 : XK := X_load xkI 2 <| X_push (.inl 5) <| X_if2 p2_ne d_ne 123 <| X_load xkR 0 <| X_load xkI 1 <| X_push (.inl 4) <| X_callV 12 166 3 114
noncomputable def B_99_114 : XK := X_if p_ne d_ne 121 <| X_push (.inl 1) <| X_jump 122
noncomputable def B_99_122 : XK := X_ret xk01
noncomputable def B_99_123 : XK := X_load xkI 2 <| X_push (.inl 6) <| X_if2 p2_ne d_ne 176 <| X_load xkR 0 <| X_load xkI 1 <| X_push (.inl 1) <| X_callV 12 157 3 135
noncomputable def B_99_135 : XK := X_push (.inl 1) <| X_if2 p2_ne d_ne 154 <| X_load xkR 0 <| X_getf 12 7 <| X_push (.inl 0) <| X_ald xt0 <| X_push (.inl 90) <| X_if2 p2_ge d_ge 154 <| X_push (.inl 1) <| X_jump 155
noncomputable def B_99_154 : XK := X_push (.inl 0) <| X_jump 155
noncomputable def B_99_155 : XK := X_store xkI 4 <| X_load xkI 4 <| X_if p_eq d_eq 170 <| X_load xkR 0 <| X_load xkI 1 <| X_callV 12 171 2 167
noncomputable def B_99_167 : XK := X_jump 171
noncomputable def B_99_170 : XK := X_push (.inl 0) <| X_jump 171
noncomputable def B_99_171 : XK := X_store xkI 5 <| X_load xkI 4 <| X_ret xk01
noncomputable def B_99_176 : XK := X_load xkR 0 <| X_load xkI 1 <| X_push (.inl 0) <| X_callV 12 157 3 182
noncomputable def B_99_182 : XK := X_load xkR 0 <| X_getf 12 7 <| X_push (.inl 0) <| X_ald xt0 <| X_if2 p2_ne d_ne 193 <| X_push (.inl 0) <| X_ret xk01
noncomputable def B_99_193 : XK := X_load xkR 0 <| X_load xkI 1 <| X_callV 12 172 2 198
noncomputable def B_99_198 : XK := X_push (.inl 1) <| X_ret xk01
noncomputable def T_99 : Nat → Option XK := fun pc => (cond (Nat.blt pc 103) (cond (Nat.blt pc 58) (cond (Nat.blt pc 37) (cond (Nat.blt pc 20) (cond (Nat.beq pc 0) (some B_99_0) none) (cond (Nat.blt pc 26) (cond (Nat.beq pc 20) (some B_99_20) none) (cond (Nat.beq pc 26) (some B_99_26) none))) (cond (Nat.blt pc 45) (cond (Nat.beq pc 37) (some B_99_37) none) (cond (Nat.blt pc 47) (cond (Nat.beq pc 45) (some B_99_45) none) (cond (Nat.beq pc 47) (some B_99_47) none)))) (cond (Nat.blt pc 89) (cond (Nat.blt pc 63) (cond (Nat.beq pc 58) (some B_99_58) none) (cond (Nat.blt pc 80) (cond (Nat.beq pc 63) (some B_99_63) none) (cond (Nat.beq pc 80) (some B_99_80) none))) (cond (Nat.blt pc 94) (cond (Nat.blt pc 91) (cond (Nat.beq pc 89) (some B_99_89) none) (cond (Nat.beq pc 91) (some B_99_91) none)) (cond (Nat.blt pc 101) (cond (Nat.beq pc 94) (some B_99_94) none) (cond (Nat.beq pc 101) (some B_99_101) none))))) (cond (Nat.blt pc 167) (cond (Nat.blt pc 123) (cond (Nat.blt pc 114) (cond (Nat.beq pc 103) (some B_99_103) none) (cond (Nat.blt pc 122) (cond (Nat.beq pc 114) (some B_99_114) none) (cond (Nat.beq pc 122) (some B_99_122) none))) (cond (Nat.blt pc 154) (cond (Nat.blt pc 135) (cond (Nat.beq pc 123) (some B_99_123) none) (cond (Nat.beq pc 135) (some B_99_135) none)) (cond (Nat.blt pc 155) (cond (Nat.beq pc 154) (some B_99_154) none) (cond (Nat.beq pc 155) (some B_99_155) none)))) (cond (Nat.blt pc 176) (cond (Nat.blt pc 170) (cond (Nat.beq pc 167) (some B_99_167) none) (cond (Nat.blt pc 171) (cond (Nat.beq pc 170) (some B_99_170) none) (cond (Nat.beq pc 171) (some B_99_171) none))) (cond (Nat.blt pc 193) (cond (Nat.blt pc 182) (cond (Nat.beq pc 176) (some B_99_176) none) (cond (Nat.beq pc 182) (some B_99_182) none)) (cond (Nat.blt pc 198) (cond (Nat.beq pc 193) (some B_99_193) none) (cond (Nat.beq pc 198) (some B_99_198) none))))))
noncomputable def B_100_0 : XK := X_push (.inl 4294967294) <| X_load xkI 1 <| X_ibin x_isub xg_sub <| X_store xkI 2 <| X_load xkI 2 <| X_if p_lt d_lt 28 <| X_load xkI 2 <| X_load xkR 0 <| X_getf 11 9 <| X_alen <| X_if2 p2_ge d_ge 28 <| X_load xkR 0 <| X_getf 11 9 <| X_load xkI 2 <| X_dup2 <| X_ald xt0 <| X_push (.inl 1) <| X_ibin x_iadd xg_add <| X_ast xt0 xkI <| X_jump 28
noncomputable def B_100_28 : XK := X_load xkI 1 <| X_ret xkI
noncomputable def T_100 : Nat → Option XK := fun pc => (cond (Nat.blt pc 28) (cond (Nat.beq pc 0) (some B_100_0) none) (cond (Nat.beq pc 28) (some B_100_28) none))
noncomputable def B_101_0 : XK := X_load xkR 0 <| X_load xkR 0 <| X_getf 3 6 <| X_push (.inl 1103515245) <| X_ibin x_imul (xg0 x_imul) <| X_push (.inl 12345) <| X_ibin x_iadd xg_add <| X_putf xkI 3 6 <| X_load xkL 1 <| X_push (.inr (.inl 0)) <| X_lcif pL_le d_le 34 <| X_load xkR 0 <| X_getf 3 6 <| X_push (.inl 16) <| X_ibin x_iushr (xg0 x_iushr) <| X_i2l <| X_load xkL 1 <| X_lrem <| X_jump 35
noncomputable def B_101_35 : XK := X_ret xkL
noncomputable def T_101 : Nat → Option XK := fun pc => (cond (Nat.blt pc 35) (cond (Nat.beq pc 0) (some B_101_0) none) (cond (Nat.beq pc 35) (some B_101_35) none))
noncomputable def B_102_0 : XK := X_load xkI 1 <| X_if p_lt d_lt 22 <| X_load xkI 1 <| X_load xkR 0 <| X_getf 3 3 <| X_alen <| X_if2 p2_ge d_ge 22 <| X_load xkR 0 <| X_getf 3 3 <| X_load xkI 1 <| X_ald xt3 <| X_jump 23
noncomputable def B_102_22 : XK := X_push (.inr (.inr (.inl 0))) <| X_jump 23
noncomputable def B_102_23 : XK := X_ret xkR
noncomputable def T_102 : Nat → Option XK := fun pc => (cond (Nat.blt pc 22) (cond (Nat.beq pc 0) (some B_102_0) none) (cond (Nat.blt pc 23) (cond (Nat.beq pc 22) (some B_102_22) none) (cond (Nat.beq pc 23) (some B_102_23) none)))
noncomputable def B_103_0 : XK := X_load xkR 0 <| X_load xkI 1 <| X_callV 3 102 2 5
noncomputable def B_103_5 : XK := X_store xkR 2 <| X_load xkR 2 <| X_ifr p_ne 24 <| X_load xkR 0 <| X_getf 3 0 <| X_load xkR 0 <| X_getf 3 4 <| X_callV 10 132 2 21
noncomputable def B_103_21 : XK := X_jump 28
noncomputable def B_103_24 : XK := X_load xkR 2 <| X_callV 0 173 1 28
noncomputable def B_103_28 : XK := X_ret xkI
noncomputable def T_103 : Nat → Option XK := fun pc => (cond (Nat.blt pc 21) (cond (Nat.blt pc 5) (cond (Nat.beq pc 0) (some B_103_0) none) (cond (Nat.beq pc 5) (some B_103_5) none)) (cond (Nat.blt pc 24) (cond (Nat.beq pc 21) (some B_103_21) none) (cond (Nat.blt pc 28) (cond (Nat.beq pc 24) (some B_103_24) none) (cond (Nat.beq pc 28) (some B_103_28) none))))
noncomputable def B_104_0 : XK := X_load xkR 0 <| X_getf 11 1 <| X_load xkI 1 <| X_callV 10 138 2 8
noncomputable def B_104_8 : XK := X_push (.inr (.inl 18446744073709551615)) <| X_lcif pL_eq d_eq 17 <| X_load xkI 1 <| X_ret xkI
noncomputable def T_104 : Nat → Option XK := fun pc => (cond (Nat.blt pc 8) (cond (Nat.beq pc 0) (some B_104_0) none) (cond (Nat.beq pc 8) (some B_104_8) none))
noncomputable def B_105_0 : XK := X_load xkR 0 <| X_load xkI 1 <| X_callV 0 125 2 5
noncomputable def B_105_5 : XK := X_if p_le d_le 34 <| X_load xkR 0 <| X_getf 0 1 <| X_load xkR 0 <| X_getf 0 2 <| X_load xkI 1 <| X_load xkR 0 <| X_load xkI 1 <| X_callV 0 125 2 22
noncomputable def B_105_22 : XK := X_push (.inl 1) <| X_ibin x_isub xg_sub <| X_callS 174 2 27
noncomputable def B_105_27 : XK := X_ibin x_iadd xg_add <| X_callV 10 132 2 31
noncomputable def B_105_31 : XK := X_jump 35
noncomputable def B_105_34 : XK := X_push (.inl 0) <| X_jump 35
noncomputable def B_105_35 : XK := X_ret xkI
noncomputable def T_105 : Nat → Option XK := fun pc => (cond (Nat.blt pc 27) (cond (Nat.blt pc 5) (cond (Nat.beq pc 0) (some B_105_0) none) (cond (Nat.blt pc 22) (cond (Nat.beq pc 5) (some B_105_5) none) (cond (Nat.beq pc 22) (some B_105_22) none))) (cond (Nat.blt pc 34) (cond (Nat.blt pc 31) (cond (Nat.beq pc 27) (some B_105_27) none) (cond (Nat.beq pc 31) (some B_105_31) none)) (cond (Nat.blt pc 35) (cond (Nat.beq pc 34) (some B_105_34) none) (cond (Nat.beq pc 35) (some B_105_35) none))))
noncomputable def B_106_0 : XK := X_load xkI 2 <| X_push (.inl 2) <| X_if2 p2_gt d_gt 22 <| X_load xkR 1 <| X_callV 0 129 1 9
noncomputable def B_106_9 : XK := X_push (.inr (.inl 60)) <| X_lcif pL_ge d_ge 20 <| X_push (.inl 1) <| X_jump 21
noncomputable def B_106_21 : XK := X_ret xk01
noncomputable def B_106_22 : XK := X_load xkI 2 <| X_push (.inl 4) <| X_if2 p2_gt d_gt 42 <| X_load xkR 1 <| X_callV 0 129 1 31
noncomputable def B_106_31 : XK := X_push (.inr (.inl 0)) <| X_lcif pL_le d_le 40 <| X_push (.inl 1) <| X_jump 41
noncomputable def B_106_40 : XK := X_push (.inl 0) <| X_jump 41
noncomputable def B_106_41 : XK := X_ret xk01
noncomputable def B_106_42 : XK := X_load xkI 2 <| X_push (.inl 5) <| X_if2 p2_ne d_ne 61 <| X_load xkR 1 <| X_push (.inl 0) <| X_callS 141 2 52
noncomputable def B_106_52 : XK := X_if p_ne d_ne 59 <| X_push (.inl 1) <| X_jump 60
noncomputable def B_106_60 : XK := X_ret xk01
noncomputable def B_106_61 : XK := X_load xkI 2 <| X_push (.inl 6) <| X_if2 p2_ne d_ne 92 <| X_load xkR 1 <| X_callV 0 144 1 71
noncomputable def B_106_71 : XK := X_if p_eq d_eq 90 <| X_load xkR 0 <| X_getf 11 10 <| X_getf 3 5 <| X_push (.inl 90) <| X_if2 p2_ge d_ge 90 <| X_push (.inl 1) <| X_jump 91
noncomputable def B_106_90 : XK := X_push (.inl 0) <| X_jump 91
noncomputable def B_106_91 : XK := X_ret xk01
noncomputable def B_106_92 : XK := X_load xkR 1 <| X_getf 0 8 <| X_load xkR 0 <| X_getf 11 10 <| X_getf 3 5 <| X_if2 p2_ge d_ge 110 <| X_push (.inl 1) <| X_jump 111
noncomputable def B_106_110 : XK := X_push (.inl 0) <| X_jump 111
noncomputable def B_106_111 : XK := X_ret xk01
noncomputable def T_106 : Nat → Option XK := fun pc => (cond (Nat.blt pc 52) (cond (Nat.blt pc 31) (cond (Nat.blt pc 21) (cond (Nat.blt pc 9) (cond (Nat.beq pc 0) (some B_106_0) none) (cond (Nat.beq pc 9) (some B_106_9) none)) (cond (Nat.blt pc 22) (cond (Nat.beq pc 21) (some B_106_21) none) (cond (Nat.beq pc 22) (some B_106_22) none))) (cond (Nat.blt pc 41) (cond (Nat.blt pc 40) (cond (Nat.beq pc 31) (some B_106_31) none) (cond (Nat.beq pc 40) (some B_106_40) none)) (cond (Nat.blt pc 42) (cond (Nat.beq pc 41) (some B_106_41) none) (cond (Nat.beq pc 42) (some B_106_42) none)))) (cond (Nat.blt pc 90) (cond (Nat.blt pc 61) (cond (Nat.blt pc 60) (cond (Nat.beq pc 52) (some B_106_52) none) (cond (Nat.beq pc 60) (some B_106_60) none)) (cond (Nat.blt pc 71) (cond (Nat.beq pc 61) (some B_106_61) none) (cond (Nat.beq pc 71) (some B_106_71) none))) (cond (Nat.blt pc 92) (cond (Nat.blt pc 91) (cond (Nat.beq pc 90) (some B_106_90) none) (cond (Nat.beq pc 91) (some B_106_91) none)) (cond (Nat.blt pc 110) (cond (Nat.beq pc 92) (some B_106_92) none) (cond (Nat.blt pc 111) (cond (Nat.beq pc 110) (some B_106_110) none) (cond (Nat.beq pc 111) (some B_106_111) none))))))
noncomputable def B_107_0 : XK := X_load xkR 0 <| X_getf 0 1 <| X_load xkR 0 <| X_getf 0 2 <| X_load xkR 1 <| X_getf 0 2 <| X_push (.inl 43) <| X_callV 10 175 4 17
noncomputable def B_107_17 : XK := X_load xkR 0 <| X_load xkR 1 <| X_getf 0 3 <| X_putf xkI 0 3 <| X_load xkR 0 <| X_load xkR 1 <| X_getf 0 4 <| X_putf xkI 0 4 <| X_load xkR 0 <| X_load xkR 1 <| X_getf 0 5 <| X_putf xk01 0 5 <| X_load xkR 0 <| X_load xkR 1 <| X_getf 0 6 <| X_putf xk01 0 6 <| X_load xkR 0 <| X_load xkR 1 <| X_getf 0 7 <| X_putf xk01 0 7 <| X_load xkR 0 <| X_load xkR 1 <| X_getf 0 8 <| X_putf xkI 0 8 <| X_load xkR 0 <| X_load xkR 1 <| X_getf 0 9 <| X_putf xkL 0 9 <| X_load xkR 0 <| X_load xkR 1 <| X_getf 0 10 <| X_putf xkL 0 10 <| X_vret
noncomputable def T_107 : Nat → Option XK := fun pc => (cond (Nat.blt pc 17) (cond (Nat.beq pc 0) (some B_107_0) none) (cond (Nat.beq pc 17) (some B_107_17) none))
noncomputable def B_108_0 : XK := X_load xkR 1 <| X_callV 0 129 1 4
noncomputable def B_108_4 : XK := X_lstore 3 <| X_load xkI 2 <| X_push (.inl 2) <| X_if2 p2_gt d_gt 52 <| X_load xkR 0 <| X_getf 11 10 <| X_push (.inr (.inl 26)) <| X_callV 3 101 2 20
noncomputable def B_108_20 : XK := X_l2i <| X_store xkI 5 <| X_load xkR 0 <| X_getf 11 10 <| X_load xkL 3 <| X_push (.inr (.inl 1)) <| X_lbin x_ladd xgn <| X_callV 3 101 2 33
noncomputable def B_108_33 : XK := X_lstore 6 <| X_load xkR 0 <| X_getf 11 4 <| X_load xkL 6 <| X_load xkI 5 <| X_push (.inr (.inl 1)) <| X_load xkL 3 <| X_load xkL 6 <| X_lbin x_lsub xgn <| X_callV 2 137 5 51
noncomputable def B_108_51 : XK := X_vret
noncomputable def B_108_52 : XK := X_load xkR 0 <| X_getf 11 10 <| X_load xkL 3 <| X_callV 3 101 2 60
noncomputable def B_108_60 : XK := X_lstore 5 <| X_load xkI 2 <| X_push (.inl 3) <| X_if2 p2_ne d_ne 73 <| X_push (.inl 512) <| X_jump 92
noncomputable def B_108_73 : XK := X_push (.inl 768) <| X_push (.inl 1) <| X_load xkR 0 <| X_getf 11 10 <| X_push (.inr (.inl 4)) <| X_callV 3 101 2 87
noncomputable def B_108_87 : XK := X_l2i <| X_ibin x_ishl xg_shl <| X_push (.inl 4) <| X_ibin x_ishl xg_shl <| X_ibin Nat.lor xg_or <| X_jump 92
noncomputable def B_108_92 : XK := X_store xkI 7 <| X_load xkR 0 <| X_getf 11 4 <| X_load xkL 5 <| X_load xkI 7 <| X_push (.inr (.inl 1)) <| X_load xkL 3 <| X_load xkL 5 <| X_lbin x_lsub xgn <| X_push (.inr (.inl 1)) <| X_lbin x_lsub xgn <| X_callV 2 137 5 112
noncomputable def B_108_112 : XK := X_vret
noncomputable def T_108 : Nat → Option XK := fun pc => (cond (Nat.blt pc 52) (cond (Nat.blt pc 20) (cond (Nat.blt pc 4) (cond (Nat.beq pc 0) (some B_108_0) none) (cond (Nat.beq pc 4) (some B_108_4) none)) (cond (Nat.blt pc 33) (cond (Nat.beq pc 20) (some B_108_20) none) (cond (Nat.blt pc 51) (cond (Nat.beq pc 33) (some B_108_33) none) (cond (Nat.beq pc 51) (some B_108_51) none)))) (cond (Nat.blt pc 87) (cond (Nat.blt pc 60) (cond (Nat.beq pc 52) (some B_108_52) none) (cond (Nat.blt pc 73) (cond (Nat.beq pc 60) (some B_108_60) none) (cond (Nat.beq pc 73) (some B_108_73) none))) (cond (Nat.blt pc 92) (cond (Nat.beq pc 87) (some B_108_87) none) (cond (Nat.blt pc 112) (cond (Nat.beq pc 92) (some B_108_92) none) (cond (Nat.beq pc 112) (some B_108_112) none)))))
noncomputable def B_109_0 : XK := X_load xkR 0 <| X_load xkI 1 <| X_callV 0 125 2 5
noncomputable def B_109_5 : XK := X_store xkI 2 <| X_jump 6
noncomputable def B_109_6 : XK := X_load xkI 2 <| X_if p_le d_le 21 <| X_load xkR 0 <| X_load xkI 1 <| X_callV 0 176 2 15
noncomputable def B_109_15 : XK := X_iinc 2 4294967295 <| X_jump 6
noncomputable def B_109_21 : XK := X_vret
noncomputable def T_109 : Nat → Option XK := fun pc => (cond (Nat.blt pc 6) (cond (Nat.blt pc 5) (cond (Nat.beq pc 0) (some B_109_0) none) (cond (Nat.beq pc 5) (some B_109_5) none)) (cond (Nat.blt pc 15) (cond (Nat.beq pc 6) (some B_109_6) none) (cond (Nat.blt pc 21) (cond (Nat.beq pc 15) (some B_109_15) none) (cond (Nat.beq pc 21) (some B_109_21) none))))
noncomputable def B_110_0 : XK := X_load xkR 0 <| X_getf 0 1 <| X_load xkR 2 <| X_getf 2 4 <| X_push (.inl 0) <| X_ibin x_iadd xg_add <| X_callV 10 132 2 13
noncomputable def B_110_13 : XK := X_store xkI 3 <| X_load xkR 0 <| X_load xkI 1 <| X_load xkR 2 <| X_push (.inl 3) <| X_load xkI 3 <| X_load xkR 0 <| X_getf 0 1 <| X_load xkR 0 <| X_getf 0 2 <| X_push (.inl 0) <| X_ibin x_iadd xg_add <| X_callV 10 132 2 32
noncomputable def B_110_32 : XK := X_callV 2 177 4 35
noncomputable def B_110_35 : XK := X_callV 0 178 3 38
noncomputable def B_110_38 : XK := X_load xkR 0 <| X_getf 0 1 <| X_load xkR 0 <| X_getf 0 2 <| X_push (.inl 0) <| X_ibin x_iadd xg_add <| X_load xkR 2 <| X_push (.inl 0) <| X_load xkR 0 <| X_getf 0 1 <| X_load xkR 0 <| X_getf 0 2 <| X_push (.inl 0) <| X_ibin x_iadd xg_add <| X_callV 10 132 2 63
noncomputable def B_110_63 : XK := X_load xkI 3 <| X_callV 2 177 4 67
noncomputable def B_110_67 : XK := X_callV 10 117 3 70
noncomputable def B_110_70 : XK := X_load xkR 2 <| X_push (.inl 4) <| X_load xkI 3 <| X_push (.inl 0) <| X_callV 2 177 4 77
noncomputable def B_110_77 : XK := X_pop <| X_load xkR 0 <| X_load xkR 2 <| X_getf 2 2 <| X_load xkI 3 <| X_load xkR 0 <| X_getf 0 9 <| X_push (.inl 1) <| X_callV 4 179 4 92
noncomputable def B_110_92 : XK := X_putf xkL 0 9 <| X_load xkR 0 <| X_load xkR 2 <| X_getf 2 2 <| X_load xkI 3 <| X_load xkR 0 <| X_getf 0 10 <| X_push (.inl 1) <| X_callV 4 179 4 109
noncomputable def B_110_109 : XK := X_putf xkL 0 10 <| X_load xkR 0 <| X_getf 0 5 <| X_if p_ne d_ne 146 <| X_load xkR 0 <| X_getf 0 1 <| X_load xkR 0 <| X_getf 0 2 <| X_push (.inl 1) <| X_ibin x_iadd xg_add <| X_load xkI 3 <| X_callV 10 117 3 133
noncomputable def B_110_133 : XK := X_load xkR 0 <| X_push (.inl 1) <| X_putf xk01 0 5 <| X_load xkR 0 <| X_push (.inl 0) <| X_putf xk01 0 6 <| X_jump 194
noncomputable def B_110_146 : XK := X_load xkR 0 <| X_getf 0 1 <| X_load xkR 0 <| X_getf 0 2 <| X_push (.inl 2) <| X_ibin x_iadd xg_add <| X_load xkR 0 <| X_getf 0 7 <| X_if p_eq d_eq 185 <| X_load xkR 2 <| X_push (.inl 0) <| X_load xkR 0 <| X_getf 0 1 <| X_load xkR 0 <| X_getf 0 2 <| X_push (.inl 2) <| X_ibin x_iadd xg_add <| X_callV 10 132 2 178
noncomputable def B_110_178 : XK := X_load xkI 3 <| X_callV 2 177 4 182
noncomputable def B_110_182 : XK := X_jump 186
noncomputable def B_110_185 : XK := X_load xkI 3 <| X_jump 186
noncomputable def B_110_186 : XK := X_callV 10 117 3 189
noncomputable def B_110_189 : XK := X_load xkR 0 <| X_push (.inl 1) <| X_putf xk01 0 7 <| X_jump 194
noncomputable def B_110_194 : XK := X_vret
noncomputable def T_110 : Nat → Option XK := fun pc => (cond (Nat.blt pc 92) (cond (Nat.blt pc 38) (cond (Nat.blt pc 32) (cond (Nat.blt pc 13) (cond (Nat.beq pc 0) (some B_110_0) none) (cond (Nat.beq pc 13) (some B_110_13) none)) (cond (Nat.blt pc 35) (cond (Nat.beq pc 32) (some B_110_32) none) (cond (Nat.beq pc 35) (some B_110_35) none))) (cond (Nat.blt pc 67) (cond (Nat.blt pc 63) (cond (Nat.beq pc 38) (some B_110_38) none) (cond (Nat.beq pc 63) (some B_110_63) none)) (cond (Nat.blt pc 70) (cond (Nat.beq pc 67) (some B_110_67) none) (cond (Nat.blt pc 77) (cond (Nat.beq pc 70) (some B_110_70) none) (cond (Nat.beq pc 77) (some B_110_77) none))))) (cond (Nat.blt pc 182) (cond (Nat.blt pc 133) (cond (Nat.blt pc 109) (cond (Nat.beq pc 92) (some B_110_92) none) (cond (Nat.beq pc 109) (some B_110_109) none)) (cond (Nat.blt pc 146) (cond (Nat.beq pc 133) (some B_110_133) none) (cond (Nat.blt pc 178) (cond (Nat.beq pc 146) (some B_110_146) none) (cond (Nat.beq pc 178) (some B_110_178) none)))) (cond (Nat.blt pc 186) (cond (Nat.blt pc 185) (cond (Nat.beq pc 182) (some B_110_182) none) (cond (Nat.beq pc 185) (some B_110_185) none)) (cond (Nat.blt pc 189) (cond (Nat.beq pc 186) (some B_110_186) none) (cond (Nat.blt pc 194) (cond (Nat.beq pc 189) (some B_110_189) none) (cond (Nat.beq pc 194) (some B_110_194) none))))))
noncomputable def B_111_0 : XK := X_load xkR 0 <| X_getf 0 1 <| X_load xkR 2 <| X_getf 2 4 <| X_push (.inl 0) <| X_ibin x_iadd xg_add <| X_load xkR 0 <| X_load xkI 1 <| X_callV 0 105 2 15
noncomputable def B_111_15 : XK := X_callV 10 117 3 18
noncomputable def B_111_18 : XK := X_load xkR 0 <| X_load xkI 1 <| X_callV 0 176 2 23
noncomputable def B_111_23 : XK := X_vret
noncomputable def T_111 : Nat → Option XK := fun pc => (cond (Nat.blt pc 18) (cond (Nat.blt pc 15) (cond (Nat.beq pc 0) (some B_111_0) none) (cond (Nat.beq pc 15) (some B_111_15) none)) (cond (Nat.blt pc 23) (cond (Nat.beq pc 18) (some B_111_18) none) (cond (Nat.beq pc 23) (some B_111_23) none)))
noncomputable def B_112_0 : XK := X_load xkR 0 <| X_load xkI 1 <| X_callV 3 102 2 5
noncomputable def B_112_5 : XK := X_store xkR 3 <| X_load xkR 3 <| X_ifr p_eq 19 <| X_load xkR 0 <| X_getf 3 5 <| X_push (.inl 90) <| X_if2 p2_lt d_lt 20 <| X_jump 19
noncomputable def B_112_20 : XK := X_load xkR 2 <| X_getf 2 4 <| X_store xkI 4 <| X_load xkR 0 <| X_getf 3 0 <| X_load xkI 4 <| X_push (.inl 1) <| X_ibin x_iadd xg_add <| X_load xkR 3 <| X_push (.inl 0) <| X_callV 0 123 2 39
noncomputable def B_112_39 : XK := X_callV 10 117 3 42
noncomputable def B_112_42 : XK := X_load xkR 3 <| X_getf 0 8 <| X_store xkI 5 <| X_jump 48
noncomputable def B_112_48 : XK := X_load xkI 5 <| X_load xkR 0 <| X_getf 3 5 <| X_if2 p2_ge d_ge 104 <| X_load xkR 0 <| X_getf 3 0 <| X_load xkI 4 <| X_push (.inl 1) <| X_ibin x_iadd xg_add <| X_load xkR 2 <| X_push (.inl 1) <| X_load xkR 0 <| X_getf 3 0 <| X_load xkI 4 <| X_push (.inl 1) <| X_ibin x_iadd xg_add <| X_callV 10 132 2 78
noncomputable def B_112_78 : XK := X_load xkR 0 <| X_getf 3 0 <| X_load xkR 0 <| X_getf 3 1 <| X_load xkI 5 <| X_ibin x_iadd xg_add <| X_callV 10 132 2 92
noncomputable def B_112_92 : XK := X_callV 2 177 4 95
noncomputable def B_112_95 : XK := X_callV 10 117 3 98
noncomputable def B_112_98 : XK := X_iinc 5 1 <| X_jump 48
noncomputable def B_112_104 : XK := X_load xkR 2 <| X_push (.inl 0) <| X_load xkR 0 <| X_getf 3 0 <| X_load xkR 0 <| X_getf 3 4 <| X_callV 10 132 2 117
noncomputable def B_112_117 : XK := X_load xkR 0 <| X_getf 3 0 <| X_load xkI 4 <| X_push (.inl 1) <| X_ibin x_iadd xg_add <| X_callV 10 132 2 128
noncomputable def B_112_128 : XK := X_callV 2 177 4 131
noncomputable def B_112_131 : XK := X_store xkI 5 <| X_load xkR 0 <| X_getf 3 0 <| X_getf 10 13 <| X_if p_ne d_ne 162 <| X_load xkR 0 <| X_getf 3 5 <| X_if p_lt d_lt 162 <| X_load xkR 0 <| X_getf 3 5 <| X_load xkR 0 <| X_getf 3 2 <| X_alen <| X_if2 p2_lt d_lt 163 <| X_jump 162
noncomputable def B_112_163 : XK := X_load xkR 0 <| X_getf 3 0 <| X_load xkR 0 <| X_getf 3 4 <| X_load xkI 5 <| X_callV 10 117 3 176
noncomputable def B_112_176 : XK := X_load xkR 0 <| X_getf 3 0 <| X_load xkR 0 <| X_getf 3 1 <| X_load xkR 0 <| X_getf 3 5 <| X_ibin x_iadd xg_add <| X_load xkR 0 <| X_getf 3 0 <| X_load xkI 4 <| X_push (.inl 1) <| X_ibin x_iadd xg_add <| X_callV 10 132 2 200
noncomputable def B_112_200 : XK := X_callV 10 117 3 203
noncomputable def B_112_203 : XK := X_load xkR 0 <| X_getf 3 2 <| X_load xkR 0 <| X_getf 3 5 <| X_load xkI 1 <| X_ast xt0 xkI <| X_load xkR 0 <| X_dup <| X_getf 3 5 <| X_push (.inl 1) <| X_ibin x_iadd xg_add <| X_putf xkI 3 5 <| X_load xkR 3 <| X_push (.inl 1) <| X_putf xk01 0 6 <| X_vret
noncomputable def T_112 : Nat → Option XK := fun pc => (cond (Nat.blt pc 98) (cond (Nat.blt pc 42) (cond (Nat.blt pc 20) (cond (Nat.blt pc 5) (cond (Nat.beq pc 0) (some B_112_0) none) (cond (Nat.beq pc 5) (some B_112_5) none)) (cond (Nat.blt pc 39) (cond (Nat.beq pc 20) (some B_112_20) none) (cond (Nat.beq pc 39) (some B_112_39) none))) (cond (Nat.blt pc 78) (cond (Nat.blt pc 48) (cond (Nat.beq pc 42) (some B_112_42) none) (cond (Nat.beq pc 48) (some B_112_48) none)) (cond (Nat.blt pc 92) (cond (Nat.beq pc 78) (some B_112_78) none) (cond (Nat.blt pc 95) (cond (Nat.beq pc 92) (some B_112_92) none) (cond (Nat.beq pc 95) (some B_112_95) none))))) (cond (Nat.blt pc 131) (cond (Nat.blt pc 117) (cond (Nat.blt pc 104) (cond (Nat.beq pc 98) (some B_112_98) none) (cond (Nat.beq pc 104) (some B_112_104) none)) (cond (Nat.blt pc 128) (cond (Nat.beq pc 117) (some B_112_117) none) (cond (Nat.beq pc 128) (some B_112_128) none))) (cond (Nat.blt pc 176) (cond (Nat.blt pc 163) (cond (Nat.beq pc 131) (some B_112_131) none) (cond (Nat.beq pc 163) (some B_112_163) none)) (cond (Nat.blt pc 200) (cond (Nat.beq pc 176) (some B_112_176) none) (cond (Nat.blt pc 203) (cond (Nat.beq pc 200) (some B_112_200) none) (cond (Nat.beq pc 203) (some B_112_203) none))))))
noncomputable def B_113_0 : XK := X_load xkR 0 <| X_getf 0 8 <| X_load xkR 2 <| X_alen <| X_if2 p2_ge d_ge 26 <| X_load xkR 2 <| X_load xkR 0 <| X_getf 0 8 <| X_ald xt0 <| X_load xkR 0 <| X_getf 0 0 <| X_if2 p2_ne d_ne 26 <| X_push (.inl 1) <| X_jump 27
noncomputable def B_113_26 : XK := X_push (.inl 0) <| X_jump 27
noncomputable def B_113_27 : XK := X_store xkI 4 <| X_load xkR 3 <| X_getf 2 4 <| X_store xkI 5 <| X_load xkR 0 <| X_getf 0 1 <| X_load xkI 5 <| X_push (.inl 1) <| X_ibin x_iadd xg_add <| X_load xkR 0 <| X_getf 0 1 <| X_load xkI 1 <| X_load xkR 0 <| X_getf 0 8 <| X_ibin x_iadd xg_add <| X_callV 10 132 2 56
noncomputable def B_113_56 : XK := X_callV 10 117 3 59
noncomputable def B_113_59 : XK := X_load xkR 0 <| X_dup <| X_getf 0 8 <| X_push (.inl 1) <| X_ibin x_iadd xg_add <| X_putf xkI 0 8 <| X_load xkI 4 <| X_if p_eq d_eq 79 <| X_load xkR 0 <| X_callV 0 180 1 78
noncomputable def B_113_78 : XK := X_vret
noncomputable def B_113_79 : XK := X_push (.inl 0) <| X_store xkI 6 <| X_jump 82
noncomputable def B_113_82 : XK := X_load xkI 6 <| X_push (.inl 3) <| X_if2 p2_ge d_ge 423 <| X_load xkI 6 <| X_push (.inl 1) <| X_if2 p2_ne d_ne 230 <| X_load xkR 0 <| X_getf 0 1 <| X_load xkI 5 <| X_push (.inl 2) <| X_ibin x_iadd xg_add <| X_load xkR 0 <| X_getf 0 1 <| X_load xkI 5 <| X_push (.inl 1) <| X_ibin x_iadd xg_add <| X_callV 10 132 2 113
noncomputable def B_113_113 : XK := X_callV 10 117 3 116
noncomputable def B_113_116 : XK := X_load xkR 0 <| X_getf 0 1 <| X_load xkR 0 <| X_getf 0 2 <| X_push (.inl 0) <| X_ibin x_iadd xg_add <| X_load xkR 3 <| X_push (.inl 0) <| X_load xkR 0 <| X_getf 0 1 <| X_load xkR 0 <| X_getf 0 2 <| X_push (.inl 0) <| X_ibin x_iadd xg_add <| X_callV 10 132 2 141
noncomputable def B_113_141 : XK := X_load xkR 0 <| X_getf 0 1 <| X_load xkI 5 <| X_push (.inl 2) <| X_ibin x_iadd xg_add <| X_callV 10 132 2 152
noncomputable def B_113_152 : XK := X_callV 2 177 4 155
noncomputable def B_113_155 : XK := X_callV 10 117 3 158
noncomputable def B_113_158 : XK := X_load xkR 3 <| X_push (.inl 4) <| X_load xkR 0 <| X_getf 0 1 <| X_load xkI 5 <| X_push (.inl 2) <| X_ibin x_iadd xg_add <| X_callV 10 132 2 171
noncomputable def B_113_171 : XK := X_push (.inl 0) <| X_callV 2 177 4 175
noncomputable def B_113_175 : XK := X_pop <| X_load xkR 0 <| X_load xkR 3 <| X_getf 2 2 <| X_load xkR 0 <| X_getf 0 1 <| X_load xkI 5 <| X_push (.inl 2) <| X_ibin x_iadd xg_add <| X_callV 10 132 2 192
noncomputable def B_113_192 : XK := X_load xkR 0 <| X_getf 0 9 <| X_push (.inl 0) <| X_callV 4 179 4 200
noncomputable def B_113_200 : XK := X_putf xkL 0 9 <| X_load xkR 0 <| X_load xkR 3 <| X_getf 2 2 <| X_load xkR 0 <| X_getf 0 1 <| X_load xkI 5 <| X_push (.inl 2) <| X_ibin x_iadd xg_add <| X_callV 10 132 2 219
noncomputable def B_113_219 : XK := X_load xkR 0 <| X_getf 0 10 <| X_push (.inl 0) <| X_callV 4 179 4 227
noncomputable def B_113_227 : XK := X_putf xkL 0 10 <| X_jump 230
noncomputable def B_113_230 : XK := X_load xkI 6 <| X_push (.inl 2) <| X_if2 p2_ne d_ne 258 <| X_load xkR 0 <| X_getf 0 1 <| X_load xkI 5 <| X_push (.inl 1) <| X_ibin x_iadd xg_add <| X_load xkR 0 <| X_getf 0 1 <| X_load xkI 5 <| X_push (.inl 2) <| X_ibin x_iadd xg_add <| X_callV 10 132 2 255
noncomputable def B_113_255 : XK := X_callV 10 117 3 258
noncomputable def B_113_258 : XK := X_load xkR 0 <| X_load xkI 6 <| X_callV 0 181 2 264
noncomputable def B_113_264 : XK := X_store xkI 7 <| X_push (.inl 0) <| X_store xkI 8 <| X_jump 269
noncomputable def B_113_269 : XK := X_load xkI 8 <| X_load xkI 7 <| X_if2 p2_ge d_ge 417 <| X_load xkI 6 <| X_if p_ne d_ne 288 <| X_push (.inl 1) <| X_load xkI 8 <| X_ibin x_iadd xg_add <| X_jump 302
noncomputable def B_113_288 : XK := X_load xkI 6 <| X_push (.inl 1) <| X_ibin x_isub xg_sub <| X_load xkI 7 <| X_push (.inl 1) <| X_ibin x_isub xg_sub <| X_load xkI 8 <| X_ibin x_isub xg_sub <| X_callS 174 2 302
noncomputable def B_113_302 : XK := X_store xkI 9 <| X_load xkR 0 <| X_getf 0 1 <| X_load xkI 5 <| X_push (.inl 3) <| X_ibin x_iadd xg_add <| X_load xkR 3 <| X_push (.inl 1) <| X_load xkR 0 <| X_getf 0 1 <| X_load xkR 0 <| X_getf 0 2 <| X_load xkI 9 <| X_ibin x_iadd xg_add <| X_callV 10 132 2 328
noncomputable def B_113_328 : XK := X_load xkR 0 <| X_getf 0 1 <| X_load xkI 5 <| X_push (.inl 1) <| X_ibin x_iadd xg_add <| X_callV 10 132 2 339
noncomputable def B_113_339 : XK := X_callV 2 177 4 342
noncomputable def B_113_342 : XK := X_callV 10 117 3 345
noncomputable def B_113_345 : XK := X_load xkR 0 <| X_getf 0 1 <| X_load xkI 5 <| X_push (.inl 1) <| X_ibin x_iadd xg_add <| X_load xkR 3 <| X_push (.inl 2) <| X_load xkR 0 <| X_getf 0 1 <| X_load xkI 5 <| X_push (.inl 1) <| X_ibin x_iadd xg_add <| X_callV 10 132 2 366
noncomputable def B_113_366 : XK := X_load xkR 0 <| X_getf 0 1 <| X_load xkR 0 <| X_getf 0 2 <| X_load xkI 9 <| X_ibin x_iadd xg_add <| X_callV 10 132 2 380
noncomputable def B_113_380 : XK := X_callV 2 177 4 383
noncomputable def B_113_383 : XK := X_callV 10 117 3 386
noncomputable def B_113_386 : XK := X_load xkR 0 <| X_getf 0 1 <| X_load xkR 0 <| X_getf 0 2 <| X_load xkI 9 <| X_ibin x_iadd xg_add <| X_load xkR 0 <| X_getf 0 1 <| X_load xkI 5 <| X_push (.inl 3) <| X_ibin x_iadd xg_add <| X_callV 10 132 2 408
noncomputable def B_113_408 : XK := X_callV 10 117 3 411
noncomputable def B_113_411 : XK := X_iinc 8 1 <| X_jump 269
noncomputable def B_113_417 : XK := X_iinc 6 1 <| X_jump 82
noncomputable def B_113_423 : XK := X_vret
noncomputable def T_113 : Nat → Option XK := fun pc => (cond (Nat.blt pc 227) (cond (Nat.blt pc 116) (cond (Nat.blt pc 59) (cond (Nat.blt pc 27) (cond (Nat.blt pc 26) (cond (Nat.beq pc 0) (some B_113_0) none) (cond (Nat.beq pc 26) (some B_113_26) none)) (cond (Nat.blt pc 56) (cond (Nat.beq pc 27) (some B_113_27) none) (cond (Nat.beq pc 56) (some B_113_56) none))) (cond (Nat.blt pc 79) (cond (Nat.blt pc 78) (cond (Nat.beq pc 59) (some B_113_59) none) (cond (Nat.beq pc 78) (some B_113_78) none)) (cond (Nat.blt pc 82) (cond (Nat.beq pc 79) (some B_113_79) none) (cond (Nat.blt pc 113) (cond (Nat.beq pc 82) (some B_113_82) none) (cond (Nat.beq pc 113) (some B_113_113) none))))) (cond (Nat.blt pc 171) (cond (Nat.blt pc 152) (cond (Nat.blt pc 141) (cond (Nat.beq pc 116) (some B_113_116) none) (cond (Nat.beq pc 141) (some B_113_141) none)) (cond (Nat.blt pc 155) (cond (Nat.beq pc 152) (some B_113_152) none) (cond (Nat.blt pc 158) (cond (Nat.beq pc 155) (some B_113_155) none) (cond (Nat.beq pc 158) (some B_113_158) none)))) (cond (Nat.blt pc 192) (cond (Nat.blt pc 175) (cond (Nat.beq pc 171) (some B_113_171) none) (cond (Nat.beq pc 175) (some B_113_175) none)) (cond (Nat.blt pc 200) (cond (Nat.beq pc 192) (some B_113_192) none) (cond (Nat.blt pc 219) (cond (Nat.beq pc 200) (some B_113_200) none) (cond (Nat.beq pc 219) (some B_113_219) none)))))) (cond (Nat.blt pc 342) (cond (Nat.blt pc 269) (cond (Nat.blt pc 255) (cond (Nat.blt pc 230) (cond (Nat.beq pc 227) (some B_113_227) none) (cond (Nat.beq pc 230) (some B_113_230) none)) (cond (Nat.blt pc 258) (cond (Nat.beq pc 255) (some B_113_255) none) (cond (Nat.blt pc 264) (cond (Nat.beq pc 258) (some B_113_258) none) (cond (Nat.beq pc 264) (some B_113_264) none)))) (cond (Nat.blt pc 302) (cond (Nat.blt pc 288) (cond (Nat.beq pc 269) (some B_113_269) none) (cond (Nat.beq pc 288) (some B_113_288) none)) (cond (Nat.blt pc 328) (cond (Nat.beq pc 302) (some B_113_302) none) (cond (Nat.blt pc 339) (cond (Nat.beq pc 328) (some B_113_328) none) (cond (Nat.beq pc 339) (some B_113_339) none))))) (cond (Nat.blt pc 386) (cond (Nat.blt pc 366) (cond (Nat.blt pc 345) (cond (Nat.beq pc 342) (some B_113_342) none) (cond (Nat.beq pc 345) (some B_113_345) none)) (cond (Nat.blt pc 380) (cond (Nat.beq pc 366) (some B_113_366) none) (cond (Nat.blt pc 383) (cond (Nat.beq pc 380) (some B_113_380) none) (cond (Nat.beq pc 383) (some B_113_383) none)))) (cond (Nat.blt pc 411) (cond (Nat.blt pc 408) (cond (Nat.beq pc 386) (some B_113_386) none) (cond (Nat.beq pc 408) (some B_113_408) none)) (cond (Nat.blt pc 417) (cond (Nat.beq pc 411) (some B_113_411) none) (cond (Nat.blt pc 423) (cond (Nat.beq pc 417) (some B_113_417) none) (cond (Nat.beq pc 423) (some B_113_423) none)))))))
noncomputable def B_114_0 : XK := X_load xkR 0 <| X_getf 11 1 <| X_callV 10 133 1 7
noncomputable def B_114_7 : XK := X_store xkI 2 <| X_load xkI 2 <| X_if p_eq d_eq 20 <| X_stop
noncomputable def B_114_20 : XK := X_load xkR 0 <| X_getf 11 1 <| X_load xkR 0 <| X_getf 11 12 <| X_getf 0 2 <| X_push (.inl 43) <| X_callV 10 118 3 36
noncomputable def B_114_36 : XK := X_load xkR 0 <| X_getf 11 1 <| X_load xkR 0 <| X_getf 11 4 <| X_getf 2 4 <| X_push (.inl 6) <| X_callV 10 118 3 52
noncomputable def B_114_52 : XK := X_load xkI 2 <| X_ret xk01
noncomputable def T_114 : Nat → Option XK := fun pc => (cond (Nat.blt pc 20) (cond (Nat.blt pc 7) (cond (Nat.beq pc 0) (some B_114_0) none) (cond (Nat.beq pc 7) (some B_114_7) none)) (cond (Nat.blt pc 36) (cond (Nat.beq pc 20) (some B_114_20) none) (cond (Nat.blt pc 52) (cond (Nat.beq pc 36) (some B_114_36) none) (cond (Nat.beq pc 52) (some B_114_52) none))))
noncomputable def B_115_0 : XK := X_load xkI 1 <| X_push (.inl 4) <| X_if2 p2_eq d_eq 13 <| X_load xkR 0 <| X_load xkI 1 <| X_callV 3 102 2 10
noncomputable def B_115_10 : XK := X_ifr p_eq 17 <| X_jump 13
noncomputable def B_115_13 : XK := X_push (.inl 1) <| X_jump 18
noncomputable def B_115_17 : XK := X_push (.inl 0) <| X_jump 18
noncomputable def B_115_18 : XK := X_ret xk01
noncomputable def T_115 : Nat → Option XK := fun pc => (cond (Nat.blt pc 13) (cond (Nat.blt pc 10) (cond (Nat.beq pc 0) (some B_115_0) none) (cond (Nat.beq pc 10) (some B_115_10) none)) (cond (Nat.blt pc 17) (cond (Nat.beq pc 13) (some B_115_13) none) (cond (Nat.blt pc 18) (cond (Nat.beq pc 17) (some B_115_17) none) (cond (Nat.beq pc 18) (some B_115_18) none))))
noncomputable def B_116_0 : XK := X_load xkR 0 <| X_getf 11 4 <| X_push (.inl 4) <| X_load xkI 1 <| X_push (.inl 0) <| X_callV 2 177 4 10
noncomputable def B_116_10 : XK := X_ret xkI
noncomputable def T_116 : Nat → Option XK := fun pc => (cond (Nat.blt pc 10) (cond (Nat.beq pc 0) (some B_116_0) none) (cond (Nat.beq pc 10) (some B_116_10) none))
noncomputable def B_117_0 : XK := X_load xkI 1 <| X_if p_lt d_lt 18 <| X_load xkI 1 <| X_push (.inl 512) <| X_if2 p2_ge d_ge 18 <| X_load xkR 0 <| X_getf 10 1 <| X_load xkI 1 <| X_load xkI 2 <| X_ast xt0 xkI <| X_jump 18
noncomputable def B_117_18 : XK := X_vret
noncomputable def T_117 : Nat → Option XK := fun pc => (cond (Nat.blt pc 18) (cond (Nat.beq pc 0) (some B_117_0) none) (cond (Nat.beq pc 18) (some B_117_18) none))
noncomputable def B_118_0 : XK := X_push (.inl 0) <| X_store xkI 3 <| X_jump 2
noncomputable def B_118_2 : XK := X_load xkI 3 <| X_load xkI 2 <| X_if2 p2_ge d_ge 21 <| X_load xkR 0 <| X_load xkI 1 <| X_load xkI 3 <| X_ibin x_iadd xg_add <| X_push (.inl 0) <| X_callV 10 117 3 15
noncomputable def B_118_15 : XK := X_iinc 3 1 <| X_jump 2
noncomputable def B_118_21 : XK := X_vret
noncomputable def T_118 : Nat → Option XK := fun pc => (cond (Nat.blt pc 15) (cond (Nat.blt pc 2) (cond (Nat.beq pc 0) (some B_118_0) none) (cond (Nat.beq pc 2) (some B_118_2) none)) (cond (Nat.blt pc 21) (cond (Nat.beq pc 15) (some B_118_15) none) (cond (Nat.beq pc 21) (some B_118_21) none)))
noncomputable def B_119_0 : XK := X_load xkI 1 <| X_load xkI 2 <| X_if2 p2_ne d_ne 9 <| X_push (.inr (.inl 18446744073709551615)) <| X_ret xkL
noncomputable def T_119 : Nat → Option XK := fun pc => (cond (Nat.beq pc 0) (some B_119_0) none)
noncomputable def B_120_0 : XK := X_load xkL 0 <| X_push (.inr (.inl 2147483647)) <| X_lcif pL_ge d_ge 13 <| X_load xkL 0 <| X_l2i <| X_jump 15
noncomputable def B_120_15 : XK := X_ret xkI
noncomputable def T_120 : Nat → Option XK := fun pc => (cond (Nat.blt pc 15) (cond (Nat.beq pc 0) (some B_120_0) none) (cond (Nat.beq pc 15) (some B_120_15) none))
noncomputable def B_121_0 : XK := X_load xkI 0 <| X_if p_lt d_lt 14 <| X_load xkI 0 <| X_push (.inl 12) <| X_if2 p2_ge d_ge 14 <| X_push (.inl 1) <| X_jump 15
noncomputable def B_121_14 : XK := X_push (.inl 0) <| X_jump 15
noncomputable def B_121_15 : XK := X_ret xk01
noncomputable def T_121 : Nat → Option XK := fun pc => (cond (Nat.blt pc 14) (cond (Nat.beq pc 0) (some B_121_0) none) (cond (Nat.blt pc 15) (cond (Nat.beq pc 14) (some B_121_14) none) (cond (Nat.beq pc 15) (some B_121_15) none)))
noncomputable def B_122_0 : XK := X_load xkI 1 <| X_if p_lt d_lt 26 <| X_load xkI 1 <| X_load xkR 0 <| X_getf 11 7 <| X_alen <| X_if2 p2_ge d_ge 26 <| X_load xkR 0 <| X_getf 11 7 <| X_load xkI 1 <| X_ald xt2 <| X_if p_eq d_eq 26 <| X_stop
noncomputable def B_122_26 : XK := X_push (.inl 0) <| X_jump 27
noncomputable def B_122_27 : XK := X_ret xk01
noncomputable def T_122 : Nat → Option XK := fun pc => (cond (Nat.blt pc 26) (cond (Nat.beq pc 0) (some B_122_0) none) (cond (Nat.blt pc 27) (cond (Nat.beq pc 26) (some B_122_26) none) (cond (Nat.beq pc 27) (some B_122_27) none)))
noncomputable def B_123_0 : XK := X_load xkR 0 <| X_load xkI 1 <| X_callV 0 151 2 5
noncomputable def B_123_5 : XK := X_if p_ne d_ne 10 <| X_push (.inl 0) <| X_ret xkI
noncomputable def B_123_10 : XK := X_load xkI 1 <| X_push (.inl 2) <| X_if2 p2_ge d_ge 33 <| X_load xkR 0 <| X_getf 0 1 <| X_load xkR 0 <| X_getf 0 2 <| X_push (.inl 1) <| X_ibin x_iadd xg_add <| X_load xkI 1 <| X_ibin x_iadd xg_add <| X_callV 10 132 2 30
noncomputable def B_123_30 : XK := X_jump 40
noncomputable def B_123_40 : XK := X_ret xkI
noncomputable def T_123 : Nat → Option XK := fun pc => (cond (Nat.blt pc 10) (cond (Nat.blt pc 5) (cond (Nat.beq pc 0) (some B_123_0) none) (cond (Nat.beq pc 5) (some B_123_5) none)) (cond (Nat.blt pc 30) (cond (Nat.beq pc 10) (some B_123_10) none) (cond (Nat.blt pc 40) (cond (Nat.beq pc 30) (some B_123_30) none) (cond (Nat.beq pc 40) (some B_123_40) none))))
noncomputable def B_124_0 : XK := X_load xkR 0 <| X_getf 8 7 <| X_push (.inl 17) <| X_if2 p2_ge d_ge 29 <| X_push (.inl 4) <| X_load xkR 0 <| X_getf 8 7 <| X_ibin x_ishl xg_shl <| X_load xkR 0 <| X_getf 8 0 <| X_getf 9 12 <| X_if2 p2_ge d_ge 29 <| X_stop
noncomputable def B_124_29 : XK := X_push (.inl 0) <| X_jump 30
noncomputable def B_124_30 : XK := X_store xkI 3 <| X_load xkI 1 <| X_load xkR 0 <| X_getf 8 8 <| X_if2 p2_ne d_ne 57 <| X_stop
noncomputable def B_124_57 : XK := X_load xkR 0 <| X_load xkI 1 <| X_putf xkI 8 8 <| X_load xkR 0 <| X_load xkR 0 <| X_getf 8 0 <| X_getf 9 14 <| X_putf xkI 8 9 <| X_jump 73
noncomputable def B_124_73 : XK := X_load xkR 0 <| X_getf 8 7 <| X_push (.inl 17) <| X_if2 p2_ge d_ge 111 <| X_push (.inl 4) <| X_load xkR 0 <| X_getf 8 7 <| X_ibin x_ishl xg_shl <| X_load xkR 0 <| X_getf 8 0 <| X_getf 9 12 <| X_if2 p2_ge d_ge 111 <| X_stop
noncomputable def B_124_111 : XK := X_load xkR 0 <| X_getf 8 0 <| X_getf 9 7 <| X_push (.inl 262144) <| X_push (.inl 262144) <| X_push (.inl 4) <| X_load xkR 0 <| X_getf 8 7 <| X_ibin x_ishl xg_shl <| X_ibin x_iadd xg_add <| X_push (.inr (.inl 0)) <| X_callS 182 4 133
noncomputable def B_124_133 : XK := X_load xkR 0 <| X_getf 8 1 <| X_load xkI 2 <| X_callV 10 183 2 141
noncomputable def B_124_141 : XK := X_if p_eq d_eq 157 <| X_load xkR 0 <| X_load xkR 0 <| X_getf 8 1 <| X_load xkI 2 <| X_callV 10 184 2 153
noncomputable def B_124_153 : XK := X_callV 8 185 2 156
noncomputable def B_124_156 : XK := X_ret xkL
noncomputable def T_124 : Nat → Option XK := fun pc => (cond (Nat.blt pc 111) (cond (Nat.blt pc 30) (cond (Nat.blt pc 29) (cond (Nat.beq pc 0) (some B_124_0) none) (cond (Nat.beq pc 29) (some B_124_29) none)) (cond (Nat.blt pc 57) (cond (Nat.beq pc 30) (some B_124_30) none) (cond (Nat.blt pc 73) (cond (Nat.beq pc 57) (some B_124_57) none) (cond (Nat.beq pc 73) (some B_124_73) none)))) (cond (Nat.blt pc 141) (cond (Nat.blt pc 133) (cond (Nat.beq pc 111) (some B_124_111) none) (cond (Nat.beq pc 133) (some B_124_133) none)) (cond (Nat.blt pc 153) (cond (Nat.beq pc 141) (some B_124_141) none) (cond (Nat.blt pc 156) (cond (Nat.beq pc 153) (some B_124_153) none) (cond (Nat.beq pc 156) (some B_124_156) none)))))
noncomputable def B_125_0 : XK := X_load xkI 1 <| X_if p_ne d_ne 11 <| X_load xkR 0 <| X_getf 0 3 <| X_jump 15
noncomputable def B_125_11 : XK := X_load xkR 0 <| X_getf 0 4 <| X_jump 15
noncomputable def B_125_15 : XK := X_ret xkI
noncomputable def T_125 : Nat → Option XK := fun pc => (cond (Nat.blt pc 11) (cond (Nat.beq pc 0) (some B_125_0) none) (cond (Nat.blt pc 15) (cond (Nat.beq pc 11) (some B_125_11) none) (cond (Nat.beq pc 15) (some B_125_15) none)))
noncomputable def B_126_0 : XK := X_load xkI 1 <| X_if p_lt d_lt 22 <| X_load xkI 1 <| X_load xkR 0 <| X_getf 11 8 <| X_alen <| X_if2 p2_ge d_ge 22 <| X_load xkR 0 <| X_getf 11 8 <| X_load xkI 1 <| X_ald xt3 <| X_jump 23
noncomputable def B_126_22 : XK := X_push (.inr (.inr (.inl 0))) <| X_jump 23
noncomputable def B_126_23 : XK := X_ret xkR
noncomputable def T_126 : Nat → Option XK := fun pc => (cond (Nat.blt pc 22) (cond (Nat.beq pc 0) (some B_126_0) none) (cond (Nat.blt pc 23) (cond (Nat.beq pc 22) (some B_126_22) none) (cond (Nat.beq pc 23) (some B_126_23) none)))
noncomputable def B_127_0 : XK := X_load xkR 0 <| X_getf 6 1 <| X_push (.inl 10) <| X_if2 p2_lt d_lt 13 <| X_stop
noncomputable def B_127_13 : XK := X_push (.inl 0) <| X_jump 14
noncomputable def B_127_14 : XK := X_ret xk01
noncomputable def T_127 : Nat → Option XK := fun pc => (cond (Nat.blt pc 13) (cond (Nat.beq pc 0) (some B_127_0) none) (cond (Nat.blt pc 14) (cond (Nat.beq pc 13) (some B_127_13) none) (cond (Nat.beq pc 14) (some B_127_14) none)))
noncomputable def B_128_0 : XK := X_load xkR 0 <| X_getf 6 1 <| X_push (.inl 4294967295) <| X_if2 p2_ne d_ne 12 <| X_push (.inl 1) <| X_jump 13
noncomputable def B_128_13 : XK := X_ret xk01
noncomputable def T_128 : Nat → Option XK := fun pc => (cond (Nat.blt pc 13) (cond (Nat.beq pc 0) (some B_128_0) none) (cond (Nat.beq pc 13) (some B_128_13) none))
noncomputable def B_129_0 : XK := X_load xkR 0 <| X_getf 0 1 <| X_load xkR 0 <| X_getf 0 1 <| X_load xkR 0 <| X_getf 0 2 <| X_push (.inl 0) <| X_ibin x_iadd xg_add <| X_callV 10 132 2 17
noncomputable def B_129_17 : XK := X_callV 10 138 2 20
noncomputable def B_129_20 : XK := X_ret xkL
noncomputable def T_129 : Nat → Option XK := fun pc => (cond (Nat.blt pc 17) (cond (Nat.beq pc 0) (some B_129_0) none) (cond (Nat.blt pc 20) (cond (Nat.beq pc 17) (some B_129_17) none) (cond (Nat.beq pc 20) (some B_129_20) none)))
noncomputable def B_130_0 : XK := X_load xkI 1 <| X_if p_lt d_lt 29 <| X_load xkI 1 <| X_i2l <| X_load xkL 2 <| X_lcif pL_gt d_gt 29 <| X_stop
noncomputable def B_130_29 : XK := X_push (.inl 0) <| X_jump 30
noncomputable def B_130_30 : XK := X_ret xk01
noncomputable def T_130 : Nat → Option XK := fun pc => (cond (Nat.blt pc 29) (cond (Nat.beq pc 0) (some B_130_0) none) (cond (Nat.blt pc 30) (cond (Nat.beq pc 29) (some B_130_29) none) (cond (Nat.beq pc 30) (some B_130_30) none)))
noncomputable def B_131_0 : XK := X_push (.inl 0) <| X_store xkI 1 <| X_load xkR 0 <| X_push (.inl 0) <| X_putf xkI 7 3 <| X_load xkR 0 <| X_push (.inl 0) <| X_putf xk01 7 5 <| X_load xkR 0 <| X_load xkR 0 <| X_getf 7 2 <| X_if p_ne d_ne 24 <| X_push (.inl 0) <| X_jump 25
noncomputable def B_131_25 : XK := X_putf xkI 7 4 <| X_push (.inl 0) <| X_store xkI 2 <| X_jump 30
noncomputable def B_131_30 : XK := X_load xkI 2 <| X_push (.inl 250) <| X_if2 p2_ge d_ge 140 <| X_load xkR 0 <| X_getf 7 4 <| X_push (.inl 4294967295) <| X_if2 p2_ne d_ne 140 <| X_stop
noncomputable def B_131_140 : XK := X_load xkR 0 <| X_getf 7 0 <| X_getf 2 0 <| X_load xkR 0 <| X_getf 7 0 <| X_getf 2 4 <| X_push (.inl 0) <| X_ibin x_iadd xg_add <| X_load xkR 0 <| X_getf 7 0 <| X_getf 2 0 <| X_load xkI 1 <| X_callV 10 186 2 167
noncomputable def B_131_167 : XK := X_callV 10 117 3 170
noncomputable def B_131_170 : XK := X_load xkR 0 <| X_getf 7 4 <| X_ret xkI
noncomputable def T_131 : Nat → Option XK := fun pc => (cond (Nat.blt pc 140) (cond (Nat.blt pc 25) (cond (Nat.beq pc 0) (some B_131_0) none) (cond (Nat.blt pc 30) (cond (Nat.beq pc 25) (some B_131_25) none) (cond (Nat.beq pc 30) (some B_131_30) none))) (cond (Nat.blt pc 167) (cond (Nat.beq pc 140) (some B_131_140) none) (cond (Nat.blt pc 170) (cond (Nat.beq pc 167) (some B_131_167) none) (cond (Nat.beq pc 170) (some B_131_170) none))))
noncomputable def B_132_0 : XK := X_load xkI 1 <| X_if p_lt d_lt 20 <| X_load xkI 1 <| X_push (.inl 512) <| X_if2 p2_ge d_ge 20 <| X_load xkR 0 <| X_getf 10 1 <| X_load xkI 1 <| X_ald xt0 <| X_jump 21
noncomputable def B_132_21 : XK := X_ret xkI
noncomputable def T_132 : Nat → Option XK := fun pc => (cond (Nat.blt pc 21) (cond (Nat.beq pc 0) (some B_132_0) none) (cond (Nat.beq pc 21) (some B_132_21) none))
noncomputable def B_133_0 : XK := X_load xkR 0 <| X_getf 10 13 <| X_store xkI 1 <| X_load xkR 0 <| X_push (.inl 0) <| X_putf xk01 10 13 <| X_load xkI 1 <| X_ret xk01
noncomputable def T_133 : Nat → Option XK := fun pc => (cond (Nat.beq pc 0) (some B_133_0) none)
noncomputable def B_134_0 : XK := X_load xkR 0 <| X_callV 6 143 1 4
noncomputable def B_134_4 : XK := X_if p_eq d_eq 39 <| X_stop
noncomputable def B_134_39 : XK := X_push (.inr (.inl 0)) <| X_jump 40
noncomputable def B_134_40 : XK := X_ret xkL
noncomputable def T_134 : Nat → Option XK := fun pc => (cond (Nat.blt pc 39) (cond (Nat.blt pc 4) (cond (Nat.beq pc 0) (some B_134_0) none) (cond (Nat.beq pc 4) (some B_134_4) none)) (cond (Nat.blt pc 40) (cond (Nat.beq pc 39) (some B_134_39) none) (cond (Nat.beq pc 40) (some B_134_40) none)))
noncomputable def B_135_0 : XK := X_load xkR 0 <| X_getf 7 2 <| X_if p_lt d_lt 36 <| X_load xkR 0 <| X_getf 7 2 <| X_load xkR 0 <| X_getf 7 1 <| X_alen <| X_if2 p2_ge d_ge 36 <| X_load xkR 0 <| X_getf 7 1 <| X_load xkR 0 <| X_dup <| X_getf 7 2 <| X_dupx1 <| X_push (.inl 1) <| X_ibin x_iadd xg_add <| X_putf xkI 7 2 <| X_load xkI 1 <| X_ast xt0 xkI <| X_jump 36
noncomputable def B_135_36 : XK := X_vret
noncomputable def T_135 : Nat → Option XK := fun pc => (cond (Nat.blt pc 36) (cond (Nat.beq pc 0) (some B_135_0) none) (cond (Nat.beq pc 36) (some B_135_36) none))
noncomputable def B_136_0 : XK := X_load xkR 0 <| X_getf 3 0 <| X_load xkR 0 <| X_getf 3 4 <| X_load xkR 0 <| X_getf 3 0 <| X_load xkR 1 <| X_getf 3 4 <| X_callV 10 132 2 19
noncomputable def B_136_19 : XK := X_callV 10 117 3 22
noncomputable def B_136_22 : XK := X_load xkR 0 <| X_load xkR 1 <| X_getf 3 5 <| X_putf xkI 3 5 <| X_load xkR 0 <| X_load xkR 1 <| X_getf 3 6 <| X_putf xkI 3 6 <| X_load xkR 0 <| X_getf 3 0 <| X_load xkR 0 <| X_getf 3 1 <| X_load xkR 0 <| X_getf 3 5 <| X_push (.inl 0) <| X_max <| X_jump 54
noncomputable def B_136_54 : XK := X_ibin x_iadd xg_add <| X_push (.inl 90) <| X_load xkR 0 <| X_getf 3 5 <| X_push (.inl 0) <| X_max <| X_jump 65
noncomputable def B_136_65 : XK := X_ibin x_isub xg_sub <| X_callV 10 118 3 69
noncomputable def B_136_69 : XK := X_push (.inl 0) <| X_store xkI 2 <| X_jump 71
noncomputable def B_136_71 : XK := X_load xkI 2 <| X_push (.inl 4) <| X_if2 p2_ge d_ge 110 <| X_load xkR 0 <| X_load xkI 2 <| X_callV 3 102 2 81
noncomputable def B_136_81 : XK := X_store xkR 3 <| X_load xkR 1 <| X_load xkI 2 <| X_callV 3 102 2 87
noncomputable def B_136_87 : XK := X_store xkR 4 <| X_load xkR 3 <| X_ifr p_eq 104 <| X_load xkR 4 <| X_ifr p_eq 104 <| X_load xkR 3 <| X_load xkR 4 <| X_callV 0 107 2 104
noncomputable def B_136_104 : XK := X_iinc 2 1 <| X_jump 71
noncomputable def B_136_110 : XK := X_vret
noncomputable def T_136 : Nat → Option XK := fun pc => (cond (Nat.blt pc 69) (cond (Nat.blt pc 22) (cond (Nat.blt pc 19) (cond (Nat.beq pc 0) (some B_136_0) none) (cond (Nat.beq pc 19) (some B_136_19) none)) (cond (Nat.blt pc 54) (cond (Nat.beq pc 22) (some B_136_22) none) (cond (Nat.blt pc 65) (cond (Nat.beq pc 54) (some B_136_54) none) (cond (Nat.beq pc 65) (some B_136_65) none)))) (cond (Nat.blt pc 87) (cond (Nat.blt pc 71) (cond (Nat.beq pc 69) (some B_136_69) none) (cond (Nat.blt pc 81) (cond (Nat.beq pc 71) (some B_136_71) none) (cond (Nat.beq pc 81) (some B_136_81) none))) (cond (Nat.blt pc 104) (cond (Nat.beq pc 87) (some B_136_87) none) (cond (Nat.blt pc 110) (cond (Nat.beq pc 104) (some B_136_104) none) (cond (Nat.beq pc 110) (some B_136_110) none)))))
noncomputable def B_137_0 : XK := X_load xkR 0 <| X_getf 2 0 <| X_load xkR 0 <| X_getf 2 4 <| X_push (.inl 0) <| X_ibin x_iadd xg_add <| X_push (.inl 0) <| X_callV 10 117 3 14
noncomputable def B_137_14 : XK := X_load xkR 0 <| X_push (.inl 0) <| X_callV 2 187 2 19
noncomputable def B_137_19 : XK := X_load xkR 0 <| X_getf 2 1 <| X_callV 9 188 1 26
noncomputable def B_137_26 : XK := X_pop <| X_load xkR 0 <| X_getf 2 3 <| X_load xkR 0 <| X_getf 2 1 <| X_push (.inl 768) <| X_load xkL 1 <| X_callV 9 189 3 42
noncomputable def B_137_42 : XK := X_load xkR 0 <| X_getf 2 1 <| X_load xkI 3 <| X_load xkL 4 <| X_callV 9 189 3 52
noncomputable def B_137_52 : XK := X_callV 5 190 3 55
noncomputable def B_137_55 : XK := X_store xkI 8 <| X_load xkR 0 <| X_getf 2 0 <| X_load xkR 0 <| X_getf 2 4 <| X_push (.inl 0) <| X_ibin x_iadd xg_add <| X_load xkR 0 <| X_getf 2 0 <| X_load xkR 0 <| X_getf 2 3 <| X_load xkI 8 <| X_load xkR 0 <| X_getf 2 1 <| X_push (.inl 768) <| X_load xkL 6 <| X_callV 9 189 3 89
noncomputable def B_137_89 : XK := X_callV 5 190 3 92
noncomputable def B_137_92 : XK := X_callV 10 186 2 95
noncomputable def B_137_95 : XK := X_callV 10 117 3 98
noncomputable def B_137_98 : XK := X_load xkR 0 <| X_getf 2 1 <| X_callV 9 188 1 105
noncomputable def B_137_105 : XK := X_if p_eq d_eq 116 <| X_stop
noncomputable def B_137_116 : XK := X_vret
noncomputable def T_137 : Nat → Option XK := fun pc => (cond (Nat.blt pc 55) (cond (Nat.blt pc 26) (cond (Nat.blt pc 14) (cond (Nat.beq pc 0) (some B_137_0) none) (cond (Nat.blt pc 19) (cond (Nat.beq pc 14) (some B_137_14) none) (cond (Nat.beq pc 19) (some B_137_19) none))) (cond (Nat.blt pc 42) (cond (Nat.beq pc 26) (some B_137_26) none) (cond (Nat.blt pc 52) (cond (Nat.beq pc 42) (some B_137_42) none) (cond (Nat.beq pc 52) (some B_137_52) none)))) (cond (Nat.blt pc 95) (cond (Nat.blt pc 89) (cond (Nat.beq pc 55) (some B_137_55) none) (cond (Nat.blt pc 92) (cond (Nat.beq pc 89) (some B_137_89) none) (cond (Nat.beq pc 92) (some B_137_92) none))) (cond (Nat.blt pc 105) (cond (Nat.blt pc 98) (cond (Nat.beq pc 95) (some B_137_95) none) (cond (Nat.beq pc 98) (some B_137_98) none)) (cond (Nat.blt pc 116) (cond (Nat.beq pc 105) (some B_137_105) none) (cond (Nat.beq pc 116) (some B_137_116) none)))))
noncomputable def B_138_0 : XK := X_load xkI 1 <| X_callS 191 1 4
noncomputable def B_138_4 : XK := X_if p_ne d_ne 9 <| X_push (.inr (.inl 0)) <| X_ret xkL
noncomputable def B_138_9 : XK := X_load xkR 0 <| X_getf 10 5 <| X_load xkI 1 <| X_ald xt1 <| X_push (.inr (.inl 18446744073709551615)) <| X_lcif pL_eq d_eq 35 <| X_load xkR 0 <| X_getf 10 6 <| X_load xkI 1 <| X_ald xt1 <| X_push (.inr (.inl 18446744073709551615)) <| X_lcif pL_ne d_ne 41 <| X_jump 35
noncomputable def B_138_41 : XK := X_load xkR 0 <| X_getf 10 6 <| X_load xkI 1 <| X_ald xt1 <| X_load xkR 0 <| X_getf 10 5 <| X_load xkI 1 <| X_ald xt1 <| X_lbin x_lsub xgn <| X_jump 54
noncomputable def B_138_54 : XK := X_ret xkL
noncomputable def T_138 : Nat → Option XK := fun pc => (cond (Nat.blt pc 9) (cond (Nat.blt pc 4) (cond (Nat.beq pc 0) (some B_138_0) none) (cond (Nat.beq pc 4) (some B_138_4) none)) (cond (Nat.blt pc 41) (cond (Nat.beq pc 9) (some B_138_9) none) (cond (Nat.blt pc 54) (cond (Nat.beq pc 41) (some B_138_41) none) (cond (Nat.beq pc 54) (some B_138_54) none))))
noncomputable def B_139_0 : XK := X_load xkR 0 <| X_push (.inl 4) <| X_load xkI 2 <| X_ibin x_iadd xg_add <| X_load xkI 1 <| X_callV 8 124 3 8
noncomputable def B_139_8 : XK := X_l2i <| X_ret xkI
noncomputable def T_139 : Nat → Option XK := fun pc => (cond (Nat.blt pc 8) (cond (Nat.beq pc 0) (some B_139_0) none) (cond (Nat.beq pc 8) (some B_139_8) none))
noncomputable def B_140_0 : XK := X_push (.inl 0) <| X_store xkI 1 <| X_jump 2
noncomputable def B_140_2 : XK := X_load xkI 1 <| X_push (.inl 4) <| X_if2 p2_ge d_ge 43 <| X_load xkR 0 <| X_load xkI 1 <| X_callV 3 102 2 12
noncomputable def B_140_12 : XK := X_store xkR 2 <| X_load xkR 2 <| X_ifr p_eq 37 <| X_load xkR 2 <| X_callV 0 144 1 21
noncomputable def B_140_21 : XK := X_if p_ne d_ne 35 <| X_load xkR 2 <| X_getf 0 8 <| X_load xkR 0 <| X_getf 3 5 <| X_if2 p2_ge d_ge 37 <| X_jump 35
noncomputable def B_140_37 : XK := X_iinc 1 1 <| X_jump 2
noncomputable def B_140_43 : XK := X_push (.inl 1) <| X_ret xk01
noncomputable def T_140 : Nat → Option XK := fun pc => (cond (Nat.blt pc 21) (cond (Nat.blt pc 2) (cond (Nat.beq pc 0) (some B_140_0) none) (cond (Nat.blt pc 12) (cond (Nat.beq pc 2) (some B_140_2) none) (cond (Nat.beq pc 12) (some B_140_12) none))) (cond (Nat.blt pc 37) (cond (Nat.beq pc 21) (some B_140_21) none) (cond (Nat.blt pc 43) (cond (Nat.beq pc 37) (some B_140_37) none) (cond (Nat.beq pc 43) (some B_140_43) none))))
noncomputable def B_141_0 : XK := X_load xkR 0 <| X_load xkI 1 <| X_callV 0 125 2 5
noncomputable def B_141_5 : XK := X_push (.inl 1) <| X_if2 p2_ge d_ge 12 <| X_push (.inl 4294967291) <| X_ret xkI
noncomputable def B_141_12 : XK := X_load xkR 0 <| X_load xkR 0 <| X_load xkI 1 <| X_callV 0 105 2 18
noncomputable def B_141_18 : XK := X_callV 0 192 2 21
noncomputable def B_141_21 : XK := X_if p_eq d_eq 29 <| X_stop
noncomputable def B_141_29 : XK := X_push (.inl 0) <| X_jump 30
noncomputable def B_141_30 : XK := X_ret xkI
noncomputable def T_141 : Nat → Option XK := fun pc => (cond (Nat.blt pc 18) (cond (Nat.blt pc 5) (cond (Nat.beq pc 0) (some B_141_0) none) (cond (Nat.blt pc 12) (cond (Nat.beq pc 5) (some B_141_5) none) (cond (Nat.beq pc 12) (some B_141_12) none))) (cond (Nat.blt pc 29) (cond (Nat.blt pc 21) (cond (Nat.beq pc 18) (some B_141_18) none) (cond (Nat.beq pc 21) (some B_141_21) none)) (cond (Nat.blt pc 30) (cond (Nat.beq pc 29) (some B_141_29) none) (cond (Nat.beq pc 30) (some B_141_30) none))))
noncomputable def B_142_0 : XK := X_load xkR 0 <| X_load xkI 1 <| X_putf xkI 6 1 <| X_load xkR 0 <| X_load xkI 2 <| X_i2l <| X_putf xkL 6 2 <| X_load xkR 0 <| X_getf 6 0 <| X_push (.inr (.inl 0)) <| X_callS 193 2 19
noncomputable def B_142_19 : XK := X_vret
noncomputable def T_142 : Nat → Option XK := fun pc => (cond (Nat.blt pc 19) (cond (Nat.beq pc 0) (some B_142_0) none) (cond (Nat.beq pc 19) (some B_142_19) none))
noncomputable def B_143_0 : XK := X_load xkR 0 <| X_getf 6 1 <| X_if p_lt d_lt 19 <| X_stop
noncomputable def B_143_19 : XK := X_push (.inl 0) <| X_jump 20
noncomputable def B_143_20 : XK := X_ret xk01
noncomputable def T_143 : Nat → Option XK := fun pc => (cond (Nat.blt pc 19) (cond (Nat.beq pc 0) (some B_143_0) none) (cond (Nat.blt pc 20) (cond (Nat.beq pc 19) (some B_143_19) none) (cond (Nat.beq pc 20) (some B_143_20) none)))
noncomputable def B_144_0 : XK := X_load xkR 0 <| X_getf 0 5 <| X_if p_eq d_eq 18 <| X_load xkR 0 <| X_getf 0 6 <| X_if p_ne d_ne 18 <| X_push (.inl 1) <| X_jump 19
noncomputable def B_144_18 : XK := X_push (.inl 0) <| X_jump 19
noncomputable def B_144_19 : XK := X_ret xk01
noncomputable def T_144 : Nat → Option XK := fun pc => (cond (Nat.blt pc 18) (cond (Nat.beq pc 0) (some B_144_0) none) (cond (Nat.blt pc 19) (cond (Nat.beq pc 18) (some B_144_18) none) (cond (Nat.beq pc 19) (some B_144_19) none)))
noncomputable def B_145_0 : XK := X_load xkR 0 <| X_push (.inl 4294967295) <| X_putf xkI 6 1 <| X_load xkR 0 <| X_push (.inr (.inl 0)) <| X_putf xkL 6 2 <| X_vret
noncomputable def T_145 : Nat → Option XK := fun pc => (cond (Nat.beq pc 0) (some B_145_0) none)
noncomputable def B_146_0 : XK := X_push (.inl 0) <| X_store xkI 1 <| X_push (.inl 0) <| X_store xkI 2 <| X_jump 4
noncomputable def B_146_4 : XK := X_load xkI 2 <| X_push (.inl 4) <| X_if2 p2_ge d_ge 143 <| X_load xkR 0 <| X_getf 11 4 <| X_push (.inl 4) <| X_load xkR 0 <| X_getf 11 10 <| X_push (.inl 4) <| X_callV 3 103 2 22
noncomputable def B_146_22 : XK := X_push (.inl 0) <| X_callV 2 177 4 26
noncomputable def B_146_26 : XK := X_store xkI 3 <| X_load xkR 0 <| X_getf 11 1 <| X_load xkR 0 <| X_getf 11 4 <| X_getf 2 4 <| X_push (.inl 4) <| X_ibin x_iadd xg_add <| X_load xkI 3 <| X_callV 10 117 3 44
noncomputable def B_146_44 : XK := X_load xkR 0 <| X_getf 11 4 <| X_push (.inl 4) <| X_load xkR 0 <| X_getf 11 10 <| X_load xkI 2 <| X_callV 3 103 2 57
noncomputable def B_146_57 : XK := X_push (.inl 0) <| X_callV 2 177 4 61
noncomputable def B_146_61 : XK := X_store xkI 4 <| X_load xkR 0 <| X_getf 11 1 <| X_load xkI 3 <| X_callV 10 183 2 71
noncomputable def B_146_71 : XK := X_if p_eq d_eq 90 <| X_load xkR 0 <| X_getf 11 1 <| X_load xkI 4 <| X_callV 10 183 2 83
noncomputable def B_146_83 : XK := X_if p_eq d_eq 90 <| X_push (.inl 1) <| X_jump 91
noncomputable def B_146_91 : XK := X_store xkI 5 <| X_load xkI 5 <| X_if p_eq d_eq 121 <| X_load xkR 0 <| X_getf 11 1 <| X_load xkI 3 <| X_callV 10 184 2 106
noncomputable def B_146_106 : XK := X_load xkR 0 <| X_getf 11 1 <| X_load xkI 4 <| X_callV 10 184 2 115
noncomputable def B_146_115 : XK := X_if2 p2_ne d_ne 137 <| X_jump 134
noncomputable def B_146_134 : XK := X_iinc 1 1 <| X_jump 137
noncomputable def B_146_137 : XK := X_iinc 2 1 <| X_jump 4
noncomputable def B_146_143 : XK := X_load xkR 0 <| X_getf 11 1 <| X_load xkR 0 <| X_getf 11 4 <| X_getf 2 4 <| X_push (.inl 6) <| X_callV 10 118 3 159
noncomputable def B_146_159 : XK := X_load xkI 1 <| X_ret xkI
noncomputable def T_146 : Nat → Option XK := fun pc => (cond (Nat.blt pc 83) (cond (Nat.blt pc 44) (cond (Nat.blt pc 22) (cond (Nat.blt pc 4) (cond (Nat.beq pc 0) (some B_146_0) none) (cond (Nat.beq pc 4) (some B_146_4) none)) (cond (Nat.blt pc 26) (cond (Nat.beq pc 22) (some B_146_22) none) (cond (Nat.beq pc 26) (some B_146_26) none))) (cond (Nat.blt pc 61) (cond (Nat.blt pc 57) (cond (Nat.beq pc 44) (some B_146_44) none) (cond (Nat.beq pc 57) (some B_146_57) none)) (cond (Nat.blt pc 71) (cond (Nat.beq pc 61) (some B_146_61) none) (cond (Nat.beq pc 71) (some B_146_71) none)))) (cond (Nat.blt pc 134) (cond (Nat.blt pc 106) (cond (Nat.blt pc 91) (cond (Nat.beq pc 83) (some B_146_83) none) (cond (Nat.beq pc 91) (some B_146_91) none)) (cond (Nat.blt pc 115) (cond (Nat.beq pc 106) (some B_146_106) none) (cond (Nat.beq pc 115) (some B_146_115) none))) (cond (Nat.blt pc 143) (cond (Nat.blt pc 137) (cond (Nat.beq pc 134) (some B_146_134) none) (cond (Nat.beq pc 137) (some B_146_137) none)) (cond (Nat.blt pc 159) (cond (Nat.beq pc 143) (some B_146_143) none) (cond (Nat.beq pc 159) (some B_146_159) none)))))
noncomputable def B_147_0 : XK := X_push (.inl 0) <| X_store xkI 1 <| X_push (.inl 0) <| X_store xkI 2 <| X_jump 4
noncomputable def B_147_4 : XK := X_load xkI 2 <| X_load xkR 0 <| X_getf 11 7 <| X_alen <| X_if2 p2_ge d_ge 31 <| X_load xkR 0 <| X_getf 11 7 <| X_load xkI 2 <| X_ald xt2 <| X_if p_eq d_eq 25 <| X_stop
noncomputable def B_147_25 : XK := X_iinc 2 1 <| X_jump 4
noncomputable def B_147_31 : XK := X_load xkI 1 <| X_ret xkI
noncomputable def T_147 : Nat → Option XK := fun pc => (cond (Nat.blt pc 25) (cond (Nat.blt pc 4) (cond (Nat.beq pc 0) (some B_147_0) none) (cond (Nat.beq pc 4) (some B_147_4) none)) (cond (Nat.blt pc 31) (cond (Nat.beq pc 25) (some B_147_25) none) (cond (Nat.beq pc 31) (some B_147_31) none)))
noncomputable def B_148_0 : XK := X_push (.inr (.inl 0)) <| X_lstore 1 <| X_push (.inl 0) <| X_store xkI 3 <| X_jump 4
noncomputable def B_148_4 : XK := X_load xkI 3 <| X_push (.inl 4) <| X_if2 p2_gt d_gt 90 <| X_load xkR 0 <| X_getf 11 10 <| X_load xkI 3 <| X_callV 3 103 2 17
noncomputable def B_148_17 : XK := X_store xkI 4 <| X_load xkR 0 <| X_getf 11 1 <| X_load xkI 4 <| X_callV 10 138 2 28
noncomputable def B_148_28 : XK := X_push (.inr (.inl 18446744073709551615)) <| X_lcif pL_ne d_ne 47 <| X_stop
noncomputable def B_148_47 : XK := X_load xkR 0 <| X_getf 11 1 <| X_load xkI 4 <| X_callV 10 138 2 56
noncomputable def B_148_56 : XK := X_push (.inr (.inl 18446744073709551615)) <| X_lcif pL_ne d_ne 72 <| X_stop
noncomputable def B_148_72 : XK := X_load xkL 1 <| X_load xkR 0 <| X_getf 11 1 <| X_load xkI 4 <| X_callV 10 138 2 82
noncomputable def B_148_82 : XK := X_lbin x_ladd xgn <| X_lstore 1 <| X_iinc 3 1 <| X_jump 4
noncomputable def B_148_90 : XK := X_load xkL 1 <| X_ret xkL
noncomputable def T_148 : Nat → Option XK := fun pc => (cond (Nat.blt pc 47) (cond (Nat.blt pc 17) (cond (Nat.blt pc 4) (cond (Nat.beq pc 0) (some B_148_0) none) (cond (Nat.beq pc 4) (some B_148_4) none)) (cond (Nat.blt pc 28) (cond (Nat.beq pc 17) (some B_148_17) none) (cond (Nat.beq pc 28) (some B_148_28) none))) (cond (Nat.blt pc 72) (cond (Nat.blt pc 56) (cond (Nat.beq pc 47) (some B_148_47) none) (cond (Nat.beq pc 56) (some B_148_56) none)) (cond (Nat.blt pc 82) (cond (Nat.beq pc 72) (some B_148_72) none) (cond (Nat.blt pc 90) (cond (Nat.beq pc 82) (some B_148_82) none) (cond (Nat.beq pc 90) (some B_148_90) none)))))
noncomputable def B_149_0 : XK := X_push (.inl 0) <| X_store xkI 1 <| X_push (.inl 0) <| X_store xkI 2 <| X_jump 4
noncomputable def B_149_4 : XK := X_load xkI 2 <| X_push (.inl 4) <| X_if2 p2_ge d_ge 35 <| X_load xkR 0 <| X_load xkI 2 <| X_callV 3 102 2 14
noncomputable def B_149_14 : XK := X_store xkR 3 <| X_load xkR 3 <| X_ifr p_eq 29 <| X_load xkR 3 <| X_getf 0 5 <| X_if p_eq d_eq 29 <| X_stop
noncomputable def B_149_29 : XK := X_iinc 2 1 <| X_jump 4
noncomputable def B_149_35 : XK := X_load xkI 1 <| X_ret xkI
noncomputable def T_149 : Nat → Option XK := fun pc => (cond (Nat.blt pc 14) (cond (Nat.blt pc 4) (cond (Nat.beq pc 0) (some B_149_0) none) (cond (Nat.beq pc 4) (some B_149_4) none)) (cond (Nat.blt pc 29) (cond (Nat.beq pc 14) (some B_149_14) none) (cond (Nat.blt pc 35) (cond (Nat.beq pc 29) (some B_149_29) none) (cond (Nat.beq pc 35) (some B_149_35) none))))
noncomputable def B_150_0 : XK := X_push (.inl 0) <| X_store xkI 1 <| X_push (.inl 0) <| X_store xkI 2 <| X_jump 4
noncomputable def B_150_4 : XK := X_load xkI 2 <| X_load xkR 0 <| X_getf 11 8 <| X_alen <| X_if2 p2_ge d_ge 43 <| X_load xkR 0 <| X_getf 11 8 <| X_load xkI 2 <| X_ald xt3 <| X_ifr p_eq 37 <| X_load xkR 0 <| X_getf 11 8 <| X_load xkI 2 <| X_ald xt3 <| X_callV 6 128 1 31
noncomputable def B_150_31 : XK := X_if p_ne d_ne 37 <| X_stop
noncomputable def B_150_37 : XK := X_iinc 2 1 <| X_jump 4
noncomputable def B_150_43 : XK := X_load xkI 1 <| X_ret xkI
noncomputable def T_150 : Nat → Option XK := fun pc => (cond (Nat.blt pc 31) (cond (Nat.blt pc 4) (cond (Nat.beq pc 0) (some B_150_0) none) (cond (Nat.beq pc 4) (some B_150_4) none)) (cond (Nat.blt pc 37) (cond (Nat.beq pc 31) (some B_150_31) none) (cond (Nat.blt pc 43) (cond (Nat.beq pc 37) (some B_150_37) none) (cond (Nat.beq pc 43) (some B_150_43) none))))
noncomputable def B_151_0 : XK := X_load xkI 1 <| X_lsw [(0, 28), (1, 33)] 38
noncomputable def B_151_28 : XK := X_load xkR 0 <| X_getf 0 5 <| X_ret xk01
noncomputable def B_151_33 : XK := X_load xkR 0 <| X_getf 0 7 <| X_ret xk01
noncomputable def B_151_38 : XK := X_load xkR 0 <| X_load xkI 1 <| X_push (.inl 2) <| X_ibin x_isub xg_sub <| X_callV 0 125 2 45
noncomputable def B_151_45 : XK := X_if p_le d_le 52 <| X_stop
noncomputable def B_151_52 : XK := X_push (.inl 0) <| X_jump 53
noncomputable def B_151_53 : XK := X_ret xk01
noncomputable def T_151 : Nat → Option XK := fun pc => (cond (Nat.blt pc 38) (cond (Nat.blt pc 28) (cond (Nat.beq pc 0) (some B_151_0) none) (cond (Nat.blt pc 33) (cond (Nat.beq pc 28) (some B_151_28) none) (cond (Nat.beq pc 33) (some B_151_33) none))) (cond (Nat.blt pc 52) (cond (Nat.blt pc 45) (cond (Nat.beq pc 38) (some B_151_38) none) (cond (Nat.beq pc 45) (some B_151_45) none)) (cond (Nat.blt pc 53) (cond (Nat.beq pc 52) (some B_151_52) none) (cond (Nat.beq pc 53) (some B_151_53) none))))
noncomputable def B_152_0 : XK := X_load xkI 0 <| X_i2l <| X_push (.inr (.inl 0)) <| X_push (.inr (.inl 4)) <| X_callS 96 3 9
noncomputable def B_152_9 : XK := X_ret xk01
noncomputable def T_152 : Nat → Option XK := fun pc => (cond (Nat.blt pc 9) (cond (Nat.beq pc 0) (some B_152_0) none) (cond (Nat.beq pc 9) (some B_152_9) none))
noncomputable def B_153_0 : XK := X_push (.inl 0) <| X_store xkI 3 <| X_jump 2
noncomputable def B_153_2 : XK := X_load xkI 3 <| X_load xkR 0 <| X_getf 12 4 <| X_load xkI 1 <| X_ald xt0 <| X_load xkR 0 <| X_getf 12 4 <| X_load xkI 2 <| X_ald xt0 <| X_max <| X_jump 18
noncomputable def B_153_18 : XK := X_if2 p2_ge d_ge 68 <| X_stop
noncomputable def B_153_68 : XK := X_push (.inl 4294967295) <| X_ret xkI
noncomputable def T_153 : Nat → Option XK := fun pc => (cond (Nat.blt pc 18) (cond (Nat.blt pc 2) (cond (Nat.beq pc 0) (some B_153_0) none) (cond (Nat.beq pc 2) (some B_153_2) none)) (cond (Nat.blt pc 68) (cond (Nat.beq pc 18) (some B_153_18) none) (cond (Nat.beq pc 68) (some B_153_68) none)))
noncomputable def B_154_0 : XK := X_load xkI 0 <| X_i2l <| X_push (.inr (.inl 0)) <| X_push (.inr (.inl 11)) <| X_callS 96 3 9
noncomputable def B_154_9 : XK := X_ret xk01
noncomputable def T_154 : Nat → Option XK := fun pc => (cond (Nat.blt pc 9) (cond (Nat.beq pc 0) (some B_154_0) none) (cond (Nat.beq pc 9) (some B_154_9) none))
noncomputable def B_155_0 : XK := X_load xkR 0 <| X_getf 12 2 <| X_load xkI 1 <| X_ald xt2 <| X_ret xk01
noncomputable def T_155 : Nat → Option XK := fun pc => (cond (Nat.beq pc 0) (some B_155_0) none)
noncomputable def B_156_0 : XK := X_load xkI 0 <| X_i2l <| X_push (.inr (.inl 0)) <| X_push (.inr (.inl 3)) <| X_callS 96 3 9
noncomputable def B_156_9 : XK := X_ret xk01
noncomputable def T_156 : Nat → Option XK := fun pc => (cond (Nat.blt pc 9) (cond (Nat.beq pc 0) (some B_156_0) none) (cond (Nat.beq pc 9) (some B_156_9) none))
noncomputable def B_157_0 : XK := X_load xkR 0 <| X_getf 12 5 <| X_push (.inl 8) <| X_load xkI 1 <| X_ibin x_imul (xg0 x_imul) <| X_load xkI 2 <| X_ibin x_iadd xg_add <| X_ald xt0 <| X_ret xkI
noncomputable def T_157 : Nat → Option XK := fun pc => (cond (Nat.beq pc 0) (some B_157_0) none)
noncomputable def B_158_0 : XK := X_load xkI 0 <| X_i2l <| X_push (.inr (.inl 0)) <| X_push (.inr (.inl 7)) <| X_callS 96 3 9
noncomputable def B_158_9 : XK := X_ret xk01
noncomputable def T_158 : Nat → Option XK := fun pc => (cond (Nat.blt pc 9) (cond (Nat.beq pc 0) (some B_158_0) none) (cond (Nat.beq pc 9) (some B_158_9) none))
noncomputable def B_159_0 : XK := X_load xkI 1 <| X_callS 156 1 4
noncomputable def B_159_4 : XK := X_if p_eq d_eq 46 <| X_load xkI 3 <| X_push (.inl 1) <| X_if2 p2_lt d_lt 46 <| X_load xkI 2 <| X_i2l <| X_push (.inr (.inl 0)) <| X_load xkR 0 <| X_getf 12 4 <| X_load xkI 1 <| X_ald xt0 <| X_push (.inl 1) <| X_ibin x_isub xg_sub <| X_i2l <| X_callS 96 3 27
noncomputable def B_159_27 : XK := X_if p_eq d_eq 46 <| X_stop
noncomputable def B_159_46 : XK := X_push (.inl 0) <| X_jump 47
noncomputable def B_159_47 : XK := X_ret xk01
noncomputable def T_159 : Nat → Option XK := fun pc => (cond (Nat.blt pc 27) (cond (Nat.blt pc 4) (cond (Nat.beq pc 0) (some B_159_0) none) (cond (Nat.beq pc 4) (some B_159_4) none)) (cond (Nat.blt pc 46) (cond (Nat.beq pc 27) (some B_159_27) none) (cond (Nat.blt pc 47) (cond (Nat.beq pc 46) (some B_159_46) none) (cond (Nat.beq pc 47) (some B_159_47) none))))
noncomputable def B_160_0 : XK := X_load xkR 0 <| X_load xkR 0 <| X_getf 12 14 <| X_callV 12 194 2 8
noncomputable def B_160_8 : XK := X_store xkI 1 <| X_load xkI 1 <| X_push (.inl 61) <| X_if2 p2_eq d_eq 41 <| X_load xkI 1 <| X_push (.inl 45) <| X_if2 p2_eq d_eq 41 <| X_load xkI 1 <| X_push (.inl 43) <| X_if2 p2_eq d_eq 41 <| X_load xkI 1 <| X_push (.inl 94) <| X_if2 p2_eq d_eq 41 <| X_load xkI 1 <| X_push (.inl 95) <| X_if2 p2_eq d_eq 41 <| X_push (.inl 0) <| X_ret xk01
noncomputable def T_160 : Nat → Option XK := fun pc => (cond (Nat.blt pc 8) (cond (Nat.beq pc 0) (some B_160_0) none) (cond (Nat.beq pc 8) (some B_160_8) none))
noncomputable def B_161_0 : XK := X_load xkI 2 <| X_store xkI 5 <| X_jump 3
noncomputable def B_161_3 : XK := X_load xkI 5 <| X_load xkR 1 <| X_alen <| X_if2 p2_ge d_ge 55 <| X_load xkR 3 <| X_load xkI 5 <| X_load xkR 3 <| X_load xkI 5 <| X_ald xt3 <| X_load xkR 1 <| X_load xkI 5 <| X_ald xt0 <| X_callS 195 2 24
noncomputable def B_161_24 : XK := X_aast xok <| X_load xkR 0 <| X_load xkI 5 <| X_ald xt3 <| X_load xkR 3 <| X_load xkI 5 <| X_ald xt3 <| X_load xkR 1 <| X_load xkI 5 <| X_ald xt0 <| X_callS 162 3 40
noncomputable def B_161_40 : XK := X_load xkR 4 <| X_load xkI 5 <| X_load xkR 1 <| X_load xkI 5 <| X_ald xt0 <| X_ast xt0 xkI <| X_iinc 5 1 <| X_jump 3
noncomputable def B_161_55 : XK := X_vret
noncomputable def T_161 : Nat → Option XK := fun pc => (cond (Nat.blt pc 24) (cond (Nat.blt pc 3) (cond (Nat.beq pc 0) (some B_161_0) none) (cond (Nat.beq pc 3) (some B_161_3) none)) (cond (Nat.blt pc 40) (cond (Nat.beq pc 24) (some B_161_24) none) (cond (Nat.blt pc 55) (cond (Nat.beq pc 40) (some B_161_40) none) (cond (Nat.beq pc 55) (some B_161_55) none))))
noncomputable def B_162_0 : XK := X_push (.inl 0) <| X_store xkI 3 <| X_jump 2
noncomputable def B_162_2 : XK := X_load xkI 3 <| X_load xkI 2 <| X_if2 p2_ge d_ge 19 <| X_load xkR 1 <| X_load xkI 3 <| X_load xkR 0 <| X_load xkI 3 <| X_ald xt0 <| X_ast xt0 xkI <| X_iinc 3 1 <| X_jump 2
noncomputable def B_162_19 : XK := X_vret
noncomputable def T_162 : Nat → Option XK := fun pc => (cond (Nat.blt pc 2) (cond (Nat.beq pc 0) (some B_162_0) none) (cond (Nat.blt pc 19) (cond (Nat.beq pc 2) (some B_162_2) none) (cond (Nat.beq pc 19) (some B_162_19) none)))
noncomputable def B_163_0 : XK := X_load xkR 0 <| X_getf 12 10 <| X_push (.inl 0) <| X_push (.inl 0) <| X_ast xt0 xkI <| X_push (.inl 0) <| X_store xkI 4 <| X_jump 10
noncomputable def B_163_10 : XK := X_load xkI 4 <| X_load xkR 0 <| X_getf 12 4 <| X_load xkI 1 <| X_ald xt0 <| X_if2 p2_gt d_gt 57 <| X_load xkI 4 <| X_load xkI 2 <| X_if2 p2_ne d_ne 33 <| X_load xkR 0 <| X_push (.inl 0) <| X_load xkI 3 <| X_callV 12 196 3 33
noncomputable def B_163_33 : XK := X_load xkI 4 <| X_load xkR 0 <| X_getf 12 4 <| X_load xkI 1 <| X_ald xt0 <| X_if2 p2_ge d_ge 51 <| X_load xkR 0 <| X_push (.inl 0) <| X_push (.inl 2097152) <| X_callV 12 196 3 51
noncomputable def B_163_51 : XK := X_iinc 4 1 <| X_jump 10
noncomputable def B_163_57 : XK := X_load xkR 0 <| X_load xkI 1 <| X_push (.inl 4) <| X_push (.inl 1) <| X_callV 12 170 4 64
noncomputable def B_163_64 : XK := X_vret
noncomputable def T_163 : Nat → Option XK := fun pc => (cond (Nat.blt pc 51) (cond (Nat.blt pc 10) (cond (Nat.beq pc 0) (some B_163_0) none) (cond (Nat.blt pc 33) (cond (Nat.beq pc 10) (some B_163_10) none) (cond (Nat.beq pc 33) (some B_163_33) none))) (cond (Nat.blt pc 57) (cond (Nat.beq pc 51) (some B_163_51) none) (cond (Nat.blt pc 64) (cond (Nat.beq pc 57) (some B_163_57) none) (cond (Nat.beq pc 64) (some B_163_64) none))))
noncomputable def B_164_0 : XK := X_push (.inl 0) <| X_store xkI 1 <| X_jump 2
noncomputable def B_164_2 : XK := X_load xkI 1 <| X_push (.inl 4) <| X_if2 p2_ge d_ge 36 <| X_jump 7
noncomputable def B_164_7 : XK := X_load xkR 0 <| X_load xkI 1 <| X_push (.inl 0) <| X_callV 12 157 3 13
noncomputable def B_164_13 : XK := X_load xkR 0 <| X_getf 12 7 <| X_push (.inl 0) <| X_ald xt0 <| X_if2 p2_ge d_ge 30 <| X_stop
noncomputable def B_164_30 : XK := X_iinc 1 1 <| X_jump 2
noncomputable def B_164_36 : XK := X_vret
noncomputable def T_164 : Nat → Option XK := fun pc => (cond (Nat.blt pc 13) (cond (Nat.blt pc 2) (cond (Nat.beq pc 0) (some B_164_0) none) (cond (Nat.blt pc 7) (cond (Nat.beq pc 2) (some B_164_2) none) (cond (Nat.beq pc 7) (some B_164_7) none))) (cond (Nat.blt pc 30) (cond (Nat.beq pc 13) (some B_164_13) none) (cond (Nat.blt pc 36) (cond (Nat.beq pc 30) (some B_164_30) none) (cond (Nat.beq pc 36) (some B_164_36) none))))
noncomputable def B_165_0 : XK := X_push (.inl 0) <| X_store xkI 1 <| X_push (.inl 0) <| X_store xkI 2 <| X_jump 4
noncomputable def B_165_4 : XK := X_load xkI 2 <| X_push (.inl 4) <| X_if2 p2_ge d_ge 35 <| X_load xkI 1 <| X_if p_ne d_ne 23 <| X_load xkR 0 <| X_load xkI 2 <| X_push (.inl 1) <| X_callV 12 157 3 19
noncomputable def B_165_19 : XK := X_push (.inl 1) <| X_if2 p2_ne d_ne 27 <| X_jump 23
noncomputable def B_165_27 : XK := X_push (.inl 0) <| X_jump 28
noncomputable def B_165_28 : XK := X_store xkI 1 <| X_iinc 2 1 <| X_jump 4
noncomputable def B_165_35 : XK := X_load xkI 1 <| X_ret xk01
noncomputable def T_165 : Nat → Option XK := fun pc => (cond (Nat.blt pc 27) (cond (Nat.blt pc 4) (cond (Nat.beq pc 0) (some B_165_0) none) (cond (Nat.blt pc 19) (cond (Nat.beq pc 4) (some B_165_4) none) (cond (Nat.beq pc 19) (some B_165_19) none))) (cond (Nat.blt pc 28) (cond (Nat.beq pc 27) (some B_165_27) none) (cond (Nat.blt pc 35) (cond (Nat.beq pc 28) (some B_165_28) none) (cond (Nat.beq pc 35) (some B_165_35) none))))
noncomputable def B_166_0 : XK := X_load xkR 0 <| X_load xkI 1 <| X_load xkI 2 <| X_callV 12 157 3 6
noncomputable def B_166_6 : XK := X_store xkI 3 <| X_load xkI 3 <| X_if p_ne d_ne 14 <| X_push (.inl 4294967291) <| X_ret xkI
noncomputable def B_166_14 : XK := X_load xkR 0 <| X_push (.inl 0) <| X_load xkI 2 <| X_push (.inl 4) <| X_if2 p2_ne d_ne 26 <| X_push (.inl 24) <| X_jump 28
noncomputable def B_166_28 : XK := X_push (.inl 20) <| X_load xkI 1 <| X_ibin x_imul (xg0 x_imul) <| X_ibin x_iadd xg_add <| X_load xkI 3 <| X_ibin x_iadd xg_add <| X_push (.inl 1) <| X_ibin x_isub xg_sub <| X_callV 12 197 3 40
noncomputable def B_166_40 : XK := X_load xkR 0 <| X_load xkI 1 <| X_push (.inl 0) <| X_callV 12 198 3 46
noncomputable def B_166_46 : XK := X_if p_eq d_eq 52 <| X_stop
noncomputable def B_166_52 : XK := X_load xkR 0 <| X_getf 12 5 <| X_push (.inl 8) <| X_load xkI 1 <| X_ibin x_imul (xg0 x_imul) <| X_load xkI 2 <| X_ibin x_iadd xg_add <| X_load xkI 3 <| X_push (.inl 1) <| X_ibin x_isub xg_sub <| X_ast xt0 xkI <| X_load xkR 0 <| X_load xkI 1 <| X_push (.inl 9) <| X_load xkI 2 <| X_ibin x_isub xg_sub <| X_push (.inl 0) <| X_callV 12 170 4 76
noncomputable def B_166_76 : XK := X_push (.inl 0) <| X_ret xkI
noncomputable def T_166 : Nat → Option XK := fun pc => (cond (Nat.blt pc 40) (cond (Nat.blt pc 14) (cond (Nat.blt pc 6) (cond (Nat.beq pc 0) (some B_166_0) none) (cond (Nat.beq pc 6) (some B_166_6) none)) (cond (Nat.blt pc 28) (cond (Nat.beq pc 14) (some B_166_14) none) (cond (Nat.beq pc 28) (some B_166_28) none))) (cond (Nat.blt pc 52) (cond (Nat.blt pc 46) (cond (Nat.beq pc 40) (some B_166_40) none) (cond (Nat.beq pc 46) (some B_166_46) none)) (cond (Nat.blt pc 76) (cond (Nat.beq pc 52) (some B_166_52) none) (cond (Nat.beq pc 76) (some B_166_76) none))))
noncomputable def B_167_0 : XK := X_load xkR 0 <| X_oinit <| X_jump 4
noncomputable def B_167_4 : XK := X_load xkR 0 <| X_push (.inl 2048) <| X_newa 0 <| X_putf xkR 1 2 <| X_load xkR 0 <| X_push (.inl 2048) <| X_newa 1 <| X_putf xkR 1 3 <| X_load xkR 0 <| X_push (.inl 2048) <| X_newa 0 <| X_putf xkR 1 4 <| X_load xkR 0 <| X_push (.inl 512) <| X_newa 0 <| X_putf xkR 1 6 <| X_load xkR 0 <| X_load xkR 1 <| X_putf xkR 1 0 <| X_load xkR 0 <| X_load xkI 2 <| X_putf xk01 1 1 <| X_vret
noncomputable def T_167 : Nat → Option XK := fun pc => (cond (Nat.blt pc 4) (cond (Nat.beq pc 0) (some B_167_0) none) (cond (Nat.beq pc 4) (some B_167_4) none))
noncomputable def B_168_0 : XK := X_load xkR 0 <| X_oinit <| X_jump 4
noncomputable def B_168_4 : XK := X_load xkR 0 <| X_push (.inl 4096) <| X_newa 0 <| X_putf xkR 5 4 <| X_load xkR 0 <| X_push (.inl 4096) <| X_newa 1 <| X_putf xkR 5 5 <| X_load xkR 0 <| X_push (.inl 4096) <| X_newa 0 <| X_putf xkR 5 6 <| X_load xkR 0 <| X_push (.inl 2048) <| X_putf xkI 5 7 <| X_load xkR 0 <| X_load xkR 1 <| X_putf xkR 5 0 <| X_load xkR 0 <| X_new 1 [.inr (.inr (.inl 0)), .inl 0, .inr (.inr (.inl 0)), .inr (.inr (.inl 0)), .inr (.inr (.inl 0)), .inl 0, .inr (.inr (.inl 0)), .inl 0, .inl 0] 9 <| X_dup <| X_load xkR 1 <| X_push (.inl 1) <| X_callI 167 3 53
noncomputable def B_168_53 : XK := X_putf xkR 5 1 <| X_load xkR 0 <| X_new 1 [.inr (.inr (.inl 0)), .inl 0, .inr (.inr (.inl 0)), .inr (.inr (.inl 0)), .inr (.inr (.inl 0)), .inl 0, .inr (.inr (.inl 0)), .inl 0, .inl 0] 9 <| X_dup <| X_load xkR 1 <| X_push (.inl 0) <| X_callI 167 3 66
noncomputable def B_168_66 : XK := X_putf xkR 5 2 <| X_load xkR 0 <| X_new 1 [.inr (.inr (.inl 0)), .inl 0, .inr (.inr (.inl 0)), .inr (.inr (.inl 0)), .inr (.inr (.inl 0)), .inl 0, .inr (.inr (.inl 0)), .inl 0, .inl 0] 9 <| X_dup <| X_load xkR 1 <| X_push (.inl 1) <| X_callI 167 3 79
noncomputable def B_168_79 : XK := X_putf xkR 5 3 <| X_vret
noncomputable def T_168 : Nat → Option XK := fun pc => (cond (Nat.blt pc 53) (cond (Nat.blt pc 4) (cond (Nat.beq pc 0) (some B_168_0) none) (cond (Nat.beq pc 4) (some B_168_4) none)) (cond (Nat.blt pc 66) (cond (Nat.beq pc 53) (some B_168_53) none) (cond (Nat.blt pc 79) (cond (Nat.beq pc 66) (some B_168_66) none) (cond (Nat.beq pc 79) (some B_168_79) none))))
noncomputable def B_169_0 : XK := X_load xkR 0 <| X_getf 12 10 <| X_push (.inl 0) <| X_push (.inl 0) <| X_ast xt0 xkI <| X_push (.inl 0) <| X_store xkI 5 <| X_jump 10
noncomputable def B_169_10 : XK := X_load xkI 5 <| X_load xkR 0 <| X_getf 12 4 <| X_load xkI 1 <| X_ald xt0 <| X_if2 p2_ge d_ge 53 <| X_load xkR 0 <| X_push (.inl 0) <| X_load xkI 5 <| X_load xkI 2 <| X_if2 p2_lt d_lt 42 <| X_load xkI 5 <| X_load xkI 2 <| X_load xkI 3 <| X_ibin x_iadd xg_add <| X_if2 p2_ge d_ge 42 <| X_load xkI 4 <| X_jump 44
noncomputable def B_169_42 : XK := X_push (.inl 2097152) <| X_jump 44
noncomputable def B_169_44 : XK := X_callV 12 196 3 47
noncomputable def B_169_47 : XK := X_iinc 5 1 <| X_jump 10
noncomputable def B_169_53 : XK := X_vret
noncomputable def T_169 : Nat → Option XK := fun pc => (cond (Nat.blt pc 44) (cond (Nat.blt pc 10) (cond (Nat.beq pc 0) (some B_169_0) none) (cond (Nat.blt pc 42) (cond (Nat.beq pc 10) (some B_169_10) none) (cond (Nat.beq pc 42) (some B_169_42) none))) (cond (Nat.blt pc 47) (cond (Nat.beq pc 44) (some B_169_44) none) (cond (Nat.blt pc 53) (cond (Nat.beq pc 47) (some B_169_47) none) (cond (Nat.beq pc 53) (some B_169_53) none))))
noncomputable def B_170_0 : XK := X_load xkR 0 <| X_push (.inl 0) <| X_load xkI 1 <| X_push (.inl 1) <| X_callV 12 199 4 7
noncomputable def B_170_7 : XK := X_load xkR 0 <| X_load xkI 1 <| X_push (.inl 0) <| X_callV 12 200 3 13
noncomputable def B_170_13 : XK := X_load xkR 0 <| X_load xkI 1 <| X_push (.inl 0) <| X_push (.inl 1) <| X_callV 12 201 4 20
noncomputable def B_170_20 : XK := X_load xkR 0 <| X_load xkI 1 <| X_load xkI 2 <| X_push (.inl 1) <| X_callV 12 202 4 27
noncomputable def B_170_27 : XK := X_load xkI 3 <| X_if p_eq d_eq 43 <| X_load xkR 0 <| X_getf 12 5 <| X_push (.inl 8) <| X_load xkI 1 <| X_ibin x_imul (xg0 x_imul) <| X_push (.inl 5) <| X_ibin x_iadd xg_add <| X_push (.inl 0) <| X_ast xt0 xkI <| X_jump 43
noncomputable def B_170_43 : XK := X_load xkR 0 <| X_load xkI 1 <| X_push (.inl 1) <| X_callV 12 157 3 49
noncomputable def B_170_49 : XK := X_if p_ne d_ne 102 <| X_load xkR 0 <| X_push (.inl 16) <| X_load xkI 1 <| X_ibin x_iadd xg_add <| X_push (.inl 0) <| X_callV 12 203 3 61
noncomputable def B_170_61 : XK := X_load xkR 0 <| X_push (.inl 12) <| X_load xkI 1 <| X_ibin x_iadd xg_add <| X_push (.inl 0) <| X_callV 12 203 3 70
noncomputable def B_170_70 : XK := X_load xkR 0 <| X_getf 12 5 <| X_push (.inl 8) <| X_load xkI 1 <| X_ibin x_imul (xg0 x_imul) <| X_push (.inl 1) <| X_ibin x_iadd xg_add <| X_push (.inl 1) <| X_ast xt0 xkI <| X_load xkR 0 <| X_getf 12 5 <| X_push (.inl 8) <| X_load xkI 1 <| X_ibin x_imul (xg0 x_imul) <| X_push (.inl 2) <| X_ibin x_iadd xg_add <| X_load xkR 0 <| X_load xkI 1 <| X_push (.inl 0) <| X_callV 12 157 3 98
noncomputable def B_170_98 : XK := X_ast xt0 xkI <| X_jump 160
noncomputable def B_170_102 : XK := X_load xkR 0 <| X_load xkI 1 <| X_push (.inl 3) <| X_callV 12 157 3 108
noncomputable def B_170_108 : XK := X_if p_ne d_ne 135 <| X_load xkR 0 <| X_push (.inl 20) <| X_load xkI 1 <| X_ibin x_iadd xg_add <| X_push (.inl 0) <| X_callV 12 203 3 120
noncomputable def B_170_120 : XK := X_load xkR 0 <| X_getf 12 5 <| X_push (.inl 8) <| X_load xkI 1 <| X_ibin x_imul (xg0 x_imul) <| X_push (.inl 3) <| X_ibin x_iadd xg_add <| X_push (.inl 1) <| X_ast xt0 xkI <| X_jump 160
noncomputable def B_170_135 : XK := X_load xkR 0 <| X_push (.inl 1) <| X_push (.inl 20) <| X_load xkI 1 <| X_ibin x_iadd xg_add <| X_callV 12 197 3 144
noncomputable def B_170_144 : XK := X_load xkR 0 <| X_push (.inl 1) <| X_push (.inl 0) <| X_push (.inl 2) <| X_callV 12 204 4 151
noncomputable def B_170_151 : XK := X_load xkR 0 <| X_push (.inl 20) <| X_load xkI 1 <| X_ibin x_iadd xg_add <| X_push (.inl 2) <| X_callV 12 203 3 160
noncomputable def B_170_160 : XK := X_vret
noncomputable def T_170 : Nat → Option XK := fun pc => (cond (Nat.blt pc 70) (cond (Nat.blt pc 27) (cond (Nat.blt pc 13) (cond (Nat.blt pc 7) (cond (Nat.beq pc 0) (some B_170_0) none) (cond (Nat.beq pc 7) (some B_170_7) none)) (cond (Nat.blt pc 20) (cond (Nat.beq pc 13) (some B_170_13) none) (cond (Nat.beq pc 20) (some B_170_20) none))) (cond (Nat.blt pc 49) (cond (Nat.blt pc 43) (cond (Nat.beq pc 27) (some B_170_27) none) (cond (Nat.beq pc 43) (some B_170_43) none)) (cond (Nat.blt pc 61) (cond (Nat.beq pc 49) (some B_170_49) none) (cond (Nat.beq pc 61) (some B_170_61) none)))) (cond (Nat.blt pc 120) (cond (Nat.blt pc 102) (cond (Nat.blt pc 98) (cond (Nat.beq pc 70) (some B_170_70) none) (cond (Nat.beq pc 98) (some B_170_98) none)) (cond (Nat.blt pc 108) (cond (Nat.beq pc 102) (some B_170_102) none) (cond (Nat.beq pc 108) (some B_170_108) none))) (cond (Nat.blt pc 144) (cond (Nat.blt pc 135) (cond (Nat.beq pc 120) (some B_170_120) none) (cond (Nat.beq pc 135) (some B_170_135) none)) (cond (Nat.blt pc 151) (cond (Nat.beq pc 144) (some B_170_144) none) (cond (Nat.blt pc 160) (cond (Nat.beq pc 151) (some B_170_151) none) (cond (Nat.beq pc 160) (some B_170_160) none))))))
noncomputable def B_171_0 : XK := X_load xkR 0 <| X_push (.inl 0) <| X_push (.inl 12) <| X_load xkI 1 <| X_ibin x_iadd xg_add <| X_callV 12 197 3 9
noncomputable def B_171_9 : XK := X_load xkR 0 <| X_load xkI 1 <| X_push (.inl 2) <| X_callV 12 157 3 15
noncomputable def B_171_15 : XK := X_push (.inl 1) <| X_ibin x_iadd xg_add <| X_store xkI 2 <| X_jump 18
noncomputable def B_171_18 : XK := X_load xkI 2 <| X_load xkR 0 <| X_getf 12 7 <| X_push (.inl 0) <| X_ald xt0 <| X_if2 p2_gt d_gt 58 <| X_load xkR 0 <| X_push (.inl 1) <| X_push (.inl 184) <| X_load xkI 2 <| X_ibin x_iadd xg_add <| X_callV 12 197 3 38
noncomputable def B_171_38 : XK := X_load xkR 0 <| X_push (.inl 0) <| X_push (.inl 1) <| X_push (.inl 0) <| X_push (.inl 2) <| X_callV 12 205 5 46
noncomputable def B_171_46 : XK := X_load xkR 0 <| X_push (.inl 2) <| X_push (.inl 0) <| X_callV 12 206 3 52
noncomputable def B_171_52 : XK := X_iinc 2 1 <| X_jump 18
noncomputable def B_171_58 : XK := X_load xkR 0 <| X_push (.inl 4) <| X_push (.inl 0) <| X_callV 12 200 3 64
noncomputable def B_171_64 : XK := X_load xkR 0 <| X_getf 12 7 <| X_push (.inl 0) <| X_dup2 <| X_ald xt0 <| X_push (.inl 1) <| X_ibin x_iadd xg_add <| X_ast xt0 xkI <| X_load xkR 0 <| X_push (.inl 184) <| X_load xkR 0 <| X_getf 12 7 <| X_push (.inl 0) <| X_ald xt0 <| X_ibin x_iadd xg_add <| X_push (.inl 0) <| X_callV 12 203 3 89
noncomputable def B_171_89 : XK := X_load xkR 0 <| X_getf 12 6 <| X_load xkR 0 <| X_getf 12 7 <| X_push (.inl 0) <| X_ald xt0 <| X_load xkI 1 <| X_ast xt0 xkI <| X_load xkR 0 <| X_getf 12 5 <| X_push (.inl 8) <| X_load xkI 1 <| X_ibin x_imul (xg0 x_imul) <| X_push (.inl 1) <| X_ibin x_iadd xg_add <| X_push (.inl 2) <| X_ast xt0 xkI <| X_load xkR 0 <| X_getf 12 7 <| X_push (.inl 0) <| X_ald xt0 <| X_ret xkI
noncomputable def T_171 : Nat → Option XK := fun pc => (cond (Nat.blt pc 46) (cond (Nat.blt pc 15) (cond (Nat.blt pc 9) (cond (Nat.beq pc 0) (some B_171_0) none) (cond (Nat.beq pc 9) (some B_171_9) none)) (cond (Nat.blt pc 18) (cond (Nat.beq pc 15) (some B_171_15) none) (cond (Nat.blt pc 38) (cond (Nat.beq pc 18) (some B_171_18) none) (cond (Nat.beq pc 38) (some B_171_38) none)))) (cond (Nat.blt pc 58) (cond (Nat.blt pc 52) (cond (Nat.beq pc 46) (some B_171_46) none) (cond (Nat.beq pc 52) (some B_171_52) none)) (cond (Nat.blt pc 64) (cond (Nat.beq pc 58) (some B_171_58) none) (cond (Nat.blt pc 89) (cond (Nat.beq pc 64) (some B_171_64) none) (cond (Nat.beq pc 89) (some B_171_89) none)))))
noncomputable def B_172_0 : XK := X_load xkR 0 <| X_load xkI 1 <| X_push (.inl 0) <| X_callV 12 157 3 6
noncomputable def B_172_6 : XK := X_push (.inl 1) <| X_ibin x_iadd xg_add <| X_store xkI 2 <| X_load xkR 0 <| X_getf 12 5 <| X_push (.inl 8) <| X_load xkI 1 <| X_ibin x_imul (xg0 x_imul) <| X_load xkI 2 <| X_ast xt0 xkI <| X_load xkR 0 <| X_getf 12 6 <| X_load xkI 2 <| X_ald xt0 <| X_load xkI 1 <| X_if2 p2_ne d_ne 105 <| X_load xkR 0 <| X_getf 12 5 <| X_push (.inl 8) <| X_load xkI 1 <| X_ibin x_imul (xg0 x_imul) <| X_push (.inl 1) <| X_ibin x_iadd xg_add <| X_load xkR 0 <| X_load xkI 1 <| X_push (.inl 3) <| X_callV 12 157 3 45
noncomputable def B_172_45 : XK := X_ast xt0 xkI <| X_load xkR 0 <| X_load xkI 1 <| X_push (.inl 3) <| X_callV 12 157 3 52
noncomputable def B_172_52 : XK := X_push (.inl 1) <| X_if2 p2_ne d_ne 104 <| X_load xkR 0 <| X_push (.inl 20) <| X_load xkI 1 <| X_ibin x_iadd xg_add <| X_push (.inl 16) <| X_load xkI 1 <| X_ibin x_iadd xg_add <| X_callV 12 207 3 68
noncomputable def B_172_68 : XK := X_load xkR 0 <| X_push (.inl 20) <| X_load xkI 1 <| X_ibin x_iadd xg_add <| X_push (.inl 12) <| X_load xkI 1 <| X_ibin x_iadd xg_add <| X_callV 12 207 3 80
noncomputable def B_172_80 : XK := X_load xkR 0 <| X_getf 12 5 <| X_push (.inl 8) <| X_load xkI 1 <| X_ibin x_imul (xg0 x_imul) <| X_push (.inl 2) <| X_ibin x_iadd xg_add <| X_load xkI 2 <| X_ast xt0 xkI <| X_load xkR 0 <| X_getf 12 5 <| X_push (.inl 8) <| X_load xkI 1 <| X_ibin x_imul (xg0 x_imul) <| X_push (.inl 3) <| X_ibin x_iadd xg_add <| X_push (.inl 0) <| X_ast xt0 xkI <| X_jump 104
noncomputable def B_172_104 : XK := X_vret
noncomputable def B_172_105 : XK := X_load xkR 0 <| X_push (.inl 0) <| X_push (.inl 184) <| X_load xkI 2 <| X_ibin x_iadd xg_add <| X_callV 12 197 3 115
noncomputable def B_172_115 : XK := X_load xkR 0 <| X_load xkI 1 <| X_push (.inl 1) <| X_callV 12 157 3 121
noncomputable def B_172_121 : XK := X_if p_le d_le 132 <| X_load xkR 0 <| X_push (.inl 16) <| X_load xkI 1 <| X_ibin x_iadd xg_add <| X_callV 12 208 2 132
noncomputable def B_172_132 : XK := X_load xkR 0 <| X_load xkI 1 <| X_push (.inl 3) <| X_callV 12 157 3 138
noncomputable def B_172_138 : XK := X_if p_le d_le 149 <| X_load xkR 0 <| X_push (.inl 20) <| X_load xkI 1 <| X_ibin x_iadd xg_add <| X_callV 12 208 2 149
noncomputable def B_172_149 : XK := X_load xkR 0 <| X_load xkI 1 <| X_push (.inl 0) <| X_callV 12 200 3 155
noncomputable def B_172_155 : XK := X_load xkR 0 <| X_load xkI 1 <| X_push (.inl 0) <| X_push (.inl 0) <| X_callV 12 201 4 162
noncomputable def B_172_162 : XK := X_load xkR 0 <| X_push (.inl 275) <| X_push (.inl 0) <| X_callV 12 203 3 170
noncomputable def B_172_170 : XK := X_load xkR 0 <| X_load xkI 1 <| X_push (.inl 4) <| X_callV 12 157 3 176
noncomputable def B_172_176 : XK := X_push (.inl 1) <| X_ibin x_isub xg_sub <| X_store xkI 3 <| X_jump 179
noncomputable def B_172_179 : XK := X_load xkI 3 <| X_if p_lt d_lt 202 <| X_load xkR 0 <| X_push (.inl 24) <| X_push (.inl 20) <| X_load xkI 1 <| X_ibin x_imul (xg0 x_imul) <| X_ibin x_iadd xg_add <| X_load xkI 3 <| X_ibin x_iadd xg_add <| X_callV 12 208 2 196
noncomputable def B_172_196 : XK := X_iinc 3 4294967295 <| X_jump 179
noncomputable def B_172_202 : XK := X_load xkR 0 <| X_push (.inl 0) <| X_push (.inl 275) <| X_callV 12 197 3 210
noncomputable def B_172_210 : XK := X_load xkR 0 <| X_load xkI 1 <| X_push (.inl 5) <| X_callV 12 157 3 216
noncomputable def B_172_216 : XK := X_push (.inl 1) <| X_ibin x_isub xg_sub <| X_store xkI 3 <| X_jump 219
noncomputable def B_172_219 : XK := X_load xkI 3 <| X_if p_lt d_lt 242 <| X_stop
noncomputable def B_172_242 : XK := X_vret
noncomputable def T_172 : Nat → Option XK := fun pc => (cond (Nat.blt pc 149) (cond (Nat.blt pc 104) (cond (Nat.blt pc 52) (cond (Nat.blt pc 6) (cond (Nat.beq pc 0) (some B_172_0) none) (cond (Nat.blt pc 45) (cond (Nat.beq pc 6) (some B_172_6) none) (cond (Nat.beq pc 45) (some B_172_45) none))) (cond (Nat.blt pc 68) (cond (Nat.beq pc 52) (some B_172_52) none) (cond (Nat.blt pc 80) (cond (Nat.beq pc 68) (some B_172_68) none) (cond (Nat.beq pc 80) (some B_172_80) none)))) (cond (Nat.blt pc 121) (cond (Nat.blt pc 105) (cond (Nat.beq pc 104) (some B_172_104) none) (cond (Nat.blt pc 115) (cond (Nat.beq pc 105) (some B_172_105) none) (cond (Nat.beq pc 115) (some B_172_115) none))) (cond (Nat.blt pc 132) (cond (Nat.beq pc 121) (some B_172_121) none) (cond (Nat.blt pc 138) (cond (Nat.beq pc 132) (some B_172_132) none) (cond (Nat.beq pc 138) (some B_172_138) none))))) (cond (Nat.blt pc 196) (cond (Nat.blt pc 170) (cond (Nat.blt pc 155) (cond (Nat.beq pc 149) (some B_172_149) none) (cond (Nat.blt pc 162) (cond (Nat.beq pc 155) (some B_172_155) none) (cond (Nat.beq pc 162) (some B_172_162) none))) (cond (Nat.blt pc 176) (cond (Nat.beq pc 170) (some B_172_170) none) (cond (Nat.blt pc 179) (cond (Nat.beq pc 176) (some B_172_176) none) (cond (Nat.beq pc 179) (some B_172_179) none)))) (cond (Nat.blt pc 216) (cond (Nat.blt pc 202) (cond (Nat.beq pc 196) (some B_172_196) none) (cond (Nat.blt pc 210) (cond (Nat.beq pc 202) (some B_172_202) none) (cond (Nat.beq pc 210) (some B_172_210) none))) (cond (Nat.blt pc 219) (cond (Nat.beq pc 216) (some B_172_216) none) (cond (Nat.blt pc 242) (cond (Nat.beq pc 219) (some B_172_219) none) (cond (Nat.beq pc 242) (some B_172_242) none))))))
noncomputable def B_173_0 : XK := X_load xkR 0 <| X_getf 0 1 <| X_load xkR 0 <| X_getf 0 2 <| X_push (.inl 0) <| X_ibin x_iadd xg_add <| X_callV 10 132 2 13
noncomputable def B_173_13 : XK := X_ret xkI
noncomputable def T_173 : Nat → Option XK := fun pc => (cond (Nat.blt pc 13) (cond (Nat.beq pc 0) (some B_173_0) none) (cond (Nat.beq pc 13) (some B_173_13) none))
noncomputable def B_174_0 : XK := X_push (.inl 3) <| X_load xkI 0 <| X_push (.inl 20) <| X_ibin x_imul (xg0 x_imul) <| X_ibin x_iadd xg_add <| X_load xkI 1 <| X_ibin x_iadd xg_add <| X_ret xkI
noncomputable def T_174 : Nat → Option XK := fun pc => (cond (Nat.beq pc 0) (some B_174_0) none)
noncomputable def B_175_0 : XK := X_push (.inl 0) <| X_store xkI 4 <| X_jump 3
noncomputable def B_175_3 : XK := X_load xkI 4 <| X_load xkI 3 <| X_if2 p2_ge d_ge 31 <| X_load xkR 0 <| X_load xkI 1 <| X_load xkI 4 <| X_ibin x_iadd xg_add <| X_load xkR 0 <| X_load xkI 2 <| X_load xkI 4 <| X_ibin x_iadd xg_add <| X_callV 10 132 2 22
noncomputable def B_175_22 : XK := X_callV 10 117 3 25
noncomputable def B_175_25 : XK := X_iinc 4 1 <| X_jump 3
noncomputable def B_175_31 : XK := X_vret
noncomputable def T_175 : Nat → Option XK := fun pc => (cond (Nat.blt pc 22) (cond (Nat.blt pc 3) (cond (Nat.beq pc 0) (some B_175_0) none) (cond (Nat.beq pc 3) (some B_175_3) none)) (cond (Nat.blt pc 25) (cond (Nat.beq pc 22) (some B_175_22) none) (cond (Nat.blt pc 31) (cond (Nat.beq pc 25) (some B_175_25) none) (cond (Nat.beq pc 31) (some B_175_31) none))))
noncomputable def B_176_0 : XK := X_load xkR 0 <| X_load xkI 1 <| X_callV 0 125 2 5
noncomputable def B_176_5 : XK := X_push (.inl 1) <| X_ibin x_isub xg_sub <| X_store xkI 2 <| X_load xkI 2 <| X_if p_ge d_ge 13 <| X_stop
noncomputable def B_176_13 : XK := X_load xkR 0 <| X_getf 0 1 <| X_load xkR 0 <| X_getf 0 2 <| X_load xkI 1 <| X_load xkI 2 <| X_callS 174 2 26
noncomputable def B_176_26 : XK := X_ibin x_iadd xg_add <| X_push (.inl 0) <| X_callV 10 117 3 31
noncomputable def B_176_31 : XK := X_load xkR 0 <| X_load xkI 1 <| X_load xkI 2 <| X_callV 0 209 3 37
noncomputable def B_176_37 : XK := X_vret
noncomputable def T_176 : Nat → Option XK := fun pc => (cond (Nat.blt pc 26) (cond (Nat.blt pc 5) (cond (Nat.beq pc 0) (some B_176_0) none) (cond (Nat.blt pc 13) (cond (Nat.beq pc 5) (some B_176_5) none) (cond (Nat.beq pc 13) (some B_176_13) none))) (cond (Nat.blt pc 31) (cond (Nat.beq pc 26) (some B_176_26) none) (cond (Nat.blt pc 37) (cond (Nat.beq pc 31) (some B_176_31) none) (cond (Nat.beq pc 37) (some B_176_37) none))))
noncomputable def B_177_0 : XK := X_load xkI 1 <| X_push (.inl 4) <| X_if2 p2_ne d_ne 9 <| X_load xkI 2 <| X_jump 16
noncomputable def B_177_9 : XK := X_load xkR 0 <| X_load xkI 1 <| X_load xkI 2 <| X_load xkI 3 <| X_callV 2 210 4 16
noncomputable def B_177_16 : XK := X_store xkI 4 <| X_load xkR 0 <| X_getf 2 0 <| X_load xkR 0 <| X_getf 2 4 <| X_push (.inl 5) <| X_ibin x_iadd xg_add <| X_load xkI 4 <| X_callV 10 117 3 33
noncomputable def B_177_33 : XK := X_load xkR 0 <| X_getf 2 0 <| X_load xkI 4 <| X_callV 10 211 2 42
noncomputable def B_177_42 : XK := X_load xkR 0 <| X_push (.inl 0) <| X_putf xkI 2 10 <| X_load xkR 0 <| X_push (.inl 0) <| X_putf xkI 2 11 <| X_load xkR 0 <| X_push (.inl 0) <| X_putf xk01 2 12 <| X_load xkR 0 <| X_push (.inl 0) <| X_putf xkI 2 13 <| X_load xkR 0 <| X_getf 2 0 <| X_load xkI 4 <| X_callV 10 183 2 71
noncomputable def B_177_71 : XK := X_if p_ne d_ne 92 <| X_load xkR 0 <| X_getf 2 9 <| X_load xkR 0 <| X_dup <| X_getf 2 10 <| X_dupx1 <| X_push (.inl 1) <| X_ibin x_iadd xg_add <| X_putf xkI 2 10 <| X_load xkI 4 <| X_ast xt0 xkI <| X_jump 92
noncomputable def B_177_92 : XK := X_push (.inl 4294967295) <| X_store xkI 5 <| X_push (.inl 0) <| X_store xkI 6 <| X_jump 98
noncomputable def B_177_98 : XK := X_load xkI 6 <| X_push (.inl 268435456) <| X_if2 p2_ge d_ge 533 <| X_load xkR 0 <| X_getf 2 10 <| X_if p_le d_le 533 <| X_load xkR 0 <| X_load xkI 5 <| X_callV 2 187 2 118
noncomputable def B_177_118 : XK := X_load xkR 0 <| X_getf 2 9 <| X_load xkR 0 <| X_getf 2 10 <| X_push (.inl 1) <| X_ibin x_isub xg_sub <| X_ald xt0 <| X_store xkI 7 <| X_load xkR 0 <| X_getf 2 0 <| X_load xkI 7 <| X_callV 10 212 2 140
noncomputable def B_177_140 : XK := X_store xkI 8 <| X_load xkR 0 <| X_getf 2 11 <| X_push (.inl 1) <| X_ibin x_isub xg_sub <| X_push (.inl 5) <| X_ibin x_imul (xg0 x_imul) <| X_store xkI 9 <| X_load xkR 0 <| X_getf 2 1 <| X_callV 9 188 1 159
noncomputable def B_177_159 : XK := X_if p_eq d_eq 192 <| X_stop
noncomputable def B_177_192 : XK := X_load xkR 0 <| X_getf 2 11 <| X_if p_ne d_ne 257 <| X_load xkI 5 <| X_push (.inl 4294967295) <| X_if2 p2_ne d_ne 257 <| X_load xkR 0 <| X_load xkI 7 <| X_callV 2 213 2 211
noncomputable def B_177_211 : XK := X_if p_ne d_ne 217 <| X_jump 527
noncomputable def B_177_257 : XK := X_load xkR 0 <| X_getf 2 11 <| X_if p_ne d_ne 291 <| X_load xkR 0 <| X_getf 2 0 <| X_load xkI 7 <| X_load xkI 5 <| X_callV 10 214 3 275
noncomputable def B_177_275 : XK := X_push (.inl 4294967295) <| X_store xkI 5 <| X_load xkR 0 <| X_dup <| X_getf 2 10 <| X_push (.inl 1) <| X_ibin x_isub xg_sub <| X_putf xkI 2 10 <| X_jump 527
noncomputable def B_177_291 : XK := X_load xkI 5 <| X_push (.inl 4294967295) <| X_if2 p2_ne d_ne 425 <| X_load xkR 0 <| X_load xkI 8 <| X_load xkR 0 <| X_getf 2 5 <| X_load xkI 9 <| X_push (.inl 0) <| X_ibin x_iadd xg_add <| X_callS 215 2 311
noncomputable def B_177_311 : XK := X_load xkR 0 <| X_getf 2 5 <| X_load xkI 9 <| X_push (.inl 1) <| X_ibin x_iadd xg_add <| X_callS 215 2 322
noncomputable def B_177_322 : XK := X_callV 2 216 4 325
noncomputable def B_177_325 : XK := X_store xkI 5 <| X_load xkI 5 <| X_push (.inl 4294967295) <| X_if2 p2_ne d_ne 343 <| X_load xkR 0 <| X_load xkI 8 <| X_load xkI 9 <| X_callV 2 217 3 341
noncomputable def B_177_341 : XK := X_store xkI 5 <| X_jump 343
noncomputable def B_177_343 : XK := X_load xkI 5 <| X_push (.inl 4294967295) <| X_if2 p2_ne d_ne 395 <| X_load xkR 0 <| X_load xkI 8 <| X_load xkR 0 <| X_getf 2 5 <| X_load xkI 9 <| X_push (.inl 0) <| X_ibin x_iadd xg_add <| X_callS 215 2 363
noncomputable def B_177_363 : XK := X_load xkR 0 <| X_getf 2 5 <| X_load xkI 9 <| X_push (.inl 1) <| X_ibin x_iadd xg_add <| X_callS 215 2 374
noncomputable def B_177_374 : XK := X_callV 2 218 4 377
noncomputable def B_177_377 : XK := X_store xkI 5 <| X_load xkI 5 <| X_push (.inl 4294967295) <| X_if2 p2_eq d_eq 395 <| X_load xkR 0 <| X_load xkI 8 <| X_load xkI 9 <| X_load xkI 5 <| X_callV 2 219 4 395
noncomputable def B_177_395 : XK := X_load xkI 5 <| X_push (.inl 4294967295) <| X_if2 p2_ne d_ne 412 <| X_stop
noncomputable def B_177_412 : XK := X_load xkR 0 <| X_dup <| X_getf 2 11 <| X_push (.inl 1) <| X_ibin x_isub xg_sub <| X_putf xkI 2 11 <| X_jump 527
noncomputable def B_177_527 : XK := X_iinc 6 1 <| X_jump 98
noncomputable def B_177_533 : XK := X_load xkR 0 <| X_getf 2 10 <| X_if p_le d_le 571 <| X_stop
noncomputable def B_177_571 : XK := X_load xkR 0 <| X_push (.inl 0) <| X_putf xkI 2 11 <| X_load xkI 4 <| X_ret xkI
noncomputable def T_177 : Nat → Option XK := fun pc => (cond (Nat.blt pc 275) (cond (Nat.blt pc 98) (cond (Nat.blt pc 33) (cond (Nat.blt pc 9) (cond (Nat.beq pc 0) (some B_177_0) none) (cond (Nat.blt pc 16) (cond (Nat.beq pc 9) (some B_177_9) none) (cond (Nat.beq pc 16) (some B_177_16) none))) (cond (Nat.blt pc 71) (cond (Nat.blt pc 42) (cond (Nat.beq pc 33) (some B_177_33) none) (cond (Nat.beq pc 42) (some B_177_42) none)) (cond (Nat.blt pc 92) (cond (Nat.beq pc 71) (some B_177_71) none) (cond (Nat.beq pc 92) (some B_177_92) none)))) (cond (Nat.blt pc 159) (cond (Nat.blt pc 118) (cond (Nat.beq pc 98) (some B_177_98) none) (cond (Nat.blt pc 140) (cond (Nat.beq pc 118) (some B_177_118) none) (cond (Nat.beq pc 140) (some B_177_140) none))) (cond (Nat.blt pc 211) (cond (Nat.blt pc 192) (cond (Nat.beq pc 159) (some B_177_159) none) (cond (Nat.beq pc 192) (some B_177_192) none)) (cond (Nat.blt pc 257) (cond (Nat.beq pc 211) (some B_177_211) none) (cond (Nat.beq pc 257) (some B_177_257) none))))) (cond (Nat.blt pc 363) (cond (Nat.blt pc 322) (cond (Nat.blt pc 291) (cond (Nat.beq pc 275) (some B_177_275) none) (cond (Nat.blt pc 311) (cond (Nat.beq pc 291) (some B_177_291) none) (cond (Nat.beq pc 311) (some B_177_311) none))) (cond (Nat.blt pc 341) (cond (Nat.blt pc 325) (cond (Nat.beq pc 322) (some B_177_322) none) (cond (Nat.beq pc 325) (some B_177_325) none)) (cond (Nat.blt pc 343) (cond (Nat.beq pc 341) (some B_177_341) none) (cond (Nat.beq pc 343) (some B_177_343) none)))) (cond (Nat.blt pc 412) (cond (Nat.blt pc 377) (cond (Nat.blt pc 374) (cond (Nat.beq pc 363) (some B_177_363) none) (cond (Nat.beq pc 374) (some B_177_374) none)) (cond (Nat.blt pc 395) (cond (Nat.beq pc 377) (some B_177_377) none) (cond (Nat.beq pc 395) (some B_177_395) none))) (cond (Nat.blt pc 533) (cond (Nat.blt pc 527) (cond (Nat.beq pc 412) (some B_177_412) none) (cond (Nat.beq pc 527) (some B_177_527) none)) (cond (Nat.blt pc 571) (cond (Nat.beq pc 533) (some B_177_533) none) (cond (Nat.beq pc 571) (some B_177_571) none))))))
noncomputable def B_178_0 : XK := X_load xkR 0 <| X_load xkI 1 <| X_callV 0 125 2 5
noncomputable def B_178_5 : XK := X_store xkI 3 <| X_load xkI 3 <| X_push (.inl 20) <| X_if2 p2_lt d_lt 68 <| X_stop
noncomputable def B_178_68 : XK := X_load xkR 0 <| X_getf 0 1 <| X_load xkR 0 <| X_getf 0 2 <| X_load xkI 1 <| X_load xkI 3 <| X_callS 174 2 81
noncomputable def B_178_81 : XK := X_ibin x_iadd xg_add <| X_load xkI 2 <| X_callV 10 117 3 86
noncomputable def B_178_86 : XK := X_load xkR 0 <| X_load xkI 1 <| X_load xkI 3 <| X_push (.inl 1) <| X_ibin x_iadd xg_add <| X_callV 0 209 3 94
noncomputable def B_178_94 : XK := X_vret
noncomputable def T_178 : Nat → Option XK := fun pc => (cond (Nat.blt pc 81) (cond (Nat.blt pc 5) (cond (Nat.beq pc 0) (some B_178_0) none) (cond (Nat.blt pc 68) (cond (Nat.beq pc 5) (some B_178_5) none) (cond (Nat.beq pc 68) (some B_178_68) none))) (cond (Nat.blt pc 86) (cond (Nat.beq pc 81) (some B_178_81) none) (cond (Nat.blt pc 94) (cond (Nat.beq pc 86) (some B_178_86) none) (cond (Nat.beq pc 94) (some B_178_94) none))))
noncomputable def B_179_0 : XK := X_load xkR 0 <| X_getf 4 0 <| X_load xkI 1 <| X_callV 10 183 2 8
noncomputable def B_179_8 : XK := X_if p_eq d_eq 33 <| X_load xkR 0 <| X_getf 4 0 <| X_getf 10 0 <| X_load xkR 0 <| X_getf 4 0 <| X_load xkI 1 <| X_callV 10 184 2 26
noncomputable def B_179_26 : XK := X_load xkL 2 <| X_load xkI 4 <| X_callV 9 220 4 32
noncomputable def B_179_32 : XK := X_ret xkL
noncomputable def T_179 : Nat → Option XK := fun pc => (cond (Nat.blt pc 26) (cond (Nat.blt pc 8) (cond (Nat.beq pc 0) (some B_179_0) none) (cond (Nat.beq pc 8) (some B_179_8) none)) (cond (Nat.blt pc 32) (cond (Nat.beq pc 26) (some B_179_26) none) (cond (Nat.beq pc 32) (some B_179_32) none)))
noncomputable def B_180_0 : XK := X_load xkR 0 <| X_getf 0 1 <| X_load xkR 0 <| X_getf 0 2 <| X_push (.inl 1) <| X_ibin x_iadd xg_add <| X_load xkR 0 <| X_getf 0 1 <| X_load xkR 0 <| X_getf 0 2 <| X_push (.inl 2) <| X_ibin x_iadd xg_add <| X_callV 10 132 2 23
noncomputable def B_180_23 : XK := X_callV 10 117 3 26
noncomputable def B_180_26 : XK := X_load xkR 0 <| X_getf 0 1 <| X_load xkR 0 <| X_getf 0 2 <| X_push (.inl 2) <| X_ibin x_iadd xg_add <| X_push (.inl 0) <| X_callV 10 117 3 40
noncomputable def B_180_40 : XK := X_load xkR 0 <| X_load xkR 0 <| X_getf 0 7 <| X_putf xk01 0 5 <| X_load xkR 0 <| X_push (.inl 0) <| X_putf xk01 0 6 <| X_load xkR 0 <| X_push (.inl 0) <| X_putf xk01 0 7 <| X_vret
noncomputable def T_180 : Nat → Option XK := fun pc => (cond (Nat.blt pc 26) (cond (Nat.blt pc 23) (cond (Nat.beq pc 0) (some B_180_0) none) (cond (Nat.beq pc 23) (some B_180_23) none)) (cond (Nat.blt pc 40) (cond (Nat.beq pc 26) (some B_180_26) none) (cond (Nat.beq pc 40) (some B_180_40) none)))
noncomputable def B_181_0 : XK := X_load xkI 1 <| X_if p_le d_le 12 <| X_load xkR 0 <| X_load xkI 1 <| X_push (.inl 1) <| X_ibin x_isub xg_sub <| X_callV 0 125 2 11
noncomputable def B_181_11 : XK := X_ret xkI
noncomputable def B_181_12 : XK := X_load xkR 0 <| X_getf 0 5 <| X_if p_ne d_ne 21 <| X_stop
noncomputable def B_181_21 : XK := X_load xkR 0 <| X_getf 0 7 <| X_if p_eq d_eq 32 <| X_push (.inl 2) <| X_jump 33
noncomputable def B_181_33 : XK := X_ret xkI
noncomputable def T_181 : Nat → Option XK := fun pc => (cond (Nat.blt pc 12) (cond (Nat.blt pc 11) (cond (Nat.beq pc 0) (some B_181_0) none) (cond (Nat.beq pc 11) (some B_181_11) none)) (cond (Nat.blt pc 21) (cond (Nat.beq pc 12) (some B_181_12) none) (cond (Nat.blt pc 33) (cond (Nat.beq pc 21) (some B_181_21) none) (cond (Nat.beq pc 33) (some B_181_33) none))))
noncomputable def B_182_0 : XK := X_load xkR 0 <| X_alen <| X_load xkI 1 <| X_load xkI 2 <| X_callS 221 3 7
noncomputable def B_182_7 : XK := X_load xkI 1 <| X_store xkI 5 <| X_jump 10
noncomputable def B_182_10 : XK := X_load xkI 5 <| X_load xkI 2 <| X_if2 p2_ge d_ge 27 <| X_load xkR 0 <| X_load xkI 5 <| X_load xkL 3 <| X_ast xt1 xkL <| X_iinc 5 1 <| X_jump 10
noncomputable def B_182_27 : XK := X_vret
noncomputable def T_182 : Nat → Option XK := fun pc => (cond (Nat.blt pc 10) (cond (Nat.blt pc 7) (cond (Nat.beq pc 0) (some B_182_0) none) (cond (Nat.beq pc 7) (some B_182_7) none)) (cond (Nat.blt pc 27) (cond (Nat.beq pc 10) (some B_182_10) none) (cond (Nat.beq pc 27) (some B_182_27) none)))
noncomputable def B_183_0 : XK := X_load xkI 1 <| X_if p_le d_le 21 <| X_load xkI 1 <| X_push (.inl 65536) <| X_if2 p2_ge d_ge 21 <| X_load xkR 0 <| X_getf 10 7 <| X_load xkI 1 <| X_ald xt0 <| X_push (.inl 2) <| X_ibin Nat.land xg_and <| X_if p_eq d_eq 25 <| X_jump 21
noncomputable def B_183_21 : XK := X_push (.inl 1) <| X_jump 26
noncomputable def B_183_25 : XK := X_push (.inl 0) <| X_jump 26
noncomputable def B_183_26 : XK := X_ret xk01
noncomputable def T_183 : Nat → Option XK := fun pc => (cond (Nat.blt pc 25) (cond (Nat.blt pc 21) (cond (Nat.beq pc 0) (some B_183_0) none) (cond (Nat.beq pc 21) (some B_183_21) none)) (cond (Nat.blt pc 26) (cond (Nat.beq pc 25) (some B_183_25) none) (cond (Nat.beq pc 26) (some B_183_26) none)))
noncomputable def B_184_0 : XK := X_load xkI 1 <| X_callS 191 1 4
noncomputable def B_184_4 : XK := X_if p_eq d_eq 18 <| X_load xkR 0 <| X_getf 10 3 <| X_load xkI 1 <| X_callS 215 2 15
noncomputable def B_184_15 : XK := X_jump 19
noncomputable def B_184_18 : XK := X_push (.inl 0) <| X_jump 19
noncomputable def B_184_19 : XK := X_ret xkI
noncomputable def T_184 : Nat → Option XK := fun pc => (cond (Nat.blt pc 15) (cond (Nat.blt pc 4) (cond (Nat.beq pc 0) (some B_184_0) none) (cond (Nat.beq pc 4) (some B_184_4) none)) (cond (Nat.blt pc 18) (cond (Nat.beq pc 15) (some B_184_15) none) (cond (Nat.blt pc 19) (cond (Nat.beq pc 18) (some B_184_18) none) (cond (Nat.beq pc 19) (some B_184_19) none))))
noncomputable def B_185_0 : XK := X_load xkR 0 <| X_load xkI 1 <| X_callV 8 222 2 5
noncomputable def B_185_5 : XK := X_lstore 2 <| X_push (.inl 0) <| X_store xkI 4 <| X_load xkL 2 <| X_push (.inr (.inl 18446744073709551615)) <| X_lcif pL_ne d_ne 27 <| X_stop
noncomputable def B_185_27 : XK := X_push (.inl 0) <| X_store xkI 5 <| X_jump 30
noncomputable def B_185_30 : XK := X_load xkI 5 <| X_push (.inl 1073741824) <| X_if2 p2_ge d_ge 233 <| X_load xkI 4 <| X_if p_le d_le 233 <| X_stop
noncomputable def B_185_233 : XK := X_load xkL 2 <| X_ret xkL
noncomputable def T_185 : Nat → Option XK := fun pc => (cond (Nat.blt pc 27) (cond (Nat.blt pc 5) (cond (Nat.beq pc 0) (some B_185_0) none) (cond (Nat.beq pc 5) (some B_185_5) none)) (cond (Nat.blt pc 30) (cond (Nat.beq pc 27) (some B_185_27) none) (cond (Nat.blt pc 233) (cond (Nat.beq pc 30) (some B_185_30) none) (cond (Nat.beq pc 233) (some B_185_233) none))))
noncomputable def B_186_0 : XK := X_load xkI 1 <| X_if p_ne d_ne 6 <| X_push (.inl 0) <| X_ret xkI
noncomputable def B_186_6 : XK := X_load xkR 0 <| X_callV 10 223 1 10
noncomputable def B_186_10 : XK := X_store xkI 2 <| X_load xkI 2 <| X_callS 191 1 15
noncomputable def B_186_15 : XK := X_if p_ne d_ne 25 <| X_stop
noncomputable def B_186_25 : XK := X_load xkR 0 <| X_load xkI 2 <| X_load xkI 1 <| X_callV 10 214 3 31
noncomputable def B_186_31 : XK := X_load xkR 0 <| X_getf 10 4 <| X_load xkI 2 <| X_push (.inr (.inl 0)) <| X_ast xt1 xkL <| X_load xkI 2 <| X_ret xkI
noncomputable def T_186 : Nat → Option XK := fun pc => (cond (Nat.blt pc 15) (cond (Nat.blt pc 6) (cond (Nat.beq pc 0) (some B_186_0) none) (cond (Nat.blt pc 10) (cond (Nat.beq pc 6) (some B_186_6) none) (cond (Nat.beq pc 10) (some B_186_10) none))) (cond (Nat.blt pc 25) (cond (Nat.beq pc 15) (some B_186_15) none) (cond (Nat.blt pc 31) (cond (Nat.beq pc 25) (some B_186_25) none) (cond (Nat.beq pc 31) (some B_186_31) none))))
noncomputable def B_187_0 : XK := X_load xkR 0 <| X_getf 2 1 <| X_callV 9 224 1 7
noncomputable def B_187_7 : XK := X_if p_ne d_ne 11 <| X_vret
noncomputable def T_187 : Nat → Option XK := fun pc => (cond (Nat.blt pc 7) (cond (Nat.beq pc 0) (some B_187_0) none) (cond (Nat.beq pc 7) (some B_187_7) none))
noncomputable def B_188_0 : XK := X_load xkR 0 <| X_getf 9 15 <| X_store xkI 1 <| X_load xkR 0 <| X_push (.inl 0) <| X_putf xk01 9 15 <| X_load xkR 0 <| X_push (.inl 0) <| X_putf xkI 9 13 <| X_load xkI 1 <| X_ret xk01
noncomputable def T_188 : Nat → Option XK := fun pc => (cond (Nat.beq pc 0) (some B_188_0) none)
noncomputable def B_189_0 : XK := X_load xkI 1 <| X_if p_lt d_lt 17 <| X_load xkI 1 <| X_push (.inl 1024) <| X_if2 p2_ge d_ge 17 <| X_load xkL 2 <| X_push (.inr (.inl 1)) <| X_lcif pL_ge d_ge 19 <| X_jump 17
noncomputable def B_189_17 : XK := X_push (.inl 0) <| X_ret xkI
noncomputable def B_189_19 : XK := X_load xkL 2 <| X_push (.inr (.inl 1)) <| X_lcif pL_ne d_ne 29 <| X_load xkI 1 <| X_push (.inl 1) <| X_ibin x_iadd xg_add <| X_ret xkI
noncomputable def B_189_29 : XK := X_load xkR 0 <| X_load xkR 0 <| X_getf 9 2 <| X_load xkI 1 <| X_push (.inl 1) <| X_ibin x_iadd xg_add <| X_ald xt1 <| X_load xkI 1 <| X_i2l <| X_push (.inr (.inl 1)) <| X_lbin x_ladd xgn <| X_push (.inl 21) <| X_lsh x_lshl xgL_shl <| X_lbin Nat.lor xgL_or <| X_load xkL 2 <| X_load xkR 0 <| X_load xkI 1 <| X_push (.inl 1) <| X_ibin x_iadd xg_add <| X_callV 9 225 2 54
noncomputable def B_189_54 : XK := X_lbin x_lmul xgn <| X_load xkL 2 <| X_load xkR 0 <| X_load xkI 1 <| X_push (.inl 1) <| X_ibin x_iadd xg_add <| X_callV 9 226 2 63
noncomputable def B_189_63 : XK := X_lbin x_lmul xgn <| X_callV 9 227 4 67
noncomputable def B_189_67 : XK := X_ret xkI
noncomputable def T_189 : Nat → Option XK := fun pc => (cond (Nat.blt pc 29) (cond (Nat.blt pc 17) (cond (Nat.beq pc 0) (some B_189_0) none) (cond (Nat.blt pc 19) (cond (Nat.beq pc 17) (some B_189_17) none) (cond (Nat.beq pc 19) (some B_189_19) none))) (cond (Nat.blt pc 63) (cond (Nat.blt pc 54) (cond (Nat.beq pc 29) (some B_189_29) none) (cond (Nat.beq pc 54) (some B_189_54) none)) (cond (Nat.blt pc 67) (cond (Nat.beq pc 63) (some B_189_63) none) (cond (Nat.beq pc 67) (some B_189_67) none))))
noncomputable def B_190_0 : XK := X_load xkI 1 <| X_if p_ne d_ne 6 <| X_load xkI 2 <| X_ret xkI
noncomputable def B_190_6 : XK := X_load xkI 2 <| X_if p_ne d_ne 12 <| X_load xkI 1 <| X_ret xkI
noncomputable def B_190_12 : XK := X_load xkR 0 <| X_getf 5 0 <| X_load xkI 1 <| X_callV 9 228 2 20
noncomputable def B_190_20 : XK := X_if p_eq d_eq 153 <| X_load xkR 0 <| X_getf 5 0 <| X_load xkI 2 <| X_callV 9 229 2 31
noncomputable def B_190_31 : XK := X_if p_eq d_eq 153 <| X_stop
noncomputable def B_190_153 : XK := X_load xkR 0 <| X_load xkI 1 <| X_load xkI 2 <| X_callV 5 230 3 159
noncomputable def B_190_159 : XK := X_load xkR 0 <| X_load xkR 0 <| X_getf 5 1 <| X_load xkR 0 <| X_getf 5 2 <| X_callV 5 231 3 171
noncomputable def B_190_171 : XK := X_ret xkI
noncomputable def T_190 : Nat → Option XK := fun pc => (cond (Nat.blt pc 31) (cond (Nat.blt pc 12) (cond (Nat.blt pc 6) (cond (Nat.beq pc 0) (some B_190_0) none) (cond (Nat.beq pc 6) (some B_190_6) none)) (cond (Nat.blt pc 20) (cond (Nat.beq pc 12) (some B_190_12) none) (cond (Nat.beq pc 20) (some B_190_20) none))) (cond (Nat.blt pc 159) (cond (Nat.blt pc 153) (cond (Nat.beq pc 31) (some B_190_31) none) (cond (Nat.beq pc 153) (some B_190_153) none)) (cond (Nat.blt pc 171) (cond (Nat.beq pc 159) (some B_190_159) none) (cond (Nat.beq pc 171) (some B_190_171) none))))
noncomputable def B_191_0 : XK := X_load xkI 0 <| X_if p_le d_le 14 <| X_load xkI 0 <| X_push (.inl 65536) <| X_if2 p2_ge d_ge 14 <| X_push (.inl 1) <| X_jump 15
noncomputable def B_191_14 : XK := X_push (.inl 0) <| X_jump 15
noncomputable def B_191_15 : XK := X_ret xk01
noncomputable def T_191 : Nat → Option XK := fun pc => (cond (Nat.blt pc 14) (cond (Nat.beq pc 0) (some B_191_0) none) (cond (Nat.blt pc 15) (cond (Nat.beq pc 14) (some B_191_14) none) (cond (Nat.beq pc 15) (some B_191_15) none)))
noncomputable def B_192_0 : XK := X_load xkR 0 <| X_getf 0 1 <| X_load xkI 1 <| X_callV 10 138 2 8
noncomputable def B_192_8 : XK := X_push (.inr (.inl 60)) <| X_lcif pL_le d_le 35 <| X_stop
noncomputable def B_192_35 : XK := X_push (.inl 0) <| X_jump 36
noncomputable def B_192_36 : XK := X_ret xk01
noncomputable def T_192 : Nat → Option XK := fun pc => (cond (Nat.blt pc 35) (cond (Nat.blt pc 8) (cond (Nat.beq pc 0) (some B_192_0) none) (cond (Nat.beq pc 8) (some B_192_8) none)) (cond (Nat.blt pc 36) (cond (Nat.beq pc 35) (some B_192_35) none) (cond (Nat.beq pc 36) (some B_192_36) none)))
noncomputable def B_193_0 : XK := X_push (.inl 0) <| X_store xkI 3 <| X_load xkR 0 <| X_alen <| X_store xkI 4 <| X_jump 6
noncomputable def B_193_6 : XK := X_load xkI 3 <| X_load xkI 4 <| X_if2 p2_ge d_ge 22 <| X_load xkR 0 <| X_load xkI 3 <| X_load xkL 1 <| X_ast xt1 xkL <| X_iinc 3 1 <| X_jump 6
noncomputable def B_193_22 : XK := X_vret
noncomputable def T_193 : Nat → Option XK := fun pc => (cond (Nat.blt pc 6) (cond (Nat.beq pc 0) (some B_193_0) none) (cond (Nat.blt pc 22) (cond (Nat.beq pc 6) (some B_193_6) none) (cond (Nat.beq pc 22) (some B_193_22) none)))
noncomputable def B_194_0 : XK := X_load xkI 1 <| X_load xkR 0 <| X_getf 12 13 <| X_if2 p2_ge d_ge 17 <| X_stop
noncomputable def B_194_17 : XK := X_push (.inl 4294967295) <| X_jump 18
noncomputable def B_194_18 : XK := X_ret xkI
noncomputable def T_194 : Nat → Option XK := fun pc => (cond (Nat.blt pc 17) (cond (Nat.beq pc 0) (some B_194_0) none) (cond (Nat.blt pc 18) (cond (Nat.beq pc 17) (some B_194_17) none) (cond (Nat.beq pc 18) (some B_194_18) none)))
noncomputable def B_195_0 : XK := X_load xkI 1 <| X_load xkR 0 <| X_alen <| X_if2 p2_gt d_gt 8 <| X_load xkR 0 <| X_ret xkR
noncomputable def B_195_8 : XK := X_push (.inl 2) <| X_load xkI 1 <| X_ibin x_imul (xg0 x_imul) <| X_newa 0 <| X_store xkR 2 <| X_push (.inl 0) <| X_store xkI 3 <| X_jump 16
noncomputable def B_195_16 : XK := X_load xkI 3 <| X_load xkR 0 <| X_alen <| X_if2 p2_ge d_ge 34 <| X_load xkR 2 <| X_load xkI 3 <| X_load xkR 0 <| X_load xkI 3 <| X_ald xt0 <| X_ast xt0 xkI <| X_iinc 3 1 <| X_jump 16
noncomputable def B_195_34 : XK := X_load xkR 2 <| X_ret xkR
noncomputable def T_195 : Nat → Option XK := fun pc => (cond (Nat.blt pc 16) (cond (Nat.blt pc 8) (cond (Nat.beq pc 0) (some B_195_0) none) (cond (Nat.beq pc 8) (some B_195_8) none)) (cond (Nat.blt pc 34) (cond (Nat.beq pc 16) (some B_195_16) none) (cond (Nat.beq pc 34) (some B_195_34) none)))
noncomputable def B_196_0 : XK := X_load xkR 0 <| X_getf 12 9 <| X_load xkI 1 <| X_ald xt3 <| X_load xkR 0 <| X_getf 12 10 <| X_load xkI 1 <| X_ald xt0 <| X_load xkI 2 <| X_ast xt0 xkI <| X_load xkR 0 <| X_getf 12 10 <| X_load xkI 1 <| X_dup2 <| X_ald xt0 <| X_push (.inl 1) <| X_ibin x_iadd xg_add <| X_ast xt0 xkI <| X_vret
noncomputable def T_196 : Nat → Option XK := fun pc => (cond (Nat.beq pc 0) (some B_196_0) none)
noncomputable def B_197_0 : XK := X_load xkR 0 <| X_getf 12 10 <| X_load xkI 1 <| X_load xkR 0 <| X_getf 12 1 <| X_load xkI 2 <| X_ald xt0 <| X_ast xt0 xkI <| X_push (.inl 0) <| X_store xkI 3 <| X_jump 14
noncomputable def B_197_14 : XK := X_load xkI 3 <| X_load xkR 0 <| X_getf 12 1 <| X_load xkI 2 <| X_ald xt0 <| X_if2 p2_ge d_ge 46 <| X_load xkR 0 <| X_getf 12 9 <| X_load xkI 1 <| X_ald xt3 <| X_load xkI 3 <| X_load xkR 0 <| X_getf 12 0 <| X_load xkI 2 <| X_ald xt3 <| X_load xkI 3 <| X_ald xt0 <| X_ast xt0 xkI <| X_iinc 3 1 <| X_jump 14
noncomputable def B_197_46 : XK := X_vret
noncomputable def T_197 : Nat → Option XK := fun pc => (cond (Nat.blt pc 14) (cond (Nat.beq pc 0) (some B_197_0) none) (cond (Nat.blt pc 46) (cond (Nat.beq pc 14) (some B_197_14) none) (cond (Nat.beq pc 46) (some B_197_46) none)))
noncomputable def B_198_0 : XK := X_load xkR 0 <| X_load xkI 2 <| X_callV 12 232 2 5
noncomputable def B_198_5 : XK := X_push (.inl 60) <| X_if2 p2_le d_le 28 <| X_stop
noncomputable def B_198_28 : XK := X_push (.inl 0) <| X_jump 29
noncomputable def B_198_29 : XK := X_ret xk01
noncomputable def T_198 : Nat → Option XK := fun pc => (cond (Nat.blt pc 28) (cond (Nat.blt pc 5) (cond (Nat.beq pc 0) (some B_198_0) none) (cond (Nat.beq pc 5) (some B_198_5) none)) (cond (Nat.blt pc 29) (cond (Nat.beq pc 28) (some B_198_28) none) (cond (Nat.beq pc 29) (some B_198_29) none)))
noncomputable def B_199_0 : XK := X_push (.inl 0) <| X_store xkI 4 <| X_load xkR 0 <| X_getf 12 10 <| X_load xkI 3 <| X_push (.inl 0) <| X_ast xt0 xkI <| X_push (.inl 0) <| X_store xkI 5 <| X_jump 13
noncomputable def B_199_13 : XK := X_load xkI 5 <| X_load xkR 0 <| X_getf 12 10 <| X_load xkI 1 <| X_ald xt0 <| X_if2 p2_ge d_ge 168 <| X_load xkR 0 <| X_getf 12 9 <| X_load xkI 1 <| X_ald xt3 <| X_load xkI 5 <| X_ald xt0 <| X_store xkI 6 <| X_load xkI 6 <| X_callS 233 1 40
noncomputable def B_199_40 : XK := X_push (.inl 1048576) <| X_if2 p2_ne d_ne 55 <| X_load xkR 0 <| X_load xkI 3 <| X_push (.inl 3145728) <| X_callV 12 196 3 52
noncomputable def B_199_52 : XK := X_jump 162
noncomputable def B_199_55 : XK := X_load xkR 0 <| X_getf 12 3 <| X_load xkI 2 <| X_ald xt3 <| X_load xkI 4 <| X_ald xt0 <| X_store xkI 7 <| X_iinc 4 1 <| X_load xkI 6 <| X_callS 233 1 74
noncomputable def B_199_74 : XK := X_push (.inl 4194304) <| X_if2 p2_ne d_ne 137 <| X_load xkI 7 <| X_push (.inl 8) <| X_ibin x_ishr (xg0 x_ishr) <| X_push (.inl 15) <| X_ibin Nat.land xg_and <| X_store xkI 8 <| X_load xkI 6 <| X_push (.inl 15) <| X_ibin Nat.land xg_and <| X_load xkI 8 <| X_ibin Nat.land xg_and <| X_push (.inl 4) <| X_ibin x_ishl xg_shl <| X_load xkI 6 <| X_push (.inl 4) <| X_ibin x_ishr (xg0 x_ishr) <| X_push (.inl 15) <| X_ibin Nat.land xg_and <| X_load xkI 8 <| X_push (.inl 4294967295) <| X_ibin Nat.xor (xg0 Nat.xor) <| X_ibin Nat.land xg_and <| X_ibin Nat.lor xg_or <| X_store xkI 9 <| X_load xkR 0 <| X_load xkI 3 <| X_load xkI 9 <| X_if p_ne d_ne 126 <| X_stop
noncomputable def B_199_126 : XK := X_push (.inl 4194304) <| X_load xkI 9 <| X_ibin Nat.lor xg_or <| X_jump 131
noncomputable def B_199_131 : XK := X_callV 12 196 3 134
noncomputable def B_199_134 : XK := X_jump 162
noncomputable def B_199_137 : XK := X_load xkR 0 <| X_load xkI 3 <| X_load xkI 6 <| X_callS 233 1 144
noncomputable def B_199_144 : XK := X_push (.inl 2097152) <| X_if2 p2_ne d_ne 154 <| X_push (.inl 2097152) <| X_jump 159
noncomputable def B_199_154 : XK := X_push (.inl 1048576) <| X_load xkI 7 <| X_ibin Nat.lor xg_or <| X_jump 159
noncomputable def B_199_159 : XK := X_callV 12 196 3 162
noncomputable def B_199_162 : XK := X_iinc 5 1 <| X_jump 13
noncomputable def B_199_168 : XK := X_load xkR 0 <| X_load xkI 3 <| X_callV 12 234 2 173
noncomputable def B_199_173 : XK := X_vret
noncomputable def T_199 : Nat → Option XK := fun pc => (cond (Nat.blt pc 134) (cond (Nat.blt pc 55) (cond (Nat.blt pc 40) (cond (Nat.blt pc 13) (cond (Nat.beq pc 0) (some B_199_0) none) (cond (Nat.beq pc 13) (some B_199_13) none)) (cond (Nat.blt pc 52) (cond (Nat.beq pc 40) (some B_199_40) none) (cond (Nat.beq pc 52) (some B_199_52) none))) (cond (Nat.blt pc 126) (cond (Nat.blt pc 74) (cond (Nat.beq pc 55) (some B_199_55) none) (cond (Nat.beq pc 74) (some B_199_74) none)) (cond (Nat.blt pc 131) (cond (Nat.beq pc 126) (some B_199_126) none) (cond (Nat.beq pc 131) (some B_199_131) none)))) (cond (Nat.blt pc 159) (cond (Nat.blt pc 144) (cond (Nat.blt pc 137) (cond (Nat.beq pc 134) (some B_199_134) none) (cond (Nat.beq pc 137) (some B_199_137) none)) (cond (Nat.blt pc 154) (cond (Nat.beq pc 144) (some B_199_144) none) (cond (Nat.beq pc 154) (some B_199_154) none))) (cond (Nat.blt pc 168) (cond (Nat.blt pc 162) (cond (Nat.beq pc 159) (some B_199_159) none) (cond (Nat.beq pc 162) (some B_199_162) none)) (cond (Nat.blt pc 173) (cond (Nat.beq pc 168) (some B_199_168) none) (cond (Nat.beq pc 173) (some B_199_173) none)))))
noncomputable def B_200_0 : XK := X_push (.inl 0) <| X_store xkI 3 <| X_push (.inl 0) <| X_store xkI 4 <| X_push (.inl 0) <| X_store xkI 5 <| X_jump 8
noncomputable def B_200_8 : XK := X_load xkI 5 <| X_load xkR 0 <| X_getf 12 10 <| X_load xkI 2 <| X_ald xt0 <| X_if2 p2_ge d_ge 133 <| X_load xkR 0 <| X_getf 12 9 <| X_load xkI 2 <| X_ald xt3 <| X_load xkI 5 <| X_ald xt0 <| X_store xkI 6 <| X_load xkI 6 <| X_callS 233 1 35
noncomputable def B_200_35 : XK := X_push (.inl 1048576) <| X_if2 p2_ne d_ne 59 <| X_load xkR 0 <| X_getf 12 11 <| X_load xkI 4 <| X_load xkI 6 <| X_push (.inl 4095) <| X_ibin Nat.land xg_and <| X_ast xt0 xkI <| X_iinc 4 1 <| X_jump 127
noncomputable def B_200_59 : XK := X_load xkR 0 <| X_getf 12 3 <| X_load xkI 1 <| X_ald xt3 <| X_load xkI 3 <| X_ald xt0 <| X_store xkI 7 <| X_iinc 3 1 <| X_load xkI 6 <| X_callS 233 1 77
noncomputable def B_200_77 : XK := X_push (.inl 3145728) <| X_if2 p2_eq d_eq 127 <| X_load xkR 0 <| X_getf 12 11 <| X_load xkI 4 <| X_load xkI 6 <| X_callS 233 1 93
noncomputable def B_200_93 : XK := X_push (.inl 4194304) <| X_if2 p2_ne d_ne 121 <| X_load xkI 7 <| X_push (.inl 8) <| X_ibin x_ishr (xg0 x_ishr) <| X_load xkI 6 <| X_callS 235 2 108
noncomputable def B_200_108 : XK := X_push (.inl 8) <| X_ibin x_ishl xg_shl <| X_load xkI 7 <| X_push (.inl 255) <| X_ibin Nat.land xg_and <| X_ibin Nat.lor xg_or <| X_jump 123
noncomputable def B_200_121 : XK := X_load xkI 7 <| X_jump 123
noncomputable def B_200_123 : XK := X_ast xt0 xkI <| X_iinc 4 1 <| X_jump 127
noncomputable def B_200_127 : XK := X_iinc 5 1 <| X_jump 8
noncomputable def B_200_133 : XK := X_load xkR 0 <| X_getf 12 3 <| X_load xkI 1 <| X_load xkR 0 <| X_getf 12 3 <| X_load xkI 1 <| X_ald xt3 <| X_load xkI 4 <| X_callS 195 2 149
noncomputable def B_200_149 : XK := X_aast xok <| X_load xkR 0 <| X_getf 12 4 <| X_load xkI 1 <| X_load xkI 4 <| X_ast xt0 xkI <| X_push (.inl 0) <| X_store xkI 5 <| X_jump 161
noncomputable def B_200_161 : XK := X_load xkI 5 <| X_load xkI 4 <| X_if2 p2_ge d_ge 190 <| X_load xkR 0 <| X_getf 12 3 <| X_load xkI 1 <| X_ald xt3 <| X_load xkI 5 <| X_load xkR 0 <| X_getf 12 11 <| X_load xkI 5 <| X_ald xt0 <| X_ast xt0 xkI <| X_iinc 5 1 <| X_jump 161
noncomputable def B_200_190 : XK := X_vret
noncomputable def T_200 : Nat → Option XK := fun pc => (cond (Nat.blt pc 121) (cond (Nat.blt pc 59) (cond (Nat.blt pc 8) (cond (Nat.beq pc 0) (some B_200_0) none) (cond (Nat.blt pc 35) (cond (Nat.beq pc 8) (some B_200_8) none) (cond (Nat.beq pc 35) (some B_200_35) none))) (cond (Nat.blt pc 93) (cond (Nat.blt pc 77) (cond (Nat.beq pc 59) (some B_200_59) none) (cond (Nat.beq pc 77) (some B_200_77) none)) (cond (Nat.blt pc 108) (cond (Nat.beq pc 93) (some B_200_93) none) (cond (Nat.beq pc 108) (some B_200_108) none)))) (cond (Nat.blt pc 133) (cond (Nat.blt pc 123) (cond (Nat.beq pc 121) (some B_200_121) none) (cond (Nat.blt pc 127) (cond (Nat.beq pc 123) (some B_200_123) none) (cond (Nat.beq pc 127) (some B_200_127) none))) (cond (Nat.blt pc 161) (cond (Nat.blt pc 149) (cond (Nat.beq pc 133) (some B_200_133) none) (cond (Nat.beq pc 149) (some B_200_149) none)) (cond (Nat.blt pc 190) (cond (Nat.beq pc 161) (some B_200_161) none) (cond (Nat.beq pc 190) (some B_200_190) none)))))
noncomputable def B_201_0 : XK := X_load xkR 0 <| X_getf 12 5 <| X_push (.inl 8) <| X_load xkI 1 <| X_ibin x_imul (xg0 x_imul) <| X_push (.inl 6) <| X_ibin x_iadd xg_add <| X_load xkR 0 <| X_load xkR 0 <| X_load xkI 1 <| X_push (.inl 6) <| X_callV 12 157 3 19
noncomputable def B_201_19 : XK := X_load xkI 2 <| X_load xkI 3 <| X_callV 12 236 4 24
noncomputable def B_201_24 : XK := X_ast xt0 xkI <| X_load xkR 0 <| X_getf 12 5 <| X_push (.inl 8) <| X_load xkI 1 <| X_ibin x_imul (xg0 x_imul) <| X_push (.inl 7) <| X_ibin x_iadd xg_add <| X_load xkR 0 <| X_load xkR 0 <| X_load xkI 1 <| X_push (.inl 7) <| X_callV 12 157 3 44
noncomputable def B_201_44 : XK := X_load xkI 2 <| X_load xkI 3 <| X_callV 12 236 4 49
noncomputable def B_201_49 : XK := X_ast xt0 xkI <| X_vret
noncomputable def T_201 : Nat → Option XK := fun pc => (cond (Nat.blt pc 24) (cond (Nat.blt pc 19) (cond (Nat.beq pc 0) (some B_201_0) none) (cond (Nat.beq pc 19) (some B_201_19) none)) (cond (Nat.blt pc 44) (cond (Nat.beq pc 24) (some B_201_24) none) (cond (Nat.blt pc 49) (cond (Nat.beq pc 44) (some B_201_44) none) (cond (Nat.beq pc 49) (some B_201_49) none))))
noncomputable def B_202_0 : XK := X_load xkI 2 <| X_push (.inl 4) <| X_if2 p2_ne d_ne 10 <| X_push (.inl 24) <| X_jump 12
noncomputable def B_202_10 : XK := X_push (.inl 104) <| X_jump 12
noncomputable def B_202_12 : XK := X_push (.inl 20) <| X_load xkI 1 <| X_ibin x_imul (xg0 x_imul) <| X_ibin x_iadd xg_add <| X_store xkI 4 <| X_load xkR 0 <| X_load xkI 1 <| X_load xkI 2 <| X_callV 12 157 3 25
noncomputable def B_202_25 : XK := X_store xkI 5 <| X_load xkI 5 <| X_push (.inl 20) <| X_if2 p2_ne d_ne 70 <| X_stop
noncomputable def B_202_70 : XK := X_load xkR 0 <| X_load xkI 4 <| X_load xkI 5 <| X_ibin x_iadd xg_add <| X_load xkI 3 <| X_callV 12 203 3 80
noncomputable def B_202_80 : XK := X_load xkR 0 <| X_getf 12 5 <| X_push (.inl 8) <| X_load xkI 1 <| X_ibin x_imul (xg0 x_imul) <| X_load xkI 2 <| X_ibin x_iadd xg_add <| X_load xkI 5 <| X_push (.inl 1) <| X_ibin x_iadd xg_add <| X_ast xt0 xkI <| X_vret
noncomputable def T_202 : Nat → Option XK := fun pc => (cond (Nat.blt pc 25) (cond (Nat.blt pc 10) (cond (Nat.beq pc 0) (some B_202_0) none) (cond (Nat.blt pc 12) (cond (Nat.beq pc 10) (some B_202_10) none) (cond (Nat.beq pc 12) (some B_202_12) none))) (cond (Nat.blt pc 70) (cond (Nat.beq pc 25) (some B_202_25) none) (cond (Nat.blt pc 80) (cond (Nat.beq pc 70) (some B_202_70) none) (cond (Nat.beq pc 80) (some B_202_80) none))))
noncomputable def B_203_0 : XK := X_load xkR 0 <| X_getf 12 0 <| X_load xkI 1 <| X_load xkR 0 <| X_getf 12 0 <| X_load xkI 1 <| X_ald xt3 <| X_load xkR 0 <| X_getf 12 10 <| X_load xkI 2 <| X_ald xt0 <| X_callS 195 2 20
noncomputable def B_203_20 : XK := X_aast xok <| X_push (.inl 0) <| X_store xkI 3 <| X_jump 23
noncomputable def B_203_23 : XK := X_load xkI 3 <| X_load xkR 0 <| X_getf 12 10 <| X_load xkI 2 <| X_ald xt0 <| X_if2 p2_ge d_ge 55 <| X_load xkR 0 <| X_getf 12 0 <| X_load xkI 1 <| X_ald xt3 <| X_load xkI 3 <| X_load xkR 0 <| X_getf 12 9 <| X_load xkI 2 <| X_ald xt3 <| X_load xkI 3 <| X_ald xt0 <| X_ast xt0 xkI <| X_iinc 3 1 <| X_jump 23
noncomputable def B_203_55 : XK := X_load xkR 0 <| X_getf 12 1 <| X_load xkI 1 <| X_load xkR 0 <| X_getf 12 10 <| X_load xkI 2 <| X_ald xt0 <| X_ast xt0 xkI <| X_vret
noncomputable def T_203 : Nat → Option XK := fun pc => (cond (Nat.blt pc 23) (cond (Nat.blt pc 20) (cond (Nat.beq pc 0) (some B_203_0) none) (cond (Nat.beq pc 20) (some B_203_20) none)) (cond (Nat.blt pc 55) (cond (Nat.beq pc 23) (some B_203_23) none) (cond (Nat.beq pc 55) (some B_203_55) none)))
noncomputable def B_204_0 : XK := X_push (.inl 0) <| X_store xkI 4 <| X_push (.inl 0) <| X_store xkI 5 <| X_load xkR 0 <| X_getf 12 10 <| X_load xkI 3 <| X_push (.inl 0) <| X_ast xt0 xkI <| X_jump 13
noncomputable def B_204_13 : XK := X_load xkI 4 <| X_load xkR 0 <| X_getf 12 10 <| X_load xkI 1 <| X_ald xt0 <| X_if2 p2_lt d_lt 35 <| X_load xkI 5 <| X_load xkR 0 <| X_getf 12 10 <| X_load xkI 2 <| X_ald xt0 <| X_if2 p2_ge d_ge 151 <| X_jump 35
noncomputable def B_204_35 : XK := X_load xkI 4 <| X_load xkR 0 <| X_getf 12 10 <| X_load xkI 1 <| X_ald xt0 <| X_if2 p2_ge d_ge 58 <| X_load xkR 0 <| X_getf 12 9 <| X_load xkI 1 <| X_ald xt3 <| X_load xkI 4 <| X_ald xt0 <| X_jump 59
noncomputable def B_204_58 : XK := X_push (.inl 0) <| X_jump 59
noncomputable def B_204_59 : XK := X_store xkI 6 <| X_load xkI 5 <| X_load xkR 0 <| X_getf 12 10 <| X_load xkI 2 <| X_ald xt0 <| X_if2 p2_ge d_ge 84 <| X_load xkR 0 <| X_getf 12 9 <| X_load xkI 2 <| X_ald xt3 <| X_load xkI 5 <| X_ald xt0 <| X_jump 85
noncomputable def B_204_84 : XK := X_push (.inl 0) <| X_jump 85
noncomputable def B_204_85 : XK := X_store xkI 7 <| X_load xkI 6 <| X_callS 233 1 92
noncomputable def B_204_92 : XK := X_push (.inl 3145728) <| X_if2 p2_ne d_ne 110 <| X_load xkR 0 <| X_load xkI 3 <| X_load xkI 6 <| X_callV 12 196 3 104
noncomputable def B_204_104 : XK := X_iinc 4 1 <| X_jump 148
noncomputable def B_204_110 : XK := X_load xkI 7 <| X_callS 233 1 115
noncomputable def B_204_115 : XK := X_push (.inl 1048576) <| X_if2 p2_ne d_ne 133 <| X_load xkR 0 <| X_load xkI 3 <| X_load xkI 7 <| X_callV 12 196 3 127
noncomputable def B_204_127 : XK := X_iinc 5 1 <| X_jump 148
noncomputable def B_204_133 : XK := X_iinc 4 1 <| X_iinc 5 1 <| X_load xkR 0 <| X_load xkI 6 <| X_load xkI 7 <| X_load xkI 3 <| X_callV 12 237 4 148
noncomputable def B_204_148 : XK := X_jump 13
noncomputable def B_204_151 : XK := X_load xkR 0 <| X_load xkI 3 <| X_callV 12 234 2 156
noncomputable def B_204_156 : XK := X_vret
noncomputable def T_204 : Nat → Option XK := fun pc => (cond (Nat.blt pc 104) (cond (Nat.blt pc 59) (cond (Nat.blt pc 35) (cond (Nat.blt pc 13) (cond (Nat.beq pc 0) (some B_204_0) none) (cond (Nat.beq pc 13) (some B_204_13) none)) (cond (Nat.blt pc 58) (cond (Nat.beq pc 35) (some B_204_35) none) (cond (Nat.beq pc 58) (some B_204_58) none))) (cond (Nat.blt pc 85) (cond (Nat.blt pc 84) (cond (Nat.beq pc 59) (some B_204_59) none) (cond (Nat.beq pc 84) (some B_204_84) none)) (cond (Nat.blt pc 92) (cond (Nat.beq pc 85) (some B_204_85) none) (cond (Nat.beq pc 92) (some B_204_92) none)))) (cond (Nat.blt pc 133) (cond (Nat.blt pc 115) (cond (Nat.blt pc 110) (cond (Nat.beq pc 104) (some B_204_104) none) (cond (Nat.beq pc 110) (some B_204_110) none)) (cond (Nat.blt pc 127) (cond (Nat.beq pc 115) (some B_204_115) none) (cond (Nat.beq pc 127) (some B_204_127) none))) (cond (Nat.blt pc 151) (cond (Nat.blt pc 148) (cond (Nat.beq pc 133) (some B_204_133) none) (cond (Nat.beq pc 148) (some B_204_148) none)) (cond (Nat.blt pc 156) (cond (Nat.beq pc 151) (some B_204_151) none) (cond (Nat.beq pc 156) (some B_204_156) none)))))
noncomputable def B_205_0 : XK := X_push (.inl 0) <| X_store xkI 5 <| X_push (.inl 0) <| X_store xkI 6 <| X_load xkR 0 <| X_getf 12 10 <| X_load xkI 4 <| X_push (.inl 0) <| X_ast xt0 xkI <| X_jump 14
noncomputable def B_205_14 : XK := X_load xkI 5 <| X_load xkR 0 <| X_getf 12 10 <| X_load xkI 1 <| X_ald xt0 <| X_if2 p2_lt d_lt 36 <| X_load xkI 6 <| X_load xkR 0 <| X_getf 12 10 <| X_load xkI 2 <| X_ald xt0 <| X_if2 p2_ge d_ge 195 <| X_jump 36
noncomputable def B_205_36 : XK := X_load xkI 5 <| X_load xkR 0 <| X_getf 12 10 <| X_load xkI 1 <| X_ald xt0 <| X_if2 p2_ge d_ge 68 <| X_load xkR 0 <| X_getf 12 9 <| X_load xkI 1 <| X_ald xt3 <| X_load xkI 5 <| X_ald xt0 <| X_callS 233 1 59
noncomputable def B_205_59 : XK := X_push (.inl 1048576) <| X_if2 p2_ne d_ne 68 <| X_push (.inl 1) <| X_jump 69
noncomputable def B_205_68 : XK := X_push (.inl 0) <| X_jump 69
noncomputable def B_205_69 : XK := X_store xkI 7 <| X_load xkI 6 <| X_load xkR 0 <| X_getf 12 10 <| X_load xkI 2 <| X_ald xt0 <| X_if2 p2_ge d_ge 103 <| X_load xkR 0 <| X_getf 12 9 <| X_load xkI 2 <| X_ald xt3 <| X_load xkI 6 <| X_ald xt0 <| X_callS 233 1 94
noncomputable def B_205_94 : XK := X_push (.inl 1048576) <| X_if2 p2_ne d_ne 103 <| X_push (.inl 1) <| X_jump 104
noncomputable def B_205_103 : XK := X_push (.inl 0) <| X_jump 104
noncomputable def B_205_104 : XK := X_store xkI 8 <| X_load xkI 7 <| X_if p_eq d_eq 142 <| X_load xkI 3 <| X_push (.inl 1) <| X_if2 p2_eq d_eq 121 <| X_load xkI 8 <| X_if p_ne d_ne 142 <| X_jump 121
noncomputable def B_205_121 : XK := X_load xkR 0 <| X_load xkI 4 <| X_load xkR 0 <| X_getf 12 9 <| X_load xkI 1 <| X_ald xt3 <| X_load xkI 5 <| X_ald xt0 <| X_callV 12 196 3 136
noncomputable def B_205_136 : XK := X_iinc 5 1 <| X_jump 192
noncomputable def B_205_142 : XK := X_load xkI 8 <| X_if p_eq d_eq 161 <| X_load xkR 0 <| X_load xkI 4 <| X_push (.inl 2097152) <| X_callV 12 196 3 155
noncomputable def B_205_155 : XK := X_iinc 6 1 <| X_jump 192
noncomputable def B_205_161 : XK := X_load xkR 0 <| X_load xkR 0 <| X_getf 12 9 <| X_load xkI 1 <| X_ald xt3 <| X_load xkI 5 <| X_ald xt0 <| X_load xkR 0 <| X_getf 12 9 <| X_load xkI 2 <| X_ald xt3 <| X_load xkI 6 <| X_ald xt0 <| X_load xkI 3 <| X_load xkI 4 <| X_callV 12 238 5 186
noncomputable def B_205_186 : XK := X_iinc 5 1 <| X_iinc 6 1 <| X_jump 192
noncomputable def B_205_192 : XK := X_jump 14
noncomputable def B_205_195 : XK := X_load xkR 0 <| X_load xkI 4 <| X_callV 12 234 2 201
noncomputable def B_205_201 : XK := X_vret
noncomputable def T_205 : Nat → Option XK := fun pc => (cond (Nat.blt pc 121) (cond (Nat.blt pc 68) (cond (Nat.blt pc 36) (cond (Nat.blt pc 14) (cond (Nat.beq pc 0) (some B_205_0) none) (cond (Nat.beq pc 14) (some B_205_14) none)) (cond (Nat.blt pc 59) (cond (Nat.beq pc 36) (some B_205_36) none) (cond (Nat.beq pc 59) (some B_205_59) none))) (cond (Nat.blt pc 94) (cond (Nat.blt pc 69) (cond (Nat.beq pc 68) (some B_205_68) none) (cond (Nat.beq pc 69) (some B_205_69) none)) (cond (Nat.blt pc 103) (cond (Nat.beq pc 94) (some B_205_94) none) (cond (Nat.blt pc 104) (cond (Nat.beq pc 103) (some B_205_103) none) (cond (Nat.beq pc 104) (some B_205_104) none))))) (cond (Nat.blt pc 161) (cond (Nat.blt pc 142) (cond (Nat.blt pc 136) (cond (Nat.beq pc 121) (some B_205_121) none) (cond (Nat.beq pc 136) (some B_205_136) none)) (cond (Nat.blt pc 155) (cond (Nat.beq pc 142) (some B_205_142) none) (cond (Nat.beq pc 155) (some B_205_155) none))) (cond (Nat.blt pc 192) (cond (Nat.blt pc 186) (cond (Nat.beq pc 161) (some B_205_161) none) (cond (Nat.beq pc 186) (some B_205_186) none)) (cond (Nat.blt pc 195) (cond (Nat.beq pc 192) (some B_205_192) none) (cond (Nat.blt pc 201) (cond (Nat.beq pc 195) (some B_205_195) none) (cond (Nat.beq pc 201) (some B_205_201) none))))))
noncomputable def B_206_0 : XK := X_load xkR 0 <| X_getf 12 10 <| X_load xkI 2 <| X_load xkR 0 <| X_getf 12 10 <| X_load xkI 1 <| X_ald xt0 <| X_ast xt0 xkI <| X_push (.inl 0) <| X_store xkI 3 <| X_jump 14
noncomputable def B_206_14 : XK := X_load xkI 3 <| X_load xkR 0 <| X_getf 12 10 <| X_load xkI 1 <| X_ald xt0 <| X_if2 p2_ge d_ge 46 <| X_load xkR 0 <| X_getf 12 9 <| X_load xkI 2 <| X_ald xt3 <| X_load xkI 3 <| X_load xkR 0 <| X_getf 12 9 <| X_load xkI 1 <| X_ald xt3 <| X_load xkI 3 <| X_ald xt0 <| X_ast xt0 xkI <| X_iinc 3 1 <| X_jump 14
noncomputable def B_206_46 : XK := X_vret
noncomputable def T_206 : Nat → Option XK := fun pc => (cond (Nat.blt pc 14) (cond (Nat.beq pc 0) (some B_206_0) none) (cond (Nat.blt pc 46) (cond (Nat.beq pc 14) (some B_206_14) none) (cond (Nat.beq pc 46) (some B_206_46) none)))
noncomputable def B_207_0 : XK := X_load xkR 0 <| X_push (.inl 3) <| X_load xkI 1 <| X_callV 12 197 3 6
noncomputable def B_207_6 : XK := X_load xkR 0 <| X_load xkI 2 <| X_push (.inl 3) <| X_callV 12 203 3 12
noncomputable def B_207_12 : XK := X_vret
noncomputable def T_207 : Nat → Option XK := fun pc => (cond (Nat.blt pc 6) (cond (Nat.beq pc 0) (some B_207_0) none) (cond (Nat.blt pc 12) (cond (Nat.beq pc 6) (some B_207_6) none) (cond (Nat.beq pc 12) (some B_207_12) none)))
noncomputable def B_208_0 : XK := X_load xkR 0 <| X_push (.inl 1) <| X_load xkI 1 <| X_callV 12 197 3 6
noncomputable def B_208_6 : XK := X_load xkR 0 <| X_push (.inl 1) <| X_push (.inl 0) <| X_push (.inl 0) <| X_push (.inl 2) <| X_callV 12 205 5 14
noncomputable def B_208_14 : XK := X_load xkR 0 <| X_load xkI 1 <| X_push (.inl 2) <| X_callV 12 203 3 20
noncomputable def B_208_20 : XK := X_load xkR 0 <| X_push (.inl 0) <| X_push (.inl 1) <| X_push (.inl 1) <| X_push (.inl 2) <| X_callV 12 205 5 28
noncomputable def B_208_28 : XK := X_load xkR 0 <| X_push (.inl 2) <| X_push (.inl 0) <| X_callV 12 206 3 34
noncomputable def B_208_34 : XK := X_vret
noncomputable def T_208 : Nat → Option XK := fun pc => (cond (Nat.blt pc 20) (cond (Nat.blt pc 6) (cond (Nat.beq pc 0) (some B_208_0) none) (cond (Nat.blt pc 14) (cond (Nat.beq pc 6) (some B_208_6) none) (cond (Nat.beq pc 14) (some B_208_14) none))) (cond (Nat.blt pc 28) (cond (Nat.beq pc 20) (some B_208_20) none) (cond (Nat.blt pc 34) (cond (Nat.beq pc 28) (some B_208_28) none) (cond (Nat.beq pc 34) (some B_208_34) none))))
noncomputable def B_209_0 : XK := X_load xkI 1 <| X_if p_ne d_ne 12 <| X_load xkR 0 <| X_load xkI 2 <| X_putf xkI 0 3 <| X_jump 17
noncomputable def B_209_12 : XK := X_load xkR 0 <| X_load xkI 2 <| X_putf xkI 0 4 <| X_jump 17
noncomputable def B_209_17 : XK := X_vret
noncomputable def T_209 : Nat → Option XK := fun pc => (cond (Nat.blt pc 12) (cond (Nat.beq pc 0) (some B_209_0) none) (cond (Nat.blt pc 17) (cond (Nat.beq pc 12) (some B_209_12) none) (cond (Nat.beq pc 17) (some B_209_17) none)))
noncomputable def B_210_0 : XK := X_load xkR 0 <| X_getf 2 0 <| X_load xkI 2 <| X_callV 10 239 2 8
noncomputable def B_210_8 : XK := X_if p_ne d_ne 22 <| X_load xkR 0 <| X_getf 2 0 <| X_load xkI 3 <| X_callV 10 239 2 19
noncomputable def B_210_19 : XK := X_if p_eq d_eq 26 <| X_jump 22
noncomputable def B_210_26 : XK := X_push (.inl 0) <| X_jump 27
noncomputable def B_210_27 : XK := X_store xkI 4 <| X_load xkI 4 <| X_if p_eq d_eq 52 <| X_stop
noncomputable def B_210_52 : XK := X_load xkR 0 <| X_getf 2 0 <| X_load xkI 2 <| X_callV 10 240 2 60
noncomputable def B_210_60 : XK := X_store xkI 5 <| X_load xkI 4 <| X_if p_eq d_eq 97 <| X_stop
noncomputable def B_210_97 : XK := X_push (.inl 0) <| X_jump 98
noncomputable def B_210_98 : XK := X_store xkI 6 <| X_load xkI 6 <| X_if p_eq d_eq 143 <| X_stop
noncomputable def B_210_143 : XK := X_push (.inl 0) <| X_jump 144
noncomputable def B_210_144 : XK := X_store xkI 6 <| X_load xkI 6 <| X_if p_eq d_eq 183 <| X_stop
noncomputable def B_210_183 : XK := X_load xkR 0 <| X_getf 2 0 <| X_load xkI 1 <| X_load xkI 2 <| X_load xkI 3 <| X_callV 10 241 4 193
noncomputable def B_210_193 : XK := X_ret xkI
noncomputable def T_210 : Nat → Option XK := fun pc => (cond (Nat.blt pc 60) (cond (Nat.blt pc 26) (cond (Nat.blt pc 8) (cond (Nat.beq pc 0) (some B_210_0) none) (cond (Nat.blt pc 19) (cond (Nat.beq pc 8) (some B_210_8) none) (cond (Nat.beq pc 19) (some B_210_19) none))) (cond (Nat.blt pc 27) (cond (Nat.beq pc 26) (some B_210_26) none) (cond (Nat.blt pc 52) (cond (Nat.beq pc 27) (some B_210_27) none) (cond (Nat.beq pc 52) (some B_210_52) none)))) (cond (Nat.blt pc 143) (cond (Nat.blt pc 97) (cond (Nat.beq pc 60) (some B_210_60) none) (cond (Nat.blt pc 98) (cond (Nat.beq pc 97) (some B_210_97) none) (cond (Nat.beq pc 98) (some B_210_98) none))) (cond (Nat.blt pc 183) (cond (Nat.blt pc 144) (cond (Nat.beq pc 143) (some B_210_143) none) (cond (Nat.beq pc 144) (some B_210_144) none)) (cond (Nat.blt pc 193) (cond (Nat.beq pc 183) (some B_210_183) none) (cond (Nat.beq pc 193) (some B_210_193) none)))))
noncomputable def B_211_0 : XK := X_load xkI 1 <| X_callS 191 1 4
noncomputable def B_211_4 : XK := X_if p_eq d_eq 24 <| X_load xkR 0 <| X_getf 10 9 <| X_load xkI 1 <| X_load xkR 0 <| X_dup <| X_getf 10 12 <| X_dupx1 <| X_push (.inl 1) <| X_ibin x_iadd xg_add <| X_putf xkI 10 12 <| X_ast xt0 xkI <| X_jump 24
noncomputable def B_211_24 : XK := X_vret
noncomputable def T_211 : Nat → Option XK := fun pc => (cond (Nat.blt pc 4) (cond (Nat.beq pc 0) (some B_211_0) none) (cond (Nat.blt pc 24) (cond (Nat.beq pc 4) (some B_211_4) none) (cond (Nat.beq pc 24) (some B_211_24) none)))
noncomputable def B_212_0 : XK := X_load xkI 1 <| X_if p_le d_le 25 <| X_load xkI 1 <| X_push (.inl 65536) <| X_if2 p2_ge d_ge 25 <| X_load xkR 0 <| X_getf 10 4 <| X_load xkI 1 <| X_ald xt1 <| X_push (.inl 32) <| X_lsh x_lshr xgL_shr <| X_l2i <| X_push (.inl 3) <| X_ibin Nat.land xg_and <| X_jump 26
noncomputable def B_212_26 : XK := X_ret xkI
noncomputable def T_212 : Nat → Option XK := fun pc => (cond (Nat.blt pc 26) (cond (Nat.beq pc 0) (some B_212_0) none) (cond (Nat.beq pc 26) (some B_212_26) none))
noncomputable def B_213_0 : XK := X_load xkR 0 <| X_getf 2 0 <| X_load xkI 1 <| X_callV 10 242 2 8
noncomputable def B_213_8 : XK := X_store xkI 2 <| X_load xkR 0 <| X_getf 2 0 <| X_load xkI 1 <| X_callV 10 240 2 17
noncomputable def B_213_17 : XK := X_store xkI 3 <| X_load xkR 0 <| X_getf 2 0 <| X_load xkI 1 <| X_callV 10 239 2 26
noncomputable def B_213_26 : XK := X_if p_ne d_ne 51 <| X_load xkR 0 <| X_getf 2 0 <| X_load xkI 2 <| X_callV 10 239 2 37
noncomputable def B_213_37 : XK := X_if p_ne d_ne 51 <| X_load xkR 0 <| X_getf 2 0 <| X_load xkI 3 <| X_callV 10 239 2 48
noncomputable def B_213_48 : XK := X_if p_eq d_eq 55 <| X_jump 51
noncomputable def B_213_55 : XK := X_push (.inl 0) <| X_jump 56
noncomputable def B_213_56 : XK := X_store xkI 4 <| X_push (.inl 4294967295) <| X_store xkI 5 <| X_load xkI 4 <| X_if p_ne d_ne 83 <| X_load xkR 0 <| X_getf 2 0 <| X_load xkI 2 <| X_callV 10 183 2 74
noncomputable def B_213_74 : XK := X_if p_ne d_ne 83 <| X_stop
noncomputable def B_213_83 : XK := X_load xkI 4 <| X_if p_ne d_ne 105 <| X_load xkR 0 <| X_getf 2 0 <| X_load xkI 3 <| X_callV 10 183 2 96
noncomputable def B_213_96 : XK := X_if p_ne d_ne 105 <| X_stop
noncomputable def B_213_105 : XK := X_load xkI 4 <| X_if p_eq d_eq 137 <| X_stop
noncomputable def B_213_137 : XK := X_load xkI 4 <| X_if p_eq d_eq 158 <| X_stop
noncomputable def B_213_158 : XK := X_load xkI 5 <| X_push (.inl 4294967295) <| X_if2 p2_eq d_eq 197 <| X_stop
noncomputable def B_213_197 : XK := X_load xkI 5 <| X_push (.inl 4294967295) <| X_if2 p2_ne d_ne 214 <| X_load xkR 0 <| X_getf 2 0 <| X_load xkI 1 <| X_callV 10 239 2 211
noncomputable def B_213_211 : XK := X_if p_eq d_eq 235 <| X_jump 214
noncomputable def B_213_235 : XK := X_load xkI 4 <| X_if p_ne d_ne 279 <| X_load xkR 0 <| X_getf 2 0 <| X_load xkI 2 <| X_callV 10 211 2 248
noncomputable def B_213_248 : XK := X_load xkR 0 <| X_getf 2 0 <| X_load xkI 3 <| X_callV 10 211 2 256
noncomputable def B_213_256 : XK := X_load xkR 0 <| X_load xkR 0 <| X_getf 2 0 <| X_load xkI 2 <| X_callV 10 184 2 265
noncomputable def B_213_265 : XK := X_load xkR 0 <| X_getf 2 0 <| X_load xkI 3 <| X_callV 10 184 2 273
noncomputable def B_213_273 : XK := X_callV 2 243 3 276
noncomputable def B_213_276 : XK := X_jump 281
noncomputable def B_213_281 : XK := X_push (.inl 0) <| X_ret xk01
noncomputable def T_213 : Nat → Option XK := fun pc => (cond (Nat.blt pc 105) (cond (Nat.blt pc 48) (cond (Nat.blt pc 17) (cond (Nat.blt pc 8) (cond (Nat.beq pc 0) (some B_213_0) none) (cond (Nat.beq pc 8) (some B_213_8) none)) (cond (Nat.blt pc 26) (cond (Nat.beq pc 17) (some B_213_17) none) (cond (Nat.blt pc 37) (cond (Nat.beq pc 26) (some B_213_26) none) (cond (Nat.beq pc 37) (some B_213_37) none)))) (cond (Nat.blt pc 74) (cond (Nat.blt pc 55) (cond (Nat.beq pc 48) (some B_213_48) none) (cond (Nat.blt pc 56) (cond (Nat.beq pc 55) (some B_213_55) none) (cond (Nat.beq pc 56) (some B_213_56) none))) (cond (Nat.blt pc 83) (cond (Nat.beq pc 74) (some B_213_74) none) (cond (Nat.blt pc 96) (cond (Nat.beq pc 83) (some B_213_83) none) (cond (Nat.beq pc 96) (some B_213_96) none))))) (cond (Nat.blt pc 248) (cond (Nat.blt pc 197) (cond (Nat.blt pc 137) (cond (Nat.beq pc 105) (some B_213_105) none) (cond (Nat.blt pc 158) (cond (Nat.beq pc 137) (some B_213_137) none) (cond (Nat.beq pc 158) (some B_213_158) none))) (cond (Nat.blt pc 211) (cond (Nat.beq pc 197) (some B_213_197) none) (cond (Nat.blt pc 235) (cond (Nat.beq pc 211) (some B_213_211) none) (cond (Nat.beq pc 235) (some B_213_235) none)))) (cond (Nat.blt pc 273) (cond (Nat.blt pc 256) (cond (Nat.beq pc 248) (some B_213_248) none) (cond (Nat.blt pc 265) (cond (Nat.beq pc 256) (some B_213_256) none) (cond (Nat.beq pc 265) (some B_213_265) none))) (cond (Nat.blt pc 276) (cond (Nat.beq pc 273) (some B_213_273) none) (cond (Nat.blt pc 281) (cond (Nat.beq pc 276) (some B_213_276) none) (cond (Nat.beq pc 281) (some B_213_281) none))))))
noncomputable def B_214_0 : XK := X_load xkI 1 <| X_callS 191 1 4
noncomputable def B_214_4 : XK := X_if p_ne d_ne 8 <| X_stop
noncomputable def B_214_8 : XK := X_load xkR 0 <| X_getf 10 3 <| X_load xkI 1 <| X_load xkI 2 <| X_callS 244 3 17
noncomputable def B_214_17 : XK := X_load xkR 0 <| X_getf 10 5 <| X_load xkI 1 <| X_load xkR 0 <| X_getf 10 0 <| X_load xkI 2 <| X_callV 9 225 2 30
noncomputable def B_214_30 : XK := X_ast xt1 xkL <| X_load xkR 0 <| X_getf 10 6 <| X_load xkI 1 <| X_load xkR 0 <| X_getf 10 0 <| X_load xkI 2 <| X_callV 9 225 2 44
noncomputable def B_214_44 : XK := X_load xkR 0 <| X_getf 10 0 <| X_load xkI 2 <| X_callV 9 226 2 52
noncomputable def B_214_52 : XK := X_lbin x_ladd xgn <| X_ast xt1 xkL <| X_load xkR 0 <| X_getf 10 7 <| X_load xkI 1 <| X_load xkR 0 <| X_getf 10 0 <| X_load xkI 2 <| X_callV 9 245 2 67
noncomputable def B_214_67 : XK := X_if p_eq d_eq 75 <| X_push (.inl 6) <| X_jump 76
noncomputable def B_214_75 : XK := X_push (.inl 2) <| X_jump 76
noncomputable def B_214_76 : XK := X_ast xt0 xkI <| X_load xkR 0 <| X_getf 10 9 <| X_load xkI 1 <| X_load xkR 0 <| X_dup <| X_getf 10 12 <| X_dupx1 <| X_push (.inl 1) <| X_ibin x_iadd xg_add <| X_putf xkI 10 12 <| X_ast xt0 xkI <| X_load xkR 0 <| X_getf 10 0 <| X_load xkI 2 <| X_callV 9 246 2 102
noncomputable def B_214_102 : XK := X_push (.inl 254) <| X_if2 p2_le d_le 122 <| X_stop
noncomputable def B_214_122 : XK := X_load xkR 0 <| X_getf 10 4 <| X_load xkI 1 <| X_push (.inr (.inl 0)) <| X_ast xt1 xkL <| X_jump 157
noncomputable def B_214_157 : XK := X_vret
noncomputable def T_214 : Nat → Option XK := fun pc => (cond (Nat.blt pc 52) (cond (Nat.blt pc 17) (cond (Nat.blt pc 4) (cond (Nat.beq pc 0) (some B_214_0) none) (cond (Nat.blt pc 8) (cond (Nat.beq pc 4) (some B_214_4) none) (cond (Nat.beq pc 8) (some B_214_8) none))) (cond (Nat.blt pc 30) (cond (Nat.beq pc 17) (some B_214_17) none) (cond (Nat.blt pc 44) (cond (Nat.beq pc 30) (some B_214_30) none) (cond (Nat.beq pc 44) (some B_214_44) none)))) (cond (Nat.blt pc 76) (cond (Nat.blt pc 67) (cond (Nat.beq pc 52) (some B_214_52) none) (cond (Nat.blt pc 75) (cond (Nat.beq pc 67) (some B_214_67) none) (cond (Nat.beq pc 75) (some B_214_75) none))) (cond (Nat.blt pc 122) (cond (Nat.blt pc 102) (cond (Nat.beq pc 76) (some B_214_76) none) (cond (Nat.beq pc 102) (some B_214_102) none)) (cond (Nat.blt pc 157) (cond (Nat.beq pc 122) (some B_214_122) none) (cond (Nat.beq pc 157) (some B_214_157) none)))))
noncomputable def B_215_0 : XK := X_load xkI 1 <| X_if p_lt d_lt 16 <| X_load xkI 1 <| X_load xkR 0 <| X_alen <| X_if2 p2_ge d_ge 16 <| X_load xkR 0 <| X_load xkI 1 <| X_ald xt0 <| X_jump 17
noncomputable def B_215_17 : XK := X_ret xkI
noncomputable def T_215 : Nat → Option XK := fun pc => (cond (Nat.blt pc 17) (cond (Nat.beq pc 0) (some B_215_0) none) (cond (Nat.beq pc 17) (some B_215_17) none))
noncomputable def B_216_0 : XK := X_load xkI 3 <| X_if p_ne d_ne 32 <| X_load xkI 1 <| X_push (.inl 3) <| X_if2 p2_ne d_ne 30 <| X_load xkR 0 <| X_getf 2 1 <| X_push (.inl 512) <| X_load xkR 0 <| X_getf 2 1 <| X_load xkI 2 <| X_callV 9 226 2 24
noncomputable def B_216_24 : XK := X_callV 9 189 3 27
noncomputable def B_216_27 : XK := X_jump 31
noncomputable def B_216_31 : XK := X_ret xkI
noncomputable def B_216_32 : XK := X_load xkI 2 <| X_if p_ne d_ne 70 <| X_load xkI 1 <| X_if p_ne d_ne 42 <| X_load xkI 3 <| X_ret xkI
noncomputable def B_216_70 : XK := X_load xkR 0 <| X_getf 2 1 <| X_load xkI 2 <| X_callV 9 247 2 78
noncomputable def B_216_78 : XK := X_store xkI 4 <| X_load xkR 0 <| X_getf 2 1 <| X_load xkI 3 <| X_callV 9 247 2 88
noncomputable def B_216_88 : XK := X_store xkI 5 <| X_load xkI 1 <| X_push (.inl 3) <| X_if2 p2_ne d_ne 147 <| X_load xkI 4 <| X_push (.inl 768) <| X_if2 p2_ne d_ne 105 <| X_stop
noncomputable def B_216_105 : XK := X_load xkI 4 <| X_push (.inl 512) <| X_if2 p2_ne d_ne 115 <| X_load xkI 3 <| X_ret xkI
noncomputable def B_216_115 : XK := X_load xkR 0 <| X_getf 2 1 <| X_load xkI 2 <| X_callV 9 225 2 123
noncomputable def B_216_123 : XK := X_push (.inr (.inl 0)) <| X_lcif pL_ne d_ne 336 <| X_stop
noncomputable def B_216_147 : XK := X_load xkR 0 <| X_getf 2 1 <| X_load xkI 1 <| X_if p_ne d_ne 159 <| X_load xkI 3 <| X_jump 160
noncomputable def B_216_159 : XK := X_load xkI 2 <| X_jump 160
noncomputable def B_216_160 : XK := X_callV 9 225 2 163
noncomputable def B_216_163 : XK := X_push (.inr (.inl 0)) <| X_lcif pL_ne d_ne 260 <| X_load xkI 1 <| X_if p_ne d_ne 176 <| X_load xkI 2 <| X_jump 194
noncomputable def B_216_176 : XK := X_load xkR 0 <| X_getf 2 1 <| X_push (.inl 768) <| X_load xkR 0 <| X_getf 2 1 <| X_load xkI 3 <| X_callV 9 226 2 191
noncomputable def B_216_191 : XK := X_callV 9 189 3 194
noncomputable def B_216_194 : XK := X_store xkI 6 <| X_load xkI 1 <| X_if p_ne d_ne 204 <| X_load xkI 3 <| X_jump 205
noncomputable def B_216_204 : XK := X_load xkI 2 <| X_jump 205
noncomputable def B_216_205 : XK := X_store xkI 7 <| X_load xkR 0 <| X_getf 2 3 <| X_load xkI 1 <| X_push (.inl 1) <| X_if2 p2_ne d_ne 221 <| X_load xkI 6 <| X_jump 223
noncomputable def B_216_221 : XK := X_load xkI 7 <| X_jump 223
noncomputable def B_216_223 : XK := X_load xkI 1 <| X_push (.inl 1) <| X_if2 p2_ne d_ne 233 <| X_load xkI 7 <| X_jump 235
noncomputable def B_216_233 : XK := X_load xkI 6 <| X_jump 235
noncomputable def B_216_235 : XK := X_callV 5 230 3 238
noncomputable def B_216_238 : XK := X_load xkR 0 <| X_getf 2 3 <| X_load xkR 0 <| X_getf 2 3 <| X_getf 5 1 <| X_load xkR 0 <| X_getf 2 3 <| X_getf 5 2 <| X_callV 5 231 3 259
noncomputable def B_216_259 : XK := X_ret xkI
noncomputable def B_216_260 : XK := X_load xkI 5 <| X_push (.inl 768) <| X_if2 p2_ne d_ne 270 <| X_stop
noncomputable def B_216_270 : XK := X_load xkI 4 <| X_push (.inl 768) <| X_if2 p2_ne d_ne 305 <| X_load xkI 1 <| X_if p_ne d_ne 286 <| X_load xkI 3 <| X_jump 304
noncomputable def B_216_304 : XK := X_ret xkI
noncomputable def B_216_305 : XK := X_load xkI 5 <| X_push (.inl 512) <| X_if2 p2_ne d_ne 336 <| X_load xkI 1 <| X_if p_ne d_ne 336 <| X_load xkR 0 <| X_getf 2 1 <| X_push (.inl 512) <| X_load xkR 0 <| X_getf 2 1 <| X_load xkI 2 <| X_callV 9 225 2 332
noncomputable def B_216_332 : XK := X_callV 9 189 3 335
noncomputable def B_216_335 : XK := X_ret xkI
noncomputable def B_216_336 : XK := X_load xkI 4 <| X_push (.inl 4294967295) <| X_if2 p2_eq d_eq 348 <| X_load xkI 5 <| X_push (.inl 4294967295) <| X_if2 p2_ne d_ne 350 <| X_jump 348
noncomputable def B_216_348 : XK := X_push (.inl 4294967295) <| X_ret xkI
noncomputable def B_216_350 : XK := X_load xkR 0 <| X_getf 2 1 <| X_load xkI 1 <| X_load xkI 4 <| X_load xkI 5 <| X_callS 248 3 362
noncomputable def B_216_362 : XK := X_load xkI 1 <| X_if p_ne d_ne 377 <| X_load xkR 0 <| X_getf 2 1 <| X_load xkI 2 <| X_callV 9 226 2 374
noncomputable def B_216_374 : XK := X_jump 385
noncomputable def B_216_377 : XK := X_load xkR 0 <| X_getf 2 1 <| X_load xkI 2 <| X_callV 9 225 2 385
noncomputable def B_216_385 : XK := X_callV 9 189 3 388
noncomputable def B_216_388 : XK := X_ret xkI
noncomputable def T_216 : Nat → Option XK := fun pc => (cond (Nat.blt pc 221) (cond (Nat.blt pc 123) (cond (Nat.blt pc 70) (cond (Nat.blt pc 27) (cond (Nat.blt pc 24) (cond (Nat.beq pc 0) (some B_216_0) none) (cond (Nat.beq pc 24) (some B_216_24) none)) (cond (Nat.blt pc 31) (cond (Nat.beq pc 27) (some B_216_27) none) (cond (Nat.blt pc 32) (cond (Nat.beq pc 31) (some B_216_31) none) (cond (Nat.beq pc 32) (some B_216_32) none)))) (cond (Nat.blt pc 88) (cond (Nat.blt pc 78) (cond (Nat.beq pc 70) (some B_216_70) none) (cond (Nat.beq pc 78) (some B_216_78) none)) (cond (Nat.blt pc 105) (cond (Nat.beq pc 88) (some B_216_88) none) (cond (Nat.blt pc 115) (cond (Nat.beq pc 105) (some B_216_105) none) (cond (Nat.beq pc 115) (some B_216_115) none))))) (cond (Nat.blt pc 176) (cond (Nat.blt pc 159) (cond (Nat.blt pc 147) (cond (Nat.beq pc 123) (some B_216_123) none) (cond (Nat.beq pc 147) (some B_216_147) none)) (cond (Nat.blt pc 160) (cond (Nat.beq pc 159) (some B_216_159) none) (cond (Nat.blt pc 163) (cond (Nat.beq pc 160) (some B_216_160) none) (cond (Nat.beq pc 163) (some B_216_163) none)))) (cond (Nat.blt pc 194) (cond (Nat.blt pc 191) (cond (Nat.beq pc 176) (some B_216_176) none) (cond (Nat.beq pc 191) (some B_216_191) none)) (cond (Nat.blt pc 204) (cond (Nat.beq pc 194) (some B_216_194) none) (cond (Nat.blt pc 205) (cond (Nat.beq pc 204) (some B_216_204) none) (cond (Nat.beq pc 205) (some B_216_205) none)))))) (cond (Nat.blt pc 332) (cond (Nat.blt pc 259) (cond (Nat.blt pc 233) (cond (Nat.blt pc 223) (cond (Nat.beq pc 221) (some B_216_221) none) (cond (Nat.beq pc 223) (some B_216_223) none)) (cond (Nat.blt pc 235) (cond (Nat.beq pc 233) (some B_216_233) none) (cond (Nat.blt pc 238) (cond (Nat.beq pc 235) (some B_216_235) none) (cond (Nat.beq pc 238) (some B_216_238) none)))) (cond (Nat.blt pc 270) (cond (Nat.blt pc 260) (cond (Nat.beq pc 259) (some B_216_259) none) (cond (Nat.beq pc 260) (some B_216_260) none)) (cond (Nat.blt pc 304) (cond (Nat.beq pc 270) (some B_216_270) none) (cond (Nat.blt pc 305) (cond (Nat.beq pc 304) (some B_216_304) none) (cond (Nat.beq pc 305) (some B_216_305) none))))) (cond (Nat.blt pc 362) (cond (Nat.blt pc 336) (cond (Nat.blt pc 335) (cond (Nat.beq pc 332) (some B_216_332) none) (cond (Nat.beq pc 335) (some B_216_335) none)) (cond (Nat.blt pc 348) (cond (Nat.beq pc 336) (some B_216_336) none) (cond (Nat.blt pc 350) (cond (Nat.beq pc 348) (some B_216_348) none) (cond (Nat.beq pc 350) (some B_216_350) none)))) (cond (Nat.blt pc 377) (cond (Nat.blt pc 374) (cond (Nat.beq pc 362) (some B_216_362) none) (cond (Nat.beq pc 374) (some B_216_374) none)) (cond (Nat.blt pc 385) (cond (Nat.beq pc 377) (some B_216_377) none) (cond (Nat.blt pc 388) (cond (Nat.beq pc 385) (some B_216_385) none) (cond (Nat.beq pc 388) (some B_216_388) none)))))))
noncomputable def B_217_0 : XK := X_load xkR 0 <| X_load xkI 1 <| X_load xkI 2 <| X_callV 2 249 3 6
noncomputable def B_217_6 : XK := X_lstore 3 <| X_push (.inl 2) <| X_load xkL 3 <| X_l2i <| X_push (.inl 131071) <| X_ibin Nat.land xg_and <| X_ibin x_imul (xg0 x_imul) <| X_store xkI 5 <| X_load xkR 0 <| X_getf 2 1 <| X_getf 9 7 <| X_store xkR 6 <| X_load xkI 5 <| X_if p_lt d_lt 50 <| X_load xkI 5 <| X_push (.inl 1) <| X_ibin x_iadd xg_add <| X_push (.inl 262144) <| X_if2 p2_ge d_ge 50 <| X_push (.inl 262144) <| X_load xkR 6 <| X_alen <| X_if2 p2_le d_le 52 <| X_jump 50
noncomputable def B_217_52 : XK := X_push (.inr (.inl 134217728)) <| X_load xkL 3 <| X_push (.inl 17) <| X_lsh x_lushr xgn <| X_lbin Nat.lor xgL_or <| X_lstore 7 <| X_load xkR 6 <| X_load xkI 5 <| X_ald xt1 <| X_push (.inl 21) <| X_lsh x_lushr xgn <| X_load xkL 7 <| X_lcif pL_ne d_ne 87 <| X_load xkR 6 <| X_load xkI 5 <| X_ald xt1 <| X_l2i <| X_push (.inl 2097151) <| X_ibin Nat.land xg_and <| X_ret xkI
noncomputable def B_217_87 : XK := X_load xkR 6 <| X_load xkI 5 <| X_push (.inl 1) <| X_ibin x_iadd xg_add <| X_ald xt1 <| X_push (.inl 21) <| X_lsh x_lushr xgn <| X_load xkL 7 <| X_lcif pL_ne d_ne 118 <| X_stop
noncomputable def B_217_118 : XK := X_push (.inl 4294967295) <| X_jump 119
noncomputable def B_217_119 : XK := X_ret xkI
noncomputable def T_217 : Nat → Option XK := fun pc => (cond (Nat.blt pc 87) (cond (Nat.blt pc 6) (cond (Nat.beq pc 0) (some B_217_0) none) (cond (Nat.blt pc 52) (cond (Nat.beq pc 6) (some B_217_6) none) (cond (Nat.beq pc 52) (some B_217_52) none))) (cond (Nat.blt pc 118) (cond (Nat.beq pc 87) (some B_217_87) none) (cond (Nat.blt pc 119) (cond (Nat.beq pc 118) (some B_217_118) none) (cond (Nat.beq pc 119) (some B_217_119) none))))
noncomputable def B_218_0 : XK := X_load xkR 0 <| X_getf 2 1 <| X_load xkI 2 <| X_callV 9 246 2 8
noncomputable def B_218_8 : XK := X_push (.inl 254) <| X_if2 p2_gt d_gt 28 <| X_load xkR 0 <| X_getf 2 1 <| X_load xkI 3 <| X_callV 9 246 2 22
noncomputable def B_218_22 : XK := X_push (.inl 254) <| X_if2 p2_le d_le 30 <| X_jump 28
noncomputable def B_218_30 : XK := X_load xkR 0 <| X_load xkI 2 <| X_load xkR 0 <| X_getf 2 6 <| X_callV 2 250 3 39
noncomputable def B_218_39 : XK := X_load xkR 0 <| X_load xkI 3 <| X_load xkR 0 <| X_getf 2 7 <| X_callV 2 250 3 48
noncomputable def B_218_48 : XK := X_push (.inr (.inl 0)) <| X_lstore 4 <| X_push (.inl 0) <| X_store xkI 6 <| X_jump 54
noncomputable def B_218_54 : XK := X_load xkI 6 <| X_push (.inl 508) <| X_if2 p2_ge d_ge 331 <| X_load xkR 0 <| X_getf 2 6 <| X_getf 1 5 <| X_load xkR 0 <| X_getf 2 7 <| X_getf 1 5 <| X_ibin x_iadd xg_add <| X_if p_le d_le 331 <| X_load xkR 0 <| X_getf 2 6 <| X_callV 1 251 1 87
noncomputable def B_218_87 : XK := X_push (.inl 1) <| X_ibin x_isub xg_sub <| X_store xkI 7 <| X_load xkR 0 <| X_getf 2 7 <| X_callV 1 251 1 98
noncomputable def B_218_98 : XK := X_push (.inl 1) <| X_ibin x_isub xg_sub <| X_store xkI 8 <| X_load xkI 1 <| X_push (.inl 1) <| X_load xkI 7 <| X_load xkI 8 <| X_callS 252 4 111
noncomputable def B_218_111 : XK := X_store xkI 9 <| X_load xkI 1 <| X_push (.inl 0) <| X_load xkI 7 <| X_load xkI 8 <| X_callS 252 4 122
noncomputable def B_218_122 : XK := X_store xkI 10 <| X_load xkI 9 <| X_if p_ne d_ne 152 <| X_load xkI 10 <| X_if p_ne d_ne 162 <| X_load xkR 0 <| X_getf 2 6 <| X_callV 1 253 1 141
noncomputable def B_218_141 : XK := X_load xkR 0 <| X_getf 2 7 <| X_callV 1 253 1 148
noncomputable def B_218_148 : XK := X_lcif pL_ge d_ge 162 <| X_jump 152
noncomputable def B_218_152 : XK := X_load xkR 0 <| X_getf 2 6 <| X_callV 1 253 1 159
noncomputable def B_218_159 : XK := X_jump 169
noncomputable def B_218_162 : XK := X_load xkR 0 <| X_getf 2 7 <| X_callV 1 253 1 169
noncomputable def B_218_169 : XK := X_lstore 11 <| X_load xkI 9 <| X_if p_ne d_ne 181 <| X_load xkI 10 <| X_if p_eq d_eq 202 <| X_jump 181
noncomputable def B_218_181 : XK := X_load xkI 1 <| X_load xkI 9 <| X_load xkI 9 <| X_if p_eq d_eq 194 <| X_load xkI 7 <| X_jump 196
noncomputable def B_218_194 : XK := X_load xkI 8 <| X_jump 196
noncomputable def B_218_196 : XK := X_callS 254 3 199
noncomputable def B_218_199 : XK := X_jump 210
noncomputable def B_218_202 : XK := X_load xkI 1 <| X_load xkI 7 <| X_load xkI 8 <| X_callS 248 3 210
noncomputable def B_218_210 : XK := X_store xkI 13 <| X_load xkI 10 <| X_if p_ne d_ne 226 <| X_load xkR 0 <| X_getf 2 6 <| X_load xkL 11 <| X_callV 1 255 2 226
noncomputable def B_218_226 : XK := X_load xkI 9 <| X_if p_ne d_ne 240 <| X_load xkR 0 <| X_getf 2 7 <| X_load xkL 11 <| X_callV 1 255 2 240
noncomputable def B_218_240 : XK := X_load xkI 13 <| X_push (.inl 512) <| X_if2 p2_ne d_ne 255 <| X_load xkL 4 <| X_load xkL 11 <| X_lbin x_ladd xgn <| X_lstore 4 <| X_jump 255
noncomputable def B_218_255 : XK := X_load xkI 13 <| X_push (.inl 512) <| X_if2 p2_le d_le 291 <| X_load xkL 4 <| X_push (.inr (.inl 0)) <| X_lcif pL_le d_le 291 <| X_load xkR 0 <| X_getf 2 3 <| X_push (.inl 513) <| X_load xkL 4 <| X_push (.inl 513) <| X_callS 256 1 285
noncomputable def B_218_285 : XK := X_callV 5 257 4 288
noncomputable def B_218_288 : XK := X_push (.inr (.inl 0)) <| X_lstore 4 <| X_jump 291
noncomputable def B_218_291 : XK := X_load xkI 13 <| X_push (.inl 4294967295) <| X_if2 p2_eq d_eq 325 <| X_load xkI 13 <| X_push (.inl 512) <| X_if2 p2_eq d_eq 325 <| X_load xkR 0 <| X_getf 2 3 <| X_load xkI 13 <| X_push (.inl 1) <| X_ibin x_iadd xg_add <| X_load xkL 11 <| X_load xkI 13 <| X_push (.inl 1) <| X_ibin x_iadd xg_add <| X_callS 256 1 322
noncomputable def B_218_322 : XK := X_callV 5 257 4 325
noncomputable def B_218_325 : XK := X_iinc 6 1 <| X_jump 54
noncomputable def B_218_331 : XK := X_load xkL 4 <| X_push (.inr (.inl 0)) <| X_lcif pL_le d_le 356 <| X_load xkR 0 <| X_getf 2 3 <| X_push (.inl 513) <| X_load xkL 4 <| X_push (.inl 513) <| X_callS 256 1 353
noncomputable def B_218_353 : XK := X_callV 5 257 4 356
noncomputable def B_218_356 : XK := X_load xkR 0 <| X_getf 2 3 <| X_load xkR 0 <| X_getf 2 3 <| X_getf 5 3 <| X_load xkR 0 <| X_getf 2 3 <| X_getf 5 3 <| X_callV 5 231 3 377
noncomputable def B_218_377 : XK := X_ret xkI
noncomputable def T_218 : Nat → Option XK := fun pc => (cond (Nat.blt pc 181) (cond (Nat.blt pc 98) (cond (Nat.blt pc 39) (cond (Nat.blt pc 22) (cond (Nat.blt pc 8) (cond (Nat.beq pc 0) (some B_218_0) none) (cond (Nat.beq pc 8) (some B_218_8) none)) (cond (Nat.blt pc 30) (cond (Nat.beq pc 22) (some B_218_22) none) (cond (Nat.beq pc 30) (some B_218_30) none))) (cond (Nat.blt pc 54) (cond (Nat.blt pc 48) (cond (Nat.beq pc 39) (some B_218_39) none) (cond (Nat.beq pc 48) (some B_218_48) none)) (cond (Nat.blt pc 87) (cond (Nat.beq pc 54) (some B_218_54) none) (cond (Nat.beq pc 87) (some B_218_87) none)))) (cond (Nat.blt pc 148) (cond (Nat.blt pc 122) (cond (Nat.blt pc 111) (cond (Nat.beq pc 98) (some B_218_98) none) (cond (Nat.beq pc 111) (some B_218_111) none)) (cond (Nat.blt pc 141) (cond (Nat.beq pc 122) (some B_218_122) none) (cond (Nat.beq pc 141) (some B_218_141) none))) (cond (Nat.blt pc 159) (cond (Nat.blt pc 152) (cond (Nat.beq pc 148) (some B_218_148) none) (cond (Nat.beq pc 152) (some B_218_152) none)) (cond (Nat.blt pc 162) (cond (Nat.beq pc 159) (some B_218_159) none) (cond (Nat.blt pc 169) (cond (Nat.beq pc 162) (some B_218_162) none) (cond (Nat.beq pc 169) (some B_218_169) none)))))) (cond (Nat.blt pc 285) (cond (Nat.blt pc 202) (cond (Nat.blt pc 196) (cond (Nat.blt pc 194) (cond (Nat.beq pc 181) (some B_218_181) none) (cond (Nat.beq pc 194) (some B_218_194) none)) (cond (Nat.blt pc 199) (cond (Nat.beq pc 196) (some B_218_196) none) (cond (Nat.beq pc 199) (some B_218_199) none))) (cond (Nat.blt pc 226) (cond (Nat.blt pc 210) (cond (Nat.beq pc 202) (some B_218_202) none) (cond (Nat.beq pc 210) (some B_218_210) none)) (cond (Nat.blt pc 240) (cond (Nat.beq pc 226) (some B_218_226) none) (cond (Nat.blt pc 255) (cond (Nat.beq pc 240) (some B_218_240) none) (cond (Nat.beq pc 255) (some B_218_255) none))))) (cond (Nat.blt pc 325) (cond (Nat.blt pc 291) (cond (Nat.blt pc 288) (cond (Nat.beq pc 285) (some B_218_285) none) (cond (Nat.beq pc 288) (some B_218_288) none)) (cond (Nat.blt pc 322) (cond (Nat.beq pc 291) (some B_218_291) none) (cond (Nat.beq pc 322) (some B_218_322) none))) (cond (Nat.blt pc 353) (cond (Nat.blt pc 331) (cond (Nat.beq pc 325) (some B_218_325) none) (cond (Nat.beq pc 331) (some B_218_331) none)) (cond (Nat.blt pc 356) (cond (Nat.beq pc 353) (some B_218_353) none) (cond (Nat.blt pc 377) (cond (Nat.beq pc 356) (some B_218_356) none) (cond (Nat.beq pc 377) (some B_218_377) none)))))))
noncomputable def B_219_0 : XK := X_load xkR 0 <| X_load xkI 1 <| X_load xkI 2 <| X_callV 2 249 3 6
noncomputable def B_219_6 : XK := X_lstore 4 <| X_push (.inl 2) <| X_load xkL 4 <| X_l2i <| X_push (.inl 131071) <| X_ibin Nat.land xg_and <| X_ibin x_imul (xg0 x_imul) <| X_store xkI 6 <| X_load xkR 0 <| X_getf 2 1 <| X_getf 9 7 <| X_store xkR 7 <| X_load xkR 0 <| X_getf 2 1 <| X_getf 9 15 <| X_if p_ne d_ne 62 <| X_load xkI 6 <| X_if p_lt d_lt 62 <| X_load xkI 6 <| X_push (.inl 1) <| X_ibin x_iadd xg_add <| X_push (.inl 262144) <| X_if2 p2_ge d_ge 62 <| X_push (.inl 262144) <| X_load xkR 7 <| X_alen <| X_if2 p2_le d_le 63 <| X_jump 62
noncomputable def B_219_63 : XK := X_load xkR 7 <| X_load xkI 6 <| X_push (.inl 1) <| X_ibin x_iadd xg_add <| X_load xkR 7 <| X_load xkI 6 <| X_ald xt1 <| X_ast xt1 xkL <| X_load xkR 7 <| X_load xkI 6 <| X_push (.inr (.inl 134217728)) <| X_load xkL 4 <| X_push (.inl 17) <| X_lsh x_lushr xgn <| X_lbin Nat.lor xgL_or <| X_push (.inl 21) <| X_lsh x_lshl xgL_shl <| X_load xkI 3 <| X_i2l <| X_lbin Nat.lor xgL_or <| X_ast xt1 xkL <| X_vret
noncomputable def T_219 : Nat → Option XK := fun pc => (cond (Nat.blt pc 6) (cond (Nat.beq pc 0) (some B_219_0) none) (cond (Nat.blt pc 63) (cond (Nat.beq pc 6) (some B_219_6) none) (cond (Nat.beq pc 63) (some B_219_63) none)))
noncomputable def B_220_0 : XK := X_load xkI 1 <| X_store xkI 5 <| X_load xkL 2 <| X_lstore 6 <| X_push (.inr (.inl 0)) <| X_lstore 8 <| X_push (.inl 0) <| X_store xkI 10 <| X_jump 12
noncomputable def B_220_12 : XK := X_load xkI 10 <| X_push (.inl 1024) <| X_if2 p2_ge d_ge 232 <| X_load xkR 0 <| X_load xkI 5 <| X_callV 9 225 2 26
noncomputable def B_220_26 : XK := X_push (.inr (.inl 0)) <| X_lcif pL_le d_le 232 <| X_load xkR 0 <| X_load xkI 5 <| X_callV 9 258 2 37
noncomputable def B_220_37 : XK := X_if p_ne d_ne 232 <| X_load xkR 0 <| X_load xkI 5 <| X_callV 9 259 2 46
noncomputable def B_220_46 : XK := X_store xkI 11 <| X_load xkR 0 <| X_load xkI 11 <| X_callV 9 225 2 54
noncomputable def B_220_54 : XK := X_lstore 12 <| X_load xkR 0 <| X_load xkI 5 <| X_callV 9 260 2 62
noncomputable def B_220_62 : XK := X_if p_ne d_ne 145 <| X_stop
noncomputable def B_220_145 : XK := X_load xkL 6 <| X_load xkL 12 <| X_lcif pL_gt d_gt 166 <| X_load xkL 6 <| X_load xkL 12 <| X_lcif pL_ne d_ne 195 <| X_load xkI 4 <| X_if p_eq d_eq 195 <| X_jump 166
noncomputable def B_220_166 : XK := X_load xkL 6 <| X_load xkL 12 <| X_lbin x_lsub xgn <| X_lstore 6 <| X_load xkL 8 <| X_load xkR 0 <| X_load xkI 11 <| X_callV 9 226 2 181
noncomputable def B_220_181 : XK := X_lbin x_ladd xgn <| X_lstore 8 <| X_load xkR 0 <| X_load xkI 5 <| X_callV 9 261 2 190
noncomputable def B_220_190 : XK := X_store xkI 5 <| X_jump 226
noncomputable def B_220_226 : XK := X_iinc 10 1 <| X_jump 12
noncomputable def B_220_232 : XK := X_load xkR 0 <| X_load xkI 5 <| X_callV 9 225 2 238
noncomputable def B_220_238 : XK := X_push (.inr (.inl 0)) <| X_lcif pL_ne d_ne 263 <| X_load xkI 4 <| X_if p_eq d_eq 260 <| X_load xkL 8 <| X_load xkR 0 <| X_load xkI 5 <| X_callV 9 226 2 256
noncomputable def B_220_256 : XK := X_lbin x_ladd xgn <| X_jump 262
noncomputable def B_220_262 : XK := X_ret xkL
noncomputable def B_220_263 : XK := X_load xkR 0 <| X_load xkI 5 <| X_callV 9 247 2 269
noncomputable def B_220_269 : XK := X_push (.inl 512) <| X_if2 p2_ne d_ne 280 <| X_load xkL 8 <| X_jump 294
noncomputable def B_220_280 : XK := X_load xkL 8 <| X_load xkL 6 <| X_load xkR 0 <| X_load xkI 5 <| X_callV 9 225 2 290
noncomputable def B_220_290 : XK := X_lmin <| X_jump 293
noncomputable def B_220_293 : XK := X_lbin x_ladd xgn <| X_jump 294
noncomputable def B_220_294 : XK := X_ret xkL
noncomputable def T_220 : Nat → Option XK := fun pc => (cond (Nat.blt pc 226) (cond (Nat.blt pc 54) (cond (Nat.blt pc 26) (cond (Nat.blt pc 12) (cond (Nat.beq pc 0) (some B_220_0) none) (cond (Nat.beq pc 12) (some B_220_12) none)) (cond (Nat.blt pc 37) (cond (Nat.beq pc 26) (some B_220_26) none) (cond (Nat.blt pc 46) (cond (Nat.beq pc 37) (some B_220_37) none) (cond (Nat.beq pc 46) (some B_220_46) none)))) (cond (Nat.blt pc 166) (cond (Nat.blt pc 62) (cond (Nat.beq pc 54) (some B_220_54) none) (cond (Nat.blt pc 145) (cond (Nat.beq pc 62) (some B_220_62) none) (cond (Nat.beq pc 145) (some B_220_145) none))) (cond (Nat.blt pc 181) (cond (Nat.beq pc 166) (some B_220_166) none) (cond (Nat.blt pc 190) (cond (Nat.beq pc 181) (some B_220_181) none) (cond (Nat.beq pc 190) (some B_220_190) none))))) (cond (Nat.blt pc 263) (cond (Nat.blt pc 238) (cond (Nat.blt pc 232) (cond (Nat.beq pc 226) (some B_220_226) none) (cond (Nat.beq pc 232) (some B_220_232) none)) (cond (Nat.blt pc 256) (cond (Nat.beq pc 238) (some B_220_238) none) (cond (Nat.blt pc 262) (cond (Nat.beq pc 256) (some B_220_256) none) (cond (Nat.beq pc 262) (some B_220_262) none)))) (cond (Nat.blt pc 290) (cond (Nat.blt pc 269) (cond (Nat.beq pc 263) (some B_220_263) none) (cond (Nat.blt pc 280) (cond (Nat.beq pc 269) (some B_220_269) none) (cond (Nat.beq pc 280) (some B_220_280) none))) (cond (Nat.blt pc 293) (cond (Nat.beq pc 290) (some B_220_290) none) (cond (Nat.blt pc 294) (cond (Nat.beq pc 293) (some B_220_293) none) (cond (Nat.beq pc 294) (some B_220_294) none))))))
noncomputable def B_221_0 : XK := X_load xkI 1 <| X_load xkI 2 <| X_if2 p2_le d_le 46 <| X_stop
noncomputable def B_221_46 : XK := X_load xkI 1 <| X_if p_ge d_ge 59 <| X_stop
noncomputable def B_221_59 : XK := X_load xkI 2 <| X_load xkI 0 <| X_if2 p2_le d_le 73 <| X_stop
noncomputable def B_221_73 : XK := X_vret
noncomputable def T_221 : Nat → Option XK := fun pc => (cond (Nat.blt pc 59) (cond (Nat.blt pc 46) (cond (Nat.beq pc 0) (some B_221_0) none) (cond (Nat.beq pc 46) (some B_221_46) none)) (cond (Nat.blt pc 73) (cond (Nat.beq pc 59) (some B_221_59) none) (cond (Nat.beq pc 73) (some B_221_73) none)))
noncomputable def B_222_0 : XK := X_load xkI 1 <| X_if p_ne d_ne 6 <| X_push (.inr (.inl 0)) <| X_ret xkL
noncomputable def T_222 : Nat → Option XK := fun pc => (cond (Nat.beq pc 0) (some B_222_0) none)
noncomputable def B_223_0 : XK := X_push (.inl 0) <| X_store xkI 1 <| X_jump 2
noncomputable def B_223_2 : XK := X_load xkI 1 <| X_push (.inl 3) <| X_if2 p2_ge d_ge 79 <| X_jump 7
noncomputable def B_223_7 : XK := X_load xkR 0 <| X_getf 10 11 <| X_push (.inl 65536) <| X_if2 p2_ge d_ge 46 <| X_load xkR 0 <| X_getf 10 7 <| X_load xkR 0 <| X_getf 10 11 <| X_ald xt0 <| X_if p_ne d_ne 33 <| X_load xkR 0 <| X_getf 10 11 <| X_ret xkI
noncomputable def B_223_33 : XK := X_load xkR 0 <| X_dup <| X_getf 10 11 <| X_push (.inl 1) <| X_ibin x_iadd xg_add <| X_putf xkI 10 11 <| X_jump 7
noncomputable def T_223 : Nat → Option XK := fun pc => (cond (Nat.blt pc 7) (cond (Nat.blt pc 2) (cond (Nat.beq pc 0) (some B_223_0) none) (cond (Nat.beq pc 2) (some B_223_2) none)) (cond (Nat.blt pc 33) (cond (Nat.beq pc 7) (some B_223_7) none) (cond (Nat.beq pc 33) (some B_223_33) none)))
noncomputable def B_224_0 : XK := X_load xkR 0 <| X_getf 9 8 <| X_load xkR 0 <| X_getf 9 11 <| X_min <| X_jump 11
noncomputable def B_224_11 : XK := X_push (.inl 8192) <| X_if2 p2_ge d_ge 21 <| X_stop
noncomputable def B_224_21 : XK := X_push (.inl 0) <| X_jump 22
noncomputable def B_224_22 : XK := X_ret xk01
noncomputable def T_224 : Nat → Option XK := fun pc => (cond (Nat.blt pc 21) (cond (Nat.blt pc 11) (cond (Nat.beq pc 0) (some B_224_0) none) (cond (Nat.beq pc 11) (some B_224_11) none)) (cond (Nat.blt pc 22) (cond (Nat.beq pc 21) (some B_224_21) none) (cond (Nat.beq pc 22) (some B_224_22) none)))
noncomputable def B_225_0 : XK := X_load xkI 1 <| X_if p_le d_le 10 <| X_load xkI 1 <| X_push (.inl 1700000) <| X_if2 p2_lt d_lt 12 <| X_jump 10
noncomputable def B_225_10 : XK := X_push (.inr (.inl 0)) <| X_ret xkL
noncomputable def B_225_12 : XK := X_load xkR 0 <| X_getf 9 3 <| X_load xkI 1 <| X_ald xt1 <| X_push (.inl 32) <| X_lsh x_lushr xgn <| X_l2i <| X_store xkI 2 <| X_load xkR 0 <| X_getf 9 3 <| X_load xkI 1 <| X_ald xt1 <| X_push (.inr (.inl 4294967295)) <| X_lbin Nat.land xgL_and <| X_push (.inr (.inl 4294967295)) <| X_lcif pL_eq d_eq 50 <| X_load xkR 0 <| X_getf 9 3 <| X_load xkI 1 <| X_ald xt1 <| X_push (.inl 32) <| X_lsh x_lushr xgn <| X_ret xkL
noncomputable def T_225 : Nat → Option XK := fun pc => (cond (Nat.blt pc 10) (cond (Nat.beq pc 0) (some B_225_0) none) (cond (Nat.blt pc 12) (cond (Nat.beq pc 10) (some B_225_10) none) (cond (Nat.beq pc 12) (some B_225_12) none)))
noncomputable def B_226_0 : XK := X_load xkI 1 <| X_if p_le d_le 10 <| X_load xkI 1 <| X_push (.inl 1700000) <| X_if2 p2_lt d_lt 12 <| X_jump 10
noncomputable def B_226_10 : XK := X_push (.inr (.inl 0)) <| X_ret xkL
noncomputable def B_226_12 : XK := X_load xkR 0 <| X_getf 9 3 <| X_load xkI 1 <| X_ald xt1 <| X_push (.inl 32) <| X_lsh x_lushr xgn <| X_l2i <| X_store xkI 2 <| X_load xkR 0 <| X_getf 9 3 <| X_load xkI 1 <| X_ald xt1 <| X_push (.inr (.inl 4294967295)) <| X_lbin Nat.land xgL_and <| X_push (.inr (.inl 4294967295)) <| X_lcif pL_eq d_eq 51 <| X_load xkR 0 <| X_getf 9 3 <| X_load xkI 1 <| X_ald xt1 <| X_push (.inr (.inl 4294967295)) <| X_lbin Nat.land xgL_and <| X_ret xkL
noncomputable def T_226 : Nat → Option XK := fun pc => (cond (Nat.blt pc 10) (cond (Nat.beq pc 0) (some B_226_0) none) (cond (Nat.blt pc 12) (cond (Nat.beq pc 10) (some B_226_10) none) (cond (Nat.beq pc 12) (some B_226_12) none)))
noncomputable def B_227_0 : XK := X_load xkL 1 <| X_load xkL 3 <| X_load xkL 5 <| X_lbin x_ladd xgn <| X_callS 262 2 8
noncomputable def B_227_8 : XK := X_store xkI 7 <| X_load xkR 0 <| X_load xkI 7 <| X_callV 9 263 2 16
noncomputable def B_227_16 : XK := X_store xkI 8 <| X_push (.inl 0) <| X_store xkI 9 <| X_jump 21
noncomputable def B_227_21 : XK := X_load xkI 9 <| X_push (.inl 2550000) <| X_if2 p2_ge d_ge 111 <| X_load xkI 8 <| X_if p_le d_le 111 <| X_load xkI 8 <| X_push (.inl 1700000) <| X_if2 p2_ge d_ge 111 <| X_load xkR 0 <| X_getf 9 2 <| X_load xkI 8 <| X_ald xt1 <| X_load xkL 1 <| X_lcif pL_ne d_ne 78 <| X_load xkR 0 <| X_load xkI 8 <| X_callV 9 225 2 58
noncomputable def B_227_58 : XK := X_load xkL 3 <| X_lcif pL_ne d_ne 78 <| X_load xkR 0 <| X_load xkI 8 <| X_callV 9 226 2 69
noncomputable def B_227_69 : XK := X_load xkL 5 <| X_lcif pL_ne d_ne 78 <| X_load xkI 8 <| X_ret xkI
noncomputable def B_227_111 : XK := X_load xkR 0 <| X_callV 9 264 1 115
noncomputable def B_227_115 : XK := X_store xkI 9 <| X_load xkI 9 <| X_if p_le d_le 141 <| X_load xkI 9 <| X_push (.inl 1700000) <| X_if2 p2_ge d_ge 141 <| X_load xkR 0 <| X_load xkI 9 <| X_load xkL 3 <| X_load xkL 5 <| X_callV 9 265 4 138
noncomputable def B_227_138 : XK := X_if p_ne d_ne 155 <| X_jump 141
noncomputable def B_227_155 : XK := X_load xkR 0 <| X_getf 9 2 <| X_load xkI 9 <| X_load xkL 1 <| X_ast xt1 xkL <| X_load xkR 0 <| X_load xkI 9 <| X_load xkI 7 <| X_callV 9 266 3 171
noncomputable def B_227_171 : XK := X_load xkR 0 <| X_dup <| X_getf 9 8 <| X_push (.inl 1) <| X_ibin x_isub xg_sub <| X_putf xkI 9 8 <| X_load xkR 0 <| X_getf 9 12 <| X_load xkI 9 <| X_if2 p2_gt d_gt 198 <| X_load xkR 0 <| X_load xkI 9 <| X_push (.inl 1) <| X_ibin x_iadd xg_add <| X_putf xkI 9 12 <| X_jump 198
noncomputable def B_227_198 : XK := X_load xkI 9 <| X_ret xkI
noncomputable def T_227 : Nat → Option XK := fun pc => (cond (Nat.blt pc 111) (cond (Nat.blt pc 21) (cond (Nat.blt pc 8) (cond (Nat.beq pc 0) (some B_227_0) none) (cond (Nat.blt pc 16) (cond (Nat.beq pc 8) (some B_227_8) none) (cond (Nat.beq pc 16) (some B_227_16) none))) (cond (Nat.blt pc 58) (cond (Nat.beq pc 21) (some B_227_21) none) (cond (Nat.blt pc 69) (cond (Nat.beq pc 58) (some B_227_58) none) (cond (Nat.beq pc 69) (some B_227_69) none)))) (cond (Nat.blt pc 155) (cond (Nat.blt pc 115) (cond (Nat.beq pc 111) (some B_227_111) none) (cond (Nat.blt pc 138) (cond (Nat.beq pc 115) (some B_227_115) none) (cond (Nat.beq pc 138) (some B_227_138) none))) (cond (Nat.blt pc 171) (cond (Nat.beq pc 155) (some B_227_155) none) (cond (Nat.blt pc 198) (cond (Nat.beq pc 171) (some B_227_171) none) (cond (Nat.beq pc 198) (some B_227_198) none)))))
noncomputable def B_228_0 : XK := X_load xkI 1 <| X_if p_le d_le 29 <| X_load xkI 1 <| X_push (.inl 1700000) <| X_if2 p2_ge d_ge 29 <| X_load xkR 0 <| X_getf 9 2 <| X_load xkI 1 <| X_ald xt1 <| X_push (.inr (.inl 9007199254740992)) <| X_lbin Nat.land xgL_and <| X_push (.inr (.inl 0)) <| X_lcif pL_eq d_eq 29 <| X_push (.inl 1) <| X_jump 30
noncomputable def B_228_29 : XK := X_push (.inl 0) <| X_jump 30
noncomputable def B_228_30 : XK := X_ret xk01
noncomputable def T_228 : Nat → Option XK := fun pc => (cond (Nat.blt pc 29) (cond (Nat.beq pc 0) (some B_228_0) none) (cond (Nat.blt pc 30) (cond (Nat.beq pc 29) (some B_228_29) none) (cond (Nat.beq pc 30) (some B_228_30) none)))
noncomputable def B_229_0 : XK := X_load xkI 1 <| X_if p_le d_le 29 <| X_load xkI 1 <| X_push (.inl 1700000) <| X_if2 p2_ge d_ge 29 <| X_load xkR 0 <| X_getf 9 2 <| X_load xkI 1 <| X_ald xt1 <| X_push (.inr (.inl 2251799813685248)) <| X_lbin Nat.land xgL_and <| X_push (.inr (.inl 0)) <| X_lcif pL_eq d_eq 29 <| X_stop
noncomputable def B_229_29 : XK := X_push (.inl 0) <| X_jump 30
noncomputable def B_229_30 : XK := X_ret xk01
noncomputable def T_229 : Nat → Option XK := fun pc => (cond (Nat.blt pc 29) (cond (Nat.beq pc 0) (some B_229_0) none) (cond (Nat.blt pc 30) (cond (Nat.beq pc 29) (some B_229_29) none) (cond (Nat.beq pc 30) (some B_229_30) none)))
noncomputable def B_230_0 : XK := X_load xkR 0 <| X_getf 5 1 <| X_load xkI 1 <| X_callV 1 267 2 8
noncomputable def B_230_8 : XK := X_load xkR 0 <| X_getf 5 2 <| X_load xkI 2 <| X_callV 1 267 2 16
noncomputable def B_230_16 : XK := X_vret
noncomputable def T_230 : Nat → Option XK := fun pc => (cond (Nat.blt pc 8) (cond (Nat.beq pc 0) (some B_230_0) none) (cond (Nat.blt pc 16) (cond (Nat.beq pc 8) (some B_230_8) none) (cond (Nat.beq pc 16) (some B_230_16) none)))
noncomputable def B_231_0 : XK := X_push (.inl 0) <| X_store xkI 3 <| X_jump 2
noncomputable def B_231_2 : XK := X_load xkI 3 <| X_push (.inl 511) <| X_if2 p2_ge d_ge 486 <| X_load xkR 0 <| X_getf 5 8 <| X_load xkR 1 <| X_getf 1 5 <| X_ibin x_iadd xg_add <| X_load xkR 2 <| X_getf 1 5 <| X_ibin x_iadd xg_add <| X_push (.inl 1) <| X_if2 p2_le d_le 486 <| X_push (.inl 0) <| X_store xkI 4 <| X_push (.inl 0) <| X_store xkI 5 <| X_jump 33
noncomputable def B_231_33 : XK := X_load xkI 5 <| X_push (.inl 64) <| X_if2 p2_ge d_ge 296 <| X_load xkI 4 <| X_if p_ne d_ne 296 <| X_load xkR 1 <| X_load xkI 3 <| X_callV 1 268 2 50
noncomputable def B_231_50 : XK := X_store xkI 6 <| X_load xkR 2 <| X_load xkI 3 <| X_callV 1 268 2 57
noncomputable def B_231_57 : XK := X_store xkI 7 <| X_load xkR 0 <| X_getf 5 8 <| X_if p_le d_le 78 <| X_load xkR 0 <| X_getf 5 4 <| X_load xkR 0 <| X_getf 5 7 <| X_ald xt0 <| X_jump 80
noncomputable def B_231_78 : XK := X_load xkI 7 <| X_jump 80
noncomputable def B_231_80 : XK := X_store xkI 8 <| X_load xkR 0 <| X_getf 5 8 <| X_if p_le d_le 108 <| X_load xkR 0 <| X_getf 5 4 <| X_load xkR 0 <| X_getf 5 7 <| X_load xkR 0 <| X_getf 5 8 <| X_ibin x_iadd xg_add <| X_push (.inl 1) <| X_ibin x_isub xg_sub <| X_ald xt0 <| X_jump 110
noncomputable def B_231_108 : XK := X_load xkI 6 <| X_jump 110
noncomputable def B_231_110 : XK := X_store xkI 9 <| X_load xkR 0 <| X_getf 5 8 <| X_if p_le d_le 131 <| X_load xkR 0 <| X_getf 5 6 <| X_load xkR 0 <| X_getf 5 7 <| X_ald xt0 <| X_jump 135
noncomputable def B_231_131 : XK := X_load xkR 2 <| X_getf 1 8 <| X_jump 135
noncomputable def B_231_135 : XK := X_store xkI 10 <| X_load xkR 0 <| X_getf 5 8 <| X_if p_le d_le 163 <| X_load xkR 0 <| X_getf 5 6 <| X_load xkR 0 <| X_getf 5 7 <| X_load xkR 0 <| X_getf 5 8 <| X_ibin x_iadd xg_add <| X_push (.inl 1) <| X_ibin x_isub xg_sub <| X_ald xt0 <| X_jump 167
noncomputable def B_231_163 : XK := X_load xkR 1 <| X_getf 1 8 <| X_jump 167
noncomputable def B_231_167 : XK := X_store xkI 11 <| X_load xkI 6 <| X_if p_eq d_eq 211 <| X_load xkR 1 <| X_load xkI 3 <| X_callV 1 269 2 179
noncomputable def B_231_179 : XK := X_if p_ne d_ne 207 <| X_load xkI 6 <| X_load xkI 8 <| X_if2 p2_eq d_eq 207 <| X_load xkI 8 <| X_if p_eq d_eq 211 <| X_load xkR 1 <| X_getf 1 8 <| X_load xkI 10 <| X_load xkI 3 <| X_callS 270 3 204
noncomputable def B_231_204 : XK := X_if p_eq d_eq 211 <| X_jump 207
noncomputable def B_231_207 : XK := X_push (.inl 1) <| X_jump 212
noncomputable def B_231_211 : XK := X_push (.inl 0) <| X_jump 212
noncomputable def B_231_212 : XK := X_store xkI 12 <| X_load xkI 7 <| X_if p_eq d_eq 256 <| X_load xkR 2 <| X_load xkI 3 <| X_callV 1 269 2 224
noncomputable def B_231_224 : XK := X_if p_ne d_ne 252 <| X_load xkI 7 <| X_load xkI 9 <| X_if2 p2_eq d_eq 252 <| X_load xkI 9 <| X_if p_eq d_eq 256 <| X_load xkI 11 <| X_load xkR 2 <| X_getf 1 8 <| X_load xkI 3 <| X_callS 270 3 249
noncomputable def B_231_249 : XK := X_if p_eq d_eq 256 <| X_jump 252
noncomputable def B_231_252 : XK := X_push (.inl 1) <| X_jump 257
noncomputable def B_231_256 : XK := X_push (.inl 0) <| X_jump 257
noncomputable def B_231_257 : XK := X_store xkI 13 <| X_load xkI 12 <| X_if p_eq d_eq 273 <| X_load xkR 0 <| X_load xkR 1 <| X_load xkI 3 <| X_callV 5 271 3 270
noncomputable def B_231_270 : XK := X_jump 290
noncomputable def B_231_273 : XK := X_load xkI 13 <| X_if p_eq d_eq 287 <| X_load xkR 0 <| X_load xkR 2 <| X_load xkI 3 <| X_callV 5 272 3 284
noncomputable def B_231_284 : XK := X_jump 290
noncomputable def B_231_287 : XK := X_push (.inl 1) <| X_store xkI 4 <| X_jump 290
noncomputable def B_231_290 : XK := X_iinc 5 1 <| X_jump 33
noncomputable def B_231_296 : XK := X_load xkI 4 <| X_if p_ne d_ne 309 <| X_stop
noncomputable def B_231_309 : XK := X_load xkR 0 <| X_getf 5 8 <| X_push (.inl 2) <| X_if2 p2_ge d_ge 320 <| X_jump 480
noncomputable def B_231_320 : XK := X_load xkR 0 <| X_getf 5 7 <| X_load xkR 0 <| X_getf 5 8 <| X_ibin x_iadd xg_add <| X_store xkI 5 <| X_load xkR 0 <| X_push (.inl 0) <| X_putf xkI 5 8 <| X_load xkR 0 <| X_getf 5 7 <| X_store xkI 6 <| X_jump 342
noncomputable def B_231_342 : XK := X_load xkI 6 <| X_load xkI 5 <| X_if2 p2_ge d_ge 480 <| X_load xkR 0 <| X_getf 5 4 <| X_load xkI 6 <| X_ald xt0 <| X_store xkI 7 <| X_load xkR 0 <| X_getf 5 5 <| X_load xkI 6 <| X_ald xt1 <| X_lstore 8 <| X_load xkR 0 <| X_getf 5 6 <| X_load xkI 6 <| X_ald xt0 <| X_store xkI 10 <| X_load xkI 6 <| X_push (.inl 1) <| X_ibin x_iadd xg_add <| X_load xkI 5 <| X_if2 p2_ge d_ge 464 <| X_load xkI 10 <| X_load xkR 0 <| X_getf 5 6 <| X_load xkI 6 <| X_push (.inl 1) <| X_ibin x_iadd xg_add <| X_ald xt0 <| X_load xkI 3 <| X_callS 270 3 400
noncomputable def B_231_400 : XK := X_if p_eq d_eq 464 <| X_load xkR 0 <| X_getf 5 0 <| X_load xkI 7 <| X_load xkL 8 <| X_callV 9 273 3 414
noncomputable def B_231_414 : XK := X_store xkI 11 <| X_iinc 6 1 <| X_load xkR 0 <| X_getf 5 0 <| X_load xkI 11 <| X_load xkR 0 <| X_getf 5 0 <| X_load xkR 0 <| X_getf 5 4 <| X_load xkI 6 <| X_ald xt0 <| X_load xkR 0 <| X_getf 5 5 <| X_load xkI 6 <| X_ald xt1 <| X_callV 9 273 3 446
noncomputable def B_231_446 : XK := X_load xkI 3 <| X_push (.inl 1) <| X_ibin x_iadd xg_add <| X_callV 9 274 4 452
noncomputable def B_231_452 : XK := X_store xkI 7 <| X_push (.inr (.inl 1)) <| X_lstore 8 <| X_load xkI 7 <| X_callS 256 1 462
noncomputable def B_231_462 : XK := X_store xkI 10 <| X_jump 464
noncomputable def B_231_464 : XK := X_load xkR 0 <| X_load xkI 7 <| X_load xkL 8 <| X_load xkI 10 <| X_callV 5 257 4 474
noncomputable def B_231_474 : XK := X_iinc 6 1 <| X_jump 342
noncomputable def B_231_480 : XK := X_iinc 3 1 <| X_jump 2
noncomputable def B_231_486 : XK := X_load xkR 0 <| X_getf 5 8 <| X_load xkR 1 <| X_getf 1 5 <| X_ibin x_iadd xg_add <| X_load xkR 2 <| X_getf 1 5 <| X_ibin x_iadd xg_add <| X_push (.inl 1) <| X_if2 p2_le d_le 512 <| X_stop
noncomputable def B_231_512 : XK := X_load xkR 1 <| X_getf 1 5 <| X_if p_le d_le 523 <| X_stop
noncomputable def B_231_523 : XK := X_load xkR 2 <| X_jump 524
noncomputable def B_231_524 : XK := X_store xkR 3 <| X_load xkR 0 <| X_getf 5 8 <| X_if p_le d_le 544 <| X_load xkR 0 <| X_getf 5 4 <| X_load xkR 0 <| X_getf 5 7 <| X_ald xt0 <| X_jump 548
noncomputable def B_231_548 : XK := X_store xkI 4 <| X_load xkR 0 <| X_getf 5 8 <| X_if p_le d_le 569 <| X_load xkR 0 <| X_getf 5 5 <| X_load xkR 0 <| X_getf 5 7 <| X_ald xt1 <| X_jump 573
noncomputable def B_231_573 : XK := X_lstore 5 <| X_load xkR 0 <| X_push (.inl 2048) <| X_putf xkI 5 7 <| X_load xkR 0 <| X_push (.inl 0) <| X_putf xkI 5 8 <| X_load xkR 0 <| X_getf 5 0 <| X_load xkI 4 <| X_load xkL 5 <| X_callV 9 273 3 598
noncomputable def B_231_598 : XK := X_ret xkI
noncomputable def T_231 : Nat → Option XK := fun pc => (cond (Nat.blt pc 270) (cond (Nat.blt pc 163) (cond (Nat.blt pc 78) (cond (Nat.blt pc 33) (cond (Nat.blt pc 2) (cond (Nat.beq pc 0) (some B_231_0) none) (cond (Nat.beq pc 2) (some B_231_2) none)) (cond (Nat.blt pc 50) (cond (Nat.beq pc 33) (some B_231_33) none) (cond (Nat.blt pc 57) (cond (Nat.beq pc 50) (some B_231_50) none) (cond (Nat.beq pc 57) (some B_231_57) none)))) (cond (Nat.blt pc 110) (cond (Nat.blt pc 80) (cond (Nat.beq pc 78) (some B_231_78) none) (cond (Nat.blt pc 108) (cond (Nat.beq pc 80) (some B_231_80) none) (cond (Nat.beq pc 108) (some B_231_108) none))) (cond (Nat.blt pc 131) (cond (Nat.beq pc 110) (some B_231_110) none) (cond (Nat.blt pc 135) (cond (Nat.beq pc 131) (some B_231_131) none) (cond (Nat.beq pc 135) (some B_231_135) none))))) (cond (Nat.blt pc 212) (cond (Nat.blt pc 204) (cond (Nat.blt pc 167) (cond (Nat.beq pc 163) (some B_231_163) none) (cond (Nat.blt pc 179) (cond (Nat.beq pc 167) (some B_231_167) none) (cond (Nat.beq pc 179) (some B_231_179) none))) (cond (Nat.blt pc 207) (cond (Nat.beq pc 204) (some B_231_204) none) (cond (Nat.blt pc 211) (cond (Nat.beq pc 207) (some B_231_207) none) (cond (Nat.beq pc 211) (some B_231_211) none)))) (cond (Nat.blt pc 252) (cond (Nat.blt pc 224) (cond (Nat.beq pc 212) (some B_231_212) none) (cond (Nat.blt pc 249) (cond (Nat.beq pc 224) (some B_231_224) none) (cond (Nat.beq pc 249) (some B_231_249) none))) (cond (Nat.blt pc 256) (cond (Nat.beq pc 252) (some B_231_252) none) (cond (Nat.blt pc 257) (cond (Nat.beq pc 256) (some B_231_256) none) (cond (Nat.beq pc 257) (some B_231_257) none)))))) (cond (Nat.blt pc 452) (cond (Nat.blt pc 309) (cond (Nat.blt pc 287) (cond (Nat.blt pc 273) (cond (Nat.beq pc 270) (some B_231_270) none) (cond (Nat.blt pc 284) (cond (Nat.beq pc 273) (some B_231_273) none) (cond (Nat.beq pc 284) (some B_231_284) none))) (cond (Nat.blt pc 290) (cond (Nat.beq pc 287) (some B_231_287) none) (cond (Nat.blt pc 296) (cond (Nat.beq pc 290) (some B_231_290) none) (cond (Nat.beq pc 296) (some B_231_296) none)))) (cond (Nat.blt pc 400) (cond (Nat.blt pc 320) (cond (Nat.beq pc 309) (some B_231_309) none) (cond (Nat.blt pc 342) (cond (Nat.beq pc 320) (some B_231_320) none) (cond (Nat.beq pc 342) (some B_231_342) none))) (cond (Nat.blt pc 414) (cond (Nat.beq pc 400) (some B_231_400) none) (cond (Nat.blt pc 446) (cond (Nat.beq pc 414) (some B_231_414) none) (cond (Nat.beq pc 446) (some B_231_446) none))))) (cond (Nat.blt pc 512) (cond (Nat.blt pc 474) (cond (Nat.blt pc 462) (cond (Nat.beq pc 452) (some B_231_452) none) (cond (Nat.blt pc 464) (cond (Nat.beq pc 462) (some B_231_462) none) (cond (Nat.beq pc 464) (some B_231_464) none))) (cond (Nat.blt pc 480) (cond (Nat.beq pc 474) (some B_231_474) none) (cond (Nat.blt pc 486) (cond (Nat.beq pc 480) (some B_231_480) none) (cond (Nat.beq pc 486) (some B_231_486) none)))) (cond (Nat.blt pc 548) (cond (Nat.blt pc 523) (cond (Nat.beq pc 512) (some B_231_512) none) (cond (Nat.blt pc 524) (cond (Nat.beq pc 523) (some B_231_523) none) (cond (Nat.beq pc 524) (some B_231_524) none))) (cond (Nat.blt pc 573) (cond (Nat.beq pc 548) (some B_231_548) none) (cond (Nat.blt pc 598) (cond (Nat.beq pc 573) (some B_231_573) none) (cond (Nat.beq pc 598) (some B_231_598) none)))))))
noncomputable def B_232_0 : XK := X_load xkR 0 <| X_getf 12 10 <| X_load xkI 1 <| X_ald xt0 <| X_load xkR 0 <| X_getf 12 9 <| X_load xkI 1 <| X_ald xt3 <| X_load xkR 0 <| X_getf 12 10 <| X_load xkI 1 <| X_ald xt0 <| X_push (.inl 3145728) <| X_callS 275 3 23
noncomputable def B_232_23 : XK := X_ibin x_isub xg_sub <| X_ret xkI
noncomputable def T_232 : Nat → Option XK := fun pc => (cond (Nat.blt pc 23) (cond (Nat.beq pc 0) (some B_232_0) none) (cond (Nat.beq pc 23) (some B_232_23) none))
noncomputable def B_233_0 : XK := X_load xkI 0 <| X_push (.inl 7340032) <| X_ibin Nat.land xg_and <| X_ret xkI
noncomputable def T_233 : Nat → Option XK := fun pc => (cond (Nat.beq pc 0) (some B_233_0) none)
noncomputable def B_234_0 : XK := X_push (.inl 0) <| X_store xkI 2 <| X_push (.inl 0) <| X_store xkI 3 <| X_push (.inl 0) <| X_store xkI 4 <| X_jump 7
noncomputable def B_234_7 : XK := X_load xkI 4 <| X_load xkR 0 <| X_getf 12 10 <| X_load xkI 1 <| X_ald xt0 <| X_if2 p2_gt d_gt 124 <| X_load xkI 4 <| X_load xkR 0 <| X_getf 12 10 <| X_load xkI 1 <| X_ald xt0 <| X_if2 p2_ge d_ge 44 <| X_load xkR 0 <| X_getf 12 9 <| X_load xkI 1 <| X_ald xt3 <| X_load xkI 4 <| X_ald xt0 <| X_callS 233 1 41
noncomputable def B_234_41 : XK := X_jump 46
noncomputable def B_234_44 : XK := X_push (.inl 2097152) <| X_jump 46
noncomputable def B_234_46 : XK := X_store xkI 5 <| X_load xkI 5 <| X_push (.inl 3145728) <| X_if2 p2_ne d_ne 61 <| X_iinc 3 1 <| X_jump 118
noncomputable def B_234_61 : XK := X_load xkI 5 <| X_push (.inl 1048576) <| X_if2 p2_eq d_eq 89 <| X_load xkI 3 <| X_if p_le d_le 89 <| X_load xkR 0 <| X_getf 12 11 <| X_load xkI 2 <| X_push (.inl 3145728) <| X_ast xt0 xkI <| X_iinc 2 1 <| X_iinc 3 4294967295 <| X_jump 61
noncomputable def B_234_89 : XK := X_load xkI 4 <| X_load xkR 0 <| X_getf 12 10 <| X_load xkI 1 <| X_ald xt0 <| X_if2 p2_ge d_ge 118 <| X_load xkR 0 <| X_getf 12 11 <| X_load xkI 2 <| X_load xkR 0 <| X_getf 12 9 <| X_load xkI 1 <| X_ald xt3 <| X_load xkI 4 <| X_ald xt0 <| X_ast xt0 xkI <| X_iinc 2 1 <| X_jump 118
noncomputable def B_234_118 : XK := X_iinc 4 1 <| X_jump 7
noncomputable def B_234_124 : XK := X_push (.inl 0) <| X_store xkI 4 <| X_jump 127
noncomputable def B_234_127 : XK := X_load xkI 4 <| X_load xkI 2 <| X_if2 p2_ge d_ge 155 <| X_load xkR 0 <| X_getf 12 9 <| X_load xkI 1 <| X_ald xt3 <| X_load xkI 4 <| X_load xkR 0 <| X_getf 12 11 <| X_load xkI 4 <| X_ald xt0 <| X_ast xt0 xkI <| X_iinc 4 1 <| X_jump 127
noncomputable def B_234_155 : XK := X_vret
noncomputable def T_234 : Nat → Option XK := fun pc => (cond (Nat.blt pc 61) (cond (Nat.blt pc 41) (cond (Nat.blt pc 7) (cond (Nat.beq pc 0) (some B_234_0) none) (cond (Nat.beq pc 7) (some B_234_7) none)) (cond (Nat.blt pc 44) (cond (Nat.beq pc 41) (some B_234_41) none) (cond (Nat.blt pc 46) (cond (Nat.beq pc 44) (some B_234_44) none) (cond (Nat.beq pc 46) (some B_234_46) none)))) (cond (Nat.blt pc 124) (cond (Nat.blt pc 89) (cond (Nat.beq pc 61) (some B_234_61) none) (cond (Nat.blt pc 118) (cond (Nat.beq pc 89) (some B_234_89) none) (cond (Nat.beq pc 118) (some B_234_118) none))) (cond (Nat.blt pc 127) (cond (Nat.beq pc 124) (some B_234_124) none) (cond (Nat.blt pc 155) (cond (Nat.beq pc 127) (some B_234_127) none) (cond (Nat.beq pc 155) (some B_234_155) none)))))
noncomputable def B_235_0 : XK := X_load xkI 0 <| X_load xkI 1 <| X_push (.inl 4) <| X_ibin x_ishr (xg0 x_ishr) <| X_push (.inl 15) <| X_ibin Nat.land xg_and <| X_ibin Nat.lor xg_or <| X_load xkI 1 <| X_push (.inl 15) <| X_ibin Nat.land xg_and <| X_push (.inl 4294967295) <| X_ibin Nat.xor (xg0 Nat.xor) <| X_ibin Nat.land xg_and <| X_ret xkI
noncomputable def T_235 : Nat → Option XK := fun pc => (cond (Nat.beq pc 0) (some B_235_0) none)
noncomputable def B_236_0 : XK := X_push (.inl 0) <| X_store xkI 4 <| X_load xkI 1 <| X_store xkI 5 <| X_push (.inl 0) <| X_store xkI 6 <| X_jump 9
noncomputable def B_236_9 : XK := X_load xkI 6 <| X_load xkR 0 <| X_getf 12 10 <| X_load xkI 2 <| X_ald xt0 <| X_if2 p2_ge d_ge 102 <| X_load xkR 0 <| X_getf 12 9 <| X_load xkI 2 <| X_ald xt3 <| X_load xkI 6 <| X_ald xt0 <| X_callS 233 1 32
noncomputable def B_236_32 : XK := X_store xkI 7 <| X_load xkI 7 <| X_push (.inl 1048576) <| X_if2 p2_ne d_ne 70 <| X_load xkI 5 <| X_load xkI 4 <| X_load xkI 1 <| X_if2 p2_lt d_lt 59 <| X_load xkI 3 <| X_if p_eq d_eq 63 <| X_load xkI 4 <| X_load xkI 1 <| X_if2 p2_ne d_ne 63 <| X_jump 59
noncomputable def B_236_59 : XK := X_push (.inl 1) <| X_jump 64
noncomputable def B_236_64 : XK := X_ibin x_iadd xg_add <| X_store xkI 5 <| X_jump 96
noncomputable def B_236_70 : XK := X_load xkI 5 <| X_load xkI 7 <| X_push (.inl 3145728) <| X_if2 p2_ne d_ne 89 <| X_load xkI 4 <| X_load xkI 1 <| X_if2 p2_ge d_ge 89 <| X_push (.inl 1) <| X_jump 90
noncomputable def B_236_89 : XK := X_push (.inl 0) <| X_jump 90
noncomputable def B_236_90 : XK := X_ibin x_isub xg_sub <| X_store xkI 5 <| X_iinc 4 1 <| X_jump 96
noncomputable def B_236_96 : XK := X_iinc 6 1 <| X_jump 9
noncomputable def B_236_102 : XK := X_load xkI 5 <| X_ret xkI
noncomputable def T_236 : Nat → Option XK := fun pc => (cond (Nat.blt pc 70) (cond (Nat.blt pc 32) (cond (Nat.blt pc 9) (cond (Nat.beq pc 0) (some B_236_0) none) (cond (Nat.beq pc 9) (some B_236_9) none)) (cond (Nat.blt pc 59) (cond (Nat.beq pc 32) (some B_236_32) none) (cond (Nat.blt pc 64) (cond (Nat.beq pc 59) (some B_236_59) none) (cond (Nat.beq pc 64) (some B_236_64) none)))) (cond (Nat.blt pc 90) (cond (Nat.blt pc 89) (cond (Nat.beq pc 70) (some B_236_70) none) (cond (Nat.beq pc 89) (some B_236_89) none)) (cond (Nat.blt pc 96) (cond (Nat.beq pc 90) (some B_236_90) none) (cond (Nat.blt pc 102) (cond (Nat.beq pc 96) (some B_236_96) none) (cond (Nat.beq pc 102) (some B_236_102) none)))))
noncomputable def B_237_0 : XK := X_load xkI 2 <| X_callS 233 1 4
noncomputable def B_237_4 : XK := X_push (.inl 2097152) <| X_if2 p2_ne d_ne 18 <| X_load xkR 0 <| X_load xkI 3 <| X_load xkI 1 <| X_callV 12 196 3 15
noncomputable def B_237_15 : XK := X_jump 155
noncomputable def B_237_18 : XK := X_load xkI 1 <| X_callS 233 1 22
noncomputable def B_237_22 : XK := X_push (.inl 1048576) <| X_if2 p2_ne d_ne 71 <| X_load xkI 2 <| X_callS 233 1 31
noncomputable def B_237_31 : XK := X_push (.inl 4194304) <| X_if2 p2_ne d_ne 155 <| X_load xkI 1 <| X_push (.inl 8) <| X_ibin x_ishr (xg0 x_ishr) <| X_push (.inl 15) <| X_ibin Nat.land xg_and <| X_load xkI 2 <| X_callS 235 2 47
noncomputable def B_237_47 : XK := X_store xkI 4 <| X_load xkR 0 <| X_load xkI 3 <| X_push (.inl 1048576) <| X_load xkI 4 <| X_push (.inl 8) <| X_ibin x_ishl xg_shl <| X_ibin Nat.lor xg_or <| X_load xkI 1 <| X_push (.inl 255) <| X_ibin Nat.land xg_and <| X_ibin Nat.lor xg_or <| X_callV 12 196 3 68
noncomputable def B_237_68 : XK := X_jump 155
noncomputable def B_237_155 : XK := X_vret
noncomputable def T_237 : Nat → Option XK := fun pc => (cond (Nat.blt pc 22) (cond (Nat.blt pc 15) (cond (Nat.blt pc 4) (cond (Nat.beq pc 0) (some B_237_0) none) (cond (Nat.beq pc 4) (some B_237_4) none)) (cond (Nat.blt pc 18) (cond (Nat.beq pc 15) (some B_237_15) none) (cond (Nat.beq pc 18) (some B_237_18) none))) (cond (Nat.blt pc 47) (cond (Nat.blt pc 31) (cond (Nat.beq pc 22) (some B_237_22) none) (cond (Nat.beq pc 31) (some B_237_31) none)) (cond (Nat.blt pc 68) (cond (Nat.beq pc 47) (some B_237_47) none) (cond (Nat.blt pc 155) (cond (Nat.beq pc 68) (some B_237_68) none) (cond (Nat.beq pc 155) (some B_237_155) none)))))
noncomputable def B_238_0 : XK := X_load xkI 2 <| X_callS 233 1 4
noncomputable def B_238_4 : XK := X_push (.inl 3145728) <| X_if2 p2_ne d_ne 10 <| X_vret
noncomputable def B_238_10 : XK := X_load xkI 1 <| X_callS 233 1 14
noncomputable def B_238_14 : XK := X_push (.inl 4194304) <| X_if2 p2_ne d_ne 89 <| X_stop
noncomputable def B_238_89 : XK := X_load xkR 0 <| X_load xkI 4 <| X_load xkI 1 <| X_callV 12 196 3 96
noncomputable def B_238_96 : XK := X_vret
noncomputable def T_238 : Nat → Option XK := fun pc => (cond (Nat.blt pc 14) (cond (Nat.blt pc 4) (cond (Nat.beq pc 0) (some B_238_0) none) (cond (Nat.blt pc 10) (cond (Nat.beq pc 4) (some B_238_4) none) (cond (Nat.beq pc 10) (some B_238_10) none))) (cond (Nat.blt pc 89) (cond (Nat.beq pc 14) (some B_238_14) none) (cond (Nat.blt pc 96) (cond (Nat.beq pc 89) (some B_238_89) none) (cond (Nat.beq pc 96) (some B_238_96) none))))
noncomputable def B_239_0 : XK := X_load xkI 1 <| X_callS 191 1 4
noncomputable def B_239_4 : XK := X_if p_eq d_eq 37 <| X_load xkR 0 <| X_getf 10 7 <| X_load xkI 1 <| X_ald xt0 <| X_push (.inl 1) <| X_ibin Nat.land xg_and <| X_if p_eq d_eq 37 <| X_load xkR 0 <| X_getf 10 4 <| X_load xkI 1 <| X_ald xt1 <| X_push (.inr (.inl 68719476736)) <| X_lbin Nat.land xgL_and <| X_push (.inr (.inl 0)) <| X_lcif pL_eq d_eq 37 <| X_stop
noncomputable def B_239_37 : XK := X_push (.inl 0) <| X_jump 38
noncomputable def B_239_38 : XK := X_ret xk01
noncomputable def T_239 : Nat → Option XK := fun pc => (cond (Nat.blt pc 37) (cond (Nat.blt pc 4) (cond (Nat.beq pc 0) (some B_239_0) none) (cond (Nat.beq pc 4) (some B_239_4) none)) (cond (Nat.blt pc 38) (cond (Nat.beq pc 37) (some B_239_37) none) (cond (Nat.beq pc 38) (some B_239_38) none)))
noncomputable def B_240_0 : XK := X_load xkI 1 <| X_if p_le d_le 23 <| X_load xkI 1 <| X_push (.inl 65536) <| X_if2 p2_ge d_ge 23 <| X_load xkR 0 <| X_getf 10 4 <| X_load xkI 1 <| X_ald xt1 <| X_l2i <| X_push (.inl 65535) <| X_ibin Nat.land xg_and <| X_jump 24
noncomputable def B_240_23 : XK := X_push (.inl 0) <| X_jump 24
noncomputable def B_240_24 : XK := X_ret xkI
noncomputable def T_240 : Nat → Option XK := fun pc => (cond (Nat.blt pc 23) (cond (Nat.beq pc 0) (some B_240_0) none) (cond (Nat.blt pc 24) (cond (Nat.beq pc 23) (some B_240_23) none) (cond (Nat.beq pc 24) (some B_240_24) none)))
noncomputable def B_241_0 : XK := X_load xkR 0 <| X_callV 10 223 1 4
noncomputable def B_241_4 : XK := X_store xkI 4 <| X_load xkI 4 <| X_callS 191 1 11
noncomputable def B_241_11 : XK := X_if p_ne d_ne 21 <| X_stop
noncomputable def B_241_21 : XK := X_load xkI 1 <| X_push (.inl 2) <| X_if2 p2_eq d_eq 31 <| X_load xkI 1 <| X_push (.inl 1) <| X_if2 p2_ne d_ne 35 <| X_jump 31
noncomputable def B_241_31 : XK := X_push (.inl 1) <| X_jump 36
noncomputable def B_241_35 : XK := X_push (.inl 0) <| X_jump 36
noncomputable def B_241_36 : XK := X_store xkI 5 <| X_load xkR 0 <| X_load xkI 2 <| X_callV 10 276 2 43
noncomputable def B_241_43 : XK := X_store xkI 6 <| X_load xkI 1 <| X_if p_ne d_ne 69 <| X_load xkI 6 <| X_if p_ne d_ne 62 <| X_load xkR 0 <| X_load xkI 3 <| X_callV 10 276 2 59
noncomputable def B_241_59 : XK := X_if p_eq d_eq 66 <| X_jump 62
noncomputable def B_241_62 : XK := X_push (.inl 1) <| X_jump 67
noncomputable def B_241_66 : XK := X_push (.inl 0) <| X_jump 67
noncomputable def B_241_67 : XK := X_store xkI 6 <| X_jump 69
noncomputable def B_241_69 : XK := X_load xkI 1 <| X_push (.inl 3) <| X_if2 p2_ne d_ne 112 <| X_load xkI 6 <| X_if p_ne d_ne 105 <| X_load xkR 0 <| X_load xkI 2 <| X_callV 10 277 2 84
noncomputable def B_241_84 : XK := X_push (.inr (.inl 18446744073709551615)) <| X_lcif pL_eq d_eq 105 <| X_load xkR 0 <| X_load xkI 2 <| X_callV 10 138 2 96
noncomputable def B_241_96 : XK := X_load xkR 0 <| X_load xkI 2 <| X_callV 10 277 2 101
noncomputable def B_241_101 : XK := X_lcif pL_eq d_eq 109 <| X_jump 105
noncomputable def B_241_105 : XK := X_push (.inl 1) <| X_jump 110
noncomputable def B_241_109 : XK := X_push (.inl 0) <| X_jump 110
noncomputable def B_241_110 : XK := X_store xkI 6 <| X_jump 112
noncomputable def B_241_112 : XK := X_load xkI 1 <| X_push (.inl 3) <| X_if2 p2_ne d_ne 125 <| X_load xkR 0 <| X_load xkI 2 <| X_callV 10 277 2 122
noncomputable def B_241_122 : XK := X_jump 130
noncomputable def B_241_125 : XK := X_load xkR 0 <| X_load xkI 3 <| X_callV 10 138 2 130
noncomputable def B_241_130 : XK := X_lstore 7 <| X_load xkI 5 <| X_if p_eq d_eq 220 <| X_load xkL 7 <| X_push (.inr (.inl 18446744073709551615)) <| X_lcif pL_eq d_eq 220 <| X_load xkR 0 <| X_load xkI 2 <| X_callV 10 277 2 151
noncomputable def B_241_151 : XK := X_push (.inr (.inl 18446744073709551615)) <| X_lcif pL_eq d_eq 190 <| X_load xkR 0 <| X_load xkI 2 <| X_callV 10 138 2 163
noncomputable def B_241_163 : XK := X_push (.inr (.inl 18446744073709551615)) <| X_lcif pL_eq d_eq 190 <| X_load xkR 0 <| X_load xkI 2 <| X_callV 10 276 2 175
noncomputable def B_241_175 : XK := X_if p_eq d_eq 186 <| X_load xkR 0 <| X_load xkI 3 <| X_callV 10 276 2 183
noncomputable def B_241_183 : XK := X_if p_ne d_ne 190 <| X_jump 186
noncomputable def B_241_186 : XK := X_push (.inl 1) <| X_jump 191
noncomputable def B_241_191 : XK := X_store xkI 9 <| X_load xkI 9 <| X_if p_eq d_eq 215 <| X_load xkL 7 <| X_load xkR 0 <| X_load xkI 2 <| X_callV 10 138 2 205
noncomputable def B_241_205 : XK := X_lbin x_ladd xgn <| X_load xkR 0 <| X_load xkI 2 <| X_callV 10 277 2 211
noncomputable def B_241_211 : XK := X_lbin x_lsub xgn <| X_jump 218
noncomputable def B_241_218 : XK := X_lstore 7 <| X_jump 220
noncomputable def B_241_220 : XK := X_load xkR 0 <| X_getf 10 4 <| X_load xkI 4 <| X_push (.inr (.inl 34359738368)) <| X_load xkI 1 <| X_i2l <| X_push (.inl 32) <| X_lsh x_lshl xgL_shl <| X_lbin Nat.lor xgL_or <| X_load xkI 2 <| X_i2l <| X_push (.inl 16) <| X_lsh x_lshl xgL_shl <| X_lbin Nat.lor xgL_or <| X_load xkI 3 <| X_i2l <| X_lbin Nat.lor xgL_or <| X_ast xt1 xkL <| X_load xkR 0 <| X_getf 10 7 <| X_load xkI 4 <| X_load xkI 6 <| X_if p_eq d_eq 260 <| X_push (.inl 5) <| X_jump 261
noncomputable def B_241_260 : XK := X_push (.inl 1) <| X_jump 261
noncomputable def B_241_261 : XK := X_ast xt0 xkI <| X_load xkR 0 <| X_getf 10 5 <| X_load xkI 4 <| X_load xkI 1 <| X_if p_ne d_ne 280 <| X_load xkR 0 <| X_load xkI 2 <| X_callV 10 277 2 277
noncomputable def B_241_277 : XK := X_jump 298
noncomputable def B_241_280 : XK := X_load xkI 1 <| X_push (.inl 3) <| X_if2 p2_ne d_ne 293 <| X_load xkR 0 <| X_load xkI 2 <| X_callV 10 138 2 290
noncomputable def B_241_290 : XK := X_jump 298
noncomputable def B_241_293 : XK := X_load xkR 0 <| X_load xkI 3 <| X_callV 10 138 2 298
noncomputable def B_241_298 : XK := X_ast xt1 xkL <| X_load xkR 0 <| X_getf 10 6 <| X_load xkI 4 <| X_load xkR 0 <| X_getf 10 5 <| X_load xkI 4 <| X_ald xt1 <| X_push (.inr (.inl 18446744073709551615)) <| X_lcif pL_eq d_eq 328 <| X_load xkL 7 <| X_push (.inr (.inl 18446744073709551615)) <| X_lcif pL_ne d_ne 334 <| X_jump 328
noncomputable def B_241_334 : XK := X_load xkR 0 <| X_getf 10 5 <| X_load xkI 4 <| X_ald xt1 <| X_load xkL 7 <| X_lbin x_ladd xgn <| X_jump 344
noncomputable def B_241_344 : XK := X_ast xt1 xkL <| X_load xkI 4 <| X_ret xkI
noncomputable def T_241 : Nat → Option XK := fun pc => (cond (Nat.blt pc 125) (cond (Nat.blt pc 66) (cond (Nat.blt pc 35) (cond (Nat.blt pc 11) (cond (Nat.blt pc 4) (cond (Nat.beq pc 0) (some B_241_0) none) (cond (Nat.beq pc 4) (some B_241_4) none)) (cond (Nat.blt pc 21) (cond (Nat.beq pc 11) (some B_241_11) none) (cond (Nat.blt pc 31) (cond (Nat.beq pc 21) (some B_241_21) none) (cond (Nat.beq pc 31) (some B_241_31) none)))) (cond (Nat.blt pc 43) (cond (Nat.blt pc 36) (cond (Nat.beq pc 35) (some B_241_35) none) (cond (Nat.beq pc 36) (some B_241_36) none)) (cond (Nat.blt pc 59) (cond (Nat.beq pc 43) (some B_241_43) none) (cond (Nat.blt pc 62) (cond (Nat.beq pc 59) (some B_241_59) none) (cond (Nat.beq pc 62) (some B_241_62) none))))) (cond (Nat.blt pc 101) (cond (Nat.blt pc 69) (cond (Nat.blt pc 67) (cond (Nat.beq pc 66) (some B_241_66) none) (cond (Nat.beq pc 67) (some B_241_67) none)) (cond (Nat.blt pc 84) (cond (Nat.beq pc 69) (some B_241_69) none) (cond (Nat.blt pc 96) (cond (Nat.beq pc 84) (some B_241_84) none) (cond (Nat.beq pc 96) (some B_241_96) none)))) (cond (Nat.blt pc 110) (cond (Nat.blt pc 105) (cond (Nat.beq pc 101) (some B_241_101) none) (cond (Nat.blt pc 109) (cond (Nat.beq pc 105) (some B_241_105) none) (cond (Nat.beq pc 109) (some B_241_109) none))) (cond (Nat.blt pc 112) (cond (Nat.beq pc 110) (some B_241_110) none) (cond (Nat.blt pc 122) (cond (Nat.beq pc 112) (some B_241_112) none) (cond (Nat.beq pc 122) (some B_241_122) none)))))) (cond (Nat.blt pc 218) (cond (Nat.blt pc 183) (cond (Nat.blt pc 151) (cond (Nat.blt pc 130) (cond (Nat.beq pc 125) (some B_241_125) none) (cond (Nat.beq pc 130) (some B_241_130) none)) (cond (Nat.blt pc 163) (cond (Nat.beq pc 151) (some B_241_151) none) (cond (Nat.blt pc 175) (cond (Nat.beq pc 163) (some B_241_163) none) (cond (Nat.beq pc 175) (some B_241_175) none)))) (cond (Nat.blt pc 191) (cond (Nat.blt pc 186) (cond (Nat.beq pc 183) (some B_241_183) none) (cond (Nat.beq pc 186) (some B_241_186) none)) (cond (Nat.blt pc 205) (cond (Nat.beq pc 191) (some B_241_191) none) (cond (Nat.blt pc 211) (cond (Nat.beq pc 205) (some B_241_205) none) (cond (Nat.beq pc 211) (some B_241_211) none))))) (cond (Nat.blt pc 280) (cond (Nat.blt pc 260) (cond (Nat.blt pc 220) (cond (Nat.beq pc 218) (some B_241_218) none) (cond (Nat.beq pc 220) (some B_241_220) none)) (cond (Nat.blt pc 261) (cond (Nat.beq pc 260) (some B_241_260) none) (cond (Nat.blt pc 277) (cond (Nat.beq pc 261) (some B_241_261) none) (cond (Nat.beq pc 277) (some B_241_277) none)))) (cond (Nat.blt pc 298) (cond (Nat.blt pc 290) (cond (Nat.beq pc 280) (some B_241_280) none) (cond (Nat.blt pc 293) (cond (Nat.beq pc 290) (some B_241_290) none) (cond (Nat.beq pc 293) (some B_241_293) none))) (cond (Nat.blt pc 334) (cond (Nat.beq pc 298) (some B_241_298) none) (cond (Nat.blt pc 344) (cond (Nat.beq pc 334) (some B_241_334) none) (cond (Nat.beq pc 344) (some B_241_344) none)))))))
noncomputable def B_242_0 : XK := X_load xkI 1 <| X_if p_le d_le 26 <| X_load xkI 1 <| X_push (.inl 65536) <| X_if2 p2_ge d_ge 26 <| X_load xkR 0 <| X_getf 10 4 <| X_load xkI 1 <| X_ald xt1 <| X_push (.inl 16) <| X_lsh x_lshr xgL_shr <| X_l2i <| X_push (.inl 65535) <| X_ibin Nat.land xg_and <| X_jump 27
noncomputable def B_242_27 : XK := X_ret xkI
noncomputable def T_242 : Nat → Option XK := fun pc => (cond (Nat.blt pc 27) (cond (Nat.beq pc 0) (some B_242_0) none) (cond (Nat.beq pc 27) (some B_242_27) none))
noncomputable def B_243_0 : XK := X_load xkR 0 <| X_getf 2 11 <| X_push (.inl 4096) <| X_if2 p2_lt d_lt 19 <| X_stop
noncomputable def B_243_19 : XK := X_load xkR 0 <| X_getf 2 11 <| X_push (.inl 5) <| X_ibin x_imul (xg0 x_imul) <| X_store xkI 3 <| X_load xkR 0 <| X_getf 2 5 <| X_load xkI 3 <| X_push (.inl 0) <| X_ibin x_iadd xg_add <| X_load xkI 1 <| X_callS 244 3 37
noncomputable def B_243_37 : XK := X_load xkR 0 <| X_getf 2 5 <| X_load xkI 3 <| X_push (.inl 1) <| X_ibin x_iadd xg_add <| X_load xkI 2 <| X_callS 244 3 48
noncomputable def B_243_48 : XK := X_load xkR 0 <| X_getf 2 5 <| X_load xkI 3 <| X_push (.inl 4) <| X_ibin x_iadd xg_add <| X_push (.inl 4294967295) <| X_callS 244 3 59
noncomputable def B_243_59 : XK := X_load xkR 0 <| X_dup <| X_getf 2 11 <| X_push (.inl 1) <| X_ibin x_iadd xg_add <| X_putf xkI 2 11 <| X_vret
noncomputable def T_243 : Nat → Option XK := fun pc => (cond (Nat.blt pc 37) (cond (Nat.blt pc 19) (cond (Nat.beq pc 0) (some B_243_0) none) (cond (Nat.beq pc 19) (some B_243_19) none)) (cond (Nat.blt pc 48) (cond (Nat.beq pc 37) (some B_243_37) none) (cond (Nat.blt pc 59) (cond (Nat.beq pc 48) (some B_243_48) none) (cond (Nat.beq pc 59) (some B_243_59) none))))
noncomputable def B_244_0 : XK := X_load xkI 1 <| X_if p_lt d_lt 14 <| X_load xkI 1 <| X_load xkR 0 <| X_alen <| X_if2 p2_ge d_ge 14 <| X_load xkR 0 <| X_load xkI 1 <| X_load xkI 2 <| X_ast xt0 xkI <| X_jump 14
noncomputable def B_244_14 : XK := X_vret
noncomputable def T_244 : Nat → Option XK := fun pc => (cond (Nat.blt pc 14) (cond (Nat.beq pc 0) (some B_244_0) none) (cond (Nat.beq pc 14) (some B_244_14) none))
noncomputable def B_245_0 : XK := X_load xkI 1 <| X_if p_le d_le 29 <| X_load xkI 1 <| X_push (.inl 1700000) <| X_if2 p2_ge d_ge 29 <| X_load xkR 0 <| X_getf 9 2 <| X_load xkI 1 <| X_ald xt1 <| X_push (.inr (.inl 18014398509481984)) <| X_lbin Nat.land xgL_and <| X_push (.inr (.inl 0)) <| X_lcif pL_eq d_eq 29 <| X_push (.inl 1) <| X_jump 30
noncomputable def B_245_29 : XK := X_push (.inl 0) <| X_jump 30
noncomputable def B_245_30 : XK := X_ret xk01
noncomputable def T_245 : Nat → Option XK := fun pc => (cond (Nat.blt pc 29) (cond (Nat.beq pc 0) (some B_245_0) none) (cond (Nat.blt pc 30) (cond (Nat.beq pc 29) (some B_245_29) none) (cond (Nat.beq pc 30) (some B_245_30) none)))
noncomputable def B_246_0 : XK := X_load xkI 1 <| X_if p_le d_le 23 <| X_load xkI 1 <| X_push (.inl 1700000) <| X_if2 p2_ge d_ge 23 <| X_load xkR 0 <| X_getf 9 2 <| X_load xkI 1 <| X_ald xt1 <| X_push (.inl 56) <| X_lsh x_lushr xgn <| X_l2i <| X_jump 24
noncomputable def B_246_23 : XK := X_push (.inl 0) <| X_jump 24
noncomputable def B_246_24 : XK := X_ret xkI
noncomputable def T_246 : Nat → Option XK := fun pc => (cond (Nat.blt pc 23) (cond (Nat.beq pc 0) (some B_246_0) none) (cond (Nat.blt pc 24) (cond (Nat.beq pc 23) (some B_246_23) none) (cond (Nat.beq pc 24) (some B_246_24) none)))
noncomputable def B_247_0 : XK := X_load xkR 0 <| X_load xkI 1 <| X_callV 9 278 2 5
noncomputable def B_247_5 : XK := X_store xkI 2 <| X_load xkI 2 <| X_if p_le d_le 23 <| X_load xkI 2 <| X_push (.inl 1024) <| X_if2 p2_gt d_gt 23 <| X_load xkI 2 <| X_push (.inl 1) <| X_ibin x_isub xg_sub <| X_jump 24
noncomputable def B_247_23 : XK := X_push (.inl 4294967295) <| X_jump 24
noncomputable def B_247_24 : XK := X_ret xkI
noncomputable def T_247 : Nat → Option XK := fun pc => (cond (Nat.blt pc 23) (cond (Nat.blt pc 5) (cond (Nat.beq pc 0) (some B_247_0) none) (cond (Nat.beq pc 5) (some B_247_5) none)) (cond (Nat.blt pc 24) (cond (Nat.beq pc 23) (some B_247_23) none) (cond (Nat.beq pc 24) (some B_247_24) none)))
noncomputable def B_248_0 : XK := X_load xkI 1 <| X_push (.inl 4) <| X_ibin x_ishr (xg0 x_ishr) <| X_push (.inl 15) <| X_ibin Nat.land xg_and <| X_store xkI 3 <| X_load xkI 1 <| X_push (.inl 15) <| X_ibin Nat.land xg_and <| X_store xkI 4 <| X_load xkI 2 <| X_push (.inl 4) <| X_ibin x_ishr (xg0 x_ishr) <| X_push (.inl 15) <| X_ibin Nat.land xg_and <| X_store xkI 5 <| X_load xkI 2 <| X_push (.inl 15) <| X_ibin Nat.land xg_and <| X_store xkI 6 <| X_load xkI 0 <| X_push (.inl 3) <| X_if2 p2_ne d_ne 65 <| X_load xkI 2 <| X_push (.inl 5) <| X_ibin x_ishr (xg0 x_ishr) <| X_store xkI 7 <| X_load xkI 1 <| X_push (.inl 512) <| X_if2 p2_gt d_gt 46 <| X_load xkI 2 <| X_ret xkI
noncomputable def B_248_46 : XK := X_push (.inl 768) <| X_load xkI 4 <| X_load xkI 7 <| X_ibin Nat.land xg_and <| X_push (.inl 4) <| X_ibin x_ishl xg_shl <| X_ibin Nat.lor xg_or <| X_load xkI 3 <| X_load xkI 7 <| X_push (.inl 4294967295) <| X_ibin Nat.xor (xg0 Nat.xor) <| X_ibin Nat.land xg_and <| X_ibin Nat.lor xg_or <| X_ret xkI
noncomputable def B_248_65 : XK := X_load xkI 0 <| X_if p_ne d_ne 139 <| X_load xkI 2 <| X_push (.inl 512) <| X_if2 p2_gt d_gt 91 <| X_load xkI 1 <| X_push (.inl 512) <| X_if2 p2_ge d_ge 87 <| X_push (.inl 4294967295) <| X_jump 90
noncomputable def B_248_90 : XK := X_ret xkI
noncomputable def B_248_91 : XK := X_load xkI 1 <| X_push (.inl 512) <| X_if2 p2_ge d_ge 112 <| X_load xkI 1 <| X_load xkI 5 <| X_push (.inl 5) <| X_ibin x_ishl xg_shl <| X_ibin Nat.lor xg_or <| X_load xkI 6 <| X_push (.inl 5) <| X_ibin x_ishl xg_shl <| X_push (.inl 4294967295) <| X_ibin Nat.xor (xg0 Nat.xor) <| X_ibin Nat.land xg_and <| X_ret xkI
noncomputable def B_248_112 : XK := X_push (.inl 768) <| X_load xkI 3 <| X_load xkI 6 <| X_push (.inl 4294967295) <| X_ibin Nat.xor (xg0 Nat.xor) <| X_ibin Nat.land xg_and <| X_load xkI 5 <| X_ibin Nat.lor xg_or <| X_push (.inl 4) <| X_ibin x_ishl xg_shl <| X_ibin Nat.lor xg_or <| X_load xkI 4 <| X_load xkI 5 <| X_push (.inl 4294967295) <| X_ibin Nat.xor (xg0 Nat.xor) <| X_ibin Nat.land xg_and <| X_ibin Nat.lor xg_or <| X_load xkI 6 <| X_ibin Nat.lor xg_or <| X_ret xkI
noncomputable def B_248_139 : XK := X_load xkI 2 <| X_push (.inl 512) <| X_if2 p2_gt d_gt 148 <| X_push (.inl 4294967295) <| X_ret xkI
noncomputable def B_248_148 : XK := X_load xkI 1 <| X_push (.inl 512) <| X_if2 p2_le d_le 160 <| X_load xkI 0 <| X_push (.inl 1) <| X_if2 p2_ne d_ne 162 <| X_jump 160
noncomputable def B_248_160 : XK := X_load xkI 1 <| X_ret xkI
noncomputable def B_248_162 : XK := X_load xkI 5 <| X_load xkI 6 <| X_ibin Nat.lor xg_or <| X_store xkI 7 <| X_push (.inl 768) <| X_load xkI 3 <| X_load xkI 7 <| X_push (.inl 4294967295) <| X_ibin Nat.xor (xg0 Nat.xor) <| X_ibin Nat.land xg_and <| X_push (.inl 4) <| X_ibin x_ishl xg_shl <| X_ibin Nat.lor xg_or <| X_load xkI 4 <| X_load xkI 7 <| X_push (.inl 4294967295) <| X_ibin Nat.xor (xg0 Nat.xor) <| X_ibin Nat.land xg_and <| X_ibin Nat.lor xg_or <| X_ret xkI
noncomputable def T_248 : Nat → Option XK := fun pc => (cond (Nat.blt pc 112) (cond (Nat.blt pc 65) (cond (Nat.blt pc 46) (cond (Nat.beq pc 0) (some B_248_0) none) (cond (Nat.beq pc 46) (some B_248_46) none)) (cond (Nat.blt pc 90) (cond (Nat.beq pc 65) (some B_248_65) none) (cond (Nat.blt pc 91) (cond (Nat.beq pc 90) (some B_248_90) none) (cond (Nat.beq pc 91) (some B_248_91) none)))) (cond (Nat.blt pc 148) (cond (Nat.blt pc 139) (cond (Nat.beq pc 112) (some B_248_112) none) (cond (Nat.beq pc 139) (some B_248_139) none)) (cond (Nat.blt pc 160) (cond (Nat.beq pc 148) (some B_248_148) none) (cond (Nat.blt pc 162) (cond (Nat.beq pc 160) (some B_248_160) none) (cond (Nat.beq pc 162) (some B_248_162) none)))))
noncomputable def B_249_0 : XK := X_load xkR 0 <| X_getf 2 5 <| X_load xkI 2 <| X_push (.inl 0) <| X_ibin x_iadd xg_add <| X_callS 215 2 10
noncomputable def B_249_10 : XK := X_i2l <| X_push (.inl 21) <| X_lsh x_lshl xgL_shl <| X_load xkR 0 <| X_getf 2 5 <| X_load xkI 2 <| X_push (.inl 1) <| X_ibin x_iadd xg_add <| X_callS 215 2 24
noncomputable def B_249_24 : XK := X_i2l <| X_lbin Nat.lor xgL_or <| X_lstore 3 <| X_load xkL 3 <| X_push (.inr (.inl 4)) <| X_lbin x_lmul xgn <| X_load xkI 1 <| X_i2l <| X_lbin x_ladd xgn <| X_push (.inr (.inl 11400714819323198485)) <| X_lbin x_lmul xgn <| X_push (.inr (.inl 17592186044415)) <| X_lbin Nat.land xgL_and <| X_lstore 5 <| X_load xkL 5 <| X_load xkL 5 <| X_push (.inl 22) <| X_lsh x_lushr xgn <| X_lbin Nat.xor xgn <| X_ret xkL
noncomputable def T_249 : Nat → Option XK := fun pc => (cond (Nat.blt pc 10) (cond (Nat.beq pc 0) (some B_249_0) none) (cond (Nat.blt pc 24) (cond (Nat.beq pc 10) (some B_249_10) none) (cond (Nat.beq pc 24) (some B_249_24) none)))
noncomputable def B_250_0 : XK := X_load xkR 2 <| X_push (.inl 0) <| X_putf xkI 1 5 <| X_push (.inl 0) <| X_store xkI 3 <| X_load xkR 0 <| X_getf 2 8 <| X_load xkI 3 <| X_iinc 3 1 <| X_load xkI 1 <| X_ast xt0 xkI <| X_push (.inl 0) <| X_store xkI 4 <| X_jump 20
noncomputable def B_250_20 : XK := X_load xkI 4 <| X_push (.inl 508) <| X_if2 p2_ge d_ge 200 <| X_load xkI 3 <| X_if p_le d_le 200 <| X_load xkR 0 <| X_getf 2 8 <| X_iinc 3 4294967295 <| X_load xkI 3 <| X_ald xt0 <| X_store xkI 5 <| X_load xkR 0 <| X_getf 2 1 <| X_load xkI 5 <| X_callV 9 258 2 52
noncomputable def B_250_52 : XK := X_if p_eq d_eq 65 <| X_load xkR 2 <| X_load xkI 5 <| X_push (.inl 0) <| X_callV 1 279 3 62
noncomputable def B_250_62 : XK := X_jump 194
noncomputable def B_250_65 : XK := X_load xkR 0 <| X_getf 2 1 <| X_load xkI 5 <| X_callV 9 260 2 74
noncomputable def B_250_74 : XK := X_if p_eq d_eq 89 <| X_load xkR 0 <| X_getf 2 1 <| X_load xkI 5 <| X_callV 9 261 2 86
noncomputable def B_250_86 : XK := X_jump 98
noncomputable def B_250_98 : XK := X_store xkI 6 <| X_load xkR 0 <| X_getf 2 1 <| X_load xkI 5 <| X_callV 9 260 2 109
noncomputable def B_250_109 : XK := X_if p_eq d_eq 116 <| X_push (.inr (.inl 1)) <| X_jump 127
noncomputable def B_250_127 : XK := X_lstore 7 <| X_load xkI 3 <| X_load xkR 0 <| X_getf 2 8 <| X_alen <| X_if2 p2_ge d_ge 156 <| X_load xkR 0 <| X_getf 2 8 <| X_load xkI 3 <| X_iinc 3 1 <| X_load xkR 0 <| X_getf 2 1 <| X_load xkI 5 <| X_callV 9 259 2 155
noncomputable def B_250_155 : XK := X_ast xt0 xkI <| X_jump 156
noncomputable def B_250_156 : XK := X_push (.inl 0) <| X_store xkI 9 <| X_jump 159
noncomputable def B_250_159 : XK := X_load xkI 9 <| X_i2l <| X_load xkL 7 <| X_lcif pL_ge d_ge 194 <| X_load xkI 3 <| X_load xkR 0 <| X_getf 2 8 <| X_alen <| X_if2 p2_ge d_ge 194 <| X_load xkR 0 <| X_getf 2 8 <| X_load xkI 3 <| X_iinc 3 1 <| X_load xkI 6 <| X_ast xt0 xkI <| X_iinc 9 1 <| X_jump 159
noncomputable def B_250_194 : XK := X_iinc 4 1 <| X_jump 20
noncomputable def B_250_200 : XK := X_vret
noncomputable def T_250 : Nat → Option XK := fun pc => (cond (Nat.blt pc 98) (cond (Nat.blt pc 62) (cond (Nat.blt pc 20) (cond (Nat.beq pc 0) (some B_250_0) none) (cond (Nat.blt pc 52) (cond (Nat.beq pc 20) (some B_250_20) none) (cond (Nat.beq pc 52) (some B_250_52) none))) (cond (Nat.blt pc 74) (cond (Nat.blt pc 65) (cond (Nat.beq pc 62) (some B_250_62) none) (cond (Nat.beq pc 65) (some B_250_65) none)) (cond (Nat.blt pc 86) (cond (Nat.beq pc 74) (some B_250_74) none) (cond (Nat.beq pc 86) (some B_250_86) none)))) (cond (Nat.blt pc 156) (cond (Nat.blt pc 127) (cond (Nat.blt pc 109) (cond (Nat.beq pc 98) (some B_250_98) none) (cond (Nat.beq pc 109) (some B_250_109) none)) (cond (Nat.blt pc 155) (cond (Nat.beq pc 127) (some B_250_127) none) (cond (Nat.beq pc 155) (some B_250_155) none))) (cond (Nat.blt pc 194) (cond (Nat.blt pc 159) (cond (Nat.beq pc 156) (some B_250_156) none) (cond (Nat.beq pc 159) (some B_250_159) none)) (cond (Nat.blt pc 200) (cond (Nat.beq pc 194) (some B_250_194) none) (cond (Nat.beq pc 200) (some B_250_200) none)))))
noncomputable def B_251_0 : XK := X_load xkR 0 <| X_getf 1 5 <| X_if p_le d_le 31 <| X_load xkR 0 <| X_getf 1 5 <| X_push (.inl 2048) <| X_if2 p2_gt d_gt 31 <| X_load xkR 0 <| X_getf 1 2 <| X_load xkR 0 <| X_getf 1 5 <| X_push (.inl 1) <| X_ibin x_isub xg_sub <| X_ald xt0 <| X_jump 32
noncomputable def B_251_31 : XK := X_push (.inl 0) <| X_jump 32
noncomputable def B_251_32 : XK := X_ret xkI
noncomputable def T_251 : Nat → Option XK := fun pc => (cond (Nat.blt pc 31) (cond (Nat.beq pc 0) (some B_251_0) none) (cond (Nat.blt pc 32) (cond (Nat.beq pc 31) (some B_251_31) none) (cond (Nat.beq pc 32) (some B_251_32) none)))
noncomputable def B_252_0 : XK := X_load xkI 2 <| X_if p_lt d_lt 15 <| X_load xkI 2 <| X_push (.inl 512) <| X_if2 p2_ge d_ge 15 <| X_push (.inl 1) <| X_jump 16
noncomputable def B_252_15 : XK := X_push (.inl 0) <| X_jump 16
noncomputable def B_252_16 : XK := X_store xkI 4 <| X_load xkI 3 <| X_if p_lt d_lt 33 <| X_load xkI 3 <| X_push (.inl 512) <| X_if2 p2_ge d_ge 33 <| X_push (.inl 1) <| X_jump 34
noncomputable def B_252_33 : XK := X_push (.inl 0) <| X_jump 34
noncomputable def B_252_34 : XK := X_store xkI 5 <| X_load xkI 0 <| X_tsw 0 [83, 135, 110, 68] 135
noncomputable def B_252_68 : XK := X_load xkI 1 <| X_if p_eq d_eq 81 <| X_load xkI 4 <| X_if p_eq d_eq 81 <| X_push (.inl 1) <| X_jump 82
noncomputable def B_252_81 : XK := X_push (.inl 0) <| X_jump 82
noncomputable def B_252_82 : XK := X_ret xk01
noncomputable def B_252_83 : XK := X_load xkI 1 <| X_if p_eq d_eq 107 <| X_load xkI 2 <| X_push (.inl 512) <| X_if2 p2_ne d_ne 103 <| X_load xkI 5 <| X_if p_ne d_ne 103 <| X_push (.inl 1) <| X_jump 109
noncomputable def B_252_103 : XK := X_push (.inl 0) <| X_jump 109
noncomputable def B_252_107 : XK := X_load xkI 5 <| X_jump 109
noncomputable def B_252_109 : XK := X_ret xk01
noncomputable def B_252_110 : XK := X_load xkI 1 <| X_if p_eq d_eq 119 <| X_load xkI 4 <| X_jump 134
noncomputable def B_252_119 : XK := X_load xkI 5 <| X_if p_eq d_eq 133 <| X_load xkI 4 <| X_if p_ne d_ne 133 <| X_push (.inl 1) <| X_jump 134
noncomputable def B_252_133 : XK := X_push (.inl 0) <| X_jump 134
noncomputable def B_252_134 : XK := X_ret xk01
noncomputable def B_252_135 : XK := X_load xkI 1 <| X_if p_eq d_eq 157 <| X_load xkI 4 <| X_if p_eq d_eq 153 <| X_load xkI 5 <| X_if p_ne d_ne 153 <| X_push (.inl 1) <| X_jump 159
noncomputable def B_252_153 : XK := X_push (.inl 0) <| X_jump 159
noncomputable def B_252_157 : XK := X_load xkI 5 <| X_jump 159
noncomputable def B_252_159 : XK := X_ret xk01
noncomputable def T_252 : Nat → Option XK := fun pc => (cond (Nat.blt pc 107) (cond (Nat.blt pc 68) (cond (Nat.blt pc 16) (cond (Nat.blt pc 15) (cond (Nat.beq pc 0) (some B_252_0) none) (cond (Nat.beq pc 15) (some B_252_15) none)) (cond (Nat.blt pc 33) (cond (Nat.beq pc 16) (some B_252_16) none) (cond (Nat.blt pc 34) (cond (Nat.beq pc 33) (some B_252_33) none) (cond (Nat.beq pc 34) (some B_252_34) none)))) (cond (Nat.blt pc 82) (cond (Nat.blt pc 81) (cond (Nat.beq pc 68) (some B_252_68) none) (cond (Nat.beq pc 81) (some B_252_81) none)) (cond (Nat.blt pc 83) (cond (Nat.beq pc 82) (some B_252_82) none) (cond (Nat.blt pc 103) (cond (Nat.beq pc 83) (some B_252_83) none) (cond (Nat.beq pc 103) (some B_252_103) none))))) (cond (Nat.blt pc 134) (cond (Nat.blt pc 110) (cond (Nat.blt pc 109) (cond (Nat.beq pc 107) (some B_252_107) none) (cond (Nat.beq pc 109) (some B_252_109) none)) (cond (Nat.blt pc 119) (cond (Nat.beq pc 110) (some B_252_110) none) (cond (Nat.blt pc 133) (cond (Nat.beq pc 119) (some B_252_119) none) (cond (Nat.beq pc 133) (some B_252_133) none)))) (cond (Nat.blt pc 153) (cond (Nat.blt pc 135) (cond (Nat.beq pc 134) (some B_252_134) none) (cond (Nat.beq pc 135) (some B_252_135) none)) (cond (Nat.blt pc 157) (cond (Nat.beq pc 153) (some B_252_153) none) (cond (Nat.blt pc 159) (cond (Nat.beq pc 157) (some B_252_157) none) (cond (Nat.beq pc 159) (some B_252_159) none))))))
noncomputable def B_253_0 : XK := X_load xkR 0 <| X_getf 1 5 <| X_if p_le d_le 31 <| X_load xkR 0 <| X_getf 1 5 <| X_push (.inl 2048) <| X_if2 p2_gt d_gt 31 <| X_load xkR 0 <| X_getf 1 3 <| X_load xkR 0 <| X_getf 1 5 <| X_push (.inl 1) <| X_ibin x_isub xg_sub <| X_ald xt1 <| X_jump 32
noncomputable def B_253_32 : XK := X_ret xkL
noncomputable def T_253 : Nat → Option XK := fun pc => (cond (Nat.blt pc 32) (cond (Nat.beq pc 0) (some B_253_0) none) (cond (Nat.beq pc 32) (some B_253_32) none))
noncomputable def B_254_0 : XK := X_load xkI 0 <| X_push (.inl 2) <| X_if2 p2_eq d_eq 10 <| X_load xkI 0 <| X_push (.inl 1) <| X_if2 p2_ne d_ne 22 <| X_jump 10
noncomputable def B_254_10 : XK := X_load xkI 1 <| X_if p_eq d_eq 18 <| X_load xkI 2 <| X_jump 21
noncomputable def B_254_18 : XK := X_push (.inl 768) <| X_jump 21
noncomputable def B_254_21 : XK := X_ret xkI
noncomputable def B_254_22 : XK := X_load xkI 0 <| X_if p_ne d_ne 34 <| X_load xkI 1 <| X_if p_ne d_ne 34 <| X_load xkI 2 <| X_jump 37
noncomputable def B_254_34 : XK := X_push (.inl 512) <| X_jump 37
noncomputable def B_254_37 : XK := X_ret xkI
noncomputable def T_254 : Nat → Option XK := fun pc => (cond (Nat.blt pc 21) (cond (Nat.blt pc 10) (cond (Nat.beq pc 0) (some B_254_0) none) (cond (Nat.blt pc 18) (cond (Nat.beq pc 10) (some B_254_10) none) (cond (Nat.beq pc 18) (some B_254_18) none))) (cond (Nat.blt pc 34) (cond (Nat.blt pc 22) (cond (Nat.beq pc 21) (some B_254_21) none) (cond (Nat.beq pc 22) (some B_254_22) none)) (cond (Nat.blt pc 37) (cond (Nat.beq pc 34) (some B_254_34) none) (cond (Nat.beq pc 37) (some B_254_37) none))))
noncomputable def B_255_0 : XK := X_load xkR 0 <| X_getf 1 5 <| X_if p_le d_le 17 <| X_load xkR 0 <| X_getf 1 5 <| X_push (.inl 2048) <| X_if2 p2_le d_le 18 <| X_jump 17
noncomputable def B_255_18 : XK := X_load xkR 0 <| X_getf 1 3 <| X_load xkR 0 <| X_getf 1 5 <| X_push (.inl 1) <| X_ibin x_isub xg_sub <| X_dup2 <| X_ald xt1 <| X_load xkL 1 <| X_lbin x_lsub xgn <| X_ast xt1 xkL <| X_load xkR 0 <| X_getf 1 3 <| X_load xkR 0 <| X_getf 1 5 <| X_push (.inl 1) <| X_ibin x_isub xg_sub <| X_ald xt1 <| X_push (.inr (.inl 1)) <| X_lcif pL_ge d_ge 59 <| X_load xkR 0 <| X_dup <| X_getf 1 5 <| X_push (.inl 1) <| X_ibin x_isub xg_sub <| X_putf xkI 1 5 <| X_jump 59
noncomputable def B_255_59 : XK := X_load xkR 0 <| X_push (.inl 0) <| X_putf xkI 1 7 <| X_vret
noncomputable def T_255 : Nat → Option XK := fun pc => (cond (Nat.blt pc 18) (cond (Nat.beq pc 0) (some B_255_0) none) (cond (Nat.blt pc 59) (cond (Nat.beq pc 18) (some B_255_18) none) (cond (Nat.beq pc 59) (some B_255_59) none)))
noncomputable def B_256_0 : XK := X_load xkI 0 <| X_load xkI 0 <| X_push (.inl 16) <| X_ibin x_iushr (xg0 x_iushr) <| X_ibin Nat.xor (xg0 Nat.xor) <| X_push (.inl 2146121005) <| X_ibin x_imul (xg0 x_imul) <| X_store xkI 1 <| X_load xkI 1 <| X_load xkI 1 <| X_push (.inl 15) <| X_ibin x_iushr (xg0 x_iushr) <| X_ibin Nat.xor (xg0 Nat.xor) <| X_push (.inl 2221713035) <| X_ibin x_imul (xg0 x_imul) <| X_store xkI 1 <| X_load xkI 1 <| X_load xkI 1 <| X_push (.inl 16) <| X_ibin x_iushr (xg0 x_iushr) <| X_ibin Nat.xor (xg0 Nat.xor) <| X_ret xkI
noncomputable def T_256 : Nat → Option XK := fun pc => (cond (Nat.beq pc 0) (some B_256_0) none)
noncomputable def B_257_0 : XK := X_load xkR 0 <| X_getf 5 7 <| X_load xkR 0 <| X_getf 5 8 <| X_ibin x_iadd xg_add <| X_store xkI 5 <| X_load xkR 0 <| X_getf 5 8 <| X_if p_le d_le 47 <| X_load xkR 0 <| X_getf 5 4 <| X_load xkI 5 <| X_push (.inl 1) <| X_ibin x_isub xg_sub <| X_ald xt0 <| X_load xkI 1 <| X_if2 p2_ne d_ne 47 <| X_load xkR 0 <| X_getf 5 5 <| X_load xkI 5 <| X_push (.inl 1) <| X_ibin x_isub xg_sub <| X_dup2 <| X_ald xt1 <| X_load xkL 2 <| X_lbin x_ladd xgn <| X_ast xt1 xkL <| X_jump 101
noncomputable def B_257_47 : XK := X_load xkI 5 <| X_push (.inl 4096) <| X_if2 p2_ge d_ge 93 <| X_load xkR 0 <| X_dup <| X_getf 5 8 <| X_push (.inl 1) <| X_ibin x_iadd xg_add <| X_putf xkI 5 8 <| X_load xkR 0 <| X_getf 5 4 <| X_load xkI 5 <| X_load xkI 1 <| X_ast xt0 xkI <| X_load xkR 0 <| X_getf 5 5 <| X_load xkI 5 <| X_load xkL 2 <| X_ast xt1 xkL <| X_load xkR 0 <| X_getf 5 6 <| X_load xkI 5 <| X_load xkI 4 <| X_ast xt0 xkI <| X_jump 101
noncomputable def B_257_101 : XK := X_vret
noncomputable def T_257 : Nat → Option XK := fun pc => (cond (Nat.blt pc 47) (cond (Nat.beq pc 0) (some B_257_0) none) (cond (Nat.blt pc 101) (cond (Nat.beq pc 47) (some B_257_47) none) (cond (Nat.beq pc 101) (some B_257_101) none)))
noncomputable def B_258_0 : XK := X_load xkR 0 <| X_load xkI 1 <| X_callV 9 278 2 5
noncomputable def B_258_5 : XK := X_push (.inl 1024) <| X_if2 p2_gt d_gt 15 <| X_push (.inl 1) <| X_jump 16
noncomputable def B_258_15 : XK := X_push (.inl 0) <| X_jump 16
noncomputable def B_258_16 : XK := X_ret xk01
noncomputable def T_258 : Nat → Option XK := fun pc => (cond (Nat.blt pc 15) (cond (Nat.blt pc 5) (cond (Nat.beq pc 0) (some B_258_0) none) (cond (Nat.beq pc 5) (some B_258_5) none)) (cond (Nat.blt pc 16) (cond (Nat.beq pc 15) (some B_258_15) none) (cond (Nat.beq pc 16) (some B_258_16) none)))
noncomputable def B_259_0 : XK := X_load xkI 1 <| X_if p_le d_le 26 <| X_load xkI 1 <| X_push (.inl 1700000) <| X_if2 p2_ge d_ge 26 <| X_load xkR 0 <| X_getf 9 2 <| X_load xkI 1 <| X_ald xt1 <| X_push (.inl 21) <| X_lsh x_lshr xgL_shr <| X_l2i <| X_push (.inl 2097151) <| X_ibin Nat.land xg_and <| X_jump 27
noncomputable def B_259_27 : XK := X_ret xkI
noncomputable def T_259 : Nat → Option XK := fun pc => (cond (Nat.blt pc 27) (cond (Nat.beq pc 0) (some B_259_0) none) (cond (Nat.beq pc 27) (some B_259_27) none))
noncomputable def B_260_0 : XK := X_load xkR 0 <| X_load xkI 1 <| X_callV 9 261 2 5
noncomputable def B_260_5 : XK := X_if p_eq d_eq 12 <| X_push (.inl 1) <| X_jump 13
noncomputable def B_260_13 : XK := X_ret xk01
noncomputable def T_260 : Nat → Option XK := fun pc => (cond (Nat.blt pc 5) (cond (Nat.beq pc 0) (some B_260_0) none) (cond (Nat.blt pc 13) (cond (Nat.beq pc 5) (some B_260_5) none) (cond (Nat.beq pc 13) (some B_260_13) none)))
noncomputable def B_261_0 : XK := X_load xkI 1 <| X_if p_le d_le 23 <| X_load xkI 1 <| X_push (.inl 1700000) <| X_if2 p2_ge d_ge 23 <| X_load xkR 0 <| X_getf 9 2 <| X_load xkI 1 <| X_ald xt1 <| X_l2i <| X_push (.inl 2097151) <| X_ibin Nat.land xg_and <| X_jump 24
noncomputable def B_261_24 : XK := X_ret xkI
noncomputable def T_261 : Nat → Option XK := fun pc => (cond (Nat.blt pc 24) (cond (Nat.beq pc 0) (some B_261_0) none) (cond (Nat.beq pc 24) (some B_261_24) none))
noncomputable def B_262_0 : XK := X_load xkL 0 <| X_push (.inr (.inl 11400714819323198485)) <| X_lbin x_lmul xgn <| X_load xkL 2 <| X_lbin x_ladd xgn <| X_push (.inr (.inl 13787848793156543929)) <| X_lbin x_lmul xgn <| X_lstore 4 <| X_load xkL 4 <| X_load xkL 4 <| X_push (.inl 32) <| X_lsh x_lushr xgn <| X_lbin Nat.xor xgn <| X_push (.inr (.inl 9223372036854775807)) <| X_lbin Nat.land xgL_and <| X_push (.inr (.inl 2550000)) <| X_lrem <| X_l2i <| X_ret xkI
noncomputable def T_262 : Nat → Option XK := fun pc => (cond (Nat.beq pc 0) (some B_262_0) none)
noncomputable def B_263_0 : XK := X_load xkI 1 <| X_push (.inl 3) <| X_idiv <| X_store xkI 2 <| X_load xkI 2 <| X_if p_lt d_lt 14 <| X_load xkI 2 <| X_push (.inl 850000) <| X_if2 p2_lt d_lt 16 <| X_jump 14
noncomputable def B_263_16 : XK := X_load xkR 0 <| X_getf 9 6 <| X_load xkI 2 <| X_ald xt1 <| X_push (.inl 21) <| X_load xkI 1 <| X_push (.inl 3) <| X_load xkI 2 <| X_ibin x_imul (xg0 x_imul) <| X_ibin x_isub xg_sub <| X_ibin x_imul (xg0 x_imul) <| X_lsh x_lushr xgn <| X_l2i <| X_push (.inl 2097151) <| X_ibin Nat.land xg_and <| X_ret xkI
noncomputable def T_263 : Nat → Option XK := fun pc => (cond (Nat.blt pc 16) (cond (Nat.beq pc 0) (some B_263_0) none) (cond (Nat.beq pc 16) (some B_263_16) none))
noncomputable def B_264_0 : XK := X_load xkR 0 <| X_getf 9 9 <| X_push (.inl 1700000) <| X_if2 p2_ge d_ge 41 <| X_load xkR 0 <| X_getf 9 2 <| X_load xkR 0 <| X_getf 9 9 <| X_ald xt1 <| X_push (.inr (.inl 0)) <| X_lcif pL_ne d_ne 28 <| X_load xkR 0 <| X_getf 9 9 <| X_ret xkI
noncomputable def B_264_28 : XK := X_load xkR 0 <| X_dup <| X_getf 9 9 <| X_push (.inl 1) <| X_ibin x_iadd xg_add <| X_putf xkI 9 9 <| X_jump 0
noncomputable def T_264 : Nat → Option XK := fun pc => (cond (Nat.blt pc 28) (cond (Nat.beq pc 0) (some B_264_0) none) (cond (Nat.beq pc 28) (some B_264_28) none))
noncomputable def B_265_0 : XK := X_load xkL 2 <| X_push (.inr (.inl 4294967295)) <| X_lcif pL_gt d_gt 32 <| X_load xkL 4 <| X_push (.inr (.inl 4294967295)) <| X_lcif pL_ge d_ge 32 <| X_load xkR 0 <| X_getf 9 3 <| X_load xkI 1 <| X_load xkL 2 <| X_push (.inl 32) <| X_lsh x_lshl xgL_shl <| X_load xkL 4 <| X_lbin Nat.lor xgL_or <| X_ast xt1 xkL <| X_push (.inl 1) <| X_ret xk01
noncomputable def T_265 : Nat → Option XK := fun pc => (cond (Nat.beq pc 0) (some B_265_0) none)
noncomputable def B_266_0 : XK := X_load xkI 2 <| X_push (.inl 3) <| X_idiv <| X_store xkI 3 <| X_load xkI 3 <| X_if p_lt d_lt 34 <| X_load xkI 3 <| X_push (.inl 850000) <| X_if2 p2_ge d_ge 34 <| X_load xkR 0 <| X_getf 9 6 <| X_load xkI 3 <| X_dup2 <| X_ald xt1 <| X_load xkI 1 <| X_i2l <| X_push (.inl 21) <| X_load xkI 2 <| X_push (.inl 3) <| X_load xkI 3 <| X_ibin x_imul (xg0 x_imul) <| X_ibin x_isub xg_sub <| X_ibin x_imul (xg0 x_imul) <| X_lsh x_lshl xgL_shl <| X_lbin Nat.lor xgL_or <| X_ast xt1 xkL <| X_jump 34
noncomputable def B_266_34 : XK := X_vret
noncomputable def T_266 : Nat → Option XK := fun pc => (cond (Nat.blt pc 34) (cond (Nat.beq pc 0) (some B_266_0) none) (cond (Nat.beq pc 34) (some B_266_34) none))
noncomputable def B_267_0 : XK := X_load xkR 0 <| X_push (.inl 0) <| X_putf xkI 1 5 <| X_load xkR 0 <| X_push (.inl 0) <| X_putf xkI 1 7 <| X_load xkI 1 <| X_if p_eq d_eq 22 <| X_load xkR 0 <| X_load xkI 1 <| X_push (.inl 511) <| X_callV 1 279 3 22
noncomputable def B_267_22 : XK := X_vret
noncomputable def T_267 : Nat → Option XK := fun pc => (cond (Nat.blt pc 22) (cond (Nat.beq pc 0) (some B_267_0) none) (cond (Nat.beq pc 22) (some B_267_22) none))
noncomputable def B_268_0 : XK := X_load xkR 0 <| X_getf 1 5 <| X_if p_le d_le 17 <| X_load xkR 0 <| X_getf 1 5 <| X_push (.inl 2048) <| X_if2 p2_le d_le 19 <| X_jump 17
noncomputable def B_268_17 : XK := X_push (.inl 0) <| X_ret xkI
noncomputable def B_268_19 : XK := X_load xkR 0 <| X_getf 1 7 <| X_store xkI 2 <| X_load xkR 0 <| X_getf 1 7 <| X_if p_ne d_ne 58 <| X_load xkR 0 <| X_getf 1 6 <| X_load xkR 0 <| X_dup <| X_getf 1 7 <| X_dupx1 <| X_push (.inl 1) <| X_ibin x_iadd xg_add <| X_putf xkI 1 7 <| X_load xkR 0 <| X_getf 1 2 <| X_load xkR 0 <| X_getf 1 5 <| X_push (.inl 1) <| X_ibin x_isub xg_sub <| X_ald xt0 <| X_ast xt0 xkI <| X_jump 58
noncomputable def B_268_58 : XK := X_push (.inl 0) <| X_store xkI 3 <| X_jump 60
noncomputable def B_268_60 : XK := X_load xkI 3 <| X_push (.inl 511) <| X_if2 p2_ge d_ge 165 <| X_load xkR 0 <| X_getf 1 7 <| X_load xkR 0 <| X_getf 1 6 <| X_alen <| X_if2 p2_ge d_ge 165 <| X_load xkR 0 <| X_getf 1 6 <| X_load xkR 0 <| X_getf 1 7 <| X_push (.inl 1) <| X_ibin x_isub xg_sub <| X_ald xt0 <| X_store xkI 4 <| X_load xkR 0 <| X_getf 1 0 <| X_load xkI 4 <| X_callV 9 280 2 101
noncomputable def B_268_101 : XK := X_load xkI 1 <| X_if2 p2_gt d_gt 108 <| X_jump 165
noncomputable def B_268_108 : XK := X_load xkR 0 <| X_getf 1 6 <| X_load xkR 0 <| X_dup <| X_getf 1 7 <| X_dupx1 <| X_push (.inl 1) <| X_ibin x_iadd xg_add <| X_putf xkI 1 7 <| X_load xkR 0 <| X_getf 1 0 <| X_load xkR 0 <| X_getf 1 1 <| X_if p_eq d_eq 146 <| X_load xkR 0 <| X_getf 1 0 <| X_load xkI 4 <| X_callV 9 261 2 143
noncomputable def B_268_143 : XK := X_jump 155
noncomputable def B_268_155 : XK := X_callV 9 278 2 158
noncomputable def B_268_158 : XK := X_ast xt0 xkI <| X_iinc 3 1 <| X_jump 60
noncomputable def B_268_165 : XK := X_load xkR 0 <| X_getf 1 7 <| X_push (.inl 1) <| X_if2 p2_le d_le 208 <| X_load xkR 0 <| X_getf 1 0 <| X_load xkR 0 <| X_getf 1 6 <| X_load xkR 0 <| X_getf 1 7 <| X_push (.inl 2) <| X_ibin x_isub xg_sub <| X_ald xt0 <| X_callV 9 280 2 191
noncomputable def B_268_191 : XK := X_load xkI 1 <| X_if2 p2_gt d_gt 208 <| X_load xkR 0 <| X_dup <| X_getf 1 7 <| X_push (.inl 1) <| X_ibin x_isub xg_sub <| X_putf xkI 1 7 <| X_jump 165
noncomputable def B_268_208 : XK := X_load xkR 0 <| X_getf 1 7 <| X_load xkI 2 <| X_if2 p2_eq d_eq 234 <| X_load xkR 0 <| X_load xkR 0 <| X_getf 1 6 <| X_load xkR 0 <| X_getf 1 7 <| X_push (.inl 1) <| X_ibin x_isub xg_sub <| X_ald xt0 <| X_callS 256 1 231
noncomputable def B_268_231 : XK := X_putf xkI 1 8 <| X_jump 234
noncomputable def B_268_234 : XK := X_load xkR 0 <| X_getf 1 6 <| X_load xkR 0 <| X_getf 1 7 <| X_push (.inl 1) <| X_ibin x_isub xg_sub <| X_ald xt0 <| X_ret xkI
noncomputable def T_268 : Nat → Option XK := fun pc => (cond (Nat.blt pc 143) (cond (Nat.blt pc 58) (cond (Nat.blt pc 17) (cond (Nat.beq pc 0) (some B_268_0) none) (cond (Nat.blt pc 19) (cond (Nat.beq pc 17) (some B_268_17) none) (cond (Nat.beq pc 19) (some B_268_19) none))) (cond (Nat.blt pc 101) (cond (Nat.blt pc 60) (cond (Nat.beq pc 58) (some B_268_58) none) (cond (Nat.beq pc 60) (some B_268_60) none)) (cond (Nat.blt pc 108) (cond (Nat.beq pc 101) (some B_268_101) none) (cond (Nat.beq pc 108) (some B_268_108) none)))) (cond (Nat.blt pc 191) (cond (Nat.blt pc 158) (cond (Nat.blt pc 155) (cond (Nat.beq pc 143) (some B_268_143) none) (cond (Nat.beq pc 155) (some B_268_155) none)) (cond (Nat.blt pc 165) (cond (Nat.beq pc 158) (some B_268_158) none) (cond (Nat.beq pc 165) (some B_268_165) none))) (cond (Nat.blt pc 231) (cond (Nat.blt pc 208) (cond (Nat.beq pc 191) (some B_268_191) none) (cond (Nat.beq pc 208) (some B_268_208) none)) (cond (Nat.blt pc 234) (cond (Nat.beq pc 231) (some B_268_231) none) (cond (Nat.beq pc 234) (some B_268_234) none)))))
noncomputable def B_269_0 : XK := X_load xkR 0 <| X_getf 1 5 <| X_if p_le d_le 36 <| X_load xkR 0 <| X_getf 1 5 <| X_push (.inl 2048) <| X_if2 p2_gt d_gt 36 <| X_load xkR 0 <| X_getf 1 4 <| X_load xkR 0 <| X_getf 1 5 <| X_push (.inl 1) <| X_ibin x_isub xg_sub <| X_ald xt0 <| X_load xkI 1 <| X_if2 p2_gt d_gt 36 <| X_push (.inl 1) <| X_jump 37
noncomputable def B_269_36 : XK := X_push (.inl 0) <| X_jump 37
noncomputable def B_269_37 : XK := X_ret xk01
noncomputable def T_269 : Nat → Option XK := fun pc => (cond (Nat.blt pc 36) (cond (Nat.beq pc 0) (some B_269_0) none) (cond (Nat.blt pc 37) (cond (Nat.beq pc 36) (some B_269_36) none) (cond (Nat.beq pc 37) (some B_269_37) none)))
noncomputable def B_270_0 : XK := X_load xkI 2 <| X_push (.inl 1) <| X_ibin x_ishr (xg0 x_ishr) <| X_push (.inl 31) <| X_ibin Nat.land xg_and <| X_store xkI 3 <| X_load xkI 0 <| X_load xkI 3 <| X_ibin x_iushr (xg0 x_iushr) <| X_load xkI 2 <| X_ibin Nat.xor (xg0 Nat.xor) <| X_push (.inl 1) <| X_ibin Nat.land xg_and <| X_store xkI 4 <| X_load xkI 4 <| X_if p_ne d_ne 36 <| X_load xkI 1 <| X_load xkI 3 <| X_ibin x_iushr (xg0 x_iushr) <| X_load xkI 2 <| X_ibin Nat.xor (xg0 Nat.xor) <| X_push (.inl 1) <| X_ibin Nat.land xg_and <| X_push (.inl 1) <| X_if2 p2_ne d_ne 36 <| X_push (.inl 1) <| X_jump 37
noncomputable def B_270_36 : XK := X_push (.inl 0) <| X_jump 37
noncomputable def B_270_37 : XK := X_ret xk01
noncomputable def T_270 : Nat → Option XK := fun pc => (cond (Nat.blt pc 36) (cond (Nat.beq pc 0) (some B_270_0) none) (cond (Nat.blt pc 37) (cond (Nat.beq pc 36) (some B_270_36) none) (cond (Nat.beq pc 37) (some B_270_37) none)))
noncomputable def B_271_0 : XK := X_load xkR 1 <| X_load xkI 2 <| X_callV 1 281 2 5
noncomputable def B_271_5 : XK := X_load xkR 0 <| X_getf 5 8 <| X_if p_le d_le 47 <| X_load xkR 0 <| X_getf 5 4 <| X_load xkR 0 <| X_getf 5 7 <| X_ald xt0 <| X_load xkR 1 <| X_callV 1 251 1 25
noncomputable def B_271_25 : XK := X_if2 p2_ne d_ne 47 <| X_stop
noncomputable def B_271_47 : XK := X_load xkR 0 <| X_getf 5 7 <| X_if p_le d_le 119 <| X_load xkR 0 <| X_dup <| X_getf 5 7 <| X_push (.inl 1) <| X_ibin x_isub xg_sub <| X_putf xkI 5 7 <| X_load xkR 0 <| X_dup <| X_getf 5 8 <| X_push (.inl 1) <| X_ibin x_iadd xg_add <| X_putf xkI 5 8 <| X_load xkR 0 <| X_getf 5 4 <| X_load xkR 0 <| X_getf 5 7 <| X_load xkR 1 <| X_callV 1 251 1 86
noncomputable def B_271_86 : XK := X_ast xt0 xkI <| X_load xkR 0 <| X_getf 5 5 <| X_load xkR 0 <| X_getf 5 7 <| X_load xkR 1 <| X_callV 1 253 1 99
noncomputable def B_271_99 : XK := X_ast xt1 xkL <| X_load xkR 0 <| X_getf 5 6 <| X_load xkR 0 <| X_getf 5 7 <| X_load xkR 1 <| X_callV 1 251 1 112
noncomputable def B_271_112 : XK := X_callS 256 1 115
noncomputable def B_271_115 : XK := X_ast xt0 xkI <| X_jump 127
noncomputable def B_271_127 : XK := X_load xkR 1 <| X_load xkR 1 <| X_callV 1 253 1 132
noncomputable def B_271_132 : XK := X_callV 1 255 2 135
noncomputable def B_271_135 : XK := X_vret
noncomputable def T_271 : Nat → Option XK := fun pc => (cond (Nat.blt pc 99) (cond (Nat.blt pc 25) (cond (Nat.blt pc 5) (cond (Nat.beq pc 0) (some B_271_0) none) (cond (Nat.beq pc 5) (some B_271_5) none)) (cond (Nat.blt pc 47) (cond (Nat.beq pc 25) (some B_271_25) none) (cond (Nat.blt pc 86) (cond (Nat.beq pc 47) (some B_271_47) none) (cond (Nat.beq pc 86) (some B_271_86) none)))) (cond (Nat.blt pc 127) (cond (Nat.blt pc 112) (cond (Nat.beq pc 99) (some B_271_99) none) (cond (Nat.blt pc 115) (cond (Nat.beq pc 112) (some B_271_112) none) (cond (Nat.beq pc 115) (some B_271_115) none))) (cond (Nat.blt pc 132) (cond (Nat.beq pc 127) (some B_271_127) none) (cond (Nat.blt pc 135) (cond (Nat.beq pc 132) (some B_271_132) none) (cond (Nat.beq pc 135) (some B_271_135) none)))))
noncomputable def B_272_0 : XK := X_load xkR 1 <| X_load xkI 2 <| X_callV 1 281 2 5
noncomputable def B_272_5 : XK := X_load xkR 0 <| X_load xkR 1 <| X_callV 1 251 1 10
noncomputable def B_272_10 : XK := X_load xkR 1 <| X_callV 1 253 1 14
noncomputable def B_272_14 : XK := X_load xkR 1 <| X_callV 1 251 1 18
noncomputable def B_272_18 : XK := X_callS 256 1 21
noncomputable def B_272_21 : XK := X_callV 5 257 4 24
noncomputable def B_272_24 : XK := X_load xkR 1 <| X_load xkR 1 <| X_callV 1 253 1 29
noncomputable def B_272_29 : XK := X_callV 1 255 2 32
noncomputable def B_272_32 : XK := X_vret
noncomputable def T_272 : Nat → Option XK := fun pc => (cond (Nat.blt pc 18) (cond (Nat.blt pc 10) (cond (Nat.blt pc 5) (cond (Nat.beq pc 0) (some B_272_0) none) (cond (Nat.beq pc 5) (some B_272_5) none)) (cond (Nat.blt pc 14) (cond (Nat.beq pc 10) (some B_272_10) none) (cond (Nat.beq pc 14) (some B_272_14) none))) (cond (Nat.blt pc 24) (cond (Nat.blt pc 21) (cond (Nat.beq pc 18) (some B_272_18) none) (cond (Nat.beq pc 21) (some B_272_21) none)) (cond (Nat.blt pc 29) (cond (Nat.beq pc 24) (some B_272_24) none) (cond (Nat.blt pc 32) (cond (Nat.beq pc 29) (some B_272_29) none) (cond (Nat.beq pc 32) (some B_272_32) none)))))
noncomputable def B_273_0 : XK := X_load xkI 1 <| X_if p_le d_le 16 <| X_load xkI 1 <| X_push (.inl 1700000) <| X_if2 p2_ge d_ge 16 <| X_load xkL 2 <| X_push (.inr (.inl 1)) <| X_lcif pL_ge d_ge 18 <| X_jump 16
noncomputable def B_273_18 : XK := X_load xkL 2 <| X_push (.inr (.inl 1)) <| X_lcif pL_ne d_ne 26 <| X_load xkI 1 <| X_ret xkI
noncomputable def B_273_26 : XK := X_load xkI 1 <| X_push (.inl 1024) <| X_if2 p2_gt d_gt 37 <| X_push (.inr (.inl 1)) <| X_jump 65
noncomputable def B_273_65 : XK := X_lstore 4 <| X_load xkR 0 <| X_getf 9 2 <| X_load xkI 1 <| X_ald xt1 <| X_push (.inr (.inl 72053195991416832)) <| X_lbin Nat.land xgL_and <| X_load xkL 4 <| X_push (.inl 56) <| X_lsh x_lshl xgL_shl <| X_lbin Nat.lor xgL_or <| X_load xkI 1 <| X_i2l <| X_push (.inl 21) <| X_lsh x_lshl xgL_shl <| X_lbin Nat.lor xgL_or <| X_lstore 6 <| X_load xkR 0 <| X_load xkL 6 <| X_load xkL 2 <| X_load xkR 0 <| X_load xkI 1 <| X_callV 9 225 2 100
noncomputable def B_273_100 : XK := X_lbin x_lmul xgn <| X_load xkL 2 <| X_load xkR 0 <| X_load xkI 1 <| X_callV 9 226 2 107
noncomputable def B_273_107 : XK := X_lbin x_lmul xgn <| X_callV 9 227 4 111
noncomputable def B_273_111 : XK := X_ret xkI
noncomputable def T_273 : Nat → Option XK := fun pc => (cond (Nat.blt pc 65) (cond (Nat.blt pc 18) (cond (Nat.beq pc 0) (some B_273_0) none) (cond (Nat.blt pc 26) (cond (Nat.beq pc 18) (some B_273_18) none) (cond (Nat.beq pc 26) (some B_273_26) none))) (cond (Nat.blt pc 107) (cond (Nat.blt pc 100) (cond (Nat.beq pc 65) (some B_273_65) none) (cond (Nat.beq pc 100) (some B_273_100) none)) (cond (Nat.blt pc 111) (cond (Nat.beq pc 107) (some B_273_107) none) (cond (Nat.beq pc 111) (some B_273_111) none))))
noncomputable def B_274_0 : XK := X_load xkI 1 <| X_if p_le d_le 20 <| X_load xkI 2 <| X_if p_le d_le 20 <| X_load xkI 1 <| X_push (.inl 1700000) <| X_if2 p2_ge d_ge 20 <| X_load xkI 2 <| X_push (.inl 1700000) <| X_if2 p2_lt d_lt 26 <| X_jump 20
noncomputable def B_274_26 : XK := X_load xkR 0 <| X_getf 9 2 <| X_load xkI 1 <| X_ald xt1 <| X_push (.inr (.inl 2251799813685248)) <| X_lbin Nat.land xgL_and <| X_load xkR 0 <| X_getf 9 2 <| X_load xkI 2 <| X_ald xt1 <| X_push (.inr (.inl 13510798882111488)) <| X_lbin Nat.land xgL_and <| X_lbin Nat.lor xgL_or <| X_lstore 4 <| X_push (.inl 255) <| X_load xkR 0 <| X_load xkI 1 <| X_callV 9 246 2 57
noncomputable def B_274_57 : XK := X_load xkR 0 <| X_load xkI 2 <| X_callV 9 246 2 62
noncomputable def B_274_62 : XK := X_ibin x_iadd xg_add <| X_min <| X_jump 66
noncomputable def B_274_66 : XK := X_i2l <| X_lstore 6 <| X_load xkL 4 <| X_load xkR 0 <| X_getf 9 2 <| X_load xkI 1 <| X_ald xt1 <| X_load xkR 0 <| X_getf 9 2 <| X_load xkI 2 <| X_ald xt1 <| X_lbin Nat.lor xgL_or <| X_push (.inr (.inl 18014398509481984)) <| X_lbin Nat.land xgL_and <| X_lbin Nat.lor xgL_or <| X_lstore 4 <| X_load xkL 4 <| X_load xkI 3 <| X_i2l <| X_push (.inl 42) <| X_lsh x_lshl xgL_shl <| X_lbin Nat.lor xgL_or <| X_load xkL 6 <| X_push (.inl 56) <| X_lsh x_lshl xgL_shl <| X_lbin Nat.lor xgL_or <| X_lstore 8 <| X_load xkR 0 <| X_load xkL 8 <| X_load xkI 1 <| X_i2l <| X_push (.inl 21) <| X_lsh x_lshl xgL_shl <| X_lbin Nat.lor xgL_or <| X_load xkI 2 <| X_i2l <| X_lbin Nat.lor xgL_or <| X_load xkR 0 <| X_load xkI 1 <| X_callV 9 225 2 124
noncomputable def B_274_124 : XK := X_load xkR 0 <| X_load xkI 2 <| X_callV 9 225 2 129
noncomputable def B_274_129 : XK := X_lbin x_ladd xgn <| X_load xkR 0 <| X_load xkI 1 <| X_callV 9 226 2 135
noncomputable def B_274_135 : XK := X_load xkR 0 <| X_load xkI 2 <| X_callV 9 226 2 140
noncomputable def B_274_140 : XK := X_lbin x_ladd xgn <| X_callV 9 227 4 144
noncomputable def B_274_144 : XK := X_ret xkI
noncomputable def T_274 : Nat → Option XK := fun pc => (cond (Nat.blt pc 124) (cond (Nat.blt pc 57) (cond (Nat.blt pc 26) (cond (Nat.beq pc 0) (some B_274_0) none) (cond (Nat.beq pc 26) (some B_274_26) none)) (cond (Nat.blt pc 62) (cond (Nat.beq pc 57) (some B_274_57) none) (cond (Nat.blt pc 66) (cond (Nat.beq pc 62) (some B_274_62) none) (cond (Nat.beq pc 66) (some B_274_66) none)))) (cond (Nat.blt pc 135) (cond (Nat.blt pc 129) (cond (Nat.beq pc 124) (some B_274_124) none) (cond (Nat.beq pc 129) (some B_274_129) none)) (cond (Nat.blt pc 140) (cond (Nat.beq pc 135) (some B_274_135) none) (cond (Nat.blt pc 144) (cond (Nat.beq pc 140) (some B_274_140) none) (cond (Nat.beq pc 144) (some B_274_144) none)))))
noncomputable def B_275_0 : XK := X_push (.inl 0) <| X_store xkI 3 <| X_push (.inl 0) <| X_store xkI 4 <| X_jump 5
noncomputable def B_275_5 : XK := X_load xkI 4 <| X_load xkI 1 <| X_if2 p2_ge d_ge 36 <| X_load xkI 3 <| X_load xkR 0 <| X_load xkI 4 <| X_ald xt0 <| X_callS 233 1 19
noncomputable def B_275_19 : XK := X_load xkI 2 <| X_if2 p2_ne d_ne 27 <| X_push (.inl 1) <| X_jump 28
noncomputable def B_275_27 : XK := X_push (.inl 0) <| X_jump 28
noncomputable def B_275_28 : XK := X_ibin x_iadd xg_add <| X_store xkI 3 <| X_iinc 4 1 <| X_jump 5
noncomputable def B_275_36 : XK := X_load xkI 3 <| X_ret xkI
noncomputable def T_275 : Nat → Option XK := fun pc => (cond (Nat.blt pc 27) (cond (Nat.blt pc 5) (cond (Nat.beq pc 0) (some B_275_0) none) (cond (Nat.blt pc 19) (cond (Nat.beq pc 5) (some B_275_5) none) (cond (Nat.beq pc 19) (some B_275_19) none))) (cond (Nat.blt pc 28) (cond (Nat.beq pc 27) (some B_275_27) none) (cond (Nat.blt pc 36) (cond (Nat.beq pc 28) (some B_275_28) none) (cond (Nat.beq pc 36) (some B_275_36) none))))
noncomputable def B_276_0 : XK := X_load xkI 1 <| X_if p_le d_le 25 <| X_load xkI 1 <| X_push (.inl 65536) <| X_if2 p2_ge d_ge 25 <| X_load xkR 0 <| X_getf 10 7 <| X_load xkI 1 <| X_ald xt0 <| X_push (.inl 4) <| X_ibin Nat.land xg_and <| X_if p_eq d_eq 25 <| X_push (.inl 1) <| X_jump 26
noncomputable def B_276_25 : XK := X_push (.inl 0) <| X_jump 26
noncomputable def B_276_26 : XK := X_ret xk01
noncomputable def T_276 : Nat → Option XK := fun pc => (cond (Nat.blt pc 25) (cond (Nat.beq pc 0) (some B_276_0) none) (cond (Nat.blt pc 26) (cond (Nat.beq pc 25) (some B_276_25) none) (cond (Nat.beq pc 26) (some B_276_26) none)))
noncomputable def B_277_0 : XK := X_load xkI 1 <| X_callS 191 1 4
noncomputable def B_277_4 : XK := X_if p_eq d_eq 16 <| X_load xkR 0 <| X_getf 10 5 <| X_load xkI 1 <| X_ald xt1 <| X_jump 17
noncomputable def B_277_16 : XK := X_push (.inr (.inl 0)) <| X_jump 17
noncomputable def B_277_17 : XK := X_ret xkL
noncomputable def T_277 : Nat → Option XK := fun pc => (cond (Nat.blt pc 16) (cond (Nat.blt pc 4) (cond (Nat.beq pc 0) (some B_277_0) none) (cond (Nat.beq pc 4) (some B_277_4) none)) (cond (Nat.blt pc 17) (cond (Nat.beq pc 16) (some B_277_16) none) (cond (Nat.beq pc 17) (some B_277_17) none)))
noncomputable def B_278_0 : XK := X_load xkI 1 <| X_if p_le d_le 10 <| X_load xkI 1 <| X_push (.inl 1700000) <| X_if2 p2_lt d_lt 12 <| X_jump 10
noncomputable def B_278_12 : XK := X_load xkR 0 <| X_getf 9 2 <| X_load xkI 1 <| X_ald xt1 <| X_push (.inl 21) <| X_lsh x_lshr xgL_shr <| X_l2i <| X_push (.inl 2097151) <| X_ibin Nat.land xg_and <| X_store xkI 2 <| X_load xkI 2 <| X_if p_eq d_eq 43 <| X_load xkR 0 <| X_getf 9 2 <| X_load xkI 1 <| X_ald xt1 <| X_l2i <| X_push (.inl 2097151) <| X_ibin Nat.land xg_and <| X_if p_eq d_eq 47 <| X_jump 43
noncomputable def B_278_43 : XK := X_load xkI 1 <| X_jump 48
noncomputable def B_278_47 : XK := X_load xkI 2 <| X_jump 48
noncomputable def B_278_48 : XK := X_ret xkI
noncomputable def T_278 : Nat → Option XK := fun pc => (cond (Nat.blt pc 43) (cond (Nat.blt pc 12) (cond (Nat.beq pc 0) (some B_278_0) none) (cond (Nat.beq pc 12) (some B_278_12) none)) (cond (Nat.blt pc 47) (cond (Nat.beq pc 43) (some B_278_43) none) (cond (Nat.blt pc 48) (cond (Nat.beq pc 47) (some B_278_47) none) (cond (Nat.beq pc 48) (some B_278_48) none))))
noncomputable def B_279_0 : XK := X_load xkR 0 <| X_load xkR 0 <| X_getf 1 0 <| X_load xkI 1 <| X_callV 9 278 2 9
noncomputable def B_279_9 : XK := X_load xkR 0 <| X_getf 1 0 <| X_load xkI 1 <| X_callV 9 282 2 17
noncomputable def B_279_17 : XK := X_load xkI 2 <| X_callV 1 283 4 21
noncomputable def B_279_21 : XK := X_vret
noncomputable def T_279 : Nat → Option XK := fun pc => (cond (Nat.blt pc 17) (cond (Nat.blt pc 9) (cond (Nat.beq pc 0) (some B_279_0) none) (cond (Nat.beq pc 9) (some B_279_9) none)) (cond (Nat.blt pc 21) (cond (Nat.beq pc 17) (some B_279_17) none) (cond (Nat.beq pc 21) (some B_279_21) none)))
noncomputable def B_280_0 : XK := X_load xkI 1 <| X_if p_le d_le 27 <| X_load xkI 1 <| X_push (.inl 1700000) <| X_if2 p2_ge d_ge 27 <| X_load xkR 0 <| X_getf 9 2 <| X_load xkI 1 <| X_ald xt1 <| X_push (.inl 42) <| X_lsh x_lshr xgL_shr <| X_l2i <| X_push (.inl 511) <| X_ibin Nat.land xg_and <| X_jump 28
noncomputable def B_280_28 : XK := X_ret xkI
noncomputable def T_280 : Nat → Option XK := fun pc => (cond (Nat.blt pc 28) (cond (Nat.beq pc 0) (some B_280_0) none) (cond (Nat.beq pc 28) (some B_280_28) none))
noncomputable def B_281_0 : XK := X_push (.inl 0) <| X_store xkI 2 <| X_jump 2
noncomputable def B_281_2 : XK := X_load xkI 2 <| X_push (.inl 511) <| X_if2 p2_ge d_ge 226 <| X_load xkR 0 <| X_getf 1 5 <| X_if p_le d_le 226 <| X_load xkR 0 <| X_getf 1 5 <| X_push (.inl 2048) <| X_if2 p2_gt d_gt 226 <| X_load xkR 0 <| X_getf 1 2 <| X_load xkR 0 <| X_getf 1 5 <| X_push (.inl 1) <| X_ibin x_isub xg_sub <| X_ald xt0 <| X_store xkI 3 <| X_load xkR 0 <| X_getf 1 0 <| X_load xkI 3 <| X_callV 9 280 2 46
noncomputable def B_281_46 : XK := X_store xkI 4 <| X_load xkI 4 <| X_load xkI 1 <| X_if2 p2_gt d_gt 55 <| X_vret
noncomputable def B_281_55 : XK := X_load xkR 0 <| X_getf 1 3 <| X_load xkR 0 <| X_getf 1 5 <| X_push (.inl 1) <| X_ibin x_isub xg_sub <| X_ald xt1 <| X_push (.inr (.inl 1)) <| X_lcif pL_le d_le 102 <| X_stop
noncomputable def B_281_102 : XK := X_load xkR 0 <| X_dup <| X_getf 1 5 <| X_push (.inl 1) <| X_ibin x_isub xg_sub <| X_putf xkI 1 5 <| X_jump 112
noncomputable def B_281_112 : XK := X_load xkR 0 <| X_getf 1 1 <| X_if p_eq d_eq 130 <| X_load xkR 0 <| X_getf 1 0 <| X_load xkI 3 <| X_callV 9 259 2 127
noncomputable def B_281_127 : XK := X_jump 138
noncomputable def B_281_138 : XK := X_store xkI 5 <| X_load xkR 0 <| X_getf 1 1 <| X_if p_eq d_eq 158 <| X_load xkR 0 <| X_getf 1 0 <| X_load xkI 3 <| X_callV 9 261 2 155
noncomputable def B_281_155 : XK := X_jump 166
noncomputable def B_281_166 : XK := X_store xkI 6 <| X_load xkR 0 <| X_load xkR 0 <| X_getf 1 0 <| X_load xkI 5 <| X_callV 9 278 2 178
noncomputable def B_281_178 : XK := X_load xkR 0 <| X_getf 1 0 <| X_load xkI 5 <| X_callV 9 282 2 187
noncomputable def B_281_187 : XK := X_load xkI 4 <| X_push (.inl 1) <| X_ibin x_isub xg_sub <| X_callV 1 283 4 194
noncomputable def B_281_194 : XK := X_load xkR 0 <| X_load xkR 0 <| X_getf 1 0 <| X_load xkI 6 <| X_callV 9 278 2 204
noncomputable def B_281_204 : XK := X_load xkR 0 <| X_getf 1 0 <| X_load xkI 6 <| X_callV 9 282 2 213
noncomputable def B_281_213 : XK := X_load xkI 4 <| X_push (.inl 1) <| X_ibin x_isub xg_sub <| X_callV 1 283 4 220
noncomputable def B_281_220 : XK := X_iinc 2 1 <| X_jump 2
noncomputable def T_281 : Nat → Option XK := fun pc => (cond (Nat.blt pc 155) (cond (Nat.blt pc 102) (cond (Nat.blt pc 46) (cond (Nat.blt pc 2) (cond (Nat.beq pc 0) (some B_281_0) none) (cond (Nat.beq pc 2) (some B_281_2) none)) (cond (Nat.blt pc 55) (cond (Nat.beq pc 46) (some B_281_46) none) (cond (Nat.beq pc 55) (some B_281_55) none))) (cond (Nat.blt pc 127) (cond (Nat.blt pc 112) (cond (Nat.beq pc 102) (some B_281_102) none) (cond (Nat.beq pc 112) (some B_281_112) none)) (cond (Nat.blt pc 138) (cond (Nat.beq pc 127) (some B_281_127) none) (cond (Nat.beq pc 138) (some B_281_138) none)))) (cond (Nat.blt pc 194) (cond (Nat.blt pc 178) (cond (Nat.blt pc 166) (cond (Nat.beq pc 155) (some B_281_155) none) (cond (Nat.beq pc 166) (some B_281_166) none)) (cond (Nat.blt pc 187) (cond (Nat.beq pc 178) (some B_281_178) none) (cond (Nat.beq pc 187) (some B_281_187) none))) (cond (Nat.blt pc 213) (cond (Nat.blt pc 204) (cond (Nat.beq pc 194) (some B_281_194) none) (cond (Nat.beq pc 204) (some B_281_204) none)) (cond (Nat.blt pc 220) (cond (Nat.beq pc 213) (some B_281_213) none) (cond (Nat.beq pc 220) (some B_281_220) none)))))
noncomputable def B_282_0 : XK := X_load xkI 1 <| X_if p_le d_le 10 <| X_load xkI 1 <| X_push (.inl 1700000) <| X_if2 p2_lt d_lt 12 <| X_jump 10
noncomputable def B_282_12 : XK := X_load xkR 0 <| X_getf 9 2 <| X_load xkI 1 <| X_ald xt1 <| X_push (.inl 21) <| X_lsh x_lshr xgL_shr <| X_l2i <| X_push (.inl 2097151) <| X_ibin Nat.land xg_and <| X_store xkI 2 <| X_load xkI 2 <| X_if p_eq d_eq 49 <| X_load xkI 2 <| X_push (.inl 1700000) <| X_if2 p2_ge d_ge 49 <| X_load xkR 0 <| X_getf 9 2 <| X_load xkI 1 <| X_ald xt1 <| X_l2i <| X_push (.inl 2097151) <| X_ibin Nat.land xg_and <| X_if p_eq d_eq 51 <| X_jump 49
noncomputable def B_282_49 : XK := X_push (.inr (.inl 1)) <| X_ret xkL
noncomputable def B_282_51 : XK := X_load xkR 0 <| X_getf 9 3 <| X_load xkI 1 <| X_ald xt1 <| X_push (.inl 32) <| X_lsh x_lushr xgn <| X_load xkR 0 <| X_getf 9 3 <| X_load xkI 1 <| X_ald xt1 <| X_push (.inr (.inl 4294967295)) <| X_lbin Nat.land xgL_and <| X_lbin x_ladd xgn <| X_lstore 3 <| X_load xkR 0 <| X_getf 9 3 <| X_load xkI 2 <| X_ald xt1 <| X_push (.inl 32) <| X_lsh x_lushr xgn <| X_load xkR 0 <| X_getf 9 3 <| X_load xkI 2 <| X_ald xt1 <| X_push (.inr (.inl 4294967295)) <| X_lbin Nat.land xgL_and <| X_lbin x_ladd xgn <| X_lstore 5 <| X_load xkR 0 <| X_getf 9 3 <| X_load xkI 1 <| X_ald xt1 <| X_push (.inl 32) <| X_lsh x_lushr xgn <| X_l2i <| X_store xkI 7 <| X_load xkR 0 <| X_getf 9 3 <| X_load xkI 1 <| X_ald xt1 <| X_push (.inr (.inl 4294967295)) <| X_lbin Nat.land xgL_and <| X_push (.inr (.inl 4294967295)) <| X_lcif pL_ne d_ne 151 <| X_stop
noncomputable def B_282_151 : XK := X_load xkR 0 <| X_getf 9 3 <| X_load xkI 2 <| X_ald xt1 <| X_push (.inl 32) <| X_lsh x_lushr xgn <| X_l2i <| X_store xkI 7 <| X_load xkR 0 <| X_getf 9 3 <| X_load xkI 2 <| X_ald xt1 <| X_push (.inr (.inl 4294967295)) <| X_lbin Nat.land xgL_and <| X_push (.inr (.inl 4294967295)) <| X_lcif pL_ne d_ne 209 <| X_stop
noncomputable def B_282_209 : XK := X_load xkL 5 <| X_push (.inr (.inl 0)) <| X_lcif pL_le d_le 223 <| X_load xkL 3 <| X_load xkL 5 <| X_ldiv <| X_jump 224
noncomputable def B_282_224 : XK := X_ret xkL
noncomputable def T_282 : Nat → Option XK := fun pc => (cond (Nat.blt pc 51) (cond (Nat.blt pc 12) (cond (Nat.beq pc 0) (some B_282_0) none) (cond (Nat.blt pc 49) (cond (Nat.beq pc 12) (some B_282_12) none) (cond (Nat.beq pc 49) (some B_282_49) none))) (cond (Nat.blt pc 209) (cond (Nat.blt pc 151) (cond (Nat.beq pc 51) (some B_282_51) none) (cond (Nat.beq pc 151) (some B_282_151) none)) (cond (Nat.blt pc 224) (cond (Nat.beq pc 209) (some B_282_209) none) (cond (Nat.beq pc 224) (some B_282_224) none))))
noncomputable def B_283_0 : XK := X_load xkL 2 <| X_push (.inr (.inl 1)) <| X_lcif pL_ge d_ge 7 <| X_stop
noncomputable def B_283_7 : XK := X_load xkR 0 <| X_getf 1 5 <| X_if p_lt d_lt 24 <| X_load xkR 0 <| X_getf 1 5 <| X_push (.inl 2048) <| X_if2 p2_lt d_lt 33 <| X_jump 24
noncomputable def B_283_33 : XK := X_load xkR 0 <| X_getf 1 2 <| X_load xkR 0 <| X_getf 1 5 <| X_load xkI 1 <| X_ast xt0 xkI <| X_load xkR 0 <| X_getf 1 3 <| X_load xkR 0 <| X_getf 1 5 <| X_load xkL 2 <| X_ast xt1 xkL <| X_load xkR 0 <| X_getf 1 4 <| X_load xkR 0 <| X_getf 1 5 <| X_load xkI 4 <| X_ast xt0 xkI <| X_load xkR 0 <| X_dup <| X_getf 1 5 <| X_push (.inl 1) <| X_ibin x_iadd xg_add <| X_putf xkI 1 5 <| X_load xkR 0 <| X_push (.inl 0) <| X_putf xkI 1 7 <| X_vret
noncomputable def T_283 : Nat → Option XK := fun pc => (cond (Nat.blt pc 7) (cond (Nat.beq pc 0) (some B_283_0) none) (cond (Nat.blt pc 33) (cond (Nat.beq pc 7) (some B_283_7) none) (cond (Nat.beq pc 33) (some B_283_33) none)))
