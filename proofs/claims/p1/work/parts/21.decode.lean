theorem dX12_init_0 : decode cX12_init 0 = .ok (.aload_n 0, 1) := by decide +kernel
theorem dX12_init_1 : decode cX12_init 1 = .ok (.invokespecial 1, 3) := by decide +kernel
theorem dX12_init_4 : decode cX12_init 4 = .ok (.aload_n 0, 1) := by decide +kernel
theorem dX12_init_5 : decode cX12_init 5 = .ok (.sipush 276, 3) := by decide +kernel
theorem dX12_init_8 : decode cX12_init 8 = .ok (.iconst 4, 1) := by decide +kernel
theorem dX12_init_9 : decode cX12_init 9 = .ok (.multianewarray 9 2, 4) := by decide +kernel
theorem dX12_init_13 : decode cX12_init 13 = .ok (.putfield 11, 3) := by decide +kernel
theorem dX12_init_16 : decode cX12_init 16 = .ok (.aload_n 0, 1) := by decide +kernel
theorem dX12_init_17 : decode cX12_init 17 = .ok (.sipush 276, 3) := by decide +kernel
theorem dX12_init_20 : decode cX12_init 20 = .ok (.newarray .int, 2) := by decide +kernel
theorem dX12_init_22 : decode cX12_init 22 = .ok (.putfield 14, 3) := by decide +kernel
theorem dX12_init_25 : decode cX12_init 25 = .ok (.aload_n 0, 1) := by decide +kernel
theorem dX12_init_26 : decode cX12_init 26 = .ok (.bipush 12, 2) := by decide +kernel
theorem dX12_init_28 : decode cX12_init 28 = .ok (.newarray .boolean, 2) := by decide +kernel
theorem dX12_init_30 : decode cX12_init 30 = .ok (.putfield 18, 3) := by decide +kernel
theorem dX12_init_33 : decode cX12_init 33 = .ok (.aload_n 0, 1) := by decide +kernel
theorem dX12_init_34 : decode cX12_init 34 = .ok (.iconst 5, 1) := by decide +kernel
theorem dX12_init_35 : decode cX12_init 35 = .ok (.bipush 64, 2) := by decide +kernel
theorem dX12_init_37 : decode cX12_init 37 = .ok (.multianewarray 9 2, 4) := by decide +kernel
theorem dX12_init_41 : decode cX12_init 41 = .ok (.putfield 22, 3) := by decide +kernel
theorem dX12_init_44 : decode cX12_init 44 = .ok (.aload_n 0, 1) := by decide +kernel
theorem dX12_init_45 : decode cX12_init 45 = .ok (.iconst 5, 1) := by decide +kernel
theorem dX12_init_46 : decode cX12_init 46 = .ok (.newarray .int, 2) := by decide +kernel
theorem dX12_init_48 : decode cX12_init 48 = .ok (.putfield 25, 3) := by decide +kernel
theorem dX12_init_51 : decode cX12_init 51 = .ok (.aload_n 0, 1) := by decide +kernel
theorem dX12_init_52 : decode cX12_init 52 = .ok (.bipush 32, 2) := by decide +kernel
theorem dX12_init_54 : decode cX12_init 54 = .ok (.newarray .int, 2) := by decide +kernel
theorem dX12_init_56 : decode cX12_init 56 = .ok (.putfield 28, 3) := by decide +kernel
theorem dX12_init_59 : decode cX12_init 59 = .ok (.aload_n 0, 1) := by decide +kernel
theorem dX12_init_60 : decode cX12_init 60 = .ok (.bipush 91, 2) := by decide +kernel
theorem dX12_init_62 : decode cX12_init 62 = .ok (.newarray .int, 2) := by decide +kernel
theorem dX12_init_64 : decode cX12_init 64 = .ok (.putfield 31, 3) := by decide +kernel
theorem dX12_init_67 : decode cX12_init 67 = .ok (.aload_n 0, 1) := by decide +kernel
theorem dX12_init_68 : decode cX12_init 68 = .ok (.iconst 2, 1) := by decide +kernel
theorem dX12_init_69 : decode cX12_init 69 = .ok (.newarray .int, 2) := by decide +kernel
theorem dX12_init_71 : decode cX12_init 71 = .ok (.dup, 1) := by decide +kernel
theorem dX12_init_72 : decode cX12_init 72 = .ok (.iconst 0, 1) := by decide +kernel
theorem dX12_init_73 : decode cX12_init 73 = .ok (.iconst 0, 1) := by decide +kernel
theorem dX12_init_74 : decode cX12_init 74 = .ok (.iastore, 1) := by decide +kernel
theorem dX12_init_75 : decode cX12_init 75 = .ok (.dup, 1) := by decide +kernel
theorem dX12_init_76 : decode cX12_init 76 = .ok (.iconst 1, 1) := by decide +kernel
theorem dX12_init_77 : decode cX12_init 77 = .ok (.iconst 1, 1) := by decide +kernel
theorem dX12_init_78 : decode cX12_init 78 = .ok (.iastore, 1) := by decide +kernel
theorem dX12_init_79 : decode cX12_init 79 = .ok (.putfield 34, 3) := by decide +kernel
theorem dX12_init_82 : decode cX12_init 82 = .ok (.aload_n 0, 1) := by decide +kernel
theorem dX12_init_83 : decode cX12_init 83 = .ok (.bipush 7, 2) := by decide +kernel
theorem dX12_init_85 : decode cX12_init 85 = .ok (.newarray .int, 2) := by decide +kernel
theorem dX12_init_87 : decode cX12_init 87 = .ok (.putfield 37, 3) := by decide +kernel
theorem dX12_init_90 : decode cX12_init 90 = .ok (.aload_n 0, 1) := by decide +kernel
theorem dX12_init_91 : decode cX12_init 91 = .ok (.iconst 4, 1) := by decide +kernel
theorem dX12_init_92 : decode cX12_init 92 = .ok (.sipush 24000, 3) := by decide +kernel
theorem dX12_init_95 : decode cX12_init 95 = .ok (.multianewarray 9 2, 4) := by decide +kernel
theorem dX12_init_99 : decode cX12_init 99 = .ok (.putfield 40, 3) := by decide +kernel
theorem dX12_init_102 : decode cX12_init 102 = .ok (.aload_n 0, 1) := by decide +kernel
theorem dX12_init_103 : decode cX12_init 103 = .ok (.iconst 4, 1) := by decide +kernel
theorem dX12_init_104 : decode cX12_init 104 = .ok (.newarray .int, 2) := by decide +kernel
theorem dX12_init_106 : decode cX12_init 106 = .ok (.putfield 43, 3) := by decide +kernel
theorem dX12_init_109 : decode cX12_init 109 = .ok (.aload_n 0, 1) := by decide +kernel
theorem dX12_init_110 : decode cX12_init 110 = .ok (.sipush 24000, 3) := by decide +kernel
theorem dX12_init_113 : decode cX12_init 113 = .ok (.newarray .int, 2) := by decide +kernel
theorem dX12_init_115 : decode cX12_init 115 = .ok (.putfield 46, 3) := by decide +kernel
theorem dX12_init_118 : decode cX12_init 118 = .ok (.aload_n 0, 1) := by decide +kernel
theorem dX12_init_119 : decode cX12_init 119 = .ok (.sipush 250, 3) := by decide +kernel
theorem dX12_init_122 : decode cX12_init 122 = .ok (.newarray .int, 2) := by decide +kernel
theorem dX12_init_124 : decode cX12_init 124 = .ok (.putfield 49, 3) := by decide +kernel
theorem dX12_init_127 : decode cX12_init 127 = .ok (.aload_n 0, 1) := by decide +kernel
theorem dX12_init_128 : decode cX12_init 128 = .ok (.bipush 8, 2) := by decide +kernel
theorem dX12_init_130 : decode cX12_init 130 = .ok (.newarray .int, 2) := by decide +kernel
theorem dX12_init_132 : decode cX12_init 132 = .ok (.dup, 1) := by decide +kernel
theorem dX12_init_133 : decode cX12_init 133 = .ok (.iconst 0, 1) := by decide +kernel
theorem dX12_init_134 : decode cX12_init 134 = .ok (.iconst (-1), 1) := by decide +kernel
theorem dX12_init_135 : decode cX12_init 135 = .ok (.iastore, 1) := by decide +kernel
theorem dX12_init_136 : decode cX12_init 136 = .ok (.dup, 1) := by decide +kernel
theorem dX12_init_137 : decode cX12_init 137 = .ok (.iconst 1, 1) := by decide +kernel
theorem dX12_init_138 : decode cX12_init 138 = .ok (.iconst (-1), 1) := by decide +kernel
theorem dX12_init_139 : decode cX12_init 139 = .ok (.iastore, 1) := by decide +kernel
theorem dX12_init_140 : decode cX12_init 140 = .ok (.dup, 1) := by decide +kernel
theorem dX12_init_141 : decode cX12_init 141 = .ok (.iconst 2, 1) := by decide +kernel
theorem dX12_init_142 : decode cX12_init 142 = .ok (.iconst (-1), 1) := by decide +kernel
theorem dX12_init_143 : decode cX12_init 143 = .ok (.iastore, 1) := by decide +kernel
theorem dX12_init_144 : decode cX12_init 144 = .ok (.dup, 1) := by decide +kernel
theorem dX12_init_145 : decode cX12_init 145 = .ok (.iconst 3, 1) := by decide +kernel
theorem dX12_init_146 : decode cX12_init 146 = .ok (.iconst (-1), 1) := by decide +kernel
theorem dX12_init_147 : decode cX12_init 147 = .ok (.iastore, 1) := by decide +kernel
theorem dX12_init_148 : decode cX12_init 148 = .ok (.dup, 1) := by decide +kernel
theorem dX12_init_149 : decode cX12_init 149 = .ok (.iconst 4, 1) := by decide +kernel
theorem dX12_init_150 : decode cX12_init 150 = .ok (.iconst (-1), 1) := by decide +kernel
theorem dX12_init_151 : decode cX12_init 151 = .ok (.iastore, 1) := by decide +kernel
theorem dX12_init_152 : decode cX12_init 152 = .ok (.dup, 1) := by decide +kernel
theorem dX12_init_153 : decode cX12_init 153 = .ok (.iconst 5, 1) := by decide +kernel
theorem dX12_init_154 : decode cX12_init 154 = .ok (.iconst (-1), 1) := by decide +kernel
theorem dX12_init_155 : decode cX12_init 155 = .ok (.iastore, 1) := by decide +kernel
theorem dX12_init_156 : decode cX12_init 156 = .ok (.dup, 1) := by decide +kernel
theorem dX12_init_157 : decode cX12_init 157 = .ok (.bipush 6, 2) := by decide +kernel
theorem dX12_init_159 : decode cX12_init 159 = .ok (.iconst (-1), 1) := by decide +kernel
theorem dX12_init_160 : decode cX12_init 160 = .ok (.iastore, 1) := by decide +kernel
theorem dX12_init_161 : decode cX12_init 161 = .ok (.dup, 1) := by decide +kernel
theorem dX12_init_162 : decode cX12_init 162 = .ok (.bipush 7, 2) := by decide +kernel
theorem dX12_init_164 : decode cX12_init 164 = .ok (.iconst (-1), 1) := by decide +kernel
theorem dX12_init_165 : decode cX12_init 165 = .ok (.iastore, 1) := by decide +kernel
theorem dX12_init_166 : decode cX12_init 166 = .ok (.putfield 52, 3) := by decide +kernel
theorem dX12_init_169 : decode cX12_init 169 = .ok (.aload_n 0, 1) := by decide +kernel
theorem dX12_init_170 : decode cX12_init 170 = .ok (.bipush 8, 2) := by decide +kernel
theorem dX12_init_172 : decode cX12_init 172 = .ok (.newarray .int, 2) := by decide +kernel
theorem dX12_init_174 : decode cX12_init 174 = .ok (.putfield 55, 3) := by decide +kernel
theorem dX12_init_177 : decode cX12_init 177 = .ok (.aload_n 0, 1) := by decide +kernel
theorem dX12_init_178 : decode cX12_init 178 = .ok (.sipush 320, 3) := by decide +kernel
theorem dX12_init_181 : decode cX12_init 181 = .ok (.newarray .long, 2) := by decide +kernel
theorem dX12_init_183 : decode cX12_init 183 = .ok (.putfield 58, 3) := by decide +kernel
theorem dX12_init_186 : decode cX12_init 186 = .ok (.aload_n 0, 1) := by decide +kernel
theorem dX12_init_187 : decode cX12_init 187 = .ok (.bipush 8, 2) := by decide +kernel
theorem dX12_init_189 : decode cX12_init 189 = .ok (.newarray .int, 2) := by decide +kernel
theorem dX12_init_191 : decode cX12_init 191 = .ok (.putfield 62, 3) := by decide +kernel
theorem dX12_init_194 : decode cX12_init 194 = .ok (.aload_n 0, 1) := by decide +kernel
theorem dX12_init_195 : decode cX12_init 195 = .ok (.bipush 8, 2) := by decide +kernel
theorem dX12_init_197 : decode cX12_init 197 = .ok (.newarray .int, 2) := by decide +kernel
theorem dX12_init_199 : decode cX12_init 199 = .ok (.putfield 65, 3) := by decide +kernel
theorem dX12_init_202 : decode cX12_init 202 = .ok (.aload_n 0, 1) := by decide +kernel
theorem dX12_init_203 : decode cX12_init 203 = .ok (.bipush 8, 2) := by decide +kernel
theorem dX12_init_205 : decode cX12_init 205 = .ok (.newarray .int, 2) := by decide +kernel
theorem dX12_init_207 : decode cX12_init 207 = .ok (.putfield 68, 3) := by decide +kernel
theorem dX12_init_210 : decode cX12_init 210 = .ok (.aload_n 0, 1) := by decide +kernel
theorem dX12_init_211 : decode cX12_init 211 = .ok (.sipush 276, 3) := by decide +kernel
theorem dX12_init_214 : decode cX12_init 214 = .ok (.iconst 4, 1) := by decide +kernel
theorem dX12_init_215 : decode cX12_init 215 = .ok (.multianewarray 9 2, 4) := by decide +kernel
theorem dX12_init_219 : decode cX12_init 219 = .ok (.putfield 71, 3) := by decide +kernel
theorem dX12_init_222 : decode cX12_init 222 = .ok (.aload_n 0, 1) := by decide +kernel
theorem dX12_init_223 : decode cX12_init 223 = .ok (.sipush 276, 3) := by decide +kernel
theorem dX12_init_226 : decode cX12_init 226 = .ok (.newarray .int, 2) := by decide +kernel
theorem dX12_init_228 : decode cX12_init 228 = .ok (.putfield 74, 3) := by decide +kernel
theorem dX12_init_231 : decode cX12_init 231 = .ok (.aload_n 0, 1) := by decide +kernel
theorem dX12_init_232 : decode cX12_init 232 = .ok (.iconst 5, 1) := by decide +kernel
theorem dX12_init_233 : decode cX12_init 233 = .ok (.bipush 64, 2) := by decide +kernel
theorem dX12_init_235 : decode cX12_init 235 = .ok (.multianewarray 9 2, 4) := by decide +kernel
theorem dX12_init_239 : decode cX12_init 239 = .ok (.putfield 77, 3) := by decide +kernel
theorem dX12_init_242 : decode cX12_init 242 = .ok (.aload_n 0, 1) := by decide +kernel
theorem dX12_init_243 : decode cX12_init 243 = .ok (.iconst 5, 1) := by decide +kernel
theorem dX12_init_244 : decode cX12_init 244 = .ok (.newarray .int, 2) := by decide +kernel
theorem dX12_init_246 : decode cX12_init 246 = .ok (.putfield 80, 3) := by decide +kernel
theorem dX12_init_249 : decode cX12_init 249 = .ok (.aload_n 0, 1) := by decide +kernel
theorem dX12_init_250 : decode cX12_init 250 = .ok (.bipush 32, 2) := by decide +kernel
theorem dX12_init_252 : decode cX12_init 252 = .ok (.newarray .int, 2) := by decide +kernel
theorem dX12_init_254 : decode cX12_init 254 = .ok (.putfield 83, 3) := by decide +kernel
theorem dX12_init_257 : decode cX12_init 257 = .ok (.aload_n 0, 1) := by decide +kernel
theorem dX12_init_258 : decode cX12_init 258 = .ok (.bipush 91, 2) := by decide +kernel
theorem dX12_init_260 : decode cX12_init 260 = .ok (.newarray .int, 2) := by decide +kernel
theorem dX12_init_262 : decode cX12_init 262 = .ok (.putfield 86, 3) := by decide +kernel
theorem dX12_init_265 : decode cX12_init 265 = .ok (.aload_n 0, 1) := by decide +kernel
theorem dX12_init_266 : decode cX12_init 266 = .ok (.iconst 2, 1) := by decide +kernel
theorem dX12_init_267 : decode cX12_init 267 = .ok (.newarray .int, 2) := by decide +kernel
theorem dX12_init_269 : decode cX12_init 269 = .ok (.putfield 89, 3) := by decide +kernel
theorem dX12_init_272 : decode cX12_init 272 = .ok (.return_, 1) := by decide +kernel
theorem dX11_init_0 : decode cX11_init 0 = .ok (.aload_n 0, 1) := by decide +kernel
theorem dX11_init_1 : decode cX11_init 1 = .ok (.invokespecial 3, 3) := by decide +kernel
theorem dX11_init_4 : decode cX11_init 4 = .ok (.aload_n 0, 1) := by decide +kernel
theorem dX11_init_5 : decode cX11_init 5 = .ok (.bipush 12, 2) := by decide +kernel
theorem dX11_init_7 : decode cX11_init 7 = .ok (.anewarray 9, 3) := by decide +kernel
theorem dX11_init_10 : decode cX11_init 10 = .ok (.putfield 11, 3) := by decide +kernel
theorem dX11_init_13 : decode cX11_init 13 = .ok (.aload_n 0, 1) := by decide +kernel
theorem dX11_init_14 : decode cX11_init 14 = .ok (.bipush 8, 2) := by decide +kernel
theorem dX11_init_16 : decode cX11_init 16 = .ok (.anewarray 15, 3) := by decide +kernel
theorem dX11_init_19 : decode cX11_init 19 = .ok (.putfield 17, 3) := by decide +kernel
theorem dX11_init_22 : decode cX11_init 22 = .ok (.aload_n 0, 1) := by decide +kernel
theorem dX11_init_23 : decode cX11_init 23 = .ok (.iconst 5, 1) := by decide +kernel
theorem dX11_init_24 : decode cX11_init 24 = .ok (.newarray .int, 2) := by decide +kernel
theorem dX11_init_26 : decode cX11_init 26 = .ok (.putfield 21, 3) := by decide +kernel
theorem dX11_init_29 : decode cX11_init 29 = .ok (.aload_n 0, 1) := by decide +kernel
theorem dX11_init_30 : decode cX11_init 30 = .ok (.new 25, 3) := by decide +kernel
theorem dX11_init_33 : decode cX11_init 33 = .ok (.dup, 1) := by decide +kernel
theorem dX11_init_34 : decode cX11_init 34 = .ok (.invokespecial 27, 3) := by decide +kernel
theorem dX11_init_37 : decode cX11_init 37 = .ok (.putfield 28, 3) := by decide +kernel
theorem dX11_init_40 : decode cX11_init 40 = .ok (.aload_n 0, 1) := by decide +kernel
theorem dX11_init_41 : decode cX11_init 41 = .ok (.new 32, 3) := by decide +kernel
theorem dX11_init_44 : decode cX11_init 44 = .ok (.dup, 1) := by decide +kernel
theorem dX11_init_45 : decode cX11_init 45 = .ok (.aload_n 0, 1) := by decide +kernel
theorem dX11_init_46 : decode cX11_init 46 = .ok (.getfield 28, 3) := by decide +kernel
theorem dX11_init_49 : decode cX11_init 49 = .ok (.invokespecial 34, 3) := by decide +kernel
theorem dX11_init_52 : decode cX11_init 52 = .ok (.putfield 37, 3) := by decide +kernel
theorem dX11_init_55 : decode cX11_init 55 = .ok (.aload_n 0, 1) := by decide +kernel
theorem dX11_init_56 : decode cX11_init 56 = .ok (.new 41, 3) := by decide +kernel
theorem dX11_init_59 : decode cX11_init 59 = .ok (.dup, 1) := by decide +kernel
theorem dX11_init_60 : decode cX11_init 60 = .ok (.aload_n 0, 1) := by decide +kernel
theorem dX11_init_61 : decode cX11_init 61 = .ok (.getfield 28, 3) := by decide +kernel
theorem dX11_init_64 : decode cX11_init 64 = .ok (.invokespecial 43, 3) := by decide +kernel
theorem dX11_init_67 : decode cX11_init 67 = .ok (.putfield 44, 3) := by decide +kernel
theorem dX11_init_70 : decode cX11_init 70 = .ok (.aload_n 0, 1) := by decide +kernel
theorem dX11_init_71 : decode cX11_init 71 = .ok (.new 48, 3) := by decide +kernel
theorem dX11_init_74 : decode cX11_init 74 = .ok (.dup, 1) := by decide +kernel
theorem dX11_init_75 : decode cX11_init 75 = .ok (.aload_n 0, 1) := by decide +kernel
theorem dX11_init_76 : decode cX11_init 76 = .ok (.getfield 28, 3) := by decide +kernel
theorem dX11_init_79 : decode cX11_init 79 = .ok (.invokespecial 50, 3) := by decide +kernel
theorem dX11_init_82 : decode cX11_init 82 = .ok (.putfield 51, 3) := by decide +kernel
theorem dX11_init_85 : decode cX11_init 85 = .ok (.aload_n 0, 1) := by decide +kernel
theorem dX11_init_86 : decode cX11_init 86 = .ok (.aload_n 0, 1) := by decide +kernel
theorem dX11_init_87 : decode cX11_init 87 = .ok (.getfield 28, 3) := by decide +kernel
theorem dX11_init_90 : decode cX11_init 90 = .ok (.invokevirtual 55, 3) := by decide +kernel
theorem dX11_init_93 : decode cX11_init 93 = .ok (.putfield 59, 3) := by decide +kernel
theorem dX11_init_96 : decode cX11_init 96 = .ok (.aload_n 0, 1) := by decide +kernel
theorem dX11_init_97 : decode cX11_init 97 = .ok (.new 63, 3) := by decide +kernel
theorem dX11_init_100 : decode cX11_init 100 = .ok (.dup, 1) := by decide +kernel
theorem dX11_init_101 : decode cX11_init 101 = .ok (.aload_n 0, 1) := by decide +kernel
theorem dX11_init_102 : decode cX11_init 102 = .ok (.getfield 28, 3) := by decide +kernel
theorem dX11_init_105 : decode cX11_init 105 = .ok (.new 65, 3) := by decide +kernel
theorem dX11_init_108 : decode cX11_init 108 = .ok (.dup, 1) := by decide +kernel
theorem dX11_init_109 : decode cX11_init 109 = .ok (.aload_n 0, 1) := by decide +kernel
theorem dX11_init_110 : decode cX11_init 110 = .ok (.getfield 28, 3) := by decide +kernel
theorem dX11_init_113 : decode cX11_init 113 = .ok (.invokespecial 67, 3) := by decide +kernel
theorem dX11_init_116 : decode cX11_init 116 = .ok (.invokespecial 68, 3) := by decide +kernel
theorem dX11_init_119 : decode cX11_init 119 = .ok (.putfield 71, 3) := by decide +kernel
theorem dX11_init_122 : decode cX11_init 122 = .ok (.return_, 1) := by decide +kernel
theorem dX12_days_0 : decode cX12_days 0 = .ok (.iload_n 1, 1) := by decide +kernel
theorem dX12_days_1 : decode cX12_days 1 = .ok (.i2l, 1) := by decide +kernel
theorem dX12_days_2 : decode cX12_days 2 = .ok (.lconst 1, 1) := by decide +kernel
theorem dX12_days_3 : decode cX12_days 3 = .ok (.ldc2_w 350, 3) := by decide +kernel
theorem dX12_days_6 : decode cX12_days 6 = .ok (.invokestatic 175, 3) := by decide +kernel
theorem dX12_days_9 : decode cX12_days 9 = .ok (.ifCond .ne 10, 3) := by decide +kernel
theorem dX12_days_12 : decode cX12_days 12 = .ok (.aload_n 0, 1) := by decide +kernel
theorem dX12_days_13 : decode cX12_days 13 = .ok (.bipush (-2), 2) := by decide +kernel
theorem dX12_days_15 : decode cX12_days 15 = .ok (.invokevirtual 183, 3) := by decide +kernel
theorem dX12_days_18 : decode cX12_days 18 = .ok (.ireturn, 1) := by decide +kernel
theorem dX12_days_19 : decode cX12_days 19 = .ok (.iconst 0, 1) := by decide +kernel
theorem dX12_days_20 : decode cX12_days 20 = .ok (.istore_n 2, 1) := by decide +kernel
theorem dX12_days_21 : decode cX12_days 21 = .ok (.iconst 0, 1) := by decide +kernel
theorem dX12_days_22 : decode cX12_days 22 = .ok (.istore_n 3, 1) := by decide +kernel
theorem dX12_days_23 : decode cX12_days 23 = .ok (.iload_n 3, 1) := by decide +kernel
theorem dX12_days_24 : decode cX12_days 24 = .ok (.iload_n 1, 1) := by decide +kernel
theorem dX12_days_25 : decode cX12_days 25 = .ok (.if_icmp .ge 39, 3) := by decide +kernel
theorem dX12_days_28 : decode cX12_days 28 = .ok (.aload_n 0, 1) := by decide +kernel
theorem dX12_days_29 : decode cX12_days 29 = .ok (.iconst 4, 1) := by decide +kernel
theorem dX12_days_30 : decode cX12_days 30 = .ok (.invokevirtual 347, 3) := by decide +kernel
theorem dX12_days_33 : decode cX12_days 33 = .ok (.istore 4, 2) := by decide +kernel
theorem dX12_days_35 : decode cX12_days 35 = .ok (.iload_n 2, 1) := by decide +kernel
theorem dX12_days_36 : decode cX12_days 36 = .ok (.aload_n 0, 1) := by decide +kernel
theorem dX12_days_37 : decode cX12_days 37 = .ok (.iload 4, 2) := by decide +kernel
theorem dX12_days_39 : decode cX12_days 39 = .ok (.aload_n 0, 1) := by decide +kernel
theorem dX12_days_40 : decode cX12_days 40 = .ok (.bipush 8, 2) := by decide +kernel
theorem dX12_days_42 : decode cX12_days 42 = .ok (.invokevirtual 347, 3) := by decide +kernel
theorem dX12_days_45 : decode cX12_days 45 = .ok (.invokevirtual 352, 3) := by decide +kernel
theorem dX12_days_48 : decode cX12_days 48 = .ok (.ifCond .eq 7, 3) := by decide +kernel
theorem dX12_days_51 : decode cX12_days 51 = .ok (.iconst 1, 1) := by decide +kernel
theorem dX12_days_52 : decode cX12_days 52 = .ok (.goto 4, 3) := by decide +kernel
theorem dX12_days_55 : decode cX12_days 55 = .ok (.iconst 0, 1) := by decide +kernel
theorem dX12_days_56 : decode cX12_days 56 = .ok (.iadd, 1) := by decide +kernel
theorem dX12_days_57 : decode cX12_days 57 = .ok (.istore_n 2, 1) := by decide +kernel
theorem dX12_days_58 : decode cX12_days 58 = .ok (.iinc 3 1, 3) := by decide +kernel
theorem dX12_days_61 : decode cX12_days 61 = .ok (.goto (-38), 3) := by decide +kernel
theorem dX12_days_64 : decode cX12_days 64 = .ok (.iload_n 2, 1) := by decide +kernel
theorem dX12_days_65 : decode cX12_days 65 = .ok (.ireturn, 1) := by decide +kernel
theorem dX11_days_0 : decode cX11_days 0 = .ok (.iload_n 1, 1) := by decide +kernel
theorem dX11_days_1 : decode cX11_days 1 = .ok (.iconst 1, 1) := by decide +kernel
theorem dX11_days_2 : decode cX11_days 2 = .ok (.if_icmp .lt 9, 3) := by decide +kernel
theorem dX11_days_5 : decode cX11_days 5 = .ok (.iload_n 1, 1) := by decide +kernel
theorem dX11_days_6 : decode cX11_days 6 = .ok (.bipush 60, 2) := by decide +kernel
theorem dX11_days_8 : decode cX11_days 8 = .ok (.if_icmp .le 10, 3) := by decide +kernel
theorem dX11_days_11 : decode cX11_days 11 = .ok (.aload_n 0, 1) := by decide +kernel
theorem dX11_days_12 : decode cX11_days 12 = .ok (.bipush (-2), 2) := by decide +kernel
theorem dX11_days_14 : decode cX11_days 14 = .ok (.invokevirtual 79, 3) := by decide +kernel
theorem dX11_days_17 : decode cX11_days 17 = .ok (.ireturn, 1) := by decide +kernel
theorem dX11_days_18 : decode cX11_days 18 = .ok (.iconst 0, 1) := by decide +kernel
theorem dX11_days_19 : decode cX11_days 19 = .ok (.istore_n 2, 1) := by decide +kernel
theorem dX11_days_20 : decode cX11_days 20 = .ok (.iconst 0, 1) := by decide +kernel
theorem dX11_days_21 : decode cX11_days 21 = .ok (.istore_n 3, 1) := by decide +kernel
theorem dX11_days_22 : decode cX11_days 22 = .ok (.iload_n 3, 1) := by decide +kernel
theorem dX11_days_23 : decode cX11_days 23 = .ok (.iload_n 1, 1) := by decide +kernel
theorem dX11_days_24 : decode cX11_days 24 = .ok (.if_icmp .ge 165, 3) := by decide +kernel
theorem dX11_days_27 : decode cX11_days 27 = .ok (.aload_n 0, 1) := by decide +kernel
theorem dX11_days_28 : decode cX11_days 28 = .ok (.getfield 71, 3) := by decide +kernel
theorem dX11_days_31 : decode cX11_days 31 = .ok (.ldc2_w 364, 3) := by decide +kernel
theorem dX11_days_34 : decode cX11_days 34 = .ok (.invokevirtual 366, 3) := by decide +kernel
theorem dX11_days_37 : decode cX11_days 37 = .ok (.l2i, 1) := by decide +kernel
theorem dX11_days_38 : decode cX11_days 38 = .ok (.istore 4, 2) := by decide +kernel
theorem dX11_days_40 : decode cX11_days 40 = .ok (.aload_n 0, 1) := by decide +kernel
theorem dX11_days_41 : decode cX11_days 41 = .ok (.getfield 71, 3) := by decide +kernel
theorem dX11_days_44 : decode cX11_days 44 = .ok (.ldc2_w 370, 3) := by decide +kernel
theorem dX11_days_47 : decode cX11_days 47 = .ok (.invokevirtual 366, 3) := by decide +kernel
theorem dX11_days_50 : decode cX11_days 50 = .ok (.l2i, 1) := by decide +kernel
theorem dX11_days_51 : decode cX11_days 51 = .ok (.istore 5, 2) := by decide +kernel
theorem dX11_days_53 : decode cX11_days 53 = .ok (.aload_n 0, 1) := by decide +kernel
theorem dX11_days_54 : decode cX11_days 54 = .ok (.getfield 71, 3) := by decide +kernel
theorem dX11_days_57 : decode cX11_days 57 = .ok (.iload 4, 2) := by decide +kernel
theorem dX11_days_59 : decode cX11_days 59 = .ok (.invokevirtual 230, 3) := by decide +kernel
theorem dX11_days_62 : decode cX11_days 62 = .ok (.astore 6, 2) := by decide +kernel
theorem dX11_days_64 : decode cX11_days 64 = .ok (.aload 6, 2) := by decide +kernel
theorem dX11_days_66 : decode cX11_days 66 = .ok (.ifnull 117, 3) := by decide +kernel
theorem dX11_days_69 : decode cX11_days 69 = .ok (.aload_n 0, 1) := by decide +kernel
theorem dX11_days_70 : decode cX11_days 70 = .ok (.aload 6, 2) := by decide +kernel
theorem dX11_days_72 : decode cX11_days 72 = .ok (.iload 5, 2) := by decide +kernel
theorem dX11_days_74 : decode cX11_days 74 = .ok (.invokevirtual 372, 3) := by decide +kernel
theorem dX11_days_77 : decode cX11_days 77 = .ok (.ifCond .ne 6, 3) := by decide +kernel
theorem dX11_days_80 : decode cX11_days 80 = .ok (.goto 103, 3) := by decide +kernel
theorem dX11_days_83 : decode cX11_days 83 = .ok (.iinc 2 1, 3) := by decide +kernel
theorem dX11_days_86 : decode cX11_days 86 = .ok (.iload 5, 2) := by decide +kernel
theorem dX11_days_88 : decode cX11_days 88 = .ok (.iconst 4, 1) := by decide +kernel
theorem dX11_days_89 : decode cX11_days 89 = .ok (.if_icmp .gt 27, 3) := by decide +kernel
theorem dX11_days_92 : decode cX11_days 92 = .ok (.aload_n 0, 1) := by decide +kernel
theorem dX11_days_93 : decode cX11_days 93 = .ok (.aload 6, 2) := by decide +kernel
theorem dX11_days_95 : decode cX11_days 95 = .ok (.iload 5, 2) := by decide +kernel
theorem dX11_days_97 : decode cX11_days 97 = .ok (.invokevirtual 376, 3) := by decide +kernel
theorem dX11_days_100 : decode cX11_days 100 = .ok (.aload 6, 2) := by decide +kernel
theorem dX11_days_102 : decode cX11_days 102 = .ok (.aload_n 0, 1) := by decide +kernel
theorem dX11_days_103 : decode cX11_days 103 = .ok (.getfield 59, 3) := by decide +kernel
theorem dX11_days_106 : decode cX11_days 106 = .ok (.aload_n 0, 1) := by decide +kernel
theorem dX11_days_107 : decode cX11_days 107 = .ok (.getfield 51, 3) := by decide +kernel
theorem dX11_days_110 : decode cX11_days 110 = .ok (.invokevirtual 253, 3) := by decide +kernel
theorem dX11_days_113 : decode cX11_days 113 = .ok (.goto 70, 3) := by decide +kernel
theorem dX11_days_116 : decode cX11_days 116 = .ok (.iload 5, 2) := by decide +kernel
theorem dX11_days_118 : decode cX11_days 118 = .ok (.iconst 5, 1) := by decide +kernel
theorem dX11_days_119 : decode cX11_days 119 = .ok (.if_icmp .ne 25, 3) := by decide +kernel
theorem dX11_days_122 : decode cX11_days 122 = .ok (.aload 6, 2) := by decide +kernel
theorem dX11_days_124 : decode cX11_days 124 = .ok (.aload 6, 2) := by decide +kernel
theorem dX11_days_126 : decode cX11_days 126 = .ok (.getfield 267, 3) := by decide +kernel
theorem dX11_days_129 : decode cX11_days 129 = .ok (.aload 6, 2) := by decide +kernel
theorem dX11_days_131 : decode cX11_days 131 = .ok (.getfield 280, 3) := by decide +kernel
theorem dX11_days_134 : decode cX11_days 134 = .ok (.aload_n 0, 1) := by decide +kernel
theorem dX11_days_135 : decode cX11_days 135 = .ok (.getfield 51, 3) := by decide +kernel
theorem dX11_days_138 : decode cX11_days 138 = .ok (.invokevirtual 283, 3) := by decide +kernel
theorem dX11_days_141 : decode cX11_days 141 = .ok (.goto 42, 3) := by decide +kernel
theorem dX11_days_144 : decode cX11_days 144 = .ok (.iload 5, 2) := by decide +kernel
theorem dX11_days_146 : decode cX11_days 146 = .ok (.bipush 6, 2) := by decide +kernel
theorem dX11_days_148 : decode cX11_days 148 = .ok (.if_icmp .ne 19, 3) := by decide +kernel
theorem dX11_days_151 : decode cX11_days 151 = .ok (.aload_n 0, 1) := by decide +kernel
theorem dX11_days_152 : decode cX11_days 152 = .ok (.getfield 71, 3) := by decide +kernel
theorem dX11_days_155 : decode cX11_days 155 = .ok (.iload 4, 2) := by decide +kernel
theorem dX11_days_157 : decode cX11_days 157 = .ok (.aload_n 0, 1) := by decide +kernel
theorem dX11_days_158 : decode cX11_days 158 = .ok (.getfield 51, 3) := by decide +kernel
theorem dX11_days_161 : decode cX11_days 161 = .ok (.invokevirtual 310, 3) := by decide +kernel
theorem dX11_days_164 : decode cX11_days 164 = .ok (.goto 19, 3) := by decide +kernel
theorem dX11_days_167 : decode cX11_days 167 = .ok (.aload 6, 2) := by decide +kernel
theorem dX11_days_169 : decode cX11_days 169 = .ok (.aload_n 0, 1) := by decide +kernel
theorem dX11_days_170 : decode cX11_days 170 = .ok (.getfield 71, 3) := by decide +kernel
theorem dX11_days_173 : decode cX11_days 173 = .ok (.getfield 317, 3) := by decide +kernel
theorem dX11_days_176 : decode cX11_days 176 = .ok (.aload_n 0, 1) := by decide +kernel
theorem dX11_days_177 : decode cX11_days 177 = .ok (.getfield 51, 3) := by decide +kernel
theorem dX11_days_180 : decode cX11_days 180 = .ok (.invokevirtual 321, 3) := by decide +kernel
theorem dX11_days_183 : decode cX11_days 183 = .ok (.iinc 3 1, 3) := by decide +kernel
theorem dX11_days_186 : decode cX11_days 186 = .ok (.goto (-164), 3) := by decide +kernel
theorem dX11_days_189 : decode cX11_days 189 = .ok (.iload_n 2, 1) := by decide +kernel
theorem dX11_days_190 : decode cX11_days 190 = .ok (.ireturn, 1) := by decide +kernel
theorem dX3_init_0 : decode cX3_init 0 = .ok (.aload_n 0, 1) := by decide +kernel
theorem dX3_init_1 : decode cX3_init 1 = .ok (.invokespecial 5, 3) := by decide +kernel
theorem dX3_init_4 : decode cX3_init 4 = .ok (.aload_n 0, 1) := by decide +kernel
theorem dX3_init_5 : decode cX3_init 5 = .ok (.new 11, 3) := by decide +kernel
theorem dX3_init_8 : decode cX3_init 8 = .ok (.dup, 1) := by decide +kernel
theorem dX3_init_9 : decode cX3_init 9 = .ok (.invokespecial 13, 3) := by decide +kernel
theorem dX3_init_12 : decode cX3_init 12 = .ok (.putfield 14, 3) := by decide +kernel
theorem dX3_init_15 : decode cX3_init 15 = .ok (.aload_n 0, 1) := by decide +kernel
theorem dX3_init_16 : decode cX3_init 16 = .ok (.sipush 128, 3) := by decide +kernel
theorem dX3_init_19 : decode cX3_init 19 = .ok (.newarray .int, 2) := by decide +kernel
theorem dX3_init_21 : decode cX3_init 21 = .ok (.putfield 18, 3) := by decide +kernel
theorem dX3_init_24 : decode cX3_init 24 = .ok (.aload_n 0, 1) := by decide +kernel
theorem dX3_init_25 : decode cX3_init 25 = .ok (.sipush 128, 3) := by decide +kernel
theorem dX3_init_28 : decode cX3_init 28 = .ok (.newarray .int, 2) := by decide +kernel
theorem dX3_init_30 : decode cX3_init 30 = .ok (.putfield 22, 3) := by decide +kernel
theorem dX3_init_33 : decode cX3_init 33 = .ok (.aload_n 0, 1) := by decide +kernel
theorem dX3_init_34 : decode cX3_init 34 = .ok (.sipush 1024, 3) := by decide +kernel
theorem dX3_init_37 : decode cX3_init 37 = .ok (.newarray .int, 2) := by decide +kernel
theorem dX3_init_39 : decode cX3_init 39 = .ok (.putfield 25, 3) := by decide +kernel
theorem dX3_init_42 : decode cX3_init 42 = .ok (.aload_n 0, 1) := by decide +kernel
theorem dX3_init_43 : decode cX3_init 43 = .ok (.sipush 1024, 3) := by decide +kernel
theorem dX3_init_46 : decode cX3_init 46 = .ok (.newarray .int, 2) := by decide +kernel
theorem dX3_init_48 : decode cX3_init 48 = .ok (.putfield 28, 3) := by decide +kernel
theorem dX3_init_51 : decode cX3_init 51 = .ok (.aload_n 0, 1) := by decide +kernel
theorem dX3_init_52 : decode cX3_init 52 = .ok (.sipush 1024, 3) := by decide +kernel
theorem dX3_init_55 : decode cX3_init 55 = .ok (.newarray .long, 2) := by decide +kernel
theorem dX3_init_57 : decode cX3_init 57 = .ok (.putfield 31, 3) := by decide +kernel
theorem dX3_init_60 : decode cX3_init 60 = .ok (.aload_n 0, 1) := by decide +kernel
theorem dX3_init_61 : decode cX3_init 61 = .ok (.sipush 1024, 3) := by decide +kernel
theorem dX3_init_64 : decode cX3_init 64 = .ok (.newarray .int, 2) := by decide +kernel
theorem dX3_init_66 : decode cX3_init 66 = .ok (.putfield 35, 3) := by decide +kernel
theorem dX3_init_69 : decode cX3_init 69 = .ok (.aload_n 0, 1) := by decide +kernel
theorem dX3_init_70 : decode cX3_init 70 = .ok (.sipush 1024, 3) := by decide +kernel
theorem dX3_init_73 : decode cX3_init 73 = .ok (.newarray .int, 2) := by decide +kernel
theorem dX3_init_75 : decode cX3_init 75 = .ok (.putfield 38, 3) := by decide +kernel
theorem dX3_init_78 : decode cX3_init 78 = .ok (.aload_n 0, 1) := by decide +kernel
theorem dX3_init_79 : decode cX3_init 79 = .ok (.sipush 1024, 3) := by decide +kernel
theorem dX3_init_82 : decode cX3_init 82 = .ok (.newarray .int, 2) := by decide +kernel
theorem dX3_init_84 : decode cX3_init 84 = .ok (.putfield 41, 3) := by decide +kernel
theorem dX3_init_87 : decode cX3_init 87 = .ok (.aload_n 0, 1) := by decide +kernel
theorem dX3_init_88 : decode cX3_init 88 = .ok (.sipush 1024, 3) := by decide +kernel
theorem dX3_init_91 : decode cX3_init 91 = .ok (.newarray .int, 2) := by decide +kernel
theorem dX3_init_93 : decode cX3_init 93 = .ok (.putfield 44, 3) := by decide +kernel
theorem dX3_init_96 : decode cX3_init 96 = .ok (.aload_n 0, 1) := by decide +kernel
theorem dX3_init_97 : decode cX3_init 97 = .ok (.sipush 2048, 3) := by decide +kernel
theorem dX3_init_100 : decode cX3_init 100 = .ok (.newarray .int, 2) := by decide +kernel
theorem dX3_init_102 : decode cX3_init 102 = .ok (.putfield 47, 3) := by decide +kernel
theorem dX3_init_105 : decode cX3_init 105 = .ok (.aload_n 0, 1) := by decide +kernel
theorem dX3_init_106 : decode cX3_init 106 = .ok (.ldc 50, 2) := by decide +kernel
theorem dX3_init_108 : decode cX3_init 108 = .ok (.putfield 51, 3) := by decide +kernel
theorem dX3_init_111 : decode cX3_init 111 = .ok (.aload_n 0, 1) := by decide +kernel
theorem dX3_init_112 : decode cX3_init 112 = .ok (.sipush 512, 3) := by decide +kernel
theorem dX3_init_115 : decode cX3_init 115 = .ok (.putfield 55, 3) := by decide +kernel
theorem dX3_init_118 : decode cX3_init 118 = .ok (.aload_n 0, 1) := by decide +kernel
theorem dX3_init_119 : decode cX3_init 119 = .ok (.sipush 1024, 3) := by decide +kernel
theorem dX3_init_122 : decode cX3_init 122 = .ok (.putfield 58, 3) := by decide +kernel
theorem dX3_init_125 : decode cX3_init 125 = .ok (.iconst 0, 1) := by decide +kernel
theorem dX3_init_126 : decode cX3_init 126 = .ok (.istore_n 1, 1) := by decide +kernel
theorem dX3_init_127 : decode cX3_init 127 = .ok (.iload_n 1, 1) := by decide +kernel
theorem dX3_init_128 : decode cX3_init 128 = .ok (.sipush 512, 3) := by decide +kernel
theorem dX3_init_131 : decode cX3_init 131 = .ok (.if_icmp .ge 32, 3) := by decide +kernel
theorem dX3_init_134 : decode cX3_init 134 = .ok (.iload_n 1, 1) := by decide +kernel
theorem dX3_init_135 : decode cX3_init 135 = .ok (.sipush 1024, 3) := by decide +kernel
theorem dX3_init_138 : decode cX3_init 138 = .ok (.if_icmp .ge 25, 3) := by decide +kernel
theorem dX3_init_141 : decode cX3_init 141 = .ok (.aload_n 0, 1) := by decide +kernel
theorem dX3_init_142 : decode cX3_init 142 = .ok (.getfield 31, 3) := by decide +kernel
theorem dX3_init_145 : decode cX3_init 145 = .ok (.iload_n 1, 1) := by decide +kernel
theorem dX3_init_146 : decode cX3_init 146 = .ok (.lconst 1, 1) := by decide +kernel
theorem dX3_init_147 : decode cX3_init 147 = .ok (.lastore, 1) := by decide +kernel
theorem dX3_init_148 : decode cX3_init 148 = .ok (.aload_n 0, 1) := by decide +kernel
theorem dX3_init_149 : decode cX3_init 149 = .ok (.getfield 38, 3) := by decide +kernel
theorem dX3_init_152 : decode cX3_init 152 = .ok (.iload_n 1, 1) := by decide +kernel
theorem dX3_init_153 : decode cX3_init 153 = .ok (.iload_n 1, 1) := by decide +kernel
theorem dX3_init_154 : decode cX3_init 154 = .ok (.iconst 5, 1) := by decide +kernel
theorem dX3_init_155 : decode cX3_init 155 = .ok (.ishr, 1) := by decide +kernel
theorem dX3_init_156 : decode cX3_init 156 = .ok (.iastore, 1) := by decide +kernel
theorem dX3_init_157 : decode cX3_init 157 = .ok (.iinc 1 1, 3) := by decide +kernel
theorem dX3_init_160 : decode cX3_init 160 = .ok (.goto (-33), 3) := by decide +kernel
theorem dX3_init_163 : decode cX3_init 163 = .ok (.return_, 1) := by decide +kernel
theorem dX9_init_0 : decode cX9_init 0 = .ok (.aload_n 0, 1) := by decide +kernel
theorem dX9_init_1 : decode cX9_init 1 = .ok (.invokespecial 3, 3) := by decide +kernel
theorem dX9_init_4 : decode cX9_init 4 = .ok (.aload_n 0, 1) := by decide +kernel
theorem dX9_init_5 : decode cX9_init 5 = .ok (.new 9, 3) := by decide +kernel
theorem dX9_init_8 : decode cX9_init 8 = .ok (.dup, 1) := by decide +kernel
theorem dX9_init_9 : decode cX9_init 9 = .ok (.aload_n 1, 1) := by decide +kernel
theorem dX9_init_10 : decode cX9_init 10 = .ok (.invokespecial 11, 3) := by decide +kernel
theorem dX9_init_13 : decode cX9_init 13 = .ok (.putfield 14, 3) := by decide +kernel
theorem dX9_init_16 : decode cX9_init 16 = .ok (.return_, 1) := by decide +kernel
theorem dX7_init_0 : decode cX7_init 0 = .ok (.aload_n 0, 1) := by decide +kernel
theorem dX7_init_1 : decode cX7_init 1 = .ok (.invokespecial 1, 3) := by decide +kernel
theorem dX7_init_4 : decode cX7_init 4 = .ok (.aload_n 0, 1) := by decide +kernel
theorem dX7_init_5 : decode cX7_init 5 = .ok (.iconst 4, 1) := by decide +kernel
theorem dX7_init_6 : decode cX7_init 6 = .ok (.newarray .long, 2) := by decide +kernel
theorem dX7_init_8 : decode cX7_init 8 = .ok (.putfield 7, 3) := by decide +kernel
theorem dX7_init_11 : decode cX7_init 11 = .ok (.aload_n 0, 1) := by decide +kernel
theorem dX7_init_12 : decode cX7_init 12 = .ok (.aload_n 1, 1) := by decide +kernel
theorem dX7_init_13 : decode cX7_init 13 = .ok (.putfield 13, 3) := by decide +kernel
theorem dX7_init_16 : decode cX7_init 16 = .ok (.return_, 1) := by decide +kernel
theorem dX4_init_0 : decode cX4_init 0 = .ok (.aload_n 0, 1) := by decide +kernel
theorem dX4_init_1 : decode cX4_init 1 = .ok (.invokespecial 3, 3) := by decide +kernel
theorem dX4_init_4 : decode cX4_init 4 = .ok (.aload_n 0, 1) := by decide +kernel
theorem dX4_init_5 : decode cX4_init 5 = .ok (.new 9, 3) := by decide +kernel
theorem dX4_init_8 : decode cX4_init 8 = .ok (.dup, 1) := by decide +kernel
theorem dX4_init_9 : decode cX4_init 9 = .ok (.invokespecial 11, 3) := by decide +kernel
theorem dX4_init_12 : decode cX4_init 12 = .ok (.putfield 12, 3) := by decide +kernel
theorem dX4_init_15 : decode cX4_init 15 = .ok (.aload_n 0, 1) := by decide +kernel
theorem dX4_init_16 : decode cX4_init 16 = .ok (.new 9, 3) := by decide +kernel
theorem dX4_init_19 : decode cX4_init 19 = .ok (.dup, 1) := by decide +kernel
theorem dX4_init_20 : decode cX4_init 20 = .ok (.invokespecial 11, 3) := by decide +kernel
theorem dX4_init_23 : decode cX4_init 23 = .ok (.putfield 18, 3) := by decide +kernel
theorem dX4_init_26 : decode cX4_init 26 = .ok (.aload_n 0, 1) := by decide +kernel
theorem dX4_init_27 : decode cX4_init 27 = .ok (.aload_n 1, 1) := by decide +kernel
theorem dX4_init_28 : decode cX4_init 28 = .ok (.putfield 21, 3) := by decide +kernel
theorem dX4_init_31 : decode cX4_init 31 = .ok (.aload_n 0, 1) := by decide +kernel
theorem dX4_init_32 : decode cX4_init 32 = .ok (.aload_n 0, 1) := by decide +kernel
theorem dX4_init_33 : decode cX4_init 33 = .ok (.getfield 21, 3) := by decide +kernel
theorem dX4_init_36 : decode cX4_init 36 = .ok (.invokevirtual 25, 3) := by decide +kernel
theorem dX4_init_39 : decode cX4_init 39 = .ok (.putfield 31, 3) := by decide +kernel
theorem dX4_init_42 : decode cX4_init 42 = .ok (.aload_n 0, 1) := by decide +kernel
theorem dX4_init_43 : decode cX4_init 43 = .ok (.aload_n 0, 1) := by decide +kernel
theorem dX4_init_44 : decode cX4_init 44 = .ok (.getfield 21, 3) := by decide +kernel
theorem dX4_init_47 : decode cX4_init 47 = .ok (.invokevirtual 25, 3) := by decide +kernel
theorem dX4_init_50 : decode cX4_init 50 = .ok (.putfield 35, 3) := by decide +kernel
theorem dX4_init_53 : decode cX4_init 53 = .ok (.aload_n 0, 1) := by decide +kernel
theorem dX4_init_54 : decode cX4_init 54 = .ok (.aload_n 0, 1) := by decide +kernel
theorem dX4_init_55 : decode cX4_init 55 = .ok (.getfield 21, 3) := by decide +kernel
theorem dX4_init_58 : decode cX4_init 58 = .ok (.invokevirtual 25, 3) := by decide +kernel
theorem dX4_init_61 : decode cX4_init 61 = .ok (.putfield 38, 3) := by decide +kernel
theorem dX4_init_64 : decode cX4_init 64 = .ok (.aload_n 0, 1) := by decide +kernel
theorem dX4_init_65 : decode cX4_init 65 = .ok (.aload_n 0, 1) := by decide +kernel
theorem dX4_init_66 : decode cX4_init 66 = .ok (.getfield 21, 3) := by decide +kernel
theorem dX4_init_69 : decode cX4_init 69 = .ok (.invokevirtual 25, 3) := by decide +kernel
theorem dX4_init_72 : decode cX4_init 72 = .ok (.putfield 41, 3) := by decide +kernel
theorem dX4_init_75 : decode cX4_init 75 = .ok (.return_, 1) := by decide +kernel
theorem dX3_newEdit_0 : decode cX3_newEdit 0 = .ok (.new 61, 3) := by decide +kernel
theorem dX3_newEdit_3 : decode cX3_newEdit 3 = .ok (.dup, 1) := by decide +kernel
theorem dX3_newEdit_4 : decode cX3_newEdit 4 = .ok (.aload_n 0, 1) := by decide +kernel
theorem dX3_newEdit_5 : decode cX3_newEdit 5 = .ok (.invokespecial 63, 3) := by decide +kernel
theorem dX3_newEdit_8 : decode cX3_newEdit 8 = .ok (.astore_n 1, 1) := by decide +kernel
theorem dX3_newEdit_9 : decode cX3_newEdit 9 = .ok (.aload_n 0, 1) := by decide +kernel
theorem dX3_newEdit_10 : decode cX3_newEdit 10 = .ok (.getfield 14, 3) := by decide +kernel
theorem dX3_newEdit_13 : decode cX3_newEdit 13 = .ok (.aload_n 1, 1) := by decide +kernel
theorem dX3_newEdit_14 : decode cX3_newEdit 14 = .ok (.invokevirtual 66, 3) := by decide +kernel
theorem dX3_newEdit_17 : decode cX3_newEdit 17 = .ok (.pop, 1) := by decide +kernel
theorem dX3_newEdit_18 : decode cX3_newEdit 18 = .ok (.aload_n 1, 1) := by decide +kernel
theorem dX3_newEdit_19 : decode cX3_newEdit 19 = .ok (.areturn, 1) := by decide +kernel
theorem dX6_init_0 : decode cX6_init 0 = .ok (.aload_n 0, 1) := by decide +kernel
theorem dX6_init_1 : decode cX6_init 1 = .ok (.invokespecial 3, 3) := by decide +kernel
theorem dX6_init_4 : decode cX6_init 4 = .ok (.aload_n 0, 1) := by decide +kernel
theorem dX6_init_5 : decode cX6_init 5 = .ok (.bipush 90, 2) := by decide +kernel
theorem dX6_init_7 : decode cX6_init 7 = .ok (.anewarray 9, 3) := by decide +kernel
theorem dX6_init_10 : decode cX6_init 10 = .ok (.putfield 11, 3) := by decide +kernel
theorem dX6_init_13 : decode cX6_init 13 = .ok (.aload_n 0, 1) := by decide +kernel
theorem dX6_init_14 : decode cX6_init 14 = .ok (.bipush 90, 2) := by decide +kernel
theorem dX6_init_16 : decode cX6_init 16 = .ok (.newarray .int, 2) := by decide +kernel
theorem dX6_init_18 : decode cX6_init 18 = .ok (.putfield 17, 3) := by decide +kernel
theorem dX6_init_21 : decode cX6_init 21 = .ok (.aload_n 0, 1) := by decide +kernel
theorem dX6_init_22 : decode cX6_init 22 = .ok (.aload_n 1, 1) := by decide +kernel
theorem dX6_init_23 : decode cX6_init 23 = .ok (.putfield 21, 3) := by decide +kernel
theorem dX6_init_26 : decode cX6_init 26 = .ok (.return_, 1) := by decide +kernel
theorem dX5_init_0 : decode cX5_init 0 = .ok (.aload_n 0, 1) := by decide +kernel
theorem dX5_init_1 : decode cX5_init 1 = .ok (.invokespecial 3, 3) := by decide +kernel
theorem dX5_init_4 : decode cX5_init 4 = .ok (.aload_n 0, 1) := by decide +kernel
theorem dX5_init_5 : decode cX5_init 5 = .ok (.iconst 4, 1) := by decide +kernel
theorem dX5_init_6 : decode cX5_init 6 = .ok (.anewarray 9, 3) := by decide +kernel
theorem dX5_init_9 : decode cX5_init 9 = .ok (.putfield 11, 3) := by decide +kernel
theorem dX5_init_12 : decode cX5_init 12 = .ok (.aload_n 0, 1) := by decide +kernel
theorem dX5_init_13 : decode cX5_init 13 = .ok (.iconst 1, 1) := by decide +kernel
theorem dX5_init_14 : decode cX5_init 14 = .ok (.putfield 17, 3) := by decide +kernel
theorem dX5_init_17 : decode cX5_init 17 = .ok (.aload_n 0, 1) := by decide +kernel
theorem dX5_init_18 : decode cX5_init 18 = .ok (.aload_n 1, 1) := by decide +kernel
theorem dX5_init_19 : decode cX5_init 19 = .ok (.putfield 21, 3) := by decide +kernel
theorem dX5_init_22 : decode cX5_init 22 = .ok (.aload_n 0, 1) := by decide +kernel
theorem dX5_init_23 : decode cX5_init 23 = .ok (.aload_n 2, 1) := by decide +kernel
theorem dX5_init_24 : decode cX5_init 24 = .ok (.putfield 25, 3) := by decide +kernel
theorem dX5_init_27 : decode cX5_init 27 = .ok (.aload_n 0, 1) := by decide +kernel
theorem dX5_init_28 : decode cX5_init 28 = .ok (.aload_n 0, 1) := by decide +kernel
theorem dX5_init_29 : decode cX5_init 29 = .ok (.getfield 21, 3) := by decide +kernel
theorem dX5_init_32 : decode cX5_init 32 = .ok (.invokevirtual 29, 3) := by decide +kernel
theorem dX5_init_35 : decode cX5_init 35 = .ok (.putfield 35, 3) := by decide +kernel
theorem dX5_init_38 : decode cX5_init 38 = .ok (.iconst 0, 1) := by decide +kernel
theorem dX5_init_39 : decode cX5_init 39 = .ok (.istore_n 3, 1) := by decide +kernel
theorem dX5_init_40 : decode cX5_init 40 = .ok (.iload_n 3, 1) := by decide +kernel
theorem dX5_init_41 : decode cX5_init 41 = .ok (.aload_n 0, 1) := by decide +kernel
theorem dX5_init_42 : decode cX5_init 42 = .ok (.getfield 11, 3) := by decide +kernel
theorem dX5_init_45 : decode cX5_init 45 = .ok (.arraylength, 1) := by decide +kernel
theorem dX5_init_46 : decode cX5_init 46 = .ok (.if_icmp .ge 27, 3) := by decide +kernel
theorem dX5_init_49 : decode cX5_init 49 = .ok (.aload_n 0, 1) := by decide +kernel
theorem dX5_init_50 : decode cX5_init 50 = .ok (.getfield 11, 3) := by decide +kernel
theorem dX5_init_53 : decode cX5_init 53 = .ok (.iload_n 3, 1) := by decide +kernel
theorem dX5_init_54 : decode cX5_init 54 = .ok (.new 9, 3) := by decide +kernel
theorem dX5_init_57 : decode cX5_init 57 = .ok (.dup, 1) := by decide +kernel
theorem dX5_init_58 : decode cX5_init 58 = .ok (.iload_n 3, 1) := by decide +kernel
theorem dX5_init_59 : decode cX5_init 59 = .ok (.aload_n 0, 1) := by decide +kernel
theorem dX5_init_60 : decode cX5_init 60 = .ok (.getfield 21, 3) := by decide +kernel
theorem dX5_init_63 : decode cX5_init 63 = .ok (.invokespecial 39, 3) := by decide +kernel
theorem dX5_init_66 : decode cX5_init 66 = .ok (.aastore, 1) := by decide +kernel
theorem dX5_init_67 : decode cX5_init 67 = .ok (.iinc 3 1, 3) := by decide +kernel
theorem dX5_init_70 : decode cX5_init 70 = .ok (.goto (-30), 3) := by decide +kernel
theorem dX5_init_73 : decode cX5_init 73 = .ok (.return_, 1) := by decide +kernel
theorem dX12_in_0 : decode cX12_in 0 = .ok (.lload_n 0, 1) := by decide +kernel
theorem dX12_in_1 : decode cX12_in 1 = .ok (.lload_n 2, 1) := by decide +kernel
theorem dX12_in_2 : decode cX12_in 2 = .ok (.lcmp, 1) := by decide +kernel
theorem dX12_in_3 : decode cX12_in 3 = .ok (.ifCond .lt 14, 3) := by decide +kernel
theorem dX12_in_6 : decode cX12_in 6 = .ok (.lload_n 0, 1) := by decide +kernel
theorem dX12_in_7 : decode cX12_in 7 = .ok (.lload 4, 2) := by decide +kernel
theorem dX12_in_9 : decode cX12_in 9 = .ok (.lcmp, 1) := by decide +kernel
theorem dX12_in_10 : decode cX12_in 10 = .ok (.ifCond .gt 7, 3) := by decide +kernel
theorem dX12_in_13 : decode cX12_in 13 = .ok (.iconst 1, 1) := by decide +kernel
theorem dX12_in_14 : decode cX12_in 14 = .ok (.goto 4, 3) := by decide +kernel
theorem dX12_in_17 : decode cX12_in 17 = .ok (.iconst 0, 1) := by decide +kernel
theorem dX12_in_18 : decode cX12_in 18 = .ok (.ireturn, 1) := by decide +kernel
theorem dX12_refused_0 : decode cX12_refused 0 = .ok (.aload_n 0, 1) := by decide +kernel
theorem dX12_refused_1 : decode cX12_refused 1 = .ok (.getfield 37, 3) := by decide +kernel
theorem dX12_refused_4 : decode cX12_refused 4 = .ok (.iload_n 1, 1) := by decide +kernel
theorem dX12_refused_5 : decode cX12_refused 5 = .ok (.ineg, 1) := by decide +kernel
theorem dX12_refused_6 : decode cX12_refused 6 = .ok (.dup2, 1) := by decide +kernel
theorem dX12_refused_7 : decode cX12_refused 7 = .ok (.iaload, 1) := by decide +kernel
theorem dX12_refused_8 : decode cX12_refused 8 = .ok (.iconst 1, 1) := by decide +kernel
theorem dX12_refused_9 : decode cX12_refused 9 = .ok (.iadd, 1) := by decide +kernel
theorem dX12_refused_10 : decode cX12_refused 10 = .ok (.iastore, 1) := by decide +kernel
theorem dX12_refused_11 : decode cX12_refused 11 = .ok (.iload_n 1, 1) := by decide +kernel
theorem dX12_refused_12 : decode cX12_refused 12 = .ok (.ireturn, 1) := by decide +kernel
theorem dX12_draw_0 : decode cX12_draw 0 = .ok (.aload_n 0, 1) := by decide +kernel
theorem dX12_draw_1 : decode cX12_draw 1 = .ok (.getfield 34, 3) := by decide +kernel
theorem dX12_draw_4 : decode cX12_draw 4 = .ok (.iconst 1, 1) := by decide +kernel
theorem dX12_draw_5 : decode cX12_draw 5 = .ok (.aload_n 0, 1) := by decide +kernel
theorem dX12_draw_6 : decode cX12_draw 6 = .ok (.getfield 34, 3) := by decide +kernel
theorem dX12_draw_9 : decode cX12_draw 9 = .ok (.iconst 1, 1) := by decide +kernel
theorem dX12_draw_10 : decode cX12_draw 10 = .ok (.iaload, 1) := by decide +kernel
theorem dX12_draw_11 : decode cX12_draw 11 = .ok (.ldc_w 346, 3) := by decide +kernel
theorem dX12_draw_14 : decode cX12_draw 14 = .ok (.imul, 1) := by decide +kernel
theorem dX12_draw_15 : decode cX12_draw 15 = .ok (.sipush 12345, 3) := by decide +kernel
theorem dX12_draw_18 : decode cX12_draw 18 = .ok (.iadd, 1) := by decide +kernel
theorem dX12_draw_19 : decode cX12_draw 19 = .ok (.iastore, 1) := by decide +kernel
theorem dX12_draw_20 : decode cX12_draw 20 = .ok (.aload_n 0, 1) := by decide +kernel
theorem dX12_draw_21 : decode cX12_draw 21 = .ok (.getfield 34, 3) := by decide +kernel
theorem dX12_draw_24 : decode cX12_draw 24 = .ok (.iconst 1, 1) := by decide +kernel
theorem dX12_draw_25 : decode cX12_draw 25 = .ok (.iaload, 1) := by decide +kernel
theorem dX12_draw_26 : decode cX12_draw 26 = .ok (.bipush 16, 2) := by decide +kernel
theorem dX12_draw_28 : decode cX12_draw 28 = .ok (.iushr, 1) := by decide +kernel
theorem dX12_draw_29 : decode cX12_draw 29 = .ok (.iload_n 1, 1) := by decide +kernel
theorem dX12_draw_30 : decode cX12_draw 30 = .ok (.irem, 1) := by decide +kernel
theorem dX12_draw_31 : decode cX12_draw 31 = .ok (.ireturn, 1) := by decide +kernel
theorem dX12_isDay_0 : decode cX12_isDay 0 = .ok (.aload_n 0, 1) := by decide +kernel
theorem dX12_isDay_1 : decode cX12_isDay 1 = .ok (.getfield 25, 3) := by decide +kernel
theorem dX12_isDay_4 : decode cX12_isDay 4 = .ok (.iload_n 1, 1) := by decide +kernel
theorem dX12_isDay_5 : decode cX12_isDay 5 = .ok (.iaload, 1) := by decide +kernel
theorem dX12_isDay_6 : decode cX12_isDay 6 = .ok (.istore_n 3, 1) := by decide +kernel
theorem dX12_isDay_7 : decode cX12_isDay 7 = .ok (.iload_n 2, 1) := by decide +kernel
theorem dX12_isDay_8 : decode cX12_isDay 8 = .ok (.iconst 3, 1) := by decide +kernel
theorem dX12_isDay_9 : decode cX12_isDay 9 = .ok (.if_icmp .ge 38, 3) := by decide +kernel
theorem dX12_isDay_12 : decode cX12_isDay 12 = .ok (.iload_n 3, 1) := by decide +kernel
theorem dX12_isDay_13 : decode cX12_isDay 13 = .ok (.bipush 60, 2) := by decide +kernel
theorem dX12_isDay_15 : decode cX12_isDay 15 = .ok (.if_icmp .lt 5, 3) := by decide +kernel
theorem dX12_isDay_18 : decode cX12_isDay 18 = .ok (.iconst 0, 1) := by decide +kernel
theorem dX12_isDay_19 : decode cX12_isDay 19 = .ok (.ireturn, 1) := by decide +kernel
theorem dX12_isDay_20 : decode cX12_isDay 20 = .ok (.aload_n 0, 1) := by decide +kernel
theorem dX12_isDay_21 : decode cX12_isDay 21 = .ok (.bipush 26, 2) := by decide +kernel
theorem dX12_isDay_23 : decode cX12_isDay 23 = .ok (.invokevirtual 347, 3) := by decide +kernel
theorem dX12_isDay_26 : decode cX12_isDay 26 = .ok (.istore 4, 2) := by decide +kernel
theorem dX12_isDay_28 : decode cX12_isDay 28 = .ok (.aload_n 0, 1) := by decide +kernel
theorem dX12_isDay_29 : decode cX12_isDay 29 = .ok (.iload_n 1, 1) := by decide +kernel
theorem dX12_isDay_30 : decode cX12_isDay 30 = .ok (.aload_n 0, 1) := by decide +kernel
theorem dX12_isDay_31 : decode cX12_isDay 31 = .ok (.iload_n 3, 1) := by decide +kernel
theorem dX12_isDay_32 : decode cX12_isDay 32 = .ok (.iconst 1, 1) := by decide +kernel
theorem dX12_isDay_33 : decode cX12_isDay 33 = .ok (.iadd, 1) := by decide +kernel
theorem dX12_isDay_34 : decode cX12_isDay 34 = .ok (.invokevirtual 347, 3) := by decide +kernel
theorem dX12_isDay_37 : decode cX12_isDay 37 = .ok (.ldc 110, 2) := by decide +kernel
theorem dX12_isDay_39 : decode cX12_isDay 39 = .ok (.iload 4, 2) := by decide +kernel
theorem dX12_isDay_41 : decode cX12_isDay 41 = .ok (.ior, 1) := by decide +kernel
theorem dX12_isDay_42 : decode cX12_isDay 42 = .ok (.invokevirtual 290, 3) := by decide +kernel
theorem dX12_isDay_45 : decode cX12_isDay 45 = .ok (.iconst 1, 1) := by decide +kernel
theorem dX12_isDay_46 : decode cX12_isDay 46 = .ok (.ireturn, 1) := by decide +kernel
theorem dX12_isDay_47 : decode cX12_isDay 47 = .ok (.iload_n 2, 1) := by decide +kernel
theorem dX12_isDay_48 : decode cX12_isDay 48 = .ok (.iconst 5, 1) := by decide +kernel
theorem dX12_isDay_49 : decode cX12_isDay 49 = .ok (.if_icmp .ge 54, 3) := by decide +kernel
theorem dX12_isDay_52 : decode cX12_isDay 52 = .ok (.iload_n 3, 1) := by decide +kernel
theorem dX12_isDay_53 : decode cX12_isDay 53 = .ok (.ifCond .ne 5, 3) := by decide +kernel
theorem dX12_isDay_56 : decode cX12_isDay 56 = .ok (.iconst 0, 1) := by decide +kernel
theorem dX12_isDay_57 : decode cX12_isDay 57 = .ok (.ireturn, 1) := by decide +kernel
theorem dX12_isDay_58 : decode cX12_isDay 58 = .ok (.aload_n 0, 1) := by decide +kernel
theorem dX12_isDay_59 : decode cX12_isDay 59 = .ok (.iload_n 3, 1) := by decide +kernel
theorem dX12_isDay_60 : decode cX12_isDay 60 = .ok (.invokevirtual 347, 3) := by decide +kernel
theorem dX12_isDay_63 : decode cX12_isDay 63 = .ok (.istore 4, 2) := by decide +kernel
theorem dX12_isDay_65 : decode cX12_isDay 65 = .ok (.aload_n 0, 1) := by decide +kernel
theorem dX12_isDay_66 : decode cX12_isDay 66 = .ok (.iload_n 1, 1) := by decide +kernel
theorem dX12_isDay_67 : decode cX12_isDay 67 = .ok (.iload 4, 2) := by decide +kernel
theorem dX12_isDay_69 : decode cX12_isDay 69 = .ok (.iconst 1, 1) := by decide +kernel
theorem dX12_isDay_70 : decode cX12_isDay 70 = .ok (.iload_n 2, 1) := by decide +kernel
theorem dX12_isDay_71 : decode cX12_isDay 71 = .ok (.iconst 3, 1) := by decide +kernel
theorem dX12_isDay_72 : decode cX12_isDay 72 = .ok (.if_icmp .ne 8, 3) := by decide +kernel
theorem dX12_isDay_75 : decode cX12_isDay 75 = .ok (.ldc 109, 2) := by decide +kernel
theorem dX12_isDay_77 : decode cX12_isDay 77 = .ok (.goto 14, 3) := by decide +kernel
theorem dX12_isDay_80 : decode cX12_isDay 80 = .ok (.ldc 126, 2) := by decide +kernel
theorem dX12_isDay_82 : decode cX12_isDay 82 = .ok (.bipush 16, 2) := by decide +kernel
theorem dX12_isDay_84 : decode cX12_isDay 84 = .ok (.aload_n 0, 1) := by decide +kernel
theorem dX12_isDay_85 : decode cX12_isDay 85 = .ok (.iconst 4, 1) := by decide +kernel
theorem dX12_isDay_86 : decode cX12_isDay 86 = .ok (.invokevirtual 347, 3) := by decide +kernel
theorem dX12_isDay_89 : decode cX12_isDay 89 = .ok (.ishl, 1) := by decide +kernel
theorem dX12_isDay_90 : decode cX12_isDay 90 = .ok (.ior, 1) := by decide +kernel
theorem dX12_isDay_91 : decode cX12_isDay 91 = .ok (.invokevirtual 297, 3) := by decide +kernel
theorem dX12_isDay_94 : decode cX12_isDay 94 = .ok (.aload_n 0, 1) := by decide +kernel
theorem dX12_isDay_95 : decode cX12_isDay 95 = .ok (.iload_n 1, 1) := by decide +kernel
theorem dX12_isDay_96 : decode cX12_isDay 96 = .ok (.iconst 4, 1) := by decide +kernel
theorem dX12_isDay_97 : decode cX12_isDay 97 = .ok (.iconst 1, 1) := by decide +kernel
theorem dX12_isDay_98 : decode cX12_isDay 98 = .ok (.invokevirtual 283, 3) := by decide +kernel
theorem dX12_isDay_101 : decode cX12_isDay 101 = .ok (.iconst 1, 1) := by decide +kernel
theorem dX12_isDay_102 : decode cX12_isDay 102 = .ok (.ireturn, 1) := by decide +kernel
theorem dX12_isDay_103 : decode cX12_isDay 103 = .ok (.iload_n 2, 1) := by decide +kernel
theorem dX12_isDay_104 : decode cX12_isDay 104 = .ok (.iconst 5, 1) := by decide +kernel
theorem dX12_isDay_105 : decode cX12_isDay 105 = .ok (.if_icmp .ne 18, 3) := by decide +kernel
theorem dX12_isDay_108 : decode cX12_isDay 108 = .ok (.aload_n 0, 1) := by decide +kernel
theorem dX12_isDay_109 : decode cX12_isDay 109 = .ok (.iload_n 1, 1) := by decide +kernel
theorem dX12_isDay_110 : decode cX12_isDay 110 = .ok (.iconst 4, 1) := by decide +kernel
theorem dX12_isDay_111 : decode cX12_isDay 111 = .ok (.invokevirtual 312, 3) := by decide +kernel
theorem dX12_isDay_114 : decode cX12_isDay 114 = .ok (.ifCond .ne 7, 3) := by decide +kernel
theorem dX12_isDay_117 : decode cX12_isDay 117 = .ok (.iconst 1, 1) := by decide +kernel
theorem dX12_isDay_118 : decode cX12_isDay 118 = .ok (.goto 4, 3) := by decide +kernel
theorem dX12_isDay_121 : decode cX12_isDay 121 = .ok (.iconst 0, 1) := by decide +kernel
theorem dX12_isDay_122 : decode cX12_isDay 122 = .ok (.ireturn, 1) := by decide +kernel
theorem dX12_isDay_123 : decode cX12_isDay 123 = .ok (.iload_n 2, 1) := by decide +kernel
theorem dX12_isDay_124 : decode cX12_isDay 124 = .ok (.bipush 6, 2) := by decide +kernel
theorem dX12_isDay_126 : decode cX12_isDay 126 = .ok (.if_icmp .ne 50, 3) := by decide +kernel
theorem dX12_isDay_129 : decode cX12_isDay 129 = .ok (.aload_n 0, 1) := by decide +kernel
theorem dX12_isDay_130 : decode cX12_isDay 130 = .ok (.iload_n 1, 1) := by decide +kernel
theorem dX12_isDay_131 : decode cX12_isDay 131 = .ok (.iconst 1, 1) := by decide +kernel
theorem dX12_isDay_132 : decode cX12_isDay 132 = .ok (.invokevirtual 135, 3) := by decide +kernel
theorem dX12_isDay_135 : decode cX12_isDay 135 = .ok (.iconst 1, 1) := by decide +kernel
theorem dX12_isDay_136 : decode cX12_isDay 136 = .ok (.if_icmp .ne 18, 3) := by decide +kernel
theorem dX12_isDay_139 : decode cX12_isDay 139 = .ok (.aload_n 0, 1) := by decide +kernel
theorem dX12_isDay_140 : decode cX12_isDay 140 = .ok (.getfield 34, 3) := by decide +kernel
theorem dX12_isDay_143 : decode cX12_isDay 143 = .ok (.iconst 0, 1) := by decide +kernel
theorem dX12_isDay_144 : decode cX12_isDay 144 = .ok (.iaload, 1) := by decide +kernel
theorem dX12_isDay_145 : decode cX12_isDay 145 = .ok (.bipush 90, 2) := by decide +kernel
theorem dX12_isDay_147 : decode cX12_isDay 147 = .ok (.if_icmp .ge 7, 3) := by decide +kernel
theorem dX12_isDay_150 : decode cX12_isDay 150 = .ok (.iconst 1, 1) := by decide +kernel
theorem dX12_isDay_151 : decode cX12_isDay 151 = .ok (.goto 4, 3) := by decide +kernel
theorem dX12_isDay_154 : decode cX12_isDay 154 = .ok (.iconst 0, 1) := by decide +kernel
theorem dX12_isDay_155 : decode cX12_isDay 155 = .ok (.istore 4, 2) := by decide +kernel
theorem dX12_isDay_157 : decode cX12_isDay 157 = .ok (.iload 4, 2) := by decide +kernel
theorem dX12_isDay_159 : decode cX12_isDay 159 = .ok (.ifCond .eq 11, 3) := by decide +kernel
theorem dX12_isDay_162 : decode cX12_isDay 162 = .ok (.aload_n 0, 1) := by decide +kernel
theorem dX12_isDay_163 : decode cX12_isDay 163 = .ok (.iload_n 1, 1) := by decide +kernel
theorem dX12_isDay_164 : decode cX12_isDay 164 = .ok (.invokevirtual 300, 3) := by decide +kernel
theorem dX12_isDay_167 : decode cX12_isDay 167 = .ok (.goto 4, 3) := by decide +kernel
theorem dX12_isDay_170 : decode cX12_isDay 170 = .ok (.iconst 0, 1) := by decide +kernel
theorem dX12_isDay_171 : decode cX12_isDay 171 = .ok (.istore 5, 2) := by decide +kernel
theorem dX12_isDay_173 : decode cX12_isDay 173 = .ok (.iload 4, 2) := by decide +kernel
theorem dX12_isDay_175 : decode cX12_isDay 175 = .ok (.ireturn, 1) := by decide +kernel
theorem dX12_isDay_176 : decode cX12_isDay 176 = .ok (.aload_n 0, 1) := by decide +kernel
theorem dX12_isDay_177 : decode cX12_isDay 177 = .ok (.iload_n 1, 1) := by decide +kernel
theorem dX12_isDay_178 : decode cX12_isDay 178 = .ok (.iconst 0, 1) := by decide +kernel
theorem dX12_isDay_179 : decode cX12_isDay 179 = .ok (.invokevirtual 135, 3) := by decide +kernel
theorem dX12_isDay_182 : decode cX12_isDay 182 = .ok (.aload_n 0, 1) := by decide +kernel
theorem dX12_isDay_183 : decode cX12_isDay 183 = .ok (.getfield 34, 3) := by decide +kernel
theorem dX12_isDay_186 : decode cX12_isDay 186 = .ok (.iconst 0, 1) := by decide +kernel
theorem dX12_isDay_187 : decode cX12_isDay 187 = .ok (.iaload, 1) := by decide +kernel
theorem dX12_isDay_188 : decode cX12_isDay 188 = .ok (.if_icmp .ne 5, 3) := by decide +kernel
theorem dX12_isDay_191 : decode cX12_isDay 191 = .ok (.iconst 0, 1) := by decide +kernel
theorem dX12_isDay_192 : decode cX12_isDay 192 = .ok (.ireturn, 1) := by decide +kernel
theorem dX12_isDay_193 : decode cX12_isDay 193 = .ok (.aload_n 0, 1) := by decide +kernel
theorem dX12_isDay_194 : decode cX12_isDay 194 = .ok (.iload_n 1, 1) := by decide +kernel
theorem dX12_isDay_195 : decode cX12_isDay 195 = .ok (.invokevirtual 303, 3) := by decide +kernel
theorem dX12_isDay_198 : decode cX12_isDay 198 = .ok (.iconst 1, 1) := by decide +kernel
theorem dX12_isDay_199 : decode cX12_isDay 199 = .ok (.ireturn, 1) := by decide +kernel
theorem dX11_refuse_0 : decode cX11_refuse 0 = .ok (.bipush (-2), 2) := by decide +kernel
theorem dX11_refuse_2 : decode cX11_refuse 2 = .ok (.iload_n 1, 1) := by decide +kernel
theorem dX11_refuse_3 : decode cX11_refuse 3 = .ok (.isub, 1) := by decide +kernel
theorem dX11_refuse_4 : decode cX11_refuse 4 = .ok (.istore_n 2, 1) := by decide +kernel
theorem dX11_refuse_5 : decode cX11_refuse 5 = .ok (.iload_n 2, 1) := by decide +kernel
theorem dX11_refuse_6 : decode cX11_refuse 6 = .ok (.ifCond .lt 22, 3) := by decide +kernel
theorem dX11_refuse_9 : decode cX11_refuse 9 = .ok (.iload_n 2, 1) := by decide +kernel
theorem dX11_refuse_10 : decode cX11_refuse 10 = .ok (.aload_n 0, 1) := by decide +kernel
theorem dX11_refuse_11 : decode cX11_refuse 11 = .ok (.getfield 21, 3) := by decide +kernel
theorem dX11_refuse_14 : decode cX11_refuse 14 = .ok (.arraylength, 1) := by decide +kernel
theorem dX11_refuse_15 : decode cX11_refuse 15 = .ok (.if_icmp .ge 13, 3) := by decide +kernel
theorem dX11_refuse_18 : decode cX11_refuse 18 = .ok (.aload_n 0, 1) := by decide +kernel
theorem dX11_refuse_19 : decode cX11_refuse 19 = .ok (.getfield 21, 3) := by decide +kernel
theorem dX11_refuse_22 : decode cX11_refuse 22 = .ok (.iload_n 2, 1) := by decide +kernel
theorem dX11_refuse_23 : decode cX11_refuse 23 = .ok (.dup2, 1) := by decide +kernel
theorem dX11_refuse_24 : decode cX11_refuse 24 = .ok (.iaload, 1) := by decide +kernel
theorem dX11_refuse_25 : decode cX11_refuse 25 = .ok (.iconst 1, 1) := by decide +kernel
theorem dX11_refuse_26 : decode cX11_refuse 26 = .ok (.iadd, 1) := by decide +kernel
theorem dX11_refuse_27 : decode cX11_refuse 27 = .ok (.iastore, 1) := by decide +kernel
theorem dX11_refuse_28 : decode cX11_refuse 28 = .ok (.iload_n 1, 1) := by decide +kernel
theorem dX11_refuse_29 : decode cX11_refuse 29 = .ok (.ireturn, 1) := by decide +kernel
theorem dX5_draw_0 : decode cX5_draw 0 = .ok (.aload_n 0, 1) := by decide +kernel
theorem dX5_draw_1 : decode cX5_draw 1 = .ok (.aload_n 0, 1) := by decide +kernel
theorem dX5_draw_2 : decode cX5_draw 2 = .ok (.getfield 17, 3) := by decide +kernel
theorem dX5_draw_5 : decode cX5_draw 5 = .ok (.ldc 118, 2) := by decide +kernel
theorem dX5_draw_7 : decode cX5_draw 7 = .ok (.imul, 1) := by decide +kernel
theorem dX5_draw_8 : decode cX5_draw 8 = .ok (.sipush 12345, 3) := by decide +kernel
theorem dX5_draw_11 : decode cX5_draw 11 = .ok (.iadd, 1) := by decide +kernel
theorem dX5_draw_12 : decode cX5_draw 12 = .ok (.putfield 17, 3) := by decide +kernel
theorem dX5_draw_15 : decode cX5_draw 15 = .ok (.lload_n 1, 1) := by decide +kernel
theorem dX5_draw_16 : decode cX5_draw 16 = .ok (.lconst 0, 1) := by decide +kernel
theorem dX5_draw_17 : decode cX5_draw 17 = .ok (.lcmp, 1) := by decide +kernel
theorem dX5_draw_18 : decode cX5_draw 18 = .ok (.ifCond .le 16, 3) := by decide +kernel
theorem dX5_draw_21 : decode cX5_draw 21 = .ok (.aload_n 0, 1) := by decide +kernel
theorem dX5_draw_22 : decode cX5_draw 22 = .ok (.getfield 17, 3) := by decide +kernel
theorem dX5_draw_25 : decode cX5_draw 25 = .ok (.bipush 16, 2) := by decide +kernel
theorem dX5_draw_27 : decode cX5_draw 27 = .ok (.iushr, 1) := by decide +kernel
theorem dX5_draw_28 : decode cX5_draw 28 = .ok (.i2l, 1) := by decide +kernel
theorem dX5_draw_29 : decode cX5_draw 29 = .ok (.lload_n 1, 1) := by decide +kernel
theorem dX5_draw_30 : decode cX5_draw 30 = .ok (.lrem, 1) := by decide +kernel
theorem dX5_draw_31 : decode cX5_draw 31 = .ok (.goto 4, 3) := by decide +kernel
theorem dX5_draw_34 : decode cX5_draw 34 = .ok (.lconst 0, 1) := by decide +kernel
theorem dX5_draw_35 : decode cX5_draw 35 = .ok (.lreturn, 1) := by decide +kernel
theorem dX5_clientAt_0 : decode cX5_clientAt 0 = .ok (.iload_n 1, 1) := by decide +kernel
theorem dX5_clientAt_1 : decode cX5_clientAt 1 = .ok (.ifCond .lt 21, 3) := by decide +kernel
theorem dX5_clientAt_4 : decode cX5_clientAt 4 = .ok (.iload_n 1, 1) := by decide +kernel
theorem dX5_clientAt_5 : decode cX5_clientAt 5 = .ok (.aload_n 0, 1) := by decide +kernel
theorem dX5_clientAt_6 : decode cX5_clientAt 6 = .ok (.getfield 11, 3) := by decide +kernel
theorem dX5_clientAt_9 : decode cX5_clientAt 9 = .ok (.arraylength, 1) := by decide +kernel
theorem dX5_clientAt_10 : decode cX5_clientAt 10 = .ok (.if_icmp .ge 12, 3) := by decide +kernel
theorem dX5_clientAt_13 : decode cX5_clientAt 13 = .ok (.aload_n 0, 1) := by decide +kernel
theorem dX5_clientAt_14 : decode cX5_clientAt 14 = .ok (.getfield 11, 3) := by decide +kernel
theorem dX5_clientAt_17 : decode cX5_clientAt 17 = .ok (.iload_n 1, 1) := by decide +kernel
theorem dX5_clientAt_18 : decode cX5_clientAt 18 = .ok (.aaload, 1) := by decide +kernel
theorem dX5_clientAt_19 : decode cX5_clientAt 19 = .ok (.goto 4, 3) := by decide +kernel
theorem dX5_clientAt_22 : decode cX5_clientAt 22 = .ok (.aconst_null, 1) := by decide +kernel
theorem dX5_clientAt_23 : decode cX5_clientAt 23 = .ok (.areturn, 1) := by decide +kernel
theorem dX11_canBe_0 : decode cX11_canBe 0 = .ok (.iload_n 2, 1) := by decide +kernel
theorem dX11_canBe_1 : decode cX11_canBe 1 = .ok (.iconst 2, 1) := by decide +kernel
theorem dX11_canBe_2 : decode cX11_canBe 2 = .ok (.if_icmp .gt 23, 3) := by decide +kernel
theorem dX11_canBe_5 : decode cX11_canBe 5 = .ok (.aload_n 1, 1) := by decide +kernel
theorem dX11_canBe_6 : decode cX11_canBe 6 = .ok (.getfield 234, 3) := by decide +kernel
theorem dX11_canBe_9 : decode cX11_canBe 9 = .ok (.getfield 190, 3) := by decide +kernel
theorem dX11_canBe_12 : decode cX11_canBe 12 = .ok (.ldc2_w 257, 3) := by decide +kernel
theorem dX11_canBe_15 : decode cX11_canBe 15 = .ok (.lcmp, 1) := by decide +kernel
theorem dX11_canBe_16 : decode cX11_canBe 16 = .ok (.ifCond .ge 7, 3) := by decide +kernel
theorem dX11_canBe_19 : decode cX11_canBe 19 = .ok (.iconst 1, 1) := by decide +kernel
theorem dX11_canBe_20 : decode cX11_canBe 20 = .ok (.goto 4, 3) := by decide +kernel
theorem dX11_canBe_23 : decode cX11_canBe 23 = .ok (.iconst 0, 1) := by decide +kernel
theorem dX11_canBe_24 : decode cX11_canBe 24 = .ok (.ireturn, 1) := by decide +kernel
theorem dX11_canBe_25 : decode cX11_canBe 25 = .ok (.iload_n 2, 1) := by decide +kernel
theorem dX11_canBe_26 : decode cX11_canBe 26 = .ok (.iconst 4, 1) := by decide +kernel
theorem dX11_canBe_27 : decode cX11_canBe 27 = .ok (.if_icmp .gt 21, 3) := by decide +kernel
theorem dX11_canBe_30 : decode cX11_canBe 30 = .ok (.aload_n 1, 1) := by decide +kernel
theorem dX11_canBe_31 : decode cX11_canBe 31 = .ok (.getfield 234, 3) := by decide +kernel
theorem dX11_canBe_34 : decode cX11_canBe 34 = .ok (.getfield 190, 3) := by decide +kernel
theorem dX11_canBe_37 : decode cX11_canBe 37 = .ok (.lconst 0, 1) := by decide +kernel
theorem dX11_canBe_38 : decode cX11_canBe 38 = .ok (.lcmp, 1) := by decide +kernel
theorem dX11_canBe_39 : decode cX11_canBe 39 = .ok (.ifCond .le 7, 3) := by decide +kernel
theorem dX11_canBe_42 : decode cX11_canBe 42 = .ok (.iconst 1, 1) := by decide +kernel
theorem dX11_canBe_43 : decode cX11_canBe 43 = .ok (.goto 4, 3) := by decide +kernel
theorem dX11_canBe_46 : decode cX11_canBe 46 = .ok (.iconst 0, 1) := by decide +kernel
theorem dX11_canBe_47 : decode cX11_canBe 47 = .ok (.ireturn, 1) := by decide +kernel
theorem dX11_canBe_48 : decode cX11_canBe 48 = .ok (.iload_n 2, 1) := by decide +kernel
theorem dX11_canBe_49 : decode cX11_canBe 49 = .ok (.iconst 5, 1) := by decide +kernel
theorem dX11_canBe_50 : decode cX11_canBe 50 = .ok (.if_icmp .ne 20, 3) := by decide +kernel
theorem dX11_canBe_53 : decode cX11_canBe 53 = .ok (.aload_n 1, 1) := by decide +kernel
theorem dX11_canBe_54 : decode cX11_canBe 54 = .ok (.aload_n 1, 1) := by decide +kernel
theorem dX11_canBe_55 : decode cX11_canBe 55 = .ok (.getfield 267, 3) := by decide +kernel
theorem dX11_canBe_58 : decode cX11_canBe 58 = .ok (.invokestatic 276, 3) := by decide +kernel
theorem dX11_canBe_61 : decode cX11_canBe 61 = .ok (.ifCond .ne 7, 3) := by decide +kernel
theorem dX11_canBe_64 : decode cX11_canBe 64 = .ok (.iconst 1, 1) := by decide +kernel
theorem dX11_canBe_65 : decode cX11_canBe 65 = .ok (.goto 4, 3) := by decide +kernel
theorem dX11_canBe_68 : decode cX11_canBe 68 = .ok (.iconst 0, 1) := by decide +kernel
theorem dX11_canBe_69 : decode cX11_canBe 69 = .ok (.ireturn, 1) := by decide +kernel
theorem dX11_canBe_70 : decode cX11_canBe 70 = .ok (.iload_n 2, 1) := by decide +kernel
theorem dX11_canBe_71 : decode cX11_canBe 71 = .ok (.bipush 6, 2) := by decide +kernel
theorem dX11_canBe_73 : decode cX11_canBe 73 = .ok (.if_icmp .ne 28, 3) := by decide +kernel
theorem dX11_canBe_76 : decode cX11_canBe 76 = .ok (.aload_n 1, 1) := by decide +kernel
theorem dX11_canBe_77 : decode cX11_canBe 77 = .ok (.invokevirtual 306, 3) := by decide +kernel
theorem dX11_canBe_80 : decode cX11_canBe 80 = .ok (.ifCond .eq 19, 3) := by decide +kernel
theorem dX11_canBe_83 : decode cX11_canBe 83 = .ok (.aload_n 0, 1) := by decide +kernel
theorem dX11_canBe_84 : decode cX11_canBe 84 = .ok (.getfield 71, 3) := by decide +kernel
theorem dX11_canBe_87 : decode cX11_canBe 87 = .ok (.getfield 309, 3) := by decide +kernel
theorem dX11_canBe_90 : decode cX11_canBe 90 = .ok (.bipush 90, 2) := by decide +kernel
theorem dX11_canBe_92 : decode cX11_canBe 92 = .ok (.if_icmp .ge 7, 3) := by decide +kernel
theorem dX11_canBe_95 : decode cX11_canBe 95 = .ok (.iconst 1, 1) := by decide +kernel
theorem dX11_canBe_96 : decode cX11_canBe 96 = .ok (.goto 4, 3) := by decide +kernel
theorem dX11_canBe_99 : decode cX11_canBe 99 = .ok (.iconst 0, 1) := by decide +kernel
theorem dX11_canBe_100 : decode cX11_canBe 100 = .ok (.ireturn, 1) := by decide +kernel
theorem dX11_canBe_101 : decode cX11_canBe 101 = .ok (.aload_n 1, 1) := by decide +kernel
theorem dX11_canBe_102 : decode cX11_canBe 102 = .ok (.getfield 314, 3) := by decide +kernel
theorem dX11_canBe_105 : decode cX11_canBe 105 = .ok (.aload_n 0, 1) := by decide +kernel
theorem dX11_canBe_106 : decode cX11_canBe 106 = .ok (.getfield 71, 3) := by decide +kernel
theorem dX11_canBe_109 : decode cX11_canBe 109 = .ok (.getfield 309, 3) := by decide +kernel
theorem dX11_canBe_112 : decode cX11_canBe 112 = .ok (.if_icmp .ge 7, 3) := by decide +kernel
theorem dX11_canBe_115 : decode cX11_canBe 115 = .ok (.iconst 1, 1) := by decide +kernel
theorem dX11_canBe_116 : decode cX11_canBe 116 = .ok (.goto 4, 3) := by decide +kernel
theorem dX11_canBe_119 : decode cX11_canBe 119 = .ok (.iconst 0, 1) := by decide +kernel
theorem dX11_canBe_120 : decode cX11_canBe 120 = .ok (.ireturn, 1) := by decide +kernel
theorem dX11_draftByDraws_0 : decode cX11_draftByDraws 0 = .ok (.iload_n 2, 1) := by decide +kernel
theorem dX11_draftByDraws_1 : decode cX11_draftByDraws 1 = .ok (.iconst 2, 1) := by decide +kernel
theorem dX11_draftByDraws_2 : decode cX11_draftByDraws 2 = .ok (.if_icmp .gt 38, 3) := by decide +kernel
theorem dX11_draftByDraws_5 : decode cX11_draftByDraws 5 = .ok (.aload_n 0, 1) := by decide +kernel
theorem dX11_draftByDraws_6 : decode cX11_draftByDraws 6 = .ok (.getfield 71, 3) := by decide +kernel
theorem dX11_draftByDraws_9 : decode cX11_draftByDraws 9 = .ok (.ldc2_w 383, 3) := by decide +kernel
theorem dX11_draftByDraws_12 : decode cX11_draftByDraws 12 = .ok (.invokevirtual 366, 3) := by decide +kernel
theorem dX11_draftByDraws_15 : decode cX11_draftByDraws 15 = .ok (.l2i, 1) := by decide +kernel
theorem dX11_draftByDraws_16 : decode cX11_draftByDraws 16 = .ok (.istore_n 3, 1) := by decide +kernel
theorem dX11_draftByDraws_17 : decode cX11_draftByDraws 17 = .ok (.aload_n 0, 1) := by decide +kernel
theorem dX11_draftByDraws_18 : decode cX11_draftByDraws 18 = .ok (.aload_n 1, 1) := by decide +kernel
theorem dX11_draftByDraws_19 : decode cX11_draftByDraws 19 = .ok (.aload_n 0, 1) := by decide +kernel
theorem dX11_draftByDraws_20 : decode cX11_draftByDraws 20 = .ok (.getfield 71, 3) := by decide +kernel
theorem dX11_draftByDraws_23 : decode cX11_draftByDraws 23 = .ok (.aload_n 1, 1) := by decide +kernel
theorem dX11_draftByDraws_24 : decode cX11_draftByDraws 24 = .ok (.getfield 234, 3) := by decide +kernel
theorem dX11_draftByDraws_27 : decode cX11_draftByDraws 27 = .ok (.getfield 190, 3) := by decide +kernel
theorem dX11_draftByDraws_30 : decode cX11_draftByDraws 30 = .ok (.lconst 1, 1) := by decide +kernel
theorem dX11_draftByDraws_31 : decode cX11_draftByDraws 31 = .ok (.ladd, 1) := by decide +kernel
theorem dX11_draftByDraws_32 : decode cX11_draftByDraws 32 = .ok (.invokevirtual 366, 3) := by decide +kernel
theorem dX11_draftByDraws_35 : decode cX11_draftByDraws 35 = .ok (.iload_n 3, 1) := by decide +kernel
theorem dX11_draftByDraws_36 : decode cX11_draftByDraws 36 = .ok (.invokevirtual 259, 3) := by decide +kernel
theorem dX11_draftByDraws_39 : decode cX11_draftByDraws 39 = .ok (.return_, 1) := by decide +kernel
theorem dX11_draftByDraws_40 : decode cX11_draftByDraws 40 = .ok (.aload_n 0, 1) := by decide +kernel
theorem dX11_draftByDraws_41 : decode cX11_draftByDraws 41 = .ok (.getfield 71, 3) := by decide +kernel
theorem dX11_draftByDraws_44 : decode cX11_draftByDraws 44 = .ok (.aload_n 1, 1) := by decide +kernel
theorem dX11_draftByDraws_45 : decode cX11_draftByDraws 45 = .ok (.getfield 234, 3) := by decide +kernel
theorem dX11_draftByDraws_48 : decode cX11_draftByDraws 48 = .ok (.getfield 190, 3) := by decide +kernel
theorem dX11_draftByDraws_51 : decode cX11_draftByDraws 51 = .ok (.invokevirtual 366, 3) := by decide +kernel
theorem dX11_draftByDraws_54 : decode cX11_draftByDraws 54 = .ok (.lstore_n 3, 1) := by decide +kernel
theorem dX11_draftByDraws_55 : decode cX11_draftByDraws 55 = .ok (.iload_n 2, 1) := by decide +kernel
theorem dX11_draftByDraws_56 : decode cX11_draftByDraws 56 = .ok (.iconst 3, 1) := by decide +kernel
theorem dX11_draftByDraws_57 : decode cX11_draftByDraws 57 = .ok (.if_icmp .ne 16, 3) := by decide +kernel
theorem dX11_draftByDraws_60 : decode cX11_draftByDraws 60 = .ok (.aload_n 0, 1) := by decide +kernel
theorem dX11_draftByDraws_61 : decode cX11_draftByDraws 61 = .ok (.aload_n 1, 1) := by decide +kernel
theorem dX11_draftByDraws_62 : decode cX11_draftByDraws 62 = .ok (.lload_n 3, 1) := by decide +kernel
theorem dX11_draftByDraws_63 : decode cX11_draftByDraws 63 = .ok (.iconst 1, 1) := by decide +kernel
theorem dX11_draftByDraws_64 : decode cX11_draftByDraws 64 = .ok (.iconst 4, 1) := by decide +kernel
theorem dX11_draftByDraws_65 : decode cX11_draftByDraws 65 = .ok (.iconst 0, 1) := by decide +kernel
theorem dX11_draftByDraws_66 : decode cX11_draftByDraws 66 = .ok (.iconst 0, 1) := by decide +kernel
theorem dX11_draftByDraws_67 : decode cX11_draftByDraws 67 = .ok (.invokevirtual 263, 3) := by decide +kernel
theorem dX11_draftByDraws_70 : decode cX11_draftByDraws 70 = .ok (.goto 25, 3) := by decide +kernel
theorem dX11_draftByDraws_73 : decode cX11_draftByDraws 73 = .ok (.aload_n 0, 1) := by decide +kernel
theorem dX11_draftByDraws_74 : decode cX11_draftByDraws 74 = .ok (.aload_n 1, 1) := by decide +kernel
theorem dX11_draftByDraws_75 : decode cX11_draftByDraws 75 = .ok (.lload_n 3, 1) := by decide +kernel
theorem dX11_draftByDraws_76 : decode cX11_draftByDraws 76 = .ok (.iconst 1, 1) := by decide +kernel
theorem dX11_draftByDraws_77 : decode cX11_draftByDraws 77 = .ok (.iconst 5, 1) := by decide +kernel
theorem dX11_draftByDraws_78 : decode cX11_draftByDraws 78 = .ok (.iconst 1, 1) := by decide +kernel
theorem dX11_draftByDraws_79 : decode cX11_draftByDraws 79 = .ok (.aload_n 0, 1) := by decide +kernel
theorem dX11_draftByDraws_80 : decode cX11_draftByDraws 80 = .ok (.getfield 71, 3) := by decide +kernel
theorem dX11_draftByDraws_83 : decode cX11_draftByDraws 83 = .ok (.ldc2_w 364, 3) := by decide +kernel
theorem dX11_draftByDraws_86 : decode cX11_draftByDraws 86 = .ok (.invokevirtual 366, 3) := by decide +kernel
theorem dX11_draftByDraws_89 : decode cX11_draftByDraws 89 = .ok (.l2i, 1) := by decide +kernel
theorem dX11_draftByDraws_90 : decode cX11_draftByDraws 90 = .ok (.ishl, 1) := by decide +kernel
theorem dX11_draftByDraws_91 : decode cX11_draftByDraws 91 = .ok (.iconst 0, 1) := by decide +kernel
theorem dX11_draftByDraws_92 : decode cX11_draftByDraws 92 = .ok (.invokevirtual 263, 3) := by decide +kernel
theorem dX11_draftByDraws_95 : decode cX11_draftByDraws 95 = .ok (.return_, 1) := by decide +kernel
theorem dX0_doNew_0 : decode cX0_doNew 0 = .ok (.aload_n 2, 1) := by decide +kernel
theorem dX0_doNew_1 : decode cX0_doNew 1 = .ok (.aload_n 1, 1) := by decide +kernel
theorem dX0_doNew_2 : decode cX0_doNew 2 = .ok (.aload_n 0, 1) := by decide +kernel
theorem dX0_doNew_3 : decode cX0_doNew 3 = .ok (.getfield 21, 3) := by decide +kernel
theorem dX0_doNew_6 : decode cX0_doNew 6 = .ok (.aload_n 0, 1) := by decide +kernel
theorem dX0_doNew_7 : decode cX0_doNew 7 = .ok (.getfield 36, 3) := by decide +kernel
theorem dX0_doNew_10 : decode cX0_doNew 10 = .ok (.invokevirtual 64, 3) := by decide +kernel
theorem dX0_doNew_13 : decode cX0_doNew 13 = .ok (.invokevirtual 67, 3) := by decide +kernel
theorem dX0_doNew_16 : decode cX0_doNew 16 = .ok (.aload_n 0, 1) := by decide +kernel
theorem dX0_doNew_17 : decode cX0_doNew 17 = .ok (.getfield 40, 3) := by decide +kernel
theorem dX0_doNew_20 : decode cX0_doNew 20 = .ok (.invokevirtual 73, 3) := by decide +kernel
theorem dX0_doNew_23 : decode cX0_doNew 23 = .ok (.aload_n 0, 1) := by decide +kernel
theorem dX0_doNew_24 : decode cX0_doNew 24 = .ok (.aload_n 1, 1) := by decide +kernel
theorem dX0_doNew_25 : decode cX0_doNew 25 = .ok (.iconst 1, 1) := by decide +kernel
theorem dX0_doNew_26 : decode cX0_doNew 26 = .ok (.aload_n 2, 1) := by decide +kernel
theorem dX0_doNew_27 : decode cX0_doNew 27 = .ok (.invokevirtual 76, 3) := by decide +kernel
theorem dX0_doNew_30 : decode cX0_doNew 30 = .ok (.aload_n 0, 1) := by decide +kernel
theorem dX0_doNew_31 : decode cX0_doNew 31 = .ok (.aload_n 1, 1) := by decide +kernel
theorem dX0_doNew_32 : decode cX0_doNew 32 = .ok (.aload_n 2, 1) := by decide +kernel
theorem dX0_doNew_33 : decode cX0_doNew 33 = .ok (.invokevirtual 80, 3) := by decide +kernel
theorem dX0_doNew_36 : decode cX0_doNew 36 = .ok (.return_, 1) := by decide +kernel
theorem dX0_doLatest_0 : decode cX0_doLatest 0 = .ok (.aload_n 1, 1) := by decide +kernel
theorem dX0_doLatest_1 : decode cX0_doLatest 1 = .ok (.invokevirtual 61, 3) := by decide +kernel
theorem dX0_doLatest_4 : decode cX0_doLatest 4 = .ok (.astore 4, 2) := by decide +kernel
theorem dX0_doLatest_6 : decode cX0_doLatest 6 = .ok (.aload 4, 2) := by decide +kernel
theorem dX0_doLatest_8 : decode cX0_doLatest 8 = .ok (.ifnonnull 4, 3) := by decide +kernel
theorem dX0_doLatest_11 : decode cX0_doLatest 11 = .ok (.return_, 1) := by decide +kernel
theorem dX0_doLatest_12 : decode cX0_doLatest 12 = .ok (.aload_n 1, 1) := by decide +kernel
theorem dX0_doLatest_13 : decode cX0_doLatest 13 = .ok (.invokevirtual 84, 3) := by decide +kernel
theorem dX0_doLatest_16 : decode cX0_doLatest 16 = .ok (.aload_n 3, 1) := by decide +kernel
theorem dX0_doLatest_17 : decode cX0_doLatest 17 = .ok (.aload 4, 2) := by decide +kernel
theorem dX0_doLatest_19 : decode cX0_doLatest 19 = .ok (.aload_n 0, 1) := by decide +kernel
theorem dX0_doLatest_20 : decode cX0_doLatest 20 = .ok (.getfield 21, 3) := by decide +kernel
theorem dX0_doLatest_23 : decode cX0_doLatest 23 = .ok (.aload_n 2, 1) := by decide +kernel
theorem dX0_doLatest_24 : decode cX0_doLatest 24 = .ok (.invokevirtual 64, 3) := by decide +kernel
theorem dX0_doLatest_27 : decode cX0_doLatest 27 = .ok (.invokevirtual 67, 3) := by decide +kernel
theorem dX0_doLatest_30 : decode cX0_doLatest 30 = .ok (.aload_n 0, 1) := by decide +kernel
theorem dX0_doLatest_31 : decode cX0_doLatest 31 = .ok (.aload 4, 2) := by decide +kernel
theorem dX0_doLatest_33 : decode cX0_doLatest 33 = .ok (.iconst 1, 1) := by decide +kernel
theorem dX0_doLatest_34 : decode cX0_doLatest 34 = .ok (.aload_n 3, 1) := by decide +kernel
theorem dX0_doLatest_35 : decode cX0_doLatest 35 = .ok (.invokevirtual 76, 3) := by decide +kernel
theorem dX0_doLatest_38 : decode cX0_doLatest 38 = .ok (.aload_n 0, 1) := by decide +kernel
theorem dX0_doLatest_39 : decode cX0_doLatest 39 = .ok (.aload 4, 2) := by decide +kernel
theorem dX0_doLatest_41 : decode cX0_doLatest 41 = .ok (.aload_n 3, 1) := by decide +kernel
theorem dX0_doLatest_42 : decode cX0_doLatest 42 = .ok (.invokevirtual 80, 3) := by decide +kernel
theorem dX0_doLatest_45 : decode cX0_doLatest 45 = .ok (.return_, 1) := by decide +kernel
theorem dX5_takeSent_0 : decode cX5_takeSent 0 = .ok (.aload_n 0, 1) := by decide +kernel
theorem dX5_takeSent_1 : decode cX5_takeSent 1 = .ok (.iload_n 1, 1) := by decide +kernel
theorem dX5_takeSent_2 : decode cX5_takeSent 2 = .ok (.invokevirtual 42, 3) := by decide +kernel
theorem dX5_takeSent_5 : decode cX5_takeSent 5 = .ok (.astore_n 3, 1) := by decide +kernel
theorem dX5_takeSent_6 : decode cX5_takeSent 6 = .ok (.aload_n 3, 1) := by decide +kernel
theorem dX5_takeSent_7 : decode cX5_takeSent 7 = .ok (.ifnull 12, 3) := by decide +kernel
theorem dX5_takeSent_10 : decode cX5_takeSent 10 = .ok (.aload_n 0, 1) := by decide +kernel
theorem dX5_takeSent_11 : decode cX5_takeSent 11 = .ok (.getfield 49, 3) := by decide +kernel
theorem dX5_takeSent_14 : decode cX5_takeSent 14 = .ok (.bipush 90, 2) := by decide +kernel
theorem dX5_takeSent_16 : decode cX5_takeSent 16 = .ok (.if_icmp .lt 4, 3) := by decide +kernel
theorem dX5_takeSent_19 : decode cX5_takeSent 19 = .ok (.return_, 1) := by decide +kernel
theorem dX5_takeSent_20 : decode cX5_takeSent 20 = .ok (.aload_n 0, 1) := by decide +kernel
theorem dX5_takeSent_21 : decode cX5_takeSent 21 = .ok (.getfield 25, 3) := by decide +kernel
theorem dX5_takeSent_24 : decode cX5_takeSent 24 = .ok (.aload_n 0, 1) := by decide +kernel
theorem dX5_takeSent_25 : decode cX5_takeSent 25 = .ok (.getfield 49, 3) := by decide +kernel
theorem dX5_takeSent_28 : decode cX5_takeSent 28 = .ok (.invokevirtual 52, 3) := by decide +kernel
theorem dX5_takeSent_31 : decode cX5_takeSent 31 = .ok (.astore 4, 2) := by decide +kernel
theorem dX5_takeSent_33 : decode cX5_takeSent 33 = .ok (.aload 4, 2) := by decide +kernel
theorem dX5_takeSent_35 : decode cX5_takeSent 35 = .ok (.aload_n 3, 1) := by decide +kernel
theorem dX5_takeSent_36 : decode cX5_takeSent 36 = .ok (.getfield 58, 3) := by decide +kernel
theorem dX5_takeSent_39 : decode cX5_takeSent 39 = .ok (.invokevirtual 61, 3) := by decide +kernel
theorem dX5_takeSent_42 : decode cX5_takeSent 42 = .ok (.aload_n 3, 1) := by decide +kernel
theorem dX5_takeSent_43 : decode cX5_takeSent 43 = .ok (.getfield 67, 3) := by decide +kernel
theorem dX5_takeSent_46 : decode cX5_takeSent 46 = .ok (.istore 5, 2) := by decide +kernel
theorem dX5_takeSent_48 : decode cX5_takeSent 48 = .ok (.iload 5, 2) := by decide +kernel
theorem dX5_takeSent_50 : decode cX5_takeSent 50 = .ok (.aload_n 0, 1) := by decide +kernel
theorem dX5_takeSent_51 : decode cX5_takeSent 51 = .ok (.getfield 49, 3) := by decide +kernel
theorem dX5_takeSent_54 : decode cX5_takeSent 54 = .ok (.if_icmp .ge 38, 3) := by decide +kernel
theorem dX5_takeSent_57 : decode cX5_takeSent 57 = .ok (.aload_n 2, 1) := by decide +kernel
theorem dX5_takeSent_58 : decode cX5_takeSent 58 = .ok (.aload 4, 2) := by decide +kernel
theorem dX5_takeSent_60 : decode cX5_takeSent 60 = .ok (.aload_n 0, 1) := by decide +kernel
theorem dX5_takeSent_61 : decode cX5_takeSent 61 = .ok (.getfield 25, 3) := by decide +kernel
theorem dX5_takeSent_64 : decode cX5_takeSent 64 = .ok (.iload 5, 2) := by decide +kernel
theorem dX5_takeSent_66 : decode cX5_takeSent 66 = .ok (.invokevirtual 52, 3) := by decide +kernel
theorem dX5_takeSent_69 : decode cX5_takeSent 69 = .ok (.iconst 0, 1) := by decide +kernel
theorem dX5_takeSent_70 : decode cX5_takeSent 70 = .ok (.aload_n 2, 1) := by decide +kernel
theorem dX5_takeSent_71 : decode cX5_takeSent 71 = .ok (.getfield 70, 3) := by decide +kernel
theorem dX5_takeSent_74 : decode cX5_takeSent 74 = .ok (.invokevirtual 75, 3) := by decide +kernel
theorem dX5_takeSent_77 : decode cX5_takeSent 77 = .ok (.aload 4, 2) := by decide +kernel
theorem dX5_takeSent_79 : decode cX5_takeSent 79 = .ok (.aload_n 2, 1) := by decide +kernel
theorem dX5_takeSent_80 : decode cX5_takeSent 80 = .ok (.getfield 70, 3) := by decide +kernel
theorem dX5_takeSent_83 : decode cX5_takeSent 83 = .ok (.invokevirtual 79, 3) := by decide +kernel
theorem dX5_takeSent_86 : decode cX5_takeSent 86 = .ok (.iinc 5 1, 3) := by decide +kernel
theorem dX5_takeSent_89 : decode cX5_takeSent 89 = .ok (.goto (-41), 3) := by decide +kernel
theorem dX5_takeSent_92 : decode cX5_takeSent 92 = .ok (.aload_n 2, 1) := by decide +kernel
theorem dX5_takeSent_93 : decode cX5_takeSent 93 = .ok (.aload_n 0, 1) := by decide +kernel
theorem dX5_takeSent_94 : decode cX5_takeSent 94 = .ok (.getfield 35, 3) := by decide +kernel
theorem dX5_takeSent_97 : decode cX5_takeSent 97 = .ok (.aload 4, 2) := by decide +kernel
theorem dX5_takeSent_99 : decode cX5_takeSent 99 = .ok (.aload_n 2, 1) := by decide +kernel
theorem dX5_takeSent_100 : decode cX5_takeSent 100 = .ok (.getfield 70, 3) := by decide +kernel
theorem dX5_takeSent_103 : decode cX5_takeSent 103 = .ok (.invokevirtual 82, 3) := by decide +kernel
theorem dX5_takeSent_106 : decode cX5_takeSent 106 = .ok (.aload_n 0, 1) := by decide +kernel
theorem dX5_takeSent_107 : decode cX5_takeSent 107 = .ok (.getfield 35, 3) := by decide +kernel
theorem dX5_takeSent_110 : decode cX5_takeSent 110 = .ok (.aload_n 2, 1) := by decide +kernel
theorem dX5_takeSent_111 : decode cX5_takeSent 111 = .ok (.getfield 70, 3) := by decide +kernel
theorem dX5_takeSent_114 : decode cX5_takeSent 114 = .ok (.invokevirtual 79, 3) := by decide +kernel
theorem dX5_takeSent_117 : decode cX5_takeSent 117 = .ok (.aload_n 0, 1) := by decide +kernel
theorem dX5_takeSent_118 : decode cX5_takeSent 118 = .ok (.getfield 25, 3) := by decide +kernel
theorem dX5_takeSent_121 : decode cX5_takeSent 121 = .ok (.aload_n 0, 1) := by decide +kernel
theorem dX5_takeSent_122 : decode cX5_takeSent 122 = .ok (.getfield 49, 3) := by decide +kernel
theorem dX5_takeSent_125 : decode cX5_takeSent 125 = .ok (.iload_n 1, 1) := by decide +kernel
theorem dX5_takeSent_126 : decode cX5_takeSent 126 = .ok (.invokevirtual 86, 3) := by decide +kernel
theorem dX5_takeSent_129 : decode cX5_takeSent 129 = .ok (.aload_n 0, 1) := by decide +kernel
theorem dX5_takeSent_130 : decode cX5_takeSent 130 = .ok (.dup, 1) := by decide +kernel
theorem dX5_takeSent_131 : decode cX5_takeSent 131 = .ok (.getfield 49, 3) := by decide +kernel
theorem dX5_takeSent_134 : decode cX5_takeSent 134 = .ok (.iconst 1, 1) := by decide +kernel
theorem dX5_takeSent_135 : decode cX5_takeSent 135 = .ok (.iadd, 1) := by decide +kernel
theorem dX5_takeSent_136 : decode cX5_takeSent 136 = .ok (.putfield 49, 3) := by decide +kernel
theorem dX5_takeSent_139 : decode cX5_takeSent 139 = .ok (.aload_n 3, 1) := by decide +kernel
theorem dX5_takeSent_140 : decode cX5_takeSent 140 = .ok (.iconst 1, 1) := by decide +kernel
theorem dX5_takeSent_141 : decode cX5_takeSent 141 = .ok (.putfield 90, 3) := by decide +kernel
theorem dX5_takeSent_144 : decode cX5_takeSent 144 = .ok (.return_, 1) := by decide +kernel
theorem dX0_hearNext_0 : decode cX0_hearNext 0 = .ok (.aload_n 1, 1) := by decide +kernel
theorem dX0_hearNext_1 : decode cX0_hearNext 1 = .ok (.aload_n 0, 1) := by decide +kernel
theorem dX0_hearNext_2 : decode cX0_hearNext 2 = .ok (.getfield 110, 3) := by decide +kernel
theorem dX0_hearNext_5 : decode cX0_hearNext 5 = .ok (.invokevirtual 113, 3) := by decide +kernel
theorem dX0_hearNext_8 : decode cX0_hearNext 8 = .ok (.aload_n 0, 1) := by decide +kernel
theorem dX0_hearNext_9 : decode cX0_hearNext 9 = .ok (.getfield 9, 3) := by decide +kernel
theorem dX0_hearNext_12 : decode cX0_hearNext 12 = .ok (.if_icmp .ne 7, 3) := by decide +kernel
theorem dX0_hearNext_15 : decode cX0_hearNext 15 = .ok (.iconst 1, 1) := by decide +kernel
theorem dX0_hearNext_16 : decode cX0_hearNext 16 = .ok (.goto 4, 3) := by decide +kernel
theorem dX0_hearNext_19 : decode cX0_hearNext 19 = .ok (.iconst 0, 1) := by decide +kernel
theorem dX0_hearNext_20 : decode cX0_hearNext 20 = .ok (.istore_n 3, 1) := by decide +kernel
theorem dX0_hearNext_21 : decode cX0_hearNext 21 = .ok (.aload_n 1, 1) := by decide +kernel
theorem dX0_hearNext_22 : decode cX0_hearNext 22 = .ok (.aload_n 0, 1) := by decide +kernel
theorem dX0_hearNext_23 : decode cX0_hearNext 23 = .ok (.getfield 110, 3) := by decide +kernel
theorem dX0_hearNext_26 : decode cX0_hearNext 26 = .ok (.invokevirtual 119, 3) := by decide +kernel
theorem dX0_hearNext_29 : decode cX0_hearNext 29 = .ok (.astore 4, 2) := by decide +kernel
theorem dX0_hearNext_31 : decode cX0_hearNext 31 = .ok (.aload_n 0, 1) := by decide +kernel
theorem dX0_hearNext_32 : decode cX0_hearNext 32 = .ok (.dup, 1) := by decide +kernel
theorem dX0_hearNext_33 : decode cX0_hearNext 33 = .ok (.getfield 110, 3) := by decide +kernel
theorem dX0_hearNext_36 : decode cX0_hearNext 36 = .ok (.iconst 1, 1) := by decide +kernel
theorem dX0_hearNext_37 : decode cX0_hearNext 37 = .ok (.iadd, 1) := by decide +kernel
theorem dX0_hearNext_38 : decode cX0_hearNext 38 = .ok (.putfield 110, 3) := by decide +kernel
theorem dX0_hearNext_41 : decode cX0_hearNext 41 = .ok (.iload_n 3, 1) := by decide +kernel
theorem dX0_hearNext_42 : decode cX0_hearNext 42 = .ok (.ifCond .eq 8, 3) := by decide +kernel
theorem dX0_hearNext_45 : decode cX0_hearNext 45 = .ok (.aload_n 0, 1) := by decide +kernel
theorem dX0_hearNext_46 : decode cX0_hearNext 46 = .ok (.invokevirtual 123, 3) := by decide +kernel
theorem dX0_hearNext_49 : decode cX0_hearNext 49 = .ok (.return_, 1) := by decide +kernel
theorem dX0_hearNext_50 : decode cX0_hearNext 50 = .ok (.aload_n 2, 1) := by decide +kernel
theorem dX0_hearNext_51 : decode cX0_hearNext 51 = .ok (.getfield 126, 3) := by decide +kernel
theorem dX0_hearNext_54 : decode cX0_hearNext 54 = .ok (.aload 4, 2) := by decide +kernel
theorem dX0_hearNext_56 : decode cX0_hearNext 56 = .ok (.invokevirtual 107, 3) := by decide +kernel
theorem dX0_hearNext_59 : decode cX0_hearNext 59 = .ok (.aload_n 0, 1) := by decide +kernel
theorem dX0_hearNext_60 : decode cX0_hearNext 60 = .ok (.getfield 43, 3) := by decide +kernel
theorem dX0_hearNext_63 : decode cX0_hearNext 63 = .ok (.ifCond .eq 11, 3) := by decide +kernel
theorem dX0_hearNext_66 : decode cX0_hearNext 66 = .ok (.aload_n 2, 1) := by decide +kernel
theorem dX0_hearNext_67 : decode cX0_hearNext 67 = .ok (.aload_n 0, 1) := by decide +kernel
theorem dX0_hearNext_68 : decode cX0_hearNext 68 = .ok (.getfield 25, 3) := by decide +kernel
theorem dX0_hearNext_71 : decode cX0_hearNext 71 = .ok (.invokevirtual 129, 3) := by decide +kernel
theorem dX0_hearNext_74 : decode cX0_hearNext 74 = .ok (.aload_n 0, 1) := by decide +kernel
theorem dX0_hearNext_75 : decode cX0_hearNext 75 = .ok (.getfield 58, 3) := by decide +kernel
theorem dX0_hearNext_78 : decode cX0_hearNext 78 = .ok (.ifCond .eq 11, 3) := by decide +kernel
theorem dX0_hearNext_81 : decode cX0_hearNext 81 = .ok (.aload_n 2, 1) := by decide +kernel
theorem dX0_hearNext_82 : decode cX0_hearNext 82 = .ok (.aload_n 0, 1) := by decide +kernel
theorem dX0_hearNext_83 : decode cX0_hearNext 83 = .ok (.getfield 28, 3) := by decide +kernel
theorem dX0_hearNext_86 : decode cX0_hearNext 86 = .ok (.invokevirtual 129, 3) := by decide +kernel
theorem dX0_hearNext_89 : decode cX0_hearNext 89 = .ok (.aload_n 0, 1) := by decide +kernel
theorem dX0_hearNext_90 : decode cX0_hearNext 90 = .ok (.aload_n 2, 1) := by decide +kernel
theorem dX0_hearNext_91 : decode cX0_hearNext 91 = .ok (.getfield 126, 3) := by decide +kernel
theorem dX0_hearNext_94 : decode cX0_hearNext 94 = .ok (.iconst 0, 1) := by decide +kernel
theorem dX0_hearNext_95 : decode cX0_hearNext 95 = .ok (.aload_n 2, 1) := by decide +kernel
theorem dX0_hearNext_96 : decode cX0_hearNext 96 = .ok (.invokevirtual 76, 3) := by decide +kernel
theorem dX0_hearNext_99 : decode cX0_hearNext 99 = .ok (.aload_n 2, 1) := by decide +kernel
theorem dX0_hearNext_100 : decode cX0_hearNext 100 = .ok (.getfield 132, 3) := by decide +kernel
theorem dX0_hearNext_103 : decode cX0_hearNext 103 = .ok (.aload_n 2, 1) := by decide +kernel
theorem dX0_hearNext_104 : decode cX0_hearNext 104 = .ok (.getfield 126, 3) := by decide +kernel
theorem dX0_hearNext_107 : decode cX0_hearNext 107 = .ok (.invokevirtual 107, 3) := by decide +kernel
theorem dX0_hearNext_110 : decode cX0_hearNext 110 = .ok (.aload_n 0, 1) := by decide +kernel
theorem dX0_hearNext_111 : decode cX0_hearNext 111 = .ok (.getfield 36, 3) := by decide +kernel
theorem dX0_hearNext_114 : decode cX0_hearNext 114 = .ok (.getfield 135, 3) := by decide +kernel
theorem dX0_hearNext_117 : decode cX0_hearNext 117 = .ok (.iconst 1, 1) := by decide +kernel
theorem dX0_hearNext_118 : decode cX0_hearNext 118 = .ok (.isub, 1) := by decide +kernel
theorem dX0_hearNext_119 : decode cX0_hearNext 119 = .ok (.istore 5, 2) := by decide +kernel
theorem dX0_hearNext_121 : decode cX0_hearNext 121 = .ok (.iload 5, 2) := by decide +kernel
theorem dX0_hearNext_123 : decode cX0_hearNext 123 = .ok (.ifCond .lt 22, 3) := by decide +kernel
theorem dX0_hearNext_126 : decode cX0_hearNext 126 = .ok (.aload_n 2, 1) := by decide +kernel
theorem dX0_hearNext_127 : decode cX0_hearNext 127 = .ok (.aload_n 0, 1) := by decide +kernel
theorem dX0_hearNext_128 : decode cX0_hearNext 128 = .ok (.getfield 36, 3) := by decide +kernel
theorem dX0_hearNext_131 : decode cX0_hearNext 131 = .ok (.iload 5, 2) := by decide +kernel
theorem dX0_hearNext_133 : decode cX0_hearNext 133 = .ok (.invokevirtual 138, 3) := by decide +kernel
theorem dX0_hearNext_136 : decode cX0_hearNext 136 = .ok (.invokevirtual 129, 3) := by decide +kernel
theorem dX0_hearNext_139 : decode cX0_hearNext 139 = .ok (.iinc 5 (-1), 3) := by decide +kernel
theorem dX0_hearNext_142 : decode cX0_hearNext 142 = .ok (.goto (-21), 3) := by decide +kernel
theorem dX0_hearNext_145 : decode cX0_hearNext 145 = .ok (.aload_n 2, 1) := by decide +kernel
theorem dX0_hearNext_146 : decode cX0_hearNext 146 = .ok (.getfield 126, 3) := by decide +kernel
theorem dX0_hearNext_149 : decode cX0_hearNext 149 = .ok (.aload_n 2, 1) := by decide +kernel
theorem dX0_hearNext_150 : decode cX0_hearNext 150 = .ok (.getfield 132, 3) := by decide +kernel
theorem dX0_hearNext_153 : decode cX0_hearNext 153 = .ok (.invokevirtual 107, 3) := by decide +kernel
theorem dX0_hearNext_156 : decode cX0_hearNext 156 = .ok (.aload_n 0, 1) := by decide +kernel
theorem dX0_hearNext_157 : decode cX0_hearNext 157 = .ok (.getfield 40, 3) := by decide +kernel
theorem dX0_hearNext_160 : decode cX0_hearNext 160 = .ok (.getfield 135, 3) := by decide +kernel
theorem dX0_hearNext_163 : decode cX0_hearNext 163 = .ok (.iconst 1, 1) := by decide +kernel
theorem dX0_hearNext_164 : decode cX0_hearNext 164 = .ok (.isub, 1) := by decide +kernel
theorem dX0_hearNext_165 : decode cX0_hearNext 165 = .ok (.istore 5, 2) := by decide +kernel
theorem dX0_hearNext_167 : decode cX0_hearNext 167 = .ok (.iload 5, 2) := by decide +kernel
theorem dX0_hearNext_169 : decode cX0_hearNext 169 = .ok (.ifCond .lt 22, 3) := by decide +kernel
theorem dX0_hearNext_172 : decode cX0_hearNext 172 = .ok (.aload_n 2, 1) := by decide +kernel
theorem dX0_hearNext_173 : decode cX0_hearNext 173 = .ok (.aload_n 0, 1) := by decide +kernel
theorem dX0_hearNext_174 : decode cX0_hearNext 174 = .ok (.getfield 40, 3) := by decide +kernel
theorem dX0_hearNext_177 : decode cX0_hearNext 177 = .ok (.iload 5, 2) := by decide +kernel
theorem dX0_hearNext_179 : decode cX0_hearNext 179 = .ok (.invokevirtual 138, 3) := by decide +kernel
theorem dX0_hearNext_182 : decode cX0_hearNext 182 = .ok (.invokevirtual 129, 3) := by decide +kernel
theorem dX0_hearNext_185 : decode cX0_hearNext 185 = .ok (.iinc 5 (-1), 3) := by decide +kernel
theorem dX0_hearNext_188 : decode cX0_hearNext 188 = .ok (.goto (-21), 3) := by decide +kernel
theorem dX0_hearNext_191 : decode cX0_hearNext 191 = .ok (.return_, 1) := by decide +kernel
theorem dJx4a65c_init_da8c8_0 : decode cJx4a65c_init_da8c8 0 = .ok (.aload_n 0, 1) := by decide +kernel
theorem dJx4a65c_init_da8c8_1 : decode cJx4a65c_init_da8c8 1 = .ok (.invokespecial 1, 3) := by decide +kernel
theorem dJx4a65c_init_da8c8_4 : decode cJx4a65c_init_da8c8 4 = .ok (.aload_n 0, 1) := by decide +kernel
theorem dJx4a65c_init_da8c8_5 : decode cJx4a65c_init_da8c8 5 = .ok (.getstatic 39, 3) := by decide +kernel
theorem dJx4a65c_init_da8c8_8 : decode cJx4a65c_init_da8c8 8 = .ok (.putfield 9, 3) := by decide +kernel
theorem dJx4a65c_init_da8c8_11 : decode cJx4a65c_init_da8c8 11 = .ok (.return_, 1) := by decide +kernel
theorem dX10_init_0 : decode cX10_init 0 = .ok (.aload_n 0, 1) := by decide +kernel
theorem dX10_init_1 : decode cX10_init 1 = .ok (.invokespecial 3, 3) := by decide +kernel
theorem dX10_init_4 : decode cX10_init 4 = .ok (.return_, 1) := by decide +kernel
theorem dX1_init_0 : decode cX1_init 0 = .ok (.aload_n 0, 1) := by decide +kernel
theorem dX1_init_1 : decode cX1_init 1 = .ok (.invokespecial 3, 3) := by decide +kernel
theorem dX1_init_4 : decode cX1_init 4 = .ok (.aload_n 0, 1) := by decide +kernel
theorem dX1_init_5 : decode cX1_init 5 = .ok (.aload_n 1, 1) := by decide +kernel
theorem dX1_init_6 : decode cX1_init 6 = .ok (.putfield 9, 3) := by decide +kernel
theorem dX1_init_9 : decode cX1_init 9 = .ok (.aload_n 0, 1) := by decide +kernel
theorem dX1_init_10 : decode cX1_init 10 = .ok (.new 15, 3) := by decide +kernel
theorem dX1_init_13 : decode cX1_init 13 = .ok (.dup, 1) := by decide +kernel
theorem dX1_init_14 : decode cX1_init 14 = .ok (.aload_n 1, 1) := by decide +kernel
theorem dX1_init_15 : decode cX1_init 15 = .ok (.invokespecial 17, 3) := by decide +kernel
theorem dX1_init_18 : decode cX1_init 18 = .ok (.putfield 20, 3) := by decide +kernel
theorem dX1_init_21 : decode cX1_init 21 = .ok (.return_, 1) := by decide +kernel
theorem dJx4a65c_add_9ea2d_0 : decode cJx4a65c_add_9ea2d 0 = .ok (.aload_n 0, 1) := by decide +kernel
theorem dJx4a65c_add_9ea2d_1 : decode cJx4a65c_add_9ea2d 1 = .ok (.dup, 1) := by decide +kernel
theorem dJx4a65c_add_9ea2d_2 : decode cJx4a65c_add_9ea2d 2 = .ok (.getfield 63, 3) := by decide +kernel
theorem dJx4a65c_add_9ea2d_5 : decode cJx4a65c_add_9ea2d 5 = .ok (.iconst 1, 1) := by decide +kernel
theorem dJx4a65c_add_9ea2d_6 : decode cJx4a65c_add_9ea2d 6 = .ok (.iadd, 1) := by decide +kernel
theorem dJx4a65c_add_9ea2d_7 : decode cJx4a65c_add_9ea2d 7 = .ok (.putfield 63, 3) := by decide +kernel
theorem dJx4a65c_add_9ea2d_10 : decode cJx4a65c_add_9ea2d 10 = .ok (.aload_n 0, 1) := by decide +kernel
theorem dJx4a65c_add_9ea2d_11 : decode cJx4a65c_add_9ea2d 11 = .ok (.aload_n 1, 1) := by decide +kernel
theorem dJx4a65c_add_9ea2d_12 : decode cJx4a65c_add_9ea2d 12 = .ok (.aload_n 0, 1) := by decide +kernel
theorem dJx4a65c_add_9ea2d_13 : decode cJx4a65c_add_9ea2d 13 = .ok (.getfield 9, 3) := by decide +kernel
theorem dJx4a65c_add_9ea2d_16 : decode cJx4a65c_add_9ea2d 16 = .ok (.aload_n 0, 1) := by decide +kernel
theorem dJx4a65c_add_9ea2d_17 : decode cJx4a65c_add_9ea2d 17 = .ok (.getfield 48, 3) := by decide +kernel
theorem dJx4a65c_add_9ea2d_20 : decode cJx4a65c_add_9ea2d 20 = .ok (.invokevirtual 131, 3) := by decide +kernel
theorem dJx4a65c_add_9ea2d_23 : decode cJx4a65c_add_9ea2d 23 = .ok (.iconst 1, 1) := by decide +kernel
theorem dJx4a65c_add_9ea2d_24 : decode cJx4a65c_add_9ea2d 24 = .ok (.ireturn, 1) := by decide +kernel
theorem dX0_init_0 : decode cX0_init 0 = .ok (.aload_n 0, 1) := by decide +kernel
theorem dX0_init_1 : decode cX0_init 1 = .ok (.invokespecial 3, 3) := by decide +kernel
theorem dX0_init_4 : decode cX0_init 4 = .ok (.aload_n 0, 1) := by decide +kernel
theorem dX0_init_5 : decode cX0_init 5 = .ok (.iload_n 1, 1) := by decide +kernel
theorem dX0_init_6 : decode cX0_init 6 = .ok (.putfield 9, 3) := by decide +kernel
theorem dX0_init_9 : decode cX0_init 9 = .ok (.aload_n 0, 1) := by decide +kernel
theorem dX0_init_10 : decode cX0_init 10 = .ok (.aload_n 2, 1) := by decide +kernel
theorem dX0_init_11 : decode cX0_init 11 = .ok (.invokevirtual 15, 3) := by decide +kernel
theorem dX0_init_14 : decode cX0_init 14 = .ok (.putfield 21, 3) := by decide +kernel
theorem dX0_init_17 : decode cX0_init 17 = .ok (.aload_n 0, 1) := by decide +kernel
theorem dX0_init_18 : decode cX0_init 18 = .ok (.aload_n 2, 1) := by decide +kernel
theorem dX0_init_19 : decode cX0_init 19 = .ok (.invokevirtual 15, 3) := by decide +kernel
theorem dX0_init_22 : decode cX0_init 22 = .ok (.putfield 25, 3) := by decide +kernel
theorem dX0_init_25 : decode cX0_init 25 = .ok (.aload_n 0, 1) := by decide +kernel
theorem dX0_init_26 : decode cX0_init 26 = .ok (.aload_n 2, 1) := by decide +kernel
theorem dX0_init_27 : decode cX0_init 27 = .ok (.invokevirtual 15, 3) := by decide +kernel
theorem dX0_init_30 : decode cX0_init 30 = .ok (.putfield 28, 3) := by decide +kernel
theorem dX0_init_33 : decode cX0_init 33 = .ok (.aload_n 0, 1) := by decide +kernel
theorem dX0_init_34 : decode cX0_init 34 = .ok (.new 31, 3) := by decide +kernel
theorem dX0_init_37 : decode cX0_init 37 = .ok (.dup, 1) := by decide +kernel
theorem dX0_init_38 : decode cX0_init 38 = .ok (.aload_n 2, 1) := by decide +kernel
theorem dX0_init_39 : decode cX0_init 39 = .ok (.invokespecial 33, 3) := by decide +kernel
theorem dX0_init_42 : decode cX0_init 42 = .ok (.putfield 36, 3) := by decide +kernel
theorem dX0_init_45 : decode cX0_init 45 = .ok (.aload_n 0, 1) := by decide +kernel
theorem dX0_init_46 : decode cX0_init 46 = .ok (.new 31, 3) := by decide +kernel
theorem dX0_init_49 : decode cX0_init 49 = .ok (.dup, 1) := by decide +kernel
theorem dX0_init_50 : decode cX0_init 50 = .ok (.aload_n 2, 1) := by decide +kernel
theorem dX0_init_51 : decode cX0_init 51 = .ok (.invokespecial 33, 3) := by decide +kernel
theorem dX0_init_54 : decode cX0_init 54 = .ok (.putfield 40, 3) := by decide +kernel
theorem dX0_init_57 : decode cX0_init 57 = .ok (.return_, 1) := by decide +kernel
theorem dX12_inserts_0 : decode cX12_inserts 0 = .ok (.aload_n 0, 1) := by decide +kernel
theorem dX12_inserts_1 : decode cX12_inserts 1 = .ok (.getfield 43, 3) := by decide +kernel
theorem dX12_inserts_4 : decode cX12_inserts 4 = .ok (.iconst 0, 1) := by decide +kernel
theorem dX12_inserts_5 : decode cX12_inserts 5 = .ok (.iconst 0, 1) := by decide +kernel
theorem dX12_inserts_6 : decode cX12_inserts 6 = .ok (.iastore, 1) := by decide +kernel
theorem dX12_inserts_7 : decode cX12_inserts 7 = .ok (.iconst 0, 1) := by decide +kernel
theorem dX12_inserts_8 : decode cX12_inserts 8 = .ok (.istore 4, 2) := by decide +kernel
theorem dX12_inserts_10 : decode cX12_inserts 10 = .ok (.iload 4, 2) := by decide +kernel
theorem dX12_inserts_12 : decode cX12_inserts 12 = .ok (.aload_n 0, 1) := by decide +kernel
theorem dX12_inserts_13 : decode cX12_inserts 13 = .ok (.getfield 25, 3) := by decide +kernel
theorem dX12_inserts_16 : decode cX12_inserts 16 = .ok (.iload_n 1, 1) := by decide +kernel
theorem dX12_inserts_17 : decode cX12_inserts 17 = .ok (.iaload, 1) := by decide +kernel
theorem dX12_inserts_18 : decode cX12_inserts 18 = .ok (.if_icmp .gt 39, 3) := by decide +kernel
theorem dX12_inserts_21 : decode cX12_inserts 21 = .ok (.iload 4, 2) := by decide +kernel
theorem dX12_inserts_23 : decode cX12_inserts 23 = .ok (.iload_n 2, 1) := by decide +kernel
theorem dX12_inserts_24 : decode cX12_inserts 24 = .ok (.if_icmp .ne 9, 3) := by decide +kernel
theorem dX12_inserts_27 : decode cX12_inserts 27 = .ok (.aload_n 0, 1) := by decide +kernel
theorem dX12_inserts_28 : decode cX12_inserts 28 = .ok (.iconst 0, 1) := by decide +kernel
theorem dX12_inserts_29 : decode cX12_inserts 29 = .ok (.iload_n 3, 1) := by decide +kernel
theorem dX12_inserts_30 : decode cX12_inserts 30 = .ok (.invokevirtual 115, 3) := by decide +kernel
theorem dX12_inserts_33 : decode cX12_inserts 33 = .ok (.iload 4, 2) := by decide +kernel
theorem dX12_inserts_35 : decode cX12_inserts 35 = .ok (.aload_n 0, 1) := by decide +kernel
theorem dX12_inserts_36 : decode cX12_inserts 36 = .ok (.getfield 25, 3) := by decide +kernel
theorem dX12_inserts_39 : decode cX12_inserts 39 = .ok (.iload_n 1, 1) := by decide +kernel
theorem dX12_inserts_40 : decode cX12_inserts 40 = .ok (.iaload, 1) := by decide +kernel
theorem dX12_inserts_41 : decode cX12_inserts 41 = .ok (.if_icmp .ge 10, 3) := by decide +kernel
theorem dX12_inserts_44 : decode cX12_inserts 44 = .ok (.aload_n 0, 1) := by decide +kernel
theorem dX12_inserts_45 : decode cX12_inserts 45 = .ok (.iconst 0, 1) := by decide +kernel
theorem dX12_inserts_46 : decode cX12_inserts 46 = .ok (.ldc 108, 2) := by decide +kernel
theorem dX12_inserts_48 : decode cX12_inserts 48 = .ok (.invokevirtual 115, 3) := by decide +kernel
theorem dX12_inserts_51 : decode cX12_inserts 51 = .ok (.iinc 4 1, 3) := by decide +kernel
theorem dX12_inserts_54 : decode cX12_inserts 54 = .ok (.goto (-44), 3) := by decide +kernel
theorem dX12_inserts_57 : decode cX12_inserts 57 = .ok (.aload_n 0, 1) := by decide +kernel
theorem dX12_inserts_58 : decode cX12_inserts 58 = .ok (.iload_n 1, 1) := by decide +kernel
theorem dX12_inserts_59 : decode cX12_inserts 59 = .ok (.iconst 4, 1) := by decide +kernel
theorem dX12_inserts_60 : decode cX12_inserts 60 = .ok (.iconst 1, 1) := by decide +kernel
theorem dX12_inserts_61 : decode cX12_inserts 61 = .ok (.invokevirtual 283, 3) := by decide +kernel
theorem dX12_inserts_64 : decode cX12_inserts 64 = .ok (.return_, 1) := by decide +kernel
theorem dX12_keepsAllBut_0 : decode cX12_keepsAllBut 0 = .ok (.aload_n 0, 1) := by decide +kernel
theorem dX12_keepsAllBut_1 : decode cX12_keepsAllBut 1 = .ok (.getfield 43, 3) := by decide +kernel
theorem dX12_keepsAllBut_4 : decode cX12_keepsAllBut 4 = .ok (.iconst 0, 1) := by decide +kernel
theorem dX12_keepsAllBut_5 : decode cX12_keepsAllBut 5 = .ok (.iconst 0, 1) := by decide +kernel
theorem dX12_keepsAllBut_6 : decode cX12_keepsAllBut 6 = .ok (.iastore, 1) := by decide +kernel
theorem dX12_keepsAllBut_7 : decode cX12_keepsAllBut 7 = .ok (.iconst 0, 1) := by decide +kernel
theorem dX12_keepsAllBut_8 : decode cX12_keepsAllBut 8 = .ok (.istore 5, 2) := by decide +kernel
theorem dX12_keepsAllBut_10 : decode cX12_keepsAllBut 10 = .ok (.iload 5, 2) := by decide +kernel
theorem dX12_keepsAllBut_12 : decode cX12_keepsAllBut 12 = .ok (.aload_n 0, 1) := by decide +kernel
theorem dX12_keepsAllBut_13 : decode cX12_keepsAllBut 13 = .ok (.getfield 25, 3) := by decide +kernel
theorem dX12_keepsAllBut_16 : decode cX12_keepsAllBut 16 = .ok (.iload_n 1, 1) := by decide +kernel
theorem dX12_keepsAllBut_17 : decode cX12_keepsAllBut 17 = .ok (.iaload, 1) := by decide +kernel
theorem dX12_keepsAllBut_18 : decode cX12_keepsAllBut 18 = .ok (.if_icmp .ge 35, 3) := by decide +kernel
theorem dX12_keepsAllBut_21 : decode cX12_keepsAllBut 21 = .ok (.aload_n 0, 1) := by decide +kernel
theorem dX12_keepsAllBut_22 : decode cX12_keepsAllBut 22 = .ok (.iconst 0, 1) := by decide +kernel
theorem dX12_keepsAllBut_23 : decode cX12_keepsAllBut 23 = .ok (.iload 5, 2) := by decide +kernel
theorem dX12_keepsAllBut_25 : decode cX12_keepsAllBut 25 = .ok (.iload_n 2, 1) := by decide +kernel
theorem dX12_keepsAllBut_26 : decode cX12_keepsAllBut 26 = .ok (.if_icmp .lt 16, 3) := by decide +kernel
theorem dX12_keepsAllBut_29 : decode cX12_keepsAllBut 29 = .ok (.iload 5, 2) := by decide +kernel
theorem dX12_keepsAllBut_31 : decode cX12_keepsAllBut 31 = .ok (.iload_n 2, 1) := by decide +kernel
theorem dX12_keepsAllBut_32 : decode cX12_keepsAllBut 32 = .ok (.iload_n 3, 1) := by decide +kernel
theorem dX12_keepsAllBut_33 : decode cX12_keepsAllBut 33 = .ok (.iadd, 1) := by decide +kernel
theorem dX12_keepsAllBut_34 : decode cX12_keepsAllBut 34 = .ok (.if_icmp .ge 8, 3) := by decide +kernel
theorem dX12_keepsAllBut_37 : decode cX12_keepsAllBut 37 = .ok (.iload 4, 2) := by decide +kernel
theorem dX12_keepsAllBut_39 : decode cX12_keepsAllBut 39 = .ok (.goto 5, 3) := by decide +kernel
theorem dX12_keepsAllBut_42 : decode cX12_keepsAllBut 42 = .ok (.ldc 108, 2) := by decide +kernel
theorem dX12_keepsAllBut_44 : decode cX12_keepsAllBut 44 = .ok (.invokevirtual 115, 3) := by decide +kernel
theorem dX12_keepsAllBut_47 : decode cX12_keepsAllBut 47 = .ok (.iinc 5 1, 3) := by decide +kernel
theorem dX12_keepsAllBut_50 : decode cX12_keepsAllBut 50 = .ok (.goto (-40), 3) := by decide +kernel
theorem dX12_keepsAllBut_53 : decode cX12_keepsAllBut 53 = .ok (.return_, 1) := by decide +kernel
theorem dX12_done_0 : decode cX12_done 0 = .ok (.aload_n 0, 1) := by decide +kernel
theorem dX12_done_1 : decode cX12_done 1 = .ok (.iconst 0, 1) := by decide +kernel
theorem dX12_done_2 : decode cX12_done 2 = .ok (.iload_n 1, 1) := by decide +kernel
theorem dX12_done_3 : decode cX12_done 3 = .ok (.iconst 1, 1) := by decide +kernel
theorem dX12_done_4 : decode cX12_done 4 = .ok (.invokevirtual 145, 3) := by decide +kernel
theorem dX12_done_7 : decode cX12_done 7 = .ok (.aload_n 0, 1) := by decide +kernel
theorem dX12_done_8 : decode cX12_done 8 = .ok (.iload_n 1, 1) := by decide +kernel
theorem dX12_done_9 : decode cX12_done 9 = .ok (.iconst 0, 1) := by decide +kernel
theorem dX12_done_10 : decode cX12_done 10 = .ok (.invokevirtual 148, 3) := by decide +kernel
theorem dX12_done_13 : decode cX12_done 13 = .ok (.aload_n 0, 1) := by decide +kernel
theorem dX12_done_14 : decode cX12_done 14 = .ok (.iload_n 1, 1) := by decide +kernel
theorem dX12_done_15 : decode cX12_done 15 = .ok (.iconst 0, 1) := by decide +kernel
theorem dX12_done_16 : decode cX12_done 16 = .ok (.iconst 1, 1) := by decide +kernel
theorem dX12_done_17 : decode cX12_done 17 = .ok (.invokevirtual 151, 3) := by decide +kernel
theorem dX12_done_20 : decode cX12_done 20 = .ok (.aload_n 0, 1) := by decide +kernel
theorem dX12_done_21 : decode cX12_done 21 = .ok (.iload_n 1, 1) := by decide +kernel
theorem dX12_done_22 : decode cX12_done 22 = .ok (.iload_n 2, 1) := by decide +kernel
theorem dX12_done_23 : decode cX12_done 23 = .ok (.iconst 1, 1) := by decide +kernel
theorem dX12_done_24 : decode cX12_done 24 = .ok (.invokevirtual 155, 3) := by decide +kernel
theorem dX12_done_27 : decode cX12_done 27 = .ok (.iload_n 3, 1) := by decide +kernel
theorem dX12_done_28 : decode cX12_done 28 = .ok (.ifCond .eq 15, 3) := by decide +kernel
theorem dX12_done_31 : decode cX12_done 31 = .ok (.aload_n 0, 1) := by decide +kernel
theorem dX12_done_32 : decode cX12_done 32 = .ok (.getfield 28, 3) := by decide +kernel
theorem dX12_done_35 : decode cX12_done 35 = .ok (.bipush 8, 2) := by decide +kernel
theorem dX12_done_37 : decode cX12_done 37 = .ok (.iload_n 1, 1) := by decide +kernel
theorem dX12_done_38 : decode cX12_done 38 = .ok (.imul, 1) := by decide +kernel
theorem dX12_done_39 : decode cX12_done 39 = .ok (.iconst 5, 1) := by decide +kernel
theorem dX12_done_40 : decode cX12_done 40 = .ok (.iadd, 1) := by decide +kernel
theorem dX12_done_41 : decode cX12_done 41 = .ok (.iconst 0, 1) := by decide +kernel
theorem dX12_done_42 : decode cX12_done 42 = .ok (.iastore, 1) := by decide +kernel
theorem dX12_done_43 : decode cX12_done 43 = .ok (.aload_n 0, 1) := by decide +kernel
theorem dX12_done_44 : decode cX12_done 44 = .ok (.iload_n 1, 1) := by decide +kernel
theorem dX12_done_45 : decode cX12_done 45 = .ok (.iconst 1, 1) := by decide +kernel
theorem dX12_done_46 : decode cX12_done 46 = .ok (.invokevirtual 135, 3) := by decide +kernel
theorem dX12_done_49 : decode cX12_done 49 = .ok (.ifCond .ne 53, 3) := by decide +kernel
theorem dX12_done_52 : decode cX12_done 52 = .ok (.aload_n 0, 1) := by decide +kernel
theorem dX12_done_53 : decode cX12_done 53 = .ok (.bipush 16, 2) := by decide +kernel
theorem dX12_done_55 : decode cX12_done 55 = .ok (.iload_n 1, 1) := by decide +kernel
theorem dX12_done_56 : decode cX12_done 56 = .ok (.iadd, 1) := by decide +kernel
theorem dX12_done_57 : decode cX12_done 57 = .ok (.iconst 0, 1) := by decide +kernel
theorem dX12_done_58 : decode cX12_done 58 = .ok (.invokevirtual 101, 3) := by decide +kernel
theorem dX12_done_61 : decode cX12_done 61 = .ok (.aload_n 0, 1) := by decide +kernel
theorem dX12_done_62 : decode cX12_done 62 = .ok (.bipush 12, 2) := by decide +kernel
theorem dX12_done_64 : decode cX12_done 64 = .ok (.iload_n 1, 1) := by decide +kernel
theorem dX12_done_65 : decode cX12_done 65 = .ok (.iadd, 1) := by decide +kernel
theorem dX12_done_66 : decode cX12_done 66 = .ok (.iconst 0, 1) := by decide +kernel
theorem dX12_done_67 : decode cX12_done 67 = .ok (.invokevirtual 101, 3) := by decide +kernel
theorem dX12_done_70 : decode cX12_done 70 = .ok (.aload_n 0, 1) := by decide +kernel
theorem dX12_done_71 : decode cX12_done 71 = .ok (.getfield 28, 3) := by decide +kernel
theorem dX12_done_74 : decode cX12_done 74 = .ok (.bipush 8, 2) := by decide +kernel
theorem dX12_done_76 : decode cX12_done 76 = .ok (.iload_n 1, 1) := by decide +kernel
theorem dX12_done_77 : decode cX12_done 77 = .ok (.imul, 1) := by decide +kernel
theorem dX12_done_78 : decode cX12_done 78 = .ok (.iconst 1, 1) := by decide +kernel
theorem dX12_done_79 : decode cX12_done 79 = .ok (.iadd, 1) := by decide +kernel
theorem dX12_done_80 : decode cX12_done 80 = .ok (.iconst 1, 1) := by decide +kernel
theorem dX12_done_81 : decode cX12_done 81 = .ok (.iastore, 1) := by decide +kernel
theorem dX12_done_82 : decode cX12_done 82 = .ok (.aload_n 0, 1) := by decide +kernel
theorem dX12_done_83 : decode cX12_done 83 = .ok (.getfield 28, 3) := by decide +kernel
theorem dX12_done_86 : decode cX12_done 86 = .ok (.bipush 8, 2) := by decide +kernel
theorem dX12_done_88 : decode cX12_done 88 = .ok (.iload_n 1, 1) := by decide +kernel
theorem dX12_done_89 : decode cX12_done 89 = .ok (.imul, 1) := by decide +kernel
theorem dX12_done_90 : decode cX12_done 90 = .ok (.iconst 2, 1) := by decide +kernel
theorem dX12_done_91 : decode cX12_done 91 = .ok (.iadd, 1) := by decide +kernel
theorem dX12_done_92 : decode cX12_done 92 = .ok (.aload_n 0, 1) := by decide +kernel
theorem dX12_done_93 : decode cX12_done 93 = .ok (.iload_n 1, 1) := by decide +kernel
theorem dX12_done_94 : decode cX12_done 94 = .ok (.iconst 0, 1) := by decide +kernel
theorem dX12_done_95 : decode cX12_done 95 = .ok (.invokevirtual 135, 3) := by decide +kernel
theorem dX12_done_98 : decode cX12_done 98 = .ok (.iastore, 1) := by decide +kernel
theorem dX12_done_99 : decode cX12_done 99 = .ok (.goto 61, 3) := by decide +kernel
theorem dX12_done_102 : decode cX12_done 102 = .ok (.aload_n 0, 1) := by decide +kernel
theorem dX12_done_103 : decode cX12_done 103 = .ok (.iload_n 1, 1) := by decide +kernel
theorem dX12_done_104 : decode cX12_done 104 = .ok (.iconst 3, 1) := by decide +kernel
theorem dX12_done_105 : decode cX12_done 105 = .ok (.invokevirtual 135, 3) := by decide +kernel
theorem dX12_done_108 : decode cX12_done 108 = .ok (.ifCond .ne 27, 3) := by decide +kernel
theorem dX12_done_111 : decode cX12_done 111 = .ok (.aload_n 0, 1) := by decide +kernel
theorem dX12_done_112 : decode cX12_done 112 = .ok (.bipush 20, 2) := by decide +kernel
theorem dX12_done_114 : decode cX12_done 114 = .ok (.iload_n 1, 1) := by decide +kernel
theorem dX12_done_115 : decode cX12_done 115 = .ok (.iadd, 1) := by decide +kernel
theorem dX12_done_116 : decode cX12_done 116 = .ok (.iconst 0, 1) := by decide +kernel
theorem dX12_done_117 : decode cX12_done 117 = .ok (.invokevirtual 101, 3) := by decide +kernel
theorem dX12_done_120 : decode cX12_done 120 = .ok (.aload_n 0, 1) := by decide +kernel
theorem dX12_done_121 : decode cX12_done 121 = .ok (.getfield 28, 3) := by decide +kernel
theorem dX12_done_124 : decode cX12_done 124 = .ok (.bipush 8, 2) := by decide +kernel
theorem dX12_done_126 : decode cX12_done 126 = .ok (.iload_n 1, 1) := by decide +kernel
theorem dX12_done_127 : decode cX12_done 127 = .ok (.imul, 1) := by decide +kernel
theorem dX12_done_128 : decode cX12_done 128 = .ok (.iconst 3, 1) := by decide +kernel
theorem dX12_done_129 : decode cX12_done 129 = .ok (.iadd, 1) := by decide +kernel
theorem dX12_done_130 : decode cX12_done 130 = .ok (.iconst 1, 1) := by decide +kernel
theorem dX12_done_131 : decode cX12_done 131 = .ok (.iastore, 1) := by decide +kernel
theorem dX12_done_132 : decode cX12_done 132 = .ok (.goto 28, 3) := by decide +kernel
theorem dX12_done_135 : decode cX12_done 135 = .ok (.aload_n 0, 1) := by decide +kernel
theorem dX12_done_136 : decode cX12_done 136 = .ok (.iconst 1, 1) := by decide +kernel
theorem dX12_done_137 : decode cX12_done 137 = .ok (.bipush 20, 2) := by decide +kernel
theorem dX12_done_139 : decode cX12_done 139 = .ok (.iload_n 1, 1) := by decide +kernel
theorem dX12_done_140 : decode cX12_done 140 = .ok (.iadd, 1) := by decide +kernel
theorem dX12_done_141 : decode cX12_done 141 = .ok (.invokevirtual 97, 3) := by decide +kernel
theorem dX12_done_144 : decode cX12_done 144 = .ok (.aload_n 0, 1) := by decide +kernel
theorem dX12_done_145 : decode cX12_done 145 = .ok (.iconst 1, 1) := by decide +kernel
theorem dX12_done_146 : decode cX12_done 146 = .ok (.iconst 0, 1) := by decide +kernel
theorem dX12_done_147 : decode cX12_done 147 = .ok (.iconst 2, 1) := by decide +kernel
theorem dX12_done_148 : decode cX12_done 148 = .ok (.invokevirtual 158, 3) := by decide +kernel
theorem dX12_done_151 : decode cX12_done 151 = .ok (.aload_n 0, 1) := by decide +kernel
theorem dX12_done_152 : decode cX12_done 152 = .ok (.bipush 20, 2) := by decide +kernel
theorem dX12_done_154 : decode cX12_done 154 = .ok (.iload_n 1, 1) := by decide +kernel
theorem dX12_done_155 : decode cX12_done 155 = .ok (.iadd, 1) := by decide +kernel
theorem dX12_done_156 : decode cX12_done 156 = .ok (.iconst 2, 1) := by decide +kernel
theorem dX12_done_157 : decode cX12_done 157 = .ok (.invokevirtual 101, 3) := by decide +kernel
theorem dX12_done_160 : decode cX12_done 160 = .ok (.return_, 1) := by decide +kernel
theorem dX12_again_0 : decode cX12_again 0 = .ok (.aload_n 0, 1) := by decide +kernel
theorem dX12_again_1 : decode cX12_again 1 = .ok (.iload_n 1, 1) := by decide +kernel
theorem dX12_again_2 : decode cX12_again 2 = .ok (.iload_n 2, 1) := by decide +kernel
theorem dX12_again_3 : decode cX12_again 3 = .ok (.invokevirtual 135, 3) := by decide +kernel
theorem dX12_again_6 : decode cX12_again 6 = .ok (.istore_n 3, 1) := by decide +kernel
theorem dX12_again_7 : decode cX12_again 7 = .ok (.iload_n 3, 1) := by decide +kernel
theorem dX12_again_8 : decode cX12_again 8 = .ok (.ifCond .ne 6, 3) := by decide +kernel
theorem dX12_again_11 : decode cX12_again 11 = .ok (.bipush (-5), 2) := by decide +kernel
theorem dX12_again_13 : decode cX12_again 13 = .ok (.ireturn, 1) := by decide +kernel
theorem dX12_again_14 : decode cX12_again 14 = .ok (.aload_n 0, 1) := by decide +kernel
theorem dX12_again_15 : decode cX12_again 15 = .ok (.iconst 0, 1) := by decide +kernel
theorem dX12_again_16 : decode cX12_again 16 = .ok (.iload_n 2, 1) := by decide +kernel
theorem dX12_again_17 : decode cX12_again 17 = .ok (.iconst 4, 1) := by decide +kernel
theorem dX12_again_18 : decode cX12_again 18 = .ok (.if_icmp .ne 8, 3) := by decide +kernel
theorem dX12_again_21 : decode cX12_again 21 = .ok (.bipush 24, 2) := by decide +kernel
theorem dX12_again_23 : decode cX12_again 23 = .ok (.goto 5, 3) := by decide +kernel
theorem dX12_again_26 : decode cX12_again 26 = .ok (.bipush 104, 2) := by decide +kernel
theorem dX12_again_28 : decode cX12_again 28 = .ok (.bipush 20, 2) := by decide +kernel
theorem dX12_again_30 : decode cX12_again 30 = .ok (.iload_n 1, 1) := by decide +kernel
theorem dX12_again_31 : decode cX12_again 31 = .ok (.imul, 1) := by decide +kernel
theorem dX12_again_32 : decode cX12_again 32 = .ok (.iadd, 1) := by decide +kernel
theorem dX12_again_33 : decode cX12_again 33 = .ok (.iload_n 3, 1) := by decide +kernel
theorem dX12_again_34 : decode cX12_again 34 = .ok (.iadd, 1) := by decide +kernel
theorem dX12_again_35 : decode cX12_again 35 = .ok (.iconst 1, 1) := by decide +kernel
theorem dX12_again_36 : decode cX12_again 36 = .ok (.isub, 1) := by decide +kernel
theorem dX12_again_37 : decode cX12_again 37 = .ok (.invokevirtual 97, 3) := by decide +kernel
theorem dX12_again_40 : decode cX12_again 40 = .ok (.aload_n 0, 1) := by decide +kernel
theorem dX12_again_41 : decode cX12_again 41 = .ok (.iload_n 1, 1) := by decide +kernel
theorem dX12_again_42 : decode cX12_again 42 = .ok (.iconst 0, 1) := by decide +kernel
theorem dX12_again_43 : decode cX12_again 43 = .ok (.invokevirtual 280, 3) := by decide +kernel
theorem dX12_again_46 : decode cX12_again 46 = .ok (.ifCond .eq 6, 3) := by decide +kernel
theorem dX12_again_49 : decode cX12_again 49 = .ok (.bipush (-6), 2) := by decide +kernel
theorem dX12_again_51 : decode cX12_again 51 = .ok (.ireturn, 1) := by decide +kernel
theorem dX12_again_52 : decode cX12_again 52 = .ok (.aload_n 0, 1) := by decide +kernel
theorem dX12_again_53 : decode cX12_again 53 = .ok (.getfield 28, 3) := by decide +kernel
theorem dX12_again_56 : decode cX12_again 56 = .ok (.bipush 8, 2) := by decide +kernel
theorem dX12_again_58 : decode cX12_again 58 = .ok (.iload_n 1, 1) := by decide +kernel
theorem dX12_again_59 : decode cX12_again 59 = .ok (.imul, 1) := by decide +kernel
theorem dX12_again_60 : decode cX12_again 60 = .ok (.iload_n 2, 1) := by decide +kernel
theorem dX12_again_61 : decode cX12_again 61 = .ok (.iadd, 1) := by decide +kernel
theorem dX12_again_62 : decode cX12_again 62 = .ok (.iload_n 3, 1) := by decide +kernel
theorem dX12_again_63 : decode cX12_again 63 = .ok (.iconst 1, 1) := by decide +kernel
theorem dX12_again_64 : decode cX12_again 64 = .ok (.isub, 1) := by decide +kernel
theorem dX12_again_65 : decode cX12_again 65 = .ok (.iastore, 1) := by decide +kernel
theorem dX12_again_66 : decode cX12_again 66 = .ok (.aload_n 0, 1) := by decide +kernel
theorem dX12_again_67 : decode cX12_again 67 = .ok (.iload_n 1, 1) := by decide +kernel
theorem dX12_again_68 : decode cX12_again 68 = .ok (.bipush 9, 2) := by decide +kernel
theorem dX12_again_70 : decode cX12_again 70 = .ok (.iload_n 2, 1) := by decide +kernel
theorem dX12_again_71 : decode cX12_again 71 = .ok (.isub, 1) := by decide +kernel
theorem dX12_again_72 : decode cX12_again 72 = .ok (.iconst 0, 1) := by decide +kernel
theorem dX12_again_73 : decode cX12_again 73 = .ok (.invokevirtual 283, 3) := by decide +kernel
theorem dX12_again_76 : decode cX12_again 76 = .ok (.iconst 0, 1) := by decide +kernel
theorem dX12_again_77 : decode cX12_again 77 = .ok (.ireturn, 1) := by decide +kernel
theorem dX12_st_0 : decode cX12_st 0 = .ok (.aload_n 0, 1) := by decide +kernel
theorem dX12_st_1 : decode cX12_st 1 = .ok (.getfield 28, 3) := by decide +kernel
theorem dX12_st_4 : decode cX12_st 4 = .ok (.bipush 8, 2) := by decide +kernel
theorem dX12_st_6 : decode cX12_st 6 = .ok (.iload_n 1, 1) := by decide +kernel
theorem dX12_st_7 : decode cX12_st 7 = .ok (.imul, 1) := by decide +kernel
theorem dX12_st_8 : decode cX12_st 8 = .ok (.iload_n 2, 1) := by decide +kernel
theorem dX12_st_9 : decode cX12_st 9 = .ok (.iadd, 1) := by decide +kernel
theorem dX12_st_10 : decode cX12_st 10 = .ok (.iaload, 1) := by decide +kernel
theorem dX12_st_11 : decode cX12_st 11 = .ok (.ireturn, 1) := by decide +kernel
theorem dX12_serves_0 : decode cX12_serves 0 = .ok (.aload_n 0, 1) := by decide +kernel
theorem dX12_serves_1 : decode cX12_serves 1 = .ok (.iconst 0, 1) := by decide +kernel
theorem dX12_serves_2 : decode cX12_serves 2 = .ok (.bipush 12, 2) := by decide +kernel
theorem dX12_serves_4 : decode cX12_serves 4 = .ok (.iload_n 1, 1) := by decide +kernel
theorem dX12_serves_5 : decode cX12_serves 5 = .ok (.iadd, 1) := by decide +kernel
theorem dX12_serves_6 : decode cX12_serves 6 = .ok (.invokevirtual 97, 3) := by decide +kernel
theorem dX12_serves_9 : decode cX12_serves 9 = .ok (.aload_n 0, 1) := by decide +kernel
theorem dX12_serves_10 : decode cX12_serves 10 = .ok (.iload_n 1, 1) := by decide +kernel
theorem dX12_serves_11 : decode cX12_serves 11 = .ok (.iconst 2, 1) := by decide +kernel
theorem dX12_serves_12 : decode cX12_serves 12 = .ok (.invokevirtual 135, 3) := by decide +kernel
theorem dX12_serves_15 : decode cX12_serves 15 = .ok (.iconst 1, 1) := by decide +kernel
theorem dX12_serves_16 : decode cX12_serves 16 = .ok (.iadd, 1) := by decide +kernel
theorem dX12_serves_17 : decode cX12_serves 17 = .ok (.istore_n 2, 1) := by decide +kernel
theorem dX12_serves_18 : decode cX12_serves 18 = .ok (.iload_n 2, 1) := by decide +kernel
theorem dX12_serves_19 : decode cX12_serves 19 = .ok (.aload_n 0, 1) := by decide +kernel
theorem dX12_serves_20 : decode cX12_serves 20 = .ok (.getfield 34, 3) := by decide +kernel
theorem dX12_serves_23 : decode cX12_serves 23 = .ok (.iconst 0, 1) := by decide +kernel
theorem dX12_serves_24 : decode cX12_serves 24 = .ok (.iaload, 1) := by decide +kernel
theorem dX12_serves_25 : decode cX12_serves 25 = .ok (.if_icmp .gt 33, 3) := by decide +kernel
theorem dX12_serves_28 : decode cX12_serves 28 = .ok (.aload_n 0, 1) := by decide +kernel
theorem dX12_serves_29 : decode cX12_serves 29 = .ok (.iconst 1, 1) := by decide +kernel
theorem dX12_serves_30 : decode cX12_serves 30 = .ok (.sipush 184, 3) := by decide +kernel
theorem dX12_serves_33 : decode cX12_serves 33 = .ok (.iload_n 2, 1) := by decide +kernel
theorem dX12_serves_34 : decode cX12_serves 34 = .ok (.iadd, 1) := by decide +kernel
theorem dX12_serves_35 : decode cX12_serves 35 = .ok (.invokevirtual 97, 3) := by decide +kernel
theorem dX12_serves_38 : decode cX12_serves 38 = .ok (.aload_n 0, 1) := by decide +kernel
theorem dX12_serves_39 : decode cX12_serves 39 = .ok (.iconst 0, 1) := by decide +kernel
theorem dX12_serves_40 : decode cX12_serves 40 = .ok (.iconst 1, 1) := by decide +kernel
theorem dX12_serves_41 : decode cX12_serves 41 = .ok (.iconst 0, 1) := by decide +kernel
theorem dX12_serves_42 : decode cX12_serves 42 = .ok (.iconst 2, 1) := by decide +kernel
theorem dX12_serves_43 : decode cX12_serves 43 = .ok (.invokevirtual 164, 3) := by decide +kernel
theorem dX12_serves_46 : decode cX12_serves 46 = .ok (.aload_n 0, 1) := by decide +kernel
theorem dX12_serves_47 : decode cX12_serves 47 = .ok (.iconst 2, 1) := by decide +kernel
theorem dX12_serves_48 : decode cX12_serves 48 = .ok (.iconst 0, 1) := by decide +kernel
theorem dX12_serves_49 : decode cX12_serves 49 = .ok (.invokevirtual 167, 3) := by decide +kernel
theorem dX12_serves_52 : decode cX12_serves 52 = .ok (.iinc 2 1, 3) := by decide +kernel
theorem dX12_serves_55 : decode cX12_serves 55 = .ok (.goto (-37), 3) := by decide +kernel
theorem dX12_serves_58 : decode cX12_serves 58 = .ok (.aload_n 0, 1) := by decide +kernel
theorem dX12_serves_59 : decode cX12_serves 59 = .ok (.iconst 4, 1) := by decide +kernel
theorem dX12_serves_60 : decode cX12_serves 60 = .ok (.iconst 0, 1) := by decide +kernel
theorem dX12_serves_61 : decode cX12_serves 61 = .ok (.invokevirtual 148, 3) := by decide +kernel
theorem dX12_serves_64 : decode cX12_serves 64 = .ok (.aload_n 0, 1) := by decide +kernel
theorem dX12_serves_65 : decode cX12_serves 65 = .ok (.getfield 34, 3) := by decide +kernel
theorem dX12_serves_68 : decode cX12_serves 68 = .ok (.iconst 0, 1) := by decide +kernel
theorem dX12_serves_69 : decode cX12_serves 69 = .ok (.dup2, 1) := by decide +kernel
theorem dX12_serves_70 : decode cX12_serves 70 = .ok (.iaload, 1) := by decide +kernel
theorem dX12_serves_71 : decode cX12_serves 71 = .ok (.iconst 1, 1) := by decide +kernel
theorem dX12_serves_72 : decode cX12_serves 72 = .ok (.iadd, 1) := by decide +kernel
theorem dX12_serves_73 : decode cX12_serves 73 = .ok (.iastore, 1) := by decide +kernel
theorem dX12_serves_74 : decode cX12_serves 74 = .ok (.aload_n 0, 1) := by decide +kernel
theorem dX12_serves_75 : decode cX12_serves 75 = .ok (.sipush 184, 3) := by decide +kernel
theorem dX12_serves_78 : decode cX12_serves 78 = .ok (.aload_n 0, 1) := by decide +kernel
theorem dX12_serves_79 : decode cX12_serves 79 = .ok (.getfield 34, 3) := by decide +kernel
theorem dX12_serves_82 : decode cX12_serves 82 = .ok (.iconst 0, 1) := by decide +kernel
theorem dX12_serves_83 : decode cX12_serves 83 = .ok (.iaload, 1) := by decide +kernel
theorem dX12_serves_84 : decode cX12_serves 84 = .ok (.iadd, 1) := by decide +kernel
theorem dX12_serves_85 : decode cX12_serves 85 = .ok (.iconst 0, 1) := by decide +kernel
theorem dX12_serves_86 : decode cX12_serves 86 = .ok (.invokevirtual 101, 3) := by decide +kernel
theorem dX12_serves_89 : decode cX12_serves 89 = .ok (.aload_n 0, 1) := by decide +kernel
theorem dX12_serves_90 : decode cX12_serves 90 = .ok (.getfield 31, 3) := by decide +kernel
theorem dX12_serves_93 : decode cX12_serves 93 = .ok (.aload_n 0, 1) := by decide +kernel
theorem dX12_serves_94 : decode cX12_serves 94 = .ok (.getfield 34, 3) := by decide +kernel
theorem dX12_serves_97 : decode cX12_serves 97 = .ok (.iconst 0, 1) := by decide +kernel
theorem dX12_serves_98 : decode cX12_serves 98 = .ok (.iaload, 1) := by decide +kernel
theorem dX12_serves_99 : decode cX12_serves 99 = .ok (.iload_n 1, 1) := by decide +kernel
theorem dX12_serves_100 : decode cX12_serves 100 = .ok (.iastore, 1) := by decide +kernel
theorem dX12_serves_101 : decode cX12_serves 101 = .ok (.aload_n 0, 1) := by decide +kernel
theorem dX12_serves_102 : decode cX12_serves 102 = .ok (.getfield 28, 3) := by decide +kernel
theorem dX12_serves_105 : decode cX12_serves 105 = .ok (.bipush 8, 2) := by decide +kernel
theorem dX12_serves_107 : decode cX12_serves 107 = .ok (.iload_n 1, 1) := by decide +kernel
theorem dX12_serves_108 : decode cX12_serves 108 = .ok (.imul, 1) := by decide +kernel
theorem dX12_serves_109 : decode cX12_serves 109 = .ok (.iconst 1, 1) := by decide +kernel
theorem dX12_serves_110 : decode cX12_serves 110 = .ok (.iadd, 1) := by decide +kernel
theorem dX12_serves_111 : decode cX12_serves 111 = .ok (.iconst 2, 1) := by decide +kernel
theorem dX12_serves_112 : decode cX12_serves 112 = .ok (.iastore, 1) := by decide +kernel
theorem dX12_serves_113 : decode cX12_serves 113 = .ok (.aload_n 0, 1) := by decide +kernel
theorem dX12_serves_114 : decode cX12_serves 114 = .ok (.getfield 34, 3) := by decide +kernel
theorem dX12_serves_117 : decode cX12_serves 117 = .ok (.iconst 0, 1) := by decide +kernel
theorem dX12_serves_118 : decode cX12_serves 118 = .ok (.iaload, 1) := by decide +kernel
theorem dX12_serves_119 : decode cX12_serves 119 = .ok (.ireturn, 1) := by decide +kernel
theorem dX12_hears_0 : decode cX12_hears 0 = .ok (.aload_n 0, 1) := by decide +kernel
theorem dX12_hears_1 : decode cX12_hears 1 = .ok (.iload_n 1, 1) := by decide +kernel
theorem dX12_hears_2 : decode cX12_hears 2 = .ok (.iconst 0, 1) := by decide +kernel
theorem dX12_hears_3 : decode cX12_hears 3 = .ok (.invokevirtual 135, 3) := by decide +kernel
theorem dX12_hears_6 : decode cX12_hears 6 = .ok (.iconst 1, 1) := by decide +kernel
theorem dX12_hears_7 : decode cX12_hears 7 = .ok (.iadd, 1) := by decide +kernel
theorem dX12_hears_8 : decode cX12_hears 8 = .ok (.istore_n 2, 1) := by decide +kernel
theorem dX12_hears_9 : decode cX12_hears 9 = .ok (.aload_n 0, 1) := by decide +kernel
theorem dX12_hears_10 : decode cX12_hears 10 = .ok (.getfield 28, 3) := by decide +kernel
theorem dX12_hears_13 : decode cX12_hears 13 = .ok (.bipush 8, 2) := by decide +kernel
theorem dX12_hears_15 : decode cX12_hears 15 = .ok (.iload_n 1, 1) := by decide +kernel
theorem dX12_hears_16 : decode cX12_hears 16 = .ok (.imul, 1) := by decide +kernel
theorem dX12_hears_17 : decode cX12_hears 17 = .ok (.iload_n 2, 1) := by decide +kernel
theorem dX12_hears_18 : decode cX12_hears 18 = .ok (.iastore, 1) := by decide +kernel
theorem dX12_hears_19 : decode cX12_hears 19 = .ok (.aload_n 0, 1) := by decide +kernel
theorem dX12_hears_20 : decode cX12_hears 20 = .ok (.getfield 31, 3) := by decide +kernel
theorem dX12_hears_23 : decode cX12_hears 23 = .ok (.iload_n 2, 1) := by decide +kernel
theorem dX12_hears_24 : decode cX12_hears 24 = .ok (.iaload, 1) := by decide +kernel
theorem dX12_hears_25 : decode cX12_hears 25 = .ok (.iload_n 1, 1) := by decide +kernel
theorem dX12_hears_26 : decode cX12_hears 26 = .ok (.if_icmp .ne 79, 3) := by decide +kernel
theorem dX12_hears_29 : decode cX12_hears 29 = .ok (.aload_n 0, 1) := by decide +kernel
theorem dX12_hears_30 : decode cX12_hears 30 = .ok (.getfield 28, 3) := by decide +kernel
theorem dX12_hears_33 : decode cX12_hears 33 = .ok (.bipush 8, 2) := by decide +kernel
theorem dX12_hears_35 : decode cX12_hears 35 = .ok (.iload_n 1, 1) := by decide +kernel
theorem dX12_hears_36 : decode cX12_hears 36 = .ok (.imul, 1) := by decide +kernel
theorem dX12_hears_37 : decode cX12_hears 37 = .ok (.iconst 1, 1) := by decide +kernel
theorem dX12_hears_38 : decode cX12_hears 38 = .ok (.iadd, 1) := by decide +kernel
theorem dX12_hears_39 : decode cX12_hears 39 = .ok (.aload_n 0, 1) := by decide +kernel
theorem dX12_hears_40 : decode cX12_hears 40 = .ok (.iload_n 1, 1) := by decide +kernel
theorem dX12_hears_41 : decode cX12_hears 41 = .ok (.iconst 3, 1) := by decide +kernel
theorem dX12_hears_42 : decode cX12_hears 42 = .ok (.invokevirtual 135, 3) := by decide +kernel
theorem dX12_hears_45 : decode cX12_hears 45 = .ok (.iastore, 1) := by decide +kernel
theorem dX12_hears_46 : decode cX12_hears 46 = .ok (.aload_n 0, 1) := by decide +kernel
theorem dX12_hears_47 : decode cX12_hears 47 = .ok (.iload_n 1, 1) := by decide +kernel
theorem dX12_hears_48 : decode cX12_hears 48 = .ok (.iconst 3, 1) := by decide +kernel
theorem dX12_hears_49 : decode cX12_hears 49 = .ok (.invokevirtual 135, 3) := by decide +kernel
theorem dX12_hears_52 : decode cX12_hears 52 = .ok (.iconst 1, 1) := by decide +kernel
theorem dX12_hears_53 : decode cX12_hears 53 = .ok (.if_icmp .ne 51, 3) := by decide +kernel
theorem dX12_hears_56 : decode cX12_hears 56 = .ok (.aload_n 0, 1) := by decide +kernel
theorem dX12_hears_57 : decode cX12_hears 57 = .ok (.bipush 20, 2) := by decide +kernel
theorem dX12_hears_59 : decode cX12_hears 59 = .ok (.iload_n 1, 1) := by decide +kernel
theorem dX12_hears_60 : decode cX12_hears 60 = .ok (.iadd, 1) := by decide +kernel
theorem dX12_hears_61 : decode cX12_hears 61 = .ok (.bipush 16, 2) := by decide +kernel
theorem dX12_hears_63 : decode cX12_hears 63 = .ok (.iload_n 1, 1) := by decide +kernel
theorem dX12_hears_64 : decode cX12_hears 64 = .ok (.iadd, 1) := by decide +kernel
theorem dX12_hears_65 : decode cX12_hears 65 = .ok (.invokevirtual 142, 3) := by decide +kernel
theorem dX12_hears_68 : decode cX12_hears 68 = .ok (.aload_n 0, 1) := by decide +kernel
theorem dX12_hears_69 : decode cX12_hears 69 = .ok (.bipush 20, 2) := by decide +kernel
theorem dX12_hears_71 : decode cX12_hears 71 = .ok (.iload_n 1, 1) := by decide +kernel
theorem dX12_hears_72 : decode cX12_hears 72 = .ok (.iadd, 1) := by decide +kernel
theorem dX12_hears_73 : decode cX12_hears 73 = .ok (.bipush 12, 2) := by decide +kernel
theorem dX12_hears_75 : decode cX12_hears 75 = .ok (.iload_n 1, 1) := by decide +kernel
theorem dX12_hears_76 : decode cX12_hears 76 = .ok (.iadd, 1) := by decide +kernel
theorem dX12_hears_77 : decode cX12_hears 77 = .ok (.invokevirtual 142, 3) := by decide +kernel
theorem dX12_hears_80 : decode cX12_hears 80 = .ok (.aload_n 0, 1) := by decide +kernel
theorem dX12_hears_81 : decode cX12_hears 81 = .ok (.getfield 28, 3) := by decide +kernel
theorem dX12_hears_84 : decode cX12_hears 84 = .ok (.bipush 8, 2) := by decide +kernel
theorem dX12_hears_86 : decode cX12_hears 86 = .ok (.iload_n 1, 1) := by decide +kernel
theorem dX12_hears_87 : decode cX12_hears 87 = .ok (.imul, 1) := by decide +kernel
theorem dX12_hears_88 : decode cX12_hears 88 = .ok (.iconst 2, 1) := by decide +kernel
theorem dX12_hears_89 : decode cX12_hears 89 = .ok (.iadd, 1) := by decide +kernel
theorem dX12_hears_90 : decode cX12_hears 90 = .ok (.iload_n 2, 1) := by decide +kernel
theorem dX12_hears_91 : decode cX12_hears 91 = .ok (.iastore, 1) := by decide +kernel
theorem dX12_hears_92 : decode cX12_hears 92 = .ok (.aload_n 0, 1) := by decide +kernel
theorem dX12_hears_93 : decode cX12_hears 93 = .ok (.getfield 28, 3) := by decide +kernel
theorem dX12_hears_96 : decode cX12_hears 96 = .ok (.bipush 8, 2) := by decide +kernel
theorem dX12_hears_98 : decode cX12_hears 98 = .ok (.iload_n 1, 1) := by decide +kernel
theorem dX12_hears_99 : decode cX12_hears 99 = .ok (.imul, 1) := by decide +kernel
theorem dX12_hears_100 : decode cX12_hears 100 = .ok (.iconst 3, 1) := by decide +kernel
theorem dX12_hears_101 : decode cX12_hears 101 = .ok (.iadd, 1) := by decide +kernel
theorem dX12_hears_102 : decode cX12_hears 102 = .ok (.iconst 0, 1) := by decide +kernel
theorem dX12_hears_103 : decode cX12_hears 103 = .ok (.iastore, 1) := by decide +kernel
theorem dX12_hears_104 : decode cX12_hears 104 = .ok (.return_, 1) := by decide +kernel
theorem dX12_hears_105 : decode cX12_hears 105 = .ok (.aload_n 0, 1) := by decide +kernel
theorem dX12_hears_106 : decode cX12_hears 106 = .ok (.iconst 0, 1) := by decide +kernel
theorem dX12_hears_107 : decode cX12_hears 107 = .ok (.sipush 184, 3) := by decide +kernel
theorem dX12_hears_110 : decode cX12_hears 110 = .ok (.iload_n 2, 1) := by decide +kernel
theorem dX12_hears_111 : decode cX12_hears 111 = .ok (.iadd, 1) := by decide +kernel
theorem dX12_hears_112 : decode cX12_hears 112 = .ok (.invokevirtual 97, 3) := by decide +kernel
theorem dX12_hears_115 : decode cX12_hears 115 = .ok (.aload_n 0, 1) := by decide +kernel
theorem dX12_hears_116 : decode cX12_hears 116 = .ok (.iload_n 1, 1) := by decide +kernel
theorem dX12_hears_117 : decode cX12_hears 117 = .ok (.iconst 1, 1) := by decide +kernel
theorem dX12_hears_118 : decode cX12_hears 118 = .ok (.invokevirtual 135, 3) := by decide +kernel
theorem dX12_hears_121 : decode cX12_hears 121 = .ok (.ifCond .le 11, 3) := by decide +kernel
theorem dX12_hears_124 : decode cX12_hears 124 = .ok (.aload_n 0, 1) := by decide +kernel
theorem dX12_hears_125 : decode cX12_hears 125 = .ok (.bipush 16, 2) := by decide +kernel
theorem dX12_hears_127 : decode cX12_hears 127 = .ok (.iload_n 1, 1) := by decide +kernel
theorem dX12_hears_128 : decode cX12_hears 128 = .ok (.iadd, 1) := by decide +kernel
theorem dX12_hears_129 : decode cX12_hears 129 = .ok (.invokevirtual 170, 3) := by decide +kernel
theorem dX12_hears_132 : decode cX12_hears 132 = .ok (.aload_n 0, 1) := by decide +kernel
theorem dX12_hears_133 : decode cX12_hears 133 = .ok (.iload_n 1, 1) := by decide +kernel
theorem dX12_hears_134 : decode cX12_hears 134 = .ok (.iconst 3, 1) := by decide +kernel
theorem dX12_hears_135 : decode cX12_hears 135 = .ok (.invokevirtual 135, 3) := by decide +kernel
theorem dX12_hears_138 : decode cX12_hears 138 = .ok (.ifCond .le 11, 3) := by decide +kernel
theorem dX12_hears_141 : decode cX12_hears 141 = .ok (.aload_n 0, 1) := by decide +kernel
theorem dX12_hears_142 : decode cX12_hears 142 = .ok (.bipush 20, 2) := by decide +kernel
theorem dX12_hears_144 : decode cX12_hears 144 = .ok (.iload_n 1, 1) := by decide +kernel
theorem dX12_hears_145 : decode cX12_hears 145 = .ok (.iadd, 1) := by decide +kernel
theorem dX12_hears_146 : decode cX12_hears 146 = .ok (.invokevirtual 170, 3) := by decide +kernel
theorem dX12_hears_149 : decode cX12_hears 149 = .ok (.aload_n 0, 1) := by decide +kernel
theorem dX12_hears_150 : decode cX12_hears 150 = .ok (.iload_n 1, 1) := by decide +kernel
theorem dX12_hears_151 : decode cX12_hears 151 = .ok (.iconst 0, 1) := by decide +kernel
theorem dX12_hears_152 : decode cX12_hears 152 = .ok (.invokevirtual 148, 3) := by decide +kernel
theorem dX12_hears_155 : decode cX12_hears 155 = .ok (.aload_n 0, 1) := by decide +kernel
theorem dX12_hears_156 : decode cX12_hears 156 = .ok (.iload_n 1, 1) := by decide +kernel
theorem dX12_hears_157 : decode cX12_hears 157 = .ok (.iconst 0, 1) := by decide +kernel
theorem dX12_hears_158 : decode cX12_hears 158 = .ok (.iconst 0, 1) := by decide +kernel
theorem dX12_hears_159 : decode cX12_hears 159 = .ok (.invokevirtual 151, 3) := by decide +kernel
theorem dX12_hears_162 : decode cX12_hears 162 = .ok (.aload_n 0, 1) := by decide +kernel
theorem dX12_hears_163 : decode cX12_hears 163 = .ok (.sipush 275, 3) := by decide +kernel
theorem dX12_hears_166 : decode cX12_hears 166 = .ok (.iconst 0, 1) := by decide +kernel
theorem dX12_hears_167 : decode cX12_hears 167 = .ok (.invokevirtual 101, 3) := by decide +kernel
theorem dX12_hears_170 : decode cX12_hears 170 = .ok (.aload_n 0, 1) := by decide +kernel
theorem dX12_hears_171 : decode cX12_hears 171 = .ok (.iload_n 1, 1) := by decide +kernel
theorem dX12_hears_172 : decode cX12_hears 172 = .ok (.iconst 4, 1) := by decide +kernel
theorem dX12_hears_173 : decode cX12_hears 173 = .ok (.invokevirtual 135, 3) := by decide +kernel
theorem dX12_hears_176 : decode cX12_hears 176 = .ok (.iconst 1, 1) := by decide +kernel
theorem dX12_hears_177 : decode cX12_hears 177 = .ok (.isub, 1) := by decide +kernel
theorem dX12_hears_178 : decode cX12_hears 178 = .ok (.istore_n 3, 1) := by decide +kernel
theorem dX12_hears_179 : decode cX12_hears 179 = .ok (.iload_n 3, 1) := by decide +kernel
theorem dX12_hears_180 : decode cX12_hears 180 = .ok (.ifCond .lt 22, 3) := by decide +kernel
theorem dX12_hears_183 : decode cX12_hears 183 = .ok (.aload_n 0, 1) := by decide +kernel
theorem dX12_hears_184 : decode cX12_hears 184 = .ok (.bipush 24, 2) := by decide +kernel
theorem dX12_hears_186 : decode cX12_hears 186 = .ok (.bipush 20, 2) := by decide +kernel
theorem dX12_hears_188 : decode cX12_hears 188 = .ok (.iload_n 1, 1) := by decide +kernel
theorem dX12_hears_189 : decode cX12_hears 189 = .ok (.imul, 1) := by decide +kernel
theorem dX12_hears_190 : decode cX12_hears 190 = .ok (.iadd, 1) := by decide +kernel
theorem dX12_hears_191 : decode cX12_hears 191 = .ok (.iload_n 3, 1) := by decide +kernel
theorem dX12_hears_192 : decode cX12_hears 192 = .ok (.iadd, 1) := by decide +kernel
theorem dX12_hears_193 : decode cX12_hears 193 = .ok (.invokevirtual 170, 3) := by decide +kernel
theorem dX12_hears_196 : decode cX12_hears 196 = .ok (.iinc 3 (-1), 3) := by decide +kernel
theorem dX12_hears_199 : decode cX12_hears 199 = .ok (.goto (-20), 3) := by decide +kernel
theorem dX12_hears_202 : decode cX12_hears 202 = .ok (.aload_n 0, 1) := by decide +kernel
theorem dX12_hears_203 : decode cX12_hears 203 = .ok (.iconst 0, 1) := by decide +kernel
theorem dX12_hears_204 : decode cX12_hears 204 = .ok (.sipush 275, 3) := by decide +kernel
theorem dX12_hears_207 : decode cX12_hears 207 = .ok (.invokevirtual 97, 3) := by decide +kernel
theorem dX12_hears_210 : decode cX12_hears 210 = .ok (.aload_n 0, 1) := by decide +kernel
theorem dX12_hears_211 : decode cX12_hears 211 = .ok (.iload_n 1, 1) := by decide +kernel
theorem dX12_hears_212 : decode cX12_hears 212 = .ok (.iconst 5, 1) := by decide +kernel
theorem dX12_hears_213 : decode cX12_hears 213 = .ok (.invokevirtual 135, 3) := by decide +kernel
theorem dX12_hears_216 : decode cX12_hears 216 = .ok (.iconst 1, 1) := by decide +kernel
theorem dX12_hears_217 : decode cX12_hears 217 = .ok (.isub, 1) := by decide +kernel
theorem dX12_hears_218 : decode cX12_hears 218 = .ok (.istore_n 3, 1) := by decide +kernel
theorem dX12_hears_219 : decode cX12_hears 219 = .ok (.iload_n 3, 1) := by decide +kernel
theorem dX12_hears_220 : decode cX12_hears 220 = .ok (.ifCond .lt 22, 3) := by decide +kernel
theorem dX12_hears_223 : decode cX12_hears 223 = .ok (.aload_n 0, 1) := by decide +kernel
theorem dX12_hears_224 : decode cX12_hears 224 = .ok (.bipush 104, 2) := by decide +kernel
theorem dX12_hears_226 : decode cX12_hears 226 = .ok (.bipush 20, 2) := by decide +kernel
theorem dX12_hears_228 : decode cX12_hears 228 = .ok (.iload_n 1, 1) := by decide +kernel
theorem dX12_hears_229 : decode cX12_hears 229 = .ok (.imul, 1) := by decide +kernel
theorem dX12_hears_230 : decode cX12_hears 230 = .ok (.iadd, 1) := by decide +kernel
theorem dX12_hears_231 : decode cX12_hears 231 = .ok (.iload_n 3, 1) := by decide +kernel
theorem dX12_hears_232 : decode cX12_hears 232 = .ok (.iadd, 1) := by decide +kernel
theorem dX12_hears_233 : decode cX12_hears 233 = .ok (.invokevirtual 170, 3) := by decide +kernel
theorem dX12_hears_236 : decode cX12_hears 236 = .ok (.iinc 3 (-1), 3) := by decide +kernel
theorem dX12_hears_239 : decode cX12_hears 239 = .ok (.goto (-20), 3) := by decide +kernel
theorem dX12_hears_242 : decode cX12_hears 242 = .ok (.return_, 1) := by decide +kernel
theorem dX11_whyNotAgain_0 : decode cX11_whyNotAgain 0 = .ok (.aload_n 1, 1) := by decide +kernel
theorem dX11_whyNotAgain_1 : decode cX11_whyNotAgain 1 = .ok (.invokevirtual 271, 3) := by decide +kernel
theorem dX11_whyNotAgain_4 : decode cX11_whyNotAgain 4 = .ok (.astore_n 2, 1) := by decide +kernel
theorem dX11_whyNotAgain_5 : decode cX11_whyNotAgain 5 = .ok (.aload_n 2, 1) := by decide +kernel
theorem dX11_whyNotAgain_6 : decode cX11_whyNotAgain 6 = .ok (.ifnonnull 6, 3) := by decide +kernel
theorem dX11_whyNotAgain_9 : decode cX11_whyNotAgain 9 = .ok (.bipush (-5), 2) := by decide +kernel
theorem dX11_whyNotAgain_11 : decode cX11_whyNotAgain 11 = .ok (.ireturn, 1) := by decide +kernel
theorem dX11_whyNotAgain_12 : decode cX11_whyNotAgain 12 = .ok (.aload_n 0, 1) := by decide +kernel
theorem dX11_whyNotAgain_13 : decode cX11_whyNotAgain 13 = .ok (.aload_n 2, 1) := by decide +kernel
theorem dX11_whyNotAgain_14 : decode cX11_whyNotAgain 14 = .ok (.invokevirtual 249, 3) := by decide +kernel
theorem dX11_whyNotAgain_17 : decode cX11_whyNotAgain 17 = .ok (.ifCond .eq 8, 3) := by decide +kernel
theorem dX11_whyNotAgain_20 : decode cX11_whyNotAgain 20 = .ok (.bipush (-6), 2) := by decide +kernel
theorem dX11_whyNotAgain_22 : decode cX11_whyNotAgain 22 = .ok (.goto 4, 3) := by decide +kernel
theorem dX11_whyNotAgain_25 : decode cX11_whyNotAgain 25 = .ok (.iconst 0, 1) := by decide +kernel
theorem dX11_whyNotAgain_26 : decode cX11_whyNotAgain 26 = .ok (.ireturn, 1) := by decide +kernel
theorem dX0_isUnserved_0 : decode cX0_isUnserved 0 = .ok (.aload_n 0, 1) := by decide +kernel
theorem dX0_isUnserved_1 : decode cX0_isUnserved 1 = .ok (.getfield 43, 3) := by decide +kernel
theorem dX0_isUnserved_4 : decode cX0_isUnserved 4 = .ok (.ifCond .eq 14, 3) := by decide +kernel
theorem dX0_isUnserved_7 : decode cX0_isUnserved 7 = .ok (.aload_n 0, 1) := by decide +kernel
theorem dX0_isUnserved_8 : decode cX0_isUnserved 8 = .ok (.getfield 47, 3) := by decide +kernel
theorem dX0_isUnserved_11 : decode cX0_isUnserved 11 = .ok (.ifCond .ne 7, 3) := by decide +kernel
theorem dX0_isUnserved_14 : decode cX0_isUnserved 14 = .ok (.iconst 1, 1) := by decide +kernel
theorem dX0_isUnserved_15 : decode cX0_isUnserved 15 = .ok (.goto 4, 3) := by decide +kernel
theorem dX0_isUnserved_18 : decode cX0_isUnserved 18 = .ok (.iconst 0, 1) := by decide +kernel
theorem dX0_isUnserved_19 : decode cX0_isUnserved 19 = .ok (.ireturn, 1) := by decide +kernel
theorem dX11_draftInsert_0 : decode cX11_draftInsert 0 = .ok (.aload_n 0, 1) := by decide +kernel
theorem dX11_draftInsert_1 : decode cX11_draftInsert 1 = .ok (.getfield 59, 3) := by decide +kernel
theorem dX11_draftInsert_4 : decode cX11_draftInsert 4 = .ok (.invokevirtual 295, 3) := by decide +kernel
theorem dX11_draftInsert_7 : decode cX11_draftInsert 7 = .ok (.aload_n 0, 1) := by decide +kernel
theorem dX11_draftInsert_8 : decode cX11_draftInsert 8 = .ok (.getfield 59, 3) := by decide +kernel
theorem dX11_draftInsert_11 : decode cX11_draftInsert 11 = .ok (.iconst 3, 1) := by decide +kernel
theorem dX11_draftInsert_12 : decode cX11_draftInsert 12 = .ok (.iconst 0, 1) := by decide +kernel
theorem dX11_draftInsert_13 : decode cX11_draftInsert 13 = .ok (.iconst 0, 1) := by decide +kernel
theorem dX11_draftInsert_14 : decode cX11_draftInsert 14 = .ok (.lload_n 2, 1) := by decide +kernel
theorem dX11_draftInsert_15 : decode cX11_draftInsert 15 = .ok (.invokevirtual 298, 3) := by decide +kernel
theorem dX11_draftInsert_18 : decode cX11_draftInsert 18 = .ok (.aload_n 0, 1) := by decide +kernel
theorem dX11_draftInsert_19 : decode cX11_draftInsert 19 = .ok (.getfield 59, 3) := by decide +kernel
theorem dX11_draftInsert_22 : decode cX11_draftInsert 22 = .ok (.iload 4, 2) := by decide +kernel
theorem dX11_draftInsert_24 : decode cX11_draftInsert 24 = .ok (.invokevirtual 302, 3) := by decide +kernel
theorem dX11_draftInsert_27 : decode cX11_draftInsert 27 = .ok (.aload_n 0, 1) := by decide +kernel
theorem dX11_draftInsert_28 : decode cX11_draftInsert 28 = .ok (.getfield 59, 3) := by decide +kernel
theorem dX11_draftInsert_31 : decode cX11_draftInsert 31 = .ok (.iconst 3, 1) := by decide +kernel
theorem dX11_draftInsert_32 : decode cX11_draftInsert 32 = .ok (.iconst 0, 1) := by decide +kernel
theorem dX11_draftInsert_33 : decode cX11_draftInsert 33 = .ok (.iconst 0, 1) := by decide +kernel
theorem dX11_draftInsert_34 : decode cX11_draftInsert 34 = .ok (.aload_n 1, 1) := by decide +kernel
theorem dX11_draftInsert_35 : decode cX11_draftInsert 35 = .ok (.getfield 234, 3) := by decide +kernel
theorem dX11_draftInsert_38 : decode cX11_draftInsert 38 = .ok (.getfield 190, 3) := by decide +kernel
theorem dX11_draftInsert_41 : decode cX11_draftInsert 41 = .ok (.lload_n 2, 1) := by decide +kernel
theorem dX11_draftInsert_42 : decode cX11_draftInsert 42 = .ok (.lsub, 1) := by decide +kernel
theorem dX11_draftInsert_43 : decode cX11_draftInsert 43 = .ok (.invokevirtual 298, 3) := by decide +kernel
theorem dX11_draftInsert_46 : decode cX11_draftInsert 46 = .ok (.return_, 1) := by decide +kernel
theorem dX11_draftOver_0 : decode cX11_draftOver 0 = .ok (.aload_n 0, 1) := by decide +kernel
theorem dX11_draftOver_1 : decode cX11_draftOver 1 = .ok (.getfield 59, 3) := by decide +kernel
theorem dX11_draftOver_4 : decode cX11_draftOver 4 = .ok (.invokevirtual 295, 3) := by decide +kernel
theorem dX11_draftOver_7 : decode cX11_draftOver 7 = .ok (.aload_n 0, 1) := by decide +kernel
theorem dX11_draftOver_8 : decode cX11_draftOver 8 = .ok (.getfield 59, 3) := by decide +kernel
theorem dX11_draftOver_11 : decode cX11_draftOver 11 = .ok (.iconst 3, 1) := by decide +kernel
theorem dX11_draftOver_12 : decode cX11_draftOver 12 = .ok (.iconst 0, 1) := by decide +kernel
theorem dX11_draftOver_13 : decode cX11_draftOver 13 = .ok (.iconst 0, 1) := by decide +kernel
theorem dX11_draftOver_14 : decode cX11_draftOver 14 = .ok (.lload_n 2, 1) := by decide +kernel
theorem dX11_draftOver_15 : decode cX11_draftOver 15 = .ok (.invokevirtual 298, 3) := by decide +kernel
theorem dX11_draftOver_18 : decode cX11_draftOver 18 = .ok (.aload_n 0, 1) := by decide +kernel
theorem dX11_draftOver_19 : decode cX11_draftOver 19 = .ok (.getfield 59, 3) := by decide +kernel
theorem dX11_draftOver_22 : decode cX11_draftOver 22 = .ok (.iload 5, 2) := by decide +kernel
theorem dX11_draftOver_24 : decode cX11_draftOver 24 = .ok (.iload 6, 2) := by decide +kernel
theorem dX11_draftOver_26 : decode cX11_draftOver 26 = .ok (.iload 7, 2) := by decide +kernel
theorem dX11_draftOver_28 : decode cX11_draftOver 28 = .ok (.iload 4, 2) := by decide +kernel
theorem dX11_draftOver_30 : decode cX11_draftOver 30 = .ok (.i2l, 1) := by decide +kernel
theorem dX11_draftOver_31 : decode cX11_draftOver 31 = .ok (.invokevirtual 298, 3) := by decide +kernel
theorem dX11_draftOver_34 : decode cX11_draftOver 34 = .ok (.aload_n 0, 1) := by decide +kernel
theorem dX11_draftOver_35 : decode cX11_draftOver 35 = .ok (.getfield 59, 3) := by decide +kernel
theorem dX11_draftOver_38 : decode cX11_draftOver 38 = .ok (.iconst 3, 1) := by decide +kernel
theorem dX11_draftOver_39 : decode cX11_draftOver 39 = .ok (.iconst 0, 1) := by decide +kernel
theorem dX11_draftOver_40 : decode cX11_draftOver 40 = .ok (.iconst 0, 1) := by decide +kernel
theorem dX11_draftOver_41 : decode cX11_draftOver 41 = .ok (.aload_n 1, 1) := by decide +kernel
theorem dX11_draftOver_42 : decode cX11_draftOver 42 = .ok (.getfield 234, 3) := by decide +kernel
theorem dX11_draftOver_45 : decode cX11_draftOver 45 = .ok (.getfield 190, 3) := by decide +kernel
theorem dX11_draftOver_48 : decode cX11_draftOver 48 = .ok (.lload_n 2, 1) := by decide +kernel
theorem dX11_draftOver_49 : decode cX11_draftOver 49 = .ok (.lsub, 1) := by decide +kernel
theorem dX11_draftOver_50 : decode cX11_draftOver 50 = .ok (.iload 4, 2) := by decide +kernel
theorem dX11_draftOver_52 : decode cX11_draftOver 52 = .ok (.i2l, 1) := by decide +kernel
theorem dX11_draftOver_53 : decode cX11_draftOver 53 = .ok (.lsub, 1) := by decide +kernel
theorem dX11_draftOver_54 : decode cX11_draftOver 54 = .ok (.invokevirtual 298, 3) := by decide +kernel
theorem dX11_draftOver_57 : decode cX11_draftOver 57 = .ok (.return_, 1) := by decide +kernel
theorem dX2_fresh_0 : decode cX2_fresh 0 = .ok (.aload_n 0, 1) := by decide +kernel
theorem dX2_fresh_1 : decode cX2_fresh 1 = .ok (.getfield 21, 3) := by decide +kernel
theorem dX2_fresh_4 : decode cX2_fresh 4 = .ok (.aload_n 0, 1) := by decide +kernel
theorem dX2_fresh_5 : decode cX2_fresh 5 = .ok (.getfield 11, 3) := by decide +kernel
theorem dX2_fresh_8 : decode cX2_fresh 8 = .ok (.arraylength, 1) := by decide +kernel
theorem dX2_fresh_9 : decode cX2_fresh 9 = .ok (.if_icmp .ge 16, 3) := by decide +kernel
theorem dX2_fresh_12 : decode cX2_fresh 12 = .ok (.aload_n 0, 1) := by decide +kernel
theorem dX2_fresh_13 : decode cX2_fresh 13 = .ok (.dup, 1) := by decide +kernel
theorem dX2_fresh_14 : decode cX2_fresh 14 = .ok (.getfield 21, 3) := by decide +kernel
theorem dX2_fresh_17 : decode cX2_fresh 17 = .ok (.iconst 1, 1) := by decide +kernel
theorem dX2_fresh_18 : decode cX2_fresh 18 = .ok (.iadd, 1) := by decide +kernel
theorem dX2_fresh_19 : decode cX2_fresh 19 = .ok (.putfield 21, 3) := by decide +kernel
theorem dX2_fresh_22 : decode cX2_fresh 22 = .ok (.goto 7, 3) := by decide +kernel
theorem dX2_fresh_25 : decode cX2_fresh 25 = .ok (.aload_n 0, 1) := by decide +kernel
theorem dX2_fresh_26 : decode cX2_fresh 26 = .ok (.invokevirtual 29, 3) := by decide +kernel
theorem dX2_fresh_29 : decode cX2_fresh 29 = .ok (.aload_n 0, 1) := by decide +kernel
theorem dX2_fresh_30 : decode cX2_fresh 30 = .ok (.getfield 21, 3) := by decide +kernel
theorem dX2_fresh_33 : decode cX2_fresh 33 = .ok (.iconst 1, 1) := by decide +kernel
theorem dX2_fresh_34 : decode cX2_fresh 34 = .ok (.isub, 1) := by decide +kernel
theorem dX2_fresh_35 : decode cX2_fresh 35 = .ok (.istore_n 1, 1) := by decide +kernel
theorem dX2_fresh_36 : decode cX2_fresh 36 = .ok (.iload_n 1, 1) := by decide +kernel
theorem dX2_fresh_37 : decode cX2_fresh 37 = .ok (.ifCond .lt 12, 3) := by decide +kernel
theorem dX2_fresh_40 : decode cX2_fresh 40 = .ok (.iload_n 1, 1) := by decide +kernel
theorem dX2_fresh_41 : decode cX2_fresh 41 = .ok (.aload_n 0, 1) := by decide +kernel
theorem dX2_fresh_42 : decode cX2_fresh 42 = .ok (.getfield 11, 3) := by decide +kernel
theorem dX2_fresh_45 : decode cX2_fresh 45 = .ok (.arraylength, 1) := by decide +kernel
theorem dX2_fresh_46 : decode cX2_fresh 46 = .ok (.if_icmp .lt 11, 3) := by decide +kernel
theorem dX2_fresh_49 : decode cX2_fresh 49 = .ok (.aload_n 0, 1) := by decide +kernel
theorem dX2_fresh_50 : decode cX2_fresh 50 = .ok (.getfield 17, 3) := by decide +kernel
theorem dX2_fresh_53 : decode cX2_fresh 53 = .ok (.invokevirtual 32, 3) := by decide +kernel
theorem dX2_fresh_56 : decode cX2_fresh 56 = .ok (.areturn, 1) := by decide +kernel
theorem dX2_fresh_57 : decode cX2_fresh 57 = .ok (.aload_n 0, 1) := by decide +kernel
theorem dX2_fresh_58 : decode cX2_fresh 58 = .ok (.getfield 11, 3) := by decide +kernel
theorem dX2_fresh_61 : decode cX2_fresh 61 = .ok (.iload_n 1, 1) := by decide +kernel
theorem dX2_fresh_62 : decode cX2_fresh 62 = .ok (.aaload, 1) := by decide +kernel
theorem dX2_fresh_63 : decode cX2_fresh 63 = .ok (.ifnonnull 16, 3) := by decide +kernel
theorem dX2_fresh_66 : decode cX2_fresh 66 = .ok (.aload_n 0, 1) := by decide +kernel
theorem dX2_fresh_67 : decode cX2_fresh 67 = .ok (.getfield 11, 3) := by decide +kernel
theorem dX2_fresh_70 : decode cX2_fresh 70 = .ok (.iload_n 1, 1) := by decide +kernel
theorem dX2_fresh_71 : decode cX2_fresh 71 = .ok (.aload_n 0, 1) := by decide +kernel
theorem dX2_fresh_72 : decode cX2_fresh 72 = .ok (.getfield 17, 3) := by decide +kernel
theorem dX2_fresh_75 : decode cX2_fresh 75 = .ok (.invokevirtual 32, 3) := by decide +kernel
theorem dX2_fresh_78 : decode cX2_fresh 78 = .ok (.aastore, 1) := by decide +kernel
theorem dX2_fresh_79 : decode cX2_fresh 79 = .ok (.aload_n 0, 1) := by decide +kernel
theorem dX2_fresh_80 : decode cX2_fresh 80 = .ok (.getfield 11, 3) := by decide +kernel
theorem dX2_fresh_83 : decode cX2_fresh 83 = .ok (.iload_n 1, 1) := by decide +kernel
theorem dX2_fresh_84 : decode cX2_fresh 84 = .ok (.aaload, 1) := by decide +kernel
theorem dX2_fresh_85 : decode cX2_fresh 85 = .ok (.areturn, 1) := by decide +kernel
theorem dX4_turn_0 : decode cX4_turn 0 = .ok (.aload_n 3, 1) := by decide +kernel
theorem dX4_turn_1 : decode cX4_turn 1 = .ok (.invokevirtual 44, 3) := by decide +kernel
theorem dX4_turn_4 : decode cX4_turn 4 = .ok (.lconst 0, 1) := by decide +kernel
theorem dX4_turn_5 : decode cX4_turn 5 = .ok (.lstore 4, 2) := by decide +kernel
theorem dX4_turn_7 : decode cX4_turn 7 = .ok (.iconst 0, 1) := by decide +kernel
theorem dX4_turn_8 : decode cX4_turn 8 = .ok (.istore 6, 2) := by decide +kernel
theorem dX4_turn_10 : decode cX4_turn 10 = .ok (.iload 6, 2) := by decide +kernel
theorem dX4_turn_12 : decode cX4_turn 12 = .ok (.aload_n 1, 1) := by decide +kernel
theorem dX4_turn_13 : decode cX4_turn 13 = .ok (.invokevirtual 53, 3) := by decide +kernel
theorem dX4_turn_16 : decode cX4_turn 16 = .ok (.if_icmp .ge 131, 3) := by decide +kernel
theorem dX4_turn_19 : decode cX4_turn 19 = .ok (.aload_n 0, 1) := by decide +kernel
theorem dX4_turn_20 : decode cX4_turn 20 = .ok (.getfield 21, 3) := by decide +kernel
theorem dX4_turn_23 : decode cX4_turn 23 = .ok (.invokevirtual 57, 3) := by decide +kernel
theorem dX4_turn_26 : decode cX4_turn 26 = .ok (.aload_n 2, 1) := by decide +kernel
theorem dX4_turn_27 : decode cX4_turn 27 = .ok (.iconst 0, 1) := by decide +kernel
theorem dX4_turn_28 : decode cX4_turn 28 = .ok (.invokevirtual 106, 3) := by decide +kernel
theorem dX4_turn_31 : decode cX4_turn 31 = .ok (.istore 7, 2) := by decide +kernel
theorem dX4_turn_33 : decode cX4_turn 33 = .ok (.aload_n 1, 1) := by decide +kernel
theorem dX4_turn_34 : decode cX4_turn 34 = .ok (.iload 6, 2) := by decide +kernel
theorem dX4_turn_36 : decode cX4_turn 36 = .ok (.invokevirtual 110, 3) := by decide +kernel
theorem dX4_turn_39 : decode cX4_turn 39 = .ok (.istore 8, 2) := by decide +kernel
theorem dX4_turn_41 : decode cX4_turn 41 = .ok (.aload_n 1, 1) := by decide +kernel
theorem dX4_turn_42 : decode cX4_turn 42 = .ok (.iload 6, 2) := by decide +kernel
theorem dX4_turn_44 : decode cX4_turn 44 = .ok (.invokevirtual 113, 3) := by decide +kernel
theorem dX4_turn_47 : decode cX4_turn 47 = .ok (.lstore 9, 2) := by decide +kernel
theorem dX4_turn_49 : decode cX4_turn 49 = .ok (.iload 8, 2) := by decide +kernel
theorem dX4_turn_51 : decode cX4_turn 51 = .ok (.iconst 1, 1) := by decide +kernel
theorem dX4_turn_52 : decode cX4_turn 52 = .ok (.if_icmp .ne 15, 3) := by decide +kernel
theorem dX4_turn_55 : decode cX4_turn 55 = .ok (.aload_n 3, 1) := by decide +kernel
theorem dX4_turn_56 : decode cX4_turn 56 = .ok (.iconst 4, 1) := by decide +kernel
theorem dX4_turn_57 : decode cX4_turn 57 = .ok (.iconst 0, 1) := by decide +kernel
theorem dX4_turn_58 : decode cX4_turn 58 = .ok (.iconst 0, 1) := by decide +kernel
theorem dX4_turn_59 : decode cX4_turn 59 = .ok (.lload 9, 2) := by decide +kernel
theorem dX4_turn_61 : decode cX4_turn 61 = .ok (.invokevirtual 68, 3) := by decide +kernel
theorem dX4_turn_64 : decode cX4_turn 64 = .ok (.goto 77, 3) := by decide +kernel
theorem dX4_turn_67 : decode cX4_turn 67 = .ok (.iload 8, 2) := by decide +kernel
theorem dX4_turn_69 : decode cX4_turn 69 = .ok (.iconst 4, 1) := by decide +kernel
theorem dX4_turn_70 : decode cX4_turn 70 = .ok (.if_icmp .ne 23, 3) := by decide +kernel
theorem dX4_turn_73 : decode cX4_turn 73 = .ok (.aload_n 3, 1) := by decide +kernel
theorem dX4_turn_74 : decode cX4_turn 74 = .ok (.aload_n 0, 1) := by decide +kernel
theorem dX4_turn_75 : decode cX4_turn 75 = .ok (.getfield 21, 3) := by decide +kernel
theorem dX4_turn_78 : decode cX4_turn 78 = .ok (.iload 7, 2) := by decide +kernel
theorem dX4_turn_80 : decode cX4_turn 80 = .ok (.lload 4, 2) := by decide +kernel
theorem dX4_turn_82 : decode cX4_turn 82 = .ok (.lload 9, 2) := by decide +kernel
theorem dX4_turn_84 : decode cX4_turn 84 = .ok (.invokevirtual 92, 3) := by decide +kernel
theorem dX4_turn_87 : decode cX4_turn 87 = .ok (.invokevirtual 79, 3) := by decide +kernel
theorem dX4_turn_90 : decode cX4_turn 90 = .ok (.goto 44, 3) := by decide +kernel
theorem dX4_turn_93 : decode cX4_turn 93 = .ok (.iload 8, 2) := by decide +kernel
theorem dX4_turn_95 : decode cX4_turn 95 = .ok (.iconst 3, 1) := by decide +kernel
theorem dX4_turn_96 : decode cX4_turn 96 = .ok (.if_icmp .ne 15, 3) := by decide +kernel
theorem dX4_turn_99 : decode cX4_turn 99 = .ok (.aload_n 3, 1) := by decide +kernel
theorem dX4_turn_100 : decode cX4_turn 100 = .ok (.iconst 3, 1) := by decide +kernel
theorem dX4_turn_101 : decode cX4_turn 101 = .ok (.iconst 0, 1) := by decide +kernel
theorem dX4_turn_102 : decode cX4_turn 102 = .ok (.iconst 0, 1) := by decide +kernel
theorem dX4_turn_103 : decode cX4_turn 103 = .ok (.lload 9, 2) := by decide +kernel
theorem dX4_turn_105 : decode cX4_turn 105 = .ok (.invokevirtual 68, 3) := by decide +kernel
theorem dX4_turn_108 : decode cX4_turn 108 = .ok (.goto 26, 3) := by decide +kernel
theorem dX4_turn_111 : decode cX4_turn 111 = .ok (.aload_n 0, 1) := by decide +kernel
theorem dX4_turn_112 : decode cX4_turn 112 = .ok (.iload 7, 2) := by decide +kernel
theorem dX4_turn_114 : decode cX4_turn 114 = .ok (.lload 4, 2) := by decide +kernel
theorem dX4_turn_116 : decode cX4_turn 116 = .ok (.lload 9, 2) := by decide +kernel
theorem dX4_turn_118 : decode cX4_turn 118 = .ok (.aload_n 1, 1) := by decide +kernel
theorem dX4_turn_119 : decode cX4_turn 119 = .ok (.iload 6, 2) := by decide +kernel
theorem dX4_turn_121 : decode cX4_turn 121 = .ok (.invokevirtual 117, 3) := by decide +kernel
theorem dX4_turn_124 : decode cX4_turn 124 = .ok (.aload_n 1, 1) := by decide +kernel
theorem dX4_turn_125 : decode cX4_turn 125 = .ok (.iload 6, 2) := by decide +kernel
theorem dX4_turn_127 : decode cX4_turn 127 = .ok (.invokevirtual 120, 3) := by decide +kernel
theorem dX4_turn_130 : decode cX4_turn 130 = .ok (.aload_n 3, 1) := by decide +kernel
theorem dX4_turn_131 : decode cX4_turn 131 = .ok (.invokevirtual 123, 3) := by decide +kernel
theorem dX4_turn_134 : decode cX4_turn 134 = .ok (.lload 4, 2) := by decide +kernel
theorem dX4_turn_136 : decode cX4_turn 136 = .ok (.lload 9, 2) := by decide +kernel
theorem dX4_turn_138 : decode cX4_turn 138 = .ok (.ladd, 1) := by decide +kernel
theorem dX4_turn_139 : decode cX4_turn 139 = .ok (.lstore 4, 2) := by decide +kernel
theorem dX4_turn_141 : decode cX4_turn 141 = .ok (.iinc 6 1, 3) := by decide +kernel
theorem dX4_turn_144 : decode cX4_turn 144 = .ok (.goto (-134), 3) := by decide +kernel
theorem dX4_turn_147 : decode cX4_turn 147 = .ok (.return_, 1) := by decide +kernel
theorem dX2_clear_0 : decode cX2_clear 0 = .ok (.aload_n 0, 1) := by decide +kernel
theorem dX2_clear_1 : decode cX2_clear 1 = .ok (.iconst 0, 1) := by decide +kernel
theorem dX2_clear_2 : decode cX2_clear 2 = .ok (.putfield 21, 3) := by decide +kernel
theorem dX2_clear_5 : decode cX2_clear 5 = .ok (.return_, 1) := by decide +kernel
theorem dX0_change_0 : decode cX0_change 0 = .ok (.aload_n 3, 1) := by decide +kernel
theorem dX0_change_1 : decode cX0_change 1 = .ok (.aload_n 0, 1) := by decide +kernel
theorem dX0_change_2 : decode cX0_change 2 = .ok (.getfield 21, 3) := by decide +kernel
theorem dX0_change_5 : decode cX0_change 5 = .ok (.aload_n 1, 1) := by decide +kernel
theorem dX0_change_6 : decode cX0_change 6 = .ok (.aload_n 3, 1) := by decide +kernel
theorem dX0_change_7 : decode cX0_change 7 = .ok (.getfield 87, 3) := by decide +kernel
theorem dX0_change_10 : decode cX0_change 10 = .ok (.invokevirtual 90, 3) := by decide +kernel
theorem dX0_change_13 : decode cX0_change 13 = .ok (.aload_n 0, 1) := by decide +kernel
theorem dX0_change_14 : decode cX0_change 14 = .ok (.getfield 21, 3) := by decide +kernel
theorem dX0_change_17 : decode cX0_change 17 = .ok (.aload_n 3, 1) := by decide +kernel
theorem dX0_change_18 : decode cX0_change 18 = .ok (.getfield 87, 3) := by decide +kernel
theorem dX0_change_21 : decode cX0_change 21 = .ok (.invokevirtual 93, 3) := by decide +kernel
theorem dX0_change_24 : decode cX0_change 24 = .ok (.aload_n 0, 1) := by decide +kernel
theorem dX0_change_25 : decode cX0_change 25 = .ok (.aload_n 1, 1) := by decide +kernel
theorem dX0_change_26 : decode cX0_change 26 = .ok (.aload_n 0, 1) := by decide +kernel
theorem dX0_change_27 : decode cX0_change 27 = .ok (.getfield 97, 3) := by decide +kernel
theorem dX0_change_30 : decode cX0_change 30 = .ok (.iload_n 2, 1) := by decide +kernel
theorem dX0_change_31 : decode cX0_change 31 = .ok (.invokevirtual 100, 3) := by decide +kernel
theorem dX0_change_34 : decode cX0_change 34 = .ok (.putfield 97, 3) := by decide +kernel
theorem dX0_change_37 : decode cX0_change 37 = .ok (.aload_n 0, 1) := by decide +kernel
theorem dX0_change_38 : decode cX0_change 38 = .ok (.aload_n 1, 1) := by decide +kernel
theorem dX0_change_39 : decode cX0_change 39 = .ok (.aload_n 0, 1) := by decide +kernel
theorem dX0_change_40 : decode cX0_change 40 = .ok (.getfield 104, 3) := by decide +kernel
theorem dX0_change_43 : decode cX0_change 43 = .ok (.iload_n 2, 1) := by decide +kernel
theorem dX0_change_44 : decode cX0_change 44 = .ok (.invokevirtual 100, 3) := by decide +kernel
theorem dX0_change_47 : decode cX0_change 47 = .ok (.putfield 104, 3) := by decide +kernel
theorem dX0_change_50 : decode cX0_change 50 = .ok (.return_, 1) := by decide +kernel
theorem dX0_send_0 : decode cX0_send 0 = .ok (.aload_n 0, 1) := by decide +kernel
theorem dX0_send_1 : decode cX0_send 1 = .ok (.getfield 43, 3) := by decide +kernel
theorem dX0_send_4 : decode cX0_send 4 = .ok (.ifCond .ne 24, 3) := by decide +kernel
theorem dX0_send_7 : decode cX0_send 7 = .ok (.aload_n 0, 1) := by decide +kernel
theorem dX0_send_8 : decode cX0_send 8 = .ok (.getfield 25, 3) := by decide +kernel
theorem dX0_send_11 : decode cX0_send 11 = .ok (.aload_n 1, 1) := by decide +kernel
theorem dX0_send_12 : decode cX0_send 12 = .ok (.invokevirtual 107, 3) := by decide +kernel
theorem dX0_send_15 : decode cX0_send 15 = .ok (.aload_n 0, 1) := by decide +kernel
theorem dX0_send_16 : decode cX0_send 16 = .ok (.iconst 1, 1) := by decide +kernel
theorem dX0_send_17 : decode cX0_send 17 = .ok (.putfield 43, 3) := by decide +kernel
theorem dX0_send_20 : decode cX0_send 20 = .ok (.aload_n 0, 1) := by decide +kernel
theorem dX0_send_21 : decode cX0_send 21 = .ok (.iconst 0, 1) := by decide +kernel
theorem dX0_send_22 : decode cX0_send 22 = .ok (.putfield 47, 3) := by decide +kernel
theorem dX0_send_25 : decode cX0_send 25 = .ok (.goto 50, 3) := by decide +kernel
theorem dX0_send_28 : decode cX0_send 28 = .ok (.aload_n 0, 1) := by decide +kernel
theorem dX0_send_29 : decode cX0_send 29 = .ok (.getfield 58, 3) := by decide +kernel
theorem dX0_send_32 : decode cX0_send 32 = .ok (.ifCond .ne 19, 3) := by decide +kernel
theorem dX0_send_35 : decode cX0_send 35 = .ok (.aload_n 0, 1) := by decide +kernel
theorem dX0_send_36 : decode cX0_send 36 = .ok (.getfield 28, 3) := by decide +kernel
theorem dX0_send_39 : decode cX0_send 39 = .ok (.aload_n 1, 1) := by decide +kernel
theorem dX0_send_40 : decode cX0_send 40 = .ok (.invokevirtual 107, 3) := by decide +kernel
theorem dX0_send_43 : decode cX0_send 43 = .ok (.aload_n 0, 1) := by decide +kernel
theorem dX0_send_44 : decode cX0_send 44 = .ok (.iconst 1, 1) := by decide +kernel
theorem dX0_send_45 : decode cX0_send 45 = .ok (.putfield 58, 3) := by decide +kernel
theorem dX0_send_48 : decode cX0_send 48 = .ok (.goto 27, 3) := by decide +kernel
theorem dX0_send_51 : decode cX0_send 51 = .ok (.aload_n 2, 1) := by decide +kernel
theorem dX0_send_52 : decode cX0_send 52 = .ok (.aload_n 0, 1) := by decide +kernel
theorem dX0_send_53 : decode cX0_send 53 = .ok (.getfield 28, 3) := by decide +kernel
theorem dX0_send_56 : decode cX0_send 56 = .ok (.aload_n 1, 1) := by decide +kernel
theorem dX0_send_57 : decode cX0_send 57 = .ok (.aload_n 2, 1) := by decide +kernel
theorem dX0_send_58 : decode cX0_send 58 = .ok (.getfield 87, 3) := by decide +kernel
theorem dX0_send_61 : decode cX0_send 61 = .ok (.invokevirtual 90, 3) := by decide +kernel
theorem dX0_send_64 : decode cX0_send 64 = .ok (.aload_n 0, 1) := by decide +kernel
theorem dX0_send_65 : decode cX0_send 65 = .ok (.getfield 28, 3) := by decide +kernel
theorem dX0_send_68 : decode cX0_send 68 = .ok (.aload_n 2, 1) := by decide +kernel
theorem dX0_send_69 : decode cX0_send 69 = .ok (.getfield 87, 3) := by decide +kernel
theorem dX0_send_72 : decode cX0_send 72 = .ok (.invokevirtual 93, 3) := by decide +kernel
theorem dX0_send_75 : decode cX0_send 75 = .ok (.return_, 1) := by decide +kernel
theorem dX2_latest_0 : decode cX2_latest 0 = .ok (.aload_n 0, 1) := by decide +kernel
theorem dX2_latest_1 : decode cX2_latest 1 = .ok (.aload_n 0, 1) := by decide +kernel
theorem dX2_latest_2 : decode cX2_latest 2 = .ok (.getfield 21, 3) := by decide +kernel
theorem dX2_latest_5 : decode cX2_latest 5 = .ok (.iconst 1, 1) := by decide +kernel
theorem dX2_latest_6 : decode cX2_latest 6 = .ok (.isub, 1) := by decide +kernel
theorem dX2_latest_7 : decode cX2_latest 7 = .ok (.invokevirtual 25, 3) := by decide +kernel
theorem dX2_latest_10 : decode cX2_latest 10 = .ok (.areturn, 1) := by decide +kernel
theorem dX2_drop_0 : decode cX2_drop 0 = .ok (.aload_n 0, 1) := by decide +kernel
theorem dX2_drop_1 : decode cX2_drop 1 = .ok (.getfield 21, 3) := by decide +kernel
theorem dX2_drop_4 : decode cX2_drop 4 = .ok (.ifCond .le 13, 3) := by decide +kernel
theorem dX2_drop_7 : decode cX2_drop 7 = .ok (.aload_n 0, 1) := by decide +kernel
theorem dX2_drop_8 : decode cX2_drop 8 = .ok (.dup, 1) := by decide +kernel
theorem dX2_drop_9 : decode cX2_drop 9 = .ok (.getfield 21, 3) := by decide +kernel
theorem dX2_drop_12 : decode cX2_drop 12 = .ok (.iconst 1, 1) := by decide +kernel
theorem dX2_drop_13 : decode cX2_drop 13 = .ok (.isub, 1) := by decide +kernel
theorem dX2_drop_14 : decode cX2_drop 14 = .ok (.putfield 21, 3) := by decide +kernel
theorem dX2_drop_17 : decode cX2_drop 17 = .ok (.return_, 1) := by decide +kernel
theorem dX6_slot_0 : decode cX6_slot 0 = .ok (.iload_n 1, 1) := by decide +kernel
theorem dX6_slot_1 : decode cX6_slot 1 = .ok (.ifCond .lt 12, 3) := by decide +kernel
theorem dX6_slot_4 : decode cX6_slot 4 = .ok (.iload_n 1, 1) := by decide +kernel
theorem dX6_slot_5 : decode cX6_slot 5 = .ok (.aload_n 0, 1) := by decide +kernel
theorem dX6_slot_6 : decode cX6_slot 6 = .ok (.getfield 11, 3) := by decide +kernel
theorem dX6_slot_9 : decode cX6_slot 9 = .ok (.arraylength, 1) := by decide +kernel
theorem dX6_slot_10 : decode cX6_slot 10 = .ok (.if_icmp .lt 11, 3) := by decide +kernel
theorem dX6_slot_13 : decode cX6_slot 13 = .ok (.aload_n 0, 1) := by decide +kernel
theorem dX6_slot_14 : decode cX6_slot 14 = .ok (.getfield 21, 3) := by decide +kernel
theorem dX6_slot_17 : decode cX6_slot 17 = .ok (.invokevirtual 25, 3) := by decide +kernel
theorem dX6_slot_20 : decode cX6_slot 20 = .ok (.areturn, 1) := by decide +kernel
theorem dX6_slot_21 : decode cX6_slot 21 = .ok (.aload_n 0, 1) := by decide +kernel
theorem dX6_slot_22 : decode cX6_slot 22 = .ok (.getfield 11, 3) := by decide +kernel
theorem dX6_slot_25 : decode cX6_slot 25 = .ok (.iload_n 1, 1) := by decide +kernel
theorem dX6_slot_26 : decode cX6_slot 26 = .ok (.aaload, 1) := by decide +kernel
theorem dX6_slot_27 : decode cX6_slot 27 = .ok (.ifnonnull 16, 3) := by decide +kernel
theorem dX6_slot_30 : decode cX6_slot 30 = .ok (.aload_n 0, 1) := by decide +kernel
theorem dX6_slot_31 : decode cX6_slot 31 = .ok (.getfield 11, 3) := by decide +kernel
theorem dX6_slot_34 : decode cX6_slot 34 = .ok (.iload_n 1, 1) := by decide +kernel
theorem dX6_slot_35 : decode cX6_slot 35 = .ok (.aload_n 0, 1) := by decide +kernel
theorem dX6_slot_36 : decode cX6_slot 36 = .ok (.getfield 21, 3) := by decide +kernel
theorem dX6_slot_39 : decode cX6_slot 39 = .ok (.invokevirtual 25, 3) := by decide +kernel
theorem dX6_slot_42 : decode cX6_slot 42 = .ok (.aastore, 1) := by decide +kernel
theorem dX6_slot_43 : decode cX6_slot 43 = .ok (.aload_n 0, 1) := by decide +kernel
theorem dX6_slot_44 : decode cX6_slot 44 = .ok (.getfield 11, 3) := by decide +kernel
theorem dX6_slot_47 : decode cX6_slot 47 = .ok (.iload_n 1, 1) := by decide +kernel
theorem dX6_slot_48 : decode cX6_slot 48 = .ok (.aaload, 1) := by decide +kernel
theorem dX6_slot_49 : decode cX6_slot 49 = .ok (.areturn, 1) := by decide +kernel
theorem dX1_like_0 : decode cX1_like 0 = .ok (.aload_n 0, 1) := by decide +kernel
theorem dX1_like_1 : decode cX1_like 1 = .ok (.getfield 20, 3) := by decide +kernel
theorem dX1_like_4 : decode cX1_like 4 = .ok (.aload_n 1, 1) := by decide +kernel
theorem dX1_like_5 : decode cX1_like 5 = .ok (.getfield 20, 3) := by decide +kernel
theorem dX1_like_8 : decode cX1_like 8 = .ok (.invokevirtual 82, 3) := by decide +kernel
theorem dX1_like_11 : decode cX1_like 11 = .ok (.aload_n 0, 1) := by decide +kernel
theorem dX1_like_12 : decode cX1_like 12 = .ok (.aload_n 1, 1) := by decide +kernel
theorem dX1_like_13 : decode cX1_like 13 = .ok (.getfield 27, 3) := by decide +kernel
theorem dX1_like_16 : decode cX1_like 16 = .ok (.putfield 27, 3) := by decide +kernel
theorem dX1_like_19 : decode cX1_like 19 = .ok (.aload_n 0, 1) := by decide +kernel
theorem dX1_like_20 : decode cX1_like 20 = .ok (.aload_n 1, 1) := by decide +kernel
theorem dX1_like_21 : decode cX1_like 21 = .ok (.getfield 31, 3) := by decide +kernel
theorem dX1_like_24 : decode cX1_like 24 = .ok (.putfield 31, 3) := by decide +kernel
theorem dX1_like_27 : decode cX1_like 27 = .ok (.aload_n 0, 1) := by decide +kernel
theorem dX1_like_28 : decode cX1_like 28 = .ok (.aload_n 1, 1) := by decide +kernel
theorem dX1_like_29 : decode cX1_like 29 = .ok (.getfield 35, 3) := by decide +kernel
theorem dX1_like_32 : decode cX1_like 32 = .ok (.putfield 35, 3) := by decide +kernel
theorem dX1_like_35 : decode cX1_like 35 = .ok (.return_, 1) := by decide +kernel
theorem dX4_carry_0 : decode cX4_carry 0 = .ok (.aload 4, 2) := by decide +kernel
theorem dX4_carry_2 : decode cX4_carry 2 = .ok (.invokevirtual 44, 3) := by decide +kernel
theorem dX4_carry_5 : decode cX4_carry 5 = .ok (.aload_n 0, 1) := by decide +kernel
theorem dX4_carry_6 : decode cX4_carry 6 = .ok (.getfield 12, 3) := by decide +kernel
theorem dX4_carry_9 : decode cX4_carry 9 = .ok (.aload_n 1, 1) := by decide +kernel
theorem dX4_carry_10 : decode cX4_carry 10 = .ok (.invokevirtual 49, 3) := by decide +kernel
theorem dX4_carry_13 : decode cX4_carry 13 = .ok (.aload_n 0, 1) := by decide +kernel
theorem dX4_carry_14 : decode cX4_carry 14 = .ok (.getfield 18, 3) := by decide +kernel
theorem dX4_carry_17 : decode cX4_carry 17 = .ok (.aload_n 2, 1) := by decide +kernel
theorem dX4_carry_18 : decode cX4_carry 18 = .ok (.invokevirtual 49, 3) := by decide +kernel
theorem dX4_carry_21 : decode cX4_carry 21 = .ok (.aload_n 1, 1) := by decide +kernel
theorem dX4_carry_22 : decode cX4_carry 22 = .ok (.invokevirtual 53, 3) := by decide +kernel
theorem dX4_carry_25 : decode cX4_carry 25 = .ok (.aload_n 2, 1) := by decide +kernel
theorem dX4_carry_26 : decode cX4_carry 26 = .ok (.invokevirtual 53, 3) := by decide +kernel
theorem dX4_carry_29 : decode cX4_carry 29 = .ok (.iadd, 1) := by decide +kernel
theorem dX4_carry_30 : decode cX4_carry 30 = .ok (.istore 5, 2) := by decide +kernel
theorem dX4_carry_32 : decode cX4_carry 32 = .ok (.iconst 0, 1) := by decide +kernel
theorem dX4_carry_33 : decode cX4_carry 33 = .ok (.istore 6, 2) := by decide +kernel
theorem dX4_carry_35 : decode cX4_carry 35 = .ok (.iload 6, 2) := by decide +kernel
theorem dX4_carry_37 : decode cX4_carry 37 = .ok (.iload 5, 2) := by decide +kernel
theorem dX4_carry_39 : decode cX4_carry 39 = .ok (.if_icmp .ge 227, 3) := by decide +kernel
theorem dX4_carry_42 : decode cX4_carry 42 = .ok (.aload_n 0, 1) := by decide +kernel
theorem dX4_carry_43 : decode cX4_carry 43 = .ok (.getfield 21, 3) := by decide +kernel
theorem dX4_carry_46 : decode cX4_carry 46 = .ok (.invokevirtual 57, 3) := by decide +kernel
theorem dX4_carry_49 : decode cX4_carry 49 = .ok (.aload_n 0, 1) := by decide +kernel
theorem dX4_carry_50 : decode cX4_carry 50 = .ok (.getfield 12, 3) := by decide +kernel
theorem dX4_carry_53 : decode cX4_carry 53 = .ok (.getfield 60, 3) := by decide +kernel
theorem dX4_carry_56 : decode cX4_carry 56 = .ok (.iconst 1, 1) := by decide +kernel
theorem dX4_carry_57 : decode cX4_carry 57 = .ok (.if_icmp .ne 48, 3) := by decide +kernel
theorem dX4_carry_60 : decode cX4_carry 60 = .ok (.iload_n 3, 1) := by decide +kernel
theorem dX4_carry_61 : decode cX4_carry 61 = .ok (.iconst 1, 1) := by decide +kernel
theorem dX4_carry_62 : decode cX4_carry 62 = .ok (.if_icmp .eq 14, 3) := by decide +kernel
theorem dX4_carry_65 : decode cX4_carry 65 = .ok (.aload_n 0, 1) := by decide +kernel
theorem dX4_carry_66 : decode cX4_carry 66 = .ok (.getfield 18, 3) := by decide +kernel
theorem dX4_carry_69 : decode cX4_carry 69 = .ok (.getfield 60, 3) := by decide +kernel
theorem dX4_carry_72 : decode cX4_carry 72 = .ok (.iconst 1, 1) := by decide +kernel
theorem dX4_carry_73 : decode cX4_carry 73 = .ok (.if_icmp .eq 32, 3) := by decide +kernel
theorem dX4_carry_76 : decode cX4_carry 76 = .ok (.aload 4, 2) := by decide +kernel
theorem dX4_carry_78 : decode cX4_carry 78 = .ok (.aload_n 0, 1) := by decide +kernel
theorem dX4_carry_79 : decode cX4_carry 79 = .ok (.getfield 12, 3) := by decide +kernel
theorem dX4_carry_82 : decode cX4_carry 82 = .ok (.invokevirtual 76, 3) := by decide +kernel
theorem dX4_carry_85 : decode cX4_carry 85 = .ok (.invokevirtual 79, 3) := by decide +kernel
theorem dX4_carry_88 : decode cX4_carry 88 = .ok (.aload_n 0, 1) := by decide +kernel
theorem dX4_carry_89 : decode cX4_carry 89 = .ok (.getfield 12, 3) := by decide +kernel
theorem dX4_carry_92 : decode cX4_carry 92 = .ok (.aload_n 0, 1) := by decide +kernel
theorem dX4_carry_93 : decode cX4_carry 93 = .ok (.getfield 12, 3) := by decide +kernel
theorem dX4_carry_96 : decode cX4_carry 96 = .ok (.getfield 64, 3) := by decide +kernel
theorem dX4_carry_99 : decode cX4_carry 99 = .ok (.invokevirtual 72, 3) := by decide +kernel
theorem dX4_carry_102 : decode cX4_carry 102 = .ok (.goto 158, 3) := by decide +kernel
theorem dX4_carry_105 : decode cX4_carry 105 = .ok (.aload_n 0, 1) := by decide +kernel
theorem dX4_carry_106 : decode cX4_carry 106 = .ok (.getfield 18, 3) := by decide +kernel
theorem dX4_carry_109 : decode cX4_carry 109 = .ok (.getfield 60, 3) := by decide +kernel
theorem dX4_carry_112 : decode cX4_carry 112 = .ok (.iconst 1, 1) := by decide +kernel
theorem dX4_carry_113 : decode cX4_carry 113 = .ok (.if_icmp .ne 35, 3) := by decide +kernel
theorem dX4_carry_116 : decode cX4_carry 116 = .ok (.aload 4, 2) := by decide +kernel
theorem dX4_carry_118 : decode cX4_carry 118 = .ok (.iconst 3, 1) := by decide +kernel
theorem dX4_carry_119 : decode cX4_carry 119 = .ok (.iconst 0, 1) := by decide +kernel
theorem dX4_carry_120 : decode cX4_carry 120 = .ok (.iconst 0, 1) := by decide +kernel
theorem dX4_carry_121 : decode cX4_carry 121 = .ok (.aload_n 0, 1) := by decide +kernel
theorem dX4_carry_122 : decode cX4_carry 122 = .ok (.getfield 18, 3) := by decide +kernel
theorem dX4_carry_125 : decode cX4_carry 125 = .ok (.getfield 64, 3) := by decide +kernel
theorem dX4_carry_128 : decode cX4_carry 128 = .ok (.invokevirtual 68, 3) := by decide +kernel
theorem dX4_carry_131 : decode cX4_carry 131 = .ok (.aload_n 0, 1) := by decide +kernel
theorem dX4_carry_132 : decode cX4_carry 132 = .ok (.getfield 18, 3) := by decide +kernel
theorem dX4_carry_135 : decode cX4_carry 135 = .ok (.aload_n 0, 1) := by decide +kernel
theorem dX4_carry_136 : decode cX4_carry 136 = .ok (.getfield 18, 3) := by decide +kernel
theorem dX4_carry_139 : decode cX4_carry 139 = .ok (.getfield 64, 3) := by decide +kernel
theorem dX4_carry_142 : decode cX4_carry 142 = .ok (.invokevirtual 72, 3) := by decide +kernel
theorem dX4_carry_145 : decode cX4_carry 145 = .ok (.goto 115, 3) := by decide +kernel
theorem dX4_carry_148 : decode cX4_carry 148 = .ok (.aload_n 0, 1) := by decide +kernel
theorem dX4_carry_149 : decode cX4_carry 149 = .ok (.getfield 12, 3) := by decide +kernel
theorem dX4_carry_152 : decode cX4_carry 152 = .ok (.getfield 64, 3) := by decide +kernel
theorem dX4_carry_155 : decode cX4_carry 155 = .ok (.aload_n 0, 1) := by decide +kernel
theorem dX4_carry_156 : decode cX4_carry 156 = .ok (.getfield 18, 3) := by decide +kernel
theorem dX4_carry_159 : decode cX4_carry 159 = .ok (.getfield 64, 3) := by decide +kernel
theorem dX4_carry_162 : decode cX4_carry 162 = .ok (.invokestatic 83, 3) := by decide +kernel
theorem dX4_carry_165 : decode cX4_carry 165 = .ok (.lstore 7, 2) := by decide +kernel
theorem dX4_carry_167 : decode cX4_carry 167 = .ok (.iload_n 3, 1) := by decide +kernel
theorem dX4_carry_168 : decode cX4_carry 168 = .ok (.iconst 1, 1) := by decide +kernel
theorem dX4_carry_169 : decode cX4_carry 169 = .ok (.if_icmp .ne 21, 3) := by decide +kernel
theorem dX4_carry_172 : decode cX4_carry 172 = .ok (.aload_n 0, 1) := by decide +kernel
theorem dX4_carry_173 : decode cX4_carry 173 = .ok (.getfield 18, 3) := by decide +kernel
theorem dX4_carry_176 : decode cX4_carry 176 = .ok (.getfield 96, 3) := by decide +kernel
theorem dX4_carry_179 : decode cX4_carry 179 = .ok (.aload_n 0, 1) := by decide +kernel
theorem dX4_carry_180 : decode cX4_carry 180 = .ok (.getfield 18, 3) := by decide +kernel
theorem dX4_carry_183 : decode cX4_carry 183 = .ok (.getfield 99, 3) := by decide +kernel
theorem dX4_carry_186 : decode cX4_carry 186 = .ok (.ior, 1) := by decide +kernel
theorem dX4_carry_187 : decode cX4_carry 187 = .ok (.goto 4, 3) := by decide +kernel
theorem dX4_carry_190 : decode cX4_carry 190 = .ok (.iconst 0, 1) := by decide +kernel
theorem dX4_carry_191 : decode cX4_carry 191 = .ok (.istore 9, 2) := by decide +kernel
theorem dX4_carry_193 : decode cX4_carry 193 = .ok (.aload_n 0, 1) := by decide +kernel
theorem dX4_carry_194 : decode cX4_carry 194 = .ok (.getfield 18, 3) := by decide +kernel
theorem dX4_carry_197 : decode cX4_carry 197 = .ok (.getfield 60, 3) := by decide +kernel
theorem dX4_carry_200 : decode cX4_carry 200 = .ok (.iconst 4, 1) := by decide +kernel
theorem dX4_carry_201 : decode cX4_carry 201 = .ok (.if_icmp .eq 41, 3) := by decide +kernel
theorem dX4_carry_204 : decode cX4_carry 204 = .ok (.aload 4, 2) := by decide +kernel
theorem dX4_carry_206 : decode cX4_carry 206 = .ok (.aload_n 0, 1) := by decide +kernel
theorem dX4_carry_207 : decode cX4_carry 207 = .ok (.getfield 12, 3) := by decide +kernel
theorem dX4_carry_210 : decode cX4_carry 210 = .ok (.getfield 60, 3) := by decide +kernel
theorem dX4_carry_213 : decode cX4_carry 213 = .ok (.aload_n 0, 1) := by decide +kernel
theorem dX4_carry_214 : decode cX4_carry 214 = .ok (.getfield 12, 3) := by decide +kernel
theorem dX4_carry_217 : decode cX4_carry 217 = .ok (.getfield 96, 3) := by decide +kernel
theorem dX4_carry_220 : decode cX4_carry 220 = .ok (.iload 9, 2) := by decide +kernel
theorem dX4_carry_222 : decode cX4_carry 222 = .ok (.iconst (-1), 1) := by decide +kernel
theorem dX4_carry_223 : decode cX4_carry 223 = .ok (.ixor, 1) := by decide +kernel
theorem dX4_carry_224 : decode cX4_carry 224 = .ok (.iand, 1) := by decide +kernel
theorem dX4_carry_225 : decode cX4_carry 225 = .ok (.aload_n 0, 1) := by decide +kernel
theorem dX4_carry_226 : decode cX4_carry 226 = .ok (.getfield 12, 3) := by decide +kernel
theorem dX4_carry_229 : decode cX4_carry 229 = .ok (.getfield 99, 3) := by decide +kernel
theorem dX4_carry_232 : decode cX4_carry 232 = .ok (.iload 9, 2) := by decide +kernel
theorem dX4_carry_234 : decode cX4_carry 234 = .ok (.iconst (-1), 1) := by decide +kernel
theorem dX4_carry_235 : decode cX4_carry 235 = .ok (.ixor, 1) := by decide +kernel
theorem dX4_carry_236 : decode cX4_carry 236 = .ok (.iand, 1) := by decide +kernel
theorem dX4_carry_237 : decode cX4_carry 237 = .ok (.lload 7, 2) := by decide +kernel
theorem dX4_carry_239 : decode cX4_carry 239 = .ok (.invokevirtual 68, 3) := by decide +kernel
theorem dX4_carry_242 : decode cX4_carry 242 = .ok (.aload_n 0, 1) := by decide +kernel
theorem dX4_carry_243 : decode cX4_carry 243 = .ok (.getfield 12, 3) := by decide +kernel
theorem dX4_carry_246 : decode cX4_carry 246 = .ok (.lload 7, 2) := by decide +kernel
theorem dX4_carry_248 : decode cX4_carry 248 = .ok (.invokevirtual 72, 3) := by decide +kernel
theorem dX4_carry_251 : decode cX4_carry 251 = .ok (.aload_n 0, 1) := by decide +kernel
theorem dX4_carry_252 : decode cX4_carry 252 = .ok (.getfield 18, 3) := by decide +kernel
theorem dX4_carry_255 : decode cX4_carry 255 = .ok (.lload 7, 2) := by decide +kernel
theorem dX4_carry_257 : decode cX4_carry 257 = .ok (.invokevirtual 72, 3) := by decide +kernel
theorem dX4_carry_260 : decode cX4_carry 260 = .ok (.iinc 6 1, 3) := by decide +kernel
theorem dX4_carry_263 : decode cX4_carry 263 = .ok (.goto (-228), 3) := by decide +kernel
theorem dX4_carry_266 : decode cX4_carry 266 = .ok (.return_, 1) := by decide +kernel
theorem dX1_take_0 : decode cX1_take 0 = .ok (.aload_n 0, 1) := by decide +kernel
theorem dX1_take_1 : decode cX1_take 1 = .ok (.getfield 20, 3) := by decide +kernel
theorem dX1_take_4 : decode cX1_take 4 = .ok (.aload_n 1, 1) := by decide +kernel
theorem dX1_take_5 : decode cX1_take 5 = .ok (.getfield 20, 3) := by decide +kernel
theorem dX1_take_8 : decode cX1_take 8 = .ok (.invokevirtual 86, 3) := by decide +kernel
theorem dX1_take_11 : decode cX1_take 11 = .ok (.aload_n 0, 1) := by decide +kernel
theorem dX1_take_12 : decode cX1_take 12 = .ok (.aload_n 1, 1) := by decide +kernel
theorem dX1_take_13 : decode cX1_take 13 = .ok (.getfield 27, 3) := by decide +kernel
theorem dX1_take_16 : decode cX1_take 16 = .ok (.putfield 27, 3) := by decide +kernel
theorem dX1_take_19 : decode cX1_take 19 = .ok (.aload_n 0, 1) := by decide +kernel
theorem dX1_take_20 : decode cX1_take 20 = .ok (.aload_n 1, 1) := by decide +kernel
theorem dX1_take_21 : decode cX1_take 21 = .ok (.getfield 31, 3) := by decide +kernel
theorem dX1_take_24 : decode cX1_take 24 = .ok (.putfield 31, 3) := by decide +kernel
theorem dX1_take_27 : decode cX1_take 27 = .ok (.aload_n 0, 1) := by decide +kernel
theorem dX1_take_28 : decode cX1_take 28 = .ok (.aload_n 1, 1) := by decide +kernel
theorem dX1_take_29 : decode cX1_take 29 = .ok (.getfield 35, 3) := by decide +kernel
theorem dX1_take_32 : decode cX1_take 32 = .ok (.putfield 35, 3) := by decide +kernel
theorem dX1_take_35 : decode cX1_take 35 = .ok (.aload_n 1, 1) := by decide +kernel
theorem dX1_take_36 : decode cX1_take 36 = .ok (.invokevirtual 89, 3) := by decide +kernel
theorem dX1_take_39 : decode cX1_take 39 = .ok (.return_, 1) := by decide +kernel
theorem dX4_chain_0 : decode cX4_chain 0 = .ok (.aload_n 3, 1) := by decide +kernel
theorem dX4_chain_1 : decode cX4_chain 1 = .ok (.invokevirtual 44, 3) := by decide +kernel
theorem dX4_chain_4 : decode cX4_chain 4 = .ok (.aload_n 0, 1) := by decide +kernel
theorem dX4_chain_5 : decode cX4_chain 5 = .ok (.getfield 12, 3) := by decide +kernel
theorem dX4_chain_8 : decode cX4_chain 8 = .ok (.aload_n 1, 1) := by decide +kernel
theorem dX4_chain_9 : decode cX4_chain 9 = .ok (.invokevirtual 49, 3) := by decide +kernel
theorem dX4_chain_12 : decode cX4_chain 12 = .ok (.aload_n 0, 1) := by decide +kernel
theorem dX4_chain_13 : decode cX4_chain 13 = .ok (.getfield 18, 3) := by decide +kernel
theorem dX4_chain_16 : decode cX4_chain 16 = .ok (.aload_n 2, 1) := by decide +kernel
theorem dX4_chain_17 : decode cX4_chain 17 = .ok (.invokevirtual 49, 3) := by decide +kernel
theorem dX4_chain_20 : decode cX4_chain 20 = .ok (.aload_n 1, 1) := by decide +kernel
theorem dX4_chain_21 : decode cX4_chain 21 = .ok (.invokevirtual 53, 3) := by decide +kernel
theorem dX4_chain_24 : decode cX4_chain 24 = .ok (.aload_n 2, 1) := by decide +kernel
theorem dX4_chain_25 : decode cX4_chain 25 = .ok (.invokevirtual 53, 3) := by decide +kernel
theorem dX4_chain_28 : decode cX4_chain 28 = .ok (.iadd, 1) := by decide +kernel
theorem dX4_chain_29 : decode cX4_chain 29 = .ok (.istore 4, 2) := by decide +kernel
theorem dX4_chain_31 : decode cX4_chain 31 = .ok (.iconst 0, 1) := by decide +kernel
theorem dX4_chain_32 : decode cX4_chain 32 = .ok (.istore 5, 2) := by decide +kernel
theorem dX4_chain_34 : decode cX4_chain 34 = .ok (.iload 5, 2) := by decide +kernel
theorem dX4_chain_36 : decode cX4_chain 36 = .ok (.iload 4, 2) := by decide +kernel
theorem dX4_chain_38 : decode cX4_chain 38 = .ok (.if_icmp .ge 291, 3) := by decide +kernel
theorem dX4_chain_41 : decode cX4_chain 41 = .ok (.aload_n 0, 1) := by decide +kernel
theorem dX4_chain_42 : decode cX4_chain 42 = .ok (.getfield 21, 3) := by decide +kernel
theorem dX4_chain_45 : decode cX4_chain 45 = .ok (.invokevirtual 57, 3) := by decide +kernel
theorem dX4_chain_48 : decode cX4_chain 48 = .ok (.aload_n 0, 1) := by decide +kernel
theorem dX4_chain_49 : decode cX4_chain 49 = .ok (.getfield 12, 3) := by decide +kernel
theorem dX4_chain_52 : decode cX4_chain 52 = .ok (.getfield 60, 3) := by decide +kernel
theorem dX4_chain_55 : decode cX4_chain 55 = .ok (.iconst 4, 1) := by decide +kernel
theorem dX4_chain_56 : decode cX4_chain 56 = .ok (.if_icmp .ne 34, 3) := by decide +kernel
theorem dX4_chain_59 : decode cX4_chain 59 = .ok (.aload_n 3, 1) := by decide +kernel
theorem dX4_chain_60 : decode cX4_chain 60 = .ok (.iconst 4, 1) := by decide +kernel
theorem dX4_chain_61 : decode cX4_chain 61 = .ok (.iconst 0, 1) := by decide +kernel
theorem dX4_chain_62 : decode cX4_chain 62 = .ok (.iconst 0, 1) := by decide +kernel
theorem dX4_chain_63 : decode cX4_chain 63 = .ok (.aload_n 0, 1) := by decide +kernel
theorem dX4_chain_64 : decode cX4_chain 64 = .ok (.getfield 12, 3) := by decide +kernel
theorem dX4_chain_67 : decode cX4_chain 67 = .ok (.getfield 64, 3) := by decide +kernel
theorem dX4_chain_70 : decode cX4_chain 70 = .ok (.invokevirtual 68, 3) := by decide +kernel
theorem dX4_chain_73 : decode cX4_chain 73 = .ok (.aload_n 0, 1) := by decide +kernel
theorem dX4_chain_74 : decode cX4_chain 74 = .ok (.getfield 12, 3) := by decide +kernel
theorem dX4_chain_77 : decode cX4_chain 77 = .ok (.aload_n 0, 1) := by decide +kernel
theorem dX4_chain_78 : decode cX4_chain 78 = .ok (.getfield 12, 3) := by decide +kernel
theorem dX4_chain_81 : decode cX4_chain 81 = .ok (.getfield 64, 3) := by decide +kernel
theorem dX4_chain_84 : decode cX4_chain 84 = .ok (.invokevirtual 72, 3) := by decide +kernel
theorem dX4_chain_87 : decode cX4_chain 87 = .ok (.goto 236, 3) := by decide +kernel
theorem dX4_chain_90 : decode cX4_chain 90 = .ok (.aload_n 0, 1) := by decide +kernel
theorem dX4_chain_91 : decode cX4_chain 91 = .ok (.getfield 18, 3) := by decide +kernel
theorem dX4_chain_94 : decode cX4_chain 94 = .ok (.getfield 60, 3) := by decide +kernel
theorem dX4_chain_97 : decode cX4_chain 97 = .ok (.iconst 1, 1) := by decide +kernel
theorem dX4_chain_98 : decode cX4_chain 98 = .ok (.if_icmp .ne 31, 3) := by decide +kernel
theorem dX4_chain_101 : decode cX4_chain 101 = .ok (.aload_n 3, 1) := by decide +kernel
theorem dX4_chain_102 : decode cX4_chain 102 = .ok (.aload_n 0, 1) := by decide +kernel
theorem dX4_chain_103 : decode cX4_chain 103 = .ok (.getfield 18, 3) := by decide +kernel
theorem dX4_chain_106 : decode cX4_chain 106 = .ok (.invokevirtual 76, 3) := by decide +kernel
theorem dX4_chain_109 : decode cX4_chain 109 = .ok (.invokevirtual 79, 3) := by decide +kernel
theorem dX4_chain_112 : decode cX4_chain 112 = .ok (.aload_n 0, 1) := by decide +kernel
theorem dX4_chain_113 : decode cX4_chain 113 = .ok (.getfield 18, 3) := by decide +kernel
theorem dX4_chain_116 : decode cX4_chain 116 = .ok (.aload_n 0, 1) := by decide +kernel
theorem dX4_chain_117 : decode cX4_chain 117 = .ok (.getfield 18, 3) := by decide +kernel
theorem dX4_chain_120 : decode cX4_chain 120 = .ok (.getfield 64, 3) := by decide +kernel
theorem dX4_chain_123 : decode cX4_chain 123 = .ok (.invokevirtual 72, 3) := by decide +kernel
theorem dX4_chain_126 : decode cX4_chain 126 = .ok (.goto 197, 3) := by decide +kernel
theorem dX4_chain_129 : decode cX4_chain 129 = .ok (.aload_n 0, 1) := by decide +kernel
theorem dX4_chain_130 : decode cX4_chain 130 = .ok (.getfield 12, 3) := by decide +kernel
theorem dX4_chain_133 : decode cX4_chain 133 = .ok (.getfield 64, 3) := by decide +kernel
theorem dX4_chain_136 : decode cX4_chain 136 = .ok (.aload_n 0, 1) := by decide +kernel
theorem dX4_chain_137 : decode cX4_chain 137 = .ok (.getfield 18, 3) := by decide +kernel
theorem dX4_chain_140 : decode cX4_chain 140 = .ok (.getfield 64, 3) := by decide +kernel
theorem dX4_chain_143 : decode cX4_chain 143 = .ok (.invokestatic 83, 3) := by decide +kernel
theorem dX4_chain_146 : decode cX4_chain 146 = .ok (.lstore 6, 2) := by decide +kernel
theorem dX4_chain_148 : decode cX4_chain 148 = .ok (.aload_n 0, 1) := by decide +kernel
theorem dX4_chain_149 : decode cX4_chain 149 = .ok (.getfield 18, 3) := by decide +kernel
theorem dX4_chain_152 : decode cX4_chain 152 = .ok (.getfield 60, 3) := by decide +kernel
theorem dX4_chain_155 : decode cX4_chain 155 = .ok (.iconst 4, 1) := by decide +kernel
theorem dX4_chain_156 : decode cX4_chain 156 = .ok (.if_icmp .ne 26, 3) := by decide +kernel
theorem dX4_chain_159 : decode cX4_chain 159 = .ok (.aload_n 0, 1) := by decide +kernel
theorem dX4_chain_160 : decode cX4_chain 160 = .ok (.getfield 12, 3) := by decide +kernel
theorem dX4_chain_163 : decode cX4_chain 163 = .ok (.getfield 60, 3) := by decide +kernel
theorem dX4_chain_166 : decode cX4_chain 166 = .ok (.iconst 1, 1) := by decide +kernel
theorem dX4_chain_167 : decode cX4_chain 167 = .ok (.if_icmp .eq 138, 3) := by decide +kernel
theorem dX4_chain_170 : decode cX4_chain 170 = .ok (.aload_n 3, 1) := by decide +kernel
theorem dX4_chain_171 : decode cX4_chain 171 = .ok (.iconst 4, 1) := by decide +kernel
theorem dX4_chain_172 : decode cX4_chain 172 = .ok (.iconst 0, 1) := by decide +kernel
theorem dX4_chain_173 : decode cX4_chain 173 = .ok (.iconst 0, 1) := by decide +kernel
theorem dX4_chain_174 : decode cX4_chain 174 = .ok (.lload 6, 2) := by decide +kernel
theorem dX4_chain_176 : decode cX4_chain 176 = .ok (.invokevirtual 68, 3) := by decide +kernel
theorem dX4_chain_179 : decode cX4_chain 179 = .ok (.goto 126, 3) := by decide +kernel
theorem dX4_chain_182 : decode cX4_chain 182 = .ok (.aload_n 0, 1) := by decide +kernel
theorem dX4_chain_183 : decode cX4_chain 183 = .ok (.getfield 12, 3) := by decide +kernel
theorem dX4_chain_186 : decode cX4_chain 186 = .ok (.getfield 60, 3) := by decide +kernel
theorem dX4_chain_189 : decode cX4_chain 189 = .ok (.iconst 1, 1) := by decide +kernel
theorem dX4_chain_190 : decode cX4_chain 190 = .ok (.if_icmp .ne 58, 3) := by decide +kernel
theorem dX4_chain_193 : decode cX4_chain 193 = .ok (.aload_n 0, 1) := by decide +kernel
theorem dX4_chain_194 : decode cX4_chain 194 = .ok (.getfield 21, 3) := by decide +kernel
theorem dX4_chain_197 : decode cX4_chain 197 = .ok (.aload_n 0, 1) := by decide +kernel
theorem dX4_chain_198 : decode cX4_chain 198 = .ok (.getfield 12, 3) := by decide +kernel
theorem dX4_chain_201 : decode cX4_chain 201 = .ok (.invokevirtual 76, 3) := by decide +kernel
theorem dX4_chain_204 : decode cX4_chain 204 = .ok (.aload_n 0, 1) := by decide +kernel
theorem dX4_chain_205 : decode cX4_chain 205 = .ok (.getfield 12, 3) := by decide +kernel
theorem dX4_chain_208 : decode cX4_chain 208 = .ok (.getfield 89, 3) := by decide +kernel
theorem dX4_chain_211 : decode cX4_chain 211 = .ok (.lload 6, 2) := by decide +kernel
theorem dX4_chain_213 : decode cX4_chain 213 = .ok (.invokevirtual 92, 3) := by decide +kernel
theorem dX4_chain_216 : decode cX4_chain 216 = .ok (.istore 8, 2) := by decide +kernel
theorem dX4_chain_218 : decode cX4_chain 218 = .ok (.aload_n 3, 1) := by decide +kernel
theorem dX4_chain_219 : decode cX4_chain 219 = .ok (.aload_n 0, 1) := by decide +kernel
theorem dX4_chain_220 : decode cX4_chain 220 = .ok (.getfield 21, 3) := by decide +kernel
theorem dX4_chain_223 : decode cX4_chain 223 = .ok (.iload 8, 2) := by decide +kernel
theorem dX4_chain_225 : decode cX4_chain 225 = .ok (.aload_n 0, 1) := by decide +kernel
theorem dX4_chain_226 : decode cX4_chain 226 = .ok (.getfield 18, 3) := by decide +kernel
theorem dX4_chain_229 : decode cX4_chain 229 = .ok (.getfield 96, 3) := by decide +kernel
theorem dX4_chain_232 : decode cX4_chain 232 = .ok (.aload_n 0, 1) := by decide +kernel
theorem dX4_chain_233 : decode cX4_chain 233 = .ok (.getfield 18, 3) := by decide +kernel
theorem dX4_chain_236 : decode cX4_chain 236 = .ok (.getfield 99, 3) := by decide +kernel
theorem dX4_chain_239 : decode cX4_chain 239 = .ok (.invokevirtual 102, 3) := by decide +kernel
theorem dX4_chain_242 : decode cX4_chain 242 = .ok (.invokevirtual 79, 3) := by decide +kernel
theorem dX4_chain_245 : decode cX4_chain 245 = .ok (.goto 60, 3) := by decide +kernel
theorem dX4_chain_248 : decode cX4_chain 248 = .ok (.aload_n 3, 1) := by decide +kernel
theorem dX4_chain_249 : decode cX4_chain 249 = .ok (.iconst 5, 1) := by decide +kernel
theorem dX4_chain_250 : decode cX4_chain 250 = .ok (.aload_n 0, 1) := by decide +kernel
theorem dX4_chain_251 : decode cX4_chain 251 = .ok (.getfield 12, 3) := by decide +kernel
theorem dX4_chain_254 : decode cX4_chain 254 = .ok (.getfield 96, 3) := by decide +kernel
theorem dX4_chain_257 : decode cX4_chain 257 = .ok (.aload_n 0, 1) := by decide +kernel
theorem dX4_chain_258 : decode cX4_chain 258 = .ok (.getfield 18, 3) := by decide +kernel
theorem dX4_chain_261 : decode cX4_chain 261 = .ok (.getfield 99, 3) := by decide +kernel
theorem dX4_chain_264 : decode cX4_chain 264 = .ok (.iconst (-1), 1) := by decide +kernel
theorem dX4_chain_265 : decode cX4_chain 265 = .ok (.ixor, 1) := by decide +kernel
theorem dX4_chain_266 : decode cX4_chain 266 = .ok (.iand, 1) := by decide +kernel
theorem dX4_chain_267 : decode cX4_chain 267 = .ok (.aload_n 0, 1) := by decide +kernel
theorem dX4_chain_268 : decode cX4_chain 268 = .ok (.getfield 18, 3) := by decide +kernel
theorem dX4_chain_271 : decode cX4_chain 271 = .ok (.getfield 96, 3) := by decide +kernel
theorem dX4_chain_274 : decode cX4_chain 274 = .ok (.ior, 1) := by decide +kernel
theorem dX4_chain_275 : decode cX4_chain 275 = .ok (.aload_n 0, 1) := by decide +kernel
theorem dX4_chain_276 : decode cX4_chain 276 = .ok (.getfield 12, 3) := by decide +kernel
theorem dX4_chain_279 : decode cX4_chain 279 = .ok (.getfield 99, 3) := by decide +kernel
theorem dX4_chain_282 : decode cX4_chain 282 = .ok (.aload_n 0, 1) := by decide +kernel
theorem dX4_chain_283 : decode cX4_chain 283 = .ok (.getfield 18, 3) := by decide +kernel
theorem dX4_chain_286 : decode cX4_chain 286 = .ok (.getfield 96, 3) := by decide +kernel
theorem dX4_chain_289 : decode cX4_chain 289 = .ok (.iconst (-1), 1) := by decide +kernel
theorem dX4_chain_290 : decode cX4_chain 290 = .ok (.ixor, 1) := by decide +kernel
theorem dX4_chain_291 : decode cX4_chain 291 = .ok (.iand, 1) := by decide +kernel
theorem dX4_chain_292 : decode cX4_chain 292 = .ok (.aload_n 0, 1) := by decide +kernel
theorem dX4_chain_293 : decode cX4_chain 293 = .ok (.getfield 18, 3) := by decide +kernel
theorem dX4_chain_296 : decode cX4_chain 296 = .ok (.getfield 99, 3) := by decide +kernel
theorem dX4_chain_299 : decode cX4_chain 299 = .ok (.ior, 1) := by decide +kernel
theorem dX4_chain_300 : decode cX4_chain 300 = .ok (.lload 6, 2) := by decide +kernel
theorem dX4_chain_302 : decode cX4_chain 302 = .ok (.invokevirtual 68, 3) := by decide +kernel
theorem dX4_chain_305 : decode cX4_chain 305 = .ok (.aload_n 0, 1) := by decide +kernel
theorem dX4_chain_306 : decode cX4_chain 306 = .ok (.getfield 12, 3) := by decide +kernel
theorem dX4_chain_309 : decode cX4_chain 309 = .ok (.lload 6, 2) := by decide +kernel
theorem dX4_chain_311 : decode cX4_chain 311 = .ok (.invokevirtual 72, 3) := by decide +kernel
theorem dX4_chain_314 : decode cX4_chain 314 = .ok (.aload_n 0, 1) := by decide +kernel
theorem dX4_chain_315 : decode cX4_chain 315 = .ok (.getfield 18, 3) := by decide +kernel
theorem dX4_chain_318 : decode cX4_chain 318 = .ok (.lload 6, 2) := by decide +kernel
theorem dX4_chain_320 : decode cX4_chain 320 = .ok (.invokevirtual 72, 3) := by decide +kernel
theorem dX4_chain_323 : decode cX4_chain 323 = .ok (.iinc 5 1, 3) := by decide +kernel
theorem dX4_chain_326 : decode cX4_chain 326 = .ok (.goto (-292), 3) := by decide +kernel
theorem dX4_chain_329 : decode cX4_chain 329 = .ok (.return_, 1) := by decide +kernel
theorem dX6_sign_0 : decode cX6_sign 0 = .ok (.iload_n 1, 1) := by decide +kernel
theorem dX6_sign_1 : decode cX6_sign 1 = .ok (.ifCond .lt 19, 3) := by decide +kernel
theorem dX6_sign_4 : decode cX6_sign 4 = .ok (.iload_n 1, 1) := by decide +kernel
theorem dX6_sign_5 : decode cX6_sign 5 = .ok (.aload_n 0, 1) := by decide +kernel
theorem dX6_sign_6 : decode cX6_sign 6 = .ok (.getfield 17, 3) := by decide +kernel
theorem dX6_sign_9 : decode cX6_sign 9 = .ok (.arraylength, 1) := by decide +kernel
theorem dX6_sign_10 : decode cX6_sign 10 = .ok (.if_icmp .ge 10, 3) := by decide +kernel
theorem dX6_sign_13 : decode cX6_sign 13 = .ok (.aload_n 0, 1) := by decide +kernel
theorem dX6_sign_14 : decode cX6_sign 14 = .ok (.getfield 17, 3) := by decide +kernel
theorem dX6_sign_17 : decode cX6_sign 17 = .ok (.iload_n 1, 1) := by decide +kernel
theorem dX6_sign_18 : decode cX6_sign 18 = .ok (.iload_n 2, 1) := by decide +kernel
theorem dX6_sign_19 : decode cX6_sign 19 = .ok (.iastore, 1) := by decide +kernel
theorem dX6_sign_20 : decode cX6_sign 20 = .ok (.return_, 1) := by decide +kernel
theorem dX6_clientAt_0 : decode cX6_clientAt 0 = .ok (.iload_n 1, 1) := by decide +kernel
theorem dX6_clientAt_1 : decode cX6_clientAt 1 = .ok (.ifCond .lt 21, 3) := by decide +kernel
theorem dX6_clientAt_4 : decode cX6_clientAt 4 = .ok (.iload_n 1, 1) := by decide +kernel
theorem dX6_clientAt_5 : decode cX6_clientAt 5 = .ok (.aload_n 0, 1) := by decide +kernel
theorem dX6_clientAt_6 : decode cX6_clientAt 6 = .ok (.getfield 17, 3) := by decide +kernel
theorem dX6_clientAt_9 : decode cX6_clientAt 9 = .ok (.arraylength, 1) := by decide +kernel
theorem dX6_clientAt_10 : decode cX6_clientAt 10 = .ok (.if_icmp .ge 12, 3) := by decide +kernel
theorem dX6_clientAt_13 : decode cX6_clientAt 13 = .ok (.aload_n 0, 1) := by decide +kernel
theorem dX6_clientAt_14 : decode cX6_clientAt 14 = .ok (.getfield 17, 3) := by decide +kernel
theorem dX6_clientAt_17 : decode cX6_clientAt 17 = .ok (.iload_n 1, 1) := by decide +kernel
theorem dX6_clientAt_18 : decode cX6_clientAt 18 = .ok (.iaload, 1) := by decide +kernel
theorem dX6_clientAt_19 : decode cX6_clientAt 19 = .ok (.goto 4, 3) := by decide +kernel
theorem dX6_clientAt_22 : decode cX6_clientAt 22 = .ok (.iconst (-1), 1) := by decide +kernel
theorem dX6_clientAt_23 : decode cX6_clientAt 23 = .ok (.ireturn, 1) := by decide +kernel
theorem dX0_sendWaiting_0 : decode cX0_sendWaiting 0 = .ok (.aload_n 0, 1) := by decide +kernel
theorem dX0_sendWaiting_1 : decode cX0_sendWaiting 1 = .ok (.aload_n 0, 1) := by decide +kernel
theorem dX0_sendWaiting_2 : decode cX0_sendWaiting 2 = .ok (.getfield 58, 3) := by decide +kernel
theorem dX0_sendWaiting_5 : decode cX0_sendWaiting 5 = .ok (.putfield 43, 3) := by decide +kernel
theorem dX0_sendWaiting_8 : decode cX0_sendWaiting 8 = .ok (.aload_n 0, 1) := by decide +kernel
theorem dX0_sendWaiting_9 : decode cX0_sendWaiting 9 = .ok (.iconst 0, 1) := by decide +kernel
theorem dX0_sendWaiting_10 : decode cX0_sendWaiting 10 = .ok (.putfield 47, 3) := by decide +kernel
theorem dX0_sendWaiting_13 : decode cX0_sendWaiting 13 = .ok (.aload_n 0, 1) := by decide +kernel
theorem dX0_sendWaiting_14 : decode cX0_sendWaiting 14 = .ok (.getfield 58, 3) := by decide +kernel
theorem dX0_sendWaiting_17 : decode cX0_sendWaiting 17 = .ok (.ifCond .eq 14, 3) := by decide +kernel
theorem dX0_sendWaiting_20 : decode cX0_sendWaiting 20 = .ok (.aload_n 0, 1) := by decide +kernel
theorem dX0_sendWaiting_21 : decode cX0_sendWaiting 21 = .ok (.getfield 25, 3) := by decide +kernel
theorem dX0_sendWaiting_24 : decode cX0_sendWaiting 24 = .ok (.aload_n 0, 1) := by decide +kernel
theorem dX0_sendWaiting_25 : decode cX0_sendWaiting 25 = .ok (.getfield 28, 3) := by decide +kernel
theorem dX0_sendWaiting_28 : decode cX0_sendWaiting 28 = .ok (.invokevirtual 93, 3) := by decide +kernel
theorem dX0_sendWaiting_31 : decode cX0_sendWaiting 31 = .ok (.aload_n 0, 1) := by decide +kernel
theorem dX0_sendWaiting_32 : decode cX0_sendWaiting 32 = .ok (.iconst 0, 1) := by decide +kernel
theorem dX0_sendWaiting_33 : decode cX0_sendWaiting 33 = .ok (.putfield 58, 3) := by decide +kernel
theorem dX0_sendWaiting_36 : decode cX0_sendWaiting 36 = .ok (.return_, 1) := by decide +kernel
theorem dX4_cross_0 : decode cX4_cross 0 = .ok (.aload_n 1, 1) := by decide +kernel
theorem dX4_cross_1 : decode cX4_cross 1 = .ok (.ifnonnull 4, 3) := by decide +kernel
theorem dX4_cross_4 : decode cX4_cross 4 = .ok (.return_, 1) := by decide +kernel
theorem dX4_cross_5 : decode cX4_cross 5 = .ok (.aload_n 0, 1) := by decide +kernel
theorem dX4_cross_6 : decode cX4_cross 6 = .ok (.aload_n 1, 1) := by decide +kernel
theorem dX4_cross_7 : decode cX4_cross 7 = .ok (.aload_n 0, 1) := by decide +kernel
theorem dX4_cross_8 : decode cX4_cross 8 = .ok (.getfield 38, 3) := by decide +kernel
theorem dX4_cross_11 : decode cX4_cross 11 = .ok (.iconst 0, 1) := by decide +kernel
theorem dX4_cross_12 : decode cX4_cross 12 = .ok (.aload_n 0, 1) := by decide +kernel
theorem dX4_cross_13 : decode cX4_cross 13 = .ok (.getfield 31, 3) := by decide +kernel
theorem dX4_cross_16 : decode cX4_cross 16 = .ok (.invokevirtual 132, 3) := by decide +kernel
theorem dX4_cross_19 : decode cX4_cross 19 = .ok (.aload_n 0, 1) := by decide +kernel
theorem dX4_cross_20 : decode cX4_cross 20 = .ok (.aload_n 0, 1) := by decide +kernel
theorem dX4_cross_21 : decode cX4_cross 21 = .ok (.getfield 38, 3) := by decide +kernel
theorem dX4_cross_24 : decode cX4_cross 24 = .ok (.aload_n 1, 1) := by decide +kernel
theorem dX4_cross_25 : decode cX4_cross 25 = .ok (.iconst 1, 1) := by decide +kernel
theorem dX4_cross_26 : decode cX4_cross 26 = .ok (.aload_n 0, 1) := by decide +kernel
theorem dX4_cross_27 : decode cX4_cross 27 = .ok (.getfield 35, 3) := by decide +kernel
theorem dX4_cross_30 : decode cX4_cross 30 = .ok (.invokevirtual 132, 3) := by decide +kernel
theorem dX4_cross_33 : decode cX4_cross 33 = .ok (.aload_n 1, 1) := by decide +kernel
theorem dX4_cross_34 : decode cX4_cross 34 = .ok (.aload_n 0, 1) := by decide +kernel
theorem dX4_cross_35 : decode cX4_cross 35 = .ok (.getfield 31, 3) := by decide +kernel
theorem dX4_cross_38 : decode cX4_cross 38 = .ok (.invokevirtual 136, 3) := by decide +kernel
theorem dX4_cross_41 : decode cX4_cross 41 = .ok (.aload_n 0, 1) := by decide +kernel
theorem dX4_cross_42 : decode cX4_cross 42 = .ok (.getfield 38, 3) := by decide +kernel
theorem dX4_cross_45 : decode cX4_cross 45 = .ok (.aload_n 0, 1) := by decide +kernel
theorem dX4_cross_46 : decode cX4_cross 46 = .ok (.getfield 35, 3) := by decide +kernel
theorem dX4_cross_49 : decode cX4_cross 49 = .ok (.invokevirtual 136, 3) := by decide +kernel
theorem dX4_cross_52 : decode cX4_cross 52 = .ok (.return_, 1) := by decide +kernel
theorem dX2_at_0 : decode cX2_at 0 = .ok (.iload_n 1, 1) := by decide +kernel
theorem dX2_at_1 : decode cX2_at 1 = .ok (.ifCond .lt 29, 3) := by decide +kernel
theorem dX2_at_4 : decode cX2_at 4 = .ok (.iload_n 1, 1) := by decide +kernel
theorem dX2_at_5 : decode cX2_at 5 = .ok (.aload_n 0, 1) := by decide +kernel
theorem dX2_at_6 : decode cX2_at 6 = .ok (.getfield 21, 3) := by decide +kernel
theorem dX2_at_9 : decode cX2_at 9 = .ok (.if_icmp .ge 21, 3) := by decide +kernel
theorem dX2_at_12 : decode cX2_at 12 = .ok (.iload_n 1, 1) := by decide +kernel
theorem dX2_at_13 : decode cX2_at 13 = .ok (.aload_n 0, 1) := by decide +kernel
theorem dX2_at_14 : decode cX2_at 14 = .ok (.getfield 11, 3) := by decide +kernel
theorem dX2_at_17 : decode cX2_at 17 = .ok (.arraylength, 1) := by decide +kernel
theorem dX2_at_18 : decode cX2_at 18 = .ok (.if_icmp .ge 12, 3) := by decide +kernel
theorem dX2_at_21 : decode cX2_at 21 = .ok (.aload_n 0, 1) := by decide +kernel
theorem dX2_at_22 : decode cX2_at 22 = .ok (.getfield 11, 3) := by decide +kernel
theorem dX2_at_25 : decode cX2_at 25 = .ok (.iload_n 1, 1) := by decide +kernel
theorem dX2_at_26 : decode cX2_at 26 = .ok (.aaload, 1) := by decide +kernel
theorem dX2_at_27 : decode cX2_at 27 = .ok (.goto 4, 3) := by decide +kernel
theorem dX2_at_30 : decode cX2_at 30 = .ok (.aconst_null, 1) := by decide +kernel
theorem dX2_at_31 : decode cX2_at 31 = .ok (.areturn, 1) := by decide +kernel
theorem dJxc12de_init_da8c8_0 : decode cJxc12de_init_da8c8 0 = .ok (.aload_n 0, 1) := by decide +kernel
theorem dJxc12de_init_da8c8_1 : decode cJxc12de_init_da8c8 1 = .ok (.invokespecial 1, 3) := by decide +kernel
theorem dJxc12de_init_da8c8_4 : decode cJxc12de_init_da8c8 4 = .ok (.aload_n 0, 1) := by decide +kernel
theorem dJxc12de_init_da8c8_5 : decode cJxc12de_init_da8c8 5 = .ok (.iconst 0, 1) := by decide +kernel
theorem dJxc12de_init_da8c8_6 : decode cJxc12de_init_da8c8 6 = .ok (.putfield 7, 3) := by decide +kernel
theorem dJxc12de_init_da8c8_9 : decode cJxc12de_init_da8c8 9 = .ok (.return_, 1) := by decide +kernel
theorem dJx4a65c_add_72be8_0 : decode cJx4a65c_add_72be8 0 = .ok (.iload_n 3, 1) := by decide +kernel
theorem dJx4a65c_add_72be8_1 : decode cJx4a65c_add_72be8 1 = .ok (.aload_n 2, 1) := by decide +kernel
theorem dJx4a65c_add_72be8_2 : decode cJx4a65c_add_72be8 2 = .ok (.arraylength, 1) := by decide +kernel
theorem dJx4a65c_add_72be8_3 : decode cJx4a65c_add_72be8 3 = .ok (.if_icmp .ne 8, 3) := by decide +kernel
theorem dJx4a65c_add_72be8_6 : decode cJx4a65c_add_72be8 6 = .ok (.aload_n 0, 1) := by decide +kernel
theorem dJx4a65c_add_72be8_7 : decode cJx4a65c_add_72be8 7 = .ok (.invokevirtual 129, 3) := by decide +kernel
theorem dJx4a65c_add_72be8_10 : decode cJx4a65c_add_72be8 10 = .ok (.astore_n 2, 1) := by decide +kernel
theorem dJx4a65c_add_72be8_11 : decode cJx4a65c_add_72be8 11 = .ok (.aload_n 2, 1) := by decide +kernel
theorem dJx4a65c_add_72be8_12 : decode cJx4a65c_add_72be8 12 = .ok (.iload_n 3, 1) := by decide +kernel
theorem dJx4a65c_add_72be8_13 : decode cJx4a65c_add_72be8 13 = .ok (.aload_n 1, 1) := by decide +kernel
theorem dJx4a65c_add_72be8_14 : decode cJx4a65c_add_72be8 14 = .ok (.aastore, 1) := by decide +kernel
theorem dJx4a65c_add_72be8_15 : decode cJx4a65c_add_72be8 15 = .ok (.aload_n 0, 1) := by decide +kernel
theorem dJx4a65c_add_72be8_16 : decode cJx4a65c_add_72be8 16 = .ok (.iload_n 3, 1) := by decide +kernel
theorem dJx4a65c_add_72be8_17 : decode cJx4a65c_add_72be8 17 = .ok (.iconst 1, 1) := by decide +kernel
theorem dJx4a65c_add_72be8_18 : decode cJx4a65c_add_72be8 18 = .ok (.iadd, 1) := by decide +kernel
theorem dJx4a65c_add_72be8_19 : decode cJx4a65c_add_72be8 19 = .ok (.putfield 48, 3) := by decide +kernel
theorem dJx4a65c_add_72be8_22 : decode cJx4a65c_add_72be8 22 = .ok (.return_, 1) := by decide +kernel
theorem dX2_init_0 : decode cX2_init 0 = .ok (.aload_n 0, 1) := by decide +kernel
theorem dX2_init_1 : decode cX2_init 1 = .ok (.invokespecial 3, 3) := by decide +kernel
theorem dX2_init_4 : decode cX2_init 4 = .ok (.aload_n 0, 1) := by decide +kernel
theorem dX2_init_5 : decode cX2_init 5 = .ok (.bipush 20, 2) := by decide +kernel
theorem dX2_init_7 : decode cX2_init 7 = .ok (.anewarray 9, 3) := by decide +kernel
theorem dX2_init_10 : decode cX2_init 10 = .ok (.putfield 11, 3) := by decide +kernel
theorem dX2_init_13 : decode cX2_init 13 = .ok (.aload_n 0, 1) := by decide +kernel
theorem dX2_init_14 : decode cX2_init 14 = .ok (.aload_n 1, 1) := by decide +kernel
theorem dX2_init_15 : decode cX2_init 15 = .ok (.putfield 17, 3) := by decide +kernel
theorem dX2_init_18 : decode cX2_init 18 = .ok (.return_, 1) := by decide +kernel
theorem dX12_adds_0 : decode cX12_adds 0 = .ok (.aload_n 0, 1) := by decide +kernel
theorem dX12_adds_1 : decode cX12_adds 1 = .ok (.getfield 40, 3) := by decide +kernel
theorem dX12_adds_4 : decode cX12_adds 4 = .ok (.iload_n 1, 1) := by decide +kernel
theorem dX12_adds_5 : decode cX12_adds 5 = .ok (.aaload, 1) := by decide +kernel
theorem dX12_adds_6 : decode cX12_adds 6 = .ok (.aload_n 0, 1) := by decide +kernel
theorem dX12_adds_7 : decode cX12_adds 7 = .ok (.getfield 43, 3) := by decide +kernel
theorem dX12_adds_10 : decode cX12_adds 10 = .ok (.iload_n 1, 1) := by decide +kernel
theorem dX12_adds_11 : decode cX12_adds 11 = .ok (.iaload, 1) := by decide +kernel
theorem dX12_adds_12 : decode cX12_adds 12 = .ok (.iload_n 2, 1) := by decide +kernel
theorem dX12_adds_13 : decode cX12_adds 13 = .ok (.iastore, 1) := by decide +kernel
theorem dX12_adds_14 : decode cX12_adds 14 = .ok (.aload_n 0, 1) := by decide +kernel
theorem dX12_adds_15 : decode cX12_adds 15 = .ok (.getfield 43, 3) := by decide +kernel
theorem dX12_adds_18 : decode cX12_adds 18 = .ok (.iload_n 1, 1) := by decide +kernel
theorem dX12_adds_19 : decode cX12_adds 19 = .ok (.dup2, 1) := by decide +kernel
theorem dX12_adds_20 : decode cX12_adds 20 = .ok (.iaload, 1) := by decide +kernel
theorem dX12_adds_21 : decode cX12_adds 21 = .ok (.iconst 1, 1) := by decide +kernel
theorem dX12_adds_22 : decode cX12_adds 22 = .ok (.iadd, 1) := by decide +kernel
theorem dX12_adds_23 : decode cX12_adds 23 = .ok (.iastore, 1) := by decide +kernel
theorem dX12_adds_24 : decode cX12_adds 24 = .ok (.return_, 1) := by decide +kernel
theorem dX12_turnedRow_0 : decode cX12_turnedRow 0 = .ok (.iconst 0, 1) := by decide +kernel
theorem dX12_turnedRow_1 : decode cX12_turnedRow 1 = .ok (.istore 4, 2) := by decide +kernel
theorem dX12_turnedRow_3 : decode cX12_turnedRow 3 = .ok (.aload_n 0, 1) := by decide +kernel
theorem dX12_turnedRow_4 : decode cX12_turnedRow 4 = .ok (.getfield 43, 3) := by decide +kernel
theorem dX12_turnedRow_7 : decode cX12_turnedRow 7 = .ok (.iload_n 3, 1) := by decide +kernel
theorem dX12_turnedRow_8 : decode cX12_turnedRow 8 = .ok (.iconst 0, 1) := by decide +kernel
theorem dX12_turnedRow_9 : decode cX12_turnedRow 9 = .ok (.iastore, 1) := by decide +kernel
theorem dX12_turnedRow_10 : decode cX12_turnedRow 10 = .ok (.iconst 0, 1) := by decide +kernel
theorem dX12_turnedRow_11 : decode cX12_turnedRow 11 = .ok (.istore 5, 2) := by decide +kernel
theorem dX12_turnedRow_13 : decode cX12_turnedRow 13 = .ok (.iload 5, 2) := by decide +kernel
theorem dX12_turnedRow_15 : decode cX12_turnedRow 15 = .ok (.aload_n 0, 1) := by decide +kernel
theorem dX12_turnedRow_16 : decode cX12_turnedRow 16 = .ok (.getfield 43, 3) := by decide +kernel
theorem dX12_turnedRow_19 : decode cX12_turnedRow 19 = .ok (.iload_n 1, 1) := by decide +kernel
theorem dX12_turnedRow_20 : decode cX12_turnedRow 20 = .ok (.iaload, 1) := by decide +kernel
theorem dX12_turnedRow_21 : decode cX12_turnedRow 21 = .ok (.if_icmp .ge 147, 3) := by decide +kernel
theorem dX12_turnedRow_24 : decode cX12_turnedRow 24 = .ok (.aload_n 0, 1) := by decide +kernel
theorem dX12_turnedRow_25 : decode cX12_turnedRow 25 = .ok (.getfield 40, 3) := by decide +kernel
theorem dX12_turnedRow_28 : decode cX12_turnedRow 28 = .ok (.iload_n 1, 1) := by decide +kernel
theorem dX12_turnedRow_29 : decode cX12_turnedRow 29 = .ok (.aaload, 1) := by decide +kernel
theorem dX12_turnedRow_30 : decode cX12_turnedRow 30 = .ok (.iload 5, 2) := by decide +kernel
theorem dX12_turnedRow_32 : decode cX12_turnedRow 32 = .ok (.iaload, 1) := by decide +kernel
theorem dX12_turnedRow_33 : decode cX12_turnedRow 33 = .ok (.istore 6, 2) := by decide +kernel
theorem dX12_turnedRow_35 : decode cX12_turnedRow 35 = .ok (.iload 6, 2) := by decide +kernel
theorem dX12_turnedRow_37 : decode cX12_turnedRow 37 = .ok (.invokestatic 104, 3) := by decide +kernel
theorem dX12_turnedRow_40 : decode cX12_turnedRow 40 = .ok (.ldc 110, 2) := by decide +kernel
theorem dX12_turnedRow_42 : decode cX12_turnedRow 42 = .ok (.if_icmp .ne 13, 3) := by decide +kernel
theorem dX12_turnedRow_45 : decode cX12_turnedRow 45 = .ok (.aload_n 0, 1) := by decide +kernel
theorem dX12_turnedRow_46 : decode cX12_turnedRow 46 = .ok (.iload_n 3, 1) := by decide +kernel
theorem dX12_turnedRow_47 : decode cX12_turnedRow 47 = .ok (.ldc 109, 2) := by decide +kernel
theorem dX12_turnedRow_49 : decode cX12_turnedRow 49 = .ok (.invokevirtual 115, 3) := by decide +kernel
theorem dX12_turnedRow_52 : decode cX12_turnedRow 52 = .ok (.goto 110, 3) := by decide +kernel
theorem dX12_turnedRow_55 : decode cX12_turnedRow 55 = .ok (.aload_n 0, 1) := by decide +kernel
theorem dX12_turnedRow_56 : decode cX12_turnedRow 56 = .ok (.getfield 22, 3) := by decide +kernel
theorem dX12_turnedRow_59 : decode cX12_turnedRow 59 = .ok (.iload_n 2, 1) := by decide +kernel
theorem dX12_turnedRow_60 : decode cX12_turnedRow 60 = .ok (.aaload, 1) := by decide +kernel
theorem dX12_turnedRow_61 : decode cX12_turnedRow 61 = .ok (.iload 4, 2) := by decide +kernel
theorem dX12_turnedRow_63 : decode cX12_turnedRow 63 = .ok (.iaload, 1) := by decide +kernel
theorem dX12_turnedRow_64 : decode cX12_turnedRow 64 = .ok (.istore 7, 2) := by decide +kernel
theorem dX12_turnedRow_66 : decode cX12_turnedRow 66 = .ok (.iinc 4 1, 3) := by decide +kernel
theorem dX12_turnedRow_69 : decode cX12_turnedRow 69 = .ok (.iload 6, 2) := by decide +kernel
theorem dX12_turnedRow_71 : decode cX12_turnedRow 71 = .ok (.invokestatic 104, 3) := by decide +kernel
theorem dX12_turnedRow_74 : decode cX12_turnedRow 74 = .ok (.ldc 126, 2) := by decide +kernel
theorem dX12_turnedRow_76 : decode cX12_turnedRow 76 = .ok (.if_icmp .ne 61, 3) := by decide +kernel
theorem dX12_turnedRow_79 : decode cX12_turnedRow 79 = .ok (.iload 7, 2) := by decide +kernel
theorem dX12_turnedRow_81 : decode cX12_turnedRow 81 = .ok (.bipush 8, 2) := by decide +kernel
theorem dX12_turnedRow_83 : decode cX12_turnedRow 83 = .ok (.ishr, 1) := by decide +kernel
theorem dX12_turnedRow_84 : decode cX12_turnedRow 84 = .ok (.bipush 15, 2) := by decide +kernel
theorem dX12_turnedRow_86 : decode cX12_turnedRow 86 = .ok (.iand, 1) := by decide +kernel
theorem dX12_turnedRow_87 : decode cX12_turnedRow 87 = .ok (.istore 8, 2) := by decide +kernel
theorem dX12_turnedRow_89 : decode cX12_turnedRow 89 = .ok (.iload 6, 2) := by decide +kernel
theorem dX12_turnedRow_91 : decode cX12_turnedRow 91 = .ok (.bipush 15, 2) := by decide +kernel
theorem dX12_turnedRow_93 : decode cX12_turnedRow 93 = .ok (.iand, 1) := by decide +kernel
theorem dX12_turnedRow_94 : decode cX12_turnedRow 94 = .ok (.iload 8, 2) := by decide +kernel
theorem dX12_turnedRow_96 : decode cX12_turnedRow 96 = .ok (.iand, 1) := by decide +kernel
theorem dX12_turnedRow_97 : decode cX12_turnedRow 97 = .ok (.iconst 4, 1) := by decide +kernel
theorem dX12_turnedRow_98 : decode cX12_turnedRow 98 = .ok (.ishl, 1) := by decide +kernel
theorem dX12_turnedRow_99 : decode cX12_turnedRow 99 = .ok (.iload 6, 2) := by decide +kernel
theorem dX12_turnedRow_101 : decode cX12_turnedRow 101 = .ok (.iconst 4, 1) := by decide +kernel
theorem dX12_turnedRow_102 : decode cX12_turnedRow 102 = .ok (.ishr, 1) := by decide +kernel
theorem dX12_turnedRow_103 : decode cX12_turnedRow 103 = .ok (.bipush 15, 2) := by decide +kernel
theorem dX12_turnedRow_105 : decode cX12_turnedRow 105 = .ok (.iand, 1) := by decide +kernel
theorem dX12_turnedRow_106 : decode cX12_turnedRow 106 = .ok (.iload 8, 2) := by decide +kernel
theorem dX12_turnedRow_108 : decode cX12_turnedRow 108 = .ok (.iconst (-1), 1) := by decide +kernel
theorem dX12_turnedRow_109 : decode cX12_turnedRow 109 = .ok (.ixor, 1) := by decide +kernel
theorem dX12_turnedRow_110 : decode cX12_turnedRow 110 = .ok (.iand, 1) := by decide +kernel
theorem dX12_turnedRow_111 : decode cX12_turnedRow 111 = .ok (.ior, 1) := by decide +kernel
theorem dX12_turnedRow_112 : decode cX12_turnedRow 112 = .ok (.istore 9, 2) := by decide +kernel
theorem dX12_turnedRow_114 : decode cX12_turnedRow 114 = .ok (.aload_n 0, 1) := by decide +kernel
theorem dX12_turnedRow_115 : decode cX12_turnedRow 115 = .ok (.iload_n 3, 1) := by decide +kernel
theorem dX12_turnedRow_116 : decode cX12_turnedRow 116 = .ok (.iload 9, 2) := by decide +kernel
theorem dX12_turnedRow_118 : decode cX12_turnedRow 118 = .ok (.ifCond .ne 8, 3) := by decide +kernel
theorem dX12_turnedRow_121 : decode cX12_turnedRow 121 = .ok (.ldc 108, 2) := by decide +kernel
theorem dX12_turnedRow_123 : decode cX12_turnedRow 123 = .ok (.goto 8, 3) := by decide +kernel
theorem dX12_turnedRow_126 : decode cX12_turnedRow 126 = .ok (.ldc 126, 2) := by decide +kernel
theorem dX12_turnedRow_128 : decode cX12_turnedRow 128 = .ok (.iload 9, 2) := by decide +kernel
theorem dX12_turnedRow_130 : decode cX12_turnedRow 130 = .ok (.ior, 1) := by decide +kernel
theorem dX12_turnedRow_131 : decode cX12_turnedRow 131 = .ok (.invokevirtual 115, 3) := by decide +kernel
theorem dX12_turnedRow_134 : decode cX12_turnedRow 134 = .ok (.goto 28, 3) := by decide +kernel
theorem dX12_turnedRow_137 : decode cX12_turnedRow 137 = .ok (.aload_n 0, 1) := by decide +kernel
theorem dX12_turnedRow_138 : decode cX12_turnedRow 138 = .ok (.iload_n 3, 1) := by decide +kernel
theorem dX12_turnedRow_139 : decode cX12_turnedRow 139 = .ok (.iload 6, 2) := by decide +kernel
theorem dX12_turnedRow_141 : decode cX12_turnedRow 141 = .ok (.invokestatic 104, 3) := by decide +kernel
theorem dX12_turnedRow_144 : decode cX12_turnedRow 144 = .ok (.ldc 108, 2) := by decide +kernel
theorem dX12_turnedRow_146 : decode cX12_turnedRow 146 = .ok (.if_icmp .ne 8, 3) := by decide +kernel
theorem dX12_turnedRow_149 : decode cX12_turnedRow 149 = .ok (.ldc 108, 2) := by decide +kernel
theorem dX12_turnedRow_151 : decode cX12_turnedRow 151 = .ok (.goto 8, 3) := by decide +kernel
theorem dX12_turnedRow_154 : decode cX12_turnedRow 154 = .ok (.ldc 110, 2) := by decide +kernel
theorem dX12_turnedRow_156 : decode cX12_turnedRow 156 = .ok (.iload 7, 2) := by decide +kernel
theorem dX12_turnedRow_158 : decode cX12_turnedRow 158 = .ok (.ior, 1) := by decide +kernel
theorem dX12_turnedRow_159 : decode cX12_turnedRow 159 = .ok (.invokevirtual 115, 3) := by decide +kernel
theorem dX12_turnedRow_162 : decode cX12_turnedRow 162 = .ok (.iinc 5 1, 3) := by decide +kernel
theorem dX12_turnedRow_165 : decode cX12_turnedRow 165 = .ok (.goto (-152), 3) := by decide +kernel
theorem dX12_turnedRow_168 : decode cX12_turnedRow 168 = .ok (.aload_n 0, 1) := by decide +kernel
theorem dX12_turnedRow_169 : decode cX12_turnedRow 169 = .ok (.iload_n 3, 1) := by decide +kernel
theorem dX12_turnedRow_170 : decode cX12_turnedRow 170 = .ok (.invokevirtual 122, 3) := by decide +kernel
theorem dX12_turnedRow_173 : decode cX12_turnedRow 173 = .ok (.return_, 1) := by decide +kernel
theorem dX12_makes_0 : decode cX12_makes 0 = .ok (.iconst 0, 1) := by decide +kernel
theorem dX12_makes_1 : decode cX12_makes 1 = .ok (.istore_n 3, 1) := by decide +kernel
theorem dX12_makes_2 : decode cX12_makes 2 = .ok (.iconst 0, 1) := by decide +kernel
theorem dX12_makes_3 : decode cX12_makes 3 = .ok (.istore 4, 2) := by decide +kernel
theorem dX12_makes_5 : decode cX12_makes 5 = .ok (.iconst 0, 1) := by decide +kernel
theorem dX12_makes_6 : decode cX12_makes 6 = .ok (.istore 5, 2) := by decide +kernel
theorem dX12_makes_8 : decode cX12_makes 8 = .ok (.iload 5, 2) := by decide +kernel
theorem dX12_makes_10 : decode cX12_makes 10 = .ok (.aload_n 0, 1) := by decide +kernel
theorem dX12_makes_11 : decode cX12_makes 11 = .ok (.getfield 43, 3) := by decide +kernel
theorem dX12_makes_14 : decode cX12_makes 14 = .ok (.iload_n 2, 1) := by decide +kernel
theorem dX12_makes_15 : decode cX12_makes 15 = .ok (.iaload, 1) := by decide +kernel
theorem dX12_makes_16 : decode cX12_makes 16 = .ok (.if_icmp .ge 117, 3) := by decide +kernel
theorem dX12_makes_19 : decode cX12_makes 19 = .ok (.aload_n 0, 1) := by decide +kernel
theorem dX12_makes_20 : decode cX12_makes 20 = .ok (.getfield 40, 3) := by decide +kernel
theorem dX12_makes_23 : decode cX12_makes 23 = .ok (.iload_n 2, 1) := by decide +kernel
theorem dX12_makes_24 : decode cX12_makes 24 = .ok (.aaload, 1) := by decide +kernel
theorem dX12_makes_25 : decode cX12_makes 25 = .ok (.iload 5, 2) := by decide +kernel
theorem dX12_makes_27 : decode cX12_makes 27 = .ok (.iaload, 1) := by decide +kernel
theorem dX12_makes_28 : decode cX12_makes 28 = .ok (.istore 6, 2) := by decide +kernel
theorem dX12_makes_30 : decode cX12_makes 30 = .ok (.iload 6, 2) := by decide +kernel
theorem dX12_makes_32 : decode cX12_makes 32 = .ok (.invokestatic 104, 3) := by decide +kernel
theorem dX12_makes_35 : decode cX12_makes 35 = .ok (.ldc 110, 2) := by decide +kernel
theorem dX12_makes_37 : decode cX12_makes 37 = .ok (.if_icmp .ne 22, 3) := by decide +kernel
theorem dX12_makes_40 : decode cX12_makes 40 = .ok (.aload_n 0, 1) := by decide +kernel
theorem dX12_makes_41 : decode cX12_makes 41 = .ok (.getfield 46, 3) := by decide +kernel
theorem dX12_makes_44 : decode cX12_makes 44 = .ok (.iload 4, 2) := by decide +kernel
theorem dX12_makes_46 : decode cX12_makes 46 = .ok (.iload 6, 2) := by decide +kernel
theorem dX12_makes_48 : decode cX12_makes 48 = .ok (.sipush 4095, 3) := by decide +kernel
theorem dX12_makes_51 : decode cX12_makes 51 = .ok (.iand, 1) := by decide +kernel
theorem dX12_makes_52 : decode cX12_makes 52 = .ok (.iastore, 1) := by decide +kernel
theorem dX12_makes_53 : decode cX12_makes 53 = .ok (.iinc 4 1, 3) := by decide +kernel
theorem dX12_makes_56 : decode cX12_makes 56 = .ok (.goto 71, 3) := by decide +kernel
theorem dX12_makes_59 : decode cX12_makes 59 = .ok (.aload_n 0, 1) := by decide +kernel
theorem dX12_makes_60 : decode cX12_makes 60 = .ok (.getfield 22, 3) := by decide +kernel
theorem dX12_makes_63 : decode cX12_makes 63 = .ok (.iload_n 1, 1) := by decide +kernel
theorem dX12_makes_64 : decode cX12_makes 64 = .ok (.aaload, 1) := by decide +kernel
theorem dX12_makes_65 : decode cX12_makes 65 = .ok (.iload_n 3, 1) := by decide +kernel
theorem dX12_makes_66 : decode cX12_makes 66 = .ok (.iaload, 1) := by decide +kernel
theorem dX12_makes_67 : decode cX12_makes 67 = .ok (.istore 7, 2) := by decide +kernel
theorem dX12_makes_69 : decode cX12_makes 69 = .ok (.iinc 3 1, 3) := by decide +kernel
theorem dX12_makes_72 : decode cX12_makes 72 = .ok (.iload 6, 2) := by decide +kernel
theorem dX12_makes_74 : decode cX12_makes 74 = .ok (.invokestatic 104, 3) := by decide +kernel
theorem dX12_makes_77 : decode cX12_makes 77 = .ok (.ldc 109, 2) := by decide +kernel
theorem dX12_makes_79 : decode cX12_makes 79 = .ok (.if_icmp .eq 48, 3) := by decide +kernel
theorem dX12_makes_82 : decode cX12_makes 82 = .ok (.aload_n 0, 1) := by decide +kernel
theorem dX12_makes_83 : decode cX12_makes 83 = .ok (.getfield 46, 3) := by decide +kernel
theorem dX12_makes_86 : decode cX12_makes 86 = .ok (.iload 4, 2) := by decide +kernel
theorem dX12_makes_88 : decode cX12_makes 88 = .ok (.iload 6, 2) := by decide +kernel
theorem dX12_makes_90 : decode cX12_makes 90 = .ok (.invokestatic 104, 3) := by decide +kernel
theorem dX12_makes_93 : decode cX12_makes 93 = .ok (.ldc 126, 2) := by decide +kernel
theorem dX12_makes_95 : decode cX12_makes 95 = .ok (.if_icmp .ne 26, 3) := by decide +kernel
theorem dX12_makes_98 : decode cX12_makes 98 = .ok (.iload 7, 2) := by decide +kernel
theorem dX12_makes_100 : decode cX12_makes 100 = .ok (.bipush 8, 2) := by decide +kernel
theorem dX12_makes_102 : decode cX12_makes 102 = .ok (.ishr, 1) := by decide +kernel
theorem dX12_makes_103 : decode cX12_makes 103 = .ok (.iload 6, 2) := by decide +kernel
theorem dX12_makes_105 : decode cX12_makes 105 = .ok (.invokestatic 127, 3) := by decide +kernel
theorem dX12_makes_108 : decode cX12_makes 108 = .ok (.bipush 8, 2) := by decide +kernel
theorem dX12_makes_110 : decode cX12_makes 110 = .ok (.ishl, 1) := by decide +kernel
theorem dX12_makes_111 : decode cX12_makes 111 = .ok (.iload 7, 2) := by decide +kernel
theorem dX12_makes_113 : decode cX12_makes 113 = .ok (.sipush 255, 3) := by decide +kernel
theorem dX12_makes_116 : decode cX12_makes 116 = .ok (.iand, 1) := by decide +kernel
theorem dX12_makes_117 : decode cX12_makes 117 = .ok (.ior, 1) := by decide +kernel
theorem dX12_makes_118 : decode cX12_makes 118 = .ok (.goto 5, 3) := by decide +kernel
theorem dX12_makes_121 : decode cX12_makes 121 = .ok (.iload 7, 2) := by decide +kernel
theorem dX12_makes_123 : decode cX12_makes 123 = .ok (.iastore, 1) := by decide +kernel
theorem dX12_makes_124 : decode cX12_makes 124 = .ok (.iinc 4 1, 3) := by decide +kernel
theorem dX12_makes_127 : decode cX12_makes 127 = .ok (.iinc 5 1, 3) := by decide +kernel
theorem dX12_makes_130 : decode cX12_makes 130 = .ok (.goto (-122), 3) := by decide +kernel
theorem dX12_makes_133 : decode cX12_makes 133 = .ok (.aload_n 0, 1) := by decide +kernel
theorem dX12_makes_134 : decode cX12_makes 134 = .ok (.getfield 22, 3) := by decide +kernel
theorem dX12_makes_137 : decode cX12_makes 137 = .ok (.iload_n 1, 1) := by decide +kernel
theorem dX12_makes_138 : decode cX12_makes 138 = .ok (.aload_n 0, 1) := by decide +kernel
theorem dX12_makes_139 : decode cX12_makes 139 = .ok (.getfield 22, 3) := by decide +kernel
theorem dX12_makes_142 : decode cX12_makes 142 = .ok (.iload_n 1, 1) := by decide +kernel
theorem dX12_makes_143 : decode cX12_makes 143 = .ok (.aaload, 1) := by decide +kernel
theorem dX12_makes_144 : decode cX12_makes 144 = .ok (.iload 4, 2) := by decide +kernel
theorem dX12_makes_146 : decode cX12_makes 146 = .ok (.invokestatic 93, 3) := by decide +kernel
theorem dX12_makes_149 : decode cX12_makes 149 = .ok (.aastore, 1) := by decide +kernel
theorem dX12_makes_150 : decode cX12_makes 150 = .ok (.aload_n 0, 1) := by decide +kernel
theorem dX12_makes_151 : decode cX12_makes 151 = .ok (.getfield 25, 3) := by decide +kernel
theorem dX12_makes_154 : decode cX12_makes 154 = .ok (.iload_n 1, 1) := by decide +kernel
theorem dX12_makes_155 : decode cX12_makes 155 = .ok (.iload 4, 2) := by decide +kernel
theorem dX12_makes_157 : decode cX12_makes 157 = .ok (.iastore, 1) := by decide +kernel
theorem dX12_makes_158 : decode cX12_makes 158 = .ok (.iconst 0, 1) := by decide +kernel
theorem dX12_makes_159 : decode cX12_makes 159 = .ok (.istore 5, 2) := by decide +kernel
theorem dX12_makes_161 : decode cX12_makes 161 = .ok (.iload 5, 2) := by decide +kernel
theorem dX12_makes_163 : decode cX12_makes 163 = .ok (.iload 4, 2) := by decide +kernel
theorem dX12_makes_165 : decode cX12_makes 165 = .ok (.if_icmp .ge 25, 3) := by decide +kernel
theorem dX12_makes_168 : decode cX12_makes 168 = .ok (.aload_n 0, 1) := by decide +kernel
theorem dX12_makes_169 : decode cX12_makes 169 = .ok (.getfield 22, 3) := by decide +kernel
theorem dX12_makes_172 : decode cX12_makes 172 = .ok (.iload_n 1, 1) := by decide +kernel
theorem dX12_makes_173 : decode cX12_makes 173 = .ok (.aaload, 1) := by decide +kernel
theorem dX12_makes_174 : decode cX12_makes 174 = .ok (.iload 5, 2) := by decide +kernel
theorem dX12_makes_176 : decode cX12_makes 176 = .ok (.aload_n 0, 1) := by decide +kernel
theorem dX12_makes_177 : decode cX12_makes 177 = .ok (.getfield 46, 3) := by decide +kernel
theorem dX12_makes_180 : decode cX12_makes 180 = .ok (.iload 5, 2) := by decide +kernel
theorem dX12_makes_182 : decode cX12_makes 182 = .ok (.iaload, 1) := by decide +kernel
theorem dX12_makes_183 : decode cX12_makes 183 = .ok (.iastore, 1) := by decide +kernel
theorem dX12_makes_184 : decode cX12_makes 184 = .ok (.iinc 5 1, 3) := by decide +kernel
theorem dX12_makes_187 : decode cX12_makes 187 = .ok (.goto (-26), 3) := by decide +kernel
theorem dX12_makes_190 : decode cX12_makes 190 = .ok (.return_, 1) := by decide +kernel
theorem dX12_cursorGoes_0 : decode cX12_cursorGoes 0 = .ok (.aload_n 0, 1) := by decide +kernel
theorem dX12_cursorGoes_1 : decode cX12_cursorGoes 1 = .ok (.getfield 28, 3) := by decide +kernel
theorem dX12_cursorGoes_4 : decode cX12_cursorGoes 4 = .ok (.bipush 8, 2) := by decide +kernel
theorem dX12_cursorGoes_6 : decode cX12_cursorGoes 6 = .ok (.iload_n 1, 1) := by decide +kernel
theorem dX12_cursorGoes_7 : decode cX12_cursorGoes 7 = .ok (.imul, 1) := by decide +kernel
theorem dX12_cursorGoes_8 : decode cX12_cursorGoes 8 = .ok (.bipush 6, 2) := by decide +kernel
theorem dX12_cursorGoes_10 : decode cX12_cursorGoes 10 = .ok (.iadd, 1) := by decide +kernel
theorem dX12_cursorGoes_11 : decode cX12_cursorGoes 11 = .ok (.aload_n 0, 1) := by decide +kernel
theorem dX12_cursorGoes_12 : decode cX12_cursorGoes 12 = .ok (.aload_n 0, 1) := by decide +kernel
theorem dX12_cursorGoes_13 : decode cX12_cursorGoes 13 = .ok (.iload_n 1, 1) := by decide +kernel
theorem dX12_cursorGoes_14 : decode cX12_cursorGoes 14 = .ok (.bipush 6, 2) := by decide +kernel
theorem dX12_cursorGoes_16 : decode cX12_cursorGoes 16 = .ok (.invokevirtual 135, 3) := by decide +kernel
theorem dX12_cursorGoes_19 : decode cX12_cursorGoes 19 = .ok (.iload_n 2, 1) := by decide +kernel
theorem dX12_cursorGoes_20 : decode cX12_cursorGoes 20 = .ok (.iload_n 3, 1) := by decide +kernel
theorem dX12_cursorGoes_21 : decode cX12_cursorGoes 21 = .ok (.invokevirtual 138, 3) := by decide +kernel
theorem dX12_cursorGoes_24 : decode cX12_cursorGoes 24 = .ok (.iastore, 1) := by decide +kernel
theorem dX12_cursorGoes_25 : decode cX12_cursorGoes 25 = .ok (.aload_n 0, 1) := by decide +kernel
theorem dX12_cursorGoes_26 : decode cX12_cursorGoes 26 = .ok (.getfield 28, 3) := by decide +kernel
theorem dX12_cursorGoes_29 : decode cX12_cursorGoes 29 = .ok (.bipush 8, 2) := by decide +kernel
theorem dX12_cursorGoes_31 : decode cX12_cursorGoes 31 = .ok (.iload_n 1, 1) := by decide +kernel
theorem dX12_cursorGoes_32 : decode cX12_cursorGoes 32 = .ok (.imul, 1) := by decide +kernel
theorem dX12_cursorGoes_33 : decode cX12_cursorGoes 33 = .ok (.bipush 7, 2) := by decide +kernel
theorem dX12_cursorGoes_35 : decode cX12_cursorGoes 35 = .ok (.iadd, 1) := by decide +kernel
theorem dX12_cursorGoes_36 : decode cX12_cursorGoes 36 = .ok (.aload_n 0, 1) := by decide +kernel
theorem dX12_cursorGoes_37 : decode cX12_cursorGoes 37 = .ok (.aload_n 0, 1) := by decide +kernel
theorem dX12_cursorGoes_38 : decode cX12_cursorGoes 38 = .ok (.iload_n 1, 1) := by decide +kernel
theorem dX12_cursorGoes_39 : decode cX12_cursorGoes 39 = .ok (.bipush 7, 2) := by decide +kernel
theorem dX12_cursorGoes_41 : decode cX12_cursorGoes 41 = .ok (.invokevirtual 135, 3) := by decide +kernel
theorem dX12_cursorGoes_44 : decode cX12_cursorGoes 44 = .ok (.iload_n 2, 1) := by decide +kernel
theorem dX12_cursorGoes_45 : decode cX12_cursorGoes 45 = .ok (.iload_n 3, 1) := by decide +kernel
theorem dX12_cursorGoes_46 : decode cX12_cursorGoes 46 = .ok (.invokevirtual 138, 3) := by decide +kernel
theorem dX12_cursorGoes_49 : decode cX12_cursorGoes 49 = .ok (.iastore, 1) := by decide +kernel
theorem dX12_cursorGoes_50 : decode cX12_cursorGoes 50 = .ok (.return_, 1) := by decide +kernel
theorem dX12_pushes_0 : decode cX12_pushes 0 = .ok (.iload_n 2, 1) := by decide +kernel
theorem dX12_pushes_1 : decode cX12_pushes 1 = .ok (.iconst 4, 1) := by decide +kernel
theorem dX12_pushes_2 : decode cX12_pushes 2 = .ok (.if_icmp .ne 8, 3) := by decide +kernel
theorem dX12_pushes_5 : decode cX12_pushes 5 = .ok (.bipush 24, 2) := by decide +kernel
theorem dX12_pushes_7 : decode cX12_pushes 7 = .ok (.goto 5, 3) := by decide +kernel
theorem dX12_pushes_10 : decode cX12_pushes 10 = .ok (.bipush 104, 2) := by decide +kernel
theorem dX12_pushes_12 : decode cX12_pushes 12 = .ok (.bipush 20, 2) := by decide +kernel
theorem dX12_pushes_14 : decode cX12_pushes 14 = .ok (.iload_n 1, 1) := by decide +kernel
theorem dX12_pushes_15 : decode cX12_pushes 15 = .ok (.imul, 1) := by decide +kernel
theorem dX12_pushes_16 : decode cX12_pushes 16 = .ok (.iadd, 1) := by decide +kernel
theorem dX12_pushes_17 : decode cX12_pushes 17 = .ok (.istore 4, 2) := by decide +kernel
theorem dX12_pushes_19 : decode cX12_pushes 19 = .ok (.aload_n 0, 1) := by decide +kernel
theorem dX12_pushes_20 : decode cX12_pushes 20 = .ok (.iload_n 1, 1) := by decide +kernel
theorem dX12_pushes_21 : decode cX12_pushes 21 = .ok (.iload_n 2, 1) := by decide +kernel
theorem dX12_pushes_22 : decode cX12_pushes 22 = .ok (.invokevirtual 135, 3) := by decide +kernel
theorem dX12_pushes_25 : decode cX12_pushes 25 = .ok (.istore 5, 2) := by decide +kernel
theorem dX12_pushes_27 : decode cX12_pushes 27 = .ok (.iload 5, 2) := by decide +kernel
theorem dX12_pushes_29 : decode cX12_pushes 29 = .ok (.bipush 20, 2) := by decide +kernel
theorem dX12_pushes_31 : decode cX12_pushes 31 = .ok (.if_icmp .ne 39, 3) := by decide +kernel
theorem dX12_pushes_34 : decode cX12_pushes 34 = .ok (.iconst 1, 1) := by decide +kernel
theorem dX12_pushes_35 : decode cX12_pushes 35 = .ok (.istore 6, 2) := by decide +kernel
theorem dX12_pushes_37 : decode cX12_pushes 37 = .ok (.iload 6, 2) := by decide +kernel
theorem dX12_pushes_39 : decode cX12_pushes 39 = .ok (.bipush 20, 2) := by decide +kernel
theorem dX12_pushes_41 : decode cX12_pushes 41 = .ok (.if_icmp .ge 25, 3) := by decide +kernel
theorem dX12_pushes_44 : decode cX12_pushes 44 = .ok (.aload_n 0, 1) := by decide +kernel
theorem dX12_pushes_45 : decode cX12_pushes 45 = .ok (.iload 4, 2) := by decide +kernel
theorem dX12_pushes_47 : decode cX12_pushes 47 = .ok (.iload 6, 2) := by decide +kernel
theorem dX12_pushes_49 : decode cX12_pushes 49 = .ok (.iadd, 1) := by decide +kernel
theorem dX12_pushes_50 : decode cX12_pushes 50 = .ok (.iload 4, 2) := by decide +kernel
theorem dX12_pushes_52 : decode cX12_pushes 52 = .ok (.iload 6, 2) := by decide +kernel
theorem dX12_pushes_54 : decode cX12_pushes 54 = .ok (.iadd, 1) := by decide +kernel
theorem dX12_pushes_55 : decode cX12_pushes 55 = .ok (.iconst 1, 1) := by decide +kernel
theorem dX12_pushes_56 : decode cX12_pushes 56 = .ok (.isub, 1) := by decide +kernel
theorem dX12_pushes_57 : decode cX12_pushes 57 = .ok (.invokevirtual 142, 3) := by decide +kernel
theorem dX12_pushes_60 : decode cX12_pushes 60 = .ok (.iinc 6 1, 3) := by decide +kernel
theorem dX12_pushes_63 : decode cX12_pushes 63 = .ok (.goto (-26), 3) := by decide +kernel
theorem dX12_pushes_66 : decode cX12_pushes 66 = .ok (.bipush 19, 2) := by decide +kernel
theorem dX12_pushes_68 : decode cX12_pushes 68 = .ok (.istore 5, 2) := by decide +kernel
theorem dX12_pushes_70 : decode cX12_pushes 70 = .ok (.aload_n 0, 1) := by decide +kernel
theorem dX12_pushes_71 : decode cX12_pushes 71 = .ok (.iload 4, 2) := by decide +kernel
theorem dX12_pushes_73 : decode cX12_pushes 73 = .ok (.iload 5, 2) := by decide +kernel
theorem dX12_pushes_75 : decode cX12_pushes 75 = .ok (.iadd, 1) := by decide +kernel
theorem dX12_pushes_76 : decode cX12_pushes 76 = .ok (.iload_n 3, 1) := by decide +kernel
theorem dX12_pushes_77 : decode cX12_pushes 77 = .ok (.invokevirtual 101, 3) := by decide +kernel
theorem dX12_pushes_80 : decode cX12_pushes 80 = .ok (.aload_n 0, 1) := by decide +kernel
theorem dX12_pushes_81 : decode cX12_pushes 81 = .ok (.getfield 28, 3) := by decide +kernel
theorem dX12_pushes_84 : decode cX12_pushes 84 = .ok (.bipush 8, 2) := by decide +kernel
theorem dX12_pushes_86 : decode cX12_pushes 86 = .ok (.iload_n 1, 1) := by decide +kernel
theorem dX12_pushes_87 : decode cX12_pushes 87 = .ok (.imul, 1) := by decide +kernel
theorem dX12_pushes_88 : decode cX12_pushes 88 = .ok (.iload_n 2, 1) := by decide +kernel
theorem dX12_pushes_89 : decode cX12_pushes 89 = .ok (.iadd, 1) := by decide +kernel
theorem dX12_pushes_90 : decode cX12_pushes 90 = .ok (.iload 5, 2) := by decide +kernel
theorem dX12_pushes_92 : decode cX12_pushes 92 = .ok (.iconst 1, 1) := by decide +kernel
theorem dX12_pushes_93 : decode cX12_pushes 93 = .ok (.iadd, 1) := by decide +kernel
theorem dX12_pushes_94 : decode cX12_pushes 94 = .ok (.iastore, 1) := by decide +kernel
theorem dX12_pushes_95 : decode cX12_pushes 95 = .ok (.return_, 1) := by decide +kernel
theorem dX12_keepsRow_0 : decode cX12_keepsRow 0 = .ok (.aload_n 0, 1) := by decide +kernel
theorem dX12_keepsRow_1 : decode cX12_keepsRow 1 = .ok (.getfield 11, 3) := by decide +kernel
theorem dX12_keepsRow_4 : decode cX12_keepsRow 4 = .ok (.iload_n 1, 1) := by decide +kernel
theorem dX12_keepsRow_5 : decode cX12_keepsRow 5 = .ok (.aload_n 0, 1) := by decide +kernel
theorem dX12_keepsRow_6 : decode cX12_keepsRow 6 = .ok (.getfield 11, 3) := by decide +kernel
theorem dX12_keepsRow_9 : decode cX12_keepsRow 9 = .ok (.iload_n 1, 1) := by decide +kernel
theorem dX12_keepsRow_10 : decode cX12_keepsRow 10 = .ok (.aaload, 1) := by decide +kernel
theorem dX12_keepsRow_11 : decode cX12_keepsRow 11 = .ok (.aload_n 0, 1) := by decide +kernel
theorem dX12_keepsRow_12 : decode cX12_keepsRow 12 = .ok (.getfield 43, 3) := by decide +kernel
theorem dX12_keepsRow_15 : decode cX12_keepsRow 15 = .ok (.iload_n 2, 1) := by decide +kernel
theorem dX12_keepsRow_16 : decode cX12_keepsRow 16 = .ok (.iaload, 1) := by decide +kernel
theorem dX12_keepsRow_17 : decode cX12_keepsRow 17 = .ok (.invokestatic 93, 3) := by decide +kernel
theorem dX12_keepsRow_20 : decode cX12_keepsRow 20 = .ok (.aastore, 1) := by decide +kernel
theorem dX12_keepsRow_21 : decode cX12_keepsRow 21 = .ok (.iconst 0, 1) := by decide +kernel
theorem dX12_keepsRow_22 : decode cX12_keepsRow 22 = .ok (.istore_n 3, 1) := by decide +kernel
theorem dX12_keepsRow_23 : decode cX12_keepsRow 23 = .ok (.iload_n 3, 1) := by decide +kernel
theorem dX12_keepsRow_24 : decode cX12_keepsRow 24 = .ok (.aload_n 0, 1) := by decide +kernel
theorem dX12_keepsRow_25 : decode cX12_keepsRow 25 = .ok (.getfield 43, 3) := by decide +kernel
theorem dX12_keepsRow_28 : decode cX12_keepsRow 28 = .ok (.iload_n 2, 1) := by decide +kernel
theorem dX12_keepsRow_29 : decode cX12_keepsRow 29 = .ok (.iaload, 1) := by decide +kernel
theorem dX12_keepsRow_30 : decode cX12_keepsRow 30 = .ok (.if_icmp .ge 25, 3) := by decide +kernel
theorem dX12_keepsRow_33 : decode cX12_keepsRow 33 = .ok (.aload_n 0, 1) := by decide +kernel
theorem dX12_keepsRow_34 : decode cX12_keepsRow 34 = .ok (.getfield 11, 3) := by decide +kernel
theorem dX12_keepsRow_37 : decode cX12_keepsRow 37 = .ok (.iload_n 1, 1) := by decide +kernel
theorem dX12_keepsRow_38 : decode cX12_keepsRow 38 = .ok (.aaload, 1) := by decide +kernel
theorem dX12_keepsRow_39 : decode cX12_keepsRow 39 = .ok (.iload_n 3, 1) := by decide +kernel
theorem dX12_keepsRow_40 : decode cX12_keepsRow 40 = .ok (.aload_n 0, 1) := by decide +kernel
theorem dX12_keepsRow_41 : decode cX12_keepsRow 41 = .ok (.getfield 40, 3) := by decide +kernel
theorem dX12_keepsRow_44 : decode cX12_keepsRow 44 = .ok (.iload_n 2, 1) := by decide +kernel
theorem dX12_keepsRow_45 : decode cX12_keepsRow 45 = .ok (.aaload, 1) := by decide +kernel
theorem dX12_keepsRow_46 : decode cX12_keepsRow 46 = .ok (.iload_n 3, 1) := by decide +kernel
theorem dX12_keepsRow_47 : decode cX12_keepsRow 47 = .ok (.iaload, 1) := by decide +kernel
theorem dX12_keepsRow_48 : decode cX12_keepsRow 48 = .ok (.iastore, 1) := by decide +kernel
theorem dX12_keepsRow_49 : decode cX12_keepsRow 49 = .ok (.iinc 3 1, 3) := by decide +kernel
theorem dX12_keepsRow_52 : decode cX12_keepsRow 52 = .ok (.goto (-29), 3) := by decide +kernel
theorem dX12_keepsRow_55 : decode cX12_keepsRow 55 = .ok (.aload_n 0, 1) := by decide +kernel
theorem dX12_keepsRow_56 : decode cX12_keepsRow 56 = .ok (.getfield 14, 3) := by decide +kernel
theorem dX12_keepsRow_59 : decode cX12_keepsRow 59 = .ok (.iload_n 1, 1) := by decide +kernel
theorem dX12_keepsRow_60 : decode cX12_keepsRow 60 = .ok (.aload_n 0, 1) := by decide +kernel
theorem dX12_keepsRow_61 : decode cX12_keepsRow 61 = .ok (.getfield 43, 3) := by decide +kernel
theorem dX12_keepsRow_64 : decode cX12_keepsRow 64 = .ok (.iload_n 2, 1) := by decide +kernel
theorem dX12_keepsRow_65 : decode cX12_keepsRow 65 = .ok (.iaload, 1) := by decide +kernel
theorem dX12_keepsRow_66 : decode cX12_keepsRow 66 = .ok (.iastore, 1) := by decide +kernel
theorem dX12_keepsRow_67 : decode cX12_keepsRow 67 = .ok (.return_, 1) := by decide +kernel
theorem dX12_takesRow_0 : decode cX12_takesRow 0 = .ok (.aload_n 0, 1) := by decide +kernel
theorem dX12_takesRow_1 : decode cX12_takesRow 1 = .ok (.getfield 43, 3) := by decide +kernel
theorem dX12_takesRow_4 : decode cX12_takesRow 4 = .ok (.iload_n 1, 1) := by decide +kernel
theorem dX12_takesRow_5 : decode cX12_takesRow 5 = .ok (.aload_n 0, 1) := by decide +kernel
theorem dX12_takesRow_6 : decode cX12_takesRow 6 = .ok (.getfield 14, 3) := by decide +kernel
theorem dX12_takesRow_9 : decode cX12_takesRow 9 = .ok (.iload_n 2, 1) := by decide +kernel
theorem dX12_takesRow_10 : decode cX12_takesRow 10 = .ok (.iaload, 1) := by decide +kernel
theorem dX12_takesRow_11 : decode cX12_takesRow 11 = .ok (.iastore, 1) := by decide +kernel
theorem dX12_takesRow_12 : decode cX12_takesRow 12 = .ok (.iconst 0, 1) := by decide +kernel
theorem dX12_takesRow_13 : decode cX12_takesRow 13 = .ok (.istore_n 3, 1) := by decide +kernel
theorem dX12_takesRow_14 : decode cX12_takesRow 14 = .ok (.iload_n 3, 1) := by decide +kernel
theorem dX12_takesRow_15 : decode cX12_takesRow 15 = .ok (.aload_n 0, 1) := by decide +kernel
theorem dX12_takesRow_16 : decode cX12_takesRow 16 = .ok (.getfield 14, 3) := by decide +kernel
theorem dX12_takesRow_19 : decode cX12_takesRow 19 = .ok (.iload_n 2, 1) := by decide +kernel
theorem dX12_takesRow_20 : decode cX12_takesRow 20 = .ok (.iaload, 1) := by decide +kernel
theorem dX12_takesRow_21 : decode cX12_takesRow 21 = .ok (.if_icmp .ge 25, 3) := by decide +kernel
theorem dX12_takesRow_24 : decode cX12_takesRow 24 = .ok (.aload_n 0, 1) := by decide +kernel
theorem dX12_takesRow_25 : decode cX12_takesRow 25 = .ok (.getfield 40, 3) := by decide +kernel
theorem dX12_takesRow_28 : decode cX12_takesRow 28 = .ok (.iload_n 1, 1) := by decide +kernel
theorem dX12_takesRow_29 : decode cX12_takesRow 29 = .ok (.aaload, 1) := by decide +kernel
theorem dX12_takesRow_30 : decode cX12_takesRow 30 = .ok (.iload_n 3, 1) := by decide +kernel
theorem dX12_takesRow_31 : decode cX12_takesRow 31 = .ok (.aload_n 0, 1) := by decide +kernel
theorem dX12_takesRow_32 : decode cX12_takesRow 32 = .ok (.getfield 11, 3) := by decide +kernel
theorem dX12_takesRow_35 : decode cX12_takesRow 35 = .ok (.iload_n 2, 1) := by decide +kernel
theorem dX12_takesRow_36 : decode cX12_takesRow 36 = .ok (.aaload, 1) := by decide +kernel
theorem dX12_takesRow_37 : decode cX12_takesRow 37 = .ok (.iload_n 3, 1) := by decide +kernel
theorem dX12_takesRow_38 : decode cX12_takesRow 38 = .ok (.iaload, 1) := by decide +kernel
theorem dX12_takesRow_39 : decode cX12_takesRow 39 = .ok (.iastore, 1) := by decide +kernel
theorem dX12_takesRow_40 : decode cX12_takesRow 40 = .ok (.iinc 3 1, 3) := by decide +kernel
theorem dX12_takesRow_43 : decode cX12_takesRow 43 = .ok (.goto (-29), 3) := by decide +kernel
theorem dX12_takesRow_46 : decode cX12_takesRow 46 = .ok (.return_, 1) := by decide +kernel
theorem dX12_behindRow_0 : decode cX12_behindRow 0 = .ok (.iconst 0, 1) := by decide +kernel
theorem dX12_behindRow_1 : decode cX12_behindRow 1 = .ok (.istore 4, 2) := by decide +kernel
theorem dX12_behindRow_3 : decode cX12_behindRow 3 = .ok (.iconst 0, 1) := by decide +kernel
theorem dX12_behindRow_4 : decode cX12_behindRow 4 = .ok (.istore 5, 2) := by decide +kernel
theorem dX12_behindRow_6 : decode cX12_behindRow 6 = .ok (.aload_n 0, 1) := by decide +kernel
theorem dX12_behindRow_7 : decode cX12_behindRow 7 = .ok (.getfield 43, 3) := by decide +kernel
theorem dX12_behindRow_10 : decode cX12_behindRow 10 = .ok (.iload_n 3, 1) := by decide +kernel
theorem dX12_behindRow_11 : decode cX12_behindRow 11 = .ok (.iconst 0, 1) := by decide +kernel
theorem dX12_behindRow_12 : decode cX12_behindRow 12 = .ok (.iastore, 1) := by decide +kernel
theorem dX12_behindRow_13 : decode cX12_behindRow 13 = .ok (.iload 4, 2) := by decide +kernel
theorem dX12_behindRow_15 : decode cX12_behindRow 15 = .ok (.aload_n 0, 1) := by decide +kernel
theorem dX12_behindRow_16 : decode cX12_behindRow 16 = .ok (.getfield 43, 3) := by decide +kernel
theorem dX12_behindRow_19 : decode cX12_behindRow 19 = .ok (.iload_n 1, 1) := by decide +kernel
theorem dX12_behindRow_20 : decode cX12_behindRow 20 = .ok (.iaload, 1) := by decide +kernel
theorem dX12_behindRow_21 : decode cX12_behindRow 21 = .ok (.if_icmp .lt 14, 3) := by decide +kernel
theorem dX12_behindRow_24 : decode cX12_behindRow 24 = .ok (.iload 5, 2) := by decide +kernel
theorem dX12_behindRow_26 : decode cX12_behindRow 26 = .ok (.aload_n 0, 1) := by decide +kernel
theorem dX12_behindRow_27 : decode cX12_behindRow 27 = .ok (.getfield 43, 3) := by decide +kernel
theorem dX12_behindRow_30 : decode cX12_behindRow 30 = .ok (.iload_n 2, 1) := by decide +kernel
theorem dX12_behindRow_31 : decode cX12_behindRow 31 = .ok (.iaload, 1) := by decide +kernel
theorem dX12_behindRow_32 : decode cX12_behindRow 32 = .ok (.if_icmp .ge 119, 3) := by decide +kernel
theorem dX12_behindRow_35 : decode cX12_behindRow 35 = .ok (.iload 4, 2) := by decide +kernel
theorem dX12_behindRow_37 : decode cX12_behindRow 37 = .ok (.aload_n 0, 1) := by decide +kernel
theorem dX12_behindRow_38 : decode cX12_behindRow 38 = .ok (.getfield 43, 3) := by decide +kernel
theorem dX12_behindRow_41 : decode cX12_behindRow 41 = .ok (.iload_n 1, 1) := by decide +kernel
theorem dX12_behindRow_42 : decode cX12_behindRow 42 = .ok (.iaload, 1) := by decide +kernel
theorem dX12_behindRow_43 : decode cX12_behindRow 43 = .ok (.if_icmp .ge 15, 3) := by decide +kernel
theorem dX12_behindRow_46 : decode cX12_behindRow 46 = .ok (.aload_n 0, 1) := by decide +kernel
theorem dX12_behindRow_47 : decode cX12_behindRow 47 = .ok (.getfield 40, 3) := by decide +kernel
theorem dX12_behindRow_50 : decode cX12_behindRow 50 = .ok (.iload_n 1, 1) := by decide +kernel
theorem dX12_behindRow_51 : decode cX12_behindRow 51 = .ok (.aaload, 1) := by decide +kernel
theorem dX12_behindRow_52 : decode cX12_behindRow 52 = .ok (.iload 4, 2) := by decide +kernel
theorem dX12_behindRow_54 : decode cX12_behindRow 54 = .ok (.iaload, 1) := by decide +kernel
theorem dX12_behindRow_55 : decode cX12_behindRow 55 = .ok (.goto 4, 3) := by decide +kernel
theorem dX12_behindRow_58 : decode cX12_behindRow 58 = .ok (.iconst 0, 1) := by decide +kernel
theorem dX12_behindRow_59 : decode cX12_behindRow 59 = .ok (.istore 6, 2) := by decide +kernel
theorem dX12_behindRow_61 : decode cX12_behindRow 61 = .ok (.iload 5, 2) := by decide +kernel
theorem dX12_behindRow_63 : decode cX12_behindRow 63 = .ok (.aload_n 0, 1) := by decide +kernel
theorem dX12_behindRow_64 : decode cX12_behindRow 64 = .ok (.getfield 43, 3) := by decide +kernel
theorem dX12_behindRow_67 : decode cX12_behindRow 67 = .ok (.iload_n 2, 1) := by decide +kernel
theorem dX12_behindRow_68 : decode cX12_behindRow 68 = .ok (.iaload, 1) := by decide +kernel
theorem dX12_behindRow_69 : decode cX12_behindRow 69 = .ok (.if_icmp .ge 15, 3) := by decide +kernel
theorem dX12_behindRow_72 : decode cX12_behindRow 72 = .ok (.aload_n 0, 1) := by decide +kernel
theorem dX12_behindRow_73 : decode cX12_behindRow 73 = .ok (.getfield 40, 3) := by decide +kernel
theorem dX12_behindRow_76 : decode cX12_behindRow 76 = .ok (.iload_n 2, 1) := by decide +kernel
theorem dX12_behindRow_77 : decode cX12_behindRow 77 = .ok (.aaload, 1) := by decide +kernel
theorem dX12_behindRow_78 : decode cX12_behindRow 78 = .ok (.iload 5, 2) := by decide +kernel
theorem dX12_behindRow_80 : decode cX12_behindRow 80 = .ok (.iaload, 1) := by decide +kernel
theorem dX12_behindRow_81 : decode cX12_behindRow 81 = .ok (.goto 4, 3) := by decide +kernel
theorem dX12_behindRow_84 : decode cX12_behindRow 84 = .ok (.iconst 0, 1) := by decide +kernel
theorem dX12_behindRow_85 : decode cX12_behindRow 85 = .ok (.istore 7, 2) := by decide +kernel
theorem dX12_behindRow_87 : decode cX12_behindRow 87 = .ok (.iload 6, 2) := by decide +kernel
theorem dX12_behindRow_89 : decode cX12_behindRow 89 = .ok (.invokestatic 104, 3) := by decide +kernel
theorem dX12_behindRow_92 : decode cX12_behindRow 92 = .ok (.ldc 109, 2) := by decide +kernel
theorem dX12_behindRow_94 : decode cX12_behindRow 94 = .ok (.if_icmp .ne 16, 3) := by decide +kernel
theorem dX12_behindRow_97 : decode cX12_behindRow 97 = .ok (.aload_n 0, 1) := by decide +kernel
theorem dX12_behindRow_98 : decode cX12_behindRow 98 = .ok (.iload_n 3, 1) := by decide +kernel
theorem dX12_behindRow_99 : decode cX12_behindRow 99 = .ok (.iload 6, 2) := by decide +kernel
theorem dX12_behindRow_101 : decode cX12_behindRow 101 = .ok (.invokevirtual 115, 3) := by decide +kernel
theorem dX12_behindRow_104 : decode cX12_behindRow 104 = .ok (.iinc 4 1, 3) := by decide +kernel
theorem dX12_behindRow_107 : decode cX12_behindRow 107 = .ok (.goto 41, 3) := by decide +kernel
theorem dX12_behindRow_110 : decode cX12_behindRow 110 = .ok (.iload 7, 2) := by decide +kernel
theorem dX12_behindRow_112 : decode cX12_behindRow 112 = .ok (.invokestatic 104, 3) := by decide +kernel
theorem dX12_behindRow_115 : decode cX12_behindRow 115 = .ok (.ldc 110, 2) := by decide +kernel
theorem dX12_behindRow_117 : decode cX12_behindRow 117 = .ok (.if_icmp .ne 16, 3) := by decide +kernel
theorem dX12_behindRow_120 : decode cX12_behindRow 120 = .ok (.aload_n 0, 1) := by decide +kernel
theorem dX12_behindRow_121 : decode cX12_behindRow 121 = .ok (.iload_n 3, 1) := by decide +kernel
theorem dX12_behindRow_122 : decode cX12_behindRow 122 = .ok (.iload 7, 2) := by decide +kernel
theorem dX12_behindRow_124 : decode cX12_behindRow 124 = .ok (.invokevirtual 115, 3) := by decide +kernel
theorem dX12_behindRow_127 : decode cX12_behindRow 127 = .ok (.iinc 5 1, 3) := by decide +kernel
theorem dX12_behindRow_130 : decode cX12_behindRow 130 = .ok (.goto 18, 3) := by decide +kernel
theorem dX12_behindRow_133 : decode cX12_behindRow 133 = .ok (.iinc 4 1, 3) := by decide +kernel
theorem dX12_behindRow_136 : decode cX12_behindRow 136 = .ok (.iinc 5 1, 3) := by decide +kernel
theorem dX12_behindRow_139 : decode cX12_behindRow 139 = .ok (.aload_n 0, 1) := by decide +kernel
theorem dX12_behindRow_140 : decode cX12_behindRow 140 = .ok (.iload 6, 2) := by decide +kernel
theorem dX12_behindRow_142 : decode cX12_behindRow 142 = .ok (.iload 7, 2) := by decide +kernel
theorem dX12_behindRow_144 : decode cX12_behindRow 144 = .ok (.iload_n 3, 1) := by decide +kernel
theorem dX12_behindRow_145 : decode cX12_behindRow 145 = .ok (.invokevirtual 118, 3) := by decide +kernel
theorem dX12_behindRow_148 : decode cX12_behindRow 148 = .ok (.goto (-135), 3) := by decide +kernel
theorem dX12_behindRow_151 : decode cX12_behindRow 151 = .ok (.aload_n 0, 1) := by decide +kernel
theorem dX12_behindRow_152 : decode cX12_behindRow 152 = .ok (.iload_n 3, 1) := by decide +kernel
theorem dX12_behindRow_153 : decode cX12_behindRow 153 = .ok (.invokevirtual 122, 3) := by decide +kernel
theorem dX12_behindRow_156 : decode cX12_behindRow 156 = .ok (.return_, 1) := by decide +kernel
theorem dX12_isFull_0 : decode cX12_isFull 0 = .ok (.aload_n 0, 1) := by decide +kernel
theorem dX12_isFull_1 : decode cX12_isFull 1 = .ok (.iload_n 2, 1) := by decide +kernel
theorem dX12_isFull_2 : decode cX12_isFull 2 = .ok (.invokevirtual 161, 3) := by decide +kernel
theorem dX12_isFull_5 : decode cX12_isFull 5 = .ok (.bipush 60, 2) := by decide +kernel
theorem dX12_isFull_7 : decode cX12_isFull 7 = .ok (.if_icmp .le 21, 3) := by decide +kernel
theorem dX12_isFull_10 : decode cX12_isFull 10 = .ok (.aload_n 0, 1) := by decide +kernel
theorem dX12_isFull_11 : decode cX12_isFull 11 = .ok (.iload_n 2, 1) := by decide +kernel
theorem dX12_isFull_12 : decode cX12_isFull 12 = .ok (.invokevirtual 161, 3) := by decide +kernel
theorem dX12_isFull_15 : decode cX12_isFull 15 = .ok (.aload_n 0, 1) := by decide +kernel
theorem dX12_isFull_16 : decode cX12_isFull 16 = .ok (.getfield 25, 3) := by decide +kernel
theorem dX12_isFull_19 : decode cX12_isFull 19 = .ok (.iload_n 1, 1) := by decide +kernel
theorem dX12_isFull_20 : decode cX12_isFull 20 = .ok (.iaload, 1) := by decide +kernel
theorem dX12_isFull_21 : decode cX12_isFull 21 = .ok (.if_icmp .le 7, 3) := by decide +kernel
theorem dX12_isFull_24 : decode cX12_isFull 24 = .ok (.iconst 1, 1) := by decide +kernel
theorem dX12_isFull_25 : decode cX12_isFull 25 = .ok (.goto 4, 3) := by decide +kernel
theorem dX12_isFull_28 : decode cX12_isFull 28 = .ok (.iconst 0, 1) := by decide +kernel
theorem dX12_isFull_29 : decode cX12_isFull 29 = .ok (.ireturn, 1) := by decide +kernel
theorem dX12_overRow_0 : decode cX12_overRow 0 = .ok (.iconst 0, 1) := by decide +kernel
theorem dX12_overRow_1 : decode cX12_overRow 1 = .ok (.istore 5, 2) := by decide +kernel
theorem dX12_overRow_3 : decode cX12_overRow 3 = .ok (.iconst 0, 1) := by decide +kernel
theorem dX12_overRow_4 : decode cX12_overRow 4 = .ok (.istore 6, 2) := by decide +kernel
theorem dX12_overRow_6 : decode cX12_overRow 6 = .ok (.aload_n 0, 1) := by decide +kernel
theorem dX12_overRow_7 : decode cX12_overRow 7 = .ok (.getfield 43, 3) := by decide +kernel
theorem dX12_overRow_10 : decode cX12_overRow 10 = .ok (.iload 4, 2) := by decide +kernel
theorem dX12_overRow_12 : decode cX12_overRow 12 = .ok (.iconst 0, 1) := by decide +kernel
theorem dX12_overRow_13 : decode cX12_overRow 13 = .ok (.iastore, 1) := by decide +kernel
theorem dX12_overRow_14 : decode cX12_overRow 14 = .ok (.iload 5, 2) := by decide +kernel
theorem dX12_overRow_16 : decode cX12_overRow 16 = .ok (.aload_n 0, 1) := by decide +kernel
theorem dX12_overRow_17 : decode cX12_overRow 17 = .ok (.getfield 43, 3) := by decide +kernel
theorem dX12_overRow_20 : decode cX12_overRow 20 = .ok (.iload_n 1, 1) := by decide +kernel
theorem dX12_overRow_21 : decode cX12_overRow 21 = .ok (.iaload, 1) := by decide +kernel
theorem dX12_overRow_22 : decode cX12_overRow 22 = .ok (.if_icmp .lt 14, 3) := by decide +kernel
theorem dX12_overRow_25 : decode cX12_overRow 25 = .ok (.iload 6, 2) := by decide +kernel
theorem dX12_overRow_27 : decode cX12_overRow 27 = .ok (.aload_n 0, 1) := by decide +kernel
theorem dX12_overRow_28 : decode cX12_overRow 28 = .ok (.getfield 43, 3) := by decide +kernel
theorem dX12_overRow_31 : decode cX12_overRow 31 = .ok (.iload_n 2, 1) := by decide +kernel
theorem dX12_overRow_32 : decode cX12_overRow 32 = .ok (.iaload, 1) := by decide +kernel
theorem dX12_overRow_33 : decode cX12_overRow 33 = .ok (.if_icmp .ge 162, 3) := by decide +kernel
theorem dX12_overRow_36 : decode cX12_overRow 36 = .ok (.iload 5, 2) := by decide +kernel
theorem dX12_overRow_38 : decode cX12_overRow 38 = .ok (.aload_n 0, 1) := by decide +kernel
theorem dX12_overRow_39 : decode cX12_overRow 39 = .ok (.getfield 43, 3) := by decide +kernel
theorem dX12_overRow_42 : decode cX12_overRow 42 = .ok (.iload_n 1, 1) := by decide +kernel
theorem dX12_overRow_43 : decode cX12_overRow 43 = .ok (.iaload, 1) := by decide +kernel
theorem dX12_overRow_44 : decode cX12_overRow 44 = .ok (.if_icmp .ge 24, 3) := by decide +kernel
theorem dX12_overRow_47 : decode cX12_overRow 47 = .ok (.aload_n 0, 1) := by decide +kernel
theorem dX12_overRow_48 : decode cX12_overRow 48 = .ok (.getfield 40, 3) := by decide +kernel
theorem dX12_overRow_51 : decode cX12_overRow 51 = .ok (.iload_n 1, 1) := by decide +kernel
theorem dX12_overRow_52 : decode cX12_overRow 52 = .ok (.aaload, 1) := by decide +kernel
theorem dX12_overRow_53 : decode cX12_overRow 53 = .ok (.iload 5, 2) := by decide +kernel
theorem dX12_overRow_55 : decode cX12_overRow 55 = .ok (.iaload, 1) := by decide +kernel
theorem dX12_overRow_56 : decode cX12_overRow 56 = .ok (.invokestatic 104, 3) := by decide +kernel
theorem dX12_overRow_59 : decode cX12_overRow 59 = .ok (.ldc 110, 2) := by decide +kernel
theorem dX12_overRow_61 : decode cX12_overRow 61 = .ok (.if_icmp .ne 7, 3) := by decide +kernel
theorem dX12_overRow_64 : decode cX12_overRow 64 = .ok (.iconst 1, 1) := by decide +kernel
theorem dX12_overRow_65 : decode cX12_overRow 65 = .ok (.goto 4, 3) := by decide +kernel
theorem dX12_overRow_68 : decode cX12_overRow 68 = .ok (.iconst 0, 1) := by decide +kernel
theorem dX12_overRow_69 : decode cX12_overRow 69 = .ok (.istore 7, 2) := by decide +kernel
theorem dX12_overRow_71 : decode cX12_overRow 71 = .ok (.iload 6, 2) := by decide +kernel
theorem dX12_overRow_73 : decode cX12_overRow 73 = .ok (.aload_n 0, 1) := by decide +kernel
theorem dX12_overRow_74 : decode cX12_overRow 74 = .ok (.getfield 43, 3) := by decide +kernel
theorem dX12_overRow_77 : decode cX12_overRow 77 = .ok (.iload_n 2, 1) := by decide +kernel
theorem dX12_overRow_78 : decode cX12_overRow 78 = .ok (.iaload, 1) := by decide +kernel
theorem dX12_overRow_79 : decode cX12_overRow 79 = .ok (.if_icmp .ge 24, 3) := by decide +kernel
theorem dX12_overRow_82 : decode cX12_overRow 82 = .ok (.aload_n 0, 1) := by decide +kernel
theorem dX12_overRow_83 : decode cX12_overRow 83 = .ok (.getfield 40, 3) := by decide +kernel
theorem dX12_overRow_86 : decode cX12_overRow 86 = .ok (.iload_n 2, 1) := by decide +kernel
theorem dX12_overRow_87 : decode cX12_overRow 87 = .ok (.aaload, 1) := by decide +kernel
theorem dX12_overRow_88 : decode cX12_overRow 88 = .ok (.iload 6, 2) := by decide +kernel
theorem dX12_overRow_90 : decode cX12_overRow 90 = .ok (.iaload, 1) := by decide +kernel
theorem dX12_overRow_91 : decode cX12_overRow 91 = .ok (.invokestatic 104, 3) := by decide +kernel
theorem dX12_overRow_94 : decode cX12_overRow 94 = .ok (.ldc 110, 2) := by decide +kernel
theorem dX12_overRow_96 : decode cX12_overRow 96 = .ok (.if_icmp .ne 7, 3) := by decide +kernel
theorem dX12_overRow_99 : decode cX12_overRow 99 = .ok (.iconst 1, 1) := by decide +kernel
theorem dX12_overRow_100 : decode cX12_overRow 100 = .ok (.goto 4, 3) := by decide +kernel
theorem dX12_overRow_103 : decode cX12_overRow 103 = .ok (.iconst 0, 1) := by decide +kernel
theorem dX12_overRow_104 : decode cX12_overRow 104 = .ok (.istore 8, 2) := by decide +kernel
theorem dX12_overRow_106 : decode cX12_overRow 106 = .ok (.iload 7, 2) := by decide +kernel
theorem dX12_overRow_108 : decode cX12_overRow 108 = .ok (.ifCond .eq 34, 3) := by decide +kernel
theorem dX12_overRow_111 : decode cX12_overRow 111 = .ok (.iload_n 3, 1) := by decide +kernel
theorem dX12_overRow_112 : decode cX12_overRow 112 = .ok (.iconst 1, 1) := by decide +kernel
theorem dX12_overRow_113 : decode cX12_overRow 113 = .ok (.if_icmp .eq 8, 3) := by decide +kernel
theorem dX12_overRow_116 : decode cX12_overRow 116 = .ok (.iload 8, 2) := by decide +kernel
theorem dX12_overRow_118 : decode cX12_overRow 118 = .ok (.ifCond .ne 24, 3) := by decide +kernel
theorem dX12_overRow_121 : decode cX12_overRow 121 = .ok (.aload_n 0, 1) := by decide +kernel
theorem dX12_overRow_122 : decode cX12_overRow 122 = .ok (.iload 4, 2) := by decide +kernel
theorem dX12_overRow_124 : decode cX12_overRow 124 = .ok (.aload_n 0, 1) := by decide +kernel
theorem dX12_overRow_125 : decode cX12_overRow 125 = .ok (.getfield 40, 3) := by decide +kernel
theorem dX12_overRow_128 : decode cX12_overRow 128 = .ok (.iload_n 1, 1) := by decide +kernel
theorem dX12_overRow_129 : decode cX12_overRow 129 = .ok (.aaload, 1) := by decide +kernel
theorem dX12_overRow_130 : decode cX12_overRow 130 = .ok (.iload 5, 2) := by decide +kernel
theorem dX12_overRow_132 : decode cX12_overRow 132 = .ok (.iaload, 1) := by decide +kernel
theorem dX12_overRow_133 : decode cX12_overRow 133 = .ok (.invokevirtual 115, 3) := by decide +kernel
theorem dX12_overRow_136 : decode cX12_overRow 136 = .ok (.iinc 5 1, 3) := by decide +kernel
theorem dX12_overRow_139 : decode cX12_overRow 139 = .ok (.goto 53, 3) := by decide +kernel
theorem dX12_overRow_142 : decode cX12_overRow 142 = .ok (.iload 8, 2) := by decide +kernel
theorem dX12_overRow_144 : decode cX12_overRow 144 = .ok (.ifCond .eq 17, 3) := by decide +kernel
theorem dX12_overRow_147 : decode cX12_overRow 147 = .ok (.aload_n 0, 1) := by decide +kernel
theorem dX12_overRow_148 : decode cX12_overRow 148 = .ok (.iload 4, 2) := by decide +kernel
theorem dX12_overRow_150 : decode cX12_overRow 150 = .ok (.ldc 108, 2) := by decide +kernel
theorem dX12_overRow_152 : decode cX12_overRow 152 = .ok (.invokevirtual 115, 3) := by decide +kernel
theorem dX12_overRow_155 : decode cX12_overRow 155 = .ok (.iinc 6 1, 3) := by decide +kernel
theorem dX12_overRow_158 : decode cX12_overRow 158 = .ok (.goto 34, 3) := by decide +kernel
theorem dX12_overRow_161 : decode cX12_overRow 161 = .ok (.aload_n 0, 1) := by decide +kernel
theorem dX12_overRow_162 : decode cX12_overRow 162 = .ok (.aload_n 0, 1) := by decide +kernel
theorem dX12_overRow_163 : decode cX12_overRow 163 = .ok (.getfield 40, 3) := by decide +kernel
theorem dX12_overRow_166 : decode cX12_overRow 166 = .ok (.iload_n 1, 1) := by decide +kernel
theorem dX12_overRow_167 : decode cX12_overRow 167 = .ok (.aaload, 1) := by decide +kernel
theorem dX12_overRow_168 : decode cX12_overRow 168 = .ok (.iload 5, 2) := by decide +kernel
theorem dX12_overRow_170 : decode cX12_overRow 170 = .ok (.iaload, 1) := by decide +kernel
theorem dX12_overRow_171 : decode cX12_overRow 171 = .ok (.aload_n 0, 1) := by decide +kernel
theorem dX12_overRow_172 : decode cX12_overRow 172 = .ok (.getfield 40, 3) := by decide +kernel
theorem dX12_overRow_175 : decode cX12_overRow 175 = .ok (.iload_n 2, 1) := by decide +kernel
theorem dX12_overRow_176 : decode cX12_overRow 176 = .ok (.aaload, 1) := by decide +kernel
theorem dX12_overRow_177 : decode cX12_overRow 177 = .ok (.iload 6, 2) := by decide +kernel
theorem dX12_overRow_179 : decode cX12_overRow 179 = .ok (.iaload, 1) := by decide +kernel
theorem dX12_overRow_180 : decode cX12_overRow 180 = .ok (.iload_n 3, 1) := by decide +kernel
theorem dX12_overRow_181 : decode cX12_overRow 181 = .ok (.iload 4, 2) := by decide +kernel
theorem dX12_overRow_183 : decode cX12_overRow 183 = .ok (.invokevirtual 131, 3) := by decide +kernel
theorem dX12_overRow_186 : decode cX12_overRow 186 = .ok (.iinc 5 1, 3) := by decide +kernel
theorem dX12_overRow_189 : decode cX12_overRow 189 = .ok (.iinc 6 1, 3) := by decide +kernel
theorem dX12_overRow_192 : decode cX12_overRow 192 = .ok (.goto (-178), 3) := by decide +kernel
theorem dX12_overRow_195 : decode cX12_overRow 195 = .ok (.aload_n 0, 1) := by decide +kernel
theorem dX12_overRow_196 : decode cX12_overRow 196 = .ok (.iload 4, 2) := by decide +kernel
theorem dX12_overRow_198 : decode cX12_overRow 198 = .ok (.invokevirtual 122, 3) := by decide +kernel
theorem dX12_overRow_201 : decode cX12_overRow 201 = .ok (.return_, 1) := by decide +kernel
theorem dX12_keepsWork_0 : decode cX12_keepsWork 0 = .ok (.aload_n 0, 1) := by decide +kernel
theorem dX12_keepsWork_1 : decode cX12_keepsWork 1 = .ok (.getfield 43, 3) := by decide +kernel
theorem dX12_keepsWork_4 : decode cX12_keepsWork 4 = .ok (.iload_n 2, 1) := by decide +kernel
theorem dX12_keepsWork_5 : decode cX12_keepsWork 5 = .ok (.aload_n 0, 1) := by decide +kernel
theorem dX12_keepsWork_6 : decode cX12_keepsWork 6 = .ok (.getfield 43, 3) := by decide +kernel
theorem dX12_keepsWork_9 : decode cX12_keepsWork 9 = .ok (.iload_n 1, 1) := by decide +kernel
theorem dX12_keepsWork_10 : decode cX12_keepsWork 10 = .ok (.iaload, 1) := by decide +kernel
theorem dX12_keepsWork_11 : decode cX12_keepsWork 11 = .ok (.iastore, 1) := by decide +kernel
theorem dX12_keepsWork_12 : decode cX12_keepsWork 12 = .ok (.iconst 0, 1) := by decide +kernel
theorem dX12_keepsWork_13 : decode cX12_keepsWork 13 = .ok (.istore_n 3, 1) := by decide +kernel
theorem dX12_keepsWork_14 : decode cX12_keepsWork 14 = .ok (.iload_n 3, 1) := by decide +kernel
theorem dX12_keepsWork_15 : decode cX12_keepsWork 15 = .ok (.aload_n 0, 1) := by decide +kernel
theorem dX12_keepsWork_16 : decode cX12_keepsWork 16 = .ok (.getfield 43, 3) := by decide +kernel
theorem dX12_keepsWork_19 : decode cX12_keepsWork 19 = .ok (.iload_n 1, 1) := by decide +kernel
theorem dX12_keepsWork_20 : decode cX12_keepsWork 20 = .ok (.iaload, 1) := by decide +kernel
theorem dX12_keepsWork_21 : decode cX12_keepsWork 21 = .ok (.if_icmp .ge 25, 3) := by decide +kernel
theorem dX12_keepsWork_24 : decode cX12_keepsWork 24 = .ok (.aload_n 0, 1) := by decide +kernel
theorem dX12_keepsWork_25 : decode cX12_keepsWork 25 = .ok (.getfield 40, 3) := by decide +kernel
theorem dX12_keepsWork_28 : decode cX12_keepsWork 28 = .ok (.iload_n 2, 1) := by decide +kernel
theorem dX12_keepsWork_29 : decode cX12_keepsWork 29 = .ok (.aaload, 1) := by decide +kernel
theorem dX12_keepsWork_30 : decode cX12_keepsWork 30 = .ok (.iload_n 3, 1) := by decide +kernel
theorem dX12_keepsWork_31 : decode cX12_keepsWork 31 = .ok (.aload_n 0, 1) := by decide +kernel
theorem dX12_keepsWork_32 : decode cX12_keepsWork 32 = .ok (.getfield 40, 3) := by decide +kernel
theorem dX12_keepsWork_35 : decode cX12_keepsWork 35 = .ok (.iload_n 1, 1) := by decide +kernel
theorem dX12_keepsWork_36 : decode cX12_keepsWork 36 = .ok (.aaload, 1) := by decide +kernel
theorem dX12_keepsWork_37 : decode cX12_keepsWork 37 = .ok (.iload_n 3, 1) := by decide +kernel
theorem dX12_keepsWork_38 : decode cX12_keepsWork 38 = .ok (.iaload, 1) := by decide +kernel
theorem dX12_keepsWork_39 : decode cX12_keepsWork 39 = .ok (.iastore, 1) := by decide +kernel
theorem dX12_keepsWork_40 : decode cX12_keepsWork 40 = .ok (.iinc 3 1, 3) := by decide +kernel
theorem dX12_keepsWork_43 : decode cX12_keepsWork 43 = .ok (.goto (-29), 3) := by decide +kernel
theorem dX12_keepsWork_46 : decode cX12_keepsWork 46 = .ok (.return_, 1) := by decide +kernel
theorem dX12_copiesRow_0 : decode cX12_copiesRow 0 = .ok (.aload_n 0, 1) := by decide +kernel
theorem dX12_copiesRow_1 : decode cX12_copiesRow 1 = .ok (.iconst 3, 1) := by decide +kernel
theorem dX12_copiesRow_2 : decode cX12_copiesRow 2 = .ok (.iload_n 1, 1) := by decide +kernel
theorem dX12_copiesRow_3 : decode cX12_copiesRow 3 = .ok (.invokevirtual 97, 3) := by decide +kernel
theorem dX12_copiesRow_6 : decode cX12_copiesRow 6 = .ok (.aload_n 0, 1) := by decide +kernel
theorem dX12_copiesRow_7 : decode cX12_copiesRow 7 = .ok (.iload_n 2, 1) := by decide +kernel
theorem dX12_copiesRow_8 : decode cX12_copiesRow 8 = .ok (.iconst 3, 1) := by decide +kernel
theorem dX12_copiesRow_9 : decode cX12_copiesRow 9 = .ok (.invokevirtual 101, 3) := by decide +kernel
theorem dX12_copiesRow_12 : decode cX12_copiesRow 12 = .ok (.return_, 1) := by decide +kernel
theorem dX12_crosses_0 : decode cX12_crosses 0 = .ok (.aload_n 0, 1) := by decide +kernel
theorem dX12_crosses_1 : decode cX12_crosses 1 = .ok (.iconst 1, 1) := by decide +kernel
theorem dX12_crosses_2 : decode cX12_crosses 2 = .ok (.iload_n 1, 1) := by decide +kernel
theorem dX12_crosses_3 : decode cX12_crosses 3 = .ok (.invokevirtual 97, 3) := by decide +kernel
theorem dX12_crosses_6 : decode cX12_crosses 6 = .ok (.aload_n 0, 1) := by decide +kernel
theorem dX12_crosses_7 : decode cX12_crosses 7 = .ok (.iconst 1, 1) := by decide +kernel
theorem dX12_crosses_8 : decode cX12_crosses 8 = .ok (.iconst 0, 1) := by decide +kernel
theorem dX12_crosses_9 : decode cX12_crosses 9 = .ok (.iconst 0, 1) := by decide +kernel
theorem dX12_crosses_10 : decode cX12_crosses 10 = .ok (.iconst 2, 1) := by decide +kernel
theorem dX12_crosses_11 : decode cX12_crosses 11 = .ok (.invokevirtual 164, 3) := by decide +kernel
theorem dX12_crosses_14 : decode cX12_crosses 14 = .ok (.aload_n 0, 1) := by decide +kernel
theorem dX12_crosses_15 : decode cX12_crosses 15 = .ok (.iload_n 1, 1) := by decide +kernel
theorem dX12_crosses_16 : decode cX12_crosses 16 = .ok (.iconst 2, 1) := by decide +kernel
theorem dX12_crosses_17 : decode cX12_crosses 17 = .ok (.invokevirtual 101, 3) := by decide +kernel
theorem dX12_crosses_20 : decode cX12_crosses 20 = .ok (.aload_n 0, 1) := by decide +kernel
theorem dX12_crosses_21 : decode cX12_crosses 21 = .ok (.iconst 0, 1) := by decide +kernel
theorem dX12_crosses_22 : decode cX12_crosses 22 = .ok (.iconst 1, 1) := by decide +kernel
theorem dX12_crosses_23 : decode cX12_crosses 23 = .ok (.iconst 1, 1) := by decide +kernel
theorem dX12_crosses_24 : decode cX12_crosses 24 = .ok (.iconst 2, 1) := by decide +kernel
theorem dX12_crosses_25 : decode cX12_crosses 25 = .ok (.invokevirtual 164, 3) := by decide +kernel
theorem dX12_crosses_28 : decode cX12_crosses 28 = .ok (.aload_n 0, 1) := by decide +kernel
theorem dX12_crosses_29 : decode cX12_crosses 29 = .ok (.iconst 2, 1) := by decide +kernel
theorem dX12_crosses_30 : decode cX12_crosses 30 = .ok (.iconst 0, 1) := by decide +kernel
theorem dX12_crosses_31 : decode cX12_crosses 31 = .ok (.invokevirtual 167, 3) := by decide +kernel
theorem dX12_crosses_34 : decode cX12_crosses 34 = .ok (.return_, 1) := by decide +kernel
theorem dX0_isTooLongBy_0 : decode cX0_isTooLongBy 0 = .ok (.aload_n 1, 1) := by decide +kernel
theorem dX0_isTooLongBy_1 : decode cX0_isTooLongBy 1 = .ok (.getfield 50, 3) := by decide +kernel
theorem dX0_isTooLongBy_4 : decode cX0_isTooLongBy 4 = .ok (.ldc2_w 56, 3) := by decide +kernel
theorem dX0_isTooLongBy_7 : decode cX0_isTooLongBy 7 = .ok (.lcmp, 1) := by decide +kernel
theorem dX0_isTooLongBy_8 : decode cX0_isTooLongBy 8 = .ok (.ifCond .le 22, 3) := by decide +kernel
theorem dX0_isTooLongBy_11 : decode cX0_isTooLongBy 11 = .ok (.aload_n 1, 1) := by decide +kernel
theorem dX0_isTooLongBy_12 : decode cX0_isTooLongBy 12 = .ok (.getfield 50, 3) := by decide +kernel
theorem dX0_isTooLongBy_15 : decode cX0_isTooLongBy 15 = .ok (.aload_n 0, 1) := by decide +kernel
theorem dX0_isTooLongBy_16 : decode cX0_isTooLongBy 16 = .ok (.getfield 21, 3) := by decide +kernel
theorem dX0_isTooLongBy_19 : decode cX0_isTooLongBy 19 = .ok (.getfield 50, 3) := by decide +kernel
theorem dX0_isTooLongBy_22 : decode cX0_isTooLongBy 22 = .ok (.lcmp, 1) := by decide +kernel
theorem dX0_isTooLongBy_23 : decode cX0_isTooLongBy 23 = .ok (.ifCond .le 7, 3) := by decide +kernel
theorem dX0_isTooLongBy_26 : decode cX0_isTooLongBy 26 = .ok (.iconst 1, 1) := by decide +kernel
theorem dX0_isTooLongBy_27 : decode cX0_isTooLongBy 27 = .ok (.goto 4, 3) := by decide +kernel
theorem dX0_isTooLongBy_30 : decode cX0_isTooLongBy 30 = .ok (.iconst 0, 1) := by decide +kernel
theorem dX0_isTooLongBy_31 : decode cX0_isTooLongBy 31 = .ok (.ireturn, 1) := by decide +kernel
theorem dX1_begin_0 : decode cX1_begin 0 = .ok (.aload_n 0, 1) := by decide +kernel
theorem dX1_begin_1 : decode cX1_begin 1 = .ok (.getfield 20, 3) := by decide +kernel
theorem dX1_begin_4 : decode cX1_begin 4 = .ok (.invokevirtual 24, 3) := by decide +kernel
theorem dX1_begin_7 : decode cX1_begin 7 = .ok (.aload_n 0, 1) := by decide +kernel
theorem dX1_begin_8 : decode cX1_begin 8 = .ok (.iconst 0, 1) := by decide +kernel
theorem dX1_begin_9 : decode cX1_begin 9 = .ok (.putfield 27, 3) := by decide +kernel
theorem dX1_begin_12 : decode cX1_begin 12 = .ok (.aload_n 0, 1) := by decide +kernel
theorem dX1_begin_13 : decode cX1_begin 13 = .ok (.lconst 0, 1) := by decide +kernel
theorem dX1_begin_14 : decode cX1_begin 14 = .ok (.putfield 31, 3) := by decide +kernel
theorem dX1_begin_17 : decode cX1_begin 17 = .ok (.aload_n 0, 1) := by decide +kernel
theorem dX1_begin_18 : decode cX1_begin 18 = .ok (.lconst 0, 1) := by decide +kernel
theorem dX1_begin_19 : decode cX1_begin 19 = .ok (.putfield 35, 3) := by decide +kernel
theorem dX1_begin_22 : decode cX1_begin 22 = .ok (.return_, 1) := by decide +kernel
theorem dX1_goOver_0 : decode cX1_goOver 0 = .ok (.lload 4, 2) := by decide +kernel
theorem dX1_goOver_2 : decode cX1_goOver 2 = .ok (.lconst 1, 1) := by decide +kernel
theorem dX1_goOver_3 : decode cX1_goOver 3 = .ok (.lcmp, 1) := by decide +kernel
theorem dX1_goOver_4 : decode cX1_goOver 4 = .ok (.ifCond .ge 4, 3) := by decide +kernel
theorem dX1_goOver_7 : decode cX1_goOver 7 = .ok (.return_, 1) := by decide +kernel
theorem dX1_goOver_8 : decode cX1_goOver 8 = .ok (.iload_n 1, 1) := by decide +kernel
theorem dX1_goOver_9 : decode cX1_goOver 9 = .ok (.iconst 5, 1) := by decide +kernel
theorem dX1_goOver_10 : decode cX1_goOver 10 = .ok (.if_icmp .ne 13, 3) := by decide +kernel
theorem dX1_goOver_13 : decode cX1_goOver 13 = .ok (.iload_n 2, 1) := by decide +kernel
theorem dX1_goOver_14 : decode cX1_goOver 14 = .ok (.iload_n 3, 1) := by decide +kernel
theorem dX1_goOver_15 : decode cX1_goOver 15 = .ok (.ior, 1) := by decide +kernel
theorem dX1_goOver_16 : decode cX1_goOver 16 = .ok (.ifCond .ne 7, 3) := by decide +kernel
theorem dX1_goOver_19 : decode cX1_goOver 19 = .ok (.iconst 3, 1) := by decide +kernel
theorem dX1_goOver_20 : decode cX1_goOver 20 = .ok (.goto 4, 3) := by decide +kernel
theorem dX1_goOver_23 : decode cX1_goOver 23 = .ok (.iload_n 1, 1) := by decide +kernel
theorem dX1_goOver_24 : decode cX1_goOver 24 = .ok (.istore 6, 2) := by decide +kernel
theorem dX1_goOver_26 : decode cX1_goOver 26 = .ok (.iload 6, 2) := by decide +kernel
theorem dX1_goOver_28 : decode cX1_goOver 28 = .ok (.bipush 8, 2) := by decide +kernel
theorem dX1_goOver_30 : decode cX1_goOver 30 = .ok (.ishl, 1) := by decide +kernel
theorem dX1_goOver_31 : decode cX1_goOver 31 = .ok (.iload_n 2, 1) := by decide +kernel
theorem dX1_goOver_32 : decode cX1_goOver 32 = .ok (.iconst 4, 1) := by decide +kernel
theorem dX1_goOver_33 : decode cX1_goOver 33 = .ok (.ishl, 1) := by decide +kernel
theorem dX1_goOver_34 : decode cX1_goOver 34 = .ok (.ior, 1) := by decide +kernel
theorem dX1_goOver_35 : decode cX1_goOver 35 = .ok (.iload_n 3, 1) := by decide +kernel
theorem dX1_goOver_36 : decode cX1_goOver 36 = .ok (.ior, 1) := by decide +kernel
theorem dX1_goOver_37 : decode cX1_goOver 37 = .ok (.istore 7, 2) := by decide +kernel
theorem dX1_goOver_39 : decode cX1_goOver 39 = .ok (.aload_n 0, 1) := by decide +kernel
theorem dX1_goOver_40 : decode cX1_goOver 40 = .ok (.getfield 20, 3) := by decide +kernel
theorem dX1_goOver_43 : decode cX1_goOver 43 = .ok (.aload_n 0, 1) := by decide +kernel
theorem dX1_goOver_44 : decode cX1_goOver 44 = .ok (.getfield 20, 3) := by decide +kernel
theorem dX1_goOver_47 : decode cX1_goOver 47 = .ok (.getfield 38, 3) := by decide +kernel
theorem dX1_goOver_50 : decode cX1_goOver 50 = .ok (.iconst 1, 1) := by decide +kernel
theorem dX1_goOver_51 : decode cX1_goOver 51 = .ok (.isub, 1) := by decide +kernel
theorem dX1_goOver_52 : decode cX1_goOver 52 = .ok (.invokevirtual 42, 3) := by decide +kernel
theorem dX1_goOver_55 : decode cX1_goOver 55 = .ok (.lstore 8, 2) := by decide +kernel
theorem dX1_goOver_57 : decode cX1_goOver 57 = .ok (.lload 8, 2) := by decide +kernel
theorem dX1_goOver_59 : decode cX1_goOver 59 = .ok (.ldc2_w 68, 3) := by decide +kernel
theorem dX1_goOver_62 : decode cX1_goOver 62 = .ok (.land, 1) := by decide +kernel
theorem dX1_goOver_63 : decode cX1_goOver 63 = .ok (.iload 7, 2) := by decide +kernel
theorem dX1_goOver_65 : decode cX1_goOver 65 = .ok (.i2l, 1) := by decide +kernel
theorem dX1_goOver_66 : decode cX1_goOver 66 = .ok (.lcmp, 1) := by decide +kernel
theorem dX1_goOver_67 : decode cX1_goOver 67 = .ok (.ifCond .ne 30, 3) := by decide +kernel
theorem dX1_goOver_70 : decode cX1_goOver 70 = .ok (.aload_n 0, 1) := by decide +kernel
theorem dX1_goOver_71 : decode cX1_goOver 71 = .ok (.getfield 20, 3) := by decide +kernel
theorem dX1_goOver_74 : decode cX1_goOver 74 = .ok (.aload_n 0, 1) := by decide +kernel
theorem dX1_goOver_75 : decode cX1_goOver 75 = .ok (.getfield 20, 3) := by decide +kernel
theorem dX1_goOver_78 : decode cX1_goOver 78 = .ok (.getfield 38, 3) := by decide +kernel
theorem dX1_goOver_81 : decode cX1_goOver 81 = .ok (.iconst 1, 1) := by decide +kernel
theorem dX1_goOver_82 : decode cX1_goOver 82 = .ok (.isub, 1) := by decide +kernel
theorem dX1_goOver_83 : decode cX1_goOver 83 = .ok (.lload 8, 2) := by decide +kernel
theorem dX1_goOver_85 : decode cX1_goOver 85 = .ok (.lload 4, 2) := by decide +kernel
theorem dX1_goOver_87 : decode cX1_goOver 87 = .ok (.bipush 12, 2) := by decide +kernel
theorem dX1_goOver_89 : decode cX1_goOver 89 = .ok (.lshl, 1) := by decide +kernel
theorem dX1_goOver_90 : decode cX1_goOver 90 = .ok (.ladd, 1) := by decide +kernel
theorem dX1_goOver_91 : decode cX1_goOver 91 = .ok (.invokevirtual 52, 3) := by decide +kernel
theorem dX1_goOver_94 : decode cX1_goOver 94 = .ok (.goto 19, 3) := by decide +kernel
theorem dX1_goOver_97 : decode cX1_goOver 97 = .ok (.aload_n 0, 1) := by decide +kernel
theorem dX1_goOver_98 : decode cX1_goOver 98 = .ok (.getfield 20, 3) := by decide +kernel
theorem dX1_goOver_101 : decode cX1_goOver 101 = .ok (.iload 7, 2) := by decide +kernel
theorem dX1_goOver_103 : decode cX1_goOver 103 = .ok (.i2l, 1) := by decide +kernel
theorem dX1_goOver_104 : decode cX1_goOver 104 = .ok (.lload 4, 2) := by decide +kernel
theorem dX1_goOver_106 : decode cX1_goOver 106 = .ok (.bipush 12, 2) := by decide +kernel
theorem dX1_goOver_108 : decode cX1_goOver 108 = .ok (.lshl, 1) := by decide +kernel
theorem dX1_goOver_109 : decode cX1_goOver 109 = .ok (.lor, 1) := by decide +kernel
theorem dX1_goOver_110 : decode cX1_goOver 110 = .ok (.invokevirtual 70, 3) := by decide +kernel
theorem dX1_goOver_113 : decode cX1_goOver 113 = .ok (.aload_n 0, 1) := by decide +kernel
theorem dX1_goOver_114 : decode cX1_goOver 114 = .ok (.dup, 1) := by decide +kernel
theorem dX1_goOver_115 : decode cX1_goOver 115 = .ok (.getfield 31, 3) := by decide +kernel
theorem dX1_goOver_118 : decode cX1_goOver 118 = .ok (.lload 4, 2) := by decide +kernel
theorem dX1_goOver_120 : decode cX1_goOver 120 = .ok (.ladd, 1) := by decide +kernel
theorem dX1_goOver_121 : decode cX1_goOver 121 = .ok (.putfield 31, 3) := by decide +kernel
theorem dX1_goOver_124 : decode cX1_goOver 124 = .ok (.iload_n 1, 1) := by decide +kernel
theorem dX1_goOver_125 : decode cX1_goOver 125 = .ok (.iconst 4, 1) := by decide +kernel
theorem dX1_goOver_126 : decode cX1_goOver 126 = .ok (.if_icmp .eq 14, 3) := by decide +kernel
theorem dX1_goOver_129 : decode cX1_goOver 129 = .ok (.aload_n 0, 1) := by decide +kernel
theorem dX1_goOver_130 : decode cX1_goOver 130 = .ok (.dup, 1) := by decide +kernel
theorem dX1_goOver_131 : decode cX1_goOver 131 = .ok (.getfield 35, 3) := by decide +kernel
theorem dX1_goOver_134 : decode cX1_goOver 134 = .ok (.lload 4, 2) := by decide +kernel
theorem dX1_goOver_136 : decode cX1_goOver 136 = .ok (.ladd, 1) := by decide +kernel
theorem dX1_goOver_137 : decode cX1_goOver 137 = .ok (.putfield 35, 3) := by decide +kernel
theorem dX1_goOver_140 : decode cX1_goOver 140 = .ok (.return_, 1) := by decide +kernel
theorem dX1_putIn_0 : decode cX1_putIn 0 = .ok (.aload_n 0, 1) := by decide +kernel
theorem dX1_putIn_1 : decode cX1_putIn 1 = .ok (.getfield 9, 3) := by decide +kernel
theorem dX1_putIn_4 : decode cX1_putIn 4 = .ok (.iload_n 1, 1) := by decide +kernel
theorem dX1_putIn_5 : decode cX1_putIn 5 = .ok (.invokevirtual 63, 3) := by decide +kernel
theorem dX1_putIn_8 : decode cX1_putIn 8 = .ok (.lstore_n 2, 1) := by decide +kernel
theorem dX1_putIn_9 : decode cX1_putIn 9 = .ok (.lload_n 2, 1) := by decide +kernel
theorem dX1_putIn_10 : decode cX1_putIn 10 = .ok (.lconst 1, 1) := by decide +kernel
theorem dX1_putIn_11 : decode cX1_putIn 11 = .ok (.lcmp, 1) := by decide +kernel
theorem dX1_putIn_12 : decode cX1_putIn 12 = .ok (.ifCond .ge 4, 3) := by decide +kernel
theorem dX1_putIn_15 : decode cX1_putIn 15 = .ok (.return_, 1) := by decide +kernel
theorem dX1_putIn_16 : decode cX1_putIn 16 = .ok (.aload_n 0, 1) := by decide +kernel
theorem dX1_putIn_17 : decode cX1_putIn 17 = .ok (.iconst 1, 1) := by decide +kernel
theorem dX1_putIn_18 : decode cX1_putIn 18 = .ok (.putfield 27, 3) := by decide +kernel
theorem dX1_putIn_21 : decode cX1_putIn 21 = .ok (.aload_n 0, 1) := by decide +kernel
theorem dX1_putIn_22 : decode cX1_putIn 22 = .ok (.dup, 1) := by decide +kernel
theorem dX1_putIn_23 : decode cX1_putIn 23 = .ok (.getfield 35, 3) := by decide +kernel
theorem dX1_putIn_26 : decode cX1_putIn 26 = .ok (.lload_n 2, 1) := by decide +kernel
theorem dX1_putIn_27 : decode cX1_putIn 27 = .ok (.ladd, 1) := by decide +kernel
theorem dX1_putIn_28 : decode cX1_putIn 28 = .ok (.putfield 35, 3) := by decide +kernel
theorem dX1_putIn_31 : decode cX1_putIn 31 = .ok (.aload_n 0, 1) := by decide +kernel
theorem dX1_putIn_32 : decode cX1_putIn 32 = .ok (.getfield 20, 3) := by decide +kernel
theorem dX1_putIn_35 : decode cX1_putIn 35 = .ok (.getfield 38, 3) := by decide +kernel
theorem dX1_putIn_38 : decode cX1_putIn 38 = .ok (.iconst 1, 1) := by decide +kernel
theorem dX1_putIn_39 : decode cX1_putIn 39 = .ok (.isub, 1) := by decide +kernel
theorem dX1_putIn_40 : decode cX1_putIn 40 = .ok (.istore 4, 2) := by decide +kernel
theorem dX1_putIn_42 : decode cX1_putIn 42 = .ok (.aload_n 0, 1) := by decide +kernel
theorem dX1_putIn_43 : decode cX1_putIn 43 = .ok (.iload 4, 2) := by decide +kernel
theorem dX1_putIn_45 : decode cX1_putIn 45 = .ok (.invokevirtual 56, 3) := by decide +kernel
theorem dX1_putIn_48 : decode cX1_putIn 48 = .ok (.iconst 4, 1) := by decide +kernel
theorem dX1_putIn_49 : decode cX1_putIn 49 = .ok (.if_icmp .ne 10, 3) := by decide +kernel
theorem dX1_putIn_52 : decode cX1_putIn 52 = .ok (.iload 4, 2) := by decide +kernel
theorem dX1_putIn_54 : decode cX1_putIn 54 = .ok (.iconst 1, 1) := by decide +kernel
theorem dX1_putIn_55 : decode cX1_putIn 55 = .ok (.isub, 1) := by decide +kernel
theorem dX1_putIn_56 : decode cX1_putIn 56 = .ok (.goto 5, 3) := by decide +kernel
theorem dX1_putIn_59 : decode cX1_putIn 59 = .ok (.iload 4, 2) := by decide +kernel
theorem dX1_putIn_61 : decode cX1_putIn 61 = .ok (.istore 5, 2) := by decide +kernel
theorem dX1_putIn_63 : decode cX1_putIn 63 = .ok (.aload_n 0, 1) := by decide +kernel
theorem dX1_putIn_64 : decode cX1_putIn 64 = .ok (.iload 5, 2) := by decide +kernel
theorem dX1_putIn_66 : decode cX1_putIn 66 = .ok (.invokevirtual 56, 3) := by decide +kernel
theorem dX1_putIn_69 : decode cX1_putIn 69 = .ok (.iconst 1, 1) := by decide +kernel
theorem dX1_putIn_70 : decode cX1_putIn 70 = .ok (.if_icmp .ne 24, 3) := by decide +kernel
theorem dX1_putIn_73 : decode cX1_putIn 73 = .ok (.aload_n 0, 1) := by decide +kernel
theorem dX1_putIn_74 : decode cX1_putIn 74 = .ok (.iload 5, 2) := by decide +kernel
theorem dX1_putIn_76 : decode cX1_putIn 76 = .ok (.aload_n 0, 1) := by decide +kernel
theorem dX1_putIn_77 : decode cX1_putIn 77 = .ok (.getfield 9, 3) := by decide +kernel
theorem dX1_putIn_80 : decode cX1_putIn 80 = .ok (.aload_n 0, 1) := by decide +kernel
theorem dX1_putIn_81 : decode cX1_putIn 81 = .ok (.iload 5, 2) := by decide +kernel
theorem dX1_putIn_83 : decode cX1_putIn 83 = .ok (.invokevirtual 60, 3) := by decide +kernel
theorem dX1_putIn_86 : decode cX1_putIn 86 = .ok (.iload_n 1, 1) := by decide +kernel
theorem dX1_putIn_87 : decode cX1_putIn 87 = .ok (.invokevirtual 74, 3) := by decide +kernel
theorem dX1_putIn_90 : decode cX1_putIn 90 = .ok (.invokevirtual 78, 3) := by decide +kernel
theorem dX1_putIn_93 : decode cX1_putIn 93 = .ok (.return_, 1) := by decide +kernel
theorem dX1_putIn_94 : decode cX1_putIn 94 = .ok (.aload_n 0, 1) := by decide +kernel
theorem dX1_putIn_95 : decode cX1_putIn 95 = .ok (.getfield 20, 3) := by decide +kernel
theorem dX1_putIn_98 : decode cX1_putIn 98 = .ok (.iload 4, 2) := by decide +kernel
theorem dX1_putIn_100 : decode cX1_putIn 100 = .ok (.invokevirtual 42, 3) := by decide +kernel
theorem dX1_putIn_103 : decode cX1_putIn 103 = .ok (.lstore 6, 2) := by decide +kernel
theorem dX1_putIn_105 : decode cX1_putIn 105 = .ok (.aload_n 0, 1) := by decide +kernel
theorem dX1_putIn_106 : decode cX1_putIn 106 = .ok (.getfield 20, 3) := by decide +kernel
theorem dX1_putIn_109 : decode cX1_putIn 109 = .ok (.lload 6, 2) := by decide +kernel
theorem dX1_putIn_111 : decode cX1_putIn 111 = .ok (.invokevirtual 70, 3) := by decide +kernel
theorem dX1_putIn_114 : decode cX1_putIn 114 = .ok (.aload_n 0, 1) := by decide +kernel
theorem dX1_putIn_115 : decode cX1_putIn 115 = .ok (.iload 5, 2) := by decide +kernel
theorem dX1_putIn_117 : decode cX1_putIn 117 = .ok (.iconst 1, 1) := by decide +kernel
theorem dX1_putIn_118 : decode cX1_putIn 118 = .ok (.iadd, 1) := by decide +kernel
theorem dX1_putIn_119 : decode cX1_putIn 119 = .ok (.iload_n 1, 1) := by decide +kernel
theorem dX1_putIn_120 : decode cX1_putIn 120 = .ok (.invokevirtual 78, 3) := by decide +kernel
theorem dX1_putIn_123 : decode cX1_putIn 123 = .ok (.return_, 1) := by decide +kernel
theorem dX2_putOldestLast_0 : decode cX2_putOldestLast 0 = .ok (.iconst 1, 1) := by decide +kernel
theorem dX2_putOldestLast_1 : decode cX2_putOldestLast 1 = .ok (.istore_n 1, 1) := by decide +kernel
theorem dX2_putOldestLast_2 : decode cX2_putOldestLast 2 = .ok (.iload_n 1, 1) := by decide +kernel
theorem dX2_putOldestLast_3 : decode cX2_putOldestLast 3 = .ok (.aload_n 0, 1) := by decide +kernel
theorem dX2_putOldestLast_4 : decode cX2_putOldestLast 4 = .ok (.getfield 11, 3) := by decide +kernel
theorem dX2_putOldestLast_7 : decode cX2_putOldestLast 7 = .ok (.arraylength, 1) := by decide +kernel
theorem dX2_putOldestLast_8 : decode cX2_putOldestLast 8 = .ok (.if_icmp .ge 39, 3) := by decide +kernel
theorem dX2_putOldestLast_11 : decode cX2_putOldestLast 11 = .ok (.aload_n 0, 1) := by decide +kernel
theorem dX2_putOldestLast_12 : decode cX2_putOldestLast 12 = .ok (.getfield 11, 3) := by decide +kernel
theorem dX2_putOldestLast_15 : decode cX2_putOldestLast 15 = .ok (.iload_n 1, 1) := by decide +kernel
theorem dX2_putOldestLast_16 : decode cX2_putOldestLast 16 = .ok (.iconst 1, 1) := by decide +kernel
theorem dX2_putOldestLast_17 : decode cX2_putOldestLast 17 = .ok (.isub, 1) := by decide +kernel
theorem dX2_putOldestLast_18 : decode cX2_putOldestLast 18 = .ok (.aaload, 1) := by decide +kernel
theorem dX2_putOldestLast_19 : decode cX2_putOldestLast 19 = .ok (.astore_n 2, 1) := by decide +kernel
theorem dX2_putOldestLast_20 : decode cX2_putOldestLast 20 = .ok (.aload_n 0, 1) := by decide +kernel
theorem dX2_putOldestLast_21 : decode cX2_putOldestLast 21 = .ok (.getfield 11, 3) := by decide +kernel
theorem dX2_putOldestLast_24 : decode cX2_putOldestLast 24 = .ok (.iload_n 1, 1) := by decide +kernel
theorem dX2_putOldestLast_25 : decode cX2_putOldestLast 25 = .ok (.iconst 1, 1) := by decide +kernel
theorem dX2_putOldestLast_26 : decode cX2_putOldestLast 26 = .ok (.isub, 1) := by decide +kernel
theorem dX2_putOldestLast_27 : decode cX2_putOldestLast 27 = .ok (.aload_n 0, 1) := by decide +kernel
theorem dX2_putOldestLast_28 : decode cX2_putOldestLast 28 = .ok (.getfield 11, 3) := by decide +kernel
theorem dX2_putOldestLast_31 : decode cX2_putOldestLast 31 = .ok (.iload_n 1, 1) := by decide +kernel
theorem dX2_putOldestLast_32 : decode cX2_putOldestLast 32 = .ok (.aaload, 1) := by decide +kernel
theorem dX2_putOldestLast_33 : decode cX2_putOldestLast 33 = .ok (.aastore, 1) := by decide +kernel
theorem dX2_putOldestLast_34 : decode cX2_putOldestLast 34 = .ok (.aload_n 0, 1) := by decide +kernel
theorem dX2_putOldestLast_35 : decode cX2_putOldestLast 35 = .ok (.getfield 11, 3) := by decide +kernel
theorem dX2_putOldestLast_38 : decode cX2_putOldestLast 38 = .ok (.iload_n 1, 1) := by decide +kernel
theorem dX2_putOldestLast_39 : decode cX2_putOldestLast 39 = .ok (.aload_n 2, 1) := by decide +kernel
theorem dX2_putOldestLast_40 : decode cX2_putOldestLast 40 = .ok (.aastore, 1) := by decide +kernel
theorem dX2_putOldestLast_41 : decode cX2_putOldestLast 41 = .ok (.iinc 1 1, 3) := by decide +kernel
theorem dX2_putOldestLast_44 : decode cX2_putOldestLast 44 = .ok (.goto (-42), 3) := by decide +kernel
theorem dX2_putOldestLast_47 : decode cX2_putOldestLast 47 = .ok (.return_, 1) := by decide +kernel
theorem dX1_count_0 : decode cX1_count 0 = .ok (.aload_n 0, 1) := by decide +kernel
theorem dX1_count_1 : decode cX1_count 1 = .ok (.getfield 20, 3) := by decide +kernel
theorem dX1_count_4 : decode cX1_count 4 = .ok (.getfield 38, 3) := by decide +kernel
theorem dX1_count_7 : decode cX1_count 7 = .ok (.ireturn, 1) := by decide +kernel
theorem dX3_tidy_0 : decode cX3_tidy 0 = .ok (.aload_n 0, 1) := by decide +kernel
theorem dX3_tidy_1 : decode cX3_tidy 1 = .ok (.getfield 55, 3) := by decide +kernel
theorem dX3_tidy_4 : decode cX3_tidy 4 = .ok (.aload_n 0, 1) := by decide +kernel
theorem dX3_tidy_5 : decode cX3_tidy 5 = .ok (.getfield 58, 3) := by decide +kernel
theorem dX3_tidy_8 : decode cX3_tidy 8 = .ok (.if_icmp .ge 4, 3) := by decide +kernel
theorem dX3_tidy_11 : decode cX3_tidy 11 = .ok (.return_, 1) := by decide +kernel
theorem dX3_tidy_12 : decode cX3_tidy 12 = .ok (.aload_n 0, 1) := by decide +kernel
theorem dX3_tidy_13 : decode cX3_tidy 13 = .ok (.getfield 44, 3) := by decide +kernel
theorem dX3_tidy_16 : decode cX3_tidy 16 = .ok (.iconst 0, 1) := by decide +kernel
theorem dX3_tidy_17 : decode cX3_tidy 17 = .ok (.invokestatic 126, 3) := by decide +kernel
theorem dX3_tidy_20 : decode cX3_tidy 20 = .ok (.iconst 0, 1) := by decide +kernel
theorem dX3_tidy_21 : decode cX3_tidy 21 = .ok (.istore_n 1, 1) := by decide +kernel
theorem dX3_tidy_22 : decode cX3_tidy 22 = .ok (.iload_n 1, 1) := by decide +kernel
theorem dX3_tidy_23 : decode cX3_tidy 23 = .ok (.aload_n 0, 1) := by decide +kernel
theorem dX3_tidy_24 : decode cX3_tidy 24 = .ok (.getfield 14, 3) := by decide +kernel
theorem dX3_tidy_27 : decode cX3_tidy 27 = .ok (.invokevirtual 130, 3) := by decide +kernel
theorem dX3_tidy_30 : decode cX3_tidy 30 = .ok (.if_icmp .ge 24, 3) := by decide +kernel
theorem dX3_tidy_33 : decode cX3_tidy 33 = .ok (.aload_n 0, 1) := by decide +kernel
theorem dX3_tidy_34 : decode cX3_tidy 34 = .ok (.aload_n 0, 1) := by decide +kernel
theorem dX3_tidy_35 : decode cX3_tidy 35 = .ok (.getfield 14, 3) := by decide +kernel
theorem dX3_tidy_38 : decode cX3_tidy 38 = .ok (.iload_n 1, 1) := by decide +kernel
theorem dX3_tidy_39 : decode cX3_tidy 39 = .ok (.invokevirtual 133, 3) := by decide +kernel
theorem dX3_tidy_42 : decode cX3_tidy 42 = .ok (.checkcast 61, 3) := by decide +kernel
theorem dX3_tidy_45 : decode cX3_tidy 45 = .ok (.invokevirtual 137, 3) := by decide +kernel
theorem dX3_tidy_48 : decode cX3_tidy 48 = .ok (.iinc 1 1, 3) := by decide +kernel
theorem dX3_tidy_51 : decode cX3_tidy 51 = .ok (.goto (-29), 3) := by decide +kernel
theorem dX3_tidy_54 : decode cX3_tidy 54 = .ok (.aload_n 0, 1) := by decide +kernel
theorem dX3_tidy_55 : decode cX3_tidy 55 = .ok (.getfield 55, 3) := by decide +kernel
theorem dX3_tidy_58 : decode cX3_tidy 58 = .ok (.iconst 1, 1) := by decide +kernel
theorem dX3_tidy_59 : decode cX3_tidy 59 = .ok (.isub, 1) := by decide +kernel
theorem dX3_tidy_60 : decode cX3_tidy 60 = .ok (.istore_n 1, 1) := by decide +kernel
theorem dX3_tidy_61 : decode cX3_tidy 61 = .ok (.iload_n 1, 1) := by decide +kernel
theorem dX3_tidy_62 : decode cX3_tidy 62 = .ok (.sipush 512, 3) := by decide +kernel
theorem dX3_tidy_65 : decode cX3_tidy 65 = .ok (.if_icmp .lt 45, 3) := by decide +kernel
theorem dX3_tidy_68 : decode cX3_tidy 68 = .ok (.aload_n 0, 1) := by decide +kernel
theorem dX3_tidy_69 : decode cX3_tidy 69 = .ok (.getfield 44, 3) := by decide +kernel
theorem dX3_tidy_72 : decode cX3_tidy 72 = .ok (.iload_n 1, 1) := by decide +kernel
theorem dX3_tidy_73 : decode cX3_tidy 73 = .ok (.iaload, 1) := by decide +kernel
theorem dX3_tidy_74 : decode cX3_tidy 74 = .ok (.ifCond .ne 6, 3) := by decide +kernel
theorem dX3_tidy_77 : decode cX3_tidy 77 = .ok (.goto 27, 3) := by decide +kernel
theorem dX3_tidy_80 : decode cX3_tidy 80 = .ok (.aload_n 0, 1) := by decide +kernel
theorem dX3_tidy_81 : decode cX3_tidy 81 = .ok (.getfield 44, 3) := by decide +kernel
theorem dX3_tidy_84 : decode cX3_tidy 84 = .ok (.aload_n 0, 1) := by decide +kernel
theorem dX3_tidy_85 : decode cX3_tidy 85 = .ok (.getfield 25, 3) := by decide +kernel
theorem dX3_tidy_88 : decode cX3_tidy 88 = .ok (.iload_n 1, 1) := by decide +kernel
theorem dX3_tidy_89 : decode cX3_tidy 89 = .ok (.iaload, 1) := by decide +kernel
theorem dX3_tidy_90 : decode cX3_tidy 90 = .ok (.iconst 1, 1) := by decide +kernel
theorem dX3_tidy_91 : decode cX3_tidy 91 = .ok (.iastore, 1) := by decide +kernel
theorem dX3_tidy_92 : decode cX3_tidy 92 = .ok (.aload_n 0, 1) := by decide +kernel
theorem dX3_tidy_93 : decode cX3_tidy 93 = .ok (.getfield 44, 3) := by decide +kernel
theorem dX3_tidy_96 : decode cX3_tidy 96 = .ok (.aload_n 0, 1) := by decide +kernel
theorem dX3_tidy_97 : decode cX3_tidy 97 = .ok (.getfield 28, 3) := by decide +kernel
theorem dX3_tidy_100 : decode cX3_tidy 100 = .ok (.iload_n 1, 1) := by decide +kernel
theorem dX3_tidy_101 : decode cX3_tidy 101 = .ok (.iaload, 1) := by decide +kernel
theorem dX3_tidy_102 : decode cX3_tidy 102 = .ok (.iconst 1, 1) := by decide +kernel
theorem dX3_tidy_103 : decode cX3_tidy 103 = .ok (.iastore, 1) := by decide +kernel
theorem dX3_tidy_104 : decode cX3_tidy 104 = .ok (.iinc 1 (-1), 3) := by decide +kernel
theorem dX3_tidy_107 : decode cX3_tidy 107 = .ok (.goto (-46), 3) := by decide +kernel
theorem dX3_tidy_110 : decode cX3_tidy 110 = .ok (.aload_n 0, 1) := by decide +kernel
theorem dX3_tidy_111 : decode cX3_tidy 111 = .ok (.invokevirtual 141, 3) := by decide +kernel
theorem dX3_tidy_114 : decode cX3_tidy 114 = .ok (.aload_n 0, 1) := by decide +kernel
theorem dX3_tidy_115 : decode cX3_tidy 115 = .ok (.getfield 47, 3) := by decide +kernel
theorem dX3_tidy_118 : decode cX3_tidy 118 = .ok (.iconst 0, 1) := by decide +kernel
theorem dX3_tidy_119 : decode cX3_tidy 119 = .ok (.invokestatic 126, 3) := by decide +kernel
theorem dX3_tidy_122 : decode cX3_tidy 122 = .ok (.aload_n 0, 1) := by decide +kernel
theorem dX3_tidy_123 : decode cX3_tidy 123 = .ok (.invokevirtual 123, 3) := by decide +kernel
theorem dX3_tidy_126 : decode cX3_tidy 126 = .ok (.iconst 0, 1) := by decide +kernel
theorem dX3_tidy_127 : decode cX3_tidy 127 = .ok (.istore_n 1, 1) := by decide +kernel
theorem dX3_tidy_128 : decode cX3_tidy 128 = .ok (.iload_n 1, 1) := by decide +kernel
theorem dX3_tidy_129 : decode cX3_tidy 129 = .ok (.aload_n 0, 1) := by decide +kernel
theorem dX3_tidy_130 : decode cX3_tidy 130 = .ok (.getfield 14, 3) := by decide +kernel
theorem dX3_tidy_133 : decode cX3_tidy 133 = .ok (.invokevirtual 130, 3) := by decide +kernel
theorem dX3_tidy_136 : decode cX3_tidy 136 = .ok (.if_icmp .ge 24, 3) := by decide +kernel
theorem dX3_tidy_139 : decode cX3_tidy 139 = .ok (.aload_n 0, 1) := by decide +kernel
theorem dX3_tidy_140 : decode cX3_tidy 140 = .ok (.aload_n 0, 1) := by decide +kernel
theorem dX3_tidy_141 : decode cX3_tidy 141 = .ok (.getfield 14, 3) := by decide +kernel
theorem dX3_tidy_144 : decode cX3_tidy 144 = .ok (.iload_n 1, 1) := by decide +kernel
theorem dX3_tidy_145 : decode cX3_tidy 145 = .ok (.invokevirtual 133, 3) := by decide +kernel
theorem dX3_tidy_148 : decode cX3_tidy 148 = .ok (.checkcast 61, 3) := by decide +kernel
theorem dX3_tidy_151 : decode cX3_tidy 151 = .ok (.invokevirtual 144, 3) := by decide +kernel
theorem dX3_tidy_154 : decode cX3_tidy 154 = .ok (.iinc 1 1, 3) := by decide +kernel
theorem dX3_tidy_157 : decode cX3_tidy 157 = .ok (.goto (-29), 3) := by decide +kernel
theorem dX3_tidy_160 : decode cX3_tidy 160 = .ok (.aload_n 0, 1) := by decide +kernel
theorem dX3_tidy_161 : decode cX3_tidy 161 = .ok (.aload_n 0, 1) := by decide +kernel
theorem dX3_tidy_162 : decode cX3_tidy 162 = .ok (.getfield 55, 3) := by decide +kernel
theorem dX3_tidy_165 : decode cX3_tidy 165 = .ok (.aload_n 0, 1) := by decide +kernel
theorem dX3_tidy_166 : decode cX3_tidy 166 = .ok (.getfield 55, 3) := by decide +kernel
theorem dX3_tidy_169 : decode cX3_tidy 169 = .ok (.sipush 512, 3) := by decide +kernel
theorem dX3_tidy_172 : decode cX3_tidy 172 = .ok (.invokestatic 147, 3) := by decide +kernel
theorem dX3_tidy_175 : decode cX3_tidy 175 = .ok (.ldc 152, 2) := by decide +kernel
theorem dX3_tidy_177 : decode cX3_tidy 177 = .ok (.invokestatic 153, 3) := by decide +kernel
theorem dX3_tidy_180 : decode cX3_tidy 180 = .ok (.iadd, 1) := by decide +kernel
theorem dX3_tidy_181 : decode cX3_tidy 181 = .ok (.putfield 58, 3) := by decide +kernel
theorem dX3_tidy_184 : decode cX3_tidy 184 = .ok (.return_, 1) := by decide +kernel
theorem dX1_rootAt_0 : decode cX1_rootAt 0 = .ok (.aload_n 0, 1) := by decide +kernel
theorem dX1_rootAt_1 : decode cX1_rootAt 1 = .ok (.getfield 20, 3) := by decide +kernel
theorem dX1_rootAt_4 : decode cX1_rootAt 4 = .ok (.iload_n 1, 1) := by decide +kernel
theorem dX1_rootAt_5 : decode cX1_rootAt 5 = .ok (.invokevirtual 42, 3) := by decide +kernel
theorem dX1_rootAt_8 : decode cX1_rootAt 8 = .ok (.lstore_n 2, 1) := by decide +kernel
theorem dX1_rootAt_9 : decode cX1_rootAt 9 = .ok (.lload_n 2, 1) := by decide +kernel
theorem dX1_rootAt_10 : decode cX1_rootAt 10 = .ok (.bipush 8, 2) := by decide +kernel
theorem dX1_rootAt_12 : decode cX1_rootAt 12 = .ok (.lshr, 1) := by decide +kernel
theorem dX1_rootAt_13 : decode cX1_rootAt 13 = .ok (.ldc2_w 46, 3) := by decide +kernel
theorem dX1_rootAt_16 : decode cX1_rootAt 16 = .ok (.land, 1) := by decide +kernel
theorem dX1_rootAt_17 : decode cX1_rootAt 17 = .ok (.lconst 1, 1) := by decide +kernel
theorem dX1_rootAt_18 : decode cX1_rootAt 18 = .ok (.lcmp, 1) := by decide +kernel
theorem dX1_rootAt_19 : decode cX1_rootAt 19 = .ok (.ifCond .ne 7, 3) := by decide +kernel
theorem dX1_rootAt_22 : decode cX1_rootAt 22 = .ok (.iconst 1, 1) := by decide +kernel
theorem dX1_rootAt_23 : decode cX1_rootAt 23 = .ok (.goto 4, 3) := by decide +kernel
theorem dX1_rootAt_26 : decode cX1_rootAt 26 = .ok (.iconst 0, 1) := by decide +kernel
theorem dX1_rootAt_27 : decode cX1_rootAt 27 = .ok (.istore 4, 2) := by decide +kernel
theorem dX1_rootAt_29 : decode cX1_rootAt 29 = .ok (.iload 4, 2) := by decide +kernel
theorem dX1_rootAt_31 : decode cX1_rootAt 31 = .ok (.ifCond .eq 11, 3) := by decide +kernel
theorem dX1_rootAt_34 : decode cX1_rootAt 34 = .ok (.lload_n 2, 1) := by decide +kernel
theorem dX1_rootAt_35 : decode cX1_rootAt 35 = .ok (.bipush 12, 2) := by decide +kernel
theorem dX1_rootAt_37 : decode cX1_rootAt 37 = .ok (.lshr, 1) := by decide +kernel
theorem dX1_rootAt_38 : decode cX1_rootAt 38 = .ok (.l2i, 1) := by decide +kernel
theorem dX1_rootAt_39 : decode cX1_rootAt 39 = .ok (.goto 4, 3) := by decide +kernel
theorem dX1_rootAt_42 : decode cX1_rootAt 42 = .ok (.iconst (-1), 1) := by decide +kernel
theorem dX1_rootAt_43 : decode cX1_rootAt 43 = .ok (.ireturn, 1) := by decide +kernel
theorem dX1_kindAt_0 : decode cX1_kindAt 0 = .ok (.aload_n 0, 1) := by decide +kernel
theorem dX1_kindAt_1 : decode cX1_kindAt 1 = .ok (.getfield 20, 3) := by decide +kernel
theorem dX1_kindAt_4 : decode cX1_kindAt 4 = .ok (.iload_n 1, 1) := by decide +kernel
theorem dX1_kindAt_5 : decode cX1_kindAt 5 = .ok (.invokevirtual 42, 3) := by decide +kernel
theorem dX1_kindAt_8 : decode cX1_kindAt 8 = .ok (.bipush 8, 2) := by decide +kernel
theorem dX1_kindAt_10 : decode cX1_kindAt 10 = .ok (.lshr, 1) := by decide +kernel
theorem dX1_kindAt_11 : decode cX1_kindAt 11 = .ok (.l2i, 1) := by decide +kernel
theorem dX1_kindAt_12 : decode cX1_kindAt 12 = .ok (.bipush 15, 2) := by decide +kernel
theorem dX1_kindAt_14 : decode cX1_kindAt 14 = .ok (.iand, 1) := by decide +kernel
theorem dX1_kindAt_15 : decode cX1_kindAt 15 = .ok (.ireturn, 1) := by decide +kernel
theorem dX1_sizeAt_0 : decode cX1_sizeAt 0 = .ok (.aload_n 0, 1) := by decide +kernel
theorem dX1_sizeAt_1 : decode cX1_sizeAt 1 = .ok (.iload_n 1, 1) := by decide +kernel
theorem dX1_sizeAt_2 : decode cX1_sizeAt 2 = .ok (.invokevirtual 56, 3) := by decide +kernel
theorem dX1_sizeAt_5 : decode cX1_sizeAt 5 = .ok (.iconst 1, 1) := by decide +kernel
theorem dX1_sizeAt_6 : decode cX1_sizeAt 6 = .ok (.if_icmp .ne 18, 3) := by decide +kernel
theorem dX1_sizeAt_9 : decode cX1_sizeAt 9 = .ok (.aload_n 0, 1) := by decide +kernel
theorem dX1_sizeAt_10 : decode cX1_sizeAt 10 = .ok (.getfield 9, 3) := by decide +kernel
theorem dX1_sizeAt_13 : decode cX1_sizeAt 13 = .ok (.aload_n 0, 1) := by decide +kernel
theorem dX1_sizeAt_14 : decode cX1_sizeAt 14 = .ok (.iload_n 1, 1) := by decide +kernel
theorem dX1_sizeAt_15 : decode cX1_sizeAt 15 = .ok (.invokevirtual 60, 3) := by decide +kernel
theorem dX1_sizeAt_18 : decode cX1_sizeAt 18 = .ok (.invokevirtual 63, 3) := by decide +kernel
theorem dX1_sizeAt_21 : decode cX1_sizeAt 21 = .ok (.goto 14, 3) := by decide +kernel
theorem dX1_sizeAt_24 : decode cX1_sizeAt 24 = .ok (.aload_n 0, 1) := by decide +kernel
theorem dX1_sizeAt_25 : decode cX1_sizeAt 25 = .ok (.getfield 20, 3) := by decide +kernel
theorem dX1_sizeAt_28 : decode cX1_sizeAt 28 = .ok (.iload_n 1, 1) := by decide +kernel
theorem dX1_sizeAt_29 : decode cX1_sizeAt 29 = .ok (.invokevirtual 42, 3) := by decide +kernel
theorem dX1_sizeAt_32 : decode cX1_sizeAt 32 = .ok (.bipush 12, 2) := by decide +kernel
theorem dX1_sizeAt_34 : decode cX1_sizeAt 34 = .ok (.lshr, 1) := by decide +kernel
theorem dX1_sizeAt_35 : decode cX1_sizeAt 35 = .ok (.lreturn, 1) := by decide +kernel
theorem dX3_slice_0 : decode cX3_slice 0 = .ok (.aload_n 0, 1) := by decide +kernel
theorem dX3_slice_1 : decode cX3_slice 1 = .ok (.iload_n 1, 1) := by decide +kernel
theorem dX3_slice_2 : decode cX3_slice 2 = .ok (.invokevirtual 70, 3) := by decide +kernel
theorem dX3_slice_5 : decode cX3_slice 5 = .ok (.ifCond .eq 21, 3) := by decide +kernel
theorem dX3_slice_8 : decode cX3_slice 8 = .ok (.lload_n 2, 1) := by decide +kernel
theorem dX3_slice_9 : decode cX3_slice 9 = .ok (.lconst 0, 1) := by decide +kernel
theorem dX3_slice_10 : decode cX3_slice 10 = .ok (.lcmp, 1) := by decide +kernel
theorem dX3_slice_11 : decode cX3_slice 11 = .ok (.ifCond .ne 17, 3) := by decide +kernel
theorem dX3_slice_14 : decode cX3_slice 14 = .ok (.lload 4, 2) := by decide +kernel
theorem dX3_slice_16 : decode cX3_slice 16 = .ok (.aload_n 0, 1) := by decide +kernel
theorem dX3_slice_17 : decode cX3_slice 17 = .ok (.getfield 31, 3) := by decide +kernel
theorem dX3_slice_20 : decode cX3_slice 20 = .ok (.iload_n 1, 1) := by decide +kernel
theorem dX3_slice_21 : decode cX3_slice 21 = .ok (.laload, 1) := by decide +kernel
theorem dX3_slice_22 : decode cX3_slice 22 = .ok (.lcmp, 1) := by decide +kernel
theorem dX3_slice_23 : decode cX3_slice 23 = .ok (.ifCond .ne 5, 3) := by decide +kernel
theorem dX3_slice_26 : decode cX3_slice 26 = .ok (.iload_n 1, 1) := by decide +kernel
theorem dX3_slice_27 : decode cX3_slice 27 = .ok (.ireturn, 1) := by decide +kernel
theorem dX3_slice_28 : decode cX3_slice 28 = .ok (.iconst (-1), 1) := by decide +kernel
theorem dX3_slice_29 : decode cX3_slice 29 = .ok (.istore 6, 2) := by decide +kernel
theorem dX3_slice_31 : decode cX3_slice 31 = .ok (.iconst 0, 1) := by decide +kernel
theorem dX3_slice_32 : decode cX3_slice 32 = .ok (.istore 7, 2) := by decide +kernel
theorem dX3_slice_34 : decode cX3_slice 34 = .ok (.aload_n 0, 1) := by decide +kernel
theorem dX3_slice_35 : decode cX3_slice 35 = .ok (.getfield 22, 3) := by decide +kernel
theorem dX3_slice_38 : decode cX3_slice 38 = .ok (.iload 7, 2) := by decide +kernel
theorem dX3_slice_40 : decode cX3_slice 40 = .ok (.iinc 7 1, 3) := by decide +kernel
theorem dX3_slice_43 : decode cX3_slice 43 = .ok (.iload_n 1, 1) := by decide +kernel
theorem dX3_slice_44 : decode cX3_slice 44 = .ok (.iastore, 1) := by decide +kernel
theorem dX3_slice_45 : decode cX3_slice 45 = .ok (.lconst 0, 1) := by decide +kernel
theorem dX3_slice_46 : decode cX3_slice 46 = .ok (.lstore 8, 2) := by decide +kernel
theorem dX3_slice_48 : decode cX3_slice 48 = .ok (.iconst 0, 1) := by decide +kernel
theorem dX3_slice_49 : decode cX3_slice 49 = .ok (.istore 10, 2) := by decide +kernel
theorem dX3_slice_51 : decode cX3_slice 51 = .ok (.iload 10, 2) := by decide +kernel
theorem dX3_slice_53 : decode cX3_slice 53 = .ok (.sipush 512, 3) := by decide +kernel
theorem dX3_slice_56 : decode cX3_slice 56 = .ok (.if_icmp .ge 158, 3) := by decide +kernel
theorem dX3_slice_59 : decode cX3_slice 59 = .ok (.iload 7, 2) := by decide +kernel
theorem dX3_slice_61 : decode cX3_slice 61 = .ok (.ifCond .le 153, 3) := by decide +kernel
theorem dX3_slice_64 : decode cX3_slice 64 = .ok (.aload_n 0, 1) := by decide +kernel
theorem dX3_slice_65 : decode cX3_slice 65 = .ok (.getfield 22, 3) := by decide +kernel
theorem dX3_slice_68 : decode cX3_slice 68 = .ok (.iinc 7 (-1), 3) := by decide +kernel
theorem dX3_slice_71 : decode cX3_slice 71 = .ok (.iload 7, 2) := by decide +kernel
theorem dX3_slice_73 : decode cX3_slice 73 = .ok (.iaload, 1) := by decide +kernel
theorem dX3_slice_74 : decode cX3_slice 74 = .ok (.istore 11, 2) := by decide +kernel
theorem dX3_slice_76 : decode cX3_slice 76 = .ok (.lload 8, 2) := by decide +kernel
theorem dX3_slice_78 : decode cX3_slice 78 = .ok (.aload_n 0, 1) := by decide +kernel
theorem dX3_slice_79 : decode cX3_slice 79 = .ok (.iload 11, 2) := by decide +kernel
theorem dX3_slice_81 : decode cX3_slice 81 = .ok (.invokevirtual 77, 3) := by decide +kernel
theorem dX3_slice_84 : decode cX3_slice 84 = .ok (.ladd, 1) := by decide +kernel
theorem dX3_slice_85 : decode cX3_slice 85 = .ok (.lstore 12, 2) := by decide +kernel
theorem dX3_slice_87 : decode cX3_slice 87 = .ok (.lload 12, 2) := by decide +kernel
theorem dX3_slice_89 : decode cX3_slice 89 = .ok (.lload_n 2, 1) := by decide +kernel
theorem dX3_slice_90 : decode cX3_slice 90 = .ok (.lcmp, 1) := by decide +kernel
theorem dX3_slice_91 : decode cX3_slice 91 = .ok (.ifCond .le 13, 3) := by decide +kernel
theorem dX3_slice_94 : decode cX3_slice 94 = .ok (.lload 8, 2) := by decide +kernel
theorem dX3_slice_96 : decode cX3_slice 96 = .ok (.lload_n 2, 1) := by decide +kernel
theorem dX3_slice_97 : decode cX3_slice 97 = .ok (.lload 4, 2) := by decide +kernel
theorem dX3_slice_99 : decode cX3_slice 99 = .ok (.ladd, 1) := by decide +kernel
theorem dX3_slice_100 : decode cX3_slice 100 = .ok (.lcmp, 1) := by decide +kernel
theorem dX3_slice_101 : decode cX3_slice 101 = .ok (.ifCond .lt 7, 3) := by decide +kernel
theorem dX3_slice_104 : decode cX3_slice 104 = .ok (.iconst 1, 1) := by decide +kernel
theorem dX3_slice_105 : decode cX3_slice 105 = .ok (.goto 4, 3) := by decide +kernel
theorem dX3_slice_108 : decode cX3_slice 108 = .ok (.iconst 0, 1) := by decide +kernel
theorem dX3_slice_109 : decode cX3_slice 109 = .ok (.istore 14, 2) := by decide +kernel
theorem dX3_slice_111 : decode cX3_slice 111 = .ok (.iload 14, 2) := by decide +kernel
theorem dX3_slice_113 : decode cX3_slice 113 = .ok (.ifCond .ne 20, 3) := by decide +kernel
theorem dX3_slice_116 : decode cX3_slice 116 = .ok (.lload 8, 2) := by decide +kernel
theorem dX3_slice_118 : decode cX3_slice 118 = .ok (.lload_n 2, 1) := by decide +kernel
theorem dX3_slice_119 : decode cX3_slice 119 = .ok (.lcmp, 1) := by decide +kernel
theorem dX3_slice_120 : decode cX3_slice 120 = .ok (.ifCond .lt 35, 3) := by decide +kernel
theorem dX3_slice_123 : decode cX3_slice 123 = .ok (.lload 12, 2) := by decide +kernel
theorem dX3_slice_125 : decode cX3_slice 125 = .ok (.lload_n 2, 1) := by decide +kernel
theorem dX3_slice_126 : decode cX3_slice 126 = .ok (.lload 4, 2) := by decide +kernel
theorem dX3_slice_128 : decode cX3_slice 128 = .ok (.ladd, 1) := by decide +kernel
theorem dX3_slice_129 : decode cX3_slice 129 = .ok (.lcmp, 1) := by decide +kernel
theorem dX3_slice_130 : decode cX3_slice 130 = .ok (.ifCond .gt 25, 3) := by decide +kernel
theorem dX3_slice_133 : decode cX3_slice 133 = .ok (.iload 14, 2) := by decide +kernel
theorem dX3_slice_135 : decode cX3_slice 135 = .ok (.ifCond .ne 13, 3) := by decide +kernel
theorem dX3_slice_138 : decode cX3_slice 138 = .ok (.aload_n 0, 1) := by decide +kernel
theorem dX3_slice_139 : decode cX3_slice 139 = .ok (.iload 6, 2) := by decide +kernel
theorem dX3_slice_141 : decode cX3_slice 141 = .ok (.iload 11, 2) := by decide +kernel
theorem dX3_slice_143 : decode cX3_slice 143 = .ok (.invokevirtual 95, 3) := by decide +kernel
theorem dX3_slice_146 : decode cX3_slice 146 = .ok (.istore 6, 2) := by decide +kernel
theorem dX3_slice_148 : decode cX3_slice 148 = .ok (.lload 12, 2) := by decide +kernel
theorem dX3_slice_150 : decode cX3_slice 150 = .ok (.lstore 8, 2) := by decide +kernel
theorem dX3_slice_152 : decode cX3_slice 152 = .ok (.goto 56, 3) := by decide +kernel
theorem dX3_slice_155 : decode cX3_slice 155 = .ok (.aload_n 0, 1) := by decide +kernel
theorem dX3_slice_156 : decode cX3_slice 156 = .ok (.iload 11, 2) := by decide +kernel
theorem dX3_slice_158 : decode cX3_slice 158 = .ok (.invokevirtual 74, 3) := by decide +kernel
theorem dX3_slice_161 : decode cX3_slice 161 = .ok (.ifCond .eq 47, 3) := by decide +kernel
theorem dX3_slice_164 : decode cX3_slice 164 = .ok (.iload 7, 2) := by decide +kernel
theorem dX3_slice_166 : decode cX3_slice 166 = .ok (.iconst 1, 1) := by decide +kernel
theorem dX3_slice_167 : decode cX3_slice 167 = .ok (.iadd, 1) := by decide +kernel
theorem dX3_slice_168 : decode cX3_slice 168 = .ok (.sipush 128, 3) := by decide +kernel
theorem dX3_slice_171 : decode cX3_slice 171 = .ok (.if_icmp .ge 37, 3) := by decide +kernel
theorem dX3_slice_174 : decode cX3_slice 174 = .ok (.aload_n 0, 1) := by decide +kernel
theorem dX3_slice_175 : decode cX3_slice 175 = .ok (.getfield 22, 3) := by decide +kernel
theorem dX3_slice_178 : decode cX3_slice 178 = .ok (.iload 7, 2) := by decide +kernel
theorem dX3_slice_180 : decode cX3_slice 180 = .ok (.iinc 7 1, 3) := by decide +kernel
theorem dX3_slice_183 : decode cX3_slice 183 = .ok (.aload_n 0, 1) := by decide +kernel
theorem dX3_slice_184 : decode cX3_slice 184 = .ok (.getfield 28, 3) := by decide +kernel
theorem dX3_slice_187 : decode cX3_slice 187 = .ok (.iload 11, 2) := by decide +kernel
theorem dX3_slice_189 : decode cX3_slice 189 = .ok (.iaload, 1) := by decide +kernel
theorem dX3_slice_190 : decode cX3_slice 190 = .ok (.iastore, 1) := by decide +kernel
theorem dX3_slice_191 : decode cX3_slice 191 = .ok (.aload_n 0, 1) := by decide +kernel
theorem dX3_slice_192 : decode cX3_slice 192 = .ok (.getfield 22, 3) := by decide +kernel
theorem dX3_slice_195 : decode cX3_slice 195 = .ok (.iload 7, 2) := by decide +kernel
theorem dX3_slice_197 : decode cX3_slice 197 = .ok (.iinc 7 1, 3) := by decide +kernel
theorem dX3_slice_200 : decode cX3_slice 200 = .ok (.aload_n 0, 1) := by decide +kernel
theorem dX3_slice_201 : decode cX3_slice 201 = .ok (.getfield 25, 3) := by decide +kernel
theorem dX3_slice_204 : decode cX3_slice 204 = .ok (.iload 11, 2) := by decide +kernel
theorem dX3_slice_206 : decode cX3_slice 206 = .ok (.iaload, 1) := by decide +kernel
theorem dX3_slice_207 : decode cX3_slice 207 = .ok (.iastore, 1) := by decide +kernel
theorem dX3_slice_208 : decode cX3_slice 208 = .ok (.iinc 10 1, 3) := by decide +kernel
theorem dX3_slice_211 : decode cX3_slice 211 = .ok (.goto (-160), 3) := by decide +kernel
theorem dX3_slice_214 : decode cX3_slice 214 = .ok (.iload 6, 2) := by decide +kernel
theorem dX3_slice_216 : decode cX3_slice 216 = .ok (.ireturn, 1) := by decide +kernel
theorem dX1_onAt_0 : decode cX1_onAt 0 = .ok (.aload_n 0, 1) := by decide +kernel
theorem dX1_onAt_1 : decode cX1_onAt 1 = .ok (.getfield 20, 3) := by decide +kernel
theorem dX1_onAt_4 : decode cX1_onAt 4 = .ok (.iload_n 1, 1) := by decide +kernel
theorem dX1_onAt_5 : decode cX1_onAt 5 = .ok (.invokevirtual 42, 3) := by decide +kernel
theorem dX1_onAt_8 : decode cX1_onAt 8 = .ok (.iconst 4, 1) := by decide +kernel
theorem dX1_onAt_9 : decode cX1_onAt 9 = .ok (.lshr, 1) := by decide +kernel
theorem dX1_onAt_10 : decode cX1_onAt 10 = .ok (.l2i, 1) := by decide +kernel
theorem dX1_onAt_11 : decode cX1_onAt 11 = .ok (.bipush 15, 2) := by decide +kernel
theorem dX1_onAt_13 : decode cX1_onAt 13 = .ok (.iand, 1) := by decide +kernel
theorem dX1_onAt_14 : decode cX1_onAt 14 = .ok (.ireturn, 1) := by decide +kernel
theorem dX1_offAt_0 : decode cX1_offAt 0 = .ok (.aload_n 0, 1) := by decide +kernel
theorem dX1_offAt_1 : decode cX1_offAt 1 = .ok (.getfield 20, 3) := by decide +kernel
theorem dX1_offAt_4 : decode cX1_offAt 4 = .ok (.iload_n 1, 1) := by decide +kernel
theorem dX1_offAt_5 : decode cX1_offAt 5 = .ok (.invokevirtual 42, 3) := by decide +kernel
theorem dX1_offAt_8 : decode cX1_offAt 8 = .ok (.l2i, 1) := by decide +kernel
theorem dX1_offAt_9 : decode cX1_offAt 9 = .ok (.bipush 15, 2) := by decide +kernel
theorem dX1_offAt_11 : decode cX1_offAt 11 = .ok (.iand, 1) := by decide +kernel
theorem dX1_offAt_12 : decode cX1_offAt 12 = .ok (.ireturn, 1) := by decide +kernel
theorem dX4_turnMark_0 : decode cX4_turnMark 0 = .ok (.lconst 0, 1) := by decide +kernel
theorem dX4_turnMark_1 : decode cX4_turnMark 1 = .ok (.lstore 9, 2) := by decide +kernel
theorem dX4_turnMark_3 : decode cX4_turnMark 3 = .ok (.iconst 0, 1) := by decide +kernel
theorem dX4_turnMark_4 : decode cX4_turnMark 4 = .ok (.istore 11, 2) := by decide +kernel
theorem dX4_turnMark_6 : decode cX4_turnMark 6 = .ok (.iload 11, 2) := by decide +kernel
theorem dX4_turnMark_8 : decode cX4_turnMark 8 = .ok (.ldc 127, 2) := by decide +kernel
theorem dX4_turnMark_10 : decode cX4_turnMark 10 = .ok (.if_icmp .ge 80, 3) := by decide +kernel
theorem dX4_turnMark_13 : decode cX4_turnMark 13 = .ok (.lload 9, 2) := by decide +kernel
theorem dX4_turnMark_15 : decode cX4_turnMark 15 = .ok (.lload 4, 2) := by decide +kernel
theorem dX4_turnMark_17 : decode cX4_turnMark 17 = .ok (.lcmp, 1) := by decide +kernel
theorem dX4_turnMark_18 : decode cX4_turnMark 18 = .ok (.ifCond .ge 72, 3) := by decide +kernel
theorem dX4_turnMark_21 : decode cX4_turnMark 21 = .ok (.aload_n 0, 1) := by decide +kernel
theorem dX4_turnMark_22 : decode cX4_turnMark 22 = .ok (.getfield 21, 3) := by decide +kernel
theorem dX4_turnMark_25 : decode cX4_turnMark 25 = .ok (.iload_n 1, 1) := by decide +kernel
theorem dX4_turnMark_26 : decode cX4_turnMark 26 = .ok (.lload_n 2, 1) := by decide +kernel
theorem dX4_turnMark_27 : decode cX4_turnMark 27 = .ok (.lload 9, 2) := by decide +kernel
theorem dX4_turnMark_29 : decode cX4_turnMark 29 = .ok (.ladd, 1) := by decide +kernel
theorem dX4_turnMark_30 : decode cX4_turnMark 30 = .ok (.invokevirtual 128, 3) := by decide +kernel
theorem dX4_turnMark_33 : decode cX4_turnMark 33 = .ok (.lstore 12, 2) := by decide +kernel
theorem dX4_turnMark_35 : decode cX4_turnMark 35 = .ok (.lload 12, 2) := by decide +kernel
theorem dX4_turnMark_37 : decode cX4_turnMark 37 = .ok (.l2i, 1) := by decide +kernel
theorem dX4_turnMark_38 : decode cX4_turnMark 38 = .ok (.bipush 15, 2) := by decide +kernel
theorem dX4_turnMark_40 : decode cX4_turnMark 40 = .ok (.iand, 1) := by decide +kernel
theorem dX4_turnMark_41 : decode cX4_turnMark 41 = .ok (.istore 14, 2) := by decide +kernel
theorem dX4_turnMark_43 : decode cX4_turnMark 43 = .ok (.lload 12, 2) := by decide +kernel
theorem dX4_turnMark_45 : decode cX4_turnMark 45 = .ok (.iconst 4, 1) := by decide +kernel
theorem dX4_turnMark_46 : decode cX4_turnMark 46 = .ok (.lshr, 1) := by decide +kernel
theorem dX4_turnMark_47 : decode cX4_turnMark 47 = .ok (.lload 4, 2) := by decide +kernel
theorem dX4_turnMark_49 : decode cX4_turnMark 49 = .ok (.lload 9, 2) := by decide +kernel
theorem dX4_turnMark_51 : decode cX4_turnMark 51 = .ok (.lsub, 1) := by decide +kernel
theorem dX4_turnMark_52 : decode cX4_turnMark 52 = .ok (.invokestatic 83, 3) := by decide +kernel
theorem dX4_turnMark_55 : decode cX4_turnMark 55 = .ok (.lstore 15, 2) := by decide +kernel
theorem dX4_turnMark_57 : decode cX4_turnMark 57 = .ok (.aload 8, 2) := by decide +kernel
theorem dX4_turnMark_59 : decode cX4_turnMark 59 = .ok (.iconst 5, 1) := by decide +kernel
theorem dX4_turnMark_60 : decode cX4_turnMark 60 = .ok (.iload 7, 2) := by decide +kernel
theorem dX4_turnMark_62 : decode cX4_turnMark 62 = .ok (.iload 14, 2) := by decide +kernel
theorem dX4_turnMark_64 : decode cX4_turnMark 64 = .ok (.iand, 1) := by decide +kernel
theorem dX4_turnMark_65 : decode cX4_turnMark 65 = .ok (.iload 6, 2) := by decide +kernel
theorem dX4_turnMark_67 : decode cX4_turnMark 67 = .ok (.iload 14, 2) := by decide +kernel
theorem dX4_turnMark_69 : decode cX4_turnMark 69 = .ok (.iconst (-1), 1) := by decide +kernel
theorem dX4_turnMark_70 : decode cX4_turnMark 70 = .ok (.ixor, 1) := by decide +kernel
theorem dX4_turnMark_71 : decode cX4_turnMark 71 = .ok (.iand, 1) := by decide +kernel
theorem dX4_turnMark_72 : decode cX4_turnMark 72 = .ok (.lload 15, 2) := by decide +kernel
theorem dX4_turnMark_74 : decode cX4_turnMark 74 = .ok (.invokevirtual 68, 3) := by decide +kernel
theorem dX4_turnMark_77 : decode cX4_turnMark 77 = .ok (.lload 9, 2) := by decide +kernel
theorem dX4_turnMark_79 : decode cX4_turnMark 79 = .ok (.lload 15, 2) := by decide +kernel
theorem dX4_turnMark_81 : decode cX4_turnMark 81 = .ok (.ladd, 1) := by decide +kernel
theorem dX4_turnMark_82 : decode cX4_turnMark 82 = .ok (.lstore 9, 2) := by decide +kernel
theorem dX4_turnMark_84 : decode cX4_turnMark 84 = .ok (.iinc 11 1, 3) := by decide +kernel
theorem dX4_turnMark_87 : decode cX4_turnMark 87 = .ok (.goto (-81), 3) := by decide +kernel
theorem dX4_turnMark_90 : decode cX4_turnMark 90 = .ok (.aload 8, 2) := by decide +kernel
theorem dX4_turnMark_92 : decode cX4_turnMark 92 = .ok (.iconst 3, 1) := by decide +kernel
theorem dX4_turnMark_93 : decode cX4_turnMark 93 = .ok (.iconst 0, 1) := by decide +kernel
theorem dX4_turnMark_94 : decode cX4_turnMark 94 = .ok (.iconst 0, 1) := by decide +kernel
theorem dX4_turnMark_95 : decode cX4_turnMark 95 = .ok (.lload 4, 2) := by decide +kernel
theorem dX4_turnMark_97 : decode cX4_turnMark 97 = .ok (.lload 9, 2) := by decide +kernel
theorem dX4_turnMark_99 : decode cX4_turnMark 99 = .ok (.lsub, 1) := by decide +kernel
theorem dX4_turnMark_100 : decode cX4_turnMark 100 = .ok (.invokevirtual 68, 3) := by decide +kernel
theorem dX4_turnMark_103 : decode cX4_turnMark 103 = .ok (.return_, 1) := by decide +kernel
theorem dX1_placeAfter_0 : decode cX1_placeAfter 0 = .ok (.lload_n 1, 1) := by decide +kernel
theorem dX1_placeAfter_1 : decode cX1_placeAfter 1 = .ok (.lstore 4, 2) := by decide +kernel
theorem dX1_placeAfter_3 : decode cX1_placeAfter 3 = .ok (.lconst 0, 1) := by decide +kernel
theorem dX1_placeAfter_4 : decode cX1_placeAfter 4 = .ok (.lstore 6, 2) := by decide +kernel
theorem dX1_placeAfter_6 : decode cX1_placeAfter 6 = .ok (.iconst 0, 1) := by decide +kernel
theorem dX1_placeAfter_7 : decode cX1_placeAfter 7 = .ok (.istore 8, 2) := by decide +kernel
theorem dX1_placeAfter_9 : decode cX1_placeAfter 9 = .ok (.iload 8, 2) := by decide +kernel
theorem dX1_placeAfter_11 : decode cX1_placeAfter 11 = .ok (.aload_n 0, 1) := by decide +kernel
theorem dX1_placeAfter_12 : decode cX1_placeAfter 12 = .ok (.getfield 20, 3) := by decide +kernel
theorem dX1_placeAfter_15 : decode cX1_placeAfter 15 = .ok (.getfield 38, 3) := by decide +kernel
theorem dX1_placeAfter_18 : decode cX1_placeAfter 18 = .ok (.if_icmp .ge 93, 3) := by decide +kernel
theorem dX1_placeAfter_21 : decode cX1_placeAfter 21 = .ok (.aload_n 0, 1) := by decide +kernel
theorem dX1_placeAfter_22 : decode cX1_placeAfter 22 = .ok (.iload 8, 2) := by decide +kernel
theorem dX1_placeAfter_24 : decode cX1_placeAfter 24 = .ok (.invokevirtual 92, 3) := by decide +kernel
theorem dX1_placeAfter_27 : decode cX1_placeAfter 27 = .ok (.lstore 9, 2) := by decide +kernel
theorem dX1_placeAfter_29 : decode cX1_placeAfter 29 = .ok (.aload_n 0, 1) := by decide +kernel
theorem dX1_placeAfter_30 : decode cX1_placeAfter 30 = .ok (.iload 8, 2) := by decide +kernel
theorem dX1_placeAfter_32 : decode cX1_placeAfter 32 = .ok (.invokevirtual 56, 3) := by decide +kernel
theorem dX1_placeAfter_35 : decode cX1_placeAfter 35 = .ok (.istore 11, 2) := by decide +kernel
theorem dX1_placeAfter_37 : decode cX1_placeAfter 37 = .ok (.iload 11, 2) := by decide +kernel
theorem dX1_placeAfter_39 : decode cX1_placeAfter 39 = .ok (.iconst 1, 1) := by decide +kernel
theorem dX1_placeAfter_40 : decode cX1_placeAfter 40 = .ok (.if_icmp .ne 31, 3) := by decide +kernel
theorem dX1_placeAfter_43 : decode cX1_placeAfter 43 = .ok (.lload 6, 2) := by decide +kernel
theorem dX1_placeAfter_45 : decode cX1_placeAfter 45 = .ok (.lload_n 1, 1) := by decide +kernel
theorem dX1_placeAfter_46 : decode cX1_placeAfter 46 = .ok (.lcmp, 1) := by decide +kernel
theorem dX1_placeAfter_47 : decode cX1_placeAfter 47 = .ok (.ifCond .lt 14, 3) := by decide +kernel
theorem dX1_placeAfter_50 : decode cX1_placeAfter 50 = .ok (.iload_n 3, 1) := by decide +kernel
theorem dX1_placeAfter_51 : decode cX1_placeAfter 51 = .ok (.ifCond .eq 54, 3) := by decide +kernel
theorem dX1_placeAfter_54 : decode cX1_placeAfter 54 = .ok (.lload 6, 2) := by decide +kernel
theorem dX1_placeAfter_56 : decode cX1_placeAfter 56 = .ok (.lload_n 1, 1) := by decide +kernel
theorem dX1_placeAfter_57 : decode cX1_placeAfter 57 = .ok (.lcmp, 1) := by decide +kernel
theorem dX1_placeAfter_58 : decode cX1_placeAfter 58 = .ok (.ifCond .ne 47, 3) := by decide +kernel
theorem dX1_placeAfter_61 : decode cX1_placeAfter 61 = .ok (.lload 4, 2) := by decide +kernel
theorem dX1_placeAfter_63 : decode cX1_placeAfter 63 = .ok (.lload 9, 2) := by decide +kernel
theorem dX1_placeAfter_65 : decode cX1_placeAfter 65 = .ok (.ladd, 1) := by decide +kernel
theorem dX1_placeAfter_66 : decode cX1_placeAfter 66 = .ok (.lstore 4, 2) := by decide +kernel
theorem dX1_placeAfter_68 : decode cX1_placeAfter 68 = .ok (.goto 37, 3) := by decide +kernel
theorem dX1_placeAfter_71 : decode cX1_placeAfter 71 = .ok (.iload 11, 2) := by decide +kernel
theorem dX1_placeAfter_73 : decode cX1_placeAfter 73 = .ok (.iconst 4, 1) := by decide +kernel
theorem dX1_placeAfter_74 : decode cX1_placeAfter 74 = .ok (.if_icmp .ne 24, 3) := by decide +kernel
theorem dX1_placeAfter_77 : decode cX1_placeAfter 77 = .ok (.lload 6, 2) := by decide +kernel
theorem dX1_placeAfter_79 : decode cX1_placeAfter 79 = .ok (.lload_n 1, 1) := by decide +kernel
theorem dX1_placeAfter_80 : decode cX1_placeAfter 80 = .ok (.lcmp, 1) := by decide +kernel
theorem dX1_placeAfter_81 : decode cX1_placeAfter 81 = .ok (.ifCond .ge 17, 3) := by decide +kernel
theorem dX1_placeAfter_84 : decode cX1_placeAfter 84 = .ok (.lload 4, 2) := by decide +kernel
theorem dX1_placeAfter_86 : decode cX1_placeAfter 86 = .ok (.lload 9, 2) := by decide +kernel
theorem dX1_placeAfter_88 : decode cX1_placeAfter 88 = .ok (.lload_n 1, 1) := by decide +kernel
theorem dX1_placeAfter_89 : decode cX1_placeAfter 89 = .ok (.lload 6, 2) := by decide +kernel
theorem dX1_placeAfter_91 : decode cX1_placeAfter 91 = .ok (.lsub, 1) := by decide +kernel
theorem dX1_placeAfter_92 : decode cX1_placeAfter 92 = .ok (.invokestatic 113, 3) := by decide +kernel
theorem dX1_placeAfter_95 : decode cX1_placeAfter 95 = .ok (.lsub, 1) := by decide +kernel
theorem dX1_placeAfter_96 : decode cX1_placeAfter 96 = .ok (.lstore 4, 2) := by decide +kernel
theorem dX1_placeAfter_98 : decode cX1_placeAfter 98 = .ok (.lload 6, 2) := by decide +kernel
theorem dX1_placeAfter_100 : decode cX1_placeAfter 100 = .ok (.lload 9, 2) := by decide +kernel
theorem dX1_placeAfter_102 : decode cX1_placeAfter 102 = .ok (.ladd, 1) := by decide +kernel
theorem dX1_placeAfter_103 : decode cX1_placeAfter 103 = .ok (.lstore 6, 2) := by decide +kernel
theorem dX1_placeAfter_105 : decode cX1_placeAfter 105 = .ok (.iinc 8 1, 3) := by decide +kernel
theorem dX1_placeAfter_108 : decode cX1_placeAfter 108 = .ok (.goto (-99), 3) := by decide +kernel
theorem dX1_placeAfter_111 : decode cX1_placeAfter 111 = .ok (.lload 4, 2) := by decide +kernel
theorem dX1_placeAfter_113 : decode cX1_placeAfter 113 = .ok (.lreturn, 1) := by decide +kernel
theorem dX7_like_0 : decode cX7_like 0 = .ok (.aload_n 1, 1) := by decide +kernel
theorem dX7_like_1 : decode cX7_like 1 = .ok (.getfield 17, 3) := by decide +kernel
theorem dX7_like_4 : decode cX7_like 4 = .ok (.iconst 2, 1) := by decide +kernel
theorem dX7_like_5 : decode cX7_like 5 = .ok (.aload_n 0, 1) := by decide +kernel
theorem dX7_like_6 : decode cX7_like 6 = .ok (.getfield 7, 3) := by decide +kernel
theorem dX7_like_9 : decode cX7_like 9 = .ok (.arraylength, 1) := by decide +kernel
theorem dX7_like_10 : decode cX7_like 10 = .ok (.imul, 1) := by decide +kernel
theorem dX7_like_11 : decode cX7_like 11 = .ok (.invokestatic 34, 3) := by decide +kernel
theorem dX7_like_14 : decode cX7_like 14 = .ok (.istore_n 2, 1) := by decide +kernel
theorem dX7_like_15 : decode cX7_like 15 = .ok (.aload_n 1, 1) := by decide +kernel
theorem dX7_like_16 : decode cX7_like 16 = .ok (.getfield 17, 3) := by decide +kernel
theorem dX7_like_19 : decode cX7_like 19 = .ok (.aload_n 0, 1) := by decide +kernel
theorem dX7_like_20 : decode cX7_like 20 = .ok (.getfield 7, 3) := by decide +kernel
theorem dX7_like_23 : decode cX7_like 23 = .ok (.arraylength, 1) := by decide +kernel
theorem dX7_like_24 : decode cX7_like 24 = .ok (.if_icmp .le 27, 3) := by decide +kernel
theorem dX7_like_27 : decode cX7_like 27 = .ok (.aload_n 0, 1) := by decide +kernel
theorem dX7_like_28 : decode cX7_like 28 = .ok (.getfield 13, 3) := by decide +kernel
theorem dX7_like_31 : decode cX7_like 31 = .ok (.iload_n 2, 1) := by decide +kernel
theorem dX7_like_32 : decode cX7_like 32 = .ok (.aload_n 0, 1) := by decide +kernel
theorem dX7_like_33 : decode cX7_like 33 = .ok (.getfield 7, 3) := by decide +kernel
theorem dX7_like_36 : decode cX7_like 36 = .ok (.arraylength, 1) := by decide +kernel
theorem dX7_like_37 : decode cX7_like 37 = .ok (.isub, 1) := by decide +kernel
theorem dX7_like_38 : decode cX7_like 38 = .ok (.invokevirtual 22, 3) := by decide +kernel
theorem dX7_like_41 : decode cX7_like 41 = .ok (.ifCond .eq 10, 3) := by decide +kernel
theorem dX7_like_44 : decode cX7_like 44 = .ok (.aload_n 0, 1) := by decide +kernel
theorem dX7_like_45 : decode cX7_like 45 = .ok (.iload_n 2, 1) := by decide +kernel
theorem dX7_like_46 : decode cX7_like 46 = .ok (.newarray .long, 2) := by decide +kernel
theorem dX7_like_48 : decode cX7_like 48 = .ok (.putfield 7, 3) := by decide +kernel
theorem dX7_like_51 : decode cX7_like 51 = .ok (.aload_n 0, 1) := by decide +kernel
theorem dX7_like_52 : decode cX7_like 52 = .ok (.aload_n 1, 1) := by decide +kernel
theorem dX7_like_53 : decode cX7_like 53 = .ok (.getfield 17, 3) := by decide +kernel
theorem dX7_like_56 : decode cX7_like 56 = .ok (.aload_n 0, 1) := by decide +kernel
theorem dX7_like_57 : decode cX7_like 57 = .ok (.getfield 7, 3) := by decide +kernel
theorem dX7_like_60 : decode cX7_like 60 = .ok (.arraylength, 1) := by decide +kernel
theorem dX7_like_61 : decode cX7_like 61 = .ok (.invokestatic 40, 3) := by decide +kernel
theorem dX7_like_64 : decode cX7_like 64 = .ok (.putfield 17, 3) := by decide +kernel
theorem dX7_like_67 : decode cX7_like 67 = .ok (.aload_n 1, 1) := by decide +kernel
theorem dX7_like_68 : decode cX7_like 68 = .ok (.getfield 7, 3) := by decide +kernel
theorem dX7_like_71 : decode cX7_like 71 = .ok (.iconst 0, 1) := by decide +kernel
theorem dX7_like_72 : decode cX7_like 72 = .ok (.aload_n 0, 1) := by decide +kernel
theorem dX7_like_73 : decode cX7_like 73 = .ok (.getfield 7, 3) := by decide +kernel
theorem dX7_like_76 : decode cX7_like 76 = .ok (.iconst 0, 1) := by decide +kernel
theorem dX7_like_77 : decode cX7_like 77 = .ok (.aload_n 0, 1) := by decide +kernel
theorem dX7_like_78 : decode cX7_like 78 = .ok (.getfield 17, 3) := by decide +kernel
theorem dX7_like_81 : decode cX7_like 81 = .ok (.invokestatic 43, 3) := by decide +kernel
theorem dX7_like_84 : decode cX7_like 84 = .ok (.return_, 1) := by decide +kernel
theorem dX10_start_0 : decode cX10_start 0 = .ok (.aload_n 0, 1) := by decide +kernel
theorem dX10_start_1 : decode cX10_start 1 = .ok (.aload_n 1, 1) := by decide +kernel
theorem dX10_start_2 : decode cX10_start 2 = .ok (.putfield 9, 3) := by decide +kernel
theorem dX10_start_5 : decode cX10_start 5 = .ok (.aload_n 0, 1) := by decide +kernel
theorem dX10_start_6 : decode cX10_start 6 = .ok (.iconst (-1), 1) := by decide +kernel
theorem dX10_start_7 : decode cX10_start 7 = .ok (.putfield 15, 3) := by decide +kernel
theorem dX10_start_10 : decode cX10_start 10 = .ok (.aload_n 0, 1) := by decide +kernel
theorem dX10_start_11 : decode cX10_start 11 = .ok (.invokevirtual 19, 3) := by decide +kernel
theorem dX10_start_14 : decode cX10_start 14 = .ok (.return_, 1) := by decide +kernel
theorem dX10_root_0 : decode cX10_root 0 = .ok (.aload_n 0, 1) := by decide +kernel
theorem dX10_root_1 : decode cX10_root 1 = .ok (.getfield 9, 3) := by decide +kernel
theorem dX10_root_4 : decode cX10_root 4 = .ok (.ifnonnull 7, 3) := by decide +kernel
theorem dX10_root_7 : decode cX10_root 7 = .ok (.iconst (-1), 1) := by decide +kernel
theorem dX10_root_8 : decode cX10_root 8 = .ok (.goto 14, 3) := by decide +kernel
theorem dX10_root_11 : decode cX10_root 11 = .ok (.aload_n 0, 1) := by decide +kernel
theorem dX10_root_12 : decode cX10_root 12 = .ok (.getfield 9, 3) := by decide +kernel
theorem dX10_root_15 : decode cX10_root 15 = .ok (.aload_n 0, 1) := by decide +kernel
theorem dX10_root_16 : decode cX10_root 16 = .ok (.getfield 15, 3) := by decide +kernel
theorem dX10_root_19 : decode cX10_root 19 = .ok (.invokevirtual 31, 3) := by decide +kernel
theorem dX10_root_22 : decode cX10_root 22 = .ok (.ireturn, 1) := by decide +kernel
theorem dX10_go_0 : decode cX10_go 0 = .ok (.aload_n 0, 1) := by decide +kernel
theorem dX10_go_1 : decode cX10_go 1 = .ok (.dup, 1) := by decide +kernel
theorem dX10_go_2 : decode cX10_go 2 = .ok (.getfield 22, 3) := by decide +kernel
theorem dX10_go_5 : decode cX10_go 5 = .ok (.lload_n 1, 1) := by decide +kernel
theorem dX10_go_6 : decode cX10_go 6 = .ok (.ladd, 1) := by decide +kernel
theorem dX10_go_7 : decode cX10_go 7 = .ok (.putfield 22, 3) := by decide +kernel
theorem dX10_go_10 : decode cX10_go 10 = .ok (.aload_n 0, 1) := by decide +kernel
theorem dX10_go_11 : decode cX10_go 11 = .ok (.dup, 1) := by decide +kernel
theorem dX10_go_12 : decode cX10_go 12 = .ok (.getfield 26, 3) := by decide +kernel
theorem dX10_go_15 : decode cX10_go 15 = .ok (.lload_n 1, 1) := by decide +kernel
theorem dX10_go_16 : decode cX10_go 16 = .ok (.lsub, 1) := by decide +kernel
theorem dX10_go_17 : decode cX10_go 17 = .ok (.putfield 26, 3) := by decide +kernel
theorem dX10_go_20 : decode cX10_go 20 = .ok (.aload_n 0, 1) := by decide +kernel
theorem dX10_go_21 : decode cX10_go 21 = .ok (.getfield 26, 3) := by decide +kernel
theorem dX10_go_24 : decode cX10_go 24 = .ok (.lconst 0, 1) := by decide +kernel
theorem dX10_go_25 : decode cX10_go 25 = .ok (.lcmp, 1) := by decide +kernel
theorem dX10_go_26 : decode cX10_go 26 = .ok (.ifCond .gt 7, 3) := by decide +kernel
theorem dX10_go_29 : decode cX10_go 29 = .ok (.aload_n 0, 1) := by decide +kernel
theorem dX10_go_30 : decode cX10_go 30 = .ok (.invokevirtual 19, 3) := by decide +kernel
theorem dX10_go_33 : decode cX10_go 33 = .ok (.return_, 1) := by decide +kernel
theorem dX7_take_0 : decode cX7_take 0 = .ok (.aload_n 1, 1) := by decide +kernel
theorem dX7_take_1 : decode cX7_take 1 = .ok (.getfield 7, 3) := by decide +kernel
theorem dX7_take_4 : decode cX7_take 4 = .ok (.arraylength, 1) := by decide +kernel
theorem dX7_take_5 : decode cX7_take 5 = .ok (.bipush 8, 2) := by decide +kernel
theorem dX7_take_7 : decode cX7_take 7 = .ok (.aload_n 1, 1) := by decide +kernel
theorem dX7_take_8 : decode cX7_take 8 = .ok (.getfield 17, 3) := by decide +kernel
theorem dX7_take_11 : decode cX7_take 11 = .ok (.imul, 1) := by decide +kernel
theorem dX7_take_12 : decode cX7_take 12 = .ok (.bipush 64, 2) := by decide +kernel
theorem dX7_take_14 : decode cX7_take 14 = .ok (.iadd, 1) := by decide +kernel
theorem dX7_take_15 : decode cX7_take 15 = .ok (.if_icmp .le 9, 3) := by decide +kernel
theorem dX7_take_18 : decode cX7_take 18 = .ok (.aload_n 0, 1) := by decide +kernel
theorem dX7_take_19 : decode cX7_take 19 = .ok (.aload_n 1, 1) := by decide +kernel
theorem dX7_take_20 : decode cX7_take 20 = .ok (.invokevirtual 49, 3) := by decide +kernel
theorem dX7_take_23 : decode cX7_take 23 = .ok (.return_, 1) := by decide +kernel
theorem dX7_take_24 : decode cX7_take 24 = .ok (.aload_n 1, 1) := by decide +kernel
theorem dX7_take_25 : decode cX7_take 25 = .ok (.getfield 7, 3) := by decide +kernel
theorem dX7_take_28 : decode cX7_take 28 = .ok (.astore_n 2, 1) := by decide +kernel
theorem dX7_take_29 : decode cX7_take 29 = .ok (.aload_n 1, 1) := by decide +kernel
theorem dX7_take_30 : decode cX7_take 30 = .ok (.getfield 17, 3) := by decide +kernel
theorem dX7_take_33 : decode cX7_take 33 = .ok (.istore_n 3, 1) := by decide +kernel
theorem dX7_take_34 : decode cX7_take 34 = .ok (.aload_n 1, 1) := by decide +kernel
theorem dX7_take_35 : decode cX7_take 35 = .ok (.aload_n 0, 1) := by decide +kernel
theorem dX7_take_36 : decode cX7_take 36 = .ok (.getfield 7, 3) := by decide +kernel
theorem dX7_take_39 : decode cX7_take 39 = .ok (.putfield 7, 3) := by decide +kernel
theorem dX7_take_42 : decode cX7_take 42 = .ok (.aload_n 1, 1) := by decide +kernel
theorem dX7_take_43 : decode cX7_take 43 = .ok (.aload_n 0, 1) := by decide +kernel
theorem dX7_take_44 : decode cX7_take 44 = .ok (.getfield 17, 3) := by decide +kernel
theorem dX7_take_47 : decode cX7_take 47 = .ok (.putfield 17, 3) := by decide +kernel
theorem dX7_take_50 : decode cX7_take 50 = .ok (.aload_n 0, 1) := by decide +kernel
theorem dX7_take_51 : decode cX7_take 51 = .ok (.aload_n 2, 1) := by decide +kernel
theorem dX7_take_52 : decode cX7_take 52 = .ok (.putfield 7, 3) := by decide +kernel
theorem dX7_take_55 : decode cX7_take 55 = .ok (.aload_n 0, 1) := by decide +kernel
theorem dX7_take_56 : decode cX7_take 56 = .ok (.iload_n 3, 1) := by decide +kernel
theorem dX7_take_57 : decode cX7_take 57 = .ok (.putfield 17, 3) := by decide +kernel
theorem dX7_take_60 : decode cX7_take 60 = .ok (.return_, 1) := by decide +kernel
theorem dX3_turnAll_0 : decode cX3_turnAll 0 = .ok (.aload_n 0, 1) := by decide +kernel
theorem dX3_turnAll_1 : decode cX3_turnAll 1 = .ok (.iload_n 1, 1) := by decide +kernel
theorem dX3_turnAll_2 : decode cX3_turnAll 2 = .ok (.invokevirtual 70, 3) := by decide +kernel
theorem dX3_turnAll_5 : decode cX3_turnAll 5 = .ok (.ifCond .eq 9, 3) := by decide +kernel
theorem dX3_turnAll_8 : decode cX3_turnAll 8 = .ok (.iload_n 2, 1) := by decide +kernel
theorem dX3_turnAll_9 : decode cX3_turnAll 9 = .ok (.iload_n 3, 1) := by decide +kernel
theorem dX3_turnAll_10 : decode cX3_turnAll 10 = .ok (.ior, 1) := by decide +kernel
theorem dX3_turnAll_11 : decode cX3_turnAll 11 = .ok (.ifCond .ne 5, 3) := by decide +kernel
theorem dX3_turnAll_14 : decode cX3_turnAll 14 = .ok (.iload_n 1, 1) := by decide +kernel
theorem dX3_turnAll_15 : decode cX3_turnAll 15 = .ok (.ireturn, 1) := by decide +kernel
theorem dX3_turnAll_16 : decode cX3_turnAll 16 = .ok (.aload_n 0, 1) := by decide +kernel
theorem dX3_turnAll_17 : decode cX3_turnAll 17 = .ok (.dup, 1) := by decide +kernel
theorem dX3_turnAll_18 : decode cX3_turnAll 18 = .ok (.getfield 98, 3) := by decide +kernel
theorem dX3_turnAll_21 : decode cX3_turnAll 21 = .ok (.iconst 1, 1) := by decide +kernel
theorem dX3_turnAll_22 : decode cX3_turnAll 22 = .ok (.iadd, 1) := by decide +kernel
theorem dX3_turnAll_23 : decode cX3_turnAll 23 = .ok (.putfield 98, 3) := by decide +kernel
theorem dX3_turnAll_26 : decode cX3_turnAll 26 = .ok (.iconst 0, 1) := by decide +kernel
theorem dX3_turnAll_27 : decode cX3_turnAll 27 = .ok (.istore 4, 2) := by decide +kernel
theorem dX3_turnAll_29 : decode cX3_turnAll 29 = .ok (.aload_n 0, 1) := by decide +kernel
theorem dX3_turnAll_30 : decode cX3_turnAll 30 = .ok (.getfield 22, 3) := by decide +kernel
theorem dX3_turnAll_33 : decode cX3_turnAll 33 = .ok (.iload 4, 2) := by decide +kernel
theorem dX3_turnAll_35 : decode cX3_turnAll 35 = .ok (.iinc 4 1, 3) := by decide +kernel
theorem dX3_turnAll_38 : decode cX3_turnAll 38 = .ok (.iload_n 1, 1) := by decide +kernel
theorem dX3_turnAll_39 : decode cX3_turnAll 39 = .ok (.iastore, 1) := by decide +kernel
theorem dX3_turnAll_40 : decode cX3_turnAll 40 = .ok (.iconst 4, 1) := by decide +kernel
theorem dX3_turnAll_41 : decode cX3_turnAll 41 = .ok (.aload_n 0, 1) := by decide +kernel
theorem dX3_turnAll_42 : decode cX3_turnAll 42 = .ok (.getfield 55, 3) := by decide +kernel
theorem dX3_turnAll_45 : decode cX3_turnAll 45 = .ok (.imul, 1) := by decide +kernel
theorem dX3_turnAll_46 : decode cX3_turnAll 46 = .ok (.istore 5, 2) := by decide +kernel
theorem dX3_turnAll_48 : decode cX3_turnAll 48 = .ok (.iconst 0, 1) := by decide +kernel
theorem dX3_turnAll_49 : decode cX3_turnAll 49 = .ok (.istore 6, 2) := by decide +kernel
theorem dX3_turnAll_51 : decode cX3_turnAll 51 = .ok (.iload 6, 2) := by decide +kernel
theorem dX3_turnAll_53 : decode cX3_turnAll 53 = .ok (.iload 5, 2) := by decide +kernel
theorem dX3_turnAll_55 : decode cX3_turnAll 55 = .ok (.if_icmp .ge 183, 3) := by decide +kernel
theorem dX3_turnAll_58 : decode cX3_turnAll 58 = .ok (.iload 4, 2) := by decide +kernel
theorem dX3_turnAll_60 : decode cX3_turnAll 60 = .ok (.ifCond .le 178, 3) := by decide +kernel
theorem dX3_turnAll_63 : decode cX3_turnAll 63 = .ok (.aload_n 0, 1) := by decide +kernel
theorem dX3_turnAll_64 : decode cX3_turnAll 64 = .ok (.getfield 22, 3) := by decide +kernel
theorem dX3_turnAll_67 : decode cX3_turnAll 67 = .ok (.iload 4, 2) := by decide +kernel
theorem dX3_turnAll_69 : decode cX3_turnAll 69 = .ok (.iconst 1, 1) := by decide +kernel
theorem dX3_turnAll_70 : decode cX3_turnAll 70 = .ok (.isub, 1) := by decide +kernel
theorem dX3_turnAll_71 : decode cX3_turnAll 71 = .ok (.iaload, 1) := by decide +kernel
theorem dX3_turnAll_72 : decode cX3_turnAll 72 = .ok (.istore 7, 2) := by decide +kernel
theorem dX3_turnAll_74 : decode cX3_turnAll 74 = .ok (.aload_n 0, 1) := by decide +kernel
theorem dX3_turnAll_75 : decode cX3_turnAll 75 = .ok (.iload 7, 2) := by decide +kernel
theorem dX3_turnAll_77 : decode cX3_turnAll 77 = .ok (.iload_n 2, 1) := by decide +kernel
theorem dX3_turnAll_78 : decode cX3_turnAll 78 = .ok (.iload_n 3, 1) := by decide +kernel
theorem dX3_turnAll_79 : decode cX3_turnAll 79 = .ok (.invokevirtual 101, 3) := by decide +kernel
theorem dX3_turnAll_82 : decode cX3_turnAll 82 = .ok (.ifCond .eq 9, 3) := by decide +kernel
theorem dX3_turnAll_85 : decode cX3_turnAll 85 = .ok (.iinc 4 (-1), 3) := by decide +kernel
theorem dX3_turnAll_88 : decode cX3_turnAll 88 = .ok (.goto 144, 3) := by decide +kernel
theorem dX3_turnAll_91 : decode cX3_turnAll 91 = .ok (.aload_n 0, 1) := by decide +kernel
theorem dX3_turnAll_92 : decode cX3_turnAll 92 = .ok (.aload_n 0, 1) := by decide +kernel
theorem dX3_turnAll_93 : decode cX3_turnAll 93 = .ok (.getfield 25, 3) := by decide +kernel
theorem dX3_turnAll_96 : decode cX3_turnAll 96 = .ok (.iload 7, 2) := by decide +kernel
theorem dX3_turnAll_98 : decode cX3_turnAll 98 = .ok (.iaload, 1) := by decide +kernel
theorem dX3_turnAll_99 : decode cX3_turnAll 99 = .ok (.iload_n 2, 1) := by decide +kernel
theorem dX3_turnAll_100 : decode cX3_turnAll 100 = .ok (.iload_n 3, 1) := by decide +kernel
theorem dX3_turnAll_101 : decode cX3_turnAll 101 = .ok (.invokevirtual 101, 3) := by decide +kernel
theorem dX3_turnAll_104 : decode cX3_turnAll 104 = .ok (.ifCond .ne 31, 3) := by decide +kernel
theorem dX3_turnAll_107 : decode cX3_turnAll 107 = .ok (.iload 4, 2) := by decide +kernel
theorem dX3_turnAll_109 : decode cX3_turnAll 109 = .ok (.sipush 128, 3) := by decide +kernel
theorem dX3_turnAll_112 : decode cX3_turnAll 112 = .ok (.if_icmp .ge 23, 3) := by decide +kernel
theorem dX3_turnAll_115 : decode cX3_turnAll 115 = .ok (.aload_n 0, 1) := by decide +kernel
theorem dX3_turnAll_116 : decode cX3_turnAll 116 = .ok (.getfield 22, 3) := by decide +kernel
theorem dX3_turnAll_119 : decode cX3_turnAll 119 = .ok (.iload 4, 2) := by decide +kernel
theorem dX3_turnAll_121 : decode cX3_turnAll 121 = .ok (.iinc 4 1, 3) := by decide +kernel
theorem dX3_turnAll_124 : decode cX3_turnAll 124 = .ok (.aload_n 0, 1) := by decide +kernel
theorem dX3_turnAll_125 : decode cX3_turnAll 125 = .ok (.getfield 25, 3) := by decide +kernel
theorem dX3_turnAll_128 : decode cX3_turnAll 128 = .ok (.iload 7, 2) := by decide +kernel
theorem dX3_turnAll_130 : decode cX3_turnAll 130 = .ok (.iaload, 1) := by decide +kernel
theorem dX3_turnAll_131 : decode cX3_turnAll 131 = .ok (.iastore, 1) := by decide +kernel
theorem dX3_turnAll_132 : decode cX3_turnAll 132 = .ok (.goto 100, 3) := by decide +kernel
theorem dX3_turnAll_135 : decode cX3_turnAll 135 = .ok (.aload_n 0, 1) := by decide +kernel
theorem dX3_turnAll_136 : decode cX3_turnAll 136 = .ok (.aload_n 0, 1) := by decide +kernel
theorem dX3_turnAll_137 : decode cX3_turnAll 137 = .ok (.getfield 28, 3) := by decide +kernel
theorem dX3_turnAll_140 : decode cX3_turnAll 140 = .ok (.iload 7, 2) := by decide +kernel
theorem dX3_turnAll_142 : decode cX3_turnAll 142 = .ok (.iaload, 1) := by decide +kernel
theorem dX3_turnAll_143 : decode cX3_turnAll 143 = .ok (.iload_n 2, 1) := by decide +kernel
theorem dX3_turnAll_144 : decode cX3_turnAll 144 = .ok (.iload_n 3, 1) := by decide +kernel
theorem dX3_turnAll_145 : decode cX3_turnAll 145 = .ok (.invokevirtual 101, 3) := by decide +kernel
theorem dX3_turnAll_148 : decode cX3_turnAll 148 = .ok (.ifCond .ne 31, 3) := by decide +kernel
theorem dX3_turnAll_151 : decode cX3_turnAll 151 = .ok (.iload 4, 2) := by decide +kernel
theorem dX3_turnAll_153 : decode cX3_turnAll 153 = .ok (.sipush 128, 3) := by decide +kernel
theorem dX3_turnAll_156 : decode cX3_turnAll 156 = .ok (.if_icmp .ge 23, 3) := by decide +kernel
theorem dX3_turnAll_159 : decode cX3_turnAll 159 = .ok (.aload_n 0, 1) := by decide +kernel
theorem dX3_turnAll_160 : decode cX3_turnAll 160 = .ok (.getfield 22, 3) := by decide +kernel
theorem dX3_turnAll_163 : decode cX3_turnAll 163 = .ok (.iload 4, 2) := by decide +kernel
theorem dX3_turnAll_165 : decode cX3_turnAll 165 = .ok (.iinc 4 1, 3) := by decide +kernel
theorem dX3_turnAll_168 : decode cX3_turnAll 168 = .ok (.aload_n 0, 1) := by decide +kernel
theorem dX3_turnAll_169 : decode cX3_turnAll 169 = .ok (.getfield 28, 3) := by decide +kernel
theorem dX3_turnAll_172 : decode cX3_turnAll 172 = .ok (.iload 7, 2) := by decide +kernel
theorem dX3_turnAll_174 : decode cX3_turnAll 174 = .ok (.iaload, 1) := by decide +kernel
theorem dX3_turnAll_175 : decode cX3_turnAll 175 = .ok (.iastore, 1) := by decide +kernel
theorem dX3_turnAll_176 : decode cX3_turnAll 176 = .ok (.goto 56, 3) := by decide +kernel
theorem dX3_turnAll_179 : decode cX3_turnAll 179 = .ok (.aload_n 0, 1) := by decide +kernel
theorem dX3_turnAll_180 : decode cX3_turnAll 180 = .ok (.invokevirtual 83, 3) := by decide +kernel
theorem dX3_turnAll_183 : decode cX3_turnAll 183 = .ok (.aload_n 0, 1) := by decide +kernel
theorem dX3_turnAll_184 : decode cX3_turnAll 184 = .ok (.getfield 44, 3) := by decide +kernel
theorem dX3_turnAll_187 : decode cX3_turnAll 187 = .ok (.iload 7, 2) := by decide +kernel
theorem dX3_turnAll_189 : decode cX3_turnAll 189 = .ok (.aload_n 0, 1) := by decide +kernel
theorem dX3_turnAll_190 : decode cX3_turnAll 190 = .ok (.aload_n 0, 1) := by decide +kernel
theorem dX3_turnAll_191 : decode cX3_turnAll 191 = .ok (.getfield 44, 3) := by decide +kernel
theorem dX3_turnAll_194 : decode cX3_turnAll 194 = .ok (.aload_n 0, 1) := by decide +kernel
theorem dX3_turnAll_195 : decode cX3_turnAll 195 = .ok (.getfield 25, 3) := by decide +kernel
theorem dX3_turnAll_198 : decode cX3_turnAll 198 = .ok (.iload 7, 2) := by decide +kernel
theorem dX3_turnAll_200 : decode cX3_turnAll 200 = .ok (.iaload, 1) := by decide +kernel
theorem dX3_turnAll_201 : decode cX3_turnAll 201 = .ok (.iaload, 1) := by decide +kernel
theorem dX3_turnAll_202 : decode cX3_turnAll 202 = .ok (.aload_n 0, 1) := by decide +kernel
theorem dX3_turnAll_203 : decode cX3_turnAll 203 = .ok (.getfield 44, 3) := by decide +kernel
theorem dX3_turnAll_206 : decode cX3_turnAll 206 = .ok (.aload_n 0, 1) := by decide +kernel
theorem dX3_turnAll_207 : decode cX3_turnAll 207 = .ok (.getfield 28, 3) := by decide +kernel
theorem dX3_turnAll_210 : decode cX3_turnAll 210 = .ok (.iload 7, 2) := by decide +kernel
theorem dX3_turnAll_212 : decode cX3_turnAll 212 = .ok (.iaload, 1) := by decide +kernel
theorem dX3_turnAll_213 : decode cX3_turnAll 213 = .ok (.iaload, 1) := by decide +kernel
theorem dX3_turnAll_214 : decode cX3_turnAll 214 = .ok (.invokevirtual 86, 3) := by decide +kernel
theorem dX3_turnAll_217 : decode cX3_turnAll 217 = .ok (.iastore, 1) := by decide +kernel
theorem dX3_turnAll_218 : decode cX3_turnAll 218 = .ok (.aload_n 0, 1) := by decide +kernel
theorem dX3_turnAll_219 : decode cX3_turnAll 219 = .ok (.getfield 41, 3) := by decide +kernel
theorem dX3_turnAll_222 : decode cX3_turnAll 222 = .ok (.iload 7, 2) := by decide +kernel
theorem dX3_turnAll_224 : decode cX3_turnAll 224 = .ok (.aload_n 0, 1) := by decide +kernel
theorem dX3_turnAll_225 : decode cX3_turnAll 225 = .ok (.getfield 98, 3) := by decide +kernel
theorem dX3_turnAll_228 : decode cX3_turnAll 228 = .ok (.iastore, 1) := by decide +kernel
theorem dX3_turnAll_229 : decode cX3_turnAll 229 = .ok (.iinc 4 (-1), 3) := by decide +kernel
theorem dX3_turnAll_232 : decode cX3_turnAll 232 = .ok (.iinc 6 1, 3) := by decide +kernel
theorem dX3_turnAll_235 : decode cX3_turnAll 235 = .ok (.goto (-184), 3) := by decide +kernel
theorem dX3_turnAll_238 : decode cX3_turnAll 238 = .ok (.aload_n 0, 1) := by decide +kernel
theorem dX3_turnAll_239 : decode cX3_turnAll 239 = .ok (.getfield 44, 3) := by decide +kernel
theorem dX3_turnAll_242 : decode cX3_turnAll 242 = .ok (.iload_n 1, 1) := by decide +kernel
theorem dX3_turnAll_243 : decode cX3_turnAll 243 = .ok (.iaload, 1) := by decide +kernel
theorem dX3_turnAll_244 : decode cX3_turnAll 244 = .ok (.ireturn, 1) := by decide +kernel
theorem dJxa1e45_init_da8c8_0 : decode cJxa1e45_init_da8c8 0 = .ok (.aload_n 0, 1) := by decide +kernel
theorem dJxa1e45_init_da8c8_1 : decode cJxa1e45_init_da8c8 1 = .ok (.invokespecial 1, 3) := by decide +kernel
theorem dJxa1e45_init_da8c8_4 : decode cJxa1e45_init_da8c8 4 = .ok (.return_, 1) := by decide +kernel
theorem dJx4a65c_grow_d5877_0 : decode cJx4a65c_grow_d5877 0 = .ok (.aload_n 0, 1) := by decide +kernel
theorem dJx4a65c_grow_d5877_1 : decode cJx4a65c_grow_d5877 1 = .ok (.aload_n 0, 1) := by decide +kernel
theorem dJx4a65c_grow_d5877_2 : decode cJx4a65c_grow_d5877 2 = .ok (.getfield 48, 3) := by decide +kernel
theorem dJx4a65c_grow_d5877_5 : decode cJx4a65c_grow_d5877 5 = .ok (.iconst 1, 1) := by decide +kernel
theorem dJx4a65c_grow_d5877_6 : decode cJx4a65c_grow_d5877 6 = .ok (.iadd, 1) := by decide +kernel
theorem dJx4a65c_grow_d5877_7 : decode cJx4a65c_grow_d5877 7 = .ok (.invokevirtual 69, 3) := by decide +kernel
theorem dJx4a65c_grow_d5877_10 : decode cJx4a65c_grow_d5877 10 = .ok (.areturn, 1) := by decide +kernel
theorem dX12_kind_0 : decode cX12_kind 0 = .ok (.iload_n 0, 1) := by decide +kernel
theorem dX12_kind_1 : decode cX12_kind 1 = .ok (.ldc 92, 2) := by decide +kernel
theorem dX12_kind_3 : decode cX12_kind 3 = .ok (.iand, 1) := by decide +kernel
theorem dX12_kind_4 : decode cX12_kind 4 = .ok (.ireturn, 1) := by decide +kernel
theorem dX12_plain_0 : decode cX12_plain 0 = .ok (.iconst 0, 1) := by decide +kernel
theorem dX12_plain_1 : decode cX12_plain 1 = .ok (.istore_n 2, 1) := by decide +kernel
theorem dX12_plain_2 : decode cX12_plain 2 = .ok (.iconst 0, 1) := by decide +kernel
theorem dX12_plain_3 : decode cX12_plain 3 = .ok (.istore_n 3, 1) := by decide +kernel
theorem dX12_plain_4 : decode cX12_plain 4 = .ok (.iconst 0, 1) := by decide +kernel
theorem dX12_plain_5 : decode cX12_plain 5 = .ok (.istore 4, 2) := by decide +kernel
theorem dX12_plain_7 : decode cX12_plain 7 = .ok (.iload 4, 2) := by decide +kernel
theorem dX12_plain_9 : decode cX12_plain 9 = .ok (.aload_n 0, 1) := by decide +kernel
theorem dX12_plain_10 : decode cX12_plain 10 = .ok (.getfield 43, 3) := by decide +kernel
theorem dX12_plain_13 : decode cX12_plain 13 = .ok (.iload_n 1, 1) := by decide +kernel
theorem dX12_plain_14 : decode cX12_plain 14 = .ok (.iaload, 1) := by decide +kernel
theorem dX12_plain_15 : decode cX12_plain 15 = .ok (.if_icmp .gt 109, 3) := by decide +kernel
theorem dX12_plain_18 : decode cX12_plain 18 = .ok (.iload 4, 2) := by decide +kernel
theorem dX12_plain_20 : decode cX12_plain 20 = .ok (.aload_n 0, 1) := by decide +kernel
theorem dX12_plain_21 : decode cX12_plain 21 = .ok (.getfield 43, 3) := by decide +kernel
theorem dX12_plain_24 : decode cX12_plain 24 = .ok (.iload_n 1, 1) := by decide +kernel
theorem dX12_plain_25 : decode cX12_plain 25 = .ok (.iaload, 1) := by decide +kernel
theorem dX12_plain_26 : decode cX12_plain 26 = .ok (.if_icmp .ge 18, 3) := by decide +kernel
theorem dX12_plain_29 : decode cX12_plain 29 = .ok (.aload_n 0, 1) := by decide +kernel
theorem dX12_plain_30 : decode cX12_plain 30 = .ok (.getfield 40, 3) := by decide +kernel
theorem dX12_plain_33 : decode cX12_plain 33 = .ok (.iload_n 1, 1) := by decide +kernel
theorem dX12_plain_34 : decode cX12_plain 34 = .ok (.aaload, 1) := by decide +kernel
theorem dX12_plain_35 : decode cX12_plain 35 = .ok (.iload 4, 2) := by decide +kernel
theorem dX12_plain_37 : decode cX12_plain 37 = .ok (.iaload, 1) := by decide +kernel
theorem dX12_plain_38 : decode cX12_plain 38 = .ok (.invokestatic 104, 3) := by decide +kernel
theorem dX12_plain_41 : decode cX12_plain 41 = .ok (.goto 5, 3) := by decide +kernel
theorem dX12_plain_44 : decode cX12_plain 44 = .ok (.ldc 108, 2) := by decide +kernel
theorem dX12_plain_46 : decode cX12_plain 46 = .ok (.istore 5, 2) := by decide +kernel
theorem dX12_plain_48 : decode cX12_plain 48 = .ok (.iload 5, 2) := by decide +kernel
theorem dX12_plain_50 : decode cX12_plain 50 = .ok (.ldc 109, 2) := by decide +kernel
theorem dX12_plain_52 : decode cX12_plain 52 = .ok (.if_icmp .ne 9, 3) := by decide +kernel
theorem dX12_plain_55 : decode cX12_plain 55 = .ok (.iinc 3 1, 3) := by decide +kernel
theorem dX12_plain_58 : decode cX12_plain 58 = .ok (.goto 60, 3) := by decide +kernel
theorem dX12_plain_61 : decode cX12_plain 61 = .ok (.iload 5, 2) := by decide +kernel
theorem dX12_plain_63 : decode cX12_plain 63 = .ok (.ldc 110, 2) := by decide +kernel
theorem dX12_plain_65 : decode cX12_plain 65 = .ok (.if_icmp .eq 24, 3) := by decide +kernel
theorem dX12_plain_68 : decode cX12_plain 68 = .ok (.iload_n 3, 1) := by decide +kernel
theorem dX12_plain_69 : decode cX12_plain 69 = .ok (.ifCond .le 20, 3) := by decide +kernel
theorem dX12_plain_72 : decode cX12_plain 72 = .ok (.aload_n 0, 1) := by decide +kernel
theorem dX12_plain_73 : decode cX12_plain 73 = .ok (.getfield 46, 3) := by decide +kernel
theorem dX12_plain_76 : decode cX12_plain 76 = .ok (.iload_n 2, 1) := by decide +kernel
theorem dX12_plain_77 : decode cX12_plain 77 = .ok (.ldc 109, 2) := by decide +kernel
theorem dX12_plain_79 : decode cX12_plain 79 = .ok (.iastore, 1) := by decide +kernel
theorem dX12_plain_80 : decode cX12_plain 80 = .ok (.iinc 2 1, 3) := by decide +kernel
theorem dX12_plain_83 : decode cX12_plain 83 = .ok (.iinc 3 (-1), 3) := by decide +kernel
theorem dX12_plain_86 : decode cX12_plain 86 = .ok (.goto (-25), 3) := by decide +kernel
theorem dX12_plain_89 : decode cX12_plain 89 = .ok (.iload 4, 2) := by decide +kernel
theorem dX12_plain_91 : decode cX12_plain 91 = .ok (.aload_n 0, 1) := by decide +kernel
theorem dX12_plain_92 : decode cX12_plain 92 = .ok (.getfield 43, 3) := by decide +kernel
theorem dX12_plain_95 : decode cX12_plain 95 = .ok (.iload_n 1, 1) := by decide +kernel
theorem dX12_plain_96 : decode cX12_plain 96 = .ok (.iaload, 1) := by decide +kernel
theorem dX12_plain_97 : decode cX12_plain 97 = .ok (.if_icmp .ge 21, 3) := by decide +kernel
theorem dX12_plain_100 : decode cX12_plain 100 = .ok (.aload_n 0, 1) := by decide +kernel
theorem dX12_plain_101 : decode cX12_plain 101 = .ok (.getfield 46, 3) := by decide +kernel
theorem dX12_plain_104 : decode cX12_plain 104 = .ok (.iload_n 2, 1) := by decide +kernel
theorem dX12_plain_105 : decode cX12_plain 105 = .ok (.aload_n 0, 1) := by decide +kernel
theorem dX12_plain_106 : decode cX12_plain 106 = .ok (.getfield 40, 3) := by decide +kernel
theorem dX12_plain_109 : decode cX12_plain 109 = .ok (.iload_n 1, 1) := by decide +kernel
theorem dX12_plain_110 : decode cX12_plain 110 = .ok (.aaload, 1) := by decide +kernel
theorem dX12_plain_111 : decode cX12_plain 111 = .ok (.iload 4, 2) := by decide +kernel
theorem dX12_plain_113 : decode cX12_plain 113 = .ok (.iaload, 1) := by decide +kernel
theorem dX12_plain_114 : decode cX12_plain 114 = .ok (.iastore, 1) := by decide +kernel
theorem dX12_plain_115 : decode cX12_plain 115 = .ok (.iinc 2 1, 3) := by decide +kernel
theorem dX12_plain_118 : decode cX12_plain 118 = .ok (.iinc 4 1, 3) := by decide +kernel
theorem dX12_plain_121 : decode cX12_plain 121 = .ok (.goto (-114), 3) := by decide +kernel
theorem dX12_plain_124 : decode cX12_plain 124 = .ok (.iconst 0, 1) := by decide +kernel
theorem dX12_plain_125 : decode cX12_plain 125 = .ok (.istore 4, 2) := by decide +kernel
theorem dX12_plain_127 : decode cX12_plain 127 = .ok (.iload 4, 2) := by decide +kernel
theorem dX12_plain_129 : decode cX12_plain 129 = .ok (.iload_n 2, 1) := by decide +kernel
theorem dX12_plain_130 : decode cX12_plain 130 = .ok (.if_icmp .ge 25, 3) := by decide +kernel
theorem dX12_plain_133 : decode cX12_plain 133 = .ok (.aload_n 0, 1) := by decide +kernel
theorem dX12_plain_134 : decode cX12_plain 134 = .ok (.getfield 40, 3) := by decide +kernel
theorem dX12_plain_137 : decode cX12_plain 137 = .ok (.iload_n 1, 1) := by decide +kernel
theorem dX12_plain_138 : decode cX12_plain 138 = .ok (.aaload, 1) := by decide +kernel
theorem dX12_plain_139 : decode cX12_plain 139 = .ok (.iload 4, 2) := by decide +kernel
theorem dX12_plain_141 : decode cX12_plain 141 = .ok (.aload_n 0, 1) := by decide +kernel
theorem dX12_plain_142 : decode cX12_plain 142 = .ok (.getfield 46, 3) := by decide +kernel
theorem dX12_plain_145 : decode cX12_plain 145 = .ok (.iload 4, 2) := by decide +kernel
theorem dX12_plain_147 : decode cX12_plain 147 = .ok (.iaload, 1) := by decide +kernel
theorem dX12_plain_148 : decode cX12_plain 148 = .ok (.iastore, 1) := by decide +kernel
theorem dX12_plain_149 : decode cX12_plain 149 = .ok (.iinc 4 1, 3) := by decide +kernel
theorem dX12_plain_152 : decode cX12_plain 152 = .ok (.goto (-25), 3) := by decide +kernel
theorem dX12_plain_155 : decode cX12_plain 155 = .ok (.return_, 1) := by decide +kernel
theorem dX12_marksOf_0 : decode cX12_marksOf 0 = .ok (.iload_n 0, 1) := by decide +kernel
theorem dX12_marksOf_1 : decode cX12_marksOf 1 = .ok (.iload_n 1, 1) := by decide +kernel
theorem dX12_marksOf_2 : decode cX12_marksOf 2 = .ok (.iconst 4, 1) := by decide +kernel
theorem dX12_marksOf_3 : decode cX12_marksOf 3 = .ok (.ishr, 1) := by decide +kernel
theorem dX12_marksOf_4 : decode cX12_marksOf 4 = .ok (.bipush 15, 2) := by decide +kernel
theorem dX12_marksOf_6 : decode cX12_marksOf 6 = .ok (.iand, 1) := by decide +kernel
theorem dX12_marksOf_7 : decode cX12_marksOf 7 = .ok (.ior, 1) := by decide +kernel
theorem dX12_marksOf_8 : decode cX12_marksOf 8 = .ok (.iload_n 1, 1) := by decide +kernel
theorem dX12_marksOf_9 : decode cX12_marksOf 9 = .ok (.bipush 15, 2) := by decide +kernel
theorem dX12_marksOf_11 : decode cX12_marksOf 11 = .ok (.iand, 1) := by decide +kernel
theorem dX12_marksOf_12 : decode cX12_marksOf 12 = .ok (.iconst (-1), 1) := by decide +kernel
theorem dX12_marksOf_13 : decode cX12_marksOf 13 = .ok (.ixor, 1) := by decide +kernel
theorem dX12_marksOf_14 : decode cX12_marksOf 14 = .ok (.iand, 1) := by decide +kernel
theorem dX12_marksOf_15 : decode cX12_marksOf 15 = .ok (.ireturn, 1) := by decide +kernel
theorem dX12_grown_0 : decode cX12_grown 0 = .ok (.iload_n 1, 1) := by decide +kernel
theorem dX12_grown_1 : decode cX12_grown 1 = .ok (.aload_n 0, 1) := by decide +kernel
theorem dX12_grown_2 : decode cX12_grown 2 = .ok (.arraylength, 1) := by decide +kernel
theorem dX12_grown_3 : decode cX12_grown 3 = .ok (.if_icmp .gt 5, 3) := by decide +kernel
theorem dX12_grown_6 : decode cX12_grown 6 = .ok (.aload_n 0, 1) := by decide +kernel
theorem dX12_grown_7 : decode cX12_grown 7 = .ok (.areturn, 1) := by decide +kernel
theorem dX12_grown_8 : decode cX12_grown 8 = .ok (.iconst 2, 1) := by decide +kernel
theorem dX12_grown_9 : decode cX12_grown 9 = .ok (.iload_n 1, 1) := by decide +kernel
theorem dX12_grown_10 : decode cX12_grown 10 = .ok (.imul, 1) := by decide +kernel
theorem dX12_grown_11 : decode cX12_grown 11 = .ok (.newarray .int, 2) := by decide +kernel
theorem dX12_grown_13 : decode cX12_grown 13 = .ok (.astore_n 2, 1) := by decide +kernel
theorem dX12_grown_14 : decode cX12_grown 14 = .ok (.iconst 0, 1) := by decide +kernel
theorem dX12_grown_15 : decode cX12_grown 15 = .ok (.istore_n 3, 1) := by decide +kernel
theorem dX12_grown_16 : decode cX12_grown 16 = .ok (.iload_n 3, 1) := by decide +kernel
theorem dX12_grown_17 : decode cX12_grown 17 = .ok (.aload_n 0, 1) := by decide +kernel
theorem dX12_grown_18 : decode cX12_grown 18 = .ok (.arraylength, 1) := by decide +kernel
theorem dX12_grown_19 : decode cX12_grown 19 = .ok (.if_icmp .ge 15, 3) := by decide +kernel
theorem dX12_grown_22 : decode cX12_grown 22 = .ok (.aload_n 2, 1) := by decide +kernel
theorem dX12_grown_23 : decode cX12_grown 23 = .ok (.iload_n 3, 1) := by decide +kernel
theorem dX12_grown_24 : decode cX12_grown 24 = .ok (.aload_n 0, 1) := by decide +kernel
theorem dX12_grown_25 : decode cX12_grown 25 = .ok (.iload_n 3, 1) := by decide +kernel
theorem dX12_grown_26 : decode cX12_grown 26 = .ok (.iaload, 1) := by decide +kernel
theorem dX12_grown_27 : decode cX12_grown 27 = .ok (.iastore, 1) := by decide +kernel
theorem dX12_grown_28 : decode cX12_grown 28 = .ok (.iinc 3 1, 3) := by decide +kernel
theorem dX12_grown_31 : decode cX12_grown 31 = .ok (.goto (-15), 3) := by decide +kernel
theorem dX12_grown_34 : decode cX12_grown 34 = .ok (.aload_n 2, 1) := by decide +kernel
theorem dX12_grown_35 : decode cX12_grown 35 = .ok (.areturn, 1) := by decide +kernel
theorem dX12_goesAlong_0 : decode cX12_goesAlong 0 = .ok (.iconst 0, 1) := by decide +kernel
theorem dX12_goesAlong_1 : decode cX12_goesAlong 1 = .ok (.istore 4, 2) := by decide +kernel
theorem dX12_goesAlong_3 : decode cX12_goesAlong 3 = .ok (.iload_n 1, 1) := by decide +kernel
theorem dX12_goesAlong_4 : decode cX12_goesAlong 4 = .ok (.istore 5, 2) := by decide +kernel
theorem dX12_goesAlong_6 : decode cX12_goesAlong 6 = .ok (.iconst 0, 1) := by decide +kernel
theorem dX12_goesAlong_7 : decode cX12_goesAlong 7 = .ok (.istore 6, 2) := by decide +kernel
theorem dX12_goesAlong_9 : decode cX12_goesAlong 9 = .ok (.iload 6, 2) := by decide +kernel
theorem dX12_goesAlong_11 : decode cX12_goesAlong 11 = .ok (.aload_n 0, 1) := by decide +kernel
theorem dX12_goesAlong_12 : decode cX12_goesAlong 12 = .ok (.getfield 43, 3) := by decide +kernel
theorem dX12_goesAlong_15 : decode cX12_goesAlong 15 = .ok (.iload_n 2, 1) := by decide +kernel
theorem dX12_goesAlong_16 : decode cX12_goesAlong 16 = .ok (.iaload, 1) := by decide +kernel
theorem dX12_goesAlong_17 : decode cX12_goesAlong 17 = .ok (.if_icmp .ge 85, 3) := by decide +kernel
theorem dX12_goesAlong_20 : decode cX12_goesAlong 20 = .ok (.aload_n 0, 1) := by decide +kernel
theorem dX12_goesAlong_21 : decode cX12_goesAlong 21 = .ok (.getfield 40, 3) := by decide +kernel
theorem dX12_goesAlong_24 : decode cX12_goesAlong 24 = .ok (.iload_n 2, 1) := by decide +kernel
theorem dX12_goesAlong_25 : decode cX12_goesAlong 25 = .ok (.aaload, 1) := by decide +kernel
theorem dX12_goesAlong_26 : decode cX12_goesAlong 26 = .ok (.iload 6, 2) := by decide +kernel
theorem dX12_goesAlong_28 : decode cX12_goesAlong 28 = .ok (.iaload, 1) := by decide +kernel
theorem dX12_goesAlong_29 : decode cX12_goesAlong 29 = .ok (.invokestatic 104, 3) := by decide +kernel
theorem dX12_goesAlong_32 : decode cX12_goesAlong 32 = .ok (.istore 7, 2) := by decide +kernel
theorem dX12_goesAlong_34 : decode cX12_goesAlong 34 = .ok (.iload 7, 2) := by decide +kernel
theorem dX12_goesAlong_36 : decode cX12_goesAlong 36 = .ok (.ldc 110, 2) := by decide +kernel
theorem dX12_goesAlong_38 : decode cX12_goesAlong 38 = .ok (.if_icmp .ne 32, 3) := by decide +kernel
theorem dX12_goesAlong_41 : decode cX12_goesAlong 41 = .ok (.iload 5, 2) := by decide +kernel
theorem dX12_goesAlong_43 : decode cX12_goesAlong 43 = .ok (.iload 4, 2) := by decide +kernel
theorem dX12_goesAlong_45 : decode cX12_goesAlong 45 = .ok (.iload_n 1, 1) := by decide +kernel
theorem dX12_goesAlong_46 : decode cX12_goesAlong 46 = .ok (.if_icmp .lt 13, 3) := by decide +kernel
theorem dX12_goesAlong_49 : decode cX12_goesAlong 49 = .ok (.iload_n 3, 1) := by decide +kernel
theorem dX12_goesAlong_50 : decode cX12_goesAlong 50 = .ok (.ifCond .eq 13, 3) := by decide +kernel
theorem dX12_goesAlong_53 : decode cX12_goesAlong 53 = .ok (.iload 4, 2) := by decide +kernel
theorem dX12_goesAlong_55 : decode cX12_goesAlong 55 = .ok (.iload_n 1, 1) := by decide +kernel
theorem dX12_goesAlong_56 : decode cX12_goesAlong 56 = .ok (.if_icmp .ne 7, 3) := by decide +kernel
theorem dX12_goesAlong_59 : decode cX12_goesAlong 59 = .ok (.iconst 1, 1) := by decide +kernel
theorem dX12_goesAlong_60 : decode cX12_goesAlong 60 = .ok (.goto 4, 3) := by decide +kernel
theorem dX12_goesAlong_63 : decode cX12_goesAlong 63 = .ok (.iconst 0, 1) := by decide +kernel
theorem dX12_goesAlong_64 : decode cX12_goesAlong 64 = .ok (.iadd, 1) := by decide +kernel
theorem dX12_goesAlong_65 : decode cX12_goesAlong 65 = .ok (.istore 5, 2) := by decide +kernel
theorem dX12_goesAlong_67 : decode cX12_goesAlong 67 = .ok (.goto 29, 3) := by decide +kernel
theorem dX12_goesAlong_70 : decode cX12_goesAlong 70 = .ok (.iload 5, 2) := by decide +kernel
theorem dX12_goesAlong_72 : decode cX12_goesAlong 72 = .ok (.iload 7, 2) := by decide +kernel
theorem dX12_goesAlong_74 : decode cX12_goesAlong 74 = .ok (.ldc 109, 2) := by decide +kernel
theorem dX12_goesAlong_76 : decode cX12_goesAlong 76 = .ok (.if_icmp .ne 13, 3) := by decide +kernel
theorem dX12_goesAlong_79 : decode cX12_goesAlong 79 = .ok (.iload 4, 2) := by decide +kernel
theorem dX12_goesAlong_81 : decode cX12_goesAlong 81 = .ok (.iload_n 1, 1) := by decide +kernel
theorem dX12_goesAlong_82 : decode cX12_goesAlong 82 = .ok (.if_icmp .ge 7, 3) := by decide +kernel
theorem dX12_goesAlong_85 : decode cX12_goesAlong 85 = .ok (.iconst 1, 1) := by decide +kernel
theorem dX12_goesAlong_86 : decode cX12_goesAlong 86 = .ok (.goto 4, 3) := by decide +kernel
theorem dX12_goesAlong_89 : decode cX12_goesAlong 89 = .ok (.iconst 0, 1) := by decide +kernel
theorem dX12_goesAlong_90 : decode cX12_goesAlong 90 = .ok (.isub, 1) := by decide +kernel
theorem dX12_goesAlong_91 : decode cX12_goesAlong 91 = .ok (.istore 5, 2) := by decide +kernel
theorem dX12_goesAlong_93 : decode cX12_goesAlong 93 = .ok (.iinc 4 1, 3) := by decide +kernel
theorem dX12_goesAlong_96 : decode cX12_goesAlong 96 = .ok (.iinc 6 1, 3) := by decide +kernel
theorem dX12_goesAlong_99 : decode cX12_goesAlong 99 = .ok (.goto (-90), 3) := by decide +kernel
theorem dX12_goesAlong_102 : decode cX12_goesAlong 102 = .ok (.iload 5, 2) := by decide +kernel
theorem dX12_goesAlong_104 : decode cX12_goesAlong 104 = .ok (.ireturn, 1) := by decide +kernel
theorem dX12_together_0 : decode cX12_together 0 = .ok (.iload_n 2, 1) := by decide +kernel
theorem dX12_together_1 : decode cX12_together 1 = .ok (.invokestatic 104, 3) := by decide +kernel
theorem dX12_together_4 : decode cX12_together 4 = .ok (.ldc 108, 2) := by decide +kernel
theorem dX12_together_6 : decode cX12_together 6 = .ok (.if_icmp .ne 12, 3) := by decide +kernel
theorem dX12_together_9 : decode cX12_together 9 = .ok (.aload_n 0, 1) := by decide +kernel
theorem dX12_together_10 : decode cX12_together 10 = .ok (.iload_n 3, 1) := by decide +kernel
theorem dX12_together_11 : decode cX12_together 11 = .ok (.iload_n 1, 1) := by decide +kernel
theorem dX12_together_12 : decode cX12_together 12 = .ok (.invokevirtual 115, 3) := by decide +kernel
theorem dX12_together_15 : decode cX12_together 15 = .ok (.goto 140, 3) := by decide +kernel
theorem dX12_together_18 : decode cX12_together 18 = .ok (.iload_n 1, 1) := by decide +kernel
theorem dX12_together_19 : decode cX12_together 19 = .ok (.invokestatic 104, 3) := by decide +kernel
theorem dX12_together_22 : decode cX12_together 22 = .ok (.ldc 110, 2) := by decide +kernel
theorem dX12_together_24 : decode cX12_together 24 = .ok (.if_icmp .ne 47, 3) := by decide +kernel
theorem dX12_together_27 : decode cX12_together 27 = .ok (.iload_n 2, 1) := by decide +kernel
theorem dX12_together_28 : decode cX12_together 28 = .ok (.invokestatic 104, 3) := by decide +kernel
theorem dX12_together_31 : decode cX12_together 31 = .ok (.ldc 126, 2) := by decide +kernel
theorem dX12_together_33 : decode cX12_together 33 = .ok (.if_icmp .ne 122, 3) := by decide +kernel
theorem dX12_together_36 : decode cX12_together 36 = .ok (.iload_n 1, 1) := by decide +kernel
theorem dX12_together_37 : decode cX12_together 37 = .ok (.bipush 8, 2) := by decide +kernel
theorem dX12_together_39 : decode cX12_together 39 = .ok (.ishr, 1) := by decide +kernel
theorem dX12_together_40 : decode cX12_together 40 = .ok (.bipush 15, 2) := by decide +kernel
theorem dX12_together_42 : decode cX12_together 42 = .ok (.iand, 1) := by decide +kernel
theorem dX12_together_43 : decode cX12_together 43 = .ok (.iload_n 2, 1) := by decide +kernel
theorem dX12_together_44 : decode cX12_together 44 = .ok (.invokestatic 127, 3) := by decide +kernel
theorem dX12_together_47 : decode cX12_together 47 = .ok (.istore 4, 2) := by decide +kernel
theorem dX12_together_49 : decode cX12_together 49 = .ok (.aload_n 0, 1) := by decide +kernel
theorem dX12_together_50 : decode cX12_together 50 = .ok (.iload_n 3, 1) := by decide +kernel
theorem dX12_together_51 : decode cX12_together 51 = .ok (.ldc 110, 2) := by decide +kernel
theorem dX12_together_53 : decode cX12_together 53 = .ok (.iload 4, 2) := by decide +kernel
theorem dX12_together_55 : decode cX12_together 55 = .ok (.bipush 8, 2) := by decide +kernel
theorem dX12_together_57 : decode cX12_together 57 = .ok (.ishl, 1) := by decide +kernel
theorem dX12_together_58 : decode cX12_together 58 = .ok (.ior, 1) := by decide +kernel
theorem dX12_together_59 : decode cX12_together 59 = .ok (.iload_n 1, 1) := by decide +kernel
theorem dX12_together_60 : decode cX12_together 60 = .ok (.sipush 255, 3) := by decide +kernel
theorem dX12_together_63 : decode cX12_together 63 = .ok (.iand, 1) := by decide +kernel
theorem dX12_together_64 : decode cX12_together 64 = .ok (.ior, 1) := by decide +kernel
theorem dX12_together_65 : decode cX12_together 65 = .ok (.invokevirtual 115, 3) := by decide +kernel
theorem dX12_together_68 : decode cX12_together 68 = .ok (.goto 87, 3) := by decide +kernel
theorem dX12_together_71 : decode cX12_together 71 = .ok (.iload_n 2, 1) := by decide +kernel
theorem dX12_together_72 : decode cX12_together 72 = .ok (.invokestatic 104, 3) := by decide +kernel
theorem dX12_together_75 : decode cX12_together 75 = .ok (.ldc 109, 2) := by decide +kernel
theorem dX12_together_77 : decode cX12_together 77 = .ok (.if_icmp .eq 12, 3) := by decide +kernel
theorem dX12_together_80 : decode cX12_together 80 = .ok (.iload_n 1, 1) := by decide +kernel
theorem dX12_together_81 : decode cX12_together 81 = .ok (.invokestatic 104, 3) := by decide +kernel
theorem dX12_together_84 : decode cX12_together 84 = .ok (.ldc 108, 2) := by decide +kernel
theorem dX12_together_86 : decode cX12_together 86 = .ok (.if_icmp .ne 12, 3) := by decide +kernel
theorem dX12_together_89 : decode cX12_together 89 = .ok (.aload_n 0, 1) := by decide +kernel
theorem dX12_together_90 : decode cX12_together 90 = .ok (.iload_n 3, 1) := by decide +kernel
theorem dX12_together_91 : decode cX12_together 91 = .ok (.iload_n 2, 1) := by decide +kernel
theorem dX12_together_92 : decode cX12_together 92 = .ok (.invokevirtual 115, 3) := by decide +kernel
theorem dX12_together_95 : decode cX12_together 95 = .ok (.goto 60, 3) := by decide +kernel
theorem dX12_together_98 : decode cX12_together 98 = .ok (.iload_n 1, 1) := by decide +kernel
theorem dX12_together_99 : decode cX12_together 99 = .ok (.iconst 4, 1) := by decide +kernel
theorem dX12_together_100 : decode cX12_together 100 = .ok (.ishr, 1) := by decide +kernel
theorem dX12_together_101 : decode cX12_together 101 = .ok (.bipush 15, 2) := by decide +kernel
theorem dX12_together_103 : decode cX12_together 103 = .ok (.iand, 1) := by decide +kernel
theorem dX12_together_104 : decode cX12_together 104 = .ok (.iload_n 2, 1) := by decide +kernel
theorem dX12_together_105 : decode cX12_together 105 = .ok (.bipush 15, 2) := by decide +kernel
theorem dX12_together_107 : decode cX12_together 107 = .ok (.iand, 1) := by decide +kernel
theorem dX12_together_108 : decode cX12_together 108 = .ok (.iconst (-1), 1) := by decide +kernel
theorem dX12_together_109 : decode cX12_together 109 = .ok (.ixor, 1) := by decide +kernel
theorem dX12_together_110 : decode cX12_together 110 = .ok (.iand, 1) := by decide +kernel
theorem dX12_together_111 : decode cX12_together 111 = .ok (.iload_n 2, 1) := by decide +kernel
theorem dX12_together_112 : decode cX12_together 112 = .ok (.iconst 4, 1) := by decide +kernel
theorem dX12_together_113 : decode cX12_together 113 = .ok (.ishr, 1) := by decide +kernel
theorem dX12_together_114 : decode cX12_together 114 = .ok (.bipush 15, 2) := by decide +kernel
theorem dX12_together_116 : decode cX12_together 116 = .ok (.iand, 1) := by decide +kernel
theorem dX12_together_117 : decode cX12_together 117 = .ok (.ior, 1) := by decide +kernel
theorem dX12_together_118 : decode cX12_together 118 = .ok (.istore 4, 2) := by decide +kernel
theorem dX12_together_120 : decode cX12_together 120 = .ok (.iload_n 1, 1) := by decide +kernel
theorem dX12_together_121 : decode cX12_together 121 = .ok (.bipush 15, 2) := by decide +kernel
theorem dX12_together_123 : decode cX12_together 123 = .ok (.iand, 1) := by decide +kernel
theorem dX12_together_124 : decode cX12_together 124 = .ok (.iload_n 2, 1) := by decide +kernel
theorem dX12_together_125 : decode cX12_together 125 = .ok (.iconst 4, 1) := by decide +kernel
theorem dX12_together_126 : decode cX12_together 126 = .ok (.ishr, 1) := by decide +kernel
theorem dX12_together_127 : decode cX12_together 127 = .ok (.bipush 15, 2) := by decide +kernel
theorem dX12_together_129 : decode cX12_together 129 = .ok (.iand, 1) := by decide +kernel
theorem dX12_together_130 : decode cX12_together 130 = .ok (.iconst (-1), 1) := by decide +kernel
theorem dX12_together_131 : decode cX12_together 131 = .ok (.ixor, 1) := by decide +kernel
theorem dX12_together_132 : decode cX12_together 132 = .ok (.iand, 1) := by decide +kernel
theorem dX12_together_133 : decode cX12_together 133 = .ok (.iload_n 2, 1) := by decide +kernel
theorem dX12_together_134 : decode cX12_together 134 = .ok (.bipush 15, 2) := by decide +kernel
theorem dX12_together_136 : decode cX12_together 136 = .ok (.iand, 1) := by decide +kernel
theorem dX12_together_137 : decode cX12_together 137 = .ok (.ior, 1) := by decide +kernel
theorem dX12_together_138 : decode cX12_together 138 = .ok (.istore 5, 2) := by decide +kernel
theorem dX12_together_140 : decode cX12_together 140 = .ok (.aload_n 0, 1) := by decide +kernel
theorem dX12_together_141 : decode cX12_together 141 = .ok (.iload_n 3, 1) := by decide +kernel
theorem dX12_together_142 : decode cX12_together 142 = .ok (.ldc 126, 2) := by decide +kernel
theorem dX12_together_144 : decode cX12_together 144 = .ok (.iload 4, 2) := by decide +kernel
theorem dX12_together_146 : decode cX12_together 146 = .ok (.iconst 4, 1) := by decide +kernel
theorem dX12_together_147 : decode cX12_together 147 = .ok (.ishl, 1) := by decide +kernel
theorem dX12_together_148 : decode cX12_together 148 = .ok (.ior, 1) := by decide +kernel
theorem dX12_together_149 : decode cX12_together 149 = .ok (.iload 5, 2) := by decide +kernel
theorem dX12_together_151 : decode cX12_together 151 = .ok (.ior, 1) := by decide +kernel
theorem dX12_together_152 : decode cX12_together 152 = .ok (.invokevirtual 115, 3) := by decide +kernel
theorem dX12_together_155 : decode cX12_together 155 = .ok (.return_, 1) := by decide +kernel
theorem dX12_resultLength_0 : decode cX12_resultLength 0 = .ok (.aload_n 0, 1) := by decide +kernel
theorem dX12_resultLength_1 : decode cX12_resultLength 1 = .ok (.getfield 43, 3) := by decide +kernel
theorem dX12_resultLength_4 : decode cX12_resultLength 4 = .ok (.iload_n 1, 1) := by decide +kernel
theorem dX12_resultLength_5 : decode cX12_resultLength 5 = .ok (.iaload, 1) := by decide +kernel
theorem dX12_resultLength_6 : decode cX12_resultLength 6 = .ok (.aload_n 0, 1) := by decide +kernel
theorem dX12_resultLength_7 : decode cX12_resultLength 7 = .ok (.getfield 40, 3) := by decide +kernel
theorem dX12_resultLength_10 : decode cX12_resultLength 10 = .ok (.iload_n 1, 1) := by decide +kernel
theorem dX12_resultLength_11 : decode cX12_resultLength 11 = .ok (.aaload, 1) := by decide +kernel
theorem dX12_resultLength_12 : decode cX12_resultLength 12 = .ok (.aload_n 0, 1) := by decide +kernel
theorem dX12_resultLength_13 : decode cX12_resultLength 13 = .ok (.getfield 43, 3) := by decide +kernel
theorem dX12_resultLength_16 : decode cX12_resultLength 16 = .ok (.iload_n 1, 1) := by decide +kernel
theorem dX12_resultLength_17 : decode cX12_resultLength 17 = .ok (.iaload, 1) := by decide +kernel
theorem dX12_resultLength_18 : decode cX12_resultLength 18 = .ok (.ldc 109, 2) := by decide +kernel
theorem dX12_resultLength_20 : decode cX12_resultLength 20 = .ok (.invokestatic 111, 3) := by decide +kernel
theorem dX12_resultLength_23 : decode cX12_resultLength 23 = .ok (.isub, 1) := by decide +kernel
theorem dX12_resultLength_24 : decode cX12_resultLength 24 = .ok (.ireturn, 1) := by decide +kernel
theorem dX12_overOne_0 : decode cX12_overOne 0 = .ok (.iload_n 2, 1) := by decide +kernel
theorem dX12_overOne_1 : decode cX12_overOne 1 = .ok (.invokestatic 104, 3) := by decide +kernel
theorem dX12_overOne_4 : decode cX12_overOne 4 = .ok (.ldc 109, 2) := by decide +kernel
theorem dX12_overOne_6 : decode cX12_overOne 6 = .ok (.if_icmp .ne 4, 3) := by decide +kernel
theorem dX12_overOne_9 : decode cX12_overOne 9 = .ok (.return_, 1) := by decide +kernel
theorem dX12_overOne_10 : decode cX12_overOne 10 = .ok (.iload_n 1, 1) := by decide +kernel
theorem dX12_overOne_11 : decode cX12_overOne 11 = .ok (.invokestatic 104, 3) := by decide +kernel
theorem dX12_overOne_14 : decode cX12_overOne 14 = .ok (.ldc 126, 2) := by decide +kernel
theorem dX12_overOne_16 : decode cX12_overOne 16 = .ok (.if_icmp .ne 73, 3) := by decide +kernel
theorem dX12_overOne_19 : decode cX12_overOne 19 = .ok (.iload_n 2, 1) := by decide +kernel
theorem dX12_overOne_20 : decode cX12_overOne 20 = .ok (.invokestatic 104, 3) := by decide +kernel
theorem dX12_overOne_23 : decode cX12_overOne 23 = .ok (.ldc 126, 2) := by decide +kernel
theorem dX12_overOne_25 : decode cX12_overOne 25 = .ok (.if_icmp .ne 64, 3) := by decide +kernel
theorem dX12_overOne_28 : decode cX12_overOne 28 = .ok (.iload_n 3, 1) := by decide +kernel
theorem dX12_overOne_29 : decode cX12_overOne 29 = .ok (.iconst 1, 1) := by decide +kernel
theorem dX12_overOne_30 : decode cX12_overOne 30 = .ok (.if_icmp .ne 59, 3) := by decide +kernel
theorem dX12_overOne_33 : decode cX12_overOne 33 = .ok (.iload_n 2, 1) := by decide +kernel
theorem dX12_overOne_34 : decode cX12_overOne 34 = .ok (.iconst 4, 1) := by decide +kernel
theorem dX12_overOne_35 : decode cX12_overOne 35 = .ok (.ishr, 1) := by decide +kernel
theorem dX12_overOne_36 : decode cX12_overOne 36 = .ok (.bipush 15, 2) := by decide +kernel
theorem dX12_overOne_38 : decode cX12_overOne 38 = .ok (.iand, 1) := by decide +kernel
theorem dX12_overOne_39 : decode cX12_overOne 39 = .ok (.iload_n 2, 1) := by decide +kernel
theorem dX12_overOne_40 : decode cX12_overOne 40 = .ok (.bipush 15, 2) := by decide +kernel
theorem dX12_overOne_42 : decode cX12_overOne 42 = .ok (.iand, 1) := by decide +kernel
theorem dX12_overOne_43 : decode cX12_overOne 43 = .ok (.ior, 1) := by decide +kernel
theorem dX12_overOne_44 : decode cX12_overOne 44 = .ok (.istore 5, 2) := by decide +kernel
theorem dX12_overOne_46 : decode cX12_overOne 46 = .ok (.iload_n 1, 1) := by decide +kernel
theorem dX12_overOne_47 : decode cX12_overOne 47 = .ok (.iload 5, 2) := by decide +kernel
theorem dX12_overOne_49 : decode cX12_overOne 49 = .ok (.iconst (-1), 1) := by decide +kernel
theorem dX12_overOne_50 : decode cX12_overOne 50 = .ok (.ixor, 1) := by decide +kernel
theorem dX12_overOne_51 : decode cX12_overOne 51 = .ok (.iand, 1) := by decide +kernel
theorem dX12_overOne_52 : decode cX12_overOne 52 = .ok (.iload 5, 2) := by decide +kernel
theorem dX12_overOne_54 : decode cX12_overOne 54 = .ok (.iconst 4, 1) := by decide +kernel
theorem dX12_overOne_55 : decode cX12_overOne 55 = .ok (.ishl, 1) := by decide +kernel
theorem dX12_overOne_56 : decode cX12_overOne 56 = .ok (.iconst (-1), 1) := by decide +kernel
theorem dX12_overOne_57 : decode cX12_overOne 57 = .ok (.ixor, 1) := by decide +kernel
theorem dX12_overOne_58 : decode cX12_overOne 58 = .ok (.iand, 1) := by decide +kernel
theorem dX12_overOne_59 : decode cX12_overOne 59 = .ok (.sipush 255, 3) := by decide +kernel
theorem dX12_overOne_62 : decode cX12_overOne 62 = .ok (.iand, 1) := by decide +kernel
theorem dX12_overOne_63 : decode cX12_overOne 63 = .ok (.istore 6, 2) := by decide +kernel
theorem dX12_overOne_65 : decode cX12_overOne 65 = .ok (.aload_n 0, 1) := by decide +kernel
theorem dX12_overOne_66 : decode cX12_overOne 66 = .ok (.iload 4, 2) := by decide +kernel
theorem dX12_overOne_68 : decode cX12_overOne 68 = .ok (.iload 6, 2) := by decide +kernel
theorem dX12_overOne_70 : decode cX12_overOne 70 = .ok (.ifCond .ne 8, 3) := by decide +kernel
theorem dX12_overOne_73 : decode cX12_overOne 73 = .ok (.ldc 108, 2) := by decide +kernel
theorem dX12_overOne_75 : decode cX12_overOne 75 = .ok (.goto 8, 3) := by decide +kernel
theorem dX12_overOne_78 : decode cX12_overOne 78 = .ok (.ldc 126, 2) := by decide +kernel
theorem dX12_overOne_80 : decode cX12_overOne 80 = .ok (.iload 6, 2) := by decide +kernel
theorem dX12_overOne_82 : decode cX12_overOne 82 = .ok (.ior, 1) := by decide +kernel
theorem dX12_overOne_83 : decode cX12_overOne 83 = .ok (.invokevirtual 115, 3) := by decide +kernel
theorem dX12_overOne_86 : decode cX12_overOne 86 = .ok (.goto 10, 3) := by decide +kernel
theorem dX12_overOne_89 : decode cX12_overOne 89 = .ok (.aload_n 0, 1) := by decide +kernel
theorem dX12_overOne_90 : decode cX12_overOne 90 = .ok (.iload 4, 2) := by decide +kernel
theorem dX12_overOne_92 : decode cX12_overOne 92 = .ok (.iload_n 1, 1) := by decide +kernel
theorem dX12_overOne_93 : decode cX12_overOne 93 = .ok (.invokevirtual 115, 3) := by decide +kernel
theorem dX12_overOne_96 : decode cX12_overOne 96 = .ok (.return_, 1) := by decide +kernel
theorem dX7_clear_0 : decode cX7_clear 0 = .ok (.aload_n 0, 1) := by decide +kernel
theorem dX7_clear_1 : decode cX7_clear 1 = .ok (.iconst 0, 1) := by decide +kernel
theorem dX7_clear_2 : decode cX7_clear 2 = .ok (.putfield 17, 3) := by decide +kernel
theorem dX7_clear_5 : decode cX7_clear 5 = .ok (.return_, 1) := by decide +kernel
theorem dX7_at_0 : decode cX7_at 0 = .ok (.iload_n 1, 1) := by decide +kernel
theorem dX7_at_1 : decode cX7_at 1 = .ok (.ifCond .lt 29, 3) := by decide +kernel
theorem dX7_at_4 : decode cX7_at 4 = .ok (.iload_n 1, 1) := by decide +kernel
theorem dX7_at_5 : decode cX7_at 5 = .ok (.aload_n 0, 1) := by decide +kernel
theorem dX7_at_6 : decode cX7_at 6 = .ok (.getfield 17, 3) := by decide +kernel
theorem dX7_at_9 : decode cX7_at 9 = .ok (.if_icmp .ge 21, 3) := by decide +kernel
theorem dX7_at_12 : decode cX7_at 12 = .ok (.iload_n 1, 1) := by decide +kernel
theorem dX7_at_13 : decode cX7_at 13 = .ok (.aload_n 0, 1) := by decide +kernel
theorem dX7_at_14 : decode cX7_at 14 = .ok (.getfield 7, 3) := by decide +kernel
theorem dX7_at_17 : decode cX7_at 17 = .ok (.arraylength, 1) := by decide +kernel
theorem dX7_at_18 : decode cX7_at 18 = .ok (.if_icmp .ge 12, 3) := by decide +kernel
theorem dX7_at_21 : decode cX7_at 21 = .ok (.aload_n 0, 1) := by decide +kernel
theorem dX7_at_22 : decode cX7_at 22 = .ok (.getfield 7, 3) := by decide +kernel
theorem dX7_at_25 : decode cX7_at 25 = .ok (.iload_n 1, 1) := by decide +kernel
theorem dX7_at_26 : decode cX7_at 26 = .ok (.laload, 1) := by decide +kernel
theorem dX7_at_27 : decode cX7_at 27 = .ok (.goto 4, 3) := by decide +kernel
theorem dX7_at_30 : decode cX7_at 30 = .ok (.lconst 0, 1) := by decide +kernel
theorem dX7_at_31 : decode cX7_at 31 = .ok (.lreturn, 1) := by decide +kernel
theorem dX7_put_0 : decode cX7_put 0 = .ok (.iload_n 1, 1) := by decide +kernel
theorem dX7_put_1 : decode cX7_put 1 = .ok (.ifCond .lt 27, 3) := by decide +kernel
theorem dX7_put_4 : decode cX7_put 4 = .ok (.iload_n 1, 1) := by decide +kernel
theorem dX7_put_5 : decode cX7_put 5 = .ok (.aload_n 0, 1) := by decide +kernel
theorem dX7_put_6 : decode cX7_put 6 = .ok (.getfield 17, 3) := by decide +kernel
theorem dX7_put_9 : decode cX7_put 9 = .ok (.if_icmp .ge 19, 3) := by decide +kernel
theorem dX7_put_12 : decode cX7_put 12 = .ok (.iload_n 1, 1) := by decide +kernel
theorem dX7_put_13 : decode cX7_put 13 = .ok (.aload_n 0, 1) := by decide +kernel
theorem dX7_put_14 : decode cX7_put 14 = .ok (.getfield 7, 3) := by decide +kernel
theorem dX7_put_17 : decode cX7_put 17 = .ok (.arraylength, 1) := by decide +kernel
theorem dX7_put_18 : decode cX7_put 18 = .ok (.if_icmp .ge 10, 3) := by decide +kernel
theorem dX7_put_21 : decode cX7_put 21 = .ok (.aload_n 0, 1) := by decide +kernel
theorem dX7_put_22 : decode cX7_put 22 = .ok (.getfield 7, 3) := by decide +kernel
theorem dX7_put_25 : decode cX7_put 25 = .ok (.iload_n 1, 1) := by decide +kernel
theorem dX7_put_26 : decode cX7_put 26 = .ok (.lload_n 2, 1) := by decide +kernel
theorem dX7_put_27 : decode cX7_put 27 = .ok (.lastore, 1) := by decide +kernel
theorem dX7_put_28 : decode cX7_put 28 = .ok (.return_, 1) := by decide +kernel
theorem dX7_add_0 : decode cX7_add 0 = .ok (.aload_n 0, 1) := by decide +kernel
theorem dX7_add_1 : decode cX7_add 1 = .ok (.getfield 17, 3) := by decide +kernel
theorem dX7_add_4 : decode cX7_add 4 = .ok (.aload_n 0, 1) := by decide +kernel
theorem dX7_add_5 : decode cX7_add 5 = .ok (.getfield 7, 3) := by decide +kernel
theorem dX7_add_8 : decode cX7_add 8 = .ok (.arraylength, 1) := by decide +kernel
theorem dX7_add_9 : decode cX7_add 9 = .ok (.if_icmp .lt 46, 3) := by decide +kernel
theorem dX7_add_12 : decode cX7_add 12 = .ok (.aload_n 0, 1) := by decide +kernel
theorem dX7_add_13 : decode cX7_add 13 = .ok (.getfield 17, 3) := by decide +kernel
theorem dX7_add_16 : decode cX7_add 16 = .ok (.ldc 21, 2) := by decide +kernel
theorem dX7_add_18 : decode cX7_add 18 = .ok (.if_icmp .ge 18, 3) := by decide +kernel
theorem dX7_add_21 : decode cX7_add 21 = .ok (.aload_n 0, 1) := by decide +kernel
theorem dX7_add_22 : decode cX7_add 22 = .ok (.getfield 13, 3) := by decide +kernel
theorem dX7_add_25 : decode cX7_add 25 = .ok (.aload_n 0, 1) := by decide +kernel
theorem dX7_add_26 : decode cX7_add 26 = .ok (.getfield 7, 3) := by decide +kernel
theorem dX7_add_29 : decode cX7_add 29 = .ok (.arraylength, 1) := by decide +kernel
theorem dX7_add_30 : decode cX7_add 30 = .ok (.invokevirtual 22, 3) := by decide +kernel
theorem dX7_add_33 : decode cX7_add 33 = .ok (.ifCond .ne 4, 3) := by decide +kernel
theorem dX7_add_36 : decode cX7_add 36 = .ok (.return_, 1) := by decide +kernel
theorem dX7_add_37 : decode cX7_add 37 = .ok (.aload_n 0, 1) := by decide +kernel
theorem dX7_add_38 : decode cX7_add 38 = .ok (.aload_n 0, 1) := by decide +kernel
theorem dX7_add_39 : decode cX7_add 39 = .ok (.getfield 7, 3) := by decide +kernel
theorem dX7_add_42 : decode cX7_add 42 = .ok (.iconst 2, 1) := by decide +kernel
theorem dX7_add_43 : decode cX7_add 43 = .ok (.aload_n 0, 1) := by decide +kernel
theorem dX7_add_44 : decode cX7_add 44 = .ok (.getfield 7, 3) := by decide +kernel
theorem dX7_add_47 : decode cX7_add 47 = .ok (.arraylength, 1) := by decide +kernel
theorem dX7_add_48 : decode cX7_add 48 = .ok (.imul, 1) := by decide +kernel
theorem dX7_add_49 : decode cX7_add 49 = .ok (.invokestatic 28, 3) := by decide +kernel
theorem dX7_add_52 : decode cX7_add 52 = .ok (.putfield 7, 3) := by decide +kernel
theorem dX7_add_55 : decode cX7_add 55 = .ok (.aload_n 0, 1) := by decide +kernel
theorem dX7_add_56 : decode cX7_add 56 = .ok (.getfield 17, 3) := by decide +kernel
theorem dX7_add_59 : decode cX7_add 59 = .ok (.ifCond .lt 32, 3) := by decide +kernel
theorem dX7_add_62 : decode cX7_add 62 = .ok (.aload_n 0, 1) := by decide +kernel
theorem dX7_add_63 : decode cX7_add 63 = .ok (.getfield 17, 3) := by decide +kernel
theorem dX7_add_66 : decode cX7_add 66 = .ok (.aload_n 0, 1) := by decide +kernel
theorem dX7_add_67 : decode cX7_add 67 = .ok (.getfield 7, 3) := by decide +kernel
theorem dX7_add_70 : decode cX7_add 70 = .ok (.arraylength, 1) := by decide +kernel
theorem dX7_add_71 : decode cX7_add 71 = .ok (.if_icmp .ge 20, 3) := by decide +kernel
theorem dX7_add_74 : decode cX7_add 74 = .ok (.aload_n 0, 1) := by decide +kernel
theorem dX7_add_75 : decode cX7_add 75 = .ok (.getfield 7, 3) := by decide +kernel
theorem dX7_add_78 : decode cX7_add 78 = .ok (.aload_n 0, 1) := by decide +kernel
theorem dX7_add_79 : decode cX7_add 79 = .ok (.dup, 1) := by decide +kernel
theorem dX7_add_80 : decode cX7_add 80 = .ok (.getfield 17, 3) := by decide +kernel
theorem dX7_add_83 : decode cX7_add 83 = .ok (.dup_x1, 1) := by decide +kernel
theorem dX7_add_84 : decode cX7_add 84 = .ok (.iconst 1, 1) := by decide +kernel
theorem dX7_add_85 : decode cX7_add 85 = .ok (.iadd, 1) := by decide +kernel
theorem dX7_add_86 : decode cX7_add 86 = .ok (.putfield 17, 3) := by decide +kernel
theorem dX7_add_89 : decode cX7_add 89 = .ok (.lload_n 1, 1) := by decide +kernel
theorem dX7_add_90 : decode cX7_add 90 = .ok (.lastore, 1) := by decide +kernel
theorem dX7_add_91 : decode cX7_add 91 = .ok (.return_, 1) := by decide +kernel
theorem dX3_size_0 : decode cX3_size 0 = .ok (.aload_n 0, 1) := by decide +kernel
theorem dX3_size_1 : decode cX3_size 1 = .ok (.iload_n 1, 1) := by decide +kernel
theorem dX3_size_2 : decode cX3_size 2 = .ok (.invokevirtual 70, 3) := by decide +kernel
theorem dX3_size_5 : decode cX3_size 5 = .ok (.ifCond .eq 12, 3) := by decide +kernel
theorem dX3_size_8 : decode cX3_size 8 = .ok (.aload_n 0, 1) := by decide +kernel
theorem dX3_size_9 : decode cX3_size 9 = .ok (.getfield 31, 3) := by decide +kernel
theorem dX3_size_12 : decode cX3_size 12 = .ok (.iload_n 1, 1) := by decide +kernel
theorem dX3_size_13 : decode cX3_size 13 = .ok (.laload, 1) := by decide +kernel
theorem dX3_size_14 : decode cX3_size 14 = .ok (.goto 4, 3) := by decide +kernel
theorem dX3_size_17 : decode cX3_size 17 = .ok (.lconst 0, 1) := by decide +kernel
theorem dX3_size_18 : decode cX3_size 18 = .ok (.lreturn, 1) := by decide +kernel
theorem dX3_join_0 : decode cX3_join 0 = .ok (.aload_n 0, 1) := by decide +kernel
theorem dX3_join_1 : decode cX3_join 1 = .ok (.iload_n 1, 1) := by decide +kernel
theorem dX3_join_2 : decode cX3_join 2 = .ok (.invokevirtual 70, 3) := by decide +kernel
theorem dX3_join_5 : decode cX3_join 5 = .ok (.ifCond .ne 5, 3) := by decide +kernel
theorem dX3_join_8 : decode cX3_join 8 = .ok (.iload_n 2, 1) := by decide +kernel
theorem dX3_join_9 : decode cX3_join 9 = .ok (.ireturn, 1) := by decide +kernel
theorem dX3_join_10 : decode cX3_join 10 = .ok (.aload_n 0, 1) := by decide +kernel
theorem dX3_join_11 : decode cX3_join 11 = .ok (.iload_n 2, 1) := by decide +kernel
theorem dX3_join_12 : decode cX3_join 12 = .ok (.invokevirtual 70, 3) := by decide +kernel
theorem dX3_join_15 : decode cX3_join 15 = .ok (.ifCond .ne 5, 3) := by decide +kernel
theorem dX3_join_18 : decode cX3_join 18 = .ok (.iload_n 1, 1) := by decide +kernel
theorem dX3_join_19 : decode cX3_join 19 = .ok (.ireturn, 1) := by decide +kernel
theorem dX3_join_20 : decode cX3_join 20 = .ok (.aload_n 0, 1) := by decide +kernel
theorem dX3_join_21 : decode cX3_join 21 = .ok (.invokevirtual 83, 3) := by decide +kernel
theorem dX3_join_24 : decode cX3_join 24 = .ok (.aload_n 0, 1) := by decide +kernel
theorem dX3_join_25 : decode cX3_join 25 = .ok (.getfield 35, 3) := by decide +kernel
theorem dX3_join_28 : decode cX3_join 28 = .ok (.iload_n 1, 1) := by decide +kernel
theorem dX3_join_29 : decode cX3_join 29 = .ok (.iaload, 1) := by decide +kernel
theorem dX3_join_30 : decode cX3_join 30 = .ok (.aload_n 0, 1) := by decide +kernel
theorem dX3_join_31 : decode cX3_join 31 = .ok (.getfield 35, 3) := by decide +kernel
theorem dX3_join_34 : decode cX3_join 34 = .ok (.iload_n 2, 1) := by decide +kernel
theorem dX3_join_35 : decode cX3_join 35 = .ok (.iaload, 1) := by decide +kernel
theorem dX3_join_36 : decode cX3_join 36 = .ok (.if_icmp .le 7, 3) := by decide +kernel
theorem dX3_join_39 : decode cX3_join 39 = .ok (.iconst 1, 1) := by decide +kernel
theorem dX3_join_40 : decode cX3_join 40 = .ok (.goto 4, 3) := by decide +kernel
theorem dX3_join_43 : decode cX3_join 43 = .ok (.iconst 0, 1) := by decide +kernel
theorem dX3_join_44 : decode cX3_join 44 = .ok (.istore_n 3, 1) := by decide +kernel
theorem dX3_join_45 : decode cX3_join 45 = .ok (.iload_n 3, 1) := by decide +kernel
theorem dX3_join_46 : decode cX3_join 46 = .ok (.ifCond .eq 12, 3) := by decide +kernel
theorem dX3_join_49 : decode cX3_join 49 = .ok (.aload_n 0, 1) := by decide +kernel
theorem dX3_join_50 : decode cX3_join 50 = .ok (.getfield 35, 3) := by decide +kernel
theorem dX3_join_53 : decode cX3_join 53 = .ok (.iload_n 2, 1) := by decide +kernel
theorem dX3_join_54 : decode cX3_join 54 = .ok (.iaload, 1) := by decide +kernel
theorem dX3_join_55 : decode cX3_join 55 = .ok (.goto 9, 3) := by decide +kernel
theorem dX3_join_58 : decode cX3_join 58 = .ok (.aload_n 0, 1) := by decide +kernel
theorem dX3_join_59 : decode cX3_join 59 = .ok (.getfield 35, 3) := by decide +kernel
theorem dX3_join_62 : decode cX3_join 62 = .ok (.iload_n 1, 1) := by decide +kernel
theorem dX3_join_63 : decode cX3_join 63 = .ok (.iaload, 1) := by decide +kernel
theorem dX3_join_64 : decode cX3_join 64 = .ok (.istore 4, 2) := by decide +kernel
theorem dX3_join_66 : decode cX3_join 66 = .ok (.iload_n 3, 1) := by decide +kernel
theorem dX3_join_67 : decode cX3_join 67 = .ok (.ifCond .eq 7, 3) := by decide +kernel
theorem dX3_join_70 : decode cX3_join 70 = .ok (.iload_n 1, 1) := by decide +kernel
theorem dX3_join_71 : decode cX3_join 71 = .ok (.goto 4, 3) := by decide +kernel
theorem dX3_join_74 : decode cX3_join 74 = .ok (.iload_n 2, 1) := by decide +kernel
theorem dX3_join_75 : decode cX3_join 75 = .ok (.istore 5, 2) := by decide +kernel
theorem dX3_join_77 : decode cX3_join 77 = .ok (.iconst 0, 1) := by decide +kernel
theorem dX3_join_78 : decode cX3_join 78 = .ok (.istore 6, 2) := by decide +kernel
theorem dX3_join_80 : decode cX3_join 80 = .ok (.iload 6, 2) := by decide +kernel
theorem dX3_join_82 : decode cX3_join 82 = .ok (.sipush 128, 3) := by decide +kernel
theorem dX3_join_85 : decode cX3_join 85 = .ok (.if_icmp .ge 64, 3) := by decide +kernel
theorem dX3_join_88 : decode cX3_join 88 = .ok (.aload_n 0, 1) := by decide +kernel
theorem dX3_join_89 : decode cX3_join 89 = .ok (.iload 5, 2) := by decide +kernel
theorem dX3_join_91 : decode cX3_join 91 = .ok (.invokevirtual 74, 3) := by decide +kernel
theorem dX3_join_94 : decode cX3_join 94 = .ok (.ifCond .eq 55, 3) := by decide +kernel
theorem dX3_join_97 : decode cX3_join 97 = .ok (.aload_n 0, 1) := by decide +kernel
theorem dX3_join_98 : decode cX3_join 98 = .ok (.getfield 35, 3) := by decide +kernel
theorem dX3_join_101 : decode cX3_join 101 = .ok (.iload 5, 2) := by decide +kernel
theorem dX3_join_103 : decode cX3_join 103 = .ok (.iaload, 1) := by decide +kernel
theorem dX3_join_104 : decode cX3_join 104 = .ok (.iload 4, 2) := by decide +kernel
theorem dX3_join_106 : decode cX3_join 106 = .ok (.iconst 1, 1) := by decide +kernel
theorem dX3_join_107 : decode cX3_join 107 = .ok (.iadd, 1) := by decide +kernel
theorem dX3_join_108 : decode cX3_join 108 = .ok (.if_icmp .le 41, 3) := by decide +kernel
theorem dX3_join_111 : decode cX3_join 111 = .ok (.aload_n 0, 1) := by decide +kernel
theorem dX3_join_112 : decode cX3_join 112 = .ok (.getfield 18, 3) := by decide +kernel
theorem dX3_join_115 : decode cX3_join 115 = .ok (.iload 6, 2) := by decide +kernel
theorem dX3_join_117 : decode cX3_join 117 = .ok (.iload 5, 2) := by decide +kernel
theorem dX3_join_119 : decode cX3_join 119 = .ok (.iastore, 1) := by decide +kernel
theorem dX3_join_120 : decode cX3_join 120 = .ok (.iload_n 3, 1) := by decide +kernel
theorem dX3_join_121 : decode cX3_join 121 = .ok (.ifCond .eq 13, 3) := by decide +kernel
theorem dX3_join_124 : decode cX3_join 124 = .ok (.aload_n 0, 1) := by decide +kernel
theorem dX3_join_125 : decode cX3_join 125 = .ok (.getfield 28, 3) := by decide +kernel
theorem dX3_join_128 : decode cX3_join 128 = .ok (.iload 5, 2) := by decide +kernel
theorem dX3_join_130 : decode cX3_join 130 = .ok (.iaload, 1) := by decide +kernel
theorem dX3_join_131 : decode cX3_join 131 = .ok (.goto 10, 3) := by decide +kernel
theorem dX3_join_134 : decode cX3_join 134 = .ok (.aload_n 0, 1) := by decide +kernel
theorem dX3_join_135 : decode cX3_join 135 = .ok (.getfield 25, 3) := by decide +kernel
theorem dX3_join_138 : decode cX3_join 138 = .ok (.iload 5, 2) := by decide +kernel
theorem dX3_join_140 : decode cX3_join 140 = .ok (.iaload, 1) := by decide +kernel
theorem dX3_join_141 : decode cX3_join 141 = .ok (.istore 5, 2) := by decide +kernel
theorem dX3_join_143 : decode cX3_join 143 = .ok (.iinc 6 1, 3) := by decide +kernel
theorem dX3_join_146 : decode cX3_join 146 = .ok (.goto (-66), 3) := by decide +kernel
theorem dX3_join_149 : decode cX3_join 149 = .ok (.iload_n 3, 1) := by decide +kernel
theorem dX3_join_150 : decode cX3_join 150 = .ok (.ifCond .eq 13, 3) := by decide +kernel
theorem dX3_join_153 : decode cX3_join 153 = .ok (.aload_n 0, 1) := by decide +kernel
theorem dX3_join_154 : decode cX3_join 154 = .ok (.iload 5, 2) := by decide +kernel
theorem dX3_join_156 : decode cX3_join 156 = .ok (.iload_n 2, 1) := by decide +kernel
theorem dX3_join_157 : decode cX3_join 157 = .ok (.invokevirtual 86, 3) := by decide +kernel
theorem dX3_join_160 : decode cX3_join 160 = .ok (.goto 10, 3) := by decide +kernel
theorem dX3_join_163 : decode cX3_join 163 = .ok (.aload_n 0, 1) := by decide +kernel
theorem dX3_join_164 : decode cX3_join 164 = .ok (.iload_n 1, 1) := by decide +kernel
theorem dX3_join_165 : decode cX3_join 165 = .ok (.iload 5, 2) := by decide +kernel
theorem dX3_join_167 : decode cX3_join 167 = .ok (.invokevirtual 86, 3) := by decide +kernel
theorem dX3_join_170 : decode cX3_join 170 = .ok (.istore 7, 2) := by decide +kernel
theorem dX3_join_172 : decode cX3_join 172 = .ok (.iload 6, 2) := by decide +kernel
theorem dX3_join_174 : decode cX3_join 174 = .ok (.iconst 1, 1) := by decide +kernel
theorem dX3_join_175 : decode cX3_join 175 = .ok (.isub, 1) := by decide +kernel
theorem dX3_join_176 : decode cX3_join 176 = .ok (.istore 8, 2) := by decide +kernel
theorem dX3_join_178 : decode cX3_join 178 = .ok (.iload 8, 2) := by decide +kernel
theorem dX3_join_180 : decode cX3_join 180 = .ok (.ifCond .lt 53, 3) := by decide +kernel
theorem dX3_join_183 : decode cX3_join 183 = .ok (.aload_n 0, 1) := by decide +kernel
theorem dX3_join_184 : decode cX3_join 184 = .ok (.getfield 18, 3) := by decide +kernel
theorem dX3_join_187 : decode cX3_join 187 = .ok (.iload 8, 2) := by decide +kernel
theorem dX3_join_189 : decode cX3_join 189 = .ok (.iaload, 1) := by decide +kernel
theorem dX3_join_190 : decode cX3_join 190 = .ok (.istore 9, 2) := by decide +kernel
theorem dX3_join_192 : decode cX3_join 192 = .ok (.iload_n 3, 1) := by decide +kernel
theorem dX3_join_193 : decode cX3_join 193 = .ok (.ifCond .eq 19, 3) := by decide +kernel
theorem dX3_join_196 : decode cX3_join 196 = .ok (.aload_n 0, 1) := by decide +kernel
theorem dX3_join_197 : decode cX3_join 197 = .ok (.aload_n 0, 1) := by decide +kernel
theorem dX3_join_198 : decode cX3_join 198 = .ok (.getfield 25, 3) := by decide +kernel
theorem dX3_join_201 : decode cX3_join 201 = .ok (.iload 9, 2) := by decide +kernel
theorem dX3_join_203 : decode cX3_join 203 = .ok (.iaload, 1) := by decide +kernel
theorem dX3_join_204 : decode cX3_join 204 = .ok (.iload 7, 2) := by decide +kernel
theorem dX3_join_206 : decode cX3_join 206 = .ok (.invokevirtual 90, 3) := by decide +kernel
theorem dX3_join_209 : decode cX3_join 209 = .ok (.goto 16, 3) := by decide +kernel
theorem dX3_join_212 : decode cX3_join 212 = .ok (.aload_n 0, 1) := by decide +kernel
theorem dX3_join_213 : decode cX3_join 213 = .ok (.iload 7, 2) := by decide +kernel
theorem dX3_join_215 : decode cX3_join 215 = .ok (.aload_n 0, 1) := by decide +kernel
theorem dX3_join_216 : decode cX3_join 216 = .ok (.getfield 28, 3) := by decide +kernel
theorem dX3_join_219 : decode cX3_join 219 = .ok (.iload 9, 2) := by decide +kernel
theorem dX3_join_221 : decode cX3_join 221 = .ok (.iaload, 1) := by decide +kernel
theorem dX3_join_222 : decode cX3_join 222 = .ok (.invokevirtual 90, 3) := by decide +kernel
theorem dX3_join_225 : decode cX3_join 225 = .ok (.istore 7, 2) := by decide +kernel
theorem dX3_join_227 : decode cX3_join 227 = .ok (.iinc 8 (-1), 3) := by decide +kernel
theorem dX3_join_230 : decode cX3_join 230 = .ok (.goto (-52), 3) := by decide +kernel
theorem dX3_join_233 : decode cX3_join 233 = .ok (.iload 7, 2) := by decide +kernel
theorem dX3_join_235 : decode cX3_join 235 = .ok (.ireturn, 1) := by decide +kernel
theorem dX1_putRoot_0 : decode cX1_putRoot 0 = .ok (.aload_n 0, 1) := by decide +kernel
theorem dX1_putRoot_1 : decode cX1_putRoot 1 = .ok (.getfield 20, 3) := by decide +kernel
theorem dX1_putRoot_4 : decode cX1_putRoot 4 = .ok (.iload_n 1, 1) := by decide +kernel
theorem dX1_putRoot_5 : decode cX1_putRoot 5 = .ok (.iload_n 2, 1) := by decide +kernel
theorem dX1_putRoot_6 : decode cX1_putRoot 6 = .ok (.i2l, 1) := by decide +kernel
theorem dX1_putRoot_7 : decode cX1_putRoot 7 = .ok (.bipush 12, 2) := by decide +kernel
theorem dX1_putRoot_9 : decode cX1_putRoot 9 = .ok (.lshl, 1) := by decide +kernel
theorem dX1_putRoot_10 : decode cX1_putRoot 10 = .ok (.ldc2_w 50, 3) := by decide +kernel
theorem dX1_putRoot_13 : decode cX1_putRoot 13 = .ok (.lor, 1) := by decide +kernel
theorem dX1_putRoot_14 : decode cX1_putRoot 14 = .ok (.invokevirtual 52, 3) := by decide +kernel
theorem dX1_putRoot_17 : decode cX1_putRoot 17 = .ok (.return_, 1) := by decide +kernel
theorem dJ7_fill_53178_0 : decode cJ7_fill_53178 0 = .ok (.iconst 0, 1) := by decide +kernel
theorem dJ7_fill_53178_1 : decode cJ7_fill_53178 1 = .ok (.istore_n 2, 1) := by decide +kernel
theorem dJ7_fill_53178_2 : decode cJ7_fill_53178 2 = .ok (.aload_n 0, 1) := by decide +kernel
theorem dJ7_fill_53178_3 : decode cJ7_fill_53178 3 = .ok (.arraylength, 1) := by decide +kernel
theorem dJ7_fill_53178_4 : decode cJ7_fill_53178 4 = .ok (.istore_n 3, 1) := by decide +kernel
theorem dJ7_fill_53178_5 : decode cJ7_fill_53178 5 = .ok (.iload_n 2, 1) := by decide +kernel
theorem dJ7_fill_53178_6 : decode cJ7_fill_53178 6 = .ok (.iload_n 3, 1) := by decide +kernel
theorem dJ7_fill_53178_7 : decode cJ7_fill_53178 7 = .ok (.if_icmp .ge 13, 3) := by decide +kernel
theorem dJ7_fill_53178_10 : decode cJ7_fill_53178 10 = .ok (.aload_n 0, 1) := by decide +kernel
theorem dJ7_fill_53178_11 : decode cJ7_fill_53178 11 = .ok (.iload_n 2, 1) := by decide +kernel
theorem dJ7_fill_53178_12 : decode cJ7_fill_53178 12 = .ok (.iload_n 1, 1) := by decide +kernel
theorem dJ7_fill_53178_13 : decode cJ7_fill_53178 13 = .ok (.iastore, 1) := by decide +kernel
theorem dJ7_fill_53178_14 : decode cJ7_fill_53178 14 = .ok (.iinc 2 1, 3) := by decide +kernel
theorem dJ7_fill_53178_17 : decode cJ7_fill_53178 17 = .ok (.goto (-12), 3) := by decide +kernel
theorem dJ7_fill_53178_20 : decode cJ7_fill_53178 20 = .ok (.return_, 1) := by decide +kernel
theorem dJx4a65c_size_8abf5_0 : decode cJx4a65c_size_8abf5 0 = .ok (.aload_n 0, 1) := by decide +kernel
theorem dJx4a65c_size_8abf5_1 : decode cJx4a65c_size_8abf5 1 = .ok (.getfield 48, 3) := by decide +kernel
theorem dJx4a65c_size_8abf5_4 : decode cJx4a65c_size_8abf5 4 = .ok (.ireturn, 1) := by decide +kernel
theorem dJx4a65c_get_915e3_0 : decode cJx4a65c_get_915e3 0 = .ok (.iload_n 1, 1) := by decide +kernel
theorem dJx4a65c_get_915e3_1 : decode cJx4a65c_get_915e3 1 = .ok (.aload_n 0, 1) := by decide +kernel
theorem dJx4a65c_get_915e3_2 : decode cJx4a65c_get_915e3 2 = .ok (.getfield 48, 3) := by decide +kernel
theorem dJx4a65c_get_915e3_5 : decode cJx4a65c_get_915e3 5 = .ok (.invokestatic 118, 3) := by decide +kernel
theorem dJx4a65c_get_915e3_8 : decode cJx4a65c_get_915e3 8 = .ok (.pop, 1) := by decide +kernel
theorem dJx4a65c_get_915e3_9 : decode cJx4a65c_get_915e3 9 = .ok (.aload_n 0, 1) := by decide +kernel
theorem dJx4a65c_get_915e3_10 : decode cJx4a65c_get_915e3 10 = .ok (.iload_n 1, 1) := by decide +kernel
theorem dJx4a65c_get_915e3_11 : decode cJx4a65c_get_915e3 11 = .ok (.invokevirtual 123, 3) := by decide +kernel
theorem dJx4a65c_get_915e3_14 : decode cJx4a65c_get_915e3 14 = .ok (.areturn, 1) := by decide +kernel
theorem dX3_reach_0 : decode cX3_reach 0 = .ok (.iconst 0, 1) := by decide +kernel
theorem dX3_reach_1 : decode cX3_reach 1 = .ok (.istore_n 2, 1) := by decide +kernel
theorem dX3_reach_2 : decode cX3_reach 2 = .ok (.iload_n 2, 1) := by decide +kernel
theorem dX3_reach_3 : decode cX3_reach 3 = .ok (.aload_n 1, 1) := by decide +kernel
theorem dX3_reach_4 : decode cX3_reach 4 = .ok (.invokevirtual 156, 3) := by decide +kernel
theorem dX3_reach_7 : decode cX3_reach 7 = .ok (.if_icmp .ge 37, 3) := by decide +kernel
theorem dX3_reach_10 : decode cX3_reach 10 = .ok (.aload_n 1, 1) := by decide +kernel
theorem dX3_reach_11 : decode cX3_reach 11 = .ok (.getfield 159, 3) := by decide +kernel
theorem dX3_reach_14 : decode cX3_reach 14 = .ok (.ifCond .eq 30, 3) := by decide +kernel
theorem dX3_reach_17 : decode cX3_reach 17 = .ok (.aload_n 1, 1) := by decide +kernel
theorem dX3_reach_18 : decode cX3_reach 18 = .ok (.iload_n 2, 1) := by decide +kernel
theorem dX3_reach_19 : decode cX3_reach 19 = .ok (.invokevirtual 163, 3) := by decide +kernel
theorem dX3_reach_22 : decode cX3_reach 22 = .ok (.istore_n 3, 1) := by decide +kernel
theorem dX3_reach_23 : decode cX3_reach 23 = .ok (.aload_n 0, 1) := by decide +kernel
theorem dX3_reach_24 : decode cX3_reach 24 = .ok (.iload_n 3, 1) := by decide +kernel
theorem dX3_reach_25 : decode cX3_reach 25 = .ok (.invokevirtual 74, 3) := by decide +kernel
theorem dX3_reach_28 : decode cX3_reach 28 = .ok (.ifCond .eq 10, 3) := by decide +kernel
theorem dX3_reach_31 : decode cX3_reach 31 = .ok (.aload_n 0, 1) := by decide +kernel
theorem dX3_reach_32 : decode cX3_reach 32 = .ok (.getfield 44, 3) := by decide +kernel
theorem dX3_reach_35 : decode cX3_reach 35 = .ok (.iload_n 3, 1) := by decide +kernel
theorem dX3_reach_36 : decode cX3_reach 36 = .ok (.iconst 1, 1) := by decide +kernel
theorem dX3_reach_37 : decode cX3_reach 37 = .ok (.iastore, 1) := by decide +kernel
theorem dX3_reach_38 : decode cX3_reach 38 = .ok (.iinc 2 1, 3) := by decide +kernel
theorem dX3_reach_41 : decode cX3_reach 41 = .ok (.goto (-39), 3) := by decide +kernel
theorem dX3_reach_44 : decode cX3_reach 44 = .ok (.return_, 1) := by decide +kernel
theorem dX3_moveTogether_0 : decode cX3_moveTogether 0 = .ok (.iconst 0, 1) := by decide +kernel
theorem dX3_moveTogether_1 : decode cX3_moveTogether 1 = .ok (.istore_n 1, 1) := by decide +kernel
theorem dX3_moveTogether_2 : decode cX3_moveTogether 2 = .ok (.iload_n 1, 1) := by decide +kernel
theorem dX3_moveTogether_3 : decode cX3_moveTogether 3 = .ok (.sipush 512, 3) := by decide +kernel
theorem dX3_moveTogether_6 : decode cX3_moveTogether 6 = .ok (.if_icmp .ge 16, 3) := by decide +kernel
theorem dX3_moveTogether_9 : decode cX3_moveTogether 9 = .ok (.aload_n 0, 1) := by decide +kernel
theorem dX3_moveTogether_10 : decode cX3_moveTogether 10 = .ok (.getfield 44, 3) := by decide +kernel
theorem dX3_moveTogether_13 : decode cX3_moveTogether 13 = .ok (.iload_n 1, 1) := by decide +kernel
theorem dX3_moveTogether_14 : decode cX3_moveTogether 14 = .ok (.iload_n 1, 1) := by decide +kernel
theorem dX3_moveTogether_15 : decode cX3_moveTogether 15 = .ok (.iastore, 1) := by decide +kernel
theorem dX3_moveTogether_16 : decode cX3_moveTogether 16 = .ok (.iinc 1 1, 3) := by decide +kernel
theorem dX3_moveTogether_19 : decode cX3_moveTogether 19 = .ok (.goto (-17), 3) := by decide +kernel
theorem dX3_moveTogether_22 : decode cX3_moveTogether 22 = .ok (.sipush 512, 3) := by decide +kernel
theorem dX3_moveTogether_25 : decode cX3_moveTogether 25 = .ok (.istore_n 1, 1) := by decide +kernel
theorem dX3_moveTogether_26 : decode cX3_moveTogether 26 = .ok (.sipush 512, 3) := by decide +kernel
theorem dX3_moveTogether_29 : decode cX3_moveTogether 29 = .ok (.istore_n 2, 1) := by decide +kernel
theorem dX3_moveTogether_30 : decode cX3_moveTogether 30 = .ok (.iload_n 2, 1) := by decide +kernel
theorem dX3_moveTogether_31 : decode cX3_moveTogether 31 = .ok (.aload_n 0, 1) := by decide +kernel
theorem dX3_moveTogether_32 : decode cX3_moveTogether 32 = .ok (.getfield 55, 3) := by decide +kernel
theorem dX3_moveTogether_35 : decode cX3_moveTogether 35 = .ok (.if_icmp .ge 101, 3) := by decide +kernel
theorem dX3_moveTogether_38 : decode cX3_moveTogether 38 = .ok (.aload_n 0, 1) := by decide +kernel
theorem dX3_moveTogether_39 : decode cX3_moveTogether 39 = .ok (.getfield 44, 3) := by decide +kernel
theorem dX3_moveTogether_42 : decode cX3_moveTogether 42 = .ok (.iload_n 2, 1) := by decide +kernel
theorem dX3_moveTogether_43 : decode cX3_moveTogether 43 = .ok (.iaload, 1) := by decide +kernel
theorem dX3_moveTogether_44 : decode cX3_moveTogether 44 = .ok (.ifCond .ne 6, 3) := by decide +kernel
theorem dX3_moveTogether_47 : decode cX3_moveTogether 47 = .ok (.goto 83, 3) := by decide +kernel
theorem dX3_moveTogether_50 : decode cX3_moveTogether 50 = .ok (.aload_n 0, 1) := by decide +kernel
theorem dX3_moveTogether_51 : decode cX3_moveTogether 51 = .ok (.getfield 25, 3) := by decide +kernel
theorem dX3_moveTogether_54 : decode cX3_moveTogether 54 = .ok (.iload_n 1, 1) := by decide +kernel
theorem dX3_moveTogether_55 : decode cX3_moveTogether 55 = .ok (.aload_n 0, 1) := by decide +kernel
theorem dX3_moveTogether_56 : decode cX3_moveTogether 56 = .ok (.getfield 44, 3) := by decide +kernel
theorem dX3_moveTogether_59 : decode cX3_moveTogether 59 = .ok (.aload_n 0, 1) := by decide +kernel
theorem dX3_moveTogether_60 : decode cX3_moveTogether 60 = .ok (.getfield 25, 3) := by decide +kernel
theorem dX3_moveTogether_63 : decode cX3_moveTogether 63 = .ok (.iload_n 2, 1) := by decide +kernel
theorem dX3_moveTogether_64 : decode cX3_moveTogether 64 = .ok (.iaload, 1) := by decide +kernel
theorem dX3_moveTogether_65 : decode cX3_moveTogether 65 = .ok (.iaload, 1) := by decide +kernel
theorem dX3_moveTogether_66 : decode cX3_moveTogether 66 = .ok (.iastore, 1) := by decide +kernel
theorem dX3_moveTogether_67 : decode cX3_moveTogether 67 = .ok (.aload_n 0, 1) := by decide +kernel
theorem dX3_moveTogether_68 : decode cX3_moveTogether 68 = .ok (.getfield 28, 3) := by decide +kernel
theorem dX3_moveTogether_71 : decode cX3_moveTogether 71 = .ok (.iload_n 1, 1) := by decide +kernel
theorem dX3_moveTogether_72 : decode cX3_moveTogether 72 = .ok (.aload_n 0, 1) := by decide +kernel
theorem dX3_moveTogether_73 : decode cX3_moveTogether 73 = .ok (.getfield 44, 3) := by decide +kernel
theorem dX3_moveTogether_76 : decode cX3_moveTogether 76 = .ok (.aload_n 0, 1) := by decide +kernel
theorem dX3_moveTogether_77 : decode cX3_moveTogether 77 = .ok (.getfield 28, 3) := by decide +kernel
theorem dX3_moveTogether_80 : decode cX3_moveTogether 80 = .ok (.iload_n 2, 1) := by decide +kernel
theorem dX3_moveTogether_81 : decode cX3_moveTogether 81 = .ok (.iaload, 1) := by decide +kernel
theorem dX3_moveTogether_82 : decode cX3_moveTogether 82 = .ok (.iaload, 1) := by decide +kernel
theorem dX3_moveTogether_83 : decode cX3_moveTogether 83 = .ok (.iastore, 1) := by decide +kernel
theorem dX3_moveTogether_84 : decode cX3_moveTogether 84 = .ok (.aload_n 0, 1) := by decide +kernel
theorem dX3_moveTogether_85 : decode cX3_moveTogether 85 = .ok (.getfield 31, 3) := by decide +kernel
theorem dX3_moveTogether_88 : decode cX3_moveTogether 88 = .ok (.iload_n 1, 1) := by decide +kernel
theorem dX3_moveTogether_89 : decode cX3_moveTogether 89 = .ok (.aload_n 0, 1) := by decide +kernel
theorem dX3_moveTogether_90 : decode cX3_moveTogether 90 = .ok (.getfield 31, 3) := by decide +kernel
theorem dX3_moveTogether_93 : decode cX3_moveTogether 93 = .ok (.iload_n 2, 1) := by decide +kernel
theorem dX3_moveTogether_94 : decode cX3_moveTogether 94 = .ok (.laload, 1) := by decide +kernel
theorem dX3_moveTogether_95 : decode cX3_moveTogether 95 = .ok (.lastore, 1) := by decide +kernel
theorem dX3_moveTogether_96 : decode cX3_moveTogether 96 = .ok (.aload_n 0, 1) := by decide +kernel
theorem dX3_moveTogether_97 : decode cX3_moveTogether 97 = .ok (.getfield 35, 3) := by decide +kernel
theorem dX3_moveTogether_100 : decode cX3_moveTogether 100 = .ok (.iload_n 1, 1) := by decide +kernel
theorem dX3_moveTogether_101 : decode cX3_moveTogether 101 = .ok (.aload_n 0, 1) := by decide +kernel
theorem dX3_moveTogether_102 : decode cX3_moveTogether 102 = .ok (.getfield 35, 3) := by decide +kernel
theorem dX3_moveTogether_105 : decode cX3_moveTogether 105 = .ok (.iload_n 2, 1) := by decide +kernel
theorem dX3_moveTogether_106 : decode cX3_moveTogether 106 = .ok (.iaload, 1) := by decide +kernel
theorem dX3_moveTogether_107 : decode cX3_moveTogether 107 = .ok (.iastore, 1) := by decide +kernel
theorem dX3_moveTogether_108 : decode cX3_moveTogether 108 = .ok (.aload_n 0, 1) := by decide +kernel
theorem dX3_moveTogether_109 : decode cX3_moveTogether 109 = .ok (.getfield 38, 3) := by decide +kernel
theorem dX3_moveTogether_112 : decode cX3_moveTogether 112 = .ok (.iload_n 1, 1) := by decide +kernel
theorem dX3_moveTogether_113 : decode cX3_moveTogether 113 = .ok (.aload_n 0, 1) := by decide +kernel
theorem dX3_moveTogether_114 : decode cX3_moveTogether 114 = .ok (.getfield 38, 3) := by decide +kernel
theorem dX3_moveTogether_117 : decode cX3_moveTogether 117 = .ok (.iload_n 2, 1) := by decide +kernel
theorem dX3_moveTogether_118 : decode cX3_moveTogether 118 = .ok (.iaload, 1) := by decide +kernel
theorem dX3_moveTogether_119 : decode cX3_moveTogether 119 = .ok (.iastore, 1) := by decide +kernel
theorem dX3_moveTogether_120 : decode cX3_moveTogether 120 = .ok (.aload_n 0, 1) := by decide +kernel
theorem dX3_moveTogether_121 : decode cX3_moveTogether 121 = .ok (.getfield 44, 3) := by decide +kernel
theorem dX3_moveTogether_124 : decode cX3_moveTogether 124 = .ok (.iload_n 2, 1) := by decide +kernel
theorem dX3_moveTogether_125 : decode cX3_moveTogether 125 = .ok (.iload_n 1, 1) := by decide +kernel
theorem dX3_moveTogether_126 : decode cX3_moveTogether 126 = .ok (.iinc 1 1, 3) := by decide +kernel
theorem dX3_moveTogether_129 : decode cX3_moveTogether 129 = .ok (.iastore, 1) := by decide +kernel
theorem dX3_moveTogether_130 : decode cX3_moveTogether 130 = .ok (.iinc 2 1, 3) := by decide +kernel
theorem dX3_moveTogether_133 : decode cX3_moveTogether 133 = .ok (.goto (-103), 3) := by decide +kernel
theorem dX3_moveTogether_136 : decode cX3_moveTogether 136 = .ok (.aload_n 0, 1) := by decide +kernel
theorem dX3_moveTogether_137 : decode cX3_moveTogether 137 = .ok (.iload_n 1, 1) := by decide +kernel
theorem dX3_moveTogether_138 : decode cX3_moveTogether 138 = .ok (.putfield 55, 3) := by decide +kernel
theorem dX3_moveTogether_141 : decode cX3_moveTogether 141 = .ok (.return_, 1) := by decide +kernel
theorem dX3_knowAll_0 : decode cX3_knowAll 0 = .ok (.aload_n 0, 1) := by decide +kernel
theorem dX3_knowAll_1 : decode cX3_knowAll 1 = .ok (.getfield 47, 3) := by decide +kernel
theorem dX3_knowAll_4 : decode cX3_knowAll 4 = .ok (.arraylength, 1) := by decide +kernel
theorem dX3_knowAll_5 : decode cX3_knowAll 5 = .ok (.iconst 1, 1) := by decide +kernel
theorem dX3_knowAll_6 : decode cX3_knowAll 6 = .ok (.isub, 1) := by decide +kernel
theorem dX3_knowAll_7 : decode cX3_knowAll 7 = .ok (.istore_n 1, 1) := by decide +kernel
theorem dX3_knowAll_8 : decode cX3_knowAll 8 = .ok (.sipush 512, 3) := by decide +kernel
theorem dX3_knowAll_11 : decode cX3_knowAll 11 = .ok (.istore_n 2, 1) := by decide +kernel
theorem dX3_knowAll_12 : decode cX3_knowAll 12 = .ok (.iload_n 2, 1) := by decide +kernel
theorem dX3_knowAll_13 : decode cX3_knowAll 13 = .ok (.aload_n 0, 1) := by decide +kernel
theorem dX3_knowAll_14 : decode cX3_knowAll 14 = .ok (.getfield 55, 3) := by decide +kernel
theorem dX3_knowAll_17 : decode cX3_knowAll 17 = .ok (.if_icmp .ge 71, 3) := by decide +kernel
theorem dX3_knowAll_20 : decode cX3_knowAll 20 = .ok (.aload_n 0, 1) := by decide +kernel
theorem dX3_knowAll_21 : decode cX3_knowAll 21 = .ok (.getfield 25, 3) := by decide +kernel
theorem dX3_knowAll_24 : decode cX3_knowAll 24 = .ok (.iload_n 2, 1) := by decide +kernel
theorem dX3_knowAll_25 : decode cX3_knowAll 25 = .ok (.iaload, 1) := by decide +kernel
theorem dX3_knowAll_26 : decode cX3_knowAll 26 = .ok (.ldc 93, 2) := by decide +kernel
theorem dX3_knowAll_28 : decode cX3_knowAll 28 = .ok (.imul, 1) := by decide +kernel
theorem dX3_knowAll_29 : decode cX3_knowAll 29 = .ok (.aload_n 0, 1) := by decide +kernel
theorem dX3_knowAll_30 : decode cX3_knowAll 30 = .ok (.getfield 28, 3) := by decide +kernel
theorem dX3_knowAll_33 : decode cX3_knowAll 33 = .ok (.iload_n 2, 1) := by decide +kernel
theorem dX3_knowAll_34 : decode cX3_knowAll 34 = .ok (.iaload, 1) := by decide +kernel
theorem dX3_knowAll_35 : decode cX3_knowAll 35 = .ok (.ldc 94, 2) := by decide +kernel
theorem dX3_knowAll_37 : decode cX3_knowAll 37 = .ok (.imul, 1) := by decide +kernel
theorem dX3_knowAll_38 : decode cX3_knowAll 38 = .ok (.iadd, 1) := by decide +kernel
theorem dX3_knowAll_39 : decode cX3_knowAll 39 = .ok (.bipush 8, 2) := by decide +kernel
theorem dX3_knowAll_41 : decode cX3_knowAll 41 = .ok (.iushr, 1) := by decide +kernel
theorem dX3_knowAll_42 : decode cX3_knowAll 42 = .ok (.iload_n 1, 1) := by decide +kernel
theorem dX3_knowAll_43 : decode cX3_knowAll 43 = .ok (.iand, 1) := by decide +kernel
theorem dX3_knowAll_44 : decode cX3_knowAll 44 = .ok (.istore_n 3, 1) := by decide +kernel
theorem dX3_knowAll_45 : decode cX3_knowAll 45 = .ok (.iconst 0, 1) := by decide +kernel
theorem dX3_knowAll_46 : decode cX3_knowAll 46 = .ok (.istore 4, 2) := by decide +kernel
theorem dX3_knowAll_48 : decode cX3_knowAll 48 = .ok (.iload 4, 2) := by decide +kernel
theorem dX3_knowAll_50 : decode cX3_knowAll 50 = .ok (.iload_n 1, 1) := by decide +kernel
theorem dX3_knowAll_51 : decode cX3_knowAll 51 = .ok (.if_icmp .ge 24, 3) := by decide +kernel
theorem dX3_knowAll_54 : decode cX3_knowAll 54 = .ok (.aload_n 0, 1) := by decide +kernel
theorem dX3_knowAll_55 : decode cX3_knowAll 55 = .ok (.getfield 47, 3) := by decide +kernel
theorem dX3_knowAll_58 : decode cX3_knowAll 58 = .ok (.iload_n 3, 1) := by decide +kernel
theorem dX3_knowAll_59 : decode cX3_knowAll 59 = .ok (.iaload, 1) := by decide +kernel
theorem dX3_knowAll_60 : decode cX3_knowAll 60 = .ok (.ifCond .eq 15, 3) := by decide +kernel
theorem dX3_knowAll_63 : decode cX3_knowAll 63 = .ok (.iload_n 3, 1) := by decide +kernel
theorem dX3_knowAll_64 : decode cX3_knowAll 64 = .ok (.iconst 1, 1) := by decide +kernel
theorem dX3_knowAll_65 : decode cX3_knowAll 65 = .ok (.iadd, 1) := by decide +kernel
theorem dX3_knowAll_66 : decode cX3_knowAll 66 = .ok (.iload_n 1, 1) := by decide +kernel
theorem dX3_knowAll_67 : decode cX3_knowAll 67 = .ok (.iand, 1) := by decide +kernel
theorem dX3_knowAll_68 : decode cX3_knowAll 68 = .ok (.istore_n 3, 1) := by decide +kernel
theorem dX3_knowAll_69 : decode cX3_knowAll 69 = .ok (.iinc 4 1, 3) := by decide +kernel
theorem dX3_knowAll_72 : decode cX3_knowAll 72 = .ok (.goto (-24), 3) := by decide +kernel
theorem dX3_knowAll_75 : decode cX3_knowAll 75 = .ok (.aload_n 0, 1) := by decide +kernel
theorem dX3_knowAll_76 : decode cX3_knowAll 76 = .ok (.getfield 47, 3) := by decide +kernel
theorem dX3_knowAll_79 : decode cX3_knowAll 79 = .ok (.iload_n 3, 1) := by decide +kernel
theorem dX3_knowAll_80 : decode cX3_knowAll 80 = .ok (.iload_n 2, 1) := by decide +kernel
theorem dX3_knowAll_81 : decode cX3_knowAll 81 = .ok (.iastore, 1) := by decide +kernel
theorem dX3_knowAll_82 : decode cX3_knowAll 82 = .ok (.iinc 2 1, 3) := by decide +kernel
theorem dX3_knowAll_85 : decode cX3_knowAll 85 = .ok (.goto (-73), 3) := by decide +kernel
theorem dX3_knowAll_88 : decode cX3_knowAll 88 = .ok (.return_, 1) := by decide +kernel
theorem dX3_move_0 : decode cX3_move 0 = .ok (.iconst 0, 1) := by decide +kernel
theorem dX3_move_1 : decode cX3_move 1 = .ok (.istore_n 2, 1) := by decide +kernel
theorem dX3_move_2 : decode cX3_move 2 = .ok (.iload_n 2, 1) := by decide +kernel
theorem dX3_move_3 : decode cX3_move 3 = .ok (.aload_n 1, 1) := by decide +kernel
theorem dX3_move_4 : decode cX3_move 4 = .ok (.invokevirtual 156, 3) := by decide +kernel
theorem dX3_move_7 : decode cX3_move 7 = .ok (.if_icmp .ge 49, 3) := by decide +kernel
theorem dX3_move_10 : decode cX3_move 10 = .ok (.aload_n 1, 1) := by decide +kernel
theorem dX3_move_11 : decode cX3_move 11 = .ok (.getfield 159, 3) := by decide +kernel
theorem dX3_move_14 : decode cX3_move 14 = .ok (.ifCond .eq 42, 3) := by decide +kernel
theorem dX3_move_17 : decode cX3_move 17 = .ok (.aload_n 1, 1) := by decide +kernel
theorem dX3_move_18 : decode cX3_move 18 = .ok (.iload_n 2, 1) := by decide +kernel
theorem dX3_move_19 : decode cX3_move 19 = .ok (.invokevirtual 163, 3) := by decide +kernel
theorem dX3_move_22 : decode cX3_move 22 = .ok (.istore_n 3, 1) := by decide +kernel
theorem dX3_move_23 : decode cX3_move 23 = .ok (.iload_n 3, 1) := by decide +kernel
theorem dX3_move_24 : decode cX3_move 24 = .ok (.sipush 512, 3) := by decide +kernel
theorem dX3_move_27 : decode cX3_move 27 = .ok (.if_icmp .lt 23, 3) := by decide +kernel
theorem dX3_move_30 : decode cX3_move 30 = .ok (.iload_n 3, 1) := by decide +kernel
theorem dX3_move_31 : decode cX3_move 31 = .ok (.aload_n 0, 1) := by decide +kernel
theorem dX3_move_32 : decode cX3_move 32 = .ok (.getfield 44, 3) := by decide +kernel
theorem dX3_move_35 : decode cX3_move 35 = .ok (.arraylength, 1) := by decide +kernel
theorem dX3_move_36 : decode cX3_move 36 = .ok (.if_icmp .ge 14, 3) := by decide +kernel
theorem dX3_move_39 : decode cX3_move 39 = .ok (.aload_n 1, 1) := by decide +kernel
theorem dX3_move_40 : decode cX3_move 40 = .ok (.iload_n 2, 1) := by decide +kernel
theorem dX3_move_41 : decode cX3_move 41 = .ok (.aload_n 0, 1) := by decide +kernel
theorem dX3_move_42 : decode cX3_move 42 = .ok (.getfield 44, 3) := by decide +kernel
theorem dX3_move_45 : decode cX3_move 45 = .ok (.iload_n 3, 1) := by decide +kernel
theorem dX3_move_46 : decode cX3_move 46 = .ok (.iaload, 1) := by decide +kernel
theorem dX3_move_47 : decode cX3_move 47 = .ok (.invokevirtual 167, 3) := by decide +kernel
theorem dX3_move_50 : decode cX3_move 50 = .ok (.iinc 2 1, 3) := by decide +kernel
theorem dX3_move_53 : decode cX3_move 53 = .ok (.goto (-51), 3) := by decide +kernel
theorem dX3_move_56 : decode cX3_move 56 = .ok (.return_, 1) := by decide +kernel
theorem dX3_isRoot_0 : decode cX3_isRoot 0 = .ok (.iload_n 1, 1) := by decide +kernel
theorem dX3_isRoot_1 : decode cX3_isRoot 1 = .ok (.ifCond .lt 24, 3) := by decide +kernel
theorem dX3_isRoot_4 : decode cX3_isRoot 4 = .ok (.iload_n 1, 1) := by decide +kernel
theorem dX3_isRoot_5 : decode cX3_isRoot 5 = .ok (.aload_n 0, 1) := by decide +kernel
theorem dX3_isRoot_6 : decode cX3_isRoot 6 = .ok (.getfield 55, 3) := by decide +kernel
theorem dX3_isRoot_9 : decode cX3_isRoot 9 = .ok (.if_icmp .ge 16, 3) := by decide +kernel
theorem dX3_isRoot_12 : decode cX3_isRoot 12 = .ok (.iload_n 1, 1) := by decide +kernel
theorem dX3_isRoot_13 : decode cX3_isRoot 13 = .ok (.aload_n 0, 1) := by decide +kernel
theorem dX3_isRoot_14 : decode cX3_isRoot 14 = .ok (.getfield 25, 3) := by decide +kernel
theorem dX3_isRoot_17 : decode cX3_isRoot 17 = .ok (.arraylength, 1) := by decide +kernel
theorem dX3_isRoot_18 : decode cX3_isRoot 18 = .ok (.if_icmp .ge 7, 3) := by decide +kernel
theorem dX3_isRoot_21 : decode cX3_isRoot 21 = .ok (.iconst 1, 1) := by decide +kernel
theorem dX3_isRoot_22 : decode cX3_isRoot 22 = .ok (.goto 4, 3) := by decide +kernel
theorem dX3_isRoot_25 : decode cX3_isRoot 25 = .ok (.iconst 0, 1) := by decide +kernel
theorem dX3_isRoot_26 : decode cX3_isRoot 26 = .ok (.ireturn, 1) := by decide +kernel
theorem dX3_isBranch_0 : decode cX3_isBranch 0 = .ok (.iload_n 1, 1) := by decide +kernel
theorem dX3_isBranch_1 : decode cX3_isBranch 1 = .ok (.sipush 512, 3) := by decide +kernel
theorem dX3_isBranch_4 : decode cX3_isBranch 4 = .ok (.if_icmp .lt 24, 3) := by decide +kernel
theorem dX3_isBranch_7 : decode cX3_isBranch 7 = .ok (.iload_n 1, 1) := by decide +kernel
theorem dX3_isBranch_8 : decode cX3_isBranch 8 = .ok (.aload_n 0, 1) := by decide +kernel
theorem dX3_isBranch_9 : decode cX3_isBranch 9 = .ok (.getfield 55, 3) := by decide +kernel
theorem dX3_isBranch_12 : decode cX3_isBranch 12 = .ok (.if_icmp .ge 16, 3) := by decide +kernel
theorem dX3_isBranch_15 : decode cX3_isBranch 15 = .ok (.iload_n 1, 1) := by decide +kernel
theorem dX3_isBranch_16 : decode cX3_isBranch 16 = .ok (.aload_n 0, 1) := by decide +kernel
theorem dX3_isBranch_17 : decode cX3_isBranch 17 = .ok (.getfield 25, 3) := by decide +kernel
theorem dX3_isBranch_20 : decode cX3_isBranch 20 = .ok (.arraylength, 1) := by decide +kernel
theorem dX3_isBranch_21 : decode cX3_isBranch 21 = .ok (.if_icmp .ge 7, 3) := by decide +kernel
theorem dX3_isBranch_24 : decode cX3_isBranch 24 = .ok (.iconst 1, 1) := by decide +kernel
theorem dX3_isBranch_25 : decode cX3_isBranch 25 = .ok (.goto 4, 3) := by decide +kernel
theorem dX3_isBranch_28 : decode cX3_isBranch 28 = .ok (.iconst 0, 1) := by decide +kernel
theorem dX3_isBranch_29 : decode cX3_isBranch 29 = .ok (.ireturn, 1) := by decide +kernel
theorem dX3_runAt_0 : decode cX3_runAt 0 = .ok (.iload_n 1, 1) := by decide +kernel
theorem dX3_runAt_1 : decode cX3_runAt 1 = .ok (.istore 4, 2) := by decide +kernel
theorem dX3_runAt_3 : decode cX3_runAt 3 = .ok (.lload_n 2, 1) := by decide +kernel
theorem dX3_runAt_4 : decode cX3_runAt 4 = .ok (.lstore 5, 2) := by decide +kernel
theorem dX3_runAt_6 : decode cX3_runAt 6 = .ok (.iconst 0, 1) := by decide +kernel
theorem dX3_runAt_7 : decode cX3_runAt 7 = .ok (.istore 7, 2) := by decide +kernel
theorem dX3_runAt_9 : decode cX3_runAt 9 = .ok (.iload 7, 2) := by decide +kernel
theorem dX3_runAt_11 : decode cX3_runAt 11 = .ok (.sipush 128, 3) := by decide +kernel
theorem dX3_runAt_14 : decode cX3_runAt 14 = .ok (.if_icmp .ge 79, 3) := by decide +kernel
theorem dX3_runAt_17 : decode cX3_runAt 17 = .ok (.aload_n 0, 1) := by decide +kernel
theorem dX3_runAt_18 : decode cX3_runAt 18 = .ok (.iload 4, 2) := by decide +kernel
theorem dX3_runAt_20 : decode cX3_runAt 20 = .ok (.invokevirtual 74, 3) := by decide +kernel
theorem dX3_runAt_23 : decode cX3_runAt 23 = .ok (.ifCond .eq 70, 3) := by decide +kernel
theorem dX3_runAt_26 : decode cX3_runAt 26 = .ok (.aload_n 0, 1) := by decide +kernel
theorem dX3_runAt_27 : decode cX3_runAt 27 = .ok (.getfield 38, 3) := by decide +kernel
theorem dX3_runAt_30 : decode cX3_runAt 30 = .ok (.iload 4, 2) := by decide +kernel
theorem dX3_runAt_32 : decode cX3_runAt 32 = .ok (.iaload, 1) := by decide +kernel
theorem dX3_runAt_33 : decode cX3_runAt 33 = .ok (.bipush 16, 2) := by decide +kernel
theorem dX3_runAt_35 : decode cX3_runAt 35 = .ok (.if_icmp .ne 58, 3) := by decide +kernel
theorem dX3_runAt_38 : decode cX3_runAt 38 = .ok (.aload_n 0, 1) := by decide +kernel
theorem dX3_runAt_39 : decode cX3_runAt 39 = .ok (.aload_n 0, 1) := by decide +kernel
theorem dX3_runAt_40 : decode cX3_runAt 40 = .ok (.getfield 25, 3) := by decide +kernel
theorem dX3_runAt_43 : decode cX3_runAt 43 = .ok (.iload 4, 2) := by decide +kernel
theorem dX3_runAt_45 : decode cX3_runAt 45 = .ok (.iaload, 1) := by decide +kernel
theorem dX3_runAt_46 : decode cX3_runAt 46 = .ok (.invokevirtual 77, 3) := by decide +kernel
theorem dX3_runAt_49 : decode cX3_runAt 49 = .ok (.lstore 8, 2) := by decide +kernel
theorem dX3_runAt_51 : decode cX3_runAt 51 = .ok (.lload 5, 2) := by decide +kernel
theorem dX3_runAt_53 : decode cX3_runAt 53 = .ok (.lload 8, 2) := by decide +kernel
theorem dX3_runAt_55 : decode cX3_runAt 55 = .ok (.lcmp, 1) := by decide +kernel
theorem dX3_runAt_56 : decode cX3_runAt 56 = .ok (.ifCond .ge 15, 3) := by decide +kernel
theorem dX3_runAt_59 : decode cX3_runAt 59 = .ok (.aload_n 0, 1) := by decide +kernel
theorem dX3_runAt_60 : decode cX3_runAt 60 = .ok (.getfield 25, 3) := by decide +kernel
theorem dX3_runAt_63 : decode cX3_runAt 63 = .ok (.iload 4, 2) := by decide +kernel
theorem dX3_runAt_65 : decode cX3_runAt 65 = .ok (.iaload, 1) := by decide +kernel
theorem dX3_runAt_66 : decode cX3_runAt 66 = .ok (.istore 4, 2) := by decide +kernel
theorem dX3_runAt_68 : decode cX3_runAt 68 = .ok (.goto 19, 3) := by decide +kernel
theorem dX3_runAt_71 : decode cX3_runAt 71 = .ok (.lload 5, 2) := by decide +kernel
theorem dX3_runAt_73 : decode cX3_runAt 73 = .ok (.lload 8, 2) := by decide +kernel
theorem dX3_runAt_75 : decode cX3_runAt 75 = .ok (.lsub, 1) := by decide +kernel
theorem dX3_runAt_76 : decode cX3_runAt 76 = .ok (.lstore 5, 2) := by decide +kernel
theorem dX3_runAt_78 : decode cX3_runAt 78 = .ok (.aload_n 0, 1) := by decide +kernel
theorem dX3_runAt_79 : decode cX3_runAt 79 = .ok (.getfield 28, 3) := by decide +kernel
theorem dX3_runAt_82 : decode cX3_runAt 82 = .ok (.iload 4, 2) := by decide +kernel
theorem dX3_runAt_84 : decode cX3_runAt 84 = .ok (.iaload, 1) := by decide +kernel
theorem dX3_runAt_85 : decode cX3_runAt 85 = .ok (.istore 4, 2) := by decide +kernel
theorem dX3_runAt_87 : decode cX3_runAt 87 = .ok (.iinc 7 1, 3) := by decide +kernel
theorem dX3_runAt_90 : decode cX3_runAt 90 = .ok (.goto (-81), 3) := by decide +kernel
theorem dX3_runAt_93 : decode cX3_runAt 93 = .ok (.aload_n 0, 1) := by decide +kernel
theorem dX3_runAt_94 : decode cX3_runAt 94 = .ok (.iload 4, 2) := by decide +kernel
theorem dX3_runAt_96 : decode cX3_runAt 96 = .ok (.invokevirtual 70, 3) := by decide +kernel
theorem dX3_runAt_99 : decode cX3_runAt 99 = .ok (.ifCond .ne 7, 3) := by decide +kernel
theorem dX3_runAt_102 : decode cX3_runAt 102 = .ok (.ldc2_w 81, 3) := by decide +kernel
theorem dX3_runAt_105 : decode cX3_runAt 105 = .ok (.lreturn, 1) := by decide +kernel
theorem dX3_runAt_106 : decode cX3_runAt 106 = .ok (.aload_n 0, 1) := by decide +kernel
theorem dX3_runAt_107 : decode cX3_runAt 107 = .ok (.getfield 31, 3) := by decide +kernel
theorem dX3_runAt_110 : decode cX3_runAt 110 = .ok (.iload 4, 2) := by decide +kernel
theorem dX3_runAt_112 : decode cX3_runAt 112 = .ok (.laload, 1) := by decide +kernel
theorem dX3_runAt_113 : decode cX3_runAt 113 = .ok (.lload 5, 2) := by decide +kernel
theorem dX3_runAt_115 : decode cX3_runAt 115 = .ok (.lsub, 1) := by decide +kernel
theorem dX3_runAt_116 : decode cX3_runAt 116 = .ok (.iconst 4, 1) := by decide +kernel
theorem dX3_runAt_117 : decode cX3_runAt 117 = .ok (.lshl, 1) := by decide +kernel
theorem dX3_runAt_118 : decode cX3_runAt 118 = .ok (.aload_n 0, 1) := by decide +kernel
theorem dX3_runAt_119 : decode cX3_runAt 119 = .ok (.getfield 38, 3) := by decide +kernel
theorem dX3_runAt_122 : decode cX3_runAt 122 = .ok (.iload 4, 2) := by decide +kernel
theorem dX3_runAt_124 : decode cX3_runAt 124 = .ok (.iaload, 1) := by decide +kernel
theorem dX3_runAt_125 : decode cX3_runAt 125 = .ok (.bipush 15, 2) := by decide +kernel
theorem dX3_runAt_127 : decode cX3_runAt 127 = .ok (.iand, 1) := by decide +kernel
theorem dX3_runAt_128 : decode cX3_runAt 128 = .ok (.i2l, 1) := by decide +kernel
theorem dX3_runAt_129 : decode cX3_runAt 129 = .ok (.lor, 1) := by decide +kernel
theorem dX3_runAt_130 : decode cX3_runAt 130 = .ok (.lreturn, 1) := by decide +kernel
theorem dX3_lendsRoom_0 : decode cX3_lendsRoom 0 = .ok (.iload_n 1, 1) := by decide +kernel
theorem dX3_lendsRoom_1 : decode cX3_lendsRoom 1 = .ok (.ifCond .lt 11, 3) := by decide +kernel
theorem dX3_lendsRoom_4 : decode cX3_lendsRoom 4 = .ok (.iload_n 1, 1) := by decide +kernel
theorem dX3_lendsRoom_5 : decode cX3_lendsRoom 5 = .ok (.aload_n 0, 1) := by decide +kernel
theorem dX3_lendsRoom_6 : decode cX3_lendsRoom 6 = .ok (.getfield 51, 3) := by decide +kernel
theorem dX3_lendsRoom_9 : decode cX3_lendsRoom 9 = .ok (.if_icmp .le 5, 3) := by decide +kernel
theorem dX3_lendsRoom_12 : decode cX3_lendsRoom 12 = .ok (.iconst 0, 1) := by decide +kernel
theorem dX3_lendsRoom_13 : decode cX3_lendsRoom 13 = .ok (.ireturn, 1) := by decide +kernel
theorem dX3_lendsRoom_14 : decode cX3_lendsRoom 14 = .ok (.aload_n 0, 1) := by decide +kernel
theorem dX3_lendsRoom_15 : decode cX3_lendsRoom 15 = .ok (.dup, 1) := by decide +kernel
theorem dX3_lendsRoom_16 : decode cX3_lendsRoom 16 = .ok (.getfield 51, 3) := by decide +kernel
theorem dX3_lendsRoom_19 : decode cX3_lendsRoom 19 = .ok (.iload_n 1, 1) := by decide +kernel
theorem dX3_lendsRoom_20 : decode cX3_lendsRoom 20 = .ok (.isub, 1) := by decide +kernel
theorem dX3_lendsRoom_21 : decode cX3_lendsRoom 21 = .ok (.putfield 51, 3) := by decide +kernel
theorem dX3_lendsRoom_24 : decode cX3_lendsRoom 24 = .ok (.iconst 1, 1) := by decide +kernel
theorem dX3_lendsRoom_25 : decode cX3_lendsRoom 25 = .ok (.ireturn, 1) := by decide +kernel
theorem dX10_enterNext_0 : decode cX10_enterNext 0 = .ok (.aload_n 0, 1) := by decide +kernel
theorem dX10_enterNext_1 : decode cX10_enterNext 1 = .ok (.getfield 9, 3) := by decide +kernel
theorem dX10_enterNext_4 : decode cX10_enterNext 4 = .ok (.ifnonnull 4, 3) := by decide +kernel
theorem dX10_enterNext_7 : decode cX10_enterNext 7 = .ok (.return_, 1) := by decide +kernel
theorem dX10_enterNext_8 : decode cX10_enterNext 8 = .ok (.aload_n 0, 1) := by decide +kernel
theorem dX10_enterNext_9 : decode cX10_enterNext 9 = .ok (.dup, 1) := by decide +kernel
theorem dX10_enterNext_10 : decode cX10_enterNext 10 = .ok (.getfield 15, 3) := by decide +kernel
theorem dX10_enterNext_13 : decode cX10_enterNext 13 = .ok (.iconst 1, 1) := by decide +kernel
theorem dX10_enterNext_14 : decode cX10_enterNext 14 = .ok (.iadd, 1) := by decide +kernel
theorem dX10_enterNext_15 : decode cX10_enterNext 15 = .ok (.putfield 15, 3) := by decide +kernel
theorem dX10_enterNext_18 : decode cX10_enterNext 18 = .ok (.aload_n 0, 1) := by decide +kernel
theorem dX10_enterNext_19 : decode cX10_enterNext 19 = .ok (.getfield 9, 3) := by decide +kernel
theorem dX10_enterNext_22 : decode cX10_enterNext 22 = .ok (.getfield 37, 3) := by decide +kernel
theorem dX10_enterNext_25 : decode cX10_enterNext 25 = .ok (.aload_n 0, 1) := by decide +kernel
theorem dX10_enterNext_26 : decode cX10_enterNext 26 = .ok (.getfield 15, 3) := by decide +kernel
theorem dX10_enterNext_29 : decode cX10_enterNext 29 = .ok (.invokevirtual 41, 3) := by decide +kernel
theorem dX10_enterNext_32 : decode cX10_enterNext 32 = .ok (.lstore_n 1, 1) := by decide +kernel
theorem dX10_enterNext_33 : decode cX10_enterNext 33 = .ok (.aload_n 0, 1) := by decide +kernel
theorem dX10_enterNext_34 : decode cX10_enterNext 34 = .ok (.lload_n 1, 1) := by decide +kernel
theorem dX10_enterNext_35 : decode cX10_enterNext 35 = .ok (.bipush 8, 2) := by decide +kernel
theorem dX10_enterNext_37 : decode cX10_enterNext 37 = .ok (.lshr, 1) := by decide +kernel
theorem dX10_enterNext_38 : decode cX10_enterNext 38 = .ok (.l2i, 1) := by decide +kernel
theorem dX10_enterNext_39 : decode cX10_enterNext 39 = .ok (.bipush 15, 2) := by decide +kernel
theorem dX10_enterNext_41 : decode cX10_enterNext 41 = .ok (.iand, 1) := by decide +kernel
theorem dX10_enterNext_42 : decode cX10_enterNext 42 = .ok (.putfield 47, 3) := by decide +kernel
theorem dX10_enterNext_45 : decode cX10_enterNext 45 = .ok (.aload_n 0, 1) := by decide +kernel
theorem dX10_enterNext_46 : decode cX10_enterNext 46 = .ok (.lconst 0, 1) := by decide +kernel
theorem dX10_enterNext_47 : decode cX10_enterNext 47 = .ok (.putfield 22, 3) := by decide +kernel
theorem dX10_enterNext_50 : decode cX10_enterNext 50 = .ok (.aload_n 0, 1) := by decide +kernel
theorem dX10_enterNext_51 : decode cX10_enterNext 51 = .ok (.aload_n 0, 1) := by decide +kernel
theorem dX10_enterNext_52 : decode cX10_enterNext 52 = .ok (.getfield 47, 3) := by decide +kernel
theorem dX10_enterNext_55 : decode cX10_enterNext 55 = .ok (.iconst 1, 1) := by decide +kernel
theorem dX10_enterNext_56 : decode cX10_enterNext 56 = .ok (.if_icmp .ne 21, 3) := by decide +kernel
theorem dX10_enterNext_59 : decode cX10_enterNext 59 = .ok (.aload_n 0, 1) := by decide +kernel
theorem dX10_enterNext_60 : decode cX10_enterNext 60 = .ok (.getfield 9, 3) := by decide +kernel
theorem dX10_enterNext_63 : decode cX10_enterNext 63 = .ok (.getfield 50, 3) := by decide +kernel
theorem dX10_enterNext_66 : decode cX10_enterNext 66 = .ok (.lload_n 1, 1) := by decide +kernel
theorem dX10_enterNext_67 : decode cX10_enterNext 67 = .ok (.bipush 12, 2) := by decide +kernel
theorem dX10_enterNext_69 : decode cX10_enterNext 69 = .ok (.lshr, 1) := by decide +kernel
theorem dX10_enterNext_70 : decode cX10_enterNext 70 = .ok (.l2i, 1) := by decide +kernel
theorem dX10_enterNext_71 : decode cX10_enterNext 71 = .ok (.invokevirtual 54, 3) := by decide +kernel
theorem dX10_enterNext_74 : decode cX10_enterNext 74 = .ok (.goto 7, 3) := by decide +kernel
theorem dX10_enterNext_77 : decode cX10_enterNext 77 = .ok (.lload_n 1, 1) := by decide +kernel
theorem dX10_enterNext_78 : decode cX10_enterNext 78 = .ok (.bipush 12, 2) := by decide +kernel
theorem dX10_enterNext_80 : decode cX10_enterNext 80 = .ok (.lshr, 1) := by decide +kernel
theorem dX10_enterNext_81 : decode cX10_enterNext 81 = .ok (.putfield 26, 3) := by decide +kernel
theorem dX10_enterNext_84 : decode cX10_enterNext 84 = .ok (.aload_n 0, 1) := by decide +kernel
theorem dX10_enterNext_85 : decode cX10_enterNext 85 = .ok (.lload_n 1, 1) := by decide +kernel
theorem dX10_enterNext_86 : decode cX10_enterNext 86 = .ok (.iconst 4, 1) := by decide +kernel
theorem dX10_enterNext_87 : decode cX10_enterNext 87 = .ok (.lshr, 1) := by decide +kernel
theorem dX10_enterNext_88 : decode cX10_enterNext 88 = .ok (.l2i, 1) := by decide +kernel
theorem dX10_enterNext_89 : decode cX10_enterNext 89 = .ok (.bipush 15, 2) := by decide +kernel
theorem dX10_enterNext_91 : decode cX10_enterNext 91 = .ok (.iand, 1) := by decide +kernel
theorem dX10_enterNext_92 : decode cX10_enterNext 92 = .ok (.putfield 57, 3) := by decide +kernel
theorem dX10_enterNext_95 : decode cX10_enterNext 95 = .ok (.aload_n 0, 1) := by decide +kernel
theorem dX10_enterNext_96 : decode cX10_enterNext 96 = .ok (.lload_n 1, 1) := by decide +kernel
theorem dX10_enterNext_97 : decode cX10_enterNext 97 = .ok (.l2i, 1) := by decide +kernel
theorem dX10_enterNext_98 : decode cX10_enterNext 98 = .ok (.bipush 15, 2) := by decide +kernel
theorem dX10_enterNext_100 : decode cX10_enterNext 100 = .ok (.iand, 1) := by decide +kernel
theorem dX10_enterNext_101 : decode cX10_enterNext 101 = .ok (.putfield 60, 3) := by decide +kernel
theorem dX10_enterNext_104 : decode cX10_enterNext 104 = .ok (.return_, 1) := by decide +kernel
theorem dX3_isTurned_0 : decode cX3_isTurned 0 = .ok (.aload_n 0, 1) := by decide +kernel
theorem dX3_isTurned_1 : decode cX3_isTurned 1 = .ok (.iload_n 1, 1) := by decide +kernel
theorem dX3_isTurned_2 : decode cX3_isTurned 2 = .ok (.invokevirtual 70, 3) := by decide +kernel
theorem dX3_isTurned_5 : decode cX3_isTurned 5 = .ok (.ifCond .eq 16, 3) := by decide +kernel
theorem dX3_isTurned_8 : decode cX3_isTurned 8 = .ok (.aload_n 0, 1) := by decide +kernel
theorem dX3_isTurned_9 : decode cX3_isTurned 9 = .ok (.getfield 41, 3) := by decide +kernel
theorem dX3_isTurned_12 : decode cX3_isTurned 12 = .ok (.iload_n 1, 1) := by decide +kernel
theorem dX3_isTurned_13 : decode cX3_isTurned 13 = .ok (.iaload, 1) := by decide +kernel
theorem dX3_isTurned_14 : decode cX3_isTurned 14 = .ok (.aload_n 0, 1) := by decide +kernel
theorem dX3_isTurned_15 : decode cX3_isTurned 15 = .ok (.getfield 98, 3) := by decide +kernel
theorem dX3_isTurned_18 : decode cX3_isTurned 18 = .ok (.if_icmp .ne 5, 3) := by decide +kernel
theorem dX3_isTurned_21 : decode cX3_isTurned 21 = .ok (.iconst 1, 1) := by decide +kernel
theorem dX3_isTurned_22 : decode cX3_isTurned 22 = .ok (.ireturn, 1) := by decide +kernel
theorem dX3_isTurned_23 : decode cX3_isTurned 23 = .ok (.aload_n 0, 1) := by decide +kernel
theorem dX3_isTurned_24 : decode cX3_isTurned 24 = .ok (.iload_n 1, 1) := by decide +kernel
theorem dX3_isTurned_25 : decode cX3_isTurned 25 = .ok (.invokevirtual 74, 3) := by decide +kernel
theorem dX3_isTurned_28 : decode cX3_isTurned 28 = .ok (.ifCond .eq 5, 3) := by decide +kernel
theorem dX3_isTurned_31 : decode cX3_isTurned 31 = .ok (.iconst 0, 1) := by decide +kernel
theorem dX3_isTurned_32 : decode cX3_isTurned 32 = .ok (.ireturn, 1) := by decide +kernel
theorem dX3_isTurned_33 : decode cX3_isTurned 33 = .ok (.aload_n 0, 1) := by decide +kernel
theorem dX3_isTurned_34 : decode cX3_isTurned 34 = .ok (.getfield 44, 3) := by decide +kernel
theorem dX3_isTurned_37 : decode cX3_isTurned 37 = .ok (.iload_n 1, 1) := by decide +kernel
theorem dX3_isTurned_38 : decode cX3_isTurned 38 = .ok (.iload_n 1, 1) := by decide +kernel
theorem dX3_isTurned_39 : decode cX3_isTurned 39 = .ok (.iload_n 2, 1) := by decide +kernel
theorem dX3_isTurned_40 : decode cX3_isTurned 40 = .ok (.iload_n 3, 1) := by decide +kernel
theorem dX3_isTurned_41 : decode cX3_isTurned 41 = .ok (.invokestatic 105, 3) := by decide +kernel
theorem dX3_isTurned_44 : decode cX3_isTurned 44 = .ok (.iastore, 1) := by decide +kernel
theorem dX3_isTurned_45 : decode cX3_isTurned 45 = .ok (.aload_n 0, 1) := by decide +kernel
theorem dX3_isTurned_46 : decode cX3_isTurned 46 = .ok (.getfield 41, 3) := by decide +kernel
theorem dX3_isTurned_49 : decode cX3_isTurned 49 = .ok (.iload_n 1, 1) := by decide +kernel
theorem dX3_isTurned_50 : decode cX3_isTurned 50 = .ok (.aload_n 0, 1) := by decide +kernel
theorem dX3_isTurned_51 : decode cX3_isTurned 51 = .ok (.getfield 98, 3) := by decide +kernel
theorem dX3_isTurned_54 : decode cX3_isTurned 54 = .ok (.iastore, 1) := by decide +kernel
theorem dX3_isTurned_55 : decode cX3_isTurned 55 = .ok (.iconst 1, 1) := by decide +kernel
theorem dX3_isTurned_56 : decode cX3_isTurned 56 = .ok (.ireturn, 1) := by decide +kernel
theorem dX3_makeRoom_0 : decode cX3_makeRoom 0 = .ok (.aload_n 0, 1) := by decide +kernel
theorem dX3_makeRoom_1 : decode cX3_makeRoom 1 = .ok (.getfield 25, 3) := by decide +kernel
theorem dX3_makeRoom_4 : decode cX3_makeRoom 4 = .ok (.arraylength, 1) := by decide +kernel
theorem dX3_makeRoom_5 : decode cX3_makeRoom 5 = .ok (.istore_n 1, 1) := by decide +kernel
theorem dX3_makeRoom_6 : decode cX3_makeRoom 6 = .ok (.aload_n 0, 1) := by decide +kernel
theorem dX3_makeRoom_7 : decode cX3_makeRoom 7 = .ok (.getfield 55, 3) := by decide +kernel
theorem dX3_makeRoom_10 : decode cX3_makeRoom 10 = .ok (.sipush 512, 3) := by decide +kernel
theorem dX3_makeRoom_13 : decode cX3_makeRoom 13 = .ok (.iadd, 1) := by decide +kernel
theorem dX3_makeRoom_14 : decode cX3_makeRoom 14 = .ok (.iload_n 1, 1) := by decide +kernel
theorem dX3_makeRoom_15 : decode cX3_makeRoom 15 = .ok (.if_icmp .le 9, 3) := by decide +kernel
theorem dX3_makeRoom_18 : decode cX3_makeRoom 18 = .ok (.iload_n 1, 1) := by decide +kernel
theorem dX3_makeRoom_19 : decode cX3_makeRoom 19 = .ok (.ldc 113, 2) := by decide +kernel
theorem dX3_makeRoom_21 : decode cX3_makeRoom 21 = .ok (.if_icmp .lt 4, 3) := by decide +kernel
theorem dX3_makeRoom_24 : decode cX3_makeRoom 24 = .ok (.return_, 1) := by decide +kernel
theorem dX3_makeRoom_25 : decode cX3_makeRoom 25 = .ok (.aload_n 0, 1) := by decide +kernel
theorem dX3_makeRoom_26 : decode cX3_makeRoom 26 = .ok (.aload_n 0, 1) := by decide +kernel
theorem dX3_makeRoom_27 : decode cX3_makeRoom 27 = .ok (.getfield 25, 3) := by decide +kernel
theorem dX3_makeRoom_30 : decode cX3_makeRoom 30 = .ok (.iconst 2, 1) := by decide +kernel
theorem dX3_makeRoom_31 : decode cX3_makeRoom 31 = .ok (.iload_n 1, 1) := by decide +kernel
theorem dX3_makeRoom_32 : decode cX3_makeRoom 32 = .ok (.imul, 1) := by decide +kernel
theorem dX3_makeRoom_33 : decode cX3_makeRoom 33 = .ok (.invokestatic 114, 3) := by decide +kernel
theorem dX3_makeRoom_36 : decode cX3_makeRoom 36 = .ok (.putfield 25, 3) := by decide +kernel
theorem dX3_makeRoom_39 : decode cX3_makeRoom 39 = .ok (.aload_n 0, 1) := by decide +kernel
theorem dX3_makeRoom_40 : decode cX3_makeRoom 40 = .ok (.aload_n 0, 1) := by decide +kernel
theorem dX3_makeRoom_41 : decode cX3_makeRoom 41 = .ok (.getfield 28, 3) := by decide +kernel
theorem dX3_makeRoom_44 : decode cX3_makeRoom 44 = .ok (.iconst 2, 1) := by decide +kernel
theorem dX3_makeRoom_45 : decode cX3_makeRoom 45 = .ok (.iload_n 1, 1) := by decide +kernel
theorem dX3_makeRoom_46 : decode cX3_makeRoom 46 = .ok (.imul, 1) := by decide +kernel
theorem dX3_makeRoom_47 : decode cX3_makeRoom 47 = .ok (.invokestatic 114, 3) := by decide +kernel
theorem dX3_makeRoom_50 : decode cX3_makeRoom 50 = .ok (.putfield 28, 3) := by decide +kernel
theorem dX3_makeRoom_53 : decode cX3_makeRoom 53 = .ok (.aload_n 0, 1) := by decide +kernel
theorem dX3_makeRoom_54 : decode cX3_makeRoom 54 = .ok (.aload_n 0, 1) := by decide +kernel
theorem dX3_makeRoom_55 : decode cX3_makeRoom 55 = .ok (.getfield 31, 3) := by decide +kernel
theorem dX3_makeRoom_58 : decode cX3_makeRoom 58 = .ok (.iconst 2, 1) := by decide +kernel
theorem dX3_makeRoom_59 : decode cX3_makeRoom 59 = .ok (.iload_n 1, 1) := by decide +kernel
theorem dX3_makeRoom_60 : decode cX3_makeRoom 60 = .ok (.imul, 1) := by decide +kernel
theorem dX3_makeRoom_61 : decode cX3_makeRoom 61 = .ok (.invokestatic 120, 3) := by decide +kernel
theorem dX3_makeRoom_64 : decode cX3_makeRoom 64 = .ok (.putfield 31, 3) := by decide +kernel
theorem dX3_makeRoom_67 : decode cX3_makeRoom 67 = .ok (.aload_n 0, 1) := by decide +kernel
theorem dX3_makeRoom_68 : decode cX3_makeRoom 68 = .ok (.aload_n 0, 1) := by decide +kernel
theorem dX3_makeRoom_69 : decode cX3_makeRoom 69 = .ok (.getfield 35, 3) := by decide +kernel
theorem dX3_makeRoom_72 : decode cX3_makeRoom 72 = .ok (.iconst 2, 1) := by decide +kernel
theorem dX3_makeRoom_73 : decode cX3_makeRoom 73 = .ok (.iload_n 1, 1) := by decide +kernel
theorem dX3_makeRoom_74 : decode cX3_makeRoom 74 = .ok (.imul, 1) := by decide +kernel
theorem dX3_makeRoom_75 : decode cX3_makeRoom 75 = .ok (.invokestatic 114, 3) := by decide +kernel
theorem dX3_makeRoom_78 : decode cX3_makeRoom 78 = .ok (.putfield 35, 3) := by decide +kernel
theorem dX3_makeRoom_81 : decode cX3_makeRoom 81 = .ok (.aload_n 0, 1) := by decide +kernel
theorem dX3_makeRoom_82 : decode cX3_makeRoom 82 = .ok (.aload_n 0, 1) := by decide +kernel
theorem dX3_makeRoom_83 : decode cX3_makeRoom 83 = .ok (.getfield 38, 3) := by decide +kernel
theorem dX3_makeRoom_86 : decode cX3_makeRoom 86 = .ok (.iconst 2, 1) := by decide +kernel
theorem dX3_makeRoom_87 : decode cX3_makeRoom 87 = .ok (.iload_n 1, 1) := by decide +kernel
theorem dX3_makeRoom_88 : decode cX3_makeRoom 88 = .ok (.imul, 1) := by decide +kernel
theorem dX3_makeRoom_89 : decode cX3_makeRoom 89 = .ok (.invokestatic 114, 3) := by decide +kernel
theorem dX3_makeRoom_92 : decode cX3_makeRoom 92 = .ok (.putfield 38, 3) := by decide +kernel
theorem dX3_makeRoom_95 : decode cX3_makeRoom 95 = .ok (.aload_n 0, 1) := by decide +kernel
theorem dX3_makeRoom_96 : decode cX3_makeRoom 96 = .ok (.aload_n 0, 1) := by decide +kernel
theorem dX3_makeRoom_97 : decode cX3_makeRoom 97 = .ok (.getfield 41, 3) := by decide +kernel
theorem dX3_makeRoom_100 : decode cX3_makeRoom 100 = .ok (.iconst 2, 1) := by decide +kernel
theorem dX3_makeRoom_101 : decode cX3_makeRoom 101 = .ok (.iload_n 1, 1) := by decide +kernel
theorem dX3_makeRoom_102 : decode cX3_makeRoom 102 = .ok (.imul, 1) := by decide +kernel
theorem dX3_makeRoom_103 : decode cX3_makeRoom 103 = .ok (.invokestatic 114, 3) := by decide +kernel
theorem dX3_makeRoom_106 : decode cX3_makeRoom 106 = .ok (.putfield 41, 3) := by decide +kernel
theorem dX3_makeRoom_109 : decode cX3_makeRoom 109 = .ok (.aload_n 0, 1) := by decide +kernel
theorem dX3_makeRoom_110 : decode cX3_makeRoom 110 = .ok (.aload_n 0, 1) := by decide +kernel
theorem dX3_makeRoom_111 : decode cX3_makeRoom 111 = .ok (.getfield 44, 3) := by decide +kernel
theorem dX3_makeRoom_114 : decode cX3_makeRoom 114 = .ok (.iconst 2, 1) := by decide +kernel
theorem dX3_makeRoom_115 : decode cX3_makeRoom 115 = .ok (.iload_n 1, 1) := by decide +kernel
theorem dX3_makeRoom_116 : decode cX3_makeRoom 116 = .ok (.imul, 1) := by decide +kernel
theorem dX3_makeRoom_117 : decode cX3_makeRoom 117 = .ok (.invokestatic 114, 3) := by decide +kernel
theorem dX3_makeRoom_120 : decode cX3_makeRoom 120 = .ok (.putfield 44, 3) := by decide +kernel
theorem dX3_makeRoom_123 : decode cX3_makeRoom 123 = .ok (.aload_n 0, 1) := by decide +kernel
theorem dX3_makeRoom_124 : decode cX3_makeRoom 124 = .ok (.iconst 4, 1) := by decide +kernel
theorem dX3_makeRoom_125 : decode cX3_makeRoom 125 = .ok (.iload_n 1, 1) := by decide +kernel
theorem dX3_makeRoom_126 : decode cX3_makeRoom 126 = .ok (.imul, 1) := by decide +kernel
theorem dX3_makeRoom_127 : decode cX3_makeRoom 127 = .ok (.newarray .int, 2) := by decide +kernel
theorem dX3_makeRoom_129 : decode cX3_makeRoom 129 = .ok (.putfield 47, 3) := by decide +kernel
theorem dX3_makeRoom_132 : decode cX3_makeRoom 132 = .ok (.aload_n 0, 1) := by decide +kernel
theorem dX3_makeRoom_133 : decode cX3_makeRoom 133 = .ok (.invokevirtual 123, 3) := by decide +kernel
theorem dX3_makeRoom_136 : decode cX3_makeRoom 136 = .ok (.return_, 1) := by decide +kernel
theorem dX3_branch_0 : decode cX3_branch 0 = .ok (.iload_n 1, 1) := by decide +kernel
theorem dX3_branch_1 : decode cX3_branch 1 = .ok (.ifCond .lt 35, 3) := by decide +kernel
theorem dX3_branch_4 : decode cX3_branch 4 = .ok (.iload_n 2, 1) := by decide +kernel
theorem dX3_branch_5 : decode cX3_branch 5 = .ok (.ifCond .lt 31, 3) := by decide +kernel
theorem dX3_branch_8 : decode cX3_branch 8 = .ok (.iload_n 1, 1) := by decide +kernel
theorem dX3_branch_9 : decode cX3_branch 9 = .ok (.aload_n 0, 1) := by decide +kernel
theorem dX3_branch_10 : decode cX3_branch 10 = .ok (.getfield 55, 3) := by decide +kernel
theorem dX3_branch_13 : decode cX3_branch 13 = .ok (.if_icmp .ge 23, 3) := by decide +kernel
theorem dX3_branch_16 : decode cX3_branch 16 = .ok (.iload_n 2, 1) := by decide +kernel
theorem dX3_branch_17 : decode cX3_branch 17 = .ok (.aload_n 0, 1) := by decide +kernel
theorem dX3_branch_18 : decode cX3_branch 18 = .ok (.getfield 55, 3) := by decide +kernel
theorem dX3_branch_21 : decode cX3_branch 21 = .ok (.if_icmp .ge 15, 3) := by decide +kernel
theorem dX3_branch_24 : decode cX3_branch 24 = .ok (.aload_n 0, 1) := by decide +kernel
theorem dX3_branch_25 : decode cX3_branch 25 = .ok (.getfield 55, 3) := by decide +kernel
theorem dX3_branch_28 : decode cX3_branch 28 = .ok (.aload_n 0, 1) := by decide +kernel
theorem dX3_branch_29 : decode cX3_branch 29 = .ok (.getfield 25, 3) := by decide +kernel
theorem dX3_branch_32 : decode cX3_branch 32 = .ok (.arraylength, 1) := by decide +kernel
theorem dX3_branch_33 : decode cX3_branch 33 = .ok (.if_icmp .lt 5, 3) := by decide +kernel
theorem dX3_branch_36 : decode cX3_branch 36 = .ok (.iload_n 1, 1) := by decide +kernel
theorem dX3_branch_37 : decode cX3_branch 37 = .ok (.ireturn, 1) := by decide +kernel
theorem dX3_branch_38 : decode cX3_branch 38 = .ok (.aload_n 0, 1) := by decide +kernel
theorem dX3_branch_39 : decode cX3_branch 39 = .ok (.getfield 47, 3) := by decide +kernel
theorem dX3_branch_42 : decode cX3_branch 42 = .ok (.arraylength, 1) := by decide +kernel
theorem dX3_branch_43 : decode cX3_branch 43 = .ok (.iconst 1, 1) := by decide +kernel
theorem dX3_branch_44 : decode cX3_branch 44 = .ok (.isub, 1) := by decide +kernel
theorem dX3_branch_45 : decode cX3_branch 45 = .ok (.istore_n 3, 1) := by decide +kernel
theorem dX3_branch_46 : decode cX3_branch 46 = .ok (.iload_n 1, 1) := by decide +kernel
theorem dX3_branch_47 : decode cX3_branch 47 = .ok (.ldc 93, 2) := by decide +kernel
theorem dX3_branch_49 : decode cX3_branch 49 = .ok (.imul, 1) := by decide +kernel
theorem dX3_branch_50 : decode cX3_branch 50 = .ok (.iload_n 2, 1) := by decide +kernel
theorem dX3_branch_51 : decode cX3_branch 51 = .ok (.ldc 94, 2) := by decide +kernel
theorem dX3_branch_53 : decode cX3_branch 53 = .ok (.imul, 1) := by decide +kernel
theorem dX3_branch_54 : decode cX3_branch 54 = .ok (.iadd, 1) := by decide +kernel
theorem dX3_branch_55 : decode cX3_branch 55 = .ok (.bipush 8, 2) := by decide +kernel
theorem dX3_branch_57 : decode cX3_branch 57 = .ok (.iushr, 1) := by decide +kernel
theorem dX3_branch_58 : decode cX3_branch 58 = .ok (.iload_n 3, 1) := by decide +kernel
theorem dX3_branch_59 : decode cX3_branch 59 = .ok (.iand, 1) := by decide +kernel
theorem dX3_branch_60 : decode cX3_branch 60 = .ok (.istore 4, 2) := by decide +kernel
theorem dX3_branch_62 : decode cX3_branch 62 = .ok (.iconst 0, 1) := by decide +kernel
theorem dX3_branch_63 : decode cX3_branch 63 = .ok (.istore 5, 2) := by decide +kernel
theorem dX3_branch_65 : decode cX3_branch 65 = .ok (.iload 5, 2) := by decide +kernel
theorem dX3_branch_67 : decode cX3_branch 67 = .ok (.iload_n 3, 1) := by decide +kernel
theorem dX3_branch_68 : decode cX3_branch 68 = .ok (.if_icmp .ge 61, 3) := by decide +kernel
theorem dX3_branch_71 : decode cX3_branch 71 = .ok (.aload_n 0, 1) := by decide +kernel
theorem dX3_branch_72 : decode cX3_branch 72 = .ok (.getfield 47, 3) := by decide +kernel
theorem dX3_branch_75 : decode cX3_branch 75 = .ok (.iload 4, 2) := by decide +kernel
theorem dX3_branch_77 : decode cX3_branch 77 = .ok (.iaload, 1) := by decide +kernel
theorem dX3_branch_78 : decode cX3_branch 78 = .ok (.ifCond .eq 51, 3) := by decide +kernel
theorem dX3_branch_81 : decode cX3_branch 81 = .ok (.aload_n 0, 1) := by decide +kernel
theorem dX3_branch_82 : decode cX3_branch 82 = .ok (.getfield 47, 3) := by decide +kernel
theorem dX3_branch_85 : decode cX3_branch 85 = .ok (.iload 4, 2) := by decide +kernel
theorem dX3_branch_87 : decode cX3_branch 87 = .ok (.iaload, 1) := by decide +kernel
theorem dX3_branch_88 : decode cX3_branch 88 = .ok (.istore 6, 2) := by decide +kernel
theorem dX3_branch_90 : decode cX3_branch 90 = .ok (.aload_n 0, 1) := by decide +kernel
theorem dX3_branch_91 : decode cX3_branch 91 = .ok (.getfield 25, 3) := by decide +kernel
theorem dX3_branch_94 : decode cX3_branch 94 = .ok (.iload 6, 2) := by decide +kernel
theorem dX3_branch_96 : decode cX3_branch 96 = .ok (.iaload, 1) := by decide +kernel
theorem dX3_branch_97 : decode cX3_branch 97 = .ok (.iload_n 1, 1) := by decide +kernel
theorem dX3_branch_98 : decode cX3_branch 98 = .ok (.if_icmp .ne 17, 3) := by decide +kernel
theorem dX3_branch_101 : decode cX3_branch 101 = .ok (.aload_n 0, 1) := by decide +kernel
theorem dX3_branch_102 : decode cX3_branch 102 = .ok (.getfield 28, 3) := by decide +kernel
theorem dX3_branch_105 : decode cX3_branch 105 = .ok (.iload 6, 2) := by decide +kernel
theorem dX3_branch_107 : decode cX3_branch 107 = .ok (.iaload, 1) := by decide +kernel
theorem dX3_branch_108 : decode cX3_branch 108 = .ok (.iload_n 2, 1) := by decide +kernel
theorem dX3_branch_109 : decode cX3_branch 109 = .ok (.if_icmp .ne 6, 3) := by decide +kernel
theorem dX3_branch_112 : decode cX3_branch 112 = .ok (.iload 6, 2) := by decide +kernel
theorem dX3_branch_114 : decode cX3_branch 114 = .ok (.ireturn, 1) := by decide +kernel
theorem dX3_branch_115 : decode cX3_branch 115 = .ok (.iload 4, 2) := by decide +kernel
theorem dX3_branch_117 : decode cX3_branch 117 = .ok (.iconst 1, 1) := by decide +kernel
theorem dX3_branch_118 : decode cX3_branch 118 = .ok (.iadd, 1) := by decide +kernel
theorem dX3_branch_119 : decode cX3_branch 119 = .ok (.iload_n 3, 1) := by decide +kernel
theorem dX3_branch_120 : decode cX3_branch 120 = .ok (.iand, 1) := by decide +kernel
theorem dX3_branch_121 : decode cX3_branch 121 = .ok (.istore 4, 2) := by decide +kernel
theorem dX3_branch_123 : decode cX3_branch 123 = .ok (.iinc 5 1, 3) := by decide +kernel
theorem dX3_branch_126 : decode cX3_branch 126 = .ok (.goto (-61), 3) := by decide +kernel
theorem dX3_branch_129 : decode cX3_branch 129 = .ok (.aload_n 0, 1) := by decide +kernel
theorem dX3_branch_130 : decode cX3_branch 130 = .ok (.getfield 47, 3) := by decide +kernel
theorem dX3_branch_133 : decode cX3_branch 133 = .ok (.iload 4, 2) := by decide +kernel
theorem dX3_branch_135 : decode cX3_branch 135 = .ok (.aload_n 0, 1) := by decide +kernel
theorem dX3_branch_136 : decode cX3_branch 136 = .ok (.getfield 55, 3) := by decide +kernel
theorem dX3_branch_139 : decode cX3_branch 139 = .ok (.iastore, 1) := by decide +kernel
theorem dX3_branch_140 : decode cX3_branch 140 = .ok (.aload_n 0, 1) := by decide +kernel
theorem dX3_branch_141 : decode cX3_branch 141 = .ok (.getfield 25, 3) := by decide +kernel
theorem dX3_branch_144 : decode cX3_branch 144 = .ok (.aload_n 0, 1) := by decide +kernel
theorem dX3_branch_145 : decode cX3_branch 145 = .ok (.getfield 55, 3) := by decide +kernel
theorem dX3_branch_148 : decode cX3_branch 148 = .ok (.iload_n 1, 1) := by decide +kernel
theorem dX3_branch_149 : decode cX3_branch 149 = .ok (.iastore, 1) := by decide +kernel
theorem dX3_branch_150 : decode cX3_branch 150 = .ok (.aload_n 0, 1) := by decide +kernel
theorem dX3_branch_151 : decode cX3_branch 151 = .ok (.getfield 28, 3) := by decide +kernel
theorem dX3_branch_154 : decode cX3_branch 154 = .ok (.aload_n 0, 1) := by decide +kernel
theorem dX3_branch_155 : decode cX3_branch 155 = .ok (.getfield 55, 3) := by decide +kernel
theorem dX3_branch_158 : decode cX3_branch 158 = .ok (.iload_n 2, 1) := by decide +kernel
theorem dX3_branch_159 : decode cX3_branch 159 = .ok (.iastore, 1) := by decide +kernel
theorem dX3_branch_160 : decode cX3_branch 160 = .ok (.aload_n 0, 1) := by decide +kernel
theorem dX3_branch_161 : decode cX3_branch 161 = .ok (.getfield 31, 3) := by decide +kernel
theorem dX3_branch_164 : decode cX3_branch 164 = .ok (.aload_n 0, 1) := by decide +kernel
theorem dX3_branch_165 : decode cX3_branch 165 = .ok (.getfield 55, 3) := by decide +kernel
theorem dX3_branch_168 : decode cX3_branch 168 = .ok (.aload_n 0, 1) := by decide +kernel
theorem dX3_branch_169 : decode cX3_branch 169 = .ok (.getfield 31, 3) := by decide +kernel
theorem dX3_branch_172 : decode cX3_branch 172 = .ok (.iload_n 1, 1) := by decide +kernel
theorem dX3_branch_173 : decode cX3_branch 173 = .ok (.laload, 1) := by decide +kernel
theorem dX3_branch_174 : decode cX3_branch 174 = .ok (.aload_n 0, 1) := by decide +kernel
theorem dX3_branch_175 : decode cX3_branch 175 = .ok (.getfield 31, 3) := by decide +kernel
theorem dX3_branch_178 : decode cX3_branch 178 = .ok (.iload_n 2, 1) := by decide +kernel
theorem dX3_branch_179 : decode cX3_branch 179 = .ok (.laload, 1) := by decide +kernel
theorem dX3_branch_180 : decode cX3_branch 180 = .ok (.ladd, 1) := by decide +kernel
theorem dX3_branch_181 : decode cX3_branch 181 = .ok (.lastore, 1) := by decide +kernel
theorem dX3_branch_182 : decode cX3_branch 182 = .ok (.aload_n 0, 1) := by decide +kernel
theorem dX3_branch_183 : decode cX3_branch 183 = .ok (.getfield 35, 3) := by decide +kernel
theorem dX3_branch_186 : decode cX3_branch 186 = .ok (.aload_n 0, 1) := by decide +kernel
theorem dX3_branch_187 : decode cX3_branch 187 = .ok (.getfield 55, 3) := by decide +kernel
theorem dX3_branch_190 : decode cX3_branch 190 = .ok (.iconst 1, 1) := by decide +kernel
theorem dX3_branch_191 : decode cX3_branch 191 = .ok (.aload_n 0, 1) := by decide +kernel
theorem dX3_branch_192 : decode cX3_branch 192 = .ok (.getfield 35, 3) := by decide +kernel
theorem dX3_branch_195 : decode cX3_branch 195 = .ok (.iload_n 1, 1) := by decide +kernel
theorem dX3_branch_196 : decode cX3_branch 196 = .ok (.iaload, 1) := by decide +kernel
theorem dX3_branch_197 : decode cX3_branch 197 = .ok (.aload_n 0, 1) := by decide +kernel
theorem dX3_branch_198 : decode cX3_branch 198 = .ok (.getfield 35, 3) := by decide +kernel
theorem dX3_branch_201 : decode cX3_branch 201 = .ok (.iload_n 2, 1) := by decide +kernel
theorem dX3_branch_202 : decode cX3_branch 202 = .ok (.iaload, 1) := by decide +kernel
theorem dX3_branch_203 : decode cX3_branch 203 = .ok (.if_icmp .le 12, 3) := by decide +kernel
theorem dX3_branch_206 : decode cX3_branch 206 = .ok (.aload_n 0, 1) := by decide +kernel
theorem dX3_branch_207 : decode cX3_branch 207 = .ok (.getfield 35, 3) := by decide +kernel
theorem dX3_branch_210 : decode cX3_branch 210 = .ok (.iload_n 1, 1) := by decide +kernel
theorem dX3_branch_211 : decode cX3_branch 211 = .ok (.iaload, 1) := by decide +kernel
theorem dX3_branch_212 : decode cX3_branch 212 = .ok (.goto 9, 3) := by decide +kernel
theorem dX3_branch_215 : decode cX3_branch 215 = .ok (.aload_n 0, 1) := by decide +kernel
theorem dX3_branch_216 : decode cX3_branch 216 = .ok (.getfield 35, 3) := by decide +kernel
theorem dX3_branch_219 : decode cX3_branch 219 = .ok (.iload_n 2, 1) := by decide +kernel
theorem dX3_branch_220 : decode cX3_branch 220 = .ok (.iaload, 1) := by decide +kernel
theorem dX3_branch_221 : decode cX3_branch 221 = .ok (.iadd, 1) := by decide +kernel
theorem dX3_branch_222 : decode cX3_branch 222 = .ok (.iastore, 1) := by decide +kernel
theorem dX3_branch_223 : decode cX3_branch 223 = .ok (.aload_n 0, 1) := by decide +kernel
theorem dX3_branch_224 : decode cX3_branch 224 = .ok (.getfield 38, 3) := by decide +kernel
theorem dX3_branch_227 : decode cX3_branch 227 = .ok (.aload_n 0, 1) := by decide +kernel
theorem dX3_branch_228 : decode cX3_branch 228 = .ok (.getfield 55, 3) := by decide +kernel
theorem dX3_branch_231 : decode cX3_branch 231 = .ok (.aload_n 0, 1) := by decide +kernel
theorem dX3_branch_232 : decode cX3_branch 232 = .ok (.getfield 38, 3) := by decide +kernel
theorem dX3_branch_235 : decode cX3_branch 235 = .ok (.iload_n 1, 1) := by decide +kernel
theorem dX3_branch_236 : decode cX3_branch 236 = .ok (.iaload, 1) := by decide +kernel
theorem dX3_branch_237 : decode cX3_branch 237 = .ok (.aload_n 0, 1) := by decide +kernel
theorem dX3_branch_238 : decode cX3_branch 238 = .ok (.getfield 38, 3) := by decide +kernel
theorem dX3_branch_241 : decode cX3_branch 241 = .ok (.iload_n 2, 1) := by decide +kernel
theorem dX3_branch_242 : decode cX3_branch 242 = .ok (.iaload, 1) := by decide +kernel
theorem dX3_branch_243 : decode cX3_branch 243 = .ok (.if_icmp .ne 12, 3) := by decide +kernel
theorem dX3_branch_246 : decode cX3_branch 246 = .ok (.aload_n 0, 1) := by decide +kernel
theorem dX3_branch_247 : decode cX3_branch 247 = .ok (.getfield 38, 3) := by decide +kernel
theorem dX3_branch_250 : decode cX3_branch 250 = .ok (.iload_n 1, 1) := by decide +kernel
theorem dX3_branch_251 : decode cX3_branch 251 = .ok (.iaload, 1) := by decide +kernel
theorem dX3_branch_252 : decode cX3_branch 252 = .ok (.goto 5, 3) := by decide +kernel
theorem dX3_branch_255 : decode cX3_branch 255 = .ok (.bipush 16, 2) := by decide +kernel
theorem dX3_branch_257 : decode cX3_branch 257 = .ok (.iastore, 1) := by decide +kernel
theorem dX3_branch_258 : decode cX3_branch 258 = .ok (.aload_n 0, 1) := by decide +kernel
theorem dX3_branch_259 : decode cX3_branch 259 = .ok (.dup, 1) := by decide +kernel
theorem dX3_branch_260 : decode cX3_branch 260 = .ok (.getfield 55, 3) := by decide +kernel
theorem dX3_branch_263 : decode cX3_branch 263 = .ok (.dup_x1, 1) := by decide +kernel
theorem dX3_branch_264 : decode cX3_branch 264 = .ok (.iconst 1, 1) := by decide +kernel
theorem dX3_branch_265 : decode cX3_branch 265 = .ok (.iadd, 1) := by decide +kernel
theorem dX3_branch_266 : decode cX3_branch 266 = .ok (.putfield 55, 3) := by decide +kernel
theorem dX3_branch_269 : decode cX3_branch 269 = .ok (.ireturn, 1) := by decide +kernel
theorem dJx4a65c_grow_92f84_0 : decode cJx4a65c_grow_92f84 0 = .ok (.aload_n 0, 1) := by decide +kernel
theorem dJx4a65c_grow_92f84_1 : decode cJx4a65c_grow_92f84 1 = .ok (.getfield 9, 3) := by decide +kernel
theorem dJx4a65c_grow_92f84_4 : decode cJx4a65c_grow_92f84 4 = .ok (.arraylength, 1) := by decide +kernel
theorem dJx4a65c_grow_92f84_5 : decode cJx4a65c_grow_92f84 5 = .ok (.istore_n 2, 1) := by decide +kernel
theorem dJx4a65c_grow_92f84_6 : decode cJx4a65c_grow_92f84 6 = .ok (.iload_n 2, 1) := by decide +kernel
theorem dJx4a65c_grow_92f84_7 : decode cJx4a65c_grow_92f84 7 = .ok (.ifCond .gt 13, 3) := by decide +kernel
theorem dJx4a65c_grow_92f84_10 : decode cJx4a65c_grow_92f84 10 = .ok (.aload_n 0, 1) := by decide +kernel
theorem dJx4a65c_grow_92f84_11 : decode cJx4a65c_grow_92f84 11 = .ok (.getfield 9, 3) := by decide +kernel
theorem dJx4a65c_grow_92f84_14 : decode cJx4a65c_grow_92f84 14 = .ok (.getstatic 39, 3) := by decide +kernel
theorem dJx4a65c_grow_92f84_17 : decode cJx4a65c_grow_92f84 17 = .ok (.if_acmp .eq 28, 3) := by decide +kernel
theorem dJx4a65c_grow_92f84_20 : decode cJx4a65c_grow_92f84 20 = .ok (.iload_n 2, 1) := by decide +kernel
theorem dJx4a65c_grow_92f84_21 : decode cJx4a65c_grow_92f84 21 = .ok (.iload_n 1, 1) := by decide +kernel
theorem dJx4a65c_grow_92f84_22 : decode cJx4a65c_grow_92f84 22 = .ok (.iload_n 2, 1) := by decide +kernel
theorem dJx4a65c_grow_92f84_23 : decode cJx4a65c_grow_92f84 23 = .ok (.isub, 1) := by decide +kernel
theorem dJx4a65c_grow_92f84_24 : decode cJx4a65c_grow_92f84 24 = .ok (.iload_n 2, 1) := by decide +kernel
theorem dJx4a65c_grow_92f84_25 : decode cJx4a65c_grow_92f84 25 = .ok (.iconst 1, 1) := by decide +kernel
theorem dJx4a65c_grow_92f84_26 : decode cJx4a65c_grow_92f84 26 = .ok (.ishr, 1) := by decide +kernel
theorem dJx4a65c_grow_92f84_27 : decode cJx4a65c_grow_92f84 27 = .ok (.invokestatic 73, 3) := by decide +kernel
theorem dJx4a65c_grow_92f84_30 : decode cJx4a65c_grow_92f84 30 = .ok (.istore_n 3, 1) := by decide +kernel
theorem dJx4a65c_grow_92f84_31 : decode cJx4a65c_grow_92f84 31 = .ok (.aload_n 0, 1) := by decide +kernel
theorem dJx4a65c_grow_92f84_32 : decode cJx4a65c_grow_92f84 32 = .ok (.aload_n 0, 1) := by decide +kernel
theorem dJx4a65c_grow_92f84_33 : decode cJx4a65c_grow_92f84 33 = .ok (.getfield 9, 3) := by decide +kernel
theorem dJx4a65c_grow_92f84_36 : decode cJx4a65c_grow_92f84 36 = .ok (.iload_n 3, 1) := by decide +kernel
theorem dJx4a65c_grow_92f84_37 : decode cJx4a65c_grow_92f84 37 = .ok (.invokestatic 66, 3) := by decide +kernel
theorem dJx4a65c_grow_92f84_40 : decode cJx4a65c_grow_92f84 40 = .ok (.dup_x1, 1) := by decide +kernel
theorem dJx4a65c_grow_92f84_41 : decode cJx4a65c_grow_92f84 41 = .ok (.putfield 9, 3) := by decide +kernel
theorem dJx4a65c_grow_92f84_44 : decode cJx4a65c_grow_92f84 44 = .ok (.areturn, 1) := by decide +kernel
theorem dJx4a65c_grow_92f84_45 : decode cJx4a65c_grow_92f84 45 = .ok (.aload_n 0, 1) := by decide +kernel
theorem dJx4a65c_grow_92f84_46 : decode cJx4a65c_grow_92f84 46 = .ok (.bipush 10, 2) := by decide +kernel
theorem dJx4a65c_grow_92f84_48 : decode cJx4a65c_grow_92f84 48 = .ok (.iload_n 1, 1) := by decide +kernel
theorem dJx4a65c_grow_92f84_49 : decode cJx4a65c_grow_92f84 49 = .ok (.invokestatic 79, 3) := by decide +kernel
theorem dJx4a65c_grow_92f84_52 : decode cJx4a65c_grow_92f84 52 = .ok (.anewarray 7, 3) := by decide +kernel
theorem dJx4a65c_grow_92f84_55 : decode cJx4a65c_grow_92f84 55 = .ok (.dup_x1, 1) := by decide +kernel
theorem dJx4a65c_grow_92f84_56 : decode cJx4a65c_grow_92f84 56 = .ok (.putfield 9, 3) := by decide +kernel
theorem dJx4a65c_grow_92f84_59 : decode cJx4a65c_grow_92f84 59 = .ok (.areturn, 1) := by decide +kernel
theorem dX12_count_0 : decode cX12_count 0 = .ok (.iconst 0, 1) := by decide +kernel
theorem dX12_count_1 : decode cX12_count 1 = .ok (.istore_n 3, 1) := by decide +kernel
theorem dX12_count_2 : decode cX12_count 2 = .ok (.iconst 0, 1) := by decide +kernel
theorem dX12_count_3 : decode cX12_count 3 = .ok (.istore 4, 2) := by decide +kernel
theorem dX12_count_5 : decode cX12_count 5 = .ok (.iload 4, 2) := by decide +kernel
theorem dX12_count_7 : decode cX12_count 7 = .ok (.iload_n 1, 1) := by decide +kernel
theorem dX12_count_8 : decode cX12_count 8 = .ok (.if_icmp .ge 28, 3) := by decide +kernel
theorem dX12_count_11 : decode cX12_count 11 = .ok (.iload_n 3, 1) := by decide +kernel
theorem dX12_count_12 : decode cX12_count 12 = .ok (.aload_n 0, 1) := by decide +kernel
theorem dX12_count_13 : decode cX12_count 13 = .ok (.iload 4, 2) := by decide +kernel
theorem dX12_count_15 : decode cX12_count 15 = .ok (.iaload, 1) := by decide +kernel
theorem dX12_count_16 : decode cX12_count 16 = .ok (.invokestatic 104, 3) := by decide +kernel
theorem dX12_count_19 : decode cX12_count 19 = .ok (.iload_n 2, 1) := by decide +kernel
theorem dX12_count_20 : decode cX12_count 20 = .ok (.if_icmp .ne 7, 3) := by decide +kernel
theorem dX12_count_23 : decode cX12_count 23 = .ok (.iconst 1, 1) := by decide +kernel
theorem dX12_count_24 : decode cX12_count 24 = .ok (.goto 4, 3) := by decide +kernel
theorem dX12_count_27 : decode cX12_count 27 = .ok (.iconst 0, 1) := by decide +kernel
theorem dX12_count_28 : decode cX12_count 28 = .ok (.iadd, 1) := by decide +kernel
theorem dX12_count_29 : decode cX12_count 29 = .ok (.istore_n 3, 1) := by decide +kernel
theorem dX12_count_30 : decode cX12_count 30 = .ok (.iinc 4 1, 3) := by decide +kernel
theorem dX12_count_33 : decode cX12_count 33 = .ok (.goto (-28), 3) := by decide +kernel
theorem dX12_count_36 : decode cX12_count 36 = .ok (.iload_n 3, 1) := by decide +kernel
theorem dX12_count_37 : decode cX12_count 37 = .ok (.ireturn, 1) := by decide +kernel
theorem dJ7_copyOf_c38d5_0 : decode cJ7_copyOf_c38d5 0 = .ok (.iload_n 1, 1) := by decide +kernel
theorem dJ7_copyOf_c38d5_1 : decode cJ7_copyOf_c38d5 1 = .ok (.aload_n 0, 1) := by decide +kernel
theorem dJ7_copyOf_c38d5_2 : decode cJ7_copyOf_c38d5 2 = .ok (.arraylength, 1) := by decide +kernel
theorem dJ7_copyOf_c38d5_3 : decode cJ7_copyOf_c38d5 3 = .ok (.if_icmp .ne 11, 3) := by decide +kernel
theorem dJ7_copyOf_c38d5_6 : decode cJ7_copyOf_c38d5 6 = .ok (.aload_n 0, 1) := by decide +kernel
theorem dJ7_copyOf_c38d5_7 : decode cJ7_copyOf_c38d5 7 = .ok (.invokevirtual 319, 3) := by decide +kernel
theorem dJ7_copyOf_c38d5_10 : decode cJ7_copyOf_c38d5 10 = .ok (.checkcast 320, 3) := by decide +kernel
theorem dJ7_copyOf_c38d5_14 : decode cJ7_copyOf_c38d5 14 = .ok (.iload_n 1, 1) := by decide +kernel
theorem dJ7_copyOf_c38d5_15 : decode cJ7_copyOf_c38d5 15 = .ok (.newarray .long, 2) := by decide +kernel
theorem dJ7_copyOf_c38d5_17 : decode cJ7_copyOf_c38d5 17 = .ok (.astore_n 2, 1) := by decide +kernel
theorem dJ7_copyOf_c38d5_18 : decode cJ7_copyOf_c38d5 18 = .ok (.aload_n 0, 1) := by decide +kernel
theorem dJ7_copyOf_c38d5_19 : decode cJ7_copyOf_c38d5 19 = .ok (.iconst 0, 1) := by decide +kernel
theorem dJ7_copyOf_c38d5_20 : decode cJ7_copyOf_c38d5 20 = .ok (.aload_n 2, 1) := by decide +kernel
theorem dJ7_copyOf_c38d5_21 : decode cJ7_copyOf_c38d5 21 = .ok (.iconst 0, 1) := by decide +kernel
theorem dJ7_copyOf_c38d5_22 : decode cJ7_copyOf_c38d5 22 = .ok (.aload_n 0, 1) := by decide +kernel
theorem dJ7_copyOf_c38d5_23 : decode cJ7_copyOf_c38d5 23 = .ok (.arraylength, 1) := by decide +kernel
theorem dJ7_copyOf_c38d5_24 : decode cJ7_copyOf_c38d5 24 = .ok (.iload_n 1, 1) := by decide +kernel
theorem dJ7_copyOf_c38d5_25 : decode cJ7_copyOf_c38d5 25 = .ok (.invokestatic 304, 3) := by decide +kernel
theorem dJ7_copyOf_c38d5_28 : decode cJ7_copyOf_c38d5 28 = .ok (.invokestatic 150, 3) := by decide +kernel
theorem dJ7_copyOf_c38d5_31 : decode cJ7_copyOf_c38d5 31 = .ok (.aload_n 2, 1) := by decide +kernel
theorem dJ7_copyOf_c38d5_32 : decode cJ7_copyOf_c38d5 32 = .ok (.areturn, 1) := by decide +kernel
theorem dX3_balanced_0 : decode cX3_balanced 0 = .ok (.aload_n 0, 1) := by decide +kernel
theorem dX3_balanced_1 : decode cX3_balanced 1 = .ok (.iload_n 1, 1) := by decide +kernel
theorem dX3_balanced_2 : decode cX3_balanced 2 = .ok (.invokevirtual 70, 3) := by decide +kernel
theorem dX3_balanced_5 : decode cX3_balanced 5 = .ok (.ifCond .eq 11, 3) := by decide +kernel
theorem dX3_balanced_8 : decode cX3_balanced 8 = .ok (.aload_n 0, 1) := by decide +kernel
theorem dX3_balanced_9 : decode cX3_balanced 9 = .ok (.iload_n 2, 1) := by decide +kernel
theorem dX3_balanced_10 : decode cX3_balanced 10 = .ok (.invokevirtual 70, 3) := by decide +kernel
theorem dX3_balanced_13 : decode cX3_balanced 13 = .ok (.ifCond .ne 5, 3) := by decide +kernel
theorem dX3_balanced_16 : decode cX3_balanced 16 = .ok (.iload_n 1, 1) := by decide +kernel
theorem dX3_balanced_17 : decode cX3_balanced 17 = .ok (.ireturn, 1) := by decide +kernel
theorem dX3_balanced_18 : decode cX3_balanced 18 = .ok (.aload_n 0, 1) := by decide +kernel
theorem dX3_balanced_19 : decode cX3_balanced 19 = .ok (.iload_n 2, 1) := by decide +kernel
theorem dX3_balanced_20 : decode cX3_balanced 20 = .ok (.invokevirtual 74, 3) := by decide +kernel
theorem dX3_balanced_23 : decode cX3_balanced 23 = .ok (.ifCond .eq 92, 3) := by decide +kernel
theorem dX3_balanced_26 : decode cX3_balanced 26 = .ok (.aload_n 0, 1) := by decide +kernel
theorem dX3_balanced_27 : decode cX3_balanced 27 = .ok (.getfield 35, 3) := by decide +kernel
theorem dX3_balanced_30 : decode cX3_balanced 30 = .ok (.iload_n 2, 1) := by decide +kernel
theorem dX3_balanced_31 : decode cX3_balanced 31 = .ok (.iaload, 1) := by decide +kernel
theorem dX3_balanced_32 : decode cX3_balanced 32 = .ok (.aload_n 0, 1) := by decide +kernel
theorem dX3_balanced_33 : decode cX3_balanced 33 = .ok (.getfield 35, 3) := by decide +kernel
theorem dX3_balanced_36 : decode cX3_balanced 36 = .ok (.iload_n 1, 1) := by decide +kernel
theorem dX3_balanced_37 : decode cX3_balanced 37 = .ok (.iaload, 1) := by decide +kernel
theorem dX3_balanced_38 : decode cX3_balanced 38 = .ok (.iconst 1, 1) := by decide +kernel
theorem dX3_balanced_39 : decode cX3_balanced 39 = .ok (.iadd, 1) := by decide +kernel
theorem dX3_balanced_40 : decode cX3_balanced 40 = .ok (.if_icmp .le 75, 3) := by decide +kernel
theorem dX3_balanced_43 : decode cX3_balanced 43 = .ok (.aload_n 0, 1) := by decide +kernel
theorem dX3_balanced_44 : decode cX3_balanced 44 = .ok (.getfield 25, 3) := by decide +kernel
theorem dX3_balanced_47 : decode cX3_balanced 47 = .ok (.iload_n 2, 1) := by decide +kernel
theorem dX3_balanced_48 : decode cX3_balanced 48 = .ok (.iaload, 1) := by decide +kernel
theorem dX3_balanced_49 : decode cX3_balanced 49 = .ok (.istore_n 3, 1) := by decide +kernel
theorem dX3_balanced_50 : decode cX3_balanced 50 = .ok (.aload_n 0, 1) := by decide +kernel
theorem dX3_balanced_51 : decode cX3_balanced 51 = .ok (.getfield 28, 3) := by decide +kernel
theorem dX3_balanced_54 : decode cX3_balanced 54 = .ok (.iload_n 2, 1) := by decide +kernel
theorem dX3_balanced_55 : decode cX3_balanced 55 = .ok (.iaload, 1) := by decide +kernel
theorem dX3_balanced_56 : decode cX3_balanced 56 = .ok (.istore 4, 2) := by decide +kernel
theorem dX3_balanced_58 : decode cX3_balanced 58 = .ok (.aload_n 0, 1) := by decide +kernel
theorem dX3_balanced_59 : decode cX3_balanced 59 = .ok (.getfield 35, 3) := by decide +kernel
theorem dX3_balanced_62 : decode cX3_balanced 62 = .ok (.iload_n 3, 1) := by decide +kernel
theorem dX3_balanced_63 : decode cX3_balanced 63 = .ok (.iaload, 1) := by decide +kernel
theorem dX3_balanced_64 : decode cX3_balanced 64 = .ok (.aload_n 0, 1) := by decide +kernel
theorem dX3_balanced_65 : decode cX3_balanced 65 = .ok (.getfield 35, 3) := by decide +kernel
theorem dX3_balanced_68 : decode cX3_balanced 68 = .ok (.iload 4, 2) := by decide +kernel
theorem dX3_balanced_70 : decode cX3_balanced 70 = .ok (.iaload, 1) := by decide +kernel
theorem dX3_balanced_71 : decode cX3_balanced 71 = .ok (.if_icmp .gt 16, 3) := by decide +kernel
theorem dX3_balanced_74 : decode cX3_balanced 74 = .ok (.aload_n 0, 1) := by decide +kernel
theorem dX3_balanced_75 : decode cX3_balanced 75 = .ok (.aload_n 0, 1) := by decide +kernel
theorem dX3_balanced_76 : decode cX3_balanced 76 = .ok (.iload_n 1, 1) := by decide +kernel
theorem dX3_balanced_77 : decode cX3_balanced 77 = .ok (.iload_n 3, 1) := by decide +kernel
theorem dX3_balanced_78 : decode cX3_balanced 78 = .ok (.invokevirtual 86, 3) := by decide +kernel
theorem dX3_balanced_81 : decode cX3_balanced 81 = .ok (.iload 4, 2) := by decide +kernel
theorem dX3_balanced_83 : decode cX3_balanced 83 = .ok (.invokevirtual 86, 3) := by decide +kernel
theorem dX3_balanced_86 : decode cX3_balanced 86 = .ok (.ireturn, 1) := by decide +kernel
theorem dX3_balanced_87 : decode cX3_balanced 87 = .ok (.aload_n 0, 1) := by decide +kernel
theorem dX3_balanced_88 : decode cX3_balanced 88 = .ok (.aload_n 0, 1) := by decide +kernel
theorem dX3_balanced_89 : decode cX3_balanced 89 = .ok (.iload_n 1, 1) := by decide +kernel
theorem dX3_balanced_90 : decode cX3_balanced 90 = .ok (.aload_n 0, 1) := by decide +kernel
theorem dX3_balanced_91 : decode cX3_balanced 91 = .ok (.getfield 25, 3) := by decide +kernel
theorem dX3_balanced_94 : decode cX3_balanced 94 = .ok (.iload_n 3, 1) := by decide +kernel
theorem dX3_balanced_95 : decode cX3_balanced 95 = .ok (.iaload, 1) := by decide +kernel
theorem dX3_balanced_96 : decode cX3_balanced 96 = .ok (.invokevirtual 86, 3) := by decide +kernel
theorem dX3_balanced_99 : decode cX3_balanced 99 = .ok (.aload_n 0, 1) := by decide +kernel
theorem dX3_balanced_100 : decode cX3_balanced 100 = .ok (.aload_n 0, 1) := by decide +kernel
theorem dX3_balanced_101 : decode cX3_balanced 101 = .ok (.getfield 28, 3) := by decide +kernel
theorem dX3_balanced_104 : decode cX3_balanced 104 = .ok (.iload_n 3, 1) := by decide +kernel
theorem dX3_balanced_105 : decode cX3_balanced 105 = .ok (.iaload, 1) := by decide +kernel
theorem dX3_balanced_106 : decode cX3_balanced 106 = .ok (.iload 4, 2) := by decide +kernel
theorem dX3_balanced_108 : decode cX3_balanced 108 = .ok (.invokevirtual 86, 3) := by decide +kernel
theorem dX3_balanced_111 : decode cX3_balanced 111 = .ok (.invokevirtual 86, 3) := by decide +kernel
theorem dX3_balanced_114 : decode cX3_balanced 114 = .ok (.ireturn, 1) := by decide +kernel
theorem dX3_balanced_115 : decode cX3_balanced 115 = .ok (.aload_n 0, 1) := by decide +kernel
theorem dX3_balanced_116 : decode cX3_balanced 116 = .ok (.iload_n 1, 1) := by decide +kernel
theorem dX3_balanced_117 : decode cX3_balanced 117 = .ok (.invokevirtual 74, 3) := by decide +kernel
theorem dX3_balanced_120 : decode cX3_balanced 120 = .ok (.ifCond .eq 92, 3) := by decide +kernel
theorem dX3_balanced_123 : decode cX3_balanced 123 = .ok (.aload_n 0, 1) := by decide +kernel
theorem dX3_balanced_124 : decode cX3_balanced 124 = .ok (.getfield 35, 3) := by decide +kernel
theorem dX3_balanced_127 : decode cX3_balanced 127 = .ok (.iload_n 1, 1) := by decide +kernel
theorem dX3_balanced_128 : decode cX3_balanced 128 = .ok (.iaload, 1) := by decide +kernel
theorem dX3_balanced_129 : decode cX3_balanced 129 = .ok (.aload_n 0, 1) := by decide +kernel
theorem dX3_balanced_130 : decode cX3_balanced 130 = .ok (.getfield 35, 3) := by decide +kernel
theorem dX3_balanced_133 : decode cX3_balanced 133 = .ok (.iload_n 2, 1) := by decide +kernel
theorem dX3_balanced_134 : decode cX3_balanced 134 = .ok (.iaload, 1) := by decide +kernel
theorem dX3_balanced_135 : decode cX3_balanced 135 = .ok (.iconst 1, 1) := by decide +kernel
theorem dX3_balanced_136 : decode cX3_balanced 136 = .ok (.iadd, 1) := by decide +kernel
theorem dX3_balanced_137 : decode cX3_balanced 137 = .ok (.if_icmp .le 75, 3) := by decide +kernel
theorem dX3_balanced_140 : decode cX3_balanced 140 = .ok (.aload_n 0, 1) := by decide +kernel
theorem dX3_balanced_141 : decode cX3_balanced 141 = .ok (.getfield 28, 3) := by decide +kernel
theorem dX3_balanced_144 : decode cX3_balanced 144 = .ok (.iload_n 1, 1) := by decide +kernel
theorem dX3_balanced_145 : decode cX3_balanced 145 = .ok (.iaload, 1) := by decide +kernel
theorem dX3_balanced_146 : decode cX3_balanced 146 = .ok (.istore_n 3, 1) := by decide +kernel
theorem dX3_balanced_147 : decode cX3_balanced 147 = .ok (.aload_n 0, 1) := by decide +kernel
theorem dX3_balanced_148 : decode cX3_balanced 148 = .ok (.getfield 25, 3) := by decide +kernel
theorem dX3_balanced_151 : decode cX3_balanced 151 = .ok (.iload_n 1, 1) := by decide +kernel
theorem dX3_balanced_152 : decode cX3_balanced 152 = .ok (.iaload, 1) := by decide +kernel
theorem dX3_balanced_153 : decode cX3_balanced 153 = .ok (.istore 4, 2) := by decide +kernel
theorem dX3_balanced_155 : decode cX3_balanced 155 = .ok (.aload_n 0, 1) := by decide +kernel
theorem dX3_balanced_156 : decode cX3_balanced 156 = .ok (.getfield 35, 3) := by decide +kernel
theorem dX3_balanced_159 : decode cX3_balanced 159 = .ok (.iload_n 3, 1) := by decide +kernel
theorem dX3_balanced_160 : decode cX3_balanced 160 = .ok (.iaload, 1) := by decide +kernel
theorem dX3_balanced_161 : decode cX3_balanced 161 = .ok (.aload_n 0, 1) := by decide +kernel
theorem dX3_balanced_162 : decode cX3_balanced 162 = .ok (.getfield 35, 3) := by decide +kernel
theorem dX3_balanced_165 : decode cX3_balanced 165 = .ok (.iload 4, 2) := by decide +kernel
theorem dX3_balanced_167 : decode cX3_balanced 167 = .ok (.iaload, 1) := by decide +kernel
theorem dX3_balanced_168 : decode cX3_balanced 168 = .ok (.if_icmp .gt 16, 3) := by decide +kernel
theorem dX3_balanced_171 : decode cX3_balanced 171 = .ok (.aload_n 0, 1) := by decide +kernel
theorem dX3_balanced_172 : decode cX3_balanced 172 = .ok (.iload 4, 2) := by decide +kernel
theorem dX3_balanced_174 : decode cX3_balanced 174 = .ok (.aload_n 0, 1) := by decide +kernel
theorem dX3_balanced_175 : decode cX3_balanced 175 = .ok (.iload_n 3, 1) := by decide +kernel
theorem dX3_balanced_176 : decode cX3_balanced 176 = .ok (.iload_n 2, 1) := by decide +kernel
theorem dX3_balanced_177 : decode cX3_balanced 177 = .ok (.invokevirtual 86, 3) := by decide +kernel
theorem dX3_balanced_180 : decode cX3_balanced 180 = .ok (.invokevirtual 86, 3) := by decide +kernel
theorem dX3_balanced_183 : decode cX3_balanced 183 = .ok (.ireturn, 1) := by decide +kernel
theorem dX3_balanced_184 : decode cX3_balanced 184 = .ok (.aload_n 0, 1) := by decide +kernel
theorem dX3_balanced_185 : decode cX3_balanced 185 = .ok (.aload_n 0, 1) := by decide +kernel
theorem dX3_balanced_186 : decode cX3_balanced 186 = .ok (.iload 4, 2) := by decide +kernel
theorem dX3_balanced_188 : decode cX3_balanced 188 = .ok (.aload_n 0, 1) := by decide +kernel
theorem dX3_balanced_189 : decode cX3_balanced 189 = .ok (.getfield 25, 3) := by decide +kernel
theorem dX3_balanced_192 : decode cX3_balanced 192 = .ok (.iload_n 3, 1) := by decide +kernel
theorem dX3_balanced_193 : decode cX3_balanced 193 = .ok (.iaload, 1) := by decide +kernel
theorem dX3_balanced_194 : decode cX3_balanced 194 = .ok (.invokevirtual 86, 3) := by decide +kernel
theorem dX3_balanced_197 : decode cX3_balanced 197 = .ok (.aload_n 0, 1) := by decide +kernel
theorem dX3_balanced_198 : decode cX3_balanced 198 = .ok (.aload_n 0, 1) := by decide +kernel
theorem dX3_balanced_199 : decode cX3_balanced 199 = .ok (.getfield 28, 3) := by decide +kernel
theorem dX3_balanced_202 : decode cX3_balanced 202 = .ok (.iload_n 3, 1) := by decide +kernel
theorem dX3_balanced_203 : decode cX3_balanced 203 = .ok (.iaload, 1) := by decide +kernel
theorem dX3_balanced_204 : decode cX3_balanced 204 = .ok (.iload_n 2, 1) := by decide +kernel
theorem dX3_balanced_205 : decode cX3_balanced 205 = .ok (.invokevirtual 86, 3) := by decide +kernel
theorem dX3_balanced_208 : decode cX3_balanced 208 = .ok (.invokevirtual 86, 3) := by decide +kernel
theorem dX3_balanced_211 : decode cX3_balanced 211 = .ok (.ireturn, 1) := by decide +kernel
theorem dX3_balanced_212 : decode cX3_balanced 212 = .ok (.aload_n 0, 1) := by decide +kernel
theorem dX3_balanced_213 : decode cX3_balanced 213 = .ok (.iload_n 1, 1) := by decide +kernel
theorem dX3_balanced_214 : decode cX3_balanced 214 = .ok (.iload_n 2, 1) := by decide +kernel
theorem dX3_balanced_215 : decode cX3_balanced 215 = .ok (.invokevirtual 86, 3) := by decide +kernel
theorem dX3_balanced_218 : decode cX3_balanced 218 = .ok (.ireturn, 1) := by decide +kernel
theorem dJ15_checkIndex_7cf53_0 : decode cJ15_checkIndex_7cf53 0 = .ok (.iload_n 0, 1) := by decide +kernel
theorem dJ15_checkIndex_7cf53_1 : decode cJ15_checkIndex_7cf53 1 = .ok (.iload_n 1, 1) := by decide +kernel
theorem dJ15_checkIndex_7cf53_2 : decode cJ15_checkIndex_7cf53 2 = .ok (.aconst_null, 1) := by decide +kernel
theorem dJ15_checkIndex_7cf53_3 : decode cJ15_checkIndex_7cf53 3 = .ok (.invokestatic 105, 3) := by decide +kernel
theorem dJ15_checkIndex_7cf53_6 : decode cJ15_checkIndex_7cf53 6 = .ok (.ireturn, 1) := by decide +kernel
theorem dJx4a65c_elementData_915e3_0 : decode cJx4a65c_elementData_915e3 0 = .ok (.aload_n 0, 1) := by decide +kernel
theorem dJx4a65c_elementData_915e3_1 : decode cJx4a65c_elementData_915e3 1 = .ok (.getfield 9, 3) := by decide +kernel
theorem dJx4a65c_elementData_915e3_4 : decode cJx4a65c_elementData_915e3 4 = .ok (.iload_n 1, 1) := by decide +kernel
theorem dJx4a65c_elementData_915e3_5 : decode cJx4a65c_elementData_915e3 5 = .ok (.aaload, 1) := by decide +kernel
theorem dJx4a65c_elementData_915e3_6 : decode cJx4a65c_elementData_915e3 6 = .ok (.areturn, 1) := by decide +kernel
theorem dX3_turnLeaf_0 : decode cX3_turnLeaf 0 = .ok (.iload_n 0, 1) := by decide +kernel
theorem dX3_turnLeaf_1 : decode cX3_turnLeaf 1 = .ok (.iload_n 1, 1) := by decide +kernel
theorem dX3_turnLeaf_2 : decode cX3_turnLeaf 2 = .ok (.iconst 5, 1) := by decide +kernel
theorem dX3_turnLeaf_3 : decode cX3_turnLeaf 3 = .ok (.ishl, 1) := by decide +kernel
theorem dX3_turnLeaf_4 : decode cX3_turnLeaf 4 = .ok (.ior, 1) := by decide +kernel
theorem dX3_turnLeaf_5 : decode cX3_turnLeaf 5 = .ok (.iload_n 2, 1) := by decide +kernel
theorem dX3_turnLeaf_6 : decode cX3_turnLeaf 6 = .ok (.iconst 5, 1) := by decide +kernel
theorem dX3_turnLeaf_7 : decode cX3_turnLeaf 7 = .ok (.ishl, 1) := by decide +kernel
theorem dX3_turnLeaf_8 : decode cX3_turnLeaf 8 = .ok (.iconst (-1), 1) := by decide +kernel
theorem dX3_turnLeaf_9 : decode cX3_turnLeaf 9 = .ok (.ixor, 1) := by decide +kernel
theorem dX3_turnLeaf_10 : decode cX3_turnLeaf 10 = .ok (.iand, 1) := by decide +kernel
theorem dX3_turnLeaf_11 : decode cX3_turnLeaf 11 = .ok (.ireturn, 1) := by decide +kernel
theorem dJ7_copyOf_59c91_0 : decode cJ7_copyOf_59c91 0 = .ok (.iload_n 1, 1) := by decide +kernel
theorem dJ7_copyOf_59c91_1 : decode cJ7_copyOf_59c91 1 = .ok (.aload_n 0, 1) := by decide +kernel
theorem dJ7_copyOf_59c91_2 : decode cJ7_copyOf_59c91 2 = .ok (.arraylength, 1) := by decide +kernel
theorem dJ7_copyOf_59c91_3 : decode cJ7_copyOf_59c91 3 = .ok (.if_icmp .ne 11, 3) := by decide +kernel
theorem dJ7_copyOf_59c91_6 : decode cJ7_copyOf_59c91 6 = .ok (.aload_n 0, 1) := by decide +kernel
theorem dJ7_copyOf_59c91_7 : decode cJ7_copyOf_59c91 7 = .ok (.invokevirtual 316, 3) := by decide +kernel
theorem dJ7_copyOf_59c91_10 : decode cJ7_copyOf_59c91 10 = .ok (.checkcast 317, 3) := by decide +kernel
theorem dJ7_copyOf_59c91_14 : decode cJ7_copyOf_59c91 14 = .ok (.iload_n 1, 1) := by decide +kernel
theorem dJ7_copyOf_59c91_15 : decode cJ7_copyOf_59c91 15 = .ok (.newarray .int, 2) := by decide +kernel
theorem dJ7_copyOf_59c91_17 : decode cJ7_copyOf_59c91 17 = .ok (.astore_n 2, 1) := by decide +kernel
theorem dJ7_copyOf_59c91_18 : decode cJ7_copyOf_59c91 18 = .ok (.aload_n 0, 1) := by decide +kernel
theorem dJ7_copyOf_59c91_19 : decode cJ7_copyOf_59c91 19 = .ok (.iconst 0, 1) := by decide +kernel
theorem dJ7_copyOf_59c91_20 : decode cJ7_copyOf_59c91 20 = .ok (.aload_n 2, 1) := by decide +kernel
theorem dJ7_copyOf_59c91_21 : decode cJ7_copyOf_59c91 21 = .ok (.iconst 0, 1) := by decide +kernel
theorem dJ7_copyOf_59c91_22 : decode cJ7_copyOf_59c91 22 = .ok (.aload_n 0, 1) := by decide +kernel
theorem dJ7_copyOf_59c91_23 : decode cJ7_copyOf_59c91 23 = .ok (.arraylength, 1) := by decide +kernel
theorem dJ7_copyOf_59c91_24 : decode cJ7_copyOf_59c91 24 = .ok (.iload_n 1, 1) := by decide +kernel
theorem dJ7_copyOf_59c91_25 : decode cJ7_copyOf_59c91 25 = .ok (.invokestatic 304, 3) := by decide +kernel
theorem dJ7_copyOf_59c91_28 : decode cJ7_copyOf_59c91 28 = .ok (.invokestatic 150, 3) := by decide +kernel
theorem dJ7_copyOf_59c91_31 : decode cJ7_copyOf_59c91 31 = .ok (.aload_n 2, 1) := by decide +kernel
theorem dJ7_copyOf_59c91_32 : decode cJ7_copyOf_59c91 32 = .ok (.areturn, 1) := by decide +kernel
theorem dJ8_newLength_cabcc_0 : decode cJ8_newLength_cabcc 0 = .ok (.iload_n 0, 1) := by decide +kernel
theorem dJ8_newLength_cabcc_1 : decode cJ8_newLength_cabcc 1 = .ok (.iload_n 1, 1) := by decide +kernel
theorem dJ8_newLength_cabcc_2 : decode cJ8_newLength_cabcc 2 = .ok (.iload_n 2, 1) := by decide +kernel
theorem dJ8_newLength_cabcc_3 : decode cJ8_newLength_cabcc 3 = .ok (.invokestatic 194, 3) := by decide +kernel
theorem dJ8_newLength_cabcc_6 : decode cJ8_newLength_cabcc 6 = .ok (.iadd, 1) := by decide +kernel
theorem dJ8_newLength_cabcc_7 : decode cJ8_newLength_cabcc 7 = .ok (.istore_n 3, 1) := by decide +kernel
theorem dJ8_newLength_cabcc_8 : decode cJ8_newLength_cabcc 8 = .ok (.iconst 0, 1) := by decide +kernel
theorem dJ8_newLength_cabcc_9 : decode cJ8_newLength_cabcc 9 = .ok (.iload_n 3, 1) := by decide +kernel
theorem dJ8_newLength_cabcc_10 : decode cJ8_newLength_cabcc 10 = .ok (.if_icmp .ge 11, 3) := by decide +kernel
theorem dJ8_newLength_cabcc_13 : decode cJ8_newLength_cabcc 13 = .ok (.iload_n 3, 1) := by decide +kernel
theorem dJ8_newLength_cabcc_14 : decode cJ8_newLength_cabcc 14 = .ok (.ldc 200, 2) := by decide +kernel
theorem dJ8_newLength_cabcc_16 : decode cJ8_newLength_cabcc 16 = .ok (.if_icmp .gt 5, 3) := by decide +kernel
theorem dJ8_newLength_cabcc_19 : decode cJ8_newLength_cabcc 19 = .ok (.iload_n 3, 1) := by decide +kernel
theorem dJ8_newLength_cabcc_20 : decode cJ8_newLength_cabcc 20 = .ok (.ireturn, 1) := by decide +kernel
theorem dJ8_newLength_cabcc_21 : decode cJ8_newLength_cabcc 21 = .ok (.iload_n 0, 1) := by decide +kernel
theorem dJ8_newLength_cabcc_22 : decode cJ8_newLength_cabcc 22 = .ok (.iload_n 1, 1) := by decide +kernel
theorem dJ8_newLength_cabcc_23 : decode cJ8_newLength_cabcc 23 = .ok (.invokestatic 201, 3) := by decide +kernel
theorem dJ8_newLength_cabcc_26 : decode cJ8_newLength_cabcc 26 = .ok (.ireturn, 1) := by decide +kernel
theorem dJ7_copyOf_1904c_0 : decode cJ7_copyOf_1904c 0 = .ok (.aload_n 0, 1) := by decide +kernel
theorem dJ7_copyOf_1904c_1 : decode cJ7_copyOf_1904c 1 = .ok (.iload_n 1, 1) := by decide +kernel
theorem dJ7_copyOf_1904c_2 : decode cJ7_copyOf_1904c 2 = .ok (.aload_n 0, 1) := by decide +kernel
theorem dJ7_copyOf_1904c_3 : decode cJ7_copyOf_1904c 3 = .ok (.invokevirtual 86, 3) := by decide +kernel
theorem dJ7_copyOf_1904c_6 : decode cJ7_copyOf_1904c 6 = .ok (.invokestatic 300, 3) := by decide +kernel
theorem dJ7_copyOf_1904c_9 : decode cJ7_copyOf_1904c 9 = .ok (.areturn, 1) := by decide +kernel
theorem dJ3_checkIndex_8e157_0 : decode cJ3_checkIndex_8e157 0 = .ok (.iload_n 0, 1) := by decide +kernel
theorem dJ3_checkIndex_8e157_1 : decode cJ3_checkIndex_8e157 1 = .ok (.ifCond .lt 8, 3) := by decide +kernel
theorem dJ3_checkIndex_8e157_4 : decode cJ3_checkIndex_8e157 4 = .ok (.iload_n 0, 1) := by decide +kernel
theorem dJ3_checkIndex_8e157_5 : decode cJ3_checkIndex_8e157 5 = .ok (.iload_n 1, 1) := by decide +kernel
theorem dJ3_checkIndex_8e157_6 : decode cJ3_checkIndex_8e157 6 = .ok (.if_icmp .lt 10, 3) := by decide +kernel
theorem dJ3_checkIndex_8e157_9 : decode cJ3_checkIndex_8e157 9 = .ok (.aload_n 2, 1) := by decide +kernel
theorem dJ3_checkIndex_8e157_10 : decode cJ3_checkIndex_8e157 10 = .ok (.iload_n 0, 1) := by decide +kernel
theorem dJ3_checkIndex_8e157_11 : decode cJ3_checkIndex_8e157 11 = .ok (.iload_n 1, 1) := by decide +kernel
theorem dJ3_checkIndex_8e157_12 : decode cJ3_checkIndex_8e157 12 = .ok (.invokestatic 95, 3) := by decide +kernel
theorem dJ3_checkIndex_8e157_15 : decode cJ3_checkIndex_8e157 15 = .ok (.athrow, 1) := by decide +kernel
theorem dJ3_checkIndex_8e157_16 : decode cJ3_checkIndex_8e157 16 = .ok (.iload_n 0, 1) := by decide +kernel
theorem dJ3_checkIndex_8e157_17 : decode cJ3_checkIndex_8e157 17 = .ok (.ireturn, 1) := by decide +kernel
theorem dJ8_hugeLength_7cf53_0 : decode cJ8_hugeLength_7cf53 0 = .ok (.iload_n 0, 1) := by decide +kernel
theorem dJ8_hugeLength_7cf53_1 : decode cJ8_hugeLength_7cf53 1 = .ok (.iload_n 1, 1) := by decide +kernel
theorem dJ8_hugeLength_7cf53_2 : decode cJ8_hugeLength_7cf53 2 = .ok (.iadd, 1) := by decide +kernel
theorem dJ8_hugeLength_7cf53_3 : decode cJ8_hugeLength_7cf53 3 = .ok (.istore_n 2, 1) := by decide +kernel
theorem dJ8_hugeLength_7cf53_4 : decode cJ8_hugeLength_7cf53 4 = .ok (.iload_n 2, 1) := by decide +kernel
theorem dJ8_hugeLength_7cf53_5 : decode cJ8_hugeLength_7cf53 5 = .ok (.ifCond .ge 44, 3) := by decide +kernel
theorem dJ8_hugeLength_7cf53_8 : decode cJ8_hugeLength_7cf53 8 = .ok (.new 204, 3) := by decide +kernel
theorem dJ8_hugeLength_7cf53_19 : decode cJ8_hugeLength_7cf53 19 = .ok (.ldc 206, 2) := by decide +kernel
theorem dJ8_hugeLength_7cf53_24 : decode cJ8_hugeLength_7cf53 24 = .ok (.iload_n 0, 1) := by decide +kernel
theorem dJ8_hugeLength_7cf53_25 : decode cJ8_hugeLength_7cf53 25 = .ok (.invokevirtual 98, 3) := by decide +kernel
theorem dJ8_hugeLength_7cf53_28 : decode cJ8_hugeLength_7cf53 28 = .ok (.ldc 208, 2) := by decide +kernel
theorem dJ8_hugeLength_7cf53_33 : decode cJ8_hugeLength_7cf53 33 = .ok (.iload_n 1, 1) := by decide +kernel
theorem dJ8_hugeLength_7cf53_34 : decode cJ8_hugeLength_7cf53 34 = .ok (.invokevirtual 98, 3) := by decide +kernel
theorem dJ8_hugeLength_7cf53_37 : decode cJ8_hugeLength_7cf53 37 = .ok (.ldc 210, 2) := by decide +kernel
theorem dJ8_hugeLength_7cf53_42 : decode cJ8_hugeLength_7cf53 42 = .ok (.invokevirtual 101, 3) := by decide +kernel
theorem dJ8_hugeLength_7cf53_45 : decode cJ8_hugeLength_7cf53 45 = .ok (.invokespecial 212, 3) := by decide +kernel
theorem dJ8_hugeLength_7cf53_48 : decode cJ8_hugeLength_7cf53 48 = .ok (.athrow, 1) := by decide +kernel
theorem dJ8_hugeLength_7cf53_49 : decode cJ8_hugeLength_7cf53 49 = .ok (.iload_n 2, 1) := by decide +kernel
theorem dJ8_hugeLength_7cf53_50 : decode cJ8_hugeLength_7cf53 50 = .ok (.ldc 200, 2) := by decide +kernel
theorem dJ8_hugeLength_7cf53_52 : decode cJ8_hugeLength_7cf53 52 = .ok (.if_icmp .gt 6, 3) := by decide +kernel
theorem dJ8_hugeLength_7cf53_55 : decode cJ8_hugeLength_7cf53 55 = .ok (.ldc 200, 2) := by decide +kernel
theorem dJ8_hugeLength_7cf53_57 : decode cJ8_hugeLength_7cf53 57 = .ok (.ireturn, 1) := by decide +kernel
theorem dJ8_hugeLength_7cf53_58 : decode cJ8_hugeLength_7cf53 58 = .ok (.iload_n 2, 1) := by decide +kernel
theorem dJ8_hugeLength_7cf53_59 : decode cJ8_hugeLength_7cf53 59 = .ok (.ireturn, 1) := by decide +kernel
theorem dJ7_copyOf_6403c_0 : decode cJ7_copyOf_6403c 0 = .ok (.aload_n 2, 1) := by decide +kernel
theorem dJ7_copyOf_6403c_1 : decode cJ7_copyOf_6403c 1 = .ok (.ldc 110, 2) := by decide +kernel
theorem dJ7_copyOf_6403c_3 : decode cJ7_copyOf_6403c 3 = .ok (.if_acmp .ne 10, 3) := by decide +kernel
theorem dJ7_copyOf_6403c_6 : decode cJ7_copyOf_6403c 6 = .ok (.iload_n 1, 1) := by decide +kernel
theorem dJ7_copyOf_6403c_7 : decode cJ7_copyOf_6403c 7 = .ok (.anewarray 2, 3) := by decide +kernel
theorem dJ7_copyOf_6403c_10 : decode cJ7_copyOf_6403c 10 = .ok (.goto 14, 3) := by decide +kernel
theorem dJ7_copyOf_6403c_13 : decode cJ7_copyOf_6403c 13 = .ok (.aload_n 2, 1) := by decide +kernel
theorem dJ7_copyOf_6403c_14 : decode cJ7_copyOf_6403c 14 = .ok (.invokevirtual 90, 3) := by decide +kernel
theorem dJ7_copyOf_6403c_17 : decode cJ7_copyOf_6403c 17 = .ok (.iload_n 1, 1) := by decide +kernel
theorem dJ7_copyOf_6403c_18 : decode cJ7_copyOf_6403c 18 = .ok (.invokestatic 95, 3) := by decide +kernel
theorem dJ7_copyOf_6403c_21 : decode cJ7_copyOf_6403c 21 = .ok (.checkcast 110, 3) := by decide +kernel
theorem dJ7_copyOf_6403c_24 : decode cJ7_copyOf_6403c 24 = .ok (.astore_n 3, 1) := by decide +kernel
theorem dJ7_copyOf_6403c_25 : decode cJ7_copyOf_6403c 25 = .ok (.aload_n 0, 1) := by decide +kernel
theorem dJ7_copyOf_6403c_26 : decode cJ7_copyOf_6403c 26 = .ok (.iconst 0, 1) := by decide +kernel
theorem dJ7_copyOf_6403c_27 : decode cJ7_copyOf_6403c 27 = .ok (.aload_n 3, 1) := by decide +kernel
theorem dJ7_copyOf_6403c_28 : decode cJ7_copyOf_6403c 28 = .ok (.iconst 0, 1) := by decide +kernel
theorem dJ7_copyOf_6403c_29 : decode cJ7_copyOf_6403c 29 = .ok (.aload_n 0, 1) := by decide +kernel
theorem dJ7_copyOf_6403c_30 : decode cJ7_copyOf_6403c 30 = .ok (.arraylength, 1) := by decide +kernel
theorem dJ7_copyOf_6403c_31 : decode cJ7_copyOf_6403c 31 = .ok (.iload_n 1, 1) := by decide +kernel
theorem dJ7_copyOf_6403c_32 : decode cJ7_copyOf_6403c 32 = .ok (.invokestatic 304, 3) := by decide +kernel
theorem dJ7_copyOf_6403c_35 : decode cJ7_copyOf_6403c 35 = .ok (.invokestatic 150, 3) := by decide +kernel
theorem dJ7_copyOf_6403c_38 : decode cJ7_copyOf_6403c 38 = .ok (.aload_n 3, 1) := by decide +kernel
theorem dJ7_copyOf_6403c_39 : decode cJ7_copyOf_6403c 39 = .ok (.areturn, 1) := by decide +kernel
