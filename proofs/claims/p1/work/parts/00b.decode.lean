theorem dX12_init_0 : decode cX12_init 0 = .ok (.aload_n 0, 1) := by decide +kernel
theorem dX12_init_1 : decode cX12_init 1 = .ok (.invokespecial 1, 3) := by decide +kernel
theorem dX12_init_4 : decode cX12_init 4 = .ok (.aload_n 0, 1) := by decide +kernel
theorem dX12_init_5 : decode cX12_init 5 = .ok (.sipush 276, 3) := by decide +kernel
theorem dX12_init_8 : decode cX12_init 8 = .ok (.iconst 4, 1) := by decide +kernel
theorem dX12_init_9 : decode cX12_init 9 = .ok (.multianewarray 9 2, 4) := by decide +kernel
theorem dX12_init_13 : decode cX12_init 13 = .ok (.putfield 11, 3) := by decide +kernel
theorem dX12_init_16 : decode cX12_init 16 = .ok (.aload_n 0, 1) := by decide +kernel
theorem dX12_init_17 : decode cX12_init 17 = .ok (.sipush 276, 3) := by decide +kernel
theorem dX12_init_20 : decode cX12_init 20 = .ok (.newarray .int, 2) := by decide +kernel
theorem dX12_init_22 : decode cX12_init 22 = .ok (.putfield 14, 3) := by decide +kernel
theorem dX12_init_25 : decode cX12_init 25 = .ok (.aload_n 0, 1) := by decide +kernel
theorem dX12_init_26 : decode cX12_init 26 = .ok (.bipush 12, 2) := by decide +kernel
theorem dX12_init_28 : decode cX12_init 28 = .ok (.newarray .boolean, 2) := by decide +kernel
theorem dX12_init_30 : decode cX12_init 30 = .ok (.putfield 18, 3) := by decide +kernel
theorem dX12_init_33 : decode cX12_init 33 = .ok (.aload_n 0, 1) := by decide +kernel
theorem dX12_init_34 : decode cX12_init 34 = .ok (.iconst 5, 1) := by decide +kernel
theorem dX12_init_35 : decode cX12_init 35 = .ok (.bipush 64, 2) := by decide +kernel
theorem dX12_init_37 : decode cX12_init 37 = .ok (.multianewarray 9 2, 4) := by decide +kernel
theorem dX12_init_41 : decode cX12_init 41 = .ok (.putfield 22, 3) := by decide +kernel
theorem dX12_init_44 : decode cX12_init 44 = .ok (.aload_n 0, 1) := by decide +kernel
theorem dX12_init_45 : decode cX12_init 45 = .ok (.iconst 5, 1) := by decide +kernel
theorem dX12_init_46 : decode cX12_init 46 = .ok (.newarray .int, 2) := by decide +kernel
theorem dX12_init_48 : decode cX12_init 48 = .ok (.putfield 25, 3) := by decide +kernel
theorem dX12_init_51 : decode cX12_init 51 = .ok (.aload_n 0, 1) := by decide +kernel
theorem dX12_init_52 : decode cX12_init 52 = .ok (.bipush 32, 2) := by decide +kernel
theorem dX12_init_54 : decode cX12_init 54 = .ok (.newarray .int, 2) := by decide +kernel
theorem dX12_init_56 : decode cX12_init 56 = .ok (.putfield 28, 3) := by decide +kernel
theorem dX12_init_59 : decode cX12_init 59 = .ok (.aload_n 0, 1) := by decide +kernel
theorem dX12_init_60 : decode cX12_init 60 = .ok (.bipush 91, 2) := by decide +kernel
theorem dX12_init_62 : decode cX12_init 62 = .ok (.newarray .int, 2) := by decide +kernel
theorem dX12_init_64 : decode cX12_init 64 = .ok (.putfield 31, 3) := by decide +kernel
theorem dX12_init_67 : decode cX12_init 67 = .ok (.aload_n 0, 1) := by decide +kernel
theorem dX12_init_68 : decode cX12_init 68 = .ok (.iconst 2, 1) := by decide +kernel
theorem dX12_init_69 : decode cX12_init 69 = .ok (.newarray .int, 2) := by decide +kernel
theorem dX12_init_71 : decode cX12_init 71 = .ok (.dup, 1) := by decide +kernel
theorem dX12_init_72 : decode cX12_init 72 = .ok (.iconst 0, 1) := by decide +kernel
theorem dX12_init_73 : decode cX12_init 73 = .ok (.iconst 0, 1) := by decide +kernel
theorem dX12_init_74 : decode cX12_init 74 = .ok (.iastore, 1) := by decide +kernel
theorem dX12_init_75 : decode cX12_init 75 = .ok (.dup, 1) := by decide +kernel
theorem dX12_init_76 : decode cX12_init 76 = .ok (.iconst 1, 1) := by decide +kernel
theorem dX12_init_77 : decode cX12_init 77 = .ok (.iconst 1, 1) := by decide +kernel
theorem dX12_init_78 : decode cX12_init 78 = .ok (.iastore, 1) := by decide +kernel
theorem dX12_init_79 : decode cX12_init 79 = .ok (.putfield 34, 3) := by decide +kernel
theorem dX12_init_82 : decode cX12_init 82 = .ok (.aload_n 0, 1) := by decide +kernel
theorem dX12_init_83 : decode cX12_init 83 = .ok (.bipush 7, 2) := by decide +kernel
theorem dX12_init_85 : decode cX12_init 85 = .ok (.newarray .int, 2) := by decide +kernel
theorem dX12_init_87 : decode cX12_init 87 = .ok (.putfield 37, 3) := by decide +kernel
theorem dX12_init_90 : decode cX12_init 90 = .ok (.aload_n 0, 1) := by decide +kernel
theorem dX12_init_91 : decode cX12_init 91 = .ok (.iconst 4, 1) := by decide +kernel
theorem dX12_init_92 : decode cX12_init 92 = .ok (.sipush 24000, 3) := by decide +kernel
theorem dX12_init_95 : decode cX12_init 95 = .ok (.multianewarray 9 2, 4) := by decide +kernel
theorem dX12_init_99 : decode cX12_init 99 = .ok (.putfield 40, 3) := by decide +kernel
theorem dX12_init_102 : decode cX12_init 102 = .ok (.aload_n 0, 1) := by decide +kernel
theorem dX12_init_103 : decode cX12_init 103 = .ok (.iconst 4, 1) := by decide +kernel
theorem dX12_init_104 : decode cX12_init 104 = .ok (.newarray .int, 2) := by decide +kernel
theorem dX12_init_106 : decode cX12_init 106 = .ok (.putfield 43, 3) := by decide +kernel
theorem dX12_init_109 : decode cX12_init 109 = .ok (.aload_n 0, 1) := by decide +kernel
theorem dX12_init_110 : decode cX12_init 110 = .ok (.sipush 24000, 3) := by decide +kernel
theorem dX12_init_113 : decode cX12_init 113 = .ok (.newarray .int, 2) := by decide +kernel
theorem dX12_init_115 : decode cX12_init 115 = .ok (.putfield 46, 3) := by decide +kernel
theorem dX12_init_118 : decode cX12_init 118 = .ok (.aload_n 0, 1) := by decide +kernel
theorem dX12_init_119 : decode cX12_init 119 = .ok (.sipush 250, 3) := by decide +kernel
theorem dX12_init_122 : decode cX12_init 122 = .ok (.newarray .int, 2) := by decide +kernel
theorem dX12_init_124 : decode cX12_init 124 = .ok (.putfield 49, 3) := by decide +kernel
theorem dX12_init_127 : decode cX12_init 127 = .ok (.aload_n 0, 1) := by decide +kernel
theorem dX12_init_128 : decode cX12_init 128 = .ok (.bipush 8, 2) := by decide +kernel
theorem dX12_init_130 : decode cX12_init 130 = .ok (.newarray .int, 2) := by decide +kernel
theorem dX12_init_132 : decode cX12_init 132 = .ok (.dup, 1) := by decide +kernel
theorem dX12_init_133 : decode cX12_init 133 = .ok (.iconst 0, 1) := by decide +kernel
theorem dX12_init_134 : decode cX12_init 134 = .ok (.iconst (-1), 1) := by decide +kernel
theorem dX12_init_135 : decode cX12_init 135 = .ok (.iastore, 1) := by decide +kernel
theorem dX12_init_136 : decode cX12_init 136 = .ok (.dup, 1) := by decide +kernel
theorem dX12_init_137 : decode cX12_init 137 = .ok (.iconst 1, 1) := by decide +kernel
theorem dX12_init_138 : decode cX12_init 138 = .ok (.iconst (-1), 1) := by decide +kernel
theorem dX12_init_139 : decode cX12_init 139 = .ok (.iastore, 1) := by decide +kernel
theorem dX12_init_140 : decode cX12_init 140 = .ok (.dup, 1) := by decide +kernel
theorem dX12_init_141 : decode cX12_init 141 = .ok (.iconst 2, 1) := by decide +kernel
theorem dX12_init_142 : decode cX12_init 142 = .ok (.iconst (-1), 1) := by decide +kernel
theorem dX12_init_143 : decode cX12_init 143 = .ok (.iastore, 1) := by decide +kernel
theorem dX12_init_144 : decode cX12_init 144 = .ok (.dup, 1) := by decide +kernel
theorem dX12_init_145 : decode cX12_init 145 = .ok (.iconst 3, 1) := by decide +kernel
theorem dX12_init_146 : decode cX12_init 146 = .ok (.iconst (-1), 1) := by decide +kernel
theorem dX12_init_147 : decode cX12_init 147 = .ok (.iastore, 1) := by decide +kernel
theorem dX12_init_148 : decode cX12_init 148 = .ok (.dup, 1) := by decide +kernel
theorem dX12_init_149 : decode cX12_init 149 = .ok (.iconst 4, 1) := by decide +kernel
theorem dX12_init_150 : decode cX12_init 150 = .ok (.iconst (-1), 1) := by decide +kernel
theorem dX12_init_151 : decode cX12_init 151 = .ok (.iastore, 1) := by decide +kernel
theorem dX12_init_152 : decode cX12_init 152 = .ok (.dup, 1) := by decide +kernel
theorem dX12_init_153 : decode cX12_init 153 = .ok (.iconst 5, 1) := by decide +kernel
theorem dX12_init_154 : decode cX12_init 154 = .ok (.iconst (-1), 1) := by decide +kernel
theorem dX12_init_155 : decode cX12_init 155 = .ok (.iastore, 1) := by decide +kernel
theorem dX12_init_156 : decode cX12_init 156 = .ok (.dup, 1) := by decide +kernel
theorem dX12_init_157 : decode cX12_init 157 = .ok (.bipush 6, 2) := by decide +kernel
theorem dX12_init_159 : decode cX12_init 159 = .ok (.iconst (-1), 1) := by decide +kernel
theorem dX12_init_160 : decode cX12_init 160 = .ok (.iastore, 1) := by decide +kernel
theorem dX12_init_161 : decode cX12_init 161 = .ok (.dup, 1) := by decide +kernel
theorem dX12_init_162 : decode cX12_init 162 = .ok (.bipush 7, 2) := by decide +kernel
theorem dX12_init_164 : decode cX12_init 164 = .ok (.iconst (-1), 1) := by decide +kernel
theorem dX12_init_165 : decode cX12_init 165 = .ok (.iastore, 1) := by decide +kernel
theorem dX12_init_166 : decode cX12_init 166 = .ok (.putfield 52, 3) := by decide +kernel
theorem dX12_init_169 : decode cX12_init 169 = .ok (.aload_n 0, 1) := by decide +kernel
theorem dX12_init_170 : decode cX12_init 170 = .ok (.bipush 8, 2) := by decide +kernel
theorem dX12_init_172 : decode cX12_init 172 = .ok (.newarray .int, 2) := by decide +kernel
theorem dX12_init_174 : decode cX12_init 174 = .ok (.putfield 55, 3) := by decide +kernel
theorem dX12_init_177 : decode cX12_init 177 = .ok (.aload_n 0, 1) := by decide +kernel
theorem dX12_init_178 : decode cX12_init 178 = .ok (.sipush 320, 3) := by decide +kernel
theorem dX12_init_181 : decode cX12_init 181 = .ok (.newarray .long, 2) := by decide +kernel
theorem dX12_init_183 : decode cX12_init 183 = .ok (.putfield 58, 3) := by decide +kernel
theorem dX12_init_186 : decode cX12_init 186 = .ok (.aload_n 0, 1) := by decide +kernel
theorem dX12_init_187 : decode cX12_init 187 = .ok (.bipush 8, 2) := by decide +kernel
theorem dX12_init_189 : decode cX12_init 189 = .ok (.newarray .int, 2) := by decide +kernel
theorem dX12_init_191 : decode cX12_init 191 = .ok (.putfield 62, 3) := by decide +kernel
theorem dX12_init_194 : decode cX12_init 194 = .ok (.aload_n 0, 1) := by decide +kernel
theorem dX12_init_195 : decode cX12_init 195 = .ok (.bipush 8, 2) := by decide +kernel
theorem dX12_init_197 : decode cX12_init 197 = .ok (.newarray .int, 2) := by decide +kernel
theorem dX12_init_199 : decode cX12_init 199 = .ok (.putfield 65, 3) := by decide +kernel
theorem dX12_init_202 : decode cX12_init 202 = .ok (.aload_n 0, 1) := by decide +kernel
theorem dX12_init_203 : decode cX12_init 203 = .ok (.bipush 8, 2) := by decide +kernel
theorem dX12_init_205 : decode cX12_init 205 = .ok (.newarray .int, 2) := by decide +kernel
theorem dX12_init_207 : decode cX12_init 207 = .ok (.putfield 68, 3) := by decide +kernel
theorem dX12_init_210 : decode cX12_init 210 = .ok (.aload_n 0, 1) := by decide +kernel
theorem dX12_init_211 : decode cX12_init 211 = .ok (.sipush 276, 3) := by decide +kernel
theorem dX12_init_214 : decode cX12_init 214 = .ok (.iconst 4, 1) := by decide +kernel
theorem dX12_init_215 : decode cX12_init 215 = .ok (.multianewarray 9 2, 4) := by decide +kernel
theorem dX12_init_219 : decode cX12_init 219 = .ok (.putfield 71, 3) := by decide +kernel
theorem dX12_init_222 : decode cX12_init 222 = .ok (.aload_n 0, 1) := by decide +kernel
theorem dX12_init_223 : decode cX12_init 223 = .ok (.sipush 276, 3) := by decide +kernel
theorem dX12_init_226 : decode cX12_init 226 = .ok (.newarray .int, 2) := by decide +kernel
theorem dX12_init_228 : decode cX12_init 228 = .ok (.putfield 74, 3) := by decide +kernel
theorem dX12_init_231 : decode cX12_init 231 = .ok (.aload_n 0, 1) := by decide +kernel
theorem dX12_init_232 : decode cX12_init 232 = .ok (.iconst 5, 1) := by decide +kernel
theorem dX12_init_233 : decode cX12_init 233 = .ok (.bipush 64, 2) := by decide +kernel
theorem dX12_init_235 : decode cX12_init 235 = .ok (.multianewarray 9 2, 4) := by decide +kernel
theorem dX12_init_239 : decode cX12_init 239 = .ok (.putfield 77, 3) := by decide +kernel
theorem dX12_init_242 : decode cX12_init 242 = .ok (.aload_n 0, 1) := by decide +kernel
theorem dX12_init_243 : decode cX12_init 243 = .ok (.iconst 5, 1) := by decide +kernel
theorem dX12_init_244 : decode cX12_init 244 = .ok (.newarray .int, 2) := by decide +kernel
theorem dX12_init_246 : decode cX12_init 246 = .ok (.putfield 80, 3) := by decide +kernel
theorem dX12_init_249 : decode cX12_init 249 = .ok (.aload_n 0, 1) := by decide +kernel
theorem dX12_init_250 : decode cX12_init 250 = .ok (.bipush 32, 2) := by decide +kernel
theorem dX12_init_252 : decode cX12_init 252 = .ok (.newarray .int, 2) := by decide +kernel
theorem dX12_init_254 : decode cX12_init 254 = .ok (.putfield 83, 3) := by decide +kernel
theorem dX12_init_257 : decode cX12_init 257 = .ok (.aload_n 0, 1) := by decide +kernel
theorem dX12_init_258 : decode cX12_init 258 = .ok (.bipush 91, 2) := by decide +kernel
theorem dX12_init_260 : decode cX12_init 260 = .ok (.newarray .int, 2) := by decide +kernel
theorem dX12_init_262 : decode cX12_init 262 = .ok (.putfield 86, 3) := by decide +kernel
theorem dX12_init_265 : decode cX12_init 265 = .ok (.aload_n 0, 1) := by decide +kernel
theorem dX12_init_266 : decode cX12_init 266 = .ok (.iconst 2, 1) := by decide +kernel
theorem dX12_init_267 : decode cX12_init 267 = .ok (.newarray .int, 2) := by decide +kernel
theorem dX12_init_269 : decode cX12_init 269 = .ok (.putfield 89, 3) := by decide +kernel
theorem dX12_init_272 : decode cX12_init 272 = .ok (.return_, 1) := by decide +kernel
theorem dX11_init_0 : decode cX11_init 0 = .ok (.aload_n 0, 1) := by decide +kernel
theorem dX11_init_1 : decode cX11_init 1 = .ok (.invokespecial 1, 3) := by decide +kernel
theorem dX11_init_4 : decode cX11_init 4 = .ok (.aload_n 0, 1) := by decide +kernel
theorem dX11_init_5 : decode cX11_init 5 = .ok (.new 7, 3) := by decide +kernel
theorem dX11_init_8 : decode cX11_init 8 = .ok (.dup, 1) := by decide +kernel
theorem dX11_init_9 : decode cX11_init 9 = .ok (.invokespecial 9, 3) := by decide +kernel
theorem dX11_init_12 : decode cX11_init 12 = .ok (.putfield 10, 3) := by decide +kernel
theorem dX11_init_15 : decode cX11_init 15 = .ok (.aload_n 0, 1) := by decide +kernel
theorem dX11_init_16 : decode cX11_init 16 = .ok (.new 16, 3) := by decide +kernel
theorem dX11_init_19 : decode cX11_init 19 = .ok (.dup, 1) := by decide +kernel
theorem dX11_init_20 : decode cX11_init 20 = .ok (.aload_n 0, 1) := by decide +kernel
theorem dX11_init_21 : decode cX11_init 21 = .ok (.getfield 10, 3) := by decide +kernel
theorem dX11_init_24 : decode cX11_init 24 = .ok (.invokespecial 18, 3) := by decide +kernel
theorem dX11_init_27 : decode cX11_init 27 = .ok (.putfield 21, 3) := by decide +kernel
theorem dX11_init_30 : decode cX11_init 30 = .ok (.aload_n 0, 1) := by decide +kernel
theorem dX11_init_31 : decode cX11_init 31 = .ok (.new 25, 3) := by decide +kernel
theorem dX11_init_34 : decode cX11_init 34 = .ok (.dup, 1) := by decide +kernel
theorem dX11_init_35 : decode cX11_init 35 = .ok (.aload_n 0, 1) := by decide +kernel
theorem dX11_init_36 : decode cX11_init 36 = .ok (.getfield 21, 3) := by decide +kernel
theorem dX11_init_39 : decode cX11_init 39 = .ok (.invokespecial 27, 3) := by decide +kernel
theorem dX11_init_42 : decode cX11_init 42 = .ok (.putfield 30, 3) := by decide +kernel
theorem dX11_init_45 : decode cX11_init 45 = .ok (.aload_n 0, 1) := by decide +kernel
theorem dX11_init_46 : decode cX11_init 46 = .ok (.new 34, 3) := by decide +kernel
theorem dX11_init_49 : decode cX11_init 49 = .ok (.dup, 1) := by decide +kernel
theorem dX11_init_50 : decode cX11_init 50 = .ok (.aload_n 0, 1) := by decide +kernel
theorem dX11_init_51 : decode cX11_init 51 = .ok (.getfield 30, 3) := by decide +kernel
theorem dX11_init_54 : decode cX11_init 54 = .ok (.invokespecial 36, 3) := by decide +kernel
theorem dX11_init_57 : decode cX11_init 57 = .ok (.putfield 39, 3) := by decide +kernel
theorem dX11_init_60 : decode cX11_init 60 = .ok (.aload_n 0, 1) := by decide +kernel
theorem dX11_init_61 : decode cX11_init 61 = .ok (.new 43, 3) := by decide +kernel
theorem dX11_init_64 : decode cX11_init 64 = .ok (.dup, 1) := by decide +kernel
theorem dX11_init_65 : decode cX11_init 65 = .ok (.aload_n 0, 1) := by decide +kernel
theorem dX11_init_66 : decode cX11_init 66 = .ok (.getfield 21, 3) := by decide +kernel
theorem dX11_init_69 : decode cX11_init 69 = .ok (.aload_n 0, 1) := by decide +kernel
theorem dX11_init_70 : decode cX11_init 70 = .ok (.getfield 30, 3) := by decide +kernel
theorem dX11_init_73 : decode cX11_init 73 = .ok (.invokespecial 45, 3) := by decide +kernel
theorem dX11_init_76 : decode cX11_init 76 = .ok (.putfield 48, 3) := by decide +kernel
theorem dX11_init_79 : decode cX11_init 79 = .ok (.aload_n 0, 1) := by decide +kernel
theorem dX11_init_80 : decode cX11_init 80 = .ok (.new 52, 3) := by decide +kernel
theorem dX11_init_83 : decode cX11_init 83 = .ok (.dup, 1) := by decide +kernel
theorem dX11_init_84 : decode cX11_init 84 = .ok (.aload_n 0, 1) := by decide +kernel
theorem dX11_init_85 : decode cX11_init 85 = .ok (.getfield 48, 3) := by decide +kernel
theorem dX11_init_88 : decode cX11_init 88 = .ok (.invokespecial 54, 3) := by decide +kernel
theorem dX11_init_91 : decode cX11_init 91 = .ok (.putfield 57, 3) := by decide +kernel
theorem dX11_init_94 : decode cX11_init 94 = .ok (.aload_n 0, 1) := by decide +kernel
theorem dX11_init_95 : decode cX11_init 95 = .ok (.aload_n 0, 1) := by decide +kernel
theorem dX11_init_96 : decode cX11_init 96 = .ok (.getfield 21, 3) := by decide +kernel
theorem dX11_init_99 : decode cX11_init 99 = .ok (.bipush 12, 2) := by decide +kernel
theorem dX11_init_101 : decode cX11_init 101 = .ok (.invokevirtual 61, 3) := by decide +kernel
theorem dX11_init_104 : decode cX11_init 104 = .ok (.putfield 65, 3) := by decide +kernel
theorem dX11_init_107 : decode cX11_init 107 = .ok (.aload_n 0, 1) := by decide +kernel
theorem dX11_init_108 : decode cX11_init 108 = .ok (.bipush 12, 2) := by decide +kernel
theorem dX11_init_110 : decode cX11_init 110 = .ok (.newarray .boolean, 2) := by decide +kernel
theorem dX11_init_112 : decode cX11_init 112 = .ok (.putfield 69, 3) := by decide +kernel
theorem dX11_init_115 : decode cX11_init 115 = .ok (.aload_n 0, 1) := by decide +kernel
theorem dX11_init_116 : decode cX11_init 116 = .ok (.bipush 8, 2) := by decide +kernel
theorem dX11_init_118 : decode cX11_init 118 = .ok (.anewarray 73, 3) := by decide +kernel
theorem dX11_init_121 : decode cX11_init 121 = .ok (.putfield 75, 3) := by decide +kernel
theorem dX11_init_124 : decode cX11_init 124 = .ok (.aload_n 0, 1) := by decide +kernel
theorem dX11_init_125 : decode cX11_init 125 = .ok (.iconst 5, 1) := by decide +kernel
theorem dX11_init_126 : decode cX11_init 126 = .ok (.newarray .int, 2) := by decide +kernel
theorem dX11_init_128 : decode cX11_init 128 = .ok (.putfield 79, 3) := by decide +kernel
theorem dX11_init_131 : decode cX11_init 131 = .ok (.aload_n 0, 1) := by decide +kernel
theorem dX11_init_132 : decode cX11_init 132 = .ok (.new 83, 3) := by decide +kernel
theorem dX11_init_135 : decode cX11_init 135 = .ok (.dup, 1) := by decide +kernel
theorem dX11_init_136 : decode cX11_init 136 = .ok (.iconst (-1), 1) := by decide +kernel
theorem dX11_init_137 : decode cX11_init 137 = .ok (.aload_n 0, 1) := by decide +kernel
theorem dX11_init_138 : decode cX11_init 138 = .ok (.getfield 21, 3) := by decide +kernel
theorem dX11_init_141 : decode cX11_init 141 = .ok (.invokespecial 85, 3) := by decide +kernel
theorem dX11_init_144 : decode cX11_init 144 = .ok (.putfield 88, 3) := by decide +kernel
theorem dX11_init_147 : decode cX11_init 147 = .ok (.iconst 0, 1) := by decide +kernel
theorem dX11_init_148 : decode cX11_init 148 = .ok (.istore_n 1, 1) := by decide +kernel
theorem dX11_init_149 : decode cX11_init 149 = .ok (.iload_n 1, 1) := by decide +kernel
theorem dX11_init_150 : decode cX11_init 150 = .ok (.aload_n 0, 1) := by decide +kernel
theorem dX11_init_151 : decode cX11_init 151 = .ok (.getfield 75, 3) := by decide +kernel
theorem dX11_init_154 : decode cX11_init 154 = .ok (.arraylength, 1) := by decide +kernel
theorem dX11_init_155 : decode cX11_init 155 = .ok (.if_icmp .ge 22, 3) := by decide +kernel
theorem dX11_init_158 : decode cX11_init 158 = .ok (.aload_n 0, 1) := by decide +kernel
theorem dX11_init_159 : decode cX11_init 159 = .ok (.getfield 75, 3) := by decide +kernel
theorem dX11_init_162 : decode cX11_init 162 = .ok (.iload_n 1, 1) := by decide +kernel
theorem dX11_init_163 : decode cX11_init 163 = .ok (.new 73, 3) := by decide +kernel
theorem dX11_init_166 : decode cX11_init 166 = .ok (.dup, 1) := by decide +kernel
theorem dX11_init_167 : decode cX11_init 167 = .ok (.invokespecial 92, 3) := by decide +kernel
theorem dX11_init_170 : decode cX11_init 170 = .ok (.aastore, 1) := by decide +kernel
theorem dX11_init_171 : decode cX11_init 171 = .ok (.iinc 1 1, 3) := by decide +kernel
theorem dX11_init_174 : decode cX11_init 174 = .ok (.goto (-25), 3) := by decide +kernel
theorem dX11_init_177 : decode cX11_init 177 = .ok (.aload_n 0, 1) := by decide +kernel
theorem dX11_init_178 : decode cX11_init 178 = .ok (.getfield 21, 3) := by decide +kernel
theorem dX11_init_181 : decode cX11_init 181 = .ok (.bipush 90, 2) := by decide +kernel
theorem dX11_init_183 : decode cX11_init 183 = .ok (.invokevirtual 61, 3) := by decide +kernel
theorem dX11_init_186 : decode cX11_init 186 = .ok (.istore_n 1, 1) := by decide +kernel
theorem dX11_init_187 : decode cX11_init 187 = .ok (.bipush 90, 2) := by decide +kernel
theorem dX11_init_189 : decode cX11_init 189 = .ok (.newarray .int, 2) := by decide +kernel
theorem dX11_init_191 : decode cX11_init 191 = .ok (.astore_n 2, 1) := by decide +kernel
theorem dX11_init_192 : decode cX11_init 192 = .ok (.aload_n 0, 1) := by decide +kernel
theorem dX11_init_193 : decode cX11_init 193 = .ok (.new 93, 3) := by decide +kernel
theorem dX11_init_196 : decode cX11_init 196 = .ok (.dup, 1) := by decide +kernel
theorem dX11_init_197 : decode cX11_init 197 = .ok (.aload_n 0, 1) := by decide +kernel
theorem dX11_init_198 : decode cX11_init 198 = .ok (.getfield 21, 3) := by decide +kernel
theorem dX11_init_201 : decode cX11_init 201 = .ok (.iload_n 1, 1) := by decide +kernel
theorem dX11_init_202 : decode cX11_init 202 = .ok (.aload_n 2, 1) := by decide +kernel
theorem dX11_init_203 : decode cX11_init 203 = .ok (.invokespecial 95, 3) := by decide +kernel
theorem dX11_init_206 : decode cX11_init 206 = .ok (.putfield 98, 3) := by decide +kernel
theorem dX11_init_209 : decode cX11_init 209 = .ok (.aload_n 0, 1) := by decide +kernel
theorem dX11_init_210 : decode cX11_init 210 = .ok (.new 93, 3) := by decide +kernel
theorem dX11_init_213 : decode cX11_init 213 = .ok (.dup, 1) := by decide +kernel
theorem dX11_init_214 : decode cX11_init 214 = .ok (.aload_n 0, 1) := by decide +kernel
theorem dX11_init_215 : decode cX11_init 215 = .ok (.getfield 21, 3) := by decide +kernel
theorem dX11_init_218 : decode cX11_init 218 = .ok (.iload_n 1, 1) := by decide +kernel
theorem dX11_init_219 : decode cX11_init 219 = .ok (.aload_n 2, 1) := by decide +kernel
theorem dX11_init_220 : decode cX11_init 220 = .ok (.invokespecial 95, 3) := by decide +kernel
theorem dX11_init_223 : decode cX11_init 223 = .ok (.putfield 102, 3) := by decide +kernel
theorem dX11_init_226 : decode cX11_init 226 = .ok (.return_, 1) := by decide +kernel
theorem dX12_days_0 : decode cX12_days 0 = .ok (.iload_n 1, 1) := by decide +kernel
theorem dX12_days_1 : decode cX12_days 1 = .ok (.i2l, 1) := by decide +kernel
theorem dX12_days_2 : decode cX12_days 2 = .ok (.lconst 1, 1) := by decide +kernel
theorem dX12_days_3 : decode cX12_days 3 = .ok (.ldc2_w 350, 3) := by decide +kernel
theorem dX12_days_6 : decode cX12_days 6 = .ok (.invokestatic 175, 3) := by decide +kernel
theorem dX12_days_9 : decode cX12_days 9 = .ok (.ifCond .ne 10, 3) := by decide +kernel
theorem dX12_days_12 : decode cX12_days 12 = .ok (.aload_n 0, 1) := by decide +kernel
theorem dX12_days_13 : decode cX12_days 13 = .ok (.bipush (-2), 2) := by decide +kernel
theorem dX12_days_15 : decode cX12_days 15 = .ok (.invokevirtual 183, 3) := by decide +kernel
theorem dX12_days_18 : decode cX12_days 18 = .ok (.ireturn, 1) := by decide +kernel
theorem dX12_days_19 : decode cX12_days 19 = .ok (.iconst 0, 1) := by decide +kernel
theorem dX12_days_20 : decode cX12_days 20 = .ok (.istore_n 2, 1) := by decide +kernel
theorem dX12_days_21 : decode cX12_days 21 = .ok (.iconst 0, 1) := by decide +kernel
theorem dX12_days_22 : decode cX12_days 22 = .ok (.istore_n 3, 1) := by decide +kernel
theorem dX12_days_23 : decode cX12_days 23 = .ok (.iload_n 3, 1) := by decide +kernel
theorem dX12_days_24 : decode cX12_days 24 = .ok (.iload_n 1, 1) := by decide +kernel
theorem dX12_days_25 : decode cX12_days 25 = .ok (.if_icmp .ge 39, 3) := by decide +kernel
theorem dX12_days_28 : decode cX12_days 28 = .ok (.aload_n 0, 1) := by decide +kernel
theorem dX12_days_29 : decode cX12_days 29 = .ok (.iconst 4, 1) := by decide +kernel
theorem dX12_days_30 : decode cX12_days 30 = .ok (.invokevirtual 347, 3) := by decide +kernel
theorem dX12_days_33 : decode cX12_days 33 = .ok (.istore 4, 2) := by decide +kernel
theorem dX12_days_35 : decode cX12_days 35 = .ok (.iload_n 2, 1) := by decide +kernel
theorem dX12_days_36 : decode cX12_days 36 = .ok (.aload_n 0, 1) := by decide +kernel
theorem dX12_days_37 : decode cX12_days 37 = .ok (.iload 4, 2) := by decide +kernel
theorem dX12_days_39 : decode cX12_days 39 = .ok (.aload_n 0, 1) := by decide +kernel
theorem dX12_days_40 : decode cX12_days 40 = .ok (.bipush 8, 2) := by decide +kernel
theorem dX12_days_42 : decode cX12_days 42 = .ok (.invokevirtual 347, 3) := by decide +kernel
theorem dX12_days_45 : decode cX12_days 45 = .ok (.invokevirtual 352, 3) := by decide +kernel
theorem dX12_days_48 : decode cX12_days 48 = .ok (.ifCond .eq 7, 3) := by decide +kernel
theorem dX12_days_51 : decode cX12_days 51 = .ok (.iconst 1, 1) := by decide +kernel
theorem dX12_days_52 : decode cX12_days 52 = .ok (.goto 4, 3) := by decide +kernel
theorem dX12_days_55 : decode cX12_days 55 = .ok (.iconst 0, 1) := by decide +kernel
theorem dX12_days_56 : decode cX12_days 56 = .ok (.iadd, 1) := by decide +kernel
theorem dX12_days_57 : decode cX12_days 57 = .ok (.istore_n 2, 1) := by decide +kernel
theorem dX12_days_58 : decode cX12_days 58 = .ok (.iinc 3 1, 3) := by decide +kernel
theorem dX12_days_61 : decode cX12_days 61 = .ok (.goto (-38), 3) := by decide +kernel
theorem dX12_days_64 : decode cX12_days 64 = .ok (.iload_n 2, 1) := by decide +kernel
theorem dX12_days_65 : decode cX12_days 65 = .ok (.ireturn, 1) := by decide +kernel
theorem dX11_days_0 : decode cX11_days 0 = .ok (.iload_n 1, 1) := by decide +kernel
theorem dX11_days_1 : decode cX11_days 1 = .ok (.iconst 1, 1) := by decide +kernel
theorem dX11_days_2 : decode cX11_days 2 = .ok (.if_icmp .lt 9, 3) := by decide +kernel
theorem dX11_days_5 : decode cX11_days 5 = .ok (.iload_n 1, 1) := by decide +kernel
theorem dX11_days_6 : decode cX11_days 6 = .ok (.bipush 60, 2) := by decide +kernel
theorem dX11_days_8 : decode cX11_days 8 = .ok (.if_icmp .le 10, 3) := by decide +kernel
theorem dX11_days_11 : decode cX11_days 11 = .ok (.aload_n 0, 1) := by decide +kernel
theorem dX11_days_12 : decode cX11_days 12 = .ok (.bipush (-2), 2) := by decide +kernel
theorem dX11_days_14 : decode cX11_days 14 = .ok (.invokevirtual 109, 3) := by decide +kernel
theorem dX11_days_17 : decode cX11_days 17 = .ok (.ireturn, 1) := by decide +kernel
theorem dX11_days_18 : decode cX11_days 18 = .ok (.iconst 0, 1) := by decide +kernel
theorem dX11_days_19 : decode cX11_days 19 = .ok (.istore_n 2, 1) := by decide +kernel
theorem dX11_days_20 : decode cX11_days 20 = .ok (.iconst 0, 1) := by decide +kernel
theorem dX11_days_21 : decode cX11_days 21 = .ok (.istore_n 3, 1) := by decide +kernel
theorem dX11_days_22 : decode cX11_days 22 = .ok (.iload_n 3, 1) := by decide +kernel
theorem dX11_days_23 : decode cX11_days 23 = .ok (.iload_n 1, 1) := by decide +kernel
theorem dX11_days_24 : decode cX11_days 24 = .ok (.if_icmp .ge 230, 3) := by decide +kernel
theorem dX11_days_27 : decode cX11_days 27 = .ok (.aload_n 0, 1) := by decide +kernel
theorem dX11_days_28 : decode cX11_days 28 = .ok (.getfield 98, 3) := by decide +kernel
theorem dX11_days_31 : decode cX11_days 31 = .ok (.ldc2_w 379, 3) := by decide +kernel
theorem dX11_days_34 : decode cX11_days 34 = .ok (.invokevirtual 381, 3) := by decide +kernel
theorem dX11_days_37 : decode cX11_days 37 = .ok (.l2i, 1) := by decide +kernel
theorem dX11_days_38 : decode cX11_days 38 = .ok (.istore 4, 2) := by decide +kernel
theorem dX11_days_40 : decode cX11_days 40 = .ok (.aload_n 0, 1) := by decide +kernel
theorem dX11_days_41 : decode cX11_days 41 = .ok (.getfield 98, 3) := by decide +kernel
theorem dX11_days_44 : decode cX11_days 44 = .ok (.ldc2_w 385, 3) := by decide +kernel
theorem dX11_days_47 : decode cX11_days 47 = .ok (.invokevirtual 381, 3) := by decide +kernel
theorem dX11_days_50 : decode cX11_days 50 = .ok (.l2i, 1) := by decide +kernel
theorem dX11_days_51 : decode cX11_days 51 = .ok (.istore 5, 2) := by decide +kernel
theorem dX11_days_53 : decode cX11_days 53 = .ok (.aload_n 0, 1) := by decide +kernel
theorem dX11_days_54 : decode cX11_days 54 = .ok (.getfield 98, 3) := by decide +kernel
theorem dX11_days_57 : decode cX11_days 57 = .ok (.iload 4, 2) := by decide +kernel
theorem dX11_days_59 : decode cX11_days 59 = .ok (.invokevirtual 254, 3) := by decide +kernel
theorem dX11_days_62 : decode cX11_days 62 = .ok (.astore 6, 2) := by decide +kernel
theorem dX11_days_64 : decode cX11_days 64 = .ok (.aload_n 0, 1) := by decide +kernel
theorem dX11_days_65 : decode cX11_days 65 = .ok (.aload_n 0, 1) := by decide +kernel
theorem dX11_days_66 : decode cX11_days 66 = .ok (.getfield 98, 3) := by decide +kernel
theorem dX11_days_69 : decode cX11_days 69 = .ok (.iload 4, 2) := by decide +kernel
theorem dX11_days_71 : decode cX11_days 71 = .ok (.invokevirtual 274, 3) := by decide +kernel
theorem dX11_days_74 : decode cX11_days 74 = .ok (.invokevirtual 208, 3) := by decide +kernel
theorem dX11_days_77 : decode cX11_days 77 = .ok (.pop, 1) := by decide +kernel
theorem dX11_days_78 : decode cX11_days 78 = .ok (.aload 6, 2) := by decide +kernel
theorem dX11_days_80 : decode cX11_days 80 = .ok (.ifnull 20, 3) := by decide +kernel
theorem dX11_days_83 : decode cX11_days 83 = .ok (.iload 5, 2) := by decide +kernel
theorem dX11_days_85 : decode cX11_days 85 = .ok (.iconst 5, 1) := by decide +kernel
theorem dX11_days_86 : decode cX11_days 86 = .ok (.if_icmp .ne 14, 3) := by decide +kernel
theorem dX11_days_89 : decode cX11_days 89 = .ok (.aload_n 0, 1) := by decide +kernel
theorem dX11_days_90 : decode cX11_days 90 = .ok (.aload 6, 2) := by decide +kernel
theorem dX11_days_92 : decode cX11_days 92 = .ok (.iconst 0, 1) := by decide +kernel
theorem dX11_days_93 : decode cX11_days 93 = .ok (.invokevirtual 304, 3) := by decide +kernel
theorem dX11_days_96 : decode cX11_days 96 = .ok (.invokevirtual 208, 3) := by decide +kernel
theorem dX11_days_99 : decode cX11_days 99 = .ok (.pop, 1) := by decide +kernel
theorem dX11_days_100 : decode cX11_days 100 = .ok (.aload 6, 2) := by decide +kernel
theorem dX11_days_102 : decode cX11_days 102 = .ok (.ifnull 146, 3) := by decide +kernel
theorem dX11_days_105 : decode cX11_days 105 = .ok (.aload_n 0, 1) := by decide +kernel
theorem dX11_days_106 : decode cX11_days 106 = .ok (.aload 6, 2) := by decide +kernel
theorem dX11_days_108 : decode cX11_days 108 = .ok (.iload 5, 2) := by decide +kernel
theorem dX11_days_110 : decode cX11_days 110 = .ok (.invokevirtual 387, 3) := by decide +kernel
theorem dX11_days_113 : decode cX11_days 113 = .ok (.ifCond .ne 6, 3) := by decide +kernel
theorem dX11_days_116 : decode cX11_days 116 = .ok (.goto 132, 3) := by decide +kernel
theorem dX11_days_119 : decode cX11_days 119 = .ok (.aload_n 0, 1) := by decide +kernel
theorem dX11_days_120 : decode cX11_days 120 = .ok (.getfield 88, 3) := by decide +kernel
theorem dX11_days_123 : decode cX11_days 123 = .ok (.aload 6, 2) := by decide +kernel
theorem dX11_days_125 : decode cX11_days 125 = .ok (.invokevirtual 283, 3) := by decide +kernel
theorem dX11_days_128 : decode cX11_days 128 = .ok (.iload 5, 2) := by decide +kernel
theorem dX11_days_130 : decode cX11_days 130 = .ok (.iconst 4, 1) := by decide +kernel
theorem dX11_days_131 : decode cX11_days 131 = .ok (.if_icmp .gt 30, 3) := by decide +kernel
theorem dX11_days_134 : decode cX11_days 134 = .ok (.aload_n 0, 1) := by decide +kernel
theorem dX11_days_135 : decode cX11_days 135 = .ok (.aload 6, 2) := by decide +kernel
theorem dX11_days_137 : decode cX11_days 137 = .ok (.iload 5, 2) := by decide +kernel
theorem dX11_days_139 : decode cX11_days 139 = .ok (.invokevirtual 391, 3) := by decide +kernel
theorem dX11_days_142 : decode cX11_days 142 = .ok (.aload 6, 2) := by decide +kernel
theorem dX11_days_144 : decode cX11_days 144 = .ok (.iconst 1, 1) := by decide +kernel
theorem dX11_days_145 : decode cX11_days 145 = .ok (.invokevirtual 287, 3) := by decide +kernel
theorem dX11_days_148 : decode cX11_days 148 = .ok (.aload 6, 2) := by decide +kernel
theorem dX11_days_150 : decode cX11_days 150 = .ok (.iconst 0, 1) := by decide +kernel
theorem dX11_days_151 : decode cX11_days 151 = .ok (.aload_n 0, 1) := by decide +kernel
theorem dX11_days_152 : decode cX11_days 152 = .ok (.getfield 48, 3) := by decide +kernel
theorem dX11_days_155 : decode cX11_days 155 = .ok (.invokevirtual 290, 3) := by decide +kernel
theorem dX11_days_158 : decode cX11_days 158 = .ok (.goto 78, 3) := by decide +kernel
theorem dX11_days_161 : decode cX11_days 161 = .ok (.iload 5, 2) := by decide +kernel
theorem dX11_days_163 : decode cX11_days 163 = .ok (.iconst 5, 1) := by decide +kernel
theorem dX11_days_164 : decode cX11_days 164 = .ok (.if_icmp .ne 26, 3) := by decide +kernel
theorem dX11_days_167 : decode cX11_days 167 = .ok (.aload 6, 2) := by decide +kernel
theorem dX11_days_169 : decode cX11_days 169 = .ok (.iconst 0, 1) := by decide +kernel
theorem dX11_days_170 : decode cX11_days 170 = .ok (.aload_n 0, 1) := by decide +kernel
theorem dX11_days_171 : decode cX11_days 171 = .ok (.getfield 48, 3) := by decide +kernel
theorem dX11_days_174 : decode cX11_days 174 = .ok (.invokevirtual 311, 3) := by decide +kernel
theorem dX11_days_177 : decode cX11_days 177 = .ok (.aload 6, 2) := by decide +kernel
theorem dX11_days_179 : decode cX11_days 179 = .ok (.iconst 1, 1) := by decide +kernel
theorem dX11_days_180 : decode cX11_days 180 = .ok (.aload_n 0, 1) := by decide +kernel
theorem dX11_days_181 : decode cX11_days 181 = .ok (.getfield 48, 3) := by decide +kernel
theorem dX11_days_184 : decode cX11_days 184 = .ok (.invokevirtual 290, 3) := by decide +kernel
theorem dX11_days_187 : decode cX11_days 187 = .ok (.goto 49, 3) := by decide +kernel
theorem dX11_days_190 : decode cX11_days 190 = .ok (.iload 5, 2) := by decide +kernel
theorem dX11_days_192 : decode cX11_days 192 = .ok (.bipush 6, 2) := by decide +kernel
theorem dX11_days_194 : decode cX11_days 194 = .ok (.if_icmp .ne 19, 3) := by decide +kernel
theorem dX11_days_197 : decode cX11_days 197 = .ok (.aload_n 0, 1) := by decide +kernel
theorem dX11_days_198 : decode cX11_days 198 = .ok (.getfield 98, 3) := by decide +kernel
theorem dX11_days_201 : decode cX11_days 201 = .ok (.iload 4, 2) := by decide +kernel
theorem dX11_days_203 : decode cX11_days 203 = .ok (.aload_n 0, 1) := by decide +kernel
theorem dX11_days_204 : decode cX11_days 204 = .ok (.getfield 48, 3) := by decide +kernel
theorem dX11_days_207 : decode cX11_days 207 = .ok (.invokevirtual 330, 3) := by decide +kernel
theorem dX11_days_210 : decode cX11_days 210 = .ok (.goto 26, 3) := by decide +kernel
theorem dX11_days_213 : decode cX11_days 213 = .ok (.aload 6, 2) := by decide +kernel
theorem dX11_days_215 : decode cX11_days 215 = .ok (.aload_n 0, 1) := by decide +kernel
theorem dX11_days_216 : decode cX11_days 216 = .ok (.getfield 98, 3) := by decide +kernel
theorem dX11_days_219 : decode cX11_days 219 = .ok (.getfield 336, 3) := by decide +kernel
theorem dX11_days_222 : decode cX11_days 222 = .ok (.aload_n 0, 1) := by decide +kernel
theorem dX11_days_223 : decode cX11_days 223 = .ok (.getfield 98, 3) := by decide +kernel
theorem dX11_days_226 : decode cX11_days 226 = .ok (.getfield 339, 3) := by decide +kernel
theorem dX11_days_229 : decode cX11_days 229 = .ok (.aload_n 0, 1) := by decide +kernel
theorem dX11_days_230 : decode cX11_days 230 = .ok (.getfield 48, 3) := by decide +kernel
theorem dX11_days_233 : decode cX11_days 233 = .ok (.invokevirtual 342, 3) := by decide +kernel
theorem dX11_days_236 : decode cX11_days 236 = .ok (.aload_n 0, 1) := by decide +kernel
theorem dX11_days_237 : decode cX11_days 237 = .ok (.aload 6, 2) := by decide +kernel
theorem dX11_days_239 : decode cX11_days 239 = .ok (.invokevirtual 294, 3) := by decide +kernel
theorem dX11_days_242 : decode cX11_days 242 = .ok (.ifCond .ne 6, 3) := by decide +kernel
theorem dX11_days_245 : decode cX11_days 245 = .ok (.iinc 2 1, 3) := by decide +kernel
theorem dX11_days_248 : decode cX11_days 248 = .ok (.iinc 3 1, 3) := by decide +kernel
theorem dX11_days_251 : decode cX11_days 251 = .ok (.goto (-229), 3) := by decide +kernel
theorem dX11_days_254 : decode cX11_days 254 = .ok (.iload_n 2, 1) := by decide +kernel
theorem dX11_days_255 : decode cX11_days 255 = .ok (.ireturn, 1) := by decide +kernel
theorem dX11_apart_0 : decode cX11_apart 0 = .ok (.aload_n 0, 1) := by decide +kernel
theorem dX11_apart_1 : decode cX11_apart 1 = .ok (.getfield 98, 3) := by decide +kernel
theorem dX11_apart_4 : decode cX11_apart 4 = .ok (.iload_n 1, 1) := by decide +kernel
theorem dX11_apart_5 : decode cX11_apart 5 = .ok (.invokevirtual 364, 3) := by decide +kernel
theorem dX11_apart_8 : decode cX11_apart 8 = .ok (.ifCond .eq 14, 3) := by decide +kernel
theorem dX11_apart_11 : decode cX11_apart 11 = .ok (.aload_n 0, 1) := by decide +kernel
theorem dX11_apart_12 : decode cX11_apart 12 = .ok (.getfield 98, 3) := by decide +kernel
theorem dX11_apart_15 : decode cX11_apart 15 = .ok (.iload_n 2, 1) := by decide +kernel
theorem dX11_apart_16 : decode cX11_apart 16 = .ok (.invokevirtual 364, 3) := by decide +kernel
theorem dX11_apart_19 : decode cX11_apart 19 = .ok (.ifCond .ne 10, 3) := by decide +kernel
theorem dX11_apart_22 : decode cX11_apart 22 = .ok (.aload_n 0, 1) := by decide +kernel
theorem dX11_apart_23 : decode cX11_apart 23 = .ok (.bipush (-2), 2) := by decide +kernel
theorem dX11_apart_25 : decode cX11_apart 25 = .ok (.invokevirtual 109, 3) := by decide +kernel
theorem dX11_apart_28 : decode cX11_apart 28 = .ok (.ireturn, 1) := by decide +kernel
theorem dX11_apart_29 : decode cX11_apart 29 = .ok (.aload_n 0, 1) := by decide +kernel
theorem dX11_apart_30 : decode cX11_apart 30 = .ok (.aload_n 0, 1) := by decide +kernel
theorem dX11_apart_31 : decode cX11_apart 31 = .ok (.getfield 98, 3) := by decide +kernel
theorem dX11_apart_34 : decode cX11_apart 34 = .ok (.iload_n 1, 1) := by decide +kernel
theorem dX11_apart_35 : decode cX11_apart 35 = .ok (.invokevirtual 274, 3) := by decide +kernel
theorem dX11_apart_38 : decode cX11_apart 38 = .ok (.invokevirtual 158, 3) := by decide +kernel
theorem dX11_apart_41 : decode cX11_apart 41 = .ok (.istore_n 3, 1) := by decide +kernel
theorem dX11_apart_42 : decode cX11_apart 42 = .ok (.aload_n 0, 1) := by decide +kernel
theorem dX11_apart_43 : decode cX11_apart 43 = .ok (.getfield 21, 3) := by decide +kernel
theorem dX11_apart_46 : decode cX11_apart 46 = .ok (.aload_n 0, 1) := by decide +kernel
theorem dX11_apart_47 : decode cX11_apart 47 = .ok (.getfield 48, 3) := by decide +kernel
theorem dX11_apart_50 : decode cX11_apart 50 = .ok (.getfield 195, 3) := by decide +kernel
theorem dX11_apart_53 : decode cX11_apart 53 = .ok (.iconst 4, 1) := by decide +kernel
theorem dX11_apart_54 : decode cX11_apart 54 = .ok (.iadd, 1) := by decide +kernel
theorem dX11_apart_55 : decode cX11_apart 55 = .ok (.iload_n 3, 1) := by decide +kernel
theorem dX11_apart_56 : decode cX11_apart 56 = .ok (.invokevirtual 261, 3) := by decide +kernel
theorem dX11_apart_59 : decode cX11_apart 59 = .ok (.aload_n 0, 1) := by decide +kernel
theorem dX11_apart_60 : decode cX11_apart 60 = .ok (.aload_n 0, 1) := by decide +kernel
theorem dX11_apart_61 : decode cX11_apart 61 = .ok (.getfield 98, 3) := by decide +kernel
theorem dX11_apart_64 : decode cX11_apart 64 = .ok (.iload_n 2, 1) := by decide +kernel
theorem dX11_apart_65 : decode cX11_apart 65 = .ok (.invokevirtual 274, 3) := by decide +kernel
theorem dX11_apart_68 : decode cX11_apart 68 = .ok (.invokevirtual 158, 3) := by decide +kernel
theorem dX11_apart_71 : decode cX11_apart 71 = .ok (.istore 4, 2) := by decide +kernel
theorem dX11_apart_73 : decode cX11_apart 73 = .ok (.aload_n 0, 1) := by decide +kernel
theorem dX11_apart_74 : decode cX11_apart 74 = .ok (.getfield 21, 3) := by decide +kernel
theorem dX11_apart_77 : decode cX11_apart 77 = .ok (.aload_n 0, 1) := by decide +kernel
theorem dX11_apart_78 : decode cX11_apart 78 = .ok (.getfield 48, 3) := by decide +kernel
theorem dX11_apart_81 : decode cX11_apart 81 = .ok (.getfield 195, 3) := by decide +kernel
theorem dX11_apart_84 : decode cX11_apart 84 = .ok (.bipush 6, 2) := by decide +kernel
theorem dX11_apart_86 : decode cX11_apart 86 = .ok (.invokevirtual 201, 3) := by decide +kernel
theorem dX11_apart_89 : decode cX11_apart 89 = .ok (.aload_n 0, 1) := by decide +kernel
theorem dX11_apart_90 : decode cX11_apart 90 = .ok (.getfield 39, 3) := by decide +kernel
theorem dX11_apart_93 : decode cX11_apart 93 = .ok (.iload_n 3, 1) := by decide +kernel
theorem dX11_apart_94 : decode cX11_apart 94 = .ok (.iload 4, 2) := by decide +kernel
theorem dX11_apart_96 : decode cX11_apart 96 = .ok (.invokevirtual 367, 3) := by decide +kernel
theorem dX11_apart_99 : decode cX11_apart 99 = .ok (.invokestatic 215, 3) := by decide +kernel
theorem dX11_apart_102 : decode cX11_apart 102 = .ok (.ireturn, 1) := by decide +kernel
theorem dX11_back_0 : decode cX11_back 0 = .ok (.aload_n 0, 1) := by decide +kernel
theorem dX11_back_1 : decode cX11_back 1 = .ok (.getfield 403, 3) := by decide +kernel
theorem dX11_back_4 : decode cX11_back 4 = .ok (.ifCond .ne 10, 3) := by decide +kernel
theorem dX11_back_7 : decode cX11_back 7 = .ok (.aload_n 0, 1) := by decide +kernel
theorem dX11_back_8 : decode cX11_back 8 = .ok (.bipush (-5), 2) := by decide +kernel
theorem dX11_back_10 : decode cX11_back 10 = .ok (.invokevirtual 109, 3) := by decide +kernel
theorem dX11_back_13 : decode cX11_back 13 = .ok (.ireturn, 1) := by decide +kernel
theorem dX11_behind_0 : decode cX11_behind 0 = .ok (.iload_n 1, 1) := by decide +kernel
theorem dX11_behind_1 : decode cX11_behind 1 = .ok (.invokestatic 146, 3) := by decide +kernel
theorem dX11_behind_4 : decode cX11_behind 4 = .ok (.ifCond .eq 17, 3) := by decide +kernel
theorem dX11_behind_7 : decode cX11_behind 7 = .ok (.iload_n 2, 1) := by decide +kernel
theorem dX11_behind_8 : decode cX11_behind 8 = .ok (.invokestatic 146, 3) := by decide +kernel
theorem dX11_behind_11 : decode cX11_behind 11 = .ok (.ifCond .eq 10, 3) := by decide +kernel
theorem dX11_behind_14 : decode cX11_behind 14 = .ok (.iload_n 3, 1) := by decide +kernel
theorem dX11_behind_15 : decode cX11_behind 15 = .ok (.invokestatic 146, 3) := by decide +kernel
theorem dX11_behind_18 : decode cX11_behind 18 = .ok (.ifCond .ne 10, 3) := by decide +kernel
theorem dX11_behind_21 : decode cX11_behind 21 = .ok (.aload_n 0, 1) := by decide +kernel
theorem dX11_behind_22 : decode cX11_behind 22 = .ok (.bipush (-2), 2) := by decide +kernel
theorem dX11_behind_24 : decode cX11_behind 24 = .ok (.invokevirtual 109, 3) := by decide +kernel
theorem dX11_behind_27 : decode cX11_behind 27 = .ok (.ireturn, 1) := by decide +kernel
theorem dX11_behind_28 : decode cX11_behind 28 = .ok (.aload_n 0, 1) := by decide +kernel
theorem dX11_behind_29 : decode cX11_behind 29 = .ok (.iload_n 2, 1) := by decide +kernel
theorem dX11_behind_30 : decode cX11_behind 30 = .ok (.invokevirtual 153, 3) := by decide +kernel
theorem dX11_behind_33 : decode cX11_behind 33 = .ok (.ifCond .eq 11, 3) := by decide +kernel
theorem dX11_behind_44 : decode cX11_behind 44 = .ok (.aload_n 0, 1) := by decide +kernel
theorem dX11_behind_45 : decode cX11_behind 45 = .ok (.bipush (-4), 2) := by decide +kernel
theorem dX11_behind_47 : decode cX11_behind 47 = .ok (.invokevirtual 109, 3) := by decide +kernel
theorem dX11_behind_50 : decode cX11_behind 50 = .ok (.ireturn, 1) := by decide +kernel
theorem dX11_clientOf_0 : decode cX11_clientOf 0 = .ok (.aload_n 0, 1) := by decide +kernel
theorem dX11_clientOf_1 : decode cX11_clientOf 1 = .ok (.getfield 98, 3) := by decide +kernel
theorem dX11_clientOf_4 : decode cX11_clientOf 4 = .ok (.iload_n 1, 1) := by decide +kernel
theorem dX11_clientOf_5 : decode cX11_clientOf 5 = .ok (.invokevirtual 254, 3) := by decide +kernel
theorem dX11_clientOf_8 : decode cX11_clientOf 8 = .ok (.astore_n 3, 1) := by decide +kernel
theorem dX11_clientOf_9 : decode cX11_clientOf 9 = .ok (.aload_n 3, 1) := by decide +kernel
theorem dX11_clientOf_10 : decode cX11_clientOf 10 = .ok (.ifnull 13, 3) := by decide +kernel
theorem dX11_clientOf_13 : decode cX11_clientOf 13 = .ok (.iload_n 2, 1) := by decide +kernel
theorem dX11_clientOf_14 : decode cX11_clientOf 14 = .ok (.ifCond .lt 9, 3) := by decide +kernel
theorem dX11_clientOf_17 : decode cX11_clientOf 17 = .ok (.iload_n 2, 1) := by decide +kernel
theorem dX11_clientOf_18 : decode cX11_clientOf 18 = .ok (.bipush 6, 2) := by decide +kernel
theorem dX11_clientOf_20 : decode cX11_clientOf 20 = .ok (.if_icmp .le 10, 3) := by decide +kernel
theorem dX11_clientOf_23 : decode cX11_clientOf 23 = .ok (.aload_n 0, 1) := by decide +kernel
theorem dX11_clientOf_24 : decode cX11_clientOf 24 = .ok (.bipush (-2), 2) := by decide +kernel
theorem dX11_clientOf_26 : decode cX11_clientOf 26 = .ok (.invokevirtual 109, 3) := by decide +kernel
theorem dX11_clientOf_29 : decode cX11_clientOf 29 = .ok (.ireturn, 1) := by decide +kernel
theorem dX11_clientOf_30 : decode cX11_clientOf 30 = .ok (.iload_n 2, 1) := by decide +kernel
theorem dX11_clientOf_31 : decode cX11_clientOf 31 = .ok (.tableswitch 97 0 5 #[37, 62, 42, 62, 85, 91], 37) := by decide +kernel
theorem dX11_clientOf_68 : decode cX11_clientOf 68 = .ok (.aload_n 3, 1) := by decide +kernel
theorem dX11_clientOf_69 : decode cX11_clientOf 69 = .ok (.getfield 333, 3) := by decide +kernel
theorem dX11_clientOf_72 : decode cX11_clientOf 72 = .ok (.ireturn, 1) := by decide +kernel
theorem dX11_clientOf_73 : decode cX11_clientOf 73 = .ok (.aload_n 3, 1) := by decide +kernel
theorem dX11_clientOf_74 : decode cX11_clientOf 74 = .ok (.getfield 349, 3) := by decide +kernel
theorem dX11_clientOf_77 : decode cX11_clientOf 77 = .ok (.ifCond .eq 14, 3) := by decide +kernel
theorem dX11_clientOf_91 : decode cX11_clientOf 91 = .ok (.iconst 0, 1) := by decide +kernel
theorem dX11_clientOf_92 : decode cX11_clientOf 92 = .ok (.ireturn, 1) := by decide +kernel
theorem dX11_clientOf_93 : decode cX11_clientOf 93 = .ok (.aload_n 0, 1) := by decide +kernel
theorem dX11_clientOf_94 : decode cX11_clientOf 94 = .ok (.getfield 39, 3) := by decide +kernel
theorem dX11_clientOf_97 : decode cX11_clientOf 97 = .ok (.iconst 2, 1) := by decide +kernel
theorem dX11_clientOf_98 : decode cX11_clientOf 98 = .ok (.aload_n 0, 1) := by decide +kernel
theorem dX11_clientOf_99 : decode cX11_clientOf 99 = .ok (.aload_n 3, 1) := by decide +kernel
theorem dX11_clientOf_100 : decode cX11_clientOf 100 = .ok (.iload_n 2, 1) := by decide +kernel
theorem dX11_clientOf_101 : decode cX11_clientOf 101 = .ok (.iconst 2, 1) := by decide +kernel
theorem dX11_clientOf_102 : decode cX11_clientOf 102 = .ok (.idiv, 1) := by decide +kernel
theorem dX11_clientOf_103 : decode cX11_clientOf 103 = .ok (.invokevirtual 356, 3) := by decide +kernel
theorem dX11_clientOf_106 : decode cX11_clientOf 106 = .ok (.invokevirtual 158, 3) := by decide +kernel
theorem dX11_clientOf_109 : decode cX11_clientOf 109 = .ok (.invokevirtual 211, 3) := by decide +kernel
theorem dX11_clientOf_112 : decode cX11_clientOf 112 = .ok (.invokestatic 215, 3) := by decide +kernel
theorem dX11_clientOf_115 : decode cX11_clientOf 115 = .ok (.ireturn, 1) := by decide +kernel
theorem dX11_clientOf_116 : decode cX11_clientOf 116 = .ok (.aload_n 3, 1) := by decide +kernel
theorem dX11_clientOf_117 : decode cX11_clientOf 117 = .ok (.iconst 0, 1) := by decide +kernel
theorem dX11_clientOf_118 : decode cX11_clientOf 118 = .ok (.invokevirtual 314, 3) := by decide +kernel
theorem dX11_clientOf_121 : decode cX11_clientOf 121 = .ok (.ireturn, 1) := by decide +kernel
theorem dX11_clientOf_122 : decode cX11_clientOf 122 = .ok (.aload_n 3, 1) := by decide +kernel
theorem dX11_clientOf_123 : decode cX11_clientOf 123 = .ok (.iconst 1, 1) := by decide +kernel
theorem dX11_clientOf_124 : decode cX11_clientOf 124 = .ok (.invokevirtual 314, 3) := by decide +kernel
theorem dX11_clientOf_127 : decode cX11_clientOf 127 = .ok (.ireturn, 1) := by decide +kernel
theorem dX11_clientOf_128 : decode cX11_clientOf 128 = .ok (.aload_n 0, 1) := by decide +kernel
theorem dX11_clientOf_129 : decode cX11_clientOf 129 = .ok (.getfield 98, 3) := by decide +kernel
theorem dX11_clientOf_132 : decode cX11_clientOf 132 = .ok (.getfield 327, 3) := by decide +kernel
theorem dX11_clientOf_135 : decode cX11_clientOf 135 = .ok (.aload_n 3, 1) := by decide +kernel
theorem dX11_clientOf_136 : decode cX11_clientOf 136 = .ok (.getfield 333, 3) := by decide +kernel
theorem dX11_clientOf_139 : decode cX11_clientOf 139 = .ok (.isub, 1) := by decide +kernel
theorem dX11_clientOf_140 : decode cX11_clientOf 140 = .ok (.ireturn, 1) := by decide +kernel
theorem dX11_copy_0 : decode cX11_copy 0 = .ok (.aload_n 0, 1) := by decide +kernel
theorem dX11_copy_1 : decode cX11_copy 1 = .ok (.iload_n 1, 1) := by decide +kernel
theorem dX11_copy_2 : decode cX11_copy 2 = .ok (.invokevirtual 105, 3) := by decide +kernel
theorem dX11_copy_5 : decode cX11_copy 5 = .ok (.astore 6, 2) := by decide +kernel
theorem dX11_copy_7 : decode cX11_copy 7 = .ok (.aload_n 0, 1) := by decide +kernel
theorem dX11_copy_8 : decode cX11_copy 8 = .ok (.iload_n 2, 1) := by decide +kernel
theorem dX11_copy_9 : decode cX11_copy 9 = .ok (.invokevirtual 105, 3) := by decide +kernel
theorem dX11_copy_12 : decode cX11_copy 12 = .ok (.astore 7, 2) := by decide +kernel
theorem dX11_copy_14 : decode cX11_copy 14 = .ok (.aload 6, 2) := by decide +kernel
theorem dX11_copy_16 : decode cX11_copy 16 = .ok (.ifnull 8, 3) := by decide +kernel
theorem dX11_copy_19 : decode cX11_copy 19 = .ok (.aload 7, 2) := by decide +kernel
theorem dX11_copy_21 : decode cX11_copy 21 = .ok (.ifnonnull 10, 3) := by decide +kernel
theorem dX11_copy_24 : decode cX11_copy 24 = .ok (.aload_n 0, 1) := by decide +kernel
theorem dX11_copy_25 : decode cX11_copy 25 = .ok (.bipush (-2), 2) := by decide +kernel
theorem dX11_copy_27 : decode cX11_copy 27 = .ok (.invokevirtual 109, 3) := by decide +kernel
theorem dX11_copy_30 : decode cX11_copy 30 = .ok (.ireturn, 1) := by decide +kernel
theorem dX11_copy_31 : decode cX11_copy 31 = .ok (.aload 6, 2) := by decide +kernel
theorem dX11_copy_33 : decode cX11_copy 33 = .ok (.invokevirtual 116, 3) := by decide +kernel
theorem dX11_copy_36 : decode cX11_copy 36 = .ok (.ifCond .ne 11, 3) := by decide +kernel
theorem dX11_copy_39 : decode cX11_copy 39 = .ok (.aload 7, 2) := by decide +kernel
theorem dX11_copy_41 : decode cX11_copy 41 = .ok (.invokevirtual 116, 3) := by decide +kernel
theorem dX11_copy_44 : decode cX11_copy 44 = .ok (.ifCond .eq 10, 3) := by decide +kernel
theorem dX11_copy_54 : decode cX11_copy 54 = .ok (.aload 6, 2) := by decide +kernel
theorem dX11_copy_56 : decode cX11_copy 56 = .ok (.invokevirtual 120, 3) := by decide +kernel
theorem dX11_copy_59 : decode cX11_copy 59 = .ok (.ifCond .ne 11, 3) := by decide +kernel
theorem dX11_copy_70 : decode cX11_copy 70 = .ok (.iconst 1, 1) := by decide +kernel
theorem dX11_copy_71 : decode cX11_copy 71 = .ok (.goto 4, 3) := by decide +kernel
theorem dX11_copy_75 : decode cX11_copy 75 = .ok (.istore 8, 2) := by decide +kernel
theorem dX11_copy_77 : decode cX11_copy 77 = .ok (.iload 8, 2) := by decide +kernel
theorem dX11_copy_79 : decode cX11_copy 79 = .ok (.ifCond .ne 23, 3) := by decide +kernel
theorem dX11_copy_102 : decode cX11_copy 102 = .ok (.iload 8, 2) := by decide +kernel
theorem dX11_copy_104 : decode cX11_copy 104 = .ok (.ifCond .eq 10, 3) := by decide +kernel
theorem dX11_copy_107 : decode cX11_copy 107 = .ok (.aload_n 0, 1) := by decide +kernel
theorem dX11_copy_108 : decode cX11_copy 108 = .ok (.bipush (-4), 2) := by decide +kernel
theorem dX11_copy_110 : decode cX11_copy 110 = .ok (.invokevirtual 109, 3) := by decide +kernel
theorem dX11_copy_113 : decode cX11_copy 113 = .ok (.ireturn, 1) := by decide +kernel
theorem dX11_cursor_0 : decode cX11_cursor 0 = .ok (.aload_n 0, 1) := by decide +kernel
theorem dX11_cursor_1 : decode cX11_cursor 1 = .ok (.getfield 98, 3) := by decide +kernel
theorem dX11_cursor_4 : decode cX11_cursor 4 = .ok (.iload_n 1, 1) := by decide +kernel
theorem dX11_cursor_5 : decode cX11_cursor 5 = .ok (.invokevirtual 254, 3) := by decide +kernel
theorem dX11_cursor_8 : decode cX11_cursor 8 = .ok (.astore_n 3, 1) := by decide +kernel
theorem dX11_cursor_9 : decode cX11_cursor 9 = .ok (.aload_n 3, 1) := by decide +kernel
theorem dX11_cursor_10 : decode cX11_cursor 10 = .ok (.ifnull 12, 3) := by decide +kernel
theorem dX11_cursor_13 : decode cX11_cursor 13 = .ok (.iload_n 2, 1) := by decide +kernel
theorem dX11_cursor_14 : decode cX11_cursor 14 = .ok (.ifCond .lt 8, 3) := by decide +kernel
theorem dX11_cursor_17 : decode cX11_cursor 17 = .ok (.iload_n 2, 1) := by decide +kernel
theorem dX11_cursor_18 : decode cX11_cursor 18 = .ok (.iconst 1, 1) := by decide +kernel
theorem dX11_cursor_19 : decode cX11_cursor 19 = .ok (.if_icmp .le 10, 3) := by decide +kernel
theorem dX11_cursor_22 : decode cX11_cursor 22 = .ok (.aload_n 0, 1) := by decide +kernel
theorem dX11_cursor_23 : decode cX11_cursor 23 = .ok (.bipush (-2), 2) := by decide +kernel
theorem dX11_cursor_25 : decode cX11_cursor 25 = .ok (.invokevirtual 109, 3) := by decide +kernel
theorem dX11_cursor_28 : decode cX11_cursor 28 = .ok (.ireturn, 1) := by decide +kernel
theorem dX11_cursor_29 : decode cX11_cursor 29 = .ok (.iload_n 2, 1) := by decide +kernel
theorem dX11_cursor_30 : decode cX11_cursor 30 = .ok (.ifCond .ne 10, 3) := by decide +kernel
theorem dX11_cursor_33 : decode cX11_cursor 33 = .ok (.aload_n 3, 1) := by decide +kernel
theorem dX11_cursor_34 : decode cX11_cursor 34 = .ok (.getfield 317, 3) := by decide +kernel
theorem dX11_cursor_37 : decode cX11_cursor 37 = .ok (.goto 7, 3) := by decide +kernel
theorem dX11_cursor_40 : decode cX11_cursor 40 = .ok (.aload_n 3, 1) := by decide +kernel
theorem dX11_cursor_41 : decode cX11_cursor 41 = .ok (.getfield 320, 3) := by decide +kernel
theorem dX11_cursor_44 : decode cX11_cursor 44 = .ok (.invokestatic 215, 3) := by decide +kernel
theorem dX11_cursor_47 : decode cX11_cursor 47 = .ok (.ireturn, 1) := by decide +kernel
theorem dX11_cut_0 : decode cX11_cut 0 = .ok (.aload_n 0, 1) := by decide +kernel
theorem dX11_cut_1 : decode cX11_cut 1 = .ok (.getfield 98, 3) := by decide +kernel
theorem dX11_cut_4 : decode cX11_cut 4 = .ok (.iload_n 1, 1) := by decide +kernel
theorem dX11_cut_5 : decode cX11_cut 5 = .ok (.invokevirtual 254, 3) := by decide +kernel
theorem dX11_cut_8 : decode cX11_cut 8 = .ok (.astore 4, 2) := by decide +kernel
theorem dX11_cut_10 : decode cX11_cut 10 = .ok (.aload_n 0, 1) := by decide +kernel
theorem dX11_cut_11 : decode cX11_cut 11 = .ok (.aload_n 0, 1) := by decide +kernel
theorem dX11_cut_12 : decode cX11_cut 12 = .ok (.getfield 98, 3) := by decide +kernel
theorem dX11_cut_15 : decode cX11_cut 15 = .ok (.iload_n 1, 1) := by decide +kernel
theorem dX11_cut_16 : decode cX11_cut 16 = .ok (.invokevirtual 274, 3) := by decide +kernel
theorem dX11_cut_19 : decode cX11_cut 19 = .ok (.invokevirtual 208, 3) := by decide +kernel
theorem dX11_cut_22 : decode cX11_cut 22 = .ok (.pop, 1) := by decide +kernel
theorem dX11_cut_23 : decode cX11_cut 23 = .ok (.aload 4, 2) := by decide +kernel
theorem dX11_cut_25 : decode cX11_cut 25 = .ok (.ifnull 21, 3) := by decide +kernel
theorem dX11_cut_28 : decode cX11_cut 28 = .ok (.iload_n 3, 1) := by decide +kernel
theorem dX11_cut_29 : decode cX11_cut 29 = .ok (.iconst 1, 1) := by decide +kernel
theorem dX11_cut_30 : decode cX11_cut 30 = .ok (.if_icmp .lt 16, 3) := by decide +kernel
theorem dX11_cut_33 : decode cX11_cut 33 = .ok (.iload_n 2, 1) := by decide +kernel
theorem dX11_cut_34 : decode cX11_cut 34 = .ok (.iload_n 3, 1) := by decide +kernel
theorem dX11_cut_35 : decode cX11_cut 35 = .ok (.aload 4, 2) := by decide +kernel
theorem dX11_cut_37 : decode cX11_cut 37 = .ok (.invokevirtual 277, 3) := by decide +kernel
theorem dX11_cut_40 : decode cX11_cut 40 = .ok (.invokestatic 134, 3) := by decide +kernel
theorem dX11_cut_43 : decode cX11_cut 43 = .ok (.ifCond .ne 10, 3) := by decide +kernel
theorem dX11_cut_46 : decode cX11_cut 46 = .ok (.aload_n 0, 1) := by decide +kernel
theorem dX11_cut_47 : decode cX11_cut 47 = .ok (.bipush (-2), 2) := by decide +kernel
theorem dX11_cut_49 : decode cX11_cut 49 = .ok (.invokevirtual 109, 3) := by decide +kernel
theorem dX11_cut_52 : decode cX11_cut 52 = .ok (.ireturn, 1) := by decide +kernel
theorem dX11_differ_0 : decode cX11_differ 0 = .ok (.iload_n 1, 1) := by decide +kernel
theorem dX11_differ_1 : decode cX11_differ 1 = .ok (.invokestatic 146, 3) := by decide +kernel
theorem dX11_differ_4 : decode cX11_differ 4 = .ok (.ifCond .eq 10, 3) := by decide +kernel
theorem dX11_differ_7 : decode cX11_differ 7 = .ok (.iload_n 2, 1) := by decide +kernel
theorem dX11_differ_8 : decode cX11_differ 8 = .ok (.invokestatic 146, 3) := by decide +kernel
theorem dX11_differ_11 : decode cX11_differ 11 = .ok (.ifCond .ne 10, 3) := by decide +kernel
theorem dX11_differ_14 : decode cX11_differ 14 = .ok (.aload_n 0, 1) := by decide +kernel
theorem dX11_differ_15 : decode cX11_differ 15 = .ok (.bipush (-2), 2) := by decide +kernel
theorem dX11_differ_17 : decode cX11_differ 17 = .ok (.invokevirtual 109, 3) := by decide +kernel
theorem dX11_differ_20 : decode cX11_differ 20 = .ok (.ireturn, 1) := by decide +kernel
theorem dX11_differ_21 : decode cX11_differ 21 = .ok (.aload_n 0, 1) := by decide +kernel
theorem dX11_differ_22 : decode cX11_differ 22 = .ok (.iload_n 1, 1) := by decide +kernel
theorem dX11_differ_23 : decode cX11_differ 23 = .ok (.invokevirtual 153, 3) := by decide +kernel
theorem dX11_differ_26 : decode cX11_differ 26 = .ok (.ifCond .eq 11, 3) := by decide +kernel
theorem dX11_differ_37 : decode cX11_differ 37 = .ok (.aload_n 0, 1) := by decide +kernel
theorem dX11_differ_38 : decode cX11_differ 38 = .ok (.bipush (-4), 2) := by decide +kernel
theorem dX11_differ_40 : decode cX11_differ 40 = .ok (.invokevirtual 109, 3) := by decide +kernel
theorem dX11_differ_43 : decode cX11_differ 43 = .ok (.ireturn, 1) := by decide +kernel
theorem dX11_does_0 : decode cX11_does 0 = .ok (.aload_n 0, 1) := by decide +kernel
theorem dX11_does_1 : decode cX11_does 1 = .ok (.getfield 98, 3) := by decide +kernel
theorem dX11_does_4 : decode cX11_does 4 = .ok (.iload_n 1, 1) := by decide +kernel
theorem dX11_does_5 : decode cX11_does 5 = .ok (.invokevirtual 254, 3) := by decide +kernel
theorem dX11_does_8 : decode cX11_does 8 = .ok (.astore_n 3, 1) := by decide +kernel
theorem dX11_does_9 : decode cX11_does 9 = .ok (.aload_n 0, 1) := by decide +kernel
theorem dX11_does_10 : decode cX11_does 10 = .ok (.aload_n 0, 1) := by decide +kernel
theorem dX11_does_11 : decode cX11_does 11 = .ok (.getfield 98, 3) := by decide +kernel
theorem dX11_does_14 : decode cX11_does 14 = .ok (.iload_n 1, 1) := by decide +kernel
theorem dX11_does_15 : decode cX11_does 15 = .ok (.invokevirtual 274, 3) := by decide +kernel
theorem dX11_does_18 : decode cX11_does 18 = .ok (.invokevirtual 208, 3) := by decide +kernel
theorem dX11_does_21 : decode cX11_does 21 = .ok (.pop, 1) := by decide +kernel
theorem dX11_does_22 : decode cX11_does 22 = .ok (.aload_n 3, 1) := by decide +kernel
theorem dX11_does_23 : decode cX11_does 23 = .ok (.ifnull 10, 3) := by decide +kernel
theorem dX11_does_26 : decode cX11_does 26 = .ok (.iload_n 2, 1) := by decide +kernel
theorem dX11_does_27 : decode cX11_does 27 = .ok (.invokestatic 146, 3) := by decide +kernel
theorem dX11_does_30 : decode cX11_does 30 = .ok (.ifCond .ne 10, 3) := by decide +kernel
theorem dX11_does_33 : decode cX11_does 33 = .ok (.aload_n 0, 1) := by decide +kernel
theorem dX11_does_34 : decode cX11_does 34 = .ok (.bipush (-2), 2) := by decide +kernel
theorem dX11_does_36 : decode cX11_does 36 = .ok (.invokevirtual 109, 3) := by decide +kernel
theorem dX11_does_39 : decode cX11_does 39 = .ok (.ireturn, 1) := by decide +kernel
theorem dX11_does_40 : decode cX11_does 40 = .ok (.aload_n 0, 1) := by decide +kernel
theorem dX11_does_41 : decode cX11_does 41 = .ok (.iload_n 2, 1) := by decide +kernel
theorem dX11_does_42 : decode cX11_does 42 = .ok (.invokevirtual 153, 3) := by decide +kernel
theorem dX11_does_45 : decode cX11_does 45 = .ok (.ifCond .ne 10, 3) := by decide +kernel
theorem dX11_does_48 : decode cX11_does 48 = .ok (.aload_n 0, 1) := by decide +kernel
theorem dX11_does_49 : decode cX11_does 49 = .ok (.bipush (-4), 2) := by decide +kernel
theorem dX11_does_51 : decode cX11_does 51 = .ok (.invokevirtual 109, 3) := by decide +kernel
theorem dX11_does_54 : decode cX11_does 54 = .ok (.ireturn, 1) := by decide +kernel
theorem dX11_edit_0 : decode cX11_edit 0 = .ok (.iload_n 1, 1) := by decide +kernel
theorem dX11_edit_1 : decode cX11_edit 1 = .ok (.invokestatic 146, 3) := by decide +kernel
theorem dX11_edit_4 : decode cX11_edit 4 = .ok (.ifCond .eq 13, 3) := by decide +kernel
theorem dX11_edit_7 : decode cX11_edit 7 = .ok (.aload_n 0, 1) := by decide +kernel
theorem dX11_edit_8 : decode cX11_edit 8 = .ok (.getfield 57, 3) := by decide +kernel
theorem dX11_edit_11 : decode cX11_edit 11 = .ok (.invokevirtual 192, 3) := by decide +kernel
theorem dX11_edit_14 : decode cX11_edit 14 = .ok (.goto 4, 3) := by decide +kernel
theorem dX11_edit_17 : decode cX11_edit 17 = .ok (.iconst (-1), 1) := by decide +kernel
theorem dX11_edit_18 : decode cX11_edit 18 = .ok (.istore_n 2, 1) := by decide +kernel
theorem dX11_edit_19 : decode cX11_edit 19 = .ok (.aload_n 0, 1) := by decide +kernel
theorem dX11_edit_20 : decode cX11_edit 20 = .ok (.getfield 21, 3) := by decide +kernel
theorem dX11_edit_23 : decode cX11_edit 23 = .ok (.aload_n 0, 1) := by decide +kernel
theorem dX11_edit_24 : decode cX11_edit 24 = .ok (.getfield 48, 3) := by decide +kernel
theorem dX11_edit_27 : decode cX11_edit 27 = .ok (.getfield 195, 3) := by decide +kernel
theorem dX11_edit_30 : decode cX11_edit 30 = .ok (.iconst 0, 1) := by decide +kernel
theorem dX11_edit_31 : decode cX11_edit 31 = .ok (.iadd, 1) := by decide +kernel
theorem dX11_edit_32 : decode cX11_edit 32 = .ok (.invokevirtual 156, 3) := by decide +kernel
theorem dX11_edit_35 : decode cX11_edit 35 = .ok (.istore_n 3, 1) := by decide +kernel
theorem dX11_edit_36 : decode cX11_edit 36 = .ok (.aload_n 0, 1) := by decide +kernel
theorem dX11_edit_37 : decode cX11_edit 37 = .ok (.getfield 21, 3) := by decide +kernel
theorem dX11_edit_40 : decode cX11_edit 40 = .ok (.invokevirtual 198, 3) := by decide +kernel
theorem dX11_edit_43 : decode cX11_edit 43 = .ok (.istore 4, 2) := by decide +kernel
theorem dX11_edit_45 : decode cX11_edit 45 = .ok (.aload_n 0, 1) := by decide +kernel
theorem dX11_edit_46 : decode cX11_edit 46 = .ok (.getfield 21, 3) := by decide +kernel
theorem dX11_edit_49 : decode cX11_edit 49 = .ok (.aload_n 0, 1) := by decide +kernel
theorem dX11_edit_50 : decode cX11_edit 50 = .ok (.getfield 48, 3) := by decide +kernel
theorem dX11_edit_53 : decode cX11_edit 53 = .ok (.getfield 195, 3) := by decide +kernel
theorem dX11_edit_56 : decode cX11_edit 56 = .ok (.bipush 6, 2) := by decide +kernel
theorem dX11_edit_58 : decode cX11_edit 58 = .ok (.invokevirtual 201, 3) := by decide +kernel
theorem dX11_edit_61 : decode cX11_edit 61 = .ok (.aload_n 0, 1) := by decide +kernel
theorem dX11_edit_62 : decode cX11_edit 62 = .ok (.getfield 57, 3) := by decide +kernel
theorem dX11_edit_65 : decode cX11_edit 65 = .ok (.iconst 0, 1) := by decide +kernel
theorem dX11_edit_66 : decode cX11_edit 66 = .ok (.putfield 186, 3) := by decide +kernel
theorem dX11_edit_69 : decode cX11_edit 69 = .ok (.iload_n 1, 1) := by decide +kernel
theorem dX11_edit_70 : decode cX11_edit 70 = .ok (.invokestatic 146, 3) := by decide +kernel
theorem dX11_edit_73 : decode cX11_edit 73 = .ok (.ifCond .ne 10, 3) := by decide +kernel
theorem dX11_edit_76 : decode cX11_edit 76 = .ok (.aload_n 0, 1) := by decide +kernel
theorem dX11_edit_77 : decode cX11_edit 77 = .ok (.bipush (-2), 2) := by decide +kernel
theorem dX11_edit_79 : decode cX11_edit 79 = .ok (.invokevirtual 109, 3) := by decide +kernel
theorem dX11_edit_82 : decode cX11_edit 82 = .ok (.ireturn, 1) := by decide +kernel
theorem dX11_edit_83 : decode cX11_edit 83 = .ok (.iload_n 2, 1) := by decide +kernel
theorem dX11_edit_84 : decode cX11_edit 84 = .ok (.iconst (-1), 1) := by decide +kernel
theorem dX11_edit_85 : decode cX11_edit 85 = .ok (.if_icmp .eq 16, 3) := by decide +kernel
theorem dX11_edit_88 : decode cX11_edit 88 = .ok (.aload_n 0, 1) := by decide +kernel
theorem dX11_edit_89 : decode cX11_edit 89 = .ok (.bipush (-2), 2) := by decide +kernel
theorem dX11_edit_91 : decode cX11_edit 91 = .ok (.invokevirtual 109, 3) := by decide +kernel
theorem dX11_edit_94 : decode cX11_edit 94 = .ok (.pop, 1) := by decide +kernel
theorem dX11_edit_95 : decode cX11_edit 95 = .ok (.sipush (-300), 3) := by decide +kernel
theorem dX11_edit_98 : decode cX11_edit 98 = .ok (.iload_n 2, 1) := by decide +kernel
theorem dX11_edit_99 : decode cX11_edit 99 = .ok (.isub, 1) := by decide +kernel
theorem dX11_edit_100 : decode cX11_edit 100 = .ok (.ireturn, 1) := by decide +kernel
theorem dX11_element_0 : decode cX11_element 0 = .ok (.aload_n 0, 1) := by decide +kernel
theorem dX11_element_1 : decode cX11_element 1 = .ok (.iload_n 1, 1) := by decide +kernel
theorem dX11_element_2 : decode cX11_element 2 = .ok (.invokevirtual 105, 3) := by decide +kernel
theorem dX11_element_5 : decode cX11_element 5 = .ok (.astore_n 3, 1) := by decide +kernel
theorem dX11_element_6 : decode cX11_element 6 = .ok (.aload_n 3, 1) := by decide +kernel
theorem dX11_element_7 : decode cX11_element 7 = .ok (.ifnonnull 7, 3) := by decide +kernel
theorem dX11_element_10 : decode cX11_element 10 = .ok (.lconst 0, 1) := by decide +kernel
theorem dX11_element_11 : decode cX11_element 11 = .ok (.goto 8, 3) := by decide +kernel
theorem dX11_element_14 : decode cX11_element 14 = .ok (.aload_n 3, 1) := by decide +kernel
theorem dX11_element_15 : decode cX11_element 15 = .ok (.iload_n 2, 1) := by decide +kernel
theorem dX11_element_16 : decode cX11_element 16 = .ok (.invokevirtual 142, 3) := by decide +kernel
theorem dX11_element_19 : decode cX11_element 19 = .ok (.lreturn, 1) := by decide +kernel
theorem dX11_feed_0 : decode cX11_feed 0 = .ok (.iload_n 1, 1) := by decide +kernel
theorem dX11_feed_1 : decode cX11_feed 1 = .ok (.ifCond .lt 10, 3) := by decide +kernel
theorem dX11_feed_4 : decode cX11_feed 4 = .ok (.iload_n 1, 1) := by decide +kernel
theorem dX11_feed_5 : decode cX11_feed 5 = .ok (.sipush 255, 3) := by decide +kernel
theorem dX11_feed_8 : decode cX11_feed 8 = .ok (.if_icmp .le 10, 3) := by decide +kernel
theorem dX11_feed_11 : decode cX11_feed 11 = .ok (.aload_n 0, 1) := by decide +kernel
theorem dX11_feed_12 : decode cX11_feed 12 = .ok (.bipush (-2), 2) := by decide +kernel
theorem dX11_feed_14 : decode cX11_feed 14 = .ok (.invokevirtual 109, 3) := by decide +kernel
theorem dX11_feed_17 : decode cX11_feed 17 = .ok (.ireturn, 1) := by decide +kernel
theorem dX11_feed_18 : decode cX11_feed 18 = .ok (.aload_n 0, 1) := by decide +kernel
theorem dX11_feed_19 : decode cX11_feed 19 = .ok (.getfield 57, 3) := by decide +kernel
theorem dX11_feed_22 : decode cX11_feed 22 = .ok (.getfield 186, 3) := by decide +kernel
theorem dX11_feed_25 : decode cX11_feed 25 = .ok (.sipush 250, 3) := by decide +kernel
theorem dX11_feed_28 : decode cX11_feed 28 = .ok (.if_icmp .lt 10, 3) := by decide +kernel
theorem dX11_feed_38 : decode cX11_feed 38 = .ok (.aload_n 0, 1) := by decide +kernel
theorem dX11_feed_39 : decode cX11_feed 39 = .ok (.getfield 57, 3) := by decide +kernel
theorem dX11_feed_42 : decode cX11_feed 42 = .ok (.iload_n 1, 1) := by decide +kernel
theorem dX11_feed_43 : decode cX11_feed 43 = .ok (.invokevirtual 188, 3) := by decide +kernel
theorem dX11_feed_46 : decode cX11_feed 46 = .ok (.aload_n 0, 1) := by decide +kernel
theorem dX11_feed_47 : decode cX11_feed 47 = .ok (.getfield 57, 3) := by decide +kernel
theorem dX11_feed_50 : decode cX11_feed 50 = .ok (.getfield 186, 3) := by decide +kernel
theorem dX11_feed_53 : decode cX11_feed 53 = .ok (.ireturn, 1) := by decide +kernel
theorem dX11_hear_0 : decode cX11_hear 0 = .ok (.aload_n 0, 1) := by decide +kernel
theorem dX11_hear_1 : decode cX11_hear 1 = .ok (.getfield 98, 3) := by decide +kernel
theorem dX11_hear_4 : decode cX11_hear 4 = .ok (.iload_n 1, 1) := by decide +kernel
theorem dX11_hear_5 : decode cX11_hear 5 = .ok (.invokevirtual 254, 3) := by decide +kernel
theorem dX11_hear_8 : decode cX11_hear 8 = .ok (.astore_n 2, 1) := by decide +kernel
theorem dX11_hear_9 : decode cX11_hear 9 = .ok (.aload_n 2, 1) := by decide +kernel
theorem dX11_hear_10 : decode cX11_hear 10 = .ok (.ifnonnull 10, 3) := by decide +kernel
theorem dX11_hear_13 : decode cX11_hear 13 = .ok (.aload_n 0, 1) := by decide +kernel
theorem dX11_hear_14 : decode cX11_hear 14 = .ok (.bipush (-2), 2) := by decide +kernel
theorem dX11_hear_16 : decode cX11_hear 16 = .ok (.invokevirtual 109, 3) := by decide +kernel
theorem dX11_hear_19 : decode cX11_hear 19 = .ok (.ireturn, 1) := by decide +kernel
theorem dX11_hear_20 : decode cX11_hear 20 = .ok (.aload_n 2, 1) := by decide +kernel
theorem dX11_hear_21 : decode cX11_hear 21 = .ok (.getfield 333, 3) := by decide +kernel
theorem dX11_hear_24 : decode cX11_hear 24 = .ok (.aload_n 0, 1) := by decide +kernel
theorem dX11_hear_25 : decode cX11_hear 25 = .ok (.getfield 98, 3) := by decide +kernel
theorem dX11_hear_28 : decode cX11_hear 28 = .ok (.getfield 327, 3) := by decide +kernel
theorem dX11_hear_31 : decode cX11_hear 31 = .ok (.if_icmp .lt 10, 3) := by decide +kernel
theorem dX11_hear_34 : decode cX11_hear 34 = .ok (.aload_n 0, 1) := by decide +kernel
theorem dX11_hear_35 : decode cX11_hear 35 = .ok (.bipush (-5), 2) := by decide +kernel
theorem dX11_hear_37 : decode cX11_hear 37 = .ok (.invokevirtual 109, 3) := by decide +kernel
theorem dX11_hear_40 : decode cX11_hear 40 = .ok (.ireturn, 1) := by decide +kernel
theorem dX11_holds_0 : decode cX11_holds 0 = .ok (.aload_n 0, 1) := by decide +kernel
theorem dX11_holds_1 : decode cX11_holds 1 = .ok (.iload_n 1, 1) := by decide +kernel
theorem dX11_holds_2 : decode cX11_holds 2 = .ok (.invokevirtual 105, 3) := by decide +kernel
theorem dX11_holds_5 : decode cX11_holds 5 = .ok (.astore_n 2, 1) := by decide +kernel
theorem dX11_holds_6 : decode cX11_holds 6 = .ok (.aload_n 2, 1) := by decide +kernel
theorem dX11_holds_7 : decode cX11_holds 7 = .ok (.ifnonnull 7, 3) := by decide +kernel
theorem dX11_holds_10 : decode cX11_holds 10 = .ok (.iconst (-1), 1) := by decide +kernel
theorem dX11_holds_11 : decode cX11_holds 11 = .ok (.goto 7, 3) := by decide +kernel
theorem dX11_holds_14 : decode cX11_holds 14 = .ok (.aload_n 2, 1) := by decide +kernel
theorem dX11_holds_15 : decode cX11_holds 15 = .ok (.getfield 131, 3) := by decide +kernel
theorem dX11_holds_18 : decode cX11_holds 18 = .ok (.ireturn, 1) := by decide +kernel
theorem dX11_image_0 : decode cX11_image 0 = .ok (.aload_n 0, 1) := by decide +kernel
theorem dX11_image_1 : decode cX11_image 1 = .ok (.getfield 102, 3) := by decide +kernel
theorem dX11_image_4 : decode cX11_image 4 = .ok (.aload_n 0, 1) := by decide +kernel
theorem dX11_image_5 : decode cX11_image 5 = .ok (.getfield 98, 3) := by decide +kernel
theorem dX11_image_8 : decode cX11_image 8 = .ok (.invokevirtual 400, 3) := by decide +kernel
theorem dX11_image_11 : decode cX11_image 11 = .ok (.aload_n 0, 1) := by decide +kernel
theorem dX11_image_12 : decode cX11_image 12 = .ok (.iconst 1, 1) := by decide +kernel
theorem dX11_image_13 : decode cX11_image 13 = .ok (.putfield 403, 3) := by decide +kernel
theorem dX11_image_16 : decode cX11_image 16 = .ok (.iconst 1, 1) := by decide +kernel
theorem dX11_image_17 : decode cX11_image 17 = .ok (.ireturn, 1) := by decide +kernel
theorem dX11_insert_0 : decode cX11_insert 0 = .ok (.aload_n 0, 1) := by decide +kernel
theorem dX11_insert_1 : decode cX11_insert 1 = .ok (.getfield 98, 3) := by decide +kernel
theorem dX11_insert_4 : decode cX11_insert 4 = .ok (.iload_n 1, 1) := by decide +kernel
theorem dX11_insert_5 : decode cX11_insert 5 = .ok (.invokevirtual 254, 3) := by decide +kernel
theorem dX11_insert_8 : decode cX11_insert 8 = .ok (.astore 5, 2) := by decide +kernel
theorem dX11_insert_10 : decode cX11_insert 10 = .ok (.aload_n 0, 1) := by decide +kernel
theorem dX11_insert_11 : decode cX11_insert 11 = .ok (.aload_n 0, 1) := by decide +kernel
theorem dX11_insert_12 : decode cX11_insert 12 = .ok (.getfield 98, 3) := by decide +kernel
theorem dX11_insert_15 : decode cX11_insert 15 = .ok (.iload_n 1, 1) := by decide +kernel
theorem dX11_insert_16 : decode cX11_insert 16 = .ok (.invokevirtual 274, 3) := by decide +kernel
theorem dX11_insert_19 : decode cX11_insert 19 = .ok (.invokevirtual 208, 3) := by decide +kernel
theorem dX11_insert_22 : decode cX11_insert 22 = .ok (.pop, 1) := by decide +kernel
theorem dX11_insert_23 : decode cX11_insert 23 = .ok (.aload 5, 2) := by decide +kernel
theorem dX11_insert_25 : decode cX11_insert 25 = .ok (.ifnull 18, 3) := by decide +kernel
theorem dX11_insert_28 : decode cX11_insert 28 = .ok (.iload_n 2, 1) := by decide +kernel
theorem dX11_insert_29 : decode cX11_insert 29 = .ok (.ifCond .lt 14, 3) := by decide +kernel
theorem dX11_insert_32 : decode cX11_insert 32 = .ok (.iload_n 2, 1) := by decide +kernel
theorem dX11_insert_33 : decode cX11_insert 33 = .ok (.i2l, 1) := by decide +kernel
theorem dX11_insert_34 : decode cX11_insert 34 = .ok (.aload 5, 2) := by decide +kernel
theorem dX11_insert_36 : decode cX11_insert 36 = .ok (.invokevirtual 277, 3) := by decide +kernel
theorem dX11_insert_39 : decode cX11_insert 39 = .ok (.lcmp, 1) := by decide +kernel
theorem dX11_insert_40 : decode cX11_insert 40 = .ok (.ifCond .le 10, 3) := by decide +kernel
theorem dX11_insert_43 : decode cX11_insert 43 = .ok (.aload_n 0, 1) := by decide +kernel
theorem dX11_insert_44 : decode cX11_insert 44 = .ok (.bipush (-2), 2) := by decide +kernel
theorem dX11_insert_46 : decode cX11_insert 46 = .ok (.invokevirtual 109, 3) := by decide +kernel
theorem dX11_insert_49 : decode cX11_insert 49 = .ok (.ireturn, 1) := by decide +kernel
theorem dX11_insert_50 : decode cX11_insert 50 = .ok (.iload_n 3, 1) := by decide +kernel
theorem dX11_insert_51 : decode cX11_insert 51 = .ok (.ifCond .lt 21, 3) := by decide +kernel
theorem dX11_insert_54 : decode cX11_insert 54 = .ok (.iload_n 3, 1) := by decide +kernel
theorem dX11_insert_55 : decode cX11_insert 55 = .ok (.bipush 26, 2) := by decide +kernel
theorem dX11_insert_57 : decode cX11_insert 57 = .ok (.if_icmp .ge 15, 3) := by decide +kernel
theorem dX11_insert_60 : decode cX11_insert 60 = .ok (.iload 4, 2) := by decide +kernel
theorem dX11_insert_62 : decode cX11_insert 62 = .ok (.ifCond .lt 10, 3) := by decide +kernel
theorem dX11_insert_65 : decode cX11_insert 65 = .ok (.iload 4, 2) := by decide +kernel
theorem dX11_insert_67 : decode cX11_insert 67 = .ok (.bipush 15, 2) := by decide +kernel
theorem dX11_insert_69 : decode cX11_insert 69 = .ok (.if_icmp .le 10, 3) := by decide +kernel
theorem dX11_insert_72 : decode cX11_insert 72 = .ok (.aload_n 0, 1) := by decide +kernel
theorem dX11_insert_73 : decode cX11_insert 73 = .ok (.bipush (-2), 2) := by decide +kernel
theorem dX11_insert_75 : decode cX11_insert 75 = .ok (.invokevirtual 109, 3) := by decide +kernel
theorem dX11_insert_78 : decode cX11_insert 78 = .ok (.ireturn, 1) := by decide +kernel
theorem dX11_insert_79 : decode cX11_insert 79 = .ok (.aload 5, 2) := by decide +kernel
theorem dX11_insert_81 : decode cX11_insert 81 = .ok (.invokevirtual 277, 3) := by decide +kernel
theorem dX11_insert_84 : decode cX11_insert 84 = .ok (.ldc2_w 298, 3) := by decide +kernel
theorem dX11_insert_87 : decode cX11_insert 87 = .ok (.lcmp, 1) := by decide +kernel
theorem dX11_insert_88 : decode cX11_insert 88 = .ok (.ifCond .lt 10, 3) := by decide +kernel
theorem dX11_insert_98 : decode cX11_insert 98 = .ok (.aload_n 0, 1) := by decide +kernel
theorem dX11_insert_99 : decode cX11_insert 99 = .ok (.getfield 88, 3) := by decide +kernel
theorem dX11_insert_102 : decode cX11_insert 102 = .ok (.aload 5, 2) := by decide +kernel
theorem dX11_insert_104 : decode cX11_insert 104 = .ok (.invokevirtual 283, 3) := by decide +kernel
theorem dX11_insert_107 : decode cX11_insert 107 = .ok (.aload_n 0, 1) := by decide +kernel
theorem dX11_insert_108 : decode cX11_insert 108 = .ok (.getfield 48, 3) := by decide +kernel
theorem dX11_insert_111 : decode cX11_insert 111 = .ok (.iload_n 2, 1) := by decide +kernel
theorem dX11_insert_112 : decode cX11_insert 112 = .ok (.i2l, 1) := by decide +kernel
theorem dX11_insert_113 : decode cX11_insert 113 = .ok (.iload_n 3, 1) := by decide +kernel
theorem dX11_insert_114 : decode cX11_insert 114 = .ok (.iload 4, 2) := by decide +kernel
theorem dX11_insert_116 : decode cX11_insert 116 = .ok (.iconst 5, 1) := by decide +kernel
theorem dX11_insert_117 : decode cX11_insert 117 = .ok (.ishl, 1) := by decide +kernel
theorem dX11_insert_118 : decode cX11_insert 118 = .ok (.ior, 1) := by decide +kernel
theorem dX11_insert_119 : decode cX11_insert 119 = .ok (.lconst 1, 1) := by decide +kernel
theorem dX11_insert_120 : decode cX11_insert 120 = .ok (.aload 5, 2) := by decide +kernel
theorem dX11_insert_122 : decode cX11_insert 122 = .ok (.invokevirtual 277, 3) := by decide +kernel
theorem dX11_insert_125 : decode cX11_insert 125 = .ok (.iload_n 2, 1) := by decide +kernel
theorem dX11_insert_126 : decode cX11_insert 126 = .ok (.i2l, 1) := by decide +kernel
theorem dX11_insert_127 : decode cX11_insert 127 = .ok (.lsub, 1) := by decide +kernel
theorem dX11_insert_128 : decode cX11_insert 128 = .ok (.invokevirtual 300, 3) := by decide +kernel
theorem dX11_insert_131 : decode cX11_insert 131 = .ok (.aload 5, 2) := by decide +kernel
theorem dX11_insert_133 : decode cX11_insert 133 = .ok (.iconst 1, 1) := by decide +kernel
theorem dX11_insert_134 : decode cX11_insert 134 = .ok (.invokevirtual 287, 3) := by decide +kernel
theorem dX11_insert_137 : decode cX11_insert 137 = .ok (.aload 5, 2) := by decide +kernel
theorem dX11_insert_139 : decode cX11_insert 139 = .ok (.iconst 0, 1) := by decide +kernel
theorem dX11_insert_140 : decode cX11_insert 140 = .ok (.aload_n 0, 1) := by decide +kernel
theorem dX11_insert_141 : decode cX11_insert 141 = .ok (.getfield 48, 3) := by decide +kernel
theorem dX11_insert_144 : decode cX11_insert 144 = .ok (.invokevirtual 290, 3) := by decide +kernel
theorem dX11_insert_147 : decode cX11_insert 147 = .ok (.aload_n 0, 1) := by decide +kernel
theorem dX11_insert_148 : decode cX11_insert 148 = .ok (.aload 5, 2) := by decide +kernel
theorem dX11_insert_150 : decode cX11_insert 150 = .ok (.invokevirtual 294, 3) := by decide +kernel
theorem dX11_insert_153 : decode cX11_insert 153 = .ok (.ifCond .eq 12, 3) := by decide +kernel
theorem dX11_insert_165 : decode cX11_insert 165 = .ok (.aload 5, 2) := by decide +kernel
theorem dX11_insert_167 : decode cX11_insert 167 = .ok (.invokevirtual 277, 3) := by decide +kernel
theorem dX11_insert_170 : decode cX11_insert 170 = .ok (.invokestatic 215, 3) := by decide +kernel
theorem dX11_insert_173 : decode cX11_insert 173 = .ok (.ireturn, 1) := by decide +kernel
theorem dX11_judge_0 : decode cX11_judge 0 = .ok (.aload_n 0, 1) := by decide +kernel
theorem dX11_judge_1 : decode cX11_judge 1 = .ok (.iload_n 2, 1) := by decide +kernel
theorem dX11_judge_2 : decode cX11_judge 2 = .ok (.invokevirtual 105, 3) := by decide +kernel
theorem dX11_judge_5 : decode cX11_judge 5 = .ok (.astore 4, 2) := by decide +kernel
theorem dX11_judge_7 : decode cX11_judge 7 = .ok (.aload_n 0, 1) := by decide +kernel
theorem dX11_judge_8 : decode cX11_judge 8 = .ok (.getfield 98, 3) := by decide +kernel
theorem dX11_judge_11 : decode cX11_judge 11 = .ok (.iload_n 1, 1) := by decide +kernel
theorem dX11_judge_12 : decode cX11_judge 12 = .ok (.invokevirtual 364, 3) := by decide +kernel
theorem dX11_judge_15 : decode cX11_judge 15 = .ok (.ifCond .eq 18, 3) := by decide +kernel
theorem dX11_judge_18 : decode cX11_judge 18 = .ok (.aload 4, 2) := by decide +kernel
theorem dX11_judge_20 : decode cX11_judge 20 = .ok (.ifnull 13, 3) := by decide +kernel
theorem dX11_judge_23 : decode cX11_judge 23 = .ok (.iload_n 3, 1) := by decide +kernel
theorem dX11_judge_24 : decode cX11_judge 24 = .ok (.ifCond .lt 9, 3) := by decide +kernel
theorem dX11_judge_27 : decode cX11_judge 27 = .ok (.iload_n 3, 1) := by decide +kernel
theorem dX11_judge_28 : decode cX11_judge 28 = .ok (.bipush 20, 2) := by decide +kernel
theorem dX11_judge_30 : decode cX11_judge 30 = .ok (.if_icmp .le 10, 3) := by decide +kernel
theorem dX11_judge_33 : decode cX11_judge 33 = .ok (.aload_n 0, 1) := by decide +kernel
theorem dX11_judge_34 : decode cX11_judge 34 = .ok (.bipush (-2), 2) := by decide +kernel
theorem dX11_judge_36 : decode cX11_judge 36 = .ok (.invokevirtual 109, 3) := by decide +kernel
theorem dX11_judge_39 : decode cX11_judge 39 = .ok (.ireturn, 1) := by decide +kernel
theorem dX11_judge_40 : decode cX11_judge 40 = .ok (.aload 4, 2) := by decide +kernel
theorem dX11_judge_42 : decode cX11_judge 42 = .ok (.invokevirtual 116, 3) := by decide +kernel
theorem dX11_judge_45 : decode cX11_judge 45 = .ok (.ifCond .eq 10, 3) := by decide +kernel
theorem dX11_judge_55 : decode cX11_judge 55 = .ok (.aload 4, 2) := by decide +kernel
theorem dX11_judge_57 : decode cX11_judge 57 = .ok (.invokevirtual 120, 3) := by decide +kernel
theorem dX11_judge_60 : decode cX11_judge 60 = .ok (.ifCond .eq 10, 3) := by decide +kernel
theorem dX11_judge_63 : decode cX11_judge 63 = .ok (.aload_n 0, 1) := by decide +kernel
theorem dX11_judge_64 : decode cX11_judge 64 = .ok (.bipush (-4), 2) := by decide +kernel
theorem dX11_judge_66 : decode cX11_judge 66 = .ok (.invokevirtual 109, 3) := by decide +kernel
theorem dX11_judge_69 : decode cX11_judge 69 = .ok (.ireturn, 1) := by decide +kernel
theorem dX11_length_0 : decode cX11_length 0 = .ok (.aload_n 0, 1) := by decide +kernel
theorem dX11_length_1 : decode cX11_length 1 = .ok (.getfield 98, 3) := by decide +kernel
theorem dX11_length_4 : decode cX11_length 4 = .ok (.iload_n 1, 1) := by decide +kernel
theorem dX11_length_5 : decode cX11_length 5 = .ok (.invokevirtual 364, 3) := by decide +kernel
theorem dX11_length_8 : decode cX11_length 8 = .ok (.ifCond .ne 10, 3) := by decide +kernel
theorem dX11_length_11 : decode cX11_length 11 = .ok (.aload_n 0, 1) := by decide +kernel
theorem dX11_length_12 : decode cX11_length 12 = .ok (.bipush (-2), 2) := by decide +kernel
theorem dX11_length_14 : decode cX11_length 14 = .ok (.invokevirtual 109, 3) := by decide +kernel
theorem dX11_length_17 : decode cX11_length 17 = .ok (.ireturn, 1) := by decide +kernel
theorem dX11_length_18 : decode cX11_length 18 = .ok (.aload_n 0, 1) := by decide +kernel
theorem dX11_length_19 : decode cX11_length 19 = .ok (.getfield 21, 3) := by decide +kernel
theorem dX11_length_22 : decode cX11_length 22 = .ok (.aload_n 0, 1) := by decide +kernel
theorem dX11_length_23 : decode cX11_length 23 = .ok (.aload_n 0, 1) := by decide +kernel
theorem dX11_length_24 : decode cX11_length 24 = .ok (.getfield 98, 3) := by decide +kernel
theorem dX11_length_27 : decode cX11_length 27 = .ok (.iload_n 1, 1) := by decide +kernel
theorem dX11_length_28 : decode cX11_length 28 = .ok (.invokevirtual 274, 3) := by decide +kernel
theorem dX11_length_31 : decode cX11_length 31 = .ok (.invokevirtual 208, 3) := by decide +kernel
theorem dX11_length_34 : decode cX11_length 34 = .ok (.invokevirtual 222, 3) := by decide +kernel
theorem dX11_length_37 : decode cX11_length 37 = .ok (.invokestatic 215, 3) := by decide +kernel
theorem dX11_length_40 : decode cX11_length 40 = .ok (.ireturn, 1) := by decide +kernel
theorem dX11_letter_0 : decode cX11_letter 0 = .ok (.iload_n 1, 1) := by decide +kernel
theorem dX11_letter_1 : decode cX11_letter 1 = .ok (.invokestatic 146, 3) := by decide +kernel
theorem dX11_letter_4 : decode cX11_letter 4 = .ok (.ifCond .ne 10, 3) := by decide +kernel
theorem dX11_letter_7 : decode cX11_letter 7 = .ok (.aload_n 0, 1) := by decide +kernel
theorem dX11_letter_8 : decode cX11_letter 8 = .ok (.bipush (-2), 2) := by decide +kernel
theorem dX11_letter_10 : decode cX11_letter 10 = .ok (.invokevirtual 109, 3) := by decide +kernel
theorem dX11_letter_13 : decode cX11_letter 13 = .ok (.ireturn, 1) := by decide +kernel
theorem dX11_letter_14 : decode cX11_letter 14 = .ok (.aload_n 0, 1) := by decide +kernel
theorem dX11_letter_15 : decode cX11_letter 15 = .ok (.iload_n 1, 1) := by decide +kernel
theorem dX11_letter_16 : decode cX11_letter 16 = .ok (.invokevirtual 153, 3) := by decide +kernel
theorem dX11_letter_19 : decode cX11_letter 19 = .ok (.ifCond .ne 10, 3) := by decide +kernel
theorem dX11_letter_22 : decode cX11_letter 22 = .ok (.aload_n 0, 1) := by decide +kernel
theorem dX11_letter_23 : decode cX11_letter 23 = .ok (.bipush (-4), 2) := by decide +kernel
theorem dX11_letter_25 : decode cX11_letter 25 = .ok (.invokevirtual 109, 3) := by decide +kernel
theorem dX11_letter_28 : decode cX11_letter 28 = .ok (.ireturn, 1) := by decide +kernel
theorem dX11_mark_0 : decode cX11_mark 0 = .ok (.aload_n 0, 1) := by decide +kernel
theorem dX11_mark_1 : decode cX11_mark 1 = .ok (.getfield 98, 3) := by decide +kernel
theorem dX11_mark_4 : decode cX11_mark 4 = .ok (.iload_n 1, 1) := by decide +kernel
theorem dX11_mark_5 : decode cX11_mark 5 = .ok (.invokevirtual 254, 3) := by decide +kernel
theorem dX11_mark_8 : decode cX11_mark 8 = .ok (.astore 6, 2) := by decide +kernel
theorem dX11_mark_10 : decode cX11_mark 10 = .ok (.aload_n 0, 1) := by decide +kernel
theorem dX11_mark_11 : decode cX11_mark 11 = .ok (.aload_n 0, 1) := by decide +kernel
theorem dX11_mark_12 : decode cX11_mark 12 = .ok (.getfield 98, 3) := by decide +kernel
theorem dX11_mark_15 : decode cX11_mark 15 = .ok (.iload_n 1, 1) := by decide +kernel
theorem dX11_mark_16 : decode cX11_mark 16 = .ok (.invokevirtual 274, 3) := by decide +kernel
theorem dX11_mark_19 : decode cX11_mark 19 = .ok (.invokevirtual 208, 3) := by decide +kernel
theorem dX11_mark_22 : decode cX11_mark 22 = .ok (.pop, 1) := by decide +kernel
theorem dX11_mark_23 : decode cX11_mark 23 = .ok (.aload 6, 2) := by decide +kernel
theorem dX11_mark_25 : decode cX11_mark 25 = .ok (.ifnull 21, 3) := by decide +kernel
theorem dX11_mark_28 : decode cX11_mark 28 = .ok (.iload_n 3, 1) := by decide +kernel
theorem dX11_mark_29 : decode cX11_mark 29 = .ok (.iconst 1, 1) := by decide +kernel
theorem dX11_mark_30 : decode cX11_mark 30 = .ok (.if_icmp .lt 16, 3) := by decide +kernel
theorem dX11_mark_33 : decode cX11_mark 33 = .ok (.iload_n 2, 1) := by decide +kernel
theorem dX11_mark_34 : decode cX11_mark 34 = .ok (.iload_n 3, 1) := by decide +kernel
theorem dX11_mark_35 : decode cX11_mark 35 = .ok (.aload 6, 2) := by decide +kernel
theorem dX11_mark_37 : decode cX11_mark 37 = .ok (.invokevirtual 277, 3) := by decide +kernel
theorem dX11_mark_40 : decode cX11_mark 40 = .ok (.invokestatic 134, 3) := by decide +kernel
theorem dX11_mark_43 : decode cX11_mark 43 = .ok (.ifCond .ne 10, 3) := by decide +kernel
theorem dX11_mark_46 : decode cX11_mark 46 = .ok (.aload_n 0, 1) := by decide +kernel
theorem dX11_mark_47 : decode cX11_mark 47 = .ok (.bipush (-2), 2) := by decide +kernel
theorem dX11_mark_49 : decode cX11_mark 49 = .ok (.invokevirtual 109, 3) := by decide +kernel
theorem dX11_mark_52 : decode cX11_mark 52 = .ok (.ireturn, 1) := by decide +kernel
theorem dX11_marked_0 : decode cX11_marked 0 = .ok (.aload_n 0, 1) := by decide +kernel
theorem dX11_marked_1 : decode cX11_marked 1 = .ok (.getfield 98, 3) := by decide +kernel
theorem dX11_marked_4 : decode cX11_marked 4 = .ok (.iload_n 1, 1) := by decide +kernel
theorem dX11_marked_5 : decode cX11_marked 5 = .ok (.invokevirtual 364, 3) := by decide +kernel
theorem dX11_marked_8 : decode cX11_marked 8 = .ok (.ifCond .eq 12, 3) := by decide +kernel
theorem dX11_marked_11 : decode cX11_marked 11 = .ok (.iload_n 2, 1) := by decide +kernel
theorem dX11_marked_12 : decode cX11_marked 12 = .ok (.ifCond .lt 8, 3) := by decide +kernel
theorem dX11_marked_15 : decode cX11_marked 15 = .ok (.iload_n 2, 1) := by decide +kernel
theorem dX11_marked_16 : decode cX11_marked 16 = .ok (.iconst 4, 1) := by decide +kernel
theorem dX11_marked_17 : decode cX11_marked 17 = .ok (.if_icmp .le 10, 3) := by decide +kernel
theorem dX11_marked_20 : decode cX11_marked 20 = .ok (.aload_n 0, 1) := by decide +kernel
theorem dX11_marked_21 : decode cX11_marked 21 = .ok (.bipush (-2), 2) := by decide +kernel
theorem dX11_marked_23 : decode cX11_marked 23 = .ok (.invokevirtual 109, 3) := by decide +kernel
theorem dX11_marked_26 : decode cX11_marked 26 = .ok (.ireturn, 1) := by decide +kernel
theorem dX11_marked_27 : decode cX11_marked 27 = .ok (.aload_n 0, 1) := by decide +kernel
theorem dX11_marked_28 : decode cX11_marked 28 = .ok (.getfield 39, 3) := by decide +kernel
theorem dX11_marked_31 : decode cX11_marked 31 = .ok (.aload_n 0, 1) := by decide +kernel
theorem dX11_marked_32 : decode cX11_marked 32 = .ok (.aload_n 0, 1) := by decide +kernel
theorem dX11_marked_33 : decode cX11_marked 33 = .ok (.getfield 98, 3) := by decide +kernel
theorem dX11_marked_36 : decode cX11_marked 36 = .ok (.iload_n 1, 1) := by decide +kernel
theorem dX11_marked_37 : decode cX11_marked 37 = .ok (.invokevirtual 274, 3) := by decide +kernel
theorem dX11_marked_40 : decode cX11_marked 40 = .ok (.invokevirtual 158, 3) := by decide +kernel
theorem dX11_marked_43 : decode cX11_marked 43 = .ok (.iload_n 2, 1) := by decide +kernel
theorem dX11_marked_44 : decode cX11_marked 44 = .ok (.invokevirtual 370, 3) := by decide +kernel
theorem dX11_marked_47 : decode cX11_marked 47 = .ok (.ireturn, 1) := by decide +kernel
theorem dX11_meet_0 : decode cX11_meet 0 = .ok (.iconst 0, 1) := by decide +kernel
theorem dX11_meet_1 : decode cX11_meet 1 = .ok (.istore_n 1, 1) := by decide +kernel
theorem dX11_meet_2 : decode cX11_meet 2 = .ok (.iload_n 1, 1) := by decide +kernel
theorem dX11_meet_3 : decode cX11_meet 3 = .ok (.bipush 90, 2) := by decide +kernel
theorem dX11_meet_5 : decode cX11_meet 5 = .ok (.if_icmp .gt 214, 3) := by decide +kernel
theorem dX11_meet_8 : decode cX11_meet 8 = .ok (.aload_n 0, 1) := by decide +kernel
theorem dX11_meet_9 : decode cX11_meet 9 = .ok (.getfield 98, 3) := by decide +kernel
theorem dX11_meet_12 : decode cX11_meet 12 = .ok (.invokevirtual 346, 3) := by decide +kernel
theorem dX11_meet_15 : decode cX11_meet 15 = .ok (.ifCond .ne 204, 3) := by decide +kernel
theorem dX11_meet_219 : decode cX11_meet 219 = .ok (.aload_n 0, 1) := by decide +kernel
theorem dX11_meet_220 : decode cX11_meet 220 = .ok (.getfield 98, 3) := by decide +kernel
theorem dX11_meet_223 : decode cX11_meet 223 = .ok (.getfield 327, 3) := by decide +kernel
theorem dX11_meet_226 : decode cX11_meet 226 = .ok (.ireturn, 1) := by decide +kernel
theorem dX11_of_0 : decode cX11_of 0 = .ok (.iload_n 1, 1) := by decide +kernel
theorem dX11_of_1 : decode cX11_of 1 = .ok (.invokestatic 146, 3) := by decide +kernel
theorem dX11_of_4 : decode cX11_of 4 = .ok (.ifCond .eq 12, 3) := by decide +kernel
theorem dX11_of_7 : decode cX11_of 7 = .ok (.iload_n 2, 1) := by decide +kernel
theorem dX11_of_8 : decode cX11_of 8 = .ok (.ifCond .lt 8, 3) := by decide +kernel
theorem dX11_of_11 : decode cX11_of 11 = .ok (.iload_n 2, 1) := by decide +kernel
theorem dX11_of_12 : decode cX11_of 12 = .ok (.iconst 5, 1) := by decide +kernel
theorem dX11_of_13 : decode cX11_of 13 = .ok (.if_icmp .le 10, 3) := by decide +kernel
theorem dX11_of_16 : decode cX11_of 16 = .ok (.aload_n 0, 1) := by decide +kernel
theorem dX11_of_17 : decode cX11_of 17 = .ok (.bipush (-2), 2) := by decide +kernel
theorem dX11_of_19 : decode cX11_of 19 = .ok (.invokevirtual 109, 3) := by decide +kernel
theorem dX11_of_22 : decode cX11_of 22 = .ok (.ireturn, 1) := by decide +kernel
theorem dX11_of_23 : decode cX11_of 23 = .ok (.aload_n 0, 1) := by decide +kernel
theorem dX11_of_24 : decode cX11_of 24 = .ok (.iload_n 1, 1) := by decide +kernel
theorem dX11_of_25 : decode cX11_of 25 = .ok (.invokevirtual 153, 3) := by decide +kernel
theorem dX11_of_28 : decode cX11_of 28 = .ok (.ifCond .ne 10, 3) := by decide +kernel
theorem dX11_of_31 : decode cX11_of 31 = .ok (.aload_n 0, 1) := by decide +kernel
theorem dX11_of_32 : decode cX11_of 32 = .ok (.bipush (-4), 2) := by decide +kernel
theorem dX11_of_34 : decode cX11_of 34 = .ok (.invokevirtual 109, 3) := by decide +kernel
theorem dX11_of_37 : decode cX11_of 37 = .ok (.ireturn, 1) := by decide +kernel
theorem dX11_over_0 : decode cX11_over 0 = .ok (.iload_n 1, 1) := by decide +kernel
theorem dX11_over_1 : decode cX11_over 1 = .ok (.invokestatic 146, 3) := by decide +kernel
theorem dX11_over_4 : decode cX11_over 4 = .ok (.ifCond .eq 17, 3) := by decide +kernel
theorem dX11_over_7 : decode cX11_over 7 = .ok (.iload_n 2, 1) := by decide +kernel
theorem dX11_over_8 : decode cX11_over 8 = .ok (.invokestatic 146, 3) := by decide +kernel
theorem dX11_over_11 : decode cX11_over 11 = .ok (.ifCond .eq 10, 3) := by decide +kernel
theorem dX11_over_14 : decode cX11_over 14 = .ok (.iload_n 3, 1) := by decide +kernel
theorem dX11_over_15 : decode cX11_over 15 = .ok (.invokestatic 146, 3) := by decide +kernel
theorem dX11_over_18 : decode cX11_over 18 = .ok (.ifCond .ne 10, 3) := by decide +kernel
theorem dX11_over_21 : decode cX11_over 21 = .ok (.aload_n 0, 1) := by decide +kernel
theorem dX11_over_22 : decode cX11_over 22 = .ok (.bipush (-2), 2) := by decide +kernel
theorem dX11_over_24 : decode cX11_over 24 = .ok (.invokevirtual 109, 3) := by decide +kernel
theorem dX11_over_27 : decode cX11_over 27 = .ok (.ireturn, 1) := by decide +kernel
theorem dX11_over_28 : decode cX11_over 28 = .ok (.iload 4, 2) := by decide +kernel
theorem dX11_over_30 : decode cX11_over 30 = .ok (.ifCond .lt 9, 3) := by decide +kernel
theorem dX11_over_33 : decode cX11_over 33 = .ok (.iload 4, 2) := by decide +kernel
theorem dX11_over_35 : decode cX11_over 35 = .ok (.iconst 1, 1) := by decide +kernel
theorem dX11_over_36 : decode cX11_over 36 = .ok (.if_icmp .le 10, 3) := by decide +kernel
theorem dX11_over_39 : decode cX11_over 39 = .ok (.aload_n 0, 1) := by decide +kernel
theorem dX11_over_40 : decode cX11_over 40 = .ok (.bipush (-2), 2) := by decide +kernel
theorem dX11_over_42 : decode cX11_over 42 = .ok (.invokevirtual 109, 3) := by decide +kernel
theorem dX11_over_45 : decode cX11_over 45 = .ok (.ireturn, 1) := by decide +kernel
theorem dX11_over_46 : decode cX11_over 46 = .ok (.aload_n 0, 1) := by decide +kernel
theorem dX11_over_47 : decode cX11_over 47 = .ok (.iload_n 2, 1) := by decide +kernel
theorem dX11_over_48 : decode cX11_over 48 = .ok (.invokevirtual 153, 3) := by decide +kernel
theorem dX11_over_51 : decode cX11_over 51 = .ok (.ifCond .eq 11, 3) := by decide +kernel
theorem dX11_over_62 : decode cX11_over 62 = .ok (.aload_n 0, 1) := by decide +kernel
theorem dX11_over_63 : decode cX11_over 63 = .ok (.bipush (-4), 2) := by decide +kernel
theorem dX11_over_65 : decode cX11_over 65 = .ok (.invokevirtual 109, 3) := by decide +kernel
theorem dX11_over_68 : decode cX11_over 68 = .ok (.ireturn, 1) := by decide +kernel
theorem dX11_part_0 : decode cX11_part 0 = .ok (.iload_n 1, 1) := by decide +kernel
theorem dX11_part_1 : decode cX11_part 1 = .ok (.invokestatic 146, 3) := by decide +kernel
theorem dX11_part_4 : decode cX11_part 4 = .ok (.ifCond .eq 12, 3) := by decide +kernel
theorem dX11_part_7 : decode cX11_part 7 = .ok (.iload_n 3, 1) := by decide +kernel
theorem dX11_part_8 : decode cX11_part 8 = .ok (.ifCond .lt 8, 3) := by decide +kernel
theorem dX11_part_11 : decode cX11_part 11 = .ok (.iload_n 3, 1) := by decide +kernel
theorem dX11_part_12 : decode cX11_part 12 = .ok (.iconst 3, 1) := by decide +kernel
theorem dX11_part_13 : decode cX11_part 13 = .ok (.if_icmp .le 10, 3) := by decide +kernel
theorem dX11_part_16 : decode cX11_part 16 = .ok (.aload_n 0, 1) := by decide +kernel
theorem dX11_part_17 : decode cX11_part 17 = .ok (.bipush (-2), 2) := by decide +kernel
theorem dX11_part_19 : decode cX11_part 19 = .ok (.invokevirtual 109, 3) := by decide +kernel
theorem dX11_part_22 : decode cX11_part 22 = .ok (.ireturn, 1) := by decide +kernel
theorem dX11_part_23 : decode cX11_part 23 = .ok (.aload_n 0, 1) := by decide +kernel
theorem dX11_part_24 : decode cX11_part 24 = .ok (.iload_n 1, 1) := by decide +kernel
theorem dX11_part_25 : decode cX11_part 25 = .ok (.invokevirtual 153, 3) := by decide +kernel
theorem dX11_part_28 : decode cX11_part 28 = .ok (.ifCond .ne 10, 3) := by decide +kernel
theorem dX11_part_31 : decode cX11_part 31 = .ok (.aload_n 0, 1) := by decide +kernel
theorem dX11_part_32 : decode cX11_part 32 = .ok (.bipush (-4), 2) := by decide +kernel
theorem dX11_part_34 : decode cX11_part 34 = .ok (.invokevirtual 109, 3) := by decide +kernel
theorem dX11_part_37 : decode cX11_part 37 = .ok (.ireturn, 1) := by decide +kernel
theorem dX11_point_0 : decode cX11_point 0 = .ok (.aload_n 0, 1) := by decide +kernel
theorem dX11_point_1 : decode cX11_point 1 = .ok (.getfield 98, 3) := by decide +kernel
theorem dX11_point_4 : decode cX11_point 4 = .ok (.iload_n 1, 1) := by decide +kernel
theorem dX11_point_5 : decode cX11_point 5 = .ok (.invokevirtual 254, 3) := by decide +kernel
theorem dX11_point_8 : decode cX11_point 8 = .ok (.astore 4, 2) := by decide +kernel
theorem dX11_point_10 : decode cX11_point 10 = .ok (.aload_n 0, 1) := by decide +kernel
theorem dX11_point_11 : decode cX11_point 11 = .ok (.aload_n 0, 1) := by decide +kernel
theorem dX11_point_12 : decode cX11_point 12 = .ok (.getfield 98, 3) := by decide +kernel
theorem dX11_point_15 : decode cX11_point 15 = .ok (.iload_n 1, 1) := by decide +kernel
theorem dX11_point_16 : decode cX11_point 16 = .ok (.invokevirtual 274, 3) := by decide +kernel
theorem dX11_point_19 : decode cX11_point 19 = .ok (.invokevirtual 208, 3) := by decide +kernel
theorem dX11_point_22 : decode cX11_point 22 = .ok (.pop, 1) := by decide +kernel
theorem dX11_point_23 : decode cX11_point 23 = .ok (.aload 4, 2) := by decide +kernel
theorem dX11_point_25 : decode cX11_point 25 = .ok (.ifnonnull 10, 3) := by decide +kernel
theorem dX11_point_28 : decode cX11_point 28 = .ok (.aload_n 0, 1) := by decide +kernel
theorem dX11_point_29 : decode cX11_point 29 = .ok (.bipush (-2), 2) := by decide +kernel
theorem dX11_point_31 : decode cX11_point 31 = .ok (.invokevirtual 109, 3) := by decide +kernel
theorem dX11_point_34 : decode cX11_point 34 = .ok (.ireturn, 1) := by decide +kernel
theorem dX11_point_35 : decode cX11_point 35 = .ok (.aload 4, 2) := by decide +kernel
theorem dX11_point_37 : decode cX11_point 37 = .ok (.invokevirtual 277, 3) := by decide +kernel
theorem dX11_point_40 : decode cX11_point 40 = .ok (.lstore 5, 2) := by decide +kernel
theorem dX11_point_42 : decode cX11_point 42 = .ok (.iload_n 2, 1) := by decide +kernel
theorem dX11_point_43 : decode cX11_point 43 = .ok (.ifCond .lt 23, 3) := by decide +kernel
theorem dX11_point_46 : decode cX11_point 46 = .ok (.iload_n 2, 1) := by decide +kernel
theorem dX11_point_47 : decode cX11_point 47 = .ok (.i2l, 1) := by decide +kernel
theorem dX11_point_48 : decode cX11_point 48 = .ok (.lload 5, 2) := by decide +kernel
theorem dX11_point_50 : decode cX11_point 50 = .ok (.lcmp, 1) := by decide +kernel
theorem dX11_point_51 : decode cX11_point 51 = .ok (.ifCond .gt 15, 3) := by decide +kernel
theorem dX11_point_54 : decode cX11_point 54 = .ok (.iload_n 3, 1) := by decide +kernel
theorem dX11_point_55 : decode cX11_point 55 = .ok (.ifCond .lt 11, 3) := by decide +kernel
theorem dX11_point_58 : decode cX11_point 58 = .ok (.iload_n 3, 1) := by decide +kernel
theorem dX11_point_59 : decode cX11_point 59 = .ok (.i2l, 1) := by decide +kernel
theorem dX11_point_60 : decode cX11_point 60 = .ok (.lload 5, 2) := by decide +kernel
theorem dX11_point_62 : decode cX11_point 62 = .ok (.lcmp, 1) := by decide +kernel
theorem dX11_point_63 : decode cX11_point 63 = .ok (.ifCond .le 10, 3) := by decide +kernel
theorem dX11_point_66 : decode cX11_point 66 = .ok (.aload_n 0, 1) := by decide +kernel
theorem dX11_point_67 : decode cX11_point 67 = .ok (.bipush (-2), 2) := by decide +kernel
theorem dX11_point_69 : decode cX11_point 69 = .ok (.invokevirtual 109, 3) := by decide +kernel
theorem dX11_point_72 : decode cX11_point 72 = .ok (.ireturn, 1) := by decide +kernel
theorem dX11_point_73 : decode cX11_point 73 = .ok (.aload 4, 2) := by decide +kernel
theorem dX11_point_75 : decode cX11_point 75 = .ok (.iload_n 2, 1) := by decide +kernel
theorem dX11_point_76 : decode cX11_point 76 = .ok (.i2l, 1) := by decide +kernel
theorem dX11_point_77 : decode cX11_point 77 = .ok (.putfield 317, 3) := by decide +kernel
theorem dX11_point_80 : decode cX11_point 80 = .ok (.aload 4, 2) := by decide +kernel
theorem dX11_point_82 : decode cX11_point 82 = .ok (.iload_n 3, 1) := by decide +kernel
theorem dX11_point_83 : decode cX11_point 83 = .ok (.i2l, 1) := by decide +kernel
theorem dX11_point_84 : decode cX11_point 84 = .ok (.putfield 320, 3) := by decide +kernel
theorem dX11_point_87 : decode cX11_point 87 = .ok (.iconst 1, 1) := by decide +kernel
theorem dX11_point_88 : decode cX11_point 88 = .ok (.ireturn, 1) := by decide +kernel
theorem dX11_redo_0 : decode cX11_redo 0 = .ok (.aload_n 0, 1) := by decide +kernel
theorem dX11_redo_1 : decode cX11_redo 1 = .ok (.getfield 98, 3) := by decide +kernel
theorem dX11_redo_4 : decode cX11_redo 4 = .ok (.iload_n 1, 1) := by decide +kernel
theorem dX11_redo_5 : decode cX11_redo 5 = .ok (.invokevirtual 254, 3) := by decide +kernel
theorem dX11_redo_8 : decode cX11_redo 8 = .ok (.astore_n 2, 1) := by decide +kernel
theorem dX11_redo_9 : decode cX11_redo 9 = .ok (.aload_n 0, 1) := by decide +kernel
theorem dX11_redo_10 : decode cX11_redo 10 = .ok (.aload_n 0, 1) := by decide +kernel
theorem dX11_redo_11 : decode cX11_redo 11 = .ok (.getfield 98, 3) := by decide +kernel
theorem dX11_redo_14 : decode cX11_redo 14 = .ok (.iload_n 1, 1) := by decide +kernel
theorem dX11_redo_15 : decode cX11_redo 15 = .ok (.invokevirtual 274, 3) := by decide +kernel
theorem dX11_redo_18 : decode cX11_redo 18 = .ok (.invokevirtual 208, 3) := by decide +kernel
theorem dX11_redo_21 : decode cX11_redo 21 = .ok (.pop, 1) := by decide +kernel
theorem dX11_redo_22 : decode cX11_redo 22 = .ok (.aload_n 2, 1) := by decide +kernel
theorem dX11_redo_23 : decode cX11_redo 23 = .ok (.ifnonnull 10, 3) := by decide +kernel
theorem dX11_redo_26 : decode cX11_redo 26 = .ok (.aload_n 0, 1) := by decide +kernel
theorem dX11_redo_27 : decode cX11_redo 27 = .ok (.bipush (-2), 2) := by decide +kernel
theorem dX11_redo_29 : decode cX11_redo 29 = .ok (.invokevirtual 109, 3) := by decide +kernel
theorem dX11_redo_32 : decode cX11_redo 32 = .ok (.ireturn, 1) := by decide +kernel
theorem dX11_redo_33 : decode cX11_redo 33 = .ok (.aload_n 0, 1) := by decide +kernel
theorem dX11_redo_34 : decode cX11_redo 34 = .ok (.aload_n 2, 1) := by decide +kernel
theorem dX11_redo_35 : decode cX11_redo 35 = .ok (.iconst 1, 1) := by decide +kernel
theorem dX11_redo_36 : decode cX11_redo 36 = .ok (.invokevirtual 304, 3) := by decide +kernel
theorem dX11_redo_39 : decode cX11_redo 39 = .ok (.invokevirtual 208, 3) := by decide +kernel
theorem dX11_redo_42 : decode cX11_redo 42 = .ok (.pop, 1) := by decide +kernel
theorem dX11_redo_43 : decode cX11_redo 43 = .ok (.aload_n 2, 1) := by decide +kernel
theorem dX11_redo_44 : decode cX11_redo 44 = .ok (.iconst 1, 1) := by decide +kernel
theorem dX11_redo_45 : decode cX11_redo 45 = .ok (.invokestatic 307, 3) := by decide +kernel
theorem dX11_redo_48 : decode cX11_redo 48 = .ok (.istore_n 3, 1) := by decide +kernel
theorem dX11_redo_49 : decode cX11_redo 49 = .ok (.iload_n 3, 1) := by decide +kernel
theorem dX11_redo_50 : decode cX11_redo 50 = .ok (.ifCond .eq 9, 3) := by decide +kernel
theorem dX11_redo_53 : decode cX11_redo 53 = .ok (.aload_n 0, 1) := by decide +kernel
theorem dX11_redo_54 : decode cX11_redo 54 = .ok (.iload_n 3, 1) := by decide +kernel
theorem dX11_redo_55 : decode cX11_redo 55 = .ok (.invokevirtual 109, 3) := by decide +kernel
theorem dX11_redo_58 : decode cX11_redo 58 = .ok (.ireturn, 1) := by decide +kernel
theorem dX11_revision_0 : decode cX11_revision 0 = .ok (.iload_n 1, 1) := by decide +kernel
theorem dX11_revision_1 : decode cX11_revision 1 = .ok (.invokestatic 146, 3) := by decide +kernel
theorem dX11_revision_4 : decode cX11_revision 4 = .ok (.ifCond .eq 19, 3) := by decide +kernel
theorem dX11_revision_7 : decode cX11_revision 7 = .ok (.iload_n 2, 1) := by decide +kernel
theorem dX11_revision_8 : decode cX11_revision 8 = .ok (.iconst 1, 1) := by decide +kernel
theorem dX11_revision_9 : decode cX11_revision 9 = .ok (.if_icmp .lt 14, 3) := by decide +kernel
theorem dX11_revision_12 : decode cX11_revision 12 = .ok (.iload_n 2, 1) := by decide +kernel
theorem dX11_revision_13 : decode cX11_revision 13 = .ok (.aload_n 0, 1) := by decide +kernel
theorem dX11_revision_14 : decode cX11_revision 14 = .ok (.getfield 98, 3) := by decide +kernel
theorem dX11_revision_17 : decode cX11_revision 17 = .ok (.getfield 327, 3) := by decide +kernel
theorem dX11_revision_20 : decode cX11_revision 20 = .ok (.if_icmp .le 10, 3) := by decide +kernel
theorem dX11_revision_23 : decode cX11_revision 23 = .ok (.aload_n 0, 1) := by decide +kernel
theorem dX11_revision_24 : decode cX11_revision 24 = .ok (.bipush (-2), 2) := by decide +kernel
theorem dX11_revision_26 : decode cX11_revision 26 = .ok (.invokevirtual 109, 3) := by decide +kernel
theorem dX11_revision_29 : decode cX11_revision 29 = .ok (.ireturn, 1) := by decide +kernel
theorem dX11_row_0 : decode cX11_row 0 = .ok (.aload_n 0, 1) := by decide +kernel
theorem dX11_row_1 : decode cX11_row 1 = .ok (.iload_n 1, 1) := by decide +kernel
theorem dX11_row_2 : decode cX11_row 2 = .ok (.invokevirtual 105, 3) := by decide +kernel
theorem dX11_row_5 : decode cX11_row 5 = .ok (.astore 4, 2) := by decide +kernel
theorem dX11_row_7 : decode cX11_row 7 = .ok (.aload 4, 2) := by decide +kernel
theorem dX11_row_9 : decode cX11_row 9 = .ok (.ifnull 22, 3) := by decide +kernel
theorem dX11_row_12 : decode cX11_row 12 = .ok (.iload_n 2, 1) := by decide +kernel
theorem dX11_row_13 : decode cX11_row 13 = .ok (.ifCond .lt 18, 3) := by decide +kernel
theorem dX11_row_16 : decode cX11_row 16 = .ok (.iload_n 2, 1) := by decide +kernel
theorem dX11_row_17 : decode cX11_row 17 = .ok (.iconst 5, 1) := by decide +kernel
theorem dX11_row_18 : decode cX11_row 18 = .ok (.if_icmp .ge 13, 3) := by decide +kernel
theorem dX11_row_21 : decode cX11_row 21 = .ok (.iload_n 3, 1) := by decide +kernel
theorem dX11_row_22 : decode cX11_row 22 = .ok (.ifCond .lt 9, 3) := by decide +kernel
theorem dX11_row_25 : decode cX11_row 25 = .ok (.iload_n 3, 1) := by decide +kernel
theorem dX11_row_26 : decode cX11_row 26 = .ok (.bipush 40, 2) := by decide +kernel
theorem dX11_row_28 : decode cX11_row 28 = .ok (.if_icmp .le 10, 3) := by decide +kernel
theorem dX11_row_31 : decode cX11_row 31 = .ok (.aload_n 0, 1) := by decide +kernel
theorem dX11_row_32 : decode cX11_row 32 = .ok (.bipush (-2), 2) := by decide +kernel
theorem dX11_row_34 : decode cX11_row 34 = .ok (.invokevirtual 109, 3) := by decide +kernel
theorem dX11_row_37 : decode cX11_row 37 = .ok (.ireturn, 1) := by decide +kernel
theorem dX11_row_38 : decode cX11_row 38 = .ok (.aload 4, 2) := by decide +kernel
theorem dX11_row_40 : decode cX11_row 40 = .ok (.iload_n 2, 1) := by decide +kernel
theorem dX11_row_41 : decode cX11_row 41 = .ok (.iload_n 3, 1) := by decide +kernel
theorem dX11_row_42 : decode cX11_row 42 = .ok (.invokevirtual 112, 3) := by decide +kernel
theorem dX11_row_45 : decode cX11_row 45 = .ok (.iconst 1, 1) := by decide +kernel
theorem dX11_row_46 : decode cX11_row 46 = .ok (.ireturn, 1) := by decide +kernel
theorem dX11_says_0 : decode cX11_says 0 = .ok (.aload_n 0, 1) := by decide +kernel
theorem dX11_says_1 : decode cX11_says 1 = .ok (.iload_n 1, 1) := by decide +kernel
theorem dX11_says_2 : decode cX11_says 2 = .ok (.invokevirtual 105, 3) := by decide +kernel
theorem dX11_says_5 : decode cX11_says 5 = .ok (.astore_n 3, 1) := by decide +kernel
theorem dX11_says_6 : decode cX11_says 6 = .ok (.aload_n 3, 1) := by decide +kernel
theorem dX11_says_7 : decode cX11_says 7 = .ok (.ifnull 12, 3) := by decide +kernel
theorem dX11_says_10 : decode cX11_says 10 = .ok (.iload_n 2, 1) := by decide +kernel
theorem dX11_says_11 : decode cX11_says 11 = .ok (.ifCond .lt 8, 3) := by decide +kernel
theorem dX11_says_14 : decode cX11_says 14 = .ok (.iload_n 2, 1) := by decide +kernel
theorem dX11_says_15 : decode cX11_says 15 = .ok (.iconst 5, 1) := by decide +kernel
theorem dX11_says_16 : decode cX11_says 16 = .ok (.if_icmp .le 10, 3) := by decide +kernel
theorem dX11_says_19 : decode cX11_says 19 = .ok (.aload_n 0, 1) := by decide +kernel
theorem dX11_says_20 : decode cX11_says 20 = .ok (.bipush (-2), 2) := by decide +kernel
theorem dX11_says_22 : decode cX11_says 22 = .ok (.invokevirtual 109, 3) := by decide +kernel
theorem dX11_says_25 : decode cX11_says 25 = .ok (.ireturn, 1) := by decide +kernel
theorem dX11_says_26 : decode cX11_says 26 = .ok (.aload_n 3, 1) := by decide +kernel
theorem dX11_says_27 : decode cX11_says 27 = .ok (.invokevirtual 169, 3) := by decide +kernel
theorem dX11_says_30 : decode cX11_says 30 = .ok (.ifCond .eq 10, 3) := by decide +kernel
theorem dX11_says_40 : decode cX11_says 40 = .ok (.aload_n 3, 1) := by decide +kernel
theorem dX11_says_41 : decode cX11_says 41 = .ok (.invokevirtual 120, 3) := by decide +kernel
theorem dX11_says_44 : decode cX11_says 44 = .ok (.ifCond .eq 10, 3) := by decide +kernel
theorem dX11_says_47 : decode cX11_says 47 = .ok (.aload_n 0, 1) := by decide +kernel
theorem dX11_says_48 : decode cX11_says 48 = .ok (.bipush (-4), 2) := by decide +kernel
theorem dX11_says_50 : decode cX11_says 50 = .ok (.invokevirtual 109, 3) := by decide +kernel
theorem dX11_says_53 : decode cX11_says 53 = .ok (.ireturn, 1) := by decide +kernel
theorem dX11_seed_0 : decode cX11_seed 0 = .ok (.aload_n 0, 1) := by decide +kernel
theorem dX11_seed_1 : decode cX11_seed 1 = .ok (.getfield 98, 3) := by decide +kernel
theorem dX11_seed_4 : decode cX11_seed 4 = .ok (.getfield 395, 3) := by decide +kernel
theorem dX11_seed_7 : decode cX11_seed 7 = .ok (.istore_n 2, 1) := by decide +kernel
theorem dX11_seed_8 : decode cX11_seed 8 = .ok (.aload_n 0, 1) := by decide +kernel
theorem dX11_seed_9 : decode cX11_seed 9 = .ok (.getfield 98, 3) := by decide +kernel
theorem dX11_seed_12 : decode cX11_seed 12 = .ok (.iload_n 1, 1) := by decide +kernel
theorem dX11_seed_13 : decode cX11_seed 13 = .ok (.putfield 395, 3) := by decide +kernel
theorem dX11_seed_16 : decode cX11_seed 16 = .ok (.iload_n 2, 1) := by decide +kernel
theorem dX11_seed_17 : decode cX11_seed 17 = .ok (.ireturn, 1) := by decide +kernel
theorem dX11_serve_0 : decode cX11_serve 0 = .ok (.aload_n 0, 1) := by decide +kernel
theorem dX11_serve_1 : decode cX11_serve 1 = .ok (.getfield 98, 3) := by decide +kernel
theorem dX11_serve_4 : decode cX11_serve 4 = .ok (.iload_n 1, 1) := by decide +kernel
theorem dX11_serve_5 : decode cX11_serve 5 = .ok (.invokevirtual 254, 3) := by decide +kernel
theorem dX11_serve_8 : decode cX11_serve 8 = .ok (.astore_n 2, 1) := by decide +kernel
theorem dX11_serve_9 : decode cX11_serve 9 = .ok (.aload_n 2, 1) := by decide +kernel
theorem dX11_serve_10 : decode cX11_serve 10 = .ok (.ifnonnull 10, 3) := by decide +kernel
theorem dX11_serve_13 : decode cX11_serve 13 = .ok (.aload_n 0, 1) := by decide +kernel
theorem dX11_serve_14 : decode cX11_serve 14 = .ok (.bipush (-2), 2) := by decide +kernel
theorem dX11_serve_16 : decode cX11_serve 16 = .ok (.invokevirtual 109, 3) := by decide +kernel
theorem dX11_serve_19 : decode cX11_serve 19 = .ok (.ireturn, 1) := by decide +kernel
theorem dX11_serve_20 : decode cX11_serve 20 = .ok (.aload_n 2, 1) := by decide +kernel
theorem dX11_serve_21 : decode cX11_serve 21 = .ok (.invokevirtual 324, 3) := by decide +kernel
theorem dX11_serve_24 : decode cX11_serve 24 = .ok (.ifCond .ne 10, 3) := by decide +kernel
theorem dX11_serve_27 : decode cX11_serve 27 = .ok (.aload_n 0, 1) := by decide +kernel
theorem dX11_serve_28 : decode cX11_serve 28 = .ok (.bipush (-5), 2) := by decide +kernel
theorem dX11_serve_30 : decode cX11_serve 30 = .ok (.invokevirtual 109, 3) := by decide +kernel
theorem dX11_serve_33 : decode cX11_serve 33 = .ok (.ireturn, 1) := by decide +kernel
theorem dX11_set_0 : decode cX11_set 0 = .ok (.aload_n 0, 1) := by decide +kernel
theorem dX11_set_1 : decode cX11_set 1 = .ok (.iload_n 1, 1) := by decide +kernel
theorem dX11_set_2 : decode cX11_set 2 = .ok (.invokevirtual 105, 3) := by decide +kernel
theorem dX11_set_5 : decode cX11_set 5 = .ok (.astore 5, 2) := by decide +kernel
theorem dX11_set_7 : decode cX11_set 7 = .ok (.aload 5, 2) := by decide +kernel
theorem dX11_set_9 : decode cX11_set 9 = .ok (.ifnonnull 10, 3) := by decide +kernel
theorem dX11_set_12 : decode cX11_set 12 = .ok (.aload_n 0, 1) := by decide +kernel
theorem dX11_set_13 : decode cX11_set 13 = .ok (.bipush (-2), 2) := by decide +kernel
theorem dX11_set_15 : decode cX11_set 15 = .ok (.invokevirtual 109, 3) := by decide +kernel
theorem dX11_set_18 : decode cX11_set 18 = .ok (.ireturn, 1) := by decide +kernel
theorem dX11_set_19 : decode cX11_set 19 = .ok (.aload 5, 2) := by decide +kernel
theorem dX11_set_21 : decode cX11_set 21 = .ok (.invokevirtual 116, 3) := by decide +kernel
theorem dX11_set_24 : decode cX11_set 24 = .ok (.ifCond .eq 10, 3) := by decide +kernel
theorem dX11_set_34 : decode cX11_set 34 = .ok (.aload 5, 2) := by decide +kernel
theorem dX11_set_36 : decode cX11_set 36 = .ok (.invokevirtual 120, 3) := by decide +kernel
theorem dX11_set_39 : decode cX11_set 39 = .ok (.ifCond .eq 10, 3) := by decide +kernel
theorem dX11_set_42 : decode cX11_set 42 = .ok (.aload_n 0, 1) := by decide +kernel
theorem dX11_set_43 : decode cX11_set 43 = .ok (.bipush (-4), 2) := by decide +kernel
theorem dX11_set_45 : decode cX11_set 45 = .ok (.invokevirtual 109, 3) := by decide +kernel
theorem dX11_set_48 : decode cX11_set 48 = .ok (.ireturn, 1) := by decide +kernel
theorem dX11_show_0 : decode cX11_show 0 = .ok (.aload_n 0, 1) := by decide +kernel
theorem dX11_show_1 : decode cX11_show 1 = .ok (.iload_n 1, 1) := by decide +kernel
theorem dX11_show_2 : decode cX11_show 2 = .ok (.invokevirtual 105, 3) := by decide +kernel
theorem dX11_show_5 : decode cX11_show 5 = .ok (.astore 4, 2) := by decide +kernel
theorem dX11_show_7 : decode cX11_show 7 = .ok (.aload 4, 2) := by decide +kernel
theorem dX11_show_9 : decode cX11_show 9 = .ok (.ifnull 15, 3) := by decide +kernel
theorem dX11_show_12 : decode cX11_show 12 = .ok (.iload_n 2, 1) := by decide +kernel
theorem dX11_show_13 : decode cX11_show 13 = .ok (.iconst (-1), 1) := by decide +kernel
theorem dX11_show_14 : decode cX11_show 14 = .ok (.if_icmp .eq 17, 3) := by decide +kernel
theorem dX11_show_17 : decode cX11_show 17 = .ok (.iload_n 2, 1) := by decide +kernel
theorem dX11_show_18 : decode cX11_show 18 = .ok (.invokestatic 146, 3) := by decide +kernel
theorem dX11_show_21 : decode cX11_show 21 = .ok (.ifCond .ne 10, 3) := by decide +kernel
theorem dX11_show_24 : decode cX11_show 24 = .ok (.aload_n 0, 1) := by decide +kernel
theorem dX11_show_25 : decode cX11_show 25 = .ok (.bipush (-2), 2) := by decide +kernel
theorem dX11_show_27 : decode cX11_show 27 = .ok (.invokevirtual 109, 3) := by decide +kernel
theorem dX11_show_30 : decode cX11_show 30 = .ok (.ireturn, 1) := by decide +kernel
theorem dX11_show_31 : decode cX11_show 31 = .ok (.iload_n 2, 1) := by decide +kernel
theorem dX11_show_32 : decode cX11_show 32 = .ok (.iconst (-1), 1) := by decide +kernel
theorem dX11_show_33 : decode cX11_show 33 = .ok (.if_icmp .ne 10, 3) := by decide +kernel
theorem dX11_show_36 : decode cX11_show 36 = .ok (.aload 4, 2) := by decide +kernel
theorem dX11_show_38 : decode cX11_show 38 = .ok (.invokevirtual 150, 3) := by decide +kernel
theorem dX11_show_41 : decode cX11_show 41 = .ok (.iconst 1, 1) := by decide +kernel
theorem dX11_show_42 : decode cX11_show 42 = .ok (.ireturn, 1) := by decide +kernel
theorem dX11_show_43 : decode cX11_show 43 = .ok (.aload_n 0, 1) := by decide +kernel
theorem dX11_show_44 : decode cX11_show 44 = .ok (.iload_n 2, 1) := by decide +kernel
theorem dX11_show_45 : decode cX11_show 45 = .ok (.invokevirtual 153, 3) := by decide +kernel
theorem dX11_show_48 : decode cX11_show 48 = .ok (.ifCond .ne 10, 3) := by decide +kernel
theorem dX11_show_51 : decode cX11_show 51 = .ok (.aload_n 0, 1) := by decide +kernel
theorem dX11_show_52 : decode cX11_show 52 = .ok (.bipush (-4), 2) := by decide +kernel
theorem dX11_show_54 : decode cX11_show 54 = .ok (.invokevirtual 109, 3) := by decide +kernel
theorem dX11_show_57 : decode cX11_show 57 = .ok (.ireturn, 1) := by decide +kernel
theorem dX11_spelled_0 : decode cX11_spelled 0 = .ok (.iload_n 1, 1) := by decide +kernel
theorem dX11_spelled_1 : decode cX11_spelled 1 = .ok (.invokestatic 146, 3) := by decide +kernel
theorem dX11_spelled_4 : decode cX11_spelled 4 = .ok (.ifCond .ne 10, 3) := by decide +kernel
theorem dX11_spelled_7 : decode cX11_spelled 7 = .ok (.aload_n 0, 1) := by decide +kernel
theorem dX11_spelled_8 : decode cX11_spelled 8 = .ok (.bipush (-2), 2) := by decide +kernel
theorem dX11_spelled_10 : decode cX11_spelled 10 = .ok (.invokevirtual 109, 3) := by decide +kernel
theorem dX11_spelled_13 : decode cX11_spelled 13 = .ok (.ireturn, 1) := by decide +kernel
theorem dX11_spelled_14 : decode cX11_spelled 14 = .ok (.aload_n 0, 1) := by decide +kernel
theorem dX11_spelled_15 : decode cX11_spelled 15 = .ok (.iload_n 1, 1) := by decide +kernel
theorem dX11_spelled_16 : decode cX11_spelled 16 = .ok (.invokevirtual 153, 3) := by decide +kernel
theorem dX11_spelled_19 : decode cX11_spelled 19 = .ok (.ifCond .ne 10, 3) := by decide +kernel
theorem dX11_spelled_22 : decode cX11_spelled 22 = .ok (.aload_n 0, 1) := by decide +kernel
theorem dX11_spelled_23 : decode cX11_spelled 23 = .ok (.bipush (-4), 2) := by decide +kernel
theorem dX11_spelled_25 : decode cX11_spelled 25 = .ok (.invokevirtual 109, 3) := by decide +kernel
theorem dX11_spelled_28 : decode cX11_spelled 28 = .ok (.ireturn, 1) := by decide +kernel
theorem dX11_status_0 : decode cX11_status 0 = .ok (.iload_n 1, 1) := by decide +kernel
theorem dX11_status_1 : decode cX11_status 1 = .ok (.tableswitch 102 0 7 #[47, 55, 60, 65, 73, 81, 89, 97], 47) := by decide +kernel
theorem dX11_status_48 : decode cX11_status 48 = .ok (.aload_n 0, 1) := by decide +kernel
theorem dX11_status_49 : decode cX11_status 49 = .ok (.getfield 98, 3) := by decide +kernel
theorem dX11_status_52 : decode cX11_status 52 = .ok (.getfield 327, 3) := by decide +kernel
theorem dX11_status_55 : decode cX11_status 55 = .ok (.ireturn, 1) := by decide +kernel
theorem dX11_status_56 : decode cX11_status 56 = .ok (.aload_n 0, 1) := by decide +kernel
theorem dX11_status_57 : decode cX11_status 57 = .ok (.invokevirtual 406, 3) := by decide +kernel
theorem dX11_status_60 : decode cX11_status 60 = .ok (.ireturn, 1) := by decide +kernel
theorem dX11_status_61 : decode cX11_status 61 = .ok (.aload_n 0, 1) := by decide +kernel
theorem dX11_status_62 : decode cX11_status 62 = .ok (.invokevirtual 409, 3) := by decide +kernel
theorem dX11_status_65 : decode cX11_status 65 = .ok (.ireturn, 1) := by decide +kernel
theorem dX11_status_66 : decode cX11_status 66 = .ok (.aload_n 0, 1) := by decide +kernel
theorem dX11_status_67 : decode cX11_status 67 = .ok (.invokevirtual 412, 3) := by decide +kernel
theorem dX11_status_70 : decode cX11_status 70 = .ok (.invokestatic 215, 3) := by decide +kernel
theorem dX11_status_73 : decode cX11_status 73 = .ok (.ireturn, 1) := by decide +kernel
theorem dX11_status_74 : decode cX11_status 74 = .ok (.aload_n 0, 1) := by decide +kernel
theorem dX11_status_75 : decode cX11_status 75 = .ok (.getfield 98, 3) := by decide +kernel
theorem dX11_status_78 : decode cX11_status 78 = .ok (.invokevirtual 415, 3) := by decide +kernel
theorem dX11_status_81 : decode cX11_status 81 = .ok (.ireturn, 1) := by decide +kernel
theorem dX11_status_82 : decode cX11_status 82 = .ok (.aload_n 0, 1) := by decide +kernel
theorem dX11_status_83 : decode cX11_status 83 = .ok (.getfield 57, 3) := by decide +kernel
theorem dX11_status_86 : decode cX11_status 86 = .ok (.getfield 186, 3) := by decide +kernel
theorem dX11_status_89 : decode cX11_status 89 = .ok (.ireturn, 1) := by decide +kernel
theorem dX11_status_90 : decode cX11_status 90 = .ok (.aload_n 0, 1) := by decide +kernel
theorem dX11_status_91 : decode cX11_status 91 = .ok (.getfield 98, 3) := by decide +kernel
theorem dX11_status_94 : decode cX11_status 94 = .ok (.getfield 395, 3) := by decide +kernel
theorem dX11_status_97 : decode cX11_status 97 = .ok (.ireturn, 1) := by decide +kernel
theorem dX11_status_98 : decode cX11_status 98 = .ok (.aload_n 0, 1) := by decide +kernel
theorem dX11_status_99 : decode cX11_status 99 = .ok (.invokevirtual 418, 3) := by decide +kernel
theorem dX11_status_102 : decode cX11_status 102 = .ok (.ireturn, 1) := by decide +kernel
theorem dX11_status_103 : decode cX11_status 103 = .ok (.iload_n 1, 1) := by decide +kernel
theorem dX11_status_104 : decode cX11_status 104 = .ok (.bipush 12, 2) := by decide +kernel
theorem dX11_status_106 : decode cX11_status 106 = .ok (.isub, 1) := by decide +kernel
theorem dX11_status_107 : decode cX11_status 107 = .ok (.istore_n 2, 1) := by decide +kernel
theorem dX11_status_108 : decode cX11_status 108 = .ok (.iload_n 2, 1) := by decide +kernel
theorem dX11_status_109 : decode cX11_status 109 = .ok (.ifCond .lt 21, 3) := by decide +kernel
theorem dX11_status_112 : decode cX11_status 112 = .ok (.iload_n 2, 1) := by decide +kernel
theorem dX11_status_113 : decode cX11_status 113 = .ok (.aload_n 0, 1) := by decide +kernel
theorem dX11_status_114 : decode cX11_status 114 = .ok (.getfield 79, 3) := by decide +kernel
theorem dX11_status_117 : decode cX11_status 117 = .ok (.arraylength, 1) := by decide +kernel
theorem dX11_status_118 : decode cX11_status 118 = .ok (.if_icmp .ge 12, 3) := by decide +kernel
theorem dX11_status_121 : decode cX11_status 121 = .ok (.aload_n 0, 1) := by decide +kernel
theorem dX11_status_122 : decode cX11_status 122 = .ok (.getfield 79, 3) := by decide +kernel
theorem dX11_status_125 : decode cX11_status 125 = .ok (.iload_n 2, 1) := by decide +kernel
theorem dX11_status_126 : decode cX11_status 126 = .ok (.iaload, 1) := by decide +kernel
theorem dX11_status_127 : decode cX11_status 127 = .ok (.goto 4, 3) := by decide +kernel
theorem dX11_status_130 : decode cX11_status 130 = .ok (.iconst (-1), 1) := by decide +kernel
theorem dX11_status_131 : decode cX11_status 131 = .ok (.ireturn, 1) := by decide +kernel
theorem dX11_takes_0 : decode cX11_takes 0 = .ok (.aload_n 0, 1) := by decide +kernel
theorem dX11_takes_1 : decode cX11_takes 1 = .ok (.getfield 98, 3) := by decide +kernel
theorem dX11_takes_4 : decode cX11_takes 4 = .ok (.iload_n 2, 1) := by decide +kernel
theorem dX11_takes_5 : decode cX11_takes 5 = .ok (.invokevirtual 254, 3) := by decide +kernel
theorem dX11_takes_8 : decode cX11_takes 8 = .ok (.astore 4, 2) := by decide +kernel
theorem dX11_takes_10 : decode cX11_takes 10 = .ok (.iload_n 1, 1) := by decide +kernel
theorem dX11_takes_11 : decode cX11_takes 11 = .ok (.invokestatic 146, 3) := by decide +kernel
theorem dX11_takes_14 : decode cX11_takes 14 = .ok (.ifCond .eq 17, 3) := by decide +kernel
theorem dX11_takes_17 : decode cX11_takes 17 = .ok (.aload 4, 2) := by decide +kernel
theorem dX11_takes_19 : decode cX11_takes 19 = .ok (.ifnull 12, 3) := by decide +kernel
theorem dX11_takes_22 : decode cX11_takes 22 = .ok (.iload_n 3, 1) := by decide +kernel
theorem dX11_takes_23 : decode cX11_takes 23 = .ok (.ifCond .lt 8, 3) := by decide +kernel
theorem dX11_takes_26 : decode cX11_takes 26 = .ok (.iload_n 3, 1) := by decide +kernel
theorem dX11_takes_27 : decode cX11_takes 27 = .ok (.iconst 3, 1) := by decide +kernel
theorem dX11_takes_28 : decode cX11_takes 28 = .ok (.if_icmp .le 10, 3) := by decide +kernel
theorem dX11_takes_31 : decode cX11_takes 31 = .ok (.aload_n 0, 1) := by decide +kernel
theorem dX11_takes_32 : decode cX11_takes 32 = .ok (.bipush (-2), 2) := by decide +kernel
theorem dX11_takes_34 : decode cX11_takes 34 = .ok (.invokevirtual 109, 3) := by decide +kernel
theorem dX11_takes_37 : decode cX11_takes 37 = .ok (.ireturn, 1) := by decide +kernel
theorem dX11_takes_38 : decode cX11_takes 38 = .ok (.aload 4, 2) := by decide +kernel
theorem dX11_takes_40 : decode cX11_takes 40 = .ok (.iload_n 3, 1) := by decide +kernel
theorem dX11_takes_41 : decode cX11_takes 41 = .ok (.invokevirtual 358, 3) := by decide +kernel
theorem dX11_takes_44 : decode cX11_takes 44 = .ok (.ifCond .ne 10, 3) := by decide +kernel
theorem dX11_takes_47 : decode cX11_takes 47 = .ok (.aload_n 0, 1) := by decide +kernel
theorem dX11_takes_48 : decode cX11_takes 48 = .ok (.bipush (-5), 2) := by decide +kernel
theorem dX11_takes_50 : decode cX11_takes 50 = .ok (.invokevirtual 109, 3) := by decide +kernel
theorem dX11_takes_53 : decode cX11_takes 53 = .ok (.ireturn, 1) := by decide +kernel
theorem dX11_text_0 : decode cX11_text 0 = .ok (.aload_n 0, 1) := by decide +kernel
theorem dX11_text_1 : decode cX11_text 1 = .ok (.aload_n 0, 1) := by decide +kernel
theorem dX11_text_2 : decode cX11_text 2 = .ok (.getfield 98, 3) := by decide +kernel
theorem dX11_text_5 : decode cX11_text 5 = .ok (.iload_n 1, 1) := by decide +kernel
theorem dX11_text_6 : decode cX11_text 6 = .ok (.invokevirtual 274, 3) := by decide +kernel
theorem dX11_text_9 : decode cX11_text 9 = .ok (.invokevirtual 208, 3) := by decide +kernel
theorem dX11_text_12 : decode cX11_text 12 = .ok (.istore 4, 2) := by decide +kernel
theorem dX11_text_14 : decode cX11_text 14 = .ok (.aload_n 0, 1) := by decide +kernel
theorem dX11_text_15 : decode cX11_text 15 = .ok (.getfield 98, 3) := by decide +kernel
theorem dX11_text_18 : decode cX11_text 18 = .ok (.iload_n 1, 1) := by decide +kernel
theorem dX11_text_19 : decode cX11_text 19 = .ok (.invokevirtual 364, 3) := by decide +kernel
theorem dX11_text_22 : decode cX11_text 22 = .ok (.ifCond .eq 22, 3) := by decide +kernel
theorem dX11_text_25 : decode cX11_text 25 = .ok (.iload_n 2, 1) := by decide +kernel
theorem dX11_text_26 : decode cX11_text 26 = .ok (.ifCond .lt 18, 3) := by decide +kernel
theorem dX11_text_29 : decode cX11_text 29 = .ok (.iload_n 2, 1) := by decide +kernel
theorem dX11_text_30 : decode cX11_text 30 = .ok (.i2l, 1) := by decide +kernel
theorem dX11_text_31 : decode cX11_text 31 = .ok (.aload_n 0, 1) := by decide +kernel
theorem dX11_text_32 : decode cX11_text 32 = .ok (.getfield 21, 3) := by decide +kernel
theorem dX11_text_35 : decode cX11_text 35 = .ok (.iload 4, 2) := by decide +kernel
theorem dX11_text_37 : decode cX11_text 37 = .ok (.invokevirtual 222, 3) := by decide +kernel
theorem dX11_text_40 : decode cX11_text 40 = .ok (.lcmp, 1) := by decide +kernel
theorem dX11_text_41 : decode cX11_text 41 = .ok (.ifCond .lt 10, 3) := by decide +kernel
theorem dX11_text_44 : decode cX11_text 44 = .ok (.aload_n 0, 1) := by decide +kernel
theorem dX11_text_45 : decode cX11_text 45 = .ok (.bipush (-2), 2) := by decide +kernel
theorem dX11_text_47 : decode cX11_text 47 = .ok (.invokevirtual 109, 3) := by decide +kernel
theorem dX11_text_50 : decode cX11_text 50 = .ok (.ireturn, 1) := by decide +kernel
theorem dX11_turned_0 : decode cX11_turned 0 = .ok (.aload_n 0, 1) := by decide +kernel
theorem dX11_turned_1 : decode cX11_turned 1 = .ok (.getfield 98, 3) := by decide +kernel
theorem dX11_turned_4 : decode cX11_turned 4 = .ok (.iload_n 3, 1) := by decide +kernel
theorem dX11_turned_5 : decode cX11_turned 5 = .ok (.invokevirtual 254, 3) := by decide +kernel
theorem dX11_turned_8 : decode cX11_turned 8 = .ok (.astore 4, 2) := by decide +kernel
theorem dX11_turned_10 : decode cX11_turned 10 = .ok (.iload_n 1, 1) := by decide +kernel
theorem dX11_turned_11 : decode cX11_turned 11 = .ok (.invokestatic 146, 3) := by decide +kernel
theorem dX11_turned_14 : decode cX11_turned 14 = .ok (.ifCond .eq 15, 3) := by decide +kernel
theorem dX11_turned_17 : decode cX11_turned 17 = .ok (.iload_n 2, 1) := by decide +kernel
theorem dX11_turned_18 : decode cX11_turned 18 = .ok (.invokestatic 146, 3) := by decide +kernel
theorem dX11_turned_21 : decode cX11_turned 21 = .ok (.ifCond .eq 8, 3) := by decide +kernel
theorem dX11_turned_24 : decode cX11_turned 24 = .ok (.aload 4, 2) := by decide +kernel
theorem dX11_turned_26 : decode cX11_turned 26 = .ok (.ifnonnull 10, 3) := by decide +kernel
theorem dX11_turned_29 : decode cX11_turned 29 = .ok (.aload_n 0, 1) := by decide +kernel
theorem dX11_turned_30 : decode cX11_turned 30 = .ok (.bipush (-2), 2) := by decide +kernel
theorem dX11_turned_32 : decode cX11_turned 32 = .ok (.invokevirtual 109, 3) := by decide +kernel
theorem dX11_turned_35 : decode cX11_turned 35 = .ok (.ireturn, 1) := by decide +kernel
theorem dX11_turned_36 : decode cX11_turned 36 = .ok (.aload_n 0, 1) := by decide +kernel
theorem dX11_turned_37 : decode cX11_turned 37 = .ok (.iload_n 2, 1) := by decide +kernel
theorem dX11_turned_38 : decode cX11_turned 38 = .ok (.invokevirtual 153, 3) := by decide +kernel
theorem dX11_turned_41 : decode cX11_turned 41 = .ok (.ifCond .ne 10, 3) := by decide +kernel
theorem dX11_turned_44 : decode cX11_turned 44 = .ok (.aload_n 0, 1) := by decide +kernel
theorem dX11_turned_45 : decode cX11_turned 45 = .ok (.bipush (-4), 2) := by decide +kernel
theorem dX11_turned_47 : decode cX11_turned 47 = .ok (.invokevirtual 109, 3) := by decide +kernel
theorem dX11_turned_50 : decode cX11_turned 50 = .ok (.ireturn, 1) := by decide +kernel
theorem dX11_undo_0 : decode cX11_undo 0 = .ok (.aload_n 0, 1) := by decide +kernel
theorem dX11_undo_1 : decode cX11_undo 1 = .ok (.getfield 98, 3) := by decide +kernel
theorem dX11_undo_4 : decode cX11_undo 4 = .ok (.iload_n 1, 1) := by decide +kernel
theorem dX11_undo_5 : decode cX11_undo 5 = .ok (.invokevirtual 254, 3) := by decide +kernel
theorem dX11_undo_8 : decode cX11_undo 8 = .ok (.astore_n 2, 1) := by decide +kernel
theorem dX11_undo_9 : decode cX11_undo 9 = .ok (.aload_n 0, 1) := by decide +kernel
theorem dX11_undo_10 : decode cX11_undo 10 = .ok (.aload_n 0, 1) := by decide +kernel
theorem dX11_undo_11 : decode cX11_undo 11 = .ok (.getfield 98, 3) := by decide +kernel
theorem dX11_undo_14 : decode cX11_undo 14 = .ok (.iload_n 1, 1) := by decide +kernel
theorem dX11_undo_15 : decode cX11_undo 15 = .ok (.invokevirtual 274, 3) := by decide +kernel
theorem dX11_undo_18 : decode cX11_undo 18 = .ok (.invokevirtual 208, 3) := by decide +kernel
theorem dX11_undo_21 : decode cX11_undo 21 = .ok (.pop, 1) := by decide +kernel
theorem dX11_undo_22 : decode cX11_undo 22 = .ok (.aload_n 2, 1) := by decide +kernel
theorem dX11_undo_23 : decode cX11_undo 23 = .ok (.ifnonnull 10, 3) := by decide +kernel
theorem dX11_undo_26 : decode cX11_undo 26 = .ok (.aload_n 0, 1) := by decide +kernel
theorem dX11_undo_27 : decode cX11_undo 27 = .ok (.bipush (-2), 2) := by decide +kernel
theorem dX11_undo_29 : decode cX11_undo 29 = .ok (.invokevirtual 109, 3) := by decide +kernel
theorem dX11_undo_32 : decode cX11_undo 32 = .ok (.ireturn, 1) := by decide +kernel
theorem dX11_undo_33 : decode cX11_undo 33 = .ok (.aload_n 0, 1) := by decide +kernel
theorem dX11_undo_34 : decode cX11_undo 34 = .ok (.aload_n 2, 1) := by decide +kernel
theorem dX11_undo_35 : decode cX11_undo 35 = .ok (.iconst 0, 1) := by decide +kernel
theorem dX11_undo_36 : decode cX11_undo 36 = .ok (.invokevirtual 304, 3) := by decide +kernel
theorem dX11_undo_39 : decode cX11_undo 39 = .ok (.invokevirtual 208, 3) := by decide +kernel
theorem dX11_undo_42 : decode cX11_undo 42 = .ok (.pop, 1) := by decide +kernel
theorem dX11_undo_43 : decode cX11_undo 43 = .ok (.aload_n 2, 1) := by decide +kernel
theorem dX11_undo_44 : decode cX11_undo 44 = .ok (.iconst 0, 1) := by decide +kernel
theorem dX11_undo_45 : decode cX11_undo 45 = .ok (.invokestatic 307, 3) := by decide +kernel
theorem dX11_undo_48 : decode cX11_undo 48 = .ok (.istore_n 3, 1) := by decide +kernel
theorem dX11_undo_49 : decode cX11_undo 49 = .ok (.iload_n 3, 1) := by decide +kernel
theorem dX11_undo_50 : decode cX11_undo 50 = .ok (.ifCond .eq 9, 3) := by decide +kernel
theorem dX11_undo_53 : decode cX11_undo 53 = .ok (.aload_n 0, 1) := by decide +kernel
theorem dX11_undo_54 : decode cX11_undo 54 = .ok (.iload_n 3, 1) := by decide +kernel
theorem dX11_undo_55 : decode cX11_undo 55 = .ok (.invokevirtual 109, 3) := by decide +kernel
theorem dX11_undo_58 : decode cX11_undo 58 = .ok (.ireturn, 1) := by decide +kernel
theorem dX11_wipe_0 : decode cX11_wipe 0 = .ok (.aload_n 0, 1) := by decide +kernel
theorem dX11_wipe_1 : decode cX11_wipe 1 = .ok (.getfield 57, 3) := by decide +kernel
theorem dX11_wipe_4 : decode cX11_wipe 4 = .ok (.getfield 186, 3) := by decide +kernel
theorem dX11_wipe_7 : decode cX11_wipe 7 = .ok (.istore_n 1, 1) := by decide +kernel
theorem dX11_wipe_8 : decode cX11_wipe 8 = .ok (.aload_n 0, 1) := by decide +kernel
theorem dX11_wipe_9 : decode cX11_wipe 9 = .ok (.getfield 57, 3) := by decide +kernel
theorem dX11_wipe_12 : decode cX11_wipe 12 = .ok (.iconst 0, 1) := by decide +kernel
theorem dX11_wipe_13 : decode cX11_wipe 13 = .ok (.putfield 186, 3) := by decide +kernel
theorem dX11_wipe_16 : decode cX11_wipe 16 = .ok (.iload_n 1, 1) := by decide +kernel
theorem dX11_wipe_17 : decode cX11_wipe 17 = .ok (.ireturn, 1) := by decide +kernel
theorem dX12_apart_0 : decode cX12_apart 0 = .ok (.iload_n 1, 1) := by decide +kernel
theorem dX12_apart_1 : decode cX12_apart 1 = .ok (.invokestatic 319, 3) := by decide +kernel
theorem dX12_apart_4 : decode cX12_apart 4 = .ok (.ifCond .eq 19, 3) := by decide +kernel
theorem dX12_apart_7 : decode cX12_apart 7 = .ok (.iload_n 2, 1) := by decide +kernel
theorem dX12_apart_8 : decode cX12_apart 8 = .ok (.invokestatic 319, 3) := by decide +kernel
theorem dX12_apart_11 : decode cX12_apart 11 = .ok (.ifCond .eq 12, 3) := by decide +kernel
theorem dX12_apart_14 : decode cX12_apart 14 = .ok (.aload_n 0, 1) := by decide +kernel
theorem dX12_apart_15 : decode cX12_apart 15 = .ok (.iload_n 1, 1) := by decide +kernel
theorem dX12_apart_16 : decode cX12_apart 16 = .ok (.iload_n 2, 1) := by decide +kernel
theorem dX12_apart_17 : decode cX12_apart 17 = .ok (.invokevirtual 322, 3) := by decide +kernel
theorem dX12_apart_20 : decode cX12_apart 20 = .ok (.goto 9, 3) := by decide +kernel
theorem dX12_apart_23 : decode cX12_apart 23 = .ok (.aload_n 0, 1) := by decide +kernel
theorem dX12_apart_24 : decode cX12_apart 24 = .ok (.bipush (-2), 2) := by decide +kernel
theorem dX12_apart_26 : decode cX12_apart 26 = .ok (.invokevirtual 183, 3) := by decide +kernel
theorem dX12_apart_29 : decode cX12_apart 29 = .ok (.ireturn, 1) := by decide +kernel
theorem dX12_back_0 : decode cX12_back 0 = .ok (.aload_n 0, 1) := by decide +kernel
theorem dX12_back_1 : decode cX12_back 1 = .ok (.getfield 363, 3) := by decide +kernel
theorem dX12_back_4 : decode cX12_back 4 = .ok (.ifCond .ne 10, 3) := by decide +kernel
theorem dX12_back_7 : decode cX12_back 7 = .ok (.aload_n 0, 1) := by decide +kernel
theorem dX12_back_8 : decode cX12_back 8 = .ok (.bipush (-5), 2) := by decide +kernel
theorem dX12_back_10 : decode cX12_back 10 = .ok (.invokevirtual 183, 3) := by decide +kernel
theorem dX12_back_13 : decode cX12_back 13 = .ok (.ireturn, 1) := by decide +kernel
theorem dX12_behind_0 : decode cX12_behind 0 = .ok (.iload_n 1, 1) := by decide +kernel
theorem dX12_behind_1 : decode cX12_behind 1 = .ok (.invokestatic 211, 3) := by decide +kernel
theorem dX12_behind_4 : decode cX12_behind 4 = .ok (.ifCond .eq 17, 3) := by decide +kernel
theorem dX12_behind_7 : decode cX12_behind 7 = .ok (.iload_n 2, 1) := by decide +kernel
theorem dX12_behind_8 : decode cX12_behind 8 = .ok (.invokestatic 211, 3) := by decide +kernel
theorem dX12_behind_11 : decode cX12_behind 11 = .ok (.ifCond .eq 10, 3) := by decide +kernel
theorem dX12_behind_14 : decode cX12_behind 14 = .ok (.iload_n 3, 1) := by decide +kernel
theorem dX12_behind_15 : decode cX12_behind 15 = .ok (.invokestatic 211, 3) := by decide +kernel
theorem dX12_behind_18 : decode cX12_behind 18 = .ok (.ifCond .ne 10, 3) := by decide +kernel
theorem dX12_behind_21 : decode cX12_behind 21 = .ok (.aload_n 0, 1) := by decide +kernel
theorem dX12_behind_22 : decode cX12_behind 22 = .ok (.bipush (-2), 2) := by decide +kernel
theorem dX12_behind_24 : decode cX12_behind 24 = .ok (.invokevirtual 183, 3) := by decide +kernel
theorem dX12_behind_27 : decode cX12_behind 27 = .ok (.ireturn, 1) := by decide +kernel
theorem dX12_behind_28 : decode cX12_behind 28 = .ok (.aload_n 0, 1) := by decide +kernel
theorem dX12_behind_29 : decode cX12_behind 29 = .ok (.iload_n 2, 1) := by decide +kernel
theorem dX12_behind_30 : decode cX12_behind 30 = .ok (.invokevirtual 230, 3) := by decide +kernel
theorem dX12_behind_33 : decode cX12_behind 33 = .ok (.ifCond .eq 11, 3) := by decide +kernel
theorem dX12_behind_44 : decode cX12_behind 44 = .ok (.aload_n 0, 1) := by decide +kernel
theorem dX12_behind_45 : decode cX12_behind 45 = .ok (.bipush (-4), 2) := by decide +kernel
theorem dX12_behind_47 : decode cX12_behind 47 = .ok (.invokevirtual 183, 3) := by decide +kernel
theorem dX12_behind_50 : decode cX12_behind 50 = .ok (.ireturn, 1) := by decide +kernel
theorem dX12_clientOf_0 : decode cX12_clientOf 0 = .ok (.iload_n 1, 1) := by decide +kernel
theorem dX12_clientOf_1 : decode cX12_clientOf 1 = .ok (.invokestatic 272, 3) := by decide +kernel
theorem dX12_clientOf_4 : decode cX12_clientOf 4 = .ok (.ifCond .eq 15, 3) := by decide +kernel
theorem dX12_clientOf_7 : decode cX12_clientOf 7 = .ok (.iload_n 2, 1) := by decide +kernel
theorem dX12_clientOf_8 : decode cX12_clientOf 8 = .ok (.i2l, 1) := by decide +kernel
theorem dX12_clientOf_9 : decode cX12_clientOf 9 = .ok (.lconst 0, 1) := by decide +kernel
theorem dX12_clientOf_10 : decode cX12_clientOf 10 = .ok (.ldc2_w 315, 3) := by decide +kernel
theorem dX12_clientOf_13 : decode cX12_clientOf 13 = .ok (.invokestatic 175, 3) := by decide +kernel
theorem dX12_clientOf_16 : decode cX12_clientOf 16 = .ok (.ifCond .ne 10, 3) := by decide +kernel
theorem dX12_clientOf_19 : decode cX12_clientOf 19 = .ok (.aload_n 0, 1) := by decide +kernel
theorem dX12_clientOf_20 : decode cX12_clientOf 20 = .ok (.bipush (-2), 2) := by decide +kernel
theorem dX12_clientOf_22 : decode cX12_clientOf 22 = .ok (.invokevirtual 183, 3) := by decide +kernel
theorem dX12_clientOf_25 : decode cX12_clientOf 25 = .ok (.ireturn, 1) := by decide +kernel
theorem dX12_clientOf_26 : decode cX12_clientOf 26 = .ok (.iload_n 2, 1) := by decide +kernel
theorem dX12_clientOf_27 : decode cX12_clientOf 27 = .ok (.tableswitch 111 0 5 #[37, 44, 66, 82, 104, 104], 37) := by decide +kernel
theorem dX12_clientOf_64 : decode cX12_clientOf 64 = .ok (.aload_n 0, 1) := by decide +kernel
theorem dX12_clientOf_65 : decode cX12_clientOf 65 = .ok (.iload_n 1, 1) := by decide +kernel
theorem dX12_clientOf_66 : decode cX12_clientOf 66 = .ok (.iconst 0, 1) := by decide +kernel
theorem dX12_clientOf_67 : decode cX12_clientOf 67 = .ok (.invokevirtual 135, 3) := by decide +kernel
theorem dX12_clientOf_70 : decode cX12_clientOf 70 = .ok (.ireturn, 1) := by decide +kernel
theorem dX12_clientOf_71 : decode cX12_clientOf 71 = .ok (.aload_n 0, 1) := by decide +kernel
theorem dX12_clientOf_72 : decode cX12_clientOf 72 = .ok (.iload_n 1, 1) := by decide +kernel
theorem dX12_clientOf_73 : decode cX12_clientOf 73 = .ok (.iconst 1, 1) := by decide +kernel
theorem dX12_clientOf_74 : decode cX12_clientOf 74 = .ok (.invokevirtual 135, 3) := by decide +kernel
theorem dX12_clientOf_77 : decode cX12_clientOf 77 = .ok (.ifCond .le 14, 3) := by decide +kernel
theorem dX12_clientOf_91 : decode cX12_clientOf 91 = .ok (.iconst 0, 1) := by decide +kernel
theorem dX12_clientOf_92 : decode cX12_clientOf 92 = .ok (.ireturn, 1) := by decide +kernel
theorem dX12_clientOf_93 : decode cX12_clientOf 93 = .ok (.aload_n 0, 1) := by decide +kernel
theorem dX12_clientOf_94 : decode cX12_clientOf 94 = .ok (.iload_n 1, 1) := by decide +kernel
theorem dX12_clientOf_95 : decode cX12_clientOf 95 = .ok (.iconst 1, 1) := by decide +kernel
theorem dX12_clientOf_96 : decode cX12_clientOf 96 = .ok (.invokevirtual 135, 3) := by decide +kernel
theorem dX12_clientOf_99 : decode cX12_clientOf 99 = .ok (.iconst 2, 1) := by decide +kernel
theorem dX12_clientOf_100 : decode cX12_clientOf 100 = .ok (.if_icmp .ne 7, 3) := by decide +kernel
theorem dX12_clientOf_107 : decode cX12_clientOf 107 = .ok (.iconst 0, 1) := by decide +kernel
theorem dX12_clientOf_108 : decode cX12_clientOf 108 = .ok (.ireturn, 1) := by decide +kernel
theorem dX12_clientOf_109 : decode cX12_clientOf 109 = .ok (.aload_n 0, 1) := by decide +kernel
theorem dX12_clientOf_110 : decode cX12_clientOf 110 = .ok (.iload_n 1, 1) := by decide +kernel
theorem dX12_clientOf_111 : decode cX12_clientOf 111 = .ok (.iconst 3, 1) := by decide +kernel
theorem dX12_clientOf_112 : decode cX12_clientOf 112 = .ok (.invokevirtual 135, 3) := by decide +kernel
theorem dX12_clientOf_115 : decode cX12_clientOf 115 = .ok (.ifCond .le 14, 3) := by decide +kernel
theorem dX12_clientOf_129 : decode cX12_clientOf 129 = .ok (.iconst 0, 1) := by decide +kernel
theorem dX12_clientOf_130 : decode cX12_clientOf 130 = .ok (.ireturn, 1) := by decide +kernel
theorem dX12_clientOf_131 : decode cX12_clientOf 131 = .ok (.aload_n 0, 1) := by decide +kernel
theorem dX12_clientOf_132 : decode cX12_clientOf 132 = .ok (.iload_n 1, 1) := by decide +kernel
theorem dX12_clientOf_133 : decode cX12_clientOf 133 = .ok (.iload_n 2, 1) := by decide +kernel
theorem dX12_clientOf_134 : decode cX12_clientOf 134 = .ok (.invokevirtual 135, 3) := by decide +kernel
theorem dX12_clientOf_137 : decode cX12_clientOf 137 = .ok (.ireturn, 1) := by decide +kernel
theorem dX12_clientOf_138 : decode cX12_clientOf 138 = .ok (.aload_n 0, 1) := by decide +kernel
theorem dX12_clientOf_139 : decode cX12_clientOf 139 = .ok (.getfield 34, 3) := by decide +kernel
theorem dX12_clientOf_142 : decode cX12_clientOf 142 = .ok (.iconst 0, 1) := by decide +kernel
theorem dX12_clientOf_143 : decode cX12_clientOf 143 = .ok (.iaload, 1) := by decide +kernel
theorem dX12_clientOf_144 : decode cX12_clientOf 144 = .ok (.aload_n 0, 1) := by decide +kernel
theorem dX12_clientOf_145 : decode cX12_clientOf 145 = .ok (.iload_n 1, 1) := by decide +kernel
theorem dX12_clientOf_146 : decode cX12_clientOf 146 = .ok (.iconst 0, 1) := by decide +kernel
theorem dX12_clientOf_147 : decode cX12_clientOf 147 = .ok (.invokevirtual 135, 3) := by decide +kernel
theorem dX12_clientOf_150 : decode cX12_clientOf 150 = .ok (.isub, 1) := by decide +kernel
theorem dX12_clientOf_151 : decode cX12_clientOf 151 = .ok (.ireturn, 1) := by decide +kernel
theorem dX12_copy_0 : decode cX12_copy 0 = .ok (.iload_n 1, 1) := by decide +kernel
theorem dX12_copy_1 : decode cX12_copy 1 = .ok (.invokestatic 327, 3) := by decide +kernel
theorem dX12_copy_4 : decode cX12_copy 4 = .ok (.ifCond .eq 10, 3) := by decide +kernel
theorem dX12_copy_7 : decode cX12_copy 7 = .ok (.iload_n 2, 1) := by decide +kernel
theorem dX12_copy_8 : decode cX12_copy 8 = .ok (.invokestatic 327, 3) := by decide +kernel
theorem dX12_copy_11 : decode cX12_copy 11 = .ok (.ifCond .ne 10, 3) := by decide +kernel
theorem dX12_copy_14 : decode cX12_copy 14 = .ok (.aload_n 0, 1) := by decide +kernel
theorem dX12_copy_15 : decode cX12_copy 15 = .ok (.bipush (-2), 2) := by decide +kernel
theorem dX12_copy_17 : decode cX12_copy 17 = .ok (.invokevirtual 183, 3) := by decide +kernel
theorem dX12_copy_20 : decode cX12_copy 20 = .ok (.ireturn, 1) := by decide +kernel
theorem dX12_copy_21 : decode cX12_copy 21 = .ok (.aload_n 0, 1) := by decide +kernel
theorem dX12_copy_22 : decode cX12_copy 22 = .ok (.getfield 52, 3) := by decide +kernel
theorem dX12_copy_25 : decode cX12_copy 25 = .ok (.iload_n 1, 1) := by decide +kernel
theorem dX12_copy_26 : decode cX12_copy 26 = .ok (.iaload, 1) := by decide +kernel
theorem dX12_copy_27 : decode cX12_copy 27 = .ok (.iconst 4, 1) := by decide +kernel
theorem dX12_copy_28 : decode cX12_copy 28 = .ok (.if_icmp .gt 46, 3) := by decide +kernel
theorem dX12_copy_31 : decode cX12_copy 31 = .ok (.aload_n 0, 1) := by decide +kernel
theorem dX12_copy_32 : decode cX12_copy 32 = .ok (.getfield 52, 3) := by decide +kernel
theorem dX12_copy_35 : decode cX12_copy 35 = .ok (.iload_n 2, 1) := by decide +kernel
theorem dX12_copy_36 : decode cX12_copy 36 = .ok (.iaload, 1) := by decide +kernel
theorem dX12_copy_37 : decode cX12_copy 37 = .ok (.iconst 4, 1) := by decide +kernel
theorem dX12_copy_38 : decode cX12_copy 38 = .ok (.if_icmp .gt 36, 3) := by decide +kernel
theorem dX12_copy_41 : decode cX12_copy 41 = .ok (.aload_n 0, 1) := by decide +kernel
theorem dX12_copy_42 : decode cX12_copy 42 = .ok (.getfield 52, 3) := by decide +kernel
theorem dX12_copy_45 : decode cX12_copy 45 = .ok (.iload_n 1, 1) := by decide +kernel
theorem dX12_copy_46 : decode cX12_copy 46 = .ok (.iaload, 1) := by decide +kernel
theorem dX12_copy_47 : decode cX12_copy 47 = .ok (.ifCond .lt 34, 3) := by decide +kernel
theorem dX12_copy_81 : decode cX12_copy 81 = .ok (.aload_n 0, 1) := by decide +kernel
theorem dX12_copy_82 : decode cX12_copy 82 = .ok (.getfield 52, 3) := by decide +kernel
theorem dX12_copy_85 : decode cX12_copy 85 = .ok (.iload_n 1, 1) := by decide +kernel
theorem dX12_copy_86 : decode cX12_copy 86 = .ok (.iaload, 1) := by decide +kernel
theorem dX12_copy_87 : decode cX12_copy 87 = .ok (.ifCond .lt 12, 3) := by decide +kernel
theorem dX12_copy_99 : decode cX12_copy 99 = .ok (.aload_n 0, 1) := by decide +kernel
theorem dX12_copy_100 : decode cX12_copy 100 = .ok (.bipush (-4), 2) := by decide +kernel
theorem dX12_copy_102 : decode cX12_copy 102 = .ok (.invokevirtual 183, 3) := by decide +kernel
theorem dX12_copy_105 : decode cX12_copy 105 = .ok (.ireturn, 1) := by decide +kernel
theorem dX12_cursor_0 : decode cX12_cursor 0 = .ok (.iload_n 1, 1) := by decide +kernel
theorem dX12_cursor_1 : decode cX12_cursor 1 = .ok (.invokestatic 272, 3) := by decide +kernel
theorem dX12_cursor_4 : decode cX12_cursor 4 = .ok (.ifCond .eq 25, 3) := by decide +kernel
theorem dX12_cursor_7 : decode cX12_cursor 7 = .ok (.iload_n 2, 1) := by decide +kernel
theorem dX12_cursor_8 : decode cX12_cursor 8 = .ok (.i2l, 1) := by decide +kernel
theorem dX12_cursor_9 : decode cX12_cursor 9 = .ok (.lconst 0, 1) := by decide +kernel
theorem dX12_cursor_10 : decode cX12_cursor 10 = .ok (.lconst 1, 1) := by decide +kernel
theorem dX12_cursor_11 : decode cX12_cursor 11 = .ok (.invokestatic 175, 3) := by decide +kernel
theorem dX12_cursor_14 : decode cX12_cursor 14 = .ok (.ifCond .eq 15, 3) := by decide +kernel
theorem dX12_cursor_17 : decode cX12_cursor 17 = .ok (.aload_n 0, 1) := by decide +kernel
theorem dX12_cursor_18 : decode cX12_cursor 18 = .ok (.iload_n 1, 1) := by decide +kernel
theorem dX12_cursor_19 : decode cX12_cursor 19 = .ok (.bipush 6, 2) := by decide +kernel
theorem dX12_cursor_21 : decode cX12_cursor 21 = .ok (.iload_n 2, 1) := by decide +kernel
theorem dX12_cursor_22 : decode cX12_cursor 22 = .ok (.iadd, 1) := by decide +kernel
theorem dX12_cursor_23 : decode cX12_cursor 23 = .ok (.invokevirtual 135, 3) := by decide +kernel
theorem dX12_cursor_26 : decode cX12_cursor 26 = .ok (.goto 9, 3) := by decide +kernel
theorem dX12_cursor_29 : decode cX12_cursor 29 = .ok (.aload_n 0, 1) := by decide +kernel
theorem dX12_cursor_30 : decode cX12_cursor 30 = .ok (.bipush (-2), 2) := by decide +kernel
theorem dX12_cursor_32 : decode cX12_cursor 32 = .ok (.invokevirtual 183, 3) := by decide +kernel
theorem dX12_cursor_35 : decode cX12_cursor 35 = .ok (.ireturn, 1) := by decide +kernel
theorem dX12_cut_0 : decode cX12_cut 0 = .ok (.aload_n 0, 1) := by decide +kernel
theorem dX12_cut_1 : decode cX12_cut 1 = .ok (.iload_n 1, 1) := by decide +kernel
theorem dX12_cut_2 : decode cX12_cut 2 = .ok (.iload_n 2, 1) := by decide +kernel
theorem dX12_cut_3 : decode cX12_cut 3 = .ok (.iload_n 3, 1) := by decide +kernel
theorem dX12_cut_4 : decode cX12_cut 4 = .ok (.invokevirtual 293, 3) := by decide +kernel
theorem dX12_cut_7 : decode cX12_cut 7 = .ok (.ifCond .ne 10, 3) := by decide +kernel
theorem dX12_cut_10 : decode cX12_cut 10 = .ok (.aload_n 0, 1) := by decide +kernel
theorem dX12_cut_11 : decode cX12_cut 11 = .ok (.bipush (-2), 2) := by decide +kernel
theorem dX12_cut_13 : decode cX12_cut 13 = .ok (.invokevirtual 183, 3) := by decide +kernel
theorem dX12_cut_16 : decode cX12_cut 16 = .ok (.ireturn, 1) := by decide +kernel
theorem dX12_differ_0 : decode cX12_differ 0 = .ok (.iload_n 1, 1) := by decide +kernel
theorem dX12_differ_1 : decode cX12_differ 1 = .ok (.invokestatic 211, 3) := by decide +kernel
theorem dX12_differ_4 : decode cX12_differ 4 = .ok (.ifCond .eq 10, 3) := by decide +kernel
theorem dX12_differ_7 : decode cX12_differ 7 = .ok (.iload_n 2, 1) := by decide +kernel
theorem dX12_differ_8 : decode cX12_differ 8 = .ok (.invokestatic 211, 3) := by decide +kernel
theorem dX12_differ_11 : decode cX12_differ 11 = .ok (.ifCond .ne 10, 3) := by decide +kernel
theorem dX12_differ_14 : decode cX12_differ 14 = .ok (.aload_n 0, 1) := by decide +kernel
theorem dX12_differ_15 : decode cX12_differ 15 = .ok (.bipush (-2), 2) := by decide +kernel
theorem dX12_differ_17 : decode cX12_differ 17 = .ok (.invokevirtual 183, 3) := by decide +kernel
theorem dX12_differ_20 : decode cX12_differ 20 = .ok (.ireturn, 1) := by decide +kernel
theorem dX12_differ_21 : decode cX12_differ 21 = .ok (.aload_n 0, 1) := by decide +kernel
theorem dX12_differ_22 : decode cX12_differ 22 = .ok (.iload_n 1, 1) := by decide +kernel
theorem dX12_differ_23 : decode cX12_differ 23 = .ok (.invokevirtual 230, 3) := by decide +kernel
theorem dX12_differ_26 : decode cX12_differ 26 = .ok (.ifCond .eq 11, 3) := by decide +kernel
theorem dX12_differ_37 : decode cX12_differ 37 = .ok (.aload_n 0, 1) := by decide +kernel
theorem dX12_differ_38 : decode cX12_differ 38 = .ok (.bipush (-4), 2) := by decide +kernel
theorem dX12_differ_40 : decode cX12_differ 40 = .ok (.invokevirtual 183, 3) := by decide +kernel
theorem dX12_differ_43 : decode cX12_differ 43 = .ok (.ireturn, 1) := by decide +kernel
theorem dX12_does_0 : decode cX12_does 0 = .ok (.iload_n 1, 1) := by decide +kernel
theorem dX12_does_1 : decode cX12_does 1 = .ok (.invokestatic 272, 3) := by decide +kernel
theorem dX12_does_4 : decode cX12_does 4 = .ok (.ifCond .eq 10, 3) := by decide +kernel
theorem dX12_does_7 : decode cX12_does 7 = .ok (.iload_n 2, 1) := by decide +kernel
theorem dX12_does_8 : decode cX12_does 8 = .ok (.invokestatic 211, 3) := by decide +kernel
theorem dX12_does_11 : decode cX12_does 11 = .ok (.ifCond .ne 10, 3) := by decide +kernel
theorem dX12_does_14 : decode cX12_does 14 = .ok (.aload_n 0, 1) := by decide +kernel
theorem dX12_does_15 : decode cX12_does 15 = .ok (.bipush (-2), 2) := by decide +kernel
theorem dX12_does_17 : decode cX12_does 17 = .ok (.invokevirtual 183, 3) := by decide +kernel
theorem dX12_does_20 : decode cX12_does 20 = .ok (.ireturn, 1) := by decide +kernel
theorem dX12_does_21 : decode cX12_does 21 = .ok (.aload_n 0, 1) := by decide +kernel
theorem dX12_does_22 : decode cX12_does 22 = .ok (.iload_n 2, 1) := by decide +kernel
theorem dX12_does_23 : decode cX12_does 23 = .ok (.invokevirtual 230, 3) := by decide +kernel
theorem dX12_does_26 : decode cX12_does 26 = .ok (.ifCond .ne 10, 3) := by decide +kernel
theorem dX12_does_29 : decode cX12_does 29 = .ok (.aload_n 0, 1) := by decide +kernel
theorem dX12_does_30 : decode cX12_does 30 = .ok (.bipush (-4), 2) := by decide +kernel
theorem dX12_does_32 : decode cX12_does 32 = .ok (.invokevirtual 183, 3) := by decide +kernel
theorem dX12_does_35 : decode cX12_does 35 = .ok (.ireturn, 1) := by decide +kernel
theorem dX12_edit_0 : decode cX12_edit 0 = .ok (.iload_n 1, 1) := by decide +kernel
theorem dX12_edit_1 : decode cX12_edit 1 = .ok (.invokestatic 211, 3) := by decide +kernel
theorem dX12_edit_4 : decode cX12_edit 4 = .ok (.ifCond .ne 15, 3) := by decide +kernel
theorem dX12_edit_7 : decode cX12_edit 7 = .ok (.aload_n 0, 1) := by decide +kernel
theorem dX12_edit_8 : decode cX12_edit 8 = .ok (.iconst 0, 1) := by decide +kernel
theorem dX12_edit_9 : decode cX12_edit 9 = .ok (.putfield 186, 3) := by decide +kernel
theorem dX12_edit_12 : decode cX12_edit 12 = .ok (.aload_n 0, 1) := by decide +kernel
theorem dX12_edit_13 : decode cX12_edit 13 = .ok (.bipush (-2), 2) := by decide +kernel
theorem dX12_edit_15 : decode cX12_edit 15 = .ok (.invokevirtual 183, 3) := by decide +kernel
theorem dX12_edit_18 : decode cX12_edit 18 = .ok (.ireturn, 1) := by decide +kernel
theorem dX12_edit_19 : decode cX12_edit 19 = .ok (.aload_n 0, 1) := by decide +kernel
theorem dX12_edit_20 : decode cX12_edit 20 = .ok (.iconst 0, 1) := by decide +kernel
theorem dX12_edit_21 : decode cX12_edit 21 = .ok (.putfield 190, 3) := by decide +kernel
theorem dX12_edit_24 : decode cX12_edit 24 = .ok (.aload_n 0, 1) := by decide +kernel
theorem dX12_edit_25 : decode cX12_edit 25 = .ok (.getfield 43, 3) := by decide +kernel
theorem dX12_edit_28 : decode cX12_edit 28 = .ok (.iconst 0, 1) := by decide +kernel
theorem dX12_edit_29 : decode cX12_edit 29 = .ok (.iconst 0, 1) := by decide +kernel
theorem dX12_edit_30 : decode cX12_edit 30 = .ok (.iastore, 1) := by decide +kernel
theorem dX12_edit_31 : decode cX12_edit 31 = .ok (.aload_n 0, 1) := by decide +kernel
theorem dX12_edit_32 : decode cX12_edit 32 = .ok (.invokevirtual 214, 3) := by decide +kernel
theorem dX12_edit_35 : decode cX12_edit 35 = .ok (.istore_n 2, 1) := by decide +kernel
theorem dX12_edit_36 : decode cX12_edit 36 = .ok (.iload_n 2, 1) := by decide +kernel
theorem dX12_edit_37 : decode cX12_edit 37 = .ok (.ifCond .eq 22, 3) := by decide +kernel
theorem dX12_edit_59 : decode cX12_edit 59 = .ok (.aload_n 0, 1) := by decide +kernel
theorem dX12_edit_60 : decode cX12_edit 60 = .ok (.iconst 0, 1) := by decide +kernel
theorem dX12_edit_61 : decode cX12_edit 61 = .ok (.putfield 186, 3) := by decide +kernel
theorem dX12_edit_64 : decode cX12_edit 64 = .ok (.iload_n 2, 1) := by decide +kernel
theorem dX12_edit_65 : decode cX12_edit 65 = .ok (.ifCond .ne 22, 3) := by decide +kernel
theorem dX12_edit_68 : decode cX12_edit 68 = .ok (.aload_n 0, 1) := by decide +kernel
theorem dX12_edit_69 : decode cX12_edit 69 = .ok (.getfield 37, 3) := by decide +kernel
theorem dX12_edit_72 : decode cX12_edit 72 = .ok (.iconst 2, 1) := by decide +kernel
theorem dX12_edit_73 : decode cX12_edit 73 = .ok (.dup2, 1) := by decide +kernel
theorem dX12_edit_74 : decode cX12_edit 74 = .ok (.iaload, 1) := by decide +kernel
theorem dX12_edit_75 : decode cX12_edit 75 = .ok (.iconst 1, 1) := by decide +kernel
theorem dX12_edit_76 : decode cX12_edit 76 = .ok (.iadd, 1) := by decide +kernel
theorem dX12_edit_77 : decode cX12_edit 77 = .ok (.iastore, 1) := by decide +kernel
theorem dX12_edit_78 : decode cX12_edit 78 = .ok (.sipush (-300), 3) := by decide +kernel
theorem dX12_edit_81 : decode cX12_edit 81 = .ok (.aload_n 0, 1) := by decide +kernel
theorem dX12_edit_82 : decode cX12_edit 82 = .ok (.getfield 190, 3) := by decide +kernel
theorem dX12_edit_85 : decode cX12_edit 85 = .ok (.isub, 1) := by decide +kernel
theorem dX12_edit_86 : decode cX12_edit 86 = .ok (.ireturn, 1) := by decide +kernel
theorem dX12_element_0 : decode cX12_element 0 = .ok (.iload_n 1, 1) := by decide +kernel
theorem dX12_element_1 : decode cX12_element 1 = .ok (.invokestatic 327, 3) := by decide +kernel
theorem dX12_element_4 : decode cX12_element 4 = .ok (.ifCond .eq 52, 3) := by decide +kernel
theorem dX12_element_7 : decode cX12_element 7 = .ok (.aload_n 0, 1) := by decide +kernel
theorem dX12_element_8 : decode cX12_element 8 = .ok (.getfield 52, 3) := by decide +kernel
theorem dX12_element_11 : decode cX12_element 11 = .ok (.iload_n 1, 1) := by decide +kernel
theorem dX12_element_12 : decode cX12_element 12 = .ok (.iaload, 1) := by decide +kernel
theorem dX12_element_13 : decode cX12_element 13 = .ok (.i2l, 1) := by decide +kernel
theorem dX12_element_14 : decode cX12_element 14 = .ok (.lconst 0, 1) := by decide +kernel
theorem dX12_element_15 : decode cX12_element 15 = .ok (.ldc2_w 317, 3) := by decide +kernel
theorem dX12_element_18 : decode cX12_element 18 = .ok (.invokestatic 175, 3) := by decide +kernel
theorem dX12_element_21 : decode cX12_element 21 = .ok (.ifCond .eq 35, 3) := by decide +kernel
theorem dX12_element_56 : decode cX12_element 56 = .ok (.lconst 0, 1) := by decide +kernel
theorem dX12_element_57 : decode cX12_element 57 = .ok (.lreturn, 1) := by decide +kernel
theorem dX12_feed_0 : decode cX12_feed 0 = .ok (.iload_n 1, 1) := by decide +kernel
theorem dX12_feed_1 : decode cX12_feed 1 = .ok (.i2l, 1) := by decide +kernel
theorem dX12_feed_2 : decode cX12_feed 2 = .ok (.lconst 0, 1) := by decide +kernel
theorem dX12_feed_3 : decode cX12_feed 3 = .ok (.ldc2_w 181, 3) := by decide +kernel
theorem dX12_feed_6 : decode cX12_feed 6 = .ok (.invokestatic 175, 3) := by decide +kernel
theorem dX12_feed_9 : decode cX12_feed 9 = .ok (.ifCond .ne 10, 3) := by decide +kernel
theorem dX12_feed_12 : decode cX12_feed 12 = .ok (.aload_n 0, 1) := by decide +kernel
theorem dX12_feed_13 : decode cX12_feed 13 = .ok (.bipush (-2), 2) := by decide +kernel
theorem dX12_feed_15 : decode cX12_feed 15 = .ok (.invokevirtual 183, 3) := by decide +kernel
theorem dX12_feed_18 : decode cX12_feed 18 = .ok (.ireturn, 1) := by decide +kernel
theorem dX12_feed_19 : decode cX12_feed 19 = .ok (.aload_n 0, 1) := by decide +kernel
theorem dX12_feed_20 : decode cX12_feed 20 = .ok (.getfield 186, 3) := by decide +kernel
theorem dX12_feed_23 : decode cX12_feed 23 = .ok (.sipush 250, 3) := by decide +kernel
theorem dX12_feed_26 : decode cX12_feed 26 = .ok (.if_icmp .ne 10, 3) := by decide +kernel
theorem dX12_feed_36 : decode cX12_feed 36 = .ok (.aload_n 0, 1) := by decide +kernel
theorem dX12_feed_37 : decode cX12_feed 37 = .ok (.getfield 49, 3) := by decide +kernel
theorem dX12_feed_40 : decode cX12_feed 40 = .ok (.aload_n 0, 1) := by decide +kernel
theorem dX12_feed_41 : decode cX12_feed 41 = .ok (.getfield 186, 3) := by decide +kernel
theorem dX12_feed_44 : decode cX12_feed 44 = .ok (.iload_n 1, 1) := by decide +kernel
theorem dX12_feed_45 : decode cX12_feed 45 = .ok (.iastore, 1) := by decide +kernel
theorem dX12_feed_46 : decode cX12_feed 46 = .ok (.aload_n 0, 1) := by decide +kernel
theorem dX12_feed_47 : decode cX12_feed 47 = .ok (.dup, 1) := by decide +kernel
theorem dX12_feed_48 : decode cX12_feed 48 = .ok (.getfield 186, 3) := by decide +kernel
theorem dX12_feed_51 : decode cX12_feed 51 = .ok (.iconst 1, 1) := by decide +kernel
theorem dX12_feed_52 : decode cX12_feed 52 = .ok (.iadd, 1) := by decide +kernel
theorem dX12_feed_53 : decode cX12_feed 53 = .ok (.putfield 186, 3) := by decide +kernel
theorem dX12_feed_56 : decode cX12_feed 56 = .ok (.aload_n 0, 1) := by decide +kernel
theorem dX12_feed_57 : decode cX12_feed 57 = .ok (.getfield 186, 3) := by decide +kernel
theorem dX12_feed_60 : decode cX12_feed 60 = .ok (.ireturn, 1) := by decide +kernel
theorem dX12_hear_0 : decode cX12_hear 0 = .ok (.iload_n 1, 1) := by decide +kernel
theorem dX12_hear_1 : decode cX12_hear 1 = .ok (.invokestatic 272, 3) := by decide +kernel
theorem dX12_hear_4 : decode cX12_hear 4 = .ok (.ifCond .ne 10, 3) := by decide +kernel
theorem dX12_hear_7 : decode cX12_hear 7 = .ok (.aload_n 0, 1) := by decide +kernel
theorem dX12_hear_8 : decode cX12_hear 8 = .ok (.bipush (-2), 2) := by decide +kernel
theorem dX12_hear_10 : decode cX12_hear 10 = .ok (.invokevirtual 183, 3) := by decide +kernel
theorem dX12_hear_13 : decode cX12_hear 13 = .ok (.ireturn, 1) := by decide +kernel
theorem dX12_hear_14 : decode cX12_hear 14 = .ok (.aload_n 0, 1) := by decide +kernel
theorem dX12_hear_15 : decode cX12_hear 15 = .ok (.iload_n 1, 1) := by decide +kernel
theorem dX12_hear_16 : decode cX12_hear 16 = .ok (.iconst 0, 1) := by decide +kernel
theorem dX12_hear_17 : decode cX12_hear 17 = .ok (.invokevirtual 135, 3) := by decide +kernel
theorem dX12_hear_20 : decode cX12_hear 20 = .ok (.aload_n 0, 1) := by decide +kernel
theorem dX12_hear_21 : decode cX12_hear 21 = .ok (.getfield 34, 3) := by decide +kernel
theorem dX12_hear_24 : decode cX12_hear 24 = .ok (.iconst 0, 1) := by decide +kernel
theorem dX12_hear_25 : decode cX12_hear 25 = .ok (.iaload, 1) := by decide +kernel
theorem dX12_hear_26 : decode cX12_hear 26 = .ok (.if_icmp .ne 10, 3) := by decide +kernel
theorem dX12_hear_29 : decode cX12_hear 29 = .ok (.aload_n 0, 1) := by decide +kernel
theorem dX12_hear_30 : decode cX12_hear 30 = .ok (.bipush (-5), 2) := by decide +kernel
theorem dX12_hear_32 : decode cX12_hear 32 = .ok (.invokevirtual 183, 3) := by decide +kernel
theorem dX12_hear_35 : decode cX12_hear 35 = .ok (.ireturn, 1) := by decide +kernel
theorem dX12_holds_0 : decode cX12_holds 0 = .ok (.iload_n 1, 1) := by decide +kernel
theorem dX12_holds_1 : decode cX12_holds 1 = .ok (.invokestatic 327, 3) := by decide +kernel
theorem dX12_holds_4 : decode cX12_holds 4 = .ok (.ifCond .eq 12, 3) := by decide +kernel
theorem dX12_holds_7 : decode cX12_holds 7 = .ok (.aload_n 0, 1) := by decide +kernel
theorem dX12_holds_8 : decode cX12_holds 8 = .ok (.getfield 52, 3) := by decide +kernel
theorem dX12_holds_11 : decode cX12_holds 11 = .ok (.iload_n 1, 1) := by decide +kernel
theorem dX12_holds_12 : decode cX12_holds 12 = .ok (.iaload, 1) := by decide +kernel
theorem dX12_holds_13 : decode cX12_holds 13 = .ok (.goto 4, 3) := by decide +kernel
theorem dX12_holds_16 : decode cX12_holds 16 = .ok (.iconst (-1), 1) := by decide +kernel
theorem dX12_holds_17 : decode cX12_holds 17 = .ok (.ireturn, 1) := by decide +kernel
theorem dX12_image_0 : decode cX12_image 0 = .ok (.aload_n 0, 1) := by decide +kernel
theorem dX12_image_1 : decode cX12_image 1 = .ok (.getfield 11, 3) := by decide +kernel
theorem dX12_image_4 : decode cX12_image 4 = .ok (.aload_n 0, 1) := by decide +kernel
theorem dX12_image_5 : decode cX12_image 5 = .ok (.getfield 14, 3) := by decide +kernel
theorem dX12_image_8 : decode cX12_image 8 = .ok (.bipush 12, 2) := by decide +kernel
theorem dX12_image_10 : decode cX12_image 10 = .ok (.aload_n 0, 1) := by decide +kernel
theorem dX12_image_11 : decode cX12_image 11 = .ok (.getfield 71, 3) := by decide +kernel
theorem dX12_image_14 : decode cX12_image 14 = .ok (.aload_n 0, 1) := by decide +kernel
theorem dX12_image_15 : decode cX12_image 15 = .ok (.getfield 74, 3) := by decide +kernel
theorem dX12_image_18 : decode cX12_image 18 = .ok (.invokestatic 359, 3) := by decide +kernel
theorem dX12_image_21 : decode cX12_image 21 = .ok (.aload_n 0, 1) := by decide +kernel
theorem dX12_image_22 : decode cX12_image 22 = .ok (.getfield 22, 3) := by decide +kernel
theorem dX12_image_25 : decode cX12_image 25 = .ok (.aload_n 0, 1) := by decide +kernel
theorem dX12_image_26 : decode cX12_image 26 = .ok (.getfield 25, 3) := by decide +kernel
theorem dX12_image_29 : decode cX12_image 29 = .ok (.iconst 0, 1) := by decide +kernel
theorem dX12_image_30 : decode cX12_image 30 = .ok (.aload_n 0, 1) := by decide +kernel
theorem dX12_image_31 : decode cX12_image 31 = .ok (.getfield 77, 3) := by decide +kernel
theorem dX12_image_34 : decode cX12_image 34 = .ok (.aload_n 0, 1) := by decide +kernel
theorem dX12_image_35 : decode cX12_image 35 = .ok (.getfield 80, 3) := by decide +kernel
theorem dX12_image_38 : decode cX12_image 38 = .ok (.invokestatic 359, 3) := by decide +kernel
theorem dX12_image_41 : decode cX12_image 41 = .ok (.aload_n 0, 1) := by decide +kernel
theorem dX12_image_42 : decode cX12_image 42 = .ok (.getfield 28, 3) := by decide +kernel
theorem dX12_image_45 : decode cX12_image 45 = .ok (.aload_n 0, 1) := by decide +kernel
theorem dX12_image_46 : decode cX12_image 46 = .ok (.getfield 83, 3) := by decide +kernel
theorem dX12_image_49 : decode cX12_image 49 = .ok (.bipush 32, 2) := by decide +kernel
theorem dX12_image_51 : decode cX12_image 51 = .ok (.invokestatic 355, 3) := by decide +kernel
theorem dX12_image_54 : decode cX12_image 54 = .ok (.aload_n 0, 1) := by decide +kernel
theorem dX12_image_55 : decode cX12_image 55 = .ok (.getfield 31, 3) := by decide +kernel
theorem dX12_image_58 : decode cX12_image 58 = .ok (.aload_n 0, 1) := by decide +kernel
theorem dX12_image_59 : decode cX12_image 59 = .ok (.getfield 86, 3) := by decide +kernel
theorem dX12_image_62 : decode cX12_image 62 = .ok (.bipush 91, 2) := by decide +kernel
theorem dX12_image_64 : decode cX12_image 64 = .ok (.invokestatic 355, 3) := by decide +kernel
theorem dX12_image_67 : decode cX12_image 67 = .ok (.aload_n 0, 1) := by decide +kernel
theorem dX12_image_68 : decode cX12_image 68 = .ok (.getfield 34, 3) := by decide +kernel
theorem dX12_image_71 : decode cX12_image 71 = .ok (.aload_n 0, 1) := by decide +kernel
theorem dX12_image_72 : decode cX12_image 72 = .ok (.getfield 89, 3) := by decide +kernel
theorem dX12_image_75 : decode cX12_image 75 = .ok (.iconst 2, 1) := by decide +kernel
theorem dX12_image_76 : decode cX12_image 76 = .ok (.invokestatic 355, 3) := by decide +kernel
theorem dX12_image_79 : decode cX12_image 79 = .ok (.aload_n 0, 1) := by decide +kernel
theorem dX12_image_80 : decode cX12_image 80 = .ok (.iconst 1, 1) := by decide +kernel
theorem dX12_image_81 : decode cX12_image 81 = .ok (.putfield 363, 3) := by decide +kernel
theorem dX12_image_84 : decode cX12_image 84 = .ok (.iconst 1, 1) := by decide +kernel
theorem dX12_image_85 : decode cX12_image 85 = .ok (.ireturn, 1) := by decide +kernel
theorem dX12_insert_0 : decode cX12_insert 0 = .ok (.iload_n 1, 1) := by decide +kernel
theorem dX12_insert_1 : decode cX12_insert 1 = .ok (.invokestatic 272, 3) := by decide +kernel
theorem dX12_insert_4 : decode cX12_insert 4 = .ok (.ifCond .eq 44, 3) := by decide +kernel
theorem dX12_insert_7 : decode cX12_insert 7 = .ok (.iload_n 2, 1) := by decide +kernel
theorem dX12_insert_8 : decode cX12_insert 8 = .ok (.i2l, 1) := by decide +kernel
theorem dX12_insert_9 : decode cX12_insert 9 = .ok (.lconst 0, 1) := by decide +kernel
theorem dX12_insert_10 : decode cX12_insert 10 = .ok (.aload_n 0, 1) := by decide +kernel
theorem dX12_insert_11 : decode cX12_insert 11 = .ok (.getfield 25, 3) := by decide +kernel
theorem dX12_insert_14 : decode cX12_insert 14 = .ok (.iload_n 1, 1) := by decide +kernel
theorem dX12_insert_15 : decode cX12_insert 15 = .ok (.iaload, 1) := by decide +kernel
theorem dX12_insert_16 : decode cX12_insert 16 = .ok (.i2l, 1) := by decide +kernel
theorem dX12_insert_17 : decode cX12_insert 17 = .ok (.invokestatic 175, 3) := by decide +kernel
theorem dX12_insert_20 : decode cX12_insert 20 = .ok (.ifCond .eq 28, 3) := by decide +kernel
theorem dX12_insert_23 : decode cX12_insert 23 = .ok (.iload_n 3, 1) := by decide +kernel
theorem dX12_insert_24 : decode cX12_insert 24 = .ok (.i2l, 1) := by decide +kernel
theorem dX12_insert_25 : decode cX12_insert 25 = .ok (.lconst 0, 1) := by decide +kernel
theorem dX12_insert_26 : decode cX12_insert 26 = .ok (.ldc2_w 286, 3) := by decide +kernel
theorem dX12_insert_29 : decode cX12_insert 29 = .ok (.invokestatic 175, 3) := by decide +kernel
theorem dX12_insert_32 : decode cX12_insert 32 = .ok (.ifCond .eq 16, 3) := by decide +kernel
theorem dX12_insert_35 : decode cX12_insert 35 = .ok (.iload 4, 2) := by decide +kernel
theorem dX12_insert_37 : decode cX12_insert 37 = .ok (.i2l, 1) := by decide +kernel
theorem dX12_insert_38 : decode cX12_insert 38 = .ok (.lconst 0, 1) := by decide +kernel
theorem dX12_insert_39 : decode cX12_insert 39 = .ok (.ldc2_w 288, 3) := by decide +kernel
theorem dX12_insert_42 : decode cX12_insert 42 = .ok (.invokestatic 175, 3) := by decide +kernel
theorem dX12_insert_45 : decode cX12_insert 45 = .ok (.ifCond .ne 10, 3) := by decide +kernel
theorem dX12_insert_48 : decode cX12_insert 48 = .ok (.aload_n 0, 1) := by decide +kernel
theorem dX12_insert_49 : decode cX12_insert 49 = .ok (.bipush (-2), 2) := by decide +kernel
theorem dX12_insert_51 : decode cX12_insert 51 = .ok (.invokevirtual 183, 3) := by decide +kernel
theorem dX12_insert_54 : decode cX12_insert 54 = .ok (.ireturn, 1) := by decide +kernel
theorem dX12_insert_55 : decode cX12_insert 55 = .ok (.aload_n 0, 1) := by decide +kernel
theorem dX12_insert_56 : decode cX12_insert 56 = .ok (.getfield 25, 3) := by decide +kernel
theorem dX12_insert_59 : decode cX12_insert 59 = .ok (.iload_n 1, 1) := by decide +kernel
theorem dX12_insert_60 : decode cX12_insert 60 = .ok (.iaload, 1) := by decide +kernel
theorem dX12_insert_61 : decode cX12_insert 61 = .ok (.bipush 60, 2) := by decide +kernel
theorem dX12_insert_63 : decode cX12_insert 63 = .ok (.if_icmp .lt 10, 3) := by decide +kernel
theorem dX12_insert_73 : decode cX12_insert 73 = .ok (.aload_n 0, 1) := by decide +kernel
theorem dX12_insert_74 : decode cX12_insert 74 = .ok (.iload_n 1, 1) := by decide +kernel
theorem dX12_insert_75 : decode cX12_insert 75 = .ok (.iload_n 2, 1) := by decide +kernel
theorem dX12_insert_76 : decode cX12_insert 76 = .ok (.ldc 110, 2) := by decide +kernel
theorem dX12_insert_78 : decode cX12_insert 78 = .ok (.iload 4, 2) := by decide +kernel
theorem dX12_insert_80 : decode cX12_insert 80 = .ok (.bipush 8, 2) := by decide +kernel
theorem dX12_insert_82 : decode cX12_insert 82 = .ok (.ishl, 1) := by decide +kernel
theorem dX12_insert_83 : decode cX12_insert 83 = .ok (.ior, 1) := by decide +kernel
theorem dX12_insert_84 : decode cX12_insert 84 = .ok (.iload_n 3, 1) := by decide +kernel
theorem dX12_insert_85 : decode cX12_insert 85 = .ok (.ior, 1) := by decide +kernel
theorem dX12_insert_86 : decode cX12_insert 86 = .ok (.invokevirtual 290, 3) := by decide +kernel
theorem dX12_insert_89 : decode cX12_insert 89 = .ok (.aload_n 0, 1) := by decide +kernel
theorem dX12_insert_90 : decode cX12_insert 90 = .ok (.getfield 25, 3) := by decide +kernel
theorem dX12_insert_93 : decode cX12_insert 93 = .ok (.iload_n 1, 1) := by decide +kernel
theorem dX12_insert_94 : decode cX12_insert 94 = .ok (.iaload, 1) := by decide +kernel
theorem dX12_insert_95 : decode cX12_insert 95 = .ok (.ireturn, 1) := by decide +kernel
theorem dX12_judge_0 : decode cX12_judge 0 = .ok (.iload_n 1, 1) := by decide +kernel
theorem dX12_judge_1 : decode cX12_judge 1 = .ok (.invokestatic 319, 3) := by decide +kernel
theorem dX12_judge_4 : decode cX12_judge 4 = .ok (.ifCond .eq 22, 3) := by decide +kernel
theorem dX12_judge_7 : decode cX12_judge 7 = .ok (.iload_n 2, 1) := by decide +kernel
theorem dX12_judge_8 : decode cX12_judge 8 = .ok (.invokestatic 327, 3) := by decide +kernel
theorem dX12_judge_11 : decode cX12_judge 11 = .ok (.ifCond .eq 15, 3) := by decide +kernel
theorem dX12_judge_14 : decode cX12_judge 14 = .ok (.iload_n 3, 1) := by decide +kernel
theorem dX12_judge_15 : decode cX12_judge 15 = .ok (.i2l, 1) := by decide +kernel
theorem dX12_judge_16 : decode cX12_judge 16 = .ok (.lconst 0, 1) := by decide +kernel
theorem dX12_judge_17 : decode cX12_judge 17 = .ok (.ldc2_w 344, 3) := by decide +kernel
theorem dX12_judge_20 : decode cX12_judge 20 = .ok (.invokestatic 175, 3) := by decide +kernel
theorem dX12_judge_23 : decode cX12_judge 23 = .ok (.ifCond .ne 10, 3) := by decide +kernel
theorem dX12_judge_26 : decode cX12_judge 26 = .ok (.aload_n 0, 1) := by decide +kernel
theorem dX12_judge_27 : decode cX12_judge 27 = .ok (.bipush (-2), 2) := by decide +kernel
theorem dX12_judge_29 : decode cX12_judge 29 = .ok (.invokevirtual 183, 3) := by decide +kernel
theorem dX12_judge_32 : decode cX12_judge 32 = .ok (.ireturn, 1) := by decide +kernel
theorem dX12_judge_33 : decode cX12_judge 33 = .ok (.aload_n 0, 1) := by decide +kernel
theorem dX12_judge_34 : decode cX12_judge 34 = .ok (.getfield 52, 3) := by decide +kernel
theorem dX12_judge_37 : decode cX12_judge 37 = .ok (.iload_n 2, 1) := by decide +kernel
theorem dX12_judge_38 : decode cX12_judge 38 = .ok (.iaload, 1) := by decide +kernel
theorem dX12_judge_39 : decode cX12_judge 39 = .ok (.iconst 4, 1) := by decide +kernel
theorem dX12_judge_40 : decode cX12_judge 40 = .ok (.if_icmp .le 10, 3) := by decide +kernel
theorem dX12_judge_50 : decode cX12_judge 50 = .ok (.aload_n 0, 1) := by decide +kernel
theorem dX12_judge_51 : decode cX12_judge 51 = .ok (.getfield 52, 3) := by decide +kernel
theorem dX12_judge_54 : decode cX12_judge 54 = .ok (.iload_n 2, 1) := by decide +kernel
theorem dX12_judge_55 : decode cX12_judge 55 = .ok (.iaload, 1) := by decide +kernel
theorem dX12_judge_56 : decode cX12_judge 56 = .ok (.ifCond .ge 10, 3) := by decide +kernel
theorem dX12_judge_59 : decode cX12_judge 59 = .ok (.aload_n 0, 1) := by decide +kernel
theorem dX12_judge_60 : decode cX12_judge 60 = .ok (.bipush (-4), 2) := by decide +kernel
theorem dX12_judge_62 : decode cX12_judge 62 = .ok (.invokevirtual 183, 3) := by decide +kernel
theorem dX12_judge_65 : decode cX12_judge 65 = .ok (.ireturn, 1) := by decide +kernel
theorem dX12_length_0 : decode cX12_length 0 = .ok (.iload_n 1, 1) := by decide +kernel
theorem dX12_length_1 : decode cX12_length 1 = .ok (.invokestatic 319, 3) := by decide +kernel
theorem dX12_length_4 : decode cX12_length 4 = .ok (.ifCond .eq 12, 3) := by decide +kernel
theorem dX12_length_7 : decode cX12_length 7 = .ok (.aload_n 0, 1) := by decide +kernel
theorem dX12_length_8 : decode cX12_length 8 = .ok (.getfield 25, 3) := by decide +kernel
theorem dX12_length_11 : decode cX12_length 11 = .ok (.iload_n 1, 1) := by decide +kernel
theorem dX12_length_12 : decode cX12_length 12 = .ok (.iaload, 1) := by decide +kernel
theorem dX12_length_13 : decode cX12_length 13 = .ok (.goto 9, 3) := by decide +kernel
theorem dX12_length_16 : decode cX12_length 16 = .ok (.aload_n 0, 1) := by decide +kernel
theorem dX12_length_17 : decode cX12_length 17 = .ok (.bipush (-2), 2) := by decide +kernel
theorem dX12_length_19 : decode cX12_length 19 = .ok (.invokevirtual 183, 3) := by decide +kernel
theorem dX12_length_22 : decode cX12_length 22 = .ok (.ireturn, 1) := by decide +kernel
theorem dX12_letter_0 : decode cX12_letter 0 = .ok (.iload_n 1, 1) := by decide +kernel
theorem dX12_letter_1 : decode cX12_letter 1 = .ok (.invokestatic 211, 3) := by decide +kernel
theorem dX12_letter_4 : decode cX12_letter 4 = .ok (.ifCond .ne 10, 3) := by decide +kernel
theorem dX12_letter_7 : decode cX12_letter 7 = .ok (.aload_n 0, 1) := by decide +kernel
theorem dX12_letter_8 : decode cX12_letter 8 = .ok (.bipush (-2), 2) := by decide +kernel
theorem dX12_letter_10 : decode cX12_letter 10 = .ok (.invokevirtual 183, 3) := by decide +kernel
theorem dX12_letter_13 : decode cX12_letter 13 = .ok (.ireturn, 1) := by decide +kernel
theorem dX12_letter_14 : decode cX12_letter 14 = .ok (.aload_n 0, 1) := by decide +kernel
theorem dX12_letter_15 : decode cX12_letter 15 = .ok (.iload_n 1, 1) := by decide +kernel
theorem dX12_letter_16 : decode cX12_letter 16 = .ok (.invokevirtual 230, 3) := by decide +kernel
theorem dX12_letter_19 : decode cX12_letter 19 = .ok (.ifCond .ne 10, 3) := by decide +kernel
theorem dX12_letter_22 : decode cX12_letter 22 = .ok (.aload_n 0, 1) := by decide +kernel
theorem dX12_letter_23 : decode cX12_letter 23 = .ok (.bipush (-4), 2) := by decide +kernel
theorem dX12_letter_25 : decode cX12_letter 25 = .ok (.invokevirtual 183, 3) := by decide +kernel
theorem dX12_letter_28 : decode cX12_letter 28 = .ok (.ireturn, 1) := by decide +kernel
theorem dX12_mark_0 : decode cX12_mark 0 = .ok (.aload_n 0, 1) := by decide +kernel
theorem dX12_mark_1 : decode cX12_mark 1 = .ok (.iload_n 1, 1) := by decide +kernel
theorem dX12_mark_2 : decode cX12_mark 2 = .ok (.iload_n 2, 1) := by decide +kernel
theorem dX12_mark_3 : decode cX12_mark 3 = .ok (.iload_n 3, 1) := by decide +kernel
theorem dX12_mark_4 : decode cX12_mark 4 = .ok (.invokevirtual 293, 3) := by decide +kernel
theorem dX12_mark_7 : decode cX12_mark 7 = .ok (.ifCond .eq 27, 3) := by decide +kernel
theorem dX12_mark_34 : decode cX12_mark 34 = .ok (.aload_n 0, 1) := by decide +kernel
theorem dX12_mark_35 : decode cX12_mark 35 = .ok (.bipush (-2), 2) := by decide +kernel
theorem dX12_mark_37 : decode cX12_mark 37 = .ok (.invokevirtual 183, 3) := by decide +kernel
theorem dX12_mark_40 : decode cX12_mark 40 = .ok (.ireturn, 1) := by decide +kernel
theorem dX12_marked_0 : decode cX12_marked 0 = .ok (.iload_n 1, 1) := by decide +kernel
theorem dX12_marked_1 : decode cX12_marked 1 = .ok (.invokestatic 319, 3) := by decide +kernel
theorem dX12_marked_4 : decode cX12_marked 4 = .ok (.ifCond .eq 15, 3) := by decide +kernel
theorem dX12_marked_7 : decode cX12_marked 7 = .ok (.iload_n 2, 1) := by decide +kernel
theorem dX12_marked_8 : decode cX12_marked 8 = .ok (.i2l, 1) := by decide +kernel
theorem dX12_marked_9 : decode cX12_marked 9 = .ok (.lconst 0, 1) := by decide +kernel
theorem dX12_marked_10 : decode cX12_marked 10 = .ok (.ldc2_w 317, 3) := by decide +kernel
theorem dX12_marked_13 : decode cX12_marked 13 = .ok (.invokestatic 175, 3) := by decide +kernel
theorem dX12_marked_16 : decode cX12_marked 16 = .ok (.ifCond .ne 10, 3) := by decide +kernel
theorem dX12_marked_19 : decode cX12_marked 19 = .ok (.aload_n 0, 1) := by decide +kernel
theorem dX12_marked_20 : decode cX12_marked 20 = .ok (.bipush (-2), 2) := by decide +kernel
theorem dX12_marked_22 : decode cX12_marked 22 = .ok (.invokevirtual 183, 3) := by decide +kernel
theorem dX12_marked_25 : decode cX12_marked 25 = .ok (.ireturn, 1) := by decide +kernel
theorem dX12_marked_26 : decode cX12_marked 26 = .ok (.iconst 0, 1) := by decide +kernel
theorem dX12_marked_27 : decode cX12_marked 27 = .ok (.istore_n 3, 1) := by decide +kernel
theorem dX12_marked_28 : decode cX12_marked 28 = .ok (.iconst 0, 1) := by decide +kernel
theorem dX12_marked_29 : decode cX12_marked 29 = .ok (.istore 4, 2) := by decide +kernel
theorem dX12_marked_31 : decode cX12_marked 31 = .ok (.iload 4, 2) := by decide +kernel
theorem dX12_marked_33 : decode cX12_marked 33 = .ok (.aload_n 0, 1) := by decide +kernel
theorem dX12_marked_34 : decode cX12_marked 34 = .ok (.getfield 25, 3) := by decide +kernel
theorem dX12_marked_37 : decode cX12_marked 37 = .ok (.iload_n 1, 1) := by decide +kernel
theorem dX12_marked_38 : decode cX12_marked 38 = .ok (.iaload, 1) := by decide +kernel
theorem dX12_marked_39 : decode cX12_marked 39 = .ok (.if_icmp .ge 88, 3) := by decide +kernel
theorem dX12_marked_127 : decode cX12_marked 127 = .ok (.iload_n 3, 1) := by decide +kernel
theorem dX12_marked_128 : decode cX12_marked 128 = .ok (.ireturn, 1) := by decide +kernel
theorem dX12_meet_0 : decode cX12_meet 0 = .ok (.iconst 1, 1) := by decide +kernel
theorem dX12_meet_1 : decode cX12_meet 1 = .ok (.istore_n 1, 1) := by decide +kernel
theorem dX12_meet_2 : decode cX12_meet 2 = .ok (.iload_n 1, 1) := by decide +kernel
theorem dX12_meet_3 : decode cX12_meet 3 = .ok (.ifCond .eq 62, 3) := by decide +kernel
theorem dX12_meet_6 : decode cX12_meet 6 = .ok (.iconst 0, 1) := by decide +kernel
theorem dX12_meet_7 : decode cX12_meet 7 = .ok (.istore_n 2, 1) := by decide +kernel
theorem dX12_meet_8 : decode cX12_meet 8 = .ok (.iload_n 2, 1) := by decide +kernel
theorem dX12_meet_9 : decode cX12_meet 9 = .ok (.iconst 4, 1) := by decide +kernel
theorem dX12_meet_10 : decode cX12_meet 10 = .ok (.if_icmp .ge 43, 3) := by decide +kernel
theorem dX12_meet_13 : decode cX12_meet 13 = .ok (.aload_n 0, 1) := by decide +kernel
theorem dX12_meet_14 : decode cX12_meet 14 = .ok (.iload_n 2, 1) := by decide +kernel
theorem dX12_meet_15 : decode cX12_meet 15 = .ok (.iconst 1, 1) := by decide +kernel
theorem dX12_meet_16 : decode cX12_meet 16 = .ok (.invokevirtual 135, 3) := by decide +kernel
theorem dX12_meet_19 : decode cX12_meet 19 = .ok (.iconst 1, 1) := by decide +kernel
theorem dX12_meet_20 : decode cX12_meet 20 = .ok (.if_icmp .ne 27, 3) := by decide +kernel
theorem dX12_meet_47 : decode cX12_meet 47 = .ok (.iinc 2 1, 3) := by decide +kernel
theorem dX12_meet_50 : decode cX12_meet 50 = .ok (.goto (-42), 3) := by decide +kernel
theorem dX12_meet_53 : decode cX12_meet 53 = .ok (.aload_n 0, 1) := by decide +kernel
theorem dX12_meet_54 : decode cX12_meet 54 = .ok (.invokevirtual 306, 3) := by decide +kernel
theorem dX12_meet_57 : decode cX12_meet 57 = .ok (.aload_n 0, 1) := by decide +kernel
theorem dX12_meet_58 : decode cX12_meet 58 = .ok (.invokevirtual 309, 3) := by decide +kernel
theorem dX12_meet_61 : decode cX12_meet 61 = .ok (.istore_n 1, 1) := by decide +kernel
theorem dX12_meet_62 : decode cX12_meet 62 = .ok (.goto (-60), 3) := by decide +kernel
theorem dX12_meet_65 : decode cX12_meet 65 = .ok (.aload_n 0, 1) := by decide +kernel
theorem dX12_meet_66 : decode cX12_meet 66 = .ok (.getfield 34, 3) := by decide +kernel
theorem dX12_meet_69 : decode cX12_meet 69 = .ok (.iconst 0, 1) := by decide +kernel
theorem dX12_meet_70 : decode cX12_meet 70 = .ok (.iaload, 1) := by decide +kernel
theorem dX12_meet_71 : decode cX12_meet 71 = .ok (.ireturn, 1) := by decide +kernel
theorem dX12_of_0 : decode cX12_of 0 = .ok (.iload_n 1, 1) := by decide +kernel
theorem dX12_of_1 : decode cX12_of 1 = .ok (.invokestatic 211, 3) := by decide +kernel
theorem dX12_of_4 : decode cX12_of 4 = .ok (.ifCond .eq 15, 3) := by decide +kernel
theorem dX12_of_7 : decode cX12_of 7 = .ok (.iload_n 2, 1) := by decide +kernel
theorem dX12_of_8 : decode cX12_of 8 = .ok (.i2l, 1) := by decide +kernel
theorem dX12_of_9 : decode cX12_of 9 = .ok (.lconst 0, 1) := by decide +kernel
theorem dX12_of_10 : decode cX12_of 10 = .ok (.ldc2_w 228, 3) := by decide +kernel
theorem dX12_of_13 : decode cX12_of 13 = .ok (.invokestatic 175, 3) := by decide +kernel
theorem dX12_of_16 : decode cX12_of 16 = .ok (.ifCond .ne 10, 3) := by decide +kernel
theorem dX12_of_19 : decode cX12_of 19 = .ok (.aload_n 0, 1) := by decide +kernel
theorem dX12_of_20 : decode cX12_of 20 = .ok (.bipush (-2), 2) := by decide +kernel
theorem dX12_of_22 : decode cX12_of 22 = .ok (.invokevirtual 183, 3) := by decide +kernel
theorem dX12_of_25 : decode cX12_of 25 = .ok (.ireturn, 1) := by decide +kernel
theorem dX12_of_26 : decode cX12_of 26 = .ok (.aload_n 0, 1) := by decide +kernel
theorem dX12_of_27 : decode cX12_of 27 = .ok (.iload_n 1, 1) := by decide +kernel
theorem dX12_of_28 : decode cX12_of 28 = .ok (.invokevirtual 230, 3) := by decide +kernel
theorem dX12_of_31 : decode cX12_of 31 = .ok (.ifCond .ne 10, 3) := by decide +kernel
theorem dX12_of_34 : decode cX12_of 34 = .ok (.aload_n 0, 1) := by decide +kernel
theorem dX12_of_35 : decode cX12_of 35 = .ok (.bipush (-4), 2) := by decide +kernel
theorem dX12_of_37 : decode cX12_of 37 = .ok (.invokevirtual 183, 3) := by decide +kernel
theorem dX12_of_40 : decode cX12_of 40 = .ok (.ireturn, 1) := by decide +kernel
theorem dX12_over_0 : decode cX12_over 0 = .ok (.iload_n 1, 1) := by decide +kernel
theorem dX12_over_1 : decode cX12_over 1 = .ok (.invokestatic 211, 3) := by decide +kernel
theorem dX12_over_4 : decode cX12_over 4 = .ok (.ifCond .eq 28, 3) := by decide +kernel
theorem dX12_over_7 : decode cX12_over 7 = .ok (.iload_n 2, 1) := by decide +kernel
theorem dX12_over_8 : decode cX12_over 8 = .ok (.invokestatic 211, 3) := by decide +kernel
theorem dX12_over_11 : decode cX12_over 11 = .ok (.ifCond .eq 21, 3) := by decide +kernel
theorem dX12_over_14 : decode cX12_over 14 = .ok (.iload_n 3, 1) := by decide +kernel
theorem dX12_over_15 : decode cX12_over 15 = .ok (.invokestatic 211, 3) := by decide +kernel
theorem dX12_over_18 : decode cX12_over 18 = .ok (.ifCond .eq 14, 3) := by decide +kernel
theorem dX12_over_21 : decode cX12_over 21 = .ok (.iload 4, 2) := by decide +kernel
theorem dX12_over_23 : decode cX12_over 23 = .ok (.i2l, 1) := by decide +kernel
theorem dX12_over_24 : decode cX12_over 24 = .ok (.lconst 0, 1) := by decide +kernel
theorem dX12_over_25 : decode cX12_over 25 = .ok (.lconst 1, 1) := by decide +kernel
theorem dX12_over_26 : decode cX12_over 26 = .ok (.invokestatic 175, 3) := by decide +kernel
theorem dX12_over_29 : decode cX12_over 29 = .ok (.ifCond .ne 10, 3) := by decide +kernel
theorem dX12_over_32 : decode cX12_over 32 = .ok (.aload_n 0, 1) := by decide +kernel
theorem dX12_over_33 : decode cX12_over 33 = .ok (.bipush (-2), 2) := by decide +kernel
theorem dX12_over_35 : decode cX12_over 35 = .ok (.invokevirtual 183, 3) := by decide +kernel
theorem dX12_over_38 : decode cX12_over 38 = .ok (.ireturn, 1) := by decide +kernel
theorem dX12_over_39 : decode cX12_over 39 = .ok (.aload_n 0, 1) := by decide +kernel
theorem dX12_over_40 : decode cX12_over 40 = .ok (.iload_n 2, 1) := by decide +kernel
theorem dX12_over_41 : decode cX12_over 41 = .ok (.invokevirtual 230, 3) := by decide +kernel
theorem dX12_over_44 : decode cX12_over 44 = .ok (.ifCond .eq 11, 3) := by decide +kernel
theorem dX12_over_55 : decode cX12_over 55 = .ok (.aload_n 0, 1) := by decide +kernel
theorem dX12_over_56 : decode cX12_over 56 = .ok (.bipush (-4), 2) := by decide +kernel
theorem dX12_over_58 : decode cX12_over 58 = .ok (.invokevirtual 183, 3) := by decide +kernel
theorem dX12_over_61 : decode cX12_over 61 = .ok (.ireturn, 1) := by decide +kernel
theorem dX12_part_0 : decode cX12_part 0 = .ok (.iload_n 1, 1) := by decide +kernel
theorem dX12_part_1 : decode cX12_part 1 = .ok (.invokestatic 211, 3) := by decide +kernel
theorem dX12_part_4 : decode cX12_part 4 = .ok (.ifCond .eq 15, 3) := by decide +kernel
theorem dX12_part_7 : decode cX12_part 7 = .ok (.iload_n 3, 1) := by decide +kernel
theorem dX12_part_8 : decode cX12_part 8 = .ok (.i2l, 1) := by decide +kernel
theorem dX12_part_9 : decode cX12_part 9 = .ok (.lconst 0, 1) := by decide +kernel
theorem dX12_part_10 : decode cX12_part 10 = .ok (.ldc2_w 173, 3) := by decide +kernel
theorem dX12_part_13 : decode cX12_part 13 = .ok (.invokestatic 175, 3) := by decide +kernel
theorem dX12_part_16 : decode cX12_part 16 = .ok (.ifCond .ne 10, 3) := by decide +kernel
theorem dX12_part_19 : decode cX12_part 19 = .ok (.aload_n 0, 1) := by decide +kernel
theorem dX12_part_20 : decode cX12_part 20 = .ok (.bipush (-2), 2) := by decide +kernel
theorem dX12_part_22 : decode cX12_part 22 = .ok (.invokevirtual 183, 3) := by decide +kernel
theorem dX12_part_25 : decode cX12_part 25 = .ok (.ireturn, 1) := by decide +kernel
theorem dX12_part_26 : decode cX12_part 26 = .ok (.aload_n 0, 1) := by decide +kernel
theorem dX12_part_27 : decode cX12_part 27 = .ok (.iload_n 1, 1) := by decide +kernel
theorem dX12_part_28 : decode cX12_part 28 = .ok (.invokevirtual 230, 3) := by decide +kernel
theorem dX12_part_31 : decode cX12_part 31 = .ok (.ifCond .ne 10, 3) := by decide +kernel
theorem dX12_part_34 : decode cX12_part 34 = .ok (.aload_n 0, 1) := by decide +kernel
theorem dX12_part_35 : decode cX12_part 35 = .ok (.bipush (-4), 2) := by decide +kernel
theorem dX12_part_37 : decode cX12_part 37 = .ok (.invokevirtual 183, 3) := by decide +kernel
theorem dX12_part_40 : decode cX12_part 40 = .ok (.ireturn, 1) := by decide +kernel
theorem dX12_point_0 : decode cX12_point 0 = .ok (.iload_n 1, 1) := by decide +kernel
theorem dX12_point_1 : decode cX12_point 1 = .ok (.invokestatic 272, 3) := by decide +kernel
theorem dX12_point_4 : decode cX12_point 4 = .ok (.ifCond .eq 35, 3) := by decide +kernel
theorem dX12_point_7 : decode cX12_point 7 = .ok (.iload_n 2, 1) := by decide +kernel
theorem dX12_point_8 : decode cX12_point 8 = .ok (.i2l, 1) := by decide +kernel
theorem dX12_point_9 : decode cX12_point 9 = .ok (.lconst 0, 1) := by decide +kernel
theorem dX12_point_10 : decode cX12_point 10 = .ok (.aload_n 0, 1) := by decide +kernel
theorem dX12_point_11 : decode cX12_point 11 = .ok (.getfield 25, 3) := by decide +kernel
theorem dX12_point_14 : decode cX12_point 14 = .ok (.iload_n 1, 1) := by decide +kernel
theorem dX12_point_15 : decode cX12_point 15 = .ok (.iaload, 1) := by decide +kernel
theorem dX12_point_16 : decode cX12_point 16 = .ok (.i2l, 1) := by decide +kernel
theorem dX12_point_17 : decode cX12_point 17 = .ok (.invokestatic 175, 3) := by decide +kernel
theorem dX12_point_20 : decode cX12_point 20 = .ok (.ifCond .eq 19, 3) := by decide +kernel
theorem dX12_point_23 : decode cX12_point 23 = .ok (.iload_n 3, 1) := by decide +kernel
theorem dX12_point_24 : decode cX12_point 24 = .ok (.i2l, 1) := by decide +kernel
theorem dX12_point_25 : decode cX12_point 25 = .ok (.lconst 0, 1) := by decide +kernel
theorem dX12_point_26 : decode cX12_point 26 = .ok (.aload_n 0, 1) := by decide +kernel
theorem dX12_point_27 : decode cX12_point 27 = .ok (.getfield 25, 3) := by decide +kernel
theorem dX12_point_30 : decode cX12_point 30 = .ok (.iload_n 1, 1) := by decide +kernel
theorem dX12_point_31 : decode cX12_point 31 = .ok (.iaload, 1) := by decide +kernel
theorem dX12_point_32 : decode cX12_point 32 = .ok (.i2l, 1) := by decide +kernel
theorem dX12_point_33 : decode cX12_point 33 = .ok (.invokestatic 175, 3) := by decide +kernel
theorem dX12_point_36 : decode cX12_point 36 = .ok (.ifCond .ne 10, 3) := by decide +kernel
theorem dX12_point_39 : decode cX12_point 39 = .ok (.aload_n 0, 1) := by decide +kernel
theorem dX12_point_40 : decode cX12_point 40 = .ok (.bipush (-2), 2) := by decide +kernel
theorem dX12_point_42 : decode cX12_point 42 = .ok (.invokevirtual 183, 3) := by decide +kernel
theorem dX12_point_45 : decode cX12_point 45 = .ok (.ireturn, 1) := by decide +kernel
theorem dX12_point_46 : decode cX12_point 46 = .ok (.aload_n 0, 1) := by decide +kernel
theorem dX12_point_47 : decode cX12_point 47 = .ok (.getfield 28, 3) := by decide +kernel
theorem dX12_point_50 : decode cX12_point 50 = .ok (.bipush 8, 2) := by decide +kernel
theorem dX12_point_52 : decode cX12_point 52 = .ok (.iload_n 1, 1) := by decide +kernel
theorem dX12_point_53 : decode cX12_point 53 = .ok (.imul, 1) := by decide +kernel
theorem dX12_point_54 : decode cX12_point 54 = .ok (.bipush 6, 2) := by decide +kernel
theorem dX12_point_56 : decode cX12_point 56 = .ok (.iadd, 1) := by decide +kernel
theorem dX12_point_57 : decode cX12_point 57 = .ok (.iload_n 2, 1) := by decide +kernel
theorem dX12_point_58 : decode cX12_point 58 = .ok (.iastore, 1) := by decide +kernel
theorem dX12_point_59 : decode cX12_point 59 = .ok (.aload_n 0, 1) := by decide +kernel
theorem dX12_point_60 : decode cX12_point 60 = .ok (.getfield 28, 3) := by decide +kernel
theorem dX12_point_63 : decode cX12_point 63 = .ok (.bipush 8, 2) := by decide +kernel
theorem dX12_point_65 : decode cX12_point 65 = .ok (.iload_n 1, 1) := by decide +kernel
theorem dX12_point_66 : decode cX12_point 66 = .ok (.imul, 1) := by decide +kernel
theorem dX12_point_67 : decode cX12_point 67 = .ok (.bipush 7, 2) := by decide +kernel
theorem dX12_point_69 : decode cX12_point 69 = .ok (.iadd, 1) := by decide +kernel
theorem dX12_point_70 : decode cX12_point 70 = .ok (.iload_n 3, 1) := by decide +kernel
theorem dX12_point_71 : decode cX12_point 71 = .ok (.iastore, 1) := by decide +kernel
theorem dX12_point_72 : decode cX12_point 72 = .ok (.iconst 1, 1) := by decide +kernel
theorem dX12_point_73 : decode cX12_point 73 = .ok (.ireturn, 1) := by decide +kernel
theorem dX12_redo_0 : decode cX12_redo 0 = .ok (.iload_n 1, 1) := by decide +kernel
theorem dX12_redo_1 : decode cX12_redo 1 = .ok (.invokestatic 272, 3) := by decide +kernel
theorem dX12_redo_4 : decode cX12_redo 4 = .ok (.ifCond .ne 10, 3) := by decide +kernel
theorem dX12_redo_7 : decode cX12_redo 7 = .ok (.aload_n 0, 1) := by decide +kernel
theorem dX12_redo_8 : decode cX12_redo 8 = .ok (.bipush (-2), 2) := by decide +kernel
theorem dX12_redo_10 : decode cX12_redo 10 = .ok (.invokevirtual 183, 3) := by decide +kernel
theorem dX12_redo_13 : decode cX12_redo 13 = .ok (.ireturn, 1) := by decide +kernel
theorem dX12_redo_14 : decode cX12_redo 14 = .ok (.aload_n 0, 1) := by decide +kernel
theorem dX12_redo_15 : decode cX12_redo 15 = .ok (.iload_n 1, 1) := by decide +kernel
theorem dX12_redo_16 : decode cX12_redo 16 = .ok (.iconst 5, 1) := by decide +kernel
theorem dX12_redo_17 : decode cX12_redo 17 = .ok (.invokevirtual 312, 3) := by decide +kernel
theorem dX12_redo_20 : decode cX12_redo 20 = .ok (.istore_n 2, 1) := by decide +kernel
theorem dX12_redo_21 : decode cX12_redo 21 = .ok (.iload_n 2, 1) := by decide +kernel
theorem dX12_redo_22 : decode cX12_redo 22 = .ok (.ifCond .ge 11, 3) := by decide +kernel
theorem dX12_redo_25 : decode cX12_redo 25 = .ok (.aload_n 0, 1) := by decide +kernel
theorem dX12_redo_26 : decode cX12_redo 26 = .ok (.iload_n 2, 1) := by decide +kernel
theorem dX12_redo_27 : decode cX12_redo 27 = .ok (.invokevirtual 183, 3) := by decide +kernel
theorem dX12_redo_30 : decode cX12_redo 30 = .ok (.goto 9, 3) := by decide +kernel
theorem dX12_redo_39 : decode cX12_redo 39 = .ok (.ireturn, 1) := by decide +kernel
theorem dX12_revision_0 : decode cX12_revision 0 = .ok (.iload_n 1, 1) := by decide +kernel
theorem dX12_revision_1 : decode cX12_revision 1 = .ok (.invokestatic 211, 3) := by decide +kernel
theorem dX12_revision_4 : decode cX12_revision 4 = .ok (.ifCond .eq 19, 3) := by decide +kernel
theorem dX12_revision_7 : decode cX12_revision 7 = .ok (.iload_n 2, 1) := by decide +kernel
theorem dX12_revision_8 : decode cX12_revision 8 = .ok (.i2l, 1) := by decide +kernel
theorem dX12_revision_9 : decode cX12_revision 9 = .ok (.lconst 1, 1) := by decide +kernel
theorem dX12_revision_10 : decode cX12_revision 10 = .ok (.aload_n 0, 1) := by decide +kernel
theorem dX12_revision_11 : decode cX12_revision 11 = .ok (.getfield 34, 3) := by decide +kernel
theorem dX12_revision_14 : decode cX12_revision 14 = .ok (.iconst 0, 1) := by decide +kernel
theorem dX12_revision_15 : decode cX12_revision 15 = .ok (.iaload, 1) := by decide +kernel
theorem dX12_revision_16 : decode cX12_revision 16 = .ok (.i2l, 1) := by decide +kernel
theorem dX12_revision_17 : decode cX12_revision 17 = .ok (.invokestatic 175, 3) := by decide +kernel
theorem dX12_revision_20 : decode cX12_revision 20 = .ok (.ifCond .ne 10, 3) := by decide +kernel
theorem dX12_revision_23 : decode cX12_revision 23 = .ok (.aload_n 0, 1) := by decide +kernel
theorem dX12_revision_24 : decode cX12_revision 24 = .ok (.bipush (-2), 2) := by decide +kernel
theorem dX12_revision_26 : decode cX12_revision 26 = .ok (.invokevirtual 183, 3) := by decide +kernel
theorem dX12_revision_29 : decode cX12_revision 29 = .ok (.ireturn, 1) := by decide +kernel
theorem dX12_row_0 : decode cX12_row 0 = .ok (.iload_n 1, 1) := by decide +kernel
theorem dX12_row_1 : decode cX12_row 1 = .ok (.invokestatic 327, 3) := by decide +kernel
theorem dX12_row_4 : decode cX12_row 4 = .ok (.ifCond .eq 27, 3) := by decide +kernel
theorem dX12_row_7 : decode cX12_row 7 = .ok (.iload_n 2, 1) := by decide +kernel
theorem dX12_row_8 : decode cX12_row 8 = .ok (.i2l, 1) := by decide +kernel
theorem dX12_row_9 : decode cX12_row 9 = .ok (.lconst 0, 1) := by decide +kernel
theorem dX12_row_10 : decode cX12_row 10 = .ok (.ldc2_w 317, 3) := by decide +kernel
theorem dX12_row_13 : decode cX12_row 13 = .ok (.invokestatic 175, 3) := by decide +kernel
theorem dX12_row_16 : decode cX12_row 16 = .ok (.ifCond .eq 15, 3) := by decide +kernel
theorem dX12_row_19 : decode cX12_row 19 = .ok (.iload_n 3, 1) := by decide +kernel
theorem dX12_row_20 : decode cX12_row 20 = .ok (.i2l, 1) := by decide +kernel
theorem dX12_row_21 : decode cX12_row 21 = .ok (.lconst 0, 1) := by decide +kernel
theorem dX12_row_22 : decode cX12_row 22 = .ok (.ldc2_w 330, 3) := by decide +kernel
theorem dX12_row_25 : decode cX12_row 25 = .ok (.invokestatic 175, 3) := by decide +kernel
theorem dX12_row_28 : decode cX12_row 28 = .ok (.ifCond .ne 10, 3) := by decide +kernel
theorem dX12_row_31 : decode cX12_row 31 = .ok (.aload_n 0, 1) := by decide +kernel
theorem dX12_row_32 : decode cX12_row 32 = .ok (.bipush (-2), 2) := by decide +kernel
theorem dX12_row_34 : decode cX12_row 34 = .ok (.invokevirtual 183, 3) := by decide +kernel
theorem dX12_row_37 : decode cX12_row 37 = .ok (.ireturn, 1) := by decide +kernel
theorem dX12_row_38 : decode cX12_row 38 = .ok (.aload_n 0, 1) := by decide +kernel
theorem dX12_row_39 : decode cX12_row 39 = .ok (.getfield 52, 3) := by decide +kernel
theorem dX12_row_42 : decode cX12_row 42 = .ok (.iload_n 1, 1) := by decide +kernel
theorem dX12_row_43 : decode cX12_row 43 = .ok (.iload_n 2, 1) := by decide +kernel
theorem dX12_row_44 : decode cX12_row 44 = .ok (.iastore, 1) := by decide +kernel
theorem dX12_row_45 : decode cX12_row 45 = .ok (.aload_n 0, 1) := by decide +kernel
theorem dX12_row_46 : decode cX12_row 46 = .ok (.getfield 55, 3) := by decide +kernel
theorem dX12_row_49 : decode cX12_row 49 = .ok (.iload_n 1, 1) := by decide +kernel
theorem dX12_row_50 : decode cX12_row 50 = .ok (.iload_n 3, 1) := by decide +kernel
theorem dX12_row_51 : decode cX12_row 51 = .ok (.iastore, 1) := by decide +kernel
theorem dX12_row_52 : decode cX12_row 52 = .ok (.iconst 0, 1) := by decide +kernel
theorem dX12_row_53 : decode cX12_row 53 = .ok (.istore 4, 2) := by decide +kernel
theorem dX12_row_55 : decode cX12_row 55 = .ok (.iload 4, 2) := by decide +kernel
theorem dX12_row_57 : decode cX12_row 57 = .ok (.bipush 40, 2) := by decide +kernel
theorem dX12_row_59 : decode cX12_row 59 = .ok (.if_icmp .ge 22, 3) := by decide +kernel
theorem dX12_row_62 : decode cX12_row 62 = .ok (.aload_n 0, 1) := by decide +kernel
theorem dX12_row_63 : decode cX12_row 63 = .ok (.getfield 58, 3) := by decide +kernel
theorem dX12_row_66 : decode cX12_row 66 = .ok (.bipush 40, 2) := by decide +kernel
theorem dX12_row_68 : decode cX12_row 68 = .ok (.iload_n 1, 1) := by decide +kernel
theorem dX12_row_69 : decode cX12_row 69 = .ok (.imul, 1) := by decide +kernel
theorem dX12_row_70 : decode cX12_row 70 = .ok (.iload 4, 2) := by decide +kernel
theorem dX12_row_72 : decode cX12_row 72 = .ok (.iadd, 1) := by decide +kernel
theorem dX12_row_73 : decode cX12_row 73 = .ok (.lconst 0, 1) := by decide +kernel
theorem dX12_row_74 : decode cX12_row 74 = .ok (.lastore, 1) := by decide +kernel
theorem dX12_row_75 : decode cX12_row 75 = .ok (.iinc 4 1, 3) := by decide +kernel
theorem dX12_row_78 : decode cX12_row 78 = .ok (.goto (-23), 3) := by decide +kernel
theorem dX12_row_81 : decode cX12_row 81 = .ok (.iconst 1, 1) := by decide +kernel
theorem dX12_row_82 : decode cX12_row 82 = .ok (.ireturn, 1) := by decide +kernel
theorem dX12_says_0 : decode cX12_says 0 = .ok (.iload_n 1, 1) := by decide +kernel
theorem dX12_says_1 : decode cX12_says 1 = .ok (.invokestatic 327, 3) := by decide +kernel
theorem dX12_says_4 : decode cX12_says 4 = .ok (.ifCond .eq 15, 3) := by decide +kernel
theorem dX12_says_7 : decode cX12_says 7 = .ok (.iload_n 2, 1) := by decide +kernel
theorem dX12_says_8 : decode cX12_says 8 = .ok (.i2l, 1) := by decide +kernel
theorem dX12_says_9 : decode cX12_says 9 = .ok (.lconst 0, 1) := by decide +kernel
theorem dX12_says_10 : decode cX12_says 10 = .ok (.ldc2_w 228, 3) := by decide +kernel
theorem dX12_says_13 : decode cX12_says 13 = .ok (.invokestatic 175, 3) := by decide +kernel
theorem dX12_says_16 : decode cX12_says 16 = .ok (.ifCond .ne 10, 3) := by decide +kernel
theorem dX12_says_19 : decode cX12_says 19 = .ok (.aload_n 0, 1) := by decide +kernel
theorem dX12_says_20 : decode cX12_says 20 = .ok (.bipush (-2), 2) := by decide +kernel
theorem dX12_says_22 : decode cX12_says 22 = .ok (.invokevirtual 183, 3) := by decide +kernel
theorem dX12_says_25 : decode cX12_says 25 = .ok (.ireturn, 1) := by decide +kernel
theorem dX12_says_26 : decode cX12_says 26 = .ok (.aload_n 0, 1) := by decide +kernel
theorem dX12_says_27 : decode cX12_says 27 = .ok (.getfield 52, 3) := by decide +kernel
theorem dX12_says_30 : decode cX12_says 30 = .ok (.iload_n 1, 1) := by decide +kernel
theorem dX12_says_31 : decode cX12_says 31 = .ok (.iaload, 1) := by decide +kernel
theorem dX12_says_32 : decode cX12_says 32 = .ok (.i2l, 1) := by decide +kernel
theorem dX12_says_33 : decode cX12_says 33 = .ok (.lconst 0, 1) := by decide +kernel
theorem dX12_says_34 : decode cX12_says 34 = .ok (.ldc2_w 317, 3) := by decide +kernel
theorem dX12_says_37 : decode cX12_says 37 = .ok (.invokestatic 175, 3) := by decide +kernel
theorem dX12_says_40 : decode cX12_says 40 = .ok (.ifCond .eq 10, 3) := by decide +kernel
theorem dX12_says_50 : decode cX12_says 50 = .ok (.aload_n 0, 1) := by decide +kernel
theorem dX12_says_51 : decode cX12_says 51 = .ok (.getfield 52, 3) := by decide +kernel
theorem dX12_says_54 : decode cX12_says 54 = .ok (.iload_n 1, 1) := by decide +kernel
theorem dX12_says_55 : decode cX12_says 55 = .ok (.iaload, 1) := by decide +kernel
theorem dX12_says_56 : decode cX12_says 56 = .ok (.ifCond .ge 10, 3) := by decide +kernel
theorem dX12_says_59 : decode cX12_says 59 = .ok (.aload_n 0, 1) := by decide +kernel
theorem dX12_says_60 : decode cX12_says 60 = .ok (.bipush (-4), 2) := by decide +kernel
theorem dX12_says_62 : decode cX12_says 62 = .ok (.invokevirtual 183, 3) := by decide +kernel
theorem dX12_says_65 : decode cX12_says 65 = .ok (.ireturn, 1) := by decide +kernel
theorem dX12_seed_0 : decode cX12_seed 0 = .ok (.aload_n 0, 1) := by decide +kernel
theorem dX12_seed_1 : decode cX12_seed 1 = .ok (.getfield 34, 3) := by decide +kernel
theorem dX12_seed_4 : decode cX12_seed 4 = .ok (.iconst 1, 1) := by decide +kernel
theorem dX12_seed_5 : decode cX12_seed 5 = .ok (.iaload, 1) := by decide +kernel
theorem dX12_seed_6 : decode cX12_seed 6 = .ok (.istore_n 2, 1) := by decide +kernel
theorem dX12_seed_7 : decode cX12_seed 7 = .ok (.aload_n 0, 1) := by decide +kernel
theorem dX12_seed_8 : decode cX12_seed 8 = .ok (.getfield 34, 3) := by decide +kernel
theorem dX12_seed_11 : decode cX12_seed 11 = .ok (.iconst 1, 1) := by decide +kernel
theorem dX12_seed_12 : decode cX12_seed 12 = .ok (.iload_n 1, 1) := by decide +kernel
theorem dX12_seed_13 : decode cX12_seed 13 = .ok (.iastore, 1) := by decide +kernel
theorem dX12_seed_14 : decode cX12_seed 14 = .ok (.iload_n 2, 1) := by decide +kernel
theorem dX12_seed_15 : decode cX12_seed 15 = .ok (.ireturn, 1) := by decide +kernel
theorem dX12_serve_0 : decode cX12_serve 0 = .ok (.iload_n 1, 1) := by decide +kernel
theorem dX12_serve_1 : decode cX12_serve 1 = .ok (.invokestatic 272, 3) := by decide +kernel
theorem dX12_serve_4 : decode cX12_serve 4 = .ok (.ifCond .ne 10, 3) := by decide +kernel
theorem dX12_serve_7 : decode cX12_serve 7 = .ok (.aload_n 0, 1) := by decide +kernel
theorem dX12_serve_8 : decode cX12_serve 8 = .ok (.bipush (-2), 2) := by decide +kernel
theorem dX12_serve_10 : decode cX12_serve 10 = .ok (.invokevirtual 183, 3) := by decide +kernel
theorem dX12_serve_13 : decode cX12_serve 13 = .ok (.ireturn, 1) := by decide +kernel
theorem dX12_serve_14 : decode cX12_serve 14 = .ok (.aload_n 0, 1) := by decide +kernel
theorem dX12_serve_15 : decode cX12_serve 15 = .ok (.iload_n 1, 1) := by decide +kernel
theorem dX12_serve_16 : decode cX12_serve 16 = .ok (.iconst 1, 1) := by decide +kernel
theorem dX12_serve_17 : decode cX12_serve 17 = .ok (.invokevirtual 135, 3) := by decide +kernel
theorem dX12_serve_20 : decode cX12_serve 20 = .ok (.iconst 1, 1) := by decide +kernel
theorem dX12_serve_21 : decode cX12_serve 21 = .ok (.if_icmp .eq 10, 3) := by decide +kernel
theorem dX12_serve_24 : decode cX12_serve 24 = .ok (.aload_n 0, 1) := by decide +kernel
theorem dX12_serve_25 : decode cX12_serve 25 = .ok (.bipush (-5), 2) := by decide +kernel
theorem dX12_serve_27 : decode cX12_serve 27 = .ok (.invokevirtual 183, 3) := by decide +kernel
theorem dX12_serve_30 : decode cX12_serve 30 = .ok (.ireturn, 1) := by decide +kernel
theorem dX12_set_0 : decode cX12_set 0 = .ok (.iload_n 1, 1) := by decide +kernel
theorem dX12_set_1 : decode cX12_set 1 = .ok (.invokestatic 327, 3) := by decide +kernel
theorem dX12_set_4 : decode cX12_set 4 = .ok (.ifCond .ne 10, 3) := by decide +kernel
theorem dX12_set_7 : decode cX12_set 7 = .ok (.aload_n 0, 1) := by decide +kernel
theorem dX12_set_8 : decode cX12_set 8 = .ok (.bipush (-2), 2) := by decide +kernel
theorem dX12_set_10 : decode cX12_set 10 = .ok (.invokevirtual 183, 3) := by decide +kernel
theorem dX12_set_13 : decode cX12_set 13 = .ok (.ireturn, 1) := by decide +kernel
theorem dX12_set_14 : decode cX12_set 14 = .ok (.aload_n 0, 1) := by decide +kernel
theorem dX12_set_15 : decode cX12_set 15 = .ok (.getfield 52, 3) := by decide +kernel
theorem dX12_set_18 : decode cX12_set 18 = .ok (.iload_n 1, 1) := by decide +kernel
theorem dX12_set_19 : decode cX12_set 19 = .ok (.iaload, 1) := by decide +kernel
theorem dX12_set_20 : decode cX12_set 20 = .ok (.iconst 4, 1) := by decide +kernel
theorem dX12_set_21 : decode cX12_set 21 = .ok (.if_icmp .le 10, 3) := by decide +kernel
theorem dX12_set_31 : decode cX12_set 31 = .ok (.aload_n 0, 1) := by decide +kernel
theorem dX12_set_32 : decode cX12_set 32 = .ok (.getfield 52, 3) := by decide +kernel
theorem dX12_set_35 : decode cX12_set 35 = .ok (.iload_n 1, 1) := by decide +kernel
theorem dX12_set_36 : decode cX12_set 36 = .ok (.iaload, 1) := by decide +kernel
theorem dX12_set_37 : decode cX12_set 37 = .ok (.ifCond .ge 10, 3) := by decide +kernel
theorem dX12_set_40 : decode cX12_set 40 = .ok (.aload_n 0, 1) := by decide +kernel
theorem dX12_set_41 : decode cX12_set 41 = .ok (.bipush (-4), 2) := by decide +kernel
theorem dX12_set_43 : decode cX12_set 43 = .ok (.invokevirtual 183, 3) := by decide +kernel
theorem dX12_set_46 : decode cX12_set 46 = .ok (.ireturn, 1) := by decide +kernel
theorem dX12_show_0 : decode cX12_show 0 = .ok (.iload_n 1, 1) := by decide +kernel
theorem dX12_show_1 : decode cX12_show 1 = .ok (.invokestatic 327, 3) := by decide +kernel
theorem dX12_show_4 : decode cX12_show 4 = .ok (.ifCond .eq 15, 3) := by decide +kernel
theorem dX12_show_7 : decode cX12_show 7 = .ok (.iload_n 2, 1) := by decide +kernel
theorem dX12_show_8 : decode cX12_show 8 = .ok (.iconst (-1), 1) := by decide +kernel
theorem dX12_show_9 : decode cX12_show 9 = .ok (.if_icmp .eq 17, 3) := by decide +kernel
theorem dX12_show_12 : decode cX12_show 12 = .ok (.iload_n 2, 1) := by decide +kernel
theorem dX12_show_13 : decode cX12_show 13 = .ok (.invokestatic 211, 3) := by decide +kernel
theorem dX12_show_16 : decode cX12_show 16 = .ok (.ifCond .ne 10, 3) := by decide +kernel
theorem dX12_show_19 : decode cX12_show 19 = .ok (.aload_n 0, 1) := by decide +kernel
theorem dX12_show_20 : decode cX12_show 20 = .ok (.bipush (-2), 2) := by decide +kernel
theorem dX12_show_22 : decode cX12_show 22 = .ok (.invokevirtual 183, 3) := by decide +kernel
theorem dX12_show_25 : decode cX12_show 25 = .ok (.ireturn, 1) := by decide +kernel
theorem dX12_show_26 : decode cX12_show 26 = .ok (.iload_n 2, 1) := by decide +kernel
theorem dX12_show_27 : decode cX12_show 27 = .ok (.iconst (-1), 1) := by decide +kernel
theorem dX12_show_28 : decode cX12_show 28 = .ok (.if_icmp .ne 12, 3) := by decide +kernel
theorem dX12_show_31 : decode cX12_show 31 = .ok (.aload_n 0, 1) := by decide +kernel
theorem dX12_show_32 : decode cX12_show 32 = .ok (.getfield 52, 3) := by decide +kernel
theorem dX12_show_35 : decode cX12_show 35 = .ok (.iload_n 1, 1) := by decide +kernel
theorem dX12_show_36 : decode cX12_show 36 = .ok (.iconst (-1), 1) := by decide +kernel
theorem dX12_show_37 : decode cX12_show 37 = .ok (.iastore, 1) := by decide +kernel
theorem dX12_show_38 : decode cX12_show 38 = .ok (.iconst 1, 1) := by decide +kernel
theorem dX12_show_39 : decode cX12_show 39 = .ok (.ireturn, 1) := by decide +kernel
theorem dX12_show_40 : decode cX12_show 40 = .ok (.aload_n 0, 1) := by decide +kernel
theorem dX12_show_41 : decode cX12_show 41 = .ok (.iload_n 2, 1) := by decide +kernel
theorem dX12_show_42 : decode cX12_show 42 = .ok (.invokevirtual 230, 3) := by decide +kernel
theorem dX12_show_45 : decode cX12_show 45 = .ok (.ifCond .ne 10, 3) := by decide +kernel
theorem dX12_show_48 : decode cX12_show 48 = .ok (.aload_n 0, 1) := by decide +kernel
theorem dX12_show_49 : decode cX12_show 49 = .ok (.bipush (-4), 2) := by decide +kernel
theorem dX12_show_51 : decode cX12_show 51 = .ok (.invokevirtual 183, 3) := by decide +kernel
theorem dX12_show_54 : decode cX12_show 54 = .ok (.ireturn, 1) := by decide +kernel
theorem dX12_spelled_0 : decode cX12_spelled 0 = .ok (.iload_n 1, 1) := by decide +kernel
theorem dX12_spelled_1 : decode cX12_spelled 1 = .ok (.invokestatic 211, 3) := by decide +kernel
theorem dX12_spelled_4 : decode cX12_spelled 4 = .ok (.ifCond .ne 10, 3) := by decide +kernel
theorem dX12_spelled_7 : decode cX12_spelled 7 = .ok (.aload_n 0, 1) := by decide +kernel
theorem dX12_spelled_8 : decode cX12_spelled 8 = .ok (.bipush (-2), 2) := by decide +kernel
theorem dX12_spelled_10 : decode cX12_spelled 10 = .ok (.invokevirtual 183, 3) := by decide +kernel
theorem dX12_spelled_13 : decode cX12_spelled 13 = .ok (.ireturn, 1) := by decide +kernel
theorem dX12_spelled_14 : decode cX12_spelled 14 = .ok (.aload_n 0, 1) := by decide +kernel
theorem dX12_spelled_15 : decode cX12_spelled 15 = .ok (.iload_n 1, 1) := by decide +kernel
theorem dX12_spelled_16 : decode cX12_spelled 16 = .ok (.invokevirtual 230, 3) := by decide +kernel
theorem dX12_spelled_19 : decode cX12_spelled 19 = .ok (.ifCond .ne 10, 3) := by decide +kernel
theorem dX12_spelled_22 : decode cX12_spelled 22 = .ok (.aload_n 0, 1) := by decide +kernel
theorem dX12_spelled_23 : decode cX12_spelled 23 = .ok (.bipush (-4), 2) := by decide +kernel
theorem dX12_spelled_25 : decode cX12_spelled 25 = .ok (.invokevirtual 183, 3) := by decide +kernel
theorem dX12_spelled_28 : decode cX12_spelled 28 = .ok (.ireturn, 1) := by decide +kernel
theorem dX12_status_0 : decode cX12_status 0 = .ok (.iconst 0, 1) := by decide +kernel
theorem dX12_status_1 : decode cX12_status 1 = .ok (.istore_n 2, 1) := by decide +kernel
theorem dX12_status_2 : decode cX12_status 2 = .ok (.iload_n 1, 1) := by decide +kernel
theorem dX12_status_3 : decode cX12_status 3 = .ok (.tableswitch 218 0 7 #[45, 52, 84, 117, 141, 173, 178, 185], 45) := by decide +kernel
theorem dX12_status_48 : decode cX12_status 48 = .ok (.aload_n 0, 1) := by decide +kernel
theorem dX12_status_49 : decode cX12_status 49 = .ok (.getfield 34, 3) := by decide +kernel
theorem dX12_status_52 : decode cX12_status 52 = .ok (.iconst 0, 1) := by decide +kernel
theorem dX12_status_53 : decode cX12_status 53 = .ok (.iaload, 1) := by decide +kernel
theorem dX12_status_54 : decode cX12_status 54 = .ok (.ireturn, 1) := by decide +kernel
theorem dX12_status_55 : decode cX12_status 55 = .ok (.iconst 0, 1) := by decide +kernel
theorem dX12_status_56 : decode cX12_status 56 = .ok (.istore_n 3, 1) := by decide +kernel
theorem dX12_status_57 : decode cX12_status 57 = .ok (.iload_n 3, 1) := by decide +kernel
theorem dX12_status_58 : decode cX12_status 58 = .ok (.iconst 4, 1) := by decide +kernel
theorem dX12_status_59 : decode cX12_status 59 = .ok (.if_icmp .ge 26, 3) := by decide +kernel
theorem dX12_status_62 : decode cX12_status 62 = .ok (.iload_n 2, 1) := by decide +kernel
theorem dX12_status_63 : decode cX12_status 63 = .ok (.aload_n 0, 1) := by decide +kernel
theorem dX12_status_64 : decode cX12_status 64 = .ok (.iload_n 3, 1) := by decide +kernel
theorem dX12_status_65 : decode cX12_status 65 = .ok (.iconst 4, 1) := by decide +kernel
theorem dX12_status_66 : decode cX12_status 66 = .ok (.invokevirtual 322, 3) := by decide +kernel
theorem dX12_status_69 : decode cX12_status 69 = .ok (.ifCond .ge 7, 3) := by decide +kernel
theorem dX12_status_72 : decode cX12_status 72 = .ok (.iconst 1, 1) := by decide +kernel
theorem dX12_status_73 : decode cX12_status 73 = .ok (.goto 4, 3) := by decide +kernel
theorem dX12_status_77 : decode cX12_status 77 = .ok (.iadd, 1) := by decide +kernel
theorem dX12_status_78 : decode cX12_status 78 = .ok (.istore_n 2, 1) := by decide +kernel
theorem dX12_status_79 : decode cX12_status 79 = .ok (.iinc 3 1, 3) := by decide +kernel
theorem dX12_status_82 : decode cX12_status 82 = .ok (.goto (-25), 3) := by decide +kernel
theorem dX12_status_85 : decode cX12_status 85 = .ok (.iload_n 2, 1) := by decide +kernel
theorem dX12_status_86 : decode cX12_status 86 = .ok (.ireturn, 1) := by decide +kernel
theorem dX12_status_87 : decode cX12_status 87 = .ok (.iconst 0, 1) := by decide +kernel
theorem dX12_status_88 : decode cX12_status 88 = .ok (.istore_n 3, 1) := by decide +kernel
theorem dX12_status_89 : decode cX12_status 89 = .ok (.iload_n 3, 1) := by decide +kernel
theorem dX12_status_90 : decode cX12_status 90 = .ok (.bipush 12, 2) := by decide +kernel
theorem dX12_status_92 : decode cX12_status 92 = .ok (.if_icmp .ge 26, 3) := by decide +kernel
theorem dX12_status_95 : decode cX12_status 95 = .ok (.iload_n 2, 1) := by decide +kernel
theorem dX12_status_96 : decode cX12_status 96 = .ok (.aload_n 0, 1) := by decide +kernel
theorem dX12_status_97 : decode cX12_status 97 = .ok (.getfield 18, 3) := by decide +kernel
theorem dX12_status_100 : decode cX12_status 100 = .ok (.iload_n 3, 1) := by decide +kernel
theorem dX12_status_101 : decode cX12_status 101 = .ok (.baload, 1) := by decide +kernel
theorem dX12_status_102 : decode cX12_status 102 = .ok (.ifCond .eq 7, 3) := by decide +kernel
theorem dX12_status_109 : decode cX12_status 109 = .ok (.iconst 0, 1) := by decide +kernel
theorem dX12_status_110 : decode cX12_status 110 = .ok (.iadd, 1) := by decide +kernel
theorem dX12_status_111 : decode cX12_status 111 = .ok (.istore_n 2, 1) := by decide +kernel
theorem dX12_status_112 : decode cX12_status 112 = .ok (.iinc 3 1, 3) := by decide +kernel
theorem dX12_status_115 : decode cX12_status 115 = .ok (.goto (-26), 3) := by decide +kernel
theorem dX12_status_118 : decode cX12_status 118 = .ok (.iload_n 2, 1) := by decide +kernel
theorem dX12_status_119 : decode cX12_status 119 = .ok (.ireturn, 1) := by decide +kernel
theorem dX12_status_120 : decode cX12_status 120 = .ok (.iconst 0, 1) := by decide +kernel
theorem dX12_status_121 : decode cX12_status 121 = .ok (.istore_n 3, 1) := by decide +kernel
theorem dX12_status_122 : decode cX12_status 122 = .ok (.iload_n 3, 1) := by decide +kernel
theorem dX12_status_123 : decode cX12_status 123 = .ok (.iconst 5, 1) := by decide +kernel
theorem dX12_status_124 : decode cX12_status 124 = .ok (.if_icmp .ge 18, 3) := by decide +kernel
theorem dX12_status_127 : decode cX12_status 127 = .ok (.iload_n 2, 1) := by decide +kernel
theorem dX12_status_128 : decode cX12_status 128 = .ok (.aload_n 0, 1) := by decide +kernel
theorem dX12_status_129 : decode cX12_status 129 = .ok (.getfield 25, 3) := by decide +kernel
theorem dX12_status_132 : decode cX12_status 132 = .ok (.iload_n 3, 1) := by decide +kernel
theorem dX12_status_133 : decode cX12_status 133 = .ok (.iaload, 1) := by decide +kernel
theorem dX12_status_134 : decode cX12_status 134 = .ok (.iadd, 1) := by decide +kernel
theorem dX12_status_135 : decode cX12_status 135 = .ok (.istore_n 2, 1) := by decide +kernel
theorem dX12_status_136 : decode cX12_status 136 = .ok (.iinc 3 1, 3) := by decide +kernel
theorem dX12_status_139 : decode cX12_status 139 = .ok (.goto (-17), 3) := by decide +kernel
theorem dX12_status_142 : decode cX12_status 142 = .ok (.iload_n 2, 1) := by decide +kernel
theorem dX12_status_143 : decode cX12_status 143 = .ok (.ireturn, 1) := by decide +kernel
theorem dX12_status_144 : decode cX12_status 144 = .ok (.iconst 0, 1) := by decide +kernel
theorem dX12_status_145 : decode cX12_status 145 = .ok (.istore_n 3, 1) := by decide +kernel
theorem dX12_status_146 : decode cX12_status 146 = .ok (.iload_n 3, 1) := by decide +kernel
theorem dX12_status_147 : decode cX12_status 147 = .ok (.iconst 4, 1) := by decide +kernel
theorem dX12_status_148 : decode cX12_status 148 = .ok (.if_icmp .ge 26, 3) := by decide +kernel
theorem dX12_status_151 : decode cX12_status 151 = .ok (.iload_n 2, 1) := by decide +kernel
theorem dX12_status_152 : decode cX12_status 152 = .ok (.aload_n 0, 1) := by decide +kernel
theorem dX12_status_153 : decode cX12_status 153 = .ok (.iload_n 3, 1) := by decide +kernel
theorem dX12_status_154 : decode cX12_status 154 = .ok (.iconst 1, 1) := by decide +kernel
theorem dX12_status_155 : decode cX12_status 155 = .ok (.invokevirtual 135, 3) := by decide +kernel
theorem dX12_status_158 : decode cX12_status 158 = .ok (.ifCond .le 7, 3) := by decide +kernel
theorem dX12_status_165 : decode cX12_status 165 = .ok (.iconst 0, 1) := by decide +kernel
theorem dX12_status_166 : decode cX12_status 166 = .ok (.iadd, 1) := by decide +kernel
theorem dX12_status_167 : decode cX12_status 167 = .ok (.istore_n 2, 1) := by decide +kernel
theorem dX12_status_168 : decode cX12_status 168 = .ok (.iinc 3 1, 3) := by decide +kernel
theorem dX12_status_171 : decode cX12_status 171 = .ok (.goto (-25), 3) := by decide +kernel
theorem dX12_status_174 : decode cX12_status 174 = .ok (.iload_n 2, 1) := by decide +kernel
theorem dX12_status_175 : decode cX12_status 175 = .ok (.ireturn, 1) := by decide +kernel
theorem dX12_status_176 : decode cX12_status 176 = .ok (.aload_n 0, 1) := by decide +kernel
theorem dX12_status_177 : decode cX12_status 177 = .ok (.getfield 186, 3) := by decide +kernel
theorem dX12_status_180 : decode cX12_status 180 = .ok (.ireturn, 1) := by decide +kernel
theorem dX12_status_181 : decode cX12_status 181 = .ok (.aload_n 0, 1) := by decide +kernel
theorem dX12_status_182 : decode cX12_status 182 = .ok (.getfield 34, 3) := by decide +kernel
theorem dX12_status_185 : decode cX12_status 185 = .ok (.iconst 1, 1) := by decide +kernel
theorem dX12_status_186 : decode cX12_status 186 = .ok (.iaload, 1) := by decide +kernel
theorem dX12_status_187 : decode cX12_status 187 = .ok (.ireturn, 1) := by decide +kernel
theorem dX12_status_188 : decode cX12_status 188 = .ok (.iconst 0, 1) := by decide +kernel
theorem dX12_status_189 : decode cX12_status 189 = .ok (.istore_n 3, 1) := by decide +kernel
theorem dX12_status_190 : decode cX12_status 190 = .ok (.iload_n 3, 1) := by decide +kernel
theorem dX12_status_191 : decode cX12_status 191 = .ok (.bipush 8, 2) := by decide +kernel
theorem dX12_status_193 : decode cX12_status 193 = .ok (.if_icmp .ge 26, 3) := by decide +kernel
theorem dX12_status_196 : decode cX12_status 196 = .ok (.iload_n 2, 1) := by decide +kernel
theorem dX12_status_197 : decode cX12_status 197 = .ok (.aload_n 0, 1) := by decide +kernel
theorem dX12_status_198 : decode cX12_status 198 = .ok (.getfield 52, 3) := by decide +kernel
theorem dX12_status_201 : decode cX12_status 201 = .ok (.iload_n 3, 1) := by decide +kernel
theorem dX12_status_202 : decode cX12_status 202 = .ok (.iaload, 1) := by decide +kernel
theorem dX12_status_203 : decode cX12_status 203 = .ok (.ifCond .lt 7, 3) := by decide +kernel
theorem dX12_status_210 : decode cX12_status 210 = .ok (.iconst 0, 1) := by decide +kernel
theorem dX12_status_211 : decode cX12_status 211 = .ok (.iadd, 1) := by decide +kernel
theorem dX12_status_212 : decode cX12_status 212 = .ok (.istore_n 2, 1) := by decide +kernel
theorem dX12_status_213 : decode cX12_status 213 = .ok (.iinc 3 1, 3) := by decide +kernel
theorem dX12_status_216 : decode cX12_status 216 = .ok (.goto (-26), 3) := by decide +kernel
theorem dX12_status_219 : decode cX12_status 219 = .ok (.iload_n 2, 1) := by decide +kernel
theorem dX12_status_220 : decode cX12_status 220 = .ok (.ireturn, 1) := by decide +kernel
theorem dX12_status_221 : decode cX12_status 221 = .ok (.iload_n 1, 1) := by decide +kernel
theorem dX12_status_222 : decode cX12_status 222 = .ok (.i2l, 1) := by decide +kernel
theorem dX12_status_223 : decode cX12_status 223 = .ok (.ldc2_w 367, 3) := by decide +kernel
theorem dX12_status_226 : decode cX12_status 226 = .ok (.ldc2_w 369, 3) := by decide +kernel
theorem dX12_status_229 : decode cX12_status 229 = .ok (.invokestatic 175, 3) := by decide +kernel
theorem dX12_status_232 : decode cX12_status 232 = .ok (.ifCond .eq 15, 3) := by decide +kernel
theorem dX12_status_235 : decode cX12_status 235 = .ok (.aload_n 0, 1) := by decide +kernel
theorem dX12_status_236 : decode cX12_status 236 = .ok (.getfield 37, 3) := by decide +kernel
theorem dX12_status_239 : decode cX12_status 239 = .ok (.iload_n 1, 1) := by decide +kernel
theorem dX12_status_240 : decode cX12_status 240 = .ok (.bipush 10, 2) := by decide +kernel
theorem dX12_status_242 : decode cX12_status 242 = .ok (.isub, 1) := by decide +kernel
theorem dX12_status_243 : decode cX12_status 243 = .ok (.iaload, 1) := by decide +kernel
theorem dX12_status_244 : decode cX12_status 244 = .ok (.goto 4, 3) := by decide +kernel
theorem dX12_status_247 : decode cX12_status 247 = .ok (.iconst (-1), 1) := by decide +kernel
theorem dX12_status_248 : decode cX12_status 248 = .ok (.ireturn, 1) := by decide +kernel
theorem dX12_takes_0 : decode cX12_takes 0 = .ok (.iload_n 1, 1) := by decide +kernel
theorem dX12_takes_1 : decode cX12_takes 1 = .ok (.invokestatic 211, 3) := by decide +kernel
theorem dX12_takes_4 : decode cX12_takes 4 = .ok (.ifCond .eq 22, 3) := by decide +kernel
theorem dX12_takes_7 : decode cX12_takes 7 = .ok (.iload_n 2, 1) := by decide +kernel
theorem dX12_takes_8 : decode cX12_takes 8 = .ok (.invokestatic 272, 3) := by decide +kernel
theorem dX12_takes_11 : decode cX12_takes 11 = .ok (.ifCond .eq 15, 3) := by decide +kernel
theorem dX12_takes_14 : decode cX12_takes 14 = .ok (.iload_n 3, 1) := by decide +kernel
theorem dX12_takes_15 : decode cX12_takes 15 = .ok (.i2l, 1) := by decide +kernel
theorem dX12_takes_16 : decode cX12_takes 16 = .ok (.lconst 0, 1) := by decide +kernel
theorem dX12_takes_17 : decode cX12_takes 17 = .ok (.ldc2_w 173, 3) := by decide +kernel
theorem dX12_takes_20 : decode cX12_takes 20 = .ok (.invokestatic 175, 3) := by decide +kernel
theorem dX12_takes_23 : decode cX12_takes 23 = .ok (.ifCond .ne 10, 3) := by decide +kernel
theorem dX12_takes_26 : decode cX12_takes 26 = .ok (.aload_n 0, 1) := by decide +kernel
theorem dX12_takes_27 : decode cX12_takes 27 = .ok (.bipush (-2), 2) := by decide +kernel
theorem dX12_takes_29 : decode cX12_takes 29 = .ok (.invokevirtual 183, 3) := by decide +kernel
theorem dX12_takes_32 : decode cX12_takes 32 = .ok (.ireturn, 1) := by decide +kernel
theorem dX12_takes_33 : decode cX12_takes 33 = .ok (.iload_n 3, 1) := by decide +kernel
theorem dX12_takes_34 : decode cX12_takes 34 = .ok (.ifCond .ne 12, 3) := by decide +kernel
theorem dX12_takes_37 : decode cX12_takes 37 = .ok (.aload_n 0, 1) := by decide +kernel
theorem dX12_takes_38 : decode cX12_takes 38 = .ok (.iload_n 2, 1) := by decide +kernel
theorem dX12_takes_39 : decode cX12_takes 39 = .ok (.iconst 1, 1) := by decide +kernel
theorem dX12_takes_40 : decode cX12_takes 40 = .ok (.invokevirtual 135, 3) := by decide +kernel
theorem dX12_takes_43 : decode cX12_takes 43 = .ok (.goto 25, 3) := by decide +kernel
theorem dX12_takes_46 : decode cX12_takes 46 = .ok (.iload_n 3, 1) := by decide +kernel
theorem dX12_takes_47 : decode cX12_takes 47 = .ok (.iconst 1, 1) := by decide +kernel
theorem dX12_takes_48 : decode cX12_takes 48 = .ok (.if_icmp .ne 12, 3) := by decide +kernel
theorem dX12_takes_51 : decode cX12_takes 51 = .ok (.aload_n 0, 1) := by decide +kernel
theorem dX12_takes_52 : decode cX12_takes 52 = .ok (.iload_n 2, 1) := by decide +kernel
theorem dX12_takes_53 : decode cX12_takes 53 = .ok (.iconst 3, 1) := by decide +kernel
theorem dX12_takes_54 : decode cX12_takes 54 = .ok (.invokevirtual 135, 3) := by decide +kernel
theorem dX12_takes_57 : decode cX12_takes 57 = .ok (.goto 11, 3) := by decide +kernel
theorem dX12_takes_60 : decode cX12_takes 60 = .ok (.aload_n 0, 1) := by decide +kernel
theorem dX12_takes_61 : decode cX12_takes 61 = .ok (.iload_n 2, 1) := by decide +kernel
theorem dX12_takes_62 : decode cX12_takes 62 = .ok (.iconst 2, 1) := by decide +kernel
theorem dX12_takes_63 : decode cX12_takes 63 = .ok (.iload_n 3, 1) := by decide +kernel
theorem dX12_takes_64 : decode cX12_takes 64 = .ok (.iadd, 1) := by decide +kernel
theorem dX12_takes_65 : decode cX12_takes 65 = .ok (.invokevirtual 135, 3) := by decide +kernel
theorem dX12_takes_68 : decode cX12_takes 68 = .ok (.istore 4, 2) := by decide +kernel
theorem dX12_takes_70 : decode cX12_takes 70 = .ok (.iload 4, 2) := by decide +kernel
theorem dX12_takes_72 : decode cX12_takes 72 = .ok (.ifCond .ne 10, 3) := by decide +kernel
theorem dX12_takes_75 : decode cX12_takes 75 = .ok (.aload_n 0, 1) := by decide +kernel
theorem dX12_takes_76 : decode cX12_takes 76 = .ok (.bipush (-5), 2) := by decide +kernel
theorem dX12_takes_78 : decode cX12_takes 78 = .ok (.invokevirtual 183, 3) := by decide +kernel
theorem dX12_takes_81 : decode cX12_takes 81 = .ok (.ireturn, 1) := by decide +kernel
theorem dX12_text_0 : decode cX12_text 0 = .ok (.iload_n 1, 1) := by decide +kernel
theorem dX12_text_1 : decode cX12_text 1 = .ok (.invokestatic 319, 3) := by decide +kernel
theorem dX12_text_4 : decode cX12_text 4 = .ok (.ifCond .eq 31, 3) := by decide +kernel
theorem dX12_text_7 : decode cX12_text 7 = .ok (.iload_n 2, 1) := by decide +kernel
theorem dX12_text_8 : decode cX12_text 8 = .ok (.i2l, 1) := by decide +kernel
theorem dX12_text_9 : decode cX12_text 9 = .ok (.lconst 0, 1) := by decide +kernel
theorem dX12_text_10 : decode cX12_text 10 = .ok (.aload_n 0, 1) := by decide +kernel
theorem dX12_text_11 : decode cX12_text 11 = .ok (.getfield 25, 3) := by decide +kernel
theorem dX12_text_14 : decode cX12_text 14 = .ok (.iload_n 1, 1) := by decide +kernel
theorem dX12_text_15 : decode cX12_text 15 = .ok (.iaload, 1) := by decide +kernel
theorem dX12_text_16 : decode cX12_text 16 = .ok (.iconst 1, 1) := by decide +kernel
theorem dX12_text_17 : decode cX12_text 17 = .ok (.isub, 1) := by decide +kernel
theorem dX12_text_18 : decode cX12_text 18 = .ok (.i2l, 1) := by decide +kernel
theorem dX12_text_19 : decode cX12_text 19 = .ok (.invokestatic 175, 3) := by decide +kernel
theorem dX12_text_22 : decode cX12_text 22 = .ok (.ifCond .eq 13, 3) := by decide +kernel
theorem dX12_text_35 : decode cX12_text 35 = .ok (.aload_n 0, 1) := by decide +kernel
theorem dX12_text_36 : decode cX12_text 36 = .ok (.bipush (-2), 2) := by decide +kernel
theorem dX12_text_38 : decode cX12_text 38 = .ok (.invokevirtual 183, 3) := by decide +kernel
theorem dX12_text_41 : decode cX12_text 41 = .ok (.ireturn, 1) := by decide +kernel
theorem dX12_turned_0 : decode cX12_turned 0 = .ok (.iload_n 1, 1) := by decide +kernel
theorem dX12_turned_1 : decode cX12_turned 1 = .ok (.invokestatic 211, 3) := by decide +kernel
theorem dX12_turned_4 : decode cX12_turned 4 = .ok (.ifCond .eq 17, 3) := by decide +kernel
theorem dX12_turned_7 : decode cX12_turned 7 = .ok (.iload_n 2, 1) := by decide +kernel
theorem dX12_turned_8 : decode cX12_turned 8 = .ok (.invokestatic 211, 3) := by decide +kernel
theorem dX12_turned_11 : decode cX12_turned 11 = .ok (.ifCond .eq 10, 3) := by decide +kernel
theorem dX12_turned_14 : decode cX12_turned 14 = .ok (.iload_n 3, 1) := by decide +kernel
theorem dX12_turned_15 : decode cX12_turned 15 = .ok (.invokestatic 272, 3) := by decide +kernel
theorem dX12_turned_18 : decode cX12_turned 18 = .ok (.ifCond .ne 10, 3) := by decide +kernel
theorem dX12_turned_21 : decode cX12_turned 21 = .ok (.aload_n 0, 1) := by decide +kernel
theorem dX12_turned_22 : decode cX12_turned 22 = .ok (.bipush (-2), 2) := by decide +kernel
theorem dX12_turned_24 : decode cX12_turned 24 = .ok (.invokevirtual 183, 3) := by decide +kernel
theorem dX12_turned_27 : decode cX12_turned 27 = .ok (.ireturn, 1) := by decide +kernel
theorem dX12_turned_28 : decode cX12_turned 28 = .ok (.aload_n 0, 1) := by decide +kernel
theorem dX12_turned_29 : decode cX12_turned 29 = .ok (.iload_n 2, 1) := by decide +kernel
theorem dX12_turned_30 : decode cX12_turned 30 = .ok (.invokevirtual 230, 3) := by decide +kernel
theorem dX12_turned_33 : decode cX12_turned 33 = .ok (.ifCond .ne 10, 3) := by decide +kernel
theorem dX12_turned_36 : decode cX12_turned 36 = .ok (.aload_n 0, 1) := by decide +kernel
theorem dX12_turned_37 : decode cX12_turned 37 = .ok (.bipush (-4), 2) := by decide +kernel
theorem dX12_turned_39 : decode cX12_turned 39 = .ok (.invokevirtual 183, 3) := by decide +kernel
theorem dX12_turned_42 : decode cX12_turned 42 = .ok (.ireturn, 1) := by decide +kernel
theorem dX12_undo_0 : decode cX12_undo 0 = .ok (.iload_n 1, 1) := by decide +kernel
theorem dX12_undo_1 : decode cX12_undo 1 = .ok (.invokestatic 272, 3) := by decide +kernel
theorem dX12_undo_4 : decode cX12_undo 4 = .ok (.ifCond .ne 10, 3) := by decide +kernel
theorem dX12_undo_7 : decode cX12_undo 7 = .ok (.aload_n 0, 1) := by decide +kernel
theorem dX12_undo_8 : decode cX12_undo 8 = .ok (.bipush (-2), 2) := by decide +kernel
theorem dX12_undo_10 : decode cX12_undo 10 = .ok (.invokevirtual 183, 3) := by decide +kernel
theorem dX12_undo_13 : decode cX12_undo 13 = .ok (.ireturn, 1) := by decide +kernel
theorem dX12_undo_14 : decode cX12_undo 14 = .ok (.aload_n 0, 1) := by decide +kernel
theorem dX12_undo_15 : decode cX12_undo 15 = .ok (.iload_n 1, 1) := by decide +kernel
theorem dX12_undo_16 : decode cX12_undo 16 = .ok (.iconst 4, 1) := by decide +kernel
theorem dX12_undo_17 : decode cX12_undo 17 = .ok (.invokevirtual 312, 3) := by decide +kernel
theorem dX12_undo_20 : decode cX12_undo 20 = .ok (.istore_n 2, 1) := by decide +kernel
theorem dX12_undo_21 : decode cX12_undo 21 = .ok (.iload_n 2, 1) := by decide +kernel
theorem dX12_undo_22 : decode cX12_undo 22 = .ok (.ifCond .ge 11, 3) := by decide +kernel
theorem dX12_undo_25 : decode cX12_undo 25 = .ok (.aload_n 0, 1) := by decide +kernel
theorem dX12_undo_26 : decode cX12_undo 26 = .ok (.iload_n 2, 1) := by decide +kernel
theorem dX12_undo_27 : decode cX12_undo 27 = .ok (.invokevirtual 183, 3) := by decide +kernel
theorem dX12_undo_30 : decode cX12_undo 30 = .ok (.goto 9, 3) := by decide +kernel
theorem dX12_undo_39 : decode cX12_undo 39 = .ok (.ireturn, 1) := by decide +kernel
theorem dX12_wipe_0 : decode cX12_wipe 0 = .ok (.aload_n 0, 1) := by decide +kernel
theorem dX12_wipe_1 : decode cX12_wipe 1 = .ok (.getfield 186, 3) := by decide +kernel
theorem dX12_wipe_4 : decode cX12_wipe 4 = .ok (.istore_n 1, 1) := by decide +kernel
theorem dX12_wipe_5 : decode cX12_wipe 5 = .ok (.aload_n 0, 1) := by decide +kernel
theorem dX12_wipe_6 : decode cX12_wipe 6 = .ok (.iconst 0, 1) := by decide +kernel
theorem dX12_wipe_7 : decode cX12_wipe 7 = .ok (.putfield 186, 3) := by decide +kernel
theorem dX12_wipe_10 : decode cX12_wipe 10 = .ok (.iload_n 1, 1) := by decide +kernel
theorem dX12_wipe_11 : decode cX12_wipe 11 = .ok (.ireturn, 1) := by decide +kernel
theorem dX9_init_0 : decode cX9_init 0 = .ok (.aload_n 0, 1) := by decide +kernel
theorem dX9_init_1 : decode cX9_init 1 = .ok (.invokespecial 5, 3) := by decide +kernel
theorem dX9_init_4 : decode cX9_init 4 = .ok (.aload_n 0, 1) := by decide +kernel
theorem dX9_init_5 : decode cX9_init 5 = .ok (.sipush 2048, 3) := by decide +kernel
theorem dX9_init_8 : decode cX9_init 8 = .ok (.newarray .int, 2) := by decide +kernel
theorem dX9_init_10 : decode cX9_init 10 = .ok (.putfield 11, 3) := by decide +kernel
theorem dX9_init_13 : decode cX9_init 13 = .ok (.aload_n 0, 1) := by decide +kernel
theorem dX9_init_14 : decode cX9_init 14 = .ok (.ldc 15, 2) := by decide +kernel
theorem dX9_init_16 : decode cX9_init 16 = .ok (.newarray .int, 2) := by decide +kernel
theorem dX9_init_18 : decode cX9_init 18 = .ok (.putfield 16, 3) := by decide +kernel
theorem dX9_init_21 : decode cX9_init 21 = .ok (.aload_n 0, 1) := by decide +kernel
theorem dX9_init_22 : decode cX9_init 22 = .ok (.ldc 19, 2) := by decide +kernel
theorem dX9_init_24 : decode cX9_init 24 = .ok (.newarray .long, 2) := by decide +kernel
theorem dX9_init_26 : decode cX9_init 26 = .ok (.putfield 20, 3) := by decide +kernel
theorem dX9_init_29 : decode cX9_init 29 = .ok (.aload_n 0, 1) := by decide +kernel
theorem dX9_init_30 : decode cX9_init 30 = .ok (.ldc 19, 2) := by decide +kernel
theorem dX9_init_32 : decode cX9_init 32 = .ok (.newarray .long, 2) := by decide +kernel
theorem dX9_init_34 : decode cX9_init 34 = .ok (.putfield 24, 3) := by decide +kernel
theorem dX9_init_37 : decode cX9_init 37 = .ok (.aload_n 0, 1) := by decide +kernel
theorem dX9_init_38 : decode cX9_init 38 = .ok (.ldc 15, 2) := by decide +kernel
theorem dX9_init_40 : decode cX9_init 40 = .ok (.newarray .long, 2) := by decide +kernel
theorem dX9_init_42 : decode cX9_init 42 = .ok (.putfield 27, 3) := by decide +kernel
theorem dX9_init_45 : decode cX9_init 45 = .ok (.aload_n 0, 1) := by decide +kernel
theorem dX9_init_46 : decode cX9_init 46 = .ok (.ldc 15, 2) := by decide +kernel
theorem dX9_init_48 : decode cX9_init 48 = .ok (.newarray .long, 2) := by decide +kernel
theorem dX9_init_50 : decode cX9_init 50 = .ok (.putfield 30, 3) := by decide +kernel
theorem dX9_init_53 : decode cX9_init 53 = .ok (.aload_n 0, 1) := by decide +kernel
theorem dX9_init_54 : decode cX9_init 54 = .ok (.ldc 33, 2) := by decide +kernel
theorem dX9_init_56 : decode cX9_init 56 = .ok (.newarray .long, 2) := by decide +kernel
theorem dX9_init_58 : decode cX9_init 58 = .ok (.putfield 34, 3) := by decide +kernel
theorem dX9_init_61 : decode cX9_init 61 = .ok (.aload_n 0, 1) := by decide +kernel
theorem dX9_init_62 : decode cX9_init 62 = .ok (.ldc 37, 2) := by decide +kernel
theorem dX9_init_64 : decode cX9_init 64 = .ok (.newarray .long, 2) := by decide +kernel
theorem dX9_init_66 : decode cX9_init 66 = .ok (.putfield 38, 3) := by decide +kernel
theorem dX9_init_69 : decode cX9_init 69 = .ok (.aload_n 0, 1) := by decide +kernel
theorem dX9_init_70 : decode cX9_init 70 = .ok (.ldc 41, 2) := by decide +kernel
theorem dX9_init_72 : decode cX9_init 72 = .ok (.putfield 42, 3) := by decide +kernel
theorem dX9_init_75 : decode cX9_init 75 = .ok (.aload_n 0, 1) := by decide +kernel
theorem dX9_init_76 : decode cX9_init 76 = .ok (.sipush 1025, 3) := by decide +kernel
theorem dX9_init_79 : decode cX9_init 79 = .ok (.putfield 46, 3) := by decide +kernel
theorem dX9_init_82 : decode cX9_init 82 = .ok (.aload_n 0, 1) := by decide +kernel
theorem dX9_init_83 : decode cX9_init 83 = .ok (.ldc 15, 2) := by decide +kernel
theorem dX9_init_85 : decode cX9_init 85 = .ok (.putfield 49, 3) := by decide +kernel
theorem dX9_init_88 : decode cX9_init 88 = .ok (.aload_n 0, 1) := by decide +kernel
theorem dX9_init_89 : decode cX9_init 89 = .ok (.sipush 1025, 3) := by decide +kernel
theorem dX9_init_92 : decode cX9_init 92 = .ok (.putfield 52, 3) := by decide +kernel
theorem dX9_init_95 : decode cX9_init 95 = .ok (.iconst 0, 1) := by decide +kernel
theorem dX9_init_96 : decode cX9_init 96 = .ok (.istore_n 1, 1) := by decide +kernel
theorem dX9_init_97 : decode cX9_init 97 = .ok (.iload_n 1, 1) := by decide +kernel
theorem dX9_init_98 : decode cX9_init 98 = .ok (.sipush 1024, 3) := by decide +kernel
theorem dX9_init_101 : decode cX9_init 101 = .ok (.if_icmp .ge 101, 3) := by decide +kernel
theorem dX9_init_104 : decode cX9_init 104 = .ok (.iload_n 1, 1) := by decide +kernel
theorem dX9_init_105 : decode cX9_init 105 = .ok (.sipush 512, 3) := by decide +kernel
theorem dX9_init_108 : decode cX9_init 108 = .ok (.if_icmp .ne 7, 3) := by decide +kernel
theorem dX9_init_111 : decode cX9_init 111 = .ok (.iconst 1, 1) := by decide +kernel
theorem dX9_init_112 : decode cX9_init 112 = .ok (.goto 4, 3) := by decide +kernel
theorem dX9_init_115 : decode cX9_init 115 = .ok (.iconst 0, 1) := by decide +kernel
theorem dX9_init_116 : decode cX9_init 116 = .ok (.istore_n 2, 1) := by decide +kernel
theorem dX9_init_117 : decode cX9_init 117 = .ok (.iload_n 1, 1) := by decide +kernel
theorem dX9_init_118 : decode cX9_init 118 = .ok (.sipush 512, 3) := by decide +kernel
theorem dX9_init_121 : decode cX9_init 121 = .ok (.if_icmp .ge 7, 3) := by decide +kernel
theorem dX9_init_124 : decode cX9_init 124 = .ok (.iconst 1, 1) := by decide +kernel
theorem dX9_init_125 : decode cX9_init 125 = .ok (.goto 4, 3) := by decide +kernel
theorem dX9_init_128 : decode cX9_init 128 = .ok (.iconst 0, 1) := by decide +kernel
theorem dX9_init_129 : decode cX9_init 129 = .ok (.istore_n 3, 1) := by decide +kernel
theorem dX9_init_130 : decode cX9_init 130 = .ok (.iload_n 2, 1) := by decide +kernel
theorem dX9_init_131 : decode cX9_init 131 = .ok (.ifCond .eq 9, 3) := by decide +kernel
theorem dX9_init_134 : decode cX9_init 134 = .ok (.ldc2_w 55, 3) := by decide +kernel
theorem dX9_init_137 : decode cX9_init 137 = .ok (.goto 4, 3) := by decide +kernel
theorem dX9_init_140 : decode cX9_init 140 = .ok (.lconst 0, 1) := by decide +kernel
theorem dX9_init_141 : decode cX9_init 141 = .ok (.lstore 4, 2) := by decide +kernel
theorem dX9_init_143 : decode cX9_init 143 = .ok (.aload_n 0, 1) := by decide +kernel
theorem dX9_init_144 : decode cX9_init 144 = .ok (.getfield 20, 3) := by decide +kernel
theorem dX9_init_147 : decode cX9_init 147 = .ok (.iload_n 1, 1) := by decide +kernel
theorem dX9_init_148 : decode cX9_init 148 = .ok (.iconst 1, 1) := by decide +kernel
theorem dX9_init_149 : decode cX9_init 149 = .ok (.iadd, 1) := by decide +kernel
theorem dX9_init_150 : decode cX9_init 150 = .ok (.iload_n 3, 1) := by decide +kernel
theorem dX9_init_151 : decode cX9_init 151 = .ok (.ifCond .eq 9, 3) := by decide +kernel
theorem dX9_init_154 : decode cX9_init 154 = .ok (.ldc2_w 57, 3) := by decide +kernel
theorem dX9_init_157 : decode cX9_init 157 = .ok (.goto 5, 3) := by decide +kernel
theorem dX9_init_160 : decode cX9_init 160 = .ok (.lload 4, 2) := by decide +kernel
theorem dX9_init_162 : decode cX9_init 162 = .ok (.ldc2_w 59, 3) := by decide +kernel
theorem dX9_init_165 : decode cX9_init 165 = .ok (.lor, 1) := by decide +kernel
theorem dX9_init_166 : decode cX9_init 166 = .ok (.lastore, 1) := by decide +kernel
theorem dX9_init_167 : decode cX9_init 167 = .ok (.aload_n 0, 1) := by decide +kernel
theorem dX9_init_168 : decode cX9_init 168 = .ok (.getfield 24, 3) := by decide +kernel
theorem dX9_init_171 : decode cX9_init 171 = .ok (.iload_n 1, 1) := by decide +kernel
theorem dX9_init_172 : decode cX9_init 172 = .ok (.iconst 1, 1) := by decide +kernel
theorem dX9_init_173 : decode cX9_init 173 = .ok (.iadd, 1) := by decide +kernel
theorem dX9_init_174 : decode cX9_init 174 = .ok (.iload_n 3, 1) := by decide +kernel
theorem dX9_init_175 : decode cX9_init 175 = .ok (.ifCond .eq 7, 3) := by decide +kernel
theorem dX9_init_178 : decode cX9_init 178 = .ok (.lconst 0, 1) := by decide +kernel
theorem dX9_init_179 : decode cX9_init 179 = .ok (.goto 6, 3) := by decide +kernel
theorem dX9_init_182 : decode cX9_init 182 = .ok (.ldc2_w 61, 3) := by decide +kernel
theorem dX9_init_185 : decode cX9_init 185 = .ok (.iload_n 2, 1) := by decide +kernel
theorem dX9_init_186 : decode cX9_init 186 = .ok (.ifCond .eq 7, 3) := by decide +kernel
theorem dX9_init_189 : decode cX9_init 189 = .ok (.lconst 0, 1) := by decide +kernel
theorem dX9_init_190 : decode cX9_init 190 = .ok (.goto 4, 3) := by decide +kernel
theorem dX9_init_193 : decode cX9_init 193 = .ok (.lconst 1, 1) := by decide +kernel
theorem dX9_init_194 : decode cX9_init 194 = .ok (.lor, 1) := by decide +kernel
theorem dX9_init_195 : decode cX9_init 195 = .ok (.lastore, 1) := by decide +kernel
theorem dX9_init_196 : decode cX9_init 196 = .ok (.iinc 1 1, 3) := by decide +kernel
theorem dX9_init_199 : decode cX9_init 199 = .ok (.goto (-102), 3) := by decide +kernel
theorem dX9_init_202 : decode cX9_init 202 = .ok (.return_, 1) := by decide +kernel
theorem dX10_init_0 : decode cX10_init 0 = .ok (.aload_n 0, 1) := by decide +kernel
theorem dX10_init_1 : decode cX10_init 1 = .ok (.invokespecial 5, 3) := by decide +kernel
theorem dX10_init_4 : decode cX10_init 4 = .ok (.aload_n 0, 1) := by decide +kernel
theorem dX10_init_5 : decode cX10_init 5 = .ok (.sipush 512, 3) := by decide +kernel
theorem dX10_init_8 : decode cX10_init 8 = .ok (.newarray .int, 2) := by decide +kernel
theorem dX10_init_10 : decode cX10_init 10 = .ok (.putfield 11, 3) := by decide +kernel
theorem dX10_init_13 : decode cX10_init 13 = .ok (.aload_n 0, 1) := by decide +kernel
theorem dX10_init_14 : decode cX10_init 14 = .ok (.ldc 15, 2) := by decide +kernel
theorem dX10_init_16 : decode cX10_init 16 = .ok (.newarray .int, 2) := by decide +kernel
theorem dX10_init_18 : decode cX10_init 18 = .ok (.putfield 16, 3) := by decide +kernel
theorem dX10_init_21 : decode cX10_init 21 = .ok (.aload_n 0, 1) := by decide +kernel
theorem dX10_init_22 : decode cX10_init 22 = .ok (.ldc 15, 2) := by decide +kernel
theorem dX10_init_24 : decode cX10_init 24 = .ok (.newarray .long, 2) := by decide +kernel
theorem dX10_init_26 : decode cX10_init 26 = .ok (.putfield 19, 3) := by decide +kernel
theorem dX10_init_29 : decode cX10_init 29 = .ok (.aload_n 0, 1) := by decide +kernel
theorem dX10_init_30 : decode cX10_init 30 = .ok (.ldc 15, 2) := by decide +kernel
theorem dX10_init_32 : decode cX10_init 32 = .ok (.newarray .long, 2) := by decide +kernel
theorem dX10_init_34 : decode cX10_init 34 = .ok (.putfield 23, 3) := by decide +kernel
theorem dX10_init_37 : decode cX10_init 37 = .ok (.aload_n 0, 1) := by decide +kernel
theorem dX10_init_38 : decode cX10_init 38 = .ok (.ldc 15, 2) := by decide +kernel
theorem dX10_init_40 : decode cX10_init 40 = .ok (.newarray .long, 2) := by decide +kernel
theorem dX10_init_42 : decode cX10_init 42 = .ok (.putfield 26, 3) := by decide +kernel
theorem dX10_init_45 : decode cX10_init 45 = .ok (.aload_n 0, 1) := by decide +kernel
theorem dX10_init_46 : decode cX10_init 46 = .ok (.ldc 15, 2) := by decide +kernel
theorem dX10_init_48 : decode cX10_init 48 = .ok (.newarray .int, 2) := by decide +kernel
theorem dX10_init_50 : decode cX10_init 50 = .ok (.putfield 29, 3) := by decide +kernel
theorem dX10_init_53 : decode cX10_init 53 = .ok (.aload_n 0, 1) := by decide +kernel
theorem dX10_init_54 : decode cX10_init 54 = .ok (.ldc 15, 2) := by decide +kernel
theorem dX10_init_56 : decode cX10_init 56 = .ok (.newarray .int, 2) := by decide +kernel
theorem dX10_init_58 : decode cX10_init 58 = .ok (.putfield 32, 3) := by decide +kernel
theorem dX10_init_61 : decode cX10_init 61 = .ok (.aload_n 0, 1) := by decide +kernel
theorem dX10_init_62 : decode cX10_init 62 = .ok (.ldc 15, 2) := by decide +kernel
theorem dX10_init_64 : decode cX10_init 64 = .ok (.newarray .int, 2) := by decide +kernel
theorem dX10_init_66 : decode cX10_init 66 = .ok (.putfield 35, 3) := by decide +kernel
theorem dX10_init_69 : decode cX10_init 69 = .ok (.aload_n 0, 1) := by decide +kernel
theorem dX10_init_70 : decode cX10_init 70 = .ok (.ldc 15, 2) := by decide +kernel
theorem dX10_init_72 : decode cX10_init 72 = .ok (.newarray .int, 2) := by decide +kernel
theorem dX10_init_74 : decode cX10_init 74 = .ok (.putfield 38, 3) := by decide +kernel
theorem dX10_init_77 : decode cX10_init 77 = .ok (.aload_n 0, 1) := by decide +kernel
theorem dX10_init_78 : decode cX10_init 78 = .ok (.iconst 1, 1) := by decide +kernel
theorem dX10_init_79 : decode cX10_init 79 = .ok (.putfield 41, 3) := by decide +kernel
theorem dX10_init_82 : decode cX10_init 82 = .ok (.aload_n 0, 1) := by decide +kernel
theorem dX10_init_83 : decode cX10_init 83 = .ok (.aload_n 1, 1) := by decide +kernel
theorem dX10_init_84 : decode cX10_init 84 = .ok (.putfield 45, 3) := by decide +kernel
theorem dX10_init_87 : decode cX10_init 87 = .ok (.aload_n 0, 1) := by decide +kernel
theorem dX10_init_88 : decode cX10_init 88 = .ok (.getfield 29, 3) := by decide +kernel
theorem dX10_init_91 : decode cX10_init 91 = .ok (.iconst 0, 1) := by decide +kernel
theorem dX10_init_92 : decode cX10_init 92 = .ok (.iconst 2, 1) := by decide +kernel
theorem dX10_init_93 : decode cX10_init 93 = .ok (.iastore, 1) := by decide +kernel
theorem dX10_init_94 : decode cX10_init 94 = .ok (.return_, 1) := by decide +kernel
theorem dX4_init_0 : decode cX4_init 0 = .ok (.aload_n 0, 1) := by decide +kernel
theorem dX4_init_1 : decode cX4_init 1 = .ok (.invokespecial 7, 3) := by decide +kernel
theorem dX4_init_4 : decode cX4_init 4 = .ok (.aload_n 0, 1) := by decide +kernel
theorem dX4_init_5 : decode cX4_init 5 = .ok (.ldc 15, 2) := by decide +kernel
theorem dX4_init_7 : decode cX4_init 7 = .ok (.newarray .int, 2) := by decide +kernel
theorem dX4_init_9 : decode cX4_init 9 = .ok (.putfield 16, 3) := by decide +kernel
theorem dX4_init_12 : decode cX4_init 12 = .ok (.aload_n 0, 1) := by decide +kernel
theorem dX4_init_13 : decode cX4_init 13 = .ok (.ldc 15, 2) := by decide +kernel
theorem dX4_init_15 : decode cX4_init 15 = .ok (.newarray .int, 2) := by decide +kernel
theorem dX4_init_17 : decode cX4_init 17 = .ok (.putfield 20, 3) := by decide +kernel
theorem dX4_init_20 : decode cX4_init 20 = .ok (.aload_n 0, 1) := by decide +kernel
theorem dX4_init_21 : decode cX4_init 21 = .ok (.ldc 15, 2) := by decide +kernel
theorem dX4_init_23 : decode cX4_init 23 = .ok (.newarray .int, 2) := by decide +kernel
theorem dX4_init_25 : decode cX4_init 25 = .ok (.putfield 23, 3) := by decide +kernel
theorem dX4_init_28 : decode cX4_init 28 = .ok (.aload_n 0, 1) := by decide +kernel
theorem dX4_init_29 : decode cX4_init 29 = .ok (.bipush 16, 2) := by decide +kernel
theorem dX4_init_31 : decode cX4_init 31 = .ok (.newarray .int, 2) := by decide +kernel
theorem dX4_init_33 : decode cX4_init 33 = .ok (.putfield 26, 3) := by decide +kernel
theorem dX4_init_36 : decode cX4_init 36 = .ok (.aload_n 0, 1) := by decide +kernel
theorem dX4_init_37 : decode cX4_init 37 = .ok (.iconst 4, 1) := by decide +kernel
theorem dX4_init_38 : decode cX4_init 38 = .ok (.newarray .long, 2) := by decide +kernel
theorem dX4_init_40 : decode cX4_init 40 = .ok (.putfield 29, 3) := by decide +kernel
theorem dX4_init_43 : decode cX4_init 43 = .ok (.aload_n 0, 1) := by decide +kernel
theorem dX4_init_44 : decode cX4_init 44 = .ok (.iconst 4, 1) := by decide +kernel
theorem dX4_init_45 : decode cX4_init 45 = .ok (.newarray .long, 2) := by decide +kernel
theorem dX4_init_47 : decode cX4_init 47 = .ok (.putfield 33, 3) := by decide +kernel
theorem dX4_init_50 : decode cX4_init 50 = .ok (.aload_n 0, 1) := by decide +kernel
theorem dX4_init_51 : decode cX4_init 51 = .ok (.aload_n 1, 1) := by decide +kernel
theorem dX4_init_52 : decode cX4_init 52 = .ok (.putfield 36, 3) := by decide +kernel
theorem dX4_init_55 : decode cX4_init 55 = .ok (.aload_n 0, 1) := by decide +kernel
theorem dX4_init_56 : decode cX4_init 56 = .ok (.aload_n 1, 1) := by decide +kernel
theorem dX4_init_57 : decode cX4_init 57 = .ok (.getfield 40, 3) := by decide +kernel
theorem dX4_init_60 : decode cX4_init 60 = .ok (.putfield 43, 3) := by decide +kernel
theorem dX4_init_63 : decode cX4_init 63 = .ok (.aload_n 0, 1) := by decide +kernel
theorem dX4_init_64 : decode cX4_init 64 = .ok (.new 46, 3) := by decide +kernel
theorem dX4_init_67 : decode cX4_init 67 = .ok (.dup, 1) := by decide +kernel
theorem dX4_init_68 : decode cX4_init 68 = .ok (.aload_n 1, 1) := by decide +kernel
theorem dX4_init_69 : decode cX4_init 69 = .ok (.getfield 48, 3) := by decide +kernel
theorem dX4_init_72 : decode cX4_init 72 = .ok (.iconst 0, 1) := by decide +kernel
theorem dX4_init_73 : decode cX4_init 73 = .ok (.invokespecial 52, 3) := by decide +kernel
theorem dX4_init_76 : decode cX4_init 76 = .ok (.putfield 55, 3) := by decide +kernel
theorem dX4_init_79 : decode cX4_init 79 = .ok (.return_, 1) := by decide +kernel
theorem dX8_init_0 : decode cX8_init 0 = .ok (.aload_n 0, 1) := by decide +kernel
theorem dX8_init_1 : decode cX8_init 1 = .ok (.invokespecial 7, 3) := by decide +kernel
theorem dX8_init_4 : decode cX8_init 4 = .ok (.aload_n 0, 1) := by decide +kernel
theorem dX8_init_5 : decode cX8_init 5 = .ok (.sipush 2048, 3) := by decide +kernel
theorem dX8_init_8 : decode cX8_init 8 = .ok (.newarray .int, 2) := by decide +kernel
theorem dX8_init_10 : decode cX8_init 10 = .ok (.putfield 15, 3) := by decide +kernel
theorem dX8_init_13 : decode cX8_init 13 = .ok (.aload_n 0, 1) := by decide +kernel
theorem dX8_init_14 : decode cX8_init 14 = .ok (.sipush 2048, 3) := by decide +kernel
theorem dX8_init_17 : decode cX8_init 17 = .ok (.newarray .long, 2) := by decide +kernel
theorem dX8_init_19 : decode cX8_init 19 = .ok (.putfield 19, 3) := by decide +kernel
theorem dX8_init_22 : decode cX8_init 22 = .ok (.aload_n 0, 1) := by decide +kernel
theorem dX8_init_23 : decode cX8_init 23 = .ok (.bipush 9, 2) := by decide +kernel
theorem dX8_init_25 : decode cX8_init 25 = .ok (.putfield 23, 3) := by decide +kernel
theorem dX8_init_28 : decode cX8_init 28 = .ok (.aload_n 0, 1) := by decide +kernel
theorem dX8_init_29 : decode cX8_init 29 = .ok (.iconst (-1), 1) := by decide +kernel
theorem dX8_init_30 : decode cX8_init 30 = .ok (.putfield 27, 3) := by decide +kernel
theorem dX8_init_33 : decode cX8_init 33 = .ok (.aload_n 0, 1) := by decide +kernel
theorem dX8_init_34 : decode cX8_init 34 = .ok (.bipush 32, 2) := by decide +kernel
theorem dX8_init_36 : decode cX8_init 36 = .ok (.newarray .char, 2) := by decide +kernel
theorem dX8_init_38 : decode cX8_init 38 = .ok (.putfield 30, 3) := by decide +kernel
theorem dX8_init_41 : decode cX8_init 41 = .ok (.aload_n 0, 1) := by decide +kernel
theorem dX8_init_42 : decode cX8_init 42 = .ok (.aload_n 1, 1) := by decide +kernel
theorem dX8_init_43 : decode cX8_init 43 = .ok (.putfield 34, 3) := by decide +kernel
theorem dX8_init_46 : decode cX8_init 46 = .ok (.aload_n 0, 1) := by decide +kernel
theorem dX8_init_47 : decode cX8_init 47 = .ok (.aload_n 1, 1) := by decide +kernel
theorem dX8_init_48 : decode cX8_init 48 = .ok (.getfield 38, 3) := by decide +kernel
theorem dX8_init_51 : decode cX8_init 51 = .ok (.putfield 44, 3) := by decide +kernel
theorem dX8_init_54 : decode cX8_init 54 = .ok (.aload_n 0, 1) := by decide +kernel
theorem dX8_init_55 : decode cX8_init 55 = .ok (.aload_n 1, 1) := by decide +kernel
theorem dX8_init_56 : decode cX8_init 56 = .ok (.getfield 38, 3) := by decide +kernel
theorem dX8_init_59 : decode cX8_init 59 = .ok (.getfield 45, 3) := by decide +kernel
theorem dX8_init_62 : decode cX8_init 62 = .ok (.putfield 51, 3) := by decide +kernel
theorem dX8_init_65 : decode cX8_init 65 = .ok (.aload_n 0, 1) := by decide +kernel
theorem dX8_init_66 : decode cX8_init 66 = .ok (.new 52, 3) := by decide +kernel
theorem dX8_init_69 : decode cX8_init 69 = .ok (.dup, 1) := by decide +kernel
theorem dX8_init_70 : decode cX8_init 70 = .ok (.aload_n 0, 1) := by decide +kernel
theorem dX8_init_71 : decode cX8_init 71 = .ok (.getfield 51, 3) := by decide +kernel
theorem dX8_init_74 : decode cX8_init 74 = .ok (.iconst 0, 1) := by decide +kernel
theorem dX8_init_75 : decode cX8_init 75 = .ok (.invokespecial 54, 3) := by decide +kernel
theorem dX8_init_78 : decode cX8_init 78 = .ok (.putfield 57, 3) := by decide +kernel
theorem dX8_init_81 : decode cX8_init 81 = .ok (.aload_n 0, 1) := by decide +kernel
theorem dX8_init_82 : decode cX8_init 82 = .ok (.new 52, 3) := by decide +kernel
theorem dX8_init_85 : decode cX8_init 85 = .ok (.dup, 1) := by decide +kernel
theorem dX8_init_86 : decode cX8_init 86 = .ok (.aload_n 0, 1) := by decide +kernel
theorem dX8_init_87 : decode cX8_init 87 = .ok (.getfield 51, 3) := by decide +kernel
theorem dX8_init_90 : decode cX8_init 90 = .ok (.iconst 0, 1) := by decide +kernel
theorem dX8_init_91 : decode cX8_init 91 = .ok (.invokespecial 54, 3) := by decide +kernel
theorem dX8_init_94 : decode cX8_init 94 = .ok (.putfield 61, 3) := by decide +kernel
theorem dX8_init_97 : decode cX8_init 97 = .ok (.return_, 1) := by decide +kernel
theorem dX2_init_0 : decode cX2_init 0 = .ok (.aload_n 0, 1) := by decide +kernel
theorem dX2_init_1 : decode cX2_init 1 = .ok (.invokespecial 7, 3) := by decide +kernel
theorem dX2_init_4 : decode cX2_init 4 = .ok (.aload_n 0, 1) := by decide +kernel
theorem dX2_init_5 : decode cX2_init 5 = .ok (.sipush 20480, 3) := by decide +kernel
theorem dX2_init_8 : decode cX2_init 8 = .ok (.newarray .int, 2) := by decide +kernel
theorem dX2_init_10 : decode cX2_init 10 = .ok (.putfield 13, 3) := by decide +kernel
theorem dX2_init_13 : decode cX2_init 13 = .ok (.aload_n 0, 1) := by decide +kernel
theorem dX2_init_14 : decode cX2_init 14 = .ok (.sipush 255, 3) := by decide +kernel
theorem dX2_init_17 : decode cX2_init 17 = .ok (.newarray .int, 2) := by decide +kernel
theorem dX2_init_19 : decode cX2_init 19 = .ok (.putfield 17, 3) := by decide +kernel
theorem dX2_init_22 : decode cX2_init 22 = .ok (.aload_n 0, 1) := by decide +kernel
theorem dX2_init_23 : decode cX2_init 23 = .ok (.ldc 22, 2) := by decide +kernel
theorem dX2_init_25 : decode cX2_init 25 = .ok (.newarray .int, 2) := by decide +kernel
theorem dX2_init_27 : decode cX2_init 27 = .ok (.putfield 23, 3) := by decide +kernel
theorem dX2_init_30 : decode cX2_init 30 = .ok (.aload_n 0, 1) := by decide +kernel
theorem dX2_init_31 : decode cX2_init 31 = .ok (.aload_n 1, 1) := by decide +kernel
theorem dX2_init_32 : decode cX2_init 32 = .ok (.putfield 26, 3) := by decide +kernel
theorem dX2_init_35 : decode cX2_init 35 = .ok (.aload_n 0, 1) := by decide +kernel
theorem dX2_init_36 : decode cX2_init 36 = .ok (.aload_n 2, 1) := by decide +kernel
theorem dX2_init_37 : decode cX2_init 37 = .ok (.putfield 30, 3) := by decide +kernel
theorem dX2_init_40 : decode cX2_init 40 = .ok (.aload_n 0, 1) := by decide +kernel
theorem dX2_init_41 : decode cX2_init 41 = .ok (.aload_n 1, 1) := by decide +kernel
theorem dX2_init_42 : decode cX2_init 42 = .ok (.getfield 34, 3) := by decide +kernel
theorem dX2_init_45 : decode cX2_init 45 = .ok (.putfield 38, 3) := by decide +kernel
theorem dX2_init_48 : decode cX2_init 48 = .ok (.aload_n 0, 1) := by decide +kernel
theorem dX2_init_49 : decode cX2_init 49 = .ok (.new 39, 3) := by decide +kernel
theorem dX2_init_52 : decode cX2_init 52 = .ok (.dup, 1) := by decide +kernel
theorem dX2_init_53 : decode cX2_init 53 = .ok (.aload_n 0, 1) := by decide +kernel
theorem dX2_init_54 : decode cX2_init 54 = .ok (.getfield 38, 3) := by decide +kernel
theorem dX2_init_57 : decode cX2_init 57 = .ok (.invokespecial 41, 3) := by decide +kernel
theorem dX2_init_60 : decode cX2_init 60 = .ok (.putfield 44, 3) := by decide +kernel
theorem dX2_init_63 : decode cX2_init 63 = .ok (.aload_n 0, 1) := by decide +kernel
theorem dX2_init_64 : decode cX2_init 64 = .ok (.new 48, 3) := by decide +kernel
theorem dX2_init_67 : decode cX2_init 67 = .ok (.dup, 1) := by decide +kernel
theorem dX2_init_68 : decode cX2_init 68 = .ok (.aload_n 0, 1) := by decide +kernel
theorem dX2_init_69 : decode cX2_init 69 = .ok (.getfield 38, 3) := by decide +kernel
theorem dX2_init_72 : decode cX2_init 72 = .ok (.iconst 0, 1) := by decide +kernel
theorem dX2_init_73 : decode cX2_init 73 = .ok (.invokespecial 50, 3) := by decide +kernel
theorem dX2_init_76 : decode cX2_init 76 = .ok (.putfield 53, 3) := by decide +kernel
theorem dX2_init_79 : decode cX2_init 79 = .ok (.aload_n 0, 1) := by decide +kernel
theorem dX2_init_80 : decode cX2_init 80 = .ok (.new 48, 3) := by decide +kernel
theorem dX2_init_83 : decode cX2_init 83 = .ok (.dup, 1) := by decide +kernel
theorem dX2_init_84 : decode cX2_init 84 = .ok (.aload_n 0, 1) := by decide +kernel
theorem dX2_init_85 : decode cX2_init 85 = .ok (.getfield 38, 3) := by decide +kernel
theorem dX2_init_88 : decode cX2_init 88 = .ok (.iconst 0, 1) := by decide +kernel
theorem dX2_init_89 : decode cX2_init 89 = .ok (.invokespecial 50, 3) := by decide +kernel
theorem dX2_init_92 : decode cX2_init 92 = .ok (.putfield 57, 3) := by decide +kernel
theorem dX2_init_95 : decode cX2_init 95 = .ok (.aload_n 0, 1) := by decide +kernel
theorem dX2_init_96 : decode cX2_init 96 = .ok (.aload_n 1, 1) := by decide +kernel
theorem dX2_init_97 : decode cX2_init 97 = .ok (.bipush 6, 2) := by decide +kernel
theorem dX2_init_99 : decode cX2_init 99 = .ok (.invokevirtual 60, 3) := by decide +kernel
theorem dX2_init_102 : decode cX2_init 102 = .ok (.putfield 64, 3) := by decide +kernel
theorem dX2_init_105 : decode cX2_init 105 = .ok (.return_, 1) := by decide +kernel
theorem dX7_init_0 : decode cX7_init 0 = .ok (.aload_n 0, 1) := by decide +kernel
theorem dX7_init_1 : decode cX7_init 1 = .ok (.invokespecial 3, 3) := by decide +kernel
theorem dX7_init_4 : decode cX7_init 4 = .ok (.aload_n 0, 1) := by decide +kernel
theorem dX7_init_5 : decode cX7_init 5 = .ok (.sipush 250, 3) := by decide +kernel
theorem dX7_init_8 : decode cX7_init 8 = .ok (.newarray .int, 2) := by decide +kernel
theorem dX7_init_10 : decode cX7_init 10 = .ok (.putfield 9, 3) := by decide +kernel
theorem dX7_init_13 : decode cX7_init 13 = .ok (.aload_n 0, 1) := by decide +kernel
theorem dX7_init_14 : decode cX7_init 14 = .ok (.aload_n 1, 1) := by decide +kernel
theorem dX7_init_15 : decode cX7_init 15 = .ok (.putfield 15, 3) := by decide +kernel
theorem dX7_init_18 : decode cX7_init 18 = .ok (.return_, 1) := by decide +kernel
theorem dX10_newSlots_0 : decode cX10_newSlots 0 = .ok (.aload_n 0, 1) := by decide +kernel
theorem dX10_newSlots_1 : decode cX10_newSlots 1 = .ok (.getfield 49, 3) := by decide +kernel
theorem dX10_newSlots_4 : decode cX10_newSlots 4 = .ok (.istore_n 2, 1) := by decide +kernel
theorem dX10_newSlots_5 : decode cX10_newSlots 5 = .ok (.aload_n 0, 1) := by decide +kernel
theorem dX10_newSlots_6 : decode cX10_newSlots 6 = .ok (.dup, 1) := by decide +kernel
theorem dX10_newSlots_7 : decode cX10_newSlots 7 = .ok (.getfield 49, 3) := by decide +kernel
theorem dX10_newSlots_10 : decode cX10_newSlots 10 = .ok (.iload_n 1, 1) := by decide +kernel
theorem dX10_newSlots_11 : decode cX10_newSlots 11 = .ok (.iadd, 1) := by decide +kernel
theorem dX10_newSlots_12 : decode cX10_newSlots 12 = .ok (.putfield 49, 3) := by decide +kernel
theorem dX10_newSlots_15 : decode cX10_newSlots 15 = .ok (.iload_n 2, 1) := by decide +kernel
theorem dX10_newSlots_16 : decode cX10_newSlots 16 = .ok (.ireturn, 1) := by decide +kernel
theorem dX0_init_0 : decode cX0_init 0 = .ok (.aload_n 0, 1) := by decide +kernel
theorem dX0_init_1 : decode cX0_init 1 = .ok (.invokespecial 5, 3) := by decide +kernel
theorem dX0_init_4 : decode cX0_init 4 = .ok (.aload_n 0, 1) := by decide +kernel
theorem dX0_init_5 : decode cX0_init 5 = .ok (.iload_n 1, 1) := by decide +kernel
theorem dX0_init_6 : decode cX0_init 6 = .ok (.putfield 11, 3) := by decide +kernel
theorem dX0_init_9 : decode cX0_init 9 = .ok (.aload_n 0, 1) := by decide +kernel
theorem dX0_init_10 : decode cX0_init 10 = .ok (.aload_n 2, 1) := by decide +kernel
theorem dX0_init_11 : decode cX0_init 11 = .ok (.putfield 15, 3) := by decide +kernel
theorem dX0_init_14 : decode cX0_init 14 = .ok (.aload_n 0, 1) := by decide +kernel
theorem dX0_init_15 : decode cX0_init 15 = .ok (.aload_n 2, 1) := by decide +kernel
theorem dX0_init_16 : decode cX0_init 16 = .ok (.bipush 43, 2) := by decide +kernel
theorem dX0_init_18 : decode cX0_init 18 = .ok (.invokevirtual 19, 3) := by decide +kernel
theorem dX0_init_21 : decode cX0_init 21 = .ok (.putfield 25, 3) := by decide +kernel
theorem dX0_init_24 : decode cX0_init 24 = .ok (.return_, 1) := by decide +kernel
theorem dX6_init_0 : decode cX6_init 0 = .ok (.aload_n 0, 1) := by decide +kernel
theorem dX6_init_1 : decode cX6_init 1 = .ok (.invokespecial 3, 3) := by decide +kernel
theorem dX6_init_4 : decode cX6_init 4 = .ok (.aload_n 0, 1) := by decide +kernel
theorem dX6_init_5 : decode cX6_init 5 = .ok (.bipush 40, 2) := by decide +kernel
theorem dX6_init_7 : decode cX6_init 7 = .ok (.newarray .long, 2) := by decide +kernel
theorem dX6_init_9 : decode cX6_init 9 = .ok (.putfield 9, 3) := by decide +kernel
theorem dX6_init_12 : decode cX6_init 12 = .ok (.aload_n 0, 1) := by decide +kernel
theorem dX6_init_13 : decode cX6_init 13 = .ok (.iconst (-1), 1) := by decide +kernel
theorem dX6_init_14 : decode cX6_init 14 = .ok (.putfield 15, 3) := by decide +kernel
theorem dX6_init_17 : decode cX6_init 17 = .ok (.return_, 1) := by decide +kernel
theorem dX3_init_0 : decode cX3_init 0 = .ok (.aload_n 0, 1) := by decide +kernel
theorem dX3_init_1 : decode cX3_init 1 = .ok (.invokespecial 3, 3) := by decide +kernel
theorem dX3_init_4 : decode cX3_init 4 = .ok (.aload_n 0, 1) := by decide +kernel
theorem dX3_init_5 : decode cX3_init 5 = .ok (.iconst 4, 1) := by decide +kernel
theorem dX3_init_6 : decode cX3_init 6 = .ok (.anewarray 9, 3) := by decide +kernel
theorem dX3_init_9 : decode cX3_init 9 = .ok (.putfield 11, 3) := by decide +kernel
theorem dX3_init_12 : decode cX3_init 12 = .ok (.aload_n 0, 1) := by decide +kernel
theorem dX3_init_13 : decode cX3_init 13 = .ok (.iconst 1, 1) := by decide +kernel
theorem dX3_init_14 : decode cX3_init 14 = .ok (.putfield 17, 3) := by decide +kernel
theorem dX3_init_17 : decode cX3_init 17 = .ok (.aload_n 0, 1) := by decide +kernel
theorem dX3_init_18 : decode cX3_init 18 = .ok (.aload_n 1, 1) := by decide +kernel
theorem dX3_init_19 : decode cX3_init 19 = .ok (.putfield 21, 3) := by decide +kernel
theorem dX3_init_22 : decode cX3_init 22 = .ok (.aload_n 0, 1) := by decide +kernel
theorem dX3_init_23 : decode cX3_init 23 = .ok (.iload_n 2, 1) := by decide +kernel
theorem dX3_init_24 : decode cX3_init 24 = .ok (.putfield 25, 3) := by decide +kernel
theorem dX3_init_27 : decode cX3_init 27 = .ok (.aload_n 0, 1) := by decide +kernel
theorem dX3_init_28 : decode cX3_init 28 = .ok (.aload_n 3, 1) := by decide +kernel
theorem dX3_init_29 : decode cX3_init 29 = .ok (.putfield 28, 3) := by decide +kernel
theorem dX3_init_32 : decode cX3_init 32 = .ok (.aload_n 0, 1) := by decide +kernel
theorem dX3_init_33 : decode cX3_init 33 = .ok (.aload_n 1, 1) := by decide +kernel
theorem dX3_init_34 : decode cX3_init 34 = .ok (.iconst 1, 1) := by decide +kernel
theorem dX3_init_35 : decode cX3_init 35 = .ok (.invokevirtual 32, 3) := by decide +kernel
theorem dX3_init_38 : decode cX3_init 38 = .ok (.putfield 38, 3) := by decide +kernel
theorem dX3_init_41 : decode cX3_init 41 = .ok (.iconst 0, 1) := by decide +kernel
theorem dX3_init_42 : decode cX3_init 42 = .ok (.istore 4, 2) := by decide +kernel
theorem dX3_init_44 : decode cX3_init 44 = .ok (.iload 4, 2) := by decide +kernel
theorem dX3_init_46 : decode cX3_init 46 = .ok (.aload_n 0, 1) := by decide +kernel
theorem dX3_init_47 : decode cX3_init 47 = .ok (.getfield 11, 3) := by decide +kernel
theorem dX3_init_50 : decode cX3_init 50 = .ok (.arraylength, 1) := by decide +kernel
theorem dX3_init_51 : decode cX3_init 51 = .ok (.if_icmp .ge 26, 3) := by decide +kernel
theorem dX3_init_54 : decode cX3_init 54 = .ok (.aload_n 0, 1) := by decide +kernel
theorem dX3_init_55 : decode cX3_init 55 = .ok (.getfield 11, 3) := by decide +kernel
theorem dX3_init_58 : decode cX3_init 58 = .ok (.iload 4, 2) := by decide +kernel
theorem dX3_init_60 : decode cX3_init 60 = .ok (.new 9, 3) := by decide +kernel
theorem dX3_init_63 : decode cX3_init 63 = .ok (.dup, 1) := by decide +kernel
theorem dX3_init_64 : decode cX3_init 64 = .ok (.iload 4, 2) := by decide +kernel
theorem dX3_init_66 : decode cX3_init 66 = .ok (.aload_n 1, 1) := by decide +kernel
theorem dX3_init_67 : decode cX3_init 67 = .ok (.invokespecial 41, 3) := by decide +kernel
theorem dX3_init_70 : decode cX3_init 70 = .ok (.aastore, 1) := by decide +kernel
theorem dX3_init_71 : decode cX3_init 71 = .ok (.iinc 4 1, 3) := by decide +kernel
theorem dX3_init_74 : decode cX3_init 74 = .ok (.goto (-30), 3) := by decide +kernel
theorem dX3_init_77 : decode cX3_init 77 = .ok (.return_, 1) := by decide +kernel
theorem dX12_in_0 : decode cX12_in 0 = .ok (.lload_n 0, 1) := by decide +kernel
theorem dX12_in_1 : decode cX12_in 1 = .ok (.lload_n 2, 1) := by decide +kernel
theorem dX12_in_2 : decode cX12_in 2 = .ok (.lcmp, 1) := by decide +kernel
theorem dX12_in_3 : decode cX12_in 3 = .ok (.ifCond .lt 14, 3) := by decide +kernel
theorem dX12_in_6 : decode cX12_in 6 = .ok (.lload_n 0, 1) := by decide +kernel
theorem dX12_in_7 : decode cX12_in 7 = .ok (.lload 4, 2) := by decide +kernel
theorem dX12_in_9 : decode cX12_in 9 = .ok (.lcmp, 1) := by decide +kernel
theorem dX12_in_10 : decode cX12_in 10 = .ok (.ifCond .gt 7, 3) := by decide +kernel
theorem dX12_in_13 : decode cX12_in 13 = .ok (.iconst 1, 1) := by decide +kernel
theorem dX12_in_14 : decode cX12_in 14 = .ok (.goto 4, 3) := by decide +kernel
theorem dX12_in_17 : decode cX12_in 17 = .ok (.iconst 0, 1) := by decide +kernel
theorem dX12_in_18 : decode cX12_in 18 = .ok (.ireturn, 1) := by decide +kernel
theorem dX12_refused_0 : decode cX12_refused 0 = .ok (.aload_n 0, 1) := by decide +kernel
theorem dX12_refused_1 : decode cX12_refused 1 = .ok (.getfield 37, 3) := by decide +kernel
theorem dX12_refused_4 : decode cX12_refused 4 = .ok (.iload_n 1, 1) := by decide +kernel
theorem dX12_refused_5 : decode cX12_refused 5 = .ok (.ineg, 1) := by decide +kernel
theorem dX12_refused_6 : decode cX12_refused 6 = .ok (.dup2, 1) := by decide +kernel
theorem dX12_refused_7 : decode cX12_refused 7 = .ok (.iaload, 1) := by decide +kernel
theorem dX12_refused_8 : decode cX12_refused 8 = .ok (.iconst 1, 1) := by decide +kernel
theorem dX12_refused_9 : decode cX12_refused 9 = .ok (.iadd, 1) := by decide +kernel
theorem dX12_refused_10 : decode cX12_refused 10 = .ok (.iastore, 1) := by decide +kernel
theorem dX12_refused_11 : decode cX12_refused 11 = .ok (.iload_n 1, 1) := by decide +kernel
theorem dX12_refused_12 : decode cX12_refused 12 = .ok (.ireturn, 1) := by decide +kernel
theorem dX12_draw_0 : decode cX12_draw 0 = .ok (.aload_n 0, 1) := by decide +kernel
theorem dX12_draw_1 : decode cX12_draw 1 = .ok (.getfield 34, 3) := by decide +kernel
theorem dX12_draw_4 : decode cX12_draw 4 = .ok (.iconst 1, 1) := by decide +kernel
theorem dX12_draw_5 : decode cX12_draw 5 = .ok (.aload_n 0, 1) := by decide +kernel
theorem dX12_draw_6 : decode cX12_draw 6 = .ok (.getfield 34, 3) := by decide +kernel
theorem dX12_draw_9 : decode cX12_draw 9 = .ok (.iconst 1, 1) := by decide +kernel
theorem dX12_draw_10 : decode cX12_draw 10 = .ok (.iaload, 1) := by decide +kernel
theorem dX12_draw_11 : decode cX12_draw 11 = .ok (.ldc_w 346, 3) := by decide +kernel
theorem dX12_draw_14 : decode cX12_draw 14 = .ok (.imul, 1) := by decide +kernel
theorem dX12_draw_15 : decode cX12_draw 15 = .ok (.sipush 12345, 3) := by decide +kernel
theorem dX12_draw_18 : decode cX12_draw 18 = .ok (.iadd, 1) := by decide +kernel
theorem dX12_draw_19 : decode cX12_draw 19 = .ok (.iastore, 1) := by decide +kernel
theorem dX12_draw_20 : decode cX12_draw 20 = .ok (.aload_n 0, 1) := by decide +kernel
theorem dX12_draw_21 : decode cX12_draw 21 = .ok (.getfield 34, 3) := by decide +kernel
theorem dX12_draw_24 : decode cX12_draw 24 = .ok (.iconst 1, 1) := by decide +kernel
theorem dX12_draw_25 : decode cX12_draw 25 = .ok (.iaload, 1) := by decide +kernel
theorem dX12_draw_26 : decode cX12_draw 26 = .ok (.bipush 16, 2) := by decide +kernel
theorem dX12_draw_28 : decode cX12_draw 28 = .ok (.iushr, 1) := by decide +kernel
theorem dX12_draw_29 : decode cX12_draw 29 = .ok (.iload_n 1, 1) := by decide +kernel
theorem dX12_draw_30 : decode cX12_draw 30 = .ok (.irem, 1) := by decide +kernel
theorem dX12_draw_31 : decode cX12_draw 31 = .ok (.ireturn, 1) := by decide +kernel
theorem dX12_isDay_0 : decode cX12_isDay 0 = .ok (.aload_n 0, 1) := by decide +kernel
theorem dX12_isDay_1 : decode cX12_isDay 1 = .ok (.getfield 25, 3) := by decide +kernel
theorem dX12_isDay_4 : decode cX12_isDay 4 = .ok (.iload_n 1, 1) := by decide +kernel
theorem dX12_isDay_5 : decode cX12_isDay 5 = .ok (.iaload, 1) := by decide +kernel
theorem dX12_isDay_6 : decode cX12_isDay 6 = .ok (.istore_n 3, 1) := by decide +kernel
theorem dX12_isDay_7 : decode cX12_isDay 7 = .ok (.iload_n 2, 1) := by decide +kernel
theorem dX12_isDay_8 : decode cX12_isDay 8 = .ok (.iconst 3, 1) := by decide +kernel
theorem dX12_isDay_9 : decode cX12_isDay 9 = .ok (.if_icmp .ge 38, 3) := by decide +kernel
theorem dX12_isDay_12 : decode cX12_isDay 12 = .ok (.iload_n 3, 1) := by decide +kernel
theorem dX12_isDay_13 : decode cX12_isDay 13 = .ok (.bipush 60, 2) := by decide +kernel
theorem dX12_isDay_15 : decode cX12_isDay 15 = .ok (.if_icmp .lt 5, 3) := by decide +kernel
theorem dX12_isDay_20 : decode cX12_isDay 20 = .ok (.aload_n 0, 1) := by decide +kernel
theorem dX12_isDay_21 : decode cX12_isDay 21 = .ok (.bipush 26, 2) := by decide +kernel
theorem dX12_isDay_23 : decode cX12_isDay 23 = .ok (.invokevirtual 347, 3) := by decide +kernel
theorem dX12_isDay_26 : decode cX12_isDay 26 = .ok (.istore 4, 2) := by decide +kernel
theorem dX12_isDay_28 : decode cX12_isDay 28 = .ok (.aload_n 0, 1) := by decide +kernel
theorem dX12_isDay_29 : decode cX12_isDay 29 = .ok (.iload_n 1, 1) := by decide +kernel
theorem dX12_isDay_30 : decode cX12_isDay 30 = .ok (.aload_n 0, 1) := by decide +kernel
theorem dX12_isDay_31 : decode cX12_isDay 31 = .ok (.iload_n 3, 1) := by decide +kernel
theorem dX12_isDay_32 : decode cX12_isDay 32 = .ok (.iconst 1, 1) := by decide +kernel
theorem dX12_isDay_33 : decode cX12_isDay 33 = .ok (.iadd, 1) := by decide +kernel
theorem dX12_isDay_34 : decode cX12_isDay 34 = .ok (.invokevirtual 347, 3) := by decide +kernel
theorem dX12_isDay_37 : decode cX12_isDay 37 = .ok (.ldc 110, 2) := by decide +kernel
theorem dX12_isDay_39 : decode cX12_isDay 39 = .ok (.iload 4, 2) := by decide +kernel
theorem dX12_isDay_41 : decode cX12_isDay 41 = .ok (.ior, 1) := by decide +kernel
theorem dX12_isDay_42 : decode cX12_isDay 42 = .ok (.invokevirtual 290, 3) := by decide +kernel
theorem dX12_isDay_45 : decode cX12_isDay 45 = .ok (.iconst 1, 1) := by decide +kernel
theorem dX12_isDay_46 : decode cX12_isDay 46 = .ok (.ireturn, 1) := by decide +kernel
theorem dX12_isDay_47 : decode cX12_isDay 47 = .ok (.iload_n 2, 1) := by decide +kernel
theorem dX12_isDay_48 : decode cX12_isDay 48 = .ok (.iconst 5, 1) := by decide +kernel
theorem dX12_isDay_49 : decode cX12_isDay 49 = .ok (.if_icmp .ge 54, 3) := by decide +kernel
theorem dX12_isDay_52 : decode cX12_isDay 52 = .ok (.iload_n 3, 1) := by decide +kernel
theorem dX12_isDay_53 : decode cX12_isDay 53 = .ok (.ifCond .ne 5, 3) := by decide +kernel
theorem dX12_isDay_56 : decode cX12_isDay 56 = .ok (.iconst 0, 1) := by decide +kernel
theorem dX12_isDay_57 : decode cX12_isDay 57 = .ok (.ireturn, 1) := by decide +kernel
theorem dX12_isDay_58 : decode cX12_isDay 58 = .ok (.aload_n 0, 1) := by decide +kernel
theorem dX12_isDay_59 : decode cX12_isDay 59 = .ok (.iload_n 3, 1) := by decide +kernel
theorem dX12_isDay_60 : decode cX12_isDay 60 = .ok (.invokevirtual 347, 3) := by decide +kernel
theorem dX12_isDay_63 : decode cX12_isDay 63 = .ok (.istore 4, 2) := by decide +kernel
theorem dX12_isDay_65 : decode cX12_isDay 65 = .ok (.aload_n 0, 1) := by decide +kernel
theorem dX12_isDay_66 : decode cX12_isDay 66 = .ok (.iload_n 1, 1) := by decide +kernel
theorem dX12_isDay_67 : decode cX12_isDay 67 = .ok (.iload 4, 2) := by decide +kernel
theorem dX12_isDay_69 : decode cX12_isDay 69 = .ok (.iconst 1, 1) := by decide +kernel
theorem dX12_isDay_70 : decode cX12_isDay 70 = .ok (.iload_n 2, 1) := by decide +kernel
theorem dX12_isDay_71 : decode cX12_isDay 71 = .ok (.iconst 3, 1) := by decide +kernel
theorem dX12_isDay_72 : decode cX12_isDay 72 = .ok (.if_icmp .ne 8, 3) := by decide +kernel
theorem dX12_isDay_75 : decode cX12_isDay 75 = .ok (.ldc 109, 2) := by decide +kernel
theorem dX12_isDay_77 : decode cX12_isDay 77 = .ok (.goto 14, 3) := by decide +kernel
theorem dX12_isDay_80 : decode cX12_isDay 80 = .ok (.ldc 126, 2) := by decide +kernel
theorem dX12_isDay_82 : decode cX12_isDay 82 = .ok (.bipush 16, 2) := by decide +kernel
theorem dX12_isDay_84 : decode cX12_isDay 84 = .ok (.aload_n 0, 1) := by decide +kernel
theorem dX12_isDay_85 : decode cX12_isDay 85 = .ok (.iconst 4, 1) := by decide +kernel
theorem dX12_isDay_86 : decode cX12_isDay 86 = .ok (.invokevirtual 347, 3) := by decide +kernel
theorem dX12_isDay_89 : decode cX12_isDay 89 = .ok (.ishl, 1) := by decide +kernel
theorem dX12_isDay_90 : decode cX12_isDay 90 = .ok (.ior, 1) := by decide +kernel
theorem dX12_isDay_91 : decode cX12_isDay 91 = .ok (.invokevirtual 297, 3) := by decide +kernel
theorem dX12_isDay_94 : decode cX12_isDay 94 = .ok (.aload_n 0, 1) := by decide +kernel
theorem dX12_isDay_95 : decode cX12_isDay 95 = .ok (.iload_n 1, 1) := by decide +kernel
theorem dX12_isDay_96 : decode cX12_isDay 96 = .ok (.iconst 4, 1) := by decide +kernel
theorem dX12_isDay_97 : decode cX12_isDay 97 = .ok (.iconst 1, 1) := by decide +kernel
theorem dX12_isDay_98 : decode cX12_isDay 98 = .ok (.invokevirtual 283, 3) := by decide +kernel
theorem dX12_isDay_101 : decode cX12_isDay 101 = .ok (.iconst 1, 1) := by decide +kernel
theorem dX12_isDay_102 : decode cX12_isDay 102 = .ok (.ireturn, 1) := by decide +kernel
theorem dX12_isDay_103 : decode cX12_isDay 103 = .ok (.iload_n 2, 1) := by decide +kernel
theorem dX12_isDay_104 : decode cX12_isDay 104 = .ok (.iconst 5, 1) := by decide +kernel
theorem dX12_isDay_105 : decode cX12_isDay 105 = .ok (.if_icmp .ne 18, 3) := by decide +kernel
theorem dX12_isDay_108 : decode cX12_isDay 108 = .ok (.aload_n 0, 1) := by decide +kernel
theorem dX12_isDay_109 : decode cX12_isDay 109 = .ok (.iload_n 1, 1) := by decide +kernel
theorem dX12_isDay_110 : decode cX12_isDay 110 = .ok (.iconst 4, 1) := by decide +kernel
theorem dX12_isDay_111 : decode cX12_isDay 111 = .ok (.invokevirtual 312, 3) := by decide +kernel
theorem dX12_isDay_114 : decode cX12_isDay 114 = .ok (.ifCond .ne 7, 3) := by decide +kernel
theorem dX12_isDay_117 : decode cX12_isDay 117 = .ok (.iconst 1, 1) := by decide +kernel
theorem dX12_isDay_118 : decode cX12_isDay 118 = .ok (.goto 4, 3) := by decide +kernel
theorem dX12_isDay_122 : decode cX12_isDay 122 = .ok (.ireturn, 1) := by decide +kernel
theorem dX12_isDay_123 : decode cX12_isDay 123 = .ok (.iload_n 2, 1) := by decide +kernel
theorem dX12_isDay_124 : decode cX12_isDay 124 = .ok (.bipush 6, 2) := by decide +kernel
theorem dX12_isDay_126 : decode cX12_isDay 126 = .ok (.if_icmp .ne 50, 3) := by decide +kernel
theorem dX12_isDay_129 : decode cX12_isDay 129 = .ok (.aload_n 0, 1) := by decide +kernel
theorem dX12_isDay_130 : decode cX12_isDay 130 = .ok (.iload_n 1, 1) := by decide +kernel
theorem dX12_isDay_131 : decode cX12_isDay 131 = .ok (.iconst 1, 1) := by decide +kernel
theorem dX12_isDay_132 : decode cX12_isDay 132 = .ok (.invokevirtual 135, 3) := by decide +kernel
theorem dX12_isDay_135 : decode cX12_isDay 135 = .ok (.iconst 1, 1) := by decide +kernel
theorem dX12_isDay_136 : decode cX12_isDay 136 = .ok (.if_icmp .ne 18, 3) := by decide +kernel
theorem dX12_isDay_139 : decode cX12_isDay 139 = .ok (.aload_n 0, 1) := by decide +kernel
theorem dX12_isDay_140 : decode cX12_isDay 140 = .ok (.getfield 34, 3) := by decide +kernel
theorem dX12_isDay_143 : decode cX12_isDay 143 = .ok (.iconst 0, 1) := by decide +kernel
theorem dX12_isDay_144 : decode cX12_isDay 144 = .ok (.iaload, 1) := by decide +kernel
theorem dX12_isDay_145 : decode cX12_isDay 145 = .ok (.bipush 90, 2) := by decide +kernel
theorem dX12_isDay_147 : decode cX12_isDay 147 = .ok (.if_icmp .ge 7, 3) := by decide +kernel
theorem dX12_isDay_150 : decode cX12_isDay 150 = .ok (.iconst 1, 1) := by decide +kernel
theorem dX12_isDay_151 : decode cX12_isDay 151 = .ok (.goto 4, 3) := by decide +kernel
theorem dX12_isDay_154 : decode cX12_isDay 154 = .ok (.iconst 0, 1) := by decide +kernel
theorem dX12_isDay_155 : decode cX12_isDay 155 = .ok (.istore 4, 2) := by decide +kernel
theorem dX12_isDay_157 : decode cX12_isDay 157 = .ok (.iload 4, 2) := by decide +kernel
theorem dX12_isDay_159 : decode cX12_isDay 159 = .ok (.ifCond .eq 11, 3) := by decide +kernel
theorem dX12_isDay_162 : decode cX12_isDay 162 = .ok (.aload_n 0, 1) := by decide +kernel
theorem dX12_isDay_163 : decode cX12_isDay 163 = .ok (.iload_n 1, 1) := by decide +kernel
theorem dX12_isDay_164 : decode cX12_isDay 164 = .ok (.invokevirtual 300, 3) := by decide +kernel
theorem dX12_isDay_167 : decode cX12_isDay 167 = .ok (.goto 4, 3) := by decide +kernel
theorem dX12_isDay_170 : decode cX12_isDay 170 = .ok (.iconst 0, 1) := by decide +kernel
theorem dX12_isDay_171 : decode cX12_isDay 171 = .ok (.istore 5, 2) := by decide +kernel
theorem dX12_isDay_173 : decode cX12_isDay 173 = .ok (.iload 4, 2) := by decide +kernel
theorem dX12_isDay_175 : decode cX12_isDay 175 = .ok (.ireturn, 1) := by decide +kernel
theorem dX12_isDay_176 : decode cX12_isDay 176 = .ok (.aload_n 0, 1) := by decide +kernel
theorem dX12_isDay_177 : decode cX12_isDay 177 = .ok (.iload_n 1, 1) := by decide +kernel
theorem dX12_isDay_178 : decode cX12_isDay 178 = .ok (.iconst 0, 1) := by decide +kernel
theorem dX12_isDay_179 : decode cX12_isDay 179 = .ok (.invokevirtual 135, 3) := by decide +kernel
theorem dX12_isDay_182 : decode cX12_isDay 182 = .ok (.aload_n 0, 1) := by decide +kernel
theorem dX12_isDay_183 : decode cX12_isDay 183 = .ok (.getfield 34, 3) := by decide +kernel
theorem dX12_isDay_186 : decode cX12_isDay 186 = .ok (.iconst 0, 1) := by decide +kernel
theorem dX12_isDay_187 : decode cX12_isDay 187 = .ok (.iaload, 1) := by decide +kernel
theorem dX12_isDay_188 : decode cX12_isDay 188 = .ok (.if_icmp .ne 5, 3) := by decide +kernel
theorem dX12_isDay_191 : decode cX12_isDay 191 = .ok (.iconst 0, 1) := by decide +kernel
theorem dX12_isDay_192 : decode cX12_isDay 192 = .ok (.ireturn, 1) := by decide +kernel
theorem dX12_isDay_193 : decode cX12_isDay 193 = .ok (.aload_n 0, 1) := by decide +kernel
theorem dX12_isDay_194 : decode cX12_isDay 194 = .ok (.iload_n 1, 1) := by decide +kernel
theorem dX12_isDay_195 : decode cX12_isDay 195 = .ok (.invokevirtual 303, 3) := by decide +kernel
theorem dX12_isDay_198 : decode cX12_isDay 198 = .ok (.iconst 1, 1) := by decide +kernel
theorem dX12_isDay_199 : decode cX12_isDay 199 = .ok (.ireturn, 1) := by decide +kernel
theorem dX11_refuse_0 : decode cX11_refuse 0 = .ok (.bipush (-2), 2) := by decide +kernel
theorem dX11_refuse_2 : decode cX11_refuse 2 = .ok (.iload_n 1, 1) := by decide +kernel
theorem dX11_refuse_3 : decode cX11_refuse 3 = .ok (.isub, 1) := by decide +kernel
theorem dX11_refuse_4 : decode cX11_refuse 4 = .ok (.istore_n 2, 1) := by decide +kernel
theorem dX11_refuse_5 : decode cX11_refuse 5 = .ok (.iload_n 2, 1) := by decide +kernel
theorem dX11_refuse_6 : decode cX11_refuse 6 = .ok (.ifCond .lt 22, 3) := by decide +kernel
theorem dX11_refuse_9 : decode cX11_refuse 9 = .ok (.iload_n 2, 1) := by decide +kernel
theorem dX11_refuse_10 : decode cX11_refuse 10 = .ok (.aload_n 0, 1) := by decide +kernel
theorem dX11_refuse_11 : decode cX11_refuse 11 = .ok (.getfield 79, 3) := by decide +kernel
theorem dX11_refuse_14 : decode cX11_refuse 14 = .ok (.arraylength, 1) := by decide +kernel
theorem dX11_refuse_15 : decode cX11_refuse 15 = .ok (.if_icmp .ge 13, 3) := by decide +kernel
theorem dX11_refuse_18 : decode cX11_refuse 18 = .ok (.aload_n 0, 1) := by decide +kernel
theorem dX11_refuse_19 : decode cX11_refuse 19 = .ok (.getfield 79, 3) := by decide +kernel
theorem dX11_refuse_22 : decode cX11_refuse 22 = .ok (.iload_n 2, 1) := by decide +kernel
theorem dX11_refuse_23 : decode cX11_refuse 23 = .ok (.dup2, 1) := by decide +kernel
theorem dX11_refuse_24 : decode cX11_refuse 24 = .ok (.iaload, 1) := by decide +kernel
theorem dX11_refuse_25 : decode cX11_refuse 25 = .ok (.iconst 1, 1) := by decide +kernel
theorem dX11_refuse_26 : decode cX11_refuse 26 = .ok (.iadd, 1) := by decide +kernel
theorem dX11_refuse_27 : decode cX11_refuse 27 = .ok (.iastore, 1) := by decide +kernel
theorem dX11_refuse_28 : decode cX11_refuse 28 = .ok (.iload_n 1, 1) := by decide +kernel
theorem dX11_refuse_29 : decode cX11_refuse 29 = .ok (.ireturn, 1) := by decide +kernel
theorem dX3_draw_0 : decode cX3_draw 0 = .ok (.aload_n 0, 1) := by decide +kernel
theorem dX3_draw_1 : decode cX3_draw 1 = .ok (.aload_n 0, 1) := by decide +kernel
theorem dX3_draw_2 : decode cX3_draw 2 = .ok (.getfield 17, 3) := by decide +kernel
theorem dX3_draw_5 : decode cX3_draw 5 = .ok (.ldc 91, 2) := by decide +kernel
theorem dX3_draw_7 : decode cX3_draw 7 = .ok (.imul, 1) := by decide +kernel
theorem dX3_draw_8 : decode cX3_draw 8 = .ok (.sipush 12345, 3) := by decide +kernel
theorem dX3_draw_11 : decode cX3_draw 11 = .ok (.iadd, 1) := by decide +kernel
theorem dX3_draw_12 : decode cX3_draw 12 = .ok (.putfield 17, 3) := by decide +kernel
theorem dX3_draw_15 : decode cX3_draw 15 = .ok (.lload_n 1, 1) := by decide +kernel
theorem dX3_draw_16 : decode cX3_draw 16 = .ok (.lconst 0, 1) := by decide +kernel
theorem dX3_draw_17 : decode cX3_draw 17 = .ok (.lcmp, 1) := by decide +kernel
theorem dX3_draw_18 : decode cX3_draw 18 = .ok (.ifCond .le 16, 3) := by decide +kernel
theorem dX3_draw_21 : decode cX3_draw 21 = .ok (.aload_n 0, 1) := by decide +kernel
theorem dX3_draw_22 : decode cX3_draw 22 = .ok (.getfield 17, 3) := by decide +kernel
theorem dX3_draw_25 : decode cX3_draw 25 = .ok (.bipush 16, 2) := by decide +kernel
theorem dX3_draw_27 : decode cX3_draw 27 = .ok (.iushr, 1) := by decide +kernel
theorem dX3_draw_28 : decode cX3_draw 28 = .ok (.i2l, 1) := by decide +kernel
theorem dX3_draw_29 : decode cX3_draw 29 = .ok (.lload_n 1, 1) := by decide +kernel
theorem dX3_draw_30 : decode cX3_draw 30 = .ok (.lrem, 1) := by decide +kernel
theorem dX3_draw_31 : decode cX3_draw 31 = .ok (.goto 4, 3) := by decide +kernel
theorem dX3_draw_35 : decode cX3_draw 35 = .ok (.lreturn, 1) := by decide +kernel
theorem dX3_clientAt_0 : decode cX3_clientAt 0 = .ok (.iload_n 1, 1) := by decide +kernel
theorem dX3_clientAt_1 : decode cX3_clientAt 1 = .ok (.ifCond .lt 21, 3) := by decide +kernel
theorem dX3_clientAt_4 : decode cX3_clientAt 4 = .ok (.iload_n 1, 1) := by decide +kernel
theorem dX3_clientAt_5 : decode cX3_clientAt 5 = .ok (.aload_n 0, 1) := by decide +kernel
theorem dX3_clientAt_6 : decode cX3_clientAt 6 = .ok (.getfield 11, 3) := by decide +kernel
theorem dX3_clientAt_9 : decode cX3_clientAt 9 = .ok (.arraylength, 1) := by decide +kernel
theorem dX3_clientAt_10 : decode cX3_clientAt 10 = .ok (.if_icmp .ge 12, 3) := by decide +kernel
theorem dX3_clientAt_13 : decode cX3_clientAt 13 = .ok (.aload_n 0, 1) := by decide +kernel
theorem dX3_clientAt_14 : decode cX3_clientAt 14 = .ok (.getfield 11, 3) := by decide +kernel
theorem dX3_clientAt_17 : decode cX3_clientAt 17 = .ok (.iload_n 1, 1) := by decide +kernel
theorem dX3_clientAt_18 : decode cX3_clientAt 18 = .ok (.aaload, 1) := by decide +kernel
theorem dX3_clientAt_19 : decode cX3_clientAt 19 = .ok (.goto 4, 3) := by decide +kernel
theorem dX3_clientAt_22 : decode cX3_clientAt 22 = .ok (.aconst_null, 1) := by decide +kernel
theorem dX3_clientAt_23 : decode cX3_clientAt 23 = .ok (.areturn, 1) := by decide +kernel
theorem dX3_textAt_0 : decode cX3_textAt 0 = .ok (.aload_n 0, 1) := by decide +kernel
theorem dX3_textAt_1 : decode cX3_textAt 1 = .ok (.iload_n 1, 1) := by decide +kernel
theorem dX3_textAt_2 : decode cX3_textAt 2 = .ok (.invokevirtual 44, 3) := by decide +kernel
theorem dX3_textAt_5 : decode cX3_textAt 5 = .ok (.astore_n 2, 1) := by decide +kernel
theorem dX3_textAt_6 : decode cX3_textAt 6 = .ok (.aload_n 2, 1) := by decide +kernel
theorem dX3_textAt_7 : decode cX3_textAt 7 = .ok (.ifnonnull 17, 3) := by decide +kernel
theorem dX3_textAt_10 : decode cX3_textAt 10 = .ok (.aload_n 0, 1) := by decide +kernel
theorem dX3_textAt_11 : decode cX3_textAt 11 = .ok (.getfield 21, 3) := by decide +kernel
theorem dX3_textAt_14 : decode cX3_textAt 14 = .ok (.aload_n 0, 1) := by decide +kernel
theorem dX3_textAt_15 : decode cX3_textAt 15 = .ok (.getfield 38, 3) := by decide +kernel
theorem dX3_textAt_18 : decode cX3_textAt 18 = .ok (.invokevirtual 48, 3) := by decide +kernel
theorem dX3_textAt_21 : decode cX3_textAt 21 = .ok (.goto 7, 3) := by decide +kernel
theorem dX3_textAt_24 : decode cX3_textAt 24 = .ok (.aload_n 2, 1) := by decide +kernel
theorem dX3_textAt_25 : decode cX3_textAt 25 = .ok (.invokevirtual 51, 3) := by decide +kernel
theorem dX3_textAt_28 : decode cX3_textAt 28 = .ok (.ireturn, 1) := by decide +kernel
theorem dX11_measured_0 : decode cX11_measured 0 = .ok (.aload_n 0, 1) := by decide +kernel
theorem dX11_measured_1 : decode cX11_measured 1 = .ok (.getfield 21, 3) := by decide +kernel
theorem dX11_measured_4 : decode cX11_measured 4 = .ok (.iload_n 1, 1) := by decide +kernel
theorem dX11_measured_5 : decode cX11_measured 5 = .ok (.invokevirtual 222, 3) := by decide +kernel
theorem dX11_measured_8 : decode cX11_measured 8 = .ok (.ldc2_w 267, 3) := by decide +kernel
theorem dX11_measured_11 : decode cX11_measured 11 = .ok (.lcmp, 1) := by decide +kernel
theorem dX11_measured_12 : decode cX11_measured 12 = .ok (.ifCond .eq 5, 3) := by decide +kernel
theorem dX11_measured_15 : decode cX11_measured 15 = .ok (.iload_n 1, 1) := by decide +kernel
theorem dX11_measured_16 : decode cX11_measured 16 = .ok (.ireturn, 1) := by decide +kernel
theorem dX0_latest_0 : decode cX0_latest 0 = .ok (.aload_n 0, 1) := by decide +kernel
theorem dX0_latest_1 : decode cX0_latest 1 = .ok (.iload_n 1, 1) := by decide +kernel
theorem dX0_latest_2 : decode cX0_latest 2 = .ok (.invokevirtual 50, 3) := by decide +kernel
theorem dX0_latest_5 : decode cX0_latest 5 = .ok (.ifCond .le 29, 3) := by decide +kernel
theorem dX0_latest_8 : decode cX0_latest 8 = .ok (.aload_n 0, 1) := by decide +kernel
theorem dX0_latest_9 : decode cX0_latest 9 = .ok (.getfield 15, 3) := by decide +kernel
theorem dX0_latest_12 : decode cX0_latest 12 = .ok (.aload_n 0, 1) := by decide +kernel
theorem dX0_latest_13 : decode cX0_latest 13 = .ok (.getfield 25, 3) := by decide +kernel
theorem dX0_latest_16 : decode cX0_latest 16 = .ok (.iload_n 1, 1) := by decide +kernel
theorem dX0_latest_17 : decode cX0_latest 17 = .ok (.aload_n 0, 1) := by decide +kernel
theorem dX0_latest_18 : decode cX0_latest 18 = .ok (.iload_n 1, 1) := by decide +kernel
theorem dX0_latest_19 : decode cX0_latest 19 = .ok (.invokevirtual 50, 3) := by decide +kernel
theorem dX0_latest_22 : decode cX0_latest 22 = .ok (.iconst 1, 1) := by decide +kernel
theorem dX0_latest_23 : decode cX0_latest 23 = .ok (.isub, 1) := by decide +kernel
theorem dX0_latest_24 : decode cX0_latest 24 = .ok (.invokestatic 66, 3) := by decide +kernel
theorem dX0_latest_27 : decode cX0_latest 27 = .ok (.iadd, 1) := by decide +kernel
theorem dX0_latest_28 : decode cX0_latest 28 = .ok (.invokevirtual 28, 3) := by decide +kernel
theorem dX0_latest_31 : decode cX0_latest 31 = .ok (.goto 4, 3) := by decide +kernel
theorem dX0_latest_34 : decode cX0_latest 34 = .ok (.iconst 0, 1) := by decide +kernel
theorem dX0_latest_35 : decode cX0_latest 35 = .ok (.ireturn, 1) := by decide +kernel
theorem dX11_canBe_0 : decode cX11_canBe 0 = .ok (.iload_n 2, 1) := by decide +kernel
theorem dX11_canBe_1 : decode cX11_canBe 1 = .ok (.iconst 2, 1) := by decide +kernel
theorem dX11_canBe_2 : decode cX11_canBe 2 = .ok (.if_icmp .gt 20, 3) := by decide +kernel
theorem dX11_canBe_5 : decode cX11_canBe 5 = .ok (.aload_n 1, 1) := by decide +kernel
theorem dX11_canBe_6 : decode cX11_canBe 6 = .ok (.invokevirtual 277, 3) := by decide +kernel
theorem dX11_canBe_9 : decode cX11_canBe 9 = .ok (.ldc2_w 298, 3) := by decide +kernel
theorem dX11_canBe_12 : decode cX11_canBe 12 = .ok (.lcmp, 1) := by decide +kernel
theorem dX11_canBe_13 : decode cX11_canBe 13 = .ok (.ifCond .ge 7, 3) := by decide +kernel
theorem dX11_canBe_16 : decode cX11_canBe 16 = .ok (.iconst 1, 1) := by decide +kernel
theorem dX11_canBe_17 : decode cX11_canBe 17 = .ok (.goto 4, 3) := by decide +kernel
theorem dX11_canBe_21 : decode cX11_canBe 21 = .ok (.ireturn, 1) := by decide +kernel
theorem dX11_canBe_22 : decode cX11_canBe 22 = .ok (.iload_n 2, 1) := by decide +kernel
theorem dX11_canBe_23 : decode cX11_canBe 23 = .ok (.iconst 4, 1) := by decide +kernel
theorem dX11_canBe_24 : decode cX11_canBe 24 = .ok (.if_icmp .gt 18, 3) := by decide +kernel
theorem dX11_canBe_27 : decode cX11_canBe 27 = .ok (.aload_n 1, 1) := by decide +kernel
theorem dX11_canBe_28 : decode cX11_canBe 28 = .ok (.invokevirtual 277, 3) := by decide +kernel
theorem dX11_canBe_31 : decode cX11_canBe 31 = .ok (.lconst 0, 1) := by decide +kernel
theorem dX11_canBe_32 : decode cX11_canBe 32 = .ok (.lcmp, 1) := by decide +kernel
theorem dX11_canBe_33 : decode cX11_canBe 33 = .ok (.ifCond .le 7, 3) := by decide +kernel
theorem dX11_canBe_36 : decode cX11_canBe 36 = .ok (.iconst 1, 1) := by decide +kernel
theorem dX11_canBe_37 : decode cX11_canBe 37 = .ok (.goto 4, 3) := by decide +kernel
theorem dX11_canBe_40 : decode cX11_canBe 40 = .ok (.iconst 0, 1) := by decide +kernel
theorem dX11_canBe_41 : decode cX11_canBe 41 = .ok (.ireturn, 1) := by decide +kernel
theorem dX11_canBe_42 : decode cX11_canBe 42 = .ok (.iload_n 2, 1) := by decide +kernel
theorem dX11_canBe_43 : decode cX11_canBe 43 = .ok (.iconst 5, 1) := by decide +kernel
theorem dX11_canBe_44 : decode cX11_canBe 44 = .ok (.if_icmp .ne 17, 3) := by decide +kernel
theorem dX11_canBe_47 : decode cX11_canBe 47 = .ok (.aload_n 1, 1) := by decide +kernel
theorem dX11_canBe_48 : decode cX11_canBe 48 = .ok (.iconst 0, 1) := by decide +kernel
theorem dX11_canBe_49 : decode cX11_canBe 49 = .ok (.invokestatic 307, 3) := by decide +kernel
theorem dX11_canBe_52 : decode cX11_canBe 52 = .ok (.ifCond .ne 7, 3) := by decide +kernel
theorem dX11_canBe_55 : decode cX11_canBe 55 = .ok (.iconst 1, 1) := by decide +kernel
theorem dX11_canBe_56 : decode cX11_canBe 56 = .ok (.goto 4, 3) := by decide +kernel
theorem dX11_canBe_60 : decode cX11_canBe 60 = .ok (.ireturn, 1) := by decide +kernel
theorem dX11_canBe_61 : decode cX11_canBe 61 = .ok (.iload_n 2, 1) := by decide +kernel
theorem dX11_canBe_62 : decode cX11_canBe 62 = .ok (.bipush 6, 2) := by decide +kernel
theorem dX11_canBe_64 : decode cX11_canBe 64 = .ok (.if_icmp .ne 28, 3) := by decide +kernel
theorem dX11_canBe_67 : decode cX11_canBe 67 = .ok (.aload_n 1, 1) := by decide +kernel
theorem dX11_canBe_68 : decode cX11_canBe 68 = .ok (.invokevirtual 324, 3) := by decide +kernel
theorem dX11_canBe_71 : decode cX11_canBe 71 = .ok (.ifCond .eq 19, 3) := by decide +kernel
theorem dX11_canBe_74 : decode cX11_canBe 74 = .ok (.aload_n 0, 1) := by decide +kernel
theorem dX11_canBe_75 : decode cX11_canBe 75 = .ok (.getfield 98, 3) := by decide +kernel
theorem dX11_canBe_78 : decode cX11_canBe 78 = .ok (.getfield 327, 3) := by decide +kernel
theorem dX11_canBe_81 : decode cX11_canBe 81 = .ok (.bipush 90, 2) := by decide +kernel
theorem dX11_canBe_83 : decode cX11_canBe 83 = .ok (.if_icmp .ge 7, 3) := by decide +kernel
theorem dX11_canBe_86 : decode cX11_canBe 86 = .ok (.iconst 1, 1) := by decide +kernel
theorem dX11_canBe_87 : decode cX11_canBe 87 = .ok (.goto 4, 3) := by decide +kernel
theorem dX11_canBe_90 : decode cX11_canBe 90 = .ok (.iconst 0, 1) := by decide +kernel
theorem dX11_canBe_91 : decode cX11_canBe 91 = .ok (.ireturn, 1) := by decide +kernel
theorem dX11_canBe_92 : decode cX11_canBe 92 = .ok (.aload_n 1, 1) := by decide +kernel
theorem dX11_canBe_93 : decode cX11_canBe 93 = .ok (.getfield 333, 3) := by decide +kernel
theorem dX11_canBe_96 : decode cX11_canBe 96 = .ok (.aload_n 0, 1) := by decide +kernel
theorem dX11_canBe_97 : decode cX11_canBe 97 = .ok (.getfield 98, 3) := by decide +kernel
theorem dX11_canBe_100 : decode cX11_canBe 100 = .ok (.getfield 327, 3) := by decide +kernel
theorem dX11_canBe_103 : decode cX11_canBe 103 = .ok (.if_icmp .ge 7, 3) := by decide +kernel
theorem dX11_canBe_106 : decode cX11_canBe 106 = .ok (.iconst 1, 1) := by decide +kernel
theorem dX11_canBe_107 : decode cX11_canBe 107 = .ok (.goto 4, 3) := by decide +kernel
theorem dX11_canBe_110 : decode cX11_canBe 110 = .ok (.iconst 0, 1) := by decide +kernel
theorem dX11_canBe_111 : decode cX11_canBe 111 = .ok (.ireturn, 1) := by decide +kernel
theorem dX0_like_0 : decode cX0_like 0 = .ok (.aload_n 0, 1) := by decide +kernel
theorem dX0_like_1 : decode cX0_like 1 = .ok (.getfield 15, 3) := by decide +kernel
theorem dX0_like_4 : decode cX0_like 4 = .ok (.aload_n 0, 1) := by decide +kernel
theorem dX0_like_5 : decode cX0_like 5 = .ok (.getfield 25, 3) := by decide +kernel
theorem dX0_like_8 : decode cX0_like 8 = .ok (.aload_n 1, 1) := by decide +kernel
theorem dX0_like_9 : decode cX0_like 9 = .ok (.getfield 25, 3) := by decide +kernel
theorem dX0_like_12 : decode cX0_like 12 = .ok (.bipush 43, 2) := by decide +kernel
theorem dX0_like_14 : decode cX0_like 14 = .ok (.invokevirtual 119, 3) := by decide +kernel
theorem dX0_like_17 : decode cX0_like 17 = .ok (.aload_n 0, 1) := by decide +kernel
theorem dX0_like_18 : decode cX0_like 18 = .ok (.aload_n 1, 1) := by decide +kernel
theorem dX0_like_19 : decode cX0_like 19 = .ok (.getfield 60, 3) := by decide +kernel
theorem dX0_like_22 : decode cX0_like 22 = .ok (.putfield 60, 3) := by decide +kernel
theorem dX0_like_25 : decode cX0_like 25 = .ok (.aload_n 0, 1) := by decide +kernel
theorem dX0_like_26 : decode cX0_like 26 = .ok (.aload_n 1, 1) := by decide +kernel
theorem dX0_like_27 : decode cX0_like 27 = .ok (.getfield 63, 3) := by decide +kernel
theorem dX0_like_30 : decode cX0_like 30 = .ok (.putfield 63, 3) := by decide +kernel
theorem dX0_like_33 : decode cX0_like 33 = .ok (.aload_n 0, 1) := by decide +kernel
theorem dX0_like_34 : decode cX0_like 34 = .ok (.aload_n 1, 1) := by decide +kernel
theorem dX0_like_35 : decode cX0_like 35 = .ok (.getfield 34, 3) := by decide +kernel
theorem dX0_like_38 : decode cX0_like 38 = .ok (.putfield 34, 3) := by decide +kernel
theorem dX0_like_41 : decode cX0_like 41 = .ok (.aload_n 0, 1) := by decide +kernel
theorem dX0_like_42 : decode cX0_like 42 = .ok (.aload_n 1, 1) := by decide +kernel
theorem dX0_like_43 : decode cX0_like 43 = .ok (.getfield 38, 3) := by decide +kernel
theorem dX0_like_46 : decode cX0_like 46 = .ok (.putfield 38, 3) := by decide +kernel
theorem dX0_like_49 : decode cX0_like 49 = .ok (.aload_n 0, 1) := by decide +kernel
theorem dX0_like_50 : decode cX0_like 50 = .ok (.aload_n 1, 1) := by decide +kernel
theorem dX0_like_51 : decode cX0_like 51 = .ok (.getfield 47, 3) := by decide +kernel
theorem dX0_like_54 : decode cX0_like 54 = .ok (.putfield 47, 3) := by decide +kernel
theorem dX0_like_57 : decode cX0_like 57 = .ok (.aload_n 0, 1) := by decide +kernel
theorem dX0_like_58 : decode cX0_like 58 = .ok (.aload_n 1, 1) := by decide +kernel
theorem dX0_like_59 : decode cX0_like 59 = .ok (.getfield 110, 3) := by decide +kernel
theorem dX0_like_62 : decode cX0_like 62 = .ok (.putfield 110, 3) := by decide +kernel
theorem dX0_like_65 : decode cX0_like 65 = .ok (.aload_n 0, 1) := by decide +kernel
theorem dX0_like_66 : decode cX0_like 66 = .ok (.aload_n 1, 1) := by decide +kernel
theorem dX0_like_67 : decode cX0_like 67 = .ok (.getfield 97, 3) := by decide +kernel
theorem dX0_like_70 : decode cX0_like 70 = .ok (.putfield 97, 3) := by decide +kernel
theorem dX0_like_73 : decode cX0_like 73 = .ok (.aload_n 0, 1) := by decide +kernel
theorem dX0_like_74 : decode cX0_like 74 = .ok (.aload_n 1, 1) := by decide +kernel
theorem dX0_like_75 : decode cX0_like 75 = .ok (.getfield 107, 3) := by decide +kernel
theorem dX0_like_78 : decode cX0_like 78 = .ok (.putfield 107, 3) := by decide +kernel
theorem dX0_like_81 : decode cX0_like 81 = .ok (.return_, 1) := by decide +kernel
theorem dX11_draftByDraws_0 : decode cX11_draftByDraws 0 = .ok (.aload_n 1, 1) := by decide +kernel
theorem dX11_draftByDraws_1 : decode cX11_draftByDraws 1 = .ok (.invokevirtual 277, 3) := by decide +kernel
theorem dX11_draftByDraws_4 : decode cX11_draftByDraws 4 = .ok (.lstore_n 3, 1) := by decide +kernel
theorem dX11_draftByDraws_5 : decode cX11_draftByDraws 5 = .ok (.iload_n 2, 1) := by decide +kernel
theorem dX11_draftByDraws_6 : decode cX11_draftByDraws 6 = .ok (.iconst 2, 1) := by decide +kernel
theorem dX11_draftByDraws_7 : decode cX11_draftByDraws 7 = .ok (.if_icmp .gt 45, 3) := by decide +kernel
theorem dX11_draftByDraws_10 : decode cX11_draftByDraws 10 = .ok (.aload_n 0, 1) := by decide +kernel
theorem dX11_draftByDraws_11 : decode cX11_draftByDraws 11 = .ok (.getfield 98, 3) := by decide +kernel
theorem dX11_draftByDraws_14 : decode cX11_draftByDraws 14 = .ok (.ldc2_w 398, 3) := by decide +kernel
theorem dX11_draftByDraws_17 : decode cX11_draftByDraws 17 = .ok (.invokevirtual 381, 3) := by decide +kernel
theorem dX11_draftByDraws_20 : decode cX11_draftByDraws 20 = .ok (.l2i, 1) := by decide +kernel
theorem dX11_draftByDraws_21 : decode cX11_draftByDraws 21 = .ok (.istore 5, 2) := by decide +kernel
theorem dX11_draftByDraws_23 : decode cX11_draftByDraws 23 = .ok (.aload_n 0, 1) := by decide +kernel
theorem dX11_draftByDraws_24 : decode cX11_draftByDraws 24 = .ok (.getfield 98, 3) := by decide +kernel
theorem dX11_draftByDraws_27 : decode cX11_draftByDraws 27 = .ok (.lload_n 3, 1) := by decide +kernel
theorem dX11_draftByDraws_28 : decode cX11_draftByDraws 28 = .ok (.lconst 1, 1) := by decide +kernel
theorem dX11_draftByDraws_29 : decode cX11_draftByDraws 29 = .ok (.ladd, 1) := by decide +kernel
theorem dX11_draftByDraws_30 : decode cX11_draftByDraws 30 = .ok (.invokevirtual 381, 3) := by decide +kernel
theorem dX11_draftByDraws_33 : decode cX11_draftByDraws 33 = .ok (.lstore 6, 2) := by decide +kernel
theorem dX11_draftByDraws_35 : decode cX11_draftByDraws 35 = .ok (.aload_n 0, 1) := by decide +kernel
theorem dX11_draftByDraws_36 : decode cX11_draftByDraws 36 = .ok (.getfield 48, 3) := by decide +kernel
theorem dX11_draftByDraws_39 : decode cX11_draftByDraws 39 = .ok (.lload 6, 2) := by decide +kernel
theorem dX11_draftByDraws_41 : decode cX11_draftByDraws 41 = .ok (.iload 5, 2) := by decide +kernel
theorem dX11_draftByDraws_43 : decode cX11_draftByDraws 43 = .ok (.lconst 1, 1) := by decide +kernel
theorem dX11_draftByDraws_44 : decode cX11_draftByDraws 44 = .ok (.lload_n 3, 1) := by decide +kernel
theorem dX11_draftByDraws_45 : decode cX11_draftByDraws 45 = .ok (.lload 6, 2) := by decide +kernel
theorem dX11_draftByDraws_47 : decode cX11_draftByDraws 47 = .ok (.lsub, 1) := by decide +kernel
theorem dX11_draftByDraws_48 : decode cX11_draftByDraws 48 = .ok (.invokevirtual 300, 3) := by decide +kernel
theorem dX11_draftByDraws_51 : decode cX11_draftByDraws 51 = .ok (.return_, 1) := by decide +kernel
theorem dX11_draftByDraws_52 : decode cX11_draftByDraws 52 = .ok (.aload_n 0, 1) := by decide +kernel
theorem dX11_draftByDraws_53 : decode cX11_draftByDraws 53 = .ok (.getfield 98, 3) := by decide +kernel
theorem dX11_draftByDraws_56 : decode cX11_draftByDraws 56 = .ok (.lload_n 3, 1) := by decide +kernel
theorem dX11_draftByDraws_57 : decode cX11_draftByDraws 57 = .ok (.invokevirtual 381, 3) := by decide +kernel
theorem dX11_draftByDraws_60 : decode cX11_draftByDraws 60 = .ok (.lstore 5, 2) := by decide +kernel
theorem dX11_draftByDraws_62 : decode cX11_draftByDraws 62 = .ok (.iload_n 2, 1) := by decide +kernel
theorem dX11_draftByDraws_63 : decode cX11_draftByDraws 63 = .ok (.iconst 3, 1) := by decide +kernel
theorem dX11_draftByDraws_64 : decode cX11_draftByDraws 64 = .ok (.if_icmp .ne 9, 3) := by decide +kernel
theorem dX11_draftByDraws_67 : decode cX11_draftByDraws 67 = .ok (.sipush 512, 3) := by decide +kernel
theorem dX11_draftByDraws_70 : decode cX11_draftByDraws 70 = .ok (.goto 22, 3) := by decide +kernel
theorem dX11_draftByDraws_73 : decode cX11_draftByDraws 73 = .ok (.sipush 768, 3) := by decide +kernel
theorem dX11_draftByDraws_76 : decode cX11_draftByDraws 76 = .ok (.iconst 1, 1) := by decide +kernel
theorem dX11_draftByDraws_77 : decode cX11_draftByDraws 77 = .ok (.aload_n 0, 1) := by decide +kernel
theorem dX11_draftByDraws_78 : decode cX11_draftByDraws 78 = .ok (.getfield 98, 3) := by decide +kernel
theorem dX11_draftByDraws_81 : decode cX11_draftByDraws 81 = .ok (.ldc2_w 379, 3) := by decide +kernel
theorem dX11_draftByDraws_84 : decode cX11_draftByDraws 84 = .ok (.invokevirtual 381, 3) := by decide +kernel
theorem dX11_draftByDraws_87 : decode cX11_draftByDraws 87 = .ok (.l2i, 1) := by decide +kernel
theorem dX11_draftByDraws_88 : decode cX11_draftByDraws 88 = .ok (.ishl, 1) := by decide +kernel
theorem dX11_draftByDraws_89 : decode cX11_draftByDraws 89 = .ok (.iconst 4, 1) := by decide +kernel
theorem dX11_draftByDraws_90 : decode cX11_draftByDraws 90 = .ok (.ishl, 1) := by decide +kernel
theorem dX11_draftByDraws_91 : decode cX11_draftByDraws 91 = .ok (.ior, 1) := by decide +kernel
theorem dX11_draftByDraws_92 : decode cX11_draftByDraws 92 = .ok (.istore 7, 2) := by decide +kernel
theorem dX11_draftByDraws_94 : decode cX11_draftByDraws 94 = .ok (.aload_n 0, 1) := by decide +kernel
theorem dX11_draftByDraws_95 : decode cX11_draftByDraws 95 = .ok (.getfield 48, 3) := by decide +kernel
theorem dX11_draftByDraws_98 : decode cX11_draftByDraws 98 = .ok (.lload 5, 2) := by decide +kernel
theorem dX11_draftByDraws_100 : decode cX11_draftByDraws 100 = .ok (.iload 7, 2) := by decide +kernel
theorem dX11_draftByDraws_102 : decode cX11_draftByDraws 102 = .ok (.lconst 1, 1) := by decide +kernel
theorem dX11_draftByDraws_103 : decode cX11_draftByDraws 103 = .ok (.lload_n 3, 1) := by decide +kernel
theorem dX11_draftByDraws_104 : decode cX11_draftByDraws 104 = .ok (.lload 5, 2) := by decide +kernel
theorem dX11_draftByDraws_106 : decode cX11_draftByDraws 106 = .ok (.lsub, 1) := by decide +kernel
theorem dX11_draftByDraws_107 : decode cX11_draftByDraws 107 = .ok (.lconst 1, 1) := by decide +kernel
theorem dX11_draftByDraws_108 : decode cX11_draftByDraws 108 = .ok (.lsub, 1) := by decide +kernel
theorem dX11_draftByDraws_109 : decode cX11_draftByDraws 109 = .ok (.invokevirtual 300, 3) := by decide +kernel
theorem dX11_draftByDraws_112 : decode cX11_draftByDraws 112 = .ok (.return_, 1) := by decide +kernel
theorem dX0_clear_0 : decode cX0_clear 0 = .ok (.aload_n 0, 1) := by decide +kernel
theorem dX0_clear_1 : decode cX0_clear 1 = .ok (.iload_n 1, 1) := by decide +kernel
theorem dX0_clear_2 : decode cX0_clear 2 = .ok (.invokevirtual 50, 3) := by decide +kernel
theorem dX0_clear_5 : decode cX0_clear 5 = .ok (.istore_n 2, 1) := by decide +kernel
theorem dX0_clear_6 : decode cX0_clear 6 = .ok (.iload_n 2, 1) := by decide +kernel
theorem dX0_clear_7 : decode cX0_clear 7 = .ok (.ifCond .le 14, 3) := by decide +kernel
theorem dX0_clear_10 : decode cX0_clear 10 = .ok (.aload_n 0, 1) := by decide +kernel
theorem dX0_clear_11 : decode cX0_clear 11 = .ok (.iload_n 1, 1) := by decide +kernel
theorem dX0_clear_12 : decode cX0_clear 12 = .ok (.invokevirtual 77, 3) := by decide +kernel
theorem dX0_clear_15 : decode cX0_clear 15 = .ok (.iinc 2 (-1), 3) := by decide +kernel
theorem dX0_clear_18 : decode cX0_clear 18 = .ok (.goto (-12), 3) := by decide +kernel
theorem dX0_clear_21 : decode cX0_clear 21 = .ok (.return_, 1) := by decide +kernel
theorem dX0_doDraft_0 : decode cX0_doDraft 0 = .ok (.aload_n 0, 1) := by decide +kernel
theorem dX0_doDraft_1 : decode cX0_doDraft 1 = .ok (.getfield 15, 3) := by decide +kernel
theorem dX0_doDraft_4 : decode cX0_doDraft 4 = .ok (.aload_n 2, 1) := by decide +kernel
theorem dX0_doDraft_5 : decode cX0_doDraft 5 = .ok (.getfield 81, 3) := by decide +kernel
theorem dX0_doDraft_8 : decode cX0_doDraft 8 = .ok (.iconst 0, 1) := by decide +kernel
theorem dX0_doDraft_9 : decode cX0_doDraft 9 = .ok (.iadd, 1) := by decide +kernel
theorem dX0_doDraft_10 : decode cX0_doDraft 10 = .ok (.invokevirtual 28, 3) := by decide +kernel
theorem dX0_doDraft_13 : decode cX0_doDraft 13 = .ok (.istore_n 3, 1) := by decide +kernel
theorem dX0_doDraft_14 : decode cX0_doDraft 14 = .ok (.aload_n 0, 1) := by decide +kernel
theorem dX0_doDraft_15 : decode cX0_doDraft 15 = .ok (.iload_n 1, 1) := by decide +kernel
theorem dX0_doDraft_16 : decode cX0_doDraft 16 = .ok (.aload_n 2, 1) := by decide +kernel
theorem dX0_doDraft_17 : decode cX0_doDraft 17 = .ok (.iconst 3, 1) := by decide +kernel
theorem dX0_doDraft_18 : decode cX0_doDraft 18 = .ok (.iload_n 3, 1) := by decide +kernel
theorem dX0_doDraft_19 : decode cX0_doDraft 19 = .ok (.aload_n 0, 1) := by decide +kernel
theorem dX0_doDraft_20 : decode cX0_doDraft 20 = .ok (.getfield 15, 3) := by decide +kernel
theorem dX0_doDraft_23 : decode cX0_doDraft 23 = .ok (.aload_n 0, 1) := by decide +kernel
theorem dX0_doDraft_24 : decode cX0_doDraft 24 = .ok (.getfield 25, 3) := by decide +kernel
theorem dX0_doDraft_27 : decode cX0_doDraft 27 = .ok (.iconst 0, 1) := by decide +kernel
theorem dX0_doDraft_28 : decode cX0_doDraft 28 = .ok (.iadd, 1) := by decide +kernel
theorem dX0_doDraft_29 : decode cX0_doDraft 29 = .ok (.invokevirtual 28, 3) := by decide +kernel
theorem dX0_doDraft_32 : decode cX0_doDraft 32 = .ok (.invokevirtual 86, 3) := by decide +kernel
theorem dX0_doDraft_35 : decode cX0_doDraft 35 = .ok (.invokevirtual 90, 3) := by decide +kernel
theorem dX0_doDraft_38 : decode cX0_doDraft 38 = .ok (.aload_n 0, 1) := by decide +kernel
theorem dX0_doDraft_39 : decode cX0_doDraft 39 = .ok (.getfield 15, 3) := by decide +kernel
theorem dX0_doDraft_42 : decode cX0_doDraft 42 = .ok (.aload_n 0, 1) := by decide +kernel
theorem dX0_doDraft_43 : decode cX0_doDraft 43 = .ok (.getfield 25, 3) := by decide +kernel
theorem dX0_doDraft_46 : decode cX0_doDraft 46 = .ok (.iconst 0, 1) := by decide +kernel
theorem dX0_doDraft_47 : decode cX0_doDraft 47 = .ok (.iadd, 1) := by decide +kernel
theorem dX0_doDraft_48 : decode cX0_doDraft 48 = .ok (.aload_n 2, 1) := by decide +kernel
theorem dX0_doDraft_49 : decode cX0_doDraft 49 = .ok (.iconst 0, 1) := by decide +kernel
theorem dX0_doDraft_50 : decode cX0_doDraft 50 = .ok (.aload_n 0, 1) := by decide +kernel
theorem dX0_doDraft_51 : decode cX0_doDraft 51 = .ok (.getfield 15, 3) := by decide +kernel
theorem dX0_doDraft_54 : decode cX0_doDraft 54 = .ok (.aload_n 0, 1) := by decide +kernel
theorem dX0_doDraft_55 : decode cX0_doDraft 55 = .ok (.getfield 25, 3) := by decide +kernel
theorem dX0_doDraft_58 : decode cX0_doDraft 58 = .ok (.iconst 0, 1) := by decide +kernel
theorem dX0_doDraft_59 : decode cX0_doDraft 59 = .ok (.iadd, 1) := by decide +kernel
theorem dX0_doDraft_60 : decode cX0_doDraft 60 = .ok (.invokevirtual 28, 3) := by decide +kernel
theorem dX0_doDraft_63 : decode cX0_doDraft 63 = .ok (.iload_n 3, 1) := by decide +kernel
theorem dX0_doDraft_64 : decode cX0_doDraft 64 = .ok (.invokevirtual 86, 3) := by decide +kernel
theorem dX0_doDraft_67 : decode cX0_doDraft 67 = .ok (.invokevirtual 70, 3) := by decide +kernel
theorem dX0_doDraft_70 : decode cX0_doDraft 70 = .ok (.aload_n 2, 1) := by decide +kernel
theorem dX0_doDraft_71 : decode cX0_doDraft 71 = .ok (.iconst 4, 1) := by decide +kernel
theorem dX0_doDraft_72 : decode cX0_doDraft 72 = .ok (.iload_n 3, 1) := by decide +kernel
theorem dX0_doDraft_73 : decode cX0_doDraft 73 = .ok (.iconst 0, 1) := by decide +kernel
theorem dX0_doDraft_74 : decode cX0_doDraft 74 = .ok (.invokevirtual 86, 3) := by decide +kernel
theorem dX0_doDraft_77 : decode cX0_doDraft 77 = .ok (.pop, 1) := by decide +kernel
theorem dX0_doDraft_78 : decode cX0_doDraft 78 = .ok (.aload_n 0, 1) := by decide +kernel
theorem dX0_doDraft_79 : decode cX0_doDraft 79 = .ok (.aload_n 2, 1) := by decide +kernel
theorem dX0_doDraft_80 : decode cX0_doDraft 80 = .ok (.getfield 93, 3) := by decide +kernel
theorem dX0_doDraft_83 : decode cX0_doDraft 83 = .ok (.iload_n 3, 1) := by decide +kernel
theorem dX0_doDraft_84 : decode cX0_doDraft 84 = .ok (.aload_n 0, 1) := by decide +kernel
theorem dX0_doDraft_85 : decode cX0_doDraft 85 = .ok (.getfield 97, 3) := by decide +kernel
theorem dX0_doDraft_88 : decode cX0_doDraft 88 = .ok (.iconst 1, 1) := by decide +kernel
theorem dX0_doDraft_89 : decode cX0_doDraft 89 = .ok (.invokevirtual 101, 3) := by decide +kernel
theorem dX0_doDraft_92 : decode cX0_doDraft 92 = .ok (.putfield 97, 3) := by decide +kernel
theorem dX0_doDraft_95 : decode cX0_doDraft 95 = .ok (.aload_n 0, 1) := by decide +kernel
theorem dX0_doDraft_96 : decode cX0_doDraft 96 = .ok (.aload_n 2, 1) := by decide +kernel
theorem dX0_doDraft_97 : decode cX0_doDraft 97 = .ok (.getfield 93, 3) := by decide +kernel
theorem dX0_doDraft_100 : decode cX0_doDraft 100 = .ok (.iload_n 3, 1) := by decide +kernel
theorem dX0_doDraft_101 : decode cX0_doDraft 101 = .ok (.aload_n 0, 1) := by decide +kernel
theorem dX0_doDraft_102 : decode cX0_doDraft 102 = .ok (.getfield 107, 3) := by decide +kernel
theorem dX0_doDraft_105 : decode cX0_doDraft 105 = .ok (.iconst 1, 1) := by decide +kernel
theorem dX0_doDraft_106 : decode cX0_doDraft 106 = .ok (.invokevirtual 101, 3) := by decide +kernel
theorem dX0_doDraft_109 : decode cX0_doDraft 109 = .ok (.putfield 107, 3) := by decide +kernel
theorem dX0_doDraft_112 : decode cX0_doDraft 112 = .ok (.aload_n 0, 1) := by decide +kernel
theorem dX0_doDraft_113 : decode cX0_doDraft 113 = .ok (.getfield 34, 3) := by decide +kernel
theorem dX0_doDraft_116 : decode cX0_doDraft 116 = .ok (.ifCond .ne 30, 3) := by decide +kernel
theorem dX0_doDraft_119 : decode cX0_doDraft 119 = .ok (.aload_n 0, 1) := by decide +kernel
theorem dX0_doDraft_120 : decode cX0_doDraft 120 = .ok (.getfield 15, 3) := by decide +kernel
theorem dX0_doDraft_123 : decode cX0_doDraft 123 = .ok (.aload_n 0, 1) := by decide +kernel
theorem dX0_doDraft_124 : decode cX0_doDraft 124 = .ok (.getfield 25, 3) := by decide +kernel
theorem dX0_doDraft_127 : decode cX0_doDraft 127 = .ok (.iconst 1, 1) := by decide +kernel
theorem dX0_doDraft_128 : decode cX0_doDraft 128 = .ok (.iadd, 1) := by decide +kernel
theorem dX0_doDraft_129 : decode cX0_doDraft 129 = .ok (.iload_n 3, 1) := by decide +kernel
theorem dX0_doDraft_130 : decode cX0_doDraft 130 = .ok (.invokevirtual 70, 3) := by decide +kernel
theorem dX0_doDraft_133 : decode cX0_doDraft 133 = .ok (.aload_n 0, 1) := by decide +kernel
theorem dX0_doDraft_134 : decode cX0_doDraft 134 = .ok (.iconst 1, 1) := by decide +kernel
theorem dX0_doDraft_135 : decode cX0_doDraft 135 = .ok (.putfield 34, 3) := by decide +kernel
theorem dX0_doDraft_138 : decode cX0_doDraft 138 = .ok (.aload_n 0, 1) := by decide +kernel
theorem dX0_doDraft_139 : decode cX0_doDraft 139 = .ok (.iconst 0, 1) := by decide +kernel
theorem dX0_doDraft_140 : decode cX0_doDraft 140 = .ok (.putfield 38, 3) := by decide +kernel
theorem dX0_doDraft_143 : decode cX0_doDraft 143 = .ok (.goto 51, 3) := by decide +kernel
theorem dX0_doDraft_146 : decode cX0_doDraft 146 = .ok (.aload_n 0, 1) := by decide +kernel
theorem dX0_doDraft_147 : decode cX0_doDraft 147 = .ok (.getfield 15, 3) := by decide +kernel
theorem dX0_doDraft_150 : decode cX0_doDraft 150 = .ok (.aload_n 0, 1) := by decide +kernel
theorem dX0_doDraft_151 : decode cX0_doDraft 151 = .ok (.getfield 25, 3) := by decide +kernel
theorem dX0_doDraft_154 : decode cX0_doDraft 154 = .ok (.iconst 2, 1) := by decide +kernel
theorem dX0_doDraft_155 : decode cX0_doDraft 155 = .ok (.iadd, 1) := by decide +kernel
theorem dX0_doDraft_156 : decode cX0_doDraft 156 = .ok (.aload_n 0, 1) := by decide +kernel
theorem dX0_doDraft_157 : decode cX0_doDraft 157 = .ok (.getfield 47, 3) := by decide +kernel
theorem dX0_doDraft_160 : decode cX0_doDraft 160 = .ok (.ifCond .eq 25, 3) := by decide +kernel
theorem dX0_doDraft_163 : decode cX0_doDraft 163 = .ok (.aload_n 2, 1) := by decide +kernel
theorem dX0_doDraft_164 : decode cX0_doDraft 164 = .ok (.iconst 0, 1) := by decide +kernel
theorem dX0_doDraft_165 : decode cX0_doDraft 165 = .ok (.aload_n 0, 1) := by decide +kernel
theorem dX0_doDraft_166 : decode cX0_doDraft 166 = .ok (.getfield 15, 3) := by decide +kernel
theorem dX0_doDraft_169 : decode cX0_doDraft 169 = .ok (.aload_n 0, 1) := by decide +kernel
theorem dX0_doDraft_170 : decode cX0_doDraft 170 = .ok (.getfield 25, 3) := by decide +kernel
theorem dX0_doDraft_173 : decode cX0_doDraft 173 = .ok (.iconst 2, 1) := by decide +kernel
theorem dX0_doDraft_174 : decode cX0_doDraft 174 = .ok (.iadd, 1) := by decide +kernel
theorem dX0_doDraft_175 : decode cX0_doDraft 175 = .ok (.invokevirtual 28, 3) := by decide +kernel
theorem dX0_doDraft_178 : decode cX0_doDraft 178 = .ok (.iload_n 3, 1) := by decide +kernel
theorem dX0_doDraft_179 : decode cX0_doDraft 179 = .ok (.invokevirtual 86, 3) := by decide +kernel
theorem dX0_doDraft_182 : decode cX0_doDraft 182 = .ok (.goto 4, 3) := by decide +kernel
theorem dX0_doDraft_185 : decode cX0_doDraft 185 = .ok (.iload_n 3, 1) := by decide +kernel
theorem dX0_doDraft_186 : decode cX0_doDraft 186 = .ok (.invokevirtual 70, 3) := by decide +kernel
theorem dX0_doDraft_189 : decode cX0_doDraft 189 = .ok (.aload_n 0, 1) := by decide +kernel
theorem dX0_doDraft_190 : decode cX0_doDraft 190 = .ok (.iconst 1, 1) := by decide +kernel
theorem dX0_doDraft_191 : decode cX0_doDraft 191 = .ok (.putfield 47, 3) := by decide +kernel
theorem dX0_doDraft_194 : decode cX0_doDraft 194 = .ok (.return_, 1) := by decide +kernel
theorem dX0_draftLatest_0 : decode cX0_draftLatest 0 = .ok (.aload_n 0, 1) := by decide +kernel
theorem dX0_draftLatest_1 : decode cX0_draftLatest 1 = .ok (.getfield 15, 3) := by decide +kernel
theorem dX0_draftLatest_4 : decode cX0_draftLatest 4 = .ok (.aload_n 2, 1) := by decide +kernel
theorem dX0_draftLatest_5 : decode cX0_draftLatest 5 = .ok (.getfield 81, 3) := by decide +kernel
theorem dX0_draftLatest_8 : decode cX0_draftLatest 8 = .ok (.iconst 0, 1) := by decide +kernel
theorem dX0_draftLatest_9 : decode cX0_draftLatest 9 = .ok (.iadd, 1) := by decide +kernel
theorem dX0_draftLatest_10 : decode cX0_draftLatest 10 = .ok (.aload_n 0, 1) := by decide +kernel
theorem dX0_draftLatest_11 : decode cX0_draftLatest 11 = .ok (.iload_n 1, 1) := by decide +kernel
theorem dX0_draftLatest_12 : decode cX0_draftLatest 12 = .ok (.invokevirtual 57, 3) := by decide +kernel
theorem dX0_draftLatest_15 : decode cX0_draftLatest 15 = .ok (.invokevirtual 70, 3) := by decide +kernel
theorem dX0_draftLatest_18 : decode cX0_draftLatest 18 = .ok (.aload_n 0, 1) := by decide +kernel
theorem dX0_draftLatest_19 : decode cX0_draftLatest 19 = .ok (.iload_n 1, 1) := by decide +kernel
theorem dX0_draftLatest_20 : decode cX0_draftLatest 20 = .ok (.invokevirtual 77, 3) := by decide +kernel
theorem dX0_draftLatest_23 : decode cX0_draftLatest 23 = .ok (.return_, 1) := by decide +kernel
theorem dX3_takeSent_0 : decode cX3_takeSent 0 = .ok (.aload_n 0, 1) := by decide +kernel
theorem dX3_takeSent_1 : decode cX3_takeSent 1 = .ok (.iload_n 1, 1) := by decide +kernel
theorem dX3_takeSent_2 : decode cX3_takeSent 2 = .ok (.invokevirtual 44, 3) := by decide +kernel
theorem dX3_takeSent_5 : decode cX3_takeSent 5 = .ok (.astore_n 3, 1) := by decide +kernel
theorem dX3_takeSent_6 : decode cX3_takeSent 6 = .ok (.aload_n 3, 1) := by decide +kernel
theorem dX3_takeSent_7 : decode cX3_takeSent 7 = .ok (.ifnull 12, 3) := by decide +kernel
theorem dX3_takeSent_10 : decode cX3_takeSent 10 = .ok (.aload_n 0, 1) := by decide +kernel
theorem dX3_takeSent_11 : decode cX3_takeSent 11 = .ok (.getfield 55, 3) := by decide +kernel
theorem dX3_takeSent_14 : decode cX3_takeSent 14 = .ok (.bipush 90, 2) := by decide +kernel
theorem dX3_takeSent_16 : decode cX3_takeSent 16 = .ok (.if_icmp .lt 4, 3) := by decide +kernel
theorem dX3_takeSent_20 : decode cX3_takeSent 20 = .ok (.aload_n 2, 1) := by decide +kernel
theorem dX3_takeSent_21 : decode cX3_takeSent 21 = .ok (.getfield 58, 3) := by decide +kernel
theorem dX3_takeSent_24 : decode cX3_takeSent 24 = .ok (.istore 4, 2) := by decide +kernel
theorem dX3_takeSent_26 : decode cX3_takeSent 26 = .ok (.aload_n 0, 1) := by decide +kernel
theorem dX3_takeSent_27 : decode cX3_takeSent 27 = .ok (.getfield 21, 3) := by decide +kernel
theorem dX3_takeSent_30 : decode cX3_takeSent 30 = .ok (.iload 4, 2) := by decide +kernel
theorem dX3_takeSent_32 : decode cX3_takeSent 32 = .ok (.iconst 1, 1) := by decide +kernel
theorem dX3_takeSent_33 : decode cX3_takeSent 33 = .ok (.iadd, 1) := by decide +kernel
theorem dX3_takeSent_34 : decode cX3_takeSent 34 = .ok (.aload_n 3, 1) := by decide +kernel
theorem dX3_takeSent_35 : decode cX3_takeSent 35 = .ok (.iconst 0, 1) := by decide +kernel
theorem dX3_takeSent_36 : decode cX3_takeSent 36 = .ok (.invokevirtual 63, 3) := by decide +kernel
theorem dX3_takeSent_39 : decode cX3_takeSent 39 = .ok (.invokevirtual 66, 3) := by decide +kernel
theorem dX3_takeSent_42 : decode cX3_takeSent 42 = .ok (.aload_n 3, 1) := by decide +kernel
theorem dX3_takeSent_43 : decode cX3_takeSent 43 = .ok (.getfield 70, 3) := by decide +kernel
theorem dX3_takeSent_46 : decode cX3_takeSent 46 = .ok (.istore 5, 2) := by decide +kernel
theorem dX3_takeSent_48 : decode cX3_takeSent 48 = .ok (.iload 5, 2) := by decide +kernel
theorem dX3_takeSent_50 : decode cX3_takeSent 50 = .ok (.aload_n 0, 1) := by decide +kernel
theorem dX3_takeSent_51 : decode cX3_takeSent 51 = .ok (.getfield 55, 3) := by decide +kernel
theorem dX3_takeSent_54 : decode cX3_takeSent 54 = .ok (.if_icmp .ge 50, 3) := by decide +kernel
theorem dX3_takeSent_57 : decode cX3_takeSent 57 = .ok (.aload_n 0, 1) := by decide +kernel
theorem dX3_takeSent_58 : decode cX3_takeSent 58 = .ok (.getfield 21, 3) := by decide +kernel
theorem dX3_takeSent_61 : decode cX3_takeSent 61 = .ok (.iload 4, 2) := by decide +kernel
theorem dX3_takeSent_63 : decode cX3_takeSent 63 = .ok (.iconst 1, 1) := by decide +kernel
theorem dX3_takeSent_64 : decode cX3_takeSent 64 = .ok (.iadd, 1) := by decide +kernel
theorem dX3_takeSent_65 : decode cX3_takeSent 65 = .ok (.aload_n 2, 1) := by decide +kernel
theorem dX3_takeSent_66 : decode cX3_takeSent 66 = .ok (.iconst 1, 1) := by decide +kernel
theorem dX3_takeSent_67 : decode cX3_takeSent 67 = .ok (.aload_n 0, 1) := by decide +kernel
theorem dX3_takeSent_68 : decode cX3_takeSent 68 = .ok (.getfield 21, 3) := by decide +kernel
theorem dX3_takeSent_71 : decode cX3_takeSent 71 = .ok (.iload 4, 2) := by decide +kernel
theorem dX3_takeSent_73 : decode cX3_takeSent 73 = .ok (.iconst 1, 1) := by decide +kernel
theorem dX3_takeSent_74 : decode cX3_takeSent 74 = .ok (.iadd, 1) := by decide +kernel
theorem dX3_takeSent_75 : decode cX3_takeSent 75 = .ok (.invokevirtual 48, 3) := by decide +kernel
theorem dX3_takeSent_78 : decode cX3_takeSent 78 = .ok (.aload_n 0, 1) := by decide +kernel
theorem dX3_takeSent_79 : decode cX3_takeSent 79 = .ok (.getfield 21, 3) := by decide +kernel
theorem dX3_takeSent_82 : decode cX3_takeSent 82 = .ok (.aload_n 0, 1) := by decide +kernel
theorem dX3_takeSent_83 : decode cX3_takeSent 83 = .ok (.getfield 25, 3) := by decide +kernel
theorem dX3_takeSent_86 : decode cX3_takeSent 86 = .ok (.iload 5, 2) := by decide +kernel
theorem dX3_takeSent_88 : decode cX3_takeSent 88 = .ok (.iadd, 1) := by decide +kernel
theorem dX3_takeSent_89 : decode cX3_takeSent 89 = .ok (.invokevirtual 48, 3) := by decide +kernel
theorem dX3_takeSent_92 : decode cX3_takeSent 92 = .ok (.invokevirtual 73, 3) := by decide +kernel
theorem dX3_takeSent_95 : decode cX3_takeSent 95 = .ok (.invokevirtual 66, 3) := by decide +kernel
theorem dX3_takeSent_98 : decode cX3_takeSent 98 = .ok (.iinc 5 1, 3) := by decide +kernel
theorem dX3_takeSent_101 : decode cX3_takeSent 101 = .ok (.goto (-53), 3) := by decide +kernel
theorem dX3_takeSent_104 : decode cX3_takeSent 104 = .ok (.aload_n 2, 1) := by decide +kernel
theorem dX3_takeSent_105 : decode cX3_takeSent 105 = .ok (.iconst 0, 1) := by decide +kernel
theorem dX3_takeSent_106 : decode cX3_takeSent 106 = .ok (.aload_n 0, 1) := by decide +kernel
theorem dX3_takeSent_107 : decode cX3_takeSent 107 = .ok (.getfield 21, 3) := by decide +kernel
theorem dX3_takeSent_110 : decode cX3_takeSent 110 = .ok (.aload_n 0, 1) := by decide +kernel
theorem dX3_takeSent_111 : decode cX3_takeSent 111 = .ok (.getfield 38, 3) := by decide +kernel
theorem dX3_takeSent_114 : decode cX3_takeSent 114 = .ok (.invokevirtual 48, 3) := by decide +kernel
theorem dX3_takeSent_117 : decode cX3_takeSent 117 = .ok (.aload_n 0, 1) := by decide +kernel
theorem dX3_takeSent_118 : decode cX3_takeSent 118 = .ok (.getfield 21, 3) := by decide +kernel
theorem dX3_takeSent_121 : decode cX3_takeSent 121 = .ok (.iload 4, 2) := by decide +kernel
theorem dX3_takeSent_123 : decode cX3_takeSent 123 = .ok (.iconst 1, 1) := by decide +kernel
theorem dX3_takeSent_124 : decode cX3_takeSent 124 = .ok (.iadd, 1) := by decide +kernel
theorem dX3_takeSent_125 : decode cX3_takeSent 125 = .ok (.invokevirtual 48, 3) := by decide +kernel
theorem dX3_takeSent_128 : decode cX3_takeSent 128 = .ok (.invokevirtual 73, 3) := by decide +kernel
theorem dX3_takeSent_131 : decode cX3_takeSent 131 = .ok (.istore 5, 2) := by decide +kernel
theorem dX3_takeSent_133 : decode cX3_takeSent 133 = .ok (.aload_n 0, 1) := by decide +kernel
theorem dX3_takeSent_134 : decode cX3_takeSent 134 = .ok (.getfield 21, 3) := by decide +kernel
theorem dX3_takeSent_137 : decode cX3_takeSent 137 = .ok (.getfield 77, 3) := by decide +kernel
theorem dX3_takeSent_140 : decode cX3_takeSent 140 = .ok (.ifCond .ne 22, 3) := by decide +kernel
theorem dX3_takeSent_143 : decode cX3_takeSent 143 = .ok (.aload_n 0, 1) := by decide +kernel
theorem dX3_takeSent_144 : decode cX3_takeSent 144 = .ok (.getfield 55, 3) := by decide +kernel
theorem dX3_takeSent_147 : decode cX3_takeSent 147 = .ok (.ifCond .lt 15, 3) := by decide +kernel
theorem dX3_takeSent_150 : decode cX3_takeSent 150 = .ok (.aload_n 0, 1) := by decide +kernel
theorem dX3_takeSent_151 : decode cX3_takeSent 151 = .ok (.getfield 55, 3) := by decide +kernel
theorem dX3_takeSent_154 : decode cX3_takeSent 154 = .ok (.aload_n 0, 1) := by decide +kernel
theorem dX3_takeSent_155 : decode cX3_takeSent 155 = .ok (.getfield 28, 3) := by decide +kernel
theorem dX3_takeSent_158 : decode cX3_takeSent 158 = .ok (.arraylength, 1) := by decide +kernel
theorem dX3_takeSent_159 : decode cX3_takeSent 159 = .ok (.if_icmp .lt 4, 3) := by decide +kernel
theorem dX3_takeSent_163 : decode cX3_takeSent 163 = .ok (.aload_n 0, 1) := by decide +kernel
theorem dX3_takeSent_164 : decode cX3_takeSent 164 = .ok (.getfield 21, 3) := by decide +kernel
theorem dX3_takeSent_167 : decode cX3_takeSent 167 = .ok (.aload_n 0, 1) := by decide +kernel
theorem dX3_takeSent_168 : decode cX3_takeSent 168 = .ok (.getfield 38, 3) := by decide +kernel
theorem dX3_takeSent_171 : decode cX3_takeSent 171 = .ok (.iload 5, 2) := by decide +kernel
theorem dX3_takeSent_173 : decode cX3_takeSent 173 = .ok (.invokevirtual 66, 3) := by decide +kernel
theorem dX3_takeSent_176 : decode cX3_takeSent 176 = .ok (.aload_n 0, 1) := by decide +kernel
theorem dX3_takeSent_177 : decode cX3_takeSent 177 = .ok (.getfield 21, 3) := by decide +kernel
theorem dX3_takeSent_180 : decode cX3_takeSent 180 = .ok (.aload_n 0, 1) := by decide +kernel
theorem dX3_takeSent_181 : decode cX3_takeSent 181 = .ok (.getfield 25, 3) := by decide +kernel
theorem dX3_takeSent_184 : decode cX3_takeSent 184 = .ok (.aload_n 0, 1) := by decide +kernel
theorem dX3_takeSent_185 : decode cX3_takeSent 185 = .ok (.getfield 55, 3) := by decide +kernel
theorem dX3_takeSent_188 : decode cX3_takeSent 188 = .ok (.iadd, 1) := by decide +kernel
theorem dX3_takeSent_189 : decode cX3_takeSent 189 = .ok (.aload_n 0, 1) := by decide +kernel
theorem dX3_takeSent_190 : decode cX3_takeSent 190 = .ok (.getfield 21, 3) := by decide +kernel
theorem dX3_takeSent_193 : decode cX3_takeSent 193 = .ok (.iload 4, 2) := by decide +kernel
theorem dX3_takeSent_195 : decode cX3_takeSent 195 = .ok (.iconst 1, 1) := by decide +kernel
theorem dX3_takeSent_196 : decode cX3_takeSent 196 = .ok (.iadd, 1) := by decide +kernel
theorem dX3_takeSent_197 : decode cX3_takeSent 197 = .ok (.invokevirtual 48, 3) := by decide +kernel
theorem dX3_takeSent_200 : decode cX3_takeSent 200 = .ok (.invokevirtual 66, 3) := by decide +kernel
theorem dX3_takeSent_203 : decode cX3_takeSent 203 = .ok (.aload_n 0, 1) := by decide +kernel
theorem dX3_takeSent_204 : decode cX3_takeSent 204 = .ok (.getfield 28, 3) := by decide +kernel
theorem dX3_takeSent_207 : decode cX3_takeSent 207 = .ok (.aload_n 0, 1) := by decide +kernel
theorem dX3_takeSent_208 : decode cX3_takeSent 208 = .ok (.getfield 55, 3) := by decide +kernel
theorem dX3_takeSent_211 : decode cX3_takeSent 211 = .ok (.iload_n 1, 1) := by decide +kernel
theorem dX3_takeSent_212 : decode cX3_takeSent 212 = .ok (.iastore, 1) := by decide +kernel
theorem dX3_takeSent_213 : decode cX3_takeSent 213 = .ok (.aload_n 0, 1) := by decide +kernel
theorem dX3_takeSent_214 : decode cX3_takeSent 214 = .ok (.dup, 1) := by decide +kernel
theorem dX3_takeSent_215 : decode cX3_takeSent 215 = .ok (.getfield 55, 3) := by decide +kernel
theorem dX3_takeSent_218 : decode cX3_takeSent 218 = .ok (.iconst 1, 1) := by decide +kernel
theorem dX3_takeSent_219 : decode cX3_takeSent 219 = .ok (.iadd, 1) := by decide +kernel
theorem dX3_takeSent_220 : decode cX3_takeSent 220 = .ok (.putfield 55, 3) := by decide +kernel
theorem dX3_takeSent_223 : decode cX3_takeSent 223 = .ok (.aload_n 3, 1) := by decide +kernel
theorem dX3_takeSent_224 : decode cX3_takeSent 224 = .ok (.iconst 1, 1) := by decide +kernel
theorem dX3_takeSent_225 : decode cX3_takeSent 225 = .ok (.putfield 81, 3) := by decide +kernel
theorem dX3_takeSent_228 : decode cX3_takeSent 228 = .ok (.return_, 1) := by decide +kernel
theorem dX0_hearNext_0 : decode cX0_hearNext 0 = .ok (.aload_n 0, 1) := by decide +kernel
theorem dX0_hearNext_1 : decode cX0_hearNext 1 = .ok (.getfield 110, 3) := by decide +kernel
theorem dX0_hearNext_4 : decode cX0_hearNext 4 = .ok (.aload_n 2, 1) := by decide +kernel
theorem dX0_hearNext_5 : decode cX0_hearNext 5 = .ok (.arraylength, 1) := by decide +kernel
theorem dX0_hearNext_6 : decode cX0_hearNext 6 = .ok (.if_icmp .ge 20, 3) := by decide +kernel
theorem dX0_hearNext_9 : decode cX0_hearNext 9 = .ok (.aload_n 2, 1) := by decide +kernel
theorem dX0_hearNext_10 : decode cX0_hearNext 10 = .ok (.aload_n 0, 1) := by decide +kernel
theorem dX0_hearNext_11 : decode cX0_hearNext 11 = .ok (.getfield 110, 3) := by decide +kernel
theorem dX0_hearNext_14 : decode cX0_hearNext 14 = .ok (.iaload, 1) := by decide +kernel
theorem dX0_hearNext_15 : decode cX0_hearNext 15 = .ok (.aload_n 0, 1) := by decide +kernel
theorem dX0_hearNext_16 : decode cX0_hearNext 16 = .ok (.getfield 11, 3) := by decide +kernel
theorem dX0_hearNext_19 : decode cX0_hearNext 19 = .ok (.if_icmp .ne 7, 3) := by decide +kernel
theorem dX0_hearNext_22 : decode cX0_hearNext 22 = .ok (.iconst 1, 1) := by decide +kernel
theorem dX0_hearNext_23 : decode cX0_hearNext 23 = .ok (.goto 4, 3) := by decide +kernel
theorem dX0_hearNext_26 : decode cX0_hearNext 26 = .ok (.iconst 0, 1) := by decide +kernel
theorem dX0_hearNext_27 : decode cX0_hearNext 27 = .ok (.istore 4, 2) := by decide +kernel
theorem dX0_hearNext_29 : decode cX0_hearNext 29 = .ok (.aload_n 3, 1) := by decide +kernel
theorem dX0_hearNext_30 : decode cX0_hearNext 30 = .ok (.getfield 81, 3) := by decide +kernel
theorem dX0_hearNext_33 : decode cX0_hearNext 33 = .ok (.istore 5, 2) := by decide +kernel
theorem dX0_hearNext_35 : decode cX0_hearNext 35 = .ok (.aload_n 0, 1) := by decide +kernel
theorem dX0_hearNext_36 : decode cX0_hearNext 36 = .ok (.getfield 15, 3) := by decide +kernel
theorem dX0_hearNext_39 : decode cX0_hearNext 39 = .ok (.iload 5, 2) := by decide +kernel
theorem dX0_hearNext_41 : decode cX0_hearNext 41 = .ok (.iconst 1, 1) := by decide +kernel
theorem dX0_hearNext_42 : decode cX0_hearNext 42 = .ok (.iadd, 1) := by decide +kernel
theorem dX0_hearNext_43 : decode cX0_hearNext 43 = .ok (.aload_n 0, 1) := by decide +kernel
theorem dX0_hearNext_44 : decode cX0_hearNext 44 = .ok (.getfield 15, 3) := by decide +kernel
theorem dX0_hearNext_47 : decode cX0_hearNext 47 = .ok (.iload_n 1, 1) := by decide +kernel
theorem dX0_hearNext_48 : decode cX0_hearNext 48 = .ok (.aload_n 0, 1) := by decide +kernel
theorem dX0_hearNext_49 : decode cX0_hearNext 49 = .ok (.getfield 110, 3) := by decide +kernel
theorem dX0_hearNext_52 : decode cX0_hearNext 52 = .ok (.iadd, 1) := by decide +kernel
theorem dX0_hearNext_53 : decode cX0_hearNext 53 = .ok (.invokevirtual 28, 3) := by decide +kernel
theorem dX0_hearNext_56 : decode cX0_hearNext 56 = .ok (.invokevirtual 70, 3) := by decide +kernel
theorem dX0_hearNext_59 : decode cX0_hearNext 59 = .ok (.aload_n 0, 1) := by decide +kernel
theorem dX0_hearNext_60 : decode cX0_hearNext 60 = .ok (.dup, 1) := by decide +kernel
theorem dX0_hearNext_61 : decode cX0_hearNext 61 = .ok (.getfield 110, 3) := by decide +kernel
theorem dX0_hearNext_64 : decode cX0_hearNext 64 = .ok (.iconst 1, 1) := by decide +kernel
theorem dX0_hearNext_65 : decode cX0_hearNext 65 = .ok (.iadd, 1) := by decide +kernel
theorem dX0_hearNext_66 : decode cX0_hearNext 66 = .ok (.putfield 110, 3) := by decide +kernel
theorem dX0_hearNext_69 : decode cX0_hearNext 69 = .ok (.iload 4, 2) := by decide +kernel
theorem dX0_hearNext_71 : decode cX0_hearNext 71 = .ok (.ifCond .eq 8, 3) := by decide +kernel
theorem dX0_hearNext_74 : decode cX0_hearNext 74 = .ok (.aload_n 0, 1) := by decide +kernel
theorem dX0_hearNext_75 : decode cX0_hearNext 75 = .ok (.invokevirtual 113, 3) := by decide +kernel
theorem dX0_hearNext_78 : decode cX0_hearNext 78 = .ok (.return_, 1) := by decide +kernel
theorem dX0_hearNext_79 : decode cX0_hearNext 79 = .ok (.iconst 0, 1) := by decide +kernel
theorem dX0_hearNext_80 : decode cX0_hearNext 80 = .ok (.istore 6, 2) := by decide +kernel
theorem dX0_hearNext_82 : decode cX0_hearNext 82 = .ok (.iload 6, 2) := by decide +kernel
theorem dX0_hearNext_84 : decode cX0_hearNext 84 = .ok (.iconst 3, 1) := by decide +kernel
theorem dX0_hearNext_85 : decode cX0_hearNext 85 = .ok (.if_icmp .ge 338, 3) := by decide +kernel
theorem dX0_hearNext_88 : decode cX0_hearNext 88 = .ok (.iload 6, 2) := by decide +kernel
theorem dX0_hearNext_90 : decode cX0_hearNext 90 = .ok (.iconst 1, 1) := by decide +kernel
theorem dX0_hearNext_91 : decode cX0_hearNext 91 = .ok (.if_icmp .ne 139, 3) := by decide +kernel
theorem dX0_hearNext_94 : decode cX0_hearNext 94 = .ok (.aload_n 0, 1) := by decide +kernel
theorem dX0_hearNext_95 : decode cX0_hearNext 95 = .ok (.getfield 15, 3) := by decide +kernel
theorem dX0_hearNext_98 : decode cX0_hearNext 98 = .ok (.iload 5, 2) := by decide +kernel
theorem dX0_hearNext_100 : decode cX0_hearNext 100 = .ok (.iconst 2, 1) := by decide +kernel
theorem dX0_hearNext_101 : decode cX0_hearNext 101 = .ok (.iadd, 1) := by decide +kernel
theorem dX0_hearNext_102 : decode cX0_hearNext 102 = .ok (.aload_n 0, 1) := by decide +kernel
theorem dX0_hearNext_103 : decode cX0_hearNext 103 = .ok (.getfield 15, 3) := by decide +kernel
theorem dX0_hearNext_106 : decode cX0_hearNext 106 = .ok (.iload 5, 2) := by decide +kernel
theorem dX0_hearNext_108 : decode cX0_hearNext 108 = .ok (.iconst 1, 1) := by decide +kernel
theorem dX0_hearNext_109 : decode cX0_hearNext 109 = .ok (.iadd, 1) := by decide +kernel
theorem dX0_hearNext_110 : decode cX0_hearNext 110 = .ok (.invokevirtual 28, 3) := by decide +kernel
theorem dX0_hearNext_113 : decode cX0_hearNext 113 = .ok (.invokevirtual 70, 3) := by decide +kernel
theorem dX0_hearNext_116 : decode cX0_hearNext 116 = .ok (.aload_n 0, 1) := by decide +kernel
theorem dX0_hearNext_117 : decode cX0_hearNext 117 = .ok (.getfield 15, 3) := by decide +kernel
theorem dX0_hearNext_120 : decode cX0_hearNext 120 = .ok (.aload_n 0, 1) := by decide +kernel
theorem dX0_hearNext_121 : decode cX0_hearNext 121 = .ok (.getfield 25, 3) := by decide +kernel
theorem dX0_hearNext_124 : decode cX0_hearNext 124 = .ok (.iconst 0, 1) := by decide +kernel
theorem dX0_hearNext_125 : decode cX0_hearNext 125 = .ok (.iadd, 1) := by decide +kernel
theorem dX0_hearNext_126 : decode cX0_hearNext 126 = .ok (.aload_n 3, 1) := by decide +kernel
theorem dX0_hearNext_127 : decode cX0_hearNext 127 = .ok (.iconst 0, 1) := by decide +kernel
theorem dX0_hearNext_128 : decode cX0_hearNext 128 = .ok (.aload_n 0, 1) := by decide +kernel
theorem dX0_hearNext_129 : decode cX0_hearNext 129 = .ok (.getfield 15, 3) := by decide +kernel
theorem dX0_hearNext_132 : decode cX0_hearNext 132 = .ok (.aload_n 0, 1) := by decide +kernel
theorem dX0_hearNext_133 : decode cX0_hearNext 133 = .ok (.getfield 25, 3) := by decide +kernel
theorem dX0_hearNext_136 : decode cX0_hearNext 136 = .ok (.iconst 0, 1) := by decide +kernel
theorem dX0_hearNext_137 : decode cX0_hearNext 137 = .ok (.iadd, 1) := by decide +kernel
theorem dX0_hearNext_138 : decode cX0_hearNext 138 = .ok (.invokevirtual 28, 3) := by decide +kernel
theorem dX0_hearNext_141 : decode cX0_hearNext 141 = .ok (.aload_n 0, 1) := by decide +kernel
theorem dX0_hearNext_142 : decode cX0_hearNext 142 = .ok (.getfield 15, 3) := by decide +kernel
theorem dX0_hearNext_145 : decode cX0_hearNext 145 = .ok (.iload 5, 2) := by decide +kernel
theorem dX0_hearNext_147 : decode cX0_hearNext 147 = .ok (.iconst 2, 1) := by decide +kernel
theorem dX0_hearNext_148 : decode cX0_hearNext 148 = .ok (.iadd, 1) := by decide +kernel
theorem dX0_hearNext_149 : decode cX0_hearNext 149 = .ok (.invokevirtual 28, 3) := by decide +kernel
theorem dX0_hearNext_152 : decode cX0_hearNext 152 = .ok (.invokevirtual 86, 3) := by decide +kernel
theorem dX0_hearNext_155 : decode cX0_hearNext 155 = .ok (.invokevirtual 70, 3) := by decide +kernel
theorem dX0_hearNext_158 : decode cX0_hearNext 158 = .ok (.aload_n 3, 1) := by decide +kernel
theorem dX0_hearNext_159 : decode cX0_hearNext 159 = .ok (.iconst 4, 1) := by decide +kernel
theorem dX0_hearNext_160 : decode cX0_hearNext 160 = .ok (.aload_n 0, 1) := by decide +kernel
theorem dX0_hearNext_161 : decode cX0_hearNext 161 = .ok (.getfield 15, 3) := by decide +kernel
theorem dX0_hearNext_164 : decode cX0_hearNext 164 = .ok (.iload 5, 2) := by decide +kernel
theorem dX0_hearNext_166 : decode cX0_hearNext 166 = .ok (.iconst 2, 1) := by decide +kernel
theorem dX0_hearNext_167 : decode cX0_hearNext 167 = .ok (.iadd, 1) := by decide +kernel
theorem dX0_hearNext_168 : decode cX0_hearNext 168 = .ok (.invokevirtual 28, 3) := by decide +kernel
theorem dX0_hearNext_171 : decode cX0_hearNext 171 = .ok (.iconst 0, 1) := by decide +kernel
theorem dX0_hearNext_172 : decode cX0_hearNext 172 = .ok (.invokevirtual 86, 3) := by decide +kernel
theorem dX0_hearNext_175 : decode cX0_hearNext 175 = .ok (.pop, 1) := by decide +kernel
theorem dX0_hearNext_176 : decode cX0_hearNext 176 = .ok (.aload_n 0, 1) := by decide +kernel
theorem dX0_hearNext_177 : decode cX0_hearNext 177 = .ok (.aload_n 3, 1) := by decide +kernel
theorem dX0_hearNext_178 : decode cX0_hearNext 178 = .ok (.getfield 93, 3) := by decide +kernel
theorem dX0_hearNext_181 : decode cX0_hearNext 181 = .ok (.aload_n 0, 1) := by decide +kernel
theorem dX0_hearNext_182 : decode cX0_hearNext 182 = .ok (.getfield 15, 3) := by decide +kernel
theorem dX0_hearNext_185 : decode cX0_hearNext 185 = .ok (.iload 5, 2) := by decide +kernel
theorem dX0_hearNext_187 : decode cX0_hearNext 187 = .ok (.iconst 2, 1) := by decide +kernel
theorem dX0_hearNext_188 : decode cX0_hearNext 188 = .ok (.iadd, 1) := by decide +kernel
theorem dX0_hearNext_189 : decode cX0_hearNext 189 = .ok (.invokevirtual 28, 3) := by decide +kernel
theorem dX0_hearNext_192 : decode cX0_hearNext 192 = .ok (.aload_n 0, 1) := by decide +kernel
theorem dX0_hearNext_193 : decode cX0_hearNext 193 = .ok (.getfield 97, 3) := by decide +kernel
theorem dX0_hearNext_196 : decode cX0_hearNext 196 = .ok (.iconst 0, 1) := by decide +kernel
theorem dX0_hearNext_197 : decode cX0_hearNext 197 = .ok (.invokevirtual 101, 3) := by decide +kernel
theorem dX0_hearNext_200 : decode cX0_hearNext 200 = .ok (.putfield 97, 3) := by decide +kernel
theorem dX0_hearNext_203 : decode cX0_hearNext 203 = .ok (.aload_n 0, 1) := by decide +kernel
theorem dX0_hearNext_204 : decode cX0_hearNext 204 = .ok (.aload_n 3, 1) := by decide +kernel
theorem dX0_hearNext_205 : decode cX0_hearNext 205 = .ok (.getfield 93, 3) := by decide +kernel
theorem dX0_hearNext_208 : decode cX0_hearNext 208 = .ok (.aload_n 0, 1) := by decide +kernel
theorem dX0_hearNext_209 : decode cX0_hearNext 209 = .ok (.getfield 15, 3) := by decide +kernel
theorem dX0_hearNext_212 : decode cX0_hearNext 212 = .ok (.iload 5, 2) := by decide +kernel
theorem dX0_hearNext_214 : decode cX0_hearNext 214 = .ok (.iconst 2, 1) := by decide +kernel
theorem dX0_hearNext_215 : decode cX0_hearNext 215 = .ok (.iadd, 1) := by decide +kernel
theorem dX0_hearNext_216 : decode cX0_hearNext 216 = .ok (.invokevirtual 28, 3) := by decide +kernel
theorem dX0_hearNext_219 : decode cX0_hearNext 219 = .ok (.aload_n 0, 1) := by decide +kernel
theorem dX0_hearNext_220 : decode cX0_hearNext 220 = .ok (.getfield 107, 3) := by decide +kernel
theorem dX0_hearNext_223 : decode cX0_hearNext 223 = .ok (.iconst 0, 1) := by decide +kernel
theorem dX0_hearNext_224 : decode cX0_hearNext 224 = .ok (.invokevirtual 101, 3) := by decide +kernel
theorem dX0_hearNext_227 : decode cX0_hearNext 227 = .ok (.putfield 107, 3) := by decide +kernel
theorem dX0_hearNext_230 : decode cX0_hearNext 230 = .ok (.iload 6, 2) := by decide +kernel
theorem dX0_hearNext_232 : decode cX0_hearNext 232 = .ok (.iconst 2, 1) := by decide +kernel
theorem dX0_hearNext_233 : decode cX0_hearNext 233 = .ok (.if_icmp .ne 25, 3) := by decide +kernel
theorem dX0_hearNext_236 : decode cX0_hearNext 236 = .ok (.aload_n 0, 1) := by decide +kernel
theorem dX0_hearNext_237 : decode cX0_hearNext 237 = .ok (.getfield 15, 3) := by decide +kernel
theorem dX0_hearNext_240 : decode cX0_hearNext 240 = .ok (.iload 5, 2) := by decide +kernel
theorem dX0_hearNext_242 : decode cX0_hearNext 242 = .ok (.iconst 1, 1) := by decide +kernel
theorem dX0_hearNext_243 : decode cX0_hearNext 243 = .ok (.iadd, 1) := by decide +kernel
theorem dX0_hearNext_244 : decode cX0_hearNext 244 = .ok (.aload_n 0, 1) := by decide +kernel
theorem dX0_hearNext_245 : decode cX0_hearNext 245 = .ok (.getfield 15, 3) := by decide +kernel
theorem dX0_hearNext_248 : decode cX0_hearNext 248 = .ok (.iload 5, 2) := by decide +kernel
theorem dX0_hearNext_250 : decode cX0_hearNext 250 = .ok (.iconst 2, 1) := by decide +kernel
theorem dX0_hearNext_251 : decode cX0_hearNext 251 = .ok (.iadd, 1) := by decide +kernel
theorem dX0_hearNext_252 : decode cX0_hearNext 252 = .ok (.invokevirtual 28, 3) := by decide +kernel
theorem dX0_hearNext_255 : decode cX0_hearNext 255 = .ok (.invokevirtual 70, 3) := by decide +kernel
theorem dX0_hearNext_258 : decode cX0_hearNext 258 = .ok (.aload_n 0, 1) := by decide +kernel
theorem dX0_hearNext_259 : decode cX0_hearNext 259 = .ok (.iload 6, 2) := by decide +kernel
theorem dX0_hearNext_261 : decode cX0_hearNext 261 = .ok (.invokevirtual 116, 3) := by decide +kernel
theorem dX0_hearNext_264 : decode cX0_hearNext 264 = .ok (.istore 7, 2) := by decide +kernel
theorem dX0_hearNext_266 : decode cX0_hearNext 266 = .ok (.iconst 0, 1) := by decide +kernel
theorem dX0_hearNext_267 : decode cX0_hearNext 267 = .ok (.istore 8, 2) := by decide +kernel
theorem dX0_hearNext_269 : decode cX0_hearNext 269 = .ok (.iload 8, 2) := by decide +kernel
theorem dX0_hearNext_271 : decode cX0_hearNext 271 = .ok (.iload 7, 2) := by decide +kernel
theorem dX0_hearNext_273 : decode cX0_hearNext 273 = .ok (.if_icmp .ge 144, 3) := by decide +kernel
theorem dX0_hearNext_276 : decode cX0_hearNext 276 = .ok (.iload 6, 2) := by decide +kernel
theorem dX0_hearNext_278 : decode cX0_hearNext 278 = .ok (.ifCond .ne 10, 3) := by decide +kernel
theorem dX0_hearNext_281 : decode cX0_hearNext 281 = .ok (.iconst 1, 1) := by decide +kernel
theorem dX0_hearNext_282 : decode cX0_hearNext 282 = .ok (.iload 8, 2) := by decide +kernel
theorem dX0_hearNext_284 : decode cX0_hearNext 284 = .ok (.iadd, 1) := by decide +kernel
theorem dX0_hearNext_285 : decode cX0_hearNext 285 = .ok (.goto 17, 3) := by decide +kernel
theorem dX0_hearNext_288 : decode cX0_hearNext 288 = .ok (.iload 6, 2) := by decide +kernel
theorem dX0_hearNext_290 : decode cX0_hearNext 290 = .ok (.iconst 1, 1) := by decide +kernel
theorem dX0_hearNext_291 : decode cX0_hearNext 291 = .ok (.isub, 1) := by decide +kernel
theorem dX0_hearNext_292 : decode cX0_hearNext 292 = .ok (.iload 7, 2) := by decide +kernel
theorem dX0_hearNext_294 : decode cX0_hearNext 294 = .ok (.iconst 1, 1) := by decide +kernel
theorem dX0_hearNext_295 : decode cX0_hearNext 295 = .ok (.isub, 1) := by decide +kernel
theorem dX0_hearNext_296 : decode cX0_hearNext 296 = .ok (.iload 8, 2) := by decide +kernel
theorem dX0_hearNext_298 : decode cX0_hearNext 298 = .ok (.isub, 1) := by decide +kernel
theorem dX0_hearNext_299 : decode cX0_hearNext 299 = .ok (.invokestatic 66, 3) := by decide +kernel
theorem dX0_hearNext_302 : decode cX0_hearNext 302 = .ok (.istore 9, 2) := by decide +kernel
theorem dX0_hearNext_304 : decode cX0_hearNext 304 = .ok (.aload_n 0, 1) := by decide +kernel
theorem dX0_hearNext_305 : decode cX0_hearNext 305 = .ok (.getfield 15, 3) := by decide +kernel
theorem dX0_hearNext_308 : decode cX0_hearNext 308 = .ok (.iload 5, 2) := by decide +kernel
theorem dX0_hearNext_310 : decode cX0_hearNext 310 = .ok (.iconst 3, 1) := by decide +kernel
theorem dX0_hearNext_311 : decode cX0_hearNext 311 = .ok (.iadd, 1) := by decide +kernel
theorem dX0_hearNext_312 : decode cX0_hearNext 312 = .ok (.aload_n 3, 1) := by decide +kernel
theorem dX0_hearNext_313 : decode cX0_hearNext 313 = .ok (.iconst 1, 1) := by decide +kernel
theorem dX0_hearNext_314 : decode cX0_hearNext 314 = .ok (.aload_n 0, 1) := by decide +kernel
theorem dX0_hearNext_315 : decode cX0_hearNext 315 = .ok (.getfield 15, 3) := by decide +kernel
theorem dX0_hearNext_318 : decode cX0_hearNext 318 = .ok (.aload_n 0, 1) := by decide +kernel
theorem dX0_hearNext_319 : decode cX0_hearNext 319 = .ok (.getfield 25, 3) := by decide +kernel
theorem dX0_hearNext_322 : decode cX0_hearNext 322 = .ok (.iload 9, 2) := by decide +kernel
theorem dX0_hearNext_324 : decode cX0_hearNext 324 = .ok (.iadd, 1) := by decide +kernel
theorem dX0_hearNext_325 : decode cX0_hearNext 325 = .ok (.invokevirtual 28, 3) := by decide +kernel
theorem dX0_hearNext_328 : decode cX0_hearNext 328 = .ok (.aload_n 0, 1) := by decide +kernel
theorem dX0_hearNext_329 : decode cX0_hearNext 329 = .ok (.getfield 15, 3) := by decide +kernel
theorem dX0_hearNext_332 : decode cX0_hearNext 332 = .ok (.iload 5, 2) := by decide +kernel
theorem dX0_hearNext_334 : decode cX0_hearNext 334 = .ok (.iconst 1, 1) := by decide +kernel
theorem dX0_hearNext_335 : decode cX0_hearNext 335 = .ok (.iadd, 1) := by decide +kernel
theorem dX0_hearNext_336 : decode cX0_hearNext 336 = .ok (.invokevirtual 28, 3) := by decide +kernel
theorem dX0_hearNext_339 : decode cX0_hearNext 339 = .ok (.invokevirtual 86, 3) := by decide +kernel
theorem dX0_hearNext_342 : decode cX0_hearNext 342 = .ok (.invokevirtual 70, 3) := by decide +kernel
theorem dX0_hearNext_345 : decode cX0_hearNext 345 = .ok (.aload_n 0, 1) := by decide +kernel
theorem dX0_hearNext_346 : decode cX0_hearNext 346 = .ok (.getfield 15, 3) := by decide +kernel
theorem dX0_hearNext_349 : decode cX0_hearNext 349 = .ok (.iload 5, 2) := by decide +kernel
theorem dX0_hearNext_351 : decode cX0_hearNext 351 = .ok (.iconst 1, 1) := by decide +kernel
theorem dX0_hearNext_352 : decode cX0_hearNext 352 = .ok (.iadd, 1) := by decide +kernel
theorem dX0_hearNext_353 : decode cX0_hearNext 353 = .ok (.aload_n 3, 1) := by decide +kernel
theorem dX0_hearNext_354 : decode cX0_hearNext 354 = .ok (.iconst 2, 1) := by decide +kernel
theorem dX0_hearNext_355 : decode cX0_hearNext 355 = .ok (.aload_n 0, 1) := by decide +kernel
theorem dX0_hearNext_356 : decode cX0_hearNext 356 = .ok (.getfield 15, 3) := by decide +kernel
theorem dX0_hearNext_359 : decode cX0_hearNext 359 = .ok (.iload 5, 2) := by decide +kernel
theorem dX0_hearNext_361 : decode cX0_hearNext 361 = .ok (.iconst 1, 1) := by decide +kernel
theorem dX0_hearNext_362 : decode cX0_hearNext 362 = .ok (.iadd, 1) := by decide +kernel
theorem dX0_hearNext_363 : decode cX0_hearNext 363 = .ok (.invokevirtual 28, 3) := by decide +kernel
theorem dX0_hearNext_366 : decode cX0_hearNext 366 = .ok (.aload_n 0, 1) := by decide +kernel
theorem dX0_hearNext_367 : decode cX0_hearNext 367 = .ok (.getfield 15, 3) := by decide +kernel
theorem dX0_hearNext_370 : decode cX0_hearNext 370 = .ok (.aload_n 0, 1) := by decide +kernel
theorem dX0_hearNext_371 : decode cX0_hearNext 371 = .ok (.getfield 25, 3) := by decide +kernel
theorem dX0_hearNext_374 : decode cX0_hearNext 374 = .ok (.iload 9, 2) := by decide +kernel
theorem dX0_hearNext_376 : decode cX0_hearNext 376 = .ok (.iadd, 1) := by decide +kernel
theorem dX0_hearNext_377 : decode cX0_hearNext 377 = .ok (.invokevirtual 28, 3) := by decide +kernel
theorem dX0_hearNext_380 : decode cX0_hearNext 380 = .ok (.invokevirtual 86, 3) := by decide +kernel
theorem dX0_hearNext_383 : decode cX0_hearNext 383 = .ok (.invokevirtual 70, 3) := by decide +kernel
theorem dX0_hearNext_386 : decode cX0_hearNext 386 = .ok (.aload_n 0, 1) := by decide +kernel
theorem dX0_hearNext_387 : decode cX0_hearNext 387 = .ok (.getfield 15, 3) := by decide +kernel
theorem dX0_hearNext_390 : decode cX0_hearNext 390 = .ok (.aload_n 0, 1) := by decide +kernel
theorem dX0_hearNext_391 : decode cX0_hearNext 391 = .ok (.getfield 25, 3) := by decide +kernel
theorem dX0_hearNext_394 : decode cX0_hearNext 394 = .ok (.iload 9, 2) := by decide +kernel
theorem dX0_hearNext_396 : decode cX0_hearNext 396 = .ok (.iadd, 1) := by decide +kernel
theorem dX0_hearNext_397 : decode cX0_hearNext 397 = .ok (.aload_n 0, 1) := by decide +kernel
theorem dX0_hearNext_398 : decode cX0_hearNext 398 = .ok (.getfield 15, 3) := by decide +kernel
theorem dX0_hearNext_401 : decode cX0_hearNext 401 = .ok (.iload 5, 2) := by decide +kernel
theorem dX0_hearNext_403 : decode cX0_hearNext 403 = .ok (.iconst 3, 1) := by decide +kernel
theorem dX0_hearNext_404 : decode cX0_hearNext 404 = .ok (.iadd, 1) := by decide +kernel
theorem dX0_hearNext_405 : decode cX0_hearNext 405 = .ok (.invokevirtual 28, 3) := by decide +kernel
theorem dX0_hearNext_408 : decode cX0_hearNext 408 = .ok (.invokevirtual 70, 3) := by decide +kernel
theorem dX0_hearNext_411 : decode cX0_hearNext 411 = .ok (.iinc 8 1, 3) := by decide +kernel
theorem dX0_hearNext_414 : decode cX0_hearNext 414 = .ok (.goto (-145), 3) := by decide +kernel
theorem dX0_hearNext_417 : decode cX0_hearNext 417 = .ok (.iinc 6 1, 3) := by decide +kernel
theorem dX0_hearNext_420 : decode cX0_hearNext 420 = .ok (.goto (-338), 3) := by decide +kernel
theorem dX0_hearNext_423 : decode cX0_hearNext 423 = .ok (.return_, 1) := by decide +kernel
theorem dX11_hasNoRoom_0 : decode cX11_hasNoRoom 0 = .ok (.aload_n 0, 1) := by decide +kernel
theorem dX11_hasNoRoom_1 : decode cX11_hasNoRoom 1 = .ok (.getfield 21, 3) := by decide +kernel
theorem dX11_hasNoRoom_4 : decode cX11_hasNoRoom 4 = .ok (.invokevirtual 198, 3) := by decide +kernel
theorem dX11_hasNoRoom_7 : decode cX11_hasNoRoom 7 = .ok (.istore_n 2, 1) := by decide +kernel
theorem dX11_hasNoRoom_8 : decode cX11_hasNoRoom 8 = .ok (.iload_n 2, 1) := by decide +kernel
theorem dX11_hasNoRoom_9 : decode cX11_hasNoRoom 9 = .ok (.ifCond .eq 11, 3) := by decide +kernel
theorem dX11_hasNoRoom_20 : decode cX11_hasNoRoom 20 = .ok (.aload_n 0, 1) := by decide +kernel
theorem dX11_hasNoRoom_21 : decode cX11_hasNoRoom 21 = .ok (.getfield 21, 3) := by decide +kernel
theorem dX11_hasNoRoom_24 : decode cX11_hasNoRoom 24 = .ok (.aload_n 0, 1) := by decide +kernel
theorem dX11_hasNoRoom_25 : decode cX11_hasNoRoom 25 = .ok (.getfield 88, 3) := by decide +kernel
theorem dX11_hasNoRoom_28 : decode cX11_hasNoRoom 28 = .ok (.getfield 323, 3) := by decide +kernel
theorem dX11_hasNoRoom_31 : decode cX11_hasNoRoom 31 = .ok (.bipush 43, 2) := by decide +kernel
theorem dX11_hasNoRoom_33 : decode cX11_hasNoRoom 33 = .ok (.invokevirtual 201, 3) := by decide +kernel
theorem dX11_hasNoRoom_36 : decode cX11_hasNoRoom 36 = .ok (.aload_n 0, 1) := by decide +kernel
theorem dX11_hasNoRoom_37 : decode cX11_hasNoRoom 37 = .ok (.getfield 21, 3) := by decide +kernel
theorem dX11_hasNoRoom_40 : decode cX11_hasNoRoom 40 = .ok (.aload_n 0, 1) := by decide +kernel
theorem dX11_hasNoRoom_41 : decode cX11_hasNoRoom 41 = .ok (.getfield 48, 3) := by decide +kernel
theorem dX11_hasNoRoom_44 : decode cX11_hasNoRoom 44 = .ok (.getfield 195, 3) := by decide +kernel
theorem dX11_hasNoRoom_47 : decode cX11_hasNoRoom 47 = .ok (.bipush 6, 2) := by decide +kernel
theorem dX11_hasNoRoom_49 : decode cX11_hasNoRoom 49 = .ok (.invokevirtual 201, 3) := by decide +kernel
theorem dX11_hasNoRoom_52 : decode cX11_hasNoRoom 52 = .ok (.iload_n 2, 1) := by decide +kernel
theorem dX11_hasNoRoom_53 : decode cX11_hasNoRoom 53 = .ok (.ireturn, 1) := by decide +kernel
theorem dX3_hasText_0 : decode cX3_hasText 0 = .ok (.iload_n 1, 1) := by decide +kernel
theorem dX3_hasText_1 : decode cX3_hasText 1 = .ok (.iconst 4, 1) := by decide +kernel
theorem dX3_hasText_2 : decode cX3_hasText 2 = .ok (.if_icmp .eq 11, 3) := by decide +kernel
theorem dX3_hasText_5 : decode cX3_hasText 5 = .ok (.aload_n 0, 1) := by decide +kernel
theorem dX3_hasText_6 : decode cX3_hasText 6 = .ok (.iload_n 1, 1) := by decide +kernel
theorem dX3_hasText_7 : decode cX3_hasText 7 = .ok (.invokevirtual 44, 3) := by decide +kernel
theorem dX3_hasText_10 : decode cX3_hasText 10 = .ok (.ifnull 7, 3) := by decide +kernel
theorem dX3_hasText_13 : decode cX3_hasText 13 = .ok (.iconst 1, 1) := by decide +kernel
theorem dX3_hasText_14 : decode cX3_hasText 14 = .ok (.goto 4, 3) := by decide +kernel
theorem dX3_hasText_17 : decode cX3_hasText 17 = .ok (.iconst 0, 1) := by decide +kernel
theorem dX3_hasText_18 : decode cX3_hasText 18 = .ok (.ireturn, 1) := by decide +kernel
theorem dX11_fetched_0 : decode cX11_fetched 0 = .ok (.aload_n 0, 1) := by decide +kernel
theorem dX11_fetched_1 : decode cX11_fetched 1 = .ok (.getfield 48, 3) := by decide +kernel
theorem dX11_fetched_4 : decode cX11_fetched 4 = .ok (.iconst 4, 1) := by decide +kernel
theorem dX11_fetched_5 : decode cX11_fetched 5 = .ok (.iload_n 1, 1) := by decide +kernel
theorem dX11_fetched_6 : decode cX11_fetched 6 = .ok (.iconst 0, 1) := by decide +kernel
theorem dX11_fetched_7 : decode cX11_fetched 7 = .ok (.invokevirtual 247, 3) := by decide +kernel
theorem dX11_fetched_10 : decode cX11_fetched 10 = .ok (.ireturn, 1) := by decide +kernel
theorem dX10_hold_0 : decode cX10_hold 0 = .ok (.iload_n 1, 1) := by decide +kernel
theorem dX10_hold_1 : decode cX10_hold 1 = .ok (.ifCond .lt 17, 3) := by decide +kernel
theorem dX10_hold_4 : decode cX10_hold 4 = .ok (.iload_n 1, 1) := by decide +kernel
theorem dX10_hold_5 : decode cX10_hold 5 = .ok (.sipush 512, 3) := by decide +kernel
theorem dX10_hold_8 : decode cX10_hold 8 = .ok (.if_icmp .ge 10, 3) := by decide +kernel
theorem dX10_hold_11 : decode cX10_hold 11 = .ok (.aload_n 0, 1) := by decide +kernel
theorem dX10_hold_12 : decode cX10_hold 12 = .ok (.getfield 11, 3) := by decide +kernel
theorem dX10_hold_15 : decode cX10_hold 15 = .ok (.iload_n 1, 1) := by decide +kernel
theorem dX10_hold_16 : decode cX10_hold 16 = .ok (.iload_n 2, 1) := by decide +kernel
theorem dX10_hold_17 : decode cX10_hold 17 = .ok (.iastore, 1) := by decide +kernel
theorem dX10_hold_18 : decode cX10_hold 18 = .ok (.return_, 1) := by decide +kernel
theorem dX10_letGo_0 : decode cX10_letGo 0 = .ok (.iconst 0, 1) := by decide +kernel
theorem dX10_letGo_1 : decode cX10_letGo 1 = .ok (.istore_n 3, 1) := by decide +kernel
theorem dX10_letGo_2 : decode cX10_letGo 2 = .ok (.iload_n 3, 1) := by decide +kernel
theorem dX10_letGo_3 : decode cX10_letGo 3 = .ok (.iload_n 2, 1) := by decide +kernel
theorem dX10_letGo_4 : decode cX10_letGo 4 = .ok (.if_icmp .ge 17, 3) := by decide +kernel
theorem dX10_letGo_7 : decode cX10_letGo 7 = .ok (.aload_n 0, 1) := by decide +kernel
theorem dX10_letGo_8 : decode cX10_letGo 8 = .ok (.iload_n 1, 1) := by decide +kernel
theorem dX10_letGo_9 : decode cX10_letGo 9 = .ok (.iload_n 3, 1) := by decide +kernel
theorem dX10_letGo_10 : decode cX10_letGo 10 = .ok (.iadd, 1) := by decide +kernel
theorem dX10_letGo_11 : decode cX10_letGo 11 = .ok (.iconst 0, 1) := by decide +kernel
theorem dX10_letGo_12 : decode cX10_letGo 12 = .ok (.invokevirtual 52, 3) := by decide +kernel
theorem dX10_letGo_15 : decode cX10_letGo 15 = .ok (.iinc 3 1, 3) := by decide +kernel
theorem dX10_letGo_18 : decode cX10_letGo 18 = .ok (.goto (-16), 3) := by decide +kernel
theorem dX10_letGo_21 : decode cX10_letGo 21 = .ok (.return_, 1) := by decide +kernel
theorem dX8_firstUnlikePlace_0 : decode cX8_firstUnlikePlace 0 = .ok (.iload_n 1, 1) := by decide +kernel
theorem dX8_firstUnlikePlace_1 : decode cX8_firstUnlikePlace 1 = .ok (.iload_n 2, 1) := by decide +kernel
theorem dX8_firstUnlikePlace_2 : decode cX8_firstUnlikePlace 2 = .ok (.if_icmp .ne 7, 3) := by decide +kernel
theorem dX8_firstUnlikePlace_5 : decode cX8_firstUnlikePlace 5 = .ok (.ldc2_w 126, 3) := by decide +kernel
theorem dX8_firstUnlikePlace_8 : decode cX8_firstUnlikePlace 8 = .ok (.lreturn, 1) := by decide +kernel
theorem dX11_told_0 : decode cX11_told 0 = .ok (.lload_n 0, 1) := by decide +kernel
theorem dX11_told_1 : decode cX11_told 1 = .ok (.ldc2_w 183, 3) := by decide +kernel
theorem dX11_told_4 : decode cX11_told 4 = .ok (.lcmp, 1) := by decide +kernel
theorem dX11_told_5 : decode cX11_told 5 = .ok (.ifCond .ge 8, 3) := by decide +kernel
theorem dX11_told_8 : decode cX11_told 8 = .ok (.lload_n 0, 1) := by decide +kernel
theorem dX11_told_9 : decode cX11_told 9 = .ok (.l2i, 1) := by decide +kernel
theorem dX11_told_10 : decode cX11_told 10 = .ok (.goto 5, 3) := by decide +kernel
theorem dX11_told_15 : decode cX11_told 15 = .ok (.ireturn, 1) := by decide +kernel
theorem dX11_isNumber_0 : decode cX11_isNumber 0 = .ok (.iload_n 0, 1) := by decide +kernel
theorem dX11_isNumber_1 : decode cX11_isNumber 1 = .ok (.ifCond .lt 13, 3) := by decide +kernel
theorem dX11_isNumber_4 : decode cX11_isNumber 4 = .ok (.iload_n 0, 1) := by decide +kernel
theorem dX11_isNumber_5 : decode cX11_isNumber 5 = .ok (.bipush 12, 2) := by decide +kernel
theorem dX11_isNumber_7 : decode cX11_isNumber 7 = .ok (.if_icmp .ge 7, 3) := by decide +kernel
theorem dX11_isNumber_10 : decode cX11_isNumber 10 = .ok (.iconst 1, 1) := by decide +kernel
theorem dX11_isNumber_11 : decode cX11_isNumber 11 = .ok (.goto 4, 3) := by decide +kernel
theorem dX11_isNumber_14 : decode cX11_isNumber 14 = .ok (.iconst 0, 1) := by decide +kernel
theorem dX11_isNumber_15 : decode cX11_isNumber 15 = .ok (.ireturn, 1) := by decide +kernel
theorem dX11_isEdit_0 : decode cX11_isEdit 0 = .ok (.iload_n 1, 1) := by decide +kernel
theorem dX11_isEdit_1 : decode cX11_isEdit 1 = .ok (.ifCond .lt 25, 3) := by decide +kernel
theorem dX11_isEdit_4 : decode cX11_isEdit 4 = .ok (.iload_n 1, 1) := by decide +kernel
theorem dX11_isEdit_5 : decode cX11_isEdit 5 = .ok (.aload_n 0, 1) := by decide +kernel
theorem dX11_isEdit_6 : decode cX11_isEdit 6 = .ok (.getfield 69, 3) := by decide +kernel
theorem dX11_isEdit_9 : decode cX11_isEdit 9 = .ok (.arraylength, 1) := by decide +kernel
theorem dX11_isEdit_10 : decode cX11_isEdit 10 = .ok (.if_icmp .ge 16, 3) := by decide +kernel
theorem dX11_isEdit_13 : decode cX11_isEdit 13 = .ok (.aload_n 0, 1) := by decide +kernel
theorem dX11_isEdit_14 : decode cX11_isEdit 14 = .ok (.getfield 69, 3) := by decide +kernel
theorem dX11_isEdit_17 : decode cX11_isEdit 17 = .ok (.iload_n 1, 1) := by decide +kernel
theorem dX11_isEdit_18 : decode cX11_isEdit 18 = .ok (.baload, 1) := by decide +kernel
theorem dX11_isEdit_19 : decode cX11_isEdit 19 = .ok (.ifCond .eq 7, 3) := by decide +kernel
theorem dX11_isEdit_26 : decode cX11_isEdit 26 = .ok (.iconst 0, 1) := by decide +kernel
theorem dX11_isEdit_27 : decode cX11_isEdit 27 = .ok (.ireturn, 1) := by decide +kernel
theorem dX0_told_0 : decode cX0_told 0 = .ok (.aload_n 0, 1) := by decide +kernel
theorem dX0_told_1 : decode cX0_told 1 = .ok (.iload_n 1, 1) := by decide +kernel
theorem dX0_told_2 : decode cX0_told 2 = .ok (.invokevirtual 53, 3) := by decide +kernel
theorem dX0_told_5 : decode cX0_told 5 = .ok (.ifCond .ne 5, 3) := by decide +kernel
theorem dX0_told_8 : decode cX0_told 8 = .ok (.iconst 0, 1) := by decide +kernel
theorem dX0_told_9 : decode cX0_told 9 = .ok (.ireturn, 1) := by decide +kernel
theorem dX0_told_10 : decode cX0_told 10 = .ok (.iload_n 1, 1) := by decide +kernel
theorem dX0_told_11 : decode cX0_told 11 = .ok (.iconst 2, 1) := by decide +kernel
theorem dX0_told_12 : decode cX0_told 12 = .ok (.if_icmp .ge 21, 3) := by decide +kernel
theorem dX0_told_15 : decode cX0_told 15 = .ok (.aload_n 0, 1) := by decide +kernel
theorem dX0_told_16 : decode cX0_told 16 = .ok (.getfield 15, 3) := by decide +kernel
theorem dX0_told_19 : decode cX0_told 19 = .ok (.aload_n 0, 1) := by decide +kernel
theorem dX0_told_20 : decode cX0_told 20 = .ok (.getfield 25, 3) := by decide +kernel
theorem dX0_told_23 : decode cX0_told 23 = .ok (.iconst 1, 1) := by decide +kernel
theorem dX0_told_24 : decode cX0_told 24 = .ok (.iadd, 1) := by decide +kernel
theorem dX0_told_25 : decode cX0_told 25 = .ok (.iload_n 1, 1) := by decide +kernel
theorem dX0_told_26 : decode cX0_told 26 = .ok (.iadd, 1) := by decide +kernel
theorem dX0_told_27 : decode cX0_told 27 = .ok (.invokevirtual 28, 3) := by decide +kernel
theorem dX0_told_30 : decode cX0_told 30 = .ok (.goto 10, 3) := by decide +kernel
theorem dX0_told_40 : decode cX0_told 40 = .ok (.ireturn, 1) := by decide +kernel
theorem dX8_sumOf_0 : decode cX8_sumOf 0 = .ok (.aload_n 0, 1) := by decide +kernel
theorem dX8_sumOf_1 : decode cX8_sumOf 1 = .ok (.getfield 23, 3) := by decide +kernel
theorem dX8_sumOf_4 : decode cX8_sumOf 4 = .ok (.bipush 17, 2) := by decide +kernel
theorem dX8_sumOf_6 : decode cX8_sumOf 6 = .ok (.if_icmp .ge 23, 3) := by decide +kernel
theorem dX8_sumOf_9 : decode cX8_sumOf 9 = .ok (.iconst 4, 1) := by decide +kernel
theorem dX8_sumOf_10 : decode cX8_sumOf 10 = .ok (.aload_n 0, 1) := by decide +kernel
theorem dX8_sumOf_11 : decode cX8_sumOf 11 = .ok (.getfield 23, 3) := by decide +kernel
theorem dX8_sumOf_14 : decode cX8_sumOf 14 = .ok (.ishl, 1) := by decide +kernel
theorem dX8_sumOf_15 : decode cX8_sumOf 15 = .ok (.aload_n 0, 1) := by decide +kernel
theorem dX8_sumOf_16 : decode cX8_sumOf 16 = .ok (.getfield 51, 3) := by decide +kernel
theorem dX8_sumOf_19 : decode cX8_sumOf 19 = .ok (.getfield 64, 3) := by decide +kernel
theorem dX8_sumOf_22 : decode cX8_sumOf 22 = .ok (.if_icmp .ge 7, 3) := by decide +kernel
theorem dX8_sumOf_29 : decode cX8_sumOf 29 = .ok (.iconst 0, 1) := by decide +kernel
theorem dX8_sumOf_30 : decode cX8_sumOf 30 = .ok (.istore_n 3, 1) := by decide +kernel
theorem dX8_sumOf_31 : decode cX8_sumOf 31 = .ok (.iload_n 1, 1) := by decide +kernel
theorem dX8_sumOf_32 : decode cX8_sumOf 32 = .ok (.aload_n 0, 1) := by decide +kernel
theorem dX8_sumOf_33 : decode cX8_sumOf 33 = .ok (.getfield 27, 3) := by decide +kernel
theorem dX8_sumOf_36 : decode cX8_sumOf 36 = .ok (.if_icmp .ne 21, 3) := by decide +kernel
theorem dX8_sumOf_57 : decode cX8_sumOf 57 = .ok (.aload_n 0, 1) := by decide +kernel
theorem dX8_sumOf_58 : decode cX8_sumOf 58 = .ok (.iload_n 1, 1) := by decide +kernel
theorem dX8_sumOf_59 : decode cX8_sumOf 59 = .ok (.putfield 27, 3) := by decide +kernel
theorem dX8_sumOf_62 : decode cX8_sumOf 62 = .ok (.aload_n 0, 1) := by decide +kernel
theorem dX8_sumOf_63 : decode cX8_sumOf 63 = .ok (.aload_n 0, 1) := by decide +kernel
theorem dX8_sumOf_64 : decode cX8_sumOf 64 = .ok (.getfield 51, 3) := by decide +kernel
theorem dX8_sumOf_67 : decode cX8_sumOf 67 = .ok (.getfield 70, 3) := by decide +kernel
theorem dX8_sumOf_70 : decode cX8_sumOf 70 = .ok (.putfield 67, 3) := by decide +kernel
theorem dX8_sumOf_73 : decode cX8_sumOf 73 = .ok (.aload_n 0, 1) := by decide +kernel
theorem dX8_sumOf_74 : decode cX8_sumOf 74 = .ok (.getfield 23, 3) := by decide +kernel
theorem dX8_sumOf_77 : decode cX8_sumOf 77 = .ok (.bipush 17, 2) := by decide +kernel
theorem dX8_sumOf_79 : decode cX8_sumOf 79 = .ok (.if_icmp .ge 32, 3) := by decide +kernel
theorem dX8_sumOf_82 : decode cX8_sumOf 82 = .ok (.iconst 4, 1) := by decide +kernel
theorem dX8_sumOf_83 : decode cX8_sumOf 83 = .ok (.aload_n 0, 1) := by decide +kernel
theorem dX8_sumOf_84 : decode cX8_sumOf 84 = .ok (.getfield 23, 3) := by decide +kernel
theorem dX8_sumOf_87 : decode cX8_sumOf 87 = .ok (.ishl, 1) := by decide +kernel
theorem dX8_sumOf_88 : decode cX8_sumOf 88 = .ok (.aload_n 0, 1) := by decide +kernel
theorem dX8_sumOf_89 : decode cX8_sumOf 89 = .ok (.getfield 51, 3) := by decide +kernel
theorem dX8_sumOf_92 : decode cX8_sumOf 92 = .ok (.getfield 64, 3) := by decide +kernel
theorem dX8_sumOf_95 : decode cX8_sumOf 95 = .ok (.if_icmp .ge 16, 3) := by decide +kernel
theorem dX8_sumOf_111 : decode cX8_sumOf 111 = .ok (.aload_n 0, 1) := by decide +kernel
theorem dX8_sumOf_112 : decode cX8_sumOf 112 = .ok (.getfield 51, 3) := by decide +kernel
theorem dX8_sumOf_115 : decode cX8_sumOf 115 = .ok (.getfield 73, 3) := by decide +kernel
theorem dX8_sumOf_118 : decode cX8_sumOf 118 = .ok (.ldc 76, 2) := by decide +kernel
theorem dX8_sumOf_120 : decode cX8_sumOf 120 = .ok (.ldc 76, 2) := by decide +kernel
theorem dX8_sumOf_122 : decode cX8_sumOf 122 = .ok (.iconst 4, 1) := by decide +kernel
theorem dX8_sumOf_123 : decode cX8_sumOf 123 = .ok (.aload_n 0, 1) := by decide +kernel
theorem dX8_sumOf_124 : decode cX8_sumOf 124 = .ok (.getfield 23, 3) := by decide +kernel
theorem dX8_sumOf_127 : decode cX8_sumOf 127 = .ok (.ishl, 1) := by decide +kernel
theorem dX8_sumOf_128 : decode cX8_sumOf 128 = .ok (.iadd, 1) := by decide +kernel
theorem dX8_sumOf_129 : decode cX8_sumOf 129 = .ok (.lconst 0, 1) := by decide +kernel
theorem dX8_sumOf_130 : decode cX8_sumOf 130 = .ok (.invokestatic 77, 3) := by decide +kernel
theorem dX8_sumOf_133 : decode cX8_sumOf 133 = .ok (.aload_n 0, 1) := by decide +kernel
theorem dX8_sumOf_134 : decode cX8_sumOf 134 = .ok (.getfield 44, 3) := by decide +kernel
theorem dX8_sumOf_137 : decode cX8_sumOf 137 = .ok (.iload_n 2, 1) := by decide +kernel
theorem dX8_sumOf_138 : decode cX8_sumOf 138 = .ok (.invokevirtual 83, 3) := by decide +kernel
theorem dX8_sumOf_141 : decode cX8_sumOf 141 = .ok (.ifCond .eq 16, 3) := by decide +kernel
theorem dX8_sumOf_144 : decode cX8_sumOf 144 = .ok (.aload_n 0, 1) := by decide +kernel
theorem dX8_sumOf_145 : decode cX8_sumOf 145 = .ok (.aload_n 0, 1) := by decide +kernel
theorem dX8_sumOf_146 : decode cX8_sumOf 146 = .ok (.getfield 44, 3) := by decide +kernel
theorem dX8_sumOf_149 : decode cX8_sumOf 149 = .ok (.iload_n 2, 1) := by decide +kernel
theorem dX8_sumOf_150 : decode cX8_sumOf 150 = .ok (.invokevirtual 87, 3) := by decide +kernel
theorem dX8_sumOf_153 : decode cX8_sumOf 153 = .ok (.invokevirtual 91, 3) := by decide +kernel
theorem dX8_sumOf_156 : decode cX8_sumOf 156 = .ok (.lreturn, 1) := by decide +kernel
theorem dX0_countOf_0 : decode cX0_countOf 0 = .ok (.iload_n 1, 1) := by decide +kernel
theorem dX0_countOf_1 : decode cX0_countOf 1 = .ok (.ifCond .ne 10, 3) := by decide +kernel
theorem dX0_countOf_4 : decode cX0_countOf 4 = .ok (.aload_n 0, 1) := by decide +kernel
theorem dX0_countOf_5 : decode cX0_countOf 5 = .ok (.getfield 60, 3) := by decide +kernel
theorem dX0_countOf_8 : decode cX0_countOf 8 = .ok (.goto 7, 3) := by decide +kernel
theorem dX0_countOf_11 : decode cX0_countOf 11 = .ok (.aload_n 0, 1) := by decide +kernel
theorem dX0_countOf_12 : decode cX0_countOf 12 = .ok (.getfield 63, 3) := by decide +kernel
theorem dX0_countOf_15 : decode cX0_countOf 15 = .ok (.ireturn, 1) := by decide +kernel
theorem dX11_shelfAt_0 : decode cX11_shelfAt 0 = .ok (.iload_n 1, 1) := by decide +kernel
theorem dX11_shelfAt_1 : decode cX11_shelfAt 1 = .ok (.ifCond .lt 21, 3) := by decide +kernel
theorem dX11_shelfAt_4 : decode cX11_shelfAt 4 = .ok (.iload_n 1, 1) := by decide +kernel
theorem dX11_shelfAt_5 : decode cX11_shelfAt 5 = .ok (.aload_n 0, 1) := by decide +kernel
theorem dX11_shelfAt_6 : decode cX11_shelfAt 6 = .ok (.getfield 75, 3) := by decide +kernel
theorem dX11_shelfAt_9 : decode cX11_shelfAt 9 = .ok (.arraylength, 1) := by decide +kernel
theorem dX11_shelfAt_10 : decode cX11_shelfAt 10 = .ok (.if_icmp .ge 12, 3) := by decide +kernel
theorem dX11_shelfAt_13 : decode cX11_shelfAt 13 = .ok (.aload_n 0, 1) := by decide +kernel
theorem dX11_shelfAt_14 : decode cX11_shelfAt 14 = .ok (.getfield 75, 3) := by decide +kernel
theorem dX11_shelfAt_17 : decode cX11_shelfAt 17 = .ok (.iload_n 1, 1) := by decide +kernel
theorem dX11_shelfAt_18 : decode cX11_shelfAt 18 = .ok (.aaload, 1) := by decide +kernel
theorem dX11_shelfAt_19 : decode cX11_shelfAt 19 = .ok (.goto 4, 3) := by decide +kernel
theorem dX11_shelfAt_22 : decode cX11_shelfAt 22 = .ok (.aconst_null, 1) := by decide +kernel
theorem dX11_shelfAt_23 : decode cX11_shelfAt 23 = .ok (.areturn, 1) := by decide +kernel
theorem dX6_holdsPart_0 : decode cX6_holdsPart 0 = .ok (.aload_n 0, 1) := by decide +kernel
theorem dX6_holdsPart_1 : decode cX6_holdsPart 1 = .ok (.getfield 15, 3) := by decide +kernel
theorem dX6_holdsPart_4 : decode cX6_holdsPart 4 = .ok (.bipush 10, 2) := by decide +kernel
theorem dX6_holdsPart_6 : decode cX6_holdsPart 6 = .ok (.if_icmp .lt 7, 3) := by decide +kernel
theorem dX6_holdsPart_13 : decode cX6_holdsPart 13 = .ok (.iconst 0, 1) := by decide +kernel
theorem dX6_holdsPart_14 : decode cX6_holdsPart 14 = .ok (.ireturn, 1) := by decide +kernel
theorem dX6_holdsNothing_0 : decode cX6_holdsNothing 0 = .ok (.aload_n 0, 1) := by decide +kernel
theorem dX6_holdsNothing_1 : decode cX6_holdsNothing 1 = .ok (.getfield 15, 3) := by decide +kernel
theorem dX6_holdsNothing_4 : decode cX6_holdsNothing 4 = .ok (.iconst (-1), 1) := by decide +kernel
theorem dX6_holdsNothing_5 : decode cX6_holdsNothing 5 = .ok (.if_icmp .ne 7, 3) := by decide +kernel
theorem dX6_holdsNothing_8 : decode cX6_holdsNothing 8 = .ok (.iconst 1, 1) := by decide +kernel
theorem dX6_holdsNothing_9 : decode cX6_holdsNothing 9 = .ok (.goto 4, 3) := by decide +kernel
theorem dX6_holdsNothing_13 : decode cX6_holdsNothing 13 = .ok (.ireturn, 1) := by decide +kernel
theorem dX0_size_0 : decode cX0_size 0 = .ok (.aload_n 0, 1) := by decide +kernel
theorem dX0_size_1 : decode cX0_size 1 = .ok (.getfield 15, 3) := by decide +kernel
theorem dX0_size_4 : decode cX0_size 4 = .ok (.aload_n 0, 1) := by decide +kernel
theorem dX0_size_5 : decode cX0_size 5 = .ok (.getfield 15, 3) := by decide +kernel
theorem dX0_size_8 : decode cX0_size 8 = .ok (.aload_n 0, 1) := by decide +kernel
theorem dX0_size_9 : decode cX0_size 9 = .ok (.getfield 25, 3) := by decide +kernel
theorem dX0_size_12 : decode cX0_size 12 = .ok (.iconst 0, 1) := by decide +kernel
theorem dX0_size_13 : decode cX0_size 13 = .ok (.iadd, 1) := by decide +kernel
theorem dX0_size_14 : decode cX0_size 14 = .ok (.invokevirtual 28, 3) := by decide +kernel
theorem dX0_size_17 : decode cX0_size 17 = .ok (.invokevirtual 30, 3) := by decide +kernel
theorem dX0_size_20 : decode cX0_size 20 = .ok (.lreturn, 1) := by decide +kernel
theorem dX11_isStretch_0 : decode cX11_isStretch 0 = .ok (.iload_n 1, 1) := by decide +kernel
theorem dX11_isStretch_1 : decode cX11_isStretch 1 = .ok (.ifCond .lt 28, 3) := by decide +kernel
theorem dX11_isStretch_4 : decode cX11_isStretch 4 = .ok (.iload_n 1, 1) := by decide +kernel
theorem dX11_isStretch_5 : decode cX11_isStretch 5 = .ok (.i2l, 1) := by decide +kernel
theorem dX11_isStretch_6 : decode cX11_isStretch 6 = .ok (.lload_n 2, 1) := by decide +kernel
theorem dX11_isStretch_7 : decode cX11_isStretch 7 = .ok (.lcmp, 1) := by decide +kernel
theorem dX11_isStretch_8 : decode cX11_isStretch 8 = .ok (.ifCond .gt 21, 3) := by decide +kernel
theorem dX11_isStretch_29 : decode cX11_isStretch 29 = .ok (.iconst 0, 1) := by decide +kernel
theorem dX11_isStretch_30 : decode cX11_isStretch 30 = .ok (.ireturn, 1) := by decide +kernel
theorem dX7_reads_0 : decode cX7_reads 0 = .ok (.iconst 0, 1) := by decide +kernel
theorem dX7_reads_1 : decode cX7_reads 1 = .ok (.istore_n 1, 1) := by decide +kernel
theorem dX7_reads_2 : decode cX7_reads 2 = .ok (.aload_n 0, 1) := by decide +kernel
theorem dX7_reads_3 : decode cX7_reads 3 = .ok (.iconst 0, 1) := by decide +kernel
theorem dX7_reads_4 : decode cX7_reads 4 = .ok (.putfield 25, 3) := by decide +kernel
theorem dX7_reads_7 : decode cX7_reads 7 = .ok (.aload_n 0, 1) := by decide +kernel
theorem dX7_reads_8 : decode cX7_reads 8 = .ok (.iconst 0, 1) := by decide +kernel
theorem dX7_reads_9 : decode cX7_reads 9 = .ok (.putfield 28, 3) := by decide +kernel
theorem dX7_reads_12 : decode cX7_reads 12 = .ok (.aload_n 0, 1) := by decide +kernel
theorem dX7_reads_13 : decode cX7_reads 13 = .ok (.aload_n 0, 1) := by decide +kernel
theorem dX7_reads_14 : decode cX7_reads 14 = .ok (.getfield 19, 3) := by decide +kernel
theorem dX7_reads_17 : decode cX7_reads 17 = .ok (.ifCond .ne 7, 3) := by decide +kernel
theorem dX7_reads_20 : decode cX7_reads 20 = .ok (.iconst 0, 1) := by decide +kernel
theorem dX7_reads_21 : decode cX7_reads 21 = .ok (.goto 4, 3) := by decide +kernel
theorem dX7_reads_25 : decode cX7_reads 25 = .ok (.putfield 32, 3) := by decide +kernel
theorem dX7_reads_28 : decode cX7_reads 28 = .ok (.iconst 0, 1) := by decide +kernel
theorem dX7_reads_29 : decode cX7_reads 29 = .ok (.istore_n 2, 1) := by decide +kernel
theorem dX7_reads_30 : decode cX7_reads 30 = .ok (.iload_n 2, 1) := by decide +kernel
theorem dX7_reads_31 : decode cX7_reads 31 = .ok (.sipush 250, 3) := by decide +kernel
theorem dX7_reads_34 : decode cX7_reads 34 = .ok (.if_icmp .ge 106, 3) := by decide +kernel
theorem dX7_reads_37 : decode cX7_reads 37 = .ok (.aload_n 0, 1) := by decide +kernel
theorem dX7_reads_38 : decode cX7_reads 38 = .ok (.getfield 32, 3) := by decide +kernel
theorem dX7_reads_41 : decode cX7_reads 41 = .ok (.iconst (-1), 1) := by decide +kernel
theorem dX7_reads_42 : decode cX7_reads 42 = .ok (.if_icmp .ne 98, 3) := by decide +kernel
theorem dX7_reads_140 : decode cX7_reads 140 = .ok (.aload_n 0, 1) := by decide +kernel
theorem dX7_reads_141 : decode cX7_reads 141 = .ok (.getfield 15, 3) := by decide +kernel
theorem dX7_reads_144 : decode cX7_reads 144 = .ok (.getfield 72, 3) := by decide +kernel
theorem dX7_reads_147 : decode cX7_reads 147 = .ok (.aload_n 0, 1) := by decide +kernel
theorem dX7_reads_148 : decode cX7_reads 148 = .ok (.getfield 15, 3) := by decide +kernel
theorem dX7_reads_151 : decode cX7_reads 151 = .ok (.getfield 81, 3) := by decide +kernel
theorem dX7_reads_154 : decode cX7_reads 154 = .ok (.iconst 0, 1) := by decide +kernel
theorem dX7_reads_155 : decode cX7_reads 155 = .ok (.iadd, 1) := by decide +kernel
theorem dX7_reads_156 : decode cX7_reads 156 = .ok (.aload_n 0, 1) := by decide +kernel
theorem dX7_reads_157 : decode cX7_reads 157 = .ok (.getfield 15, 3) := by decide +kernel
theorem dX7_reads_160 : decode cX7_reads 160 = .ok (.getfield 72, 3) := by decide +kernel
theorem dX7_reads_163 : decode cX7_reads 163 = .ok (.iload_n 1, 1) := by decide +kernel
theorem dX7_reads_164 : decode cX7_reads 164 = .ok (.invokevirtual 84, 3) := by decide +kernel
theorem dX7_reads_167 : decode cX7_reads 167 = .ok (.invokevirtual 88, 3) := by decide +kernel
theorem dX7_reads_170 : decode cX7_reads 170 = .ok (.aload_n 0, 1) := by decide +kernel
theorem dX7_reads_171 : decode cX7_reads 171 = .ok (.getfield 32, 3) := by decide +kernel
theorem dX7_reads_174 : decode cX7_reads 174 = .ok (.ireturn, 1) := by decide +kernel
theorem dX10_held_0 : decode cX10_held 0 = .ok (.iload_n 1, 1) := by decide +kernel
theorem dX10_held_1 : decode cX10_held 1 = .ok (.ifCond .lt 19, 3) := by decide +kernel
theorem dX10_held_4 : decode cX10_held 4 = .ok (.iload_n 1, 1) := by decide +kernel
theorem dX10_held_5 : decode cX10_held 5 = .ok (.sipush 512, 3) := by decide +kernel
theorem dX10_held_8 : decode cX10_held 8 = .ok (.if_icmp .ge 12, 3) := by decide +kernel
theorem dX10_held_11 : decode cX10_held 11 = .ok (.aload_n 0, 1) := by decide +kernel
theorem dX10_held_12 : decode cX10_held 12 = .ok (.getfield 11, 3) := by decide +kernel
theorem dX10_held_15 : decode cX10_held 15 = .ok (.iload_n 1, 1) := by decide +kernel
theorem dX10_held_16 : decode cX10_held 16 = .ok (.iaload, 1) := by decide +kernel
theorem dX10_held_17 : decode cX10_held 17 = .ok (.goto 4, 3) := by decide +kernel
theorem dX10_held_21 : decode cX10_held 21 = .ok (.ireturn, 1) := by decide +kernel
theorem dX10_failed_0 : decode cX10_failed 0 = .ok (.aload_n 0, 1) := by decide +kernel
theorem dX10_failed_1 : decode cX10_failed 1 = .ok (.getfield 60, 3) := by decide +kernel
theorem dX10_failed_4 : decode cX10_failed 4 = .ok (.istore_n 1, 1) := by decide +kernel
theorem dX10_failed_5 : decode cX10_failed 5 = .ok (.aload_n 0, 1) := by decide +kernel
theorem dX10_failed_6 : decode cX10_failed 6 = .ok (.iconst 0, 1) := by decide +kernel
theorem dX10_failed_7 : decode cX10_failed 7 = .ok (.putfield 60, 3) := by decide +kernel
theorem dX10_failed_10 : decode cX10_failed 10 = .ok (.iload_n 1, 1) := by decide +kernel
theorem dX10_failed_11 : decode cX10_failed 11 = .ok (.ireturn, 1) := by decide +kernel
theorem dX6_at_0 : decode cX6_at 0 = .ok (.aload_n 0, 1) := by decide +kernel
theorem dX6_at_1 : decode cX6_at 1 = .ok (.invokevirtual 65, 3) := by decide +kernel
theorem dX6_at_4 : decode cX6_at 4 = .ok (.ifCond .eq 35, 3) := by decide +kernel
theorem dX6_at_39 : decode cX6_at 39 = .ok (.lconst 0, 1) := by decide +kernel
theorem dX6_at_40 : decode cX6_at 40 = .ok (.lreturn, 1) := by decide +kernel
theorem dX7_add_0 : decode cX7_add 0 = .ok (.aload_n 0, 1) := by decide +kernel
theorem dX7_add_1 : decode cX7_add 1 = .ok (.getfield 19, 3) := by decide +kernel
theorem dX7_add_4 : decode cX7_add 4 = .ok (.ifCond .lt 32, 3) := by decide +kernel
theorem dX7_add_7 : decode cX7_add 7 = .ok (.aload_n 0, 1) := by decide +kernel
theorem dX7_add_8 : decode cX7_add 8 = .ok (.getfield 19, 3) := by decide +kernel
theorem dX7_add_11 : decode cX7_add 11 = .ok (.aload_n 0, 1) := by decide +kernel
theorem dX7_add_12 : decode cX7_add 12 = .ok (.getfield 9, 3) := by decide +kernel
theorem dX7_add_15 : decode cX7_add 15 = .ok (.arraylength, 1) := by decide +kernel
theorem dX7_add_16 : decode cX7_add 16 = .ok (.if_icmp .ge 20, 3) := by decide +kernel
theorem dX7_add_19 : decode cX7_add 19 = .ok (.aload_n 0, 1) := by decide +kernel
theorem dX7_add_20 : decode cX7_add 20 = .ok (.getfield 9, 3) := by decide +kernel
theorem dX7_add_23 : decode cX7_add 23 = .ok (.aload_n 0, 1) := by decide +kernel
theorem dX7_add_24 : decode cX7_add 24 = .ok (.dup, 1) := by decide +kernel
theorem dX7_add_25 : decode cX7_add 25 = .ok (.getfield 19, 3) := by decide +kernel
theorem dX7_add_28 : decode cX7_add 28 = .ok (.dup_x1, 1) := by decide +kernel
theorem dX7_add_29 : decode cX7_add 29 = .ok (.iconst 1, 1) := by decide +kernel
theorem dX7_add_30 : decode cX7_add 30 = .ok (.iadd, 1) := by decide +kernel
theorem dX7_add_31 : decode cX7_add 31 = .ok (.putfield 19, 3) := by decide +kernel
theorem dX7_add_34 : decode cX7_add 34 = .ok (.iload_n 1, 1) := by decide +kernel
theorem dX7_add_35 : decode cX7_add 35 = .ok (.iastore, 1) := by decide +kernel
theorem dX7_add_36 : decode cX7_add 36 = .ok (.return_, 1) := by decide +kernel
theorem dX3_like_0 : decode cX3_like 0 = .ok (.aload_n 0, 1) := by decide +kernel
theorem dX3_like_1 : decode cX3_like 1 = .ok (.getfield 21, 3) := by decide +kernel
theorem dX3_like_4 : decode cX3_like 4 = .ok (.aload_n 0, 1) := by decide +kernel
theorem dX3_like_5 : decode cX3_like 5 = .ok (.getfield 38, 3) := by decide +kernel
theorem dX3_like_8 : decode cX3_like 8 = .ok (.aload_n 0, 1) := by decide +kernel
theorem dX3_like_9 : decode cX3_like 9 = .ok (.getfield 21, 3) := by decide +kernel
theorem dX3_like_12 : decode cX3_like 12 = .ok (.aload_n 1, 1) := by decide +kernel
theorem dX3_like_13 : decode cX3_like 13 = .ok (.getfield 38, 3) := by decide +kernel
theorem dX3_like_16 : decode cX3_like 16 = .ok (.invokevirtual 48, 3) := by decide +kernel
theorem dX3_like_19 : decode cX3_like 19 = .ok (.invokevirtual 66, 3) := by decide +kernel
theorem dX3_like_22 : decode cX3_like 22 = .ok (.aload_n 0, 1) := by decide +kernel
theorem dX3_like_23 : decode cX3_like 23 = .ok (.aload_n 1, 1) := by decide +kernel
theorem dX3_like_24 : decode cX3_like 24 = .ok (.getfield 55, 3) := by decide +kernel
theorem dX3_like_27 : decode cX3_like 27 = .ok (.putfield 55, 3) := by decide +kernel
theorem dX3_like_30 : decode cX3_like 30 = .ok (.aload_n 0, 1) := by decide +kernel
theorem dX3_like_31 : decode cX3_like 31 = .ok (.aload_n 1, 1) := by decide +kernel
theorem dX3_like_32 : decode cX3_like 32 = .ok (.getfield 17, 3) := by decide +kernel
theorem dX3_like_35 : decode cX3_like 35 = .ok (.putfield 17, 3) := by decide +kernel
theorem dX3_like_38 : decode cX3_like 38 = .ok (.aload_n 0, 1) := by decide +kernel
theorem dX3_like_39 : decode cX3_like 39 = .ok (.getfield 21, 3) := by decide +kernel
theorem dX3_like_42 : decode cX3_like 42 = .ok (.aload_n 0, 1) := by decide +kernel
theorem dX3_like_43 : decode cX3_like 43 = .ok (.getfield 25, 3) := by decide +kernel
theorem dX3_like_46 : decode cX3_like 46 = .ok (.aload_n 0, 1) := by decide +kernel
theorem dX3_like_47 : decode cX3_like 47 = .ok (.getfield 55, 3) := by decide +kernel
theorem dX3_like_50 : decode cX3_like 50 = .ok (.iconst 0, 1) := by decide +kernel
theorem dX3_like_51 : decode cX3_like 51 = .ok (.invokestatic 92, 3) := by decide +kernel
theorem dX3_like_54 : decode cX3_like 54 = .ok (.iadd, 1) := by decide +kernel
theorem dX3_like_55 : decode cX3_like 55 = .ok (.bipush 90, 2) := by decide +kernel
theorem dX3_like_57 : decode cX3_like 57 = .ok (.aload_n 0, 1) := by decide +kernel
theorem dX3_like_58 : decode cX3_like 58 = .ok (.getfield 55, 3) := by decide +kernel
theorem dX3_like_61 : decode cX3_like 61 = .ok (.iconst 0, 1) := by decide +kernel
theorem dX3_like_62 : decode cX3_like 62 = .ok (.invokestatic 92, 3) := by decide +kernel
theorem dX3_like_65 : decode cX3_like 65 = .ok (.isub, 1) := by decide +kernel
theorem dX3_like_66 : decode cX3_like 66 = .ok (.invokevirtual 98, 3) := by decide +kernel
theorem dX3_like_69 : decode cX3_like 69 = .ok (.iconst 0, 1) := by decide +kernel
theorem dX3_like_70 : decode cX3_like 70 = .ok (.istore_n 2, 1) := by decide +kernel
theorem dX3_like_71 : decode cX3_like 71 = .ok (.iload_n 2, 1) := by decide +kernel
theorem dX3_like_72 : decode cX3_like 72 = .ok (.iconst 4, 1) := by decide +kernel
theorem dX3_like_73 : decode cX3_like 73 = .ok (.if_icmp .ge 37, 3) := by decide +kernel
theorem dX3_like_76 : decode cX3_like 76 = .ok (.aload_n 0, 1) := by decide +kernel
theorem dX3_like_77 : decode cX3_like 77 = .ok (.iload_n 2, 1) := by decide +kernel
theorem dX3_like_78 : decode cX3_like 78 = .ok (.invokevirtual 44, 3) := by decide +kernel
theorem dX3_like_81 : decode cX3_like 81 = .ok (.astore_n 3, 1) := by decide +kernel
theorem dX3_like_82 : decode cX3_like 82 = .ok (.aload_n 1, 1) := by decide +kernel
theorem dX3_like_83 : decode cX3_like 83 = .ok (.iload_n 2, 1) := by decide +kernel
theorem dX3_like_84 : decode cX3_like 84 = .ok (.invokevirtual 44, 3) := by decide +kernel
theorem dX3_like_87 : decode cX3_like 87 = .ok (.astore 4, 2) := by decide +kernel
theorem dX3_like_89 : decode cX3_like 89 = .ok (.aload_n 3, 1) := by decide +kernel
theorem dX3_like_90 : decode cX3_like 90 = .ok (.ifnull 14, 3) := by decide +kernel
theorem dX3_like_93 : decode cX3_like 93 = .ok (.aload 4, 2) := by decide +kernel
theorem dX3_like_95 : decode cX3_like 95 = .ok (.ifnull 9, 3) := by decide +kernel
theorem dX3_like_98 : decode cX3_like 98 = .ok (.aload_n 3, 1) := by decide +kernel
theorem dX3_like_99 : decode cX3_like 99 = .ok (.aload 4, 2) := by decide +kernel
theorem dX3_like_101 : decode cX3_like 101 = .ok (.invokevirtual 101, 3) := by decide +kernel
theorem dX3_like_104 : decode cX3_like 104 = .ok (.iinc 2 1, 3) := by decide +kernel
theorem dX3_like_107 : decode cX3_like 107 = .ok (.goto (-36), 3) := by decide +kernel
theorem dX3_like_110 : decode cX3_like 110 = .ok (.return_, 1) := by decide +kernel
theorem dX2_draft_0 : decode cX2_draft 0 = .ok (.aload_n 0, 1) := by decide +kernel
theorem dX2_draft_1 : decode cX2_draft 1 = .ok (.getfield 26, 3) := by decide +kernel
theorem dX2_draft_4 : decode cX2_draft 4 = .ok (.aload_n 0, 1) := by decide +kernel
theorem dX2_draft_5 : decode cX2_draft 5 = .ok (.getfield 64, 3) := by decide +kernel
theorem dX2_draft_8 : decode cX2_draft 8 = .ok (.iconst 0, 1) := by decide +kernel
theorem dX2_draft_9 : decode cX2_draft 9 = .ok (.iadd, 1) := by decide +kernel
theorem dX2_draft_10 : decode cX2_draft 10 = .ok (.iconst 0, 1) := by decide +kernel
theorem dX2_draft_11 : decode cX2_draft 11 = .ok (.invokevirtual 68, 3) := by decide +kernel
theorem dX2_draft_14 : decode cX2_draft 14 = .ok (.aload_n 0, 1) := by decide +kernel
theorem dX2_draft_15 : decode cX2_draft 15 = .ok (.iconst 0, 1) := by decide +kernel
theorem dX2_draft_16 : decode cX2_draft 16 = .ok (.invokevirtual 72, 3) := by decide +kernel
theorem dX2_draft_19 : decode cX2_draft 19 = .ok (.aload_n 0, 1) := by decide +kernel
theorem dX2_draft_20 : decode cX2_draft 20 = .ok (.getfield 38, 3) := by decide +kernel
theorem dX2_draft_23 : decode cX2_draft 23 = .ok (.invokevirtual 76, 3) := by decide +kernel
theorem dX2_draft_26 : decode cX2_draft 26 = .ok (.pop, 1) := by decide +kernel
theorem dX2_draft_27 : decode cX2_draft 27 = .ok (.aload_n 0, 1) := by decide +kernel
theorem dX2_draft_28 : decode cX2_draft 28 = .ok (.getfield 44, 3) := by decide +kernel
theorem dX2_draft_31 : decode cX2_draft 31 = .ok (.aload_n 0, 1) := by decide +kernel
theorem dX2_draft_32 : decode cX2_draft 32 = .ok (.getfield 38, 3) := by decide +kernel
theorem dX2_draft_35 : decode cX2_draft 35 = .ok (.sipush 768, 3) := by decide +kernel
theorem dX2_draft_38 : decode cX2_draft 38 = .ok (.lload_n 1, 1) := by decide +kernel
theorem dX2_draft_39 : decode cX2_draft 39 = .ok (.invokevirtual 80, 3) := by decide +kernel
theorem dX2_draft_42 : decode cX2_draft 42 = .ok (.aload_n 0, 1) := by decide +kernel
theorem dX2_draft_43 : decode cX2_draft 43 = .ok (.getfield 38, 3) := by decide +kernel
theorem dX2_draft_46 : decode cX2_draft 46 = .ok (.iload_n 3, 1) := by decide +kernel
theorem dX2_draft_47 : decode cX2_draft 47 = .ok (.lload 4, 2) := by decide +kernel
theorem dX2_draft_49 : decode cX2_draft 49 = .ok (.invokevirtual 80, 3) := by decide +kernel
theorem dX2_draft_52 : decode cX2_draft 52 = .ok (.invokevirtual 84, 3) := by decide +kernel
theorem dX2_draft_55 : decode cX2_draft 55 = .ok (.istore 8, 2) := by decide +kernel
theorem dX2_draft_57 : decode cX2_draft 57 = .ok (.aload_n 0, 1) := by decide +kernel
theorem dX2_draft_58 : decode cX2_draft 58 = .ok (.getfield 26, 3) := by decide +kernel
theorem dX2_draft_61 : decode cX2_draft 61 = .ok (.aload_n 0, 1) := by decide +kernel
theorem dX2_draft_62 : decode cX2_draft 62 = .ok (.getfield 64, 3) := by decide +kernel
theorem dX2_draft_65 : decode cX2_draft 65 = .ok (.iconst 0, 1) := by decide +kernel
theorem dX2_draft_66 : decode cX2_draft 66 = .ok (.iadd, 1) := by decide +kernel
theorem dX2_draft_67 : decode cX2_draft 67 = .ok (.aload_n 0, 1) := by decide +kernel
theorem dX2_draft_68 : decode cX2_draft 68 = .ok (.getfield 26, 3) := by decide +kernel
theorem dX2_draft_71 : decode cX2_draft 71 = .ok (.aload_n 0, 1) := by decide +kernel
theorem dX2_draft_72 : decode cX2_draft 72 = .ok (.getfield 44, 3) := by decide +kernel
theorem dX2_draft_75 : decode cX2_draft 75 = .ok (.iload 8, 2) := by decide +kernel
theorem dX2_draft_77 : decode cX2_draft 77 = .ok (.aload_n 0, 1) := by decide +kernel
theorem dX2_draft_78 : decode cX2_draft 78 = .ok (.getfield 38, 3) := by decide +kernel
theorem dX2_draft_81 : decode cX2_draft 81 = .ok (.sipush 768, 3) := by decide +kernel
theorem dX2_draft_84 : decode cX2_draft 84 = .ok (.lload 6, 2) := by decide +kernel
theorem dX2_draft_86 : decode cX2_draft 86 = .ok (.invokevirtual 80, 3) := by decide +kernel
theorem dX2_draft_89 : decode cX2_draft 89 = .ok (.invokevirtual 84, 3) := by decide +kernel
theorem dX2_draft_92 : decode cX2_draft 92 = .ok (.invokevirtual 88, 3) := by decide +kernel
theorem dX2_draft_95 : decode cX2_draft 95 = .ok (.invokevirtual 68, 3) := by decide +kernel
theorem dX2_draft_98 : decode cX2_draft 98 = .ok (.aload_n 0, 1) := by decide +kernel
theorem dX2_draft_99 : decode cX2_draft 99 = .ok (.getfield 38, 3) := by decide +kernel
theorem dX2_draft_102 : decode cX2_draft 102 = .ok (.invokevirtual 76, 3) := by decide +kernel
theorem dX2_draft_105 : decode cX2_draft 105 = .ok (.ifCond .eq 11, 3) := by decide +kernel
theorem dX2_draft_116 : decode cX2_draft 116 = .ok (.return_, 1) := by decide +kernel
theorem dX10_to_0 : decode cX10_to 0 = .ok (.iload_n 1, 1) := by decide +kernel
theorem dX10_to_1 : decode cX10_to 1 = .ok (.invokestatic 64, 3) := by decide +kernel
theorem dX10_to_4 : decode cX10_to 4 = .ok (.ifCond .ne 5, 3) := by decide +kernel
theorem dX10_to_7 : decode cX10_to 7 = .ok (.lconst 0, 1) := by decide +kernel
theorem dX10_to_8 : decode cX10_to 8 = .ok (.lreturn, 1) := by decide +kernel
theorem dX10_to_9 : decode cX10_to 9 = .ok (.aload_n 0, 1) := by decide +kernel
theorem dX10_to_10 : decode cX10_to 10 = .ok (.getfield 23, 3) := by decide +kernel
theorem dX10_to_13 : decode cX10_to 13 = .ok (.iload_n 1, 1) := by decide +kernel
theorem dX10_to_14 : decode cX10_to 14 = .ok (.laload, 1) := by decide +kernel
theorem dX10_to_15 : decode cX10_to 15 = .ok (.ldc2_w 74, 3) := by decide +kernel
theorem dX10_to_18 : decode cX10_to 18 = .ok (.lcmp, 1) := by decide +kernel
theorem dX10_to_19 : decode cX10_to 19 = .ok (.ifCond .eq 16, 3) := by decide +kernel
theorem dX10_to_22 : decode cX10_to 22 = .ok (.aload_n 0, 1) := by decide +kernel
theorem dX10_to_23 : decode cX10_to 23 = .ok (.getfield 26, 3) := by decide +kernel
theorem dX10_to_26 : decode cX10_to 26 = .ok (.iload_n 1, 1) := by decide +kernel
theorem dX10_to_27 : decode cX10_to 27 = .ok (.laload, 1) := by decide +kernel
theorem dX10_to_28 : decode cX10_to 28 = .ok (.ldc2_w 74, 3) := by decide +kernel
theorem dX10_to_31 : decode cX10_to 31 = .ok (.lcmp, 1) := by decide +kernel
theorem dX10_to_32 : decode cX10_to 32 = .ok (.ifCond .ne 9, 3) := by decide +kernel
theorem dX10_to_41 : decode cX10_to 41 = .ok (.aload_n 0, 1) := by decide +kernel
theorem dX10_to_42 : decode cX10_to 42 = .ok (.getfield 26, 3) := by decide +kernel
theorem dX10_to_45 : decode cX10_to 45 = .ok (.iload_n 1, 1) := by decide +kernel
theorem dX10_to_46 : decode cX10_to 46 = .ok (.laload, 1) := by decide +kernel
theorem dX10_to_47 : decode cX10_to 47 = .ok (.aload_n 0, 1) := by decide +kernel
theorem dX10_to_48 : decode cX10_to 48 = .ok (.getfield 23, 3) := by decide +kernel
theorem dX10_to_51 : decode cX10_to 51 = .ok (.iload_n 1, 1) := by decide +kernel
theorem dX10_to_52 : decode cX10_to 52 = .ok (.laload, 1) := by decide +kernel
theorem dX10_to_53 : decode cX10_to 53 = .ok (.lsub, 1) := by decide +kernel
theorem dX10_to_54 : decode cX10_to 54 = .ok (.lreturn, 1) := by decide +kernel
theorem dX8_lettersMarked_0 : decode cX8_lettersMarked 0 = .ok (.aload_n 0, 1) := by decide +kernel
theorem dX8_lettersMarked_1 : decode cX8_lettersMarked 1 = .ok (.iconst 4, 1) := by decide +kernel
theorem dX8_lettersMarked_2 : decode cX8_lettersMarked 2 = .ok (.iload_n 2, 1) := by decide +kernel
theorem dX8_lettersMarked_3 : decode cX8_lettersMarked 3 = .ok (.iadd, 1) := by decide +kernel
theorem dX8_lettersMarked_4 : decode cX8_lettersMarked 4 = .ok (.iload_n 1, 1) := by decide +kernel
theorem dX8_lettersMarked_5 : decode cX8_lettersMarked 5 = .ok (.invokevirtual 119, 3) := by decide +kernel
theorem dX8_lettersMarked_8 : decode cX8_lettersMarked 8 = .ok (.l2i, 1) := by decide +kernel
theorem dX8_lettersMarked_9 : decode cX8_lettersMarked 9 = .ok (.ireturn, 1) := by decide +kernel
theorem dX3_isSettled_0 : decode cX3_isSettled 0 = .ok (.iconst 0, 1) := by decide +kernel
theorem dX3_isSettled_1 : decode cX3_isSettled 1 = .ok (.istore_n 1, 1) := by decide +kernel
theorem dX3_isSettled_2 : decode cX3_isSettled 2 = .ok (.iload_n 1, 1) := by decide +kernel
theorem dX3_isSettled_3 : decode cX3_isSettled 3 = .ok (.iconst 4, 1) := by decide +kernel
theorem dX3_isSettled_4 : decode cX3_isSettled 4 = .ok (.if_icmp .ge 39, 3) := by decide +kernel
theorem dX3_isSettled_7 : decode cX3_isSettled 7 = .ok (.aload_n 0, 1) := by decide +kernel
theorem dX3_isSettled_8 : decode cX3_isSettled 8 = .ok (.iload_n 1, 1) := by decide +kernel
theorem dX3_isSettled_9 : decode cX3_isSettled 9 = .ok (.invokevirtual 44, 3) := by decide +kernel
theorem dX3_isSettled_12 : decode cX3_isSettled 12 = .ok (.astore_n 2, 1) := by decide +kernel
theorem dX3_isSettled_13 : decode cX3_isSettled 13 = .ok (.aload_n 2, 1) := by decide +kernel
theorem dX3_isSettled_14 : decode cX3_isSettled 14 = .ok (.ifnull 23, 3) := by decide +kernel
theorem dX3_isSettled_17 : decode cX3_isSettled 17 = .ok (.aload_n 2, 1) := by decide +kernel
theorem dX3_isSettled_18 : decode cX3_isSettled 18 = .ok (.invokevirtual 84, 3) := by decide +kernel
theorem dX3_isSettled_21 : decode cX3_isSettled 21 = .ok (.ifCond .ne 14, 3) := by decide +kernel
theorem dX3_isSettled_24 : decode cX3_isSettled 24 = .ok (.aload_n 2, 1) := by decide +kernel
theorem dX3_isSettled_25 : decode cX3_isSettled 25 = .ok (.getfield 70, 3) := by decide +kernel
theorem dX3_isSettled_28 : decode cX3_isSettled 28 = .ok (.aload_n 0, 1) := by decide +kernel
theorem dX3_isSettled_29 : decode cX3_isSettled 29 = .ok (.getfield 55, 3) := by decide +kernel
theorem dX3_isSettled_32 : decode cX3_isSettled 32 = .ok (.if_icmp .ge 5, 3) := by decide +kernel
theorem dX3_isSettled_37 : decode cX3_isSettled 37 = .ok (.iinc 1 1, 3) := by decide +kernel
theorem dX3_isSettled_40 : decode cX3_isSettled 40 = .ok (.goto (-38), 3) := by decide +kernel
theorem dX3_isSettled_43 : decode cX3_isSettled 43 = .ok (.iconst 1, 1) := by decide +kernel
theorem dX3_isSettled_44 : decode cX3_isSettled 44 = .ok (.ireturn, 1) := by decide +kernel
theorem dX11_whyNotAgain_0 : decode cX11_whyNotAgain 0 = .ok (.aload_n 0, 1) := by decide +kernel
theorem dX11_whyNotAgain_1 : decode cX11_whyNotAgain 1 = .ok (.iload_n 1, 1) := by decide +kernel
theorem dX11_whyNotAgain_2 : decode cX11_whyNotAgain 2 = .ok (.invokevirtual 314, 3) := by decide +kernel
theorem dX11_whyNotAgain_5 : decode cX11_whyNotAgain 5 = .ok (.iconst 1, 1) := by decide +kernel
theorem dX11_whyNotAgain_6 : decode cX11_whyNotAgain 6 = .ok (.if_icmp .ge 6, 3) := by decide +kernel
theorem dX11_whyNotAgain_9 : decode cX11_whyNotAgain 9 = .ok (.bipush (-5), 2) := by decide +kernel
theorem dX11_whyNotAgain_11 : decode cX11_whyNotAgain 11 = .ok (.ireturn, 1) := by decide +kernel
theorem dX11_whyNotAgain_12 : decode cX11_whyNotAgain 12 = .ok (.aload_n 0, 1) := by decide +kernel
theorem dX11_whyNotAgain_13 : decode cX11_whyNotAgain 13 = .ok (.aload_n 0, 1) := by decide +kernel
theorem dX11_whyNotAgain_14 : decode cX11_whyNotAgain 14 = .ok (.iload_n 1, 1) := by decide +kernel
theorem dX11_whyNotAgain_15 : decode cX11_whyNotAgain 15 = .ok (.invokevirtual 304, 3) := by decide +kernel
theorem dX11_whyNotAgain_18 : decode cX11_whyNotAgain 18 = .ok (.invokevirtual 280, 3) := by decide +kernel
theorem dX11_whyNotAgain_21 : decode cX11_whyNotAgain 21 = .ok (.ifCond .eq 8, 3) := by decide +kernel
theorem dX11_whyNotAgain_29 : decode cX11_whyNotAgain 29 = .ok (.iconst 0, 1) := by decide +kernel
theorem dX11_whyNotAgain_30 : decode cX11_whyNotAgain 30 = .ok (.ireturn, 1) := by decide +kernel
theorem dX6_holdRow_0 : decode cX6_holdRow 0 = .ok (.aload_n 0, 1) := by decide +kernel
theorem dX6_holdRow_1 : decode cX6_holdRow 1 = .ok (.iload_n 1, 1) := by decide +kernel
theorem dX6_holdRow_2 : decode cX6_holdRow 2 = .ok (.putfield 15, 3) := by decide +kernel
theorem dX6_holdRow_5 : decode cX6_holdRow 5 = .ok (.aload_n 0, 1) := by decide +kernel
theorem dX6_holdRow_6 : decode cX6_holdRow 6 = .ok (.iload_n 2, 1) := by decide +kernel
theorem dX6_holdRow_7 : decode cX6_holdRow 7 = .ok (.i2l, 1) := by decide +kernel
theorem dX6_holdRow_8 : decode cX6_holdRow 8 = .ok (.putfield 19, 3) := by decide +kernel
theorem dX6_holdRow_11 : decode cX6_holdRow 11 = .ok (.aload_n 0, 1) := by decide +kernel
theorem dX6_holdRow_12 : decode cX6_holdRow 12 = .ok (.getfield 9, 3) := by decide +kernel
theorem dX6_holdRow_15 : decode cX6_holdRow 15 = .ok (.lconst 0, 1) := by decide +kernel
theorem dX6_holdRow_16 : decode cX6_holdRow 16 = .ok (.invokestatic 23, 3) := by decide +kernel
theorem dX6_holdRow_19 : decode cX6_holdRow 19 = .ok (.return_, 1) := by decide +kernel
theorem dX6_holdsRow_0 : decode cX6_holdsRow 0 = .ok (.aload_n 0, 1) := by decide +kernel
theorem dX6_holdsRow_1 : decode cX6_holdsRow 1 = .ok (.getfield 15, 3) := by decide +kernel
theorem dX6_holdsRow_4 : decode cX6_holdsRow 4 = .ok (.ifCond .lt 15, 3) := by decide +kernel
theorem dX6_holdsRow_19 : decode cX6_holdsRow 19 = .ok (.iconst 0, 1) := by decide +kernel
theorem dX6_holdsRow_20 : decode cX6_holdsRow 20 = .ok (.ireturn, 1) := by decide +kernel
theorem dX0_isUnserved_0 : decode cX0_isUnserved 0 = .ok (.aload_n 0, 1) := by decide +kernel
theorem dX0_isUnserved_1 : decode cX0_isUnserved 1 = .ok (.getfield 34, 3) := by decide +kernel
theorem dX0_isUnserved_4 : decode cX0_isUnserved 4 = .ok (.ifCond .eq 14, 3) := by decide +kernel
theorem dX0_isUnserved_7 : decode cX0_isUnserved 7 = .ok (.aload_n 0, 1) := by decide +kernel
theorem dX0_isUnserved_8 : decode cX0_isUnserved 8 = .ok (.getfield 38, 3) := by decide +kernel
theorem dX0_isUnserved_11 : decode cX0_isUnserved 11 = .ok (.ifCond .ne 7, 3) := by decide +kernel
theorem dX0_isUnserved_14 : decode cX0_isUnserved 14 = .ok (.iconst 1, 1) := by decide +kernel
theorem dX0_isUnserved_15 : decode cX0_isUnserved 15 = .ok (.goto 4, 3) := by decide +kernel
theorem dX0_isUnserved_18 : decode cX0_isUnserved 18 = .ok (.iconst 0, 1) := by decide +kernel
theorem dX0_isUnserved_19 : decode cX0_isUnserved 19 = .ok (.ireturn, 1) := by decide +kernel
theorem dX6_holdNothing_0 : decode cX6_holdNothing 0 = .ok (.aload_n 0, 1) := by decide +kernel
theorem dX6_holdNothing_1 : decode cX6_holdNothing 1 = .ok (.iconst (-1), 1) := by decide +kernel
theorem dX6_holdNothing_2 : decode cX6_holdNothing 2 = .ok (.putfield 15, 3) := by decide +kernel
theorem dX6_holdNothing_5 : decode cX6_holdNothing 5 = .ok (.aload_n 0, 1) := by decide +kernel
theorem dX6_holdNothing_6 : decode cX6_holdNothing 6 = .ok (.lconst 0, 1) := by decide +kernel
theorem dX6_holdNothing_7 : decode cX6_holdNothing 7 = .ok (.putfield 19, 3) := by decide +kernel
theorem dX6_holdNothing_10 : decode cX6_holdNothing 10 = .ok (.return_, 1) := by decide +kernel
theorem dX11_clientsAlike_0 : decode cX11_clientsAlike 0 = .ok (.iconst 0, 1) := by decide +kernel
theorem dX11_clientsAlike_1 : decode cX11_clientsAlike 1 = .ok (.istore_n 1, 1) := by decide +kernel
theorem dX11_clientsAlike_2 : decode cX11_clientsAlike 2 = .ok (.iconst 0, 1) := by decide +kernel
theorem dX11_clientsAlike_3 : decode cX11_clientsAlike 3 = .ok (.istore_n 2, 1) := by decide +kernel
theorem dX11_clientsAlike_4 : decode cX11_clientsAlike 4 = .ok (.iload_n 2, 1) := by decide +kernel
theorem dX11_clientsAlike_5 : decode cX11_clientsAlike 5 = .ok (.iconst 4, 1) := by decide +kernel
theorem dX11_clientsAlike_6 : decode cX11_clientsAlike 6 = .ok (.if_icmp .ge 137, 3) := by decide +kernel
theorem dX11_clientsAlike_9 : decode cX11_clientsAlike 9 = .ok (.aload_n 0, 1) := by decide +kernel
theorem dX11_clientsAlike_10 : decode cX11_clientsAlike 10 = .ok (.getfield 48, 3) := by decide +kernel
theorem dX11_clientsAlike_13 : decode cX11_clientsAlike 13 = .ok (.iconst 4, 1) := by decide +kernel
theorem dX11_clientsAlike_14 : decode cX11_clientsAlike 14 = .ok (.aload_n 0, 1) := by decide +kernel
theorem dX11_clientsAlike_15 : decode cX11_clientsAlike 15 = .ok (.getfield 98, 3) := by decide +kernel
theorem dX11_clientsAlike_18 : decode cX11_clientsAlike 18 = .ok (.iconst 4, 1) := by decide +kernel
theorem dX11_clientsAlike_19 : decode cX11_clientsAlike 19 = .ok (.invokevirtual 274, 3) := by decide +kernel
theorem dX11_clientsAlike_22 : decode cX11_clientsAlike 22 = .ok (.iconst 0, 1) := by decide +kernel
theorem dX11_clientsAlike_23 : decode cX11_clientsAlike 23 = .ok (.invokevirtual 247, 3) := by decide +kernel
theorem dX11_clientsAlike_26 : decode cX11_clientsAlike 26 = .ok (.istore_n 3, 1) := by decide +kernel
theorem dX11_clientsAlike_27 : decode cX11_clientsAlike 27 = .ok (.aload_n 0, 1) := by decide +kernel
theorem dX11_clientsAlike_28 : decode cX11_clientsAlike 28 = .ok (.getfield 21, 3) := by decide +kernel
theorem dX11_clientsAlike_31 : decode cX11_clientsAlike 31 = .ok (.aload_n 0, 1) := by decide +kernel
theorem dX11_clientsAlike_32 : decode cX11_clientsAlike 32 = .ok (.getfield 48, 3) := by decide +kernel
theorem dX11_clientsAlike_35 : decode cX11_clientsAlike 35 = .ok (.getfield 195, 3) := by decide +kernel
theorem dX11_clientsAlike_38 : decode cX11_clientsAlike 38 = .ok (.iconst 4, 1) := by decide +kernel
theorem dX11_clientsAlike_39 : decode cX11_clientsAlike 39 = .ok (.iadd, 1) := by decide +kernel
theorem dX11_clientsAlike_40 : decode cX11_clientsAlike 40 = .ok (.iload_n 3, 1) := by decide +kernel
theorem dX11_clientsAlike_41 : decode cX11_clientsAlike 41 = .ok (.invokevirtual 261, 3) := by decide +kernel
theorem dX11_clientsAlike_44 : decode cX11_clientsAlike 44 = .ok (.aload_n 0, 1) := by decide +kernel
theorem dX11_clientsAlike_45 : decode cX11_clientsAlike 45 = .ok (.getfield 48, 3) := by decide +kernel
theorem dX11_clientsAlike_48 : decode cX11_clientsAlike 48 = .ok (.iconst 4, 1) := by decide +kernel
theorem dX11_clientsAlike_49 : decode cX11_clientsAlike 49 = .ok (.aload_n 0, 1) := by decide +kernel
theorem dX11_clientsAlike_50 : decode cX11_clientsAlike 50 = .ok (.getfield 98, 3) := by decide +kernel
theorem dX11_clientsAlike_53 : decode cX11_clientsAlike 53 = .ok (.iload_n 2, 1) := by decide +kernel
theorem dX11_clientsAlike_54 : decode cX11_clientsAlike 54 = .ok (.invokevirtual 274, 3) := by decide +kernel
theorem dX11_clientsAlike_57 : decode cX11_clientsAlike 57 = .ok (.iconst 0, 1) := by decide +kernel
theorem dX11_clientsAlike_58 : decode cX11_clientsAlike 58 = .ok (.invokevirtual 247, 3) := by decide +kernel
theorem dX11_clientsAlike_61 : decode cX11_clientsAlike 61 = .ok (.istore 4, 2) := by decide +kernel
theorem dX11_clientsAlike_63 : decode cX11_clientsAlike 63 = .ok (.aload_n 0, 1) := by decide +kernel
theorem dX11_clientsAlike_64 : decode cX11_clientsAlike 64 = .ok (.getfield 21, 3) := by decide +kernel
theorem dX11_clientsAlike_67 : decode cX11_clientsAlike 67 = .ok (.iload_n 3, 1) := by decide +kernel
theorem dX11_clientsAlike_68 : decode cX11_clientsAlike 68 = .ok (.invokevirtual 421, 3) := by decide +kernel
theorem dX11_clientsAlike_71 : decode cX11_clientsAlike 71 = .ok (.ifCond .eq 19, 3) := by decide +kernel
theorem dX11_clientsAlike_74 : decode cX11_clientsAlike 74 = .ok (.aload_n 0, 1) := by decide +kernel
theorem dX11_clientsAlike_75 : decode cX11_clientsAlike 75 = .ok (.getfield 21, 3) := by decide +kernel
theorem dX11_clientsAlike_78 : decode cX11_clientsAlike 78 = .ok (.iload 4, 2) := by decide +kernel
theorem dX11_clientsAlike_80 : decode cX11_clientsAlike 80 = .ok (.invokevirtual 421, 3) := by decide +kernel
theorem dX11_clientsAlike_83 : decode cX11_clientsAlike 83 = .ok (.ifCond .eq 7, 3) := by decide +kernel
theorem dX11_clientsAlike_86 : decode cX11_clientsAlike 86 = .ok (.iconst 1, 1) := by decide +kernel
theorem dX11_clientsAlike_87 : decode cX11_clientsAlike 87 = .ok (.goto 4, 3) := by decide +kernel
theorem dX11_clientsAlike_91 : decode cX11_clientsAlike 91 = .ok (.istore 5, 2) := by decide +kernel
theorem dX11_clientsAlike_93 : decode cX11_clientsAlike 93 = .ok (.iload 5, 2) := by decide +kernel
theorem dX11_clientsAlike_95 : decode cX11_clientsAlike 95 = .ok (.ifCond .eq 26, 3) := by decide +kernel
theorem dX11_clientsAlike_98 : decode cX11_clientsAlike 98 = .ok (.aload_n 0, 1) := by decide +kernel
theorem dX11_clientsAlike_99 : decode cX11_clientsAlike 99 = .ok (.getfield 21, 3) := by decide +kernel
theorem dX11_clientsAlike_102 : decode cX11_clientsAlike 102 = .ok (.iload_n 3, 1) := by decide +kernel
theorem dX11_clientsAlike_103 : decode cX11_clientsAlike 103 = .ok (.invokevirtual 424, 3) := by decide +kernel
theorem dX11_clientsAlike_106 : decode cX11_clientsAlike 106 = .ok (.aload_n 0, 1) := by decide +kernel
theorem dX11_clientsAlike_107 : decode cX11_clientsAlike 107 = .ok (.getfield 21, 3) := by decide +kernel
theorem dX11_clientsAlike_110 : decode cX11_clientsAlike 110 = .ok (.iload 4, 2) := by decide +kernel
theorem dX11_clientsAlike_112 : decode cX11_clientsAlike 112 = .ok (.invokevirtual 424, 3) := by decide +kernel
theorem dX11_clientsAlike_115 : decode cX11_clientsAlike 115 = .ok (.if_icmp .ne 22, 3) := by decide +kernel
theorem dX11_clientsAlike_118 : decode cX11_clientsAlike 118 = .ok (.goto 16, 3) := by decide +kernel
theorem dX11_clientsAlike_134 : decode cX11_clientsAlike 134 = .ok (.iinc 1 1, 3) := by decide +kernel
theorem dX11_clientsAlike_137 : decode cX11_clientsAlike 137 = .ok (.iinc 2 1, 3) := by decide +kernel
theorem dX11_clientsAlike_140 : decode cX11_clientsAlike 140 = .ok (.goto (-136), 3) := by decide +kernel
theorem dX11_clientsAlike_143 : decode cX11_clientsAlike 143 = .ok (.aload_n 0, 1) := by decide +kernel
theorem dX11_clientsAlike_144 : decode cX11_clientsAlike 144 = .ok (.getfield 21, 3) := by decide +kernel
theorem dX11_clientsAlike_147 : decode cX11_clientsAlike 147 = .ok (.aload_n 0, 1) := by decide +kernel
theorem dX11_clientsAlike_148 : decode cX11_clientsAlike 148 = .ok (.getfield 48, 3) := by decide +kernel
theorem dX11_clientsAlike_151 : decode cX11_clientsAlike 151 = .ok (.getfield 195, 3) := by decide +kernel
theorem dX11_clientsAlike_154 : decode cX11_clientsAlike 154 = .ok (.bipush 6, 2) := by decide +kernel
theorem dX11_clientsAlike_156 : decode cX11_clientsAlike 156 = .ok (.invokevirtual 201, 3) := by decide +kernel
theorem dX11_clientsAlike_159 : decode cX11_clientsAlike 159 = .ok (.iload_n 1, 1) := by decide +kernel
theorem dX11_clientsAlike_160 : decode cX11_clientsAlike 160 = .ok (.ireturn, 1) := by decide +kernel
theorem dX11_editsByNumber_0 : decode cX11_editsByNumber 0 = .ok (.iconst 0, 1) := by decide +kernel
theorem dX11_editsByNumber_1 : decode cX11_editsByNumber 1 = .ok (.istore_n 1, 1) := by decide +kernel
theorem dX11_editsByNumber_2 : decode cX11_editsByNumber 2 = .ok (.iconst 0, 1) := by decide +kernel
theorem dX11_editsByNumber_3 : decode cX11_editsByNumber 3 = .ok (.istore_n 2, 1) := by decide +kernel
theorem dX11_editsByNumber_4 : decode cX11_editsByNumber 4 = .ok (.iload_n 2, 1) := by decide +kernel
theorem dX11_editsByNumber_5 : decode cX11_editsByNumber 5 = .ok (.aload_n 0, 1) := by decide +kernel
theorem dX11_editsByNumber_6 : decode cX11_editsByNumber 6 = .ok (.getfield 69, 3) := by decide +kernel
theorem dX11_editsByNumber_9 : decode cX11_editsByNumber 9 = .ok (.arraylength, 1) := by decide +kernel
theorem dX11_editsByNumber_10 : decode cX11_editsByNumber 10 = .ok (.if_icmp .ge 21, 3) := by decide +kernel
theorem dX11_editsByNumber_13 : decode cX11_editsByNumber 13 = .ok (.aload_n 0, 1) := by decide +kernel
theorem dX11_editsByNumber_14 : decode cX11_editsByNumber 14 = .ok (.getfield 69, 3) := by decide +kernel
theorem dX11_editsByNumber_17 : decode cX11_editsByNumber 17 = .ok (.iload_n 2, 1) := by decide +kernel
theorem dX11_editsByNumber_18 : decode cX11_editsByNumber 18 = .ok (.baload, 1) := by decide +kernel
theorem dX11_editsByNumber_19 : decode cX11_editsByNumber 19 = .ok (.ifCond .eq 6, 3) := by decide +kernel
theorem dX11_editsByNumber_25 : decode cX11_editsByNumber 25 = .ok (.iinc 2 1, 3) := by decide +kernel
theorem dX11_editsByNumber_28 : decode cX11_editsByNumber 28 = .ok (.goto (-24), 3) := by decide +kernel
theorem dX11_editsByNumber_31 : decode cX11_editsByNumber 31 = .ok (.iload_n 1, 1) := by decide +kernel
theorem dX11_editsByNumber_32 : decode cX11_editsByNumber 32 = .ok (.ireturn, 1) := by decide +kernel
theorem dX11_allLetters_0 : decode cX11_allLetters 0 = .ok (.lconst 0, 1) := by decide +kernel
theorem dX11_allLetters_1 : decode cX11_allLetters 1 = .ok (.lstore_n 1, 1) := by decide +kernel
theorem dX11_allLetters_2 : decode cX11_allLetters 2 = .ok (.iconst 0, 1) := by decide +kernel
theorem dX11_allLetters_3 : decode cX11_allLetters 3 = .ok (.istore_n 3, 1) := by decide +kernel
theorem dX11_allLetters_4 : decode cX11_allLetters 4 = .ok (.iload_n 3, 1) := by decide +kernel
theorem dX11_allLetters_5 : decode cX11_allLetters 5 = .ok (.iconst 4, 1) := by decide +kernel
theorem dX11_allLetters_6 : decode cX11_allLetters 6 = .ok (.if_icmp .gt 84, 3) := by decide +kernel
theorem dX11_allLetters_9 : decode cX11_allLetters 9 = .ok (.aload_n 0, 1) := by decide +kernel
theorem dX11_allLetters_10 : decode cX11_allLetters 10 = .ok (.getfield 98, 3) := by decide +kernel
theorem dX11_allLetters_13 : decode cX11_allLetters 13 = .ok (.iload_n 3, 1) := by decide +kernel
theorem dX11_allLetters_14 : decode cX11_allLetters 14 = .ok (.invokevirtual 274, 3) := by decide +kernel
theorem dX11_allLetters_17 : decode cX11_allLetters 17 = .ok (.istore 4, 2) := by decide +kernel
theorem dX11_allLetters_19 : decode cX11_allLetters 19 = .ok (.aload_n 0, 1) := by decide +kernel
theorem dX11_allLetters_20 : decode cX11_allLetters 20 = .ok (.getfield 21, 3) := by decide +kernel
theorem dX11_allLetters_23 : decode cX11_allLetters 23 = .ok (.iload 4, 2) := by decide +kernel
theorem dX11_allLetters_25 : decode cX11_allLetters 25 = .ok (.invokevirtual 222, 3) := by decide +kernel
theorem dX11_allLetters_28 : decode cX11_allLetters 28 = .ok (.ldc2_w 267, 3) := by decide +kernel
theorem dX11_allLetters_31 : decode cX11_allLetters 31 = .ok (.lcmp, 1) := by decide +kernel
theorem dX11_allLetters_32 : decode cX11_allLetters 32 = .ok (.ifCond .ne 15, 3) := by decide +kernel
theorem dX11_allLetters_47 : decode cX11_allLetters 47 = .ok (.aload_n 0, 1) := by decide +kernel
theorem dX11_allLetters_48 : decode cX11_allLetters 48 = .ok (.getfield 21, 3) := by decide +kernel
theorem dX11_allLetters_51 : decode cX11_allLetters 51 = .ok (.iload 4, 2) := by decide +kernel
theorem dX11_allLetters_53 : decode cX11_allLetters 53 = .ok (.invokevirtual 222, 3) := by decide +kernel
theorem dX11_allLetters_56 : decode cX11_allLetters 56 = .ok (.ldc2_w 267, 3) := by decide +kernel
theorem dX11_allLetters_59 : decode cX11_allLetters 59 = .ok (.lcmp, 1) := by decide +kernel
theorem dX11_allLetters_60 : decode cX11_allLetters 60 = .ok (.ifCond .ne 12, 3) := by decide +kernel
theorem dX11_allLetters_72 : decode cX11_allLetters 72 = .ok (.lload_n 1, 1) := by decide +kernel
theorem dX11_allLetters_73 : decode cX11_allLetters 73 = .ok (.aload_n 0, 1) := by decide +kernel
theorem dX11_allLetters_74 : decode cX11_allLetters 74 = .ok (.getfield 21, 3) := by decide +kernel
theorem dX11_allLetters_77 : decode cX11_allLetters 77 = .ok (.iload 4, 2) := by decide +kernel
theorem dX11_allLetters_79 : decode cX11_allLetters 79 = .ok (.invokevirtual 222, 3) := by decide +kernel
theorem dX11_allLetters_82 : decode cX11_allLetters 82 = .ok (.ladd, 1) := by decide +kernel
theorem dX11_allLetters_83 : decode cX11_allLetters 83 = .ok (.lstore_n 1, 1) := by decide +kernel
theorem dX11_allLetters_84 : decode cX11_allLetters 84 = .ok (.iinc 3 1, 3) := by decide +kernel
theorem dX11_allLetters_87 : decode cX11_allLetters 87 = .ok (.goto (-83), 3) := by decide +kernel
theorem dX11_allLetters_90 : decode cX11_allLetters 90 = .ok (.lload_n 1, 1) := by decide +kernel
theorem dX11_allLetters_91 : decode cX11_allLetters 91 = .ok (.lreturn, 1) := by decide +kernel
theorem dX3_clientsSending_0 : decode cX3_clientsSending 0 = .ok (.iconst 0, 1) := by decide +kernel
theorem dX3_clientsSending_1 : decode cX3_clientsSending 1 = .ok (.istore_n 1, 1) := by decide +kernel
theorem dX3_clientsSending_2 : decode cX3_clientsSending 2 = .ok (.iconst 0, 1) := by decide +kernel
theorem dX3_clientsSending_3 : decode cX3_clientsSending 3 = .ok (.istore_n 2, 1) := by decide +kernel
theorem dX3_clientsSending_4 : decode cX3_clientsSending 4 = .ok (.iload_n 2, 1) := by decide +kernel
theorem dX3_clientsSending_5 : decode cX3_clientsSending 5 = .ok (.iconst 4, 1) := by decide +kernel
theorem dX3_clientsSending_6 : decode cX3_clientsSending 6 = .ok (.if_icmp .ge 29, 3) := by decide +kernel
theorem dX3_clientsSending_9 : decode cX3_clientsSending 9 = .ok (.aload_n 0, 1) := by decide +kernel
theorem dX3_clientsSending_10 : decode cX3_clientsSending 10 = .ok (.iload_n 2, 1) := by decide +kernel
theorem dX3_clientsSending_11 : decode cX3_clientsSending 11 = .ok (.invokevirtual 44, 3) := by decide +kernel
theorem dX3_clientsSending_14 : decode cX3_clientsSending 14 = .ok (.astore_n 3, 1) := by decide +kernel
theorem dX3_clientsSending_15 : decode cX3_clientsSending 15 = .ok (.aload_n 3, 1) := by decide +kernel
theorem dX3_clientsSending_16 : decode cX3_clientsSending 16 = .ok (.ifnull 13, 3) := by decide +kernel
theorem dX3_clientsSending_19 : decode cX3_clientsSending 19 = .ok (.aload_n 3, 1) := by decide +kernel
theorem dX3_clientsSending_20 : decode cX3_clientsSending 20 = .ok (.getfield 88, 3) := by decide +kernel
theorem dX3_clientsSending_23 : decode cX3_clientsSending 23 = .ok (.ifCond .eq 6, 3) := by decide +kernel
theorem dX3_clientsSending_29 : decode cX3_clientsSending 29 = .ok (.iinc 2 1, 3) := by decide +kernel
theorem dX3_clientsSending_32 : decode cX3_clientsSending 32 = .ok (.goto (-28), 3) := by decide +kernel
theorem dX3_clientsSending_35 : decode cX3_clientsSending 35 = .ok (.iload_n 1, 1) := by decide +kernel
theorem dX3_clientsSending_36 : decode cX3_clientsSending 36 = .ok (.ireturn, 1) := by decide +kernel
theorem dX11_shelvesInUse_0 : decode cX11_shelvesInUse 0 = .ok (.iconst 0, 1) := by decide +kernel
theorem dX11_shelvesInUse_1 : decode cX11_shelvesInUse 1 = .ok (.istore_n 1, 1) := by decide +kernel
theorem dX11_shelvesInUse_2 : decode cX11_shelvesInUse 2 = .ok (.iconst 0, 1) := by decide +kernel
theorem dX11_shelvesInUse_3 : decode cX11_shelvesInUse 3 = .ok (.istore_n 2, 1) := by decide +kernel
theorem dX11_shelvesInUse_4 : decode cX11_shelvesInUse 4 = .ok (.iload_n 2, 1) := by decide +kernel
theorem dX11_shelvesInUse_5 : decode cX11_shelvesInUse 5 = .ok (.aload_n 0, 1) := by decide +kernel
theorem dX11_shelvesInUse_6 : decode cX11_shelvesInUse 6 = .ok (.getfield 75, 3) := by decide +kernel
theorem dX11_shelvesInUse_9 : decode cX11_shelvesInUse 9 = .ok (.arraylength, 1) := by decide +kernel
theorem dX11_shelvesInUse_10 : decode cX11_shelvesInUse 10 = .ok (.if_icmp .ge 33, 3) := by decide +kernel
theorem dX11_shelvesInUse_13 : decode cX11_shelvesInUse 13 = .ok (.aload_n 0, 1) := by decide +kernel
theorem dX11_shelvesInUse_14 : decode cX11_shelvesInUse 14 = .ok (.getfield 75, 3) := by decide +kernel
theorem dX11_shelvesInUse_17 : decode cX11_shelvesInUse 17 = .ok (.iload_n 2, 1) := by decide +kernel
theorem dX11_shelvesInUse_18 : decode cX11_shelvesInUse 18 = .ok (.aaload, 1) := by decide +kernel
theorem dX11_shelvesInUse_19 : decode cX11_shelvesInUse 19 = .ok (.ifnull 18, 3) := by decide +kernel
theorem dX11_shelvesInUse_22 : decode cX11_shelvesInUse 22 = .ok (.aload_n 0, 1) := by decide +kernel
theorem dX11_shelvesInUse_23 : decode cX11_shelvesInUse 23 = .ok (.getfield 75, 3) := by decide +kernel
theorem dX11_shelvesInUse_26 : decode cX11_shelvesInUse 26 = .ok (.iload_n 2, 1) := by decide +kernel
theorem dX11_shelvesInUse_27 : decode cX11_shelvesInUse 27 = .ok (.aaload, 1) := by decide +kernel
theorem dX11_shelvesInUse_28 : decode cX11_shelvesInUse 28 = .ok (.invokevirtual 120, 3) := by decide +kernel
theorem dX11_shelvesInUse_31 : decode cX11_shelvesInUse 31 = .ok (.ifCond .ne 6, 3) := by decide +kernel
theorem dX11_shelvesInUse_37 : decode cX11_shelvesInUse 37 = .ok (.iinc 2 1, 3) := by decide +kernel
theorem dX11_shelvesInUse_40 : decode cX11_shelvesInUse 40 = .ok (.goto (-36), 3) := by decide +kernel
theorem dX11_shelvesInUse_43 : decode cX11_shelvesInUse 43 = .ok (.iload_n 1, 1) := by decide +kernel
theorem dX11_shelvesInUse_44 : decode cX11_shelvesInUse 44 = .ok (.ireturn, 1) := by decide +kernel
theorem dX0_has_0 : decode cX0_has 0 = .ok (.iload_n 1, 1) := by decide +kernel
theorem dX0_has_1 : decode cX0_has 1 = .ok (.lookupswitch 37 #[(0, 27), (1, 32)], 27) := by decide +kernel
theorem dX0_has_28 : decode cX0_has 28 = .ok (.aload_n 0, 1) := by decide +kernel
theorem dX0_has_29 : decode cX0_has 29 = .ok (.getfield 34, 3) := by decide +kernel
theorem dX0_has_32 : decode cX0_has 32 = .ok (.ireturn, 1) := by decide +kernel
theorem dX0_has_33 : decode cX0_has 33 = .ok (.aload_n 0, 1) := by decide +kernel
theorem dX0_has_34 : decode cX0_has 34 = .ok (.getfield 47, 3) := by decide +kernel
theorem dX0_has_37 : decode cX0_has 37 = .ok (.ireturn, 1) := by decide +kernel
theorem dX0_has_38 : decode cX0_has 38 = .ok (.aload_n 0, 1) := by decide +kernel
theorem dX0_has_39 : decode cX0_has 39 = .ok (.iload_n 1, 1) := by decide +kernel
theorem dX0_has_40 : decode cX0_has 40 = .ok (.iconst 2, 1) := by decide +kernel
theorem dX0_has_41 : decode cX0_has 41 = .ok (.isub, 1) := by decide +kernel
theorem dX0_has_42 : decode cX0_has 42 = .ok (.invokevirtual 50, 3) := by decide +kernel
theorem dX0_has_45 : decode cX0_has 45 = .ok (.ifCond .le 7, 3) := by decide +kernel
theorem dX0_has_52 : decode cX0_has 52 = .ok (.iconst 0, 1) := by decide +kernel
theorem dX0_has_53 : decode cX0_has 53 = .ok (.ireturn, 1) := by decide +kernel
theorem dX12_isText_0 : decode cX12_isText 0 = .ok (.iload_n 0, 1) := by decide +kernel
theorem dX12_isText_1 : decode cX12_isText 1 = .ok (.i2l, 1) := by decide +kernel
theorem dX12_isText_2 : decode cX12_isText 2 = .ok (.lconst 0, 1) := by decide +kernel
theorem dX12_isText_3 : decode cX12_isText 3 = .ok (.ldc2_w 317, 3) := by decide +kernel
theorem dX12_isText_6 : decode cX12_isText 6 = .ok (.invokestatic 175, 3) := by decide +kernel
theorem dX12_isText_9 : decode cX12_isText 9 = .ok (.ireturn, 1) := by decide +kernel
theorem dX12_firstApart_0 : decode cX12_firstApart 0 = .ok (.iconst 0, 1) := by decide +kernel
theorem dX12_firstApart_1 : decode cX12_firstApart 1 = .ok (.istore_n 3, 1) := by decide +kernel
theorem dX12_firstApart_2 : decode cX12_firstApart 2 = .ok (.iload_n 3, 1) := by decide +kernel
theorem dX12_firstApart_3 : decode cX12_firstApart 3 = .ok (.aload_n 0, 1) := by decide +kernel
theorem dX12_firstApart_4 : decode cX12_firstApart 4 = .ok (.getfield 25, 3) := by decide +kernel
theorem dX12_firstApart_7 : decode cX12_firstApart 7 = .ok (.iload_n 1, 1) := by decide +kernel
theorem dX12_firstApart_8 : decode cX12_firstApart 8 = .ok (.iaload, 1) := by decide +kernel
theorem dX12_firstApart_9 : decode cX12_firstApart 9 = .ok (.aload_n 0, 1) := by decide +kernel
theorem dX12_firstApart_10 : decode cX12_firstApart 10 = .ok (.getfield 25, 3) := by decide +kernel
theorem dX12_firstApart_13 : decode cX12_firstApart 13 = .ok (.iload_n 2, 1) := by decide +kernel
theorem dX12_firstApart_14 : decode cX12_firstApart 14 = .ok (.iaload, 1) := by decide +kernel
theorem dX12_firstApart_15 : decode cX12_firstApart 15 = .ok (.invokestatic 275, 3) := by decide +kernel
theorem dX12_firstApart_18 : decode cX12_firstApart 18 = .ok (.if_icmp .ge 50, 3) := by decide +kernel
theorem dX12_firstApart_68 : decode cX12_firstApart 68 = .ok (.iconst (-1), 1) := by decide +kernel
theorem dX12_firstApart_69 : decode cX12_firstApart 69 = .ok (.ireturn, 1) := by decide +kernel
theorem dX12_isEdit_0 : decode cX12_isEdit 0 = .ok (.iload_n 0, 1) := by decide +kernel
theorem dX12_isEdit_1 : decode cX12_isEdit 1 = .ok (.i2l, 1) := by decide +kernel
theorem dX12_isEdit_2 : decode cX12_isEdit 2 = .ok (.lconst 0, 1) := by decide +kernel
theorem dX12_isEdit_3 : decode cX12_isEdit 3 = .ok (.ldc2_w 179, 3) := by decide +kernel
theorem dX12_isEdit_6 : decode cX12_isEdit 6 = .ok (.invokestatic 175, 3) := by decide +kernel
theorem dX12_isEdit_9 : decode cX12_isEdit 9 = .ok (.ireturn, 1) := by decide +kernel
theorem dX12_isKept_0 : decode cX12_isKept 0 = .ok (.aload_n 0, 1) := by decide +kernel
theorem dX12_isKept_1 : decode cX12_isKept 1 = .ok (.getfield 18, 3) := by decide +kernel
theorem dX12_isKept_4 : decode cX12_isKept 4 = .ok (.iload_n 1, 1) := by decide +kernel
theorem dX12_isKept_5 : decode cX12_isKept 5 = .ok (.baload, 1) := by decide +kernel
theorem dX12_isKept_6 : decode cX12_isKept 6 = .ok (.ireturn, 1) := by decide +kernel
theorem dX12_isClient_0 : decode cX12_isClient 0 = .ok (.iload_n 0, 1) := by decide +kernel
theorem dX12_isClient_1 : decode cX12_isClient 1 = .ok (.i2l, 1) := by decide +kernel
theorem dX12_isClient_2 : decode cX12_isClient 2 = .ok (.lconst 0, 1) := by decide +kernel
theorem dX12_isClient_3 : decode cX12_isClient 3 = .ok (.ldc2_w 173, 3) := by decide +kernel
theorem dX12_isClient_6 : decode cX12_isClient 6 = .ok (.invokestatic 175, 3) := by decide +kernel
theorem dX12_isClient_9 : decode cX12_isClient 9 = .ok (.ireturn, 1) := by decide +kernel
theorem dX12_st_0 : decode cX12_st 0 = .ok (.aload_n 0, 1) := by decide +kernel
theorem dX12_st_1 : decode cX12_st 1 = .ok (.getfield 28, 3) := by decide +kernel
theorem dX12_st_4 : decode cX12_st 4 = .ok (.bipush 8, 2) := by decide +kernel
theorem dX12_st_6 : decode cX12_st 6 = .ok (.iload_n 1, 1) := by decide +kernel
theorem dX12_st_7 : decode cX12_st 7 = .ok (.imul, 1) := by decide +kernel
theorem dX12_st_8 : decode cX12_st 8 = .ok (.iload_n 2, 1) := by decide +kernel
theorem dX12_st_9 : decode cX12_st 9 = .ok (.iadd, 1) := by decide +kernel
theorem dX12_st_10 : decode cX12_st 10 = .ok (.iaload, 1) := by decide +kernel
theorem dX12_st_11 : decode cX12_st 11 = .ok (.ireturn, 1) := by decide +kernel
theorem dX12_isShelf_0 : decode cX12_isShelf 0 = .ok (.iload_n 0, 1) := by decide +kernel
theorem dX12_isShelf_1 : decode cX12_isShelf 1 = .ok (.i2l, 1) := by decide +kernel
theorem dX12_isShelf_2 : decode cX12_isShelf 2 = .ok (.lconst 0, 1) := by decide +kernel
theorem dX12_isShelf_3 : decode cX12_isShelf 3 = .ok (.ldc2_w 325, 3) := by decide +kernel
theorem dX12_isShelf_6 : decode cX12_isShelf 6 = .ok (.invokestatic 175, 3) := by decide +kernel
theorem dX12_isShelf_9 : decode cX12_isShelf 9 = .ok (.ireturn, 1) := by decide +kernel
theorem dX12_isStretch_0 : decode cX12_isStretch 0 = .ok (.iload_n 1, 1) := by decide +kernel
theorem dX12_isStretch_1 : decode cX12_isStretch 1 = .ok (.invokestatic 272, 3) := by decide +kernel
theorem dX12_isStretch_4 : decode cX12_isStretch 4 = .ok (.ifCond .eq 42, 3) := by decide +kernel
theorem dX12_isStretch_7 : decode cX12_isStretch 7 = .ok (.iload_n 3, 1) := by decide +kernel
theorem dX12_isStretch_8 : decode cX12_isStretch 8 = .ok (.iconst 1, 1) := by decide +kernel
theorem dX12_isStretch_9 : decode cX12_isStretch 9 = .ok (.if_icmp .lt 37, 3) := by decide +kernel
theorem dX12_isStretch_12 : decode cX12_isStretch 12 = .ok (.iload_n 2, 1) := by decide +kernel
theorem dX12_isStretch_13 : decode cX12_isStretch 13 = .ok (.i2l, 1) := by decide +kernel
theorem dX12_isStretch_14 : decode cX12_isStretch 14 = .ok (.lconst 0, 1) := by decide +kernel
theorem dX12_isStretch_15 : decode cX12_isStretch 15 = .ok (.aload_n 0, 1) := by decide +kernel
theorem dX12_isStretch_16 : decode cX12_isStretch 16 = .ok (.getfield 25, 3) := by decide +kernel
theorem dX12_isStretch_19 : decode cX12_isStretch 19 = .ok (.iload_n 1, 1) := by decide +kernel
theorem dX12_isStretch_20 : decode cX12_isStretch 20 = .ok (.iaload, 1) := by decide +kernel
theorem dX12_isStretch_21 : decode cX12_isStretch 21 = .ok (.iconst 1, 1) := by decide +kernel
theorem dX12_isStretch_22 : decode cX12_isStretch 22 = .ok (.isub, 1) := by decide +kernel
theorem dX12_isStretch_23 : decode cX12_isStretch 23 = .ok (.i2l, 1) := by decide +kernel
theorem dX12_isStretch_24 : decode cX12_isStretch 24 = .ok (.invokestatic 175, 3) := by decide +kernel
theorem dX12_isStretch_27 : decode cX12_isStretch 27 = .ok (.ifCond .eq 19, 3) := by decide +kernel
theorem dX12_isStretch_46 : decode cX12_isStretch 46 = .ok (.iconst 0, 1) := by decide +kernel
theorem dX12_isStretch_47 : decode cX12_isStretch 47 = .ok (.ireturn, 1) := by decide +kernel
theorem dX12_isPart_0 : decode cX12_isPart 0 = .ok (.aload_n 0, 1) := by decide +kernel
theorem dX12_isPart_1 : decode cX12_isPart 1 = .ok (.aload_n 0, 1) := by decide +kernel
theorem dX12_isPart_2 : decode cX12_isPart 2 = .ok (.getfield 190, 3) := by decide +kernel
theorem dX12_isPart_5 : decode cX12_isPart 5 = .ok (.invokevirtual 193, 3) := by decide +kernel
theorem dX12_isPart_8 : decode cX12_isPart 8 = .ok (.istore_n 1, 1) := by decide +kernel
theorem dX12_isPart_9 : decode cX12_isPart 9 = .ok (.iload_n 1, 1) := by decide +kernel
theorem dX12_isPart_10 : decode cX12_isPart 10 = .ok (.bipush 61, 2) := by decide +kernel
theorem dX12_isPart_12 : decode cX12_isPart 12 = .ok (.if_icmp .eq 29, 3) := by decide +kernel
theorem dX12_isPart_15 : decode cX12_isPart 15 = .ok (.iload_n 1, 1) := by decide +kernel
theorem dX12_isPart_16 : decode cX12_isPart 16 = .ok (.bipush 45, 2) := by decide +kernel
theorem dX12_isPart_18 : decode cX12_isPart 18 = .ok (.if_icmp .eq 23, 3) := by decide +kernel
theorem dX12_isPart_21 : decode cX12_isPart 21 = .ok (.iload_n 1, 1) := by decide +kernel
theorem dX12_isPart_22 : decode cX12_isPart 22 = .ok (.bipush 43, 2) := by decide +kernel
theorem dX12_isPart_24 : decode cX12_isPart 24 = .ok (.if_icmp .eq 17, 3) := by decide +kernel
theorem dX12_isPart_27 : decode cX12_isPart 27 = .ok (.iload_n 1, 1) := by decide +kernel
theorem dX12_isPart_28 : decode cX12_isPart 28 = .ok (.bipush 94, 2) := by decide +kernel
theorem dX12_isPart_30 : decode cX12_isPart 30 = .ok (.if_icmp .eq 11, 3) := by decide +kernel
theorem dX12_isPart_33 : decode cX12_isPart 33 = .ok (.iload_n 1, 1) := by decide +kernel
theorem dX12_isPart_34 : decode cX12_isPart 34 = .ok (.bipush 95, 2) := by decide +kernel
theorem dX12_isPart_36 : decode cX12_isPart 36 = .ok (.if_icmp .eq 5, 3) := by decide +kernel
theorem dX12_isPart_39 : decode cX12_isPart 39 = .ok (.iconst 0, 1) := by decide +kernel
theorem dX12_isPart_40 : decode cX12_isPart 40 = .ok (.ireturn, 1) := by decide +kernel
theorem dX12_copiesRows_0 : decode cX12_copiesRows 0 = .ok (.iload_n 2, 1) := by decide +kernel
theorem dX12_copiesRows_1 : decode cX12_copiesRows 1 = .ok (.istore 5, 2) := by decide +kernel
theorem dX12_copiesRows_3 : decode cX12_copiesRows 3 = .ok (.iload 5, 2) := by decide +kernel
theorem dX12_copiesRows_5 : decode cX12_copiesRows 5 = .ok (.aload_n 1, 1) := by decide +kernel
theorem dX12_copiesRows_6 : decode cX12_copiesRows 6 = .ok (.arraylength, 1) := by decide +kernel
theorem dX12_copiesRows_7 : decode cX12_copiesRows 7 = .ok (.if_icmp .ge 48, 3) := by decide +kernel
theorem dX12_copiesRows_10 : decode cX12_copiesRows 10 = .ok (.aload_n 3, 1) := by decide +kernel
theorem dX12_copiesRows_11 : decode cX12_copiesRows 11 = .ok (.iload 5, 2) := by decide +kernel
theorem dX12_copiesRows_13 : decode cX12_copiesRows 13 = .ok (.aload_n 3, 1) := by decide +kernel
theorem dX12_copiesRows_14 : decode cX12_copiesRows 14 = .ok (.iload 5, 2) := by decide +kernel
theorem dX12_copiesRows_16 : decode cX12_copiesRows 16 = .ok (.aaload, 1) := by decide +kernel
theorem dX12_copiesRows_17 : decode cX12_copiesRows 17 = .ok (.aload_n 1, 1) := by decide +kernel
theorem dX12_copiesRows_18 : decode cX12_copiesRows 18 = .ok (.iload 5, 2) := by decide +kernel
theorem dX12_copiesRows_20 : decode cX12_copiesRows 20 = .ok (.iaload, 1) := by decide +kernel
theorem dX12_copiesRows_21 : decode cX12_copiesRows 21 = .ok (.invokestatic 93, 3) := by decide +kernel
theorem dX12_copiesRows_24 : decode cX12_copiesRows 24 = .ok (.aastore, 1) := by decide +kernel
theorem dX12_copiesRows_25 : decode cX12_copiesRows 25 = .ok (.aload_n 0, 1) := by decide +kernel
theorem dX12_copiesRows_26 : decode cX12_copiesRows 26 = .ok (.iload 5, 2) := by decide +kernel
theorem dX12_copiesRows_28 : decode cX12_copiesRows 28 = .ok (.aaload, 1) := by decide +kernel
theorem dX12_copiesRows_29 : decode cX12_copiesRows 29 = .ok (.aload_n 3, 1) := by decide +kernel
theorem dX12_copiesRows_30 : decode cX12_copiesRows 30 = .ok (.iload 5, 2) := by decide +kernel
theorem dX12_copiesRows_32 : decode cX12_copiesRows 32 = .ok (.aaload, 1) := by decide +kernel
theorem dX12_copiesRows_33 : decode cX12_copiesRows 33 = .ok (.aload_n 1, 1) := by decide +kernel
theorem dX12_copiesRows_34 : decode cX12_copiesRows 34 = .ok (.iload 5, 2) := by decide +kernel
theorem dX12_copiesRows_36 : decode cX12_copiesRows 36 = .ok (.iaload, 1) := by decide +kernel
theorem dX12_copiesRows_37 : decode cX12_copiesRows 37 = .ok (.invokestatic 355, 3) := by decide +kernel
theorem dX12_copiesRows_40 : decode cX12_copiesRows 40 = .ok (.aload 4, 2) := by decide +kernel
theorem dX12_copiesRows_42 : decode cX12_copiesRows 42 = .ok (.iload 5, 2) := by decide +kernel
theorem dX12_copiesRows_44 : decode cX12_copiesRows 44 = .ok (.aload_n 1, 1) := by decide +kernel
theorem dX12_copiesRows_45 : decode cX12_copiesRows 45 = .ok (.iload 5, 2) := by decide +kernel
theorem dX12_copiesRows_47 : decode cX12_copiesRows 47 = .ok (.iaload, 1) := by decide +kernel
theorem dX12_copiesRows_48 : decode cX12_copiesRows 48 = .ok (.iastore, 1) := by decide +kernel
theorem dX12_copiesRows_49 : decode cX12_copiesRows 49 = .ok (.iinc 5 1, 3) := by decide +kernel
theorem dX12_copiesRows_52 : decode cX12_copiesRows 52 = .ok (.goto (-49), 3) := by decide +kernel
theorem dX12_copiesRows_55 : decode cX12_copiesRows 55 = .ok (.return_, 1) := by decide +kernel
theorem dX12_copies_0 : decode cX12_copies 0 = .ok (.iconst 0, 1) := by decide +kernel
theorem dX12_copies_1 : decode cX12_copies 1 = .ok (.istore_n 3, 1) := by decide +kernel
theorem dX12_copies_2 : decode cX12_copies 2 = .ok (.iload_n 3, 1) := by decide +kernel
theorem dX12_copies_3 : decode cX12_copies 3 = .ok (.iload_n 2, 1) := by decide +kernel
theorem dX12_copies_4 : decode cX12_copies 4 = .ok (.if_icmp .ge 15, 3) := by decide +kernel
theorem dX12_copies_7 : decode cX12_copies 7 = .ok (.aload_n 1, 1) := by decide +kernel
theorem dX12_copies_8 : decode cX12_copies 8 = .ok (.iload_n 3, 1) := by decide +kernel
theorem dX12_copies_9 : decode cX12_copies 9 = .ok (.aload_n 0, 1) := by decide +kernel
theorem dX12_copies_10 : decode cX12_copies 10 = .ok (.iload_n 3, 1) := by decide +kernel
theorem dX12_copies_11 : decode cX12_copies 11 = .ok (.iaload, 1) := by decide +kernel
theorem dX12_copies_12 : decode cX12_copies 12 = .ok (.iastore, 1) := by decide +kernel
theorem dX12_copies_13 : decode cX12_copies 13 = .ok (.iinc 3 1, 3) := by decide +kernel
theorem dX12_copies_16 : decode cX12_copies 16 = .ok (.goto (-14), 3) := by decide +kernel
theorem dX12_copies_19 : decode cX12_copies 19 = .ok (.return_, 1) := by decide +kernel
theorem dX12_inserts_0 : decode cX12_inserts 0 = .ok (.aload_n 0, 1) := by decide +kernel
theorem dX12_inserts_1 : decode cX12_inserts 1 = .ok (.getfield 43, 3) := by decide +kernel
theorem dX12_inserts_4 : decode cX12_inserts 4 = .ok (.iconst 0, 1) := by decide +kernel
theorem dX12_inserts_5 : decode cX12_inserts 5 = .ok (.iconst 0, 1) := by decide +kernel
theorem dX12_inserts_6 : decode cX12_inserts 6 = .ok (.iastore, 1) := by decide +kernel
theorem dX12_inserts_7 : decode cX12_inserts 7 = .ok (.iconst 0, 1) := by decide +kernel
theorem dX12_inserts_8 : decode cX12_inserts 8 = .ok (.istore 4, 2) := by decide +kernel
theorem dX12_inserts_10 : decode cX12_inserts 10 = .ok (.iload 4, 2) := by decide +kernel
theorem dX12_inserts_12 : decode cX12_inserts 12 = .ok (.aload_n 0, 1) := by decide +kernel
theorem dX12_inserts_13 : decode cX12_inserts 13 = .ok (.getfield 25, 3) := by decide +kernel
theorem dX12_inserts_16 : decode cX12_inserts 16 = .ok (.iload_n 1, 1) := by decide +kernel
theorem dX12_inserts_17 : decode cX12_inserts 17 = .ok (.iaload, 1) := by decide +kernel
theorem dX12_inserts_18 : decode cX12_inserts 18 = .ok (.if_icmp .gt 39, 3) := by decide +kernel
theorem dX12_inserts_21 : decode cX12_inserts 21 = .ok (.iload 4, 2) := by decide +kernel
theorem dX12_inserts_23 : decode cX12_inserts 23 = .ok (.iload_n 2, 1) := by decide +kernel
theorem dX12_inserts_24 : decode cX12_inserts 24 = .ok (.if_icmp .ne 9, 3) := by decide +kernel
theorem dX12_inserts_27 : decode cX12_inserts 27 = .ok (.aload_n 0, 1) := by decide +kernel
theorem dX12_inserts_28 : decode cX12_inserts 28 = .ok (.iconst 0, 1) := by decide +kernel
theorem dX12_inserts_29 : decode cX12_inserts 29 = .ok (.iload_n 3, 1) := by decide +kernel
theorem dX12_inserts_30 : decode cX12_inserts 30 = .ok (.invokevirtual 115, 3) := by decide +kernel
theorem dX12_inserts_33 : decode cX12_inserts 33 = .ok (.iload 4, 2) := by decide +kernel
theorem dX12_inserts_35 : decode cX12_inserts 35 = .ok (.aload_n 0, 1) := by decide +kernel
theorem dX12_inserts_36 : decode cX12_inserts 36 = .ok (.getfield 25, 3) := by decide +kernel
theorem dX12_inserts_39 : decode cX12_inserts 39 = .ok (.iload_n 1, 1) := by decide +kernel
theorem dX12_inserts_40 : decode cX12_inserts 40 = .ok (.iaload, 1) := by decide +kernel
theorem dX12_inserts_41 : decode cX12_inserts 41 = .ok (.if_icmp .ge 10, 3) := by decide +kernel
theorem dX12_inserts_44 : decode cX12_inserts 44 = .ok (.aload_n 0, 1) := by decide +kernel
theorem dX12_inserts_45 : decode cX12_inserts 45 = .ok (.iconst 0, 1) := by decide +kernel
theorem dX12_inserts_46 : decode cX12_inserts 46 = .ok (.ldc 108, 2) := by decide +kernel
theorem dX12_inserts_48 : decode cX12_inserts 48 = .ok (.invokevirtual 115, 3) := by decide +kernel
theorem dX12_inserts_51 : decode cX12_inserts 51 = .ok (.iinc 4 1, 3) := by decide +kernel
theorem dX12_inserts_54 : decode cX12_inserts 54 = .ok (.goto (-44), 3) := by decide +kernel
theorem dX12_inserts_57 : decode cX12_inserts 57 = .ok (.aload_n 0, 1) := by decide +kernel
theorem dX12_inserts_58 : decode cX12_inserts 58 = .ok (.iload_n 1, 1) := by decide +kernel
theorem dX12_inserts_59 : decode cX12_inserts 59 = .ok (.iconst 4, 1) := by decide +kernel
theorem dX12_inserts_60 : decode cX12_inserts 60 = .ok (.iconst 1, 1) := by decide +kernel
theorem dX12_inserts_61 : decode cX12_inserts 61 = .ok (.invokevirtual 283, 3) := by decide +kernel
theorem dX12_inserts_64 : decode cX12_inserts 64 = .ok (.return_, 1) := by decide +kernel
theorem dX12_hearAll_0 : decode cX12_hearAll 0 = .ok (.iconst 0, 1) := by decide +kernel
theorem dX12_hearAll_1 : decode cX12_hearAll 1 = .ok (.istore_n 1, 1) := by decide +kernel
theorem dX12_hearAll_2 : decode cX12_hearAll 2 = .ok (.iload_n 1, 1) := by decide +kernel
theorem dX12_hearAll_3 : decode cX12_hearAll 3 = .ok (.iconst 4, 1) := by decide +kernel
theorem dX12_hearAll_4 : decode cX12_hearAll 4 = .ok (.if_icmp .ge 32, 3) := by decide +kernel
theorem dX12_hearAll_7 : decode cX12_hearAll 7 = .ok (.aload_n 0, 1) := by decide +kernel
theorem dX12_hearAll_8 : decode cX12_hearAll 8 = .ok (.iload_n 1, 1) := by decide +kernel
theorem dX12_hearAll_9 : decode cX12_hearAll 9 = .ok (.iconst 0, 1) := by decide +kernel
theorem dX12_hearAll_10 : decode cX12_hearAll 10 = .ok (.invokevirtual 135, 3) := by decide +kernel
theorem dX12_hearAll_13 : decode cX12_hearAll 13 = .ok (.aload_n 0, 1) := by decide +kernel
theorem dX12_hearAll_14 : decode cX12_hearAll 14 = .ok (.getfield 34, 3) := by decide +kernel
theorem dX12_hearAll_17 : decode cX12_hearAll 17 = .ok (.iconst 0, 1) := by decide +kernel
theorem dX12_hearAll_18 : decode cX12_hearAll 18 = .ok (.iaload, 1) := by decide +kernel
theorem dX12_hearAll_19 : decode cX12_hearAll 19 = .ok (.if_icmp .ge 11, 3) := by decide +kernel
theorem dX12_hearAll_30 : decode cX12_hearAll 30 = .ok (.iinc 1 1, 3) := by decide +kernel
theorem dX12_hearAll_33 : decode cX12_hearAll 33 = .ok (.goto (-31), 3) := by decide +kernel
theorem dX12_hearAll_36 : decode cX12_hearAll 36 = .ok (.return_, 1) := by decide +kernel
theorem dX12_isAnySent_0 : decode cX12_isAnySent 0 = .ok (.iconst 0, 1) := by decide +kernel
theorem dX12_isAnySent_1 : decode cX12_isAnySent 1 = .ok (.istore_n 1, 1) := by decide +kernel
theorem dX12_isAnySent_2 : decode cX12_isAnySent 2 = .ok (.iconst 0, 1) := by decide +kernel
theorem dX12_isAnySent_3 : decode cX12_isAnySent 3 = .ok (.istore_n 2, 1) := by decide +kernel
theorem dX12_isAnySent_4 : decode cX12_isAnySent 4 = .ok (.iload_n 2, 1) := by decide +kernel
theorem dX12_isAnySent_5 : decode cX12_isAnySent 5 = .ok (.iconst 4, 1) := by decide +kernel
theorem dX12_isAnySent_6 : decode cX12_isAnySent 6 = .ok (.if_icmp .ge 29, 3) := by decide +kernel
theorem dX12_isAnySent_9 : decode cX12_isAnySent 9 = .ok (.iload_n 1, 1) := by decide +kernel
theorem dX12_isAnySent_10 : decode cX12_isAnySent 10 = .ok (.ifCond .ne 13, 3) := by decide +kernel
theorem dX12_isAnySent_13 : decode cX12_isAnySent 13 = .ok (.aload_n 0, 1) := by decide +kernel
theorem dX12_isAnySent_14 : decode cX12_isAnySent 14 = .ok (.iload_n 2, 1) := by decide +kernel
theorem dX12_isAnySent_15 : decode cX12_isAnySent 15 = .ok (.iconst 1, 1) := by decide +kernel
theorem dX12_isAnySent_16 : decode cX12_isAnySent 16 = .ok (.invokevirtual 135, 3) := by decide +kernel
theorem dX12_isAnySent_19 : decode cX12_isAnySent 19 = .ok (.iconst 1, 1) := by decide +kernel
theorem dX12_isAnySent_20 : decode cX12_isAnySent 20 = .ok (.if_icmp .ne 7, 3) := by decide +kernel
theorem dX12_isAnySent_27 : decode cX12_isAnySent 27 = .ok (.iconst 0, 1) := by decide +kernel
theorem dX12_isAnySent_28 : decode cX12_isAnySent 28 = .ok (.istore_n 1, 1) := by decide +kernel
theorem dX12_isAnySent_29 : decode cX12_isAnySent 29 = .ok (.iinc 2 1, 3) := by decide +kernel
theorem dX12_isAnySent_32 : decode cX12_isAnySent 32 = .ok (.goto (-28), 3) := by decide +kernel
theorem dX12_isAnySent_35 : decode cX12_isAnySent 35 = .ok (.iload_n 1, 1) := by decide +kernel
theorem dX12_isAnySent_36 : decode cX12_isAnySent 36 = .ok (.ireturn, 1) := by decide +kernel
theorem dX12_again_0 : decode cX12_again 0 = .ok (.aload_n 0, 1) := by decide +kernel
theorem dX12_again_1 : decode cX12_again 1 = .ok (.iload_n 1, 1) := by decide +kernel
theorem dX12_again_2 : decode cX12_again 2 = .ok (.iload_n 2, 1) := by decide +kernel
theorem dX12_again_3 : decode cX12_again 3 = .ok (.invokevirtual 135, 3) := by decide +kernel
theorem dX12_again_6 : decode cX12_again 6 = .ok (.istore_n 3, 1) := by decide +kernel
theorem dX12_again_7 : decode cX12_again 7 = .ok (.iload_n 3, 1) := by decide +kernel
theorem dX12_again_8 : decode cX12_again 8 = .ok (.ifCond .ne 6, 3) := by decide +kernel
theorem dX12_again_11 : decode cX12_again 11 = .ok (.bipush (-5), 2) := by decide +kernel
theorem dX12_again_13 : decode cX12_again 13 = .ok (.ireturn, 1) := by decide +kernel
theorem dX12_again_14 : decode cX12_again 14 = .ok (.aload_n 0, 1) := by decide +kernel
theorem dX12_again_15 : decode cX12_again 15 = .ok (.iconst 0, 1) := by decide +kernel
theorem dX12_again_16 : decode cX12_again 16 = .ok (.iload_n 2, 1) := by decide +kernel
theorem dX12_again_17 : decode cX12_again 17 = .ok (.iconst 4, 1) := by decide +kernel
theorem dX12_again_18 : decode cX12_again 18 = .ok (.if_icmp .ne 8, 3) := by decide +kernel
theorem dX12_again_21 : decode cX12_again 21 = .ok (.bipush 24, 2) := by decide +kernel
theorem dX12_again_23 : decode cX12_again 23 = .ok (.goto 5, 3) := by decide +kernel
theorem dX12_again_28 : decode cX12_again 28 = .ok (.bipush 20, 2) := by decide +kernel
theorem dX12_again_30 : decode cX12_again 30 = .ok (.iload_n 1, 1) := by decide +kernel
theorem dX12_again_31 : decode cX12_again 31 = .ok (.imul, 1) := by decide +kernel
theorem dX12_again_32 : decode cX12_again 32 = .ok (.iadd, 1) := by decide +kernel
theorem dX12_again_33 : decode cX12_again 33 = .ok (.iload_n 3, 1) := by decide +kernel
theorem dX12_again_34 : decode cX12_again 34 = .ok (.iadd, 1) := by decide +kernel
theorem dX12_again_35 : decode cX12_again 35 = .ok (.iconst 1, 1) := by decide +kernel
theorem dX12_again_36 : decode cX12_again 36 = .ok (.isub, 1) := by decide +kernel
theorem dX12_again_37 : decode cX12_again 37 = .ok (.invokevirtual 97, 3) := by decide +kernel
theorem dX12_again_40 : decode cX12_again 40 = .ok (.aload_n 0, 1) := by decide +kernel
theorem dX12_again_41 : decode cX12_again 41 = .ok (.iload_n 1, 1) := by decide +kernel
theorem dX12_again_42 : decode cX12_again 42 = .ok (.iconst 0, 1) := by decide +kernel
theorem dX12_again_43 : decode cX12_again 43 = .ok (.invokevirtual 280, 3) := by decide +kernel
theorem dX12_again_46 : decode cX12_again 46 = .ok (.ifCond .eq 6, 3) := by decide +kernel
theorem dX12_again_52 : decode cX12_again 52 = .ok (.aload_n 0, 1) := by decide +kernel
theorem dX12_again_53 : decode cX12_again 53 = .ok (.getfield 28, 3) := by decide +kernel
theorem dX12_again_56 : decode cX12_again 56 = .ok (.bipush 8, 2) := by decide +kernel
theorem dX12_again_58 : decode cX12_again 58 = .ok (.iload_n 1, 1) := by decide +kernel
theorem dX12_again_59 : decode cX12_again 59 = .ok (.imul, 1) := by decide +kernel
theorem dX12_again_60 : decode cX12_again 60 = .ok (.iload_n 2, 1) := by decide +kernel
theorem dX12_again_61 : decode cX12_again 61 = .ok (.iadd, 1) := by decide +kernel
theorem dX12_again_62 : decode cX12_again 62 = .ok (.iload_n 3, 1) := by decide +kernel
theorem dX12_again_63 : decode cX12_again 63 = .ok (.iconst 1, 1) := by decide +kernel
theorem dX12_again_64 : decode cX12_again 64 = .ok (.isub, 1) := by decide +kernel
theorem dX12_again_65 : decode cX12_again 65 = .ok (.iastore, 1) := by decide +kernel
theorem dX12_again_66 : decode cX12_again 66 = .ok (.aload_n 0, 1) := by decide +kernel
theorem dX12_again_67 : decode cX12_again 67 = .ok (.iload_n 1, 1) := by decide +kernel
theorem dX12_again_68 : decode cX12_again 68 = .ok (.bipush 9, 2) := by decide +kernel
theorem dX12_again_70 : decode cX12_again 70 = .ok (.iload_n 2, 1) := by decide +kernel
theorem dX12_again_71 : decode cX12_again 71 = .ok (.isub, 1) := by decide +kernel
theorem dX12_again_72 : decode cX12_again 72 = .ok (.iconst 0, 1) := by decide +kernel
theorem dX12_again_73 : decode cX12_again 73 = .ok (.invokevirtual 283, 3) := by decide +kernel
theorem dX12_again_76 : decode cX12_again 76 = .ok (.iconst 0, 1) := by decide +kernel
theorem dX12_again_77 : decode cX12_again 77 = .ok (.ireturn, 1) := by decide +kernel
theorem dX1_init_0 : decode cX1_init 0 = .ok (.aload_n 0, 1) := by decide +kernel
theorem dX1_init_1 : decode cX1_init 1 = .ok (.invokespecial 3, 3) := by decide +kernel
theorem dX1_init_4 : decode cX1_init 4 = .ok (.aload_n 0, 1) := by decide +kernel
theorem dX1_init_5 : decode cX1_init 5 = .ok (.sipush 2048, 3) := by decide +kernel
theorem dX1_init_8 : decode cX1_init 8 = .ok (.newarray .int, 2) := by decide +kernel
theorem dX1_init_10 : decode cX1_init 10 = .ok (.putfield 11, 3) := by decide +kernel
theorem dX1_init_13 : decode cX1_init 13 = .ok (.aload_n 0, 1) := by decide +kernel
theorem dX1_init_14 : decode cX1_init 14 = .ok (.sipush 2048, 3) := by decide +kernel
theorem dX1_init_17 : decode cX1_init 17 = .ok (.newarray .long, 2) := by decide +kernel
theorem dX1_init_19 : decode cX1_init 19 = .ok (.putfield 15, 3) := by decide +kernel
theorem dX1_init_22 : decode cX1_init 22 = .ok (.aload_n 0, 1) := by decide +kernel
theorem dX1_init_23 : decode cX1_init 23 = .ok (.sipush 2048, 3) := by decide +kernel
theorem dX1_init_26 : decode cX1_init 26 = .ok (.newarray .int, 2) := by decide +kernel
theorem dX1_init_28 : decode cX1_init 28 = .ok (.putfield 19, 3) := by decide +kernel
theorem dX1_init_31 : decode cX1_init 31 = .ok (.aload_n 0, 1) := by decide +kernel
theorem dX1_init_32 : decode cX1_init 32 = .ok (.sipush 512, 3) := by decide +kernel
theorem dX1_init_35 : decode cX1_init 35 = .ok (.newarray .int, 2) := by decide +kernel
theorem dX1_init_37 : decode cX1_init 37 = .ok (.putfield 22, 3) := by decide +kernel
theorem dX1_init_40 : decode cX1_init 40 = .ok (.aload_n 0, 1) := by decide +kernel
theorem dX1_init_41 : decode cX1_init 41 = .ok (.aload_n 1, 1) := by decide +kernel
theorem dX1_init_42 : decode cX1_init 42 = .ok (.putfield 25, 3) := by decide +kernel
theorem dX1_init_45 : decode cX1_init 45 = .ok (.aload_n 0, 1) := by decide +kernel
theorem dX1_init_46 : decode cX1_init 46 = .ok (.iload_n 2, 1) := by decide +kernel
theorem dX1_init_47 : decode cX1_init 47 = .ok (.putfield 29, 3) := by decide +kernel
theorem dX1_init_50 : decode cX1_init 50 = .ok (.return_, 1) := by decide +kernel
theorem dX5_init_0 : decode cX5_init 0 = .ok (.aload_n 0, 1) := by decide +kernel
theorem dX5_init_1 : decode cX5_init 1 = .ok (.invokespecial 1, 3) := by decide +kernel
theorem dX5_init_4 : decode cX5_init 4 = .ok (.aload_n 0, 1) := by decide +kernel
theorem dX5_init_5 : decode cX5_init 5 = .ok (.sipush 4096, 3) := by decide +kernel
theorem dX5_init_8 : decode cX5_init 8 = .ok (.newarray .int, 2) := by decide +kernel
theorem dX5_init_10 : decode cX5_init 10 = .ok (.putfield 9, 3) := by decide +kernel
theorem dX5_init_13 : decode cX5_init 13 = .ok (.aload_n 0, 1) := by decide +kernel
theorem dX5_init_14 : decode cX5_init 14 = .ok (.sipush 4096, 3) := by decide +kernel
theorem dX5_init_17 : decode cX5_init 17 = .ok (.newarray .long, 2) := by decide +kernel
theorem dX5_init_19 : decode cX5_init 19 = .ok (.putfield 13, 3) := by decide +kernel
theorem dX5_init_22 : decode cX5_init 22 = .ok (.aload_n 0, 1) := by decide +kernel
theorem dX5_init_23 : decode cX5_init 23 = .ok (.sipush 4096, 3) := by decide +kernel
theorem dX5_init_26 : decode cX5_init 26 = .ok (.newarray .int, 2) := by decide +kernel
theorem dX5_init_28 : decode cX5_init 28 = .ok (.putfield 17, 3) := by decide +kernel
theorem dX5_init_31 : decode cX5_init 31 = .ok (.aload_n 0, 1) := by decide +kernel
theorem dX5_init_32 : decode cX5_init 32 = .ok (.sipush 2048, 3) := by decide +kernel
theorem dX5_init_35 : decode cX5_init 35 = .ok (.putfield 20, 3) := by decide +kernel
theorem dX5_init_38 : decode cX5_init 38 = .ok (.aload_n 0, 1) := by decide +kernel
theorem dX5_init_39 : decode cX5_init 39 = .ok (.aload_n 1, 1) := by decide +kernel
theorem dX5_init_40 : decode cX5_init 40 = .ok (.putfield 24, 3) := by decide +kernel
theorem dX5_init_43 : decode cX5_init 43 = .ok (.aload_n 0, 1) := by decide +kernel
theorem dX5_init_44 : decode cX5_init 44 = .ok (.new 28, 3) := by decide +kernel
theorem dX5_init_47 : decode cX5_init 47 = .ok (.dup, 1) := by decide +kernel
theorem dX5_init_48 : decode cX5_init 48 = .ok (.aload_n 1, 1) := by decide +kernel
theorem dX5_init_49 : decode cX5_init 49 = .ok (.iconst 1, 1) := by decide +kernel
theorem dX5_init_50 : decode cX5_init 50 = .ok (.invokespecial 30, 3) := by decide +kernel
theorem dX5_init_53 : decode cX5_init 53 = .ok (.putfield 33, 3) := by decide +kernel
theorem dX5_init_56 : decode cX5_init 56 = .ok (.aload_n 0, 1) := by decide +kernel
theorem dX5_init_57 : decode cX5_init 57 = .ok (.new 28, 3) := by decide +kernel
theorem dX5_init_60 : decode cX5_init 60 = .ok (.dup, 1) := by decide +kernel
theorem dX5_init_61 : decode cX5_init 61 = .ok (.aload_n 1, 1) := by decide +kernel
theorem dX5_init_62 : decode cX5_init 62 = .ok (.iconst 0, 1) := by decide +kernel
theorem dX5_init_63 : decode cX5_init 63 = .ok (.invokespecial 30, 3) := by decide +kernel
theorem dX5_init_66 : decode cX5_init 66 = .ok (.putfield 37, 3) := by decide +kernel
theorem dX5_init_69 : decode cX5_init 69 = .ok (.aload_n 0, 1) := by decide +kernel
theorem dX5_init_70 : decode cX5_init 70 = .ok (.new 28, 3) := by decide +kernel
theorem dX5_init_73 : decode cX5_init 73 = .ok (.dup, 1) := by decide +kernel
theorem dX5_init_74 : decode cX5_init 74 = .ok (.aload_n 1, 1) := by decide +kernel
theorem dX5_init_75 : decode cX5_init 75 = .ok (.iconst 1, 1) := by decide +kernel
theorem dX5_init_76 : decode cX5_init 76 = .ok (.invokespecial 30, 3) := by decide +kernel
theorem dX5_init_79 : decode cX5_init 79 = .ok (.putfield 40, 3) := by decide +kernel
theorem dX5_init_82 : decode cX5_init 82 = .ok (.return_, 1) := by decide +kernel
theorem dX12_keepsAllBut_0 : decode cX12_keepsAllBut 0 = .ok (.aload_n 0, 1) := by decide +kernel
theorem dX12_keepsAllBut_1 : decode cX12_keepsAllBut 1 = .ok (.getfield 43, 3) := by decide +kernel
theorem dX12_keepsAllBut_4 : decode cX12_keepsAllBut 4 = .ok (.iconst 0, 1) := by decide +kernel
theorem dX12_keepsAllBut_5 : decode cX12_keepsAllBut 5 = .ok (.iconst 0, 1) := by decide +kernel
theorem dX12_keepsAllBut_6 : decode cX12_keepsAllBut 6 = .ok (.iastore, 1) := by decide +kernel
theorem dX12_keepsAllBut_7 : decode cX12_keepsAllBut 7 = .ok (.iconst 0, 1) := by decide +kernel
theorem dX12_keepsAllBut_8 : decode cX12_keepsAllBut 8 = .ok (.istore 5, 2) := by decide +kernel
theorem dX12_keepsAllBut_10 : decode cX12_keepsAllBut 10 = .ok (.iload 5, 2) := by decide +kernel
theorem dX12_keepsAllBut_12 : decode cX12_keepsAllBut 12 = .ok (.aload_n 0, 1) := by decide +kernel
theorem dX12_keepsAllBut_13 : decode cX12_keepsAllBut 13 = .ok (.getfield 25, 3) := by decide +kernel
theorem dX12_keepsAllBut_16 : decode cX12_keepsAllBut 16 = .ok (.iload_n 1, 1) := by decide +kernel
theorem dX12_keepsAllBut_17 : decode cX12_keepsAllBut 17 = .ok (.iaload, 1) := by decide +kernel
theorem dX12_keepsAllBut_18 : decode cX12_keepsAllBut 18 = .ok (.if_icmp .ge 35, 3) := by decide +kernel
theorem dX12_keepsAllBut_21 : decode cX12_keepsAllBut 21 = .ok (.aload_n 0, 1) := by decide +kernel
theorem dX12_keepsAllBut_22 : decode cX12_keepsAllBut 22 = .ok (.iconst 0, 1) := by decide +kernel
theorem dX12_keepsAllBut_23 : decode cX12_keepsAllBut 23 = .ok (.iload 5, 2) := by decide +kernel
theorem dX12_keepsAllBut_25 : decode cX12_keepsAllBut 25 = .ok (.iload_n 2, 1) := by decide +kernel
theorem dX12_keepsAllBut_26 : decode cX12_keepsAllBut 26 = .ok (.if_icmp .lt 16, 3) := by decide +kernel
theorem dX12_keepsAllBut_29 : decode cX12_keepsAllBut 29 = .ok (.iload 5, 2) := by decide +kernel
theorem dX12_keepsAllBut_31 : decode cX12_keepsAllBut 31 = .ok (.iload_n 2, 1) := by decide +kernel
theorem dX12_keepsAllBut_32 : decode cX12_keepsAllBut 32 = .ok (.iload_n 3, 1) := by decide +kernel
theorem dX12_keepsAllBut_33 : decode cX12_keepsAllBut 33 = .ok (.iadd, 1) := by decide +kernel
theorem dX12_keepsAllBut_34 : decode cX12_keepsAllBut 34 = .ok (.if_icmp .ge 8, 3) := by decide +kernel
theorem dX12_keepsAllBut_37 : decode cX12_keepsAllBut 37 = .ok (.iload 4, 2) := by decide +kernel
theorem dX12_keepsAllBut_39 : decode cX12_keepsAllBut 39 = .ok (.goto 5, 3) := by decide +kernel
theorem dX12_keepsAllBut_42 : decode cX12_keepsAllBut 42 = .ok (.ldc 108, 2) := by decide +kernel
theorem dX12_keepsAllBut_44 : decode cX12_keepsAllBut 44 = .ok (.invokevirtual 115, 3) := by decide +kernel
theorem dX12_keepsAllBut_47 : decode cX12_keepsAllBut 47 = .ok (.iinc 5 1, 3) := by decide +kernel
theorem dX12_keepsAllBut_50 : decode cX12_keepsAllBut 50 = .ok (.goto (-40), 3) := by decide +kernel
theorem dX12_keepsAllBut_53 : decode cX12_keepsAllBut 53 = .ok (.return_, 1) := by decide +kernel
theorem dX12_done_0 : decode cX12_done 0 = .ok (.aload_n 0, 1) := by decide +kernel
theorem dX12_done_1 : decode cX12_done 1 = .ok (.iconst 0, 1) := by decide +kernel
theorem dX12_done_2 : decode cX12_done 2 = .ok (.iload_n 1, 1) := by decide +kernel
theorem dX12_done_3 : decode cX12_done 3 = .ok (.iconst 1, 1) := by decide +kernel
theorem dX12_done_4 : decode cX12_done 4 = .ok (.invokevirtual 145, 3) := by decide +kernel
theorem dX12_done_7 : decode cX12_done 7 = .ok (.aload_n 0, 1) := by decide +kernel
theorem dX12_done_8 : decode cX12_done 8 = .ok (.iload_n 1, 1) := by decide +kernel
theorem dX12_done_9 : decode cX12_done 9 = .ok (.iconst 0, 1) := by decide +kernel
theorem dX12_done_10 : decode cX12_done 10 = .ok (.invokevirtual 148, 3) := by decide +kernel
theorem dX12_done_13 : decode cX12_done 13 = .ok (.aload_n 0, 1) := by decide +kernel
theorem dX12_done_14 : decode cX12_done 14 = .ok (.iload_n 1, 1) := by decide +kernel
theorem dX12_done_15 : decode cX12_done 15 = .ok (.iconst 0, 1) := by decide +kernel
theorem dX12_done_16 : decode cX12_done 16 = .ok (.iconst 1, 1) := by decide +kernel
theorem dX12_done_17 : decode cX12_done 17 = .ok (.invokevirtual 151, 3) := by decide +kernel
theorem dX12_done_20 : decode cX12_done 20 = .ok (.aload_n 0, 1) := by decide +kernel
theorem dX12_done_21 : decode cX12_done 21 = .ok (.iload_n 1, 1) := by decide +kernel
theorem dX12_done_22 : decode cX12_done 22 = .ok (.iload_n 2, 1) := by decide +kernel
theorem dX12_done_23 : decode cX12_done 23 = .ok (.iconst 1, 1) := by decide +kernel
theorem dX12_done_24 : decode cX12_done 24 = .ok (.invokevirtual 155, 3) := by decide +kernel
theorem dX12_done_27 : decode cX12_done 27 = .ok (.iload_n 3, 1) := by decide +kernel
theorem dX12_done_28 : decode cX12_done 28 = .ok (.ifCond .eq 15, 3) := by decide +kernel
theorem dX12_done_31 : decode cX12_done 31 = .ok (.aload_n 0, 1) := by decide +kernel
theorem dX12_done_32 : decode cX12_done 32 = .ok (.getfield 28, 3) := by decide +kernel
theorem dX12_done_35 : decode cX12_done 35 = .ok (.bipush 8, 2) := by decide +kernel
theorem dX12_done_37 : decode cX12_done 37 = .ok (.iload_n 1, 1) := by decide +kernel
theorem dX12_done_38 : decode cX12_done 38 = .ok (.imul, 1) := by decide +kernel
theorem dX12_done_39 : decode cX12_done 39 = .ok (.iconst 5, 1) := by decide +kernel
theorem dX12_done_40 : decode cX12_done 40 = .ok (.iadd, 1) := by decide +kernel
theorem dX12_done_41 : decode cX12_done 41 = .ok (.iconst 0, 1) := by decide +kernel
theorem dX12_done_42 : decode cX12_done 42 = .ok (.iastore, 1) := by decide +kernel
theorem dX12_done_43 : decode cX12_done 43 = .ok (.aload_n 0, 1) := by decide +kernel
theorem dX12_done_44 : decode cX12_done 44 = .ok (.iload_n 1, 1) := by decide +kernel
theorem dX12_done_45 : decode cX12_done 45 = .ok (.iconst 1, 1) := by decide +kernel
theorem dX12_done_46 : decode cX12_done 46 = .ok (.invokevirtual 135, 3) := by decide +kernel
theorem dX12_done_49 : decode cX12_done 49 = .ok (.ifCond .ne 53, 3) := by decide +kernel
theorem dX12_done_52 : decode cX12_done 52 = .ok (.aload_n 0, 1) := by decide +kernel
theorem dX12_done_53 : decode cX12_done 53 = .ok (.bipush 16, 2) := by decide +kernel
theorem dX12_done_55 : decode cX12_done 55 = .ok (.iload_n 1, 1) := by decide +kernel
theorem dX12_done_56 : decode cX12_done 56 = .ok (.iadd, 1) := by decide +kernel
theorem dX12_done_57 : decode cX12_done 57 = .ok (.iconst 0, 1) := by decide +kernel
theorem dX12_done_58 : decode cX12_done 58 = .ok (.invokevirtual 101, 3) := by decide +kernel
theorem dX12_done_61 : decode cX12_done 61 = .ok (.aload_n 0, 1) := by decide +kernel
theorem dX12_done_62 : decode cX12_done 62 = .ok (.bipush 12, 2) := by decide +kernel
theorem dX12_done_64 : decode cX12_done 64 = .ok (.iload_n 1, 1) := by decide +kernel
theorem dX12_done_65 : decode cX12_done 65 = .ok (.iadd, 1) := by decide +kernel
theorem dX12_done_66 : decode cX12_done 66 = .ok (.iconst 0, 1) := by decide +kernel
theorem dX12_done_67 : decode cX12_done 67 = .ok (.invokevirtual 101, 3) := by decide +kernel
theorem dX12_done_70 : decode cX12_done 70 = .ok (.aload_n 0, 1) := by decide +kernel
theorem dX12_done_71 : decode cX12_done 71 = .ok (.getfield 28, 3) := by decide +kernel
theorem dX12_done_74 : decode cX12_done 74 = .ok (.bipush 8, 2) := by decide +kernel
theorem dX12_done_76 : decode cX12_done 76 = .ok (.iload_n 1, 1) := by decide +kernel
theorem dX12_done_77 : decode cX12_done 77 = .ok (.imul, 1) := by decide +kernel
theorem dX12_done_78 : decode cX12_done 78 = .ok (.iconst 1, 1) := by decide +kernel
theorem dX12_done_79 : decode cX12_done 79 = .ok (.iadd, 1) := by decide +kernel
theorem dX12_done_80 : decode cX12_done 80 = .ok (.iconst 1, 1) := by decide +kernel
theorem dX12_done_81 : decode cX12_done 81 = .ok (.iastore, 1) := by decide +kernel
theorem dX12_done_82 : decode cX12_done 82 = .ok (.aload_n 0, 1) := by decide +kernel
theorem dX12_done_83 : decode cX12_done 83 = .ok (.getfield 28, 3) := by decide +kernel
theorem dX12_done_86 : decode cX12_done 86 = .ok (.bipush 8, 2) := by decide +kernel
theorem dX12_done_88 : decode cX12_done 88 = .ok (.iload_n 1, 1) := by decide +kernel
theorem dX12_done_89 : decode cX12_done 89 = .ok (.imul, 1) := by decide +kernel
theorem dX12_done_90 : decode cX12_done 90 = .ok (.iconst 2, 1) := by decide +kernel
theorem dX12_done_91 : decode cX12_done 91 = .ok (.iadd, 1) := by decide +kernel
theorem dX12_done_92 : decode cX12_done 92 = .ok (.aload_n 0, 1) := by decide +kernel
theorem dX12_done_93 : decode cX12_done 93 = .ok (.iload_n 1, 1) := by decide +kernel
theorem dX12_done_94 : decode cX12_done 94 = .ok (.iconst 0, 1) := by decide +kernel
theorem dX12_done_95 : decode cX12_done 95 = .ok (.invokevirtual 135, 3) := by decide +kernel
theorem dX12_done_98 : decode cX12_done 98 = .ok (.iastore, 1) := by decide +kernel
theorem dX12_done_99 : decode cX12_done 99 = .ok (.goto 61, 3) := by decide +kernel
theorem dX12_done_102 : decode cX12_done 102 = .ok (.aload_n 0, 1) := by decide +kernel
theorem dX12_done_103 : decode cX12_done 103 = .ok (.iload_n 1, 1) := by decide +kernel
theorem dX12_done_104 : decode cX12_done 104 = .ok (.iconst 3, 1) := by decide +kernel
theorem dX12_done_105 : decode cX12_done 105 = .ok (.invokevirtual 135, 3) := by decide +kernel
theorem dX12_done_108 : decode cX12_done 108 = .ok (.ifCond .ne 27, 3) := by decide +kernel
theorem dX12_done_111 : decode cX12_done 111 = .ok (.aload_n 0, 1) := by decide +kernel
theorem dX12_done_112 : decode cX12_done 112 = .ok (.bipush 20, 2) := by decide +kernel
theorem dX12_done_114 : decode cX12_done 114 = .ok (.iload_n 1, 1) := by decide +kernel
theorem dX12_done_115 : decode cX12_done 115 = .ok (.iadd, 1) := by decide +kernel
theorem dX12_done_116 : decode cX12_done 116 = .ok (.iconst 0, 1) := by decide +kernel
theorem dX12_done_117 : decode cX12_done 117 = .ok (.invokevirtual 101, 3) := by decide +kernel
theorem dX12_done_120 : decode cX12_done 120 = .ok (.aload_n 0, 1) := by decide +kernel
theorem dX12_done_121 : decode cX12_done 121 = .ok (.getfield 28, 3) := by decide +kernel
theorem dX12_done_124 : decode cX12_done 124 = .ok (.bipush 8, 2) := by decide +kernel
theorem dX12_done_126 : decode cX12_done 126 = .ok (.iload_n 1, 1) := by decide +kernel
theorem dX12_done_127 : decode cX12_done 127 = .ok (.imul, 1) := by decide +kernel
theorem dX12_done_128 : decode cX12_done 128 = .ok (.iconst 3, 1) := by decide +kernel
theorem dX12_done_129 : decode cX12_done 129 = .ok (.iadd, 1) := by decide +kernel
theorem dX12_done_130 : decode cX12_done 130 = .ok (.iconst 1, 1) := by decide +kernel
theorem dX12_done_131 : decode cX12_done 131 = .ok (.iastore, 1) := by decide +kernel
theorem dX12_done_132 : decode cX12_done 132 = .ok (.goto 28, 3) := by decide +kernel
theorem dX12_done_135 : decode cX12_done 135 = .ok (.aload_n 0, 1) := by decide +kernel
theorem dX12_done_136 : decode cX12_done 136 = .ok (.iconst 1, 1) := by decide +kernel
theorem dX12_done_137 : decode cX12_done 137 = .ok (.bipush 20, 2) := by decide +kernel
theorem dX12_done_139 : decode cX12_done 139 = .ok (.iload_n 1, 1) := by decide +kernel
theorem dX12_done_140 : decode cX12_done 140 = .ok (.iadd, 1) := by decide +kernel
theorem dX12_done_141 : decode cX12_done 141 = .ok (.invokevirtual 97, 3) := by decide +kernel
theorem dX12_done_144 : decode cX12_done 144 = .ok (.aload_n 0, 1) := by decide +kernel
theorem dX12_done_145 : decode cX12_done 145 = .ok (.iconst 1, 1) := by decide +kernel
theorem dX12_done_146 : decode cX12_done 146 = .ok (.iconst 0, 1) := by decide +kernel
theorem dX12_done_147 : decode cX12_done 147 = .ok (.iconst 2, 1) := by decide +kernel
theorem dX12_done_148 : decode cX12_done 148 = .ok (.invokevirtual 158, 3) := by decide +kernel
theorem dX12_done_151 : decode cX12_done 151 = .ok (.aload_n 0, 1) := by decide +kernel
theorem dX12_done_152 : decode cX12_done 152 = .ok (.bipush 20, 2) := by decide +kernel
theorem dX12_done_154 : decode cX12_done 154 = .ok (.iload_n 1, 1) := by decide +kernel
theorem dX12_done_155 : decode cX12_done 155 = .ok (.iadd, 1) := by decide +kernel
theorem dX12_done_156 : decode cX12_done 156 = .ok (.iconst 2, 1) := by decide +kernel
theorem dX12_done_157 : decode cX12_done 157 = .ok (.invokevirtual 101, 3) := by decide +kernel
theorem dX12_done_160 : decode cX12_done 160 = .ok (.return_, 1) := by decide +kernel
theorem dX12_serves_0 : decode cX12_serves 0 = .ok (.aload_n 0, 1) := by decide +kernel
theorem dX12_serves_1 : decode cX12_serves 1 = .ok (.iconst 0, 1) := by decide +kernel
theorem dX12_serves_2 : decode cX12_serves 2 = .ok (.bipush 12, 2) := by decide +kernel
theorem dX12_serves_4 : decode cX12_serves 4 = .ok (.iload_n 1, 1) := by decide +kernel
theorem dX12_serves_5 : decode cX12_serves 5 = .ok (.iadd, 1) := by decide +kernel
theorem dX12_serves_6 : decode cX12_serves 6 = .ok (.invokevirtual 97, 3) := by decide +kernel
theorem dX12_serves_9 : decode cX12_serves 9 = .ok (.aload_n 0, 1) := by decide +kernel
theorem dX12_serves_10 : decode cX12_serves 10 = .ok (.iload_n 1, 1) := by decide +kernel
theorem dX12_serves_11 : decode cX12_serves 11 = .ok (.iconst 2, 1) := by decide +kernel
theorem dX12_serves_12 : decode cX12_serves 12 = .ok (.invokevirtual 135, 3) := by decide +kernel
theorem dX12_serves_15 : decode cX12_serves 15 = .ok (.iconst 1, 1) := by decide +kernel
theorem dX12_serves_16 : decode cX12_serves 16 = .ok (.iadd, 1) := by decide +kernel
theorem dX12_serves_17 : decode cX12_serves 17 = .ok (.istore_n 2, 1) := by decide +kernel
theorem dX12_serves_18 : decode cX12_serves 18 = .ok (.iload_n 2, 1) := by decide +kernel
theorem dX12_serves_19 : decode cX12_serves 19 = .ok (.aload_n 0, 1) := by decide +kernel
theorem dX12_serves_20 : decode cX12_serves 20 = .ok (.getfield 34, 3) := by decide +kernel
theorem dX12_serves_23 : decode cX12_serves 23 = .ok (.iconst 0, 1) := by decide +kernel
theorem dX12_serves_24 : decode cX12_serves 24 = .ok (.iaload, 1) := by decide +kernel
theorem dX12_serves_25 : decode cX12_serves 25 = .ok (.if_icmp .gt 33, 3) := by decide +kernel
theorem dX12_serves_28 : decode cX12_serves 28 = .ok (.aload_n 0, 1) := by decide +kernel
theorem dX12_serves_29 : decode cX12_serves 29 = .ok (.iconst 1, 1) := by decide +kernel
theorem dX12_serves_30 : decode cX12_serves 30 = .ok (.sipush 184, 3) := by decide +kernel
theorem dX12_serves_33 : decode cX12_serves 33 = .ok (.iload_n 2, 1) := by decide +kernel
theorem dX12_serves_34 : decode cX12_serves 34 = .ok (.iadd, 1) := by decide +kernel
theorem dX12_serves_35 : decode cX12_serves 35 = .ok (.invokevirtual 97, 3) := by decide +kernel
theorem dX12_serves_38 : decode cX12_serves 38 = .ok (.aload_n 0, 1) := by decide +kernel
theorem dX12_serves_39 : decode cX12_serves 39 = .ok (.iconst 0, 1) := by decide +kernel
theorem dX12_serves_40 : decode cX12_serves 40 = .ok (.iconst 1, 1) := by decide +kernel
theorem dX12_serves_41 : decode cX12_serves 41 = .ok (.iconst 0, 1) := by decide +kernel
theorem dX12_serves_42 : decode cX12_serves 42 = .ok (.iconst 2, 1) := by decide +kernel
theorem dX12_serves_43 : decode cX12_serves 43 = .ok (.invokevirtual 164, 3) := by decide +kernel
theorem dX12_serves_46 : decode cX12_serves 46 = .ok (.aload_n 0, 1) := by decide +kernel
theorem dX12_serves_47 : decode cX12_serves 47 = .ok (.iconst 2, 1) := by decide +kernel
theorem dX12_serves_48 : decode cX12_serves 48 = .ok (.iconst 0, 1) := by decide +kernel
theorem dX12_serves_49 : decode cX12_serves 49 = .ok (.invokevirtual 167, 3) := by decide +kernel
theorem dX12_serves_52 : decode cX12_serves 52 = .ok (.iinc 2 1, 3) := by decide +kernel
theorem dX12_serves_55 : decode cX12_serves 55 = .ok (.goto (-37), 3) := by decide +kernel
theorem dX12_serves_58 : decode cX12_serves 58 = .ok (.aload_n 0, 1) := by decide +kernel
theorem dX12_serves_59 : decode cX12_serves 59 = .ok (.iconst 4, 1) := by decide +kernel
theorem dX12_serves_60 : decode cX12_serves 60 = .ok (.iconst 0, 1) := by decide +kernel
theorem dX12_serves_61 : decode cX12_serves 61 = .ok (.invokevirtual 148, 3) := by decide +kernel
theorem dX12_serves_64 : decode cX12_serves 64 = .ok (.aload_n 0, 1) := by decide +kernel
theorem dX12_serves_65 : decode cX12_serves 65 = .ok (.getfield 34, 3) := by decide +kernel
theorem dX12_serves_68 : decode cX12_serves 68 = .ok (.iconst 0, 1) := by decide +kernel
theorem dX12_serves_69 : decode cX12_serves 69 = .ok (.dup2, 1) := by decide +kernel
theorem dX12_serves_70 : decode cX12_serves 70 = .ok (.iaload, 1) := by decide +kernel
theorem dX12_serves_71 : decode cX12_serves 71 = .ok (.iconst 1, 1) := by decide +kernel
theorem dX12_serves_72 : decode cX12_serves 72 = .ok (.iadd, 1) := by decide +kernel
theorem dX12_serves_73 : decode cX12_serves 73 = .ok (.iastore, 1) := by decide +kernel
theorem dX12_serves_74 : decode cX12_serves 74 = .ok (.aload_n 0, 1) := by decide +kernel
theorem dX12_serves_75 : decode cX12_serves 75 = .ok (.sipush 184, 3) := by decide +kernel
theorem dX12_serves_78 : decode cX12_serves 78 = .ok (.aload_n 0, 1) := by decide +kernel
theorem dX12_serves_79 : decode cX12_serves 79 = .ok (.getfield 34, 3) := by decide +kernel
theorem dX12_serves_82 : decode cX12_serves 82 = .ok (.iconst 0, 1) := by decide +kernel
theorem dX12_serves_83 : decode cX12_serves 83 = .ok (.iaload, 1) := by decide +kernel
theorem dX12_serves_84 : decode cX12_serves 84 = .ok (.iadd, 1) := by decide +kernel
theorem dX12_serves_85 : decode cX12_serves 85 = .ok (.iconst 0, 1) := by decide +kernel
theorem dX12_serves_86 : decode cX12_serves 86 = .ok (.invokevirtual 101, 3) := by decide +kernel
theorem dX12_serves_89 : decode cX12_serves 89 = .ok (.aload_n 0, 1) := by decide +kernel
theorem dX12_serves_90 : decode cX12_serves 90 = .ok (.getfield 31, 3) := by decide +kernel
theorem dX12_serves_93 : decode cX12_serves 93 = .ok (.aload_n 0, 1) := by decide +kernel
theorem dX12_serves_94 : decode cX12_serves 94 = .ok (.getfield 34, 3) := by decide +kernel
theorem dX12_serves_97 : decode cX12_serves 97 = .ok (.iconst 0, 1) := by decide +kernel
theorem dX12_serves_98 : decode cX12_serves 98 = .ok (.iaload, 1) := by decide +kernel
theorem dX12_serves_99 : decode cX12_serves 99 = .ok (.iload_n 1, 1) := by decide +kernel
theorem dX12_serves_100 : decode cX12_serves 100 = .ok (.iastore, 1) := by decide +kernel
theorem dX12_serves_101 : decode cX12_serves 101 = .ok (.aload_n 0, 1) := by decide +kernel
theorem dX12_serves_102 : decode cX12_serves 102 = .ok (.getfield 28, 3) := by decide +kernel
theorem dX12_serves_105 : decode cX12_serves 105 = .ok (.bipush 8, 2) := by decide +kernel
theorem dX12_serves_107 : decode cX12_serves 107 = .ok (.iload_n 1, 1) := by decide +kernel
theorem dX12_serves_108 : decode cX12_serves 108 = .ok (.imul, 1) := by decide +kernel
theorem dX12_serves_109 : decode cX12_serves 109 = .ok (.iconst 1, 1) := by decide +kernel
theorem dX12_serves_110 : decode cX12_serves 110 = .ok (.iadd, 1) := by decide +kernel
theorem dX12_serves_111 : decode cX12_serves 111 = .ok (.iconst 2, 1) := by decide +kernel
theorem dX12_serves_112 : decode cX12_serves 112 = .ok (.iastore, 1) := by decide +kernel
theorem dX12_serves_113 : decode cX12_serves 113 = .ok (.aload_n 0, 1) := by decide +kernel
theorem dX12_serves_114 : decode cX12_serves 114 = .ok (.getfield 34, 3) := by decide +kernel
theorem dX12_serves_117 : decode cX12_serves 117 = .ok (.iconst 0, 1) := by decide +kernel
theorem dX12_serves_118 : decode cX12_serves 118 = .ok (.iaload, 1) := by decide +kernel
theorem dX12_serves_119 : decode cX12_serves 119 = .ok (.ireturn, 1) := by decide +kernel
theorem dX12_hears_0 : decode cX12_hears 0 = .ok (.aload_n 0, 1) := by decide +kernel
theorem dX12_hears_1 : decode cX12_hears 1 = .ok (.iload_n 1, 1) := by decide +kernel
theorem dX12_hears_2 : decode cX12_hears 2 = .ok (.iconst 0, 1) := by decide +kernel
theorem dX12_hears_3 : decode cX12_hears 3 = .ok (.invokevirtual 135, 3) := by decide +kernel
theorem dX12_hears_6 : decode cX12_hears 6 = .ok (.iconst 1, 1) := by decide +kernel
theorem dX12_hears_7 : decode cX12_hears 7 = .ok (.iadd, 1) := by decide +kernel
theorem dX12_hears_8 : decode cX12_hears 8 = .ok (.istore_n 2, 1) := by decide +kernel
theorem dX12_hears_9 : decode cX12_hears 9 = .ok (.aload_n 0, 1) := by decide +kernel
theorem dX12_hears_10 : decode cX12_hears 10 = .ok (.getfield 28, 3) := by decide +kernel
theorem dX12_hears_13 : decode cX12_hears 13 = .ok (.bipush 8, 2) := by decide +kernel
theorem dX12_hears_15 : decode cX12_hears 15 = .ok (.iload_n 1, 1) := by decide +kernel
theorem dX12_hears_16 : decode cX12_hears 16 = .ok (.imul, 1) := by decide +kernel
theorem dX12_hears_17 : decode cX12_hears 17 = .ok (.iload_n 2, 1) := by decide +kernel
theorem dX12_hears_18 : decode cX12_hears 18 = .ok (.iastore, 1) := by decide +kernel
theorem dX12_hears_19 : decode cX12_hears 19 = .ok (.aload_n 0, 1) := by decide +kernel
theorem dX12_hears_20 : decode cX12_hears 20 = .ok (.getfield 31, 3) := by decide +kernel
theorem dX12_hears_23 : decode cX12_hears 23 = .ok (.iload_n 2, 1) := by decide +kernel
theorem dX12_hears_24 : decode cX12_hears 24 = .ok (.iaload, 1) := by decide +kernel
theorem dX12_hears_25 : decode cX12_hears 25 = .ok (.iload_n 1, 1) := by decide +kernel
theorem dX12_hears_26 : decode cX12_hears 26 = .ok (.if_icmp .ne 79, 3) := by decide +kernel
theorem dX12_hears_29 : decode cX12_hears 29 = .ok (.aload_n 0, 1) := by decide +kernel
theorem dX12_hears_30 : decode cX12_hears 30 = .ok (.getfield 28, 3) := by decide +kernel
theorem dX12_hears_33 : decode cX12_hears 33 = .ok (.bipush 8, 2) := by decide +kernel
theorem dX12_hears_35 : decode cX12_hears 35 = .ok (.iload_n 1, 1) := by decide +kernel
theorem dX12_hears_36 : decode cX12_hears 36 = .ok (.imul, 1) := by decide +kernel
theorem dX12_hears_37 : decode cX12_hears 37 = .ok (.iconst 1, 1) := by decide +kernel
theorem dX12_hears_38 : decode cX12_hears 38 = .ok (.iadd, 1) := by decide +kernel
theorem dX12_hears_39 : decode cX12_hears 39 = .ok (.aload_n 0, 1) := by decide +kernel
theorem dX12_hears_40 : decode cX12_hears 40 = .ok (.iload_n 1, 1) := by decide +kernel
theorem dX12_hears_41 : decode cX12_hears 41 = .ok (.iconst 3, 1) := by decide +kernel
theorem dX12_hears_42 : decode cX12_hears 42 = .ok (.invokevirtual 135, 3) := by decide +kernel
theorem dX12_hears_45 : decode cX12_hears 45 = .ok (.iastore, 1) := by decide +kernel
theorem dX12_hears_46 : decode cX12_hears 46 = .ok (.aload_n 0, 1) := by decide +kernel
theorem dX12_hears_47 : decode cX12_hears 47 = .ok (.iload_n 1, 1) := by decide +kernel
theorem dX12_hears_48 : decode cX12_hears 48 = .ok (.iconst 3, 1) := by decide +kernel
theorem dX12_hears_49 : decode cX12_hears 49 = .ok (.invokevirtual 135, 3) := by decide +kernel
theorem dX12_hears_52 : decode cX12_hears 52 = .ok (.iconst 1, 1) := by decide +kernel
theorem dX12_hears_53 : decode cX12_hears 53 = .ok (.if_icmp .ne 51, 3) := by decide +kernel
theorem dX12_hears_56 : decode cX12_hears 56 = .ok (.aload_n 0, 1) := by decide +kernel
theorem dX12_hears_57 : decode cX12_hears 57 = .ok (.bipush 20, 2) := by decide +kernel
theorem dX12_hears_59 : decode cX12_hears 59 = .ok (.iload_n 1, 1) := by decide +kernel
theorem dX12_hears_60 : decode cX12_hears 60 = .ok (.iadd, 1) := by decide +kernel
theorem dX12_hears_61 : decode cX12_hears 61 = .ok (.bipush 16, 2) := by decide +kernel
theorem dX12_hears_63 : decode cX12_hears 63 = .ok (.iload_n 1, 1) := by decide +kernel
theorem dX12_hears_64 : decode cX12_hears 64 = .ok (.iadd, 1) := by decide +kernel
theorem dX12_hears_65 : decode cX12_hears 65 = .ok (.invokevirtual 142, 3) := by decide +kernel
theorem dX12_hears_68 : decode cX12_hears 68 = .ok (.aload_n 0, 1) := by decide +kernel
theorem dX12_hears_69 : decode cX12_hears 69 = .ok (.bipush 20, 2) := by decide +kernel
theorem dX12_hears_71 : decode cX12_hears 71 = .ok (.iload_n 1, 1) := by decide +kernel
theorem dX12_hears_72 : decode cX12_hears 72 = .ok (.iadd, 1) := by decide +kernel
theorem dX12_hears_73 : decode cX12_hears 73 = .ok (.bipush 12, 2) := by decide +kernel
theorem dX12_hears_75 : decode cX12_hears 75 = .ok (.iload_n 1, 1) := by decide +kernel
theorem dX12_hears_76 : decode cX12_hears 76 = .ok (.iadd, 1) := by decide +kernel
theorem dX12_hears_77 : decode cX12_hears 77 = .ok (.invokevirtual 142, 3) := by decide +kernel
theorem dX12_hears_80 : decode cX12_hears 80 = .ok (.aload_n 0, 1) := by decide +kernel
theorem dX12_hears_81 : decode cX12_hears 81 = .ok (.getfield 28, 3) := by decide +kernel
theorem dX12_hears_84 : decode cX12_hears 84 = .ok (.bipush 8, 2) := by decide +kernel
theorem dX12_hears_86 : decode cX12_hears 86 = .ok (.iload_n 1, 1) := by decide +kernel
theorem dX12_hears_87 : decode cX12_hears 87 = .ok (.imul, 1) := by decide +kernel
theorem dX12_hears_88 : decode cX12_hears 88 = .ok (.iconst 2, 1) := by decide +kernel
theorem dX12_hears_89 : decode cX12_hears 89 = .ok (.iadd, 1) := by decide +kernel
theorem dX12_hears_90 : decode cX12_hears 90 = .ok (.iload_n 2, 1) := by decide +kernel
theorem dX12_hears_91 : decode cX12_hears 91 = .ok (.iastore, 1) := by decide +kernel
theorem dX12_hears_92 : decode cX12_hears 92 = .ok (.aload_n 0, 1) := by decide +kernel
theorem dX12_hears_93 : decode cX12_hears 93 = .ok (.getfield 28, 3) := by decide +kernel
theorem dX12_hears_96 : decode cX12_hears 96 = .ok (.bipush 8, 2) := by decide +kernel
theorem dX12_hears_98 : decode cX12_hears 98 = .ok (.iload_n 1, 1) := by decide +kernel
theorem dX12_hears_99 : decode cX12_hears 99 = .ok (.imul, 1) := by decide +kernel
theorem dX12_hears_100 : decode cX12_hears 100 = .ok (.iconst 3, 1) := by decide +kernel
theorem dX12_hears_101 : decode cX12_hears 101 = .ok (.iadd, 1) := by decide +kernel
theorem dX12_hears_102 : decode cX12_hears 102 = .ok (.iconst 0, 1) := by decide +kernel
theorem dX12_hears_103 : decode cX12_hears 103 = .ok (.iastore, 1) := by decide +kernel
theorem dX12_hears_104 : decode cX12_hears 104 = .ok (.return_, 1) := by decide +kernel
theorem dX12_hears_105 : decode cX12_hears 105 = .ok (.aload_n 0, 1) := by decide +kernel
theorem dX12_hears_106 : decode cX12_hears 106 = .ok (.iconst 0, 1) := by decide +kernel
theorem dX12_hears_107 : decode cX12_hears 107 = .ok (.sipush 184, 3) := by decide +kernel
theorem dX12_hears_110 : decode cX12_hears 110 = .ok (.iload_n 2, 1) := by decide +kernel
theorem dX12_hears_111 : decode cX12_hears 111 = .ok (.iadd, 1) := by decide +kernel
theorem dX12_hears_112 : decode cX12_hears 112 = .ok (.invokevirtual 97, 3) := by decide +kernel
theorem dX12_hears_115 : decode cX12_hears 115 = .ok (.aload_n 0, 1) := by decide +kernel
theorem dX12_hears_116 : decode cX12_hears 116 = .ok (.iload_n 1, 1) := by decide +kernel
theorem dX12_hears_117 : decode cX12_hears 117 = .ok (.iconst 1, 1) := by decide +kernel
theorem dX12_hears_118 : decode cX12_hears 118 = .ok (.invokevirtual 135, 3) := by decide +kernel
theorem dX12_hears_121 : decode cX12_hears 121 = .ok (.ifCond .le 11, 3) := by decide +kernel
theorem dX12_hears_124 : decode cX12_hears 124 = .ok (.aload_n 0, 1) := by decide +kernel
theorem dX12_hears_125 : decode cX12_hears 125 = .ok (.bipush 16, 2) := by decide +kernel
theorem dX12_hears_127 : decode cX12_hears 127 = .ok (.iload_n 1, 1) := by decide +kernel
theorem dX12_hears_128 : decode cX12_hears 128 = .ok (.iadd, 1) := by decide +kernel
theorem dX12_hears_129 : decode cX12_hears 129 = .ok (.invokevirtual 170, 3) := by decide +kernel
theorem dX12_hears_132 : decode cX12_hears 132 = .ok (.aload_n 0, 1) := by decide +kernel
theorem dX12_hears_133 : decode cX12_hears 133 = .ok (.iload_n 1, 1) := by decide +kernel
theorem dX12_hears_134 : decode cX12_hears 134 = .ok (.iconst 3, 1) := by decide +kernel
theorem dX12_hears_135 : decode cX12_hears 135 = .ok (.invokevirtual 135, 3) := by decide +kernel
theorem dX12_hears_138 : decode cX12_hears 138 = .ok (.ifCond .le 11, 3) := by decide +kernel
theorem dX12_hears_141 : decode cX12_hears 141 = .ok (.aload_n 0, 1) := by decide +kernel
theorem dX12_hears_142 : decode cX12_hears 142 = .ok (.bipush 20, 2) := by decide +kernel
theorem dX12_hears_144 : decode cX12_hears 144 = .ok (.iload_n 1, 1) := by decide +kernel
theorem dX12_hears_145 : decode cX12_hears 145 = .ok (.iadd, 1) := by decide +kernel
theorem dX12_hears_146 : decode cX12_hears 146 = .ok (.invokevirtual 170, 3) := by decide +kernel
theorem dX12_hears_149 : decode cX12_hears 149 = .ok (.aload_n 0, 1) := by decide +kernel
theorem dX12_hears_150 : decode cX12_hears 150 = .ok (.iload_n 1, 1) := by decide +kernel
theorem dX12_hears_151 : decode cX12_hears 151 = .ok (.iconst 0, 1) := by decide +kernel
theorem dX12_hears_152 : decode cX12_hears 152 = .ok (.invokevirtual 148, 3) := by decide +kernel
theorem dX12_hears_155 : decode cX12_hears 155 = .ok (.aload_n 0, 1) := by decide +kernel
theorem dX12_hears_156 : decode cX12_hears 156 = .ok (.iload_n 1, 1) := by decide +kernel
theorem dX12_hears_157 : decode cX12_hears 157 = .ok (.iconst 0, 1) := by decide +kernel
theorem dX12_hears_158 : decode cX12_hears 158 = .ok (.iconst 0, 1) := by decide +kernel
theorem dX12_hears_159 : decode cX12_hears 159 = .ok (.invokevirtual 151, 3) := by decide +kernel
theorem dX12_hears_162 : decode cX12_hears 162 = .ok (.aload_n 0, 1) := by decide +kernel
theorem dX12_hears_163 : decode cX12_hears 163 = .ok (.sipush 275, 3) := by decide +kernel
theorem dX12_hears_166 : decode cX12_hears 166 = .ok (.iconst 0, 1) := by decide +kernel
theorem dX12_hears_167 : decode cX12_hears 167 = .ok (.invokevirtual 101, 3) := by decide +kernel
theorem dX12_hears_170 : decode cX12_hears 170 = .ok (.aload_n 0, 1) := by decide +kernel
theorem dX12_hears_171 : decode cX12_hears 171 = .ok (.iload_n 1, 1) := by decide +kernel
theorem dX12_hears_172 : decode cX12_hears 172 = .ok (.iconst 4, 1) := by decide +kernel
theorem dX12_hears_173 : decode cX12_hears 173 = .ok (.invokevirtual 135, 3) := by decide +kernel
theorem dX12_hears_176 : decode cX12_hears 176 = .ok (.iconst 1, 1) := by decide +kernel
theorem dX12_hears_177 : decode cX12_hears 177 = .ok (.isub, 1) := by decide +kernel
theorem dX12_hears_178 : decode cX12_hears 178 = .ok (.istore_n 3, 1) := by decide +kernel
theorem dX12_hears_179 : decode cX12_hears 179 = .ok (.iload_n 3, 1) := by decide +kernel
theorem dX12_hears_180 : decode cX12_hears 180 = .ok (.ifCond .lt 22, 3) := by decide +kernel
theorem dX12_hears_183 : decode cX12_hears 183 = .ok (.aload_n 0, 1) := by decide +kernel
theorem dX12_hears_184 : decode cX12_hears 184 = .ok (.bipush 24, 2) := by decide +kernel
theorem dX12_hears_186 : decode cX12_hears 186 = .ok (.bipush 20, 2) := by decide +kernel
theorem dX12_hears_188 : decode cX12_hears 188 = .ok (.iload_n 1, 1) := by decide +kernel
theorem dX12_hears_189 : decode cX12_hears 189 = .ok (.imul, 1) := by decide +kernel
theorem dX12_hears_190 : decode cX12_hears 190 = .ok (.iadd, 1) := by decide +kernel
theorem dX12_hears_191 : decode cX12_hears 191 = .ok (.iload_n 3, 1) := by decide +kernel
theorem dX12_hears_192 : decode cX12_hears 192 = .ok (.iadd, 1) := by decide +kernel
theorem dX12_hears_193 : decode cX12_hears 193 = .ok (.invokevirtual 170, 3) := by decide +kernel
theorem dX12_hears_196 : decode cX12_hears 196 = .ok (.iinc 3 (-1), 3) := by decide +kernel
theorem dX12_hears_199 : decode cX12_hears 199 = .ok (.goto (-20), 3) := by decide +kernel
theorem dX12_hears_202 : decode cX12_hears 202 = .ok (.aload_n 0, 1) := by decide +kernel
theorem dX12_hears_203 : decode cX12_hears 203 = .ok (.iconst 0, 1) := by decide +kernel
theorem dX12_hears_204 : decode cX12_hears 204 = .ok (.sipush 275, 3) := by decide +kernel
theorem dX12_hears_207 : decode cX12_hears 207 = .ok (.invokevirtual 97, 3) := by decide +kernel
theorem dX12_hears_210 : decode cX12_hears 210 = .ok (.aload_n 0, 1) := by decide +kernel
theorem dX12_hears_211 : decode cX12_hears 211 = .ok (.iload_n 1, 1) := by decide +kernel
theorem dX12_hears_212 : decode cX12_hears 212 = .ok (.iconst 5, 1) := by decide +kernel
theorem dX12_hears_213 : decode cX12_hears 213 = .ok (.invokevirtual 135, 3) := by decide +kernel
theorem dX12_hears_216 : decode cX12_hears 216 = .ok (.iconst 1, 1) := by decide +kernel
theorem dX12_hears_217 : decode cX12_hears 217 = .ok (.isub, 1) := by decide +kernel
theorem dX12_hears_218 : decode cX12_hears 218 = .ok (.istore_n 3, 1) := by decide +kernel
theorem dX12_hears_219 : decode cX12_hears 219 = .ok (.iload_n 3, 1) := by decide +kernel
theorem dX12_hears_220 : decode cX12_hears 220 = .ok (.ifCond .lt 22, 3) := by decide +kernel
theorem dX12_hears_242 : decode cX12_hears 242 = .ok (.return_, 1) := by decide +kernel
theorem dX0_ownText_0 : decode cX0_ownText 0 = .ok (.aload_n 0, 1) := by decide +kernel
theorem dX0_ownText_1 : decode cX0_ownText 1 = .ok (.getfield 15, 3) := by decide +kernel
theorem dX0_ownText_4 : decode cX0_ownText 4 = .ok (.aload_n 0, 1) := by decide +kernel
theorem dX0_ownText_5 : decode cX0_ownText 5 = .ok (.getfield 25, 3) := by decide +kernel
theorem dX0_ownText_8 : decode cX0_ownText 8 = .ok (.iconst 0, 1) := by decide +kernel
theorem dX0_ownText_9 : decode cX0_ownText 9 = .ok (.iadd, 1) := by decide +kernel
theorem dX0_ownText_10 : decode cX0_ownText 10 = .ok (.invokevirtual 28, 3) := by decide +kernel
theorem dX0_ownText_13 : decode cX0_ownText 13 = .ok (.ireturn, 1) := by decide +kernel
theorem dX0_slotOf_0 : decode cX0_slotOf 0 = .ok (.iconst 3, 1) := by decide +kernel
theorem dX0_slotOf_1 : decode cX0_slotOf 1 = .ok (.iload_n 0, 1) := by decide +kernel
theorem dX0_slotOf_2 : decode cX0_slotOf 2 = .ok (.bipush 20, 2) := by decide +kernel
theorem dX0_slotOf_4 : decode cX0_slotOf 4 = .ok (.imul, 1) := by decide +kernel
theorem dX0_slotOf_5 : decode cX0_slotOf 5 = .ok (.iadd, 1) := by decide +kernel
theorem dX0_slotOf_6 : decode cX0_slotOf 6 = .ok (.iload_n 1, 1) := by decide +kernel
theorem dX0_slotOf_7 : decode cX0_slotOf 7 = .ok (.iadd, 1) := by decide +kernel
theorem dX0_slotOf_8 : decode cX0_slotOf 8 = .ok (.ireturn, 1) := by decide +kernel
theorem dX10_holdLike_0 : decode cX10_holdLike 0 = .ok (.iconst 0, 1) := by decide +kernel
theorem dX10_holdLike_1 : decode cX10_holdLike 1 = .ok (.istore 4, 2) := by decide +kernel
theorem dX10_holdLike_3 : decode cX10_holdLike 3 = .ok (.iload 4, 2) := by decide +kernel
theorem dX10_holdLike_5 : decode cX10_holdLike 5 = .ok (.iload_n 3, 1) := by decide +kernel
theorem dX10_holdLike_6 : decode cX10_holdLike 6 = .ok (.if_icmp .ge 25, 3) := by decide +kernel
theorem dX10_holdLike_9 : decode cX10_holdLike 9 = .ok (.aload_n 0, 1) := by decide +kernel
theorem dX10_holdLike_10 : decode cX10_holdLike 10 = .ok (.iload_n 1, 1) := by decide +kernel
theorem dX10_holdLike_11 : decode cX10_holdLike 11 = .ok (.iload 4, 2) := by decide +kernel
theorem dX10_holdLike_13 : decode cX10_holdLike 13 = .ok (.iadd, 1) := by decide +kernel
theorem dX10_holdLike_14 : decode cX10_holdLike 14 = .ok (.aload_n 0, 1) := by decide +kernel
theorem dX10_holdLike_15 : decode cX10_holdLike 15 = .ok (.iload_n 2, 1) := by decide +kernel
theorem dX10_holdLike_16 : decode cX10_holdLike 16 = .ok (.iload 4, 2) := by decide +kernel
theorem dX10_holdLike_18 : decode cX10_holdLike 18 = .ok (.iadd, 1) := by decide +kernel
theorem dX10_holdLike_19 : decode cX10_holdLike 19 = .ok (.invokevirtual 56, 3) := by decide +kernel
theorem dX10_holdLike_22 : decode cX10_holdLike 22 = .ok (.invokevirtual 52, 3) := by decide +kernel
theorem dX10_holdLike_25 : decode cX10_holdLike 25 = .ok (.iinc 4 1, 3) := by decide +kernel
theorem dX10_holdLike_28 : decode cX10_holdLike 28 = .ok (.goto (-25), 3) := by decide +kernel
theorem dX10_holdLike_31 : decode cX10_holdLike 31 = .ok (.return_, 1) := by decide +kernel
theorem dX0_drop_0 : decode cX0_drop 0 = .ok (.aload_n 0, 1) := by decide +kernel
theorem dX0_drop_1 : decode cX0_drop 1 = .ok (.iload_n 1, 1) := by decide +kernel
theorem dX0_drop_2 : decode cX0_drop 2 = .ok (.invokevirtual 50, 3) := by decide +kernel
theorem dX0_drop_5 : decode cX0_drop 5 = .ok (.iconst 1, 1) := by decide +kernel
theorem dX0_drop_6 : decode cX0_drop 6 = .ok (.isub, 1) := by decide +kernel
theorem dX0_drop_7 : decode cX0_drop 7 = .ok (.istore_n 2, 1) := by decide +kernel
theorem dX0_drop_8 : decode cX0_drop 8 = .ok (.iload_n 2, 1) := by decide +kernel
theorem dX0_drop_9 : decode cX0_drop 9 = .ok (.ifCond .ge 4, 3) := by decide +kernel
theorem dX0_drop_13 : decode cX0_drop 13 = .ok (.aload_n 0, 1) := by decide +kernel
theorem dX0_drop_14 : decode cX0_drop 14 = .ok (.getfield 15, 3) := by decide +kernel
theorem dX0_drop_17 : decode cX0_drop 17 = .ok (.aload_n 0, 1) := by decide +kernel
theorem dX0_drop_18 : decode cX0_drop 18 = .ok (.getfield 25, 3) := by decide +kernel
theorem dX0_drop_21 : decode cX0_drop 21 = .ok (.iload_n 1, 1) := by decide +kernel
theorem dX0_drop_22 : decode cX0_drop 22 = .ok (.iload_n 2, 1) := by decide +kernel
theorem dX0_drop_23 : decode cX0_drop 23 = .ok (.invokestatic 66, 3) := by decide +kernel
theorem dX0_drop_26 : decode cX0_drop 26 = .ok (.iadd, 1) := by decide +kernel
theorem dX0_drop_27 : decode cX0_drop 27 = .ok (.iconst 0, 1) := by decide +kernel
theorem dX0_drop_28 : decode cX0_drop 28 = .ok (.invokevirtual 70, 3) := by decide +kernel
theorem dX0_drop_31 : decode cX0_drop 31 = .ok (.aload_n 0, 1) := by decide +kernel
theorem dX0_drop_32 : decode cX0_drop 32 = .ok (.iload_n 1, 1) := by decide +kernel
theorem dX0_drop_33 : decode cX0_drop 33 = .ok (.iload_n 2, 1) := by decide +kernel
theorem dX0_drop_34 : decode cX0_drop 34 = .ok (.invokevirtual 74, 3) := by decide +kernel
theorem dX0_drop_37 : decode cX0_drop 37 = .ok (.return_, 1) := by decide +kernel
theorem dX2_weave_0 : decode cX2_weave 0 = .ok (.iload_n 1, 1) := by decide +kernel
theorem dX2_weave_1 : decode cX2_weave 1 = .ok (.iconst 4, 1) := by decide +kernel
theorem dX2_weave_2 : decode cX2_weave 2 = .ok (.if_icmp .ne 7, 3) := by decide +kernel
theorem dX2_weave_5 : decode cX2_weave 5 = .ok (.iload_n 2, 1) := by decide +kernel
theorem dX2_weave_6 : decode cX2_weave 6 = .ok (.goto 10, 3) := by decide +kernel
theorem dX2_weave_9 : decode cX2_weave 9 = .ok (.aload_n 0, 1) := by decide +kernel
theorem dX2_weave_10 : decode cX2_weave 10 = .ok (.iload_n 1, 1) := by decide +kernel
theorem dX2_weave_11 : decode cX2_weave 11 = .ok (.iload_n 2, 1) := by decide +kernel
theorem dX2_weave_12 : decode cX2_weave 12 = .ok (.iload_n 3, 1) := by decide +kernel
theorem dX2_weave_13 : decode cX2_weave 13 = .ok (.invokevirtual 95, 3) := by decide +kernel
theorem dX2_weave_16 : decode cX2_weave 16 = .ok (.istore 4, 2) := by decide +kernel
theorem dX2_weave_18 : decode cX2_weave 18 = .ok (.aload_n 0, 1) := by decide +kernel
theorem dX2_weave_19 : decode cX2_weave 19 = .ok (.getfield 26, 3) := by decide +kernel
theorem dX2_weave_22 : decode cX2_weave 22 = .ok (.aload_n 0, 1) := by decide +kernel
theorem dX2_weave_23 : decode cX2_weave 23 = .ok (.getfield 64, 3) := by decide +kernel
theorem dX2_weave_26 : decode cX2_weave 26 = .ok (.iconst 5, 1) := by decide +kernel
theorem dX2_weave_27 : decode cX2_weave 27 = .ok (.iadd, 1) := by decide +kernel
theorem dX2_weave_28 : decode cX2_weave 28 = .ok (.iload 4, 2) := by decide +kernel
theorem dX2_weave_30 : decode cX2_weave 30 = .ok (.invokevirtual 68, 3) := by decide +kernel
theorem dX2_weave_33 : decode cX2_weave 33 = .ok (.aload_n 0, 1) := by decide +kernel
theorem dX2_weave_34 : decode cX2_weave 34 = .ok (.getfield 26, 3) := by decide +kernel
theorem dX2_weave_37 : decode cX2_weave 37 = .ok (.iload 4, 2) := by decide +kernel
theorem dX2_weave_39 : decode cX2_weave 39 = .ok (.invokevirtual 99, 3) := by decide +kernel
theorem dX2_weave_42 : decode cX2_weave 42 = .ok (.aload_n 0, 1) := by decide +kernel
theorem dX2_weave_43 : decode cX2_weave 43 = .ok (.iconst 0, 1) := by decide +kernel
theorem dX2_weave_44 : decode cX2_weave 44 = .ok (.putfield 102, 3) := by decide +kernel
theorem dX2_weave_47 : decode cX2_weave 47 = .ok (.aload_n 0, 1) := by decide +kernel
theorem dX2_weave_48 : decode cX2_weave 48 = .ok (.iconst 0, 1) := by decide +kernel
theorem dX2_weave_49 : decode cX2_weave 49 = .ok (.putfield 105, 3) := by decide +kernel
theorem dX2_weave_52 : decode cX2_weave 52 = .ok (.aload_n 0, 1) := by decide +kernel
theorem dX2_weave_53 : decode cX2_weave 53 = .ok (.iconst 0, 1) := by decide +kernel
theorem dX2_weave_54 : decode cX2_weave 54 = .ok (.putfield 108, 3) := by decide +kernel
theorem dX2_weave_57 : decode cX2_weave 57 = .ok (.aload_n 0, 1) := by decide +kernel
theorem dX2_weave_58 : decode cX2_weave 58 = .ok (.iconst 0, 1) := by decide +kernel
theorem dX2_weave_59 : decode cX2_weave 59 = .ok (.putfield 111, 3) := by decide +kernel
theorem dX2_weave_62 : decode cX2_weave 62 = .ok (.aload_n 0, 1) := by decide +kernel
theorem dX2_weave_63 : decode cX2_weave 63 = .ok (.getfield 26, 3) := by decide +kernel
theorem dX2_weave_66 : decode cX2_weave 66 = .ok (.iload 4, 2) := by decide +kernel
theorem dX2_weave_68 : decode cX2_weave 68 = .ok (.invokevirtual 114, 3) := by decide +kernel
theorem dX2_weave_71 : decode cX2_weave 71 = .ok (.ifCond .ne 21, 3) := by decide +kernel
theorem dX2_weave_74 : decode cX2_weave 74 = .ok (.aload_n 0, 1) := by decide +kernel
theorem dX2_weave_75 : decode cX2_weave 75 = .ok (.getfield 23, 3) := by decide +kernel
theorem dX2_weave_78 : decode cX2_weave 78 = .ok (.aload_n 0, 1) := by decide +kernel
theorem dX2_weave_79 : decode cX2_weave 79 = .ok (.dup, 1) := by decide +kernel
theorem dX2_weave_80 : decode cX2_weave 80 = .ok (.getfield 102, 3) := by decide +kernel
theorem dX2_weave_83 : decode cX2_weave 83 = .ok (.dup_x1, 1) := by decide +kernel
theorem dX2_weave_84 : decode cX2_weave 84 = .ok (.iconst 1, 1) := by decide +kernel
theorem dX2_weave_85 : decode cX2_weave 85 = .ok (.iadd, 1) := by decide +kernel
theorem dX2_weave_86 : decode cX2_weave 86 = .ok (.putfield 102, 3) := by decide +kernel
theorem dX2_weave_89 : decode cX2_weave 89 = .ok (.iload 4, 2) := by decide +kernel
theorem dX2_weave_91 : decode cX2_weave 91 = .ok (.iastore, 1) := by decide +kernel
theorem dX2_weave_92 : decode cX2_weave 92 = .ok (.iconst (-1), 1) := by decide +kernel
theorem dX2_weave_93 : decode cX2_weave 93 = .ok (.istore 5, 2) := by decide +kernel
theorem dX2_weave_95 : decode cX2_weave 95 = .ok (.iconst 0, 1) := by decide +kernel
theorem dX2_weave_96 : decode cX2_weave 96 = .ok (.istore 6, 2) := by decide +kernel
theorem dX2_weave_98 : decode cX2_weave 98 = .ok (.iload 6, 2) := by decide +kernel
theorem dX2_weave_100 : decode cX2_weave 100 = .ok (.ldc 118, 2) := by decide +kernel
theorem dX2_weave_102 : decode cX2_weave 102 = .ok (.if_icmp .ge 431, 3) := by decide +kernel
theorem dX2_weave_105 : decode cX2_weave 105 = .ok (.aload_n 0, 1) := by decide +kernel
theorem dX2_weave_106 : decode cX2_weave 106 = .ok (.getfield 102, 3) := by decide +kernel
theorem dX2_weave_109 : decode cX2_weave 109 = .ok (.ifCond .le 424, 3) := by decide +kernel
theorem dX2_weave_112 : decode cX2_weave 112 = .ok (.aload_n 0, 1) := by decide +kernel
theorem dX2_weave_113 : decode cX2_weave 113 = .ok (.iload 5, 2) := by decide +kernel
theorem dX2_weave_115 : decode cX2_weave 115 = .ok (.invokevirtual 72, 3) := by decide +kernel
theorem dX2_weave_118 : decode cX2_weave 118 = .ok (.aload_n 0, 1) := by decide +kernel
theorem dX2_weave_119 : decode cX2_weave 119 = .ok (.getfield 23, 3) := by decide +kernel
theorem dX2_weave_122 : decode cX2_weave 122 = .ok (.aload_n 0, 1) := by decide +kernel
theorem dX2_weave_123 : decode cX2_weave 123 = .ok (.getfield 102, 3) := by decide +kernel
theorem dX2_weave_126 : decode cX2_weave 126 = .ok (.iconst 1, 1) := by decide +kernel
theorem dX2_weave_127 : decode cX2_weave 127 = .ok (.isub, 1) := by decide +kernel
theorem dX2_weave_128 : decode cX2_weave 128 = .ok (.iaload, 1) := by decide +kernel
theorem dX2_weave_129 : decode cX2_weave 129 = .ok (.istore 7, 2) := by decide +kernel
theorem dX2_weave_131 : decode cX2_weave 131 = .ok (.aload_n 0, 1) := by decide +kernel
theorem dX2_weave_132 : decode cX2_weave 132 = .ok (.getfield 26, 3) := by decide +kernel
theorem dX2_weave_135 : decode cX2_weave 135 = .ok (.iload 7, 2) := by decide +kernel
theorem dX2_weave_137 : decode cX2_weave 137 = .ok (.invokevirtual 119, 3) := by decide +kernel
theorem dX2_weave_140 : decode cX2_weave 140 = .ok (.istore 8, 2) := by decide +kernel
theorem dX2_weave_142 : decode cX2_weave 142 = .ok (.aload_n 0, 1) := by decide +kernel
theorem dX2_weave_143 : decode cX2_weave 143 = .ok (.getfield 105, 3) := by decide +kernel
theorem dX2_weave_146 : decode cX2_weave 146 = .ok (.iconst 1, 1) := by decide +kernel
theorem dX2_weave_147 : decode cX2_weave 147 = .ok (.isub, 1) := by decide +kernel
theorem dX2_weave_148 : decode cX2_weave 148 = .ok (.iconst 5, 1) := by decide +kernel
theorem dX2_weave_149 : decode cX2_weave 149 = .ok (.imul, 1) := by decide +kernel
theorem dX2_weave_150 : decode cX2_weave 150 = .ok (.istore 9, 2) := by decide +kernel
theorem dX2_weave_152 : decode cX2_weave 152 = .ok (.aload_n 0, 1) := by decide +kernel
theorem dX2_weave_153 : decode cX2_weave 153 = .ok (.getfield 38, 3) := by decide +kernel
theorem dX2_weave_156 : decode cX2_weave 156 = .ok (.invokevirtual 76, 3) := by decide +kernel
theorem dX2_weave_159 : decode cX2_weave 159 = .ok (.ifCond .eq 33, 3) := by decide +kernel
theorem dX2_weave_192 : decode cX2_weave 192 = .ok (.aload_n 0, 1) := by decide +kernel
theorem dX2_weave_193 : decode cX2_weave 193 = .ok (.getfield 105, 3) := by decide +kernel
theorem dX2_weave_196 : decode cX2_weave 196 = .ok (.ifCond .ne 61, 3) := by decide +kernel
theorem dX2_weave_199 : decode cX2_weave 199 = .ok (.iload 5, 2) := by decide +kernel
theorem dX2_weave_201 : decode cX2_weave 201 = .ok (.iconst (-1), 1) := by decide +kernel
theorem dX2_weave_202 : decode cX2_weave 202 = .ok (.if_icmp .ne 55, 3) := by decide +kernel
theorem dX2_weave_205 : decode cX2_weave 205 = .ok (.aload_n 0, 1) := by decide +kernel
theorem dX2_weave_206 : decode cX2_weave 206 = .ok (.iload 7, 2) := by decide +kernel
theorem dX2_weave_208 : decode cX2_weave 208 = .ok (.invokevirtual 125, 3) := by decide +kernel
theorem dX2_weave_211 : decode cX2_weave 211 = .ok (.ifCond .ne 6, 3) := by decide +kernel
theorem dX2_weave_214 : decode cX2_weave 214 = .ok (.goto 313, 3) := by decide +kernel
theorem dX2_weave_257 : decode cX2_weave 257 = .ok (.aload_n 0, 1) := by decide +kernel
theorem dX2_weave_258 : decode cX2_weave 258 = .ok (.getfield 105, 3) := by decide +kernel
theorem dX2_weave_261 : decode cX2_weave 261 = .ok (.ifCond .ne 30, 3) := by decide +kernel
theorem dX2_weave_264 : decode cX2_weave 264 = .ok (.aload_n 0, 1) := by decide +kernel
theorem dX2_weave_265 : decode cX2_weave 265 = .ok (.getfield 26, 3) := by decide +kernel
theorem dX2_weave_268 : decode cX2_weave 268 = .ok (.iload 7, 2) := by decide +kernel
theorem dX2_weave_270 : decode cX2_weave 270 = .ok (.iload 5, 2) := by decide +kernel
theorem dX2_weave_272 : decode cX2_weave 272 = .ok (.invokevirtual 136, 3) := by decide +kernel
theorem dX2_weave_275 : decode cX2_weave 275 = .ok (.iconst (-1), 1) := by decide +kernel
theorem dX2_weave_276 : decode cX2_weave 276 = .ok (.istore 5, 2) := by decide +kernel
theorem dX2_weave_278 : decode cX2_weave 278 = .ok (.aload_n 0, 1) := by decide +kernel
theorem dX2_weave_279 : decode cX2_weave 279 = .ok (.dup, 1) := by decide +kernel
theorem dX2_weave_280 : decode cX2_weave 280 = .ok (.getfield 102, 3) := by decide +kernel
theorem dX2_weave_283 : decode cX2_weave 283 = .ok (.iconst 1, 1) := by decide +kernel
theorem dX2_weave_284 : decode cX2_weave 284 = .ok (.isub, 1) := by decide +kernel
theorem dX2_weave_285 : decode cX2_weave 285 = .ok (.putfield 102, 3) := by decide +kernel
theorem dX2_weave_288 : decode cX2_weave 288 = .ok (.goto 239, 3) := by decide +kernel
theorem dX2_weave_291 : decode cX2_weave 291 = .ok (.iload 5, 2) := by decide +kernel
theorem dX2_weave_293 : decode cX2_weave 293 = .ok (.iconst (-1), 1) := by decide +kernel
theorem dX2_weave_294 : decode cX2_weave 294 = .ok (.if_icmp .ne 131, 3) := by decide +kernel
theorem dX2_weave_297 : decode cX2_weave 297 = .ok (.aload_n 0, 1) := by decide +kernel
theorem dX2_weave_298 : decode cX2_weave 298 = .ok (.iload 8, 2) := by decide +kernel
theorem dX2_weave_300 : decode cX2_weave 300 = .ok (.aload_n 0, 1) := by decide +kernel
theorem dX2_weave_301 : decode cX2_weave 301 = .ok (.getfield 13, 3) := by decide +kernel
theorem dX2_weave_304 : decode cX2_weave 304 = .ok (.iload 9, 2) := by decide +kernel
theorem dX2_weave_306 : decode cX2_weave 306 = .ok (.iconst 0, 1) := by decide +kernel
theorem dX2_weave_307 : decode cX2_weave 307 = .ok (.iadd, 1) := by decide +kernel
theorem dX2_weave_308 : decode cX2_weave 308 = .ok (.invokestatic 139, 3) := by decide +kernel
theorem dX2_weave_311 : decode cX2_weave 311 = .ok (.aload_n 0, 1) := by decide +kernel
theorem dX2_weave_312 : decode cX2_weave 312 = .ok (.getfield 13, 3) := by decide +kernel
theorem dX2_weave_315 : decode cX2_weave 315 = .ok (.iload 9, 2) := by decide +kernel
theorem dX2_weave_317 : decode cX2_weave 317 = .ok (.iconst 1, 1) := by decide +kernel
theorem dX2_weave_318 : decode cX2_weave 318 = .ok (.iadd, 1) := by decide +kernel
theorem dX2_weave_319 : decode cX2_weave 319 = .ok (.invokestatic 139, 3) := by decide +kernel
theorem dX2_weave_322 : decode cX2_weave 322 = .ok (.invokevirtual 143, 3) := by decide +kernel
theorem dX2_weave_325 : decode cX2_weave 325 = .ok (.istore 5, 2) := by decide +kernel
theorem dX2_weave_327 : decode cX2_weave 327 = .ok (.iload 5, 2) := by decide +kernel
theorem dX2_weave_329 : decode cX2_weave 329 = .ok (.iconst (-1), 1) := by decide +kernel
theorem dX2_weave_330 : decode cX2_weave 330 = .ok (.if_icmp .ne 13, 3) := by decide +kernel
theorem dX2_weave_333 : decode cX2_weave 333 = .ok (.aload_n 0, 1) := by decide +kernel
theorem dX2_weave_334 : decode cX2_weave 334 = .ok (.iload 8, 2) := by decide +kernel
theorem dX2_weave_336 : decode cX2_weave 336 = .ok (.iload 9, 2) := by decide +kernel
theorem dX2_weave_338 : decode cX2_weave 338 = .ok (.invokevirtual 146, 3) := by decide +kernel
theorem dX2_weave_341 : decode cX2_weave 341 = .ok (.istore 5, 2) := by decide +kernel
theorem dX2_weave_343 : decode cX2_weave 343 = .ok (.iload 5, 2) := by decide +kernel
theorem dX2_weave_345 : decode cX2_weave 345 = .ok (.iconst (-1), 1) := by decide +kernel
theorem dX2_weave_346 : decode cX2_weave 346 = .ok (.if_icmp .ne 49, 3) := by decide +kernel
theorem dX2_weave_349 : decode cX2_weave 349 = .ok (.aload_n 0, 1) := by decide +kernel
theorem dX2_weave_350 : decode cX2_weave 350 = .ok (.iload 8, 2) := by decide +kernel
theorem dX2_weave_352 : decode cX2_weave 352 = .ok (.aload_n 0, 1) := by decide +kernel
theorem dX2_weave_353 : decode cX2_weave 353 = .ok (.getfield 13, 3) := by decide +kernel
theorem dX2_weave_356 : decode cX2_weave 356 = .ok (.iload 9, 2) := by decide +kernel
theorem dX2_weave_358 : decode cX2_weave 358 = .ok (.iconst 0, 1) := by decide +kernel
theorem dX2_weave_359 : decode cX2_weave 359 = .ok (.iadd, 1) := by decide +kernel
theorem dX2_weave_360 : decode cX2_weave 360 = .ok (.invokestatic 139, 3) := by decide +kernel
theorem dX2_weave_363 : decode cX2_weave 363 = .ok (.aload_n 0, 1) := by decide +kernel
theorem dX2_weave_364 : decode cX2_weave 364 = .ok (.getfield 13, 3) := by decide +kernel
theorem dX2_weave_367 : decode cX2_weave 367 = .ok (.iload 9, 2) := by decide +kernel
theorem dX2_weave_369 : decode cX2_weave 369 = .ok (.iconst 1, 1) := by decide +kernel
theorem dX2_weave_370 : decode cX2_weave 370 = .ok (.iadd, 1) := by decide +kernel
theorem dX2_weave_371 : decode cX2_weave 371 = .ok (.invokestatic 139, 3) := by decide +kernel
theorem dX2_weave_374 : decode cX2_weave 374 = .ok (.invokevirtual 149, 3) := by decide +kernel
theorem dX2_weave_377 : decode cX2_weave 377 = .ok (.istore 5, 2) := by decide +kernel
theorem dX2_weave_379 : decode cX2_weave 379 = .ok (.iload 5, 2) := by decide +kernel
theorem dX2_weave_381 : decode cX2_weave 381 = .ok (.iconst (-1), 1) := by decide +kernel
theorem dX2_weave_382 : decode cX2_weave 382 = .ok (.if_icmp .eq 13, 3) := by decide +kernel
theorem dX2_weave_385 : decode cX2_weave 385 = .ok (.aload_n 0, 1) := by decide +kernel
theorem dX2_weave_386 : decode cX2_weave 386 = .ok (.iload 8, 2) := by decide +kernel
theorem dX2_weave_388 : decode cX2_weave 388 = .ok (.iload 9, 2) := by decide +kernel
theorem dX2_weave_390 : decode cX2_weave 390 = .ok (.iload 5, 2) := by decide +kernel
theorem dX2_weave_392 : decode cX2_weave 392 = .ok (.invokevirtual 152, 3) := by decide +kernel
theorem dX2_weave_395 : decode cX2_weave 395 = .ok (.iload 5, 2) := by decide +kernel
theorem dX2_weave_397 : decode cX2_weave 397 = .ok (.iconst (-1), 1) := by decide +kernel
theorem dX2_weave_398 : decode cX2_weave 398 = .ok (.if_icmp .ne 14, 3) := by decide +kernel
theorem dX2_weave_412 : decode cX2_weave 412 = .ok (.aload_n 0, 1) := by decide +kernel
theorem dX2_weave_413 : decode cX2_weave 413 = .ok (.dup, 1) := by decide +kernel
theorem dX2_weave_414 : decode cX2_weave 414 = .ok (.getfield 105, 3) := by decide +kernel
theorem dX2_weave_417 : decode cX2_weave 417 = .ok (.iconst 1, 1) := by decide +kernel
theorem dX2_weave_418 : decode cX2_weave 418 = .ok (.isub, 1) := by decide +kernel
theorem dX2_weave_419 : decode cX2_weave 419 = .ok (.putfield 105, 3) := by decide +kernel
theorem dX2_weave_422 : decode cX2_weave 422 = .ok (.goto 105, 3) := by decide +kernel
theorem dX2_weave_527 : decode cX2_weave 527 = .ok (.iinc 6 1, 3) := by decide +kernel
theorem dX2_weave_530 : decode cX2_weave 530 = .ok (.goto (-432), 3) := by decide +kernel
theorem dX2_weave_533 : decode cX2_weave 533 = .ok (.aload_n 0, 1) := by decide +kernel
theorem dX2_weave_534 : decode cX2_weave 534 = .ok (.getfield 102, 3) := by decide +kernel
theorem dX2_weave_537 : decode cX2_weave 537 = .ok (.ifCond .le 34, 3) := by decide +kernel
theorem dX2_weave_571 : decode cX2_weave 571 = .ok (.aload_n 0, 1) := by decide +kernel
theorem dX2_weave_572 : decode cX2_weave 572 = .ok (.iconst 0, 1) := by decide +kernel
theorem dX2_weave_573 : decode cX2_weave 573 = .ok (.putfield 105, 3) := by decide +kernel
theorem dX2_weave_576 : decode cX2_weave 576 = .ok (.iload 4, 2) := by decide +kernel
theorem dX2_weave_578 : decode cX2_weave 578 = .ok (.ireturn, 1) := by decide +kernel
theorem dX0_keep_0 : decode cX0_keep 0 = .ok (.aload_n 0, 1) := by decide +kernel
theorem dX0_keep_1 : decode cX0_keep 1 = .ok (.iload_n 1, 1) := by decide +kernel
theorem dX0_keep_2 : decode cX0_keep 2 = .ok (.invokevirtual 50, 3) := by decide +kernel
theorem dX0_keep_5 : decode cX0_keep 5 = .ok (.istore_n 3, 1) := by decide +kernel
theorem dX0_keep_6 : decode cX0_keep 6 = .ok (.iload_n 3, 1) := by decide +kernel
theorem dX0_keep_7 : decode cX0_keep 7 = .ok (.bipush 20, 2) := by decide +kernel
theorem dX0_keep_9 : decode cX0_keep 9 = .ok (.if_icmp .lt 59, 3) := by decide +kernel
theorem dX0_keep_68 : decode cX0_keep 68 = .ok (.aload_n 0, 1) := by decide +kernel
theorem dX0_keep_69 : decode cX0_keep 69 = .ok (.getfield 15, 3) := by decide +kernel
theorem dX0_keep_72 : decode cX0_keep 72 = .ok (.aload_n 0, 1) := by decide +kernel
theorem dX0_keep_73 : decode cX0_keep 73 = .ok (.getfield 25, 3) := by decide +kernel
theorem dX0_keep_76 : decode cX0_keep 76 = .ok (.iload_n 1, 1) := by decide +kernel
theorem dX0_keep_77 : decode cX0_keep 77 = .ok (.iload_n 3, 1) := by decide +kernel
theorem dX0_keep_78 : decode cX0_keep 78 = .ok (.invokestatic 66, 3) := by decide +kernel
theorem dX0_keep_81 : decode cX0_keep 81 = .ok (.iadd, 1) := by decide +kernel
theorem dX0_keep_82 : decode cX0_keep 82 = .ok (.iload_n 2, 1) := by decide +kernel
theorem dX0_keep_83 : decode cX0_keep 83 = .ok (.invokevirtual 70, 3) := by decide +kernel
theorem dX0_keep_86 : decode cX0_keep 86 = .ok (.aload_n 0, 1) := by decide +kernel
theorem dX0_keep_87 : decode cX0_keep 87 = .ok (.iload_n 1, 1) := by decide +kernel
theorem dX0_keep_88 : decode cX0_keep 88 = .ok (.iload_n 3, 1) := by decide +kernel
theorem dX0_keep_89 : decode cX0_keep 89 = .ok (.iconst 1, 1) := by decide +kernel
theorem dX0_keep_90 : decode cX0_keep 90 = .ok (.iadd, 1) := by decide +kernel
theorem dX0_keep_91 : decode cX0_keep 91 = .ok (.invokevirtual 74, 3) := by decide +kernel
theorem dX0_keep_94 : decode cX0_keep 94 = .ok (.return_, 1) := by decide +kernel
theorem dX4_placeAfter_0 : decode cX4_placeAfter 0 = .ok (.aload_n 0, 1) := by decide +kernel
theorem dX4_placeAfter_1 : decode cX4_placeAfter 1 = .ok (.getfield 36, 3) := by decide +kernel
theorem dX4_placeAfter_4 : decode cX4_placeAfter 4 = .ok (.iload_n 1, 1) := by decide +kernel
theorem dX4_placeAfter_5 : decode cX4_placeAfter 5 = .ok (.invokevirtual 67, 3) := by decide +kernel
theorem dX4_placeAfter_8 : decode cX4_placeAfter 8 = .ok (.ifCond .eq 25, 3) := by decide +kernel
theorem dX4_placeAfter_11 : decode cX4_placeAfter 11 = .ok (.aload_n 0, 1) := by decide +kernel
theorem dX4_placeAfter_12 : decode cX4_placeAfter 12 = .ok (.getfield 36, 3) := by decide +kernel
theorem dX4_placeAfter_15 : decode cX4_placeAfter 15 = .ok (.getfield 48, 3) := by decide +kernel
theorem dX4_placeAfter_18 : decode cX4_placeAfter 18 = .ok (.aload_n 0, 1) := by decide +kernel
theorem dX4_placeAfter_19 : decode cX4_placeAfter 19 = .ok (.getfield 36, 3) := by decide +kernel
theorem dX4_placeAfter_22 : decode cX4_placeAfter 22 = .ok (.iload_n 1, 1) := by decide +kernel
theorem dX4_placeAfter_23 : decode cX4_placeAfter 23 = .ok (.invokevirtual 181, 3) := by decide +kernel
theorem dX4_placeAfter_26 : decode cX4_placeAfter 26 = .ok (.lload_n 2, 1) := by decide +kernel
theorem dX4_placeAfter_27 : decode cX4_placeAfter 27 = .ok (.iload 4, 2) := by decide +kernel
theorem dX4_placeAfter_29 : decode cX4_placeAfter 29 = .ok (.invokevirtual 284, 3) := by decide +kernel
theorem dX4_placeAfter_32 : decode cX4_placeAfter 32 = .ok (.lreturn, 1) := by decide +kernel
theorem dX0_sendWaiting_0 : decode cX0_sendWaiting 0 = .ok (.aload_n 0, 1) := by decide +kernel
theorem dX0_sendWaiting_1 : decode cX0_sendWaiting 1 = .ok (.getfield 15, 3) := by decide +kernel
theorem dX0_sendWaiting_4 : decode cX0_sendWaiting 4 = .ok (.aload_n 0, 1) := by decide +kernel
theorem dX0_sendWaiting_5 : decode cX0_sendWaiting 5 = .ok (.getfield 25, 3) := by decide +kernel
theorem dX0_sendWaiting_8 : decode cX0_sendWaiting 8 = .ok (.iconst 1, 1) := by decide +kernel
theorem dX0_sendWaiting_9 : decode cX0_sendWaiting 9 = .ok (.iadd, 1) := by decide +kernel
theorem dX0_sendWaiting_10 : decode cX0_sendWaiting 10 = .ok (.aload_n 0, 1) := by decide +kernel
theorem dX0_sendWaiting_11 : decode cX0_sendWaiting 11 = .ok (.getfield 15, 3) := by decide +kernel
theorem dX0_sendWaiting_14 : decode cX0_sendWaiting 14 = .ok (.aload_n 0, 1) := by decide +kernel
theorem dX0_sendWaiting_15 : decode cX0_sendWaiting 15 = .ok (.getfield 25, 3) := by decide +kernel
theorem dX0_sendWaiting_18 : decode cX0_sendWaiting 18 = .ok (.iconst 2, 1) := by decide +kernel
theorem dX0_sendWaiting_19 : decode cX0_sendWaiting 19 = .ok (.iadd, 1) := by decide +kernel
theorem dX0_sendWaiting_20 : decode cX0_sendWaiting 20 = .ok (.invokevirtual 28, 3) := by decide +kernel
theorem dX0_sendWaiting_23 : decode cX0_sendWaiting 23 = .ok (.invokevirtual 70, 3) := by decide +kernel
theorem dX0_sendWaiting_26 : decode cX0_sendWaiting 26 = .ok (.aload_n 0, 1) := by decide +kernel
theorem dX0_sendWaiting_27 : decode cX0_sendWaiting 27 = .ok (.getfield 15, 3) := by decide +kernel
theorem dX0_sendWaiting_30 : decode cX0_sendWaiting 30 = .ok (.aload_n 0, 1) := by decide +kernel
theorem dX0_sendWaiting_31 : decode cX0_sendWaiting 31 = .ok (.getfield 25, 3) := by decide +kernel
theorem dX0_sendWaiting_34 : decode cX0_sendWaiting 34 = .ok (.iconst 2, 1) := by decide +kernel
theorem dX0_sendWaiting_35 : decode cX0_sendWaiting 35 = .ok (.iadd, 1) := by decide +kernel
theorem dX0_sendWaiting_36 : decode cX0_sendWaiting 36 = .ok (.iconst 0, 1) := by decide +kernel
theorem dX0_sendWaiting_37 : decode cX0_sendWaiting 37 = .ok (.invokevirtual 70, 3) := by decide +kernel
theorem dX0_sendWaiting_40 : decode cX0_sendWaiting 40 = .ok (.aload_n 0, 1) := by decide +kernel
theorem dX0_sendWaiting_41 : decode cX0_sendWaiting 41 = .ok (.aload_n 0, 1) := by decide +kernel
theorem dX0_sendWaiting_42 : decode cX0_sendWaiting 42 = .ok (.getfield 47, 3) := by decide +kernel
theorem dX0_sendWaiting_45 : decode cX0_sendWaiting 45 = .ok (.putfield 34, 3) := by decide +kernel
theorem dX0_sendWaiting_48 : decode cX0_sendWaiting 48 = .ok (.aload_n 0, 1) := by decide +kernel
theorem dX0_sendWaiting_49 : decode cX0_sendWaiting 49 = .ok (.iconst 0, 1) := by decide +kernel
theorem dX0_sendWaiting_50 : decode cX0_sendWaiting 50 = .ok (.putfield 38, 3) := by decide +kernel
theorem dX0_sendWaiting_53 : decode cX0_sendWaiting 53 = .ok (.aload_n 0, 1) := by decide +kernel
theorem dX0_sendWaiting_54 : decode cX0_sendWaiting 54 = .ok (.iconst 0, 1) := by decide +kernel
theorem dX0_sendWaiting_55 : decode cX0_sendWaiting 55 = .ok (.putfield 47, 3) := by decide +kernel
theorem dX0_sendWaiting_58 : decode cX0_sendWaiting 58 = .ok (.return_, 1) := by decide +kernel
theorem dX0_passedAt_0 : decode cX0_passedAt 0 = .ok (.iload_n 1, 1) := by decide +kernel
theorem dX0_passedAt_1 : decode cX0_passedAt 1 = .ok (.ifCond .le 11, 3) := by decide +kernel
theorem dX0_passedAt_4 : decode cX0_passedAt 4 = .ok (.aload_n 0, 1) := by decide +kernel
theorem dX0_passedAt_5 : decode cX0_passedAt 5 = .ok (.iload_n 1, 1) := by decide +kernel
theorem dX0_passedAt_6 : decode cX0_passedAt 6 = .ok (.iconst 1, 1) := by decide +kernel
theorem dX0_passedAt_7 : decode cX0_passedAt 7 = .ok (.isub, 1) := by decide +kernel
theorem dX0_passedAt_8 : decode cX0_passedAt 8 = .ok (.invokevirtual 50, 3) := by decide +kernel
theorem dX0_passedAt_11 : decode cX0_passedAt 11 = .ok (.ireturn, 1) := by decide +kernel
theorem dX0_passedAt_12 : decode cX0_passedAt 12 = .ok (.aload_n 0, 1) := by decide +kernel
theorem dX0_passedAt_13 : decode cX0_passedAt 13 = .ok (.getfield 34, 3) := by decide +kernel
theorem dX0_passedAt_16 : decode cX0_passedAt 16 = .ok (.ifCond .ne 5, 3) := by decide +kernel
theorem dX0_passedAt_21 : decode cX0_passedAt 21 = .ok (.aload_n 0, 1) := by decide +kernel
theorem dX0_passedAt_22 : decode cX0_passedAt 22 = .ok (.getfield 47, 3) := by decide +kernel
theorem dX0_passedAt_25 : decode cX0_passedAt 25 = .ok (.ifCond .eq 7, 3) := by decide +kernel
theorem dX0_passedAt_28 : decode cX0_passedAt 28 = .ok (.iconst 2, 1) := by decide +kernel
theorem dX0_passedAt_29 : decode cX0_passedAt 29 = .ok (.goto 4, 3) := by decide +kernel
theorem dX0_passedAt_33 : decode cX0_passedAt 33 = .ok (.ireturn, 1) := by decide +kernel
theorem dJ7_fill_bad5a_0 : decode cJ7_fill_bad5a 0 = .ok (.aload_n 0, 1) := by decide +kernel
theorem dJ7_fill_bad5a_1 : decode cJ7_fill_bad5a 1 = .ok (.arraylength, 1) := by decide +kernel
theorem dJ7_fill_bad5a_2 : decode cJ7_fill_bad5a 2 = .ok (.iload_n 1, 1) := by decide +kernel
theorem dJ7_fill_bad5a_3 : decode cJ7_fill_bad5a 3 = .ok (.iload_n 2, 1) := by decide +kernel
theorem dJ7_fill_bad5a_4 : decode cJ7_fill_bad5a 4 = .ok (.invokestatic 13, 3) := by decide +kernel
theorem dJ7_fill_bad5a_7 : decode cJ7_fill_bad5a 7 = .ok (.iload_n 1, 1) := by decide +kernel
theorem dJ7_fill_bad5a_8 : decode cJ7_fill_bad5a 8 = .ok (.istore 5, 2) := by decide +kernel
theorem dJ7_fill_bad5a_10 : decode cJ7_fill_bad5a 10 = .ok (.iload 5, 2) := by decide +kernel
theorem dJ7_fill_bad5a_12 : decode cJ7_fill_bad5a 12 = .ok (.iload_n 2, 1) := by decide +kernel
theorem dJ7_fill_bad5a_13 : decode cJ7_fill_bad5a 13 = .ok (.if_icmp .ge 14, 3) := by decide +kernel
theorem dJ7_fill_bad5a_16 : decode cJ7_fill_bad5a 16 = .ok (.aload_n 0, 1) := by decide +kernel
theorem dJ7_fill_bad5a_17 : decode cJ7_fill_bad5a 17 = .ok (.iload 5, 2) := by decide +kernel
theorem dJ7_fill_bad5a_19 : decode cJ7_fill_bad5a 19 = .ok (.lload_n 3, 1) := by decide +kernel
theorem dJ7_fill_bad5a_20 : decode cJ7_fill_bad5a 20 = .ok (.lastore, 1) := by decide +kernel
theorem dJ7_fill_bad5a_21 : decode cJ7_fill_bad5a 21 = .ok (.iinc 5 1, 3) := by decide +kernel
theorem dJ7_fill_bad5a_24 : decode cJ7_fill_bad5a 24 = .ok (.goto (-14), 3) := by decide +kernel
theorem dJ7_fill_bad5a_27 : decode cJ7_fill_bad5a 27 = .ok (.return_, 1) := by decide +kernel
theorem dX10_isThere_0 : decode cX10_isThere 0 = .ok (.iload_n 1, 1) := by decide +kernel
theorem dX10_isThere_1 : decode cX10_isThere 1 = .ok (.ifCond .le 20, 3) := by decide +kernel
theorem dX10_isThere_4 : decode cX10_isThere 4 = .ok (.iload_n 1, 1) := by decide +kernel
theorem dX10_isThere_5 : decode cX10_isThere 5 = .ok (.ldc 15, 2) := by decide +kernel
theorem dX10_isThere_7 : decode cX10_isThere 7 = .ok (.if_icmp .ge 14, 3) := by decide +kernel
theorem dX10_isThere_10 : decode cX10_isThere 10 = .ok (.aload_n 0, 1) := by decide +kernel
theorem dX10_isThere_11 : decode cX10_isThere 11 = .ok (.getfield 29, 3) := by decide +kernel
theorem dX10_isThere_14 : decode cX10_isThere 14 = .ok (.iload_n 1, 1) := by decide +kernel
theorem dX10_isThere_15 : decode cX10_isThere 15 = .ok (.iaload, 1) := by decide +kernel
theorem dX10_isThere_16 : decode cX10_isThere 16 = .ok (.iconst 2, 1) := by decide +kernel
theorem dX10_isThere_17 : decode cX10_isThere 17 = .ok (.iand, 1) := by decide +kernel
theorem dX10_isThere_18 : decode cX10_isThere 18 = .ok (.ifCond .eq 7, 3) := by decide +kernel
theorem dX10_isThere_21 : decode cX10_isThere 21 = .ok (.iconst 1, 1) := by decide +kernel
theorem dX10_isThere_22 : decode cX10_isThere 22 = .ok (.goto 4, 3) := by decide +kernel
theorem dX10_isThere_25 : decode cX10_isThere 25 = .ok (.iconst 0, 1) := by decide +kernel
theorem dX10_isThere_26 : decode cX10_isThere 26 = .ok (.ireturn, 1) := by decide +kernel
theorem dX10_node_0 : decode cX10_node 0 = .ok (.iload_n 1, 1) := by decide +kernel
theorem dX10_node_1 : decode cX10_node 1 = .ok (.invokestatic 64, 3) := by decide +kernel
theorem dX10_node_4 : decode cX10_node 4 = .ok (.ifCond .eq 14, 3) := by decide +kernel
theorem dX10_node_7 : decode cX10_node 7 = .ok (.aload_n 0, 1) := by decide +kernel
theorem dX10_node_8 : decode cX10_node 8 = .ok (.getfield 16, 3) := by decide +kernel
theorem dX10_node_11 : decode cX10_node 11 = .ok (.iload_n 1, 1) := by decide +kernel
theorem dX10_node_12 : decode cX10_node 12 = .ok (.invokestatic 68, 3) := by decide +kernel
theorem dX10_node_15 : decode cX10_node 15 = .ok (.goto 4, 3) := by decide +kernel
theorem dX10_node_18 : decode cX10_node 18 = .ok (.iconst 0, 1) := by decide +kernel
theorem dX10_node_19 : decode cX10_node 19 = .ok (.ireturn, 1) := by decide +kernel
theorem dX8_sum_0 : decode cX8_sum 0 = .ok (.aload_n 0, 1) := by decide +kernel
theorem dX8_sum_1 : decode cX8_sum 1 = .ok (.iload_n 1, 1) := by decide +kernel
theorem dX8_sum_2 : decode cX8_sum 2 = .ok (.invokevirtual 123, 3) := by decide +kernel
theorem dX8_sum_5 : decode cX8_sum 5 = .ok (.lstore_n 2, 1) := by decide +kernel
theorem dX8_sum_6 : decode cX8_sum 6 = .ok (.iconst 0, 1) := by decide +kernel
theorem dX8_sum_7 : decode cX8_sum 7 = .ok (.istore 4, 2) := by decide +kernel
theorem dX8_sum_9 : decode cX8_sum 9 = .ok (.lload_n 2, 1) := by decide +kernel
theorem dX8_sum_10 : decode cX8_sum 10 = .ok (.ldc2_w 126, 3) := by decide +kernel
theorem dX8_sum_13 : decode cX8_sum 13 = .ok (.lcmp, 1) := by decide +kernel
theorem dX8_sum_14 : decode cX8_sum 14 = .ok (.ifCond .ne 13, 3) := by decide +kernel
theorem dX8_sum_27 : decode cX8_sum 27 = .ok (.iconst 0, 1) := by decide +kernel
theorem dX8_sum_28 : decode cX8_sum 28 = .ok (.istore 5, 2) := by decide +kernel
theorem dX8_sum_30 : decode cX8_sum 30 = .ok (.iload 5, 2) := by decide +kernel
theorem dX8_sum_32 : decode cX8_sum 32 = .ok (.ldc 131, 2) := by decide +kernel
theorem dX8_sum_34 : decode cX8_sum 34 = .ok (.if_icmp .ge 199, 3) := by decide +kernel
theorem dX8_sum_37 : decode cX8_sum 37 = .ok (.iload 4, 2) := by decide +kernel
theorem dX8_sum_39 : decode cX8_sum 39 = .ok (.ifCond .le 194, 3) := by decide +kernel
theorem dX8_sum_233 : decode cX8_sum 233 = .ok (.lload_n 2, 1) := by decide +kernel
theorem dX8_sum_234 : decode cX8_sum 234 = .ok (.lreturn, 1) := by decide +kernel
theorem dX10_known_0 : decode cX10_known 0 = .ok (.iload_n 1, 1) := by decide +kernel
theorem dX10_known_1 : decode cX10_known 1 = .ok (.ifCond .ne 5, 3) := by decide +kernel
theorem dX10_known_4 : decode cX10_known 4 = .ok (.iconst 0, 1) := by decide +kernel
theorem dX10_known_5 : decode cX10_known 5 = .ok (.ireturn, 1) := by decide +kernel
theorem dX10_known_6 : decode cX10_known 6 = .ok (.aload_n 0, 1) := by decide +kernel
theorem dX10_known_7 : decode cX10_known 7 = .ok (.invokevirtual 84, 3) := by decide +kernel
theorem dX10_known_10 : decode cX10_known 10 = .ok (.istore_n 2, 1) := by decide +kernel
theorem dX10_known_11 : decode cX10_known 11 = .ok (.iload_n 2, 1) := by decide +kernel
theorem dX10_known_12 : decode cX10_known 12 = .ok (.invokestatic 64, 3) := by decide +kernel
theorem dX10_known_15 : decode cX10_known 15 = .ok (.ifCond .ne 10, 3) := by decide +kernel
theorem dX10_known_25 : decode cX10_known 25 = .ok (.aload_n 0, 1) := by decide +kernel
theorem dX10_known_26 : decode cX10_known 26 = .ok (.iload_n 2, 1) := by decide +kernel
theorem dX10_known_27 : decode cX10_known 27 = .ok (.iload_n 1, 1) := by decide +kernel
theorem dX10_known_28 : decode cX10_known 28 = .ok (.invokevirtual 101, 3) := by decide +kernel
theorem dX10_known_31 : decode cX10_known 31 = .ok (.aload_n 0, 1) := by decide +kernel
theorem dX10_known_32 : decode cX10_known 32 = .ok (.getfield 19, 3) := by decide +kernel
theorem dX10_known_35 : decode cX10_known 35 = .ok (.iload_n 2, 1) := by decide +kernel
theorem dX10_known_36 : decode cX10_known 36 = .ok (.lconst 0, 1) := by decide +kernel
theorem dX10_known_37 : decode cX10_known 37 = .ok (.lastore, 1) := by decide +kernel
theorem dX10_known_38 : decode cX10_known 38 = .ok (.iload_n 2, 1) := by decide +kernel
theorem dX10_known_39 : decode cX10_known 39 = .ok (.ireturn, 1) := by decide +kernel
theorem dX2_tidy_0 : decode cX2_tidy 0 = .ok (.aload_n 0, 1) := by decide +kernel
theorem dX2_tidy_1 : decode cX2_tidy 1 = .ok (.getfield 38, 3) := by decide +kernel
theorem dX2_tidy_4 : decode cX2_tidy 4 = .ok (.invokevirtual 321, 3) := by decide +kernel
theorem dX2_tidy_7 : decode cX2_tidy 7 = .ok (.ifCond .ne 4, 3) := by decide +kernel
theorem dX2_tidy_10 : decode cX2_tidy 10 = .ok (.return_, 1) := by decide +kernel
theorem dX9_failed_0 : decode cX9_failed 0 = .ok (.aload_n 0, 1) := by decide +kernel
theorem dX9_failed_1 : decode cX9_failed 1 = .ok (.getfield 150, 3) := by decide +kernel
theorem dX9_failed_4 : decode cX9_failed 4 = .ok (.istore_n 1, 1) := by decide +kernel
theorem dX9_failed_5 : decode cX9_failed 5 = .ok (.aload_n 0, 1) := by decide +kernel
theorem dX9_failed_6 : decode cX9_failed 6 = .ok (.iconst 0, 1) := by decide +kernel
theorem dX9_failed_7 : decode cX9_failed 7 = .ok (.putfield 150, 3) := by decide +kernel
theorem dX9_failed_10 : decode cX9_failed 10 = .ok (.aload_n 0, 1) := by decide +kernel
theorem dX9_failed_11 : decode cX9_failed 11 = .ok (.iconst 0, 1) := by decide +kernel
theorem dX9_failed_12 : decode cX9_failed 12 = .ok (.putfield 169, 3) := by decide +kernel
theorem dX9_failed_15 : decode cX9_failed 15 = .ok (.iload_n 1, 1) := by decide +kernel
theorem dX9_failed_16 : decode cX9_failed 16 = .ok (.ireturn, 1) := by decide +kernel
theorem dX9_leaf_0 : decode cX9_leaf 0 = .ok (.iload_n 1, 1) := by decide +kernel
theorem dX9_leaf_1 : decode cX9_leaf 1 = .ok (.ifCond .lt 16, 3) := by decide +kernel
theorem dX9_leaf_4 : decode cX9_leaf 4 = .ok (.iload_n 1, 1) := by decide +kernel
theorem dX9_leaf_5 : decode cX9_leaf 5 = .ok (.sipush 1024, 3) := by decide +kernel
theorem dX9_leaf_8 : decode cX9_leaf 8 = .ok (.if_icmp .ge 9, 3) := by decide +kernel
theorem dX9_leaf_11 : decode cX9_leaf 11 = .ok (.lload_n 2, 1) := by decide +kernel
theorem dX9_leaf_12 : decode cX9_leaf 12 = .ok (.lconst 1, 1) := by decide +kernel
theorem dX9_leaf_13 : decode cX9_leaf 13 = .ok (.lcmp, 1) := by decide +kernel
theorem dX9_leaf_14 : decode cX9_leaf 14 = .ok (.ifCond .ge 5, 3) := by decide +kernel
theorem dX9_leaf_17 : decode cX9_leaf 17 = .ok (.iconst 0, 1) := by decide +kernel
theorem dX9_leaf_18 : decode cX9_leaf 18 = .ok (.ireturn, 1) := by decide +kernel
theorem dX9_leaf_19 : decode cX9_leaf 19 = .ok (.lload_n 2, 1) := by decide +kernel
theorem dX9_leaf_20 : decode cX9_leaf 20 = .ok (.lconst 1, 1) := by decide +kernel
theorem dX9_leaf_21 : decode cX9_leaf 21 = .ok (.lcmp, 1) := by decide +kernel
theorem dX9_leaf_22 : decode cX9_leaf 22 = .ok (.ifCond .ne 7, 3) := by decide +kernel
theorem dX9_leaf_25 : decode cX9_leaf 25 = .ok (.iload_n 1, 1) := by decide +kernel
theorem dX9_leaf_26 : decode cX9_leaf 26 = .ok (.iconst 1, 1) := by decide +kernel
theorem dX9_leaf_27 : decode cX9_leaf 27 = .ok (.iadd, 1) := by decide +kernel
theorem dX9_leaf_28 : decode cX9_leaf 28 = .ok (.ireturn, 1) := by decide +kernel
theorem dX9_leaf_29 : decode cX9_leaf 29 = .ok (.aload_n 0, 1) := by decide +kernel
theorem dX9_leaf_30 : decode cX9_leaf 30 = .ok (.aload_n 0, 1) := by decide +kernel
theorem dX9_leaf_31 : decode cX9_leaf 31 = .ok (.getfield 20, 3) := by decide +kernel
theorem dX9_leaf_34 : decode cX9_leaf 34 = .ok (.iload_n 1, 1) := by decide +kernel
theorem dX9_leaf_35 : decode cX9_leaf 35 = .ok (.iconst 1, 1) := by decide +kernel
theorem dX9_leaf_36 : decode cX9_leaf 36 = .ok (.iadd, 1) := by decide +kernel
theorem dX9_leaf_37 : decode cX9_leaf 37 = .ok (.laload, 1) := by decide +kernel
theorem dX9_leaf_38 : decode cX9_leaf 38 = .ok (.iload_n 1, 1) := by decide +kernel
theorem dX9_leaf_39 : decode cX9_leaf 39 = .ok (.i2l, 1) := by decide +kernel
theorem dX9_leaf_40 : decode cX9_leaf 40 = .ok (.lconst 1, 1) := by decide +kernel
theorem dX9_leaf_41 : decode cX9_leaf 41 = .ok (.ladd, 1) := by decide +kernel
theorem dX9_leaf_42 : decode cX9_leaf 42 = .ok (.bipush 21, 2) := by decide +kernel
theorem dX9_leaf_44 : decode cX9_leaf 44 = .ok (.lshl, 1) := by decide +kernel
theorem dX9_leaf_45 : decode cX9_leaf 45 = .ok (.lor, 1) := by decide +kernel
theorem dX9_leaf_46 : decode cX9_leaf 46 = .ok (.lload_n 2, 1) := by decide +kernel
theorem dX9_leaf_47 : decode cX9_leaf 47 = .ok (.aload_n 0, 1) := by decide +kernel
theorem dX9_leaf_48 : decode cX9_leaf 48 = .ok (.iload_n 1, 1) := by decide +kernel
theorem dX9_leaf_49 : decode cX9_leaf 49 = .ok (.iconst 1, 1) := by decide +kernel
theorem dX9_leaf_50 : decode cX9_leaf 50 = .ok (.iadd, 1) := by decide +kernel
theorem dX9_leaf_51 : decode cX9_leaf 51 = .ok (.invokevirtual 73, 3) := by decide +kernel
theorem dX9_leaf_54 : decode cX9_leaf 54 = .ok (.lmul, 1) := by decide +kernel
theorem dX9_leaf_55 : decode cX9_leaf 55 = .ok (.lload_n 2, 1) := by decide +kernel
theorem dX9_leaf_56 : decode cX9_leaf 56 = .ok (.aload_n 0, 1) := by decide +kernel
theorem dX9_leaf_57 : decode cX9_leaf 57 = .ok (.iload_n 1, 1) := by decide +kernel
theorem dX9_leaf_58 : decode cX9_leaf 58 = .ok (.iconst 1, 1) := by decide +kernel
theorem dX9_leaf_59 : decode cX9_leaf 59 = .ok (.iadd, 1) := by decide +kernel
theorem dX9_leaf_60 : decode cX9_leaf 60 = .ok (.invokevirtual 77, 3) := by decide +kernel
theorem dX9_leaf_63 : decode cX9_leaf 63 = .ok (.lmul, 1) := by decide +kernel
theorem dX9_leaf_64 : decode cX9_leaf 64 = .ok (.invokevirtual 119, 3) := by decide +kernel
theorem dX9_leaf_67 : decode cX9_leaf 67 = .ok (.ireturn, 1) := by decide +kernel
theorem dX5_join_0 : decode cX5_join 0 = .ok (.iload_n 1, 1) := by decide +kernel
theorem dX5_join_1 : decode cX5_join 1 = .ok (.ifCond .ne 5, 3) := by decide +kernel
theorem dX5_join_4 : decode cX5_join 4 = .ok (.iload_n 2, 1) := by decide +kernel
theorem dX5_join_5 : decode cX5_join 5 = .ok (.ireturn, 1) := by decide +kernel
theorem dX5_join_6 : decode cX5_join 6 = .ok (.iload_n 2, 1) := by decide +kernel
theorem dX5_join_7 : decode cX5_join 7 = .ok (.ifCond .ne 5, 3) := by decide +kernel
theorem dX5_join_10 : decode cX5_join 10 = .ok (.iload_n 1, 1) := by decide +kernel
theorem dX5_join_11 : decode cX5_join 11 = .ok (.ireturn, 1) := by decide +kernel
theorem dX5_join_12 : decode cX5_join 12 = .ok (.aload_n 0, 1) := by decide +kernel
theorem dX5_join_13 : decode cX5_join 13 = .ok (.getfield 24, 3) := by decide +kernel
theorem dX5_join_16 : decode cX5_join 16 = .ok (.iload_n 1, 1) := by decide +kernel
theorem dX5_join_17 : decode cX5_join 17 = .ok (.invokevirtual 43, 3) := by decide +kernel
theorem dX5_join_20 : decode cX5_join 20 = .ok (.ifCond .eq 133, 3) := by decide +kernel
theorem dX5_join_23 : decode cX5_join 23 = .ok (.aload_n 0, 1) := by decide +kernel
theorem dX5_join_24 : decode cX5_join 24 = .ok (.getfield 24, 3) := by decide +kernel
theorem dX5_join_27 : decode cX5_join 27 = .ok (.iload_n 2, 1) := by decide +kernel
theorem dX5_join_28 : decode cX5_join 28 = .ok (.invokevirtual 49, 3) := by decide +kernel
theorem dX5_join_31 : decode cX5_join 31 = .ok (.ifCond .eq 122, 3) := by decide +kernel
theorem dX5_join_153 : decode cX5_join 153 = .ok (.aload_n 0, 1) := by decide +kernel
theorem dX5_join_154 : decode cX5_join 154 = .ok (.iload_n 1, 1) := by decide +kernel
theorem dX5_join_155 : decode cX5_join 155 = .ok (.iload_n 2, 1) := by decide +kernel
theorem dX5_join_156 : decode cX5_join 156 = .ok (.invokevirtual 63, 3) := by decide +kernel
theorem dX5_join_159 : decode cX5_join 159 = .ok (.aload_n 0, 1) := by decide +kernel
theorem dX5_join_160 : decode cX5_join 160 = .ok (.aload_n 0, 1) := by decide +kernel
theorem dX5_join_161 : decode cX5_join 161 = .ok (.getfield 33, 3) := by decide +kernel
theorem dX5_join_164 : decode cX5_join 164 = .ok (.aload_n 0, 1) := by decide +kernel
theorem dX5_join_165 : decode cX5_join 165 = .ok (.getfield 37, 3) := by decide +kernel
theorem dX5_join_168 : decode cX5_join 168 = .ok (.invokevirtual 56, 3) := by decide +kernel
theorem dX5_join_171 : decode cX5_join 171 = .ok (.ireturn, 1) := by decide +kernel
theorem dX10_isWork_0 : decode cX10_isWork 0 = .ok (.iload_n 0, 1) := by decide +kernel
theorem dX10_isWork_1 : decode cX10_isWork 1 = .ok (.ifCond .le 13, 3) := by decide +kernel
theorem dX10_isWork_4 : decode cX10_isWork 4 = .ok (.iload_n 0, 1) := by decide +kernel
theorem dX10_isWork_5 : decode cX10_isWork 5 = .ok (.ldc 15, 2) := by decide +kernel
theorem dX10_isWork_7 : decode cX10_isWork 7 = .ok (.if_icmp .ge 7, 3) := by decide +kernel
theorem dX10_isWork_10 : decode cX10_isWork 10 = .ok (.iconst 1, 1) := by decide +kernel
theorem dX10_isWork_11 : decode cX10_isWork 11 = .ok (.goto 4, 3) := by decide +kernel
theorem dX10_isWork_14 : decode cX10_isWork 14 = .ok (.iconst 0, 1) := by decide +kernel
theorem dX10_isWork_15 : decode cX10_isWork 15 = .ok (.ireturn, 1) := by decide +kernel
theorem dX0_isTooLongBy_0 : decode cX0_isTooLongBy 0 = .ok (.aload_n 0, 1) := by decide +kernel
theorem dX0_isTooLongBy_1 : decode cX0_isTooLongBy 1 = .ok (.getfield 15, 3) := by decide +kernel
theorem dX0_isTooLongBy_4 : decode cX0_isTooLongBy 4 = .ok (.iload_n 1, 1) := by decide +kernel
theorem dX0_isTooLongBy_5 : decode cX0_isTooLongBy 5 = .ok (.invokevirtual 30, 3) := by decide +kernel
theorem dX0_isTooLongBy_8 : decode cX0_isTooLongBy 8 = .ok (.ldc2_w 41, 3) := by decide +kernel
theorem dX0_isTooLongBy_11 : decode cX0_isTooLongBy 11 = .ok (.lcmp, 1) := by decide +kernel
theorem dX0_isTooLongBy_12 : decode cX0_isTooLongBy 12 = .ok (.ifCond .le 23, 3) := by decide +kernel
theorem dX0_isTooLongBy_35 : decode cX0_isTooLongBy 35 = .ok (.iconst 0, 1) := by decide +kernel
theorem dX0_isTooLongBy_36 : decode cX0_isTooLongBy 36 = .ok (.ireturn, 1) := by decide +kernel
theorem dJ7_fill_d0a16_0 : decode cJ7_fill_d0a16 0 = .ok (.iconst 0, 1) := by decide +kernel
theorem dJ7_fill_d0a16_1 : decode cJ7_fill_d0a16 1 = .ok (.istore_n 3, 1) := by decide +kernel
theorem dJ7_fill_d0a16_2 : decode cJ7_fill_d0a16 2 = .ok (.aload_n 0, 1) := by decide +kernel
theorem dJ7_fill_d0a16_3 : decode cJ7_fill_d0a16 3 = .ok (.arraylength, 1) := by decide +kernel
theorem dJ7_fill_d0a16_4 : decode cJ7_fill_d0a16 4 = .ok (.istore 4, 2) := by decide +kernel
theorem dJ7_fill_d0a16_6 : decode cJ7_fill_d0a16 6 = .ok (.iload_n 3, 1) := by decide +kernel
theorem dJ7_fill_d0a16_7 : decode cJ7_fill_d0a16 7 = .ok (.iload 4, 2) := by decide +kernel
theorem dJ7_fill_d0a16_9 : decode cJ7_fill_d0a16 9 = .ok (.if_icmp .ge 13, 3) := by decide +kernel
theorem dJ7_fill_d0a16_12 : decode cJ7_fill_d0a16 12 = .ok (.aload_n 0, 1) := by decide +kernel
theorem dJ7_fill_d0a16_13 : decode cJ7_fill_d0a16 13 = .ok (.iload_n 3, 1) := by decide +kernel
theorem dJ7_fill_d0a16_14 : decode cJ7_fill_d0a16 14 = .ok (.lload_n 1, 1) := by decide +kernel
theorem dJ7_fill_d0a16_15 : decode cJ7_fill_d0a16 15 = .ok (.lastore, 1) := by decide +kernel
theorem dJ7_fill_d0a16_16 : decode cJ7_fill_d0a16 16 = .ok (.iinc 3 1, 3) := by decide +kernel
theorem dJ7_fill_d0a16_19 : decode cJ7_fill_d0a16 19 = .ok (.goto (-13), 3) := by decide +kernel
theorem dJ7_fill_d0a16_22 : decode cJ7_fill_d0a16 22 = .ok (.return_, 1) := by decide +kernel
theorem dX12_byteAt_0 : decode cX12_byteAt 0 = .ok (.iload_n 1, 1) := by decide +kernel
theorem dX12_byteAt_1 : decode cX12_byteAt 1 = .ok (.aload_n 0, 1) := by decide +kernel
theorem dX12_byteAt_2 : decode cX12_byteAt 2 = .ok (.getfield 186, 3) := by decide +kernel
theorem dX12_byteAt_5 : decode cX12_byteAt 5 = .ok (.if_icmp .ge 12, 3) := by decide +kernel
theorem dX12_byteAt_17 : decode cX12_byteAt 17 = .ok (.iconst (-1), 1) := by decide +kernel
theorem dX12_byteAt_18 : decode cX12_byteAt 18 = .ok (.ireturn, 1) := by decide +kernel
theorem dX12_grown_0 : decode cX12_grown 0 = .ok (.iload_n 1, 1) := by decide +kernel
theorem dX12_grown_1 : decode cX12_grown 1 = .ok (.aload_n 0, 1) := by decide +kernel
theorem dX12_grown_2 : decode cX12_grown 2 = .ok (.arraylength, 1) := by decide +kernel
theorem dX12_grown_3 : decode cX12_grown 3 = .ok (.if_icmp .gt 5, 3) := by decide +kernel
theorem dX12_grown_6 : decode cX12_grown 6 = .ok (.aload_n 0, 1) := by decide +kernel
theorem dX12_grown_7 : decode cX12_grown 7 = .ok (.areturn, 1) := by decide +kernel
theorem dX12_grown_8 : decode cX12_grown 8 = .ok (.iconst 2, 1) := by decide +kernel
theorem dX12_grown_9 : decode cX12_grown 9 = .ok (.iload_n 1, 1) := by decide +kernel
theorem dX12_grown_10 : decode cX12_grown 10 = .ok (.imul, 1) := by decide +kernel
theorem dX12_grown_11 : decode cX12_grown 11 = .ok (.newarray .int, 2) := by decide +kernel
theorem dX12_grown_13 : decode cX12_grown 13 = .ok (.astore_n 2, 1) := by decide +kernel
theorem dX12_grown_14 : decode cX12_grown 14 = .ok (.iconst 0, 1) := by decide +kernel
theorem dX12_grown_15 : decode cX12_grown 15 = .ok (.istore_n 3, 1) := by decide +kernel
theorem dX12_grown_16 : decode cX12_grown 16 = .ok (.iload_n 3, 1) := by decide +kernel
theorem dX12_grown_17 : decode cX12_grown 17 = .ok (.aload_n 0, 1) := by decide +kernel
theorem dX12_grown_18 : decode cX12_grown 18 = .ok (.arraylength, 1) := by decide +kernel
theorem dX12_grown_19 : decode cX12_grown 19 = .ok (.if_icmp .ge 15, 3) := by decide +kernel
theorem dX12_grown_22 : decode cX12_grown 22 = .ok (.aload_n 2, 1) := by decide +kernel
theorem dX12_grown_23 : decode cX12_grown 23 = .ok (.iload_n 3, 1) := by decide +kernel
theorem dX12_grown_24 : decode cX12_grown 24 = .ok (.aload_n 0, 1) := by decide +kernel
theorem dX12_grown_25 : decode cX12_grown 25 = .ok (.iload_n 3, 1) := by decide +kernel
theorem dX12_grown_26 : decode cX12_grown 26 = .ok (.iaload, 1) := by decide +kernel
theorem dX12_grown_27 : decode cX12_grown 27 = .ok (.iastore, 1) := by decide +kernel
theorem dX12_grown_28 : decode cX12_grown 28 = .ok (.iinc 3 1, 3) := by decide +kernel
theorem dX12_grown_31 : decode cX12_grown 31 = .ok (.goto (-15), 3) := by decide +kernel
theorem dX12_grown_34 : decode cX12_grown 34 = .ok (.aload_n 2, 1) := by decide +kernel
theorem dX12_grown_35 : decode cX12_grown 35 = .ok (.areturn, 1) := by decide +kernel
theorem dX12_adds_0 : decode cX12_adds 0 = .ok (.aload_n 0, 1) := by decide +kernel
theorem dX12_adds_1 : decode cX12_adds 1 = .ok (.getfield 40, 3) := by decide +kernel
theorem dX12_adds_4 : decode cX12_adds 4 = .ok (.iload_n 1, 1) := by decide +kernel
theorem dX12_adds_5 : decode cX12_adds 5 = .ok (.aaload, 1) := by decide +kernel
theorem dX12_adds_6 : decode cX12_adds 6 = .ok (.aload_n 0, 1) := by decide +kernel
theorem dX12_adds_7 : decode cX12_adds 7 = .ok (.getfield 43, 3) := by decide +kernel
theorem dX12_adds_10 : decode cX12_adds 10 = .ok (.iload_n 1, 1) := by decide +kernel
theorem dX12_adds_11 : decode cX12_adds 11 = .ok (.iaload, 1) := by decide +kernel
theorem dX12_adds_12 : decode cX12_adds 12 = .ok (.iload_n 2, 1) := by decide +kernel
theorem dX12_adds_13 : decode cX12_adds 13 = .ok (.iastore, 1) := by decide +kernel
theorem dX12_adds_14 : decode cX12_adds 14 = .ok (.aload_n 0, 1) := by decide +kernel
theorem dX12_adds_15 : decode cX12_adds 15 = .ok (.getfield 43, 3) := by decide +kernel
theorem dX12_adds_18 : decode cX12_adds 18 = .ok (.iload_n 1, 1) := by decide +kernel
theorem dX12_adds_19 : decode cX12_adds 19 = .ok (.dup2, 1) := by decide +kernel
theorem dX12_adds_20 : decode cX12_adds 20 = .ok (.iaload, 1) := by decide +kernel
theorem dX12_adds_21 : decode cX12_adds 21 = .ok (.iconst 1, 1) := by decide +kernel
theorem dX12_adds_22 : decode cX12_adds 22 = .ok (.iadd, 1) := by decide +kernel
theorem dX12_adds_23 : decode cX12_adds 23 = .ok (.iastore, 1) := by decide +kernel
theorem dX12_adds_24 : decode cX12_adds 24 = .ok (.return_, 1) := by decide +kernel
theorem dX12_takesRow_0 : decode cX12_takesRow 0 = .ok (.aload_n 0, 1) := by decide +kernel
theorem dX12_takesRow_1 : decode cX12_takesRow 1 = .ok (.getfield 43, 3) := by decide +kernel
theorem dX12_takesRow_4 : decode cX12_takesRow 4 = .ok (.iload_n 1, 1) := by decide +kernel
theorem dX12_takesRow_5 : decode cX12_takesRow 5 = .ok (.aload_n 0, 1) := by decide +kernel
theorem dX12_takesRow_6 : decode cX12_takesRow 6 = .ok (.getfield 14, 3) := by decide +kernel
theorem dX12_takesRow_9 : decode cX12_takesRow 9 = .ok (.iload_n 2, 1) := by decide +kernel
theorem dX12_takesRow_10 : decode cX12_takesRow 10 = .ok (.iaload, 1) := by decide +kernel
theorem dX12_takesRow_11 : decode cX12_takesRow 11 = .ok (.iastore, 1) := by decide +kernel
theorem dX12_takesRow_12 : decode cX12_takesRow 12 = .ok (.iconst 0, 1) := by decide +kernel
theorem dX12_takesRow_13 : decode cX12_takesRow 13 = .ok (.istore_n 3, 1) := by decide +kernel
theorem dX12_takesRow_14 : decode cX12_takesRow 14 = .ok (.iload_n 3, 1) := by decide +kernel
theorem dX12_takesRow_15 : decode cX12_takesRow 15 = .ok (.aload_n 0, 1) := by decide +kernel
theorem dX12_takesRow_16 : decode cX12_takesRow 16 = .ok (.getfield 14, 3) := by decide +kernel
theorem dX12_takesRow_19 : decode cX12_takesRow 19 = .ok (.iload_n 2, 1) := by decide +kernel
theorem dX12_takesRow_20 : decode cX12_takesRow 20 = .ok (.iaload, 1) := by decide +kernel
theorem dX12_takesRow_21 : decode cX12_takesRow 21 = .ok (.if_icmp .ge 25, 3) := by decide +kernel
theorem dX12_takesRow_24 : decode cX12_takesRow 24 = .ok (.aload_n 0, 1) := by decide +kernel
theorem dX12_takesRow_25 : decode cX12_takesRow 25 = .ok (.getfield 40, 3) := by decide +kernel
theorem dX12_takesRow_28 : decode cX12_takesRow 28 = .ok (.iload_n 1, 1) := by decide +kernel
theorem dX12_takesRow_29 : decode cX12_takesRow 29 = .ok (.aaload, 1) := by decide +kernel
theorem dX12_takesRow_30 : decode cX12_takesRow 30 = .ok (.iload_n 3, 1) := by decide +kernel
theorem dX12_takesRow_31 : decode cX12_takesRow 31 = .ok (.aload_n 0, 1) := by decide +kernel
theorem dX12_takesRow_32 : decode cX12_takesRow 32 = .ok (.getfield 11, 3) := by decide +kernel
theorem dX12_takesRow_35 : decode cX12_takesRow 35 = .ok (.iload_n 2, 1) := by decide +kernel
theorem dX12_takesRow_36 : decode cX12_takesRow 36 = .ok (.aaload, 1) := by decide +kernel
theorem dX12_takesRow_37 : decode cX12_takesRow 37 = .ok (.iload_n 3, 1) := by decide +kernel
theorem dX12_takesRow_38 : decode cX12_takesRow 38 = .ok (.iaload, 1) := by decide +kernel
theorem dX12_takesRow_39 : decode cX12_takesRow 39 = .ok (.iastore, 1) := by decide +kernel
theorem dX12_takesRow_40 : decode cX12_takesRow 40 = .ok (.iinc 3 1, 3) := by decide +kernel
theorem dX12_takesRow_43 : decode cX12_takesRow 43 = .ok (.goto (-29), 3) := by decide +kernel
theorem dX12_takesRow_46 : decode cX12_takesRow 46 = .ok (.return_, 1) := by decide +kernel
theorem dX12_isFull_0 : decode cX12_isFull 0 = .ok (.aload_n 0, 1) := by decide +kernel
theorem dX12_isFull_1 : decode cX12_isFull 1 = .ok (.iload_n 2, 1) := by decide +kernel
theorem dX12_isFull_2 : decode cX12_isFull 2 = .ok (.invokevirtual 161, 3) := by decide +kernel
theorem dX12_isFull_5 : decode cX12_isFull 5 = .ok (.bipush 60, 2) := by decide +kernel
theorem dX12_isFull_7 : decode cX12_isFull 7 = .ok (.if_icmp .le 21, 3) := by decide +kernel
theorem dX12_isFull_28 : decode cX12_isFull 28 = .ok (.iconst 0, 1) := by decide +kernel
theorem dX12_isFull_29 : decode cX12_isFull 29 = .ok (.ireturn, 1) := by decide +kernel
theorem dX12_turnedRow_0 : decode cX12_turnedRow 0 = .ok (.iconst 0, 1) := by decide +kernel
theorem dX12_turnedRow_1 : decode cX12_turnedRow 1 = .ok (.istore 4, 2) := by decide +kernel
theorem dX12_turnedRow_3 : decode cX12_turnedRow 3 = .ok (.aload_n 0, 1) := by decide +kernel
theorem dX12_turnedRow_4 : decode cX12_turnedRow 4 = .ok (.getfield 43, 3) := by decide +kernel
theorem dX12_turnedRow_7 : decode cX12_turnedRow 7 = .ok (.iload_n 3, 1) := by decide +kernel
theorem dX12_turnedRow_8 : decode cX12_turnedRow 8 = .ok (.iconst 0, 1) := by decide +kernel
theorem dX12_turnedRow_9 : decode cX12_turnedRow 9 = .ok (.iastore, 1) := by decide +kernel
theorem dX12_turnedRow_10 : decode cX12_turnedRow 10 = .ok (.iconst 0, 1) := by decide +kernel
theorem dX12_turnedRow_11 : decode cX12_turnedRow 11 = .ok (.istore 5, 2) := by decide +kernel
theorem dX12_turnedRow_13 : decode cX12_turnedRow 13 = .ok (.iload 5, 2) := by decide +kernel
theorem dX12_turnedRow_15 : decode cX12_turnedRow 15 = .ok (.aload_n 0, 1) := by decide +kernel
theorem dX12_turnedRow_16 : decode cX12_turnedRow 16 = .ok (.getfield 43, 3) := by decide +kernel
theorem dX12_turnedRow_19 : decode cX12_turnedRow 19 = .ok (.iload_n 1, 1) := by decide +kernel
theorem dX12_turnedRow_20 : decode cX12_turnedRow 20 = .ok (.iaload, 1) := by decide +kernel
theorem dX12_turnedRow_21 : decode cX12_turnedRow 21 = .ok (.if_icmp .ge 147, 3) := by decide +kernel
theorem dX12_turnedRow_24 : decode cX12_turnedRow 24 = .ok (.aload_n 0, 1) := by decide +kernel
theorem dX12_turnedRow_25 : decode cX12_turnedRow 25 = .ok (.getfield 40, 3) := by decide +kernel
theorem dX12_turnedRow_28 : decode cX12_turnedRow 28 = .ok (.iload_n 1, 1) := by decide +kernel
theorem dX12_turnedRow_29 : decode cX12_turnedRow 29 = .ok (.aaload, 1) := by decide +kernel
theorem dX12_turnedRow_30 : decode cX12_turnedRow 30 = .ok (.iload 5, 2) := by decide +kernel
theorem dX12_turnedRow_32 : decode cX12_turnedRow 32 = .ok (.iaload, 1) := by decide +kernel
theorem dX12_turnedRow_33 : decode cX12_turnedRow 33 = .ok (.istore 6, 2) := by decide +kernel
theorem dX12_turnedRow_35 : decode cX12_turnedRow 35 = .ok (.iload 6, 2) := by decide +kernel
theorem dX12_turnedRow_37 : decode cX12_turnedRow 37 = .ok (.invokestatic 104, 3) := by decide +kernel
theorem dX12_turnedRow_40 : decode cX12_turnedRow 40 = .ok (.ldc 110, 2) := by decide +kernel
theorem dX12_turnedRow_42 : decode cX12_turnedRow 42 = .ok (.if_icmp .ne 13, 3) := by decide +kernel
theorem dX12_turnedRow_45 : decode cX12_turnedRow 45 = .ok (.aload_n 0, 1) := by decide +kernel
theorem dX12_turnedRow_46 : decode cX12_turnedRow 46 = .ok (.iload_n 3, 1) := by decide +kernel
theorem dX12_turnedRow_47 : decode cX12_turnedRow 47 = .ok (.ldc 109, 2) := by decide +kernel
theorem dX12_turnedRow_49 : decode cX12_turnedRow 49 = .ok (.invokevirtual 115, 3) := by decide +kernel
theorem dX12_turnedRow_52 : decode cX12_turnedRow 52 = .ok (.goto 110, 3) := by decide +kernel
theorem dX12_turnedRow_55 : decode cX12_turnedRow 55 = .ok (.aload_n 0, 1) := by decide +kernel
theorem dX12_turnedRow_56 : decode cX12_turnedRow 56 = .ok (.getfield 22, 3) := by decide +kernel
theorem dX12_turnedRow_59 : decode cX12_turnedRow 59 = .ok (.iload_n 2, 1) := by decide +kernel
theorem dX12_turnedRow_60 : decode cX12_turnedRow 60 = .ok (.aaload, 1) := by decide +kernel
theorem dX12_turnedRow_61 : decode cX12_turnedRow 61 = .ok (.iload 4, 2) := by decide +kernel
theorem dX12_turnedRow_63 : decode cX12_turnedRow 63 = .ok (.iaload, 1) := by decide +kernel
theorem dX12_turnedRow_64 : decode cX12_turnedRow 64 = .ok (.istore 7, 2) := by decide +kernel
theorem dX12_turnedRow_66 : decode cX12_turnedRow 66 = .ok (.iinc 4 1, 3) := by decide +kernel
theorem dX12_turnedRow_69 : decode cX12_turnedRow 69 = .ok (.iload 6, 2) := by decide +kernel
theorem dX12_turnedRow_71 : decode cX12_turnedRow 71 = .ok (.invokestatic 104, 3) := by decide +kernel
theorem dX12_turnedRow_74 : decode cX12_turnedRow 74 = .ok (.ldc 126, 2) := by decide +kernel
theorem dX12_turnedRow_76 : decode cX12_turnedRow 76 = .ok (.if_icmp .ne 61, 3) := by decide +kernel
theorem dX12_turnedRow_79 : decode cX12_turnedRow 79 = .ok (.iload 7, 2) := by decide +kernel
theorem dX12_turnedRow_81 : decode cX12_turnedRow 81 = .ok (.bipush 8, 2) := by decide +kernel
theorem dX12_turnedRow_83 : decode cX12_turnedRow 83 = .ok (.ishr, 1) := by decide +kernel
theorem dX12_turnedRow_84 : decode cX12_turnedRow 84 = .ok (.bipush 15, 2) := by decide +kernel
theorem dX12_turnedRow_86 : decode cX12_turnedRow 86 = .ok (.iand, 1) := by decide +kernel
theorem dX12_turnedRow_87 : decode cX12_turnedRow 87 = .ok (.istore 8, 2) := by decide +kernel
theorem dX12_turnedRow_89 : decode cX12_turnedRow 89 = .ok (.iload 6, 2) := by decide +kernel
theorem dX12_turnedRow_91 : decode cX12_turnedRow 91 = .ok (.bipush 15, 2) := by decide +kernel
theorem dX12_turnedRow_93 : decode cX12_turnedRow 93 = .ok (.iand, 1) := by decide +kernel
theorem dX12_turnedRow_94 : decode cX12_turnedRow 94 = .ok (.iload 8, 2) := by decide +kernel
theorem dX12_turnedRow_96 : decode cX12_turnedRow 96 = .ok (.iand, 1) := by decide +kernel
theorem dX12_turnedRow_97 : decode cX12_turnedRow 97 = .ok (.iconst 4, 1) := by decide +kernel
theorem dX12_turnedRow_98 : decode cX12_turnedRow 98 = .ok (.ishl, 1) := by decide +kernel
theorem dX12_turnedRow_99 : decode cX12_turnedRow 99 = .ok (.iload 6, 2) := by decide +kernel
theorem dX12_turnedRow_101 : decode cX12_turnedRow 101 = .ok (.iconst 4, 1) := by decide +kernel
theorem dX12_turnedRow_102 : decode cX12_turnedRow 102 = .ok (.ishr, 1) := by decide +kernel
theorem dX12_turnedRow_103 : decode cX12_turnedRow 103 = .ok (.bipush 15, 2) := by decide +kernel
theorem dX12_turnedRow_105 : decode cX12_turnedRow 105 = .ok (.iand, 1) := by decide +kernel
theorem dX12_turnedRow_106 : decode cX12_turnedRow 106 = .ok (.iload 8, 2) := by decide +kernel
theorem dX12_turnedRow_108 : decode cX12_turnedRow 108 = .ok (.iconst (-1), 1) := by decide +kernel
theorem dX12_turnedRow_109 : decode cX12_turnedRow 109 = .ok (.ixor, 1) := by decide +kernel
theorem dX12_turnedRow_110 : decode cX12_turnedRow 110 = .ok (.iand, 1) := by decide +kernel
theorem dX12_turnedRow_111 : decode cX12_turnedRow 111 = .ok (.ior, 1) := by decide +kernel
theorem dX12_turnedRow_112 : decode cX12_turnedRow 112 = .ok (.istore 9, 2) := by decide +kernel
theorem dX12_turnedRow_114 : decode cX12_turnedRow 114 = .ok (.aload_n 0, 1) := by decide +kernel
theorem dX12_turnedRow_115 : decode cX12_turnedRow 115 = .ok (.iload_n 3, 1) := by decide +kernel
theorem dX12_turnedRow_116 : decode cX12_turnedRow 116 = .ok (.iload 9, 2) := by decide +kernel
theorem dX12_turnedRow_118 : decode cX12_turnedRow 118 = .ok (.ifCond .ne 8, 3) := by decide +kernel
theorem dX12_turnedRow_126 : decode cX12_turnedRow 126 = .ok (.ldc 126, 2) := by decide +kernel
theorem dX12_turnedRow_128 : decode cX12_turnedRow 128 = .ok (.iload 9, 2) := by decide +kernel
theorem dX12_turnedRow_130 : decode cX12_turnedRow 130 = .ok (.ior, 1) := by decide +kernel
theorem dX12_turnedRow_131 : decode cX12_turnedRow 131 = .ok (.invokevirtual 115, 3) := by decide +kernel
theorem dX12_turnedRow_134 : decode cX12_turnedRow 134 = .ok (.goto 28, 3) := by decide +kernel
theorem dX12_turnedRow_137 : decode cX12_turnedRow 137 = .ok (.aload_n 0, 1) := by decide +kernel
theorem dX12_turnedRow_138 : decode cX12_turnedRow 138 = .ok (.iload_n 3, 1) := by decide +kernel
theorem dX12_turnedRow_139 : decode cX12_turnedRow 139 = .ok (.iload 6, 2) := by decide +kernel
theorem dX12_turnedRow_141 : decode cX12_turnedRow 141 = .ok (.invokestatic 104, 3) := by decide +kernel
theorem dX12_turnedRow_144 : decode cX12_turnedRow 144 = .ok (.ldc 108, 2) := by decide +kernel
theorem dX12_turnedRow_146 : decode cX12_turnedRow 146 = .ok (.if_icmp .ne 8, 3) := by decide +kernel
theorem dX12_turnedRow_149 : decode cX12_turnedRow 149 = .ok (.ldc 108, 2) := by decide +kernel
theorem dX12_turnedRow_151 : decode cX12_turnedRow 151 = .ok (.goto 8, 3) := by decide +kernel
theorem dX12_turnedRow_154 : decode cX12_turnedRow 154 = .ok (.ldc 110, 2) := by decide +kernel
theorem dX12_turnedRow_156 : decode cX12_turnedRow 156 = .ok (.iload 7, 2) := by decide +kernel
theorem dX12_turnedRow_158 : decode cX12_turnedRow 158 = .ok (.ior, 1) := by decide +kernel
theorem dX12_turnedRow_159 : decode cX12_turnedRow 159 = .ok (.invokevirtual 115, 3) := by decide +kernel
theorem dX12_turnedRow_162 : decode cX12_turnedRow 162 = .ok (.iinc 5 1, 3) := by decide +kernel
theorem dX12_turnedRow_165 : decode cX12_turnedRow 165 = .ok (.goto (-152), 3) := by decide +kernel
theorem dX12_turnedRow_168 : decode cX12_turnedRow 168 = .ok (.aload_n 0, 1) := by decide +kernel
theorem dX12_turnedRow_169 : decode cX12_turnedRow 169 = .ok (.iload_n 3, 1) := by decide +kernel
theorem dX12_turnedRow_170 : decode cX12_turnedRow 170 = .ok (.invokevirtual 122, 3) := by decide +kernel
theorem dX12_turnedRow_173 : decode cX12_turnedRow 173 = .ok (.return_, 1) := by decide +kernel
theorem dX12_makes_0 : decode cX12_makes 0 = .ok (.iconst 0, 1) := by decide +kernel
theorem dX12_makes_1 : decode cX12_makes 1 = .ok (.istore_n 3, 1) := by decide +kernel
theorem dX12_makes_2 : decode cX12_makes 2 = .ok (.iconst 0, 1) := by decide +kernel
theorem dX12_makes_3 : decode cX12_makes 3 = .ok (.istore 4, 2) := by decide +kernel
theorem dX12_makes_5 : decode cX12_makes 5 = .ok (.iconst 0, 1) := by decide +kernel
theorem dX12_makes_6 : decode cX12_makes 6 = .ok (.istore 5, 2) := by decide +kernel
theorem dX12_makes_8 : decode cX12_makes 8 = .ok (.iload 5, 2) := by decide +kernel
theorem dX12_makes_10 : decode cX12_makes 10 = .ok (.aload_n 0, 1) := by decide +kernel
theorem dX12_makes_11 : decode cX12_makes 11 = .ok (.getfield 43, 3) := by decide +kernel
theorem dX12_makes_14 : decode cX12_makes 14 = .ok (.iload_n 2, 1) := by decide +kernel
theorem dX12_makes_15 : decode cX12_makes 15 = .ok (.iaload, 1) := by decide +kernel
theorem dX12_makes_16 : decode cX12_makes 16 = .ok (.if_icmp .ge 117, 3) := by decide +kernel
theorem dX12_makes_19 : decode cX12_makes 19 = .ok (.aload_n 0, 1) := by decide +kernel
theorem dX12_makes_20 : decode cX12_makes 20 = .ok (.getfield 40, 3) := by decide +kernel
theorem dX12_makes_23 : decode cX12_makes 23 = .ok (.iload_n 2, 1) := by decide +kernel
theorem dX12_makes_24 : decode cX12_makes 24 = .ok (.aaload, 1) := by decide +kernel
theorem dX12_makes_25 : decode cX12_makes 25 = .ok (.iload 5, 2) := by decide +kernel
theorem dX12_makes_27 : decode cX12_makes 27 = .ok (.iaload, 1) := by decide +kernel
theorem dX12_makes_28 : decode cX12_makes 28 = .ok (.istore 6, 2) := by decide +kernel
theorem dX12_makes_30 : decode cX12_makes 30 = .ok (.iload 6, 2) := by decide +kernel
theorem dX12_makes_32 : decode cX12_makes 32 = .ok (.invokestatic 104, 3) := by decide +kernel
theorem dX12_makes_35 : decode cX12_makes 35 = .ok (.ldc 110, 2) := by decide +kernel
theorem dX12_makes_37 : decode cX12_makes 37 = .ok (.if_icmp .ne 22, 3) := by decide +kernel
theorem dX12_makes_40 : decode cX12_makes 40 = .ok (.aload_n 0, 1) := by decide +kernel
theorem dX12_makes_41 : decode cX12_makes 41 = .ok (.getfield 46, 3) := by decide +kernel
theorem dX12_makes_44 : decode cX12_makes 44 = .ok (.iload 4, 2) := by decide +kernel
theorem dX12_makes_46 : decode cX12_makes 46 = .ok (.iload 6, 2) := by decide +kernel
theorem dX12_makes_48 : decode cX12_makes 48 = .ok (.sipush 4095, 3) := by decide +kernel
theorem dX12_makes_51 : decode cX12_makes 51 = .ok (.iand, 1) := by decide +kernel
theorem dX12_makes_52 : decode cX12_makes 52 = .ok (.iastore, 1) := by decide +kernel
theorem dX12_makes_53 : decode cX12_makes 53 = .ok (.iinc 4 1, 3) := by decide +kernel
theorem dX12_makes_56 : decode cX12_makes 56 = .ok (.goto 71, 3) := by decide +kernel
theorem dX12_makes_59 : decode cX12_makes 59 = .ok (.aload_n 0, 1) := by decide +kernel
theorem dX12_makes_60 : decode cX12_makes 60 = .ok (.getfield 22, 3) := by decide +kernel
theorem dX12_makes_63 : decode cX12_makes 63 = .ok (.iload_n 1, 1) := by decide +kernel
theorem dX12_makes_64 : decode cX12_makes 64 = .ok (.aaload, 1) := by decide +kernel
theorem dX12_makes_65 : decode cX12_makes 65 = .ok (.iload_n 3, 1) := by decide +kernel
theorem dX12_makes_66 : decode cX12_makes 66 = .ok (.iaload, 1) := by decide +kernel
theorem dX12_makes_67 : decode cX12_makes 67 = .ok (.istore 7, 2) := by decide +kernel
theorem dX12_makes_69 : decode cX12_makes 69 = .ok (.iinc 3 1, 3) := by decide +kernel
theorem dX12_makes_72 : decode cX12_makes 72 = .ok (.iload 6, 2) := by decide +kernel
theorem dX12_makes_74 : decode cX12_makes 74 = .ok (.invokestatic 104, 3) := by decide +kernel
theorem dX12_makes_77 : decode cX12_makes 77 = .ok (.ldc 109, 2) := by decide +kernel
theorem dX12_makes_79 : decode cX12_makes 79 = .ok (.if_icmp .eq 48, 3) := by decide +kernel
theorem dX12_makes_82 : decode cX12_makes 82 = .ok (.aload_n 0, 1) := by decide +kernel
theorem dX12_makes_83 : decode cX12_makes 83 = .ok (.getfield 46, 3) := by decide +kernel
theorem dX12_makes_86 : decode cX12_makes 86 = .ok (.iload 4, 2) := by decide +kernel
theorem dX12_makes_88 : decode cX12_makes 88 = .ok (.iload 6, 2) := by decide +kernel
theorem dX12_makes_90 : decode cX12_makes 90 = .ok (.invokestatic 104, 3) := by decide +kernel
theorem dX12_makes_93 : decode cX12_makes 93 = .ok (.ldc 126, 2) := by decide +kernel
theorem dX12_makes_95 : decode cX12_makes 95 = .ok (.if_icmp .ne 26, 3) := by decide +kernel
theorem dX12_makes_98 : decode cX12_makes 98 = .ok (.iload 7, 2) := by decide +kernel
theorem dX12_makes_100 : decode cX12_makes 100 = .ok (.bipush 8, 2) := by decide +kernel
theorem dX12_makes_102 : decode cX12_makes 102 = .ok (.ishr, 1) := by decide +kernel
theorem dX12_makes_103 : decode cX12_makes 103 = .ok (.iload 6, 2) := by decide +kernel
theorem dX12_makes_105 : decode cX12_makes 105 = .ok (.invokestatic 127, 3) := by decide +kernel
theorem dX12_makes_108 : decode cX12_makes 108 = .ok (.bipush 8, 2) := by decide +kernel
theorem dX12_makes_110 : decode cX12_makes 110 = .ok (.ishl, 1) := by decide +kernel
theorem dX12_makes_111 : decode cX12_makes 111 = .ok (.iload 7, 2) := by decide +kernel
theorem dX12_makes_113 : decode cX12_makes 113 = .ok (.sipush 255, 3) := by decide +kernel
theorem dX12_makes_116 : decode cX12_makes 116 = .ok (.iand, 1) := by decide +kernel
theorem dX12_makes_117 : decode cX12_makes 117 = .ok (.ior, 1) := by decide +kernel
theorem dX12_makes_118 : decode cX12_makes 118 = .ok (.goto 5, 3) := by decide +kernel
theorem dX12_makes_121 : decode cX12_makes 121 = .ok (.iload 7, 2) := by decide +kernel
theorem dX12_makes_123 : decode cX12_makes 123 = .ok (.iastore, 1) := by decide +kernel
theorem dX12_makes_124 : decode cX12_makes 124 = .ok (.iinc 4 1, 3) := by decide +kernel
theorem dX12_makes_127 : decode cX12_makes 127 = .ok (.iinc 5 1, 3) := by decide +kernel
theorem dX12_makes_130 : decode cX12_makes 130 = .ok (.goto (-122), 3) := by decide +kernel
theorem dX12_makes_133 : decode cX12_makes 133 = .ok (.aload_n 0, 1) := by decide +kernel
theorem dX12_makes_134 : decode cX12_makes 134 = .ok (.getfield 22, 3) := by decide +kernel
theorem dX12_makes_137 : decode cX12_makes 137 = .ok (.iload_n 1, 1) := by decide +kernel
theorem dX12_makes_138 : decode cX12_makes 138 = .ok (.aload_n 0, 1) := by decide +kernel
theorem dX12_makes_139 : decode cX12_makes 139 = .ok (.getfield 22, 3) := by decide +kernel
theorem dX12_makes_142 : decode cX12_makes 142 = .ok (.iload_n 1, 1) := by decide +kernel
theorem dX12_makes_143 : decode cX12_makes 143 = .ok (.aaload, 1) := by decide +kernel
theorem dX12_makes_144 : decode cX12_makes 144 = .ok (.iload 4, 2) := by decide +kernel
theorem dX12_makes_146 : decode cX12_makes 146 = .ok (.invokestatic 93, 3) := by decide +kernel
theorem dX12_makes_149 : decode cX12_makes 149 = .ok (.aastore, 1) := by decide +kernel
theorem dX12_makes_150 : decode cX12_makes 150 = .ok (.aload_n 0, 1) := by decide +kernel
theorem dX12_makes_151 : decode cX12_makes 151 = .ok (.getfield 25, 3) := by decide +kernel
theorem dX12_makes_154 : decode cX12_makes 154 = .ok (.iload_n 1, 1) := by decide +kernel
theorem dX12_makes_155 : decode cX12_makes 155 = .ok (.iload 4, 2) := by decide +kernel
theorem dX12_makes_157 : decode cX12_makes 157 = .ok (.iastore, 1) := by decide +kernel
theorem dX12_makes_158 : decode cX12_makes 158 = .ok (.iconst 0, 1) := by decide +kernel
theorem dX12_makes_159 : decode cX12_makes 159 = .ok (.istore 5, 2) := by decide +kernel
theorem dX12_makes_161 : decode cX12_makes 161 = .ok (.iload 5, 2) := by decide +kernel
theorem dX12_makes_163 : decode cX12_makes 163 = .ok (.iload 4, 2) := by decide +kernel
theorem dX12_makes_165 : decode cX12_makes 165 = .ok (.if_icmp .ge 25, 3) := by decide +kernel
theorem dX12_makes_168 : decode cX12_makes 168 = .ok (.aload_n 0, 1) := by decide +kernel
theorem dX12_makes_169 : decode cX12_makes 169 = .ok (.getfield 22, 3) := by decide +kernel
theorem dX12_makes_172 : decode cX12_makes 172 = .ok (.iload_n 1, 1) := by decide +kernel
theorem dX12_makes_173 : decode cX12_makes 173 = .ok (.aaload, 1) := by decide +kernel
theorem dX12_makes_174 : decode cX12_makes 174 = .ok (.iload 5, 2) := by decide +kernel
theorem dX12_makes_176 : decode cX12_makes 176 = .ok (.aload_n 0, 1) := by decide +kernel
theorem dX12_makes_177 : decode cX12_makes 177 = .ok (.getfield 46, 3) := by decide +kernel
theorem dX12_makes_180 : decode cX12_makes 180 = .ok (.iload 5, 2) := by decide +kernel
theorem dX12_makes_182 : decode cX12_makes 182 = .ok (.iaload, 1) := by decide +kernel
theorem dX12_makes_183 : decode cX12_makes 183 = .ok (.iastore, 1) := by decide +kernel
theorem dX12_makes_184 : decode cX12_makes 184 = .ok (.iinc 5 1, 3) := by decide +kernel
theorem dX12_makes_187 : decode cX12_makes 187 = .ok (.goto (-26), 3) := by decide +kernel
theorem dX12_makes_190 : decode cX12_makes 190 = .ok (.return_, 1) := by decide +kernel
theorem dX12_cursorGoes_0 : decode cX12_cursorGoes 0 = .ok (.aload_n 0, 1) := by decide +kernel
theorem dX12_cursorGoes_1 : decode cX12_cursorGoes 1 = .ok (.getfield 28, 3) := by decide +kernel
theorem dX12_cursorGoes_4 : decode cX12_cursorGoes 4 = .ok (.bipush 8, 2) := by decide +kernel
theorem dX12_cursorGoes_6 : decode cX12_cursorGoes 6 = .ok (.iload_n 1, 1) := by decide +kernel
theorem dX12_cursorGoes_7 : decode cX12_cursorGoes 7 = .ok (.imul, 1) := by decide +kernel
theorem dX12_cursorGoes_8 : decode cX12_cursorGoes 8 = .ok (.bipush 6, 2) := by decide +kernel
theorem dX12_cursorGoes_10 : decode cX12_cursorGoes 10 = .ok (.iadd, 1) := by decide +kernel
theorem dX12_cursorGoes_11 : decode cX12_cursorGoes 11 = .ok (.aload_n 0, 1) := by decide +kernel
theorem dX12_cursorGoes_12 : decode cX12_cursorGoes 12 = .ok (.aload_n 0, 1) := by decide +kernel
theorem dX12_cursorGoes_13 : decode cX12_cursorGoes 13 = .ok (.iload_n 1, 1) := by decide +kernel
theorem dX12_cursorGoes_14 : decode cX12_cursorGoes 14 = .ok (.bipush 6, 2) := by decide +kernel
theorem dX12_cursorGoes_16 : decode cX12_cursorGoes 16 = .ok (.invokevirtual 135, 3) := by decide +kernel
theorem dX12_cursorGoes_19 : decode cX12_cursorGoes 19 = .ok (.iload_n 2, 1) := by decide +kernel
theorem dX12_cursorGoes_20 : decode cX12_cursorGoes 20 = .ok (.iload_n 3, 1) := by decide +kernel
theorem dX12_cursorGoes_21 : decode cX12_cursorGoes 21 = .ok (.invokevirtual 138, 3) := by decide +kernel
theorem dX12_cursorGoes_24 : decode cX12_cursorGoes 24 = .ok (.iastore, 1) := by decide +kernel
theorem dX12_cursorGoes_25 : decode cX12_cursorGoes 25 = .ok (.aload_n 0, 1) := by decide +kernel
theorem dX12_cursorGoes_26 : decode cX12_cursorGoes 26 = .ok (.getfield 28, 3) := by decide +kernel
theorem dX12_cursorGoes_29 : decode cX12_cursorGoes 29 = .ok (.bipush 8, 2) := by decide +kernel
theorem dX12_cursorGoes_31 : decode cX12_cursorGoes 31 = .ok (.iload_n 1, 1) := by decide +kernel
theorem dX12_cursorGoes_32 : decode cX12_cursorGoes 32 = .ok (.imul, 1) := by decide +kernel
theorem dX12_cursorGoes_33 : decode cX12_cursorGoes 33 = .ok (.bipush 7, 2) := by decide +kernel
theorem dX12_cursorGoes_35 : decode cX12_cursorGoes 35 = .ok (.iadd, 1) := by decide +kernel
theorem dX12_cursorGoes_36 : decode cX12_cursorGoes 36 = .ok (.aload_n 0, 1) := by decide +kernel
theorem dX12_cursorGoes_37 : decode cX12_cursorGoes 37 = .ok (.aload_n 0, 1) := by decide +kernel
theorem dX12_cursorGoes_38 : decode cX12_cursorGoes 38 = .ok (.iload_n 1, 1) := by decide +kernel
theorem dX12_cursorGoes_39 : decode cX12_cursorGoes 39 = .ok (.bipush 7, 2) := by decide +kernel
theorem dX12_cursorGoes_41 : decode cX12_cursorGoes 41 = .ok (.invokevirtual 135, 3) := by decide +kernel
theorem dX12_cursorGoes_44 : decode cX12_cursorGoes 44 = .ok (.iload_n 2, 1) := by decide +kernel
theorem dX12_cursorGoes_45 : decode cX12_cursorGoes 45 = .ok (.iload_n 3, 1) := by decide +kernel
theorem dX12_cursorGoes_46 : decode cX12_cursorGoes 46 = .ok (.invokevirtual 138, 3) := by decide +kernel
theorem dX12_cursorGoes_49 : decode cX12_cursorGoes 49 = .ok (.iastore, 1) := by decide +kernel
theorem dX12_cursorGoes_50 : decode cX12_cursorGoes 50 = .ok (.return_, 1) := by decide +kernel
theorem dX12_pushes_0 : decode cX12_pushes 0 = .ok (.iload_n 2, 1) := by decide +kernel
theorem dX12_pushes_1 : decode cX12_pushes 1 = .ok (.iconst 4, 1) := by decide +kernel
theorem dX12_pushes_2 : decode cX12_pushes 2 = .ok (.if_icmp .ne 8, 3) := by decide +kernel
theorem dX12_pushes_5 : decode cX12_pushes 5 = .ok (.bipush 24, 2) := by decide +kernel
theorem dX12_pushes_7 : decode cX12_pushes 7 = .ok (.goto 5, 3) := by decide +kernel
theorem dX12_pushes_10 : decode cX12_pushes 10 = .ok (.bipush 104, 2) := by decide +kernel
theorem dX12_pushes_12 : decode cX12_pushes 12 = .ok (.bipush 20, 2) := by decide +kernel
theorem dX12_pushes_14 : decode cX12_pushes 14 = .ok (.iload_n 1, 1) := by decide +kernel
theorem dX12_pushes_15 : decode cX12_pushes 15 = .ok (.imul, 1) := by decide +kernel
theorem dX12_pushes_16 : decode cX12_pushes 16 = .ok (.iadd, 1) := by decide +kernel
theorem dX12_pushes_17 : decode cX12_pushes 17 = .ok (.istore 4, 2) := by decide +kernel
theorem dX12_pushes_19 : decode cX12_pushes 19 = .ok (.aload_n 0, 1) := by decide +kernel
theorem dX12_pushes_20 : decode cX12_pushes 20 = .ok (.iload_n 1, 1) := by decide +kernel
theorem dX12_pushes_21 : decode cX12_pushes 21 = .ok (.iload_n 2, 1) := by decide +kernel
theorem dX12_pushes_22 : decode cX12_pushes 22 = .ok (.invokevirtual 135, 3) := by decide +kernel
theorem dX12_pushes_25 : decode cX12_pushes 25 = .ok (.istore 5, 2) := by decide +kernel
theorem dX12_pushes_27 : decode cX12_pushes 27 = .ok (.iload 5, 2) := by decide +kernel
theorem dX12_pushes_29 : decode cX12_pushes 29 = .ok (.bipush 20, 2) := by decide +kernel
theorem dX12_pushes_31 : decode cX12_pushes 31 = .ok (.if_icmp .ne 39, 3) := by decide +kernel
theorem dX12_pushes_70 : decode cX12_pushes 70 = .ok (.aload_n 0, 1) := by decide +kernel
theorem dX12_pushes_71 : decode cX12_pushes 71 = .ok (.iload 4, 2) := by decide +kernel
theorem dX12_pushes_73 : decode cX12_pushes 73 = .ok (.iload 5, 2) := by decide +kernel
theorem dX12_pushes_75 : decode cX12_pushes 75 = .ok (.iadd, 1) := by decide +kernel
theorem dX12_pushes_76 : decode cX12_pushes 76 = .ok (.iload_n 3, 1) := by decide +kernel
theorem dX12_pushes_77 : decode cX12_pushes 77 = .ok (.invokevirtual 101, 3) := by decide +kernel
theorem dX12_pushes_80 : decode cX12_pushes 80 = .ok (.aload_n 0, 1) := by decide +kernel
theorem dX12_pushes_81 : decode cX12_pushes 81 = .ok (.getfield 28, 3) := by decide +kernel
theorem dX12_pushes_84 : decode cX12_pushes 84 = .ok (.bipush 8, 2) := by decide +kernel
theorem dX12_pushes_86 : decode cX12_pushes 86 = .ok (.iload_n 1, 1) := by decide +kernel
theorem dX12_pushes_87 : decode cX12_pushes 87 = .ok (.imul, 1) := by decide +kernel
theorem dX12_pushes_88 : decode cX12_pushes 88 = .ok (.iload_n 2, 1) := by decide +kernel
theorem dX12_pushes_89 : decode cX12_pushes 89 = .ok (.iadd, 1) := by decide +kernel
theorem dX12_pushes_90 : decode cX12_pushes 90 = .ok (.iload 5, 2) := by decide +kernel
theorem dX12_pushes_92 : decode cX12_pushes 92 = .ok (.iconst 1, 1) := by decide +kernel
theorem dX12_pushes_93 : decode cX12_pushes 93 = .ok (.iadd, 1) := by decide +kernel
theorem dX12_pushes_94 : decode cX12_pushes 94 = .ok (.iastore, 1) := by decide +kernel
theorem dX12_pushes_95 : decode cX12_pushes 95 = .ok (.return_, 1) := by decide +kernel
theorem dX12_keepsRow_0 : decode cX12_keepsRow 0 = .ok (.aload_n 0, 1) := by decide +kernel
theorem dX12_keepsRow_1 : decode cX12_keepsRow 1 = .ok (.getfield 11, 3) := by decide +kernel
theorem dX12_keepsRow_4 : decode cX12_keepsRow 4 = .ok (.iload_n 1, 1) := by decide +kernel
theorem dX12_keepsRow_5 : decode cX12_keepsRow 5 = .ok (.aload_n 0, 1) := by decide +kernel
theorem dX12_keepsRow_6 : decode cX12_keepsRow 6 = .ok (.getfield 11, 3) := by decide +kernel
theorem dX12_keepsRow_9 : decode cX12_keepsRow 9 = .ok (.iload_n 1, 1) := by decide +kernel
theorem dX12_keepsRow_10 : decode cX12_keepsRow 10 = .ok (.aaload, 1) := by decide +kernel
theorem dX12_keepsRow_11 : decode cX12_keepsRow 11 = .ok (.aload_n 0, 1) := by decide +kernel
theorem dX12_keepsRow_12 : decode cX12_keepsRow 12 = .ok (.getfield 43, 3) := by decide +kernel
theorem dX12_keepsRow_15 : decode cX12_keepsRow 15 = .ok (.iload_n 2, 1) := by decide +kernel
theorem dX12_keepsRow_16 : decode cX12_keepsRow 16 = .ok (.iaload, 1) := by decide +kernel
theorem dX12_keepsRow_17 : decode cX12_keepsRow 17 = .ok (.invokestatic 93, 3) := by decide +kernel
theorem dX12_keepsRow_20 : decode cX12_keepsRow 20 = .ok (.aastore, 1) := by decide +kernel
theorem dX12_keepsRow_21 : decode cX12_keepsRow 21 = .ok (.iconst 0, 1) := by decide +kernel
theorem dX12_keepsRow_22 : decode cX12_keepsRow 22 = .ok (.istore_n 3, 1) := by decide +kernel
theorem dX12_keepsRow_23 : decode cX12_keepsRow 23 = .ok (.iload_n 3, 1) := by decide +kernel
theorem dX12_keepsRow_24 : decode cX12_keepsRow 24 = .ok (.aload_n 0, 1) := by decide +kernel
theorem dX12_keepsRow_25 : decode cX12_keepsRow 25 = .ok (.getfield 43, 3) := by decide +kernel
theorem dX12_keepsRow_28 : decode cX12_keepsRow 28 = .ok (.iload_n 2, 1) := by decide +kernel
theorem dX12_keepsRow_29 : decode cX12_keepsRow 29 = .ok (.iaload, 1) := by decide +kernel
theorem dX12_keepsRow_30 : decode cX12_keepsRow 30 = .ok (.if_icmp .ge 25, 3) := by decide +kernel
theorem dX12_keepsRow_33 : decode cX12_keepsRow 33 = .ok (.aload_n 0, 1) := by decide +kernel
theorem dX12_keepsRow_34 : decode cX12_keepsRow 34 = .ok (.getfield 11, 3) := by decide +kernel
theorem dX12_keepsRow_37 : decode cX12_keepsRow 37 = .ok (.iload_n 1, 1) := by decide +kernel
theorem dX12_keepsRow_38 : decode cX12_keepsRow 38 = .ok (.aaload, 1) := by decide +kernel
theorem dX12_keepsRow_39 : decode cX12_keepsRow 39 = .ok (.iload_n 3, 1) := by decide +kernel
theorem dX12_keepsRow_40 : decode cX12_keepsRow 40 = .ok (.aload_n 0, 1) := by decide +kernel
theorem dX12_keepsRow_41 : decode cX12_keepsRow 41 = .ok (.getfield 40, 3) := by decide +kernel
theorem dX12_keepsRow_44 : decode cX12_keepsRow 44 = .ok (.iload_n 2, 1) := by decide +kernel
theorem dX12_keepsRow_45 : decode cX12_keepsRow 45 = .ok (.aaload, 1) := by decide +kernel
theorem dX12_keepsRow_46 : decode cX12_keepsRow 46 = .ok (.iload_n 3, 1) := by decide +kernel
theorem dX12_keepsRow_47 : decode cX12_keepsRow 47 = .ok (.iaload, 1) := by decide +kernel
theorem dX12_keepsRow_48 : decode cX12_keepsRow 48 = .ok (.iastore, 1) := by decide +kernel
theorem dX12_keepsRow_49 : decode cX12_keepsRow 49 = .ok (.iinc 3 1, 3) := by decide +kernel
theorem dX12_keepsRow_52 : decode cX12_keepsRow 52 = .ok (.goto (-29), 3) := by decide +kernel
theorem dX12_keepsRow_55 : decode cX12_keepsRow 55 = .ok (.aload_n 0, 1) := by decide +kernel
theorem dX12_keepsRow_56 : decode cX12_keepsRow 56 = .ok (.getfield 14, 3) := by decide +kernel
theorem dX12_keepsRow_59 : decode cX12_keepsRow 59 = .ok (.iload_n 1, 1) := by decide +kernel
theorem dX12_keepsRow_60 : decode cX12_keepsRow 60 = .ok (.aload_n 0, 1) := by decide +kernel
theorem dX12_keepsRow_61 : decode cX12_keepsRow 61 = .ok (.getfield 43, 3) := by decide +kernel
theorem dX12_keepsRow_64 : decode cX12_keepsRow 64 = .ok (.iload_n 2, 1) := by decide +kernel
theorem dX12_keepsRow_65 : decode cX12_keepsRow 65 = .ok (.iaload, 1) := by decide +kernel
theorem dX12_keepsRow_66 : decode cX12_keepsRow 66 = .ok (.iastore, 1) := by decide +kernel
theorem dX12_keepsRow_67 : decode cX12_keepsRow 67 = .ok (.return_, 1) := by decide +kernel
theorem dX12_behindRow_0 : decode cX12_behindRow 0 = .ok (.iconst 0, 1) := by decide +kernel
theorem dX12_behindRow_1 : decode cX12_behindRow 1 = .ok (.istore 4, 2) := by decide +kernel
theorem dX12_behindRow_3 : decode cX12_behindRow 3 = .ok (.iconst 0, 1) := by decide +kernel
theorem dX12_behindRow_4 : decode cX12_behindRow 4 = .ok (.istore 5, 2) := by decide +kernel
theorem dX12_behindRow_6 : decode cX12_behindRow 6 = .ok (.aload_n 0, 1) := by decide +kernel
theorem dX12_behindRow_7 : decode cX12_behindRow 7 = .ok (.getfield 43, 3) := by decide +kernel
theorem dX12_behindRow_10 : decode cX12_behindRow 10 = .ok (.iload_n 3, 1) := by decide +kernel
theorem dX12_behindRow_11 : decode cX12_behindRow 11 = .ok (.iconst 0, 1) := by decide +kernel
theorem dX12_behindRow_12 : decode cX12_behindRow 12 = .ok (.iastore, 1) := by decide +kernel
theorem dX12_behindRow_13 : decode cX12_behindRow 13 = .ok (.iload 4, 2) := by decide +kernel
theorem dX12_behindRow_15 : decode cX12_behindRow 15 = .ok (.aload_n 0, 1) := by decide +kernel
theorem dX12_behindRow_16 : decode cX12_behindRow 16 = .ok (.getfield 43, 3) := by decide +kernel
theorem dX12_behindRow_19 : decode cX12_behindRow 19 = .ok (.iload_n 1, 1) := by decide +kernel
theorem dX12_behindRow_20 : decode cX12_behindRow 20 = .ok (.iaload, 1) := by decide +kernel
theorem dX12_behindRow_21 : decode cX12_behindRow 21 = .ok (.if_icmp .lt 14, 3) := by decide +kernel
theorem dX12_behindRow_24 : decode cX12_behindRow 24 = .ok (.iload 5, 2) := by decide +kernel
theorem dX12_behindRow_26 : decode cX12_behindRow 26 = .ok (.aload_n 0, 1) := by decide +kernel
theorem dX12_behindRow_27 : decode cX12_behindRow 27 = .ok (.getfield 43, 3) := by decide +kernel
theorem dX12_behindRow_30 : decode cX12_behindRow 30 = .ok (.iload_n 2, 1) := by decide +kernel
theorem dX12_behindRow_31 : decode cX12_behindRow 31 = .ok (.iaload, 1) := by decide +kernel
theorem dX12_behindRow_32 : decode cX12_behindRow 32 = .ok (.if_icmp .ge 119, 3) := by decide +kernel
theorem dX12_behindRow_35 : decode cX12_behindRow 35 = .ok (.iload 4, 2) := by decide +kernel
theorem dX12_behindRow_37 : decode cX12_behindRow 37 = .ok (.aload_n 0, 1) := by decide +kernel
theorem dX12_behindRow_38 : decode cX12_behindRow 38 = .ok (.getfield 43, 3) := by decide +kernel
theorem dX12_behindRow_41 : decode cX12_behindRow 41 = .ok (.iload_n 1, 1) := by decide +kernel
theorem dX12_behindRow_42 : decode cX12_behindRow 42 = .ok (.iaload, 1) := by decide +kernel
theorem dX12_behindRow_43 : decode cX12_behindRow 43 = .ok (.if_icmp .ge 15, 3) := by decide +kernel
theorem dX12_behindRow_46 : decode cX12_behindRow 46 = .ok (.aload_n 0, 1) := by decide +kernel
theorem dX12_behindRow_47 : decode cX12_behindRow 47 = .ok (.getfield 40, 3) := by decide +kernel
theorem dX12_behindRow_50 : decode cX12_behindRow 50 = .ok (.iload_n 1, 1) := by decide +kernel
theorem dX12_behindRow_51 : decode cX12_behindRow 51 = .ok (.aaload, 1) := by decide +kernel
theorem dX12_behindRow_52 : decode cX12_behindRow 52 = .ok (.iload 4, 2) := by decide +kernel
theorem dX12_behindRow_54 : decode cX12_behindRow 54 = .ok (.iaload, 1) := by decide +kernel
theorem dX12_behindRow_55 : decode cX12_behindRow 55 = .ok (.goto 4, 3) := by decide +kernel
theorem dX12_behindRow_58 : decode cX12_behindRow 58 = .ok (.iconst 0, 1) := by decide +kernel
theorem dX12_behindRow_59 : decode cX12_behindRow 59 = .ok (.istore 6, 2) := by decide +kernel
theorem dX12_behindRow_61 : decode cX12_behindRow 61 = .ok (.iload 5, 2) := by decide +kernel
theorem dX12_behindRow_63 : decode cX12_behindRow 63 = .ok (.aload_n 0, 1) := by decide +kernel
theorem dX12_behindRow_64 : decode cX12_behindRow 64 = .ok (.getfield 43, 3) := by decide +kernel
theorem dX12_behindRow_67 : decode cX12_behindRow 67 = .ok (.iload_n 2, 1) := by decide +kernel
theorem dX12_behindRow_68 : decode cX12_behindRow 68 = .ok (.iaload, 1) := by decide +kernel
theorem dX12_behindRow_69 : decode cX12_behindRow 69 = .ok (.if_icmp .ge 15, 3) := by decide +kernel
theorem dX12_behindRow_72 : decode cX12_behindRow 72 = .ok (.aload_n 0, 1) := by decide +kernel
theorem dX12_behindRow_73 : decode cX12_behindRow 73 = .ok (.getfield 40, 3) := by decide +kernel
theorem dX12_behindRow_76 : decode cX12_behindRow 76 = .ok (.iload_n 2, 1) := by decide +kernel
theorem dX12_behindRow_77 : decode cX12_behindRow 77 = .ok (.aaload, 1) := by decide +kernel
theorem dX12_behindRow_78 : decode cX12_behindRow 78 = .ok (.iload 5, 2) := by decide +kernel
theorem dX12_behindRow_80 : decode cX12_behindRow 80 = .ok (.iaload, 1) := by decide +kernel
theorem dX12_behindRow_81 : decode cX12_behindRow 81 = .ok (.goto 4, 3) := by decide +kernel
theorem dX12_behindRow_84 : decode cX12_behindRow 84 = .ok (.iconst 0, 1) := by decide +kernel
theorem dX12_behindRow_85 : decode cX12_behindRow 85 = .ok (.istore 7, 2) := by decide +kernel
theorem dX12_behindRow_87 : decode cX12_behindRow 87 = .ok (.iload 6, 2) := by decide +kernel
theorem dX12_behindRow_89 : decode cX12_behindRow 89 = .ok (.invokestatic 104, 3) := by decide +kernel
theorem dX12_behindRow_92 : decode cX12_behindRow 92 = .ok (.ldc 109, 2) := by decide +kernel
theorem dX12_behindRow_94 : decode cX12_behindRow 94 = .ok (.if_icmp .ne 16, 3) := by decide +kernel
theorem dX12_behindRow_97 : decode cX12_behindRow 97 = .ok (.aload_n 0, 1) := by decide +kernel
theorem dX12_behindRow_98 : decode cX12_behindRow 98 = .ok (.iload_n 3, 1) := by decide +kernel
theorem dX12_behindRow_99 : decode cX12_behindRow 99 = .ok (.iload 6, 2) := by decide +kernel
theorem dX12_behindRow_101 : decode cX12_behindRow 101 = .ok (.invokevirtual 115, 3) := by decide +kernel
theorem dX12_behindRow_104 : decode cX12_behindRow 104 = .ok (.iinc 4 1, 3) := by decide +kernel
theorem dX12_behindRow_107 : decode cX12_behindRow 107 = .ok (.goto 41, 3) := by decide +kernel
theorem dX12_behindRow_110 : decode cX12_behindRow 110 = .ok (.iload 7, 2) := by decide +kernel
theorem dX12_behindRow_112 : decode cX12_behindRow 112 = .ok (.invokestatic 104, 3) := by decide +kernel
theorem dX12_behindRow_115 : decode cX12_behindRow 115 = .ok (.ldc 110, 2) := by decide +kernel
theorem dX12_behindRow_117 : decode cX12_behindRow 117 = .ok (.if_icmp .ne 16, 3) := by decide +kernel
theorem dX12_behindRow_120 : decode cX12_behindRow 120 = .ok (.aload_n 0, 1) := by decide +kernel
theorem dX12_behindRow_121 : decode cX12_behindRow 121 = .ok (.iload_n 3, 1) := by decide +kernel
theorem dX12_behindRow_122 : decode cX12_behindRow 122 = .ok (.iload 7, 2) := by decide +kernel
theorem dX12_behindRow_124 : decode cX12_behindRow 124 = .ok (.invokevirtual 115, 3) := by decide +kernel
theorem dX12_behindRow_127 : decode cX12_behindRow 127 = .ok (.iinc 5 1, 3) := by decide +kernel
theorem dX12_behindRow_130 : decode cX12_behindRow 130 = .ok (.goto 18, 3) := by decide +kernel
theorem dX12_behindRow_133 : decode cX12_behindRow 133 = .ok (.iinc 4 1, 3) := by decide +kernel
theorem dX12_behindRow_136 : decode cX12_behindRow 136 = .ok (.iinc 5 1, 3) := by decide +kernel
theorem dX12_behindRow_139 : decode cX12_behindRow 139 = .ok (.aload_n 0, 1) := by decide +kernel
theorem dX12_behindRow_140 : decode cX12_behindRow 140 = .ok (.iload 6, 2) := by decide +kernel
theorem dX12_behindRow_142 : decode cX12_behindRow 142 = .ok (.iload 7, 2) := by decide +kernel
theorem dX12_behindRow_144 : decode cX12_behindRow 144 = .ok (.iload_n 3, 1) := by decide +kernel
theorem dX12_behindRow_145 : decode cX12_behindRow 145 = .ok (.invokevirtual 118, 3) := by decide +kernel
theorem dX12_behindRow_148 : decode cX12_behindRow 148 = .ok (.goto (-135), 3) := by decide +kernel
theorem dX12_behindRow_151 : decode cX12_behindRow 151 = .ok (.aload_n 0, 1) := by decide +kernel
theorem dX12_behindRow_152 : decode cX12_behindRow 152 = .ok (.iload_n 3, 1) := by decide +kernel
theorem dX12_behindRow_153 : decode cX12_behindRow 153 = .ok (.invokevirtual 122, 3) := by decide +kernel
theorem dX12_behindRow_156 : decode cX12_behindRow 156 = .ok (.return_, 1) := by decide +kernel
theorem dX12_overRow_0 : decode cX12_overRow 0 = .ok (.iconst 0, 1) := by decide +kernel
theorem dX12_overRow_1 : decode cX12_overRow 1 = .ok (.istore 5, 2) := by decide +kernel
theorem dX12_overRow_3 : decode cX12_overRow 3 = .ok (.iconst 0, 1) := by decide +kernel
theorem dX12_overRow_4 : decode cX12_overRow 4 = .ok (.istore 6, 2) := by decide +kernel
theorem dX12_overRow_6 : decode cX12_overRow 6 = .ok (.aload_n 0, 1) := by decide +kernel
theorem dX12_overRow_7 : decode cX12_overRow 7 = .ok (.getfield 43, 3) := by decide +kernel
theorem dX12_overRow_10 : decode cX12_overRow 10 = .ok (.iload 4, 2) := by decide +kernel
theorem dX12_overRow_12 : decode cX12_overRow 12 = .ok (.iconst 0, 1) := by decide +kernel
theorem dX12_overRow_13 : decode cX12_overRow 13 = .ok (.iastore, 1) := by decide +kernel
theorem dX12_overRow_14 : decode cX12_overRow 14 = .ok (.iload 5, 2) := by decide +kernel
theorem dX12_overRow_16 : decode cX12_overRow 16 = .ok (.aload_n 0, 1) := by decide +kernel
theorem dX12_overRow_17 : decode cX12_overRow 17 = .ok (.getfield 43, 3) := by decide +kernel
theorem dX12_overRow_20 : decode cX12_overRow 20 = .ok (.iload_n 1, 1) := by decide +kernel
theorem dX12_overRow_21 : decode cX12_overRow 21 = .ok (.iaload, 1) := by decide +kernel
theorem dX12_overRow_22 : decode cX12_overRow 22 = .ok (.if_icmp .lt 14, 3) := by decide +kernel
theorem dX12_overRow_25 : decode cX12_overRow 25 = .ok (.iload 6, 2) := by decide +kernel
theorem dX12_overRow_27 : decode cX12_overRow 27 = .ok (.aload_n 0, 1) := by decide +kernel
theorem dX12_overRow_28 : decode cX12_overRow 28 = .ok (.getfield 43, 3) := by decide +kernel
theorem dX12_overRow_31 : decode cX12_overRow 31 = .ok (.iload_n 2, 1) := by decide +kernel
theorem dX12_overRow_32 : decode cX12_overRow 32 = .ok (.iaload, 1) := by decide +kernel
theorem dX12_overRow_33 : decode cX12_overRow 33 = .ok (.if_icmp .ge 162, 3) := by decide +kernel
theorem dX12_overRow_36 : decode cX12_overRow 36 = .ok (.iload 5, 2) := by decide +kernel
theorem dX12_overRow_38 : decode cX12_overRow 38 = .ok (.aload_n 0, 1) := by decide +kernel
theorem dX12_overRow_39 : decode cX12_overRow 39 = .ok (.getfield 43, 3) := by decide +kernel
theorem dX12_overRow_42 : decode cX12_overRow 42 = .ok (.iload_n 1, 1) := by decide +kernel
theorem dX12_overRow_43 : decode cX12_overRow 43 = .ok (.iaload, 1) := by decide +kernel
theorem dX12_overRow_44 : decode cX12_overRow 44 = .ok (.if_icmp .ge 24, 3) := by decide +kernel
theorem dX12_overRow_47 : decode cX12_overRow 47 = .ok (.aload_n 0, 1) := by decide +kernel
theorem dX12_overRow_48 : decode cX12_overRow 48 = .ok (.getfield 40, 3) := by decide +kernel
theorem dX12_overRow_51 : decode cX12_overRow 51 = .ok (.iload_n 1, 1) := by decide +kernel
theorem dX12_overRow_52 : decode cX12_overRow 52 = .ok (.aaload, 1) := by decide +kernel
theorem dX12_overRow_53 : decode cX12_overRow 53 = .ok (.iload 5, 2) := by decide +kernel
theorem dX12_overRow_55 : decode cX12_overRow 55 = .ok (.iaload, 1) := by decide +kernel
theorem dX12_overRow_56 : decode cX12_overRow 56 = .ok (.invokestatic 104, 3) := by decide +kernel
theorem dX12_overRow_59 : decode cX12_overRow 59 = .ok (.ldc 110, 2) := by decide +kernel
theorem dX12_overRow_61 : decode cX12_overRow 61 = .ok (.if_icmp .ne 7, 3) := by decide +kernel
theorem dX12_overRow_64 : decode cX12_overRow 64 = .ok (.iconst 1, 1) := by decide +kernel
theorem dX12_overRow_65 : decode cX12_overRow 65 = .ok (.goto 4, 3) := by decide +kernel
theorem dX12_overRow_68 : decode cX12_overRow 68 = .ok (.iconst 0, 1) := by decide +kernel
theorem dX12_overRow_69 : decode cX12_overRow 69 = .ok (.istore 7, 2) := by decide +kernel
theorem dX12_overRow_71 : decode cX12_overRow 71 = .ok (.iload 6, 2) := by decide +kernel
theorem dX12_overRow_73 : decode cX12_overRow 73 = .ok (.aload_n 0, 1) := by decide +kernel
theorem dX12_overRow_74 : decode cX12_overRow 74 = .ok (.getfield 43, 3) := by decide +kernel
theorem dX12_overRow_77 : decode cX12_overRow 77 = .ok (.iload_n 2, 1) := by decide +kernel
theorem dX12_overRow_78 : decode cX12_overRow 78 = .ok (.iaload, 1) := by decide +kernel
theorem dX12_overRow_79 : decode cX12_overRow 79 = .ok (.if_icmp .ge 24, 3) := by decide +kernel
theorem dX12_overRow_82 : decode cX12_overRow 82 = .ok (.aload_n 0, 1) := by decide +kernel
theorem dX12_overRow_83 : decode cX12_overRow 83 = .ok (.getfield 40, 3) := by decide +kernel
theorem dX12_overRow_86 : decode cX12_overRow 86 = .ok (.iload_n 2, 1) := by decide +kernel
theorem dX12_overRow_87 : decode cX12_overRow 87 = .ok (.aaload, 1) := by decide +kernel
theorem dX12_overRow_88 : decode cX12_overRow 88 = .ok (.iload 6, 2) := by decide +kernel
theorem dX12_overRow_90 : decode cX12_overRow 90 = .ok (.iaload, 1) := by decide +kernel
theorem dX12_overRow_91 : decode cX12_overRow 91 = .ok (.invokestatic 104, 3) := by decide +kernel
theorem dX12_overRow_94 : decode cX12_overRow 94 = .ok (.ldc 110, 2) := by decide +kernel
theorem dX12_overRow_96 : decode cX12_overRow 96 = .ok (.if_icmp .ne 7, 3) := by decide +kernel
theorem dX12_overRow_99 : decode cX12_overRow 99 = .ok (.iconst 1, 1) := by decide +kernel
theorem dX12_overRow_100 : decode cX12_overRow 100 = .ok (.goto 4, 3) := by decide +kernel
theorem dX12_overRow_103 : decode cX12_overRow 103 = .ok (.iconst 0, 1) := by decide +kernel
theorem dX12_overRow_104 : decode cX12_overRow 104 = .ok (.istore 8, 2) := by decide +kernel
theorem dX12_overRow_106 : decode cX12_overRow 106 = .ok (.iload 7, 2) := by decide +kernel
theorem dX12_overRow_108 : decode cX12_overRow 108 = .ok (.ifCond .eq 34, 3) := by decide +kernel
theorem dX12_overRow_111 : decode cX12_overRow 111 = .ok (.iload_n 3, 1) := by decide +kernel
theorem dX12_overRow_112 : decode cX12_overRow 112 = .ok (.iconst 1, 1) := by decide +kernel
theorem dX12_overRow_113 : decode cX12_overRow 113 = .ok (.if_icmp .eq 8, 3) := by decide +kernel
theorem dX12_overRow_116 : decode cX12_overRow 116 = .ok (.iload 8, 2) := by decide +kernel
theorem dX12_overRow_118 : decode cX12_overRow 118 = .ok (.ifCond .ne 24, 3) := by decide +kernel
theorem dX12_overRow_121 : decode cX12_overRow 121 = .ok (.aload_n 0, 1) := by decide +kernel
theorem dX12_overRow_122 : decode cX12_overRow 122 = .ok (.iload 4, 2) := by decide +kernel
theorem dX12_overRow_124 : decode cX12_overRow 124 = .ok (.aload_n 0, 1) := by decide +kernel
theorem dX12_overRow_125 : decode cX12_overRow 125 = .ok (.getfield 40, 3) := by decide +kernel
theorem dX12_overRow_128 : decode cX12_overRow 128 = .ok (.iload_n 1, 1) := by decide +kernel
theorem dX12_overRow_129 : decode cX12_overRow 129 = .ok (.aaload, 1) := by decide +kernel
theorem dX12_overRow_130 : decode cX12_overRow 130 = .ok (.iload 5, 2) := by decide +kernel
theorem dX12_overRow_132 : decode cX12_overRow 132 = .ok (.iaload, 1) := by decide +kernel
theorem dX12_overRow_133 : decode cX12_overRow 133 = .ok (.invokevirtual 115, 3) := by decide +kernel
theorem dX12_overRow_136 : decode cX12_overRow 136 = .ok (.iinc 5 1, 3) := by decide +kernel
theorem dX12_overRow_139 : decode cX12_overRow 139 = .ok (.goto 53, 3) := by decide +kernel
theorem dX12_overRow_142 : decode cX12_overRow 142 = .ok (.iload 8, 2) := by decide +kernel
theorem dX12_overRow_144 : decode cX12_overRow 144 = .ok (.ifCond .eq 17, 3) := by decide +kernel
theorem dX12_overRow_147 : decode cX12_overRow 147 = .ok (.aload_n 0, 1) := by decide +kernel
theorem dX12_overRow_148 : decode cX12_overRow 148 = .ok (.iload 4, 2) := by decide +kernel
theorem dX12_overRow_150 : decode cX12_overRow 150 = .ok (.ldc 108, 2) := by decide +kernel
theorem dX12_overRow_152 : decode cX12_overRow 152 = .ok (.invokevirtual 115, 3) := by decide +kernel
theorem dX12_overRow_155 : decode cX12_overRow 155 = .ok (.iinc 6 1, 3) := by decide +kernel
theorem dX12_overRow_158 : decode cX12_overRow 158 = .ok (.goto 34, 3) := by decide +kernel
theorem dX12_overRow_161 : decode cX12_overRow 161 = .ok (.aload_n 0, 1) := by decide +kernel
theorem dX12_overRow_162 : decode cX12_overRow 162 = .ok (.aload_n 0, 1) := by decide +kernel
theorem dX12_overRow_163 : decode cX12_overRow 163 = .ok (.getfield 40, 3) := by decide +kernel
theorem dX12_overRow_166 : decode cX12_overRow 166 = .ok (.iload_n 1, 1) := by decide +kernel
theorem dX12_overRow_167 : decode cX12_overRow 167 = .ok (.aaload, 1) := by decide +kernel
theorem dX12_overRow_168 : decode cX12_overRow 168 = .ok (.iload 5, 2) := by decide +kernel
theorem dX12_overRow_170 : decode cX12_overRow 170 = .ok (.iaload, 1) := by decide +kernel
theorem dX12_overRow_171 : decode cX12_overRow 171 = .ok (.aload_n 0, 1) := by decide +kernel
theorem dX12_overRow_172 : decode cX12_overRow 172 = .ok (.getfield 40, 3) := by decide +kernel
theorem dX12_overRow_175 : decode cX12_overRow 175 = .ok (.iload_n 2, 1) := by decide +kernel
theorem dX12_overRow_176 : decode cX12_overRow 176 = .ok (.aaload, 1) := by decide +kernel
theorem dX12_overRow_177 : decode cX12_overRow 177 = .ok (.iload 6, 2) := by decide +kernel
theorem dX12_overRow_179 : decode cX12_overRow 179 = .ok (.iaload, 1) := by decide +kernel
theorem dX12_overRow_180 : decode cX12_overRow 180 = .ok (.iload_n 3, 1) := by decide +kernel
theorem dX12_overRow_181 : decode cX12_overRow 181 = .ok (.iload 4, 2) := by decide +kernel
theorem dX12_overRow_183 : decode cX12_overRow 183 = .ok (.invokevirtual 131, 3) := by decide +kernel
theorem dX12_overRow_186 : decode cX12_overRow 186 = .ok (.iinc 5 1, 3) := by decide +kernel
theorem dX12_overRow_189 : decode cX12_overRow 189 = .ok (.iinc 6 1, 3) := by decide +kernel
theorem dX12_overRow_192 : decode cX12_overRow 192 = .ok (.goto (-178), 3) := by decide +kernel
theorem dX12_overRow_195 : decode cX12_overRow 195 = .ok (.aload_n 0, 1) := by decide +kernel
theorem dX12_overRow_196 : decode cX12_overRow 196 = .ok (.iload 4, 2) := by decide +kernel
theorem dX12_overRow_198 : decode cX12_overRow 198 = .ok (.invokevirtual 122, 3) := by decide +kernel
theorem dX12_overRow_201 : decode cX12_overRow 201 = .ok (.return_, 1) := by decide +kernel
theorem dX12_keepsWork_0 : decode cX12_keepsWork 0 = .ok (.aload_n 0, 1) := by decide +kernel
theorem dX12_keepsWork_1 : decode cX12_keepsWork 1 = .ok (.getfield 43, 3) := by decide +kernel
theorem dX12_keepsWork_4 : decode cX12_keepsWork 4 = .ok (.iload_n 2, 1) := by decide +kernel
theorem dX12_keepsWork_5 : decode cX12_keepsWork 5 = .ok (.aload_n 0, 1) := by decide +kernel
theorem dX12_keepsWork_6 : decode cX12_keepsWork 6 = .ok (.getfield 43, 3) := by decide +kernel
theorem dX12_keepsWork_9 : decode cX12_keepsWork 9 = .ok (.iload_n 1, 1) := by decide +kernel
theorem dX12_keepsWork_10 : decode cX12_keepsWork 10 = .ok (.iaload, 1) := by decide +kernel
theorem dX12_keepsWork_11 : decode cX12_keepsWork 11 = .ok (.iastore, 1) := by decide +kernel
theorem dX12_keepsWork_12 : decode cX12_keepsWork 12 = .ok (.iconst 0, 1) := by decide +kernel
theorem dX12_keepsWork_13 : decode cX12_keepsWork 13 = .ok (.istore_n 3, 1) := by decide +kernel
theorem dX12_keepsWork_14 : decode cX12_keepsWork 14 = .ok (.iload_n 3, 1) := by decide +kernel
theorem dX12_keepsWork_15 : decode cX12_keepsWork 15 = .ok (.aload_n 0, 1) := by decide +kernel
theorem dX12_keepsWork_16 : decode cX12_keepsWork 16 = .ok (.getfield 43, 3) := by decide +kernel
theorem dX12_keepsWork_19 : decode cX12_keepsWork 19 = .ok (.iload_n 1, 1) := by decide +kernel
theorem dX12_keepsWork_20 : decode cX12_keepsWork 20 = .ok (.iaload, 1) := by decide +kernel
theorem dX12_keepsWork_21 : decode cX12_keepsWork 21 = .ok (.if_icmp .ge 25, 3) := by decide +kernel
theorem dX12_keepsWork_24 : decode cX12_keepsWork 24 = .ok (.aload_n 0, 1) := by decide +kernel
theorem dX12_keepsWork_25 : decode cX12_keepsWork 25 = .ok (.getfield 40, 3) := by decide +kernel
theorem dX12_keepsWork_28 : decode cX12_keepsWork 28 = .ok (.iload_n 2, 1) := by decide +kernel
theorem dX12_keepsWork_29 : decode cX12_keepsWork 29 = .ok (.aaload, 1) := by decide +kernel
theorem dX12_keepsWork_30 : decode cX12_keepsWork 30 = .ok (.iload_n 3, 1) := by decide +kernel
theorem dX12_keepsWork_31 : decode cX12_keepsWork 31 = .ok (.aload_n 0, 1) := by decide +kernel
theorem dX12_keepsWork_32 : decode cX12_keepsWork 32 = .ok (.getfield 40, 3) := by decide +kernel
theorem dX12_keepsWork_35 : decode cX12_keepsWork 35 = .ok (.iload_n 1, 1) := by decide +kernel
theorem dX12_keepsWork_36 : decode cX12_keepsWork 36 = .ok (.aaload, 1) := by decide +kernel
theorem dX12_keepsWork_37 : decode cX12_keepsWork 37 = .ok (.iload_n 3, 1) := by decide +kernel
theorem dX12_keepsWork_38 : decode cX12_keepsWork 38 = .ok (.iaload, 1) := by decide +kernel
theorem dX12_keepsWork_39 : decode cX12_keepsWork 39 = .ok (.iastore, 1) := by decide +kernel
theorem dX12_keepsWork_40 : decode cX12_keepsWork 40 = .ok (.iinc 3 1, 3) := by decide +kernel
theorem dX12_keepsWork_43 : decode cX12_keepsWork 43 = .ok (.goto (-29), 3) := by decide +kernel
theorem dX12_keepsWork_46 : decode cX12_keepsWork 46 = .ok (.return_, 1) := by decide +kernel
theorem dX12_copiesRow_0 : decode cX12_copiesRow 0 = .ok (.aload_n 0, 1) := by decide +kernel
theorem dX12_copiesRow_1 : decode cX12_copiesRow 1 = .ok (.iconst 3, 1) := by decide +kernel
theorem dX12_copiesRow_2 : decode cX12_copiesRow 2 = .ok (.iload_n 1, 1) := by decide +kernel
theorem dX12_copiesRow_3 : decode cX12_copiesRow 3 = .ok (.invokevirtual 97, 3) := by decide +kernel
theorem dX12_copiesRow_6 : decode cX12_copiesRow 6 = .ok (.aload_n 0, 1) := by decide +kernel
theorem dX12_copiesRow_7 : decode cX12_copiesRow 7 = .ok (.iload_n 2, 1) := by decide +kernel
theorem dX12_copiesRow_8 : decode cX12_copiesRow 8 = .ok (.iconst 3, 1) := by decide +kernel
theorem dX12_copiesRow_9 : decode cX12_copiesRow 9 = .ok (.invokevirtual 101, 3) := by decide +kernel
theorem dX12_copiesRow_12 : decode cX12_copiesRow 12 = .ok (.return_, 1) := by decide +kernel
theorem dX12_crosses_0 : decode cX12_crosses 0 = .ok (.aload_n 0, 1) := by decide +kernel
theorem dX12_crosses_1 : decode cX12_crosses 1 = .ok (.iconst 1, 1) := by decide +kernel
theorem dX12_crosses_2 : decode cX12_crosses 2 = .ok (.iload_n 1, 1) := by decide +kernel
theorem dX12_crosses_3 : decode cX12_crosses 3 = .ok (.invokevirtual 97, 3) := by decide +kernel
theorem dX12_crosses_6 : decode cX12_crosses 6 = .ok (.aload_n 0, 1) := by decide +kernel
theorem dX12_crosses_7 : decode cX12_crosses 7 = .ok (.iconst 1, 1) := by decide +kernel
theorem dX12_crosses_8 : decode cX12_crosses 8 = .ok (.iconst 0, 1) := by decide +kernel
theorem dX12_crosses_9 : decode cX12_crosses 9 = .ok (.iconst 0, 1) := by decide +kernel
theorem dX12_crosses_10 : decode cX12_crosses 10 = .ok (.iconst 2, 1) := by decide +kernel
theorem dX12_crosses_11 : decode cX12_crosses 11 = .ok (.invokevirtual 164, 3) := by decide +kernel
theorem dX12_crosses_14 : decode cX12_crosses 14 = .ok (.aload_n 0, 1) := by decide +kernel
theorem dX12_crosses_15 : decode cX12_crosses 15 = .ok (.iload_n 1, 1) := by decide +kernel
theorem dX12_crosses_16 : decode cX12_crosses 16 = .ok (.iconst 2, 1) := by decide +kernel
theorem dX12_crosses_17 : decode cX12_crosses 17 = .ok (.invokevirtual 101, 3) := by decide +kernel
theorem dX12_crosses_20 : decode cX12_crosses 20 = .ok (.aload_n 0, 1) := by decide +kernel
theorem dX12_crosses_21 : decode cX12_crosses 21 = .ok (.iconst 0, 1) := by decide +kernel
theorem dX12_crosses_22 : decode cX12_crosses 22 = .ok (.iconst 1, 1) := by decide +kernel
theorem dX12_crosses_23 : decode cX12_crosses 23 = .ok (.iconst 1, 1) := by decide +kernel
theorem dX12_crosses_24 : decode cX12_crosses 24 = .ok (.iconst 2, 1) := by decide +kernel
theorem dX12_crosses_25 : decode cX12_crosses 25 = .ok (.invokevirtual 164, 3) := by decide +kernel
theorem dX12_crosses_28 : decode cX12_crosses 28 = .ok (.aload_n 0, 1) := by decide +kernel
theorem dX12_crosses_29 : decode cX12_crosses 29 = .ok (.iconst 2, 1) := by decide +kernel
theorem dX12_crosses_30 : decode cX12_crosses 30 = .ok (.iconst 0, 1) := by decide +kernel
theorem dX12_crosses_31 : decode cX12_crosses 31 = .ok (.invokevirtual 167, 3) := by decide +kernel
theorem dX12_crosses_34 : decode cX12_crosses 34 = .ok (.return_, 1) := by decide +kernel
theorem dX0_putCount_0 : decode cX0_putCount 0 = .ok (.iload_n 1, 1) := by decide +kernel
theorem dX0_putCount_1 : decode cX0_putCount 1 = .ok (.ifCond .ne 11, 3) := by decide +kernel
theorem dX0_putCount_4 : decode cX0_putCount 4 = .ok (.aload_n 0, 1) := by decide +kernel
theorem dX0_putCount_5 : decode cX0_putCount 5 = .ok (.iload_n 2, 1) := by decide +kernel
theorem dX0_putCount_6 : decode cX0_putCount 6 = .ok (.putfield 60, 3) := by decide +kernel
theorem dX0_putCount_9 : decode cX0_putCount 9 = .ok (.goto 8, 3) := by decide +kernel
theorem dX0_putCount_12 : decode cX0_putCount 12 = .ok (.aload_n 0, 1) := by decide +kernel
theorem dX0_putCount_13 : decode cX0_putCount 13 = .ok (.iload_n 2, 1) := by decide +kernel
theorem dX0_putCount_14 : decode cX0_putCount 14 = .ok (.putfield 63, 3) := by decide +kernel
theorem dX0_putCount_17 : decode cX0_putCount 17 = .ok (.return_, 1) := by decide +kernel
theorem dX2_begin_0 : decode cX2_begin 0 = .ok (.aload_n 0, 1) := by decide +kernel
theorem dX2_begin_1 : decode cX2_begin 1 = .ok (.getfield 26, 3) := by decide +kernel
theorem dX2_begin_4 : decode cX2_begin 4 = .ok (.iload_n 2, 1) := by decide +kernel
theorem dX2_begin_5 : decode cX2_begin 5 = .ok (.invokevirtual 166, 3) := by decide +kernel
theorem dX2_begin_8 : decode cX2_begin 8 = .ok (.ifCond .ne 14, 3) := by decide +kernel
theorem dX2_begin_11 : decode cX2_begin 11 = .ok (.aload_n 0, 1) := by decide +kernel
theorem dX2_begin_12 : decode cX2_begin 12 = .ok (.getfield 26, 3) := by decide +kernel
theorem dX2_begin_15 : decode cX2_begin 15 = .ok (.iload_n 3, 1) := by decide +kernel
theorem dX2_begin_16 : decode cX2_begin 16 = .ok (.invokevirtual 166, 3) := by decide +kernel
theorem dX2_begin_19 : decode cX2_begin 19 = .ok (.ifCond .eq 7, 3) := by decide +kernel
theorem dX2_begin_26 : decode cX2_begin 26 = .ok (.iconst 0, 1) := by decide +kernel
theorem dX2_begin_27 : decode cX2_begin 27 = .ok (.istore 4, 2) := by decide +kernel
theorem dX2_begin_29 : decode cX2_begin 29 = .ok (.iload 4, 2) := by decide +kernel
theorem dX2_begin_31 : decode cX2_begin 31 = .ok (.ifCond .eq 21, 3) := by decide +kernel
theorem dX2_begin_52 : decode cX2_begin 52 = .ok (.aload_n 0, 1) := by decide +kernel
theorem dX2_begin_53 : decode cX2_begin 53 = .ok (.getfield 26, 3) := by decide +kernel
theorem dX2_begin_56 : decode cX2_begin 56 = .ok (.iload_n 2, 1) := by decide +kernel
theorem dX2_begin_57 : decode cX2_begin 57 = .ok (.invokevirtual 172, 3) := by decide +kernel
theorem dX2_begin_60 : decode cX2_begin 60 = .ok (.istore 5, 2) := by decide +kernel
theorem dX2_begin_62 : decode cX2_begin 62 = .ok (.iload 4, 2) := by decide +kernel
theorem dX2_begin_64 : decode cX2_begin 64 = .ok (.ifCond .eq 33, 3) := by decide +kernel
theorem dX2_begin_97 : decode cX2_begin 97 = .ok (.iconst 0, 1) := by decide +kernel
theorem dX2_begin_98 : decode cX2_begin 98 = .ok (.istore 6, 2) := by decide +kernel
theorem dX2_begin_100 : decode cX2_begin 100 = .ok (.iload 6, 2) := by decide +kernel
theorem dX2_begin_102 : decode cX2_begin 102 = .ok (.ifCond .eq 41, 3) := by decide +kernel
theorem dX2_begin_143 : decode cX2_begin 143 = .ok (.iconst 0, 1) := by decide +kernel
theorem dX2_begin_144 : decode cX2_begin 144 = .ok (.istore 6, 2) := by decide +kernel
theorem dX2_begin_146 : decode cX2_begin 146 = .ok (.iload 6, 2) := by decide +kernel
theorem dX2_begin_148 : decode cX2_begin 148 = .ok (.ifCond .eq 35, 3) := by decide +kernel
theorem dX2_begin_183 : decode cX2_begin 183 = .ok (.aload_n 0, 1) := by decide +kernel
theorem dX2_begin_184 : decode cX2_begin 184 = .ok (.getfield 26, 3) := by decide +kernel
theorem dX2_begin_187 : decode cX2_begin 187 = .ok (.iload_n 1, 1) := by decide +kernel
theorem dX2_begin_188 : decode cX2_begin 188 = .ok (.iload_n 2, 1) := by decide +kernel
theorem dX2_begin_189 : decode cX2_begin 189 = .ok (.iload_n 3, 1) := by decide +kernel
theorem dX2_begin_190 : decode cX2_begin 190 = .ok (.invokevirtual 181, 3) := by decide +kernel
theorem dX2_begin_193 : decode cX2_begin 193 = .ok (.ireturn, 1) := by decide +kernel
theorem dX10_use_0 : decode cX10_use 0 = .ok (.iload_n 1, 1) := by decide +kernel
theorem dX10_use_1 : decode cX10_use 1 = .ok (.invokestatic 64, 3) := by decide +kernel
theorem dX10_use_4 : decode cX10_use 4 = .ok (.ifCond .eq 20, 3) := by decide +kernel
theorem dX10_use_7 : decode cX10_use 7 = .ok (.aload_n 0, 1) := by decide +kernel
theorem dX10_use_8 : decode cX10_use 8 = .ok (.getfield 35, 3) := by decide +kernel
theorem dX10_use_11 : decode cX10_use 11 = .ok (.iload_n 1, 1) := by decide +kernel
theorem dX10_use_12 : decode cX10_use 12 = .ok (.aload_n 0, 1) := by decide +kernel
theorem dX10_use_13 : decode cX10_use 13 = .ok (.dup, 1) := by decide +kernel
theorem dX10_use_14 : decode cX10_use 14 = .ok (.getfield 81, 3) := by decide +kernel
theorem dX10_use_17 : decode cX10_use 17 = .ok (.dup_x1, 1) := by decide +kernel
theorem dX10_use_18 : decode cX10_use 18 = .ok (.iconst 1, 1) := by decide +kernel
theorem dX10_use_19 : decode cX10_use 19 = .ok (.iadd, 1) := by decide +kernel
theorem dX10_use_20 : decode cX10_use 20 = .ok (.putfield 81, 3) := by decide +kernel
theorem dX10_use_23 : decode cX10_use 23 = .ok (.iastore, 1) := by decide +kernel
theorem dX10_use_24 : decode cX10_use 24 = .ok (.return_, 1) := by decide +kernel
theorem dX10_way_0 : decode cX10_way 0 = .ok (.iload_n 1, 1) := by decide +kernel
theorem dX10_way_1 : decode cX10_way 1 = .ok (.ifCond .le 24, 3) := by decide +kernel
theorem dX10_way_4 : decode cX10_way 4 = .ok (.iload_n 1, 1) := by decide +kernel
theorem dX10_way_5 : decode cX10_way 5 = .ok (.ldc 15, 2) := by decide +kernel
theorem dX10_way_7 : decode cX10_way 7 = .ok (.if_icmp .ge 18, 3) := by decide +kernel
theorem dX10_way_10 : decode cX10_way 10 = .ok (.aload_n 0, 1) := by decide +kernel
theorem dX10_way_11 : decode cX10_way 11 = .ok (.getfield 19, 3) := by decide +kernel
theorem dX10_way_14 : decode cX10_way 14 = .ok (.iload_n 1, 1) := by decide +kernel
theorem dX10_way_15 : decode cX10_way 15 = .ok (.laload, 1) := by decide +kernel
theorem dX10_way_16 : decode cX10_way 16 = .ok (.bipush 32, 2) := by decide +kernel
theorem dX10_way_18 : decode cX10_way 18 = .ok (.lshr, 1) := by decide +kernel
theorem dX10_way_19 : decode cX10_way 19 = .ok (.l2i, 1) := by decide +kernel
theorem dX10_way_20 : decode cX10_way 20 = .ok (.iconst 3, 1) := by decide +kernel
theorem dX10_way_21 : decode cX10_way 21 = .ok (.iand, 1) := by decide +kernel
theorem dX10_way_22 : decode cX10_way 22 = .ok (.goto 4, 3) := by decide +kernel
theorem dX10_way_26 : decode cX10_way 26 = .ok (.ireturn, 1) := by decide +kernel
theorem dX2_beginTask_0 : decode cX2_beginTask 0 = .ok (.aload_n 0, 1) := by decide +kernel
theorem dX2_beginTask_1 : decode cX2_beginTask 1 = .ok (.getfield 26, 3) := by decide +kernel
theorem dX2_beginTask_4 : decode cX2_beginTask 4 = .ok (.iload_n 1, 1) := by decide +kernel
theorem dX2_beginTask_5 : decode cX2_beginTask 5 = .ok (.invokevirtual 182, 3) := by decide +kernel
theorem dX2_beginTask_8 : decode cX2_beginTask 8 = .ok (.istore_n 2, 1) := by decide +kernel
theorem dX2_beginTask_9 : decode cX2_beginTask 9 = .ok (.aload_n 0, 1) := by decide +kernel
theorem dX2_beginTask_10 : decode cX2_beginTask 10 = .ok (.getfield 26, 3) := by decide +kernel
theorem dX2_beginTask_13 : decode cX2_beginTask 13 = .ok (.iload_n 1, 1) := by decide +kernel
theorem dX2_beginTask_14 : decode cX2_beginTask 14 = .ok (.invokevirtual 172, 3) := by decide +kernel
theorem dX2_beginTask_17 : decode cX2_beginTask 17 = .ok (.istore_n 3, 1) := by decide +kernel
theorem dX2_beginTask_18 : decode cX2_beginTask 18 = .ok (.aload_n 0, 1) := by decide +kernel
theorem dX2_beginTask_19 : decode cX2_beginTask 19 = .ok (.getfield 26, 3) := by decide +kernel
theorem dX2_beginTask_22 : decode cX2_beginTask 22 = .ok (.iload_n 1, 1) := by decide +kernel
theorem dX2_beginTask_23 : decode cX2_beginTask 23 = .ok (.invokevirtual 166, 3) := by decide +kernel
theorem dX2_beginTask_26 : decode cX2_beginTask 26 = .ok (.ifCond .ne 25, 3) := by decide +kernel
theorem dX2_beginTask_29 : decode cX2_beginTask 29 = .ok (.aload_n 0, 1) := by decide +kernel
theorem dX2_beginTask_30 : decode cX2_beginTask 30 = .ok (.getfield 26, 3) := by decide +kernel
theorem dX2_beginTask_33 : decode cX2_beginTask 33 = .ok (.iload_n 2, 1) := by decide +kernel
theorem dX2_beginTask_34 : decode cX2_beginTask 34 = .ok (.invokevirtual 166, 3) := by decide +kernel
theorem dX2_beginTask_37 : decode cX2_beginTask 37 = .ok (.ifCond .ne 14, 3) := by decide +kernel
theorem dX2_beginTask_40 : decode cX2_beginTask 40 = .ok (.aload_n 0, 1) := by decide +kernel
theorem dX2_beginTask_41 : decode cX2_beginTask 41 = .ok (.getfield 26, 3) := by decide +kernel
theorem dX2_beginTask_44 : decode cX2_beginTask 44 = .ok (.iload_n 3, 1) := by decide +kernel
theorem dX2_beginTask_45 : decode cX2_beginTask 45 = .ok (.invokevirtual 166, 3) := by decide +kernel
theorem dX2_beginTask_48 : decode cX2_beginTask 48 = .ok (.ifCond .eq 7, 3) := by decide +kernel
theorem dX2_beginTask_55 : decode cX2_beginTask 55 = .ok (.iconst 0, 1) := by decide +kernel
theorem dX2_beginTask_56 : decode cX2_beginTask 56 = .ok (.istore 4, 2) := by decide +kernel
theorem dX2_beginTask_58 : decode cX2_beginTask 58 = .ok (.iconst (-1), 1) := by decide +kernel
theorem dX2_beginTask_59 : decode cX2_beginTask 59 = .ok (.istore 5, 2) := by decide +kernel
theorem dX2_beginTask_61 : decode cX2_beginTask 61 = .ok (.iload 4, 2) := by decide +kernel
theorem dX2_beginTask_63 : decode cX2_beginTask 63 = .ok (.ifCond .ne 20, 3) := by decide +kernel
theorem dX2_beginTask_66 : decode cX2_beginTask 66 = .ok (.aload_n 0, 1) := by decide +kernel
theorem dX2_beginTask_67 : decode cX2_beginTask 67 = .ok (.getfield 26, 3) := by decide +kernel
theorem dX2_beginTask_70 : decode cX2_beginTask 70 = .ok (.iload_n 2, 1) := by decide +kernel
theorem dX2_beginTask_71 : decode cX2_beginTask 71 = .ok (.invokevirtual 114, 3) := by decide +kernel
theorem dX2_beginTask_74 : decode cX2_beginTask 74 = .ok (.ifCond .ne 9, 3) := by decide +kernel
theorem dX2_beginTask_83 : decode cX2_beginTask 83 = .ok (.iload 4, 2) := by decide +kernel
theorem dX2_beginTask_85 : decode cX2_beginTask 85 = .ok (.ifCond .ne 20, 3) := by decide +kernel
theorem dX2_beginTask_88 : decode cX2_beginTask 88 = .ok (.aload_n 0, 1) := by decide +kernel
theorem dX2_beginTask_89 : decode cX2_beginTask 89 = .ok (.getfield 26, 3) := by decide +kernel
theorem dX2_beginTask_92 : decode cX2_beginTask 92 = .ok (.iload_n 3, 1) := by decide +kernel
theorem dX2_beginTask_93 : decode cX2_beginTask 93 = .ok (.invokevirtual 114, 3) := by decide +kernel
theorem dX2_beginTask_96 : decode cX2_beginTask 96 = .ok (.ifCond .ne 9, 3) := by decide +kernel
theorem dX2_beginTask_105 : decode cX2_beginTask 105 = .ok (.iload 4, 2) := by decide +kernel
theorem dX2_beginTask_107 : decode cX2_beginTask 107 = .ok (.ifCond .eq 30, 3) := by decide +kernel
theorem dX2_beginTask_137 : decode cX2_beginTask 137 = .ok (.iload 4, 2) := by decide +kernel
theorem dX2_beginTask_139 : decode cX2_beginTask 139 = .ok (.ifCond .eq 19, 3) := by decide +kernel
theorem dX2_beginTask_158 : decode cX2_beginTask 158 = .ok (.iload 5, 2) := by decide +kernel
theorem dX2_beginTask_160 : decode cX2_beginTask 160 = .ok (.iconst (-1), 1) := by decide +kernel
theorem dX2_beginTask_161 : decode cX2_beginTask 161 = .ok (.if_icmp .eq 36, 3) := by decide +kernel
theorem dX2_beginTask_197 : decode cX2_beginTask 197 = .ok (.iload 5, 2) := by decide +kernel
theorem dX2_beginTask_199 : decode cX2_beginTask 199 = .ok (.iconst (-1), 1) := by decide +kernel
theorem dX2_beginTask_200 : decode cX2_beginTask 200 = .ok (.if_icmp .ne 14, 3) := by decide +kernel
theorem dX2_beginTask_203 : decode cX2_beginTask 203 = .ok (.aload_n 0, 1) := by decide +kernel
theorem dX2_beginTask_204 : decode cX2_beginTask 204 = .ok (.getfield 26, 3) := by decide +kernel
theorem dX2_beginTask_207 : decode cX2_beginTask 207 = .ok (.iload_n 1, 1) := by decide +kernel
theorem dX2_beginTask_208 : decode cX2_beginTask 208 = .ok (.invokevirtual 166, 3) := by decide +kernel
theorem dX2_beginTask_211 : decode cX2_beginTask 211 = .ok (.ifCond .eq 24, 3) := by decide +kernel
theorem dX2_beginTask_235 : decode cX2_beginTask 235 = .ok (.iload 4, 2) := by decide +kernel
theorem dX2_beginTask_237 : decode cX2_beginTask 237 = .ok (.ifCond .ne 42, 3) := by decide +kernel
theorem dX2_beginTask_240 : decode cX2_beginTask 240 = .ok (.aload_n 0, 1) := by decide +kernel
theorem dX2_beginTask_241 : decode cX2_beginTask 241 = .ok (.getfield 26, 3) := by decide +kernel
theorem dX2_beginTask_244 : decode cX2_beginTask 244 = .ok (.iload_n 2, 1) := by decide +kernel
theorem dX2_beginTask_245 : decode cX2_beginTask 245 = .ok (.invokevirtual 99, 3) := by decide +kernel
theorem dX2_beginTask_248 : decode cX2_beginTask 248 = .ok (.aload_n 0, 1) := by decide +kernel
theorem dX2_beginTask_249 : decode cX2_beginTask 249 = .ok (.getfield 26, 3) := by decide +kernel
theorem dX2_beginTask_252 : decode cX2_beginTask 252 = .ok (.iload_n 3, 1) := by decide +kernel
theorem dX2_beginTask_253 : decode cX2_beginTask 253 = .ok (.invokevirtual 99, 3) := by decide +kernel
theorem dX2_beginTask_256 : decode cX2_beginTask 256 = .ok (.aload_n 0, 1) := by decide +kernel
theorem dX2_beginTask_257 : decode cX2_beginTask 257 = .ok (.aload_n 0, 1) := by decide +kernel
theorem dX2_beginTask_258 : decode cX2_beginTask 258 = .ok (.getfield 26, 3) := by decide +kernel
theorem dX2_beginTask_261 : decode cX2_beginTask 261 = .ok (.iload_n 2, 1) := by decide +kernel
theorem dX2_beginTask_262 : decode cX2_beginTask 262 = .ok (.invokevirtual 175, 3) := by decide +kernel
theorem dX2_beginTask_265 : decode cX2_beginTask 265 = .ok (.aload_n 0, 1) := by decide +kernel
theorem dX2_beginTask_266 : decode cX2_beginTask 266 = .ok (.getfield 26, 3) := by decide +kernel
theorem dX2_beginTask_269 : decode cX2_beginTask 269 = .ok (.iload_n 3, 1) := by decide +kernel
theorem dX2_beginTask_270 : decode cX2_beginTask 270 = .ok (.invokevirtual 175, 3) := by decide +kernel
theorem dX2_beginTask_273 : decode cX2_beginTask 273 = .ok (.invokevirtual 163, 3) := by decide +kernel
theorem dX2_beginTask_276 : decode cX2_beginTask 276 = .ok (.goto 5, 3) := by decide +kernel
theorem dX2_beginTask_281 : decode cX2_beginTask 281 = .ok (.iconst 0, 1) := by decide +kernel
theorem dX2_beginTask_282 : decode cX2_beginTask 282 = .ok (.ireturn, 1) := by decide +kernel
theorem dX10_put_0 : decode cX10_put 0 = .ok (.iload_n 1, 1) := by decide +kernel
theorem dX10_put_1 : decode cX10_put 1 = .ok (.invokestatic 64, 3) := by decide +kernel
theorem dX10_put_4 : decode cX10_put 4 = .ok (.ifCond .ne 4, 3) := by decide +kernel
theorem dX10_put_8 : decode cX10_put 8 = .ok (.aload_n 0, 1) := by decide +kernel
theorem dX10_put_9 : decode cX10_put 9 = .ok (.getfield 16, 3) := by decide +kernel
theorem dX10_put_12 : decode cX10_put 12 = .ok (.iload_n 1, 1) := by decide +kernel
theorem dX10_put_13 : decode cX10_put 13 = .ok (.iload_n 2, 1) := by decide +kernel
theorem dX10_put_14 : decode cX10_put 14 = .ok (.invokestatic 104, 3) := by decide +kernel
theorem dX10_put_17 : decode cX10_put 17 = .ok (.aload_n 0, 1) := by decide +kernel
theorem dX10_put_18 : decode cX10_put 18 = .ok (.getfield 23, 3) := by decide +kernel
theorem dX10_put_21 : decode cX10_put 21 = .ok (.iload_n 1, 1) := by decide +kernel
theorem dX10_put_22 : decode cX10_put 22 = .ok (.aload_n 0, 1) := by decide +kernel
theorem dX10_put_23 : decode cX10_put 23 = .ok (.getfield 45, 3) := by decide +kernel
theorem dX10_put_26 : decode cX10_put 26 = .ok (.iload_n 2, 1) := by decide +kernel
theorem dX10_put_27 : decode cX10_put 27 = .ok (.invokevirtual 108, 3) := by decide +kernel
theorem dX10_put_30 : decode cX10_put 30 = .ok (.lastore, 1) := by decide +kernel
theorem dX10_put_31 : decode cX10_put 31 = .ok (.aload_n 0, 1) := by decide +kernel
theorem dX10_put_32 : decode cX10_put 32 = .ok (.getfield 26, 3) := by decide +kernel
theorem dX10_put_35 : decode cX10_put 35 = .ok (.iload_n 1, 1) := by decide +kernel
theorem dX10_put_36 : decode cX10_put 36 = .ok (.aload_n 0, 1) := by decide +kernel
theorem dX10_put_37 : decode cX10_put 37 = .ok (.getfield 45, 3) := by decide +kernel
theorem dX10_put_40 : decode cX10_put 40 = .ok (.iload_n 2, 1) := by decide +kernel
theorem dX10_put_41 : decode cX10_put 41 = .ok (.invokevirtual 108, 3) := by decide +kernel
theorem dX10_put_44 : decode cX10_put 44 = .ok (.aload_n 0, 1) := by decide +kernel
theorem dX10_put_45 : decode cX10_put 45 = .ok (.getfield 45, 3) := by decide +kernel
theorem dX10_put_48 : decode cX10_put 48 = .ok (.iload_n 2, 1) := by decide +kernel
theorem dX10_put_49 : decode cX10_put 49 = .ok (.invokevirtual 109, 3) := by decide +kernel
theorem dX10_put_52 : decode cX10_put 52 = .ok (.ladd, 1) := by decide +kernel
theorem dX10_put_53 : decode cX10_put 53 = .ok (.lastore, 1) := by decide +kernel
theorem dX10_put_54 : decode cX10_put 54 = .ok (.aload_n 0, 1) := by decide +kernel
theorem dX10_put_55 : decode cX10_put 55 = .ok (.getfield 29, 3) := by decide +kernel
theorem dX10_put_58 : decode cX10_put 58 = .ok (.iload_n 1, 1) := by decide +kernel
theorem dX10_put_59 : decode cX10_put 59 = .ok (.aload_n 0, 1) := by decide +kernel
theorem dX10_put_60 : decode cX10_put 60 = .ok (.getfield 45, 3) := by decide +kernel
theorem dX10_put_63 : decode cX10_put 63 = .ok (.iload_n 2, 1) := by decide +kernel
theorem dX10_put_64 : decode cX10_put 64 = .ok (.invokevirtual 110, 3) := by decide +kernel
theorem dX10_put_67 : decode cX10_put 67 = .ok (.ifCond .eq 8, 3) := by decide +kernel
theorem dX10_put_70 : decode cX10_put 70 = .ok (.bipush 6, 2) := by decide +kernel
theorem dX10_put_72 : decode cX10_put 72 = .ok (.goto 4, 3) := by decide +kernel
theorem dX10_put_75 : decode cX10_put 75 = .ok (.iconst 2, 1) := by decide +kernel
theorem dX10_put_76 : decode cX10_put 76 = .ok (.iastore, 1) := by decide +kernel
theorem dX10_put_77 : decode cX10_put 77 = .ok (.aload_n 0, 1) := by decide +kernel
theorem dX10_put_78 : decode cX10_put 78 = .ok (.getfield 35, 3) := by decide +kernel
theorem dX10_put_81 : decode cX10_put 81 = .ok (.iload_n 1, 1) := by decide +kernel
theorem dX10_put_82 : decode cX10_put 82 = .ok (.aload_n 0, 1) := by decide +kernel
theorem dX10_put_83 : decode cX10_put 83 = .ok (.dup, 1) := by decide +kernel
theorem dX10_put_84 : decode cX10_put 84 = .ok (.getfield 81, 3) := by decide +kernel
theorem dX10_put_87 : decode cX10_put 87 = .ok (.dup_x1, 1) := by decide +kernel
theorem dX10_put_88 : decode cX10_put 88 = .ok (.iconst 1, 1) := by decide +kernel
theorem dX10_put_89 : decode cX10_put 89 = .ok (.iadd, 1) := by decide +kernel
theorem dX10_put_90 : decode cX10_put 90 = .ok (.putfield 81, 3) := by decide +kernel
theorem dX10_put_93 : decode cX10_put 93 = .ok (.iastore, 1) := by decide +kernel
theorem dX10_put_94 : decode cX10_put 94 = .ok (.aload_n 0, 1) := by decide +kernel
theorem dX10_put_95 : decode cX10_put 95 = .ok (.getfield 45, 3) := by decide +kernel
theorem dX10_put_98 : decode cX10_put 98 = .ok (.iload_n 2, 1) := by decide +kernel
theorem dX10_put_99 : decode cX10_put 99 = .ok (.invokevirtual 113, 3) := by decide +kernel
theorem dX10_put_102 : decode cX10_put 102 = .ok (.sipush 254, 3) := by decide +kernel
theorem dX10_put_105 : decode cX10_put 105 = .ok (.if_icmp .le 17, 3) := by decide +kernel
theorem dX10_put_122 : decode cX10_put 122 = .ok (.aload_n 0, 1) := by decide +kernel
theorem dX10_put_123 : decode cX10_put 123 = .ok (.getfield 19, 3) := by decide +kernel
theorem dX10_put_126 : decode cX10_put 126 = .ok (.iload_n 1, 1) := by decide +kernel
theorem dX10_put_127 : decode cX10_put 127 = .ok (.lconst 0, 1) := by decide +kernel
theorem dX10_put_128 : decode cX10_put 128 = .ok (.lastore, 1) := by decide +kernel
theorem dX10_put_129 : decode cX10_put 129 = .ok (.goto 28, 3) := by decide +kernel
theorem dX10_put_157 : decode cX10_put 157 = .ok (.return_, 1) := by decide +kernel
theorem dX11_nodeAt_0 : decode cX11_nodeAt 0 = .ok (.iload_n 1, 1) := by decide +kernel
theorem dX11_nodeAt_1 : decode cX11_nodeAt 1 = .ok (.ifCond .lt 15, 3) := by decide +kernel
theorem dX11_nodeAt_4 : decode cX11_nodeAt 4 = .ok (.iload_n 1, 1) := by decide +kernel
theorem dX11_nodeAt_5 : decode cX11_nodeAt 5 = .ok (.aload_n 0, 1) := by decide +kernel
theorem dX11_nodeAt_6 : decode cX11_nodeAt 6 = .ok (.arraylength, 1) := by decide +kernel
theorem dX11_nodeAt_7 : decode cX11_nodeAt 7 = .ok (.if_icmp .ge 9, 3) := by decide +kernel
theorem dX11_nodeAt_10 : decode cX11_nodeAt 10 = .ok (.aload_n 0, 1) := by decide +kernel
theorem dX11_nodeAt_11 : decode cX11_nodeAt 11 = .ok (.iload_n 1, 1) := by decide +kernel
theorem dX11_nodeAt_12 : decode cX11_nodeAt 12 = .ok (.iaload, 1) := by decide +kernel
theorem dX11_nodeAt_13 : decode cX11_nodeAt 13 = .ok (.goto 4, 3) := by decide +kernel
theorem dX11_nodeAt_17 : decode cX11_nodeAt 17 = .ok (.ireturn, 1) := by decide +kernel
theorem dX2_atOnce_0 : decode cX2_atOnce 0 = .ok (.iload_n 3, 1) := by decide +kernel
theorem dX2_atOnce_1 : decode cX2_atOnce 1 = .ok (.ifCond .ne 31, 3) := by decide +kernel
theorem dX2_atOnce_4 : decode cX2_atOnce 4 = .ok (.iload_n 1, 1) := by decide +kernel
theorem dX2_atOnce_5 : decode cX2_atOnce 5 = .ok (.iconst 3, 1) := by decide +kernel
theorem dX2_atOnce_6 : decode cX2_atOnce 6 = .ok (.if_icmp .ne 24, 3) := by decide +kernel
theorem dX2_atOnce_9 : decode cX2_atOnce 9 = .ok (.aload_n 0, 1) := by decide +kernel
theorem dX2_atOnce_10 : decode cX2_atOnce 10 = .ok (.getfield 38, 3) := by decide +kernel
theorem dX2_atOnce_13 : decode cX2_atOnce 13 = .ok (.sipush 512, 3) := by decide +kernel
theorem dX2_atOnce_16 : decode cX2_atOnce 16 = .ok (.aload_n 0, 1) := by decide +kernel
theorem dX2_atOnce_17 : decode cX2_atOnce 17 = .ok (.getfield 38, 3) := by decide +kernel
theorem dX2_atOnce_20 : decode cX2_atOnce 20 = .ok (.iload_n 2, 1) := by decide +kernel
theorem dX2_atOnce_21 : decode cX2_atOnce 21 = .ok (.invokevirtual 263, 3) := by decide +kernel
theorem dX2_atOnce_24 : decode cX2_atOnce 24 = .ok (.invokevirtual 80, 3) := by decide +kernel
theorem dX2_atOnce_27 : decode cX2_atOnce 27 = .ok (.goto 4, 3) := by decide +kernel
theorem dX2_atOnce_31 : decode cX2_atOnce 31 = .ok (.ireturn, 1) := by decide +kernel
theorem dX2_atOnce_32 : decode cX2_atOnce 32 = .ok (.iload_n 2, 1) := by decide +kernel
theorem dX2_atOnce_33 : decode cX2_atOnce 33 = .ok (.ifCond .ne 37, 3) := by decide +kernel
theorem dX2_atOnce_36 : decode cX2_atOnce 36 = .ok (.iload_n 1, 1) := by decide +kernel
theorem dX2_atOnce_37 : decode cX2_atOnce 37 = .ok (.ifCond .ne 5, 3) := by decide +kernel
theorem dX2_atOnce_40 : decode cX2_atOnce 40 = .ok (.iload_n 3, 1) := by decide +kernel
theorem dX2_atOnce_41 : decode cX2_atOnce 41 = .ok (.ireturn, 1) := by decide +kernel
theorem dX2_atOnce_70 : decode cX2_atOnce 70 = .ok (.aload_n 0, 1) := by decide +kernel
theorem dX2_atOnce_71 : decode cX2_atOnce 71 = .ok (.getfield 38, 3) := by decide +kernel
theorem dX2_atOnce_74 : decode cX2_atOnce 74 = .ok (.iload_n 2, 1) := by decide +kernel
theorem dX2_atOnce_75 : decode cX2_atOnce 75 = .ok (.invokevirtual 266, 3) := by decide +kernel
theorem dX2_atOnce_78 : decode cX2_atOnce 78 = .ok (.istore 4, 2) := by decide +kernel
theorem dX2_atOnce_80 : decode cX2_atOnce 80 = .ok (.aload_n 0, 1) := by decide +kernel
theorem dX2_atOnce_81 : decode cX2_atOnce 81 = .ok (.getfield 38, 3) := by decide +kernel
theorem dX2_atOnce_84 : decode cX2_atOnce 84 = .ok (.iload_n 3, 1) := by decide +kernel
theorem dX2_atOnce_85 : decode cX2_atOnce 85 = .ok (.invokevirtual 266, 3) := by decide +kernel
theorem dX2_atOnce_88 : decode cX2_atOnce 88 = .ok (.istore 5, 2) := by decide +kernel
theorem dX2_atOnce_90 : decode cX2_atOnce 90 = .ok (.iload_n 1, 1) := by decide +kernel
theorem dX2_atOnce_91 : decode cX2_atOnce 91 = .ok (.iconst 3, 1) := by decide +kernel
theorem dX2_atOnce_92 : decode cX2_atOnce 92 = .ok (.if_icmp .ne 55, 3) := by decide +kernel
theorem dX2_atOnce_95 : decode cX2_atOnce 95 = .ok (.iload 4, 2) := by decide +kernel
theorem dX2_atOnce_97 : decode cX2_atOnce 97 = .ok (.sipush 768, 3) := by decide +kernel
theorem dX2_atOnce_100 : decode cX2_atOnce 100 = .ok (.if_icmp .ne 5, 3) := by decide +kernel
theorem dX2_atOnce_105 : decode cX2_atOnce 105 = .ok (.iload 4, 2) := by decide +kernel
theorem dX2_atOnce_107 : decode cX2_atOnce 107 = .ok (.sipush 512, 3) := by decide +kernel
theorem dX2_atOnce_110 : decode cX2_atOnce 110 = .ok (.if_icmp .ne 5, 3) := by decide +kernel
theorem dX2_atOnce_113 : decode cX2_atOnce 113 = .ok (.iload_n 3, 1) := by decide +kernel
theorem dX2_atOnce_114 : decode cX2_atOnce 114 = .ok (.ireturn, 1) := by decide +kernel
theorem dX2_atOnce_115 : decode cX2_atOnce 115 = .ok (.aload_n 0, 1) := by decide +kernel
theorem dX2_atOnce_116 : decode cX2_atOnce 116 = .ok (.getfield 38, 3) := by decide +kernel
theorem dX2_atOnce_119 : decode cX2_atOnce 119 = .ok (.iload_n 2, 1) := by decide +kernel
theorem dX2_atOnce_120 : decode cX2_atOnce 120 = .ok (.invokevirtual 269, 3) := by decide +kernel
theorem dX2_atOnce_123 : decode cX2_atOnce 123 = .ok (.lconst 0, 1) := by decide +kernel
theorem dX2_atOnce_124 : decode cX2_atOnce 124 = .ok (.lcmp, 1) := by decide +kernel
theorem dX2_atOnce_125 : decode cX2_atOnce 125 = .ok (.ifCond .ne 211, 3) := by decide +kernel
theorem dX2_atOnce_147 : decode cX2_atOnce 147 = .ok (.aload_n 0, 1) := by decide +kernel
theorem dX2_atOnce_148 : decode cX2_atOnce 148 = .ok (.getfield 38, 3) := by decide +kernel
theorem dX2_atOnce_151 : decode cX2_atOnce 151 = .ok (.iload_n 1, 1) := by decide +kernel
theorem dX2_atOnce_152 : decode cX2_atOnce 152 = .ok (.ifCond .ne 7, 3) := by decide +kernel
theorem dX2_atOnce_155 : decode cX2_atOnce 155 = .ok (.iload_n 3, 1) := by decide +kernel
theorem dX2_atOnce_156 : decode cX2_atOnce 156 = .ok (.goto 4, 3) := by decide +kernel
theorem dX2_atOnce_159 : decode cX2_atOnce 159 = .ok (.iload_n 2, 1) := by decide +kernel
theorem dX2_atOnce_160 : decode cX2_atOnce 160 = .ok (.invokevirtual 269, 3) := by decide +kernel
theorem dX2_atOnce_163 : decode cX2_atOnce 163 = .ok (.lconst 0, 1) := by decide +kernel
theorem dX2_atOnce_164 : decode cX2_atOnce 164 = .ok (.lcmp, 1) := by decide +kernel
theorem dX2_atOnce_165 : decode cX2_atOnce 165 = .ok (.ifCond .ne 95, 3) := by decide +kernel
theorem dX2_atOnce_168 : decode cX2_atOnce 168 = .ok (.iload_n 1, 1) := by decide +kernel
theorem dX2_atOnce_169 : decode cX2_atOnce 169 = .ok (.ifCond .ne 7, 3) := by decide +kernel
theorem dX2_atOnce_172 : decode cX2_atOnce 172 = .ok (.iload_n 2, 1) := by decide +kernel
theorem dX2_atOnce_173 : decode cX2_atOnce 173 = .ok (.goto 21, 3) := by decide +kernel
theorem dX2_atOnce_176 : decode cX2_atOnce 176 = .ok (.aload_n 0, 1) := by decide +kernel
theorem dX2_atOnce_177 : decode cX2_atOnce 177 = .ok (.getfield 38, 3) := by decide +kernel
theorem dX2_atOnce_180 : decode cX2_atOnce 180 = .ok (.sipush 768, 3) := by decide +kernel
theorem dX2_atOnce_183 : decode cX2_atOnce 183 = .ok (.aload_n 0, 1) := by decide +kernel
theorem dX2_atOnce_184 : decode cX2_atOnce 184 = .ok (.getfield 38, 3) := by decide +kernel
theorem dX2_atOnce_187 : decode cX2_atOnce 187 = .ok (.iload_n 3, 1) := by decide +kernel
theorem dX2_atOnce_188 : decode cX2_atOnce 188 = .ok (.invokevirtual 263, 3) := by decide +kernel
theorem dX2_atOnce_191 : decode cX2_atOnce 191 = .ok (.invokevirtual 80, 3) := by decide +kernel
theorem dX2_atOnce_194 : decode cX2_atOnce 194 = .ok (.istore 6, 2) := by decide +kernel
theorem dX2_atOnce_196 : decode cX2_atOnce 196 = .ok (.iload_n 1, 1) := by decide +kernel
theorem dX2_atOnce_197 : decode cX2_atOnce 197 = .ok (.ifCond .ne 7, 3) := by decide +kernel
theorem dX2_atOnce_200 : decode cX2_atOnce 200 = .ok (.iload_n 3, 1) := by decide +kernel
theorem dX2_atOnce_201 : decode cX2_atOnce 201 = .ok (.goto 4, 3) := by decide +kernel
theorem dX2_atOnce_204 : decode cX2_atOnce 204 = .ok (.iload_n 2, 1) := by decide +kernel
theorem dX2_atOnce_205 : decode cX2_atOnce 205 = .ok (.istore 7, 2) := by decide +kernel
theorem dX2_atOnce_207 : decode cX2_atOnce 207 = .ok (.aload_n 0, 1) := by decide +kernel
theorem dX2_atOnce_208 : decode cX2_atOnce 208 = .ok (.getfield 44, 3) := by decide +kernel
theorem dX2_atOnce_211 : decode cX2_atOnce 211 = .ok (.iload_n 1, 1) := by decide +kernel
theorem dX2_atOnce_212 : decode cX2_atOnce 212 = .ok (.iconst 1, 1) := by decide +kernel
theorem dX2_atOnce_213 : decode cX2_atOnce 213 = .ok (.if_icmp .ne 8, 3) := by decide +kernel
theorem dX2_atOnce_216 : decode cX2_atOnce 216 = .ok (.iload 6, 2) := by decide +kernel
theorem dX2_atOnce_218 : decode cX2_atOnce 218 = .ok (.goto 5, 3) := by decide +kernel
theorem dX2_atOnce_221 : decode cX2_atOnce 221 = .ok (.iload 7, 2) := by decide +kernel
theorem dX2_atOnce_223 : decode cX2_atOnce 223 = .ok (.iload_n 1, 1) := by decide +kernel
theorem dX2_atOnce_224 : decode cX2_atOnce 224 = .ok (.iconst 1, 1) := by decide +kernel
theorem dX2_atOnce_225 : decode cX2_atOnce 225 = .ok (.if_icmp .ne 8, 3) := by decide +kernel
theorem dX2_atOnce_228 : decode cX2_atOnce 228 = .ok (.iload 7, 2) := by decide +kernel
theorem dX2_atOnce_230 : decode cX2_atOnce 230 = .ok (.goto 5, 3) := by decide +kernel
theorem dX2_atOnce_233 : decode cX2_atOnce 233 = .ok (.iload 6, 2) := by decide +kernel
theorem dX2_atOnce_235 : decode cX2_atOnce 235 = .ok (.invokevirtual 211, 3) := by decide +kernel
theorem dX2_atOnce_238 : decode cX2_atOnce 238 = .ok (.aload_n 0, 1) := by decide +kernel
theorem dX2_atOnce_239 : decode cX2_atOnce 239 = .ok (.getfield 44, 3) := by decide +kernel
theorem dX2_atOnce_242 : decode cX2_atOnce 242 = .ok (.aload_n 0, 1) := by decide +kernel
theorem dX2_atOnce_243 : decode cX2_atOnce 243 = .ok (.getfield 44, 3) := by decide +kernel
theorem dX2_atOnce_246 : decode cX2_atOnce 246 = .ok (.getfield 214, 3) := by decide +kernel
theorem dX2_atOnce_249 : decode cX2_atOnce 249 = .ok (.aload_n 0, 1) := by decide +kernel
theorem dX2_atOnce_250 : decode cX2_atOnce 250 = .ok (.getfield 44, 3) := by decide +kernel
theorem dX2_atOnce_253 : decode cX2_atOnce 253 = .ok (.getfield 217, 3) := by decide +kernel
theorem dX2_atOnce_256 : decode cX2_atOnce 256 = .ok (.invokevirtual 207, 3) := by decide +kernel
theorem dX2_atOnce_259 : decode cX2_atOnce 259 = .ok (.ireturn, 1) := by decide +kernel
theorem dX2_atOnce_260 : decode cX2_atOnce 260 = .ok (.iload 5, 2) := by decide +kernel
theorem dX2_atOnce_262 : decode cX2_atOnce 262 = .ok (.sipush 768, 3) := by decide +kernel
theorem dX2_atOnce_265 : decode cX2_atOnce 265 = .ok (.if_icmp .ne 5, 3) := by decide +kernel
theorem dX2_atOnce_270 : decode cX2_atOnce 270 = .ok (.iload 4, 2) := by decide +kernel
theorem dX2_atOnce_272 : decode cX2_atOnce 272 = .ok (.sipush 768, 3) := by decide +kernel
theorem dX2_atOnce_275 : decode cX2_atOnce 275 = .ok (.if_icmp .ne 30, 3) := by decide +kernel
theorem dX2_atOnce_278 : decode cX2_atOnce 278 = .ok (.iload_n 1, 1) := by decide +kernel
theorem dX2_atOnce_279 : decode cX2_atOnce 279 = .ok (.ifCond .ne 7, 3) := by decide +kernel
theorem dX2_atOnce_282 : decode cX2_atOnce 282 = .ok (.iload_n 3, 1) := by decide +kernel
theorem dX2_atOnce_283 : decode cX2_atOnce 283 = .ok (.goto 21, 3) := by decide +kernel
theorem dX2_atOnce_304 : decode cX2_atOnce 304 = .ok (.ireturn, 1) := by decide +kernel
theorem dX2_atOnce_305 : decode cX2_atOnce 305 = .ok (.iload 5, 2) := by decide +kernel
theorem dX2_atOnce_307 : decode cX2_atOnce 307 = .ok (.sipush 512, 3) := by decide +kernel
theorem dX2_atOnce_310 : decode cX2_atOnce 310 = .ok (.if_icmp .ne 26, 3) := by decide +kernel
theorem dX2_atOnce_313 : decode cX2_atOnce 313 = .ok (.iload_n 1, 1) := by decide +kernel
theorem dX2_atOnce_314 : decode cX2_atOnce 314 = .ok (.ifCond .ne 22, 3) := by decide +kernel
theorem dX2_atOnce_317 : decode cX2_atOnce 317 = .ok (.aload_n 0, 1) := by decide +kernel
theorem dX2_atOnce_318 : decode cX2_atOnce 318 = .ok (.getfield 38, 3) := by decide +kernel
theorem dX2_atOnce_321 : decode cX2_atOnce 321 = .ok (.sipush 512, 3) := by decide +kernel
theorem dX2_atOnce_324 : decode cX2_atOnce 324 = .ok (.aload_n 0, 1) := by decide +kernel
theorem dX2_atOnce_325 : decode cX2_atOnce 325 = .ok (.getfield 38, 3) := by decide +kernel
theorem dX2_atOnce_328 : decode cX2_atOnce 328 = .ok (.iload_n 2, 1) := by decide +kernel
theorem dX2_atOnce_329 : decode cX2_atOnce 329 = .ok (.invokevirtual 269, 3) := by decide +kernel
theorem dX2_atOnce_332 : decode cX2_atOnce 332 = .ok (.invokevirtual 80, 3) := by decide +kernel
theorem dX2_atOnce_335 : decode cX2_atOnce 335 = .ok (.ireturn, 1) := by decide +kernel
theorem dX2_atOnce_336 : decode cX2_atOnce 336 = .ok (.iload 4, 2) := by decide +kernel
theorem dX2_atOnce_338 : decode cX2_atOnce 338 = .ok (.iconst (-1), 1) := by decide +kernel
theorem dX2_atOnce_339 : decode cX2_atOnce 339 = .ok (.if_icmp .eq 9, 3) := by decide +kernel
theorem dX2_atOnce_342 : decode cX2_atOnce 342 = .ok (.iload 5, 2) := by decide +kernel
theorem dX2_atOnce_344 : decode cX2_atOnce 344 = .ok (.iconst (-1), 1) := by decide +kernel
theorem dX2_atOnce_345 : decode cX2_atOnce 345 = .ok (.if_icmp .ne 5, 3) := by decide +kernel
theorem dX2_atOnce_348 : decode cX2_atOnce 348 = .ok (.iconst (-1), 1) := by decide +kernel
theorem dX2_atOnce_349 : decode cX2_atOnce 349 = .ok (.ireturn, 1) := by decide +kernel
theorem dX2_atOnce_350 : decode cX2_atOnce 350 = .ok (.aload_n 0, 1) := by decide +kernel
theorem dX2_atOnce_351 : decode cX2_atOnce 351 = .ok (.getfield 38, 3) := by decide +kernel
theorem dX2_atOnce_354 : decode cX2_atOnce 354 = .ok (.iload_n 1, 1) := by decide +kernel
theorem dX2_atOnce_355 : decode cX2_atOnce 355 = .ok (.iload 4, 2) := by decide +kernel
theorem dX2_atOnce_357 : decode cX2_atOnce 357 = .ok (.iload 5, 2) := by decide +kernel
theorem dX2_atOnce_359 : decode cX2_atOnce 359 = .ok (.invokestatic 272, 3) := by decide +kernel
theorem dX2_atOnce_362 : decode cX2_atOnce 362 = .ok (.iload_n 1, 1) := by decide +kernel
theorem dX2_atOnce_363 : decode cX2_atOnce 363 = .ok (.ifCond .ne 14, 3) := by decide +kernel
theorem dX2_atOnce_366 : decode cX2_atOnce 366 = .ok (.aload_n 0, 1) := by decide +kernel
theorem dX2_atOnce_367 : decode cX2_atOnce 367 = .ok (.getfield 38, 3) := by decide +kernel
theorem dX2_atOnce_370 : decode cX2_atOnce 370 = .ok (.iload_n 2, 1) := by decide +kernel
theorem dX2_atOnce_371 : decode cX2_atOnce 371 = .ok (.invokevirtual 263, 3) := by decide +kernel
theorem dX2_atOnce_374 : decode cX2_atOnce 374 = .ok (.goto 11, 3) := by decide +kernel
theorem dX2_atOnce_377 : decode cX2_atOnce 377 = .ok (.aload_n 0, 1) := by decide +kernel
theorem dX2_atOnce_378 : decode cX2_atOnce 378 = .ok (.getfield 38, 3) := by decide +kernel
theorem dX2_atOnce_381 : decode cX2_atOnce 381 = .ok (.iload_n 2, 1) := by decide +kernel
theorem dX2_atOnce_382 : decode cX2_atOnce 382 = .ok (.invokevirtual 269, 3) := by decide +kernel
theorem dX2_atOnce_385 : decode cX2_atOnce 385 = .ok (.invokevirtual 80, 3) := by decide +kernel
theorem dX2_atOnce_388 : decode cX2_atOnce 388 = .ok (.ireturn, 1) := by decide +kernel
theorem dX2_remembered_0 : decode cX2_remembered 0 = .ok (.aload_n 0, 1) := by decide +kernel
theorem dX2_remembered_1 : decode cX2_remembered 1 = .ok (.iload_n 1, 1) := by decide +kernel
theorem dX2_remembered_2 : decode cX2_remembered 2 = .ok (.iload_n 2, 1) := by decide +kernel
theorem dX2_remembered_3 : decode cX2_remembered 3 = .ok (.invokevirtual 309, 3) := by decide +kernel
theorem dX2_remembered_6 : decode cX2_remembered 6 = .ok (.lstore_n 3, 1) := by decide +kernel
theorem dX2_remembered_7 : decode cX2_remembered 7 = .ok (.iconst 2, 1) := by decide +kernel
theorem dX2_remembered_8 : decode cX2_remembered 8 = .ok (.lload_n 3, 1) := by decide +kernel
theorem dX2_remembered_9 : decode cX2_remembered 9 = .ok (.l2i, 1) := by decide +kernel
theorem dX2_remembered_10 : decode cX2_remembered 10 = .ok (.ldc_w 312, 3) := by decide +kernel
theorem dX2_remembered_13 : decode cX2_remembered 13 = .ok (.iand, 1) := by decide +kernel
theorem dX2_remembered_14 : decode cX2_remembered 14 = .ok (.imul, 1) := by decide +kernel
theorem dX2_remembered_15 : decode cX2_remembered 15 = .ok (.istore 5, 2) := by decide +kernel
theorem dX2_remembered_17 : decode cX2_remembered 17 = .ok (.aload_n 0, 1) := by decide +kernel
theorem dX2_remembered_18 : decode cX2_remembered 18 = .ok (.getfield 38, 3) := by decide +kernel
theorem dX2_remembered_21 : decode cX2_remembered 21 = .ok (.getfield 313, 3) := by decide +kernel
theorem dX2_remembered_24 : decode cX2_remembered 24 = .ok (.astore 6, 2) := by decide +kernel
theorem dX2_remembered_26 : decode cX2_remembered 26 = .ok (.iload 5, 2) := by decide +kernel
theorem dX2_remembered_28 : decode cX2_remembered 28 = .ok (.ifCond .lt 22, 3) := by decide +kernel
theorem dX2_remembered_31 : decode cX2_remembered 31 = .ok (.iload 5, 2) := by decide +kernel
theorem dX2_remembered_33 : decode cX2_remembered 33 = .ok (.iconst 1, 1) := by decide +kernel
theorem dX2_remembered_34 : decode cX2_remembered 34 = .ok (.iadd, 1) := by decide +kernel
theorem dX2_remembered_35 : decode cX2_remembered 35 = .ok (.ldc_w 317, 3) := by decide +kernel
theorem dX2_remembered_38 : decode cX2_remembered 38 = .ok (.if_icmp .ge 12, 3) := by decide +kernel
theorem dX2_remembered_41 : decode cX2_remembered 41 = .ok (.ldc_w 317, 3) := by decide +kernel
theorem dX2_remembered_44 : decode cX2_remembered 44 = .ok (.aload 6, 2) := by decide +kernel
theorem dX2_remembered_46 : decode cX2_remembered 46 = .ok (.arraylength, 1) := by decide +kernel
theorem dX2_remembered_47 : decode cX2_remembered 47 = .ok (.if_icmp .le 5, 3) := by decide +kernel
theorem dX2_remembered_52 : decode cX2_remembered 52 = .ok (.ldc2_w 318, 3) := by decide +kernel
theorem dX2_remembered_55 : decode cX2_remembered 55 = .ok (.lload_n 3, 1) := by decide +kernel
theorem dX2_remembered_56 : decode cX2_remembered 56 = .ok (.bipush 17, 2) := by decide +kernel
theorem dX2_remembered_58 : decode cX2_remembered 58 = .ok (.lushr, 1) := by decide +kernel
theorem dX2_remembered_59 : decode cX2_remembered 59 = .ok (.lor, 1) := by decide +kernel
theorem dX2_remembered_60 : decode cX2_remembered 60 = .ok (.lstore 7, 2) := by decide +kernel
theorem dX2_remembered_62 : decode cX2_remembered 62 = .ok (.aload 6, 2) := by decide +kernel
theorem dX2_remembered_64 : decode cX2_remembered 64 = .ok (.iload 5, 2) := by decide +kernel
theorem dX2_remembered_66 : decode cX2_remembered 66 = .ok (.laload, 1) := by decide +kernel
theorem dX2_remembered_67 : decode cX2_remembered 67 = .ok (.bipush 21, 2) := by decide +kernel
theorem dX2_remembered_69 : decode cX2_remembered 69 = .ok (.lushr, 1) := by decide +kernel
theorem dX2_remembered_70 : decode cX2_remembered 70 = .ok (.lload 7, 2) := by decide +kernel
theorem dX2_remembered_72 : decode cX2_remembered 72 = .ok (.lcmp, 1) := by decide +kernel
theorem dX2_remembered_73 : decode cX2_remembered 73 = .ok (.ifCond .ne 14, 3) := by decide +kernel
theorem dX2_remembered_76 : decode cX2_remembered 76 = .ok (.aload 6, 2) := by decide +kernel
theorem dX2_remembered_78 : decode cX2_remembered 78 = .ok (.iload 5, 2) := by decide +kernel
theorem dX2_remembered_80 : decode cX2_remembered 80 = .ok (.laload, 1) := by decide +kernel
theorem dX2_remembered_81 : decode cX2_remembered 81 = .ok (.l2i, 1) := by decide +kernel
theorem dX2_remembered_82 : decode cX2_remembered 82 = .ok (.ldc_w 320, 3) := by decide +kernel
theorem dX2_remembered_85 : decode cX2_remembered 85 = .ok (.iand, 1) := by decide +kernel
theorem dX2_remembered_86 : decode cX2_remembered 86 = .ok (.ireturn, 1) := by decide +kernel
theorem dX2_remembered_87 : decode cX2_remembered 87 = .ok (.aload 6, 2) := by decide +kernel
theorem dX2_remembered_89 : decode cX2_remembered 89 = .ok (.iload 5, 2) := by decide +kernel
theorem dX2_remembered_91 : decode cX2_remembered 91 = .ok (.iconst 1, 1) := by decide +kernel
theorem dX2_remembered_92 : decode cX2_remembered 92 = .ok (.iadd, 1) := by decide +kernel
theorem dX2_remembered_93 : decode cX2_remembered 93 = .ok (.laload, 1) := by decide +kernel
theorem dX2_remembered_94 : decode cX2_remembered 94 = .ok (.bipush 21, 2) := by decide +kernel
theorem dX2_remembered_96 : decode cX2_remembered 96 = .ok (.lushr, 1) := by decide +kernel
theorem dX2_remembered_97 : decode cX2_remembered 97 = .ok (.lload 7, 2) := by decide +kernel
theorem dX2_remembered_99 : decode cX2_remembered 99 = .ok (.lcmp, 1) := by decide +kernel
theorem dX2_remembered_100 : decode cX2_remembered 100 = .ok (.ifCond .ne 18, 3) := by decide +kernel
theorem dX2_remembered_118 : decode cX2_remembered 118 = .ok (.iconst (-1), 1) := by decide +kernel
theorem dX2_remembered_119 : decode cX2_remembered 119 = .ok (.ireturn, 1) := by decide +kernel
theorem dX2_leafByLeaf_0 : decode cX2_leafByLeaf 0 = .ok (.aload_n 0, 1) := by decide +kernel
theorem dX2_leafByLeaf_1 : decode cX2_leafByLeaf 1 = .ok (.getfield 38, 3) := by decide +kernel
theorem dX2_leafByLeaf_4 : decode cX2_leafByLeaf 4 = .ok (.iload_n 2, 1) := by decide +kernel
theorem dX2_leafByLeaf_5 : decode cX2_leafByLeaf 5 = .ok (.invokevirtual 178, 3) := by decide +kernel
theorem dX2_leafByLeaf_8 : decode cX2_leafByLeaf 8 = .ok (.sipush 254, 3) := by decide +kernel
theorem dX2_leafByLeaf_11 : decode cX2_leafByLeaf 11 = .ok (.if_icmp .gt 17, 3) := by decide +kernel
theorem dX2_leafByLeaf_14 : decode cX2_leafByLeaf 14 = .ok (.aload_n 0, 1) := by decide +kernel
theorem dX2_leafByLeaf_15 : decode cX2_leafByLeaf 15 = .ok (.getfield 38, 3) := by decide +kernel
theorem dX2_leafByLeaf_18 : decode cX2_leafByLeaf 18 = .ok (.iload_n 3, 1) := by decide +kernel
theorem dX2_leafByLeaf_19 : decode cX2_leafByLeaf 19 = .ok (.invokevirtual 178, 3) := by decide +kernel
theorem dX2_leafByLeaf_22 : decode cX2_leafByLeaf 22 = .ok (.sipush 254, 3) := by decide +kernel
theorem dX2_leafByLeaf_25 : decode cX2_leafByLeaf 25 = .ok (.if_icmp .le 5, 3) := by decide +kernel
theorem dX2_leafByLeaf_30 : decode cX2_leafByLeaf 30 = .ok (.aload_n 0, 1) := by decide +kernel
theorem dX2_leafByLeaf_31 : decode cX2_leafByLeaf 31 = .ok (.iload_n 2, 1) := by decide +kernel
theorem dX2_leafByLeaf_32 : decode cX2_leafByLeaf 32 = .ok (.aload_n 0, 1) := by decide +kernel
theorem dX2_leafByLeaf_33 : decode cX2_leafByLeaf 33 = .ok (.getfield 53, 3) := by decide +kernel
theorem dX2_leafByLeaf_36 : decode cX2_leafByLeaf 36 = .ok (.invokevirtual 275, 3) := by decide +kernel
theorem dX2_leafByLeaf_39 : decode cX2_leafByLeaf 39 = .ok (.aload_n 0, 1) := by decide +kernel
theorem dX2_leafByLeaf_40 : decode cX2_leafByLeaf 40 = .ok (.iload_n 3, 1) := by decide +kernel
theorem dX2_leafByLeaf_41 : decode cX2_leafByLeaf 41 = .ok (.aload_n 0, 1) := by decide +kernel
theorem dX2_leafByLeaf_42 : decode cX2_leafByLeaf 42 = .ok (.getfield 57, 3) := by decide +kernel
theorem dX2_leafByLeaf_45 : decode cX2_leafByLeaf 45 = .ok (.invokevirtual 275, 3) := by decide +kernel
theorem dX2_leafByLeaf_48 : decode cX2_leafByLeaf 48 = .ok (.lconst 0, 1) := by decide +kernel
theorem dX2_leafByLeaf_49 : decode cX2_leafByLeaf 49 = .ok (.lstore 4, 2) := by decide +kernel
theorem dX2_leafByLeaf_51 : decode cX2_leafByLeaf 51 = .ok (.iconst 0, 1) := by decide +kernel
theorem dX2_leafByLeaf_52 : decode cX2_leafByLeaf 52 = .ok (.istore 6, 2) := by decide +kernel
theorem dX2_leafByLeaf_54 : decode cX2_leafByLeaf 54 = .ok (.iload 6, 2) := by decide +kernel
theorem dX2_leafByLeaf_56 : decode cX2_leafByLeaf 56 = .ok (.sipush 508, 3) := by decide +kernel
theorem dX2_leafByLeaf_59 : decode cX2_leafByLeaf 59 = .ok (.if_icmp .ge 272, 3) := by decide +kernel
theorem dX2_leafByLeaf_62 : decode cX2_leafByLeaf 62 = .ok (.aload_n 0, 1) := by decide +kernel
theorem dX2_leafByLeaf_63 : decode cX2_leafByLeaf 63 = .ok (.getfield 53, 3) := by decide +kernel
theorem dX2_leafByLeaf_66 : decode cX2_leafByLeaf 66 = .ok (.getfield 279, 3) := by decide +kernel
theorem dX2_leafByLeaf_69 : decode cX2_leafByLeaf 69 = .ok (.aload_n 0, 1) := by decide +kernel
theorem dX2_leafByLeaf_70 : decode cX2_leafByLeaf 70 = .ok (.getfield 57, 3) := by decide +kernel
theorem dX2_leafByLeaf_73 : decode cX2_leafByLeaf 73 = .ok (.getfield 279, 3) := by decide +kernel
theorem dX2_leafByLeaf_76 : decode cX2_leafByLeaf 76 = .ok (.iadd, 1) := by decide +kernel
theorem dX2_leafByLeaf_77 : decode cX2_leafByLeaf 77 = .ok (.ifCond .le 254, 3) := by decide +kernel
theorem dX2_leafByLeaf_80 : decode cX2_leafByLeaf 80 = .ok (.aload_n 0, 1) := by decide +kernel
theorem dX2_leafByLeaf_81 : decode cX2_leafByLeaf 81 = .ok (.getfield 53, 3) := by decide +kernel
theorem dX2_leafByLeaf_84 : decode cX2_leafByLeaf 84 = .ok (.invokevirtual 280, 3) := by decide +kernel
theorem dX2_leafByLeaf_87 : decode cX2_leafByLeaf 87 = .ok (.iconst 1, 1) := by decide +kernel
theorem dX2_leafByLeaf_88 : decode cX2_leafByLeaf 88 = .ok (.isub, 1) := by decide +kernel
theorem dX2_leafByLeaf_89 : decode cX2_leafByLeaf 89 = .ok (.istore 7, 2) := by decide +kernel
theorem dX2_leafByLeaf_91 : decode cX2_leafByLeaf 91 = .ok (.aload_n 0, 1) := by decide +kernel
theorem dX2_leafByLeaf_92 : decode cX2_leafByLeaf 92 = .ok (.getfield 57, 3) := by decide +kernel
theorem dX2_leafByLeaf_95 : decode cX2_leafByLeaf 95 = .ok (.invokevirtual 280, 3) := by decide +kernel
theorem dX2_leafByLeaf_98 : decode cX2_leafByLeaf 98 = .ok (.iconst 1, 1) := by decide +kernel
theorem dX2_leafByLeaf_99 : decode cX2_leafByLeaf 99 = .ok (.isub, 1) := by decide +kernel
theorem dX2_leafByLeaf_100 : decode cX2_leafByLeaf 100 = .ok (.istore 8, 2) := by decide +kernel
theorem dX2_leafByLeaf_102 : decode cX2_leafByLeaf 102 = .ok (.iload_n 1, 1) := by decide +kernel
theorem dX2_leafByLeaf_103 : decode cX2_leafByLeaf 103 = .ok (.iconst 1, 1) := by decide +kernel
theorem dX2_leafByLeaf_104 : decode cX2_leafByLeaf 104 = .ok (.iload 7, 2) := by decide +kernel
theorem dX2_leafByLeaf_106 : decode cX2_leafByLeaf 106 = .ok (.iload 8, 2) := by decide +kernel
theorem dX2_leafByLeaf_108 : decode cX2_leafByLeaf 108 = .ok (.invokestatic 284, 3) := by decide +kernel
theorem dX2_leafByLeaf_111 : decode cX2_leafByLeaf 111 = .ok (.istore 9, 2) := by decide +kernel
theorem dX2_leafByLeaf_113 : decode cX2_leafByLeaf 113 = .ok (.iload_n 1, 1) := by decide +kernel
theorem dX2_leafByLeaf_114 : decode cX2_leafByLeaf 114 = .ok (.iconst 0, 1) := by decide +kernel
theorem dX2_leafByLeaf_115 : decode cX2_leafByLeaf 115 = .ok (.iload 7, 2) := by decide +kernel
theorem dX2_leafByLeaf_117 : decode cX2_leafByLeaf 117 = .ok (.iload 8, 2) := by decide +kernel
theorem dX2_leafByLeaf_119 : decode cX2_leafByLeaf 119 = .ok (.invokestatic 284, 3) := by decide +kernel
theorem dX2_leafByLeaf_122 : decode cX2_leafByLeaf 122 = .ok (.istore 10, 2) := by decide +kernel
theorem dX2_leafByLeaf_124 : decode cX2_leafByLeaf 124 = .ok (.iload 9, 2) := by decide +kernel
theorem dX2_leafByLeaf_126 : decode cX2_leafByLeaf 126 = .ok (.ifCond .ne 26, 3) := by decide +kernel
theorem dX2_leafByLeaf_129 : decode cX2_leafByLeaf 129 = .ok (.iload 10, 2) := by decide +kernel
theorem dX2_leafByLeaf_131 : decode cX2_leafByLeaf 131 = .ok (.ifCond .ne 31, 3) := by decide +kernel
theorem dX2_leafByLeaf_134 : decode cX2_leafByLeaf 134 = .ok (.aload_n 0, 1) := by decide +kernel
theorem dX2_leafByLeaf_135 : decode cX2_leafByLeaf 135 = .ok (.getfield 53, 3) := by decide +kernel
theorem dX2_leafByLeaf_138 : decode cX2_leafByLeaf 138 = .ok (.invokevirtual 288, 3) := by decide +kernel
theorem dX2_leafByLeaf_141 : decode cX2_leafByLeaf 141 = .ok (.aload_n 0, 1) := by decide +kernel
theorem dX2_leafByLeaf_142 : decode cX2_leafByLeaf 142 = .ok (.getfield 57, 3) := by decide +kernel
theorem dX2_leafByLeaf_145 : decode cX2_leafByLeaf 145 = .ok (.invokevirtual 288, 3) := by decide +kernel
theorem dX2_leafByLeaf_148 : decode cX2_leafByLeaf 148 = .ok (.lcmp, 1) := by decide +kernel
theorem dX2_leafByLeaf_149 : decode cX2_leafByLeaf 149 = .ok (.ifCond .ge 13, 3) := by decide +kernel
theorem dX2_leafByLeaf_152 : decode cX2_leafByLeaf 152 = .ok (.aload_n 0, 1) := by decide +kernel
theorem dX2_leafByLeaf_153 : decode cX2_leafByLeaf 153 = .ok (.getfield 53, 3) := by decide +kernel
theorem dX2_leafByLeaf_156 : decode cX2_leafByLeaf 156 = .ok (.invokevirtual 288, 3) := by decide +kernel
theorem dX2_leafByLeaf_159 : decode cX2_leafByLeaf 159 = .ok (.goto 10, 3) := by decide +kernel
theorem dX2_leafByLeaf_162 : decode cX2_leafByLeaf 162 = .ok (.aload_n 0, 1) := by decide +kernel
theorem dX2_leafByLeaf_163 : decode cX2_leafByLeaf 163 = .ok (.getfield 57, 3) := by decide +kernel
theorem dX2_leafByLeaf_166 : decode cX2_leafByLeaf 166 = .ok (.invokevirtual 288, 3) := by decide +kernel
theorem dX2_leafByLeaf_169 : decode cX2_leafByLeaf 169 = .ok (.lstore 11, 2) := by decide +kernel
theorem dX2_leafByLeaf_171 : decode cX2_leafByLeaf 171 = .ok (.iload 9, 2) := by decide +kernel
theorem dX2_leafByLeaf_173 : decode cX2_leafByLeaf 173 = .ok (.ifCond .ne 8, 3) := by decide +kernel
theorem dX2_leafByLeaf_176 : decode cX2_leafByLeaf 176 = .ok (.iload 10, 2) := by decide +kernel
theorem dX2_leafByLeaf_178 : decode cX2_leafByLeaf 178 = .ok (.ifCond .eq 24, 3) := by decide +kernel
theorem dX2_leafByLeaf_181 : decode cX2_leafByLeaf 181 = .ok (.iload_n 1, 1) := by decide +kernel
theorem dX2_leafByLeaf_182 : decode cX2_leafByLeaf 182 = .ok (.iload 9, 2) := by decide +kernel
theorem dX2_leafByLeaf_184 : decode cX2_leafByLeaf 184 = .ok (.iload 9, 2) := by decide +kernel
theorem dX2_leafByLeaf_186 : decode cX2_leafByLeaf 186 = .ok (.ifCond .eq 8, 3) := by decide +kernel
theorem dX2_leafByLeaf_189 : decode cX2_leafByLeaf 189 = .ok (.iload 7, 2) := by decide +kernel
theorem dX2_leafByLeaf_191 : decode cX2_leafByLeaf 191 = .ok (.goto 5, 3) := by decide +kernel
theorem dX2_leafByLeaf_194 : decode cX2_leafByLeaf 194 = .ok (.iload 8, 2) := by decide +kernel
theorem dX2_leafByLeaf_196 : decode cX2_leafByLeaf 196 = .ok (.invokestatic 292, 3) := by decide +kernel
theorem dX2_leafByLeaf_199 : decode cX2_leafByLeaf 199 = .ok (.goto 11, 3) := by decide +kernel
theorem dX2_leafByLeaf_202 : decode cX2_leafByLeaf 202 = .ok (.iload_n 1, 1) := by decide +kernel
theorem dX2_leafByLeaf_203 : decode cX2_leafByLeaf 203 = .ok (.iload 7, 2) := by decide +kernel
theorem dX2_leafByLeaf_205 : decode cX2_leafByLeaf 205 = .ok (.iload 8, 2) := by decide +kernel
theorem dX2_leafByLeaf_207 : decode cX2_leafByLeaf 207 = .ok (.invokestatic 272, 3) := by decide +kernel
theorem dX2_leafByLeaf_210 : decode cX2_leafByLeaf 210 = .ok (.istore 13, 2) := by decide +kernel
theorem dX2_leafByLeaf_212 : decode cX2_leafByLeaf 212 = .ok (.iload 10, 2) := by decide +kernel
theorem dX2_leafByLeaf_214 : decode cX2_leafByLeaf 214 = .ok (.ifCond .ne 12, 3) := by decide +kernel
theorem dX2_leafByLeaf_217 : decode cX2_leafByLeaf 217 = .ok (.aload_n 0, 1) := by decide +kernel
theorem dX2_leafByLeaf_218 : decode cX2_leafByLeaf 218 = .ok (.getfield 53, 3) := by decide +kernel
theorem dX2_leafByLeaf_221 : decode cX2_leafByLeaf 221 = .ok (.lload 11, 2) := by decide +kernel
theorem dX2_leafByLeaf_223 : decode cX2_leafByLeaf 223 = .ok (.invokevirtual 296, 3) := by decide +kernel
theorem dX2_leafByLeaf_226 : decode cX2_leafByLeaf 226 = .ok (.iload 9, 2) := by decide +kernel
theorem dX2_leafByLeaf_228 : decode cX2_leafByLeaf 228 = .ok (.ifCond .ne 12, 3) := by decide +kernel
theorem dX2_leafByLeaf_231 : decode cX2_leafByLeaf 231 = .ok (.aload_n 0, 1) := by decide +kernel
theorem dX2_leafByLeaf_232 : decode cX2_leafByLeaf 232 = .ok (.getfield 57, 3) := by decide +kernel
theorem dX2_leafByLeaf_235 : decode cX2_leafByLeaf 235 = .ok (.lload 11, 2) := by decide +kernel
theorem dX2_leafByLeaf_237 : decode cX2_leafByLeaf 237 = .ok (.invokevirtual 296, 3) := by decide +kernel
theorem dX2_leafByLeaf_240 : decode cX2_leafByLeaf 240 = .ok (.iload 13, 2) := by decide +kernel
theorem dX2_leafByLeaf_242 : decode cX2_leafByLeaf 242 = .ok (.sipush 512, 3) := by decide +kernel
theorem dX2_leafByLeaf_245 : decode cX2_leafByLeaf 245 = .ok (.if_icmp .ne 10, 3) := by decide +kernel
theorem dX2_leafByLeaf_248 : decode cX2_leafByLeaf 248 = .ok (.lload 4, 2) := by decide +kernel
theorem dX2_leafByLeaf_250 : decode cX2_leafByLeaf 250 = .ok (.lload 11, 2) := by decide +kernel
theorem dX2_leafByLeaf_252 : decode cX2_leafByLeaf 252 = .ok (.ladd, 1) := by decide +kernel
theorem dX2_leafByLeaf_253 : decode cX2_leafByLeaf 253 = .ok (.lstore 4, 2) := by decide +kernel
theorem dX2_leafByLeaf_255 : decode cX2_leafByLeaf 255 = .ok (.iload 13, 2) := by decide +kernel
theorem dX2_leafByLeaf_257 : decode cX2_leafByLeaf 257 = .ok (.sipush 512, 3) := by decide +kernel
theorem dX2_leafByLeaf_260 : decode cX2_leafByLeaf 260 = .ok (.if_icmp .le 31, 3) := by decide +kernel
theorem dX2_leafByLeaf_263 : decode cX2_leafByLeaf 263 = .ok (.lload 4, 2) := by decide +kernel
theorem dX2_leafByLeaf_265 : decode cX2_leafByLeaf 265 = .ok (.lconst 0, 1) := by decide +kernel
theorem dX2_leafByLeaf_266 : decode cX2_leafByLeaf 266 = .ok (.lcmp, 1) := by decide +kernel
theorem dX2_leafByLeaf_267 : decode cX2_leafByLeaf 267 = .ok (.ifCond .le 24, 3) := by decide +kernel
theorem dX2_leafByLeaf_270 : decode cX2_leafByLeaf 270 = .ok (.aload_n 0, 1) := by decide +kernel
theorem dX2_leafByLeaf_271 : decode cX2_leafByLeaf 271 = .ok (.getfield 44, 3) := by decide +kernel
theorem dX2_leafByLeaf_274 : decode cX2_leafByLeaf 274 = .ok (.sipush 513, 3) := by decide +kernel
theorem dX2_leafByLeaf_277 : decode cX2_leafByLeaf 277 = .ok (.lload 4, 2) := by decide +kernel
theorem dX2_leafByLeaf_279 : decode cX2_leafByLeaf 279 = .ok (.sipush 513, 3) := by decide +kernel
theorem dX2_leafByLeaf_282 : decode cX2_leafByLeaf 282 = .ok (.invokestatic 198, 3) := by decide +kernel
theorem dX2_leafByLeaf_285 : decode cX2_leafByLeaf 285 = .ok (.invokevirtual 201, 3) := by decide +kernel
theorem dX2_leafByLeaf_288 : decode cX2_leafByLeaf 288 = .ok (.lconst 0, 1) := by decide +kernel
theorem dX2_leafByLeaf_289 : decode cX2_leafByLeaf 289 = .ok (.lstore 4, 2) := by decide +kernel
theorem dX2_leafByLeaf_291 : decode cX2_leafByLeaf 291 = .ok (.iload 13, 2) := by decide +kernel
theorem dX2_leafByLeaf_293 : decode cX2_leafByLeaf 293 = .ok (.iconst (-1), 1) := by decide +kernel
theorem dX2_leafByLeaf_294 : decode cX2_leafByLeaf 294 = .ok (.if_icmp .eq 31, 3) := by decide +kernel
theorem dX2_leafByLeaf_297 : decode cX2_leafByLeaf 297 = .ok (.iload 13, 2) := by decide +kernel
theorem dX2_leafByLeaf_299 : decode cX2_leafByLeaf 299 = .ok (.sipush 512, 3) := by decide +kernel
theorem dX2_leafByLeaf_302 : decode cX2_leafByLeaf 302 = .ok (.if_icmp .eq 23, 3) := by decide +kernel
theorem dX2_leafByLeaf_305 : decode cX2_leafByLeaf 305 = .ok (.aload_n 0, 1) := by decide +kernel
theorem dX2_leafByLeaf_306 : decode cX2_leafByLeaf 306 = .ok (.getfield 44, 3) := by decide +kernel
theorem dX2_leafByLeaf_309 : decode cX2_leafByLeaf 309 = .ok (.iload 13, 2) := by decide +kernel
theorem dX2_leafByLeaf_311 : decode cX2_leafByLeaf 311 = .ok (.iconst 1, 1) := by decide +kernel
theorem dX2_leafByLeaf_312 : decode cX2_leafByLeaf 312 = .ok (.iadd, 1) := by decide +kernel
theorem dX2_leafByLeaf_313 : decode cX2_leafByLeaf 313 = .ok (.lload 11, 2) := by decide +kernel
theorem dX2_leafByLeaf_315 : decode cX2_leafByLeaf 315 = .ok (.iload 13, 2) := by decide +kernel
theorem dX2_leafByLeaf_317 : decode cX2_leafByLeaf 317 = .ok (.iconst 1, 1) := by decide +kernel
theorem dX2_leafByLeaf_318 : decode cX2_leafByLeaf 318 = .ok (.iadd, 1) := by decide +kernel
theorem dX2_leafByLeaf_319 : decode cX2_leafByLeaf 319 = .ok (.invokestatic 198, 3) := by decide +kernel
theorem dX2_leafByLeaf_322 : decode cX2_leafByLeaf 322 = .ok (.invokevirtual 201, 3) := by decide +kernel
theorem dX2_leafByLeaf_325 : decode cX2_leafByLeaf 325 = .ok (.iinc 6 1, 3) := by decide +kernel
theorem dX2_leafByLeaf_328 : decode cX2_leafByLeaf 328 = .ok (.goto (-274), 3) := by decide +kernel
theorem dX2_leafByLeaf_331 : decode cX2_leafByLeaf 331 = .ok (.lload 4, 2) := by decide +kernel
theorem dX2_leafByLeaf_333 : decode cX2_leafByLeaf 333 = .ok (.lconst 0, 1) := by decide +kernel
theorem dX2_leafByLeaf_334 : decode cX2_leafByLeaf 334 = .ok (.lcmp, 1) := by decide +kernel
theorem dX2_leafByLeaf_335 : decode cX2_leafByLeaf 335 = .ok (.ifCond .le 21, 3) := by decide +kernel
theorem dX2_leafByLeaf_338 : decode cX2_leafByLeaf 338 = .ok (.aload_n 0, 1) := by decide +kernel
theorem dX2_leafByLeaf_339 : decode cX2_leafByLeaf 339 = .ok (.getfield 44, 3) := by decide +kernel
theorem dX2_leafByLeaf_342 : decode cX2_leafByLeaf 342 = .ok (.sipush 513, 3) := by decide +kernel
theorem dX2_leafByLeaf_345 : decode cX2_leafByLeaf 345 = .ok (.lload 4, 2) := by decide +kernel
theorem dX2_leafByLeaf_347 : decode cX2_leafByLeaf 347 = .ok (.sipush 513, 3) := by decide +kernel
theorem dX2_leafByLeaf_350 : decode cX2_leafByLeaf 350 = .ok (.invokestatic 198, 3) := by decide +kernel
theorem dX2_leafByLeaf_353 : decode cX2_leafByLeaf 353 = .ok (.invokevirtual 201, 3) := by decide +kernel
theorem dX2_leafByLeaf_356 : decode cX2_leafByLeaf 356 = .ok (.aload_n 0, 1) := by decide +kernel
theorem dX2_leafByLeaf_357 : decode cX2_leafByLeaf 357 = .ok (.getfield 44, 3) := by decide +kernel
theorem dX2_leafByLeaf_360 : decode cX2_leafByLeaf 360 = .ok (.aload_n 0, 1) := by decide +kernel
theorem dX2_leafByLeaf_361 : decode cX2_leafByLeaf 361 = .ok (.getfield 44, 3) := by decide +kernel
theorem dX2_leafByLeaf_364 : decode cX2_leafByLeaf 364 = .ok (.getfield 204, 3) := by decide +kernel
theorem dX2_leafByLeaf_367 : decode cX2_leafByLeaf 367 = .ok (.aload_n 0, 1) := by decide +kernel
theorem dX2_leafByLeaf_368 : decode cX2_leafByLeaf 368 = .ok (.getfield 44, 3) := by decide +kernel
theorem dX2_leafByLeaf_371 : decode cX2_leafByLeaf 371 = .ok (.getfield 204, 3) := by decide +kernel
theorem dX2_leafByLeaf_374 : decode cX2_leafByLeaf 374 = .ok (.invokevirtual 207, 3) := by decide +kernel
theorem dX2_leafByLeaf_377 : decode cX2_leafByLeaf 377 = .ok (.ireturn, 1) := by decide +kernel
theorem dX2_remember_0 : decode cX2_remember 0 = .ok (.aload_n 0, 1) := by decide +kernel
theorem dX2_remember_1 : decode cX2_remember 1 = .ok (.iload_n 1, 1) := by decide +kernel
theorem dX2_remember_2 : decode cX2_remember 2 = .ok (.iload_n 2, 1) := by decide +kernel
theorem dX2_remember_3 : decode cX2_remember 3 = .ok (.invokevirtual 309, 3) := by decide +kernel
theorem dX2_remember_6 : decode cX2_remember 6 = .ok (.lstore 4, 2) := by decide +kernel
theorem dX2_remember_8 : decode cX2_remember 8 = .ok (.iconst 2, 1) := by decide +kernel
theorem dX2_remember_9 : decode cX2_remember 9 = .ok (.lload 4, 2) := by decide +kernel
theorem dX2_remember_11 : decode cX2_remember 11 = .ok (.l2i, 1) := by decide +kernel
theorem dX2_remember_12 : decode cX2_remember 12 = .ok (.ldc_w 312, 3) := by decide +kernel
theorem dX2_remember_15 : decode cX2_remember 15 = .ok (.iand, 1) := by decide +kernel
theorem dX2_remember_16 : decode cX2_remember 16 = .ok (.imul, 1) := by decide +kernel
theorem dX2_remember_17 : decode cX2_remember 17 = .ok (.istore 6, 2) := by decide +kernel
theorem dX2_remember_19 : decode cX2_remember 19 = .ok (.aload_n 0, 1) := by decide +kernel
theorem dX2_remember_20 : decode cX2_remember 20 = .ok (.getfield 38, 3) := by decide +kernel
theorem dX2_remember_23 : decode cX2_remember 23 = .ok (.getfield 313, 3) := by decide +kernel
theorem dX2_remember_26 : decode cX2_remember 26 = .ok (.astore 7, 2) := by decide +kernel
theorem dX2_remember_28 : decode cX2_remember 28 = .ok (.aload_n 0, 1) := by decide +kernel
theorem dX2_remember_29 : decode cX2_remember 29 = .ok (.getfield 38, 3) := by decide +kernel
theorem dX2_remember_32 : decode cX2_remember 32 = .ok (.getfield 220, 3) := by decide +kernel
theorem dX2_remember_35 : decode cX2_remember 35 = .ok (.ifCond .ne 27, 3) := by decide +kernel
theorem dX2_remember_38 : decode cX2_remember 38 = .ok (.iload 6, 2) := by decide +kernel
theorem dX2_remember_40 : decode cX2_remember 40 = .ok (.ifCond .lt 22, 3) := by decide +kernel
theorem dX2_remember_43 : decode cX2_remember 43 = .ok (.iload 6, 2) := by decide +kernel
theorem dX2_remember_45 : decode cX2_remember 45 = .ok (.iconst 1, 1) := by decide +kernel
theorem dX2_remember_46 : decode cX2_remember 46 = .ok (.iadd, 1) := by decide +kernel
theorem dX2_remember_47 : decode cX2_remember 47 = .ok (.ldc_w 317, 3) := by decide +kernel
theorem dX2_remember_50 : decode cX2_remember 50 = .ok (.if_icmp .ge 12, 3) := by decide +kernel
theorem dX2_remember_53 : decode cX2_remember 53 = .ok (.ldc_w 317, 3) := by decide +kernel
theorem dX2_remember_56 : decode cX2_remember 56 = .ok (.aload 7, 2) := by decide +kernel
theorem dX2_remember_58 : decode cX2_remember 58 = .ok (.arraylength, 1) := by decide +kernel
theorem dX2_remember_59 : decode cX2_remember 59 = .ok (.if_icmp .le 4, 3) := by decide +kernel
theorem dX2_remember_63 : decode cX2_remember 63 = .ok (.aload 7, 2) := by decide +kernel
theorem dX2_remember_65 : decode cX2_remember 65 = .ok (.iload 6, 2) := by decide +kernel
theorem dX2_remember_67 : decode cX2_remember 67 = .ok (.iconst 1, 1) := by decide +kernel
theorem dX2_remember_68 : decode cX2_remember 68 = .ok (.iadd, 1) := by decide +kernel
theorem dX2_remember_69 : decode cX2_remember 69 = .ok (.aload 7, 2) := by decide +kernel
theorem dX2_remember_71 : decode cX2_remember 71 = .ok (.iload 6, 2) := by decide +kernel
theorem dX2_remember_73 : decode cX2_remember 73 = .ok (.laload, 1) := by decide +kernel
theorem dX2_remember_74 : decode cX2_remember 74 = .ok (.lastore, 1) := by decide +kernel
theorem dX2_remember_75 : decode cX2_remember 75 = .ok (.aload 7, 2) := by decide +kernel
theorem dX2_remember_77 : decode cX2_remember 77 = .ok (.iload 6, 2) := by decide +kernel
theorem dX2_remember_79 : decode cX2_remember 79 = .ok (.ldc2_w 318, 3) := by decide +kernel
theorem dX2_remember_82 : decode cX2_remember 82 = .ok (.lload 4, 2) := by decide +kernel
theorem dX2_remember_84 : decode cX2_remember 84 = .ok (.bipush 17, 2) := by decide +kernel
theorem dX2_remember_86 : decode cX2_remember 86 = .ok (.lushr, 1) := by decide +kernel
theorem dX2_remember_87 : decode cX2_remember 87 = .ok (.lor, 1) := by decide +kernel
theorem dX2_remember_88 : decode cX2_remember 88 = .ok (.bipush 21, 2) := by decide +kernel
theorem dX2_remember_90 : decode cX2_remember 90 = .ok (.lshl, 1) := by decide +kernel
theorem dX2_remember_91 : decode cX2_remember 91 = .ok (.iload_n 3, 1) := by decide +kernel
theorem dX2_remember_92 : decode cX2_remember 92 = .ok (.i2l, 1) := by decide +kernel
theorem dX2_remember_93 : decode cX2_remember 93 = .ok (.lor, 1) := by decide +kernel
theorem dX2_remember_94 : decode cX2_remember 94 = .ok (.lastore, 1) := by decide +kernel
theorem dX2_remember_95 : decode cX2_remember 95 = .ok (.return_, 1) := by decide +kernel
theorem dX9_placeAfter_0 : decode cX9_placeAfter 0 = .ok (.iload_n 1, 1) := by decide +kernel
theorem dX9_placeAfter_1 : decode cX9_placeAfter 1 = .ok (.istore 5, 2) := by decide +kernel
theorem dX9_placeAfter_3 : decode cX9_placeAfter 3 = .ok (.lload_n 2, 1) := by decide +kernel
theorem dX9_placeAfter_4 : decode cX9_placeAfter 4 = .ok (.lstore 6, 2) := by decide +kernel
theorem dX9_placeAfter_6 : decode cX9_placeAfter 6 = .ok (.lconst 0, 1) := by decide +kernel
theorem dX9_placeAfter_7 : decode cX9_placeAfter 7 = .ok (.lstore 8, 2) := by decide +kernel
theorem dX9_placeAfter_9 : decode cX9_placeAfter 9 = .ok (.iconst 0, 1) := by decide +kernel
theorem dX9_placeAfter_10 : decode cX9_placeAfter 10 = .ok (.istore 10, 2) := by decide +kernel
theorem dX9_placeAfter_12 : decode cX9_placeAfter 12 = .ok (.iload 10, 2) := by decide +kernel
theorem dX9_placeAfter_14 : decode cX9_placeAfter 14 = .ok (.sipush 1024, 3) := by decide +kernel
theorem dX9_placeAfter_17 : decode cX9_placeAfter 17 = .ok (.if_icmp .ge 215, 3) := by decide +kernel
theorem dX9_placeAfter_20 : decode cX9_placeAfter 20 = .ok (.aload_n 0, 1) := by decide +kernel
theorem dX9_placeAfter_21 : decode cX9_placeAfter 21 = .ok (.iload 5, 2) := by decide +kernel
theorem dX9_placeAfter_23 : decode cX9_placeAfter 23 = .ok (.invokevirtual 73, 3) := by decide +kernel
theorem dX9_placeAfter_26 : decode cX9_placeAfter 26 = .ok (.lconst 0, 1) := by decide +kernel
theorem dX9_placeAfter_27 : decode cX9_placeAfter 27 = .ok (.lcmp, 1) := by decide +kernel
theorem dX9_placeAfter_28 : decode cX9_placeAfter 28 = .ok (.ifCond .le 204, 3) := by decide +kernel
theorem dX9_placeAfter_31 : decode cX9_placeAfter 31 = .ok (.aload_n 0, 1) := by decide +kernel
theorem dX9_placeAfter_32 : decode cX9_placeAfter 32 = .ok (.iload 5, 2) := by decide +kernel
theorem dX9_placeAfter_34 : decode cX9_placeAfter 34 = .ok (.invokevirtual 101, 3) := by decide +kernel
theorem dX9_placeAfter_37 : decode cX9_placeAfter 37 = .ok (.ifCond .ne 195, 3) := by decide +kernel
theorem dX9_placeAfter_40 : decode cX9_placeAfter 40 = .ok (.aload_n 0, 1) := by decide +kernel
theorem dX9_placeAfter_41 : decode cX9_placeAfter 41 = .ok (.iload 5, 2) := by decide +kernel
theorem dX9_placeAfter_43 : decode cX9_placeAfter 43 = .ok (.invokevirtual 104, 3) := by decide +kernel
theorem dX9_placeAfter_46 : decode cX9_placeAfter 46 = .ok (.istore 11, 2) := by decide +kernel
theorem dX9_placeAfter_48 : decode cX9_placeAfter 48 = .ok (.aload_n 0, 1) := by decide +kernel
theorem dX9_placeAfter_49 : decode cX9_placeAfter 49 = .ok (.iload 11, 2) := by decide +kernel
theorem dX9_placeAfter_51 : decode cX9_placeAfter 51 = .ok (.invokevirtual 73, 3) := by decide +kernel
theorem dX9_placeAfter_54 : decode cX9_placeAfter 54 = .ok (.lstore 12, 2) := by decide +kernel
theorem dX9_placeAfter_56 : decode cX9_placeAfter 56 = .ok (.aload_n 0, 1) := by decide +kernel
theorem dX9_placeAfter_57 : decode cX9_placeAfter 57 = .ok (.iload 5, 2) := by decide +kernel
theorem dX9_placeAfter_59 : decode cX9_placeAfter 59 = .ok (.invokevirtual 107, 3) := by decide +kernel
theorem dX9_placeAfter_62 : decode cX9_placeAfter 62 = .ok (.ifCond .ne 83, 3) := by decide +kernel
theorem dX9_placeAfter_145 : decode cX9_placeAfter 145 = .ok (.lload 6, 2) := by decide +kernel
theorem dX9_placeAfter_147 : decode cX9_placeAfter 147 = .ok (.lload 12, 2) := by decide +kernel
theorem dX9_placeAfter_149 : decode cX9_placeAfter 149 = .ok (.lcmp, 1) := by decide +kernel
theorem dX9_placeAfter_150 : decode cX9_placeAfter 150 = .ok (.ifCond .gt 16, 3) := by decide +kernel
theorem dX9_placeAfter_153 : decode cX9_placeAfter 153 = .ok (.lload 6, 2) := by decide +kernel
theorem dX9_placeAfter_155 : decode cX9_placeAfter 155 = .ok (.lload 12, 2) := by decide +kernel
theorem dX9_placeAfter_157 : decode cX9_placeAfter 157 = .ok (.lcmp, 1) := by decide +kernel
theorem dX9_placeAfter_158 : decode cX9_placeAfter 158 = .ok (.ifCond .ne 37, 3) := by decide +kernel
theorem dX9_placeAfter_161 : decode cX9_placeAfter 161 = .ok (.iload 4, 2) := by decide +kernel
theorem dX9_placeAfter_163 : decode cX9_placeAfter 163 = .ok (.ifCond .eq 32, 3) := by decide +kernel
theorem dX9_placeAfter_166 : decode cX9_placeAfter 166 = .ok (.lload 6, 2) := by decide +kernel
theorem dX9_placeAfter_168 : decode cX9_placeAfter 168 = .ok (.lload 12, 2) := by decide +kernel
theorem dX9_placeAfter_170 : decode cX9_placeAfter 170 = .ok (.lsub, 1) := by decide +kernel
theorem dX9_placeAfter_171 : decode cX9_placeAfter 171 = .ok (.lstore 6, 2) := by decide +kernel
theorem dX9_placeAfter_173 : decode cX9_placeAfter 173 = .ok (.lload 8, 2) := by decide +kernel
theorem dX9_placeAfter_175 : decode cX9_placeAfter 175 = .ok (.aload_n 0, 1) := by decide +kernel
theorem dX9_placeAfter_176 : decode cX9_placeAfter 176 = .ok (.iload 11, 2) := by decide +kernel
theorem dX9_placeAfter_178 : decode cX9_placeAfter 178 = .ok (.invokevirtual 77, 3) := by decide +kernel
theorem dX9_placeAfter_181 : decode cX9_placeAfter 181 = .ok (.ladd, 1) := by decide +kernel
theorem dX9_placeAfter_182 : decode cX9_placeAfter 182 = .ok (.lstore 8, 2) := by decide +kernel
theorem dX9_placeAfter_184 : decode cX9_placeAfter 184 = .ok (.aload_n 0, 1) := by decide +kernel
theorem dX9_placeAfter_185 : decode cX9_placeAfter 185 = .ok (.iload 5, 2) := by decide +kernel
theorem dX9_placeAfter_187 : decode cX9_placeAfter 187 = .ok (.invokevirtual 66, 3) := by decide +kernel
theorem dX9_placeAfter_190 : decode cX9_placeAfter 190 = .ok (.istore 5, 2) := by decide +kernel
theorem dX9_placeAfter_192 : decode cX9_placeAfter 192 = .ok (.goto 34, 3) := by decide +kernel
theorem dX9_placeAfter_226 : decode cX9_placeAfter 226 = .ok (.iinc 10 1, 3) := by decide +kernel
theorem dX9_placeAfter_229 : decode cX9_placeAfter 229 = .ok (.goto (-217), 3) := by decide +kernel
theorem dX9_placeAfter_232 : decode cX9_placeAfter 232 = .ok (.aload_n 0, 1) := by decide +kernel
theorem dX9_placeAfter_233 : decode cX9_placeAfter 233 = .ok (.iload 5, 2) := by decide +kernel
theorem dX9_placeAfter_235 : decode cX9_placeAfter 235 = .ok (.invokevirtual 73, 3) := by decide +kernel
theorem dX9_placeAfter_238 : decode cX9_placeAfter 238 = .ok (.lconst 0, 1) := by decide +kernel
theorem dX9_placeAfter_239 : decode cX9_placeAfter 239 = .ok (.lcmp, 1) := by decide +kernel
theorem dX9_placeAfter_240 : decode cX9_placeAfter 240 = .ok (.ifCond .ne 23, 3) := by decide +kernel
theorem dX9_placeAfter_243 : decode cX9_placeAfter 243 = .ok (.iload 4, 2) := by decide +kernel
theorem dX9_placeAfter_245 : decode cX9_placeAfter 245 = .ok (.ifCond .eq 15, 3) := by decide +kernel
theorem dX9_placeAfter_248 : decode cX9_placeAfter 248 = .ok (.lload 8, 2) := by decide +kernel
theorem dX9_placeAfter_250 : decode cX9_placeAfter 250 = .ok (.aload_n 0, 1) := by decide +kernel
theorem dX9_placeAfter_251 : decode cX9_placeAfter 251 = .ok (.iload 5, 2) := by decide +kernel
theorem dX9_placeAfter_253 : decode cX9_placeAfter 253 = .ok (.invokevirtual 77, 3) := by decide +kernel
theorem dX9_placeAfter_256 : decode cX9_placeAfter 256 = .ok (.ladd, 1) := by decide +kernel
theorem dX9_placeAfter_257 : decode cX9_placeAfter 257 = .ok (.goto 5, 3) := by decide +kernel
theorem dX9_placeAfter_262 : decode cX9_placeAfter 262 = .ok (.lreturn, 1) := by decide +kernel
theorem dX9_placeAfter_263 : decode cX9_placeAfter 263 = .ok (.aload_n 0, 1) := by decide +kernel
theorem dX9_placeAfter_264 : decode cX9_placeAfter 264 = .ok (.iload 5, 2) := by decide +kernel
theorem dX9_placeAfter_266 : decode cX9_placeAfter 266 = .ok (.invokevirtual 110, 3) := by decide +kernel
theorem dX9_placeAfter_269 : decode cX9_placeAfter 269 = .ok (.sipush 512, 3) := by decide +kernel
theorem dX9_placeAfter_272 : decode cX9_placeAfter 272 = .ok (.if_icmp .ne 8, 3) := by decide +kernel
theorem dX9_placeAfter_275 : decode cX9_placeAfter 275 = .ok (.lload 8, 2) := by decide +kernel
theorem dX9_placeAfter_277 : decode cX9_placeAfter 277 = .ok (.goto 17, 3) := by decide +kernel
theorem dX9_placeAfter_280 : decode cX9_placeAfter 280 = .ok (.lload 8, 2) := by decide +kernel
theorem dX9_placeAfter_282 : decode cX9_placeAfter 282 = .ok (.lload 6, 2) := by decide +kernel
theorem dX9_placeAfter_284 : decode cX9_placeAfter 284 = .ok (.aload_n 0, 1) := by decide +kernel
theorem dX9_placeAfter_285 : decode cX9_placeAfter 285 = .ok (.iload 5, 2) := by decide +kernel
theorem dX9_placeAfter_287 : decode cX9_placeAfter 287 = .ok (.invokevirtual 73, 3) := by decide +kernel
theorem dX9_placeAfter_290 : decode cX9_placeAfter 290 = .ok (.invokestatic 116, 3) := by decide +kernel
theorem dX9_placeAfter_293 : decode cX9_placeAfter 293 = .ok (.ladd, 1) := by decide +kernel
theorem dX9_placeAfter_294 : decode cX9_placeAfter 294 = .ok (.lreturn, 1) := by decide +kernel
theorem dJ7_rangeCheck_23922_0 : decode cJ7_rangeCheck_23922 0 = .ok (.iload_n 1, 1) := by decide +kernel
theorem dJ7_rangeCheck_23922_1 : decode cJ7_rangeCheck_23922 1 = .ok (.iload_n 2, 1) := by decide +kernel
theorem dJ7_rangeCheck_23922_2 : decode cJ7_rangeCheck_23922 2 = .ok (.if_icmp .le 44, 3) := by decide +kernel
theorem dJ7_rangeCheck_23922_46 : decode cJ7_rangeCheck_23922 46 = .ok (.iload_n 1, 1) := by decide +kernel
theorem dJ7_rangeCheck_23922_47 : decode cJ7_rangeCheck_23922 47 = .ok (.ifCond .ge 12, 3) := by decide +kernel
theorem dJ7_rangeCheck_23922_59 : decode cJ7_rangeCheck_23922 59 = .ok (.iload_n 2, 1) := by decide +kernel
theorem dJ7_rangeCheck_23922_60 : decode cJ7_rangeCheck_23922 60 = .ok (.iload_n 0, 1) := by decide +kernel
theorem dJ7_rangeCheck_23922_61 : decode cJ7_rangeCheck_23922 61 = .ok (.if_icmp .le 12, 3) := by decide +kernel
theorem dJ7_rangeCheck_23922_73 : decode cJ7_rangeCheck_23922 73 = .ok (.return_, 1) := by decide +kernel
theorem dX8_atHand_0 : decode cX8_atHand 0 = .ok (.iload_n 1, 1) := by decide +kernel
theorem dX8_atHand_1 : decode cX8_atHand 1 = .ok (.ifCond .ne 5, 3) := by decide +kernel
theorem dX8_atHand_4 : decode cX8_atHand 4 = .ok (.lconst 0, 1) := by decide +kernel
theorem dX8_atHand_5 : decode cX8_atHand 5 = .ok (.lreturn, 1) := by decide +kernel
theorem dX10_spare_0 : decode cX10_spare 0 = .ok (.iconst 0, 1) := by decide +kernel
theorem dX10_spare_1 : decode cX10_spare 1 = .ok (.istore_n 1, 1) := by decide +kernel
theorem dX10_spare_2 : decode cX10_spare 2 = .ok (.iload_n 1, 1) := by decide +kernel
theorem dX10_spare_3 : decode cX10_spare 3 = .ok (.iconst 3, 1) := by decide +kernel
theorem dX10_spare_4 : decode cX10_spare 4 = .ok (.if_icmp .ge 75, 3) := by decide +kernel
theorem dX10_spare_7 : decode cX10_spare 7 = .ok (.aload_n 0, 1) := by decide +kernel
theorem dX10_spare_8 : decode cX10_spare 8 = .ok (.getfield 41, 3) := by decide +kernel
theorem dX10_spare_11 : decode cX10_spare 11 = .ok (.ldc 15, 2) := by decide +kernel
theorem dX10_spare_13 : decode cX10_spare 13 = .ok (.if_icmp .ge 33, 3) := by decide +kernel
theorem dX10_spare_16 : decode cX10_spare 16 = .ok (.aload_n 0, 1) := by decide +kernel
theorem dX10_spare_17 : decode cX10_spare 17 = .ok (.getfield 29, 3) := by decide +kernel
theorem dX10_spare_20 : decode cX10_spare 20 = .ok (.aload_n 0, 1) := by decide +kernel
theorem dX10_spare_21 : decode cX10_spare 21 = .ok (.getfield 41, 3) := by decide +kernel
theorem dX10_spare_24 : decode cX10_spare 24 = .ok (.iaload, 1) := by decide +kernel
theorem dX10_spare_25 : decode cX10_spare 25 = .ok (.ifCond .ne 8, 3) := by decide +kernel
theorem dX10_spare_28 : decode cX10_spare 28 = .ok (.aload_n 0, 1) := by decide +kernel
theorem dX10_spare_29 : decode cX10_spare 29 = .ok (.getfield 41, 3) := by decide +kernel
theorem dX10_spare_32 : decode cX10_spare 32 = .ok (.ireturn, 1) := by decide +kernel
theorem dX10_spare_33 : decode cX10_spare 33 = .ok (.aload_n 0, 1) := by decide +kernel
theorem dX10_spare_34 : decode cX10_spare 34 = .ok (.dup, 1) := by decide +kernel
theorem dX10_spare_35 : decode cX10_spare 35 = .ok (.getfield 41, 3) := by decide +kernel
theorem dX10_spare_38 : decode cX10_spare 38 = .ok (.iconst 1, 1) := by decide +kernel
theorem dX10_spare_39 : decode cX10_spare 39 = .ok (.iadd, 1) := by decide +kernel
theorem dX10_spare_40 : decode cX10_spare 40 = .ok (.putfield 41, 3) := by decide +kernel
theorem dX10_spare_43 : decode cX10_spare 43 = .ok (.goto (-36), 3) := by decide +kernel
theorem dX9_isScarce_0 : decode cX9_isScarce 0 = .ok (.aload_n 0, 1) := by decide +kernel
theorem dX9_isScarce_1 : decode cX9_isScarce 1 = .ok (.getfield 42, 3) := by decide +kernel
theorem dX9_isScarce_4 : decode cX9_isScarce 4 = .ok (.aload_n 0, 1) := by decide +kernel
theorem dX9_isScarce_5 : decode cX9_isScarce 5 = .ok (.getfield 49, 3) := by decide +kernel
theorem dX9_isScarce_8 : decode cX9_isScarce 8 = .ok (.invokestatic 132, 3) := by decide +kernel
theorem dX9_isScarce_11 : decode cX9_isScarce 11 = .ok (.sipush 8192, 3) := by decide +kernel
theorem dX9_isScarce_14 : decode cX9_isScarce 14 = .ok (.if_icmp .ge 7, 3) := by decide +kernel
theorem dX9_isScarce_21 : decode cX9_isScarce 21 = .ok (.iconst 0, 1) := by decide +kernel
theorem dX9_isScarce_22 : decode cX9_isScarce 22 = .ok (.ireturn, 1) := by decide +kernel
theorem dX9_from_0 : decode cX9_from 0 = .ok (.iload_n 1, 1) := by decide +kernel
theorem dX9_from_1 : decode cX9_from 1 = .ok (.ifCond .le 9, 3) := by decide +kernel
theorem dX9_from_4 : decode cX9_from 4 = .ok (.iload_n 1, 1) := by decide +kernel
theorem dX9_from_5 : decode cX9_from 5 = .ok (.ldc 19, 2) := by decide +kernel
theorem dX9_from_7 : decode cX9_from 7 = .ok (.if_icmp .lt 5, 3) := by decide +kernel
theorem dX9_from_10 : decode cX9_from 10 = .ok (.lconst 0, 1) := by decide +kernel
theorem dX9_from_11 : decode cX9_from 11 = .ok (.lreturn, 1) := by decide +kernel
theorem dX9_from_12 : decode cX9_from 12 = .ok (.aload_n 0, 1) := by decide +kernel
theorem dX9_from_13 : decode cX9_from 13 = .ok (.getfield 24, 3) := by decide +kernel
theorem dX9_from_16 : decode cX9_from 16 = .ok (.iload_n 1, 1) := by decide +kernel
theorem dX9_from_17 : decode cX9_from 17 = .ok (.laload, 1) := by decide +kernel
theorem dX9_from_18 : decode cX9_from 18 = .ok (.bipush 32, 2) := by decide +kernel
theorem dX9_from_20 : decode cX9_from 20 = .ok (.lushr, 1) := by decide +kernel
theorem dX9_from_21 : decode cX9_from 21 = .ok (.l2i, 1) := by decide +kernel
theorem dX9_from_22 : decode cX9_from 22 = .ok (.istore_n 2, 1) := by decide +kernel
theorem dX9_from_23 : decode cX9_from 23 = .ok (.aload_n 0, 1) := by decide +kernel
theorem dX9_from_24 : decode cX9_from 24 = .ok (.getfield 24, 3) := by decide +kernel
theorem dX9_from_27 : decode cX9_from 27 = .ok (.iload_n 1, 1) := by decide +kernel
theorem dX9_from_28 : decode cX9_from 28 = .ok (.laload, 1) := by decide +kernel
theorem dX9_from_29 : decode cX9_from 29 = .ok (.ldc2_w 64, 3) := by decide +kernel
theorem dX9_from_32 : decode cX9_from 32 = .ok (.land, 1) := by decide +kernel
theorem dX9_from_33 : decode cX9_from 33 = .ok (.ldc2_w 64, 3) := by decide +kernel
theorem dX9_from_36 : decode cX9_from 36 = .ok (.lcmp, 1) := by decide +kernel
theorem dX9_from_37 : decode cX9_from 37 = .ok (.ifCond .eq 13, 3) := by decide +kernel
theorem dX9_from_40 : decode cX9_from 40 = .ok (.aload_n 0, 1) := by decide +kernel
theorem dX9_from_41 : decode cX9_from 41 = .ok (.getfield 24, 3) := by decide +kernel
theorem dX9_from_44 : decode cX9_from 44 = .ok (.iload_n 1, 1) := by decide +kernel
theorem dX9_from_45 : decode cX9_from 45 = .ok (.laload, 1) := by decide +kernel
theorem dX9_from_46 : decode cX9_from 46 = .ok (.bipush 32, 2) := by decide +kernel
theorem dX9_from_48 : decode cX9_from 48 = .ok (.lushr, 1) := by decide +kernel
theorem dX9_from_49 : decode cX9_from 49 = .ok (.lreturn, 1) := by decide +kernel
theorem dX9_to_0 : decode cX9_to 0 = .ok (.iload_n 1, 1) := by decide +kernel
theorem dX9_to_1 : decode cX9_to 1 = .ok (.ifCond .le 9, 3) := by decide +kernel
theorem dX9_to_4 : decode cX9_to 4 = .ok (.iload_n 1, 1) := by decide +kernel
theorem dX9_to_5 : decode cX9_to 5 = .ok (.ldc 19, 2) := by decide +kernel
theorem dX9_to_7 : decode cX9_to 7 = .ok (.if_icmp .lt 5, 3) := by decide +kernel
theorem dX9_to_10 : decode cX9_to 10 = .ok (.lconst 0, 1) := by decide +kernel
theorem dX9_to_11 : decode cX9_to 11 = .ok (.lreturn, 1) := by decide +kernel
theorem dX9_to_12 : decode cX9_to 12 = .ok (.aload_n 0, 1) := by decide +kernel
theorem dX9_to_13 : decode cX9_to 13 = .ok (.getfield 24, 3) := by decide +kernel
theorem dX9_to_16 : decode cX9_to 16 = .ok (.iload_n 1, 1) := by decide +kernel
theorem dX9_to_17 : decode cX9_to 17 = .ok (.laload, 1) := by decide +kernel
theorem dX9_to_18 : decode cX9_to 18 = .ok (.bipush 32, 2) := by decide +kernel
theorem dX9_to_20 : decode cX9_to 20 = .ok (.lushr, 1) := by decide +kernel
theorem dX9_to_21 : decode cX9_to 21 = .ok (.l2i, 1) := by decide +kernel
theorem dX9_to_22 : decode cX9_to 22 = .ok (.istore_n 2, 1) := by decide +kernel
theorem dX9_to_23 : decode cX9_to 23 = .ok (.aload_n 0, 1) := by decide +kernel
theorem dX9_to_24 : decode cX9_to 24 = .ok (.getfield 24, 3) := by decide +kernel
theorem dX9_to_27 : decode cX9_to 27 = .ok (.iload_n 1, 1) := by decide +kernel
theorem dX9_to_28 : decode cX9_to 28 = .ok (.laload, 1) := by decide +kernel
theorem dX9_to_29 : decode cX9_to 29 = .ok (.ldc2_w 64, 3) := by decide +kernel
theorem dX9_to_32 : decode cX9_to 32 = .ok (.land, 1) := by decide +kernel
theorem dX9_to_33 : decode cX9_to 33 = .ok (.ldc2_w 64, 3) := by decide +kernel
theorem dX9_to_36 : decode cX9_to 36 = .ok (.lcmp, 1) := by decide +kernel
theorem dX9_to_37 : decode cX9_to 37 = .ok (.ifCond .eq 14, 3) := by decide +kernel
theorem dX9_to_40 : decode cX9_to 40 = .ok (.aload_n 0, 1) := by decide +kernel
theorem dX9_to_41 : decode cX9_to 41 = .ok (.getfield 24, 3) := by decide +kernel
theorem dX9_to_44 : decode cX9_to 44 = .ok (.iload_n 1, 1) := by decide +kernel
theorem dX9_to_45 : decode cX9_to 45 = .ok (.laload, 1) := by decide +kernel
theorem dX9_to_46 : decode cX9_to 46 = .ok (.ldc2_w 64, 3) := by decide +kernel
theorem dX9_to_49 : decode cX9_to 49 = .ok (.land, 1) := by decide +kernel
theorem dX9_to_50 : decode cX9_to 50 = .ok (.lreturn, 1) := by decide +kernel
theorem dX9_made_0 : decode cX9_made 0 = .ok (.lload_n 1, 1) := by decide +kernel
theorem dX9_made_1 : decode cX9_made 1 = .ok (.lload_n 3, 1) := by decide +kernel
theorem dX9_made_2 : decode cX9_made 2 = .ok (.lload 5, 2) := by decide +kernel
theorem dX9_made_4 : decode cX9_made 4 = .ok (.ladd, 1) := by decide +kernel
theorem dX9_made_5 : decode cX9_made 5 = .ok (.invokestatic 134, 3) := by decide +kernel
theorem dX9_made_8 : decode cX9_made 8 = .ok (.istore 7, 2) := by decide +kernel
theorem dX9_made_10 : decode cX9_made 10 = .ok (.aload_n 0, 1) := by decide +kernel
theorem dX9_made_11 : decode cX9_made 11 = .ok (.iload 7, 2) := by decide +kernel
theorem dX9_made_13 : decode cX9_made 13 = .ok (.invokevirtual 138, 3) := by decide +kernel
theorem dX9_made_16 : decode cX9_made 16 = .ok (.istore 8, 2) := by decide +kernel
theorem dX9_made_18 : decode cX9_made 18 = .ok (.iconst 0, 1) := by decide +kernel
theorem dX9_made_19 : decode cX9_made 19 = .ok (.istore 9, 2) := by decide +kernel
theorem dX9_made_21 : decode cX9_made 21 = .ok (.iload 9, 2) := by decide +kernel
theorem dX9_made_23 : decode cX9_made 23 = .ok (.ldc 141, 2) := by decide +kernel
theorem dX9_made_25 : decode cX9_made 25 = .ok (.if_icmp .ge 86, 3) := by decide +kernel
theorem dX9_made_28 : decode cX9_made 28 = .ok (.iload 8, 2) := by decide +kernel
theorem dX9_made_30 : decode cX9_made 30 = .ok (.ifCond .le 81, 3) := by decide +kernel
theorem dX9_made_33 : decode cX9_made 33 = .ok (.iload 8, 2) := by decide +kernel
theorem dX9_made_35 : decode cX9_made 35 = .ok (.ldc 19, 2) := by decide +kernel
theorem dX9_made_37 : decode cX9_made 37 = .ok (.if_icmp .ge 74, 3) := by decide +kernel
theorem dX9_made_40 : decode cX9_made 40 = .ok (.aload_n 0, 1) := by decide +kernel
theorem dX9_made_41 : decode cX9_made 41 = .ok (.getfield 20, 3) := by decide +kernel
theorem dX9_made_44 : decode cX9_made 44 = .ok (.iload 8, 2) := by decide +kernel
theorem dX9_made_46 : decode cX9_made 46 = .ok (.laload, 1) := by decide +kernel
theorem dX9_made_47 : decode cX9_made 47 = .ok (.lload_n 1, 1) := by decide +kernel
theorem dX9_made_48 : decode cX9_made 48 = .ok (.lcmp, 1) := by decide +kernel
theorem dX9_made_49 : decode cX9_made 49 = .ok (.ifCond .ne 29, 3) := by decide +kernel
theorem dX9_made_52 : decode cX9_made 52 = .ok (.aload_n 0, 1) := by decide +kernel
theorem dX9_made_53 : decode cX9_made 53 = .ok (.iload 8, 2) := by decide +kernel
theorem dX9_made_55 : decode cX9_made 55 = .ok (.invokevirtual 73, 3) := by decide +kernel
theorem dX9_made_58 : decode cX9_made 58 = .ok (.lload_n 3, 1) := by decide +kernel
theorem dX9_made_59 : decode cX9_made 59 = .ok (.lcmp, 1) := by decide +kernel
theorem dX9_made_60 : decode cX9_made 60 = .ok (.ifCond .ne 18, 3) := by decide +kernel
theorem dX9_made_63 : decode cX9_made 63 = .ok (.aload_n 0, 1) := by decide +kernel
theorem dX9_made_64 : decode cX9_made 64 = .ok (.iload 8, 2) := by decide +kernel
theorem dX9_made_66 : decode cX9_made 66 = .ok (.invokevirtual 77, 3) := by decide +kernel
theorem dX9_made_69 : decode cX9_made 69 = .ok (.lload 5, 2) := by decide +kernel
theorem dX9_made_71 : decode cX9_made 71 = .ok (.lcmp, 1) := by decide +kernel
theorem dX9_made_72 : decode cX9_made 72 = .ok (.ifCond .ne 6, 3) := by decide +kernel
theorem dX9_made_75 : decode cX9_made 75 = .ok (.iload 8, 2) := by decide +kernel
theorem dX9_made_77 : decode cX9_made 77 = .ok (.ireturn, 1) := by decide +kernel
theorem dX9_made_111 : decode cX9_made 111 = .ok (.aload_n 0, 1) := by decide +kernel
theorem dX9_made_112 : decode cX9_made 112 = .ok (.invokevirtual 142, 3) := by decide +kernel
theorem dX9_made_115 : decode cX9_made 115 = .ok (.istore 9, 2) := by decide +kernel
theorem dX9_made_117 : decode cX9_made 117 = .ok (.iload 9, 2) := by decide +kernel
theorem dX9_made_119 : decode cX9_made 119 = .ok (.ifCond .le 22, 3) := by decide +kernel
theorem dX9_made_122 : decode cX9_made 122 = .ok (.iload 9, 2) := by decide +kernel
theorem dX9_made_124 : decode cX9_made 124 = .ok (.ldc 19, 2) := by decide +kernel
theorem dX9_made_126 : decode cX9_made 126 = .ok (.if_icmp .ge 15, 3) := by decide +kernel
theorem dX9_made_129 : decode cX9_made 129 = .ok (.aload_n 0, 1) := by decide +kernel
theorem dX9_made_130 : decode cX9_made 130 = .ok (.iload 9, 2) := by decide +kernel
theorem dX9_made_132 : decode cX9_made 132 = .ok (.lload_n 3, 1) := by decide +kernel
theorem dX9_made_133 : decode cX9_made 133 = .ok (.lload 5, 2) := by decide +kernel
theorem dX9_made_135 : decode cX9_made 135 = .ok (.invokevirtual 146, 3) := by decide +kernel
theorem dX9_made_138 : decode cX9_made 138 = .ok (.ifCond .ne 17, 3) := by decide +kernel
theorem dX9_made_155 : decode cX9_made 155 = .ok (.aload_n 0, 1) := by decide +kernel
theorem dX9_made_156 : decode cX9_made 156 = .ok (.getfield 20, 3) := by decide +kernel
theorem dX9_made_159 : decode cX9_made 159 = .ok (.iload 9, 2) := by decide +kernel
theorem dX9_made_161 : decode cX9_made 161 = .ok (.lload_n 1, 1) := by decide +kernel
theorem dX9_made_162 : decode cX9_made 162 = .ok (.lastore, 1) := by decide +kernel
theorem dX9_made_163 : decode cX9_made 163 = .ok (.aload_n 0, 1) := by decide +kernel
theorem dX9_made_164 : decode cX9_made 164 = .ok (.iload 9, 2) := by decide +kernel
theorem dX9_made_166 : decode cX9_made 166 = .ok (.iload 7, 2) := by decide +kernel
theorem dX9_made_168 : decode cX9_made 168 = .ok (.invokevirtual 154, 3) := by decide +kernel
theorem dX9_made_171 : decode cX9_made 171 = .ok (.aload_n 0, 1) := by decide +kernel
theorem dX9_made_172 : decode cX9_made 172 = .ok (.dup, 1) := by decide +kernel
theorem dX9_made_173 : decode cX9_made 173 = .ok (.getfield 42, 3) := by decide +kernel
theorem dX9_made_176 : decode cX9_made 176 = .ok (.iconst 1, 1) := by decide +kernel
theorem dX9_made_177 : decode cX9_made 177 = .ok (.isub, 1) := by decide +kernel
theorem dX9_made_178 : decode cX9_made 178 = .ok (.putfield 42, 3) := by decide +kernel
theorem dX9_made_181 : decode cX9_made 181 = .ok (.aload_n 0, 1) := by decide +kernel
theorem dX9_made_182 : decode cX9_made 182 = .ok (.getfield 52, 3) := by decide +kernel
theorem dX9_made_185 : decode cX9_made 185 = .ok (.iload 9, 2) := by decide +kernel
theorem dX9_made_187 : decode cX9_made 187 = .ok (.if_icmp .gt 11, 3) := by decide +kernel
theorem dX9_made_190 : decode cX9_made 190 = .ok (.aload_n 0, 1) := by decide +kernel
theorem dX9_made_191 : decode cX9_made 191 = .ok (.iload 9, 2) := by decide +kernel
theorem dX9_made_193 : decode cX9_made 193 = .ok (.iconst 1, 1) := by decide +kernel
theorem dX9_made_194 : decode cX9_made 194 = .ok (.iadd, 1) := by decide +kernel
theorem dX9_made_195 : decode cX9_made 195 = .ok (.putfield 52, 3) := by decide +kernel
theorem dX9_made_198 : decode cX9_made 198 = .ok (.iload 9, 2) := by decide +kernel
theorem dX9_made_200 : decode cX9_made 200 = .ok (.ireturn, 1) := by decide +kernel
theorem dX9_endsWithDelete_0 : decode cX9_endsWithDelete 0 = .ok (.iload_n 1, 1) := by decide +kernel
theorem dX9_endsWithDelete_1 : decode cX9_endsWithDelete 1 = .ok (.ifCond .le 28, 3) := by decide +kernel
theorem dX9_endsWithDelete_4 : decode cX9_endsWithDelete 4 = .ok (.iload_n 1, 1) := by decide +kernel
theorem dX9_endsWithDelete_5 : decode cX9_endsWithDelete 5 = .ok (.ldc 19, 2) := by decide +kernel
theorem dX9_endsWithDelete_7 : decode cX9_endsWithDelete 7 = .ok (.if_icmp .ge 22, 3) := by decide +kernel
theorem dX9_endsWithDelete_10 : decode cX9_endsWithDelete 10 = .ok (.aload_n 0, 1) := by decide +kernel
theorem dX9_endsWithDelete_11 : decode cX9_endsWithDelete 11 = .ok (.getfield 20, 3) := by decide +kernel
theorem dX9_endsWithDelete_14 : decode cX9_endsWithDelete 14 = .ok (.iload_n 1, 1) := by decide +kernel
theorem dX9_endsWithDelete_15 : decode cX9_endsWithDelete 15 = .ok (.laload, 1) := by decide +kernel
theorem dX9_endsWithDelete_16 : decode cX9_endsWithDelete 16 = .ok (.ldc2_w 90, 3) := by decide +kernel
theorem dX9_endsWithDelete_19 : decode cX9_endsWithDelete 19 = .ok (.land, 1) := by decide +kernel
theorem dX9_endsWithDelete_20 : decode cX9_endsWithDelete 20 = .ok (.lconst 0, 1) := by decide +kernel
theorem dX9_endsWithDelete_21 : decode cX9_endsWithDelete 21 = .ok (.lcmp, 1) := by decide +kernel
theorem dX9_endsWithDelete_22 : decode cX9_endsWithDelete 22 = .ok (.ifCond .eq 7, 3) := by decide +kernel
theorem dX9_endsWithDelete_25 : decode cX9_endsWithDelete 25 = .ok (.iconst 1, 1) := by decide +kernel
theorem dX9_endsWithDelete_26 : decode cX9_endsWithDelete 26 = .ok (.goto 4, 3) := by decide +kernel
theorem dX9_endsWithDelete_29 : decode cX9_endsWithDelete 29 = .ok (.iconst 0, 1) := by decide +kernel
theorem dX9_endsWithDelete_30 : decode cX9_endsWithDelete 30 = .ok (.ireturn, 1) := by decide +kernel
theorem dX9_beginsWithLetter_0 : decode cX9_beginsWithLetter 0 = .ok (.iload_n 1, 1) := by decide +kernel
theorem dX9_beginsWithLetter_1 : decode cX9_beginsWithLetter 1 = .ok (.ifCond .le 28, 3) := by decide +kernel
theorem dX9_beginsWithLetter_4 : decode cX9_beginsWithLetter 4 = .ok (.iload_n 1, 1) := by decide +kernel
theorem dX9_beginsWithLetter_5 : decode cX9_beginsWithLetter 5 = .ok (.ldc 19, 2) := by decide +kernel
theorem dX9_beginsWithLetter_7 : decode cX9_beginsWithLetter 7 = .ok (.if_icmp .ge 22, 3) := by decide +kernel
theorem dX9_beginsWithLetter_10 : decode cX9_beginsWithLetter 10 = .ok (.aload_n 0, 1) := by decide +kernel
theorem dX9_beginsWithLetter_11 : decode cX9_beginsWithLetter 11 = .ok (.getfield 20, 3) := by decide +kernel
theorem dX9_beginsWithLetter_14 : decode cX9_beginsWithLetter 14 = .ok (.iload_n 1, 1) := by decide +kernel
theorem dX9_beginsWithLetter_15 : decode cX9_beginsWithLetter 15 = .ok (.laload, 1) := by decide +kernel
theorem dX9_beginsWithLetter_16 : decode cX9_beginsWithLetter 16 = .ok (.ldc2_w 86, 3) := by decide +kernel
theorem dX9_beginsWithLetter_19 : decode cX9_beginsWithLetter 19 = .ok (.land, 1) := by decide +kernel
theorem dX9_beginsWithLetter_20 : decode cX9_beginsWithLetter 20 = .ok (.lconst 0, 1) := by decide +kernel
theorem dX9_beginsWithLetter_21 : decode cX9_beginsWithLetter 21 = .ok (.lcmp, 1) := by decide +kernel
theorem dX9_beginsWithLetter_22 : decode cX9_beginsWithLetter 22 = .ok (.ifCond .eq 7, 3) := by decide +kernel
theorem dX9_beginsWithLetter_29 : decode cX9_beginsWithLetter 29 = .ok (.iconst 0, 1) := by decide +kernel
theorem dX9_beginsWithLetter_30 : decode cX9_beginsWithLetter 30 = .ok (.ireturn, 1) := by decide +kernel
theorem dX5_place_0 : decode cX5_place 0 = .ok (.aload_n 0, 1) := by decide +kernel
theorem dX5_place_1 : decode cX5_place 1 = .ok (.getfield 33, 3) := by decide +kernel
theorem dX5_place_4 : decode cX5_place 4 = .ok (.iload_n 1, 1) := by decide +kernel
theorem dX5_place_5 : decode cX5_place 5 = .ok (.invokevirtual 67, 3) := by decide +kernel
theorem dX5_place_8 : decode cX5_place 8 = .ok (.aload_n 0, 1) := by decide +kernel
theorem dX5_place_9 : decode cX5_place 9 = .ok (.getfield 37, 3) := by decide +kernel
theorem dX5_place_12 : decode cX5_place 12 = .ok (.iload_n 2, 1) := by decide +kernel
theorem dX5_place_13 : decode cX5_place 13 = .ok (.invokevirtual 67, 3) := by decide +kernel
theorem dX5_place_16 : decode cX5_place 16 = .ok (.return_, 1) := by decide +kernel
theorem dX5_settle_0 : decode cX5_settle 0 = .ok (.iconst 0, 1) := by decide +kernel
theorem dX5_settle_1 : decode cX5_settle 1 = .ok (.istore_n 3, 1) := by decide +kernel
theorem dX5_settle_2 : decode cX5_settle 2 = .ok (.iload_n 3, 1) := by decide +kernel
theorem dX5_settle_3 : decode cX5_settle 3 = .ok (.sipush 511, 3) := by decide +kernel
theorem dX5_settle_6 : decode cX5_settle 6 = .ok (.if_icmp .ge 480, 3) := by decide +kernel
theorem dX5_settle_9 : decode cX5_settle 9 = .ok (.aload_n 0, 1) := by decide +kernel
theorem dX5_settle_10 : decode cX5_settle 10 = .ok (.getfield 69, 3) := by decide +kernel
theorem dX5_settle_13 : decode cX5_settle 13 = .ok (.aload_n 1, 1) := by decide +kernel
theorem dX5_settle_14 : decode cX5_settle 14 = .ok (.getfield 72, 3) := by decide +kernel
theorem dX5_settle_17 : decode cX5_settle 17 = .ok (.iadd, 1) := by decide +kernel
theorem dX5_settle_18 : decode cX5_settle 18 = .ok (.aload_n 2, 1) := by decide +kernel
theorem dX5_settle_19 : decode cX5_settle 19 = .ok (.getfield 72, 3) := by decide +kernel
theorem dX5_settle_22 : decode cX5_settle 22 = .ok (.iadd, 1) := by decide +kernel
theorem dX5_settle_23 : decode cX5_settle 23 = .ok (.iconst 1, 1) := by decide +kernel
theorem dX5_settle_24 : decode cX5_settle 24 = .ok (.if_icmp .le 462, 3) := by decide +kernel
theorem dX5_settle_27 : decode cX5_settle 27 = .ok (.iconst 0, 1) := by decide +kernel
theorem dX5_settle_28 : decode cX5_settle 28 = .ok (.istore 4, 2) := by decide +kernel
theorem dX5_settle_30 : decode cX5_settle 30 = .ok (.iconst 0, 1) := by decide +kernel
theorem dX5_settle_31 : decode cX5_settle 31 = .ok (.istore 5, 2) := by decide +kernel
theorem dX5_settle_33 : decode cX5_settle 33 = .ok (.iload 5, 2) := by decide +kernel
theorem dX5_settle_35 : decode cX5_settle 35 = .ok (.bipush 64, 2) := by decide +kernel
theorem dX5_settle_37 : decode cX5_settle 37 = .ok (.if_icmp .ge 259, 3) := by decide +kernel
theorem dX5_settle_40 : decode cX5_settle 40 = .ok (.iload 4, 2) := by decide +kernel
theorem dX5_settle_42 : decode cX5_settle 42 = .ok (.ifCond .ne 254, 3) := by decide +kernel
theorem dX5_settle_45 : decode cX5_settle 45 = .ok (.aload_n 1, 1) := by decide +kernel
theorem dX5_settle_46 : decode cX5_settle 46 = .ok (.iload_n 3, 1) := by decide +kernel
theorem dX5_settle_47 : decode cX5_settle 47 = .ok (.invokevirtual 75, 3) := by decide +kernel
theorem dX5_settle_50 : decode cX5_settle 50 = .ok (.istore 6, 2) := by decide +kernel
theorem dX5_settle_52 : decode cX5_settle 52 = .ok (.aload_n 2, 1) := by decide +kernel
theorem dX5_settle_53 : decode cX5_settle 53 = .ok (.iload_n 3, 1) := by decide +kernel
theorem dX5_settle_54 : decode cX5_settle 54 = .ok (.invokevirtual 75, 3) := by decide +kernel
theorem dX5_settle_57 : decode cX5_settle 57 = .ok (.istore 7, 2) := by decide +kernel
theorem dX5_settle_59 : decode cX5_settle 59 = .ok (.aload_n 0, 1) := by decide +kernel
theorem dX5_settle_60 : decode cX5_settle 60 = .ok (.getfield 69, 3) := by decide +kernel
theorem dX5_settle_63 : decode cX5_settle 63 = .ok (.ifCond .le 15, 3) := by decide +kernel
theorem dX5_settle_66 : decode cX5_settle 66 = .ok (.aload_n 0, 1) := by decide +kernel
theorem dX5_settle_67 : decode cX5_settle 67 = .ok (.getfield 9, 3) := by decide +kernel
theorem dX5_settle_70 : decode cX5_settle 70 = .ok (.aload_n 0, 1) := by decide +kernel
theorem dX5_settle_71 : decode cX5_settle 71 = .ok (.getfield 20, 3) := by decide +kernel
theorem dX5_settle_74 : decode cX5_settle 74 = .ok (.iaload, 1) := by decide +kernel
theorem dX5_settle_75 : decode cX5_settle 75 = .ok (.goto 5, 3) := by decide +kernel
theorem dX5_settle_78 : decode cX5_settle 78 = .ok (.iload 7, 2) := by decide +kernel
theorem dX5_settle_80 : decode cX5_settle 80 = .ok (.istore 8, 2) := by decide +kernel
theorem dX5_settle_82 : decode cX5_settle 82 = .ok (.aload_n 0, 1) := by decide +kernel
theorem dX5_settle_83 : decode cX5_settle 83 = .ok (.getfield 69, 3) := by decide +kernel
theorem dX5_settle_86 : decode cX5_settle 86 = .ok (.ifCond .le 22, 3) := by decide +kernel
theorem dX5_settle_89 : decode cX5_settle 89 = .ok (.aload_n 0, 1) := by decide +kernel
theorem dX5_settle_90 : decode cX5_settle 90 = .ok (.getfield 9, 3) := by decide +kernel
theorem dX5_settle_93 : decode cX5_settle 93 = .ok (.aload_n 0, 1) := by decide +kernel
theorem dX5_settle_94 : decode cX5_settle 94 = .ok (.getfield 20, 3) := by decide +kernel
theorem dX5_settle_97 : decode cX5_settle 97 = .ok (.aload_n 0, 1) := by decide +kernel
theorem dX5_settle_98 : decode cX5_settle 98 = .ok (.getfield 69, 3) := by decide +kernel
theorem dX5_settle_101 : decode cX5_settle 101 = .ok (.iadd, 1) := by decide +kernel
theorem dX5_settle_102 : decode cX5_settle 102 = .ok (.iconst 1, 1) := by decide +kernel
theorem dX5_settle_103 : decode cX5_settle 103 = .ok (.isub, 1) := by decide +kernel
theorem dX5_settle_104 : decode cX5_settle 104 = .ok (.iaload, 1) := by decide +kernel
theorem dX5_settle_105 : decode cX5_settle 105 = .ok (.goto 5, 3) := by decide +kernel
theorem dX5_settle_108 : decode cX5_settle 108 = .ok (.iload 6, 2) := by decide +kernel
theorem dX5_settle_110 : decode cX5_settle 110 = .ok (.istore 9, 2) := by decide +kernel
theorem dX5_settle_112 : decode cX5_settle 112 = .ok (.aload_n 0, 1) := by decide +kernel
theorem dX5_settle_113 : decode cX5_settle 113 = .ok (.getfield 69, 3) := by decide +kernel
theorem dX5_settle_116 : decode cX5_settle 116 = .ok (.ifCond .le 15, 3) := by decide +kernel
theorem dX5_settle_119 : decode cX5_settle 119 = .ok (.aload_n 0, 1) := by decide +kernel
theorem dX5_settle_120 : decode cX5_settle 120 = .ok (.getfield 17, 3) := by decide +kernel
theorem dX5_settle_123 : decode cX5_settle 123 = .ok (.aload_n 0, 1) := by decide +kernel
theorem dX5_settle_124 : decode cX5_settle 124 = .ok (.getfield 20, 3) := by decide +kernel
theorem dX5_settle_127 : decode cX5_settle 127 = .ok (.iaload, 1) := by decide +kernel
theorem dX5_settle_128 : decode cX5_settle 128 = .ok (.goto 7, 3) := by decide +kernel
theorem dX5_settle_131 : decode cX5_settle 131 = .ok (.aload_n 2, 1) := by decide +kernel
theorem dX5_settle_132 : decode cX5_settle 132 = .ok (.getfield 79, 3) := by decide +kernel
theorem dX5_settle_135 : decode cX5_settle 135 = .ok (.istore 10, 2) := by decide +kernel
theorem dX5_settle_137 : decode cX5_settle 137 = .ok (.aload_n 0, 1) := by decide +kernel
theorem dX5_settle_138 : decode cX5_settle 138 = .ok (.getfield 69, 3) := by decide +kernel
theorem dX5_settle_141 : decode cX5_settle 141 = .ok (.ifCond .le 22, 3) := by decide +kernel
theorem dX5_settle_144 : decode cX5_settle 144 = .ok (.aload_n 0, 1) := by decide +kernel
theorem dX5_settle_145 : decode cX5_settle 145 = .ok (.getfield 17, 3) := by decide +kernel
theorem dX5_settle_148 : decode cX5_settle 148 = .ok (.aload_n 0, 1) := by decide +kernel
theorem dX5_settle_149 : decode cX5_settle 149 = .ok (.getfield 20, 3) := by decide +kernel
theorem dX5_settle_152 : decode cX5_settle 152 = .ok (.aload_n 0, 1) := by decide +kernel
theorem dX5_settle_153 : decode cX5_settle 153 = .ok (.getfield 69, 3) := by decide +kernel
theorem dX5_settle_156 : decode cX5_settle 156 = .ok (.iadd, 1) := by decide +kernel
theorem dX5_settle_157 : decode cX5_settle 157 = .ok (.iconst 1, 1) := by decide +kernel
theorem dX5_settle_158 : decode cX5_settle 158 = .ok (.isub, 1) := by decide +kernel
theorem dX5_settle_159 : decode cX5_settle 159 = .ok (.iaload, 1) := by decide +kernel
theorem dX5_settle_160 : decode cX5_settle 160 = .ok (.goto 7, 3) := by decide +kernel
theorem dX5_settle_163 : decode cX5_settle 163 = .ok (.aload_n 1, 1) := by decide +kernel
theorem dX5_settle_164 : decode cX5_settle 164 = .ok (.getfield 79, 3) := by decide +kernel
theorem dX5_settle_167 : decode cX5_settle 167 = .ok (.istore 11, 2) := by decide +kernel
theorem dX5_settle_169 : decode cX5_settle 169 = .ok (.iload 6, 2) := by decide +kernel
theorem dX5_settle_171 : decode cX5_settle 171 = .ok (.ifCond .eq 40, 3) := by decide +kernel
theorem dX5_settle_174 : decode cX5_settle 174 = .ok (.aload_n 1, 1) := by decide +kernel
theorem dX5_settle_175 : decode cX5_settle 175 = .ok (.iload_n 3, 1) := by decide +kernel
theorem dX5_settle_176 : decode cX5_settle 176 = .ok (.invokevirtual 82, 3) := by decide +kernel
theorem dX5_settle_179 : decode cX5_settle 179 = .ok (.ifCond .ne 28, 3) := by decide +kernel
theorem dX5_settle_182 : decode cX5_settle 182 = .ok (.iload 6, 2) := by decide +kernel
theorem dX5_settle_184 : decode cX5_settle 184 = .ok (.iload 8, 2) := by decide +kernel
theorem dX5_settle_186 : decode cX5_settle 186 = .ok (.if_icmp .eq 21, 3) := by decide +kernel
theorem dX5_settle_189 : decode cX5_settle 189 = .ok (.iload 8, 2) := by decide +kernel
theorem dX5_settle_191 : decode cX5_settle 191 = .ok (.ifCond .eq 20, 3) := by decide +kernel
theorem dX5_settle_194 : decode cX5_settle 194 = .ok (.aload_n 1, 1) := by decide +kernel
theorem dX5_settle_195 : decode cX5_settle 195 = .ok (.getfield 79, 3) := by decide +kernel
theorem dX5_settle_198 : decode cX5_settle 198 = .ok (.iload 10, 2) := by decide +kernel
theorem dX5_settle_200 : decode cX5_settle 200 = .ok (.iload_n 3, 1) := by decide +kernel
theorem dX5_settle_201 : decode cX5_settle 201 = .ok (.invokestatic 85, 3) := by decide +kernel
theorem dX5_settle_204 : decode cX5_settle 204 = .ok (.ifCond .eq 7, 3) := by decide +kernel
theorem dX5_settle_207 : decode cX5_settle 207 = .ok (.iconst 1, 1) := by decide +kernel
theorem dX5_settle_208 : decode cX5_settle 208 = .ok (.goto 4, 3) := by decide +kernel
theorem dX5_settle_211 : decode cX5_settle 211 = .ok (.iconst 0, 1) := by decide +kernel
theorem dX5_settle_212 : decode cX5_settle 212 = .ok (.istore 12, 2) := by decide +kernel
theorem dX5_settle_214 : decode cX5_settle 214 = .ok (.iload 7, 2) := by decide +kernel
theorem dX5_settle_216 : decode cX5_settle 216 = .ok (.ifCond .eq 40, 3) := by decide +kernel
theorem dX5_settle_219 : decode cX5_settle 219 = .ok (.aload_n 2, 1) := by decide +kernel
theorem dX5_settle_220 : decode cX5_settle 220 = .ok (.iload_n 3, 1) := by decide +kernel
theorem dX5_settle_221 : decode cX5_settle 221 = .ok (.invokevirtual 82, 3) := by decide +kernel
theorem dX5_settle_224 : decode cX5_settle 224 = .ok (.ifCond .ne 28, 3) := by decide +kernel
theorem dX5_settle_227 : decode cX5_settle 227 = .ok (.iload 7, 2) := by decide +kernel
theorem dX5_settle_229 : decode cX5_settle 229 = .ok (.iload 9, 2) := by decide +kernel
theorem dX5_settle_231 : decode cX5_settle 231 = .ok (.if_icmp .eq 21, 3) := by decide +kernel
theorem dX5_settle_234 : decode cX5_settle 234 = .ok (.iload 9, 2) := by decide +kernel
theorem dX5_settle_236 : decode cX5_settle 236 = .ok (.ifCond .eq 20, 3) := by decide +kernel
theorem dX5_settle_239 : decode cX5_settle 239 = .ok (.iload 11, 2) := by decide +kernel
theorem dX5_settle_241 : decode cX5_settle 241 = .ok (.aload_n 2, 1) := by decide +kernel
theorem dX5_settle_242 : decode cX5_settle 242 = .ok (.getfield 79, 3) := by decide +kernel
theorem dX5_settle_245 : decode cX5_settle 245 = .ok (.iload_n 3, 1) := by decide +kernel
theorem dX5_settle_246 : decode cX5_settle 246 = .ok (.invokestatic 85, 3) := by decide +kernel
theorem dX5_settle_249 : decode cX5_settle 249 = .ok (.ifCond .eq 7, 3) := by decide +kernel
theorem dX5_settle_252 : decode cX5_settle 252 = .ok (.iconst 1, 1) := by decide +kernel
theorem dX5_settle_253 : decode cX5_settle 253 = .ok (.goto 4, 3) := by decide +kernel
theorem dX5_settle_256 : decode cX5_settle 256 = .ok (.iconst 0, 1) := by decide +kernel
theorem dX5_settle_257 : decode cX5_settle 257 = .ok (.istore 13, 2) := by decide +kernel
theorem dX5_settle_259 : decode cX5_settle 259 = .ok (.iload 12, 2) := by decide +kernel
theorem dX5_settle_261 : decode cX5_settle 261 = .ok (.ifCond .eq 12, 3) := by decide +kernel
theorem dX5_settle_264 : decode cX5_settle 264 = .ok (.aload_n 0, 1) := by decide +kernel
theorem dX5_settle_265 : decode cX5_settle 265 = .ok (.aload_n 1, 1) := by decide +kernel
theorem dX5_settle_266 : decode cX5_settle 266 = .ok (.iload_n 3, 1) := by decide +kernel
theorem dX5_settle_267 : decode cX5_settle 267 = .ok (.invokevirtual 89, 3) := by decide +kernel
theorem dX5_settle_270 : decode cX5_settle 270 = .ok (.goto 20, 3) := by decide +kernel
theorem dX5_settle_273 : decode cX5_settle 273 = .ok (.iload 13, 2) := by decide +kernel
theorem dX5_settle_275 : decode cX5_settle 275 = .ok (.ifCond .eq 12, 3) := by decide +kernel
theorem dX5_settle_278 : decode cX5_settle 278 = .ok (.aload_n 0, 1) := by decide +kernel
theorem dX5_settle_279 : decode cX5_settle 279 = .ok (.aload_n 2, 1) := by decide +kernel
theorem dX5_settle_280 : decode cX5_settle 280 = .ok (.iload_n 3, 1) := by decide +kernel
theorem dX5_settle_281 : decode cX5_settle 281 = .ok (.invokevirtual 93, 3) := by decide +kernel
theorem dX5_settle_284 : decode cX5_settle 284 = .ok (.goto 6, 3) := by decide +kernel
theorem dX5_settle_287 : decode cX5_settle 287 = .ok (.iconst 1, 1) := by decide +kernel
theorem dX5_settle_288 : decode cX5_settle 288 = .ok (.istore 4, 2) := by decide +kernel
theorem dX5_settle_290 : decode cX5_settle 290 = .ok (.iinc 5 1, 3) := by decide +kernel
theorem dX5_settle_293 : decode cX5_settle 293 = .ok (.goto (-260), 3) := by decide +kernel
theorem dX5_settle_296 : decode cX5_settle 296 = .ok (.iload 4, 2) := by decide +kernel
theorem dX5_settle_298 : decode cX5_settle 298 = .ok (.ifCond .ne 11, 3) := by decide +kernel
theorem dX5_settle_309 : decode cX5_settle 309 = .ok (.aload_n 0, 1) := by decide +kernel
theorem dX5_settle_310 : decode cX5_settle 310 = .ok (.getfield 69, 3) := by decide +kernel
theorem dX5_settle_313 : decode cX5_settle 313 = .ok (.iconst 2, 1) := by decide +kernel
theorem dX5_settle_314 : decode cX5_settle 314 = .ok (.if_icmp .ge 6, 3) := by decide +kernel
theorem dX5_settle_317 : decode cX5_settle 317 = .ok (.goto 163, 3) := by decide +kernel
theorem dX5_settle_320 : decode cX5_settle 320 = .ok (.aload_n 0, 1) := by decide +kernel
theorem dX5_settle_321 : decode cX5_settle 321 = .ok (.getfield 20, 3) := by decide +kernel
theorem dX5_settle_324 : decode cX5_settle 324 = .ok (.aload_n 0, 1) := by decide +kernel
theorem dX5_settle_325 : decode cX5_settle 325 = .ok (.getfield 69, 3) := by decide +kernel
theorem dX5_settle_328 : decode cX5_settle 328 = .ok (.iadd, 1) := by decide +kernel
theorem dX5_settle_329 : decode cX5_settle 329 = .ok (.istore 5, 2) := by decide +kernel
theorem dX5_settle_331 : decode cX5_settle 331 = .ok (.aload_n 0, 1) := by decide +kernel
theorem dX5_settle_332 : decode cX5_settle 332 = .ok (.iconst 0, 1) := by decide +kernel
theorem dX5_settle_333 : decode cX5_settle 333 = .ok (.putfield 69, 3) := by decide +kernel
theorem dX5_settle_336 : decode cX5_settle 336 = .ok (.aload_n 0, 1) := by decide +kernel
theorem dX5_settle_337 : decode cX5_settle 337 = .ok (.getfield 20, 3) := by decide +kernel
theorem dX5_settle_340 : decode cX5_settle 340 = .ok (.istore 6, 2) := by decide +kernel
theorem dX5_settle_342 : decode cX5_settle 342 = .ok (.iload 6, 2) := by decide +kernel
theorem dX5_settle_344 : decode cX5_settle 344 = .ok (.iload 5, 2) := by decide +kernel
theorem dX5_settle_346 : decode cX5_settle 346 = .ok (.if_icmp .ge 134, 3) := by decide +kernel
theorem dX5_settle_349 : decode cX5_settle 349 = .ok (.aload_n 0, 1) := by decide +kernel
theorem dX5_settle_350 : decode cX5_settle 350 = .ok (.getfield 9, 3) := by decide +kernel
theorem dX5_settle_353 : decode cX5_settle 353 = .ok (.iload 6, 2) := by decide +kernel
theorem dX5_settle_355 : decode cX5_settle 355 = .ok (.iaload, 1) := by decide +kernel
theorem dX5_settle_356 : decode cX5_settle 356 = .ok (.istore 7, 2) := by decide +kernel
theorem dX5_settle_358 : decode cX5_settle 358 = .ok (.aload_n 0, 1) := by decide +kernel
theorem dX5_settle_359 : decode cX5_settle 359 = .ok (.getfield 13, 3) := by decide +kernel
theorem dX5_settle_362 : decode cX5_settle 362 = .ok (.iload 6, 2) := by decide +kernel
theorem dX5_settle_364 : decode cX5_settle 364 = .ok (.laload, 1) := by decide +kernel
theorem dX5_settle_365 : decode cX5_settle 365 = .ok (.lstore 8, 2) := by decide +kernel
theorem dX5_settle_367 : decode cX5_settle 367 = .ok (.aload_n 0, 1) := by decide +kernel
theorem dX5_settle_368 : decode cX5_settle 368 = .ok (.getfield 17, 3) := by decide +kernel
theorem dX5_settle_371 : decode cX5_settle 371 = .ok (.iload 6, 2) := by decide +kernel
theorem dX5_settle_373 : decode cX5_settle 373 = .ok (.iaload, 1) := by decide +kernel
theorem dX5_settle_374 : decode cX5_settle 374 = .ok (.istore 10, 2) := by decide +kernel
theorem dX5_settle_376 : decode cX5_settle 376 = .ok (.iload 6, 2) := by decide +kernel
theorem dX5_settle_378 : decode cX5_settle 378 = .ok (.iconst 1, 1) := by decide +kernel
theorem dX5_settle_379 : decode cX5_settle 379 = .ok (.iadd, 1) := by decide +kernel
theorem dX5_settle_380 : decode cX5_settle 380 = .ok (.iload 5, 2) := by decide +kernel
theorem dX5_settle_382 : decode cX5_settle 382 = .ok (.if_icmp .ge 82, 3) := by decide +kernel
theorem dX5_settle_385 : decode cX5_settle 385 = .ok (.iload 10, 2) := by decide +kernel
theorem dX5_settle_387 : decode cX5_settle 387 = .ok (.aload_n 0, 1) := by decide +kernel
theorem dX5_settle_388 : decode cX5_settle 388 = .ok (.getfield 17, 3) := by decide +kernel
theorem dX5_settle_391 : decode cX5_settle 391 = .ok (.iload 6, 2) := by decide +kernel
theorem dX5_settle_393 : decode cX5_settle 393 = .ok (.iconst 1, 1) := by decide +kernel
theorem dX5_settle_394 : decode cX5_settle 394 = .ok (.iadd, 1) := by decide +kernel
theorem dX5_settle_395 : decode cX5_settle 395 = .ok (.iaload, 1) := by decide +kernel
theorem dX5_settle_396 : decode cX5_settle 396 = .ok (.iload_n 3, 1) := by decide +kernel
theorem dX5_settle_397 : decode cX5_settle 397 = .ok (.invokestatic 85, 3) := by decide +kernel
theorem dX5_settle_400 : decode cX5_settle 400 = .ok (.ifCond .eq 64, 3) := by decide +kernel
theorem dX5_settle_403 : decode cX5_settle 403 = .ok (.aload_n 0, 1) := by decide +kernel
theorem dX5_settle_404 : decode cX5_settle 404 = .ok (.getfield 24, 3) := by decide +kernel
theorem dX5_settle_407 : decode cX5_settle 407 = .ok (.iload 7, 2) := by decide +kernel
theorem dX5_settle_409 : decode cX5_settle 409 = .ok (.lload 8, 2) := by decide +kernel
theorem dX5_settle_411 : decode cX5_settle 411 = .ok (.invokevirtual 100, 3) := by decide +kernel
theorem dX5_settle_414 : decode cX5_settle 414 = .ok (.istore 11, 2) := by decide +kernel
theorem dX5_settle_416 : decode cX5_settle 416 = .ok (.iinc 6 1, 3) := by decide +kernel
theorem dX5_settle_419 : decode cX5_settle 419 = .ok (.aload_n 0, 1) := by decide +kernel
theorem dX5_settle_420 : decode cX5_settle 420 = .ok (.getfield 24, 3) := by decide +kernel
theorem dX5_settle_423 : decode cX5_settle 423 = .ok (.iload 11, 2) := by decide +kernel
theorem dX5_settle_425 : decode cX5_settle 425 = .ok (.aload_n 0, 1) := by decide +kernel
theorem dX5_settle_426 : decode cX5_settle 426 = .ok (.getfield 24, 3) := by decide +kernel
theorem dX5_settle_429 : decode cX5_settle 429 = .ok (.aload_n 0, 1) := by decide +kernel
theorem dX5_settle_430 : decode cX5_settle 430 = .ok (.getfield 9, 3) := by decide +kernel
theorem dX5_settle_433 : decode cX5_settle 433 = .ok (.iload 6, 2) := by decide +kernel
theorem dX5_settle_435 : decode cX5_settle 435 = .ok (.iaload, 1) := by decide +kernel
theorem dX5_settle_436 : decode cX5_settle 436 = .ok (.aload_n 0, 1) := by decide +kernel
theorem dX5_settle_437 : decode cX5_settle 437 = .ok (.getfield 13, 3) := by decide +kernel
theorem dX5_settle_440 : decode cX5_settle 440 = .ok (.iload 6, 2) := by decide +kernel
theorem dX5_settle_442 : decode cX5_settle 442 = .ok (.laload, 1) := by decide +kernel
theorem dX5_settle_443 : decode cX5_settle 443 = .ok (.invokevirtual 100, 3) := by decide +kernel
theorem dX5_settle_446 : decode cX5_settle 446 = .ok (.iload_n 3, 1) := by decide +kernel
theorem dX5_settle_447 : decode cX5_settle 447 = .ok (.iconst 1, 1) := by decide +kernel
theorem dX5_settle_448 : decode cX5_settle 448 = .ok (.iadd, 1) := by decide +kernel
theorem dX5_settle_449 : decode cX5_settle 449 = .ok (.invokevirtual 104, 3) := by decide +kernel
theorem dX5_settle_452 : decode cX5_settle 452 = .ok (.istore 7, 2) := by decide +kernel
theorem dX5_settle_454 : decode cX5_settle 454 = .ok (.lconst 1, 1) := by decide +kernel
theorem dX5_settle_455 : decode cX5_settle 455 = .ok (.lstore 8, 2) := by decide +kernel
theorem dX5_settle_457 : decode cX5_settle 457 = .ok (.iload 7, 2) := by decide +kernel
theorem dX5_settle_459 : decode cX5_settle 459 = .ok (.invokestatic 108, 3) := by decide +kernel
theorem dX5_settle_462 : decode cX5_settle 462 = .ok (.istore 10, 2) := by decide +kernel
theorem dX5_settle_464 : decode cX5_settle 464 = .ok (.aload_n 0, 1) := by decide +kernel
theorem dX5_settle_465 : decode cX5_settle 465 = .ok (.iload 7, 2) := by decide +kernel
theorem dX5_settle_467 : decode cX5_settle 467 = .ok (.lload 8, 2) := by decide +kernel
theorem dX5_settle_469 : decode cX5_settle 469 = .ok (.iload 10, 2) := by decide +kernel
theorem dX5_settle_471 : decode cX5_settle 471 = .ok (.invokevirtual 110, 3) := by decide +kernel
theorem dX5_settle_474 : decode cX5_settle 474 = .ok (.iinc 6 1, 3) := by decide +kernel
theorem dX5_settle_477 : decode cX5_settle 477 = .ok (.goto (-135), 3) := by decide +kernel
theorem dX5_settle_480 : decode cX5_settle 480 = .ok (.iinc 3 1, 3) := by decide +kernel
theorem dX5_settle_483 : decode cX5_settle 483 = .ok (.goto (-481), 3) := by decide +kernel
theorem dX5_settle_486 : decode cX5_settle 486 = .ok (.aload_n 0, 1) := by decide +kernel
theorem dX5_settle_487 : decode cX5_settle 487 = .ok (.getfield 69, 3) := by decide +kernel
theorem dX5_settle_490 : decode cX5_settle 490 = .ok (.aload_n 1, 1) := by decide +kernel
theorem dX5_settle_491 : decode cX5_settle 491 = .ok (.getfield 72, 3) := by decide +kernel
theorem dX5_settle_494 : decode cX5_settle 494 = .ok (.iadd, 1) := by decide +kernel
theorem dX5_settle_495 : decode cX5_settle 495 = .ok (.aload_n 2, 1) := by decide +kernel
theorem dX5_settle_496 : decode cX5_settle 496 = .ok (.getfield 72, 3) := by decide +kernel
theorem dX5_settle_499 : decode cX5_settle 499 = .ok (.iadd, 1) := by decide +kernel
theorem dX5_settle_500 : decode cX5_settle 500 = .ok (.iconst 1, 1) := by decide +kernel
theorem dX5_settle_501 : decode cX5_settle 501 = .ok (.if_icmp .le 11, 3) := by decide +kernel
theorem dX5_settle_512 : decode cX5_settle 512 = .ok (.aload_n 1, 1) := by decide +kernel
theorem dX5_settle_513 : decode cX5_settle 513 = .ok (.getfield 72, 3) := by decide +kernel
theorem dX5_settle_516 : decode cX5_settle 516 = .ok (.ifCond .le 7, 3) := by decide +kernel
theorem dX5_settle_523 : decode cX5_settle 523 = .ok (.aload_n 2, 1) := by decide +kernel
theorem dX5_settle_524 : decode cX5_settle 524 = .ok (.astore_n 3, 1) := by decide +kernel
theorem dX5_settle_525 : decode cX5_settle 525 = .ok (.aload_n 0, 1) := by decide +kernel
theorem dX5_settle_526 : decode cX5_settle 526 = .ok (.getfield 69, 3) := by decide +kernel
theorem dX5_settle_529 : decode cX5_settle 529 = .ok (.ifCond .le 15, 3) := by decide +kernel
theorem dX5_settle_532 : decode cX5_settle 532 = .ok (.aload_n 0, 1) := by decide +kernel
theorem dX5_settle_533 : decode cX5_settle 533 = .ok (.getfield 9, 3) := by decide +kernel
theorem dX5_settle_536 : decode cX5_settle 536 = .ok (.aload_n 0, 1) := by decide +kernel
theorem dX5_settle_537 : decode cX5_settle 537 = .ok (.getfield 20, 3) := by decide +kernel
theorem dX5_settle_540 : decode cX5_settle 540 = .ok (.iaload, 1) := by decide +kernel
theorem dX5_settle_541 : decode cX5_settle 541 = .ok (.goto 7, 3) := by decide +kernel
theorem dX5_settle_548 : decode cX5_settle 548 = .ok (.istore 4, 2) := by decide +kernel
theorem dX5_settle_550 : decode cX5_settle 550 = .ok (.aload_n 0, 1) := by decide +kernel
theorem dX5_settle_551 : decode cX5_settle 551 = .ok (.getfield 69, 3) := by decide +kernel
theorem dX5_settle_554 : decode cX5_settle 554 = .ok (.ifCond .le 15, 3) := by decide +kernel
theorem dX5_settle_557 : decode cX5_settle 557 = .ok (.aload_n 0, 1) := by decide +kernel
theorem dX5_settle_558 : decode cX5_settle 558 = .ok (.getfield 13, 3) := by decide +kernel
theorem dX5_settle_561 : decode cX5_settle 561 = .ok (.aload_n 0, 1) := by decide +kernel
theorem dX5_settle_562 : decode cX5_settle 562 = .ok (.getfield 20, 3) := by decide +kernel
theorem dX5_settle_565 : decode cX5_settle 565 = .ok (.laload, 1) := by decide +kernel
theorem dX5_settle_566 : decode cX5_settle 566 = .ok (.goto 7, 3) := by decide +kernel
theorem dX5_settle_573 : decode cX5_settle 573 = .ok (.lstore 5, 2) := by decide +kernel
theorem dX5_settle_575 : decode cX5_settle 575 = .ok (.aload_n 0, 1) := by decide +kernel
theorem dX5_settle_576 : decode cX5_settle 576 = .ok (.sipush 2048, 3) := by decide +kernel
theorem dX5_settle_579 : decode cX5_settle 579 = .ok (.putfield 20, 3) := by decide +kernel
theorem dX5_settle_582 : decode cX5_settle 582 = .ok (.aload_n 0, 1) := by decide +kernel
theorem dX5_settle_583 : decode cX5_settle 583 = .ok (.iconst 0, 1) := by decide +kernel
theorem dX5_settle_584 : decode cX5_settle 584 = .ok (.putfield 69, 3) := by decide +kernel
theorem dX5_settle_587 : decode cX5_settle 587 = .ok (.aload_n 0, 1) := by decide +kernel
theorem dX5_settle_588 : decode cX5_settle 588 = .ok (.getfield 24, 3) := by decide +kernel
theorem dX5_settle_591 : decode cX5_settle 591 = .ok (.iload 4, 2) := by decide +kernel
theorem dX5_settle_593 : decode cX5_settle 593 = .ok (.lload 5, 2) := by decide +kernel
theorem dX5_settle_595 : decode cX5_settle 595 = .ok (.invokevirtual 100, 3) := by decide +kernel
theorem dX5_settle_598 : decode cX5_settle 598 = .ok (.ireturn, 1) := by decide +kernel
theorem dX12_resultLength_0 : decode cX12_resultLength 0 = .ok (.aload_n 0, 1) := by decide +kernel
theorem dX12_resultLength_1 : decode cX12_resultLength 1 = .ok (.getfield 43, 3) := by decide +kernel
theorem dX12_resultLength_4 : decode cX12_resultLength 4 = .ok (.iload_n 1, 1) := by decide +kernel
theorem dX12_resultLength_5 : decode cX12_resultLength 5 = .ok (.iaload, 1) := by decide +kernel
theorem dX12_resultLength_6 : decode cX12_resultLength 6 = .ok (.aload_n 0, 1) := by decide +kernel
theorem dX12_resultLength_7 : decode cX12_resultLength 7 = .ok (.getfield 40, 3) := by decide +kernel
theorem dX12_resultLength_10 : decode cX12_resultLength 10 = .ok (.iload_n 1, 1) := by decide +kernel
theorem dX12_resultLength_11 : decode cX12_resultLength 11 = .ok (.aaload, 1) := by decide +kernel
theorem dX12_resultLength_12 : decode cX12_resultLength 12 = .ok (.aload_n 0, 1) := by decide +kernel
theorem dX12_resultLength_13 : decode cX12_resultLength 13 = .ok (.getfield 43, 3) := by decide +kernel
theorem dX12_resultLength_16 : decode cX12_resultLength 16 = .ok (.iload_n 1, 1) := by decide +kernel
theorem dX12_resultLength_17 : decode cX12_resultLength 17 = .ok (.iaload, 1) := by decide +kernel
theorem dX12_resultLength_18 : decode cX12_resultLength 18 = .ok (.ldc 109, 2) := by decide +kernel
theorem dX12_resultLength_20 : decode cX12_resultLength 20 = .ok (.invokestatic 111, 3) := by decide +kernel
theorem dX12_resultLength_23 : decode cX12_resultLength 23 = .ok (.isub, 1) := by decide +kernel
theorem dX12_resultLength_24 : decode cX12_resultLength 24 = .ok (.ireturn, 1) := by decide +kernel
theorem dX12_kind_0 : decode cX12_kind 0 = .ok (.iload_n 0, 1) := by decide +kernel
theorem dX12_kind_1 : decode cX12_kind 1 = .ok (.ldc 92, 2) := by decide +kernel
theorem dX12_kind_3 : decode cX12_kind 3 = .ok (.iand, 1) := by decide +kernel
theorem dX12_kind_4 : decode cX12_kind 4 = .ok (.ireturn, 1) := by decide +kernel
theorem dX12_plain_0 : decode cX12_plain 0 = .ok (.iconst 0, 1) := by decide +kernel
theorem dX12_plain_1 : decode cX12_plain 1 = .ok (.istore_n 2, 1) := by decide +kernel
theorem dX12_plain_2 : decode cX12_plain 2 = .ok (.iconst 0, 1) := by decide +kernel
theorem dX12_plain_3 : decode cX12_plain 3 = .ok (.istore_n 3, 1) := by decide +kernel
theorem dX12_plain_4 : decode cX12_plain 4 = .ok (.iconst 0, 1) := by decide +kernel
theorem dX12_plain_5 : decode cX12_plain 5 = .ok (.istore 4, 2) := by decide +kernel
theorem dX12_plain_7 : decode cX12_plain 7 = .ok (.iload 4, 2) := by decide +kernel
theorem dX12_plain_9 : decode cX12_plain 9 = .ok (.aload_n 0, 1) := by decide +kernel
theorem dX12_plain_10 : decode cX12_plain 10 = .ok (.getfield 43, 3) := by decide +kernel
theorem dX12_plain_13 : decode cX12_plain 13 = .ok (.iload_n 1, 1) := by decide +kernel
theorem dX12_plain_14 : decode cX12_plain 14 = .ok (.iaload, 1) := by decide +kernel
theorem dX12_plain_15 : decode cX12_plain 15 = .ok (.if_icmp .gt 109, 3) := by decide +kernel
theorem dX12_plain_18 : decode cX12_plain 18 = .ok (.iload 4, 2) := by decide +kernel
theorem dX12_plain_20 : decode cX12_plain 20 = .ok (.aload_n 0, 1) := by decide +kernel
theorem dX12_plain_21 : decode cX12_plain 21 = .ok (.getfield 43, 3) := by decide +kernel
theorem dX12_plain_24 : decode cX12_plain 24 = .ok (.iload_n 1, 1) := by decide +kernel
theorem dX12_plain_25 : decode cX12_plain 25 = .ok (.iaload, 1) := by decide +kernel
theorem dX12_plain_26 : decode cX12_plain 26 = .ok (.if_icmp .ge 18, 3) := by decide +kernel
theorem dX12_plain_29 : decode cX12_plain 29 = .ok (.aload_n 0, 1) := by decide +kernel
theorem dX12_plain_30 : decode cX12_plain 30 = .ok (.getfield 40, 3) := by decide +kernel
theorem dX12_plain_33 : decode cX12_plain 33 = .ok (.iload_n 1, 1) := by decide +kernel
theorem dX12_plain_34 : decode cX12_plain 34 = .ok (.aaload, 1) := by decide +kernel
theorem dX12_plain_35 : decode cX12_plain 35 = .ok (.iload 4, 2) := by decide +kernel
theorem dX12_plain_37 : decode cX12_plain 37 = .ok (.iaload, 1) := by decide +kernel
theorem dX12_plain_38 : decode cX12_plain 38 = .ok (.invokestatic 104, 3) := by decide +kernel
theorem dX12_plain_41 : decode cX12_plain 41 = .ok (.goto 5, 3) := by decide +kernel
theorem dX12_plain_44 : decode cX12_plain 44 = .ok (.ldc 108, 2) := by decide +kernel
theorem dX12_plain_46 : decode cX12_plain 46 = .ok (.istore 5, 2) := by decide +kernel
theorem dX12_plain_48 : decode cX12_plain 48 = .ok (.iload 5, 2) := by decide +kernel
theorem dX12_plain_50 : decode cX12_plain 50 = .ok (.ldc 109, 2) := by decide +kernel
theorem dX12_plain_52 : decode cX12_plain 52 = .ok (.if_icmp .ne 9, 3) := by decide +kernel
theorem dX12_plain_55 : decode cX12_plain 55 = .ok (.iinc 3 1, 3) := by decide +kernel
theorem dX12_plain_58 : decode cX12_plain 58 = .ok (.goto 60, 3) := by decide +kernel
theorem dX12_plain_61 : decode cX12_plain 61 = .ok (.iload 5, 2) := by decide +kernel
theorem dX12_plain_63 : decode cX12_plain 63 = .ok (.ldc 110, 2) := by decide +kernel
theorem dX12_plain_65 : decode cX12_plain 65 = .ok (.if_icmp .eq 24, 3) := by decide +kernel
theorem dX12_plain_68 : decode cX12_plain 68 = .ok (.iload_n 3, 1) := by decide +kernel
theorem dX12_plain_69 : decode cX12_plain 69 = .ok (.ifCond .le 20, 3) := by decide +kernel
theorem dX12_plain_72 : decode cX12_plain 72 = .ok (.aload_n 0, 1) := by decide +kernel
theorem dX12_plain_73 : decode cX12_plain 73 = .ok (.getfield 46, 3) := by decide +kernel
theorem dX12_plain_76 : decode cX12_plain 76 = .ok (.iload_n 2, 1) := by decide +kernel
theorem dX12_plain_77 : decode cX12_plain 77 = .ok (.ldc 109, 2) := by decide +kernel
theorem dX12_plain_79 : decode cX12_plain 79 = .ok (.iastore, 1) := by decide +kernel
theorem dX12_plain_80 : decode cX12_plain 80 = .ok (.iinc 2 1, 3) := by decide +kernel
theorem dX12_plain_83 : decode cX12_plain 83 = .ok (.iinc 3 (-1), 3) := by decide +kernel
theorem dX12_plain_86 : decode cX12_plain 86 = .ok (.goto (-25), 3) := by decide +kernel
theorem dX12_plain_89 : decode cX12_plain 89 = .ok (.iload 4, 2) := by decide +kernel
theorem dX12_plain_91 : decode cX12_plain 91 = .ok (.aload_n 0, 1) := by decide +kernel
theorem dX12_plain_92 : decode cX12_plain 92 = .ok (.getfield 43, 3) := by decide +kernel
theorem dX12_plain_95 : decode cX12_plain 95 = .ok (.iload_n 1, 1) := by decide +kernel
theorem dX12_plain_96 : decode cX12_plain 96 = .ok (.iaload, 1) := by decide +kernel
theorem dX12_plain_97 : decode cX12_plain 97 = .ok (.if_icmp .ge 21, 3) := by decide +kernel
theorem dX12_plain_100 : decode cX12_plain 100 = .ok (.aload_n 0, 1) := by decide +kernel
theorem dX12_plain_101 : decode cX12_plain 101 = .ok (.getfield 46, 3) := by decide +kernel
theorem dX12_plain_104 : decode cX12_plain 104 = .ok (.iload_n 2, 1) := by decide +kernel
theorem dX12_plain_105 : decode cX12_plain 105 = .ok (.aload_n 0, 1) := by decide +kernel
theorem dX12_plain_106 : decode cX12_plain 106 = .ok (.getfield 40, 3) := by decide +kernel
theorem dX12_plain_109 : decode cX12_plain 109 = .ok (.iload_n 1, 1) := by decide +kernel
theorem dX12_plain_110 : decode cX12_plain 110 = .ok (.aaload, 1) := by decide +kernel
theorem dX12_plain_111 : decode cX12_plain 111 = .ok (.iload 4, 2) := by decide +kernel
theorem dX12_plain_113 : decode cX12_plain 113 = .ok (.iaload, 1) := by decide +kernel
theorem dX12_plain_114 : decode cX12_plain 114 = .ok (.iastore, 1) := by decide +kernel
theorem dX12_plain_115 : decode cX12_plain 115 = .ok (.iinc 2 1, 3) := by decide +kernel
theorem dX12_plain_118 : decode cX12_plain 118 = .ok (.iinc 4 1, 3) := by decide +kernel
theorem dX12_plain_121 : decode cX12_plain 121 = .ok (.goto (-114), 3) := by decide +kernel
theorem dX12_plain_124 : decode cX12_plain 124 = .ok (.iconst 0, 1) := by decide +kernel
theorem dX12_plain_125 : decode cX12_plain 125 = .ok (.istore 4, 2) := by decide +kernel
theorem dX12_plain_127 : decode cX12_plain 127 = .ok (.iload 4, 2) := by decide +kernel
theorem dX12_plain_129 : decode cX12_plain 129 = .ok (.iload_n 2, 1) := by decide +kernel
theorem dX12_plain_130 : decode cX12_plain 130 = .ok (.if_icmp .ge 25, 3) := by decide +kernel
theorem dX12_plain_133 : decode cX12_plain 133 = .ok (.aload_n 0, 1) := by decide +kernel
theorem dX12_plain_134 : decode cX12_plain 134 = .ok (.getfield 40, 3) := by decide +kernel
theorem dX12_plain_137 : decode cX12_plain 137 = .ok (.iload_n 1, 1) := by decide +kernel
theorem dX12_plain_138 : decode cX12_plain 138 = .ok (.aaload, 1) := by decide +kernel
theorem dX12_plain_139 : decode cX12_plain 139 = .ok (.iload 4, 2) := by decide +kernel
theorem dX12_plain_141 : decode cX12_plain 141 = .ok (.aload_n 0, 1) := by decide +kernel
theorem dX12_plain_142 : decode cX12_plain 142 = .ok (.getfield 46, 3) := by decide +kernel
theorem dX12_plain_145 : decode cX12_plain 145 = .ok (.iload 4, 2) := by decide +kernel
theorem dX12_plain_147 : decode cX12_plain 147 = .ok (.iaload, 1) := by decide +kernel
theorem dX12_plain_148 : decode cX12_plain 148 = .ok (.iastore, 1) := by decide +kernel
theorem dX12_plain_149 : decode cX12_plain 149 = .ok (.iinc 4 1, 3) := by decide +kernel
theorem dX12_plain_152 : decode cX12_plain 152 = .ok (.goto (-25), 3) := by decide +kernel
theorem dX12_plain_155 : decode cX12_plain 155 = .ok (.return_, 1) := by decide +kernel
theorem dX12_marksOf_0 : decode cX12_marksOf 0 = .ok (.iload_n 0, 1) := by decide +kernel
theorem dX12_marksOf_1 : decode cX12_marksOf 1 = .ok (.iload_n 1, 1) := by decide +kernel
theorem dX12_marksOf_2 : decode cX12_marksOf 2 = .ok (.iconst 4, 1) := by decide +kernel
theorem dX12_marksOf_3 : decode cX12_marksOf 3 = .ok (.ishr, 1) := by decide +kernel
theorem dX12_marksOf_4 : decode cX12_marksOf 4 = .ok (.bipush 15, 2) := by decide +kernel
theorem dX12_marksOf_6 : decode cX12_marksOf 6 = .ok (.iand, 1) := by decide +kernel
theorem dX12_marksOf_7 : decode cX12_marksOf 7 = .ok (.ior, 1) := by decide +kernel
theorem dX12_marksOf_8 : decode cX12_marksOf 8 = .ok (.iload_n 1, 1) := by decide +kernel
theorem dX12_marksOf_9 : decode cX12_marksOf 9 = .ok (.bipush 15, 2) := by decide +kernel
theorem dX12_marksOf_11 : decode cX12_marksOf 11 = .ok (.iand, 1) := by decide +kernel
theorem dX12_marksOf_12 : decode cX12_marksOf 12 = .ok (.iconst (-1), 1) := by decide +kernel
theorem dX12_marksOf_13 : decode cX12_marksOf 13 = .ok (.ixor, 1) := by decide +kernel
theorem dX12_marksOf_14 : decode cX12_marksOf 14 = .ok (.iand, 1) := by decide +kernel
theorem dX12_marksOf_15 : decode cX12_marksOf 15 = .ok (.ireturn, 1) := by decide +kernel
theorem dX12_goesAlong_0 : decode cX12_goesAlong 0 = .ok (.iconst 0, 1) := by decide +kernel
theorem dX12_goesAlong_1 : decode cX12_goesAlong 1 = .ok (.istore 4, 2) := by decide +kernel
theorem dX12_goesAlong_3 : decode cX12_goesAlong 3 = .ok (.iload_n 1, 1) := by decide +kernel
theorem dX12_goesAlong_4 : decode cX12_goesAlong 4 = .ok (.istore 5, 2) := by decide +kernel
theorem dX12_goesAlong_6 : decode cX12_goesAlong 6 = .ok (.iconst 0, 1) := by decide +kernel
theorem dX12_goesAlong_7 : decode cX12_goesAlong 7 = .ok (.istore 6, 2) := by decide +kernel
theorem dX12_goesAlong_9 : decode cX12_goesAlong 9 = .ok (.iload 6, 2) := by decide +kernel
theorem dX12_goesAlong_11 : decode cX12_goesAlong 11 = .ok (.aload_n 0, 1) := by decide +kernel
theorem dX12_goesAlong_12 : decode cX12_goesAlong 12 = .ok (.getfield 43, 3) := by decide +kernel
theorem dX12_goesAlong_15 : decode cX12_goesAlong 15 = .ok (.iload_n 2, 1) := by decide +kernel
theorem dX12_goesAlong_16 : decode cX12_goesAlong 16 = .ok (.iaload, 1) := by decide +kernel
theorem dX12_goesAlong_17 : decode cX12_goesAlong 17 = .ok (.if_icmp .ge 85, 3) := by decide +kernel
theorem dX12_goesAlong_20 : decode cX12_goesAlong 20 = .ok (.aload_n 0, 1) := by decide +kernel
theorem dX12_goesAlong_21 : decode cX12_goesAlong 21 = .ok (.getfield 40, 3) := by decide +kernel
theorem dX12_goesAlong_24 : decode cX12_goesAlong 24 = .ok (.iload_n 2, 1) := by decide +kernel
theorem dX12_goesAlong_25 : decode cX12_goesAlong 25 = .ok (.aaload, 1) := by decide +kernel
theorem dX12_goesAlong_26 : decode cX12_goesAlong 26 = .ok (.iload 6, 2) := by decide +kernel
theorem dX12_goesAlong_28 : decode cX12_goesAlong 28 = .ok (.iaload, 1) := by decide +kernel
theorem dX12_goesAlong_29 : decode cX12_goesAlong 29 = .ok (.invokestatic 104, 3) := by decide +kernel
theorem dX12_goesAlong_32 : decode cX12_goesAlong 32 = .ok (.istore 7, 2) := by decide +kernel
theorem dX12_goesAlong_34 : decode cX12_goesAlong 34 = .ok (.iload 7, 2) := by decide +kernel
theorem dX12_goesAlong_36 : decode cX12_goesAlong 36 = .ok (.ldc 110, 2) := by decide +kernel
theorem dX12_goesAlong_38 : decode cX12_goesAlong 38 = .ok (.if_icmp .ne 32, 3) := by decide +kernel
theorem dX12_goesAlong_41 : decode cX12_goesAlong 41 = .ok (.iload 5, 2) := by decide +kernel
theorem dX12_goesAlong_43 : decode cX12_goesAlong 43 = .ok (.iload 4, 2) := by decide +kernel
theorem dX12_goesAlong_45 : decode cX12_goesAlong 45 = .ok (.iload_n 1, 1) := by decide +kernel
theorem dX12_goesAlong_46 : decode cX12_goesAlong 46 = .ok (.if_icmp .lt 13, 3) := by decide +kernel
theorem dX12_goesAlong_49 : decode cX12_goesAlong 49 = .ok (.iload_n 3, 1) := by decide +kernel
theorem dX12_goesAlong_50 : decode cX12_goesAlong 50 = .ok (.ifCond .eq 13, 3) := by decide +kernel
theorem dX12_goesAlong_53 : decode cX12_goesAlong 53 = .ok (.iload 4, 2) := by decide +kernel
theorem dX12_goesAlong_55 : decode cX12_goesAlong 55 = .ok (.iload_n 1, 1) := by decide +kernel
theorem dX12_goesAlong_56 : decode cX12_goesAlong 56 = .ok (.if_icmp .ne 7, 3) := by decide +kernel
theorem dX12_goesAlong_59 : decode cX12_goesAlong 59 = .ok (.iconst 1, 1) := by decide +kernel
theorem dX12_goesAlong_60 : decode cX12_goesAlong 60 = .ok (.goto 4, 3) := by decide +kernel
theorem dX12_goesAlong_64 : decode cX12_goesAlong 64 = .ok (.iadd, 1) := by decide +kernel
theorem dX12_goesAlong_65 : decode cX12_goesAlong 65 = .ok (.istore 5, 2) := by decide +kernel
theorem dX12_goesAlong_67 : decode cX12_goesAlong 67 = .ok (.goto 29, 3) := by decide +kernel
theorem dX12_goesAlong_70 : decode cX12_goesAlong 70 = .ok (.iload 5, 2) := by decide +kernel
theorem dX12_goesAlong_72 : decode cX12_goesAlong 72 = .ok (.iload 7, 2) := by decide +kernel
theorem dX12_goesAlong_74 : decode cX12_goesAlong 74 = .ok (.ldc 109, 2) := by decide +kernel
theorem dX12_goesAlong_76 : decode cX12_goesAlong 76 = .ok (.if_icmp .ne 13, 3) := by decide +kernel
theorem dX12_goesAlong_79 : decode cX12_goesAlong 79 = .ok (.iload 4, 2) := by decide +kernel
theorem dX12_goesAlong_81 : decode cX12_goesAlong 81 = .ok (.iload_n 1, 1) := by decide +kernel
theorem dX12_goesAlong_82 : decode cX12_goesAlong 82 = .ok (.if_icmp .ge 7, 3) := by decide +kernel
theorem dX12_goesAlong_85 : decode cX12_goesAlong 85 = .ok (.iconst 1, 1) := by decide +kernel
theorem dX12_goesAlong_86 : decode cX12_goesAlong 86 = .ok (.goto 4, 3) := by decide +kernel
theorem dX12_goesAlong_89 : decode cX12_goesAlong 89 = .ok (.iconst 0, 1) := by decide +kernel
theorem dX12_goesAlong_90 : decode cX12_goesAlong 90 = .ok (.isub, 1) := by decide +kernel
theorem dX12_goesAlong_91 : decode cX12_goesAlong 91 = .ok (.istore 5, 2) := by decide +kernel
theorem dX12_goesAlong_93 : decode cX12_goesAlong 93 = .ok (.iinc 4 1, 3) := by decide +kernel
theorem dX12_goesAlong_96 : decode cX12_goesAlong 96 = .ok (.iinc 6 1, 3) := by decide +kernel
theorem dX12_goesAlong_99 : decode cX12_goesAlong 99 = .ok (.goto (-90), 3) := by decide +kernel
theorem dX12_goesAlong_102 : decode cX12_goesAlong 102 = .ok (.iload 5, 2) := by decide +kernel
theorem dX12_goesAlong_104 : decode cX12_goesAlong 104 = .ok (.ireturn, 1) := by decide +kernel
theorem dX12_together_0 : decode cX12_together 0 = .ok (.iload_n 2, 1) := by decide +kernel
theorem dX12_together_1 : decode cX12_together 1 = .ok (.invokestatic 104, 3) := by decide +kernel
theorem dX12_together_4 : decode cX12_together 4 = .ok (.ldc 108, 2) := by decide +kernel
theorem dX12_together_6 : decode cX12_together 6 = .ok (.if_icmp .ne 12, 3) := by decide +kernel
theorem dX12_together_9 : decode cX12_together 9 = .ok (.aload_n 0, 1) := by decide +kernel
theorem dX12_together_10 : decode cX12_together 10 = .ok (.iload_n 3, 1) := by decide +kernel
theorem dX12_together_11 : decode cX12_together 11 = .ok (.iload_n 1, 1) := by decide +kernel
theorem dX12_together_12 : decode cX12_together 12 = .ok (.invokevirtual 115, 3) := by decide +kernel
theorem dX12_together_15 : decode cX12_together 15 = .ok (.goto 140, 3) := by decide +kernel
theorem dX12_together_18 : decode cX12_together 18 = .ok (.iload_n 1, 1) := by decide +kernel
theorem dX12_together_19 : decode cX12_together 19 = .ok (.invokestatic 104, 3) := by decide +kernel
theorem dX12_together_22 : decode cX12_together 22 = .ok (.ldc 110, 2) := by decide +kernel
theorem dX12_together_24 : decode cX12_together 24 = .ok (.if_icmp .ne 47, 3) := by decide +kernel
theorem dX12_together_27 : decode cX12_together 27 = .ok (.iload_n 2, 1) := by decide +kernel
theorem dX12_together_28 : decode cX12_together 28 = .ok (.invokestatic 104, 3) := by decide +kernel
theorem dX12_together_31 : decode cX12_together 31 = .ok (.ldc 126, 2) := by decide +kernel
theorem dX12_together_33 : decode cX12_together 33 = .ok (.if_icmp .ne 122, 3) := by decide +kernel
theorem dX12_together_36 : decode cX12_together 36 = .ok (.iload_n 1, 1) := by decide +kernel
theorem dX12_together_37 : decode cX12_together 37 = .ok (.bipush 8, 2) := by decide +kernel
theorem dX12_together_39 : decode cX12_together 39 = .ok (.ishr, 1) := by decide +kernel
theorem dX12_together_40 : decode cX12_together 40 = .ok (.bipush 15, 2) := by decide +kernel
theorem dX12_together_42 : decode cX12_together 42 = .ok (.iand, 1) := by decide +kernel
theorem dX12_together_43 : decode cX12_together 43 = .ok (.iload_n 2, 1) := by decide +kernel
theorem dX12_together_44 : decode cX12_together 44 = .ok (.invokestatic 127, 3) := by decide +kernel
theorem dX12_together_47 : decode cX12_together 47 = .ok (.istore 4, 2) := by decide +kernel
theorem dX12_together_49 : decode cX12_together 49 = .ok (.aload_n 0, 1) := by decide +kernel
theorem dX12_together_50 : decode cX12_together 50 = .ok (.iload_n 3, 1) := by decide +kernel
theorem dX12_together_51 : decode cX12_together 51 = .ok (.ldc 110, 2) := by decide +kernel
theorem dX12_together_53 : decode cX12_together 53 = .ok (.iload 4, 2) := by decide +kernel
theorem dX12_together_55 : decode cX12_together 55 = .ok (.bipush 8, 2) := by decide +kernel
theorem dX12_together_57 : decode cX12_together 57 = .ok (.ishl, 1) := by decide +kernel
theorem dX12_together_58 : decode cX12_together 58 = .ok (.ior, 1) := by decide +kernel
theorem dX12_together_59 : decode cX12_together 59 = .ok (.iload_n 1, 1) := by decide +kernel
theorem dX12_together_60 : decode cX12_together 60 = .ok (.sipush 255, 3) := by decide +kernel
theorem dX12_together_63 : decode cX12_together 63 = .ok (.iand, 1) := by decide +kernel
theorem dX12_together_64 : decode cX12_together 64 = .ok (.ior, 1) := by decide +kernel
theorem dX12_together_65 : decode cX12_together 65 = .ok (.invokevirtual 115, 3) := by decide +kernel
theorem dX12_together_68 : decode cX12_together 68 = .ok (.goto 87, 3) := by decide +kernel
theorem dX12_together_155 : decode cX12_together 155 = .ok (.return_, 1) := by decide +kernel
theorem dX12_overOne_0 : decode cX12_overOne 0 = .ok (.iload_n 2, 1) := by decide +kernel
theorem dX12_overOne_1 : decode cX12_overOne 1 = .ok (.invokestatic 104, 3) := by decide +kernel
theorem dX12_overOne_4 : decode cX12_overOne 4 = .ok (.ldc 109, 2) := by decide +kernel
theorem dX12_overOne_6 : decode cX12_overOne 6 = .ok (.if_icmp .ne 4, 3) := by decide +kernel
theorem dX12_overOne_9 : decode cX12_overOne 9 = .ok (.return_, 1) := by decide +kernel
theorem dX12_overOne_10 : decode cX12_overOne 10 = .ok (.iload_n 1, 1) := by decide +kernel
theorem dX12_overOne_11 : decode cX12_overOne 11 = .ok (.invokestatic 104, 3) := by decide +kernel
theorem dX12_overOne_14 : decode cX12_overOne 14 = .ok (.ldc 126, 2) := by decide +kernel
theorem dX12_overOne_16 : decode cX12_overOne 16 = .ok (.if_icmp .ne 73, 3) := by decide +kernel
theorem dX12_overOne_89 : decode cX12_overOne 89 = .ok (.aload_n 0, 1) := by decide +kernel
theorem dX12_overOne_90 : decode cX12_overOne 90 = .ok (.iload 4, 2) := by decide +kernel
theorem dX12_overOne_92 : decode cX12_overOne 92 = .ok (.iload_n 1, 1) := by decide +kernel
theorem dX12_overOne_93 : decode cX12_overOne 93 = .ok (.invokevirtual 115, 3) := by decide +kernel
theorem dX12_overOne_96 : decode cX12_overOne 96 = .ok (.return_, 1) := by decide +kernel
theorem dX10_isBig_0 : decode cX10_isBig 0 = .ok (.iload_n 1, 1) := by decide +kernel
theorem dX10_isBig_1 : decode cX10_isBig 1 = .ok (.invokestatic 64, 3) := by decide +kernel
theorem dX10_isBig_4 : decode cX10_isBig 4 = .ok (.ifCond .eq 33, 3) := by decide +kernel
theorem dX10_isBig_7 : decode cX10_isBig 7 = .ok (.aload_n 0, 1) := by decide +kernel
theorem dX10_isBig_8 : decode cX10_isBig 8 = .ok (.getfield 29, 3) := by decide +kernel
theorem dX10_isBig_11 : decode cX10_isBig 11 = .ok (.iload_n 1, 1) := by decide +kernel
theorem dX10_isBig_12 : decode cX10_isBig 12 = .ok (.iaload, 1) := by decide +kernel
theorem dX10_isBig_13 : decode cX10_isBig 13 = .ok (.iconst 1, 1) := by decide +kernel
theorem dX10_isBig_14 : decode cX10_isBig 14 = .ok (.iand, 1) := by decide +kernel
theorem dX10_isBig_15 : decode cX10_isBig 15 = .ok (.ifCond .eq 22, 3) := by decide +kernel
theorem dX10_isBig_18 : decode cX10_isBig 18 = .ok (.aload_n 0, 1) := by decide +kernel
theorem dX10_isBig_19 : decode cX10_isBig 19 = .ok (.getfield 19, 3) := by decide +kernel
theorem dX10_isBig_22 : decode cX10_isBig 22 = .ok (.iload_n 1, 1) := by decide +kernel
theorem dX10_isBig_23 : decode cX10_isBig 23 = .ok (.laload, 1) := by decide +kernel
theorem dX10_isBig_24 : decode cX10_isBig 24 = .ok (.ldc2_w 76, 3) := by decide +kernel
theorem dX10_isBig_27 : decode cX10_isBig 27 = .ok (.land, 1) := by decide +kernel
theorem dX10_isBig_28 : decode cX10_isBig 28 = .ok (.lconst 0, 1) := by decide +kernel
theorem dX10_isBig_29 : decode cX10_isBig 29 = .ok (.lcmp, 1) := by decide +kernel
theorem dX10_isBig_30 : decode cX10_isBig 30 = .ok (.ifCond .eq 7, 3) := by decide +kernel
theorem dX10_isBig_37 : decode cX10_isBig 37 = .ok (.iconst 0, 1) := by decide +kernel
theorem dX10_isBig_38 : decode cX10_isBig 38 = .ok (.ireturn, 1) := by decide +kernel
theorem dX10_two_0 : decode cX10_two 0 = .ok (.iload_n 1, 1) := by decide +kernel
theorem dX10_two_1 : decode cX10_two 1 = .ok (.ifCond .le 22, 3) := by decide +kernel
theorem dX10_two_4 : decode cX10_two 4 = .ok (.iload_n 1, 1) := by decide +kernel
theorem dX10_two_5 : decode cX10_two 5 = .ok (.ldc 15, 2) := by decide +kernel
theorem dX10_two_7 : decode cX10_two 7 = .ok (.if_icmp .ge 16, 3) := by decide +kernel
theorem dX10_two_10 : decode cX10_two 10 = .ok (.aload_n 0, 1) := by decide +kernel
theorem dX10_two_11 : decode cX10_two 11 = .ok (.getfield 19, 3) := by decide +kernel
theorem dX10_two_14 : decode cX10_two 14 = .ok (.iload_n 1, 1) := by decide +kernel
theorem dX10_two_15 : decode cX10_two 15 = .ok (.laload, 1) := by decide +kernel
theorem dX10_two_16 : decode cX10_two 16 = .ok (.l2i, 1) := by decide +kernel
theorem dX10_two_17 : decode cX10_two 17 = .ok (.ldc 80, 2) := by decide +kernel
theorem dX10_two_19 : decode cX10_two 19 = .ok (.iand, 1) := by decide +kernel
theorem dX10_two_20 : decode cX10_two 20 = .ok (.goto 4, 3) := by decide +kernel
theorem dX10_two_23 : decode cX10_two 23 = .ok (.iconst 0, 1) := by decide +kernel
theorem dX10_two_24 : decode cX10_two 24 = .ok (.ireturn, 1) := by decide +kernel
theorem dX10_begin_0 : decode cX10_begin 0 = .ok (.aload_n 0, 1) := by decide +kernel
theorem dX10_begin_1 : decode cX10_begin 1 = .ok (.invokevirtual 84, 3) := by decide +kernel
theorem dX10_begin_4 : decode cX10_begin 4 = .ok (.istore 4, 2) := by decide +kernel
theorem dX10_begin_6 : decode cX10_begin 6 = .ok (.iload 4, 2) := by decide +kernel
theorem dX10_begin_8 : decode cX10_begin 8 = .ok (.invokestatic 64, 3) := by decide +kernel
theorem dX10_begin_11 : decode cX10_begin 11 = .ok (.ifCond .ne 10, 3) := by decide +kernel
theorem dX10_begin_21 : decode cX10_begin 21 = .ok (.iload_n 1, 1) := by decide +kernel
theorem dX10_begin_22 : decode cX10_begin 22 = .ok (.iconst 2, 1) := by decide +kernel
theorem dX10_begin_23 : decode cX10_begin 23 = .ok (.if_icmp .eq 8, 3) := by decide +kernel
theorem dX10_begin_26 : decode cX10_begin 26 = .ok (.iload_n 1, 1) := by decide +kernel
theorem dX10_begin_27 : decode cX10_begin 27 = .ok (.iconst 1, 1) := by decide +kernel
theorem dX10_begin_28 : decode cX10_begin 28 = .ok (.if_icmp .ne 7, 3) := by decide +kernel
theorem dX10_begin_31 : decode cX10_begin 31 = .ok (.iconst 1, 1) := by decide +kernel
theorem dX10_begin_32 : decode cX10_begin 32 = .ok (.goto 4, 3) := by decide +kernel
theorem dX10_begin_35 : decode cX10_begin 35 = .ok (.iconst 0, 1) := by decide +kernel
theorem dX10_begin_36 : decode cX10_begin 36 = .ok (.istore 5, 2) := by decide +kernel
theorem dX10_begin_38 : decode cX10_begin 38 = .ok (.aload_n 0, 1) := by decide +kernel
theorem dX10_begin_39 : decode cX10_begin 39 = .ok (.iload_n 2, 1) := by decide +kernel
theorem dX10_begin_40 : decode cX10_begin 40 = .ok (.invokevirtual 90, 3) := by decide +kernel
theorem dX10_begin_43 : decode cX10_begin 43 = .ok (.istore 6, 2) := by decide +kernel
theorem dX10_begin_45 : decode cX10_begin 45 = .ok (.iload_n 1, 1) := by decide +kernel
theorem dX10_begin_46 : decode cX10_begin 46 = .ok (.ifCond .ne 23, 3) := by decide +kernel
theorem dX10_begin_49 : decode cX10_begin 49 = .ok (.iload 6, 2) := by decide +kernel
theorem dX10_begin_51 : decode cX10_begin 51 = .ok (.ifCond .ne 11, 3) := by decide +kernel
theorem dX10_begin_54 : decode cX10_begin 54 = .ok (.aload_n 0, 1) := by decide +kernel
theorem dX10_begin_55 : decode cX10_begin 55 = .ok (.iload_n 3, 1) := by decide +kernel
theorem dX10_begin_56 : decode cX10_begin 56 = .ok (.invokevirtual 90, 3) := by decide +kernel
theorem dX10_begin_59 : decode cX10_begin 59 = .ok (.ifCond .eq 7, 3) := by decide +kernel
theorem dX10_begin_62 : decode cX10_begin 62 = .ok (.iconst 1, 1) := by decide +kernel
theorem dX10_begin_63 : decode cX10_begin 63 = .ok (.goto 4, 3) := by decide +kernel
theorem dX10_begin_66 : decode cX10_begin 66 = .ok (.iconst 0, 1) := by decide +kernel
theorem dX10_begin_67 : decode cX10_begin 67 = .ok (.istore 6, 2) := by decide +kernel
theorem dX10_begin_69 : decode cX10_begin 69 = .ok (.iload_n 1, 1) := by decide +kernel
theorem dX10_begin_70 : decode cX10_begin 70 = .ok (.iconst 3, 1) := by decide +kernel
theorem dX10_begin_71 : decode cX10_begin 71 = .ok (.if_icmp .ne 41, 3) := by decide +kernel
theorem dX10_begin_74 : decode cX10_begin 74 = .ok (.iload 6, 2) := by decide +kernel
theorem dX10_begin_76 : decode cX10_begin 76 = .ok (.ifCond .ne 29, 3) := by decide +kernel
theorem dX10_begin_79 : decode cX10_begin 79 = .ok (.aload_n 0, 1) := by decide +kernel
theorem dX10_begin_80 : decode cX10_begin 80 = .ok (.iload_n 2, 1) := by decide +kernel
theorem dX10_begin_81 : decode cX10_begin 81 = .ok (.invokevirtual 93, 3) := by decide +kernel
theorem dX10_begin_84 : decode cX10_begin 84 = .ok (.ldc2_w 74, 3) := by decide +kernel
theorem dX10_begin_87 : decode cX10_begin 87 = .ok (.lcmp, 1) := by decide +kernel
theorem dX10_begin_88 : decode cX10_begin 88 = .ok (.ifCond .eq 17, 3) := by decide +kernel
theorem dX10_begin_91 : decode cX10_begin 91 = .ok (.aload_n 0, 1) := by decide +kernel
theorem dX10_begin_92 : decode cX10_begin 92 = .ok (.iload_n 2, 1) := by decide +kernel
theorem dX10_begin_93 : decode cX10_begin 93 = .ok (.invokevirtual 96, 3) := by decide +kernel
theorem dX10_begin_96 : decode cX10_begin 96 = .ok (.aload_n 0, 1) := by decide +kernel
theorem dX10_begin_97 : decode cX10_begin 97 = .ok (.iload_n 2, 1) := by decide +kernel
theorem dX10_begin_98 : decode cX10_begin 98 = .ok (.invokevirtual 93, 3) := by decide +kernel
theorem dX10_begin_101 : decode cX10_begin 101 = .ok (.lcmp, 1) := by decide +kernel
theorem dX10_begin_102 : decode cX10_begin 102 = .ok (.ifCond .eq 7, 3) := by decide +kernel
theorem dX10_begin_105 : decode cX10_begin 105 = .ok (.iconst 1, 1) := by decide +kernel
theorem dX10_begin_106 : decode cX10_begin 106 = .ok (.goto 4, 3) := by decide +kernel
theorem dX10_begin_109 : decode cX10_begin 109 = .ok (.iconst 0, 1) := by decide +kernel
theorem dX10_begin_110 : decode cX10_begin 110 = .ok (.istore 6, 2) := by decide +kernel
theorem dX10_begin_112 : decode cX10_begin 112 = .ok (.iload_n 1, 1) := by decide +kernel
theorem dX10_begin_113 : decode cX10_begin 113 = .ok (.iconst 3, 1) := by decide +kernel
theorem dX10_begin_114 : decode cX10_begin 114 = .ok (.if_icmp .ne 11, 3) := by decide +kernel
theorem dX10_begin_117 : decode cX10_begin 117 = .ok (.aload_n 0, 1) := by decide +kernel
theorem dX10_begin_118 : decode cX10_begin 118 = .ok (.iload_n 2, 1) := by decide +kernel
theorem dX10_begin_119 : decode cX10_begin 119 = .ok (.invokevirtual 93, 3) := by decide +kernel
theorem dX10_begin_122 : decode cX10_begin 122 = .ok (.goto 8, 3) := by decide +kernel
theorem dX10_begin_125 : decode cX10_begin 125 = .ok (.aload_n 0, 1) := by decide +kernel
theorem dX10_begin_126 : decode cX10_begin 126 = .ok (.iload_n 3, 1) := by decide +kernel
theorem dX10_begin_127 : decode cX10_begin 127 = .ok (.invokevirtual 96, 3) := by decide +kernel
theorem dX10_begin_130 : decode cX10_begin 130 = .ok (.lstore 7, 2) := by decide +kernel
theorem dX10_begin_132 : decode cX10_begin 132 = .ok (.iload 5, 2) := by decide +kernel
theorem dX10_begin_134 : decode cX10_begin 134 = .ok (.ifCond .eq 86, 3) := by decide +kernel
theorem dX10_begin_137 : decode cX10_begin 137 = .ok (.lload 7, 2) := by decide +kernel
theorem dX10_begin_139 : decode cX10_begin 139 = .ok (.ldc2_w 74, 3) := by decide +kernel
theorem dX10_begin_142 : decode cX10_begin 142 = .ok (.lcmp, 1) := by decide +kernel
theorem dX10_begin_143 : decode cX10_begin 143 = .ok (.ifCond .eq 77, 3) := by decide +kernel
theorem dX10_begin_146 : decode cX10_begin 146 = .ok (.aload_n 0, 1) := by decide +kernel
theorem dX10_begin_147 : decode cX10_begin 147 = .ok (.iload_n 2, 1) := by decide +kernel
theorem dX10_begin_148 : decode cX10_begin 148 = .ok (.invokevirtual 93, 3) := by decide +kernel
theorem dX10_begin_151 : decode cX10_begin 151 = .ok (.ldc2_w 74, 3) := by decide +kernel
theorem dX10_begin_154 : decode cX10_begin 154 = .ok (.lcmp, 1) := by decide +kernel
theorem dX10_begin_155 : decode cX10_begin 155 = .ok (.ifCond .eq 35, 3) := by decide +kernel
theorem dX10_begin_158 : decode cX10_begin 158 = .ok (.aload_n 0, 1) := by decide +kernel
theorem dX10_begin_159 : decode cX10_begin 159 = .ok (.iload_n 2, 1) := by decide +kernel
theorem dX10_begin_160 : decode cX10_begin 160 = .ok (.invokevirtual 96, 3) := by decide +kernel
theorem dX10_begin_163 : decode cX10_begin 163 = .ok (.ldc2_w 74, 3) := by decide +kernel
theorem dX10_begin_166 : decode cX10_begin 166 = .ok (.lcmp, 1) := by decide +kernel
theorem dX10_begin_167 : decode cX10_begin 167 = .ok (.ifCond .eq 23, 3) := by decide +kernel
theorem dX10_begin_170 : decode cX10_begin 170 = .ok (.aload_n 0, 1) := by decide +kernel
theorem dX10_begin_171 : decode cX10_begin 171 = .ok (.iload_n 2, 1) := by decide +kernel
theorem dX10_begin_172 : decode cX10_begin 172 = .ok (.invokevirtual 90, 3) := by decide +kernel
theorem dX10_begin_175 : decode cX10_begin 175 = .ok (.ifCond .eq 11, 3) := by decide +kernel
theorem dX10_begin_178 : decode cX10_begin 178 = .ok (.aload_n 0, 1) := by decide +kernel
theorem dX10_begin_179 : decode cX10_begin 179 = .ok (.iload_n 3, 1) := by decide +kernel
theorem dX10_begin_180 : decode cX10_begin 180 = .ok (.invokevirtual 90, 3) := by decide +kernel
theorem dX10_begin_183 : decode cX10_begin 183 = .ok (.ifCond .ne 7, 3) := by decide +kernel
theorem dX10_begin_186 : decode cX10_begin 186 = .ok (.iconst 1, 1) := by decide +kernel
theorem dX10_begin_187 : decode cX10_begin 187 = .ok (.goto 4, 3) := by decide +kernel
theorem dX10_begin_191 : decode cX10_begin 191 = .ok (.istore 9, 2) := by decide +kernel
theorem dX10_begin_193 : decode cX10_begin 193 = .ok (.iload 9, 2) := by decide +kernel
theorem dX10_begin_195 : decode cX10_begin 195 = .ok (.ifCond .eq 20, 3) := by decide +kernel
theorem dX10_begin_198 : decode cX10_begin 198 = .ok (.lload 7, 2) := by decide +kernel
theorem dX10_begin_200 : decode cX10_begin 200 = .ok (.aload_n 0, 1) := by decide +kernel
theorem dX10_begin_201 : decode cX10_begin 201 = .ok (.iload_n 2, 1) := by decide +kernel
theorem dX10_begin_202 : decode cX10_begin 202 = .ok (.invokevirtual 96, 3) := by decide +kernel
theorem dX10_begin_205 : decode cX10_begin 205 = .ok (.ladd, 1) := by decide +kernel
theorem dX10_begin_206 : decode cX10_begin 206 = .ok (.aload_n 0, 1) := by decide +kernel
theorem dX10_begin_207 : decode cX10_begin 207 = .ok (.iload_n 2, 1) := by decide +kernel
theorem dX10_begin_208 : decode cX10_begin 208 = .ok (.invokevirtual 93, 3) := by decide +kernel
theorem dX10_begin_211 : decode cX10_begin 211 = .ok (.lsub, 1) := by decide +kernel
theorem dX10_begin_212 : decode cX10_begin 212 = .ok (.goto 6, 3) := by decide +kernel
theorem dX10_begin_218 : decode cX10_begin 218 = .ok (.lstore 7, 2) := by decide +kernel
theorem dX10_begin_220 : decode cX10_begin 220 = .ok (.aload_n 0, 1) := by decide +kernel
theorem dX10_begin_221 : decode cX10_begin 221 = .ok (.getfield 19, 3) := by decide +kernel
theorem dX10_begin_224 : decode cX10_begin 224 = .ok (.iload 4, 2) := by decide +kernel
theorem dX10_begin_226 : decode cX10_begin 226 = .ok (.ldc2_w 99, 3) := by decide +kernel
theorem dX10_begin_229 : decode cX10_begin 229 = .ok (.iload_n 1, 1) := by decide +kernel
theorem dX10_begin_230 : decode cX10_begin 230 = .ok (.i2l, 1) := by decide +kernel
theorem dX10_begin_231 : decode cX10_begin 231 = .ok (.bipush 32, 2) := by decide +kernel
theorem dX10_begin_233 : decode cX10_begin 233 = .ok (.lshl, 1) := by decide +kernel
theorem dX10_begin_234 : decode cX10_begin 234 = .ok (.lor, 1) := by decide +kernel
theorem dX10_begin_235 : decode cX10_begin 235 = .ok (.iload_n 2, 1) := by decide +kernel
theorem dX10_begin_236 : decode cX10_begin 236 = .ok (.i2l, 1) := by decide +kernel
theorem dX10_begin_237 : decode cX10_begin 237 = .ok (.bipush 16, 2) := by decide +kernel
theorem dX10_begin_239 : decode cX10_begin 239 = .ok (.lshl, 1) := by decide +kernel
theorem dX10_begin_240 : decode cX10_begin 240 = .ok (.lor, 1) := by decide +kernel
theorem dX10_begin_241 : decode cX10_begin 241 = .ok (.iload_n 3, 1) := by decide +kernel
theorem dX10_begin_242 : decode cX10_begin 242 = .ok (.i2l, 1) := by decide +kernel
theorem dX10_begin_243 : decode cX10_begin 243 = .ok (.lor, 1) := by decide +kernel
theorem dX10_begin_244 : decode cX10_begin 244 = .ok (.lastore, 1) := by decide +kernel
theorem dX10_begin_245 : decode cX10_begin 245 = .ok (.aload_n 0, 1) := by decide +kernel
theorem dX10_begin_246 : decode cX10_begin 246 = .ok (.getfield 29, 3) := by decide +kernel
theorem dX10_begin_249 : decode cX10_begin 249 = .ok (.iload 4, 2) := by decide +kernel
theorem dX10_begin_251 : decode cX10_begin 251 = .ok (.iload 6, 2) := by decide +kernel
theorem dX10_begin_253 : decode cX10_begin 253 = .ok (.ifCond .eq 7, 3) := by decide +kernel
theorem dX10_begin_256 : decode cX10_begin 256 = .ok (.iconst 5, 1) := by decide +kernel
theorem dX10_begin_257 : decode cX10_begin 257 = .ok (.goto 4, 3) := by decide +kernel
theorem dX10_begin_260 : decode cX10_begin 260 = .ok (.iconst 1, 1) := by decide +kernel
theorem dX10_begin_261 : decode cX10_begin 261 = .ok (.iastore, 1) := by decide +kernel
theorem dX10_begin_262 : decode cX10_begin 262 = .ok (.aload_n 0, 1) := by decide +kernel
theorem dX10_begin_263 : decode cX10_begin 263 = .ok (.getfield 23, 3) := by decide +kernel
theorem dX10_begin_266 : decode cX10_begin 266 = .ok (.iload 4, 2) := by decide +kernel
theorem dX10_begin_268 : decode cX10_begin 268 = .ok (.iload_n 1, 1) := by decide +kernel
theorem dX10_begin_269 : decode cX10_begin 269 = .ok (.ifCond .ne 11, 3) := by decide +kernel
theorem dX10_begin_272 : decode cX10_begin 272 = .ok (.aload_n 0, 1) := by decide +kernel
theorem dX10_begin_273 : decode cX10_begin 273 = .ok (.iload_n 2, 1) := by decide +kernel
theorem dX10_begin_274 : decode cX10_begin 274 = .ok (.invokevirtual 93, 3) := by decide +kernel
theorem dX10_begin_277 : decode cX10_begin 277 = .ok (.goto 21, 3) := by decide +kernel
theorem dX10_begin_280 : decode cX10_begin 280 = .ok (.iload_n 1, 1) := by decide +kernel
theorem dX10_begin_281 : decode cX10_begin 281 = .ok (.iconst 3, 1) := by decide +kernel
theorem dX10_begin_282 : decode cX10_begin 282 = .ok (.if_icmp .ne 11, 3) := by decide +kernel
theorem dX10_begin_285 : decode cX10_begin 285 = .ok (.aload_n 0, 1) := by decide +kernel
theorem dX10_begin_286 : decode cX10_begin 286 = .ok (.iload_n 2, 1) := by decide +kernel
theorem dX10_begin_287 : decode cX10_begin 287 = .ok (.invokevirtual 96, 3) := by decide +kernel
theorem dX10_begin_290 : decode cX10_begin 290 = .ok (.goto 8, 3) := by decide +kernel
theorem dX10_begin_293 : decode cX10_begin 293 = .ok (.aload_n 0, 1) := by decide +kernel
theorem dX10_begin_294 : decode cX10_begin 294 = .ok (.iload_n 3, 1) := by decide +kernel
theorem dX10_begin_295 : decode cX10_begin 295 = .ok (.invokevirtual 96, 3) := by decide +kernel
theorem dX10_begin_298 : decode cX10_begin 298 = .ok (.lastore, 1) := by decide +kernel
theorem dX10_begin_299 : decode cX10_begin 299 = .ok (.aload_n 0, 1) := by decide +kernel
theorem dX10_begin_300 : decode cX10_begin 300 = .ok (.getfield 26, 3) := by decide +kernel
theorem dX10_begin_303 : decode cX10_begin 303 = .ok (.iload 4, 2) := by decide +kernel
theorem dX10_begin_305 : decode cX10_begin 305 = .ok (.aload_n 0, 1) := by decide +kernel
theorem dX10_begin_306 : decode cX10_begin 306 = .ok (.getfield 23, 3) := by decide +kernel
theorem dX10_begin_309 : decode cX10_begin 309 = .ok (.iload 4, 2) := by decide +kernel
theorem dX10_begin_311 : decode cX10_begin 311 = .ok (.laload, 1) := by decide +kernel
theorem dX10_begin_312 : decode cX10_begin 312 = .ok (.ldc2_w 74, 3) := by decide +kernel
theorem dX10_begin_315 : decode cX10_begin 315 = .ok (.lcmp, 1) := by decide +kernel
theorem dX10_begin_316 : decode cX10_begin 316 = .ok (.ifCond .eq 12, 3) := by decide +kernel
theorem dX10_begin_319 : decode cX10_begin 319 = .ok (.lload 7, 2) := by decide +kernel
theorem dX10_begin_321 : decode cX10_begin 321 = .ok (.ldc2_w 74, 3) := by decide +kernel
theorem dX10_begin_324 : decode cX10_begin 324 = .ok (.lcmp, 1) := by decide +kernel
theorem dX10_begin_325 : decode cX10_begin 325 = .ok (.ifCond .ne 9, 3) := by decide +kernel
theorem dX10_begin_334 : decode cX10_begin 334 = .ok (.aload_n 0, 1) := by decide +kernel
theorem dX10_begin_335 : decode cX10_begin 335 = .ok (.getfield 23, 3) := by decide +kernel
theorem dX10_begin_338 : decode cX10_begin 338 = .ok (.iload 4, 2) := by decide +kernel
theorem dX10_begin_340 : decode cX10_begin 340 = .ok (.laload, 1) := by decide +kernel
theorem dX10_begin_341 : decode cX10_begin 341 = .ok (.lload 7, 2) := by decide +kernel
theorem dX10_begin_343 : decode cX10_begin 343 = .ok (.ladd, 1) := by decide +kernel
theorem dX10_begin_344 : decode cX10_begin 344 = .ok (.lastore, 1) := by decide +kernel
theorem dX10_begin_345 : decode cX10_begin 345 = .ok (.iload 4, 2) := by decide +kernel
theorem dX10_begin_347 : decode cX10_begin 347 = .ok (.ireturn, 1) := by decide +kernel
theorem dX10_one_0 : decode cX10_one 0 = .ok (.iload_n 1, 1) := by decide +kernel
theorem dX10_one_1 : decode cX10_one 1 = .ok (.ifCond .le 25, 3) := by decide +kernel
theorem dX10_one_4 : decode cX10_one 4 = .ok (.iload_n 1, 1) := by decide +kernel
theorem dX10_one_5 : decode cX10_one 5 = .ok (.ldc 15, 2) := by decide +kernel
theorem dX10_one_7 : decode cX10_one 7 = .ok (.if_icmp .ge 19, 3) := by decide +kernel
theorem dX10_one_10 : decode cX10_one 10 = .ok (.aload_n 0, 1) := by decide +kernel
theorem dX10_one_11 : decode cX10_one 11 = .ok (.getfield 19, 3) := by decide +kernel
theorem dX10_one_14 : decode cX10_one 14 = .ok (.iload_n 1, 1) := by decide +kernel
theorem dX10_one_15 : decode cX10_one 15 = .ok (.laload, 1) := by decide +kernel
theorem dX10_one_16 : decode cX10_one 16 = .ok (.bipush 16, 2) := by decide +kernel
theorem dX10_one_18 : decode cX10_one 18 = .ok (.lshr, 1) := by decide +kernel
theorem dX10_one_19 : decode cX10_one 19 = .ok (.l2i, 1) := by decide +kernel
theorem dX10_one_20 : decode cX10_one 20 = .ok (.ldc 80, 2) := by decide +kernel
theorem dX10_one_22 : decode cX10_one 22 = .ok (.iand, 1) := by decide +kernel
theorem dX10_one_23 : decode cX10_one 23 = .ok (.goto 4, 3) := by decide +kernel
theorem dX10_one_27 : decode cX10_one 27 = .ok (.ireturn, 1) := by decide +kernel
theorem dX2_push_0 : decode cX2_push 0 = .ok (.aload_n 0, 1) := by decide +kernel
theorem dX2_push_1 : decode cX2_push 1 = .ok (.getfield 105, 3) := by decide +kernel
theorem dX2_push_4 : decode cX2_push 4 = .ok (.sipush 4096, 3) := by decide +kernel
theorem dX2_push_7 : decode cX2_push 7 = .ok (.if_icmp .lt 12, 3) := by decide +kernel
theorem dX2_push_19 : decode cX2_push 19 = .ok (.aload_n 0, 1) := by decide +kernel
theorem dX2_push_20 : decode cX2_push 20 = .ok (.getfield 105, 3) := by decide +kernel
theorem dX2_push_23 : decode cX2_push 23 = .ok (.iconst 5, 1) := by decide +kernel
theorem dX2_push_24 : decode cX2_push 24 = .ok (.imul, 1) := by decide +kernel
theorem dX2_push_25 : decode cX2_push 25 = .ok (.istore_n 3, 1) := by decide +kernel
theorem dX2_push_26 : decode cX2_push 26 = .ok (.aload_n 0, 1) := by decide +kernel
theorem dX2_push_27 : decode cX2_push 27 = .ok (.getfield 13, 3) := by decide +kernel
theorem dX2_push_30 : decode cX2_push 30 = .ok (.iload_n 3, 1) := by decide +kernel
theorem dX2_push_31 : decode cX2_push 31 = .ok (.iconst 0, 1) := by decide +kernel
theorem dX2_push_32 : decode cX2_push 32 = .ok (.iadd, 1) := by decide +kernel
theorem dX2_push_33 : decode cX2_push 33 = .ok (.iload_n 1, 1) := by decide +kernel
theorem dX2_push_34 : decode cX2_push 34 = .ok (.invokestatic 159, 3) := by decide +kernel
theorem dX2_push_37 : decode cX2_push 37 = .ok (.aload_n 0, 1) := by decide +kernel
theorem dX2_push_38 : decode cX2_push 38 = .ok (.getfield 13, 3) := by decide +kernel
theorem dX2_push_41 : decode cX2_push 41 = .ok (.iload_n 3, 1) := by decide +kernel
theorem dX2_push_42 : decode cX2_push 42 = .ok (.iconst 1, 1) := by decide +kernel
theorem dX2_push_43 : decode cX2_push 43 = .ok (.iadd, 1) := by decide +kernel
theorem dX2_push_44 : decode cX2_push 44 = .ok (.iload_n 2, 1) := by decide +kernel
theorem dX2_push_45 : decode cX2_push 45 = .ok (.invokestatic 159, 3) := by decide +kernel
theorem dX2_push_48 : decode cX2_push 48 = .ok (.aload_n 0, 1) := by decide +kernel
theorem dX2_push_49 : decode cX2_push 49 = .ok (.getfield 13, 3) := by decide +kernel
theorem dX2_push_52 : decode cX2_push 52 = .ok (.iload_n 3, 1) := by decide +kernel
theorem dX2_push_53 : decode cX2_push 53 = .ok (.iconst 4, 1) := by decide +kernel
theorem dX2_push_54 : decode cX2_push 54 = .ok (.iadd, 1) := by decide +kernel
theorem dX2_push_55 : decode cX2_push 55 = .ok (.iconst (-1), 1) := by decide +kernel
theorem dX2_push_56 : decode cX2_push 56 = .ok (.invokestatic 159, 3) := by decide +kernel
theorem dX2_push_59 : decode cX2_push 59 = .ok (.aload_n 0, 1) := by decide +kernel
theorem dX2_push_60 : decode cX2_push 60 = .ok (.dup, 1) := by decide +kernel
theorem dX2_push_61 : decode cX2_push 61 = .ok (.getfield 105, 3) := by decide +kernel
theorem dX2_push_64 : decode cX2_push 64 = .ok (.iconst 1, 1) := by decide +kernel
theorem dX2_push_65 : decode cX2_push 65 = .ok (.iadd, 1) := by decide +kernel
theorem dX2_push_66 : decode cX2_push 66 = .ok (.putfield 105, 3) := by decide +kernel
theorem dX2_push_69 : decode cX2_push 69 = .ok (.return_, 1) := by decide +kernel
theorem dX11_putNode_0 : decode cX11_putNode 0 = .ok (.iload_n 1, 1) := by decide +kernel
theorem dX11_putNode_1 : decode cX11_putNode 1 = .ok (.ifCond .lt 13, 3) := by decide +kernel
theorem dX11_putNode_4 : decode cX11_putNode 4 = .ok (.iload_n 1, 1) := by decide +kernel
theorem dX11_putNode_5 : decode cX11_putNode 5 = .ok (.aload_n 0, 1) := by decide +kernel
theorem dX11_putNode_6 : decode cX11_putNode 6 = .ok (.arraylength, 1) := by decide +kernel
theorem dX11_putNode_7 : decode cX11_putNode 7 = .ok (.if_icmp .ge 7, 3) := by decide +kernel
theorem dX11_putNode_10 : decode cX11_putNode 10 = .ok (.aload_n 0, 1) := by decide +kernel
theorem dX11_putNode_11 : decode cX11_putNode 11 = .ok (.iload_n 1, 1) := by decide +kernel
theorem dX11_putNode_12 : decode cX11_putNode 12 = .ok (.iload_n 2, 1) := by decide +kernel
theorem dX11_putNode_13 : decode cX11_putNode 13 = .ok (.iastore, 1) := by decide +kernel
theorem dX11_putNode_14 : decode cX11_putNode 14 = .ok (.return_, 1) := by decide +kernel
theorem dX9_hasDelete_0 : decode cX9_hasDelete 0 = .ok (.iload_n 1, 1) := by decide +kernel
theorem dX9_hasDelete_1 : decode cX9_hasDelete 1 = .ok (.ifCond .le 28, 3) := by decide +kernel
theorem dX9_hasDelete_4 : decode cX9_hasDelete 4 = .ok (.iload_n 1, 1) := by decide +kernel
theorem dX9_hasDelete_5 : decode cX9_hasDelete 5 = .ok (.ldc 19, 2) := by decide +kernel
theorem dX9_hasDelete_7 : decode cX9_hasDelete 7 = .ok (.if_icmp .ge 22, 3) := by decide +kernel
theorem dX9_hasDelete_10 : decode cX9_hasDelete 10 = .ok (.aload_n 0, 1) := by decide +kernel
theorem dX9_hasDelete_11 : decode cX9_hasDelete 11 = .ok (.getfield 20, 3) := by decide +kernel
theorem dX9_hasDelete_14 : decode cX9_hasDelete 14 = .ok (.iload_n 1, 1) := by decide +kernel
theorem dX9_hasDelete_15 : decode cX9_hasDelete 15 = .ok (.laload, 1) := by decide +kernel
theorem dX9_hasDelete_16 : decode cX9_hasDelete 16 = .ok (.ldc2_w 92, 3) := by decide +kernel
theorem dX9_hasDelete_19 : decode cX9_hasDelete 19 = .ok (.land, 1) := by decide +kernel
theorem dX9_hasDelete_20 : decode cX9_hasDelete 20 = .ok (.lconst 0, 1) := by decide +kernel
theorem dX9_hasDelete_21 : decode cX9_hasDelete 21 = .ok (.lcmp, 1) := by decide +kernel
theorem dX9_hasDelete_22 : decode cX9_hasDelete 22 = .ok (.ifCond .eq 7, 3) := by decide +kernel
theorem dX9_hasDelete_25 : decode cX9_hasDelete 25 = .ok (.iconst 1, 1) := by decide +kernel
theorem dX9_hasDelete_26 : decode cX9_hasDelete 26 = .ok (.goto 4, 3) := by decide +kernel
theorem dX9_hasDelete_29 : decode cX9_hasDelete 29 = .ok (.iconst 0, 1) := by decide +kernel
theorem dX9_hasDelete_30 : decode cX9_hasDelete 30 = .ok (.ireturn, 1) := by decide +kernel
theorem dX9_leaves_0 : decode cX9_leaves 0 = .ok (.iload_n 1, 1) := by decide +kernel
theorem dX9_leaves_1 : decode cX9_leaves 1 = .ok (.ifCond .le 22, 3) := by decide +kernel
theorem dX9_leaves_4 : decode cX9_leaves 4 = .ok (.iload_n 1, 1) := by decide +kernel
theorem dX9_leaves_5 : decode cX9_leaves 5 = .ok (.ldc 19, 2) := by decide +kernel
theorem dX9_leaves_7 : decode cX9_leaves 7 = .ok (.if_icmp .ge 16, 3) := by decide +kernel
theorem dX9_leaves_10 : decode cX9_leaves 10 = .ok (.aload_n 0, 1) := by decide +kernel
theorem dX9_leaves_11 : decode cX9_leaves 11 = .ok (.getfield 20, 3) := by decide +kernel
theorem dX9_leaves_14 : decode cX9_leaves 14 = .ok (.iload_n 1, 1) := by decide +kernel
theorem dX9_leaves_15 : decode cX9_leaves 15 = .ok (.laload, 1) := by decide +kernel
theorem dX9_leaves_16 : decode cX9_leaves 16 = .ok (.bipush 56, 2) := by decide +kernel
theorem dX9_leaves_18 : decode cX9_leaves 18 = .ok (.lushr, 1) := by decide +kernel
theorem dX9_leaves_19 : decode cX9_leaves 19 = .ok (.l2i, 1) := by decide +kernel
theorem dX9_leaves_20 : decode cX9_leaves 20 = .ok (.goto 4, 3) := by decide +kernel
theorem dX9_leaves_23 : decode cX9_leaves 23 = .ok (.iconst 0, 1) := by decide +kernel
theorem dX9_leaves_24 : decode cX9_leaves 24 = .ok (.ireturn, 1) := by decide +kernel
theorem dX9_act_0 : decode cX9_act 0 = .ok (.aload_n 0, 1) := by decide +kernel
theorem dX9_act_1 : decode cX9_act 1 = .ok (.iload_n 1, 1) := by decide +kernel
theorem dX9_act_2 : decode cX9_act 2 = .ok (.invokevirtual 70, 3) := by decide +kernel
theorem dX9_act_5 : decode cX9_act 5 = .ok (.istore_n 2, 1) := by decide +kernel
theorem dX9_act_6 : decode cX9_act 6 = .ok (.iload_n 2, 1) := by decide +kernel
theorem dX9_act_7 : decode cX9_act 7 = .ok (.ifCond .le 16, 3) := by decide +kernel
theorem dX9_act_10 : decode cX9_act 10 = .ok (.iload_n 2, 1) := by decide +kernel
theorem dX9_act_11 : decode cX9_act 11 = .ok (.sipush 1024, 3) := by decide +kernel
theorem dX9_act_14 : decode cX9_act 14 = .ok (.if_icmp .gt 9, 3) := by decide +kernel
theorem dX9_act_17 : decode cX9_act 17 = .ok (.iload_n 2, 1) := by decide +kernel
theorem dX9_act_18 : decode cX9_act 18 = .ok (.iconst 1, 1) := by decide +kernel
theorem dX9_act_19 : decode cX9_act 19 = .ok (.isub, 1) := by decide +kernel
theorem dX9_act_20 : decode cX9_act 20 = .ok (.goto 4, 3) := by decide +kernel
theorem dX9_act_23 : decode cX9_act 23 = .ok (.iconst (-1), 1) := by decide +kernel
theorem dX9_act_24 : decode cX9_act 24 = .ok (.ireturn, 1) := by decide +kernel
theorem dX2_woven_0 : decode cX2_woven 0 = .ok (.iload_n 1, 1) := by decide +kernel
theorem dX2_woven_1 : decode cX2_woven 1 = .ok (.iconst 4, 1) := by decide +kernel
theorem dX2_woven_2 : decode cX2_woven 2 = .ok (.ishr, 1) := by decide +kernel
theorem dX2_woven_3 : decode cX2_woven 3 = .ok (.bipush 15, 2) := by decide +kernel
theorem dX2_woven_5 : decode cX2_woven 5 = .ok (.iand, 1) := by decide +kernel
theorem dX2_woven_6 : decode cX2_woven 6 = .ok (.istore_n 3, 1) := by decide +kernel
theorem dX2_woven_7 : decode cX2_woven 7 = .ok (.iload_n 1, 1) := by decide +kernel
theorem dX2_woven_8 : decode cX2_woven 8 = .ok (.bipush 15, 2) := by decide +kernel
theorem dX2_woven_10 : decode cX2_woven 10 = .ok (.iand, 1) := by decide +kernel
theorem dX2_woven_11 : decode cX2_woven 11 = .ok (.istore 4, 2) := by decide +kernel
theorem dX2_woven_13 : decode cX2_woven 13 = .ok (.iload_n 2, 1) := by decide +kernel
theorem dX2_woven_14 : decode cX2_woven 14 = .ok (.iconst 4, 1) := by decide +kernel
theorem dX2_woven_15 : decode cX2_woven 15 = .ok (.ishr, 1) := by decide +kernel
theorem dX2_woven_16 : decode cX2_woven 16 = .ok (.bipush 15, 2) := by decide +kernel
theorem dX2_woven_18 : decode cX2_woven 18 = .ok (.iand, 1) := by decide +kernel
theorem dX2_woven_19 : decode cX2_woven 19 = .ok (.istore 5, 2) := by decide +kernel
theorem dX2_woven_21 : decode cX2_woven 21 = .ok (.iload_n 2, 1) := by decide +kernel
theorem dX2_woven_22 : decode cX2_woven 22 = .ok (.bipush 15, 2) := by decide +kernel
theorem dX2_woven_24 : decode cX2_woven 24 = .ok (.iand, 1) := by decide +kernel
theorem dX2_woven_25 : decode cX2_woven 25 = .ok (.istore 6, 2) := by decide +kernel
theorem dX2_woven_27 : decode cX2_woven 27 = .ok (.iload_n 0, 1) := by decide +kernel
theorem dX2_woven_28 : decode cX2_woven 28 = .ok (.iconst 3, 1) := by decide +kernel
theorem dX2_woven_29 : decode cX2_woven 29 = .ok (.if_icmp .ne 36, 3) := by decide +kernel
theorem dX2_woven_32 : decode cX2_woven 32 = .ok (.iload_n 2, 1) := by decide +kernel
theorem dX2_woven_33 : decode cX2_woven 33 = .ok (.iconst 5, 1) := by decide +kernel
theorem dX2_woven_34 : decode cX2_woven 34 = .ok (.ishr, 1) := by decide +kernel
theorem dX2_woven_35 : decode cX2_woven 35 = .ok (.istore 7, 2) := by decide +kernel
theorem dX2_woven_37 : decode cX2_woven 37 = .ok (.iload_n 1, 1) := by decide +kernel
theorem dX2_woven_38 : decode cX2_woven 38 = .ok (.sipush 512, 3) := by decide +kernel
theorem dX2_woven_41 : decode cX2_woven 41 = .ok (.if_icmp .gt 5, 3) := by decide +kernel
theorem dX2_woven_44 : decode cX2_woven 44 = .ok (.iload_n 2, 1) := by decide +kernel
theorem dX2_woven_45 : decode cX2_woven 45 = .ok (.ireturn, 1) := by decide +kernel
theorem dX2_woven_46 : decode cX2_woven 46 = .ok (.sipush 768, 3) := by decide +kernel
theorem dX2_woven_49 : decode cX2_woven 49 = .ok (.iload 4, 2) := by decide +kernel
theorem dX2_woven_51 : decode cX2_woven 51 = .ok (.iload 7, 2) := by decide +kernel
theorem dX2_woven_53 : decode cX2_woven 53 = .ok (.iand, 1) := by decide +kernel
theorem dX2_woven_54 : decode cX2_woven 54 = .ok (.iconst 4, 1) := by decide +kernel
theorem dX2_woven_55 : decode cX2_woven 55 = .ok (.ishl, 1) := by decide +kernel
theorem dX2_woven_56 : decode cX2_woven 56 = .ok (.ior, 1) := by decide +kernel
theorem dX2_woven_57 : decode cX2_woven 57 = .ok (.iload_n 3, 1) := by decide +kernel
theorem dX2_woven_58 : decode cX2_woven 58 = .ok (.iload 7, 2) := by decide +kernel
theorem dX2_woven_60 : decode cX2_woven 60 = .ok (.iconst (-1), 1) := by decide +kernel
theorem dX2_woven_61 : decode cX2_woven 61 = .ok (.ixor, 1) := by decide +kernel
theorem dX2_woven_62 : decode cX2_woven 62 = .ok (.iand, 1) := by decide +kernel
theorem dX2_woven_63 : decode cX2_woven 63 = .ok (.ior, 1) := by decide +kernel
theorem dX2_woven_64 : decode cX2_woven 64 = .ok (.ireturn, 1) := by decide +kernel
theorem dX2_woven_65 : decode cX2_woven 65 = .ok (.iload_n 0, 1) := by decide +kernel
theorem dX2_woven_66 : decode cX2_woven 66 = .ok (.ifCond .ne 73, 3) := by decide +kernel
theorem dX2_woven_69 : decode cX2_woven 69 = .ok (.iload_n 2, 1) := by decide +kernel
theorem dX2_woven_70 : decode cX2_woven 70 = .ok (.sipush 512, 3) := by decide +kernel
theorem dX2_woven_73 : decode cX2_woven 73 = .ok (.if_icmp .gt 18, 3) := by decide +kernel
theorem dX2_woven_76 : decode cX2_woven 76 = .ok (.iload_n 1, 1) := by decide +kernel
theorem dX2_woven_77 : decode cX2_woven 77 = .ok (.sipush 512, 3) := by decide +kernel
theorem dX2_woven_80 : decode cX2_woven 80 = .ok (.if_icmp .ge 7, 3) := by decide +kernel
theorem dX2_woven_83 : decode cX2_woven 83 = .ok (.iconst (-1), 1) := by decide +kernel
theorem dX2_woven_84 : decode cX2_woven 84 = .ok (.goto 6, 3) := by decide +kernel
theorem dX2_woven_90 : decode cX2_woven 90 = .ok (.ireturn, 1) := by decide +kernel
theorem dX2_woven_91 : decode cX2_woven 91 = .ok (.iload_n 1, 1) := by decide +kernel
theorem dX2_woven_92 : decode cX2_woven 92 = .ok (.sipush 512, 3) := by decide +kernel
theorem dX2_woven_95 : decode cX2_woven 95 = .ok (.if_icmp .ge 17, 3) := by decide +kernel
theorem dX2_woven_98 : decode cX2_woven 98 = .ok (.iload_n 1, 1) := by decide +kernel
theorem dX2_woven_99 : decode cX2_woven 99 = .ok (.iload 5, 2) := by decide +kernel
theorem dX2_woven_101 : decode cX2_woven 101 = .ok (.iconst 5, 1) := by decide +kernel
theorem dX2_woven_102 : decode cX2_woven 102 = .ok (.ishl, 1) := by decide +kernel
theorem dX2_woven_103 : decode cX2_woven 103 = .ok (.ior, 1) := by decide +kernel
theorem dX2_woven_104 : decode cX2_woven 104 = .ok (.iload 6, 2) := by decide +kernel
theorem dX2_woven_106 : decode cX2_woven 106 = .ok (.iconst 5, 1) := by decide +kernel
theorem dX2_woven_107 : decode cX2_woven 107 = .ok (.ishl, 1) := by decide +kernel
theorem dX2_woven_108 : decode cX2_woven 108 = .ok (.iconst (-1), 1) := by decide +kernel
theorem dX2_woven_109 : decode cX2_woven 109 = .ok (.ixor, 1) := by decide +kernel
theorem dX2_woven_110 : decode cX2_woven 110 = .ok (.iand, 1) := by decide +kernel
theorem dX2_woven_111 : decode cX2_woven 111 = .ok (.ireturn, 1) := by decide +kernel
theorem dX2_woven_112 : decode cX2_woven 112 = .ok (.sipush 768, 3) := by decide +kernel
theorem dX2_woven_115 : decode cX2_woven 115 = .ok (.iload_n 3, 1) := by decide +kernel
theorem dX2_woven_116 : decode cX2_woven 116 = .ok (.iload 6, 2) := by decide +kernel
theorem dX2_woven_118 : decode cX2_woven 118 = .ok (.iconst (-1), 1) := by decide +kernel
theorem dX2_woven_119 : decode cX2_woven 119 = .ok (.ixor, 1) := by decide +kernel
theorem dX2_woven_120 : decode cX2_woven 120 = .ok (.iand, 1) := by decide +kernel
theorem dX2_woven_121 : decode cX2_woven 121 = .ok (.iload 5, 2) := by decide +kernel
theorem dX2_woven_123 : decode cX2_woven 123 = .ok (.ior, 1) := by decide +kernel
theorem dX2_woven_124 : decode cX2_woven 124 = .ok (.iconst 4, 1) := by decide +kernel
theorem dX2_woven_125 : decode cX2_woven 125 = .ok (.ishl, 1) := by decide +kernel
theorem dX2_woven_126 : decode cX2_woven 126 = .ok (.ior, 1) := by decide +kernel
theorem dX2_woven_127 : decode cX2_woven 127 = .ok (.iload 4, 2) := by decide +kernel
theorem dX2_woven_129 : decode cX2_woven 129 = .ok (.iload 5, 2) := by decide +kernel
theorem dX2_woven_131 : decode cX2_woven 131 = .ok (.iconst (-1), 1) := by decide +kernel
theorem dX2_woven_132 : decode cX2_woven 132 = .ok (.ixor, 1) := by decide +kernel
theorem dX2_woven_133 : decode cX2_woven 133 = .ok (.iand, 1) := by decide +kernel
theorem dX2_woven_134 : decode cX2_woven 134 = .ok (.ior, 1) := by decide +kernel
theorem dX2_woven_135 : decode cX2_woven 135 = .ok (.iload 6, 2) := by decide +kernel
theorem dX2_woven_137 : decode cX2_woven 137 = .ok (.ior, 1) := by decide +kernel
theorem dX2_woven_138 : decode cX2_woven 138 = .ok (.ireturn, 1) := by decide +kernel
theorem dX2_woven_139 : decode cX2_woven 139 = .ok (.iload_n 2, 1) := by decide +kernel
theorem dX2_woven_140 : decode cX2_woven 140 = .ok (.sipush 512, 3) := by decide +kernel
theorem dX2_woven_143 : decode cX2_woven 143 = .ok (.if_icmp .gt 5, 3) := by decide +kernel
theorem dX2_woven_146 : decode cX2_woven 146 = .ok (.iconst (-1), 1) := by decide +kernel
theorem dX2_woven_147 : decode cX2_woven 147 = .ok (.ireturn, 1) := by decide +kernel
theorem dX2_woven_148 : decode cX2_woven 148 = .ok (.iload_n 1, 1) := by decide +kernel
theorem dX2_woven_149 : decode cX2_woven 149 = .ok (.sipush 512, 3) := by decide +kernel
theorem dX2_woven_152 : decode cX2_woven 152 = .ok (.if_icmp .le 8, 3) := by decide +kernel
theorem dX2_woven_155 : decode cX2_woven 155 = .ok (.iload_n 0, 1) := by decide +kernel
theorem dX2_woven_156 : decode cX2_woven 156 = .ok (.iconst 1, 1) := by decide +kernel
theorem dX2_woven_157 : decode cX2_woven 157 = .ok (.if_icmp .ne 5, 3) := by decide +kernel
theorem dX2_woven_160 : decode cX2_woven 160 = .ok (.iload_n 1, 1) := by decide +kernel
theorem dX2_woven_161 : decode cX2_woven 161 = .ok (.ireturn, 1) := by decide +kernel
theorem dX2_woven_162 : decode cX2_woven 162 = .ok (.iload 5, 2) := by decide +kernel
theorem dX2_woven_164 : decode cX2_woven 164 = .ok (.iload 6, 2) := by decide +kernel
theorem dX2_woven_166 : decode cX2_woven 166 = .ok (.ior, 1) := by decide +kernel
theorem dX2_woven_167 : decode cX2_woven 167 = .ok (.istore 7, 2) := by decide +kernel
theorem dX2_woven_169 : decode cX2_woven 169 = .ok (.sipush 768, 3) := by decide +kernel
theorem dX2_woven_172 : decode cX2_woven 172 = .ok (.iload_n 3, 1) := by decide +kernel
theorem dX2_woven_173 : decode cX2_woven 173 = .ok (.iload 7, 2) := by decide +kernel
theorem dX2_woven_175 : decode cX2_woven 175 = .ok (.iconst (-1), 1) := by decide +kernel
theorem dX2_woven_176 : decode cX2_woven 176 = .ok (.ixor, 1) := by decide +kernel
theorem dX2_woven_177 : decode cX2_woven 177 = .ok (.iand, 1) := by decide +kernel
theorem dX2_woven_178 : decode cX2_woven 178 = .ok (.iconst 4, 1) := by decide +kernel
theorem dX2_woven_179 : decode cX2_woven 179 = .ok (.ishl, 1) := by decide +kernel
theorem dX2_woven_180 : decode cX2_woven 180 = .ok (.ior, 1) := by decide +kernel
theorem dX2_woven_181 : decode cX2_woven 181 = .ok (.iload 4, 2) := by decide +kernel
theorem dX2_woven_183 : decode cX2_woven 183 = .ok (.iload 7, 2) := by decide +kernel
theorem dX2_woven_185 : decode cX2_woven 185 = .ok (.iconst (-1), 1) := by decide +kernel
theorem dX2_woven_186 : decode cX2_woven 186 = .ok (.ixor, 1) := by decide +kernel
theorem dX2_woven_187 : decode cX2_woven 187 = .ok (.iand, 1) := by decide +kernel
theorem dX2_woven_188 : decode cX2_woven 188 = .ok (.ior, 1) := by decide +kernel
theorem dX2_woven_189 : decode cX2_woven 189 = .ok (.ireturn, 1) := by decide +kernel
theorem dX2_keyOf_0 : decode cX2_keyOf 0 = .ok (.aload_n 0, 1) := by decide +kernel
theorem dX2_keyOf_1 : decode cX2_keyOf 1 = .ok (.getfield 13, 3) := by decide +kernel
theorem dX2_keyOf_4 : decode cX2_keyOf 4 = .ok (.iload_n 2, 1) := by decide +kernel
theorem dX2_keyOf_5 : decode cX2_keyOf 5 = .ok (.iconst 0, 1) := by decide +kernel
theorem dX2_keyOf_6 : decode cX2_keyOf 6 = .ok (.iadd, 1) := by decide +kernel
theorem dX2_keyOf_7 : decode cX2_keyOf 7 = .ok (.invokestatic 139, 3) := by decide +kernel
theorem dX2_keyOf_10 : decode cX2_keyOf 10 = .ok (.i2l, 1) := by decide +kernel
theorem dX2_keyOf_11 : decode cX2_keyOf 11 = .ok (.bipush 21, 2) := by decide +kernel
theorem dX2_keyOf_13 : decode cX2_keyOf 13 = .ok (.lshl, 1) := by decide +kernel
theorem dX2_keyOf_14 : decode cX2_keyOf 14 = .ok (.aload_n 0, 1) := by decide +kernel
theorem dX2_keyOf_15 : decode cX2_keyOf 15 = .ok (.getfield 13, 3) := by decide +kernel
theorem dX2_keyOf_18 : decode cX2_keyOf 18 = .ok (.iload_n 2, 1) := by decide +kernel
theorem dX2_keyOf_19 : decode cX2_keyOf 19 = .ok (.iconst 1, 1) := by decide +kernel
theorem dX2_keyOf_20 : decode cX2_keyOf 20 = .ok (.iadd, 1) := by decide +kernel
theorem dX2_keyOf_21 : decode cX2_keyOf 21 = .ok (.invokestatic 139, 3) := by decide +kernel
theorem dX2_keyOf_24 : decode cX2_keyOf 24 = .ok (.i2l, 1) := by decide +kernel
theorem dX2_keyOf_25 : decode cX2_keyOf 25 = .ok (.lor, 1) := by decide +kernel
theorem dX2_keyOf_26 : decode cX2_keyOf 26 = .ok (.lstore_n 3, 1) := by decide +kernel
theorem dX2_keyOf_27 : decode cX2_keyOf 27 = .ok (.lload_n 3, 1) := by decide +kernel
theorem dX2_keyOf_28 : decode cX2_keyOf 28 = .ok (.ldc2_w 303, 3) := by decide +kernel
theorem dX2_keyOf_31 : decode cX2_keyOf 31 = .ok (.lmul, 1) := by decide +kernel
theorem dX2_keyOf_32 : decode cX2_keyOf 32 = .ok (.iload_n 1, 1) := by decide +kernel
theorem dX2_keyOf_33 : decode cX2_keyOf 33 = .ok (.i2l, 1) := by decide +kernel
theorem dX2_keyOf_34 : decode cX2_keyOf 34 = .ok (.ladd, 1) := by decide +kernel
theorem dX2_keyOf_35 : decode cX2_keyOf 35 = .ok (.ldc2_w 305, 3) := by decide +kernel
theorem dX2_keyOf_38 : decode cX2_keyOf 38 = .ok (.lmul, 1) := by decide +kernel
theorem dX2_keyOf_39 : decode cX2_keyOf 39 = .ok (.ldc2_w 307, 3) := by decide +kernel
theorem dX2_keyOf_42 : decode cX2_keyOf 42 = .ok (.land, 1) := by decide +kernel
theorem dX2_keyOf_43 : decode cX2_keyOf 43 = .ok (.lstore 5, 2) := by decide +kernel
theorem dX2_keyOf_45 : decode cX2_keyOf 45 = .ok (.lload 5, 2) := by decide +kernel
theorem dX2_keyOf_47 : decode cX2_keyOf 47 = .ok (.lload 5, 2) := by decide +kernel
theorem dX2_keyOf_49 : decode cX2_keyOf 49 = .ok (.bipush 22, 2) := by decide +kernel
theorem dX2_keyOf_51 : decode cX2_keyOf 51 = .ok (.lushr, 1) := by decide +kernel
theorem dX2_keyOf_52 : decode cX2_keyOf 52 = .ok (.lxor, 1) := by decide +kernel
theorem dX2_keyOf_53 : decode cX2_keyOf 53 = .ok (.lreturn, 1) := by decide +kernel
theorem dX2_flatten_0 : decode cX2_flatten 0 = .ok (.aload_n 2, 1) := by decide +kernel
theorem dX2_flatten_1 : decode cX2_flatten 1 = .ok (.iconst 0, 1) := by decide +kernel
theorem dX2_flatten_2 : decode cX2_flatten 2 = .ok (.putfield 279, 3) := by decide +kernel
theorem dX2_flatten_5 : decode cX2_flatten 5 = .ok (.iconst 0, 1) := by decide +kernel
theorem dX2_flatten_6 : decode cX2_flatten 6 = .ok (.istore_n 3, 1) := by decide +kernel
theorem dX2_flatten_7 : decode cX2_flatten 7 = .ok (.aload_n 0, 1) := by decide +kernel
theorem dX2_flatten_8 : decode cX2_flatten 8 = .ok (.getfield 17, 3) := by decide +kernel
theorem dX2_flatten_11 : decode cX2_flatten 11 = .ok (.iload_n 3, 1) := by decide +kernel
theorem dX2_flatten_12 : decode cX2_flatten 12 = .ok (.iinc 3 1, 3) := by decide +kernel
theorem dX2_flatten_15 : decode cX2_flatten 15 = .ok (.iload_n 1, 1) := by decide +kernel
theorem dX2_flatten_16 : decode cX2_flatten 16 = .ok (.iastore, 1) := by decide +kernel
theorem dX2_flatten_17 : decode cX2_flatten 17 = .ok (.iconst 0, 1) := by decide +kernel
theorem dX2_flatten_18 : decode cX2_flatten 18 = .ok (.istore 4, 2) := by decide +kernel
theorem dX2_flatten_20 : decode cX2_flatten 20 = .ok (.iload 4, 2) := by decide +kernel
theorem dX2_flatten_22 : decode cX2_flatten 22 = .ok (.sipush 508, 3) := by decide +kernel
theorem dX2_flatten_25 : decode cX2_flatten 25 = .ok (.if_icmp .ge 175, 3) := by decide +kernel
theorem dX2_flatten_28 : decode cX2_flatten 28 = .ok (.iload_n 3, 1) := by decide +kernel
theorem dX2_flatten_29 : decode cX2_flatten 29 = .ok (.ifCond .le 171, 3) := by decide +kernel
theorem dX2_flatten_32 : decode cX2_flatten 32 = .ok (.aload_n 0, 1) := by decide +kernel
theorem dX2_flatten_33 : decode cX2_flatten 33 = .ok (.getfield 17, 3) := by decide +kernel
theorem dX2_flatten_36 : decode cX2_flatten 36 = .ok (.iinc 3 (-1), 3) := by decide +kernel
theorem dX2_flatten_39 : decode cX2_flatten 39 = .ok (.iload_n 3, 1) := by decide +kernel
theorem dX2_flatten_40 : decode cX2_flatten 40 = .ok (.iaload, 1) := by decide +kernel
theorem dX2_flatten_41 : decode cX2_flatten 41 = .ok (.istore 5, 2) := by decide +kernel
theorem dX2_flatten_43 : decode cX2_flatten 43 = .ok (.aload_n 0, 1) := by decide +kernel
theorem dX2_flatten_44 : decode cX2_flatten 44 = .ok (.getfield 38, 3) := by decide +kernel
theorem dX2_flatten_47 : decode cX2_flatten 47 = .ok (.iload 5, 2) := by decide +kernel
theorem dX2_flatten_49 : decode cX2_flatten 49 = .ok (.invokevirtual 255, 3) := by decide +kernel
theorem dX2_flatten_52 : decode cX2_flatten 52 = .ok (.ifCond .eq 13, 3) := by decide +kernel
theorem dX2_flatten_55 : decode cX2_flatten 55 = .ok (.aload_n 2, 1) := by decide +kernel
theorem dX2_flatten_56 : decode cX2_flatten 56 = .ok (.iload 5, 2) := by decide +kernel
theorem dX2_flatten_58 : decode cX2_flatten 58 = .ok (.iconst 0, 1) := by decide +kernel
theorem dX2_flatten_59 : decode cX2_flatten 59 = .ok (.invokevirtual 300, 3) := by decide +kernel
theorem dX2_flatten_62 : decode cX2_flatten 62 = .ok (.goto 132, 3) := by decide +kernel
theorem dX2_flatten_65 : decode cX2_flatten 65 = .ok (.aload_n 0, 1) := by decide +kernel
theorem dX2_flatten_66 : decode cX2_flatten 66 = .ok (.getfield 38, 3) := by decide +kernel
theorem dX2_flatten_69 : decode cX2_flatten 69 = .ok (.iload 5, 2) := by decide +kernel
theorem dX2_flatten_71 : decode cX2_flatten 71 = .ok (.invokevirtual 225, 3) := by decide +kernel
theorem dX2_flatten_74 : decode cX2_flatten 74 = .ok (.ifCond .eq 15, 3) := by decide +kernel
theorem dX2_flatten_77 : decode cX2_flatten 77 = .ok (.aload_n 0, 1) := by decide +kernel
theorem dX2_flatten_78 : decode cX2_flatten 78 = .ok (.getfield 38, 3) := by decide +kernel
theorem dX2_flatten_81 : decode cX2_flatten 81 = .ok (.iload 5, 2) := by decide +kernel
theorem dX2_flatten_83 : decode cX2_flatten 83 = .ok (.invokevirtual 301, 3) := by decide +kernel
theorem dX2_flatten_86 : decode cX2_flatten 86 = .ok (.goto 12, 3) := by decide +kernel
theorem dX2_flatten_98 : decode cX2_flatten 98 = .ok (.istore 6, 2) := by decide +kernel
theorem dX2_flatten_100 : decode cX2_flatten 100 = .ok (.aload_n 0, 1) := by decide +kernel
theorem dX2_flatten_101 : decode cX2_flatten 101 = .ok (.getfield 38, 3) := by decide +kernel
theorem dX2_flatten_104 : decode cX2_flatten 104 = .ok (.iload 5, 2) := by decide +kernel
theorem dX2_flatten_106 : decode cX2_flatten 106 = .ok (.invokevirtual 225, 3) := by decide +kernel
theorem dX2_flatten_109 : decode cX2_flatten 109 = .ok (.ifCond .eq 7, 3) := by decide +kernel
theorem dX2_flatten_112 : decode cX2_flatten 112 = .ok (.lconst 1, 1) := by decide +kernel
theorem dX2_flatten_113 : decode cX2_flatten 113 = .ok (.goto 14, 3) := by decide +kernel
theorem dX2_flatten_127 : decode cX2_flatten 127 = .ok (.lstore 7, 2) := by decide +kernel
theorem dX2_flatten_129 : decode cX2_flatten 129 = .ok (.iload_n 3, 1) := by decide +kernel
theorem dX2_flatten_130 : decode cX2_flatten 130 = .ok (.aload_n 0, 1) := by decide +kernel
theorem dX2_flatten_131 : decode cX2_flatten 131 = .ok (.getfield 17, 3) := by decide +kernel
theorem dX2_flatten_134 : decode cX2_flatten 134 = .ok (.arraylength, 1) := by decide +kernel
theorem dX2_flatten_135 : decode cX2_flatten 135 = .ok (.if_icmp .ge 21, 3) := by decide +kernel
theorem dX2_flatten_138 : decode cX2_flatten 138 = .ok (.aload_n 0, 1) := by decide +kernel
theorem dX2_flatten_139 : decode cX2_flatten 139 = .ok (.getfield 17, 3) := by decide +kernel
theorem dX2_flatten_142 : decode cX2_flatten 142 = .ok (.iload_n 3, 1) := by decide +kernel
theorem dX2_flatten_143 : decode cX2_flatten 143 = .ok (.iinc 3 1, 3) := by decide +kernel
theorem dX2_flatten_146 : decode cX2_flatten 146 = .ok (.aload_n 0, 1) := by decide +kernel
theorem dX2_flatten_147 : decode cX2_flatten 147 = .ok (.getfield 38, 3) := by decide +kernel
theorem dX2_flatten_150 : decode cX2_flatten 150 = .ok (.iload 5, 2) := by decide +kernel
theorem dX2_flatten_152 : decode cX2_flatten 152 = .ok (.invokevirtual 233, 3) := by decide +kernel
theorem dX2_flatten_155 : decode cX2_flatten 155 = .ok (.iastore, 1) := by decide +kernel
theorem dX2_flatten_156 : decode cX2_flatten 156 = .ok (.iconst 0, 1) := by decide +kernel
theorem dX2_flatten_157 : decode cX2_flatten 157 = .ok (.istore 9, 2) := by decide +kernel
theorem dX2_flatten_159 : decode cX2_flatten 159 = .ok (.iload 9, 2) := by decide +kernel
theorem dX2_flatten_161 : decode cX2_flatten 161 = .ok (.i2l, 1) := by decide +kernel
theorem dX2_flatten_162 : decode cX2_flatten 162 = .ok (.lload 7, 2) := by decide +kernel
theorem dX2_flatten_164 : decode cX2_flatten 164 = .ok (.lcmp, 1) := by decide +kernel
theorem dX2_flatten_165 : decode cX2_flatten 165 = .ok (.ifCond .ge 29, 3) := by decide +kernel
theorem dX2_flatten_168 : decode cX2_flatten 168 = .ok (.iload_n 3, 1) := by decide +kernel
theorem dX2_flatten_169 : decode cX2_flatten 169 = .ok (.aload_n 0, 1) := by decide +kernel
theorem dX2_flatten_170 : decode cX2_flatten 170 = .ok (.getfield 17, 3) := by decide +kernel
theorem dX2_flatten_173 : decode cX2_flatten 173 = .ok (.arraylength, 1) := by decide +kernel
theorem dX2_flatten_174 : decode cX2_flatten 174 = .ok (.if_icmp .ge 20, 3) := by decide +kernel
theorem dX2_flatten_177 : decode cX2_flatten 177 = .ok (.aload_n 0, 1) := by decide +kernel
theorem dX2_flatten_178 : decode cX2_flatten 178 = .ok (.getfield 17, 3) := by decide +kernel
theorem dX2_flatten_181 : decode cX2_flatten 181 = .ok (.iload_n 3, 1) := by decide +kernel
theorem dX2_flatten_182 : decode cX2_flatten 182 = .ok (.iinc 3 1, 3) := by decide +kernel
theorem dX2_flatten_185 : decode cX2_flatten 185 = .ok (.iload 6, 2) := by decide +kernel
theorem dX2_flatten_187 : decode cX2_flatten 187 = .ok (.iastore, 1) := by decide +kernel
theorem dX2_flatten_188 : decode cX2_flatten 188 = .ok (.iinc 9 1, 3) := by decide +kernel
theorem dX2_flatten_191 : decode cX2_flatten 191 = .ok (.goto (-32), 3) := by decide +kernel
theorem dX2_flatten_194 : decode cX2_flatten 194 = .ok (.iinc 4 1, 3) := by decide +kernel
theorem dX2_flatten_197 : decode cX2_flatten 197 = .ok (.goto (-177), 3) := by decide +kernel
theorem dX2_flatten_200 : decode cX2_flatten 200 = .ok (.return_, 1) := by decide +kernel
theorem dX1_base_0 : decode cX1_base 0 = .ok (.aload_n 0, 1) := by decide +kernel
theorem dX1_base_1 : decode cX1_base 1 = .ok (.getfield 33, 3) := by decide +kernel
theorem dX1_base_4 : decode cX1_base 4 = .ok (.ifCond .le 27, 3) := by decide +kernel
theorem dX1_base_7 : decode cX1_base 7 = .ok (.aload_n 0, 1) := by decide +kernel
theorem dX1_base_8 : decode cX1_base 8 = .ok (.getfield 33, 3) := by decide +kernel
theorem dX1_base_11 : decode cX1_base 11 = .ok (.sipush 2048, 3) := by decide +kernel
theorem dX1_base_14 : decode cX1_base 14 = .ok (.if_icmp .gt 17, 3) := by decide +kernel
theorem dX1_base_17 : decode cX1_base 17 = .ok (.aload_n 0, 1) := by decide +kernel
theorem dX1_base_18 : decode cX1_base 18 = .ok (.getfield 11, 3) := by decide +kernel
theorem dX1_base_21 : decode cX1_base 21 = .ok (.aload_n 0, 1) := by decide +kernel
theorem dX1_base_22 : decode cX1_base 22 = .ok (.getfield 33, 3) := by decide +kernel
theorem dX1_base_25 : decode cX1_base 25 = .ok (.iconst 1, 1) := by decide +kernel
theorem dX1_base_26 : decode cX1_base 26 = .ok (.isub, 1) := by decide +kernel
theorem dX1_base_27 : decode cX1_base 27 = .ok (.iaload, 1) := by decide +kernel
theorem dX1_base_28 : decode cX1_base 28 = .ok (.goto 4, 3) := by decide +kernel
theorem dX1_base_31 : decode cX1_base 31 = .ok (.iconst 0, 1) := by decide +kernel
theorem dX1_base_32 : decode cX1_base 32 = .ok (.ireturn, 1) := by decide +kernel
theorem dX2_isAlone_0 : decode cX2_isAlone 0 = .ok (.iload_n 2, 1) := by decide +kernel
theorem dX2_isAlone_1 : decode cX2_isAlone 1 = .ok (.ifCond .lt 14, 3) := by decide +kernel
theorem dX2_isAlone_4 : decode cX2_isAlone 4 = .ok (.iload_n 2, 1) := by decide +kernel
theorem dX2_isAlone_5 : decode cX2_isAlone 5 = .ok (.sipush 512, 3) := by decide +kernel
theorem dX2_isAlone_8 : decode cX2_isAlone 8 = .ok (.if_icmp .ge 7, 3) := by decide +kernel
theorem dX2_isAlone_11 : decode cX2_isAlone 11 = .ok (.iconst 1, 1) := by decide +kernel
theorem dX2_isAlone_12 : decode cX2_isAlone 12 = .ok (.goto 4, 3) := by decide +kernel
theorem dX2_isAlone_15 : decode cX2_isAlone 15 = .ok (.iconst 0, 1) := by decide +kernel
theorem dX2_isAlone_16 : decode cX2_isAlone 16 = .ok (.istore 4, 2) := by decide +kernel
theorem dX2_isAlone_18 : decode cX2_isAlone 18 = .ok (.iload_n 3, 1) := by decide +kernel
theorem dX2_isAlone_19 : decode cX2_isAlone 19 = .ok (.ifCond .lt 14, 3) := by decide +kernel
theorem dX2_isAlone_22 : decode cX2_isAlone 22 = .ok (.iload_n 3, 1) := by decide +kernel
theorem dX2_isAlone_23 : decode cX2_isAlone 23 = .ok (.sipush 512, 3) := by decide +kernel
theorem dX2_isAlone_26 : decode cX2_isAlone 26 = .ok (.if_icmp .ge 7, 3) := by decide +kernel
theorem dX2_isAlone_29 : decode cX2_isAlone 29 = .ok (.iconst 1, 1) := by decide +kernel
theorem dX2_isAlone_30 : decode cX2_isAlone 30 = .ok (.goto 4, 3) := by decide +kernel
theorem dX2_isAlone_33 : decode cX2_isAlone 33 = .ok (.iconst 0, 1) := by decide +kernel
theorem dX2_isAlone_34 : decode cX2_isAlone 34 = .ok (.istore 5, 2) := by decide +kernel
theorem dX2_isAlone_36 : decode cX2_isAlone 36 = .ok (.iload_n 0, 1) := by decide +kernel
theorem dX2_isAlone_37 : decode cX2_isAlone 37 = .ok (.tableswitch 98 0 3 #[46, 98, 73, 31], 31) := by decide +kernel
theorem dX2_isAlone_68 : decode cX2_isAlone 68 = .ok (.iload_n 1, 1) := by decide +kernel
theorem dX2_isAlone_69 : decode cX2_isAlone 69 = .ok (.ifCond .eq 12, 3) := by decide +kernel
theorem dX2_isAlone_72 : decode cX2_isAlone 72 = .ok (.iload 4, 2) := by decide +kernel
theorem dX2_isAlone_74 : decode cX2_isAlone 74 = .ok (.ifCond .eq 7, 3) := by decide +kernel
theorem dX2_isAlone_77 : decode cX2_isAlone 77 = .ok (.iconst 1, 1) := by decide +kernel
theorem dX2_isAlone_78 : decode cX2_isAlone 78 = .ok (.goto 4, 3) := by decide +kernel
theorem dX2_isAlone_81 : decode cX2_isAlone 81 = .ok (.iconst 0, 1) := by decide +kernel
theorem dX2_isAlone_82 : decode cX2_isAlone 82 = .ok (.ireturn, 1) := by decide +kernel
theorem dX2_isAlone_83 : decode cX2_isAlone 83 = .ok (.iload_n 1, 1) := by decide +kernel
theorem dX2_isAlone_84 : decode cX2_isAlone 84 = .ok (.ifCond .eq 23, 3) := by decide +kernel
theorem dX2_isAlone_87 : decode cX2_isAlone 87 = .ok (.iload_n 2, 1) := by decide +kernel
theorem dX2_isAlone_88 : decode cX2_isAlone 88 = .ok (.sipush 512, 3) := by decide +kernel
theorem dX2_isAlone_91 : decode cX2_isAlone 91 = .ok (.if_icmp .ne 12, 3) := by decide +kernel
theorem dX2_isAlone_94 : decode cX2_isAlone 94 = .ok (.iload 5, 2) := by decide +kernel
theorem dX2_isAlone_96 : decode cX2_isAlone 96 = .ok (.ifCond .ne 7, 3) := by decide +kernel
theorem dX2_isAlone_99 : decode cX2_isAlone 99 = .ok (.iconst 1, 1) := by decide +kernel
theorem dX2_isAlone_100 : decode cX2_isAlone 100 = .ok (.goto 9, 3) := by decide +kernel
theorem dX2_isAlone_103 : decode cX2_isAlone 103 = .ok (.iconst 0, 1) := by decide +kernel
theorem dX2_isAlone_104 : decode cX2_isAlone 104 = .ok (.goto 5, 3) := by decide +kernel
theorem dX2_isAlone_107 : decode cX2_isAlone 107 = .ok (.iload 5, 2) := by decide +kernel
theorem dX2_isAlone_109 : decode cX2_isAlone 109 = .ok (.ireturn, 1) := by decide +kernel
theorem dX2_isAlone_110 : decode cX2_isAlone 110 = .ok (.iload_n 1, 1) := by decide +kernel
theorem dX2_isAlone_111 : decode cX2_isAlone 111 = .ok (.ifCond .eq 8, 3) := by decide +kernel
theorem dX2_isAlone_114 : decode cX2_isAlone 114 = .ok (.iload 4, 2) := by decide +kernel
theorem dX2_isAlone_116 : decode cX2_isAlone 116 = .ok (.goto 18, 3) := by decide +kernel
theorem dX2_isAlone_119 : decode cX2_isAlone 119 = .ok (.iload 5, 2) := by decide +kernel
theorem dX2_isAlone_121 : decode cX2_isAlone 121 = .ok (.ifCond .eq 12, 3) := by decide +kernel
theorem dX2_isAlone_124 : decode cX2_isAlone 124 = .ok (.iload 4, 2) := by decide +kernel
theorem dX2_isAlone_126 : decode cX2_isAlone 126 = .ok (.ifCond .ne 7, 3) := by decide +kernel
theorem dX2_isAlone_129 : decode cX2_isAlone 129 = .ok (.iconst 1, 1) := by decide +kernel
theorem dX2_isAlone_130 : decode cX2_isAlone 130 = .ok (.goto 4, 3) := by decide +kernel
theorem dX2_isAlone_133 : decode cX2_isAlone 133 = .ok (.iconst 0, 1) := by decide +kernel
theorem dX2_isAlone_134 : decode cX2_isAlone 134 = .ok (.ireturn, 1) := by decide +kernel
theorem dX2_isAlone_135 : decode cX2_isAlone 135 = .ok (.iload_n 1, 1) := by decide +kernel
theorem dX2_isAlone_136 : decode cX2_isAlone 136 = .ok (.ifCond .eq 21, 3) := by decide +kernel
theorem dX2_isAlone_139 : decode cX2_isAlone 139 = .ok (.iload 4, 2) := by decide +kernel
theorem dX2_isAlone_141 : decode cX2_isAlone 141 = .ok (.ifCond .eq 12, 3) := by decide +kernel
theorem dX2_isAlone_144 : decode cX2_isAlone 144 = .ok (.iload 5, 2) := by decide +kernel
theorem dX2_isAlone_146 : decode cX2_isAlone 146 = .ok (.ifCond .ne 7, 3) := by decide +kernel
theorem dX2_isAlone_149 : decode cX2_isAlone 149 = .ok (.iconst 1, 1) := by decide +kernel
theorem dX2_isAlone_150 : decode cX2_isAlone 150 = .ok (.goto 9, 3) := by decide +kernel
theorem dX2_isAlone_153 : decode cX2_isAlone 153 = .ok (.iconst 0, 1) := by decide +kernel
theorem dX2_isAlone_154 : decode cX2_isAlone 154 = .ok (.goto 5, 3) := by decide +kernel
theorem dX2_isAlone_157 : decode cX2_isAlone 157 = .ok (.iload 5, 2) := by decide +kernel
theorem dX2_isAlone_159 : decode cX2_isAlone 159 = .ok (.ireturn, 1) := by decide +kernel
theorem dX1_count_0 : decode cX1_count 0 = .ok (.aload_n 0, 1) := by decide +kernel
theorem dX1_count_1 : decode cX1_count 1 = .ok (.getfield 33, 3) := by decide +kernel
theorem dX1_count_4 : decode cX1_count 4 = .ok (.ifCond .le 27, 3) := by decide +kernel
theorem dX1_count_7 : decode cX1_count 7 = .ok (.aload_n 0, 1) := by decide +kernel
theorem dX1_count_8 : decode cX1_count 8 = .ok (.getfield 33, 3) := by decide +kernel
theorem dX1_count_11 : decode cX1_count 11 = .ok (.sipush 2048, 3) := by decide +kernel
theorem dX1_count_14 : decode cX1_count 14 = .ok (.if_icmp .gt 17, 3) := by decide +kernel
theorem dX1_count_17 : decode cX1_count 17 = .ok (.aload_n 0, 1) := by decide +kernel
theorem dX1_count_18 : decode cX1_count 18 = .ok (.getfield 15, 3) := by decide +kernel
theorem dX1_count_21 : decode cX1_count 21 = .ok (.aload_n 0, 1) := by decide +kernel
theorem dX1_count_22 : decode cX1_count 22 = .ok (.getfield 33, 3) := by decide +kernel
theorem dX1_count_25 : decode cX1_count 25 = .ok (.iconst 1, 1) := by decide +kernel
theorem dX1_count_26 : decode cX1_count 26 = .ok (.isub, 1) := by decide +kernel
theorem dX1_count_27 : decode cX1_count 27 = .ok (.laload, 1) := by decide +kernel
theorem dX1_count_28 : decode cX1_count 28 = .ok (.goto 4, 3) := by decide +kernel
theorem dX1_count_32 : decode cX1_count 32 = .ok (.lreturn, 1) := by decide +kernel
theorem dX2_alone_0 : decode cX2_alone 0 = .ok (.iload_n 0, 1) := by decide +kernel
theorem dX2_alone_1 : decode cX2_alone 1 = .ok (.iconst 2, 1) := by decide +kernel
theorem dX2_alone_2 : decode cX2_alone 2 = .ok (.if_icmp .eq 8, 3) := by decide +kernel
theorem dX2_alone_5 : decode cX2_alone 5 = .ok (.iload_n 0, 1) := by decide +kernel
theorem dX2_alone_6 : decode cX2_alone 6 = .ok (.iconst 1, 1) := by decide +kernel
theorem dX2_alone_7 : decode cX2_alone 7 = .ok (.if_icmp .ne 15, 3) := by decide +kernel
theorem dX2_alone_10 : decode cX2_alone 10 = .ok (.iload_n 1, 1) := by decide +kernel
theorem dX2_alone_11 : decode cX2_alone 11 = .ok (.ifCond .eq 7, 3) := by decide +kernel
theorem dX2_alone_14 : decode cX2_alone 14 = .ok (.iload_n 2, 1) := by decide +kernel
theorem dX2_alone_15 : decode cX2_alone 15 = .ok (.goto 6, 3) := by decide +kernel
theorem dX2_alone_18 : decode cX2_alone 18 = .ok (.sipush 768, 3) := by decide +kernel
theorem dX2_alone_21 : decode cX2_alone 21 = .ok (.ireturn, 1) := by decide +kernel
theorem dX2_alone_22 : decode cX2_alone 22 = .ok (.iload_n 0, 1) := by decide +kernel
theorem dX2_alone_23 : decode cX2_alone 23 = .ok (.ifCond .ne 11, 3) := by decide +kernel
theorem dX2_alone_26 : decode cX2_alone 26 = .ok (.iload_n 1, 1) := by decide +kernel
theorem dX2_alone_27 : decode cX2_alone 27 = .ok (.ifCond .ne 7, 3) := by decide +kernel
theorem dX2_alone_30 : decode cX2_alone 30 = .ok (.iload_n 2, 1) := by decide +kernel
theorem dX2_alone_31 : decode cX2_alone 31 = .ok (.goto 6, 3) := by decide +kernel
theorem dX2_alone_34 : decode cX2_alone 34 = .ok (.sipush 512, 3) := by decide +kernel
theorem dX2_alone_37 : decode cX2_alone 37 = .ok (.ireturn, 1) := by decide +kernel
theorem dX1_drop_0 : decode cX1_drop 0 = .ok (.aload_n 0, 1) := by decide +kernel
theorem dX1_drop_1 : decode cX1_drop 1 = .ok (.getfield 33, 3) := by decide +kernel
theorem dX1_drop_4 : decode cX1_drop 4 = .ok (.ifCond .le 13, 3) := by decide +kernel
theorem dX1_drop_7 : decode cX1_drop 7 = .ok (.aload_n 0, 1) := by decide +kernel
theorem dX1_drop_8 : decode cX1_drop 8 = .ok (.getfield 33, 3) := by decide +kernel
theorem dX1_drop_11 : decode cX1_drop 11 = .ok (.sipush 2048, 3) := by decide +kernel
theorem dX1_drop_14 : decode cX1_drop 14 = .ok (.if_icmp .le 4, 3) := by decide +kernel
theorem dX1_drop_18 : decode cX1_drop 18 = .ok (.aload_n 0, 1) := by decide +kernel
theorem dX1_drop_19 : decode cX1_drop 19 = .ok (.getfield 15, 3) := by decide +kernel
theorem dX1_drop_22 : decode cX1_drop 22 = .ok (.aload_n 0, 1) := by decide +kernel
theorem dX1_drop_23 : decode cX1_drop 23 = .ok (.getfield 33, 3) := by decide +kernel
theorem dX1_drop_26 : decode cX1_drop 26 = .ok (.iconst 1, 1) := by decide +kernel
theorem dX1_drop_27 : decode cX1_drop 27 = .ok (.isub, 1) := by decide +kernel
theorem dX1_drop_28 : decode cX1_drop 28 = .ok (.dup2, 1) := by decide +kernel
theorem dX1_drop_29 : decode cX1_drop 29 = .ok (.laload, 1) := by decide +kernel
theorem dX1_drop_30 : decode cX1_drop 30 = .ok (.lload_n 1, 1) := by decide +kernel
theorem dX1_drop_31 : decode cX1_drop 31 = .ok (.lsub, 1) := by decide +kernel
theorem dX1_drop_32 : decode cX1_drop 32 = .ok (.lastore, 1) := by decide +kernel
theorem dX1_drop_33 : decode cX1_drop 33 = .ok (.aload_n 0, 1) := by decide +kernel
theorem dX1_drop_34 : decode cX1_drop 34 = .ok (.getfield 15, 3) := by decide +kernel
theorem dX1_drop_37 : decode cX1_drop 37 = .ok (.aload_n 0, 1) := by decide +kernel
theorem dX1_drop_38 : decode cX1_drop 38 = .ok (.getfield 33, 3) := by decide +kernel
theorem dX1_drop_41 : decode cX1_drop 41 = .ok (.iconst 1, 1) := by decide +kernel
theorem dX1_drop_42 : decode cX1_drop 42 = .ok (.isub, 1) := by decide +kernel
theorem dX1_drop_43 : decode cX1_drop 43 = .ok (.laload, 1) := by decide +kernel
theorem dX1_drop_44 : decode cX1_drop 44 = .ok (.lconst 1, 1) := by decide +kernel
theorem dX1_drop_45 : decode cX1_drop 45 = .ok (.lcmp, 1) := by decide +kernel
theorem dX1_drop_46 : decode cX1_drop 46 = .ok (.ifCond .ge 13, 3) := by decide +kernel
theorem dX1_drop_49 : decode cX1_drop 49 = .ok (.aload_n 0, 1) := by decide +kernel
theorem dX1_drop_50 : decode cX1_drop 50 = .ok (.dup, 1) := by decide +kernel
theorem dX1_drop_51 : decode cX1_drop 51 = .ok (.getfield 33, 3) := by decide +kernel
theorem dX1_drop_54 : decode cX1_drop 54 = .ok (.iconst 1, 1) := by decide +kernel
theorem dX1_drop_55 : decode cX1_drop 55 = .ok (.isub, 1) := by decide +kernel
theorem dX1_drop_56 : decode cX1_drop 56 = .ok (.putfield 33, 3) := by decide +kernel
theorem dX1_drop_59 : decode cX1_drop 59 = .ok (.aload_n 0, 1) := by decide +kernel
theorem dX1_drop_60 : decode cX1_drop 60 = .ok (.iconst 0, 1) := by decide +kernel
theorem dX1_drop_61 : decode cX1_drop 61 = .ok (.putfield 37, 3) := by decide +kernel
theorem dX1_drop_64 : decode cX1_drop 64 = .ok (.return_, 1) := by decide +kernel
theorem dX5_mixed_0 : decode cX5_mixed 0 = .ok (.iload_n 0, 1) := by decide +kernel
theorem dX5_mixed_1 : decode cX5_mixed 1 = .ok (.iload_n 0, 1) := by decide +kernel
theorem dX5_mixed_2 : decode cX5_mixed 2 = .ok (.bipush 16, 2) := by decide +kernel
theorem dX5_mixed_4 : decode cX5_mixed 4 = .ok (.iushr, 1) := by decide +kernel
theorem dX5_mixed_5 : decode cX5_mixed 5 = .ok (.ixor, 1) := by decide +kernel
theorem dX5_mixed_6 : decode cX5_mixed 6 = .ok (.ldc 129, 2) := by decide +kernel
theorem dX5_mixed_8 : decode cX5_mixed 8 = .ok (.imul, 1) := by decide +kernel
theorem dX5_mixed_9 : decode cX5_mixed 9 = .ok (.istore_n 1, 1) := by decide +kernel
theorem dX5_mixed_10 : decode cX5_mixed 10 = .ok (.iload_n 1, 1) := by decide +kernel
theorem dX5_mixed_11 : decode cX5_mixed 11 = .ok (.iload_n 1, 1) := by decide +kernel
theorem dX5_mixed_12 : decode cX5_mixed 12 = .ok (.bipush 15, 2) := by decide +kernel
theorem dX5_mixed_14 : decode cX5_mixed 14 = .ok (.iushr, 1) := by decide +kernel
theorem dX5_mixed_15 : decode cX5_mixed 15 = .ok (.ixor, 1) := by decide +kernel
theorem dX5_mixed_16 : decode cX5_mixed 16 = .ok (.ldc 130, 2) := by decide +kernel
theorem dX5_mixed_18 : decode cX5_mixed 18 = .ok (.imul, 1) := by decide +kernel
theorem dX5_mixed_19 : decode cX5_mixed 19 = .ok (.istore_n 1, 1) := by decide +kernel
theorem dX5_mixed_20 : decode cX5_mixed 20 = .ok (.iload_n 1, 1) := by decide +kernel
theorem dX5_mixed_21 : decode cX5_mixed 21 = .ok (.iload_n 1, 1) := by decide +kernel
theorem dX5_mixed_22 : decode cX5_mixed 22 = .ok (.bipush 16, 2) := by decide +kernel
theorem dX5_mixed_24 : decode cX5_mixed 24 = .ok (.iushr, 1) := by decide +kernel
theorem dX5_mixed_25 : decode cX5_mixed 25 = .ok (.ixor, 1) := by decide +kernel
theorem dX5_mixed_26 : decode cX5_mixed 26 = .ok (.ireturn, 1) := by decide +kernel
theorem dX5_put_0 : decode cX5_put 0 = .ok (.aload_n 0, 1) := by decide +kernel
theorem dX5_put_1 : decode cX5_put 1 = .ok (.getfield 20, 3) := by decide +kernel
theorem dX5_put_4 : decode cX5_put 4 = .ok (.aload_n 0, 1) := by decide +kernel
theorem dX5_put_5 : decode cX5_put 5 = .ok (.getfield 69, 3) := by decide +kernel
theorem dX5_put_8 : decode cX5_put 8 = .ok (.iadd, 1) := by decide +kernel
theorem dX5_put_9 : decode cX5_put 9 = .ok (.istore 5, 2) := by decide +kernel
theorem dX5_put_11 : decode cX5_put 11 = .ok (.aload_n 0, 1) := by decide +kernel
theorem dX5_put_12 : decode cX5_put 12 = .ok (.getfield 69, 3) := by decide +kernel
theorem dX5_put_15 : decode cX5_put 15 = .ok (.ifCond .le 32, 3) := by decide +kernel
theorem dX5_put_18 : decode cX5_put 18 = .ok (.aload_n 0, 1) := by decide +kernel
theorem dX5_put_19 : decode cX5_put 19 = .ok (.getfield 9, 3) := by decide +kernel
theorem dX5_put_22 : decode cX5_put 22 = .ok (.iload 5, 2) := by decide +kernel
theorem dX5_put_24 : decode cX5_put 24 = .ok (.iconst 1, 1) := by decide +kernel
theorem dX5_put_25 : decode cX5_put 25 = .ok (.isub, 1) := by decide +kernel
theorem dX5_put_26 : decode cX5_put 26 = .ok (.iaload, 1) := by decide +kernel
theorem dX5_put_27 : decode cX5_put 27 = .ok (.iload_n 1, 1) := by decide +kernel
theorem dX5_put_28 : decode cX5_put 28 = .ok (.if_icmp .ne 19, 3) := by decide +kernel
theorem dX5_put_31 : decode cX5_put 31 = .ok (.aload_n 0, 1) := by decide +kernel
theorem dX5_put_32 : decode cX5_put 32 = .ok (.getfield 13, 3) := by decide +kernel
theorem dX5_put_35 : decode cX5_put 35 = .ok (.iload 5, 2) := by decide +kernel
theorem dX5_put_37 : decode cX5_put 37 = .ok (.iconst 1, 1) := by decide +kernel
theorem dX5_put_38 : decode cX5_put 38 = .ok (.isub, 1) := by decide +kernel
theorem dX5_put_39 : decode cX5_put 39 = .ok (.dup2, 1) := by decide +kernel
theorem dX5_put_40 : decode cX5_put 40 = .ok (.laload, 1) := by decide +kernel
theorem dX5_put_41 : decode cX5_put 41 = .ok (.lload_n 2, 1) := by decide +kernel
theorem dX5_put_42 : decode cX5_put 42 = .ok (.ladd, 1) := by decide +kernel
theorem dX5_put_43 : decode cX5_put 43 = .ok (.lastore, 1) := by decide +kernel
theorem dX5_put_44 : decode cX5_put 44 = .ok (.goto 57, 3) := by decide +kernel
theorem dX5_put_47 : decode cX5_put 47 = .ok (.iload 5, 2) := by decide +kernel
theorem dX5_put_49 : decode cX5_put 49 = .ok (.sipush 4096, 3) := by decide +kernel
theorem dX5_put_52 : decode cX5_put 52 = .ok (.if_icmp .ge 41, 3) := by decide +kernel
theorem dX5_put_55 : decode cX5_put 55 = .ok (.aload_n 0, 1) := by decide +kernel
theorem dX5_put_56 : decode cX5_put 56 = .ok (.dup, 1) := by decide +kernel
theorem dX5_put_57 : decode cX5_put 57 = .ok (.getfield 69, 3) := by decide +kernel
theorem dX5_put_60 : decode cX5_put 60 = .ok (.iconst 1, 1) := by decide +kernel
theorem dX5_put_61 : decode cX5_put 61 = .ok (.iadd, 1) := by decide +kernel
theorem dX5_put_62 : decode cX5_put 62 = .ok (.putfield 69, 3) := by decide +kernel
theorem dX5_put_65 : decode cX5_put 65 = .ok (.aload_n 0, 1) := by decide +kernel
theorem dX5_put_66 : decode cX5_put 66 = .ok (.getfield 9, 3) := by decide +kernel
theorem dX5_put_69 : decode cX5_put 69 = .ok (.iload 5, 2) := by decide +kernel
theorem dX5_put_71 : decode cX5_put 71 = .ok (.iload_n 1, 1) := by decide +kernel
theorem dX5_put_72 : decode cX5_put 72 = .ok (.iastore, 1) := by decide +kernel
theorem dX5_put_73 : decode cX5_put 73 = .ok (.aload_n 0, 1) := by decide +kernel
theorem dX5_put_74 : decode cX5_put 74 = .ok (.getfield 13, 3) := by decide +kernel
theorem dX5_put_77 : decode cX5_put 77 = .ok (.iload 5, 2) := by decide +kernel
theorem dX5_put_79 : decode cX5_put 79 = .ok (.lload_n 2, 1) := by decide +kernel
theorem dX5_put_80 : decode cX5_put 80 = .ok (.lastore, 1) := by decide +kernel
theorem dX5_put_81 : decode cX5_put 81 = .ok (.aload_n 0, 1) := by decide +kernel
theorem dX5_put_82 : decode cX5_put 82 = .ok (.getfield 17, 3) := by decide +kernel
theorem dX5_put_85 : decode cX5_put 85 = .ok (.iload 5, 2) := by decide +kernel
theorem dX5_put_87 : decode cX5_put 87 = .ok (.iload 4, 2) := by decide +kernel
theorem dX5_put_89 : decode cX5_put 89 = .ok (.iastore, 1) := by decide +kernel
theorem dX5_put_90 : decode cX5_put 90 = .ok (.goto 11, 3) := by decide +kernel
theorem dX5_put_101 : decode cX5_put 101 = .ok (.return_, 1) := by decide +kernel
theorem dX9_isLeaf_0 : decode cX9_isLeaf 0 = .ok (.aload_n 0, 1) := by decide +kernel
theorem dX9_isLeaf_1 : decode cX9_isLeaf 1 = .ok (.iload_n 1, 1) := by decide +kernel
theorem dX9_isLeaf_2 : decode cX9_isLeaf 2 = .ok (.invokevirtual 70, 3) := by decide +kernel
theorem dX9_isLeaf_5 : decode cX9_isLeaf 5 = .ok (.sipush 1024, 3) := by decide +kernel
theorem dX9_isLeaf_8 : decode cX9_isLeaf 8 = .ok (.if_icmp .gt 7, 3) := by decide +kernel
theorem dX9_isLeaf_11 : decode cX9_isLeaf 11 = .ok (.iconst 1, 1) := by decide +kernel
theorem dX9_isLeaf_12 : decode cX9_isLeaf 12 = .ok (.goto 4, 3) := by decide +kernel
theorem dX9_isLeaf_15 : decode cX9_isLeaf 15 = .ok (.iconst 0, 1) := by decide +kernel
theorem dX9_isLeaf_16 : decode cX9_isLeaf 16 = .ok (.ireturn, 1) := by decide +kernel
theorem dX9_left_0 : decode cX9_left 0 = .ok (.iload_n 1, 1) := by decide +kernel
theorem dX9_left_1 : decode cX9_left 1 = .ok (.ifCond .le 25, 3) := by decide +kernel
theorem dX9_left_4 : decode cX9_left 4 = .ok (.iload_n 1, 1) := by decide +kernel
theorem dX9_left_5 : decode cX9_left 5 = .ok (.ldc 19, 2) := by decide +kernel
theorem dX9_left_7 : decode cX9_left 7 = .ok (.if_icmp .ge 19, 3) := by decide +kernel
theorem dX9_left_10 : decode cX9_left 10 = .ok (.aload_n 0, 1) := by decide +kernel
theorem dX9_left_11 : decode cX9_left 11 = .ok (.getfield 20, 3) := by decide +kernel
theorem dX9_left_14 : decode cX9_left 14 = .ok (.iload_n 1, 1) := by decide +kernel
theorem dX9_left_15 : decode cX9_left 15 = .ok (.laload, 1) := by decide +kernel
theorem dX9_left_16 : decode cX9_left 16 = .ok (.bipush 21, 2) := by decide +kernel
theorem dX9_left_18 : decode cX9_left 18 = .ok (.lshr, 1) := by decide +kernel
theorem dX9_left_19 : decode cX9_left 19 = .ok (.l2i, 1) := by decide +kernel
theorem dX9_left_20 : decode cX9_left 20 = .ok (.ldc 63, 2) := by decide +kernel
theorem dX9_left_22 : decode cX9_left 22 = .ok (.iand, 1) := by decide +kernel
theorem dX9_left_23 : decode cX9_left 23 = .ok (.goto 4, 3) := by decide +kernel
theorem dX9_left_27 : decode cX9_left 27 = .ok (.ireturn, 1) := by decide +kernel
theorem dX9_isPair_0 : decode cX9_isPair 0 = .ok (.aload_n 0, 1) := by decide +kernel
theorem dX9_isPair_1 : decode cX9_isPair 1 = .ok (.iload_n 1, 1) := by decide +kernel
theorem dX9_isPair_2 : decode cX9_isPair 2 = .ok (.invokevirtual 66, 3) := by decide +kernel
theorem dX9_isPair_5 : decode cX9_isPair 5 = .ok (.ifCond .eq 7, 3) := by decide +kernel
theorem dX9_isPair_8 : decode cX9_isPair 8 = .ok (.iconst 1, 1) := by decide +kernel
theorem dX9_isPair_9 : decode cX9_isPair 9 = .ok (.goto 4, 3) := by decide +kernel
theorem dX9_isPair_13 : decode cX9_isPair 13 = .ok (.ireturn, 1) := by decide +kernel
theorem dX9_right_0 : decode cX9_right 0 = .ok (.iload_n 1, 1) := by decide +kernel
theorem dX9_right_1 : decode cX9_right 1 = .ok (.ifCond .le 22, 3) := by decide +kernel
theorem dX9_right_4 : decode cX9_right 4 = .ok (.iload_n 1, 1) := by decide +kernel
theorem dX9_right_5 : decode cX9_right 5 = .ok (.ldc 19, 2) := by decide +kernel
theorem dX9_right_7 : decode cX9_right 7 = .ok (.if_icmp .ge 16, 3) := by decide +kernel
theorem dX9_right_10 : decode cX9_right 10 = .ok (.aload_n 0, 1) := by decide +kernel
theorem dX9_right_11 : decode cX9_right 11 = .ok (.getfield 20, 3) := by decide +kernel
theorem dX9_right_14 : decode cX9_right 14 = .ok (.iload_n 1, 1) := by decide +kernel
theorem dX9_right_15 : decode cX9_right 15 = .ok (.laload, 1) := by decide +kernel
theorem dX9_right_16 : decode cX9_right 16 = .ok (.l2i, 1) := by decide +kernel
theorem dX9_right_17 : decode cX9_right 17 = .ok (.ldc 63, 2) := by decide +kernel
theorem dX9_right_19 : decode cX9_right 19 = .ok (.iand, 1) := by decide +kernel
theorem dX9_right_20 : decode cX9_right 20 = .ok (.goto 4, 3) := by decide +kernel
theorem dX9_right_24 : decode cX9_right 24 = .ok (.ireturn, 1) := by decide +kernel
theorem dX9_placeOf_0 : decode cX9_placeOf 0 = .ok (.lload_n 0, 1) := by decide +kernel
theorem dX9_placeOf_1 : decode cX9_placeOf 1 = .ok (.ldc2_w 161, 3) := by decide +kernel
theorem dX9_placeOf_4 : decode cX9_placeOf 4 = .ok (.lmul, 1) := by decide +kernel
theorem dX9_placeOf_5 : decode cX9_placeOf 5 = .ok (.lload_n 2, 1) := by decide +kernel
theorem dX9_placeOf_6 : decode cX9_placeOf 6 = .ok (.ladd, 1) := by decide +kernel
theorem dX9_placeOf_7 : decode cX9_placeOf 7 = .ok (.ldc2_w 163, 3) := by decide +kernel
theorem dX9_placeOf_10 : decode cX9_placeOf 10 = .ok (.lmul, 1) := by decide +kernel
theorem dX9_placeOf_11 : decode cX9_placeOf 11 = .ok (.lstore 4, 2) := by decide +kernel
theorem dX9_placeOf_13 : decode cX9_placeOf 13 = .ok (.lload 4, 2) := by decide +kernel
theorem dX9_placeOf_15 : decode cX9_placeOf 15 = .ok (.lload 4, 2) := by decide +kernel
theorem dX9_placeOf_17 : decode cX9_placeOf 17 = .ok (.bipush 32, 2) := by decide +kernel
theorem dX9_placeOf_19 : decode cX9_placeOf 19 = .ok (.lushr, 1) := by decide +kernel
theorem dX9_placeOf_20 : decode cX9_placeOf 20 = .ok (.lxor, 1) := by decide +kernel
theorem dX9_placeOf_21 : decode cX9_placeOf 21 = .ok (.ldc2_w 165, 3) := by decide +kernel
theorem dX9_placeOf_24 : decode cX9_placeOf 24 = .ok (.land, 1) := by decide +kernel
theorem dX9_placeOf_25 : decode cX9_placeOf 25 = .ok (.ldc2_w 167, 3) := by decide +kernel
theorem dX9_placeOf_28 : decode cX9_placeOf 28 = .ok (.lrem, 1) := by decide +kernel
theorem dX9_placeOf_29 : decode cX9_placeOf 29 = .ok (.l2i, 1) := by decide +kernel
theorem dX9_placeOf_30 : decode cX9_placeOf 30 = .ok (.ireturn, 1) := by decide +kernel
theorem dX9_knownAt_0 : decode cX9_knownAt 0 = .ok (.iload_n 1, 1) := by decide +kernel
theorem dX9_knownAt_1 : decode cX9_knownAt 1 = .ok (.iconst 3, 1) := by decide +kernel
theorem dX9_knownAt_2 : decode cX9_knownAt 2 = .ok (.idiv, 1) := by decide +kernel
theorem dX9_knownAt_3 : decode cX9_knownAt 3 = .ok (.istore_n 2, 1) := by decide +kernel
theorem dX9_knownAt_4 : decode cX9_knownAt 4 = .ok (.iload_n 2, 1) := by decide +kernel
theorem dX9_knownAt_5 : decode cX9_knownAt 5 = .ok (.ifCond .lt 9, 3) := by decide +kernel
theorem dX9_knownAt_8 : decode cX9_knownAt 8 = .ok (.iload_n 2, 1) := by decide +kernel
theorem dX9_knownAt_9 : decode cX9_knownAt 9 = .ok (.ldc 33, 2) := by decide +kernel
theorem dX9_knownAt_11 : decode cX9_knownAt 11 = .ok (.if_icmp .lt 5, 3) := by decide +kernel
theorem dX9_knownAt_16 : decode cX9_knownAt 16 = .ok (.aload_n 0, 1) := by decide +kernel
theorem dX9_knownAt_17 : decode cX9_knownAt 17 = .ok (.getfield 34, 3) := by decide +kernel
theorem dX9_knownAt_20 : decode cX9_knownAt 20 = .ok (.iload_n 2, 1) := by decide +kernel
theorem dX9_knownAt_21 : decode cX9_knownAt 21 = .ok (.laload, 1) := by decide +kernel
theorem dX9_knownAt_22 : decode cX9_knownAt 22 = .ok (.bipush 21, 2) := by decide +kernel
theorem dX9_knownAt_24 : decode cX9_knownAt 24 = .ok (.iload_n 1, 1) := by decide +kernel
theorem dX9_knownAt_25 : decode cX9_knownAt 25 = .ok (.iconst 3, 1) := by decide +kernel
theorem dX9_knownAt_26 : decode cX9_knownAt 26 = .ok (.iload_n 2, 1) := by decide +kernel
theorem dX9_knownAt_27 : decode cX9_knownAt 27 = .ok (.imul, 1) := by decide +kernel
theorem dX9_knownAt_28 : decode cX9_knownAt 28 = .ok (.isub, 1) := by decide +kernel
theorem dX9_knownAt_29 : decode cX9_knownAt 29 = .ok (.imul, 1) := by decide +kernel
theorem dX9_knownAt_30 : decode cX9_knownAt 30 = .ok (.lushr, 1) := by decide +kernel
theorem dX9_knownAt_31 : decode cX9_knownAt 31 = .ok (.l2i, 1) := by decide +kernel
theorem dX9_knownAt_32 : decode cX9_knownAt 32 = .ok (.ldc 63, 2) := by decide +kernel
theorem dX9_knownAt_34 : decode cX9_knownAt 34 = .ok (.iand, 1) := by decide +kernel
theorem dX9_knownAt_35 : decode cX9_knownAt 35 = .ok (.ireturn, 1) := by decide +kernel
theorem dX9_spare_0 : decode cX9_spare 0 = .ok (.aload_n 0, 1) := by decide +kernel
theorem dX9_spare_1 : decode cX9_spare 1 = .ok (.getfield 46, 3) := by decide +kernel
theorem dX9_spare_4 : decode cX9_spare 4 = .ok (.ldc 19, 2) := by decide +kernel
theorem dX9_spare_6 : decode cX9_spare 6 = .ok (.if_icmp .ge 35, 3) := by decide +kernel
theorem dX9_spare_9 : decode cX9_spare 9 = .ok (.aload_n 0, 1) := by decide +kernel
theorem dX9_spare_10 : decode cX9_spare 10 = .ok (.getfield 20, 3) := by decide +kernel
theorem dX9_spare_13 : decode cX9_spare 13 = .ok (.aload_n 0, 1) := by decide +kernel
theorem dX9_spare_14 : decode cX9_spare 14 = .ok (.getfield 46, 3) := by decide +kernel
theorem dX9_spare_17 : decode cX9_spare 17 = .ok (.laload, 1) := by decide +kernel
theorem dX9_spare_18 : decode cX9_spare 18 = .ok (.lconst 0, 1) := by decide +kernel
theorem dX9_spare_19 : decode cX9_spare 19 = .ok (.lcmp, 1) := by decide +kernel
theorem dX9_spare_20 : decode cX9_spare 20 = .ok (.ifCond .ne 8, 3) := by decide +kernel
theorem dX9_spare_23 : decode cX9_spare 23 = .ok (.aload_n 0, 1) := by decide +kernel
theorem dX9_spare_24 : decode cX9_spare 24 = .ok (.getfield 46, 3) := by decide +kernel
theorem dX9_spare_27 : decode cX9_spare 27 = .ok (.ireturn, 1) := by decide +kernel
theorem dX9_spare_28 : decode cX9_spare 28 = .ok (.aload_n 0, 1) := by decide +kernel
theorem dX9_spare_29 : decode cX9_spare 29 = .ok (.dup, 1) := by decide +kernel
theorem dX9_spare_30 : decode cX9_spare 30 = .ok (.getfield 46, 3) := by decide +kernel
theorem dX9_spare_33 : decode cX9_spare 33 = .ok (.iconst 1, 1) := by decide +kernel
theorem dX9_spare_34 : decode cX9_spare 34 = .ok (.iadd, 1) := by decide +kernel
theorem dX9_spare_35 : decode cX9_spare 35 = .ok (.putfield 46, 3) := by decide +kernel
theorem dX9_spare_38 : decode cX9_spare 38 = .ok (.goto (-38), 3) := by decide +kernel
theorem dX9_putSize_0 : decode cX9_putSize 0 = .ok (.lload_n 2, 1) := by decide +kernel
theorem dX9_putSize_1 : decode cX9_putSize 1 = .ok (.ldc2_w 64, 3) := by decide +kernel
theorem dX9_putSize_4 : decode cX9_putSize 4 = .ok (.lcmp, 1) := by decide +kernel
theorem dX9_putSize_5 : decode cX9_putSize 5 = .ok (.ifCond .gt 27, 3) := by decide +kernel
theorem dX9_putSize_8 : decode cX9_putSize 8 = .ok (.lload 4, 2) := by decide +kernel
theorem dX9_putSize_10 : decode cX9_putSize 10 = .ok (.ldc2_w 64, 3) := by decide +kernel
theorem dX9_putSize_13 : decode cX9_putSize 13 = .ok (.lcmp, 1) := by decide +kernel
theorem dX9_putSize_14 : decode cX9_putSize 14 = .ok (.ifCond .ge 18, 3) := by decide +kernel
theorem dX9_putSize_17 : decode cX9_putSize 17 = .ok (.aload_n 0, 1) := by decide +kernel
theorem dX9_putSize_18 : decode cX9_putSize 18 = .ok (.getfield 24, 3) := by decide +kernel
theorem dX9_putSize_21 : decode cX9_putSize 21 = .ok (.iload_n 1, 1) := by decide +kernel
theorem dX9_putSize_22 : decode cX9_putSize 22 = .ok (.lload_n 2, 1) := by decide +kernel
theorem dX9_putSize_23 : decode cX9_putSize 23 = .ok (.bipush 32, 2) := by decide +kernel
theorem dX9_putSize_25 : decode cX9_putSize 25 = .ok (.lshl, 1) := by decide +kernel
theorem dX9_putSize_26 : decode cX9_putSize 26 = .ok (.lload 4, 2) := by decide +kernel
theorem dX9_putSize_28 : decode cX9_putSize 28 = .ok (.lor, 1) := by decide +kernel
theorem dX9_putSize_29 : decode cX9_putSize 29 = .ok (.lastore, 1) := by decide +kernel
theorem dX9_putSize_30 : decode cX9_putSize 30 = .ok (.iconst 1, 1) := by decide +kernel
theorem dX9_putSize_31 : decode cX9_putSize 31 = .ok (.ireturn, 1) := by decide +kernel
theorem dX9_know_0 : decode cX9_know 0 = .ok (.iload_n 2, 1) := by decide +kernel
theorem dX9_know_1 : decode cX9_know 1 = .ok (.iconst 3, 1) := by decide +kernel
theorem dX9_know_2 : decode cX9_know 2 = .ok (.idiv, 1) := by decide +kernel
theorem dX9_know_3 : decode cX9_know 3 = .ok (.istore_n 3, 1) := by decide +kernel
theorem dX9_know_4 : decode cX9_know 4 = .ok (.iload_n 3, 1) := by decide +kernel
theorem dX9_know_5 : decode cX9_know 5 = .ok (.ifCond .lt 29, 3) := by decide +kernel
theorem dX9_know_8 : decode cX9_know 8 = .ok (.iload_n 3, 1) := by decide +kernel
theorem dX9_know_9 : decode cX9_know 9 = .ok (.ldc 33, 2) := by decide +kernel
theorem dX9_know_11 : decode cX9_know 11 = .ok (.if_icmp .ge 23, 3) := by decide +kernel
theorem dX9_know_14 : decode cX9_know 14 = .ok (.aload_n 0, 1) := by decide +kernel
theorem dX9_know_15 : decode cX9_know 15 = .ok (.getfield 34, 3) := by decide +kernel
theorem dX9_know_18 : decode cX9_know 18 = .ok (.iload_n 3, 1) := by decide +kernel
theorem dX9_know_19 : decode cX9_know 19 = .ok (.dup2, 1) := by decide +kernel
theorem dX9_know_20 : decode cX9_know 20 = .ok (.laload, 1) := by decide +kernel
theorem dX9_know_21 : decode cX9_know 21 = .ok (.iload_n 1, 1) := by decide +kernel
theorem dX9_know_22 : decode cX9_know 22 = .ok (.i2l, 1) := by decide +kernel
theorem dX9_know_23 : decode cX9_know 23 = .ok (.bipush 21, 2) := by decide +kernel
theorem dX9_know_25 : decode cX9_know 25 = .ok (.iload_n 2, 1) := by decide +kernel
theorem dX9_know_26 : decode cX9_know 26 = .ok (.iconst 3, 1) := by decide +kernel
theorem dX9_know_27 : decode cX9_know 27 = .ok (.iload_n 3, 1) := by decide +kernel
theorem dX9_know_28 : decode cX9_know 28 = .ok (.imul, 1) := by decide +kernel
theorem dX9_know_29 : decode cX9_know 29 = .ok (.isub, 1) := by decide +kernel
theorem dX9_know_30 : decode cX9_know 30 = .ok (.imul, 1) := by decide +kernel
theorem dX9_know_31 : decode cX9_know 31 = .ok (.lshl, 1) := by decide +kernel
theorem dX9_know_32 : decode cX9_know 32 = .ok (.lor, 1) := by decide +kernel
theorem dX9_know_33 : decode cX9_know 33 = .ok (.lastore, 1) := by decide +kernel
theorem dX9_know_34 : decode cX9_know 34 = .ok (.return_, 1) := by decide +kernel
theorem dX1_start_0 : decode cX1_start 0 = .ok (.aload_n 0, 1) := by decide +kernel
theorem dX1_start_1 : decode cX1_start 1 = .ok (.iconst 0, 1) := by decide +kernel
theorem dX1_start_2 : decode cX1_start 2 = .ok (.putfield 33, 3) := by decide +kernel
theorem dX1_start_5 : decode cX1_start 5 = .ok (.aload_n 0, 1) := by decide +kernel
theorem dX1_start_6 : decode cX1_start 6 = .ok (.iconst 0, 1) := by decide +kernel
theorem dX1_start_7 : decode cX1_start 7 = .ok (.putfield 37, 3) := by decide +kernel
theorem dX1_start_10 : decode cX1_start 10 = .ok (.iload_n 1, 1) := by decide +kernel
theorem dX1_start_11 : decode cX1_start 11 = .ok (.ifCond .eq 11, 3) := by decide +kernel
theorem dX1_start_14 : decode cX1_start 14 = .ok (.aload_n 0, 1) := by decide +kernel
theorem dX1_start_15 : decode cX1_start 15 = .ok (.iload_n 1, 1) := by decide +kernel
theorem dX1_start_16 : decode cX1_start 16 = .ok (.sipush 511, 3) := by decide +kernel
theorem dX1_start_19 : decode cX1_start 19 = .ok (.invokevirtual 40, 3) := by decide +kernel
theorem dX1_start_22 : decode cX1_start 22 = .ok (.return_, 1) := by decide +kernel
theorem dX1_next_0 : decode cX1_next 0 = .ok (.aload_n 0, 1) := by decide +kernel
theorem dX1_next_1 : decode cX1_next 1 = .ok (.getfield 33, 3) := by decide +kernel
theorem dX1_next_4 : decode cX1_next 4 = .ok (.ifCond .le 13, 3) := by decide +kernel
theorem dX1_next_7 : decode cX1_next 7 = .ok (.aload_n 0, 1) := by decide +kernel
theorem dX1_next_8 : decode cX1_next 8 = .ok (.getfield 33, 3) := by decide +kernel
theorem dX1_next_11 : decode cX1_next 11 = .ok (.sipush 2048, 3) := by decide +kernel
theorem dX1_next_14 : decode cX1_next 14 = .ok (.if_icmp .le 5, 3) := by decide +kernel
theorem dX1_next_17 : decode cX1_next 17 = .ok (.iconst 0, 1) := by decide +kernel
theorem dX1_next_18 : decode cX1_next 18 = .ok (.ireturn, 1) := by decide +kernel
theorem dX1_next_19 : decode cX1_next 19 = .ok (.aload_n 0, 1) := by decide +kernel
theorem dX1_next_20 : decode cX1_next 20 = .ok (.getfield 37, 3) := by decide +kernel
theorem dX1_next_23 : decode cX1_next 23 = .ok (.istore_n 2, 1) := by decide +kernel
theorem dX1_next_24 : decode cX1_next 24 = .ok (.aload_n 0, 1) := by decide +kernel
theorem dX1_next_25 : decode cX1_next 25 = .ok (.getfield 37, 3) := by decide +kernel
theorem dX1_next_28 : decode cX1_next 28 = .ok (.ifCond .ne 30, 3) := by decide +kernel
theorem dX1_next_31 : decode cX1_next 31 = .ok (.aload_n 0, 1) := by decide +kernel
theorem dX1_next_32 : decode cX1_next 32 = .ok (.getfield 22, 3) := by decide +kernel
theorem dX1_next_35 : decode cX1_next 35 = .ok (.aload_n 0, 1) := by decide +kernel
theorem dX1_next_36 : decode cX1_next 36 = .ok (.dup, 1) := by decide +kernel
theorem dX1_next_37 : decode cX1_next 37 = .ok (.getfield 37, 3) := by decide +kernel
theorem dX1_next_40 : decode cX1_next 40 = .ok (.dup_x1, 1) := by decide +kernel
theorem dX1_next_41 : decode cX1_next 41 = .ok (.iconst 1, 1) := by decide +kernel
theorem dX1_next_42 : decode cX1_next 42 = .ok (.iadd, 1) := by decide +kernel
theorem dX1_next_43 : decode cX1_next 43 = .ok (.putfield 37, 3) := by decide +kernel
theorem dX1_next_46 : decode cX1_next 46 = .ok (.aload_n 0, 1) := by decide +kernel
theorem dX1_next_47 : decode cX1_next 47 = .ok (.getfield 11, 3) := by decide +kernel
theorem dX1_next_50 : decode cX1_next 50 = .ok (.aload_n 0, 1) := by decide +kernel
theorem dX1_next_51 : decode cX1_next 51 = .ok (.getfield 33, 3) := by decide +kernel
theorem dX1_next_54 : decode cX1_next 54 = .ok (.iconst 1, 1) := by decide +kernel
theorem dX1_next_55 : decode cX1_next 55 = .ok (.isub, 1) := by decide +kernel
theorem dX1_next_56 : decode cX1_next 56 = .ok (.iaload, 1) := by decide +kernel
theorem dX1_next_57 : decode cX1_next 57 = .ok (.iastore, 1) := by decide +kernel
theorem dX1_next_58 : decode cX1_next 58 = .ok (.iconst 0, 1) := by decide +kernel
theorem dX1_next_59 : decode cX1_next 59 = .ok (.istore_n 3, 1) := by decide +kernel
theorem dX1_next_60 : decode cX1_next 60 = .ok (.iload_n 3, 1) := by decide +kernel
theorem dX1_next_61 : decode cX1_next 61 = .ok (.sipush 511, 3) := by decide +kernel
theorem dX1_next_64 : decode cX1_next 64 = .ok (.if_icmp .ge 101, 3) := by decide +kernel
theorem dX1_next_67 : decode cX1_next 67 = .ok (.aload_n 0, 1) := by decide +kernel
theorem dX1_next_68 : decode cX1_next 68 = .ok (.getfield 37, 3) := by decide +kernel
theorem dX1_next_71 : decode cX1_next 71 = .ok (.aload_n 0, 1) := by decide +kernel
theorem dX1_next_72 : decode cX1_next 72 = .ok (.getfield 22, 3) := by decide +kernel
theorem dX1_next_75 : decode cX1_next 75 = .ok (.arraylength, 1) := by decide +kernel
theorem dX1_next_76 : decode cX1_next 76 = .ok (.if_icmp .ge 89, 3) := by decide +kernel
theorem dX1_next_79 : decode cX1_next 79 = .ok (.aload_n 0, 1) := by decide +kernel
theorem dX1_next_80 : decode cX1_next 80 = .ok (.getfield 22, 3) := by decide +kernel
theorem dX1_next_83 : decode cX1_next 83 = .ok (.aload_n 0, 1) := by decide +kernel
theorem dX1_next_84 : decode cX1_next 84 = .ok (.getfield 37, 3) := by decide +kernel
theorem dX1_next_87 : decode cX1_next 87 = .ok (.iconst 1, 1) := by decide +kernel
theorem dX1_next_88 : decode cX1_next 88 = .ok (.isub, 1) := by decide +kernel
theorem dX1_next_89 : decode cX1_next 89 = .ok (.iaload, 1) := by decide +kernel
theorem dX1_next_90 : decode cX1_next 90 = .ok (.istore 4, 2) := by decide +kernel
theorem dX1_next_92 : decode cX1_next 92 = .ok (.aload_n 0, 1) := by decide +kernel
theorem dX1_next_93 : decode cX1_next 93 = .ok (.getfield 25, 3) := by decide +kernel
theorem dX1_next_96 : decode cX1_next 96 = .ok (.iload 4, 2) := by decide +kernel
theorem dX1_next_98 : decode cX1_next 98 = .ok (.invokevirtual 59, 3) := by decide +kernel
theorem dX1_next_101 : decode cX1_next 101 = .ok (.iload_n 1, 1) := by decide +kernel
theorem dX1_next_102 : decode cX1_next 102 = .ok (.if_icmp .gt 6, 3) := by decide +kernel
theorem dX1_next_105 : decode cX1_next 105 = .ok (.goto 60, 3) := by decide +kernel
theorem dX1_next_108 : decode cX1_next 108 = .ok (.aload_n 0, 1) := by decide +kernel
theorem dX1_next_109 : decode cX1_next 109 = .ok (.getfield 22, 3) := by decide +kernel
theorem dX1_next_112 : decode cX1_next 112 = .ok (.aload_n 0, 1) := by decide +kernel
theorem dX1_next_113 : decode cX1_next 113 = .ok (.dup, 1) := by decide +kernel
theorem dX1_next_114 : decode cX1_next 114 = .ok (.getfield 37, 3) := by decide +kernel
theorem dX1_next_117 : decode cX1_next 117 = .ok (.dup_x1, 1) := by decide +kernel
theorem dX1_next_118 : decode cX1_next 118 = .ok (.iconst 1, 1) := by decide +kernel
theorem dX1_next_119 : decode cX1_next 119 = .ok (.iadd, 1) := by decide +kernel
theorem dX1_next_120 : decode cX1_next 120 = .ok (.putfield 37, 3) := by decide +kernel
theorem dX1_next_123 : decode cX1_next 123 = .ok (.aload_n 0, 1) := by decide +kernel
theorem dX1_next_124 : decode cX1_next 124 = .ok (.getfield 25, 3) := by decide +kernel
theorem dX1_next_127 : decode cX1_next 127 = .ok (.aload_n 0, 1) := by decide +kernel
theorem dX1_next_128 : decode cX1_next 128 = .ok (.getfield 29, 3) := by decide +kernel
theorem dX1_next_131 : decode cX1_next 131 = .ok (.ifCond .eq 15, 3) := by decide +kernel
theorem dX1_next_134 : decode cX1_next 134 = .ok (.aload_n 0, 1) := by decide +kernel
theorem dX1_next_135 : decode cX1_next 135 = .ok (.getfield 25, 3) := by decide +kernel
theorem dX1_next_138 : decode cX1_next 138 = .ok (.iload 4, 2) := by decide +kernel
theorem dX1_next_140 : decode cX1_next 140 = .ok (.invokevirtual 62, 3) := by decide +kernel
theorem dX1_next_143 : decode cX1_next 143 = .ok (.goto 12, 3) := by decide +kernel
theorem dX1_next_155 : decode cX1_next 155 = .ok (.invokevirtual 44, 3) := by decide +kernel
theorem dX1_next_158 : decode cX1_next 158 = .ok (.iastore, 1) := by decide +kernel
theorem dX1_next_159 : decode cX1_next 159 = .ok (.iinc 3 1, 3) := by decide +kernel
theorem dX1_next_162 : decode cX1_next 162 = .ok (.goto (-102), 3) := by decide +kernel
theorem dX1_next_165 : decode cX1_next 165 = .ok (.aload_n 0, 1) := by decide +kernel
theorem dX1_next_166 : decode cX1_next 166 = .ok (.getfield 37, 3) := by decide +kernel
theorem dX1_next_169 : decode cX1_next 169 = .ok (.iconst 1, 1) := by decide +kernel
theorem dX1_next_170 : decode cX1_next 170 = .ok (.if_icmp .le 38, 3) := by decide +kernel
theorem dX1_next_173 : decode cX1_next 173 = .ok (.aload_n 0, 1) := by decide +kernel
theorem dX1_next_174 : decode cX1_next 174 = .ok (.getfield 25, 3) := by decide +kernel
theorem dX1_next_177 : decode cX1_next 177 = .ok (.aload_n 0, 1) := by decide +kernel
theorem dX1_next_178 : decode cX1_next 178 = .ok (.getfield 22, 3) := by decide +kernel
theorem dX1_next_181 : decode cX1_next 181 = .ok (.aload_n 0, 1) := by decide +kernel
theorem dX1_next_182 : decode cX1_next 182 = .ok (.getfield 37, 3) := by decide +kernel
theorem dX1_next_185 : decode cX1_next 185 = .ok (.iconst 2, 1) := by decide +kernel
theorem dX1_next_186 : decode cX1_next 186 = .ok (.isub, 1) := by decide +kernel
theorem dX1_next_187 : decode cX1_next 187 = .ok (.iaload, 1) := by decide +kernel
theorem dX1_next_188 : decode cX1_next 188 = .ok (.invokevirtual 59, 3) := by decide +kernel
theorem dX1_next_191 : decode cX1_next 191 = .ok (.iload_n 1, 1) := by decide +kernel
theorem dX1_next_192 : decode cX1_next 192 = .ok (.if_icmp .gt 16, 3) := by decide +kernel
theorem dX1_next_195 : decode cX1_next 195 = .ok (.aload_n 0, 1) := by decide +kernel
theorem dX1_next_196 : decode cX1_next 196 = .ok (.dup, 1) := by decide +kernel
theorem dX1_next_197 : decode cX1_next 197 = .ok (.getfield 37, 3) := by decide +kernel
theorem dX1_next_200 : decode cX1_next 200 = .ok (.iconst 1, 1) := by decide +kernel
theorem dX1_next_201 : decode cX1_next 201 = .ok (.isub, 1) := by decide +kernel
theorem dX1_next_202 : decode cX1_next 202 = .ok (.putfield 37, 3) := by decide +kernel
theorem dX1_next_205 : decode cX1_next 205 = .ok (.goto (-40), 3) := by decide +kernel
theorem dX1_next_208 : decode cX1_next 208 = .ok (.aload_n 0, 1) := by decide +kernel
theorem dX1_next_209 : decode cX1_next 209 = .ok (.getfield 37, 3) := by decide +kernel
theorem dX1_next_212 : decode cX1_next 212 = .ok (.iload_n 2, 1) := by decide +kernel
theorem dX1_next_213 : decode cX1_next 213 = .ok (.if_icmp .eq 21, 3) := by decide +kernel
theorem dX1_next_216 : decode cX1_next 216 = .ok (.aload_n 0, 1) := by decide +kernel
theorem dX1_next_217 : decode cX1_next 217 = .ok (.aload_n 0, 1) := by decide +kernel
theorem dX1_next_218 : decode cX1_next 218 = .ok (.getfield 22, 3) := by decide +kernel
theorem dX1_next_221 : decode cX1_next 221 = .ok (.aload_n 0, 1) := by decide +kernel
theorem dX1_next_222 : decode cX1_next 222 = .ok (.getfield 37, 3) := by decide +kernel
theorem dX1_next_225 : decode cX1_next 225 = .ok (.iconst 1, 1) := by decide +kernel
theorem dX1_next_226 : decode cX1_next 226 = .ok (.isub, 1) := by decide +kernel
theorem dX1_next_227 : decode cX1_next 227 = .ok (.iaload, 1) := by decide +kernel
theorem dX1_next_228 : decode cX1_next 228 = .ok (.invokestatic 68, 3) := by decide +kernel
theorem dX1_next_231 : decode cX1_next 231 = .ok (.putfield 73, 3) := by decide +kernel
theorem dX1_next_234 : decode cX1_next 234 = .ok (.aload_n 0, 1) := by decide +kernel
theorem dX1_next_235 : decode cX1_next 235 = .ok (.getfield 22, 3) := by decide +kernel
theorem dX1_next_238 : decode cX1_next 238 = .ok (.aload_n 0, 1) := by decide +kernel
theorem dX1_next_239 : decode cX1_next 239 = .ok (.getfield 37, 3) := by decide +kernel
theorem dX1_next_242 : decode cX1_next 242 = .ok (.iconst 1, 1) := by decide +kernel
theorem dX1_next_243 : decode cX1_next 243 = .ok (.isub, 1) := by decide +kernel
theorem dX1_next_244 : decode cX1_next 244 = .ok (.iaload, 1) := by decide +kernel
theorem dX1_next_245 : decode cX1_next 245 = .ok (.ireturn, 1) := by decide +kernel
theorem dX1_isDue_0 : decode cX1_isDue 0 = .ok (.aload_n 0, 1) := by decide +kernel
theorem dX1_isDue_1 : decode cX1_isDue 1 = .ok (.getfield 33, 3) := by decide +kernel
theorem dX1_isDue_4 : decode cX1_isDue 4 = .ok (.ifCond .le 32, 3) := by decide +kernel
theorem dX1_isDue_7 : decode cX1_isDue 7 = .ok (.aload_n 0, 1) := by decide +kernel
theorem dX1_isDue_8 : decode cX1_isDue 8 = .ok (.getfield 33, 3) := by decide +kernel
theorem dX1_isDue_11 : decode cX1_isDue 11 = .ok (.sipush 2048, 3) := by decide +kernel
theorem dX1_isDue_14 : decode cX1_isDue 14 = .ok (.if_icmp .gt 22, 3) := by decide +kernel
theorem dX1_isDue_17 : decode cX1_isDue 17 = .ok (.aload_n 0, 1) := by decide +kernel
theorem dX1_isDue_18 : decode cX1_isDue 18 = .ok (.getfield 19, 3) := by decide +kernel
theorem dX1_isDue_21 : decode cX1_isDue 21 = .ok (.aload_n 0, 1) := by decide +kernel
theorem dX1_isDue_22 : decode cX1_isDue 22 = .ok (.getfield 33, 3) := by decide +kernel
theorem dX1_isDue_25 : decode cX1_isDue 25 = .ok (.iconst 1, 1) := by decide +kernel
theorem dX1_isDue_26 : decode cX1_isDue 26 = .ok (.isub, 1) := by decide +kernel
theorem dX1_isDue_27 : decode cX1_isDue 27 = .ok (.iaload, 1) := by decide +kernel
theorem dX1_isDue_28 : decode cX1_isDue 28 = .ok (.iload_n 1, 1) := by decide +kernel
theorem dX1_isDue_29 : decode cX1_isDue 29 = .ok (.if_icmp .gt 7, 3) := by decide +kernel
theorem dX1_isDue_32 : decode cX1_isDue 32 = .ok (.iconst 1, 1) := by decide +kernel
theorem dX1_isDue_33 : decode cX1_isDue 33 = .ok (.goto 4, 3) := by decide +kernel
theorem dX1_isDue_36 : decode cX1_isDue 36 = .ok (.iconst 0, 1) := by decide +kernel
theorem dX1_isDue_37 : decode cX1_isDue 37 = .ok (.ireturn, 1) := by decide +kernel
theorem dX5_arePair_0 : decode cX5_arePair 0 = .ok (.iload_n 2, 1) := by decide +kernel
theorem dX5_arePair_1 : decode cX5_arePair 1 = .ok (.iconst 1, 1) := by decide +kernel
theorem dX5_arePair_2 : decode cX5_arePair 2 = .ok (.ishr, 1) := by decide +kernel
theorem dX5_arePair_3 : decode cX5_arePair 3 = .ok (.bipush 31, 2) := by decide +kernel
theorem dX5_arePair_5 : decode cX5_arePair 5 = .ok (.iand, 1) := by decide +kernel
theorem dX5_arePair_6 : decode cX5_arePair 6 = .ok (.istore_n 3, 1) := by decide +kernel
theorem dX5_arePair_7 : decode cX5_arePair 7 = .ok (.iload_n 0, 1) := by decide +kernel
theorem dX5_arePair_8 : decode cX5_arePair 8 = .ok (.iload_n 3, 1) := by decide +kernel
theorem dX5_arePair_9 : decode cX5_arePair 9 = .ok (.iushr, 1) := by decide +kernel
theorem dX5_arePair_10 : decode cX5_arePair 10 = .ok (.iload_n 2, 1) := by decide +kernel
theorem dX5_arePair_11 : decode cX5_arePair 11 = .ok (.ixor, 1) := by decide +kernel
theorem dX5_arePair_12 : decode cX5_arePair 12 = .ok (.iconst 1, 1) := by decide +kernel
theorem dX5_arePair_13 : decode cX5_arePair 13 = .ok (.iand, 1) := by decide +kernel
theorem dX5_arePair_14 : decode cX5_arePair 14 = .ok (.istore 4, 2) := by decide +kernel
theorem dX5_arePair_16 : decode cX5_arePair 16 = .ok (.iload 4, 2) := by decide +kernel
theorem dX5_arePair_18 : decode cX5_arePair 18 = .ok (.ifCond .ne 18, 3) := by decide +kernel
theorem dX5_arePair_21 : decode cX5_arePair 21 = .ok (.iload_n 1, 1) := by decide +kernel
theorem dX5_arePair_22 : decode cX5_arePair 22 = .ok (.iload_n 3, 1) := by decide +kernel
theorem dX5_arePair_23 : decode cX5_arePair 23 = .ok (.iushr, 1) := by decide +kernel
theorem dX5_arePair_24 : decode cX5_arePair 24 = .ok (.iload_n 2, 1) := by decide +kernel
theorem dX5_arePair_25 : decode cX5_arePair 25 = .ok (.ixor, 1) := by decide +kernel
theorem dX5_arePair_26 : decode cX5_arePair 26 = .ok (.iconst 1, 1) := by decide +kernel
theorem dX5_arePair_27 : decode cX5_arePair 27 = .ok (.iand, 1) := by decide +kernel
theorem dX5_arePair_28 : decode cX5_arePair 28 = .ok (.iconst 1, 1) := by decide +kernel
theorem dX5_arePair_29 : decode cX5_arePair 29 = .ok (.if_icmp .ne 7, 3) := by decide +kernel
theorem dX5_arePair_32 : decode cX5_arePair 32 = .ok (.iconst 1, 1) := by decide +kernel
theorem dX5_arePair_33 : decode cX5_arePair 33 = .ok (.goto 4, 3) := by decide +kernel
theorem dX5_arePair_36 : decode cX5_arePair 36 = .ok (.iconst 0, 1) := by decide +kernel
theorem dX5_arePair_37 : decode cX5_arePair 37 = .ok (.ireturn, 1) := by decide +kernel
theorem dX5_putAhead_0 : decode cX5_putAhead 0 = .ok (.aload_n 1, 1) := by decide +kernel
theorem dX5_putAhead_1 : decode cX5_putAhead 1 = .ok (.iload_n 2, 1) := by decide +kernel
theorem dX5_putAhead_2 : decode cX5_putAhead 2 = .ok (.invokevirtual 122, 3) := by decide +kernel
theorem dX5_putAhead_5 : decode cX5_putAhead 5 = .ok (.aload_n 0, 1) := by decide +kernel
theorem dX5_putAhead_6 : decode cX5_putAhead 6 = .ok (.getfield 69, 3) := by decide +kernel
theorem dX5_putAhead_9 : decode cX5_putAhead 9 = .ok (.ifCond .le 38, 3) := by decide +kernel
theorem dX5_putAhead_12 : decode cX5_putAhead 12 = .ok (.aload_n 0, 1) := by decide +kernel
theorem dX5_putAhead_13 : decode cX5_putAhead 13 = .ok (.getfield 9, 3) := by decide +kernel
theorem dX5_putAhead_16 : decode cX5_putAhead 16 = .ok (.aload_n 0, 1) := by decide +kernel
theorem dX5_putAhead_17 : decode cX5_putAhead 17 = .ok (.getfield 20, 3) := by decide +kernel
theorem dX5_putAhead_20 : decode cX5_putAhead 20 = .ok (.iaload, 1) := by decide +kernel
theorem dX5_putAhead_21 : decode cX5_putAhead 21 = .ok (.aload_n 1, 1) := by decide +kernel
theorem dX5_putAhead_22 : decode cX5_putAhead 22 = .ok (.invokevirtual 114, 3) := by decide +kernel
theorem dX5_putAhead_25 : decode cX5_putAhead 25 = .ok (.if_icmp .ne 22, 3) := by decide +kernel
theorem dX5_putAhead_47 : decode cX5_putAhead 47 = .ok (.aload_n 0, 1) := by decide +kernel
theorem dX5_putAhead_48 : decode cX5_putAhead 48 = .ok (.getfield 20, 3) := by decide +kernel
theorem dX5_putAhead_51 : decode cX5_putAhead 51 = .ok (.ifCond .le 68, 3) := by decide +kernel
theorem dX5_putAhead_54 : decode cX5_putAhead 54 = .ok (.aload_n 0, 1) := by decide +kernel
theorem dX5_putAhead_55 : decode cX5_putAhead 55 = .ok (.dup, 1) := by decide +kernel
theorem dX5_putAhead_56 : decode cX5_putAhead 56 = .ok (.getfield 20, 3) := by decide +kernel
theorem dX5_putAhead_59 : decode cX5_putAhead 59 = .ok (.iconst 1, 1) := by decide +kernel
theorem dX5_putAhead_60 : decode cX5_putAhead 60 = .ok (.isub, 1) := by decide +kernel
theorem dX5_putAhead_61 : decode cX5_putAhead 61 = .ok (.putfield 20, 3) := by decide +kernel
theorem dX5_putAhead_64 : decode cX5_putAhead 64 = .ok (.aload_n 0, 1) := by decide +kernel
theorem dX5_putAhead_65 : decode cX5_putAhead 65 = .ok (.dup, 1) := by decide +kernel
theorem dX5_putAhead_66 : decode cX5_putAhead 66 = .ok (.getfield 69, 3) := by decide +kernel
theorem dX5_putAhead_69 : decode cX5_putAhead 69 = .ok (.iconst 1, 1) := by decide +kernel
theorem dX5_putAhead_70 : decode cX5_putAhead 70 = .ok (.iadd, 1) := by decide +kernel
theorem dX5_putAhead_71 : decode cX5_putAhead 71 = .ok (.putfield 69, 3) := by decide +kernel
theorem dX5_putAhead_74 : decode cX5_putAhead 74 = .ok (.aload_n 0, 1) := by decide +kernel
theorem dX5_putAhead_75 : decode cX5_putAhead 75 = .ok (.getfield 9, 3) := by decide +kernel
theorem dX5_putAhead_78 : decode cX5_putAhead 78 = .ok (.aload_n 0, 1) := by decide +kernel
theorem dX5_putAhead_79 : decode cX5_putAhead 79 = .ok (.getfield 20, 3) := by decide +kernel
theorem dX5_putAhead_82 : decode cX5_putAhead 82 = .ok (.aload_n 1, 1) := by decide +kernel
theorem dX5_putAhead_83 : decode cX5_putAhead 83 = .ok (.invokevirtual 114, 3) := by decide +kernel
theorem dX5_putAhead_86 : decode cX5_putAhead 86 = .ok (.iastore, 1) := by decide +kernel
theorem dX5_putAhead_87 : decode cX5_putAhead 87 = .ok (.aload_n 0, 1) := by decide +kernel
theorem dX5_putAhead_88 : decode cX5_putAhead 88 = .ok (.getfield 13, 3) := by decide +kernel
theorem dX5_putAhead_91 : decode cX5_putAhead 91 = .ok (.aload_n 0, 1) := by decide +kernel
theorem dX5_putAhead_92 : decode cX5_putAhead 92 = .ok (.getfield 20, 3) := by decide +kernel
theorem dX5_putAhead_95 : decode cX5_putAhead 95 = .ok (.aload_n 1, 1) := by decide +kernel
theorem dX5_putAhead_96 : decode cX5_putAhead 96 = .ok (.invokevirtual 118, 3) := by decide +kernel
theorem dX5_putAhead_99 : decode cX5_putAhead 99 = .ok (.lastore, 1) := by decide +kernel
theorem dX5_putAhead_100 : decode cX5_putAhead 100 = .ok (.aload_n 0, 1) := by decide +kernel
theorem dX5_putAhead_101 : decode cX5_putAhead 101 = .ok (.getfield 17, 3) := by decide +kernel
theorem dX5_putAhead_104 : decode cX5_putAhead 104 = .ok (.aload_n 0, 1) := by decide +kernel
theorem dX5_putAhead_105 : decode cX5_putAhead 105 = .ok (.getfield 20, 3) := by decide +kernel
theorem dX5_putAhead_108 : decode cX5_putAhead 108 = .ok (.aload_n 1, 1) := by decide +kernel
theorem dX5_putAhead_109 : decode cX5_putAhead 109 = .ok (.invokevirtual 114, 3) := by decide +kernel
theorem dX5_putAhead_112 : decode cX5_putAhead 112 = .ok (.invokestatic 108, 3) := by decide +kernel
theorem dX5_putAhead_115 : decode cX5_putAhead 115 = .ok (.iastore, 1) := by decide +kernel
theorem dX5_putAhead_116 : decode cX5_putAhead 116 = .ok (.goto 11, 3) := by decide +kernel
theorem dX5_putAhead_127 : decode cX5_putAhead 127 = .ok (.aload_n 1, 1) := by decide +kernel
theorem dX5_putAhead_128 : decode cX5_putAhead 128 = .ok (.aload_n 1, 1) := by decide +kernel
theorem dX5_putAhead_129 : decode cX5_putAhead 129 = .ok (.invokevirtual 118, 3) := by decide +kernel
theorem dX5_putAhead_132 : decode cX5_putAhead 132 = .ok (.invokevirtual 125, 3) := by decide +kernel
theorem dX5_putAhead_135 : decode cX5_putAhead 135 = .ok (.return_, 1) := by decide +kernel
theorem dX5_putBehind_0 : decode cX5_putBehind 0 = .ok (.aload_n 1, 1) := by decide +kernel
theorem dX5_putBehind_1 : decode cX5_putBehind 1 = .ok (.iload_n 2, 1) := by decide +kernel
theorem dX5_putBehind_2 : decode cX5_putBehind 2 = .ok (.invokevirtual 122, 3) := by decide +kernel
theorem dX5_putBehind_5 : decode cX5_putBehind 5 = .ok (.aload_n 0, 1) := by decide +kernel
theorem dX5_putBehind_6 : decode cX5_putBehind 6 = .ok (.aload_n 1, 1) := by decide +kernel
theorem dX5_putBehind_7 : decode cX5_putBehind 7 = .ok (.invokevirtual 114, 3) := by decide +kernel
theorem dX5_putBehind_10 : decode cX5_putBehind 10 = .ok (.aload_n 1, 1) := by decide +kernel
theorem dX5_putBehind_11 : decode cX5_putBehind 11 = .ok (.invokevirtual 118, 3) := by decide +kernel
theorem dX5_putBehind_14 : decode cX5_putBehind 14 = .ok (.aload_n 1, 1) := by decide +kernel
theorem dX5_putBehind_15 : decode cX5_putBehind 15 = .ok (.invokevirtual 114, 3) := by decide +kernel
theorem dX5_putBehind_18 : decode cX5_putBehind 18 = .ok (.invokestatic 108, 3) := by decide +kernel
theorem dX5_putBehind_21 : decode cX5_putBehind 21 = .ok (.invokevirtual 110, 3) := by decide +kernel
theorem dX5_putBehind_24 : decode cX5_putBehind 24 = .ok (.aload_n 1, 1) := by decide +kernel
theorem dX5_putBehind_25 : decode cX5_putBehind 25 = .ok (.aload_n 1, 1) := by decide +kernel
theorem dX5_putBehind_26 : decode cX5_putBehind 26 = .ok (.invokevirtual 118, 3) := by decide +kernel
theorem dX5_putBehind_29 : decode cX5_putBehind 29 = .ok (.invokevirtual 125, 3) := by decide +kernel
theorem dX5_putBehind_32 : decode cX5_putBehind 32 = .ok (.return_, 1) := by decide +kernel
theorem dX9_run_0 : decode cX9_run 0 = .ok (.iload_n 1, 1) := by decide +kernel
theorem dX9_run_1 : decode cX9_run 1 = .ok (.ifCond .le 15, 3) := by decide +kernel
theorem dX9_run_4 : decode cX9_run 4 = .ok (.iload_n 1, 1) := by decide +kernel
theorem dX9_run_5 : decode cX9_run 5 = .ok (.ldc 19, 2) := by decide +kernel
theorem dX9_run_7 : decode cX9_run 7 = .ok (.if_icmp .ge 9, 3) := by decide +kernel
theorem dX9_run_10 : decode cX9_run 10 = .ok (.lload_n 2, 1) := by decide +kernel
theorem dX9_run_11 : decode cX9_run 11 = .ok (.lconst 1, 1) := by decide +kernel
theorem dX9_run_12 : decode cX9_run 12 = .ok (.lcmp, 1) := by decide +kernel
theorem dX9_run_13 : decode cX9_run 13 = .ok (.ifCond .ge 5, 3) := by decide +kernel
theorem dX9_run_18 : decode cX9_run 18 = .ok (.lload_n 2, 1) := by decide +kernel
theorem dX9_run_19 : decode cX9_run 19 = .ok (.lconst 1, 1) := by decide +kernel
theorem dX9_run_20 : decode cX9_run 20 = .ok (.lcmp, 1) := by decide +kernel
theorem dX9_run_21 : decode cX9_run 21 = .ok (.ifCond .ne 5, 3) := by decide +kernel
theorem dX9_run_24 : decode cX9_run 24 = .ok (.iload_n 1, 1) := by decide +kernel
theorem dX9_run_25 : decode cX9_run 25 = .ok (.ireturn, 1) := by decide +kernel
theorem dX9_run_26 : decode cX9_run 26 = .ok (.iload_n 1, 1) := by decide +kernel
theorem dX9_run_27 : decode cX9_run 27 = .ok (.sipush 1024, 3) := by decide +kernel
theorem dX9_run_30 : decode cX9_run 30 = .ok (.if_icmp .gt 7, 3) := by decide +kernel
theorem dX9_run_33 : decode cX9_run 33 = .ok (.lconst 1, 1) := by decide +kernel
theorem dX9_run_34 : decode cX9_run 34 = .ok (.goto 31, 3) := by decide +kernel
theorem dX9_run_65 : decode cX9_run 65 = .ok (.lstore 4, 2) := by decide +kernel
theorem dX9_run_67 : decode cX9_run 67 = .ok (.aload_n 0, 1) := by decide +kernel
theorem dX9_run_68 : decode cX9_run 68 = .ok (.getfield 20, 3) := by decide +kernel
theorem dX9_run_71 : decode cX9_run 71 = .ok (.iload_n 1, 1) := by decide +kernel
theorem dX9_run_72 : decode cX9_run 72 = .ok (.laload, 1) := by decide +kernel
theorem dX9_run_73 : decode cX9_run 73 = .ok (.ldc2_w 128, 3) := by decide +kernel
theorem dX9_run_76 : decode cX9_run 76 = .ok (.land, 1) := by decide +kernel
theorem dX9_run_77 : decode cX9_run 77 = .ok (.lload 4, 2) := by decide +kernel
theorem dX9_run_79 : decode cX9_run 79 = .ok (.bipush 56, 2) := by decide +kernel
theorem dX9_run_81 : decode cX9_run 81 = .ok (.lshl, 1) := by decide +kernel
theorem dX9_run_82 : decode cX9_run 82 = .ok (.lor, 1) := by decide +kernel
theorem dX9_run_83 : decode cX9_run 83 = .ok (.iload_n 1, 1) := by decide +kernel
theorem dX9_run_84 : decode cX9_run 84 = .ok (.i2l, 1) := by decide +kernel
theorem dX9_run_85 : decode cX9_run 85 = .ok (.bipush 21, 2) := by decide +kernel
theorem dX9_run_87 : decode cX9_run 87 = .ok (.lshl, 1) := by decide +kernel
theorem dX9_run_88 : decode cX9_run 88 = .ok (.lor, 1) := by decide +kernel
theorem dX9_run_89 : decode cX9_run 89 = .ok (.lstore 6, 2) := by decide +kernel
theorem dX9_run_91 : decode cX9_run 91 = .ok (.aload_n 0, 1) := by decide +kernel
theorem dX9_run_92 : decode cX9_run 92 = .ok (.lload 6, 2) := by decide +kernel
theorem dX9_run_94 : decode cX9_run 94 = .ok (.lload_n 2, 1) := by decide +kernel
theorem dX9_run_95 : decode cX9_run 95 = .ok (.aload_n 0, 1) := by decide +kernel
theorem dX9_run_96 : decode cX9_run 96 = .ok (.iload_n 1, 1) := by decide +kernel
theorem dX9_run_97 : decode cX9_run 97 = .ok (.invokevirtual 73, 3) := by decide +kernel
theorem dX9_run_100 : decode cX9_run 100 = .ok (.lmul, 1) := by decide +kernel
theorem dX9_run_101 : decode cX9_run 101 = .ok (.lload_n 2, 1) := by decide +kernel
theorem dX9_run_102 : decode cX9_run 102 = .ok (.aload_n 0, 1) := by decide +kernel
theorem dX9_run_103 : decode cX9_run 103 = .ok (.iload_n 1, 1) := by decide +kernel
theorem dX9_run_104 : decode cX9_run 104 = .ok (.invokevirtual 77, 3) := by decide +kernel
theorem dX9_run_107 : decode cX9_run 107 = .ok (.lmul, 1) := by decide +kernel
theorem dX9_run_108 : decode cX9_run 108 = .ok (.invokevirtual 119, 3) := by decide +kernel
theorem dX9_run_111 : decode cX9_run 111 = .ok (.ireturn, 1) := by decide +kernel
theorem dX9_pair_0 : decode cX9_pair 0 = .ok (.iload_n 1, 1) := by decide +kernel
theorem dX9_pair_1 : decode cX9_pair 1 = .ok (.ifCond .le 19, 3) := by decide +kernel
theorem dX9_pair_4 : decode cX9_pair 4 = .ok (.iload_n 2, 1) := by decide +kernel
theorem dX9_pair_5 : decode cX9_pair 5 = .ok (.ifCond .le 15, 3) := by decide +kernel
theorem dX9_pair_8 : decode cX9_pair 8 = .ok (.iload_n 1, 1) := by decide +kernel
theorem dX9_pair_9 : decode cX9_pair 9 = .ok (.ldc 19, 2) := by decide +kernel
theorem dX9_pair_11 : decode cX9_pair 11 = .ok (.if_icmp .ge 9, 3) := by decide +kernel
theorem dX9_pair_14 : decode cX9_pair 14 = .ok (.iload_n 2, 1) := by decide +kernel
theorem dX9_pair_15 : decode cX9_pair 15 = .ok (.ldc 19, 2) := by decide +kernel
theorem dX9_pair_17 : decode cX9_pair 17 = .ok (.if_icmp .lt 9, 3) := by decide +kernel
theorem dX9_pair_26 : decode cX9_pair 26 = .ok (.aload_n 0, 1) := by decide +kernel
theorem dX9_pair_27 : decode cX9_pair 27 = .ok (.getfield 20, 3) := by decide +kernel
theorem dX9_pair_30 : decode cX9_pair 30 = .ok (.iload_n 1, 1) := by decide +kernel
theorem dX9_pair_31 : decode cX9_pair 31 = .ok (.laload, 1) := by decide +kernel
theorem dX9_pair_32 : decode cX9_pair 32 = .ok (.ldc2_w 86, 3) := by decide +kernel
theorem dX9_pair_35 : decode cX9_pair 35 = .ok (.land, 1) := by decide +kernel
theorem dX9_pair_36 : decode cX9_pair 36 = .ok (.aload_n 0, 1) := by decide +kernel
theorem dX9_pair_37 : decode cX9_pair 37 = .ok (.getfield 20, 3) := by decide +kernel
theorem dX9_pair_40 : decode cX9_pair 40 = .ok (.iload_n 2, 1) := by decide +kernel
theorem dX9_pair_41 : decode cX9_pair 41 = .ok (.laload, 1) := by decide +kernel
theorem dX9_pair_42 : decode cX9_pair 42 = .ok (.ldc2_w 130, 3) := by decide +kernel
theorem dX9_pair_45 : decode cX9_pair 45 = .ok (.land, 1) := by decide +kernel
theorem dX9_pair_46 : decode cX9_pair 46 = .ok (.lor, 1) := by decide +kernel
theorem dX9_pair_47 : decode cX9_pair 47 = .ok (.lstore 4, 2) := by decide +kernel
theorem dX9_pair_49 : decode cX9_pair 49 = .ok (.sipush 255, 3) := by decide +kernel
theorem dX9_pair_52 : decode cX9_pair 52 = .ok (.aload_n 0, 1) := by decide +kernel
theorem dX9_pair_53 : decode cX9_pair 53 = .ok (.iload_n 1, 1) := by decide +kernel
theorem dX9_pair_54 : decode cX9_pair 54 = .ok (.invokevirtual 125, 3) := by decide +kernel
theorem dX9_pair_57 : decode cX9_pair 57 = .ok (.aload_n 0, 1) := by decide +kernel
theorem dX9_pair_58 : decode cX9_pair 58 = .ok (.iload_n 2, 1) := by decide +kernel
theorem dX9_pair_59 : decode cX9_pair 59 = .ok (.invokevirtual 125, 3) := by decide +kernel
theorem dX9_pair_62 : decode cX9_pair 62 = .ok (.iadd, 1) := by decide +kernel
theorem dX9_pair_63 : decode cX9_pair 63 = .ok (.invokestatic 132, 3) := by decide +kernel
theorem dX9_pair_66 : decode cX9_pair 66 = .ok (.i2l, 1) := by decide +kernel
theorem dX9_pair_67 : decode cX9_pair 67 = .ok (.lstore 6, 2) := by decide +kernel
theorem dX9_pair_69 : decode cX9_pair 69 = .ok (.lload 4, 2) := by decide +kernel
theorem dX9_pair_71 : decode cX9_pair 71 = .ok (.aload_n 0, 1) := by decide +kernel
theorem dX9_pair_72 : decode cX9_pair 72 = .ok (.getfield 20, 3) := by decide +kernel
theorem dX9_pair_75 : decode cX9_pair 75 = .ok (.iload_n 1, 1) := by decide +kernel
theorem dX9_pair_76 : decode cX9_pair 76 = .ok (.laload, 1) := by decide +kernel
theorem dX9_pair_77 : decode cX9_pair 77 = .ok (.aload_n 0, 1) := by decide +kernel
theorem dX9_pair_78 : decode cX9_pair 78 = .ok (.getfield 20, 3) := by decide +kernel
theorem dX9_pair_81 : decode cX9_pair 81 = .ok (.iload_n 2, 1) := by decide +kernel
theorem dX9_pair_82 : decode cX9_pair 82 = .ok (.laload, 1) := by decide +kernel
theorem dX9_pair_83 : decode cX9_pair 83 = .ok (.lor, 1) := by decide +kernel
theorem dX9_pair_84 : decode cX9_pair 84 = .ok (.ldc2_w 92, 3) := by decide +kernel
theorem dX9_pair_87 : decode cX9_pair 87 = .ok (.land, 1) := by decide +kernel
theorem dX9_pair_88 : decode cX9_pair 88 = .ok (.lor, 1) := by decide +kernel
theorem dX9_pair_89 : decode cX9_pair 89 = .ok (.lstore 4, 2) := by decide +kernel
theorem dX9_pair_91 : decode cX9_pair 91 = .ok (.lload 4, 2) := by decide +kernel
theorem dX9_pair_93 : decode cX9_pair 93 = .ok (.iload_n 3, 1) := by decide +kernel
theorem dX9_pair_94 : decode cX9_pair 94 = .ok (.i2l, 1) := by decide +kernel
theorem dX9_pair_95 : decode cX9_pair 95 = .ok (.bipush 42, 2) := by decide +kernel
theorem dX9_pair_97 : decode cX9_pair 97 = .ok (.lshl, 1) := by decide +kernel
theorem dX9_pair_98 : decode cX9_pair 98 = .ok (.lor, 1) := by decide +kernel
theorem dX9_pair_99 : decode cX9_pair 99 = .ok (.lload 6, 2) := by decide +kernel
theorem dX9_pair_101 : decode cX9_pair 101 = .ok (.bipush 56, 2) := by decide +kernel
theorem dX9_pair_103 : decode cX9_pair 103 = .ok (.lshl, 1) := by decide +kernel
theorem dX9_pair_104 : decode cX9_pair 104 = .ok (.lor, 1) := by decide +kernel
theorem dX9_pair_105 : decode cX9_pair 105 = .ok (.lstore 8, 2) := by decide +kernel
theorem dX9_pair_107 : decode cX9_pair 107 = .ok (.aload_n 0, 1) := by decide +kernel
theorem dX9_pair_108 : decode cX9_pair 108 = .ok (.lload 8, 2) := by decide +kernel
theorem dX9_pair_110 : decode cX9_pair 110 = .ok (.iload_n 1, 1) := by decide +kernel
theorem dX9_pair_111 : decode cX9_pair 111 = .ok (.i2l, 1) := by decide +kernel
theorem dX9_pair_112 : decode cX9_pair 112 = .ok (.bipush 21, 2) := by decide +kernel
theorem dX9_pair_114 : decode cX9_pair 114 = .ok (.lshl, 1) := by decide +kernel
theorem dX9_pair_115 : decode cX9_pair 115 = .ok (.lor, 1) := by decide +kernel
theorem dX9_pair_116 : decode cX9_pair 116 = .ok (.iload_n 2, 1) := by decide +kernel
theorem dX9_pair_117 : decode cX9_pair 117 = .ok (.i2l, 1) := by decide +kernel
theorem dX9_pair_118 : decode cX9_pair 118 = .ok (.lor, 1) := by decide +kernel
theorem dX9_pair_119 : decode cX9_pair 119 = .ok (.aload_n 0, 1) := by decide +kernel
theorem dX9_pair_120 : decode cX9_pair 120 = .ok (.iload_n 1, 1) := by decide +kernel
theorem dX9_pair_121 : decode cX9_pair 121 = .ok (.invokevirtual 73, 3) := by decide +kernel
theorem dX9_pair_124 : decode cX9_pair 124 = .ok (.aload_n 0, 1) := by decide +kernel
theorem dX9_pair_125 : decode cX9_pair 125 = .ok (.iload_n 2, 1) := by decide +kernel
theorem dX9_pair_126 : decode cX9_pair 126 = .ok (.invokevirtual 73, 3) := by decide +kernel
theorem dX9_pair_129 : decode cX9_pair 129 = .ok (.ladd, 1) := by decide +kernel
theorem dX9_pair_130 : decode cX9_pair 130 = .ok (.aload_n 0, 1) := by decide +kernel
theorem dX9_pair_131 : decode cX9_pair 131 = .ok (.iload_n 1, 1) := by decide +kernel
theorem dX9_pair_132 : decode cX9_pair 132 = .ok (.invokevirtual 77, 3) := by decide +kernel
theorem dX9_pair_135 : decode cX9_pair 135 = .ok (.aload_n 0, 1) := by decide +kernel
theorem dX9_pair_136 : decode cX9_pair 136 = .ok (.iload_n 2, 1) := by decide +kernel
theorem dX9_pair_137 : decode cX9_pair 137 = .ok (.invokevirtual 77, 3) := by decide +kernel
theorem dX9_pair_140 : decode cX9_pair 140 = .ok (.ladd, 1) := by decide +kernel
theorem dX9_pair_141 : decode cX9_pair 141 = .ok (.invokevirtual 119, 3) := by decide +kernel
theorem dX9_pair_144 : decode cX9_pair 144 = .ok (.ireturn, 1) := by decide +kernel
theorem dX12_count_0 : decode cX12_count 0 = .ok (.iconst 0, 1) := by decide +kernel
theorem dX12_count_1 : decode cX12_count 1 = .ok (.istore_n 3, 1) := by decide +kernel
theorem dX12_count_2 : decode cX12_count 2 = .ok (.iconst 0, 1) := by decide +kernel
theorem dX12_count_3 : decode cX12_count 3 = .ok (.istore 4, 2) := by decide +kernel
theorem dX12_count_5 : decode cX12_count 5 = .ok (.iload 4, 2) := by decide +kernel
theorem dX12_count_7 : decode cX12_count 7 = .ok (.iload_n 1, 1) := by decide +kernel
theorem dX12_count_8 : decode cX12_count 8 = .ok (.if_icmp .ge 28, 3) := by decide +kernel
theorem dX12_count_11 : decode cX12_count 11 = .ok (.iload_n 3, 1) := by decide +kernel
theorem dX12_count_12 : decode cX12_count 12 = .ok (.aload_n 0, 1) := by decide +kernel
theorem dX12_count_13 : decode cX12_count 13 = .ok (.iload 4, 2) := by decide +kernel
theorem dX12_count_15 : decode cX12_count 15 = .ok (.iaload, 1) := by decide +kernel
theorem dX12_count_16 : decode cX12_count 16 = .ok (.invokestatic 104, 3) := by decide +kernel
theorem dX12_count_19 : decode cX12_count 19 = .ok (.iload_n 2, 1) := by decide +kernel
theorem dX12_count_20 : decode cX12_count 20 = .ok (.if_icmp .ne 7, 3) := by decide +kernel
theorem dX12_count_23 : decode cX12_count 23 = .ok (.iconst 1, 1) := by decide +kernel
theorem dX12_count_24 : decode cX12_count 24 = .ok (.goto 4, 3) := by decide +kernel
theorem dX12_count_27 : decode cX12_count 27 = .ok (.iconst 0, 1) := by decide +kernel
theorem dX12_count_28 : decode cX12_count 28 = .ok (.iadd, 1) := by decide +kernel
theorem dX12_count_29 : decode cX12_count 29 = .ok (.istore_n 3, 1) := by decide +kernel
theorem dX12_count_30 : decode cX12_count 30 = .ok (.iinc 4 1, 3) := by decide +kernel
theorem dX12_count_33 : decode cX12_count 33 = .ok (.goto (-28), 3) := by decide +kernel
theorem dX12_count_36 : decode cX12_count 36 = .ok (.iload_n 3, 1) := by decide +kernel
theorem dX12_count_37 : decode cX12_count 37 = .ok (.ireturn, 1) := by decide +kernel
theorem dX10_mayDelete_0 : decode cX10_mayDelete 0 = .ok (.iload_n 1, 1) := by decide +kernel
theorem dX10_mayDelete_1 : decode cX10_mayDelete 1 = .ok (.ifCond .le 24, 3) := by decide +kernel
theorem dX10_mayDelete_4 : decode cX10_mayDelete 4 = .ok (.iload_n 1, 1) := by decide +kernel
theorem dX10_mayDelete_5 : decode cX10_mayDelete 5 = .ok (.ldc 15, 2) := by decide +kernel
theorem dX10_mayDelete_7 : decode cX10_mayDelete 7 = .ok (.if_icmp .ge 18, 3) := by decide +kernel
theorem dX10_mayDelete_10 : decode cX10_mayDelete 10 = .ok (.aload_n 0, 1) := by decide +kernel
theorem dX10_mayDelete_11 : decode cX10_mayDelete 11 = .ok (.getfield 29, 3) := by decide +kernel
theorem dX10_mayDelete_14 : decode cX10_mayDelete 14 = .ok (.iload_n 1, 1) := by decide +kernel
theorem dX10_mayDelete_15 : decode cX10_mayDelete 15 = .ok (.iaload, 1) := by decide +kernel
theorem dX10_mayDelete_16 : decode cX10_mayDelete 16 = .ok (.iconst 4, 1) := by decide +kernel
theorem dX10_mayDelete_17 : decode cX10_mayDelete 17 = .ok (.iand, 1) := by decide +kernel
theorem dX10_mayDelete_18 : decode cX10_mayDelete 18 = .ok (.ifCond .eq 7, 3) := by decide +kernel
theorem dX10_mayDelete_21 : decode cX10_mayDelete 21 = .ok (.iconst 1, 1) := by decide +kernel
theorem dX10_mayDelete_22 : decode cX10_mayDelete 22 = .ok (.goto 4, 3) := by decide +kernel
theorem dX10_mayDelete_25 : decode cX10_mayDelete 25 = .ok (.iconst 0, 1) := by decide +kernel
theorem dX10_mayDelete_26 : decode cX10_mayDelete 26 = .ok (.ireturn, 1) := by decide +kernel
theorem dX10_from_0 : decode cX10_from 0 = .ok (.iload_n 1, 1) := by decide +kernel
theorem dX10_from_1 : decode cX10_from 1 = .ok (.invokestatic 64, 3) := by decide +kernel
theorem dX10_from_4 : decode cX10_from 4 = .ok (.ifCond .eq 12, 3) := by decide +kernel
theorem dX10_from_7 : decode cX10_from 7 = .ok (.aload_n 0, 1) := by decide +kernel
theorem dX10_from_8 : decode cX10_from 8 = .ok (.getfield 23, 3) := by decide +kernel
theorem dX10_from_11 : decode cX10_from 11 = .ok (.iload_n 1, 1) := by decide +kernel
theorem dX10_from_12 : decode cX10_from 12 = .ok (.laload, 1) := by decide +kernel
theorem dX10_from_13 : decode cX10_from 13 = .ok (.goto 4, 3) := by decide +kernel
theorem dX10_from_16 : decode cX10_from 16 = .ok (.lconst 0, 1) := by decide +kernel
theorem dX10_from_17 : decode cX10_from 17 = .ok (.lreturn, 1) := by decide +kernel
theorem dX9_base_0 : decode cX9_base 0 = .ok (.iload_n 1, 1) := by decide +kernel
theorem dX9_base_1 : decode cX9_base 1 = .ok (.ifCond .le 9, 3) := by decide +kernel
theorem dX9_base_4 : decode cX9_base 4 = .ok (.iload_n 1, 1) := by decide +kernel
theorem dX9_base_5 : decode cX9_base 5 = .ok (.ldc 19, 2) := by decide +kernel
theorem dX9_base_7 : decode cX9_base 7 = .ok (.if_icmp .lt 5, 3) := by decide +kernel
theorem dX9_base_12 : decode cX9_base 12 = .ok (.aload_n 0, 1) := by decide +kernel
theorem dX9_base_13 : decode cX9_base 13 = .ok (.getfield 20, 3) := by decide +kernel
theorem dX9_base_16 : decode cX9_base 16 = .ok (.iload_n 1, 1) := by decide +kernel
theorem dX9_base_17 : decode cX9_base 17 = .ok (.laload, 1) := by decide +kernel
theorem dX9_base_18 : decode cX9_base 18 = .ok (.bipush 21, 2) := by decide +kernel
theorem dX9_base_20 : decode cX9_base 20 = .ok (.lshr, 1) := by decide +kernel
theorem dX9_base_21 : decode cX9_base 21 = .ok (.l2i, 1) := by decide +kernel
theorem dX9_base_22 : decode cX9_base 22 = .ok (.ldc 63, 2) := by decide +kernel
theorem dX9_base_24 : decode cX9_base 24 = .ok (.iand, 1) := by decide +kernel
theorem dX9_base_25 : decode cX9_base 25 = .ok (.istore_n 2, 1) := by decide +kernel
theorem dX9_base_26 : decode cX9_base 26 = .ok (.iload_n 2, 1) := by decide +kernel
theorem dX9_base_27 : decode cX9_base 27 = .ok (.ifCond .eq 16, 3) := by decide +kernel
theorem dX9_base_30 : decode cX9_base 30 = .ok (.aload_n 0, 1) := by decide +kernel
theorem dX9_base_31 : decode cX9_base 31 = .ok (.getfield 20, 3) := by decide +kernel
theorem dX9_base_34 : decode cX9_base 34 = .ok (.iload_n 1, 1) := by decide +kernel
theorem dX9_base_35 : decode cX9_base 35 = .ok (.laload, 1) := by decide +kernel
theorem dX9_base_36 : decode cX9_base 36 = .ok (.l2i, 1) := by decide +kernel
theorem dX9_base_37 : decode cX9_base 37 = .ok (.ldc 63, 2) := by decide +kernel
theorem dX9_base_39 : decode cX9_base 39 = .ok (.iand, 1) := by decide +kernel
theorem dX9_base_40 : decode cX9_base 40 = .ok (.ifCond .eq 7, 3) := by decide +kernel
theorem dX9_base_43 : decode cX9_base 43 = .ok (.iload_n 1, 1) := by decide +kernel
theorem dX9_base_44 : decode cX9_base 44 = .ok (.goto 4, 3) := by decide +kernel
theorem dX9_base_47 : decode cX9_base 47 = .ok (.iload_n 2, 1) := by decide +kernel
theorem dX9_base_48 : decode cX9_base 48 = .ok (.ireturn, 1) := by decide +kernel
theorem dX1_push_0 : decode cX1_push 0 = .ok (.aload_n 0, 1) := by decide +kernel
theorem dX1_push_1 : decode cX1_push 1 = .ok (.aload_n 0, 1) := by decide +kernel
theorem dX1_push_2 : decode cX1_push 2 = .ok (.getfield 25, 3) := by decide +kernel
theorem dX1_push_5 : decode cX1_push 5 = .ok (.iload_n 1, 1) := by decide +kernel
theorem dX1_push_6 : decode cX1_push 6 = .ok (.invokevirtual 44, 3) := by decide +kernel
theorem dX1_push_9 : decode cX1_push 9 = .ok (.aload_n 0, 1) := by decide +kernel
theorem dX1_push_10 : decode cX1_push 10 = .ok (.getfield 25, 3) := by decide +kernel
theorem dX1_push_13 : decode cX1_push 13 = .ok (.iload_n 1, 1) := by decide +kernel
theorem dX1_push_14 : decode cX1_push 14 = .ok (.invokevirtual 48, 3) := by decide +kernel
theorem dX1_push_17 : decode cX1_push 17 = .ok (.iload_n 2, 1) := by decide +kernel
theorem dX1_push_18 : decode cX1_push 18 = .ok (.invokevirtual 52, 3) := by decide +kernel
theorem dX1_push_21 : decode cX1_push 21 = .ok (.return_, 1) := by decide +kernel
theorem dX9_level_0 : decode cX9_level 0 = .ok (.iload_n 1, 1) := by decide +kernel
theorem dX9_level_1 : decode cX9_level 1 = .ok (.ifCond .le 26, 3) := by decide +kernel
theorem dX9_level_4 : decode cX9_level 4 = .ok (.iload_n 1, 1) := by decide +kernel
theorem dX9_level_5 : decode cX9_level 5 = .ok (.ldc 19, 2) := by decide +kernel
theorem dX9_level_7 : decode cX9_level 7 = .ok (.if_icmp .ge 20, 3) := by decide +kernel
theorem dX9_level_10 : decode cX9_level 10 = .ok (.aload_n 0, 1) := by decide +kernel
theorem dX9_level_11 : decode cX9_level 11 = .ok (.getfield 20, 3) := by decide +kernel
theorem dX9_level_14 : decode cX9_level 14 = .ok (.iload_n 1, 1) := by decide +kernel
theorem dX9_level_15 : decode cX9_level 15 = .ok (.laload, 1) := by decide +kernel
theorem dX9_level_16 : decode cX9_level 16 = .ok (.bipush 42, 2) := by decide +kernel
theorem dX9_level_18 : decode cX9_level 18 = .ok (.lshr, 1) := by decide +kernel
theorem dX9_level_19 : decode cX9_level 19 = .ok (.l2i, 1) := by decide +kernel
theorem dX9_level_20 : decode cX9_level 20 = .ok (.sipush 511, 3) := by decide +kernel
theorem dX9_level_23 : decode cX9_level 23 = .ok (.iand, 1) := by decide +kernel
theorem dX9_level_24 : decode cX9_level 24 = .ok (.goto 4, 3) := by decide +kernel
theorem dX9_level_28 : decode cX9_level 28 = .ok (.ireturn, 1) := by decide +kernel
theorem dX1_sink_0 : decode cX1_sink 0 = .ok (.iconst 0, 1) := by decide +kernel
theorem dX1_sink_1 : decode cX1_sink 1 = .ok (.istore_n 2, 1) := by decide +kernel
theorem dX1_sink_2 : decode cX1_sink 2 = .ok (.iload_n 2, 1) := by decide +kernel
theorem dX1_sink_3 : decode cX1_sink 3 = .ok (.sipush 511, 3) := by decide +kernel
theorem dX1_sink_6 : decode cX1_sink 6 = .ok (.if_icmp .ge 220, 3) := by decide +kernel
theorem dX1_sink_9 : decode cX1_sink 9 = .ok (.aload_n 0, 1) := by decide +kernel
theorem dX1_sink_10 : decode cX1_sink 10 = .ok (.getfield 33, 3) := by decide +kernel
theorem dX1_sink_13 : decode cX1_sink 13 = .ok (.ifCond .le 213, 3) := by decide +kernel
theorem dX1_sink_16 : decode cX1_sink 16 = .ok (.aload_n 0, 1) := by decide +kernel
theorem dX1_sink_17 : decode cX1_sink 17 = .ok (.getfield 33, 3) := by decide +kernel
theorem dX1_sink_20 : decode cX1_sink 20 = .ok (.sipush 2048, 3) := by decide +kernel
theorem dX1_sink_23 : decode cX1_sink 23 = .ok (.if_icmp .gt 203, 3) := by decide +kernel
theorem dX1_sink_26 : decode cX1_sink 26 = .ok (.aload_n 0, 1) := by decide +kernel
theorem dX1_sink_27 : decode cX1_sink 27 = .ok (.getfield 11, 3) := by decide +kernel
theorem dX1_sink_30 : decode cX1_sink 30 = .ok (.aload_n 0, 1) := by decide +kernel
theorem dX1_sink_31 : decode cX1_sink 31 = .ok (.getfield 33, 3) := by decide +kernel
theorem dX1_sink_34 : decode cX1_sink 34 = .ok (.iconst 1, 1) := by decide +kernel
theorem dX1_sink_35 : decode cX1_sink 35 = .ok (.isub, 1) := by decide +kernel
theorem dX1_sink_36 : decode cX1_sink 36 = .ok (.iaload, 1) := by decide +kernel
theorem dX1_sink_37 : decode cX1_sink 37 = .ok (.istore_n 3, 1) := by decide +kernel
theorem dX1_sink_38 : decode cX1_sink 38 = .ok (.aload_n 0, 1) := by decide +kernel
theorem dX1_sink_39 : decode cX1_sink 39 = .ok (.getfield 25, 3) := by decide +kernel
theorem dX1_sink_42 : decode cX1_sink 42 = .ok (.iload_n 3, 1) := by decide +kernel
theorem dX1_sink_43 : decode cX1_sink 43 = .ok (.invokevirtual 59, 3) := by decide +kernel
theorem dX1_sink_46 : decode cX1_sink 46 = .ok (.istore 4, 2) := by decide +kernel
theorem dX1_sink_48 : decode cX1_sink 48 = .ok (.iload 4, 2) := by decide +kernel
theorem dX1_sink_50 : decode cX1_sink 50 = .ok (.iload_n 1, 1) := by decide +kernel
theorem dX1_sink_51 : decode cX1_sink 51 = .ok (.if_icmp .gt 4, 3) := by decide +kernel
theorem dX1_sink_54 : decode cX1_sink 54 = .ok (.return_, 1) := by decide +kernel
theorem dX1_sink_55 : decode cX1_sink 55 = .ok (.aload_n 0, 1) := by decide +kernel
theorem dX1_sink_56 : decode cX1_sink 56 = .ok (.getfield 15, 3) := by decide +kernel
theorem dX1_sink_59 : decode cX1_sink 59 = .ok (.aload_n 0, 1) := by decide +kernel
theorem dX1_sink_60 : decode cX1_sink 60 = .ok (.getfield 33, 3) := by decide +kernel
theorem dX1_sink_63 : decode cX1_sink 63 = .ok (.iconst 1, 1) := by decide +kernel
theorem dX1_sink_64 : decode cX1_sink 64 = .ok (.isub, 1) := by decide +kernel
theorem dX1_sink_65 : decode cX1_sink 65 = .ok (.laload, 1) := by decide +kernel
theorem dX1_sink_66 : decode cX1_sink 66 = .ok (.lconst 1, 1) := by decide +kernel
theorem dX1_sink_67 : decode cX1_sink 67 = .ok (.lcmp, 1) := by decide +kernel
theorem dX1_sink_68 : decode cX1_sink 68 = .ok (.ifCond .le 34, 3) := by decide +kernel
theorem dX1_sink_102 : decode cX1_sink 102 = .ok (.aload_n 0, 1) := by decide +kernel
theorem dX1_sink_103 : decode cX1_sink 103 = .ok (.dup, 1) := by decide +kernel
theorem dX1_sink_104 : decode cX1_sink 104 = .ok (.getfield 33, 3) := by decide +kernel
theorem dX1_sink_107 : decode cX1_sink 107 = .ok (.iconst 1, 1) := by decide +kernel
theorem dX1_sink_108 : decode cX1_sink 108 = .ok (.isub, 1) := by decide +kernel
theorem dX1_sink_109 : decode cX1_sink 109 = .ok (.putfield 33, 3) := by decide +kernel
theorem dX1_sink_112 : decode cX1_sink 112 = .ok (.aload_n 0, 1) := by decide +kernel
theorem dX1_sink_113 : decode cX1_sink 113 = .ok (.getfield 29, 3) := by decide +kernel
theorem dX1_sink_116 : decode cX1_sink 116 = .ok (.ifCond .eq 14, 3) := by decide +kernel
theorem dX1_sink_119 : decode cX1_sink 119 = .ok (.aload_n 0, 1) := by decide +kernel
theorem dX1_sink_120 : decode cX1_sink 120 = .ok (.getfield 25, 3) := by decide +kernel
theorem dX1_sink_123 : decode cX1_sink 123 = .ok (.iload_n 3, 1) := by decide +kernel
theorem dX1_sink_124 : decode cX1_sink 124 = .ok (.invokevirtual 65, 3) := by decide +kernel
theorem dX1_sink_127 : decode cX1_sink 127 = .ok (.goto 11, 3) := by decide +kernel
theorem dX1_sink_138 : decode cX1_sink 138 = .ok (.istore 5, 2) := by decide +kernel
theorem dX1_sink_140 : decode cX1_sink 140 = .ok (.aload_n 0, 1) := by decide +kernel
theorem dX1_sink_141 : decode cX1_sink 141 = .ok (.getfield 29, 3) := by decide +kernel
theorem dX1_sink_144 : decode cX1_sink 144 = .ok (.ifCond .eq 14, 3) := by decide +kernel
theorem dX1_sink_147 : decode cX1_sink 147 = .ok (.aload_n 0, 1) := by decide +kernel
theorem dX1_sink_148 : decode cX1_sink 148 = .ok (.getfield 25, 3) := by decide +kernel
theorem dX1_sink_151 : decode cX1_sink 151 = .ok (.iload_n 3, 1) := by decide +kernel
theorem dX1_sink_152 : decode cX1_sink 152 = .ok (.invokevirtual 62, 3) := by decide +kernel
theorem dX1_sink_155 : decode cX1_sink 155 = .ok (.goto 11, 3) := by decide +kernel
theorem dX1_sink_166 : decode cX1_sink 166 = .ok (.istore 6, 2) := by decide +kernel
theorem dX1_sink_168 : decode cX1_sink 168 = .ok (.aload_n 0, 1) := by decide +kernel
theorem dX1_sink_169 : decode cX1_sink 169 = .ok (.aload_n 0, 1) := by decide +kernel
theorem dX1_sink_170 : decode cX1_sink 170 = .ok (.getfield 25, 3) := by decide +kernel
theorem dX1_sink_173 : decode cX1_sink 173 = .ok (.iload 5, 2) := by decide +kernel
theorem dX1_sink_175 : decode cX1_sink 175 = .ok (.invokevirtual 44, 3) := by decide +kernel
theorem dX1_sink_178 : decode cX1_sink 178 = .ok (.aload_n 0, 1) := by decide +kernel
theorem dX1_sink_179 : decode cX1_sink 179 = .ok (.getfield 25, 3) := by decide +kernel
theorem dX1_sink_182 : decode cX1_sink 182 = .ok (.iload 5, 2) := by decide +kernel
theorem dX1_sink_184 : decode cX1_sink 184 = .ok (.invokevirtual 48, 3) := by decide +kernel
theorem dX1_sink_187 : decode cX1_sink 187 = .ok (.iload 4, 2) := by decide +kernel
theorem dX1_sink_189 : decode cX1_sink 189 = .ok (.iconst 1, 1) := by decide +kernel
theorem dX1_sink_190 : decode cX1_sink 190 = .ok (.isub, 1) := by decide +kernel
theorem dX1_sink_191 : decode cX1_sink 191 = .ok (.invokevirtual 52, 3) := by decide +kernel
theorem dX1_sink_194 : decode cX1_sink 194 = .ok (.aload_n 0, 1) := by decide +kernel
theorem dX1_sink_195 : decode cX1_sink 195 = .ok (.aload_n 0, 1) := by decide +kernel
theorem dX1_sink_196 : decode cX1_sink 196 = .ok (.getfield 25, 3) := by decide +kernel
theorem dX1_sink_199 : decode cX1_sink 199 = .ok (.iload 6, 2) := by decide +kernel
theorem dX1_sink_201 : decode cX1_sink 201 = .ok (.invokevirtual 44, 3) := by decide +kernel
theorem dX1_sink_204 : decode cX1_sink 204 = .ok (.aload_n 0, 1) := by decide +kernel
theorem dX1_sink_205 : decode cX1_sink 205 = .ok (.getfield 25, 3) := by decide +kernel
theorem dX1_sink_208 : decode cX1_sink 208 = .ok (.iload 6, 2) := by decide +kernel
theorem dX1_sink_210 : decode cX1_sink 210 = .ok (.invokevirtual 48, 3) := by decide +kernel
theorem dX1_sink_213 : decode cX1_sink 213 = .ok (.iload 4, 2) := by decide +kernel
theorem dX1_sink_215 : decode cX1_sink 215 = .ok (.iconst 1, 1) := by decide +kernel
theorem dX1_sink_216 : decode cX1_sink 216 = .ok (.isub, 1) := by decide +kernel
theorem dX1_sink_217 : decode cX1_sink 217 = .ok (.invokevirtual 52, 3) := by decide +kernel
theorem dX1_sink_220 : decode cX1_sink 220 = .ok (.iinc 2 1, 3) := by decide +kernel
theorem dX1_sink_223 : decode cX1_sink 223 = .ok (.goto (-221), 3) := by decide +kernel
theorem dX9_times_0 : decode cX9_times 0 = .ok (.iload_n 1, 1) := by decide +kernel
theorem dX9_times_1 : decode cX9_times 1 = .ok (.ifCond .le 9, 3) := by decide +kernel
theorem dX9_times_4 : decode cX9_times 4 = .ok (.iload_n 1, 1) := by decide +kernel
theorem dX9_times_5 : decode cX9_times 5 = .ok (.ldc 19, 2) := by decide +kernel
theorem dX9_times_7 : decode cX9_times 7 = .ok (.if_icmp .lt 5, 3) := by decide +kernel
theorem dX9_times_12 : decode cX9_times 12 = .ok (.aload_n 0, 1) := by decide +kernel
theorem dX9_times_13 : decode cX9_times 13 = .ok (.getfield 20, 3) := by decide +kernel
theorem dX9_times_16 : decode cX9_times 16 = .ok (.iload_n 1, 1) := by decide +kernel
theorem dX9_times_17 : decode cX9_times 17 = .ok (.laload, 1) := by decide +kernel
theorem dX9_times_18 : decode cX9_times 18 = .ok (.bipush 21, 2) := by decide +kernel
theorem dX9_times_20 : decode cX9_times 20 = .ok (.lshr, 1) := by decide +kernel
theorem dX9_times_21 : decode cX9_times 21 = .ok (.l2i, 1) := by decide +kernel
theorem dX9_times_22 : decode cX9_times 22 = .ok (.ldc 63, 2) := by decide +kernel
theorem dX9_times_24 : decode cX9_times 24 = .ok (.iand, 1) := by decide +kernel
theorem dX9_times_25 : decode cX9_times 25 = .ok (.istore_n 2, 1) := by decide +kernel
theorem dX9_times_26 : decode cX9_times 26 = .ok (.iload_n 2, 1) := by decide +kernel
theorem dX9_times_27 : decode cX9_times 27 = .ok (.ifCond .eq 22, 3) := by decide +kernel
theorem dX9_times_30 : decode cX9_times 30 = .ok (.iload_n 2, 1) := by decide +kernel
theorem dX9_times_31 : decode cX9_times 31 = .ok (.ldc 19, 2) := by decide +kernel
theorem dX9_times_33 : decode cX9_times 33 = .ok (.if_icmp .ge 16, 3) := by decide +kernel
theorem dX9_times_36 : decode cX9_times 36 = .ok (.aload_n 0, 1) := by decide +kernel
theorem dX9_times_37 : decode cX9_times 37 = .ok (.getfield 20, 3) := by decide +kernel
theorem dX9_times_40 : decode cX9_times 40 = .ok (.iload_n 1, 1) := by decide +kernel
theorem dX9_times_41 : decode cX9_times 41 = .ok (.laload, 1) := by decide +kernel
theorem dX9_times_42 : decode cX9_times 42 = .ok (.l2i, 1) := by decide +kernel
theorem dX9_times_43 : decode cX9_times 43 = .ok (.ldc 63, 2) := by decide +kernel
theorem dX9_times_45 : decode cX9_times 45 = .ok (.iand, 1) := by decide +kernel
theorem dX9_times_46 : decode cX9_times 46 = .ok (.ifCond .eq 5, 3) := by decide +kernel
theorem dX9_times_49 : decode cX9_times 49 = .ok (.lconst 1, 1) := by decide +kernel
theorem dX9_times_50 : decode cX9_times 50 = .ok (.lreturn, 1) := by decide +kernel
theorem dX9_times_51 : decode cX9_times 51 = .ok (.aload_n 0, 1) := by decide +kernel
theorem dX9_times_52 : decode cX9_times 52 = .ok (.getfield 24, 3) := by decide +kernel
theorem dX9_times_55 : decode cX9_times 55 = .ok (.iload_n 1, 1) := by decide +kernel
theorem dX9_times_56 : decode cX9_times 56 = .ok (.laload, 1) := by decide +kernel
theorem dX9_times_57 : decode cX9_times 57 = .ok (.bipush 32, 2) := by decide +kernel
theorem dX9_times_59 : decode cX9_times 59 = .ok (.lushr, 1) := by decide +kernel
theorem dX9_times_60 : decode cX9_times 60 = .ok (.aload_n 0, 1) := by decide +kernel
theorem dX9_times_61 : decode cX9_times 61 = .ok (.getfield 24, 3) := by decide +kernel
theorem dX9_times_64 : decode cX9_times 64 = .ok (.iload_n 1, 1) := by decide +kernel
theorem dX9_times_65 : decode cX9_times 65 = .ok (.laload, 1) := by decide +kernel
theorem dX9_times_66 : decode cX9_times 66 = .ok (.ldc2_w 64, 3) := by decide +kernel
theorem dX9_times_69 : decode cX9_times 69 = .ok (.land, 1) := by decide +kernel
theorem dX9_times_70 : decode cX9_times 70 = .ok (.ladd, 1) := by decide +kernel
theorem dX9_times_71 : decode cX9_times 71 = .ok (.lstore_n 3, 1) := by decide +kernel
theorem dX9_times_72 : decode cX9_times 72 = .ok (.aload_n 0, 1) := by decide +kernel
theorem dX9_times_73 : decode cX9_times 73 = .ok (.getfield 24, 3) := by decide +kernel
theorem dX9_times_76 : decode cX9_times 76 = .ok (.iload_n 2, 1) := by decide +kernel
theorem dX9_times_77 : decode cX9_times 77 = .ok (.laload, 1) := by decide +kernel
theorem dX9_times_78 : decode cX9_times 78 = .ok (.bipush 32, 2) := by decide +kernel
theorem dX9_times_80 : decode cX9_times 80 = .ok (.lushr, 1) := by decide +kernel
theorem dX9_times_81 : decode cX9_times 81 = .ok (.aload_n 0, 1) := by decide +kernel
theorem dX9_times_82 : decode cX9_times 82 = .ok (.getfield 24, 3) := by decide +kernel
theorem dX9_times_85 : decode cX9_times 85 = .ok (.iload_n 2, 1) := by decide +kernel
theorem dX9_times_86 : decode cX9_times 86 = .ok (.laload, 1) := by decide +kernel
theorem dX9_times_87 : decode cX9_times 87 = .ok (.ldc2_w 64, 3) := by decide +kernel
theorem dX9_times_90 : decode cX9_times 90 = .ok (.land, 1) := by decide +kernel
theorem dX9_times_91 : decode cX9_times 91 = .ok (.ladd, 1) := by decide +kernel
theorem dX9_times_92 : decode cX9_times 92 = .ok (.lstore 5, 2) := by decide +kernel
theorem dX9_times_94 : decode cX9_times 94 = .ok (.aload_n 0, 1) := by decide +kernel
theorem dX9_times_95 : decode cX9_times 95 = .ok (.getfield 24, 3) := by decide +kernel
theorem dX9_times_98 : decode cX9_times 98 = .ok (.iload_n 1, 1) := by decide +kernel
theorem dX9_times_99 : decode cX9_times 99 = .ok (.laload, 1) := by decide +kernel
theorem dX9_times_100 : decode cX9_times 100 = .ok (.bipush 32, 2) := by decide +kernel
theorem dX9_times_102 : decode cX9_times 102 = .ok (.lushr, 1) := by decide +kernel
theorem dX9_times_103 : decode cX9_times 103 = .ok (.l2i, 1) := by decide +kernel
theorem dX9_times_104 : decode cX9_times 104 = .ok (.istore 7, 2) := by decide +kernel
theorem dX9_times_106 : decode cX9_times 106 = .ok (.aload_n 0, 1) := by decide +kernel
theorem dX9_times_107 : decode cX9_times 107 = .ok (.getfield 24, 3) := by decide +kernel
theorem dX9_times_110 : decode cX9_times 110 = .ok (.iload_n 1, 1) := by decide +kernel
theorem dX9_times_111 : decode cX9_times 111 = .ok (.laload, 1) := by decide +kernel
theorem dX9_times_112 : decode cX9_times 112 = .ok (.ldc2_w 64, 3) := by decide +kernel
theorem dX9_times_115 : decode cX9_times 115 = .ok (.land, 1) := by decide +kernel
theorem dX9_times_116 : decode cX9_times 116 = .ok (.ldc2_w 64, 3) := by decide +kernel
theorem dX9_times_119 : decode cX9_times 119 = .ok (.lcmp, 1) := by decide +kernel
theorem dX9_times_120 : decode cX9_times 120 = .ok (.ifCond .ne 31, 3) := by decide +kernel
theorem dX9_times_151 : decode cX9_times 151 = .ok (.aload_n 0, 1) := by decide +kernel
theorem dX9_times_152 : decode cX9_times 152 = .ok (.getfield 24, 3) := by decide +kernel
theorem dX9_times_155 : decode cX9_times 155 = .ok (.iload_n 2, 1) := by decide +kernel
theorem dX9_times_156 : decode cX9_times 156 = .ok (.laload, 1) := by decide +kernel
theorem dX9_times_157 : decode cX9_times 157 = .ok (.bipush 32, 2) := by decide +kernel
theorem dX9_times_159 : decode cX9_times 159 = .ok (.lushr, 1) := by decide +kernel
theorem dX9_times_160 : decode cX9_times 160 = .ok (.l2i, 1) := by decide +kernel
theorem dX9_times_161 : decode cX9_times 161 = .ok (.istore 7, 2) := by decide +kernel
theorem dX9_times_163 : decode cX9_times 163 = .ok (.aload_n 0, 1) := by decide +kernel
theorem dX9_times_164 : decode cX9_times 164 = .ok (.getfield 24, 3) := by decide +kernel
theorem dX9_times_167 : decode cX9_times 167 = .ok (.iload_n 2, 1) := by decide +kernel
theorem dX9_times_168 : decode cX9_times 168 = .ok (.laload, 1) := by decide +kernel
theorem dX9_times_169 : decode cX9_times 169 = .ok (.ldc2_w 64, 3) := by decide +kernel
theorem dX9_times_172 : decode cX9_times 172 = .ok (.land, 1) := by decide +kernel
theorem dX9_times_173 : decode cX9_times 173 = .ok (.ldc2_w 64, 3) := by decide +kernel
theorem dX9_times_176 : decode cX9_times 176 = .ok (.lcmp, 1) := by decide +kernel
theorem dX9_times_177 : decode cX9_times 177 = .ok (.ifCond .ne 32, 3) := by decide +kernel
theorem dX9_times_209 : decode cX9_times 209 = .ok (.lload 5, 2) := by decide +kernel
theorem dX9_times_211 : decode cX9_times 211 = .ok (.lconst 0, 1) := by decide +kernel
theorem dX9_times_212 : decode cX9_times 212 = .ok (.lcmp, 1) := by decide +kernel
theorem dX9_times_213 : decode cX9_times 213 = .ok (.ifCond .le 10, 3) := by decide +kernel
theorem dX9_times_216 : decode cX9_times 216 = .ok (.lload_n 3, 1) := by decide +kernel
theorem dX9_times_217 : decode cX9_times 217 = .ok (.lload 5, 2) := by decide +kernel
theorem dX9_times_219 : decode cX9_times 219 = .ok (.ldiv, 1) := by decide +kernel
theorem dX9_times_220 : decode cX9_times 220 = .ok (.goto 4, 3) := by decide +kernel
theorem dX9_times_224 : decode cX9_times 224 = .ok (.lreturn, 1) := by decide +kernel
theorem dX1_put_0 : decode cX1_put 0 = .ok (.lload_n 2, 1) := by decide +kernel
theorem dX1_put_1 : decode cX1_put 1 = .ok (.lconst 1, 1) := by decide +kernel
theorem dX1_put_2 : decode cX1_put 2 = .ok (.lcmp, 1) := by decide +kernel
theorem dX1_put_3 : decode cX1_put 3 = .ok (.ifCond .ge 4, 3) := by decide +kernel
theorem dX1_put_7 : decode cX1_put 7 = .ok (.aload_n 0, 1) := by decide +kernel
theorem dX1_put_8 : decode cX1_put 8 = .ok (.getfield 33, 3) := by decide +kernel
theorem dX1_put_11 : decode cX1_put 11 = .ok (.ifCond .lt 13, 3) := by decide +kernel
theorem dX1_put_14 : decode cX1_put 14 = .ok (.aload_n 0, 1) := by decide +kernel
theorem dX1_put_15 : decode cX1_put 15 = .ok (.getfield 33, 3) := by decide +kernel
theorem dX1_put_18 : decode cX1_put 18 = .ok (.sipush 2048, 3) := by decide +kernel
theorem dX1_put_21 : decode cX1_put 21 = .ok (.if_icmp .lt 12, 3) := by decide +kernel
theorem dX1_put_33 : decode cX1_put 33 = .ok (.aload_n 0, 1) := by decide +kernel
theorem dX1_put_34 : decode cX1_put 34 = .ok (.getfield 11, 3) := by decide +kernel
theorem dX1_put_37 : decode cX1_put 37 = .ok (.aload_n 0, 1) := by decide +kernel
theorem dX1_put_38 : decode cX1_put 38 = .ok (.getfield 33, 3) := by decide +kernel
theorem dX1_put_41 : decode cX1_put 41 = .ok (.iload_n 1, 1) := by decide +kernel
theorem dX1_put_42 : decode cX1_put 42 = .ok (.iastore, 1) := by decide +kernel
theorem dX1_put_43 : decode cX1_put 43 = .ok (.aload_n 0, 1) := by decide +kernel
theorem dX1_put_44 : decode cX1_put 44 = .ok (.getfield 15, 3) := by decide +kernel
theorem dX1_put_47 : decode cX1_put 47 = .ok (.aload_n 0, 1) := by decide +kernel
theorem dX1_put_48 : decode cX1_put 48 = .ok (.getfield 33, 3) := by decide +kernel
theorem dX1_put_51 : decode cX1_put 51 = .ok (.lload_n 2, 1) := by decide +kernel
theorem dX1_put_52 : decode cX1_put 52 = .ok (.lastore, 1) := by decide +kernel
theorem dX1_put_53 : decode cX1_put 53 = .ok (.aload_n 0, 1) := by decide +kernel
theorem dX1_put_54 : decode cX1_put 54 = .ok (.getfield 19, 3) := by decide +kernel
theorem dX1_put_57 : decode cX1_put 57 = .ok (.aload_n 0, 1) := by decide +kernel
theorem dX1_put_58 : decode cX1_put 58 = .ok (.getfield 33, 3) := by decide +kernel
theorem dX1_put_61 : decode cX1_put 61 = .ok (.iload 4, 2) := by decide +kernel
theorem dX1_put_63 : decode cX1_put 63 = .ok (.iastore, 1) := by decide +kernel
theorem dX1_put_64 : decode cX1_put 64 = .ok (.aload_n 0, 1) := by decide +kernel
theorem dX1_put_65 : decode cX1_put 65 = .ok (.dup, 1) := by decide +kernel
theorem dX1_put_66 : decode cX1_put 66 = .ok (.getfield 33, 3) := by decide +kernel
theorem dX1_put_69 : decode cX1_put 69 = .ok (.iconst 1, 1) := by decide +kernel
theorem dX1_put_70 : decode cX1_put 70 = .ok (.iadd, 1) := by decide +kernel
theorem dX1_put_71 : decode cX1_put 71 = .ok (.putfield 33, 3) := by decide +kernel
theorem dX1_put_74 : decode cX1_put 74 = .ok (.aload_n 0, 1) := by decide +kernel
theorem dX1_put_75 : decode cX1_put 75 = .ok (.iconst 0, 1) := by decide +kernel
theorem dX1_put_76 : decode cX1_put 76 = .ok (.putfield 37, 3) := by decide +kernel
theorem dX1_put_79 : decode cX1_put 79 = .ok (.return_, 1) := by decide +kernel
theorem dL_law_0 : decode cL_law 0 = .ok (.new 7, 3) := by decide +kernel
theorem dL_law_3 : decode cL_law 3 = .ok (.dup, 1) := by decide +kernel
theorem dL_law_4 : decode cL_law 4 = .ok (.invokespecial 9, 3) := by decide +kernel
theorem dL_law_7 : decode cL_law 7 = .ok (.astore_n 1, 1) := by decide +kernel
theorem dL_law_8 : decode cL_law 8 = .ok (.new 10, 3) := by decide +kernel
theorem dL_law_11 : decode cL_law 11 = .ok (.dup, 1) := by decide +kernel
theorem dL_law_12 : decode cL_law 12 = .ok (.invokespecial 12, 3) := by decide +kernel
theorem dL_law_15 : decode cL_law 15 = .ok (.astore_n 2, 1) := by decide +kernel
theorem dL_law_16 : decode cL_law 16 = .ok (.iconst 0, 1) := by decide +kernel
theorem dL_law_17 : decode cL_law 17 = .ok (.istore_n 3, 1) := by decide +kernel
theorem dL_law_18 : decode cL_law 18 = .ok (.iload_n 3, 1) := by decide +kernel
theorem dL_law_19 : decode cL_law 19 = .ok (.aload_n 0, 1) := by decide +kernel
theorem dL_law_20 : decode cL_law 20 = .ok (.arraylength, 1) := by decide +kernel
theorem dL_law_21 : decode cL_law 21 = .ok (.bipush 6, 2) := by decide +kernel
theorem dL_law_23 : decode cL_law 23 = .ok (.isub, 1) := by decide +kernel
theorem dL_law_24 : decode cL_law 24 = .ok (.if_icmp .gt 1645, 3) := by decide +kernel
theorem dL_law_27 : decode cL_law 27 = .ok (.aload_n 0, 1) := by decide +kernel
theorem dL_law_28 : decode cL_law 28 = .ok (.iload_n 3, 1) := by decide +kernel
theorem dL_law_29 : decode cL_law 29 = .ok (.iaload, 1) := by decide +kernel
theorem dL_law_30 : decode cL_law 30 = .ok (.bipush 63, 2) := by decide +kernel
theorem dL_law_32 : decode cL_law 32 = .ok (.iand, 1) := by decide +kernel
theorem dL_law_33 : decode cL_law 33 = .ok (.tableswitch 1630 0 41 #[183, 226, 299, 362, 396, 419, 462, 495, 518, 531, 554, 587, 630, 673, 706, 749, 802, 845, 878, 911, 964, 1007, 1070, 1093, 1116, 1129, 1152, 1175, 1218, 1251, 1284, 1327, 1360, 1383, 1426, 1459, 1492, 1535, 1558, 1581, 1594, 1607], 183) := by decide +kernel
theorem dL_law_216 : decode cL_law 216 = .ok (.aload_n 1, 1) := by decide +kernel
theorem dL_law_217 : decode cL_law 217 = .ok (.aload_n 0, 1) := by decide +kernel
theorem dL_law_218 : decode cL_law 218 = .ok (.iload_n 3, 1) := by decide +kernel
theorem dL_law_219 : decode cL_law 219 = .ok (.iconst 1, 1) := by decide +kernel
theorem dL_law_220 : decode cL_law 220 = .ok (.iadd, 1) := by decide +kernel
theorem dL_law_221 : decode cL_law 221 = .ok (.iaload, 1) := by decide +kernel
theorem dL_law_222 : decode cL_law 222 = .ok (.aload_n 0, 1) := by decide +kernel
theorem dL_law_223 : decode cL_law 223 = .ok (.iload_n 3, 1) := by decide +kernel
theorem dL_law_224 : decode cL_law 224 = .ok (.iconst 2, 1) := by decide +kernel
theorem dL_law_225 : decode cL_law 225 = .ok (.iadd, 1) := by decide +kernel
theorem dL_law_226 : decode cL_law 226 = .ok (.iaload, 1) := by decide +kernel
theorem dL_law_227 : decode cL_law 227 = .ok (.aload_n 0, 1) := by decide +kernel
theorem dL_law_228 : decode cL_law 228 = .ok (.iload_n 3, 1) := by decide +kernel
theorem dL_law_229 : decode cL_law 229 = .ok (.iconst 3, 1) := by decide +kernel
theorem dL_law_230 : decode cL_law 230 = .ok (.iadd, 1) := by decide +kernel
theorem dL_law_231 : decode cL_law 231 = .ok (.iaload, 1) := by decide +kernel
theorem dL_law_232 : decode cL_law 232 = .ok (.invokevirtual 13, 3) := by decide +kernel
theorem dL_law_235 : decode cL_law 235 = .ok (.aload_n 2, 1) := by decide +kernel
theorem dL_law_236 : decode cL_law 236 = .ok (.aload_n 0, 1) := by decide +kernel
theorem dL_law_237 : decode cL_law 237 = .ok (.iload_n 3, 1) := by decide +kernel
theorem dL_law_238 : decode cL_law 238 = .ok (.iconst 1, 1) := by decide +kernel
theorem dL_law_239 : decode cL_law 239 = .ok (.iadd, 1) := by decide +kernel
theorem dL_law_240 : decode cL_law 240 = .ok (.iaload, 1) := by decide +kernel
theorem dL_law_241 : decode cL_law 241 = .ok (.aload_n 0, 1) := by decide +kernel
theorem dL_law_242 : decode cL_law 242 = .ok (.iload_n 3, 1) := by decide +kernel
theorem dL_law_243 : decode cL_law 243 = .ok (.iconst 2, 1) := by decide +kernel
theorem dL_law_244 : decode cL_law 244 = .ok (.iadd, 1) := by decide +kernel
theorem dL_law_245 : decode cL_law 245 = .ok (.iaload, 1) := by decide +kernel
theorem dL_law_246 : decode cL_law 246 = .ok (.aload_n 0, 1) := by decide +kernel
theorem dL_law_247 : decode cL_law 247 = .ok (.iload_n 3, 1) := by decide +kernel
theorem dL_law_248 : decode cL_law 248 = .ok (.iconst 3, 1) := by decide +kernel
theorem dL_law_249 : decode cL_law 249 = .ok (.iadd, 1) := by decide +kernel
theorem dL_law_250 : decode cL_law 250 = .ok (.iaload, 1) := by decide +kernel
theorem dL_law_251 : decode cL_law 251 = .ok (.invokevirtual 17, 3) := by decide +kernel
theorem dL_law_254 : decode cL_law 254 = .ok (.if_icmp .eq 1409, 3) := by decide +kernel
theorem dL_law_259 : decode cL_law 259 = .ok (.aload_n 1, 1) := by decide +kernel
theorem dL_law_260 : decode cL_law 260 = .ok (.aload_n 0, 1) := by decide +kernel
theorem dL_law_261 : decode cL_law 261 = .ok (.iload_n 3, 1) := by decide +kernel
theorem dL_law_262 : decode cL_law 262 = .ok (.iconst 1, 1) := by decide +kernel
theorem dL_law_263 : decode cL_law 263 = .ok (.iadd, 1) := by decide +kernel
theorem dL_law_264 : decode cL_law 264 = .ok (.iaload, 1) := by decide +kernel
theorem dL_law_265 : decode cL_law 265 = .ok (.aload_n 0, 1) := by decide +kernel
theorem dL_law_266 : decode cL_law 266 = .ok (.iload_n 3, 1) := by decide +kernel
theorem dL_law_267 : decode cL_law 267 = .ok (.iconst 2, 1) := by decide +kernel
theorem dL_law_268 : decode cL_law 268 = .ok (.iadd, 1) := by decide +kernel
theorem dL_law_269 : decode cL_law 269 = .ok (.iaload, 1) := by decide +kernel
theorem dL_law_270 : decode cL_law 270 = .ok (.aload_n 0, 1) := by decide +kernel
theorem dL_law_271 : decode cL_law 271 = .ok (.iload_n 3, 1) := by decide +kernel
theorem dL_law_272 : decode cL_law 272 = .ok (.iconst 3, 1) := by decide +kernel
theorem dL_law_273 : decode cL_law 273 = .ok (.iadd, 1) := by decide +kernel
theorem dL_law_274 : decode cL_law 274 = .ok (.iaload, 1) := by decide +kernel
theorem dL_law_275 : decode cL_law 275 = .ok (.i2l, 1) := by decide +kernel
theorem dL_law_276 : decode cL_law 276 = .ok (.bipush 32, 2) := by decide +kernel
theorem dL_law_278 : decode cL_law 278 = .ok (.lshl, 1) := by decide +kernel
theorem dL_law_279 : decode cL_law 279 = .ok (.aload_n 0, 1) := by decide +kernel
theorem dL_law_280 : decode cL_law 280 = .ok (.iload_n 3, 1) := by decide +kernel
theorem dL_law_281 : decode cL_law 281 = .ok (.iconst 4, 1) := by decide +kernel
theorem dL_law_282 : decode cL_law 282 = .ok (.iadd, 1) := by decide +kernel
theorem dL_law_283 : decode cL_law 283 = .ok (.iaload, 1) := by decide +kernel
theorem dL_law_284 : decode cL_law 284 = .ok (.i2l, 1) := by decide +kernel
theorem dL_law_285 : decode cL_law 285 = .ok (.ldc2_w 18, 3) := by decide +kernel
theorem dL_law_288 : decode cL_law 288 = .ok (.land, 1) := by decide +kernel
theorem dL_law_289 : decode cL_law 289 = .ok (.lor, 1) := by decide +kernel
theorem dL_law_290 : decode cL_law 290 = .ok (.invokevirtual 20, 3) := by decide +kernel
theorem dL_law_293 : decode cL_law 293 = .ok (.aload_n 2, 1) := by decide +kernel
theorem dL_law_294 : decode cL_law 294 = .ok (.aload_n 0, 1) := by decide +kernel
theorem dL_law_295 : decode cL_law 295 = .ok (.iload_n 3, 1) := by decide +kernel
theorem dL_law_296 : decode cL_law 296 = .ok (.iconst 1, 1) := by decide +kernel
theorem dL_law_297 : decode cL_law 297 = .ok (.iadd, 1) := by decide +kernel
theorem dL_law_298 : decode cL_law 298 = .ok (.iaload, 1) := by decide +kernel
theorem dL_law_299 : decode cL_law 299 = .ok (.aload_n 0, 1) := by decide +kernel
theorem dL_law_300 : decode cL_law 300 = .ok (.iload_n 3, 1) := by decide +kernel
theorem dL_law_301 : decode cL_law 301 = .ok (.iconst 2, 1) := by decide +kernel
theorem dL_law_302 : decode cL_law 302 = .ok (.iadd, 1) := by decide +kernel
theorem dL_law_303 : decode cL_law 303 = .ok (.iaload, 1) := by decide +kernel
theorem dL_law_304 : decode cL_law 304 = .ok (.aload_n 0, 1) := by decide +kernel
theorem dL_law_305 : decode cL_law 305 = .ok (.iload_n 3, 1) := by decide +kernel
theorem dL_law_306 : decode cL_law 306 = .ok (.iconst 3, 1) := by decide +kernel
theorem dL_law_307 : decode cL_law 307 = .ok (.iadd, 1) := by decide +kernel
theorem dL_law_308 : decode cL_law 308 = .ok (.iaload, 1) := by decide +kernel
theorem dL_law_309 : decode cL_law 309 = .ok (.i2l, 1) := by decide +kernel
theorem dL_law_310 : decode cL_law 310 = .ok (.bipush 32, 2) := by decide +kernel
theorem dL_law_312 : decode cL_law 312 = .ok (.lshl, 1) := by decide +kernel
theorem dL_law_313 : decode cL_law 313 = .ok (.aload_n 0, 1) := by decide +kernel
theorem dL_law_314 : decode cL_law 314 = .ok (.iload_n 3, 1) := by decide +kernel
theorem dL_law_315 : decode cL_law 315 = .ok (.iconst 4, 1) := by decide +kernel
theorem dL_law_316 : decode cL_law 316 = .ok (.iadd, 1) := by decide +kernel
theorem dL_law_317 : decode cL_law 317 = .ok (.iaload, 1) := by decide +kernel
theorem dL_law_318 : decode cL_law 318 = .ok (.i2l, 1) := by decide +kernel
theorem dL_law_319 : decode cL_law 319 = .ok (.ldc2_w 18, 3) := by decide +kernel
theorem dL_law_322 : decode cL_law 322 = .ok (.land, 1) := by decide +kernel
theorem dL_law_323 : decode cL_law 323 = .ok (.lor, 1) := by decide +kernel
theorem dL_law_324 : decode cL_law 324 = .ok (.invokevirtual 24, 3) := by decide +kernel
theorem dL_law_327 : decode cL_law 327 = .ok (.if_icmp .eq 1336, 3) := by decide +kernel
theorem dL_law_332 : decode cL_law 332 = .ok (.aload_n 1, 1) := by decide +kernel
theorem dL_law_333 : decode cL_law 333 = .ok (.aload_n 0, 1) := by decide +kernel
theorem dL_law_334 : decode cL_law 334 = .ok (.iload_n 3, 1) := by decide +kernel
theorem dL_law_335 : decode cL_law 335 = .ok (.iconst 1, 1) := by decide +kernel
theorem dL_law_336 : decode cL_law 336 = .ok (.iadd, 1) := by decide +kernel
theorem dL_law_337 : decode cL_law 337 = .ok (.iaload, 1) := by decide +kernel
theorem dL_law_338 : decode cL_law 338 = .ok (.aload_n 0, 1) := by decide +kernel
theorem dL_law_339 : decode cL_law 339 = .ok (.iload_n 3, 1) := by decide +kernel
theorem dL_law_340 : decode cL_law 340 = .ok (.iconst 2, 1) := by decide +kernel
theorem dL_law_341 : decode cL_law 341 = .ok (.iadd, 1) := by decide +kernel
theorem dL_law_342 : decode cL_law 342 = .ok (.iaload, 1) := by decide +kernel
theorem dL_law_343 : decode cL_law 343 = .ok (.aload_n 0, 1) := by decide +kernel
theorem dL_law_344 : decode cL_law 344 = .ok (.iload_n 3, 1) := by decide +kernel
theorem dL_law_345 : decode cL_law 345 = .ok (.iconst 3, 1) := by decide +kernel
theorem dL_law_346 : decode cL_law 346 = .ok (.iadd, 1) := by decide +kernel
theorem dL_law_347 : decode cL_law 347 = .ok (.iaload, 1) := by decide +kernel
theorem dL_law_348 : decode cL_law 348 = .ok (.aload_n 0, 1) := by decide +kernel
theorem dL_law_349 : decode cL_law 349 = .ok (.iload_n 3, 1) := by decide +kernel
theorem dL_law_350 : decode cL_law 350 = .ok (.iconst 4, 1) := by decide +kernel
theorem dL_law_351 : decode cL_law 351 = .ok (.iadd, 1) := by decide +kernel
theorem dL_law_352 : decode cL_law 352 = .ok (.iaload, 1) := by decide +kernel
theorem dL_law_353 : decode cL_law 353 = .ok (.aload_n 0, 1) := by decide +kernel
theorem dL_law_354 : decode cL_law 354 = .ok (.iload_n 3, 1) := by decide +kernel
theorem dL_law_355 : decode cL_law 355 = .ok (.iconst 5, 1) := by decide +kernel
theorem dL_law_356 : decode cL_law 356 = .ok (.iadd, 1) := by decide +kernel
theorem dL_law_357 : decode cL_law 357 = .ok (.iaload, 1) := by decide +kernel
theorem dL_law_358 : decode cL_law 358 = .ok (.invokevirtual 25, 3) := by decide +kernel
theorem dL_law_361 : decode cL_law 361 = .ok (.aload_n 2, 1) := by decide +kernel
theorem dL_law_362 : decode cL_law 362 = .ok (.aload_n 0, 1) := by decide +kernel
theorem dL_law_363 : decode cL_law 363 = .ok (.iload_n 3, 1) := by decide +kernel
theorem dL_law_364 : decode cL_law 364 = .ok (.iconst 1, 1) := by decide +kernel
theorem dL_law_365 : decode cL_law 365 = .ok (.iadd, 1) := by decide +kernel
theorem dL_law_366 : decode cL_law 366 = .ok (.iaload, 1) := by decide +kernel
theorem dL_law_367 : decode cL_law 367 = .ok (.aload_n 0, 1) := by decide +kernel
theorem dL_law_368 : decode cL_law 368 = .ok (.iload_n 3, 1) := by decide +kernel
theorem dL_law_369 : decode cL_law 369 = .ok (.iconst 2, 1) := by decide +kernel
theorem dL_law_370 : decode cL_law 370 = .ok (.iadd, 1) := by decide +kernel
theorem dL_law_371 : decode cL_law 371 = .ok (.iaload, 1) := by decide +kernel
theorem dL_law_372 : decode cL_law 372 = .ok (.aload_n 0, 1) := by decide +kernel
theorem dL_law_373 : decode cL_law 373 = .ok (.iload_n 3, 1) := by decide +kernel
theorem dL_law_374 : decode cL_law 374 = .ok (.iconst 3, 1) := by decide +kernel
theorem dL_law_375 : decode cL_law 375 = .ok (.iadd, 1) := by decide +kernel
theorem dL_law_376 : decode cL_law 376 = .ok (.iaload, 1) := by decide +kernel
theorem dL_law_377 : decode cL_law 377 = .ok (.aload_n 0, 1) := by decide +kernel
theorem dL_law_378 : decode cL_law 378 = .ok (.iload_n 3, 1) := by decide +kernel
theorem dL_law_379 : decode cL_law 379 = .ok (.iconst 4, 1) := by decide +kernel
theorem dL_law_380 : decode cL_law 380 = .ok (.iadd, 1) := by decide +kernel
theorem dL_law_381 : decode cL_law 381 = .ok (.iaload, 1) := by decide +kernel
theorem dL_law_382 : decode cL_law 382 = .ok (.aload_n 0, 1) := by decide +kernel
theorem dL_law_383 : decode cL_law 383 = .ok (.iload_n 3, 1) := by decide +kernel
theorem dL_law_384 : decode cL_law 384 = .ok (.iconst 5, 1) := by decide +kernel
theorem dL_law_385 : decode cL_law 385 = .ok (.iadd, 1) := by decide +kernel
theorem dL_law_386 : decode cL_law 386 = .ok (.iaload, 1) := by decide +kernel
theorem dL_law_387 : decode cL_law 387 = .ok (.invokevirtual 29, 3) := by decide +kernel
theorem dL_law_390 : decode cL_law 390 = .ok (.if_icmp .eq 1273, 3) := by decide +kernel
theorem dL_law_395 : decode cL_law 395 = .ok (.aload_n 1, 1) := by decide +kernel
theorem dL_law_396 : decode cL_law 396 = .ok (.aload_n 0, 1) := by decide +kernel
theorem dL_law_397 : decode cL_law 397 = .ok (.iload_n 3, 1) := by decide +kernel
theorem dL_law_398 : decode cL_law 398 = .ok (.iconst 1, 1) := by decide +kernel
theorem dL_law_399 : decode cL_law 399 = .ok (.iadd, 1) := by decide +kernel
theorem dL_law_400 : decode cL_law 400 = .ok (.iaload, 1) := by decide +kernel
theorem dL_law_401 : decode cL_law 401 = .ok (.aload_n 0, 1) := by decide +kernel
theorem dL_law_402 : decode cL_law 402 = .ok (.iload_n 3, 1) := by decide +kernel
theorem dL_law_403 : decode cL_law 403 = .ok (.iconst 2, 1) := by decide +kernel
theorem dL_law_404 : decode cL_law 404 = .ok (.iadd, 1) := by decide +kernel
theorem dL_law_405 : decode cL_law 405 = .ok (.iaload, 1) := by decide +kernel
theorem dL_law_406 : decode cL_law 406 = .ok (.invokevirtual 30, 3) := by decide +kernel
theorem dL_law_409 : decode cL_law 409 = .ok (.aload_n 2, 1) := by decide +kernel
theorem dL_law_410 : decode cL_law 410 = .ok (.aload_n 0, 1) := by decide +kernel
theorem dL_law_411 : decode cL_law 411 = .ok (.iload_n 3, 1) := by decide +kernel
theorem dL_law_412 : decode cL_law 412 = .ok (.iconst 1, 1) := by decide +kernel
theorem dL_law_413 : decode cL_law 413 = .ok (.iadd, 1) := by decide +kernel
theorem dL_law_414 : decode cL_law 414 = .ok (.iaload, 1) := by decide +kernel
theorem dL_law_415 : decode cL_law 415 = .ok (.aload_n 0, 1) := by decide +kernel
theorem dL_law_416 : decode cL_law 416 = .ok (.iload_n 3, 1) := by decide +kernel
theorem dL_law_417 : decode cL_law 417 = .ok (.iconst 2, 1) := by decide +kernel
theorem dL_law_418 : decode cL_law 418 = .ok (.iadd, 1) := by decide +kernel
theorem dL_law_419 : decode cL_law 419 = .ok (.iaload, 1) := by decide +kernel
theorem dL_law_420 : decode cL_law 420 = .ok (.invokevirtual 34, 3) := by decide +kernel
theorem dL_law_423 : decode cL_law 423 = .ok (.lcmp, 1) := by decide +kernel
theorem dL_law_424 : decode cL_law 424 = .ok (.ifCond .eq 1239, 3) := by decide +kernel
theorem dL_law_429 : decode cL_law 429 = .ok (.aload_n 1, 1) := by decide +kernel
theorem dL_law_430 : decode cL_law 430 = .ok (.aload_n 0, 1) := by decide +kernel
theorem dL_law_431 : decode cL_law 431 = .ok (.iload_n 3, 1) := by decide +kernel
theorem dL_law_432 : decode cL_law 432 = .ok (.iconst 1, 1) := by decide +kernel
theorem dL_law_433 : decode cL_law 433 = .ok (.iadd, 1) := by decide +kernel
theorem dL_law_434 : decode cL_law 434 = .ok (.iaload, 1) := by decide +kernel
theorem dL_law_435 : decode cL_law 435 = .ok (.invokevirtual 35, 3) := by decide +kernel
theorem dL_law_438 : decode cL_law 438 = .ok (.aload_n 2, 1) := by decide +kernel
theorem dL_law_439 : decode cL_law 439 = .ok (.aload_n 0, 1) := by decide +kernel
theorem dL_law_440 : decode cL_law 440 = .ok (.iload_n 3, 1) := by decide +kernel
theorem dL_law_441 : decode cL_law 441 = .ok (.iconst 1, 1) := by decide +kernel
theorem dL_law_442 : decode cL_law 442 = .ok (.iadd, 1) := by decide +kernel
theorem dL_law_443 : decode cL_law 443 = .ok (.iaload, 1) := by decide +kernel
theorem dL_law_444 : decode cL_law 444 = .ok (.invokevirtual 39, 3) := by decide +kernel
theorem dL_law_447 : decode cL_law 447 = .ok (.if_icmp .eq 1216, 3) := by decide +kernel
theorem dL_law_452 : decode cL_law 452 = .ok (.aload_n 1, 1) := by decide +kernel
theorem dL_law_453 : decode cL_law 453 = .ok (.aload_n 0, 1) := by decide +kernel
theorem dL_law_454 : decode cL_law 454 = .ok (.iload_n 3, 1) := by decide +kernel
theorem dL_law_455 : decode cL_law 455 = .ok (.iconst 1, 1) := by decide +kernel
theorem dL_law_456 : decode cL_law 456 = .ok (.iadd, 1) := by decide +kernel
theorem dL_law_457 : decode cL_law 457 = .ok (.iaload, 1) := by decide +kernel
theorem dL_law_458 : decode cL_law 458 = .ok (.aload_n 0, 1) := by decide +kernel
theorem dL_law_459 : decode cL_law 459 = .ok (.iload_n 3, 1) := by decide +kernel
theorem dL_law_460 : decode cL_law 460 = .ok (.iconst 2, 1) := by decide +kernel
theorem dL_law_461 : decode cL_law 461 = .ok (.iadd, 1) := by decide +kernel
theorem dL_law_462 : decode cL_law 462 = .ok (.iaload, 1) := by decide +kernel
theorem dL_law_463 : decode cL_law 463 = .ok (.aload_n 0, 1) := by decide +kernel
theorem dL_law_464 : decode cL_law 464 = .ok (.iload_n 3, 1) := by decide +kernel
theorem dL_law_465 : decode cL_law 465 = .ok (.iconst 3, 1) := by decide +kernel
theorem dL_law_466 : decode cL_law 466 = .ok (.iadd, 1) := by decide +kernel
theorem dL_law_467 : decode cL_law 467 = .ok (.iaload, 1) := by decide +kernel
theorem dL_law_468 : decode cL_law 468 = .ok (.invokevirtual 40, 3) := by decide +kernel
theorem dL_law_471 : decode cL_law 471 = .ok (.aload_n 2, 1) := by decide +kernel
theorem dL_law_472 : decode cL_law 472 = .ok (.aload_n 0, 1) := by decide +kernel
theorem dL_law_473 : decode cL_law 473 = .ok (.iload_n 3, 1) := by decide +kernel
theorem dL_law_474 : decode cL_law 474 = .ok (.iconst 1, 1) := by decide +kernel
theorem dL_law_475 : decode cL_law 475 = .ok (.iadd, 1) := by decide +kernel
theorem dL_law_476 : decode cL_law 476 = .ok (.iaload, 1) := by decide +kernel
theorem dL_law_477 : decode cL_law 477 = .ok (.aload_n 0, 1) := by decide +kernel
theorem dL_law_478 : decode cL_law 478 = .ok (.iload_n 3, 1) := by decide +kernel
theorem dL_law_479 : decode cL_law 479 = .ok (.iconst 2, 1) := by decide +kernel
theorem dL_law_480 : decode cL_law 480 = .ok (.iadd, 1) := by decide +kernel
theorem dL_law_481 : decode cL_law 481 = .ok (.iaload, 1) := by decide +kernel
theorem dL_law_482 : decode cL_law 482 = .ok (.aload_n 0, 1) := by decide +kernel
theorem dL_law_483 : decode cL_law 483 = .ok (.iload_n 3, 1) := by decide +kernel
theorem dL_law_484 : decode cL_law 484 = .ok (.iconst 3, 1) := by decide +kernel
theorem dL_law_485 : decode cL_law 485 = .ok (.iadd, 1) := by decide +kernel
theorem dL_law_486 : decode cL_law 486 = .ok (.iaload, 1) := by decide +kernel
theorem dL_law_487 : decode cL_law 487 = .ok (.invokevirtual 43, 3) := by decide +kernel
theorem dL_law_490 : decode cL_law 490 = .ok (.if_icmp .eq 1173, 3) := by decide +kernel
theorem dL_law_495 : decode cL_law 495 = .ok (.aload_n 1, 1) := by decide +kernel
theorem dL_law_496 : decode cL_law 496 = .ok (.aload_n 0, 1) := by decide +kernel
theorem dL_law_497 : decode cL_law 497 = .ok (.iload_n 3, 1) := by decide +kernel
theorem dL_law_498 : decode cL_law 498 = .ok (.iconst 1, 1) := by decide +kernel
theorem dL_law_499 : decode cL_law 499 = .ok (.iadd, 1) := by decide +kernel
theorem dL_law_500 : decode cL_law 500 = .ok (.iaload, 1) := by decide +kernel
theorem dL_law_501 : decode cL_law 501 = .ok (.aload_n 0, 1) := by decide +kernel
theorem dL_law_502 : decode cL_law 502 = .ok (.iload_n 3, 1) := by decide +kernel
theorem dL_law_503 : decode cL_law 503 = .ok (.iconst 2, 1) := by decide +kernel
theorem dL_law_504 : decode cL_law 504 = .ok (.iadd, 1) := by decide +kernel
theorem dL_law_505 : decode cL_law 505 = .ok (.iaload, 1) := by decide +kernel
theorem dL_law_506 : decode cL_law 506 = .ok (.invokevirtual 44, 3) := by decide +kernel
theorem dL_law_509 : decode cL_law 509 = .ok (.aload_n 2, 1) := by decide +kernel
theorem dL_law_510 : decode cL_law 510 = .ok (.aload_n 0, 1) := by decide +kernel
theorem dL_law_511 : decode cL_law 511 = .ok (.iload_n 3, 1) := by decide +kernel
theorem dL_law_512 : decode cL_law 512 = .ok (.iconst 1, 1) := by decide +kernel
theorem dL_law_513 : decode cL_law 513 = .ok (.iadd, 1) := by decide +kernel
theorem dL_law_514 : decode cL_law 514 = .ok (.iaload, 1) := by decide +kernel
theorem dL_law_515 : decode cL_law 515 = .ok (.aload_n 0, 1) := by decide +kernel
theorem dL_law_516 : decode cL_law 516 = .ok (.iload_n 3, 1) := by decide +kernel
theorem dL_law_517 : decode cL_law 517 = .ok (.iconst 2, 1) := by decide +kernel
theorem dL_law_518 : decode cL_law 518 = .ok (.iadd, 1) := by decide +kernel
theorem dL_law_519 : decode cL_law 519 = .ok (.iaload, 1) := by decide +kernel
theorem dL_law_520 : decode cL_law 520 = .ok (.invokevirtual 48, 3) := by decide +kernel
theorem dL_law_523 : decode cL_law 523 = .ok (.if_icmp .eq 1140, 3) := by decide +kernel
theorem dL_law_528 : decode cL_law 528 = .ok (.aload_n 1, 1) := by decide +kernel
theorem dL_law_529 : decode cL_law 529 = .ok (.aload_n 0, 1) := by decide +kernel
theorem dL_law_530 : decode cL_law 530 = .ok (.iload_n 3, 1) := by decide +kernel
theorem dL_law_531 : decode cL_law 531 = .ok (.iconst 1, 1) := by decide +kernel
theorem dL_law_532 : decode cL_law 532 = .ok (.iadd, 1) := by decide +kernel
theorem dL_law_533 : decode cL_law 533 = .ok (.iaload, 1) := by decide +kernel
theorem dL_law_534 : decode cL_law 534 = .ok (.invokevirtual 49, 3) := by decide +kernel
theorem dL_law_537 : decode cL_law 537 = .ok (.aload_n 2, 1) := by decide +kernel
theorem dL_law_538 : decode cL_law 538 = .ok (.aload_n 0, 1) := by decide +kernel
theorem dL_law_539 : decode cL_law 539 = .ok (.iload_n 3, 1) := by decide +kernel
theorem dL_law_540 : decode cL_law 540 = .ok (.iconst 1, 1) := by decide +kernel
theorem dL_law_541 : decode cL_law 541 = .ok (.iadd, 1) := by decide +kernel
theorem dL_law_542 : decode cL_law 542 = .ok (.iaload, 1) := by decide +kernel
theorem dL_law_543 : decode cL_law 543 = .ok (.invokevirtual 52, 3) := by decide +kernel
theorem dL_law_546 : decode cL_law 546 = .ok (.if_icmp .eq 1117, 3) := by decide +kernel
theorem dL_law_551 : decode cL_law 551 = .ok (.aload_n 1, 1) := by decide +kernel
theorem dL_law_552 : decode cL_law 552 = .ok (.invokevirtual 53, 3) := by decide +kernel
theorem dL_law_555 : decode cL_law 555 = .ok (.aload_n 2, 1) := by decide +kernel
theorem dL_law_556 : decode cL_law 556 = .ok (.invokevirtual 57, 3) := by decide +kernel
theorem dL_law_559 : decode cL_law 559 = .ok (.if_icmp .eq 1104, 3) := by decide +kernel
theorem dL_law_564 : decode cL_law 564 = .ok (.aload_n 1, 1) := by decide +kernel
theorem dL_law_565 : decode cL_law 565 = .ok (.aload_n 0, 1) := by decide +kernel
theorem dL_law_566 : decode cL_law 566 = .ok (.iload_n 3, 1) := by decide +kernel
theorem dL_law_567 : decode cL_law 567 = .ok (.iconst 1, 1) := by decide +kernel
theorem dL_law_568 : decode cL_law 568 = .ok (.iadd, 1) := by decide +kernel
theorem dL_law_569 : decode cL_law 569 = .ok (.iaload, 1) := by decide +kernel
theorem dL_law_570 : decode cL_law 570 = .ok (.invokevirtual 58, 3) := by decide +kernel
theorem dL_law_573 : decode cL_law 573 = .ok (.aload_n 2, 1) := by decide +kernel
theorem dL_law_574 : decode cL_law 574 = .ok (.aload_n 0, 1) := by decide +kernel
theorem dL_law_575 : decode cL_law 575 = .ok (.iload_n 3, 1) := by decide +kernel
theorem dL_law_576 : decode cL_law 576 = .ok (.iconst 1, 1) := by decide +kernel
theorem dL_law_577 : decode cL_law 577 = .ok (.iadd, 1) := by decide +kernel
theorem dL_law_578 : decode cL_law 578 = .ok (.iaload, 1) := by decide +kernel
theorem dL_law_579 : decode cL_law 579 = .ok (.invokevirtual 61, 3) := by decide +kernel
theorem dL_law_582 : decode cL_law 582 = .ok (.if_icmp .eq 1081, 3) := by decide +kernel
theorem dL_law_587 : decode cL_law 587 = .ok (.aload_n 1, 1) := by decide +kernel
theorem dL_law_588 : decode cL_law 588 = .ok (.aload_n 0, 1) := by decide +kernel
theorem dL_law_589 : decode cL_law 589 = .ok (.iload_n 3, 1) := by decide +kernel
theorem dL_law_590 : decode cL_law 590 = .ok (.iconst 1, 1) := by decide +kernel
theorem dL_law_591 : decode cL_law 591 = .ok (.iadd, 1) := by decide +kernel
theorem dL_law_592 : decode cL_law 592 = .ok (.iaload, 1) := by decide +kernel
theorem dL_law_593 : decode cL_law 593 = .ok (.aload_n 0, 1) := by decide +kernel
theorem dL_law_594 : decode cL_law 594 = .ok (.iload_n 3, 1) := by decide +kernel
theorem dL_law_595 : decode cL_law 595 = .ok (.iconst 2, 1) := by decide +kernel
theorem dL_law_596 : decode cL_law 596 = .ok (.iadd, 1) := by decide +kernel
theorem dL_law_597 : decode cL_law 597 = .ok (.iaload, 1) := by decide +kernel
theorem dL_law_598 : decode cL_law 598 = .ok (.invokevirtual 62, 3) := by decide +kernel
theorem dL_law_601 : decode cL_law 601 = .ok (.aload_n 2, 1) := by decide +kernel
theorem dL_law_602 : decode cL_law 602 = .ok (.aload_n 0, 1) := by decide +kernel
theorem dL_law_603 : decode cL_law 603 = .ok (.iload_n 3, 1) := by decide +kernel
theorem dL_law_604 : decode cL_law 604 = .ok (.iconst 1, 1) := by decide +kernel
theorem dL_law_605 : decode cL_law 605 = .ok (.iadd, 1) := by decide +kernel
theorem dL_law_606 : decode cL_law 606 = .ok (.iaload, 1) := by decide +kernel
theorem dL_law_607 : decode cL_law 607 = .ok (.aload_n 0, 1) := by decide +kernel
theorem dL_law_608 : decode cL_law 608 = .ok (.iload_n 3, 1) := by decide +kernel
theorem dL_law_609 : decode cL_law 609 = .ok (.iconst 2, 1) := by decide +kernel
theorem dL_law_610 : decode cL_law 610 = .ok (.iadd, 1) := by decide +kernel
theorem dL_law_611 : decode cL_law 611 = .ok (.iaload, 1) := by decide +kernel
theorem dL_law_612 : decode cL_law 612 = .ok (.invokevirtual 65, 3) := by decide +kernel
theorem dL_law_615 : decode cL_law 615 = .ok (.if_icmp .eq 1048, 3) := by decide +kernel
theorem dL_law_620 : decode cL_law 620 = .ok (.aload_n 1, 1) := by decide +kernel
theorem dL_law_621 : decode cL_law 621 = .ok (.aload_n 0, 1) := by decide +kernel
theorem dL_law_622 : decode cL_law 622 = .ok (.iload_n 3, 1) := by decide +kernel
theorem dL_law_623 : decode cL_law 623 = .ok (.iconst 1, 1) := by decide +kernel
theorem dL_law_624 : decode cL_law 624 = .ok (.iadd, 1) := by decide +kernel
theorem dL_law_625 : decode cL_law 625 = .ok (.iaload, 1) := by decide +kernel
theorem dL_law_626 : decode cL_law 626 = .ok (.aload_n 0, 1) := by decide +kernel
theorem dL_law_627 : decode cL_law 627 = .ok (.iload_n 3, 1) := by decide +kernel
theorem dL_law_628 : decode cL_law 628 = .ok (.iconst 2, 1) := by decide +kernel
theorem dL_law_629 : decode cL_law 629 = .ok (.iadd, 1) := by decide +kernel
theorem dL_law_630 : decode cL_law 630 = .ok (.iaload, 1) := by decide +kernel
theorem dL_law_631 : decode cL_law 631 = .ok (.aload_n 0, 1) := by decide +kernel
theorem dL_law_632 : decode cL_law 632 = .ok (.iload_n 3, 1) := by decide +kernel
theorem dL_law_633 : decode cL_law 633 = .ok (.iconst 3, 1) := by decide +kernel
theorem dL_law_634 : decode cL_law 634 = .ok (.iadd, 1) := by decide +kernel
theorem dL_law_635 : decode cL_law 635 = .ok (.iaload, 1) := by decide +kernel
theorem dL_law_636 : decode cL_law 636 = .ok (.invokevirtual 66, 3) := by decide +kernel
theorem dL_law_639 : decode cL_law 639 = .ok (.aload_n 2, 1) := by decide +kernel
theorem dL_law_640 : decode cL_law 640 = .ok (.aload_n 0, 1) := by decide +kernel
theorem dL_law_641 : decode cL_law 641 = .ok (.iload_n 3, 1) := by decide +kernel
theorem dL_law_642 : decode cL_law 642 = .ok (.iconst 1, 1) := by decide +kernel
theorem dL_law_643 : decode cL_law 643 = .ok (.iadd, 1) := by decide +kernel
theorem dL_law_644 : decode cL_law 644 = .ok (.iaload, 1) := by decide +kernel
theorem dL_law_645 : decode cL_law 645 = .ok (.aload_n 0, 1) := by decide +kernel
theorem dL_law_646 : decode cL_law 646 = .ok (.iload_n 3, 1) := by decide +kernel
theorem dL_law_647 : decode cL_law 647 = .ok (.iconst 2, 1) := by decide +kernel
theorem dL_law_648 : decode cL_law 648 = .ok (.iadd, 1) := by decide +kernel
theorem dL_law_649 : decode cL_law 649 = .ok (.iaload, 1) := by decide +kernel
theorem dL_law_650 : decode cL_law 650 = .ok (.aload_n 0, 1) := by decide +kernel
theorem dL_law_651 : decode cL_law 651 = .ok (.iload_n 3, 1) := by decide +kernel
theorem dL_law_652 : decode cL_law 652 = .ok (.iconst 3, 1) := by decide +kernel
theorem dL_law_653 : decode cL_law 653 = .ok (.iadd, 1) := by decide +kernel
theorem dL_law_654 : decode cL_law 654 = .ok (.iaload, 1) := by decide +kernel
theorem dL_law_655 : decode cL_law 655 = .ok (.invokevirtual 69, 3) := by decide +kernel
theorem dL_law_658 : decode cL_law 658 = .ok (.if_icmp .eq 1005, 3) := by decide +kernel
theorem dL_law_663 : decode cL_law 663 = .ok (.aload_n 1, 1) := by decide +kernel
theorem dL_law_664 : decode cL_law 664 = .ok (.aload_n 0, 1) := by decide +kernel
theorem dL_law_665 : decode cL_law 665 = .ok (.iload_n 3, 1) := by decide +kernel
theorem dL_law_666 : decode cL_law 666 = .ok (.iconst 1, 1) := by decide +kernel
theorem dL_law_667 : decode cL_law 667 = .ok (.iadd, 1) := by decide +kernel
theorem dL_law_668 : decode cL_law 668 = .ok (.iaload, 1) := by decide +kernel
theorem dL_law_669 : decode cL_law 669 = .ok (.aload_n 0, 1) := by decide +kernel
theorem dL_law_670 : decode cL_law 670 = .ok (.iload_n 3, 1) := by decide +kernel
theorem dL_law_671 : decode cL_law 671 = .ok (.iconst 2, 1) := by decide +kernel
theorem dL_law_672 : decode cL_law 672 = .ok (.iadd, 1) := by decide +kernel
theorem dL_law_673 : decode cL_law 673 = .ok (.iaload, 1) := by decide +kernel
theorem dL_law_674 : decode cL_law 674 = .ok (.aload_n 0, 1) := by decide +kernel
theorem dL_law_675 : decode cL_law 675 = .ok (.iload_n 3, 1) := by decide +kernel
theorem dL_law_676 : decode cL_law 676 = .ok (.iconst 3, 1) := by decide +kernel
theorem dL_law_677 : decode cL_law 677 = .ok (.iadd, 1) := by decide +kernel
theorem dL_law_678 : decode cL_law 678 = .ok (.iaload, 1) := by decide +kernel
theorem dL_law_679 : decode cL_law 679 = .ok (.invokevirtual 70, 3) := by decide +kernel
theorem dL_law_682 : decode cL_law 682 = .ok (.aload_n 2, 1) := by decide +kernel
theorem dL_law_683 : decode cL_law 683 = .ok (.aload_n 0, 1) := by decide +kernel
theorem dL_law_684 : decode cL_law 684 = .ok (.iload_n 3, 1) := by decide +kernel
theorem dL_law_685 : decode cL_law 685 = .ok (.iconst 1, 1) := by decide +kernel
theorem dL_law_686 : decode cL_law 686 = .ok (.iadd, 1) := by decide +kernel
theorem dL_law_687 : decode cL_law 687 = .ok (.iaload, 1) := by decide +kernel
theorem dL_law_688 : decode cL_law 688 = .ok (.aload_n 0, 1) := by decide +kernel
theorem dL_law_689 : decode cL_law 689 = .ok (.iload_n 3, 1) := by decide +kernel
theorem dL_law_690 : decode cL_law 690 = .ok (.iconst 2, 1) := by decide +kernel
theorem dL_law_691 : decode cL_law 691 = .ok (.iadd, 1) := by decide +kernel
theorem dL_law_692 : decode cL_law 692 = .ok (.iaload, 1) := by decide +kernel
theorem dL_law_693 : decode cL_law 693 = .ok (.aload_n 0, 1) := by decide +kernel
theorem dL_law_694 : decode cL_law 694 = .ok (.iload_n 3, 1) := by decide +kernel
theorem dL_law_695 : decode cL_law 695 = .ok (.iconst 3, 1) := by decide +kernel
theorem dL_law_696 : decode cL_law 696 = .ok (.iadd, 1) := by decide +kernel
theorem dL_law_697 : decode cL_law 697 = .ok (.iaload, 1) := by decide +kernel
theorem dL_law_698 : decode cL_law 698 = .ok (.invokevirtual 73, 3) := by decide +kernel
theorem dL_law_701 : decode cL_law 701 = .ok (.if_icmp .eq 962, 3) := by decide +kernel
theorem dL_law_706 : decode cL_law 706 = .ok (.aload_n 1, 1) := by decide +kernel
theorem dL_law_707 : decode cL_law 707 = .ok (.aload_n 0, 1) := by decide +kernel
theorem dL_law_708 : decode cL_law 708 = .ok (.iload_n 3, 1) := by decide +kernel
theorem dL_law_709 : decode cL_law 709 = .ok (.iconst 1, 1) := by decide +kernel
theorem dL_law_710 : decode cL_law 710 = .ok (.iadd, 1) := by decide +kernel
theorem dL_law_711 : decode cL_law 711 = .ok (.iaload, 1) := by decide +kernel
theorem dL_law_712 : decode cL_law 712 = .ok (.aload_n 0, 1) := by decide +kernel
theorem dL_law_713 : decode cL_law 713 = .ok (.iload_n 3, 1) := by decide +kernel
theorem dL_law_714 : decode cL_law 714 = .ok (.iconst 2, 1) := by decide +kernel
theorem dL_law_715 : decode cL_law 715 = .ok (.iadd, 1) := by decide +kernel
theorem dL_law_716 : decode cL_law 716 = .ok (.iaload, 1) := by decide +kernel
theorem dL_law_717 : decode cL_law 717 = .ok (.invokevirtual 74, 3) := by decide +kernel
theorem dL_law_720 : decode cL_law 720 = .ok (.aload_n 2, 1) := by decide +kernel
theorem dL_law_721 : decode cL_law 721 = .ok (.aload_n 0, 1) := by decide +kernel
theorem dL_law_722 : decode cL_law 722 = .ok (.iload_n 3, 1) := by decide +kernel
theorem dL_law_723 : decode cL_law 723 = .ok (.iconst 1, 1) := by decide +kernel
theorem dL_law_724 : decode cL_law 724 = .ok (.iadd, 1) := by decide +kernel
theorem dL_law_725 : decode cL_law 725 = .ok (.iaload, 1) := by decide +kernel
theorem dL_law_726 : decode cL_law 726 = .ok (.aload_n 0, 1) := by decide +kernel
theorem dL_law_727 : decode cL_law 727 = .ok (.iload_n 3, 1) := by decide +kernel
theorem dL_law_728 : decode cL_law 728 = .ok (.iconst 2, 1) := by decide +kernel
theorem dL_law_729 : decode cL_law 729 = .ok (.iadd, 1) := by decide +kernel
theorem dL_law_730 : decode cL_law 730 = .ok (.iaload, 1) := by decide +kernel
theorem dL_law_731 : decode cL_law 731 = .ok (.invokevirtual 77, 3) := by decide +kernel
theorem dL_law_734 : decode cL_law 734 = .ok (.if_icmp .eq 929, 3) := by decide +kernel
theorem dL_law_739 : decode cL_law 739 = .ok (.aload_n 1, 1) := by decide +kernel
theorem dL_law_740 : decode cL_law 740 = .ok (.aload_n 0, 1) := by decide +kernel
theorem dL_law_741 : decode cL_law 741 = .ok (.iload_n 3, 1) := by decide +kernel
theorem dL_law_742 : decode cL_law 742 = .ok (.iconst 1, 1) := by decide +kernel
theorem dL_law_743 : decode cL_law 743 = .ok (.iadd, 1) := by decide +kernel
theorem dL_law_744 : decode cL_law 744 = .ok (.iaload, 1) := by decide +kernel
theorem dL_law_745 : decode cL_law 745 = .ok (.aload_n 0, 1) := by decide +kernel
theorem dL_law_746 : decode cL_law 746 = .ok (.iload_n 3, 1) := by decide +kernel
theorem dL_law_747 : decode cL_law 747 = .ok (.iconst 2, 1) := by decide +kernel
theorem dL_law_748 : decode cL_law 748 = .ok (.iadd, 1) := by decide +kernel
theorem dL_law_749 : decode cL_law 749 = .ok (.iaload, 1) := by decide +kernel
theorem dL_law_750 : decode cL_law 750 = .ok (.aload_n 0, 1) := by decide +kernel
theorem dL_law_751 : decode cL_law 751 = .ok (.iload_n 3, 1) := by decide +kernel
theorem dL_law_752 : decode cL_law 752 = .ok (.iconst 3, 1) := by decide +kernel
theorem dL_law_753 : decode cL_law 753 = .ok (.iadd, 1) := by decide +kernel
theorem dL_law_754 : decode cL_law 754 = .ok (.iaload, 1) := by decide +kernel
theorem dL_law_755 : decode cL_law 755 = .ok (.invokevirtual 78, 3) := by decide +kernel
theorem dL_law_758 : decode cL_law 758 = .ok (.aload_n 2, 1) := by decide +kernel
theorem dL_law_759 : decode cL_law 759 = .ok (.aload_n 0, 1) := by decide +kernel
theorem dL_law_760 : decode cL_law 760 = .ok (.iload_n 3, 1) := by decide +kernel
theorem dL_law_761 : decode cL_law 761 = .ok (.iconst 1, 1) := by decide +kernel
theorem dL_law_762 : decode cL_law 762 = .ok (.iadd, 1) := by decide +kernel
theorem dL_law_763 : decode cL_law 763 = .ok (.iaload, 1) := by decide +kernel
theorem dL_law_764 : decode cL_law 764 = .ok (.aload_n 0, 1) := by decide +kernel
theorem dL_law_765 : decode cL_law 765 = .ok (.iload_n 3, 1) := by decide +kernel
theorem dL_law_766 : decode cL_law 766 = .ok (.iconst 2, 1) := by decide +kernel
theorem dL_law_767 : decode cL_law 767 = .ok (.iadd, 1) := by decide +kernel
theorem dL_law_768 : decode cL_law 768 = .ok (.iaload, 1) := by decide +kernel
theorem dL_law_769 : decode cL_law 769 = .ok (.aload_n 0, 1) := by decide +kernel
theorem dL_law_770 : decode cL_law 770 = .ok (.iload_n 3, 1) := by decide +kernel
theorem dL_law_771 : decode cL_law 771 = .ok (.iconst 3, 1) := by decide +kernel
theorem dL_law_772 : decode cL_law 772 = .ok (.iadd, 1) := by decide +kernel
theorem dL_law_773 : decode cL_law 773 = .ok (.iaload, 1) := by decide +kernel
theorem dL_law_774 : decode cL_law 774 = .ok (.invokevirtual 81, 3) := by decide +kernel
theorem dL_law_777 : decode cL_law 777 = .ok (.if_icmp .eq 886, 3) := by decide +kernel
theorem dL_law_782 : decode cL_law 782 = .ok (.aload_n 1, 1) := by decide +kernel
theorem dL_law_783 : decode cL_law 783 = .ok (.aload_n 0, 1) := by decide +kernel
theorem dL_law_784 : decode cL_law 784 = .ok (.iload_n 3, 1) := by decide +kernel
theorem dL_law_785 : decode cL_law 785 = .ok (.iconst 1, 1) := by decide +kernel
theorem dL_law_786 : decode cL_law 786 = .ok (.iadd, 1) := by decide +kernel
theorem dL_law_787 : decode cL_law 787 = .ok (.iaload, 1) := by decide +kernel
theorem dL_law_788 : decode cL_law 788 = .ok (.aload_n 0, 1) := by decide +kernel
theorem dL_law_789 : decode cL_law 789 = .ok (.iload_n 3, 1) := by decide +kernel
theorem dL_law_790 : decode cL_law 790 = .ok (.iconst 2, 1) := by decide +kernel
theorem dL_law_791 : decode cL_law 791 = .ok (.iadd, 1) := by decide +kernel
theorem dL_law_792 : decode cL_law 792 = .ok (.iaload, 1) := by decide +kernel
theorem dL_law_793 : decode cL_law 793 = .ok (.aload_n 0, 1) := by decide +kernel
theorem dL_law_794 : decode cL_law 794 = .ok (.iload_n 3, 1) := by decide +kernel
theorem dL_law_795 : decode cL_law 795 = .ok (.iconst 3, 1) := by decide +kernel
theorem dL_law_796 : decode cL_law 796 = .ok (.iadd, 1) := by decide +kernel
theorem dL_law_797 : decode cL_law 797 = .ok (.iaload, 1) := by decide +kernel
theorem dL_law_798 : decode cL_law 798 = .ok (.aload_n 0, 1) := by decide +kernel
theorem dL_law_799 : decode cL_law 799 = .ok (.iload_n 3, 1) := by decide +kernel
theorem dL_law_800 : decode cL_law 800 = .ok (.iconst 4, 1) := by decide +kernel
theorem dL_law_801 : decode cL_law 801 = .ok (.iadd, 1) := by decide +kernel
theorem dL_law_802 : decode cL_law 802 = .ok (.iaload, 1) := by decide +kernel
theorem dL_law_803 : decode cL_law 803 = .ok (.invokevirtual 82, 3) := by decide +kernel
theorem dL_law_806 : decode cL_law 806 = .ok (.aload_n 2, 1) := by decide +kernel
theorem dL_law_807 : decode cL_law 807 = .ok (.aload_n 0, 1) := by decide +kernel
theorem dL_law_808 : decode cL_law 808 = .ok (.iload_n 3, 1) := by decide +kernel
theorem dL_law_809 : decode cL_law 809 = .ok (.iconst 1, 1) := by decide +kernel
theorem dL_law_810 : decode cL_law 810 = .ok (.iadd, 1) := by decide +kernel
theorem dL_law_811 : decode cL_law 811 = .ok (.iaload, 1) := by decide +kernel
theorem dL_law_812 : decode cL_law 812 = .ok (.aload_n 0, 1) := by decide +kernel
theorem dL_law_813 : decode cL_law 813 = .ok (.iload_n 3, 1) := by decide +kernel
theorem dL_law_814 : decode cL_law 814 = .ok (.iconst 2, 1) := by decide +kernel
theorem dL_law_815 : decode cL_law 815 = .ok (.iadd, 1) := by decide +kernel
theorem dL_law_816 : decode cL_law 816 = .ok (.iaload, 1) := by decide +kernel
theorem dL_law_817 : decode cL_law 817 = .ok (.aload_n 0, 1) := by decide +kernel
theorem dL_law_818 : decode cL_law 818 = .ok (.iload_n 3, 1) := by decide +kernel
theorem dL_law_819 : decode cL_law 819 = .ok (.iconst 3, 1) := by decide +kernel
theorem dL_law_820 : decode cL_law 820 = .ok (.iadd, 1) := by decide +kernel
theorem dL_law_821 : decode cL_law 821 = .ok (.iaload, 1) := by decide +kernel
theorem dL_law_822 : decode cL_law 822 = .ok (.aload_n 0, 1) := by decide +kernel
theorem dL_law_823 : decode cL_law 823 = .ok (.iload_n 3, 1) := by decide +kernel
theorem dL_law_824 : decode cL_law 824 = .ok (.iconst 4, 1) := by decide +kernel
theorem dL_law_825 : decode cL_law 825 = .ok (.iadd, 1) := by decide +kernel
theorem dL_law_826 : decode cL_law 826 = .ok (.iaload, 1) := by decide +kernel
theorem dL_law_827 : decode cL_law 827 = .ok (.invokevirtual 86, 3) := by decide +kernel
theorem dL_law_830 : decode cL_law 830 = .ok (.if_icmp .eq 833, 3) := by decide +kernel
theorem dL_law_835 : decode cL_law 835 = .ok (.aload_n 1, 1) := by decide +kernel
theorem dL_law_836 : decode cL_law 836 = .ok (.aload_n 0, 1) := by decide +kernel
theorem dL_law_837 : decode cL_law 837 = .ok (.iload_n 3, 1) := by decide +kernel
theorem dL_law_838 : decode cL_law 838 = .ok (.iconst 1, 1) := by decide +kernel
theorem dL_law_839 : decode cL_law 839 = .ok (.iadd, 1) := by decide +kernel
theorem dL_law_840 : decode cL_law 840 = .ok (.iaload, 1) := by decide +kernel
theorem dL_law_841 : decode cL_law 841 = .ok (.aload_n 0, 1) := by decide +kernel
theorem dL_law_842 : decode cL_law 842 = .ok (.iload_n 3, 1) := by decide +kernel
theorem dL_law_843 : decode cL_law 843 = .ok (.iconst 2, 1) := by decide +kernel
theorem dL_law_844 : decode cL_law 844 = .ok (.iadd, 1) := by decide +kernel
theorem dL_law_845 : decode cL_law 845 = .ok (.iaload, 1) := by decide +kernel
theorem dL_law_846 : decode cL_law 846 = .ok (.aload_n 0, 1) := by decide +kernel
theorem dL_law_847 : decode cL_law 847 = .ok (.iload_n 3, 1) := by decide +kernel
theorem dL_law_848 : decode cL_law 848 = .ok (.iconst 3, 1) := by decide +kernel
theorem dL_law_849 : decode cL_law 849 = .ok (.iadd, 1) := by decide +kernel
theorem dL_law_850 : decode cL_law 850 = .ok (.iaload, 1) := by decide +kernel
theorem dL_law_851 : decode cL_law 851 = .ok (.invokevirtual 87, 3) := by decide +kernel
theorem dL_law_854 : decode cL_law 854 = .ok (.aload_n 2, 1) := by decide +kernel
theorem dL_law_855 : decode cL_law 855 = .ok (.aload_n 0, 1) := by decide +kernel
theorem dL_law_856 : decode cL_law 856 = .ok (.iload_n 3, 1) := by decide +kernel
theorem dL_law_857 : decode cL_law 857 = .ok (.iconst 1, 1) := by decide +kernel
theorem dL_law_858 : decode cL_law 858 = .ok (.iadd, 1) := by decide +kernel
theorem dL_law_859 : decode cL_law 859 = .ok (.iaload, 1) := by decide +kernel
theorem dL_law_860 : decode cL_law 860 = .ok (.aload_n 0, 1) := by decide +kernel
theorem dL_law_861 : decode cL_law 861 = .ok (.iload_n 3, 1) := by decide +kernel
theorem dL_law_862 : decode cL_law 862 = .ok (.iconst 2, 1) := by decide +kernel
theorem dL_law_863 : decode cL_law 863 = .ok (.iadd, 1) := by decide +kernel
theorem dL_law_864 : decode cL_law 864 = .ok (.iaload, 1) := by decide +kernel
theorem dL_law_865 : decode cL_law 865 = .ok (.aload_n 0, 1) := by decide +kernel
theorem dL_law_866 : decode cL_law 866 = .ok (.iload_n 3, 1) := by decide +kernel
theorem dL_law_867 : decode cL_law 867 = .ok (.iconst 3, 1) := by decide +kernel
theorem dL_law_868 : decode cL_law 868 = .ok (.iadd, 1) := by decide +kernel
theorem dL_law_869 : decode cL_law 869 = .ok (.iaload, 1) := by decide +kernel
theorem dL_law_870 : decode cL_law 870 = .ok (.invokevirtual 90, 3) := by decide +kernel
theorem dL_law_873 : decode cL_law 873 = .ok (.if_icmp .eq 790, 3) := by decide +kernel
theorem dL_law_878 : decode cL_law 878 = .ok (.aload_n 1, 1) := by decide +kernel
theorem dL_law_879 : decode cL_law 879 = .ok (.aload_n 0, 1) := by decide +kernel
theorem dL_law_880 : decode cL_law 880 = .ok (.iload_n 3, 1) := by decide +kernel
theorem dL_law_881 : decode cL_law 881 = .ok (.iconst 1, 1) := by decide +kernel
theorem dL_law_882 : decode cL_law 882 = .ok (.iadd, 1) := by decide +kernel
theorem dL_law_883 : decode cL_law 883 = .ok (.iaload, 1) := by decide +kernel
theorem dL_law_884 : decode cL_law 884 = .ok (.aload_n 0, 1) := by decide +kernel
theorem dL_law_885 : decode cL_law 885 = .ok (.iload_n 3, 1) := by decide +kernel
theorem dL_law_886 : decode cL_law 886 = .ok (.iconst 2, 1) := by decide +kernel
theorem dL_law_887 : decode cL_law 887 = .ok (.iadd, 1) := by decide +kernel
theorem dL_law_888 : decode cL_law 888 = .ok (.iaload, 1) := by decide +kernel
theorem dL_law_889 : decode cL_law 889 = .ok (.invokevirtual 91, 3) := by decide +kernel
theorem dL_law_892 : decode cL_law 892 = .ok (.aload_n 2, 1) := by decide +kernel
theorem dL_law_893 : decode cL_law 893 = .ok (.aload_n 0, 1) := by decide +kernel
theorem dL_law_894 : decode cL_law 894 = .ok (.iload_n 3, 1) := by decide +kernel
theorem dL_law_895 : decode cL_law 895 = .ok (.iconst 1, 1) := by decide +kernel
theorem dL_law_896 : decode cL_law 896 = .ok (.iadd, 1) := by decide +kernel
theorem dL_law_897 : decode cL_law 897 = .ok (.iaload, 1) := by decide +kernel
theorem dL_law_898 : decode cL_law 898 = .ok (.aload_n 0, 1) := by decide +kernel
theorem dL_law_899 : decode cL_law 899 = .ok (.iload_n 3, 1) := by decide +kernel
theorem dL_law_900 : decode cL_law 900 = .ok (.iconst 2, 1) := by decide +kernel
theorem dL_law_901 : decode cL_law 901 = .ok (.iadd, 1) := by decide +kernel
theorem dL_law_902 : decode cL_law 902 = .ok (.iaload, 1) := by decide +kernel
theorem dL_law_903 : decode cL_law 903 = .ok (.invokevirtual 94, 3) := by decide +kernel
theorem dL_law_906 : decode cL_law 906 = .ok (.if_icmp .eq 757, 3) := by decide +kernel
theorem dL_law_911 : decode cL_law 911 = .ok (.aload_n 1, 1) := by decide +kernel
theorem dL_law_912 : decode cL_law 912 = .ok (.aload_n 0, 1) := by decide +kernel
theorem dL_law_913 : decode cL_law 913 = .ok (.iload_n 3, 1) := by decide +kernel
theorem dL_law_914 : decode cL_law 914 = .ok (.iconst 1, 1) := by decide +kernel
theorem dL_law_915 : decode cL_law 915 = .ok (.iadd, 1) := by decide +kernel
theorem dL_law_916 : decode cL_law 916 = .ok (.iaload, 1) := by decide +kernel
theorem dL_law_917 : decode cL_law 917 = .ok (.aload_n 0, 1) := by decide +kernel
theorem dL_law_918 : decode cL_law 918 = .ok (.iload_n 3, 1) := by decide +kernel
theorem dL_law_919 : decode cL_law 919 = .ok (.iconst 2, 1) := by decide +kernel
theorem dL_law_920 : decode cL_law 920 = .ok (.iadd, 1) := by decide +kernel
theorem dL_law_921 : decode cL_law 921 = .ok (.iaload, 1) := by decide +kernel
theorem dL_law_922 : decode cL_law 922 = .ok (.invokevirtual 95, 3) := by decide +kernel
theorem dL_law_925 : decode cL_law 925 = .ok (.aload_n 2, 1) := by decide +kernel
theorem dL_law_926 : decode cL_law 926 = .ok (.aload_n 0, 1) := by decide +kernel
theorem dL_law_927 : decode cL_law 927 = .ok (.iload_n 3, 1) := by decide +kernel
theorem dL_law_928 : decode cL_law 928 = .ok (.iconst 1, 1) := by decide +kernel
theorem dL_law_929 : decode cL_law 929 = .ok (.iadd, 1) := by decide +kernel
theorem dL_law_930 : decode cL_law 930 = .ok (.iaload, 1) := by decide +kernel
theorem dL_law_931 : decode cL_law 931 = .ok (.aload_n 0, 1) := by decide +kernel
theorem dL_law_932 : decode cL_law 932 = .ok (.iload_n 3, 1) := by decide +kernel
theorem dL_law_933 : decode cL_law 933 = .ok (.iconst 2, 1) := by decide +kernel
theorem dL_law_934 : decode cL_law 934 = .ok (.iadd, 1) := by decide +kernel
theorem dL_law_935 : decode cL_law 935 = .ok (.iaload, 1) := by decide +kernel
theorem dL_law_936 : decode cL_law 936 = .ok (.invokevirtual 98, 3) := by decide +kernel
theorem dL_law_939 : decode cL_law 939 = .ok (.if_icmp .eq 724, 3) := by decide +kernel
theorem dL_law_944 : decode cL_law 944 = .ok (.aload_n 1, 1) := by decide +kernel
theorem dL_law_945 : decode cL_law 945 = .ok (.aload_n 0, 1) := by decide +kernel
theorem dL_law_946 : decode cL_law 946 = .ok (.iload_n 3, 1) := by decide +kernel
theorem dL_law_947 : decode cL_law 947 = .ok (.iconst 1, 1) := by decide +kernel
theorem dL_law_948 : decode cL_law 948 = .ok (.iadd, 1) := by decide +kernel
theorem dL_law_949 : decode cL_law 949 = .ok (.iaload, 1) := by decide +kernel
theorem dL_law_950 : decode cL_law 950 = .ok (.aload_n 0, 1) := by decide +kernel
theorem dL_law_951 : decode cL_law 951 = .ok (.iload_n 3, 1) := by decide +kernel
theorem dL_law_952 : decode cL_law 952 = .ok (.iconst 2, 1) := by decide +kernel
theorem dL_law_953 : decode cL_law 953 = .ok (.iadd, 1) := by decide +kernel
theorem dL_law_954 : decode cL_law 954 = .ok (.iaload, 1) := by decide +kernel
theorem dL_law_955 : decode cL_law 955 = .ok (.aload_n 0, 1) := by decide +kernel
theorem dL_law_956 : decode cL_law 956 = .ok (.iload_n 3, 1) := by decide +kernel
theorem dL_law_957 : decode cL_law 957 = .ok (.iconst 3, 1) := by decide +kernel
theorem dL_law_958 : decode cL_law 958 = .ok (.iadd, 1) := by decide +kernel
theorem dL_law_959 : decode cL_law 959 = .ok (.iaload, 1) := by decide +kernel
theorem dL_law_960 : decode cL_law 960 = .ok (.aload_n 0, 1) := by decide +kernel
theorem dL_law_961 : decode cL_law 961 = .ok (.iload_n 3, 1) := by decide +kernel
theorem dL_law_962 : decode cL_law 962 = .ok (.iconst 4, 1) := by decide +kernel
theorem dL_law_963 : decode cL_law 963 = .ok (.iadd, 1) := by decide +kernel
theorem dL_law_964 : decode cL_law 964 = .ok (.iaload, 1) := by decide +kernel
theorem dL_law_965 : decode cL_law 965 = .ok (.invokevirtual 99, 3) := by decide +kernel
theorem dL_law_968 : decode cL_law 968 = .ok (.aload_n 2, 1) := by decide +kernel
theorem dL_law_969 : decode cL_law 969 = .ok (.aload_n 0, 1) := by decide +kernel
theorem dL_law_970 : decode cL_law 970 = .ok (.iload_n 3, 1) := by decide +kernel
theorem dL_law_971 : decode cL_law 971 = .ok (.iconst 1, 1) := by decide +kernel
theorem dL_law_972 : decode cL_law 972 = .ok (.iadd, 1) := by decide +kernel
theorem dL_law_973 : decode cL_law 973 = .ok (.iaload, 1) := by decide +kernel
theorem dL_law_974 : decode cL_law 974 = .ok (.aload_n 0, 1) := by decide +kernel
theorem dL_law_975 : decode cL_law 975 = .ok (.iload_n 3, 1) := by decide +kernel
theorem dL_law_976 : decode cL_law 976 = .ok (.iconst 2, 1) := by decide +kernel
theorem dL_law_977 : decode cL_law 977 = .ok (.iadd, 1) := by decide +kernel
theorem dL_law_978 : decode cL_law 978 = .ok (.iaload, 1) := by decide +kernel
theorem dL_law_979 : decode cL_law 979 = .ok (.aload_n 0, 1) := by decide +kernel
theorem dL_law_980 : decode cL_law 980 = .ok (.iload_n 3, 1) := by decide +kernel
theorem dL_law_981 : decode cL_law 981 = .ok (.iconst 3, 1) := by decide +kernel
theorem dL_law_982 : decode cL_law 982 = .ok (.iadd, 1) := by decide +kernel
theorem dL_law_983 : decode cL_law 983 = .ok (.iaload, 1) := by decide +kernel
theorem dL_law_984 : decode cL_law 984 = .ok (.aload_n 0, 1) := by decide +kernel
theorem dL_law_985 : decode cL_law 985 = .ok (.iload_n 3, 1) := by decide +kernel
theorem dL_law_986 : decode cL_law 986 = .ok (.iconst 4, 1) := by decide +kernel
theorem dL_law_987 : decode cL_law 987 = .ok (.iadd, 1) := by decide +kernel
theorem dL_law_988 : decode cL_law 988 = .ok (.iaload, 1) := by decide +kernel
theorem dL_law_989 : decode cL_law 989 = .ok (.invokevirtual 102, 3) := by decide +kernel
theorem dL_law_992 : decode cL_law 992 = .ok (.if_icmp .eq 671, 3) := by decide +kernel
theorem dL_law_997 : decode cL_law 997 = .ok (.aload_n 1, 1) := by decide +kernel
theorem dL_law_998 : decode cL_law 998 = .ok (.aload_n 0, 1) := by decide +kernel
theorem dL_law_999 : decode cL_law 999 = .ok (.iload_n 3, 1) := by decide +kernel
theorem dL_law_1000 : decode cL_law 1000 = .ok (.iconst 1, 1) := by decide +kernel
theorem dL_law_1001 : decode cL_law 1001 = .ok (.iadd, 1) := by decide +kernel
theorem dL_law_1002 : decode cL_law 1002 = .ok (.iaload, 1) := by decide +kernel
theorem dL_law_1003 : decode cL_law 1003 = .ok (.aload_n 0, 1) := by decide +kernel
theorem dL_law_1004 : decode cL_law 1004 = .ok (.iload_n 3, 1) := by decide +kernel
theorem dL_law_1005 : decode cL_law 1005 = .ok (.iconst 2, 1) := by decide +kernel
theorem dL_law_1006 : decode cL_law 1006 = .ok (.iadd, 1) := by decide +kernel
theorem dL_law_1007 : decode cL_law 1007 = .ok (.iaload, 1) := by decide +kernel
theorem dL_law_1008 : decode cL_law 1008 = .ok (.aload_n 0, 1) := by decide +kernel
theorem dL_law_1009 : decode cL_law 1009 = .ok (.iload_n 3, 1) := by decide +kernel
theorem dL_law_1010 : decode cL_law 1010 = .ok (.iconst 3, 1) := by decide +kernel
theorem dL_law_1011 : decode cL_law 1011 = .ok (.iadd, 1) := by decide +kernel
theorem dL_law_1012 : decode cL_law 1012 = .ok (.iaload, 1) := by decide +kernel
theorem dL_law_1013 : decode cL_law 1013 = .ok (.invokevirtual 103, 3) := by decide +kernel
theorem dL_law_1016 : decode cL_law 1016 = .ok (.aload_n 2, 1) := by decide +kernel
theorem dL_law_1017 : decode cL_law 1017 = .ok (.aload_n 0, 1) := by decide +kernel
theorem dL_law_1018 : decode cL_law 1018 = .ok (.iload_n 3, 1) := by decide +kernel
theorem dL_law_1019 : decode cL_law 1019 = .ok (.iconst 1, 1) := by decide +kernel
theorem dL_law_1020 : decode cL_law 1020 = .ok (.iadd, 1) := by decide +kernel
theorem dL_law_1021 : decode cL_law 1021 = .ok (.iaload, 1) := by decide +kernel
theorem dL_law_1022 : decode cL_law 1022 = .ok (.aload_n 0, 1) := by decide +kernel
theorem dL_law_1023 : decode cL_law 1023 = .ok (.iload_n 3, 1) := by decide +kernel
theorem dL_law_1024 : decode cL_law 1024 = .ok (.iconst 2, 1) := by decide +kernel
theorem dL_law_1025 : decode cL_law 1025 = .ok (.iadd, 1) := by decide +kernel
theorem dL_law_1026 : decode cL_law 1026 = .ok (.iaload, 1) := by decide +kernel
theorem dL_law_1027 : decode cL_law 1027 = .ok (.aload_n 0, 1) := by decide +kernel
theorem dL_law_1028 : decode cL_law 1028 = .ok (.iload_n 3, 1) := by decide +kernel
theorem dL_law_1029 : decode cL_law 1029 = .ok (.iconst 3, 1) := by decide +kernel
theorem dL_law_1030 : decode cL_law 1030 = .ok (.iadd, 1) := by decide +kernel
theorem dL_law_1031 : decode cL_law 1031 = .ok (.iaload, 1) := by decide +kernel
theorem dL_law_1032 : decode cL_law 1032 = .ok (.invokevirtual 106, 3) := by decide +kernel
theorem dL_law_1035 : decode cL_law 1035 = .ok (.if_icmp .eq 628, 3) := by decide +kernel
theorem dL_law_1040 : decode cL_law 1040 = .ok (.aload_n 1, 1) := by decide +kernel
theorem dL_law_1041 : decode cL_law 1041 = .ok (.aload_n 0, 1) := by decide +kernel
theorem dL_law_1042 : decode cL_law 1042 = .ok (.iload_n 3, 1) := by decide +kernel
theorem dL_law_1043 : decode cL_law 1043 = .ok (.iconst 1, 1) := by decide +kernel
theorem dL_law_1044 : decode cL_law 1044 = .ok (.iadd, 1) := by decide +kernel
theorem dL_law_1045 : decode cL_law 1045 = .ok (.iaload, 1) := by decide +kernel
theorem dL_law_1046 : decode cL_law 1046 = .ok (.aload_n 0, 1) := by decide +kernel
theorem dL_law_1047 : decode cL_law 1047 = .ok (.iload_n 3, 1) := by decide +kernel
theorem dL_law_1048 : decode cL_law 1048 = .ok (.iconst 2, 1) := by decide +kernel
theorem dL_law_1049 : decode cL_law 1049 = .ok (.iadd, 1) := by decide +kernel
theorem dL_law_1050 : decode cL_law 1050 = .ok (.iaload, 1) := by decide +kernel
theorem dL_law_1051 : decode cL_law 1051 = .ok (.aload_n 0, 1) := by decide +kernel
theorem dL_law_1052 : decode cL_law 1052 = .ok (.iload_n 3, 1) := by decide +kernel
theorem dL_law_1053 : decode cL_law 1053 = .ok (.iconst 3, 1) := by decide +kernel
theorem dL_law_1054 : decode cL_law 1054 = .ok (.iadd, 1) := by decide +kernel
theorem dL_law_1055 : decode cL_law 1055 = .ok (.iaload, 1) := by decide +kernel
theorem dL_law_1056 : decode cL_law 1056 = .ok (.aload_n 0, 1) := by decide +kernel
theorem dL_law_1057 : decode cL_law 1057 = .ok (.iload_n 3, 1) := by decide +kernel
theorem dL_law_1058 : decode cL_law 1058 = .ok (.iconst 4, 1) := by decide +kernel
theorem dL_law_1059 : decode cL_law 1059 = .ok (.iadd, 1) := by decide +kernel
theorem dL_law_1060 : decode cL_law 1060 = .ok (.iaload, 1) := by decide +kernel
theorem dL_law_1061 : decode cL_law 1061 = .ok (.aload_n 0, 1) := by decide +kernel
theorem dL_law_1062 : decode cL_law 1062 = .ok (.iload_n 3, 1) := by decide +kernel
theorem dL_law_1063 : decode cL_law 1063 = .ok (.iconst 5, 1) := by decide +kernel
theorem dL_law_1064 : decode cL_law 1064 = .ok (.iadd, 1) := by decide +kernel
theorem dL_law_1065 : decode cL_law 1065 = .ok (.iaload, 1) := by decide +kernel
theorem dL_law_1066 : decode cL_law 1066 = .ok (.invokevirtual 107, 3) := by decide +kernel
theorem dL_law_1069 : decode cL_law 1069 = .ok (.aload_n 2, 1) := by decide +kernel
theorem dL_law_1070 : decode cL_law 1070 = .ok (.aload_n 0, 1) := by decide +kernel
theorem dL_law_1071 : decode cL_law 1071 = .ok (.iload_n 3, 1) := by decide +kernel
theorem dL_law_1072 : decode cL_law 1072 = .ok (.iconst 1, 1) := by decide +kernel
theorem dL_law_1073 : decode cL_law 1073 = .ok (.iadd, 1) := by decide +kernel
theorem dL_law_1074 : decode cL_law 1074 = .ok (.iaload, 1) := by decide +kernel
theorem dL_law_1075 : decode cL_law 1075 = .ok (.aload_n 0, 1) := by decide +kernel
theorem dL_law_1076 : decode cL_law 1076 = .ok (.iload_n 3, 1) := by decide +kernel
theorem dL_law_1077 : decode cL_law 1077 = .ok (.iconst 2, 1) := by decide +kernel
theorem dL_law_1078 : decode cL_law 1078 = .ok (.iadd, 1) := by decide +kernel
theorem dL_law_1079 : decode cL_law 1079 = .ok (.iaload, 1) := by decide +kernel
theorem dL_law_1080 : decode cL_law 1080 = .ok (.aload_n 0, 1) := by decide +kernel
theorem dL_law_1081 : decode cL_law 1081 = .ok (.iload_n 3, 1) := by decide +kernel
theorem dL_law_1082 : decode cL_law 1082 = .ok (.iconst 3, 1) := by decide +kernel
theorem dL_law_1083 : decode cL_law 1083 = .ok (.iadd, 1) := by decide +kernel
theorem dL_law_1084 : decode cL_law 1084 = .ok (.iaload, 1) := by decide +kernel
theorem dL_law_1085 : decode cL_law 1085 = .ok (.aload_n 0, 1) := by decide +kernel
theorem dL_law_1086 : decode cL_law 1086 = .ok (.iload_n 3, 1) := by decide +kernel
theorem dL_law_1087 : decode cL_law 1087 = .ok (.iconst 4, 1) := by decide +kernel
theorem dL_law_1088 : decode cL_law 1088 = .ok (.iadd, 1) := by decide +kernel
theorem dL_law_1089 : decode cL_law 1089 = .ok (.iaload, 1) := by decide +kernel
theorem dL_law_1090 : decode cL_law 1090 = .ok (.aload_n 0, 1) := by decide +kernel
theorem dL_law_1091 : decode cL_law 1091 = .ok (.iload_n 3, 1) := by decide +kernel
theorem dL_law_1092 : decode cL_law 1092 = .ok (.iconst 5, 1) := by decide +kernel
theorem dL_law_1093 : decode cL_law 1093 = .ok (.iadd, 1) := by decide +kernel
theorem dL_law_1094 : decode cL_law 1094 = .ok (.iaload, 1) := by decide +kernel
theorem dL_law_1095 : decode cL_law 1095 = .ok (.invokevirtual 110, 3) := by decide +kernel
theorem dL_law_1098 : decode cL_law 1098 = .ok (.if_icmp .eq 565, 3) := by decide +kernel
theorem dL_law_1103 : decode cL_law 1103 = .ok (.aload_n 1, 1) := by decide +kernel
theorem dL_law_1104 : decode cL_law 1104 = .ok (.aload_n 0, 1) := by decide +kernel
theorem dL_law_1105 : decode cL_law 1105 = .ok (.iload_n 3, 1) := by decide +kernel
theorem dL_law_1106 : decode cL_law 1106 = .ok (.iconst 1, 1) := by decide +kernel
theorem dL_law_1107 : decode cL_law 1107 = .ok (.iadd, 1) := by decide +kernel
theorem dL_law_1108 : decode cL_law 1108 = .ok (.iaload, 1) := by decide +kernel
theorem dL_law_1109 : decode cL_law 1109 = .ok (.invokevirtual 111, 3) := by decide +kernel
theorem dL_law_1112 : decode cL_law 1112 = .ok (.aload_n 2, 1) := by decide +kernel
theorem dL_law_1113 : decode cL_law 1113 = .ok (.aload_n 0, 1) := by decide +kernel
theorem dL_law_1114 : decode cL_law 1114 = .ok (.iload_n 3, 1) := by decide +kernel
theorem dL_law_1115 : decode cL_law 1115 = .ok (.iconst 1, 1) := by decide +kernel
theorem dL_law_1116 : decode cL_law 1116 = .ok (.iadd, 1) := by decide +kernel
theorem dL_law_1117 : decode cL_law 1117 = .ok (.iaload, 1) := by decide +kernel
theorem dL_law_1118 : decode cL_law 1118 = .ok (.invokevirtual 114, 3) := by decide +kernel
theorem dL_law_1121 : decode cL_law 1121 = .ok (.if_icmp .eq 542, 3) := by decide +kernel
theorem dL_law_1126 : decode cL_law 1126 = .ok (.aload_n 1, 1) := by decide +kernel
theorem dL_law_1127 : decode cL_law 1127 = .ok (.aload_n 0, 1) := by decide +kernel
theorem dL_law_1128 : decode cL_law 1128 = .ok (.iload_n 3, 1) := by decide +kernel
theorem dL_law_1129 : decode cL_law 1129 = .ok (.iconst 1, 1) := by decide +kernel
theorem dL_law_1130 : decode cL_law 1130 = .ok (.iadd, 1) := by decide +kernel
theorem dL_law_1131 : decode cL_law 1131 = .ok (.iaload, 1) := by decide +kernel
theorem dL_law_1132 : decode cL_law 1132 = .ok (.invokevirtual 115, 3) := by decide +kernel
theorem dL_law_1135 : decode cL_law 1135 = .ok (.aload_n 2, 1) := by decide +kernel
theorem dL_law_1136 : decode cL_law 1136 = .ok (.aload_n 0, 1) := by decide +kernel
theorem dL_law_1137 : decode cL_law 1137 = .ok (.iload_n 3, 1) := by decide +kernel
theorem dL_law_1138 : decode cL_law 1138 = .ok (.iconst 1, 1) := by decide +kernel
theorem dL_law_1139 : decode cL_law 1139 = .ok (.iadd, 1) := by decide +kernel
theorem dL_law_1140 : decode cL_law 1140 = .ok (.iaload, 1) := by decide +kernel
theorem dL_law_1141 : decode cL_law 1141 = .ok (.invokevirtual 118, 3) := by decide +kernel
theorem dL_law_1144 : decode cL_law 1144 = .ok (.if_icmp .eq 519, 3) := by decide +kernel
theorem dL_law_1149 : decode cL_law 1149 = .ok (.aload_n 1, 1) := by decide +kernel
theorem dL_law_1150 : decode cL_law 1150 = .ok (.invokevirtual 119, 3) := by decide +kernel
theorem dL_law_1153 : decode cL_law 1153 = .ok (.aload_n 2, 1) := by decide +kernel
theorem dL_law_1154 : decode cL_law 1154 = .ok (.invokevirtual 122, 3) := by decide +kernel
theorem dL_law_1157 : decode cL_law 1157 = .ok (.if_icmp .eq 506, 3) := by decide +kernel
theorem dL_law_1162 : decode cL_law 1162 = .ok (.aload_n 1, 1) := by decide +kernel
theorem dL_law_1163 : decode cL_law 1163 = .ok (.aload_n 0, 1) := by decide +kernel
theorem dL_law_1164 : decode cL_law 1164 = .ok (.iload_n 3, 1) := by decide +kernel
theorem dL_law_1165 : decode cL_law 1165 = .ok (.iconst 1, 1) := by decide +kernel
theorem dL_law_1166 : decode cL_law 1166 = .ok (.iadd, 1) := by decide +kernel
theorem dL_law_1167 : decode cL_law 1167 = .ok (.iaload, 1) := by decide +kernel
theorem dL_law_1168 : decode cL_law 1168 = .ok (.invokevirtual 123, 3) := by decide +kernel
theorem dL_law_1171 : decode cL_law 1171 = .ok (.aload_n 2, 1) := by decide +kernel
theorem dL_law_1172 : decode cL_law 1172 = .ok (.aload_n 0, 1) := by decide +kernel
theorem dL_law_1173 : decode cL_law 1173 = .ok (.iload_n 3, 1) := by decide +kernel
theorem dL_law_1174 : decode cL_law 1174 = .ok (.iconst 1, 1) := by decide +kernel
theorem dL_law_1175 : decode cL_law 1175 = .ok (.iadd, 1) := by decide +kernel
theorem dL_law_1176 : decode cL_law 1176 = .ok (.iaload, 1) := by decide +kernel
theorem dL_law_1177 : decode cL_law 1177 = .ok (.invokevirtual 126, 3) := by decide +kernel
theorem dL_law_1180 : decode cL_law 1180 = .ok (.if_icmp .eq 483, 3) := by decide +kernel
theorem dL_law_1185 : decode cL_law 1185 = .ok (.aload_n 1, 1) := by decide +kernel
theorem dL_law_1186 : decode cL_law 1186 = .ok (.aload_n 0, 1) := by decide +kernel
theorem dL_law_1187 : decode cL_law 1187 = .ok (.iload_n 3, 1) := by decide +kernel
theorem dL_law_1188 : decode cL_law 1188 = .ok (.iconst 1, 1) := by decide +kernel
theorem dL_law_1189 : decode cL_law 1189 = .ok (.iadd, 1) := by decide +kernel
theorem dL_law_1190 : decode cL_law 1190 = .ok (.iaload, 1) := by decide +kernel
theorem dL_law_1191 : decode cL_law 1191 = .ok (.invokevirtual 127, 3) := by decide +kernel
theorem dL_law_1194 : decode cL_law 1194 = .ok (.aload_n 2, 1) := by decide +kernel
theorem dL_law_1195 : decode cL_law 1195 = .ok (.aload_n 0, 1) := by decide +kernel
theorem dL_law_1196 : decode cL_law 1196 = .ok (.iload_n 3, 1) := by decide +kernel
theorem dL_law_1197 : decode cL_law 1197 = .ok (.iconst 1, 1) := by decide +kernel
theorem dL_law_1198 : decode cL_law 1198 = .ok (.iadd, 1) := by decide +kernel
theorem dL_law_1199 : decode cL_law 1199 = .ok (.iaload, 1) := by decide +kernel
theorem dL_law_1200 : decode cL_law 1200 = .ok (.invokevirtual 130, 3) := by decide +kernel
theorem dL_law_1203 : decode cL_law 1203 = .ok (.if_icmp .eq 460, 3) := by decide +kernel
theorem dL_law_1208 : decode cL_law 1208 = .ok (.aload_n 1, 1) := by decide +kernel
theorem dL_law_1209 : decode cL_law 1209 = .ok (.aload_n 0, 1) := by decide +kernel
theorem dL_law_1210 : decode cL_law 1210 = .ok (.iload_n 3, 1) := by decide +kernel
theorem dL_law_1211 : decode cL_law 1211 = .ok (.iconst 1, 1) := by decide +kernel
theorem dL_law_1212 : decode cL_law 1212 = .ok (.iadd, 1) := by decide +kernel
theorem dL_law_1213 : decode cL_law 1213 = .ok (.iaload, 1) := by decide +kernel
theorem dL_law_1214 : decode cL_law 1214 = .ok (.aload_n 0, 1) := by decide +kernel
theorem dL_law_1215 : decode cL_law 1215 = .ok (.iload_n 3, 1) := by decide +kernel
theorem dL_law_1216 : decode cL_law 1216 = .ok (.iconst 2, 1) := by decide +kernel
theorem dL_law_1217 : decode cL_law 1217 = .ok (.iadd, 1) := by decide +kernel
theorem dL_law_1218 : decode cL_law 1218 = .ok (.iaload, 1) := by decide +kernel
theorem dL_law_1219 : decode cL_law 1219 = .ok (.aload_n 0, 1) := by decide +kernel
theorem dL_law_1220 : decode cL_law 1220 = .ok (.iload_n 3, 1) := by decide +kernel
theorem dL_law_1221 : decode cL_law 1221 = .ok (.iconst 3, 1) := by decide +kernel
theorem dL_law_1222 : decode cL_law 1222 = .ok (.iadd, 1) := by decide +kernel
theorem dL_law_1223 : decode cL_law 1223 = .ok (.iaload, 1) := by decide +kernel
theorem dL_law_1224 : decode cL_law 1224 = .ok (.invokevirtual 131, 3) := by decide +kernel
theorem dL_law_1227 : decode cL_law 1227 = .ok (.aload_n 2, 1) := by decide +kernel
theorem dL_law_1228 : decode cL_law 1228 = .ok (.aload_n 0, 1) := by decide +kernel
theorem dL_law_1229 : decode cL_law 1229 = .ok (.iload_n 3, 1) := by decide +kernel
theorem dL_law_1230 : decode cL_law 1230 = .ok (.iconst 1, 1) := by decide +kernel
theorem dL_law_1231 : decode cL_law 1231 = .ok (.iadd, 1) := by decide +kernel
theorem dL_law_1232 : decode cL_law 1232 = .ok (.iaload, 1) := by decide +kernel
theorem dL_law_1233 : decode cL_law 1233 = .ok (.aload_n 0, 1) := by decide +kernel
theorem dL_law_1234 : decode cL_law 1234 = .ok (.iload_n 3, 1) := by decide +kernel
theorem dL_law_1235 : decode cL_law 1235 = .ok (.iconst 2, 1) := by decide +kernel
theorem dL_law_1236 : decode cL_law 1236 = .ok (.iadd, 1) := by decide +kernel
theorem dL_law_1237 : decode cL_law 1237 = .ok (.iaload, 1) := by decide +kernel
theorem dL_law_1238 : decode cL_law 1238 = .ok (.aload_n 0, 1) := by decide +kernel
theorem dL_law_1239 : decode cL_law 1239 = .ok (.iload_n 3, 1) := by decide +kernel
theorem dL_law_1240 : decode cL_law 1240 = .ok (.iconst 3, 1) := by decide +kernel
theorem dL_law_1241 : decode cL_law 1241 = .ok (.iadd, 1) := by decide +kernel
theorem dL_law_1242 : decode cL_law 1242 = .ok (.iaload, 1) := by decide +kernel
theorem dL_law_1243 : decode cL_law 1243 = .ok (.invokevirtual 134, 3) := by decide +kernel
theorem dL_law_1246 : decode cL_law 1246 = .ok (.if_icmp .eq 417, 3) := by decide +kernel
theorem dL_law_1251 : decode cL_law 1251 = .ok (.aload_n 1, 1) := by decide +kernel
theorem dL_law_1252 : decode cL_law 1252 = .ok (.aload_n 0, 1) := by decide +kernel
theorem dL_law_1253 : decode cL_law 1253 = .ok (.iload_n 3, 1) := by decide +kernel
theorem dL_law_1254 : decode cL_law 1254 = .ok (.iconst 1, 1) := by decide +kernel
theorem dL_law_1255 : decode cL_law 1255 = .ok (.iadd, 1) := by decide +kernel
theorem dL_law_1256 : decode cL_law 1256 = .ok (.iaload, 1) := by decide +kernel
theorem dL_law_1257 : decode cL_law 1257 = .ok (.aload_n 0, 1) := by decide +kernel
theorem dL_law_1258 : decode cL_law 1258 = .ok (.iload_n 3, 1) := by decide +kernel
theorem dL_law_1259 : decode cL_law 1259 = .ok (.iconst 2, 1) := by decide +kernel
theorem dL_law_1260 : decode cL_law 1260 = .ok (.iadd, 1) := by decide +kernel
theorem dL_law_1261 : decode cL_law 1261 = .ok (.iaload, 1) := by decide +kernel
theorem dL_law_1262 : decode cL_law 1262 = .ok (.invokevirtual 135, 3) := by decide +kernel
theorem dL_law_1265 : decode cL_law 1265 = .ok (.aload_n 2, 1) := by decide +kernel
theorem dL_law_1266 : decode cL_law 1266 = .ok (.aload_n 0, 1) := by decide +kernel
theorem dL_law_1267 : decode cL_law 1267 = .ok (.iload_n 3, 1) := by decide +kernel
theorem dL_law_1268 : decode cL_law 1268 = .ok (.iconst 1, 1) := by decide +kernel
theorem dL_law_1269 : decode cL_law 1269 = .ok (.iadd, 1) := by decide +kernel
theorem dL_law_1270 : decode cL_law 1270 = .ok (.iaload, 1) := by decide +kernel
theorem dL_law_1271 : decode cL_law 1271 = .ok (.aload_n 0, 1) := by decide +kernel
theorem dL_law_1272 : decode cL_law 1272 = .ok (.iload_n 3, 1) := by decide +kernel
theorem dL_law_1273 : decode cL_law 1273 = .ok (.iconst 2, 1) := by decide +kernel
theorem dL_law_1274 : decode cL_law 1274 = .ok (.iadd, 1) := by decide +kernel
theorem dL_law_1275 : decode cL_law 1275 = .ok (.iaload, 1) := by decide +kernel
theorem dL_law_1276 : decode cL_law 1276 = .ok (.invokevirtual 138, 3) := by decide +kernel
theorem dL_law_1279 : decode cL_law 1279 = .ok (.if_icmp .eq 384, 3) := by decide +kernel
theorem dL_law_1284 : decode cL_law 1284 = .ok (.aload_n 1, 1) := by decide +kernel
theorem dL_law_1285 : decode cL_law 1285 = .ok (.aload_n 0, 1) := by decide +kernel
theorem dL_law_1286 : decode cL_law 1286 = .ok (.iload_n 3, 1) := by decide +kernel
theorem dL_law_1287 : decode cL_law 1287 = .ok (.iconst 1, 1) := by decide +kernel
theorem dL_law_1288 : decode cL_law 1288 = .ok (.iadd, 1) := by decide +kernel
theorem dL_law_1289 : decode cL_law 1289 = .ok (.iaload, 1) := by decide +kernel
theorem dL_law_1290 : decode cL_law 1290 = .ok (.aload_n 0, 1) := by decide +kernel
theorem dL_law_1291 : decode cL_law 1291 = .ok (.iload_n 3, 1) := by decide +kernel
theorem dL_law_1292 : decode cL_law 1292 = .ok (.iconst 2, 1) := by decide +kernel
theorem dL_law_1293 : decode cL_law 1293 = .ok (.iadd, 1) := by decide +kernel
theorem dL_law_1294 : decode cL_law 1294 = .ok (.iaload, 1) := by decide +kernel
theorem dL_law_1295 : decode cL_law 1295 = .ok (.invokevirtual 139, 3) := by decide +kernel
theorem dL_law_1298 : decode cL_law 1298 = .ok (.aload_n 2, 1) := by decide +kernel
theorem dL_law_1299 : decode cL_law 1299 = .ok (.aload_n 0, 1) := by decide +kernel
theorem dL_law_1300 : decode cL_law 1300 = .ok (.iload_n 3, 1) := by decide +kernel
theorem dL_law_1301 : decode cL_law 1301 = .ok (.iconst 1, 1) := by decide +kernel
theorem dL_law_1302 : decode cL_law 1302 = .ok (.iadd, 1) := by decide +kernel
theorem dL_law_1303 : decode cL_law 1303 = .ok (.iaload, 1) := by decide +kernel
theorem dL_law_1304 : decode cL_law 1304 = .ok (.aload_n 0, 1) := by decide +kernel
theorem dL_law_1305 : decode cL_law 1305 = .ok (.iload_n 3, 1) := by decide +kernel
theorem dL_law_1306 : decode cL_law 1306 = .ok (.iconst 2, 1) := by decide +kernel
theorem dL_law_1307 : decode cL_law 1307 = .ok (.iadd, 1) := by decide +kernel
theorem dL_law_1308 : decode cL_law 1308 = .ok (.iaload, 1) := by decide +kernel
theorem dL_law_1309 : decode cL_law 1309 = .ok (.invokevirtual 142, 3) := by decide +kernel
theorem dL_law_1312 : decode cL_law 1312 = .ok (.if_icmp .eq 351, 3) := by decide +kernel
theorem dL_law_1317 : decode cL_law 1317 = .ok (.aload_n 1, 1) := by decide +kernel
theorem dL_law_1318 : decode cL_law 1318 = .ok (.aload_n 0, 1) := by decide +kernel
theorem dL_law_1319 : decode cL_law 1319 = .ok (.iload_n 3, 1) := by decide +kernel
theorem dL_law_1320 : decode cL_law 1320 = .ok (.iconst 1, 1) := by decide +kernel
theorem dL_law_1321 : decode cL_law 1321 = .ok (.iadd, 1) := by decide +kernel
theorem dL_law_1322 : decode cL_law 1322 = .ok (.iaload, 1) := by decide +kernel
theorem dL_law_1323 : decode cL_law 1323 = .ok (.aload_n 0, 1) := by decide +kernel
theorem dL_law_1324 : decode cL_law 1324 = .ok (.iload_n 3, 1) := by decide +kernel
theorem dL_law_1325 : decode cL_law 1325 = .ok (.iconst 2, 1) := by decide +kernel
theorem dL_law_1326 : decode cL_law 1326 = .ok (.iadd, 1) := by decide +kernel
theorem dL_law_1327 : decode cL_law 1327 = .ok (.iaload, 1) := by decide +kernel
theorem dL_law_1328 : decode cL_law 1328 = .ok (.aload_n 0, 1) := by decide +kernel
theorem dL_law_1329 : decode cL_law 1329 = .ok (.iload_n 3, 1) := by decide +kernel
theorem dL_law_1330 : decode cL_law 1330 = .ok (.iconst 3, 1) := by decide +kernel
theorem dL_law_1331 : decode cL_law 1331 = .ok (.iadd, 1) := by decide +kernel
theorem dL_law_1332 : decode cL_law 1332 = .ok (.iaload, 1) := by decide +kernel
theorem dL_law_1333 : decode cL_law 1333 = .ok (.invokevirtual 143, 3) := by decide +kernel
theorem dL_law_1336 : decode cL_law 1336 = .ok (.aload_n 2, 1) := by decide +kernel
theorem dL_law_1337 : decode cL_law 1337 = .ok (.aload_n 0, 1) := by decide +kernel
theorem dL_law_1338 : decode cL_law 1338 = .ok (.iload_n 3, 1) := by decide +kernel
theorem dL_law_1339 : decode cL_law 1339 = .ok (.iconst 1, 1) := by decide +kernel
theorem dL_law_1340 : decode cL_law 1340 = .ok (.iadd, 1) := by decide +kernel
theorem dL_law_1341 : decode cL_law 1341 = .ok (.iaload, 1) := by decide +kernel
theorem dL_law_1342 : decode cL_law 1342 = .ok (.aload_n 0, 1) := by decide +kernel
theorem dL_law_1343 : decode cL_law 1343 = .ok (.iload_n 3, 1) := by decide +kernel
theorem dL_law_1344 : decode cL_law 1344 = .ok (.iconst 2, 1) := by decide +kernel
theorem dL_law_1345 : decode cL_law 1345 = .ok (.iadd, 1) := by decide +kernel
theorem dL_law_1346 : decode cL_law 1346 = .ok (.iaload, 1) := by decide +kernel
theorem dL_law_1347 : decode cL_law 1347 = .ok (.aload_n 0, 1) := by decide +kernel
theorem dL_law_1348 : decode cL_law 1348 = .ok (.iload_n 3, 1) := by decide +kernel
theorem dL_law_1349 : decode cL_law 1349 = .ok (.iconst 3, 1) := by decide +kernel
theorem dL_law_1350 : decode cL_law 1350 = .ok (.iadd, 1) := by decide +kernel
theorem dL_law_1351 : decode cL_law 1351 = .ok (.iaload, 1) := by decide +kernel
theorem dL_law_1352 : decode cL_law 1352 = .ok (.invokevirtual 146, 3) := by decide +kernel
theorem dL_law_1355 : decode cL_law 1355 = .ok (.if_icmp .eq 308, 3) := by decide +kernel
theorem dL_law_1360 : decode cL_law 1360 = .ok (.aload_n 1, 1) := by decide +kernel
theorem dL_law_1361 : decode cL_law 1361 = .ok (.aload_n 0, 1) := by decide +kernel
theorem dL_law_1362 : decode cL_law 1362 = .ok (.iload_n 3, 1) := by decide +kernel
theorem dL_law_1363 : decode cL_law 1363 = .ok (.iconst 1, 1) := by decide +kernel
theorem dL_law_1364 : decode cL_law 1364 = .ok (.iadd, 1) := by decide +kernel
theorem dL_law_1365 : decode cL_law 1365 = .ok (.iaload, 1) := by decide +kernel
theorem dL_law_1366 : decode cL_law 1366 = .ok (.aload_n 0, 1) := by decide +kernel
theorem dL_law_1367 : decode cL_law 1367 = .ok (.iload_n 3, 1) := by decide +kernel
theorem dL_law_1368 : decode cL_law 1368 = .ok (.iconst 2, 1) := by decide +kernel
theorem dL_law_1369 : decode cL_law 1369 = .ok (.iadd, 1) := by decide +kernel
theorem dL_law_1370 : decode cL_law 1370 = .ok (.iaload, 1) := by decide +kernel
theorem dL_law_1371 : decode cL_law 1371 = .ok (.invokevirtual 147, 3) := by decide +kernel
theorem dL_law_1374 : decode cL_law 1374 = .ok (.aload_n 2, 1) := by decide +kernel
theorem dL_law_1375 : decode cL_law 1375 = .ok (.aload_n 0, 1) := by decide +kernel
theorem dL_law_1376 : decode cL_law 1376 = .ok (.iload_n 3, 1) := by decide +kernel
theorem dL_law_1377 : decode cL_law 1377 = .ok (.iconst 1, 1) := by decide +kernel
theorem dL_law_1378 : decode cL_law 1378 = .ok (.iadd, 1) := by decide +kernel
theorem dL_law_1379 : decode cL_law 1379 = .ok (.iaload, 1) := by decide +kernel
theorem dL_law_1380 : decode cL_law 1380 = .ok (.aload_n 0, 1) := by decide +kernel
theorem dL_law_1381 : decode cL_law 1381 = .ok (.iload_n 3, 1) := by decide +kernel
theorem dL_law_1382 : decode cL_law 1382 = .ok (.iconst 2, 1) := by decide +kernel
theorem dL_law_1383 : decode cL_law 1383 = .ok (.iadd, 1) := by decide +kernel
theorem dL_law_1384 : decode cL_law 1384 = .ok (.iaload, 1) := by decide +kernel
theorem dL_law_1385 : decode cL_law 1385 = .ok (.invokevirtual 150, 3) := by decide +kernel
theorem dL_law_1388 : decode cL_law 1388 = .ok (.if_icmp .eq 275, 3) := by decide +kernel
theorem dL_law_1393 : decode cL_law 1393 = .ok (.aload_n 1, 1) := by decide +kernel
theorem dL_law_1394 : decode cL_law 1394 = .ok (.aload_n 0, 1) := by decide +kernel
theorem dL_law_1395 : decode cL_law 1395 = .ok (.iload_n 3, 1) := by decide +kernel
theorem dL_law_1396 : decode cL_law 1396 = .ok (.iconst 1, 1) := by decide +kernel
theorem dL_law_1397 : decode cL_law 1397 = .ok (.iadd, 1) := by decide +kernel
theorem dL_law_1398 : decode cL_law 1398 = .ok (.iaload, 1) := by decide +kernel
theorem dL_law_1399 : decode cL_law 1399 = .ok (.invokevirtual 151, 3) := by decide +kernel
theorem dL_law_1402 : decode cL_law 1402 = .ok (.aload_n 2, 1) := by decide +kernel
theorem dL_law_1403 : decode cL_law 1403 = .ok (.aload_n 0, 1) := by decide +kernel
theorem dL_law_1404 : decode cL_law 1404 = .ok (.iload_n 3, 1) := by decide +kernel
theorem dL_law_1405 : decode cL_law 1405 = .ok (.iconst 1, 1) := by decide +kernel
theorem dL_law_1406 : decode cL_law 1406 = .ok (.iadd, 1) := by decide +kernel
theorem dL_law_1407 : decode cL_law 1407 = .ok (.iaload, 1) := by decide +kernel
theorem dL_law_1408 : decode cL_law 1408 = .ok (.invokevirtual 154, 3) := by decide +kernel
theorem dL_law_1411 : decode cL_law 1411 = .ok (.if_icmp .eq 252, 3) := by decide +kernel
theorem dL_law_1416 : decode cL_law 1416 = .ok (.aload_n 1, 1) := by decide +kernel
theorem dL_law_1417 : decode cL_law 1417 = .ok (.aload_n 0, 1) := by decide +kernel
theorem dL_law_1418 : decode cL_law 1418 = .ok (.iload_n 3, 1) := by decide +kernel
theorem dL_law_1419 : decode cL_law 1419 = .ok (.iconst 1, 1) := by decide +kernel
theorem dL_law_1420 : decode cL_law 1420 = .ok (.iadd, 1) := by decide +kernel
theorem dL_law_1421 : decode cL_law 1421 = .ok (.iaload, 1) := by decide +kernel
theorem dL_law_1422 : decode cL_law 1422 = .ok (.aload_n 0, 1) := by decide +kernel
theorem dL_law_1423 : decode cL_law 1423 = .ok (.iload_n 3, 1) := by decide +kernel
theorem dL_law_1424 : decode cL_law 1424 = .ok (.iconst 2, 1) := by decide +kernel
theorem dL_law_1425 : decode cL_law 1425 = .ok (.iadd, 1) := by decide +kernel
theorem dL_law_1426 : decode cL_law 1426 = .ok (.iaload, 1) := by decide +kernel
theorem dL_law_1427 : decode cL_law 1427 = .ok (.aload_n 0, 1) := by decide +kernel
theorem dL_law_1428 : decode cL_law 1428 = .ok (.iload_n 3, 1) := by decide +kernel
theorem dL_law_1429 : decode cL_law 1429 = .ok (.iconst 3, 1) := by decide +kernel
theorem dL_law_1430 : decode cL_law 1430 = .ok (.iadd, 1) := by decide +kernel
theorem dL_law_1431 : decode cL_law 1431 = .ok (.iaload, 1) := by decide +kernel
theorem dL_law_1432 : decode cL_law 1432 = .ok (.invokevirtual 155, 3) := by decide +kernel
theorem dL_law_1435 : decode cL_law 1435 = .ok (.aload_n 2, 1) := by decide +kernel
theorem dL_law_1436 : decode cL_law 1436 = .ok (.aload_n 0, 1) := by decide +kernel
theorem dL_law_1437 : decode cL_law 1437 = .ok (.iload_n 3, 1) := by decide +kernel
theorem dL_law_1438 : decode cL_law 1438 = .ok (.iconst 1, 1) := by decide +kernel
theorem dL_law_1439 : decode cL_law 1439 = .ok (.iadd, 1) := by decide +kernel
theorem dL_law_1440 : decode cL_law 1440 = .ok (.iaload, 1) := by decide +kernel
theorem dL_law_1441 : decode cL_law 1441 = .ok (.aload_n 0, 1) := by decide +kernel
theorem dL_law_1442 : decode cL_law 1442 = .ok (.iload_n 3, 1) := by decide +kernel
theorem dL_law_1443 : decode cL_law 1443 = .ok (.iconst 2, 1) := by decide +kernel
theorem dL_law_1444 : decode cL_law 1444 = .ok (.iadd, 1) := by decide +kernel
theorem dL_law_1445 : decode cL_law 1445 = .ok (.iaload, 1) := by decide +kernel
theorem dL_law_1446 : decode cL_law 1446 = .ok (.aload_n 0, 1) := by decide +kernel
theorem dL_law_1447 : decode cL_law 1447 = .ok (.iload_n 3, 1) := by decide +kernel
theorem dL_law_1448 : decode cL_law 1448 = .ok (.iconst 3, 1) := by decide +kernel
theorem dL_law_1449 : decode cL_law 1449 = .ok (.iadd, 1) := by decide +kernel
theorem dL_law_1450 : decode cL_law 1450 = .ok (.iaload, 1) := by decide +kernel
theorem dL_law_1451 : decode cL_law 1451 = .ok (.invokevirtual 158, 3) := by decide +kernel
theorem dL_law_1454 : decode cL_law 1454 = .ok (.if_icmp .eq 209, 3) := by decide +kernel
theorem dL_law_1459 : decode cL_law 1459 = .ok (.aload_n 1, 1) := by decide +kernel
theorem dL_law_1460 : decode cL_law 1460 = .ok (.aload_n 0, 1) := by decide +kernel
theorem dL_law_1461 : decode cL_law 1461 = .ok (.iload_n 3, 1) := by decide +kernel
theorem dL_law_1462 : decode cL_law 1462 = .ok (.iconst 1, 1) := by decide +kernel
theorem dL_law_1463 : decode cL_law 1463 = .ok (.iadd, 1) := by decide +kernel
theorem dL_law_1464 : decode cL_law 1464 = .ok (.iaload, 1) := by decide +kernel
theorem dL_law_1465 : decode cL_law 1465 = .ok (.aload_n 0, 1) := by decide +kernel
theorem dL_law_1466 : decode cL_law 1466 = .ok (.iload_n 3, 1) := by decide +kernel
theorem dL_law_1467 : decode cL_law 1467 = .ok (.iconst 2, 1) := by decide +kernel
theorem dL_law_1468 : decode cL_law 1468 = .ok (.iadd, 1) := by decide +kernel
theorem dL_law_1469 : decode cL_law 1469 = .ok (.iaload, 1) := by decide +kernel
theorem dL_law_1470 : decode cL_law 1470 = .ok (.invokevirtual 159, 3) := by decide +kernel
theorem dL_law_1473 : decode cL_law 1473 = .ok (.aload_n 2, 1) := by decide +kernel
theorem dL_law_1474 : decode cL_law 1474 = .ok (.aload_n 0, 1) := by decide +kernel
theorem dL_law_1475 : decode cL_law 1475 = .ok (.iload_n 3, 1) := by decide +kernel
theorem dL_law_1476 : decode cL_law 1476 = .ok (.iconst 1, 1) := by decide +kernel
theorem dL_law_1477 : decode cL_law 1477 = .ok (.iadd, 1) := by decide +kernel
theorem dL_law_1478 : decode cL_law 1478 = .ok (.iaload, 1) := by decide +kernel
theorem dL_law_1479 : decode cL_law 1479 = .ok (.aload_n 0, 1) := by decide +kernel
theorem dL_law_1480 : decode cL_law 1480 = .ok (.iload_n 3, 1) := by decide +kernel
theorem dL_law_1481 : decode cL_law 1481 = .ok (.iconst 2, 1) := by decide +kernel
theorem dL_law_1482 : decode cL_law 1482 = .ok (.iadd, 1) := by decide +kernel
theorem dL_law_1483 : decode cL_law 1483 = .ok (.iaload, 1) := by decide +kernel
theorem dL_law_1484 : decode cL_law 1484 = .ok (.invokevirtual 162, 3) := by decide +kernel
theorem dL_law_1487 : decode cL_law 1487 = .ok (.if_icmp .eq 176, 3) := by decide +kernel
theorem dL_law_1492 : decode cL_law 1492 = .ok (.aload_n 1, 1) := by decide +kernel
theorem dL_law_1493 : decode cL_law 1493 = .ok (.aload_n 0, 1) := by decide +kernel
theorem dL_law_1494 : decode cL_law 1494 = .ok (.iload_n 3, 1) := by decide +kernel
theorem dL_law_1495 : decode cL_law 1495 = .ok (.iconst 1, 1) := by decide +kernel
theorem dL_law_1496 : decode cL_law 1496 = .ok (.iadd, 1) := by decide +kernel
theorem dL_law_1497 : decode cL_law 1497 = .ok (.iaload, 1) := by decide +kernel
theorem dL_law_1498 : decode cL_law 1498 = .ok (.aload_n 0, 1) := by decide +kernel
theorem dL_law_1499 : decode cL_law 1499 = .ok (.iload_n 3, 1) := by decide +kernel
theorem dL_law_1500 : decode cL_law 1500 = .ok (.iconst 2, 1) := by decide +kernel
theorem dL_law_1501 : decode cL_law 1501 = .ok (.iadd, 1) := by decide +kernel
theorem dL_law_1502 : decode cL_law 1502 = .ok (.iaload, 1) := by decide +kernel
theorem dL_law_1503 : decode cL_law 1503 = .ok (.invokevirtual 163, 3) := by decide +kernel
theorem dL_law_1506 : decode cL_law 1506 = .ok (.aload_n 2, 1) := by decide +kernel
theorem dL_law_1507 : decode cL_law 1507 = .ok (.aload_n 0, 1) := by decide +kernel
theorem dL_law_1508 : decode cL_law 1508 = .ok (.iload_n 3, 1) := by decide +kernel
theorem dL_law_1509 : decode cL_law 1509 = .ok (.iconst 1, 1) := by decide +kernel
theorem dL_law_1510 : decode cL_law 1510 = .ok (.iadd, 1) := by decide +kernel
theorem dL_law_1511 : decode cL_law 1511 = .ok (.iaload, 1) := by decide +kernel
theorem dL_law_1512 : decode cL_law 1512 = .ok (.aload_n 0, 1) := by decide +kernel
theorem dL_law_1513 : decode cL_law 1513 = .ok (.iload_n 3, 1) := by decide +kernel
theorem dL_law_1514 : decode cL_law 1514 = .ok (.iconst 2, 1) := by decide +kernel
theorem dL_law_1515 : decode cL_law 1515 = .ok (.iadd, 1) := by decide +kernel
theorem dL_law_1516 : decode cL_law 1516 = .ok (.iaload, 1) := by decide +kernel
theorem dL_law_1517 : decode cL_law 1517 = .ok (.invokevirtual 166, 3) := by decide +kernel
theorem dL_law_1520 : decode cL_law 1520 = .ok (.if_icmp .eq 143, 3) := by decide +kernel
theorem dL_law_1525 : decode cL_law 1525 = .ok (.aload_n 1, 1) := by decide +kernel
theorem dL_law_1526 : decode cL_law 1526 = .ok (.aload_n 0, 1) := by decide +kernel
theorem dL_law_1527 : decode cL_law 1527 = .ok (.iload_n 3, 1) := by decide +kernel
theorem dL_law_1528 : decode cL_law 1528 = .ok (.iconst 1, 1) := by decide +kernel
theorem dL_law_1529 : decode cL_law 1529 = .ok (.iadd, 1) := by decide +kernel
theorem dL_law_1530 : decode cL_law 1530 = .ok (.iaload, 1) := by decide +kernel
theorem dL_law_1531 : decode cL_law 1531 = .ok (.aload_n 0, 1) := by decide +kernel
theorem dL_law_1532 : decode cL_law 1532 = .ok (.iload_n 3, 1) := by decide +kernel
theorem dL_law_1533 : decode cL_law 1533 = .ok (.iconst 2, 1) := by decide +kernel
theorem dL_law_1534 : decode cL_law 1534 = .ok (.iadd, 1) := by decide +kernel
theorem dL_law_1535 : decode cL_law 1535 = .ok (.iaload, 1) := by decide +kernel
theorem dL_law_1536 : decode cL_law 1536 = .ok (.aload_n 0, 1) := by decide +kernel
theorem dL_law_1537 : decode cL_law 1537 = .ok (.iload_n 3, 1) := by decide +kernel
theorem dL_law_1538 : decode cL_law 1538 = .ok (.iconst 3, 1) := by decide +kernel
theorem dL_law_1539 : decode cL_law 1539 = .ok (.iadd, 1) := by decide +kernel
theorem dL_law_1540 : decode cL_law 1540 = .ok (.iaload, 1) := by decide +kernel
theorem dL_law_1541 : decode cL_law 1541 = .ok (.invokevirtual 167, 3) := by decide +kernel
theorem dL_law_1544 : decode cL_law 1544 = .ok (.aload_n 2, 1) := by decide +kernel
theorem dL_law_1545 : decode cL_law 1545 = .ok (.aload_n 0, 1) := by decide +kernel
theorem dL_law_1546 : decode cL_law 1546 = .ok (.iload_n 3, 1) := by decide +kernel
theorem dL_law_1547 : decode cL_law 1547 = .ok (.iconst 1, 1) := by decide +kernel
theorem dL_law_1548 : decode cL_law 1548 = .ok (.iadd, 1) := by decide +kernel
theorem dL_law_1549 : decode cL_law 1549 = .ok (.iaload, 1) := by decide +kernel
theorem dL_law_1550 : decode cL_law 1550 = .ok (.aload_n 0, 1) := by decide +kernel
theorem dL_law_1551 : decode cL_law 1551 = .ok (.iload_n 3, 1) := by decide +kernel
theorem dL_law_1552 : decode cL_law 1552 = .ok (.iconst 2, 1) := by decide +kernel
theorem dL_law_1553 : decode cL_law 1553 = .ok (.iadd, 1) := by decide +kernel
theorem dL_law_1554 : decode cL_law 1554 = .ok (.iaload, 1) := by decide +kernel
theorem dL_law_1555 : decode cL_law 1555 = .ok (.aload_n 0, 1) := by decide +kernel
theorem dL_law_1556 : decode cL_law 1556 = .ok (.iload_n 3, 1) := by decide +kernel
theorem dL_law_1557 : decode cL_law 1557 = .ok (.iconst 3, 1) := by decide +kernel
theorem dL_law_1558 : decode cL_law 1558 = .ok (.iadd, 1) := by decide +kernel
theorem dL_law_1559 : decode cL_law 1559 = .ok (.iaload, 1) := by decide +kernel
theorem dL_law_1560 : decode cL_law 1560 = .ok (.invokevirtual 170, 3) := by decide +kernel
theorem dL_law_1563 : decode cL_law 1563 = .ok (.if_icmp .eq 100, 3) := by decide +kernel
theorem dL_law_1568 : decode cL_law 1568 = .ok (.aload_n 1, 1) := by decide +kernel
theorem dL_law_1569 : decode cL_law 1569 = .ok (.aload_n 0, 1) := by decide +kernel
theorem dL_law_1570 : decode cL_law 1570 = .ok (.iload_n 3, 1) := by decide +kernel
theorem dL_law_1571 : decode cL_law 1571 = .ok (.iconst 1, 1) := by decide +kernel
theorem dL_law_1572 : decode cL_law 1572 = .ok (.iadd, 1) := by decide +kernel
theorem dL_law_1573 : decode cL_law 1573 = .ok (.iaload, 1) := by decide +kernel
theorem dL_law_1574 : decode cL_law 1574 = .ok (.invokevirtual 171, 3) := by decide +kernel
theorem dL_law_1577 : decode cL_law 1577 = .ok (.aload_n 2, 1) := by decide +kernel
theorem dL_law_1578 : decode cL_law 1578 = .ok (.aload_n 0, 1) := by decide +kernel
theorem dL_law_1579 : decode cL_law 1579 = .ok (.iload_n 3, 1) := by decide +kernel
theorem dL_law_1580 : decode cL_law 1580 = .ok (.iconst 1, 1) := by decide +kernel
theorem dL_law_1581 : decode cL_law 1581 = .ok (.iadd, 1) := by decide +kernel
theorem dL_law_1582 : decode cL_law 1582 = .ok (.iaload, 1) := by decide +kernel
theorem dL_law_1583 : decode cL_law 1583 = .ok (.invokevirtual 174, 3) := by decide +kernel
theorem dL_law_1586 : decode cL_law 1586 = .ok (.if_icmp .eq 77, 3) := by decide +kernel
theorem dL_law_1591 : decode cL_law 1591 = .ok (.aload_n 1, 1) := by decide +kernel
theorem dL_law_1592 : decode cL_law 1592 = .ok (.aload_n 0, 1) := by decide +kernel
theorem dL_law_1593 : decode cL_law 1593 = .ok (.iload_n 3, 1) := by decide +kernel
theorem dL_law_1594 : decode cL_law 1594 = .ok (.iconst 1, 1) := by decide +kernel
theorem dL_law_1595 : decode cL_law 1595 = .ok (.iadd, 1) := by decide +kernel
theorem dL_law_1596 : decode cL_law 1596 = .ok (.iaload, 1) := by decide +kernel
theorem dL_law_1597 : decode cL_law 1597 = .ok (.invokevirtual 175, 3) := by decide +kernel
theorem dL_law_1600 : decode cL_law 1600 = .ok (.aload_n 2, 1) := by decide +kernel
theorem dL_law_1601 : decode cL_law 1601 = .ok (.aload_n 0, 1) := by decide +kernel
theorem dL_law_1602 : decode cL_law 1602 = .ok (.iload_n 3, 1) := by decide +kernel
theorem dL_law_1603 : decode cL_law 1603 = .ok (.iconst 1, 1) := by decide +kernel
theorem dL_law_1604 : decode cL_law 1604 = .ok (.iadd, 1) := by decide +kernel
theorem dL_law_1605 : decode cL_law 1605 = .ok (.iaload, 1) := by decide +kernel
theorem dL_law_1606 : decode cL_law 1606 = .ok (.invokevirtual 178, 3) := by decide +kernel
theorem dL_law_1609 : decode cL_law 1609 = .ok (.if_icmp .eq 54, 3) := by decide +kernel
theorem dL_law_1614 : decode cL_law 1614 = .ok (.aload_n 1, 1) := by decide +kernel
theorem dL_law_1615 : decode cL_law 1615 = .ok (.invokevirtual 179, 3) := by decide +kernel
theorem dL_law_1618 : decode cL_law 1618 = .ok (.aload_n 2, 1) := by decide +kernel
theorem dL_law_1619 : decode cL_law 1619 = .ok (.invokevirtual 182, 3) := by decide +kernel
theorem dL_law_1622 : decode cL_law 1622 = .ok (.if_icmp .eq 41, 3) := by decide +kernel
theorem dL_law_1627 : decode cL_law 1627 = .ok (.aload_n 1, 1) := by decide +kernel
theorem dL_law_1628 : decode cL_law 1628 = .ok (.invokevirtual 183, 3) := by decide +kernel
theorem dL_law_1631 : decode cL_law 1631 = .ok (.aload_n 2, 1) := by decide +kernel
theorem dL_law_1632 : decode cL_law 1632 = .ok (.invokevirtual 186, 3) := by decide +kernel
theorem dL_law_1635 : decode cL_law 1635 = .ok (.if_icmp .eq 28, 3) := by decide +kernel
theorem dL_law_1640 : decode cL_law 1640 = .ok (.aload_n 1, 1) := by decide +kernel
theorem dL_law_1641 : decode cL_law 1641 = .ok (.aload_n 0, 1) := by decide +kernel
theorem dL_law_1642 : decode cL_law 1642 = .ok (.iload_n 3, 1) := by decide +kernel
theorem dL_law_1643 : decode cL_law 1643 = .ok (.iconst 1, 1) := by decide +kernel
theorem dL_law_1644 : decode cL_law 1644 = .ok (.iadd, 1) := by decide +kernel
theorem dL_law_1645 : decode cL_law 1645 = .ok (.iaload, 1) := by decide +kernel
theorem dL_law_1646 : decode cL_law 1646 = .ok (.invokevirtual 187, 3) := by decide +kernel
theorem dL_law_1649 : decode cL_law 1649 = .ok (.aload_n 2, 1) := by decide +kernel
theorem dL_law_1650 : decode cL_law 1650 = .ok (.aload_n 0, 1) := by decide +kernel
theorem dL_law_1651 : decode cL_law 1651 = .ok (.iload_n 3, 1) := by decide +kernel
theorem dL_law_1652 : decode cL_law 1652 = .ok (.iconst 1, 1) := by decide +kernel
theorem dL_law_1653 : decode cL_law 1653 = .ok (.iadd, 1) := by decide +kernel
theorem dL_law_1654 : decode cL_law 1654 = .ok (.iaload, 1) := by decide +kernel
theorem dL_law_1655 : decode cL_law 1655 = .ok (.invokevirtual 190, 3) := by decide +kernel
theorem dL_law_1658 : decode cL_law 1658 = .ok (.if_icmp .eq 5, 3) := by decide +kernel
theorem dL_law_1663 : decode cL_law 1663 = .ok (.iinc 3 6, 3) := by decide +kernel
theorem dL_law_1666 : decode cL_law 1666 = .ok (.goto (-1648), 3) := by decide +kernel
theorem dL_law_1669 : decode cL_law 1669 = .ok (.iconst 1, 1) := by decide +kernel
