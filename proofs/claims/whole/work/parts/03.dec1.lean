theorem dX12_init_0 : decode cX12_init 0 = .ok (.aload_n 0, 1) := by decide +kernel
theorem dX12_init_1 : decode cX12_init 1 = .ok (.invokespecial 1, 3) := by decide +kernel
theorem dX12_init_4 : decode cX12_init 4 = .ok (.aload_n 0, 1) := by decide +kernel
theorem dX12_init_5 : decode cX12_init 5 = .ok (.bipush 7, 2) := by decide +kernel
theorem dX12_init_7 : decode cX12_init 7 = .ok (.newarray .int, 2) := by decide +kernel
theorem dX12_init_9 : decode cX12_init 9 = .ok (.putfield 7, 3) := by decide +kernel
theorem dX12_init_12 : decode cX12_init 12 = .ok (.aload_n 0, 1) := by decide +kernel
theorem dX12_init_13 : decode cX12_init 13 = .ok (.bipush 24, 2) := by decide +kernel
theorem dX12_init_15 : decode cX12_init 15 = .ok (.newarray .int, 2) := by decide +kernel
theorem dX12_init_17 : decode cX12_init 17 = .ok (.putfield 13, 3) := by decide +kernel
theorem dX12_init_20 : decode cX12_init 20 = .ok (.aload_n 0, 1) := by decide +kernel
theorem dX12_init_21 : decode cX12_init 21 = .ok (.bipush 24, 2) := by decide +kernel
theorem dX12_init_23 : decode cX12_init 23 = .ok (.newarray .int, 2) := by decide +kernel
theorem dX12_init_25 : decode cX12_init 25 = .ok (.putfield 16, 3) := by decide +kernel
theorem dX12_init_28 : decode cX12_init 28 = .ok (.aload_n 0, 1) := by decide +kernel
theorem dX12_init_29 : decode cX12_init 29 = .ok (.bipush 24, 2) := by decide +kernel
theorem dX12_init_31 : decode cX12_init 31 = .ok (.newarray .int, 2) := by decide +kernel
theorem dX12_init_33 : decode cX12_init 33 = .ok (.putfield 19, 3) := by decide +kernel
theorem dX12_init_36 : decode cX12_init 36 = .ok (.aload_n 0, 1) := by decide +kernel
theorem dX12_init_37 : decode cX12_init 37 = .ok (.bipush 24, 2) := by decide +kernel
theorem dX12_init_39 : decode cX12_init 39 = .ok (.newarray .int, 2) := by decide +kernel
theorem dX12_init_41 : decode cX12_init 41 = .ok (.putfield 22, 3) := by decide +kernel
theorem dX12_init_44 : decode cX12_init 44 = .ok (.aload_n 0, 1) := by decide +kernel
theorem dX12_init_45 : decode cX12_init 45 = .ok (.iconst 4, 1) := by decide +kernel
theorem dX12_init_46 : decode cX12_init 46 = .ok (.newarray .int, 2) := by decide +kernel
theorem dX12_init_48 : decode cX12_init 48 = .ok (.putfield 25, 3) := by decide +kernel
theorem dX12_init_51 : decode cX12_init 51 = .ok (.aload_n 0, 1) := by decide +kernel
theorem dX12_init_52 : decode cX12_init 52 = .ok (.iconst 4, 1) := by decide +kernel
theorem dX12_init_53 : decode cX12_init 53 = .ok (.newarray .int, 2) := by decide +kernel
theorem dX12_init_55 : decode cX12_init 55 = .ok (.putfield 28, 3) := by decide +kernel
theorem dX12_init_58 : decode cX12_init 58 = .ok (.aload_n 0, 1) := by decide +kernel
theorem dX12_init_59 : decode cX12_init 59 = .ok (.iconst 4, 1) := by decide +kernel
theorem dX12_init_60 : decode cX12_init 60 = .ok (.newarray .int, 2) := by decide +kernel
theorem dX12_init_62 : decode cX12_init 62 = .ok (.putfield 31, 3) := by decide +kernel
theorem dX12_init_65 : decode cX12_init 65 = .ok (.aload_n 0, 1) := by decide +kernel
theorem dX12_init_66 : decode cX12_init 66 = .ok (.iconst 4, 1) := by decide +kernel
theorem dX12_init_67 : decode cX12_init 67 = .ok (.newarray .int, 2) := by decide +kernel
theorem dX12_init_69 : decode cX12_init 69 = .ok (.putfield 34, 3) := by decide +kernel
theorem dX12_init_72 : decode cX12_init 72 = .ok (.aload_n 0, 1) := by decide +kernel
theorem dX12_init_73 : decode cX12_init 73 = .ok (.iconst 4, 1) := by decide +kernel
theorem dX12_init_74 : decode cX12_init 74 = .ok (.newarray .int, 2) := by decide +kernel
theorem dX12_init_76 : decode cX12_init 76 = .ok (.putfield 37, 3) := by decide +kernel
theorem dX12_init_79 : decode cX12_init 79 = .ok (.aload_n 0, 1) := by decide +kernel
theorem dX12_init_80 : decode cX12_init 80 = .ok (.iconst 4, 1) := by decide +kernel
theorem dX12_init_81 : decode cX12_init 81 = .ok (.newarray .int, 2) := by decide +kernel
theorem dX12_init_83 : decode cX12_init 83 = .ok (.dup, 1) := by decide +kernel
theorem dX12_init_84 : decode cX12_init 84 = .ok (.iconst 0, 1) := by decide +kernel
theorem dX12_init_85 : decode cX12_init 85 = .ok (.bipush 10, 2) := by decide +kernel
theorem dX12_init_87 : decode cX12_init 87 = .ok (.iastore, 1) := by decide +kernel
theorem dX12_init_88 : decode cX12_init 88 = .ok (.dup, 1) := by decide +kernel
theorem dX12_init_89 : decode cX12_init 89 = .ok (.iconst 1, 1) := by decide +kernel
theorem dX12_init_90 : decode cX12_init 90 = .ok (.iconst 5, 1) := by decide +kernel
theorem dX12_init_91 : decode cX12_init 91 = .ok (.iastore, 1) := by decide +kernel
theorem dX12_init_92 : decode cX12_init 92 = .ok (.dup, 1) := by decide +kernel
theorem dX12_init_93 : decode cX12_init 93 = .ok (.iconst 2, 1) := by decide +kernel
theorem dX12_init_94 : decode cX12_init 94 = .ok (.iconst 0, 1) := by decide +kernel
theorem dX12_init_95 : decode cX12_init 95 = .ok (.iastore, 1) := by decide +kernel
theorem dX12_init_96 : decode cX12_init 96 = .ok (.dup, 1) := by decide +kernel
theorem dX12_init_97 : decode cX12_init 97 = .ok (.iconst 3, 1) := by decide +kernel
theorem dX12_init_98 : decode cX12_init 98 = .ok (.iconst 1, 1) := by decide +kernel
theorem dX12_init_99 : decode cX12_init 99 = .ok (.iastore, 1) := by decide +kernel
theorem dX12_init_100 : decode cX12_init 100 = .ok (.putfield 40, 3) := by decide +kernel
theorem dX12_init_103 : decode cX12_init 103 = .ok (.aload_n 0, 1) := by decide +kernel
theorem dX12_init_104 : decode cX12_init 104 = .ok (.iconst 4, 1) := by decide +kernel
theorem dX12_init_105 : decode cX12_init 105 = .ok (.newarray .int, 2) := by decide +kernel
theorem dX12_init_107 : decode cX12_init 107 = .ok (.dup, 1) := by decide +kernel
theorem dX12_init_108 : decode cX12_init 108 = .ok (.iconst 0, 1) := by decide +kernel
theorem dX12_init_109 : decode cX12_init 109 = .ok (.bipush 20, 2) := by decide +kernel
theorem dX12_init_111 : decode cX12_init 111 = .ok (.iastore, 1) := by decide +kernel
theorem dX12_init_112 : decode cX12_init 112 = .ok (.dup, 1) := by decide +kernel
theorem dX12_init_113 : decode cX12_init 113 = .ok (.iconst 1, 1) := by decide +kernel
theorem dX12_init_114 : decode cX12_init 114 = .ok (.bipush 20, 2) := by decide +kernel
theorem dX12_init_116 : decode cX12_init 116 = .ok (.iastore, 1) := by decide +kernel
theorem dX12_init_117 : decode cX12_init 117 = .ok (.dup, 1) := by decide +kernel
theorem dX12_init_118 : decode cX12_init 118 = .ok (.iconst 2, 1) := by decide +kernel
theorem dX12_init_119 : decode cX12_init 119 = .ok (.iconst 5, 1) := by decide +kernel
theorem dX12_init_120 : decode cX12_init 120 = .ok (.iastore, 1) := by decide +kernel
theorem dX12_init_121 : decode cX12_init 121 = .ok (.dup, 1) := by decide +kernel
theorem dX12_init_122 : decode cX12_init 122 = .ok (.iconst 3, 1) := by decide +kernel
theorem dX12_init_123 : decode cX12_init 123 = .ok (.iconst 1, 1) := by decide +kernel
theorem dX12_init_124 : decode cX12_init 124 = .ok (.iastore, 1) := by decide +kernel
theorem dX12_init_125 : decode cX12_init 125 = .ok (.putfield 43, 3) := by decide +kernel
theorem dX12_init_128 : decode cX12_init 128 = .ok (.aload_n 0, 1) := by decide +kernel
theorem dX12_init_129 : decode cX12_init 129 = .ok (.iconst 1, 1) := by decide +kernel
theorem dX12_init_130 : decode cX12_init 130 = .ok (.putfield 46, 3) := by decide +kernel
theorem dX12_init_133 : decode cX12_init 133 = .ok (.aload_n 0, 1) := by decide +kernel
theorem dX12_init_134 : decode cX12_init 134 = .ok (.bipush 64, 2) := by decide +kernel
theorem dX12_init_136 : decode cX12_init 136 = .ok (.newarray .int, 2) := by decide +kernel
theorem dX12_init_138 : decode cX12_init 138 = .ok (.putfield 50, 3) := by decide +kernel
theorem dX12_init_141 : decode cX12_init 141 = .ok (.aload_n 0, 1) := by decide +kernel
theorem dX12_init_142 : decode cX12_init 142 = .ok (.bipush 32, 2) := by decide +kernel
theorem dX12_init_144 : decode cX12_init 144 = .ok (.newarray .int, 2) := by decide +kernel
theorem dX12_init_146 : decode cX12_init 146 = .ok (.putfield 53, 3) := by decide +kernel
theorem dX12_init_149 : decode cX12_init 149 = .ok (.aload_n 0, 1) := by decide +kernel
theorem dX12_init_150 : decode cX12_init 150 = .ok (.bipush 32, 2) := by decide +kernel
theorem dX12_init_152 : decode cX12_init 152 = .ok (.newarray .int, 2) := by decide +kernel
theorem dX12_init_154 : decode cX12_init 154 = .ok (.putfield 56, 3) := by decide +kernel
theorem dX12_init_157 : decode cX12_init 157 = .ok (.aload_n 0, 1) := by decide +kernel
theorem dX12_init_158 : decode cX12_init 158 = .ok (.bipush 32, 2) := by decide +kernel
theorem dX12_init_160 : decode cX12_init 160 = .ok (.newarray .int, 2) := by decide +kernel
theorem dX12_init_162 : decode cX12_init 162 = .ok (.putfield 59, 3) := by decide +kernel
theorem dX12_init_165 : decode cX12_init 165 = .ok (.aload_n 0, 1) := by decide +kernel
theorem dX12_init_166 : decode cX12_init 166 = .ok (.bipush 32, 2) := by decide +kernel
theorem dX12_init_168 : decode cX12_init 168 = .ok (.newarray .int, 2) := by decide +kernel
theorem dX12_init_170 : decode cX12_init 170 = .ok (.putfield 62, 3) := by decide +kernel
theorem dX12_init_173 : decode cX12_init 173 = .ok (.aload_n 0, 1) := by decide +kernel
theorem dX12_init_174 : decode cX12_init 174 = .ok (.bipush 32, 2) := by decide +kernel
theorem dX12_init_176 : decode cX12_init 176 = .ok (.newarray .int, 2) := by decide +kernel
theorem dX12_init_178 : decode cX12_init 178 = .ok (.putfield 65, 3) := by decide +kernel
theorem dX12_init_181 : decode cX12_init 181 = .ok (.aload_n 0, 1) := by decide +kernel
theorem dX12_init_182 : decode cX12_init 182 = .ok (.bipush 32, 2) := by decide +kernel
theorem dX12_init_184 : decode cX12_init 184 = .ok (.newarray .int, 2) := by decide +kernel
theorem dX12_init_186 : decode cX12_init 186 = .ok (.putfield 68, 3) := by decide +kernel
theorem dX12_init_189 : decode cX12_init 189 = .ok (.aload_n 0, 1) := by decide +kernel
theorem dX12_init_190 : decode cX12_init 190 = .ok (.bipush 24, 2) := by decide +kernel
theorem dX12_init_192 : decode cX12_init 192 = .ok (.newarray .long, 2) := by decide +kernel
theorem dX12_init_194 : decode cX12_init 194 = .ok (.putfield 71, 3) := by decide +kernel
theorem dX12_init_197 : decode cX12_init 197 = .ok (.aload_n 0, 1) := by decide +kernel
theorem dX12_init_198 : decode cX12_init 198 = .ok (.sipush 240, 3) := by decide +kernel
theorem dX12_init_201 : decode cX12_init 201 = .ok (.newarray .long, 2) := by decide +kernel
theorem dX12_init_203 : decode cX12_init 203 = .ok (.putfield 75, 3) := by decide +kernel
theorem dX12_init_206 : decode cX12_init 206 = .ok (.aload_n 0, 1) := by decide +kernel
theorem dX12_init_207 : decode cX12_init 207 = .ok (.bipush 96, 2) := by decide +kernel
theorem dX12_init_209 : decode cX12_init 209 = .ok (.newarray .int, 2) := by decide +kernel
theorem dX12_init_211 : decode cX12_init 211 = .ok (.putfield 78, 3) := by decide +kernel
theorem dX12_init_214 : decode cX12_init 214 = .ok (.aload_n 0, 1) := by decide +kernel
theorem dX12_init_215 : decode cX12_init 215 = .ok (.iconst 4, 1) := by decide +kernel
theorem dX12_init_216 : decode cX12_init 216 = .ok (.newarray .int, 2) := by decide +kernel
theorem dX12_init_218 : decode cX12_init 218 = .ok (.putfield 81, 3) := by decide +kernel
theorem dX12_init_221 : decode cX12_init 221 = .ok (.aload_n 0, 1) := by decide +kernel
theorem dX12_init_222 : decode cX12_init 222 = .ok (.iconst 4, 1) := by decide +kernel
theorem dX12_init_223 : decode cX12_init 223 = .ok (.newarray .int, 2) := by decide +kernel
theorem dX12_init_225 : decode cX12_init 225 = .ok (.putfield 84, 3) := by decide +kernel
theorem dX12_init_228 : decode cX12_init 228 = .ok (.aload_n 0, 1) := by decide +kernel
theorem dX12_init_229 : decode cX12_init 229 = .ok (.bipush 24, 2) := by decide +kernel
theorem dX12_init_231 : decode cX12_init 231 = .ok (.newarray .long, 2) := by decide +kernel
theorem dX12_init_233 : decode cX12_init 233 = .ok (.putfield 87, 3) := by decide +kernel
theorem dX12_init_236 : decode cX12_init 236 = .ok (.aload_n 0, 1) := by decide +kernel
theorem dX12_init_237 : decode cX12_init 237 = .ok (.bipush 24, 2) := by decide +kernel
theorem dX12_init_239 : decode cX12_init 239 = .ok (.newarray .int, 2) := by decide +kernel
theorem dX12_init_241 : decode cX12_init 241 = .ok (.putfield 90, 3) := by decide +kernel
theorem dX12_init_244 : decode cX12_init 244 = .ok (.aload_n 0, 1) := by decide +kernel
theorem dX12_init_245 : decode cX12_init 245 = .ok (.iconst 4, 1) := by decide +kernel
theorem dX12_init_246 : decode cX12_init 246 = .ok (.newarray .int, 2) := by decide +kernel
theorem dX12_init_248 : decode cX12_init 248 = .ok (.putfield 93, 3) := by decide +kernel
theorem dX12_init_251 : decode cX12_init 251 = .ok (.aload_n 0, 1) := by decide +kernel
theorem dX12_init_252 : decode cX12_init 252 = .ok (.iconst 5, 1) := by decide +kernel
theorem dX12_init_253 : decode cX12_init 253 = .ok (.newarray .int, 2) := by decide +kernel
theorem dX12_init_255 : decode cX12_init 255 = .ok (.putfield 96, 3) := by decide +kernel
theorem dX12_init_258 : decode cX12_init 258 = .ok (.aload_n 0, 1) := by decide +kernel
theorem dX12_init_259 : decode cX12_init 259 = .ok (.iconst 5, 1) := by decide +kernel
theorem dX12_init_260 : decode cX12_init 260 = .ok (.newarray .int, 2) := by decide +kernel
theorem dX12_init_262 : decode cX12_init 262 = .ok (.putfield 99, 3) := by decide +kernel
theorem dX12_init_265 : decode cX12_init 265 = .ok (.aload_n 0, 1) := by decide +kernel
theorem dX12_init_266 : decode cX12_init 266 = .ok (.iconst 5, 1) := by decide +kernel
theorem dX12_init_267 : decode cX12_init 267 = .ok (.newarray .int, 2) := by decide +kernel
theorem dX12_init_269 : decode cX12_init 269 = .ok (.putfield 102, 3) := by decide +kernel
theorem dX12_init_272 : decode cX12_init 272 = .ok (.aload_n 0, 1) := by decide +kernel
theorem dX12_init_273 : decode cX12_init 273 = .ok (.bipush 20, 2) := by decide +kernel
theorem dX12_init_275 : decode cX12_init 275 = .ok (.newarray .int, 2) := by decide +kernel
theorem dX12_init_277 : decode cX12_init 277 = .ok (.putfield 105, 3) := by decide +kernel
theorem dX12_init_280 : decode cX12_init 280 = .ok (.aload_n 0, 1) := by decide +kernel
theorem dX12_init_281 : decode cX12_init 281 = .ok (.sipush 140, 3) := by decide +kernel
theorem dX12_init_284 : decode cX12_init 284 = .ok (.newarray .int, 2) := by decide +kernel
theorem dX12_init_286 : decode cX12_init 286 = .ok (.putfield 108, 3) := by decide +kernel
theorem dX12_init_289 : decode cX12_init 289 = .ok (.return_, 1) := by decide +kernel
theorem dX12_no_0 : decode cX12_no 0 = .ok (.aload_n 0, 1) := by decide +kernel
theorem dX12_no_1 : decode cX12_no 1 = .ok (.getfield 7, 3) := by decide +kernel
theorem dX12_no_4 : decode cX12_no 4 = .ok (.iload_n 1, 1) := by decide +kernel
theorem dX12_no_5 : decode cX12_no 5 = .ok (.ineg, 1) := by decide +kernel
theorem dX12_no_6 : decode cX12_no 6 = .ok (.dup2, 1) := by decide +kernel
theorem dX12_no_7 : decode cX12_no 7 = .ok (.iaload, 1) := by decide +kernel
theorem dX12_no_8 : decode cX12_no 8 = .ok (.iconst 1, 1) := by decide +kernel
theorem dX12_no_9 : decode cX12_no 9 = .ok (.iadd, 1) := by decide +kernel
theorem dX12_no_10 : decode cX12_no 10 = .ok (.iastore, 1) := by decide +kernel
theorem dX12_no_11 : decode cX12_no 11 = .ok (.iload_n 1, 1) := by decide +kernel
theorem dX12_no_12 : decode cX12_no 12 = .ok (.ireturn, 1) := by decide +kernel
theorem dX12_lower_0 : decode cX12_lower 0 = .ok (.aload_n 0, 1) := by decide +kernel
theorem dX12_lower_1 : decode cX12_lower 1 = .ok (.getfield 7, 3) := by decide +kernel
theorem dX12_lower_4 : decode cX12_lower 4 = .ok (.iload_n 1, 1) := by decide +kernel
theorem dX12_lower_5 : decode cX12_lower 5 = .ok (.ineg, 1) := by decide +kernel
theorem dX12_lower_6 : decode cX12_lower 6 = .ok (.dup2, 1) := by decide +kernel
theorem dX12_lower_7 : decode cX12_lower 7 = .ok (.iaload, 1) := by decide +kernel
theorem dX12_lower_8 : decode cX12_lower 8 = .ok (.iconst 1, 1) := by decide +kernel
theorem dX12_lower_9 : decode cX12_lower 9 = .ok (.iadd, 1) := by decide +kernel
theorem dX12_lower_10 : decode cX12_lower 10 = .ok (.iastore, 1) := by decide +kernel
theorem dX12_lower_11 : decode cX12_lower 11 = .ok (.ldc 111, 2) := by decide +kernel
theorem dX12_lower_13 : decode cX12_lower 13 = .ok (.iload_n 1, 1) := by decide +kernel
theorem dX12_lower_14 : decode cX12_lower 14 = .ok (.isub, 1) := by decide +kernel
theorem dX12_lower_15 : decode cX12_lower 15 = .ok (.ireturn, 1) := by decide +kernel
theorem dX12_noLong_0 : decode cX12_noLong 0 = .ok (.aload_n 0, 1) := by decide +kernel
theorem dX12_noLong_1 : decode cX12_noLong 1 = .ok (.getfield 7, 3) := by decide +kernel
theorem dX12_noLong_4 : decode cX12_noLong 4 = .ok (.iload_n 1, 1) := by decide +kernel
theorem dX12_noLong_5 : decode cX12_noLong 5 = .ok (.ineg, 1) := by decide +kernel
theorem dX12_noLong_6 : decode cX12_noLong 6 = .ok (.dup2, 1) := by decide +kernel
theorem dX12_noLong_7 : decode cX12_noLong 7 = .ok (.iaload, 1) := by decide +kernel
theorem dX12_noLong_8 : decode cX12_noLong 8 = .ok (.iconst 1, 1) := by decide +kernel
theorem dX12_noLong_9 : decode cX12_noLong 9 = .ok (.iadd, 1) := by decide +kernel
theorem dX12_noLong_10 : decode cX12_noLong 10 = .ok (.iastore, 1) := by decide +kernel
theorem dX12_noLong_11 : decode cX12_noLong 11 = .ok (.ldc2_w 112, 3) := by decide +kernel
theorem dX12_noLong_14 : decode cX12_noLong 14 = .ok (.iload_n 1, 1) := by decide +kernel
theorem dX12_noLong_15 : decode cX12_noLong 15 = .ok (.i2l, 1) := by decide +kernel
theorem dX12_noLong_16 : decode cX12_noLong 16 = .ok (.lsub, 1) := by decide +kernel
theorem dX12_noLong_17 : decode cX12_noLong 17 = .ok (.lreturn, 1) := by decide +kernel
theorem dX12_isIn_0 : decode cX12_isIn 0 = .ok (.iload_n 0, 1) := by decide +kernel
theorem dX12_isIn_1 : decode cX12_isIn 1 = .ok (.iload_n 1, 1) := by decide +kernel
theorem dX12_isIn_2 : decode cX12_isIn 2 = .ok (.if_icmp .lt 12, 3) := by decide +kernel
theorem dX12_isIn_5 : decode cX12_isIn 5 = .ok (.iload_n 0, 1) := by decide +kernel
theorem dX12_isIn_6 : decode cX12_isIn 6 = .ok (.iload_n 2, 1) := by decide +kernel
theorem dX12_isIn_7 : decode cX12_isIn 7 = .ok (.if_icmp .gt 7, 3) := by decide +kernel
theorem dX12_isIn_10 : decode cX12_isIn 10 = .ok (.iconst 1, 1) := by decide +kernel
theorem dX12_isIn_11 : decode cX12_isIn 11 = .ok (.goto 4, 3) := by decide +kernel
theorem dX12_isIn_14 : decode cX12_isIn 14 = .ok (.iconst 0, 1) := by decide +kernel
theorem dX12_isIn_15 : decode cX12_isIn 15 = .ok (.ireturn, 1) := by decide +kernel
theorem dX12_bound_0 : decode cX12_bound 0 = .ok (.iload_n 0, 1) := by decide +kernel
theorem dX12_bound_1 : decode cX12_bound 1 = .ok (.iload_n 1, 1) := by decide +kernel
theorem dX12_bound_2 : decode cX12_bound 2 = .ok (.if_icmp .ge 8, 3) := by decide +kernel
theorem dX12_bound_5 : decode cX12_bound 5 = .ok (.bipush (-4), 2) := by decide +kernel
theorem dX12_bound_7 : decode cX12_bound 7 = .ok (.goto 14, 3) := by decide +kernel
theorem dX12_bound_10 : decode cX12_bound 10 = .ok (.iload_n 0, 1) := by decide +kernel
theorem dX12_bound_11 : decode cX12_bound 11 = .ok (.iload_n 2, 1) := by decide +kernel
theorem dX12_bound_12 : decode cX12_bound 12 = .ok (.if_icmp .le 8, 3) := by decide +kernel
theorem dX12_bound_15 : decode cX12_bound 15 = .ok (.bipush (-6), 2) := by decide +kernel
theorem dX12_bound_17 : decode cX12_bound 17 = .ok (.goto 4, 3) := by decide +kernel
theorem dX12_bound_20 : decode cX12_bound 20 = .ok (.iconst 0, 1) := by decide +kernel
theorem dX12_bound_21 : decode cX12_bound 21 = .ok (.ireturn, 1) := by decide +kernel
theorem dX12_isWord_0 : decode cX12_isWord 0 = .ok (.iload_n 1, 1) := by decide +kernel
theorem dX12_isWord_1 : decode cX12_isWord 1 = .ok (.ifCond .lt 15, 3) := by decide +kernel
theorem dX12_isWord_4 : decode cX12_isWord 4 = .ok (.iload_n 1, 1) := by decide +kernel
theorem dX12_isWord_5 : decode cX12_isWord 5 = .ok (.aload_n 0, 1) := by decide +kernel
theorem dX12_isWord_6 : decode cX12_isWord 6 = .ok (.getfield 46, 3) := by decide +kernel
theorem dX12_isWord_9 : decode cX12_isWord 9 = .ok (.if_icmp .ge 7, 3) := by decide +kernel
theorem dX12_isWord_12 : decode cX12_isWord 12 = .ok (.iconst 1, 1) := by decide +kernel
theorem dX12_isWord_13 : decode cX12_isWord 13 = .ok (.goto 4, 3) := by decide +kernel
theorem dX12_isWord_16 : decode cX12_isWord 16 = .ok (.iconst 0, 1) := by decide +kernel
theorem dX12_isWord_17 : decode cX12_isWord 17 = .ok (.ireturn, 1) := by decide +kernel
theorem dX12_isPlayer_0 : decode cX12_isPlayer 0 = .ok (.iload_n 1, 1) := by decide +kernel
theorem dX12_isPlayer_1 : decode cX12_isPlayer 1 = .ok (.ifCond .lt 15, 3) := by decide +kernel
theorem dX12_isPlayer_4 : decode cX12_isPlayer 4 = .ok (.iload_n 1, 1) := by decide +kernel
theorem dX12_isPlayer_5 : decode cX12_isPlayer 5 = .ok (.aload_n 0, 1) := by decide +kernel
theorem dX12_isPlayer_6 : decode cX12_isPlayer 6 = .ok (.getfield 114, 3) := by decide +kernel
theorem dX12_isPlayer_9 : decode cX12_isPlayer 9 = .ok (.if_icmp .ge 7, 3) := by decide +kernel
theorem dX12_isPlayer_12 : decode cX12_isPlayer 12 = .ok (.iconst 1, 1) := by decide +kernel
theorem dX12_isPlayer_13 : decode cX12_isPlayer 13 = .ok (.goto 4, 3) := by decide +kernel
theorem dX12_isPlayer_16 : decode cX12_isPlayer 16 = .ok (.iconst 0, 1) := by decide +kernel
theorem dX12_isPlayer_17 : decode cX12_isPlayer 17 = .ok (.ireturn, 1) := by decide +kernel
theorem dX12_nexts_0 : decode cX12_nexts 0 = .ok (.iconst 0, 1) := by decide +kernel
theorem dX12_nexts_1 : decode cX12_nexts 1 = .ok (.istore_n 2, 1) := by decide +kernel
theorem dX12_nexts_2 : decode cX12_nexts 2 = .ok (.iload_n 1, 1) := by decide +kernel
theorem dX12_nexts_3 : decode cX12_nexts 3 = .ok (.iconst 1, 1) := by decide +kernel
theorem dX12_nexts_4 : decode cX12_nexts 4 = .ok (.iadd, 1) := by decide +kernel
theorem dX12_nexts_5 : decode cX12_nexts 5 = .ok (.istore_n 3, 1) := by decide +kernel
theorem dX12_nexts_6 : decode cX12_nexts 6 = .ok (.iload_n 3, 1) := by decide +kernel
theorem dX12_nexts_7 : decode cX12_nexts 7 = .ok (.aload_n 0, 1) := by decide +kernel
theorem dX12_nexts_8 : decode cX12_nexts 8 = .ok (.getfield 46, 3) := by decide +kernel
theorem dX12_nexts_11 : decode cX12_nexts 11 = .ok (.if_icmp .ge 27, 3) := by decide +kernel
theorem dX12_nexts_14 : decode cX12_nexts 14 = .ok (.iload_n 2, 1) := by decide +kernel
theorem dX12_nexts_15 : decode cX12_nexts 15 = .ok (.aload_n 0, 1) := by decide +kernel
theorem dX12_nexts_16 : decode cX12_nexts 16 = .ok (.getfield 13, 3) := by decide +kernel
theorem dX12_nexts_19 : decode cX12_nexts 19 = .ok (.iload_n 3, 1) := by decide +kernel
theorem dX12_nexts_20 : decode cX12_nexts 20 = .ok (.iaload, 1) := by decide +kernel
theorem dX12_nexts_21 : decode cX12_nexts 21 = .ok (.iload_n 1, 1) := by decide +kernel
theorem dX12_nexts_22 : decode cX12_nexts 22 = .ok (.if_icmp .ne 7, 3) := by decide +kernel
theorem dX12_nexts_25 : decode cX12_nexts 25 = .ok (.iconst 1, 1) := by decide +kernel
theorem dX12_nexts_26 : decode cX12_nexts 26 = .ok (.goto 4, 3) := by decide +kernel
theorem dX12_nexts_29 : decode cX12_nexts 29 = .ok (.iconst 0, 1) := by decide +kernel
theorem dX12_nexts_30 : decode cX12_nexts 30 = .ok (.iadd, 1) := by decide +kernel
theorem dX12_nexts_31 : decode cX12_nexts 31 = .ok (.istore_n 2, 1) := by decide +kernel
theorem dX12_nexts_32 : decode cX12_nexts 32 = .ok (.iinc 3 1, 3) := by decide +kernel
theorem dX12_nexts_35 : decode cX12_nexts 35 = .ok (.goto (-29), 3) := by decide +kernel
theorem dX12_nexts_38 : decode cX12_nexts 38 = .ok (.iload_n 2, 1) := by decide +kernel
theorem dX12_nexts_39 : decode cX12_nexts 39 = .ok (.ireturn, 1) := by decide +kernel
set_option maxRecDepth 20000 in
theorem ggX12_isWhole_X12_nexts : GoodIn wsX12_isWhole wsX12_nexts := goodIn_r _ [7, 1, 8, 9, 10, 11, 12, 13, 14, 15, 16, 17, 18, 19, 20, 21, 22, 23, 24, 25, 26, 27, 28, 29, 30, 31, 32, 33, 34, 35, 36, 37, 38, 39, 40, 41, 42, 43, 44, 45, 46, 47, 48, 49, 50, 51, 52, 53, 54, 55, 56, 57, 58, 59, 60] (by decide +kernel) (by decide +kernel)
set_option maxRecDepth 20000 in
theorem gX12_isWhole_X12_nexts : GoodIn wsX12_isWhole (wsV RX12 117 RX12 yX12_nexts wsX12_nexts) := goodIn_app (goodIn_of _ (by decide +kernel)) ggX12_isWhole_X12_nexts
theorem dX12_isWhole_0 : decode cX12_isWhole 0 = .ok (.iconst 0, 1) := by decide +kernel
theorem dX12_isWhole_1 : decode cX12_isWhole 1 = .ok (.istore_n 1, 1) := by decide +kernel
theorem dX12_isWhole_2 : decode cX12_isWhole 2 = .ok (.iload_n 1, 1) := by decide +kernel
theorem dX12_isWhole_3 : decode cX12_isWhole 3 = .ok (.aload_n 0, 1) := by decide +kernel
theorem dX12_isWhole_4 : decode cX12_isWhole 4 = .ok (.getfield 46, 3) := by decide +kernel
theorem dX12_isWhole_7 : decode cX12_isWhole 7 = .ok (.if_icmp .ge 28, 3) := by decide +kernel
theorem dX12_isWhole_10 : decode cX12_isWhole 10 = .ok (.aload_n 0, 1) := by decide +kernel
theorem dX12_isWhole_11 : decode cX12_isWhole 11 = .ok (.getfield 19, 3) := by decide +kernel
theorem dX12_isWhole_14 : decode cX12_isWhole 14 = .ok (.iload_n 1, 1) := by decide +kernel
theorem dX12_isWhole_15 : decode cX12_isWhole 15 = .ok (.iaload, 1) := by decide +kernel
theorem dX12_isWhole_16 : decode cX12_isWhole 16 = .ok (.ifCond .ne 13, 3) := by decide +kernel
theorem dX12_isWhole_19 : decode cX12_isWhole 19 = .ok (.aload_n 0, 1) := by decide +kernel
theorem dX12_isWhole_20 : decode cX12_isWhole 20 = .ok (.iload_n 1, 1) := by decide +kernel
theorem dX12_isWhole_21 : decode cX12_isWhole 21 = .ok (.invokevirtual 117, 3) := by decide +kernel
theorem dX12_isWhole_24 : decode cX12_isWhole 24 = .ok (.ifCond .ne 5, 3) := by decide +kernel
theorem dX12_isWhole_27 : decode cX12_isWhole 27 = .ok (.iconst 0, 1) := by decide +kernel
theorem dX12_isWhole_28 : decode cX12_isWhole 28 = .ok (.ireturn, 1) := by decide +kernel
theorem dX12_isWhole_29 : decode cX12_isWhole 29 = .ok (.iinc 1 1, 3) := by decide +kernel
theorem dX12_isWhole_32 : decode cX12_isWhole 32 = .ok (.goto (-30), 3) := by decide +kernel
theorem dX12_isWhole_35 : decode cX12_isWhole 35 = .ok (.iconst 1, 1) := by decide +kernel
theorem dX12_isWhole_36 : decode cX12_isWhole 36 = .ok (.ireturn, 1) := by decide +kernel
theorem dX12_comesWord_0 : decode cX12_comesWord 0 = .ok (.aload_n 0, 1) := by decide +kernel
theorem dX12_comesWord_1 : decode cX12_comesWord 1 = .ok (.getfield 13, 3) := by decide +kernel
theorem dX12_comesWord_4 : decode cX12_comesWord 4 = .ok (.aload_n 0, 1) := by decide +kernel
theorem dX12_comesWord_5 : decode cX12_comesWord 5 = .ok (.getfield 46, 3) := by decide +kernel
theorem dX12_comesWord_8 : decode cX12_comesWord 8 = .ok (.iload_n 1, 1) := by decide +kernel
theorem dX12_comesWord_9 : decode cX12_comesWord 9 = .ok (.iastore, 1) := by decide +kernel
theorem dX12_comesWord_10 : decode cX12_comesWord 10 = .ok (.aload_n 0, 1) := by decide +kernel
theorem dX12_comesWord_11 : decode cX12_comesWord 11 = .ok (.getfield 16, 3) := by decide +kernel
theorem dX12_comesWord_14 : decode cX12_comesWord 14 = .ok (.aload_n 0, 1) := by decide +kernel
theorem dX12_comesWord_15 : decode cX12_comesWord 15 = .ok (.getfield 46, 3) := by decide +kernel
theorem dX12_comesWord_18 : decode cX12_comesWord 18 = .ok (.iload_n 2, 1) := by decide +kernel
theorem dX12_comesWord_19 : decode cX12_comesWord 19 = .ok (.iastore, 1) := by decide +kernel
theorem dX12_comesWord_20 : decode cX12_comesWord 20 = .ok (.aload_n 0, 1) := by decide +kernel
theorem dX12_comesWord_21 : decode cX12_comesWord 21 = .ok (.getfield 19, 3) := by decide +kernel
theorem dX12_comesWord_24 : decode cX12_comesWord 24 = .ok (.aload_n 0, 1) := by decide +kernel
theorem dX12_comesWord_25 : decode cX12_comesWord 25 = .ok (.getfield 46, 3) := by decide +kernel
theorem dX12_comesWord_28 : decode cX12_comesWord 28 = .ok (.iload_n 3, 1) := by decide +kernel
theorem dX12_comesWord_29 : decode cX12_comesWord 29 = .ok (.iastore, 1) := by decide +kernel
theorem dX12_comesWord_30 : decode cX12_comesWord 30 = .ok (.aload_n 0, 1) := by decide +kernel
theorem dX12_comesWord_31 : decode cX12_comesWord 31 = .ok (.getfield 22, 3) := by decide +kernel
theorem dX12_comesWord_34 : decode cX12_comesWord 34 = .ok (.aload_n 0, 1) := by decide +kernel
theorem dX12_comesWord_35 : decode cX12_comesWord 35 = .ok (.getfield 46, 3) := by decide +kernel
theorem dX12_comesWord_38 : decode cX12_comesWord 38 = .ok (.aload_n 0, 1) := by decide +kernel
theorem dX12_comesWord_39 : decode cX12_comesWord 39 = .ok (.getfield 22, 3) := by decide +kernel
theorem dX12_comesWord_42 : decode cX12_comesWord 42 = .ok (.iload_n 1, 1) := by decide +kernel
theorem dX12_comesWord_43 : decode cX12_comesWord 43 = .ok (.iaload, 1) := by decide +kernel
theorem dX12_comesWord_44 : decode cX12_comesWord 44 = .ok (.iconst 1, 1) := by decide +kernel
theorem dX12_comesWord_45 : decode cX12_comesWord 45 = .ok (.iadd, 1) := by decide +kernel
theorem dX12_comesWord_46 : decode cX12_comesWord 46 = .ok (.iastore, 1) := by decide +kernel
theorem dX12_comesWord_47 : decode cX12_comesWord 47 = .ok (.aload_n 0, 1) := by decide +kernel
theorem dX12_comesWord_48 : decode cX12_comesWord 48 = .ok (.dup, 1) := by decide +kernel
theorem dX12_comesWord_49 : decode cX12_comesWord 49 = .ok (.getfield 46, 3) := by decide +kernel
theorem dX12_comesWord_52 : decode cX12_comesWord 52 = .ok (.iconst 1, 1) := by decide +kernel
theorem dX12_comesWord_53 : decode cX12_comesWord 53 = .ok (.iadd, 1) := by decide +kernel
theorem dX12_comesWord_54 : decode cX12_comesWord 54 = .ok (.putfield 46, 3) := by decide +kernel
theorem dX12_comesWord_57 : decode cX12_comesWord 57 = .ok (.return_, 1) := by decide +kernel
set_option maxRecDepth 20000 in
theorem ggX12_feed_X12_bound : GoodIn wsX12_feed wsX12_bound := goodIn_r _ [7] (by decide +kernel) (by decide +kernel)
set_option maxRecDepth 20000 in
theorem gX12_feed_X12_bound : GoodIn wsX12_feed (va_wsS RX12 121 yX12_bound wsX12_bound) := goodIn_app (goodIn_of _ (by decide +kernel)) ggX12_feed_X12_bound
set_option maxRecDepth 20000 in
theorem ggX12_feed_X12_no : GoodIn wsX12_feed wsX12_no := goodIn_r _ [11, 12, 13, 14, 15, 16, 17, 18, 19, 20, 21, 22, 23, 24, 25, 26, 27, 28, 29, 30, 31, 32, 33, 34, 35, 36, 37, 38, 39, 40, 41, 42, 43, 44, 45, 46, 47, 48, 49, 50, 51, 52, 53, 54, 55, 56, 57, 58, 59, 60, 61, 62, 63, 64] (by decide +kernel) (by decide +kernel)
set_option maxRecDepth 20000 in
theorem gX12_feed_X12_no : GoodIn wsX12_feed (wsV RX12 128 RX12 yX12_no wsX12_no) := goodIn_app (goodIn_of _ (by decide +kernel)) ggX12_feed_X12_no
theorem dX12_feed_0 : decode cX12_feed 0 = .ok (.iload_n 1, 1) := by decide +kernel
theorem dX12_feed_1 : decode cX12_feed 1 = .ok (.iconst 1, 1) := by decide +kernel
theorem dX12_feed_2 : decode cX12_feed 2 = .ok (.bipush 8, 2) := by decide +kernel
theorem dX12_feed_4 : decode cX12_feed 4 = .ok (.invokestatic 121, 3) := by decide +kernel
theorem dX12_feed_7 : decode cX12_feed 7 = .ok (.istore 4, 2) := by decide +kernel
theorem dX12_feed_9 : decode cX12_feed 9 = .ok (.iload 4, 2) := by decide +kernel
theorem dX12_feed_11 : decode cX12_feed 11 = .ok (.ifCond .ne 18, 3) := by decide +kernel
theorem dX12_feed_14 : decode cX12_feed 14 = .ok (.aload_n 0, 1) := by decide +kernel
theorem dX12_feed_15 : decode cX12_feed 15 = .ok (.getfield 125, 3) := by decide +kernel
theorem dX12_feed_18 : decode cX12_feed 18 = .ok (.iload_n 1, 1) := by decide +kernel
theorem dX12_feed_19 : decode cX12_feed 19 = .ok (.iadd, 1) := by decide +kernel
theorem dX12_feed_20 : decode cX12_feed 20 = .ok (.bipush 64, 2) := by decide +kernel
theorem dX12_feed_22 : decode cX12_feed 22 = .ok (.if_icmp .le 7, 3) := by decide +kernel
theorem dX12_feed_25 : decode cX12_feed 25 = .ok (.bipush (-6), 2) := by decide +kernel
theorem dX12_feed_27 : decode cX12_feed 27 = .ok (.istore 4, 2) := by decide +kernel
theorem dX12_feed_29 : decode cX12_feed 29 = .ok (.iload 4, 2) := by decide +kernel
theorem dX12_feed_31 : decode cX12_feed 31 = .ok (.ifCond .eq 10, 3) := by decide +kernel
theorem dX12_feed_34 : decode cX12_feed 34 = .ok (.aload_n 0, 1) := by decide +kernel
theorem dX12_feed_35 : decode cX12_feed 35 = .ok (.iload 4, 2) := by decide +kernel
theorem dX12_feed_37 : decode cX12_feed 37 = .ok (.invokevirtual 128, 3) := by decide +kernel
theorem dX12_feed_40 : decode cX12_feed 40 = .ok (.ireturn, 1) := by decide +kernel
theorem dX12_feed_41 : decode cX12_feed 41 = .ok (.iconst 0, 1) := by decide +kernel
theorem dX12_feed_42 : decode cX12_feed 42 = .ok (.istore 5, 2) := by decide +kernel
theorem dX12_feed_44 : decode cX12_feed 44 = .ok (.iload 5, 2) := by decide +kernel
theorem dX12_feed_46 : decode cX12_feed 46 = .ok (.iload_n 1, 1) := by decide +kernel
theorem dX12_feed_47 : decode cX12_feed 47 = .ok (.if_icmp .ge 40, 3) := by decide +kernel
theorem dX12_feed_50 : decode cX12_feed 50 = .ok (.aload_n 0, 1) := by decide +kernel
theorem dX12_feed_51 : decode cX12_feed 51 = .ok (.getfield 50, 3) := by decide +kernel
theorem dX12_feed_54 : decode cX12_feed 54 = .ok (.aload_n 0, 1) := by decide +kernel
theorem dX12_feed_55 : decode cX12_feed 55 = .ok (.getfield 125, 3) := by decide +kernel
theorem dX12_feed_58 : decode cX12_feed 58 = .ok (.lload_n 2, 1) := by decide +kernel
theorem dX12_feed_59 : decode cX12_feed 59 = .ok (.bipush 8, 2) := by decide +kernel
theorem dX12_feed_61 : decode cX12_feed 61 = .ok (.iload 5, 2) := by decide +kernel
theorem dX12_feed_63 : decode cX12_feed 63 = .ok (.imul, 1) := by decide +kernel
theorem dX12_feed_64 : decode cX12_feed 64 = .ok (.lshr, 1) := by decide +kernel
theorem dX12_feed_65 : decode cX12_feed 65 = .ok (.ldc2_w 131, 3) := by decide +kernel
theorem dX12_feed_68 : decode cX12_feed 68 = .ok (.land, 1) := by decide +kernel
theorem dX12_feed_69 : decode cX12_feed 69 = .ok (.l2i, 1) := by decide +kernel
theorem dX12_feed_70 : decode cX12_feed 70 = .ok (.iastore, 1) := by decide +kernel
theorem dX12_feed_71 : decode cX12_feed 71 = .ok (.aload_n 0, 1) := by decide +kernel
theorem dX12_feed_72 : decode cX12_feed 72 = .ok (.dup, 1) := by decide +kernel
theorem dX12_feed_73 : decode cX12_feed 73 = .ok (.getfield 125, 3) := by decide +kernel
theorem dX12_feed_76 : decode cX12_feed 76 = .ok (.iconst 1, 1) := by decide +kernel
theorem dX12_feed_77 : decode cX12_feed 77 = .ok (.iadd, 1) := by decide +kernel
theorem dX12_feed_78 : decode cX12_feed 78 = .ok (.putfield 125, 3) := by decide +kernel
theorem dX12_feed_81 : decode cX12_feed 81 = .ok (.iinc 5 1, 3) := by decide +kernel
theorem dX12_feed_84 : decode cX12_feed 84 = .ok (.goto (-40), 3) := by decide +kernel
theorem dX12_feed_87 : decode cX12_feed 87 = .ok (.aload_n 0, 1) := by decide +kernel
theorem dX12_feed_88 : decode cX12_feed 88 = .ok (.getfield 125, 3) := by decide +kernel
theorem dX12_feed_91 : decode cX12_feed 91 = .ok (.ireturn, 1) := by decide +kernel
theorem dX12_sign_0 : decode cX12_sign 0 = .ok (.aload_n 0, 1) := by decide +kernel
theorem dX12_sign_1 : decode cX12_sign 1 = .ok (.getfield 133, 3) := by decide +kernel
theorem dX12_sign_4 : decode cX12_sign 4 = .ok (.aload_n 0, 1) := by decide +kernel
theorem dX12_sign_5 : decode cX12_sign 5 = .ok (.getfield 125, 3) := by decide +kernel
theorem dX12_sign_8 : decode cX12_sign 8 = .ok (.if_icmp .ge 15, 3) := by decide +kernel
theorem dX12_sign_11 : decode cX12_sign 11 = .ok (.aload_n 0, 1) := by decide +kernel
theorem dX12_sign_12 : decode cX12_sign 12 = .ok (.getfield 50, 3) := by decide +kernel
theorem dX12_sign_15 : decode cX12_sign 15 = .ok (.aload_n 0, 1) := by decide +kernel
theorem dX12_sign_16 : decode cX12_sign 16 = .ok (.getfield 133, 3) := by decide +kernel
theorem dX12_sign_19 : decode cX12_sign 19 = .ok (.iaload, 1) := by decide +kernel
theorem dX12_sign_20 : decode cX12_sign 20 = .ok (.goto 4, 3) := by decide +kernel
theorem dX12_sign_23 : decode cX12_sign 23 = .ok (.iconst (-1), 1) := by decide +kernel
theorem dX12_sign_24 : decode cX12_sign 24 = .ok (.ireturn, 1) := by decide +kernel
set_option maxRecDepth 20000 in
theorem ggX12_takes_X12_sign : GoodIn wsX12_takes wsX12_sign := goodIn_r _ [6, 1, 7, 8, 9, 10, 11, 12, 13, 14, 15, 16, 17, 18, 19, 20, 21, 22, 23, 24, 25, 26, 27, 28, 29, 30, 31, 32, 33, 34, 35, 36, 37, 38, 39, 40, 41, 42, 43, 44, 45, 46, 47, 48, 49, 50, 51, 52, 53, 54, 55, 56, 57, 58, 59, 60] (by decide +kernel) (by decide +kernel)
set_option maxRecDepth 20000 in
theorem gX12_takes_X12_sign : GoodIn wsX12_takes (wsV RX12 136 RX12 yX12_sign wsX12_sign) := goodIn_app (goodIn_of _ (by decide +kernel)) ggX12_takes_X12_sign
theorem dX12_takes_0 : decode cX12_takes 0 = .ok (.aload_n 0, 1) := by decide +kernel
theorem dX12_takes_1 : decode cX12_takes 1 = .ok (.invokevirtual 136, 3) := by decide +kernel
theorem dX12_takes_4 : decode cX12_takes 4 = .ok (.iload_n 1, 1) := by decide +kernel
theorem dX12_takes_5 : decode cX12_takes 5 = .ok (.if_icmp .eq 5, 3) := by decide +kernel
theorem dX12_takes_8 : decode cX12_takes 8 = .ok (.iconst 0, 1) := by decide +kernel
theorem dX12_takes_9 : decode cX12_takes 9 = .ok (.ireturn, 1) := by decide +kernel
theorem dX12_takes_10 : decode cX12_takes 10 = .ok (.aload_n 0, 1) := by decide +kernel
theorem dX12_takes_11 : decode cX12_takes 11 = .ok (.dup, 1) := by decide +kernel
theorem dX12_takes_12 : decode cX12_takes 12 = .ok (.getfield 133, 3) := by decide +kernel
theorem dX12_takes_15 : decode cX12_takes 15 = .ok (.iconst 1, 1) := by decide +kernel
theorem dX12_takes_16 : decode cX12_takes 16 = .ok (.iadd, 1) := by decide +kernel
theorem dX12_takes_17 : decode cX12_takes 17 = .ok (.putfield 133, 3) := by decide +kernel
theorem dX12_takes_20 : decode cX12_takes 20 = .ok (.iconst 1, 1) := by decide +kernel
theorem dX12_takes_21 : decode cX12_takes 21 = .ok (.ireturn, 1) := by decide +kernel
set_option maxRecDepth 20000 in
theorem ggX12_number_X12_sign : GoodIn wsX12_number wsX12_sign := goodIn_r _ [6, 1, 7, 8, 12, 13, 14, 15, 16, 17, 18, 19, 20, 21, 22, 23, 24, 25, 26, 27, 28, 29, 30, 31, 32, 33, 34, 35, 36, 37, 38, 39, 40, 41, 42, 43, 44, 45, 46, 47, 48, 49, 50, 51, 52, 53, 54, 55, 56, 57, 58, 59, 60, 61, 62, 63] (by decide +kernel) (by decide +kernel)
set_option maxRecDepth 20000 in
theorem gX12_number_X12_sign : GoodIn wsX12_number (wsV RX12 136 RX12 yX12_sign wsX12_sign) := goodIn_app (goodIn_of _ (by decide +kernel)) ggX12_number_X12_sign
set_option maxRecDepth 20000 in
theorem ggX12_number_X12_isIn : GoodIn wsX12_number wsX12_isIn := goodIn_r _ [11] (by decide +kernel) (by decide +kernel)
set_option maxRecDepth 20000 in
theorem gX12_number_X12_isIn : GoodIn wsX12_number (va_wsS RX12 140 yX12_isIn wsX12_isIn) := goodIn_app (goodIn_of _ (by decide +kernel)) ggX12_number_X12_isIn
theorem dX12_number_0 : decode cX12_number 0 = .ok (.aload_n 0, 1) := by decide +kernel
theorem dX12_number_1 : decode cX12_number 1 = .ok (.invokevirtual 136, 3) := by decide +kernel
theorem dX12_number_4 : decode cX12_number 4 = .ok (.bipush 48, 2) := by decide +kernel
theorem dX12_number_6 : decode cX12_number 6 = .ok (.bipush 57, 2) := by decide +kernel
theorem dX12_number_8 : decode cX12_number 8 = .ok (.invokestatic 140, 3) := by decide +kernel
theorem dX12_number_11 : decode cX12_number 11 = .ok (.ifCond .ne 5, 3) := by decide +kernel
theorem dX12_number_14 : decode cX12_number 14 = .ok (.iconst (-1), 1) := by decide +kernel
theorem dX12_number_15 : decode cX12_number 15 = .ok (.ireturn, 1) := by decide +kernel
theorem dX12_number_16 : decode cX12_number 16 = .ok (.iconst 0, 1) := by decide +kernel
theorem dX12_number_17 : decode cX12_number 17 = .ok (.istore_n 2, 1) := by decide +kernel
theorem dX12_number_18 : decode cX12_number 18 = .ok (.iconst 0, 1) := by decide +kernel
theorem dX12_number_19 : decode cX12_number 19 = .ok (.istore_n 3, 1) := by decide +kernel
theorem dX12_number_20 : decode cX12_number 20 = .ok (.iload_n 3, 1) := by decide +kernel
theorem dX12_number_21 : decode cX12_number 21 = .ok (.iload_n 1, 1) := by decide +kernel
theorem dX12_number_22 : decode cX12_number 22 = .ok (.if_icmp .ge 46, 3) := by decide +kernel
theorem dX12_number_25 : decode cX12_number 25 = .ok (.aload_n 0, 1) := by decide +kernel
theorem dX12_number_26 : decode cX12_number 26 = .ok (.invokevirtual 136, 3) := by decide +kernel
theorem dX12_number_29 : decode cX12_number 29 = .ok (.bipush 48, 2) := by decide +kernel
theorem dX12_number_31 : decode cX12_number 31 = .ok (.bipush 57, 2) := by decide +kernel
theorem dX12_number_33 : decode cX12_number 33 = .ok (.invokestatic 140, 3) := by decide +kernel
theorem dX12_number_36 : decode cX12_number 36 = .ok (.ifCond .eq 32, 3) := by decide +kernel
theorem dX12_number_39 : decode cX12_number 39 = .ok (.bipush 10, 2) := by decide +kernel
theorem dX12_number_41 : decode cX12_number 41 = .ok (.iload_n 2, 1) := by decide +kernel
theorem dX12_number_42 : decode cX12_number 42 = .ok (.imul, 1) := by decide +kernel
theorem dX12_number_43 : decode cX12_number 43 = .ok (.aload_n 0, 1) := by decide +kernel
theorem dX12_number_44 : decode cX12_number 44 = .ok (.invokevirtual 136, 3) := by decide +kernel
theorem dX12_number_47 : decode cX12_number 47 = .ok (.iadd, 1) := by decide +kernel
theorem dX12_number_48 : decode cX12_number 48 = .ok (.bipush 48, 2) := by decide +kernel
theorem dX12_number_50 : decode cX12_number 50 = .ok (.isub, 1) := by decide +kernel
theorem dX12_number_51 : decode cX12_number 51 = .ok (.istore_n 2, 1) := by decide +kernel
theorem dX12_number_52 : decode cX12_number 52 = .ok (.aload_n 0, 1) := by decide +kernel
theorem dX12_number_53 : decode cX12_number 53 = .ok (.dup, 1) := by decide +kernel
theorem dX12_number_54 : decode cX12_number 54 = .ok (.getfield 133, 3) := by decide +kernel
theorem dX12_number_57 : decode cX12_number 57 = .ok (.iconst 1, 1) := by decide +kernel
theorem dX12_number_58 : decode cX12_number 58 = .ok (.iadd, 1) := by decide +kernel
theorem dX12_number_59 : decode cX12_number 59 = .ok (.putfield 133, 3) := by decide +kernel
theorem dX12_number_62 : decode cX12_number 62 = .ok (.iinc 3 1, 3) := by decide +kernel
theorem dX12_number_65 : decode cX12_number 65 = .ok (.goto (-45), 3) := by decide +kernel
theorem dX12_number_68 : decode cX12_number 68 = .ok (.iload_n 2, 1) := by decide +kernel
theorem dX12_number_69 : decode cX12_number 69 = .ok (.ireturn, 1) := by decide +kernel
set_option maxRecDepth 20000 in
theorem ggX12_readsWord_X12_number : GoodIn wsX12_readsWord wsX12_number := goodIn_r _ [8, 9, 10, 11, 12, 7, 13, 14, 15, 16, 17, 18, 23, 24, 25, 26, 27, 28, 29, 30, 31, 32, 33, 34, 35, 36, 37, 38, 39, 40, 41, 42, 43, 44, 45, 46, 47, 48, 49, 50, 51, 52, 53, 54, 55, 56, 57, 58, 59, 60, 61, 62, 63, 64, 65, 66, 67, 68, 69, 70, 71, 72, 73, 74] (by decide +kernel) (by decide +kernel)
set_option maxRecDepth 20000 in
theorem gX12_readsWord_X12_number : GoodIn wsX12_readsWord (wsV RX12 144 RX12 yX12_number wsX12_number) := goodIn_app (goodIn_of _ (by decide +kernel)) ggX12_readsWord_X12_number
set_option maxRecDepth 20000 in
theorem ggX12_readsWord_X12_takes : GoodIn wsX12_readsWord wsX12_takes := goodIn_r _ [22, 9, 10, 11, 12, 7, 13, 14, 15, 23, 24, 25, 26, 27, 28, 29, 30, 31, 32, 33, 34, 35, 36, 37, 38, 39, 40, 41, 42, 43, 44, 45, 46, 47, 48, 49, 50, 51, 52, 53, 54, 55, 56, 57, 58, 59, 60, 61, 62, 63, 64, 65, 66, 67, 68, 69, 70, 71, 72, 73, 74] (by decide +kernel) (by decide +kernel)
set_option maxRecDepth 20000 in
theorem gX12_readsWord_X12_takes : GoodIn wsX12_readsWord (wsV RX12 147 RX12 yX12_takes wsX12_takes) := goodIn_app (goodIn_of _ (by decide +kernel)) ggX12_readsWord_X12_takes
theorem dX12_readsWord_0 : decode cX12_readsWord 0 = .ok (.aload_n 0, 1) := by decide +kernel
theorem dX12_readsWord_1 : decode cX12_readsWord 1 = .ok (.getfield 53, 3) := by decide +kernel
theorem dX12_readsWord_4 : decode cX12_readsWord 4 = .ok (.iload_n 1, 1) := by decide +kernel
theorem dX12_readsWord_5 : decode cX12_readsWord 5 = .ok (.aload_n 0, 1) := by decide +kernel
theorem dX12_readsWord_6 : decode cX12_readsWord 6 = .ok (.iconst 2, 1) := by decide +kernel
theorem dX12_readsWord_7 : decode cX12_readsWord 7 = .ok (.invokevirtual 144, 3) := by decide +kernel
theorem dX12_readsWord_10 : decode cX12_readsWord 10 = .ok (.iastore, 1) := by decide +kernel
theorem dX12_readsWord_11 : decode cX12_readsWord 11 = .ok (.aload_n 0, 1) := by decide +kernel
theorem dX12_readsWord_12 : decode cX12_readsWord 12 = .ok (.getfield 53, 3) := by decide +kernel
theorem dX12_readsWord_15 : decode cX12_readsWord 15 = .ok (.iload_n 1, 1) := by decide +kernel
theorem dX12_readsWord_16 : decode cX12_readsWord 16 = .ok (.iaload, 1) := by decide +kernel
theorem dX12_readsWord_17 : decode cX12_readsWord 17 = .ok (.ifCond .lt 12, 3) := by decide +kernel
theorem dX12_readsWord_20 : decode cX12_readsWord 20 = .ok (.aload_n 0, 1) := by decide +kernel
theorem dX12_readsWord_21 : decode cX12_readsWord 21 = .ok (.bipush 44, 2) := by decide +kernel
theorem dX12_readsWord_23 : decode cX12_readsWord 23 = .ok (.invokevirtual 147, 3) := by decide +kernel
theorem dX12_readsWord_26 : decode cX12_readsWord 26 = .ok (.ifCond .ne 5, 3) := by decide +kernel
theorem dX12_readsWord_29 : decode cX12_readsWord 29 = .ok (.iconst 0, 1) := by decide +kernel
theorem dX12_readsWord_30 : decode cX12_readsWord 30 = .ok (.ireturn, 1) := by decide +kernel
theorem dX12_readsWord_31 : decode cX12_readsWord 31 = .ok (.aload_n 0, 1) := by decide +kernel
theorem dX12_readsWord_32 : decode cX12_readsWord 32 = .ok (.getfield 56, 3) := by decide +kernel
theorem dX12_readsWord_35 : decode cX12_readsWord 35 = .ok (.iload_n 1, 1) := by decide +kernel
theorem dX12_readsWord_36 : decode cX12_readsWord 36 = .ok (.aload_n 0, 1) := by decide +kernel
theorem dX12_readsWord_37 : decode cX12_readsWord 37 = .ok (.iconst 1, 1) := by decide +kernel
theorem dX12_readsWord_38 : decode cX12_readsWord 38 = .ok (.invokevirtual 144, 3) := by decide +kernel
theorem dX12_readsWord_41 : decode cX12_readsWord 41 = .ok (.iastore, 1) := by decide +kernel
theorem dX12_readsWord_42 : decode cX12_readsWord 42 = .ok (.aload_n 0, 1) := by decide +kernel
theorem dX12_readsWord_43 : decode cX12_readsWord 43 = .ok (.getfield 56, 3) := by decide +kernel
theorem dX12_readsWord_46 : decode cX12_readsWord 46 = .ok (.iload_n 1, 1) := by decide +kernel
theorem dX12_readsWord_47 : decode cX12_readsWord 47 = .ok (.iaload, 1) := by decide +kernel
theorem dX12_readsWord_48 : decode cX12_readsWord 48 = .ok (.ifCond .lt 12, 3) := by decide +kernel
theorem dX12_readsWord_51 : decode cX12_readsWord 51 = .ok (.aload_n 0, 1) := by decide +kernel
theorem dX12_readsWord_52 : decode cX12_readsWord 52 = .ok (.bipush 44, 2) := by decide +kernel
theorem dX12_readsWord_54 : decode cX12_readsWord 54 = .ok (.invokevirtual 147, 3) := by decide +kernel
theorem dX12_readsWord_57 : decode cX12_readsWord 57 = .ok (.ifCond .ne 5, 3) := by decide +kernel
theorem dX12_readsWord_60 : decode cX12_readsWord 60 = .ok (.iconst 0, 1) := by decide +kernel
theorem dX12_readsWord_61 : decode cX12_readsWord 61 = .ok (.ireturn, 1) := by decide +kernel
theorem dX12_readsWord_62 : decode cX12_readsWord 62 = .ok (.aload_n 0, 1) := by decide +kernel
theorem dX12_readsWord_63 : decode cX12_readsWord 63 = .ok (.getfield 59, 3) := by decide +kernel
theorem dX12_readsWord_66 : decode cX12_readsWord 66 = .ok (.iload_n 1, 1) := by decide +kernel
theorem dX12_readsWord_67 : decode cX12_readsWord 67 = .ok (.aload_n 0, 1) := by decide +kernel
theorem dX12_readsWord_68 : decode cX12_readsWord 68 = .ok (.iconst 1, 1) := by decide +kernel
theorem dX12_readsWord_69 : decode cX12_readsWord 69 = .ok (.invokevirtual 144, 3) := by decide +kernel
theorem dX12_readsWord_72 : decode cX12_readsWord 72 = .ok (.iastore, 1) := by decide +kernel
theorem dX12_readsWord_73 : decode cX12_readsWord 73 = .ok (.aload_n 0, 1) := by decide +kernel
theorem dX12_readsWord_74 : decode cX12_readsWord 74 = .ok (.getfield 59, 3) := by decide +kernel
theorem dX12_readsWord_77 : decode cX12_readsWord 77 = .ok (.iload_n 1, 1) := by decide +kernel
theorem dX12_readsWord_78 : decode cX12_readsWord 78 = .ok (.iaload, 1) := by decide +kernel
theorem dX12_readsWord_79 : decode cX12_readsWord 79 = .ok (.ifCond .lt 16, 3) := by decide +kernel
theorem dX12_readsWord_82 : decode cX12_readsWord 82 = .ok (.aload_n 0, 1) := by decide +kernel
theorem dX12_readsWord_83 : decode cX12_readsWord 83 = .ok (.bipush 59, 2) := by decide +kernel
theorem dX12_readsWord_85 : decode cX12_readsWord 85 = .ok (.invokevirtual 147, 3) := by decide +kernel
theorem dX12_readsWord_88 : decode cX12_readsWord 88 = .ok (.ifCond .eq 7, 3) := by decide +kernel
theorem dX12_readsWord_91 : decode cX12_readsWord 91 = .ok (.iconst 1, 1) := by decide +kernel
theorem dX12_readsWord_92 : decode cX12_readsWord 92 = .ok (.goto 4, 3) := by decide +kernel
theorem dX12_readsWord_95 : decode cX12_readsWord 95 = .ok (.iconst 0, 1) := by decide +kernel
theorem dX12_readsWord_96 : decode cX12_readsWord 96 = .ok (.ireturn, 1) := by decide +kernel
theorem dX12_kindOf_0 : decode cX12_kindOf 0 = .ok (.iload_n 0, 1) := by decide +kernel
theorem dX12_kindOf_1 : decode cX12_kindOf 1 = .ok (.tableswitch 107 97 116 #[105, 99, 107, 107, 95, 107, 107, 107, 107, 107, 107, 101, 107, 107, 107, 107, 107, 107, 97, 103], 95) := by decide +kernel
theorem dX12_kindOf_96 : decode cX12_kindOf 96 = .ok (.iconst 0, 1) := by decide +kernel
theorem dX12_kindOf_97 : decode cX12_kindOf 97 = .ok (.ireturn, 1) := by decide +kernel
theorem dX12_kindOf_98 : decode cX12_kindOf 98 = .ok (.iconst 1, 1) := by decide +kernel
theorem dX12_kindOf_99 : decode cX12_kindOf 99 = .ok (.ireturn, 1) := by decide +kernel
theorem dX12_kindOf_100 : decode cX12_kindOf 100 = .ok (.iconst 2, 1) := by decide +kernel
theorem dX12_kindOf_101 : decode cX12_kindOf 101 = .ok (.ireturn, 1) := by decide +kernel
theorem dX12_kindOf_102 : decode cX12_kindOf 102 = .ok (.iconst 3, 1) := by decide +kernel
theorem dX12_kindOf_103 : decode cX12_kindOf 103 = .ok (.ireturn, 1) := by decide +kernel
theorem dX12_kindOf_104 : decode cX12_kindOf 104 = .ok (.iconst 4, 1) := by decide +kernel
theorem dX12_kindOf_105 : decode cX12_kindOf 105 = .ok (.ireturn, 1) := by decide +kernel
theorem dX12_kindOf_106 : decode cX12_kindOf 106 = .ok (.iconst 5, 1) := by decide +kernel
theorem dX12_kindOf_107 : decode cX12_kindOf 107 = .ok (.ireturn, 1) := by decide +kernel
theorem dX12_kindOf_108 : decode cX12_kindOf 108 = .ok (.iconst (-1), 1) := by decide +kernel
theorem dX12_kindOf_109 : decode cX12_kindOf 109 = .ok (.ireturn, 1) := by decide +kernel
set_option maxRecDepth 20000 in
theorem ggX12_readsKnown_X12_sign : GoodIn wsX12_readsKnown wsX12_sign := goodIn_r _ [7, 2, 8, 9, 17, 18, 19, 20, 21, 22, 23, 24, 25, 26, 27, 28, 29, 30, 31, 32, 33, 34, 35, 36, 37, 38, 39, 40, 41, 42, 43, 44, 45, 46, 47, 48, 49, 50, 51, 52, 53, 54, 55, 56, 57, 58, 59, 60, 61, 62, 63, 64, 65, 66, 67, 68] (by decide +kernel) (by decide +kernel)
set_option maxRecDepth 20000 in
theorem gX12_readsKnown_X12_sign : GoodIn wsX12_readsKnown (wsV RX12 136 RX12 yX12_sign wsX12_sign) := goodIn_app (goodIn_of _ (by decide +kernel)) ggX12_readsKnown_X12_sign
set_option maxRecDepth 20000 in
theorem ggX12_readsKnown_X12_isIn : GoodIn wsX12_readsKnown wsX12_isIn := goodIn_r _ [12] (by decide +kernel) (by decide +kernel)
set_option maxRecDepth 20000 in
theorem gX12_readsKnown_X12_isIn : GoodIn wsX12_readsKnown (va_wsS RX12 140 yX12_isIn wsX12_isIn) := goodIn_app (goodIn_of _ (by decide +kernel)) ggX12_readsKnown_X12_isIn
set_option maxRecDepth 20000 in
theorem ggX12_readsKnown_X12_takes : GoodIn wsX12_readsKnown wsX12_takes := goodIn_r _ [16, 2, 3, 4, 5, 6, 7, 8, 9, 17, 18, 19, 20, 21, 22, 23, 24, 25, 26, 27, 28, 29, 30, 31, 32, 33, 34, 35, 36, 37, 38, 39, 40, 41, 42, 43, 44, 45, 46, 47, 48, 49, 50, 51, 52, 53, 54, 55, 56, 57, 58, 59, 60, 61, 62, 63, 64, 65, 66, 67, 68] (by decide +kernel) (by decide +kernel)
set_option maxRecDepth 20000 in
theorem gX12_readsKnown_X12_takes : GoodIn wsX12_readsKnown (wsV RX12 147 RX12 yX12_takes wsX12_takes) := goodIn_app (goodIn_of _ (by decide +kernel)) ggX12_readsKnown_X12_takes
theorem dX12_readsKnown_0 : decode cX12_readsKnown 0 = .ok (.aload_n 0, 1) := by decide +kernel
theorem dX12_readsKnown_1 : decode cX12_readsKnown 1 = .ok (.getfield 62, 3) := by decide +kernel
theorem dX12_readsKnown_4 : decode cX12_readsKnown 4 = .ok (.iload_n 1, 1) := by decide +kernel
theorem dX12_readsKnown_5 : decode cX12_readsKnown 5 = .ok (.iconst 0, 1) := by decide +kernel
theorem dX12_readsKnown_6 : decode cX12_readsKnown 6 = .ok (.iastore, 1) := by decide +kernel
theorem dX12_readsKnown_7 : decode cX12_readsKnown 7 = .ok (.iconst 0, 1) := by decide +kernel
theorem dX12_readsKnown_8 : decode cX12_readsKnown 8 = .ok (.istore_n 2, 1) := by decide +kernel
theorem dX12_readsKnown_9 : decode cX12_readsKnown 9 = .ok (.iload_n 2, 1) := by decide +kernel
theorem dX12_readsKnown_10 : decode cX12_readsKnown 10 = .ok (.bipush 9, 2) := by decide +kernel
theorem dX12_readsKnown_12 : decode cX12_readsKnown 12 = .ok (.if_icmp .ge 70, 3) := by decide +kernel
theorem dX12_readsKnown_15 : decode cX12_readsKnown 15 = .ok (.aload_n 0, 1) := by decide +kernel
theorem dX12_readsKnown_16 : decode cX12_readsKnown 16 = .ok (.invokevirtual 136, 3) := by decide +kernel
theorem dX12_readsKnown_19 : decode cX12_readsKnown 19 = .ok (.bipush 49, 2) := by decide +kernel
theorem dX12_readsKnown_21 : decode cX12_readsKnown 21 = .ok (.bipush 57, 2) := by decide +kernel
theorem dX12_readsKnown_23 : decode cX12_readsKnown 23 = .ok (.invokestatic 140, 3) := by decide +kernel
theorem dX12_readsKnown_26 : decode cX12_readsKnown 26 = .ok (.ifCond .eq 56, 3) := by decide +kernel
theorem dX12_readsKnown_29 : decode cX12_readsKnown 29 = .ok (.iconst 1, 1) := by decide +kernel
theorem dX12_readsKnown_30 : decode cX12_readsKnown 30 = .ok (.aload_n 0, 1) := by decide +kernel
theorem dX12_readsKnown_31 : decode cX12_readsKnown 31 = .ok (.invokevirtual 136, 3) := by decide +kernel
theorem dX12_readsKnown_34 : decode cX12_readsKnown 34 = .ok (.bipush 48, 2) := by decide +kernel
theorem dX12_readsKnown_36 : decode cX12_readsKnown 36 = .ok (.isub, 1) := by decide +kernel
theorem dX12_readsKnown_37 : decode cX12_readsKnown 37 = .ok (.ishl, 1) := by decide +kernel
theorem dX12_readsKnown_38 : decode cX12_readsKnown 38 = .ok (.istore_n 3, 1) := by decide +kernel
theorem dX12_readsKnown_39 : decode cX12_readsKnown 39 = .ok (.aload_n 0, 1) := by decide +kernel
theorem dX12_readsKnown_40 : decode cX12_readsKnown 40 = .ok (.getfield 62, 3) := by decide +kernel
theorem dX12_readsKnown_43 : decode cX12_readsKnown 43 = .ok (.iload_n 1, 1) := by decide +kernel
theorem dX12_readsKnown_44 : decode cX12_readsKnown 44 = .ok (.dup2, 1) := by decide +kernel
theorem dX12_readsKnown_45 : decode cX12_readsKnown 45 = .ok (.iaload, 1) := by decide +kernel
theorem dX12_readsKnown_46 : decode cX12_readsKnown 46 = .ok (.aload_n 0, 1) := by decide +kernel
theorem dX12_readsKnown_47 : decode cX12_readsKnown 47 = .ok (.getfield 62, 3) := by decide +kernel
theorem dX12_readsKnown_50 : decode cX12_readsKnown 50 = .ok (.iload_n 1, 1) := by decide +kernel
theorem dX12_readsKnown_51 : decode cX12_readsKnown 51 = .ok (.iaload, 1) := by decide +kernel
theorem dX12_readsKnown_52 : decode cX12_readsKnown 52 = .ok (.iload_n 3, 1) := by decide +kernel
theorem dX12_readsKnown_53 : decode cX12_readsKnown 53 = .ok (.iand, 1) := by decide +kernel
theorem dX12_readsKnown_54 : decode cX12_readsKnown 54 = .ok (.ifCond .eq 9, 3) := by decide +kernel
theorem dX12_readsKnown_57 : decode cX12_readsKnown 57 = .ok (.sipush 1024, 3) := by decide +kernel
theorem dX12_readsKnown_60 : decode cX12_readsKnown 60 = .ok (.goto 4, 3) := by decide +kernel
theorem dX12_readsKnown_63 : decode cX12_readsKnown 63 = .ok (.iload_n 3, 1) := by decide +kernel
theorem dX12_readsKnown_64 : decode cX12_readsKnown 64 = .ok (.ior, 1) := by decide +kernel
theorem dX12_readsKnown_65 : decode cX12_readsKnown 65 = .ok (.iastore, 1) := by decide +kernel
theorem dX12_readsKnown_66 : decode cX12_readsKnown 66 = .ok (.aload_n 0, 1) := by decide +kernel
theorem dX12_readsKnown_67 : decode cX12_readsKnown 67 = .ok (.dup, 1) := by decide +kernel
theorem dX12_readsKnown_68 : decode cX12_readsKnown 68 = .ok (.getfield 133, 3) := by decide +kernel
theorem dX12_readsKnown_71 : decode cX12_readsKnown 71 = .ok (.iconst 1, 1) := by decide +kernel
theorem dX12_readsKnown_72 : decode cX12_readsKnown 72 = .ok (.iadd, 1) := by decide +kernel
theorem dX12_readsKnown_73 : decode cX12_readsKnown 73 = .ok (.putfield 133, 3) := by decide +kernel
theorem dX12_readsKnown_76 : decode cX12_readsKnown 76 = .ok (.iinc 2 1, 3) := by decide +kernel
theorem dX12_readsKnown_79 : decode cX12_readsKnown 79 = .ok (.goto (-70), 3) := by decide +kernel
theorem dX12_readsKnown_82 : decode cX12_readsKnown 82 = .ok (.iload_n 2, 1) := by decide +kernel
theorem dX12_readsKnown_83 : decode cX12_readsKnown 83 = .ok (.ifCond .le 16, 3) := by decide +kernel
theorem dX12_readsKnown_86 : decode cX12_readsKnown 86 = .ok (.aload_n 0, 1) := by decide +kernel
theorem dX12_readsKnown_87 : decode cX12_readsKnown 87 = .ok (.bipush 59, 2) := by decide +kernel
theorem dX12_readsKnown_89 : decode cX12_readsKnown 89 = .ok (.invokevirtual 147, 3) := by decide +kernel
theorem dX12_readsKnown_92 : decode cX12_readsKnown 92 = .ok (.ifCond .eq 7, 3) := by decide +kernel
theorem dX12_readsKnown_95 : decode cX12_readsKnown 95 = .ok (.iconst 1, 1) := by decide +kernel
theorem dX12_readsKnown_96 : decode cX12_readsKnown 96 = .ok (.goto 4, 3) := by decide +kernel
theorem dX12_readsKnown_99 : decode cX12_readsKnown 99 = .ok (.iconst 0, 1) := by decide +kernel
theorem dX12_readsKnown_100 : decode cX12_readsKnown 100 = .ok (.ireturn, 1) := by decide +kernel
set_option maxRecDepth 20000 in
theorem ggX12_readsPlayer_X12_sign : GoodIn wsX12_readsPlayer wsX12_sign := goodIn_r _ [9, 2, 10, 11, 31, 32, 33, 34, 35, 36, 37, 38, 39, 40, 41, 42, 43, 44, 45, 46, 47, 48, 49, 50, 51, 52, 53, 54, 55, 56, 57, 58, 59, 60, 61, 62, 63, 64, 65, 66, 67, 68, 69, 70, 71, 72, 73, 74, 75, 76, 77, 78, 79, 80, 81, 82] (by decide +kernel) (by decide +kernel)
set_option maxRecDepth 20000 in
theorem gX12_readsPlayer_X12_sign : GoodIn wsX12_readsPlayer (wsV RX12 136 RX12 yX12_sign wsX12_sign) := goodIn_app (goodIn_of _ (by decide +kernel)) ggX12_readsPlayer_X12_sign
set_option maxRecDepth 20000 in
theorem ggX12_readsPlayer_X12_kindOf : GoodIn wsX12_readsPlayer wsX12_kindOf := goodIn_r _ [14] (by decide +kernel) (by decide +kernel)
set_option maxRecDepth 20000 in
theorem gX12_readsPlayer_X12_kindOf : GoodIn wsX12_readsPlayer (va_wsS RX12 151 yX12_kindOf wsX12_kindOf) := goodIn_app (goodIn_of _ (by decide +kernel)) ggX12_readsPlayer_X12_kindOf
set_option maxRecDepth 20000 in
theorem ggX12_readsPlayer_X12_number : GoodIn wsX12_readsPlayer wsX12_number := goodIn_r _ [18, 2, 5, 6, 7, 8, 9, 10, 11, 19, 20, 21, 31, 32, 33, 34, 35, 36, 37, 38, 39, 40, 41, 42, 43, 44, 45, 46, 47, 48, 49, 50, 51, 52, 53, 54, 55, 56, 57, 58, 59, 60, 61, 62, 63, 64, 65, 66, 67, 68, 69, 70, 71, 72, 73, 74, 75, 76, 77, 78, 79, 80, 81, 82] (by decide +kernel) (by decide +kernel)
set_option maxRecDepth 20000 in
theorem gX12_readsPlayer_X12_number : GoodIn wsX12_readsPlayer (wsV RX12 144 RX12 yX12_number wsX12_number) := goodIn_app (goodIn_of _ (by decide +kernel)) ggX12_readsPlayer_X12_number
set_option maxRecDepth 20000 in
theorem ggX12_readsPlayer_X12_takes : GoodIn wsX12_readsPlayer wsX12_takes := goodIn_r _ [25, 2, 5, 6, 7, 8, 9, 10, 11, 31, 32, 33, 34, 35, 36, 37, 38, 39, 40, 41, 42, 43, 44, 45, 46, 47, 48, 49, 50, 51, 52, 53, 54, 55, 56, 57, 58, 59, 60, 61, 62, 63, 64, 65, 66, 67, 68, 69, 70, 71, 72, 73, 74, 75, 76, 77, 78, 79, 80, 81, 82] (by decide +kernel) (by decide +kernel)
set_option maxRecDepth 20000 in
theorem gX12_readsPlayer_X12_takes : GoodIn wsX12_readsPlayer (wsV RX12 147 RX12 yX12_takes wsX12_takes) := goodIn_app (goodIn_of _ (by decide +kernel)) ggX12_readsPlayer_X12_takes
set_option maxRecDepth 20000 in
theorem ggX12_readsPlayer_X12_readsKnown : GoodIn wsX12_readsPlayer wsX12_readsKnown := goodIn_r _ [29, 30, 2, 5, 6, 7, 8, 9, 10, 11, 19, 20, 21, 22, 23, 24, 25, 31, 32, 33, 34, 35, 36, 37, 38, 39, 40, 41, 42, 43, 44, 45, 46, 47, 48, 49, 50, 51, 52, 53, 54, 55, 56, 57, 58, 59, 60, 61, 62, 63, 64, 65, 66, 67, 68, 69, 70, 71, 72, 73, 74, 75, 76, 77, 78, 79, 80, 81, 82] (by decide +kernel) (by decide +kernel)
set_option maxRecDepth 20000 in
theorem gX12_readsPlayer_X12_readsKnown : GoodIn wsX12_readsPlayer (wsV RX12 154 RX12 yX12_readsKnown wsX12_readsKnown) := goodIn_app (goodIn_of _ (by decide +kernel)) ggX12_readsPlayer_X12_readsKnown
theorem dX12_readsPlayer_0 : decode cX12_readsPlayer 0 = .ok (.aload_n 0, 1) := by decide +kernel
theorem dX12_readsPlayer_1 : decode cX12_readsPlayer 1 = .ok (.getfield 59, 3) := by decide +kernel
theorem dX12_readsPlayer_4 : decode cX12_readsPlayer 4 = .ok (.iload_n 1, 1) := by decide +kernel
theorem dX12_readsPlayer_5 : decode cX12_readsPlayer 5 = .ok (.aload_n 0, 1) := by decide +kernel
theorem dX12_readsPlayer_6 : decode cX12_readsPlayer 6 = .ok (.invokevirtual 136, 3) := by decide +kernel
theorem dX12_readsPlayer_9 : decode cX12_readsPlayer 9 = .ok (.invokestatic 151, 3) := by decide +kernel
theorem dX12_readsPlayer_12 : decode cX12_readsPlayer 12 = .ok (.iastore, 1) := by decide +kernel
theorem dX12_readsPlayer_13 : decode cX12_readsPlayer 13 = .ok (.aload_n 0, 1) := by decide +kernel
theorem dX12_readsPlayer_14 : decode cX12_readsPlayer 14 = .ok (.getfield 59, 3) := by decide +kernel
theorem dX12_readsPlayer_17 : decode cX12_readsPlayer 17 = .ok (.iload_n 1, 1) := by decide +kernel
theorem dX12_readsPlayer_18 : decode cX12_readsPlayer 18 = .ok (.iaload, 1) := by decide +kernel
theorem dX12_readsPlayer_19 : decode cX12_readsPlayer 19 = .ok (.ifCond .ge 5, 3) := by decide +kernel
theorem dX12_readsPlayer_22 : decode cX12_readsPlayer 22 = .ok (.iconst 0, 1) := by decide +kernel
theorem dX12_readsPlayer_23 : decode cX12_readsPlayer 23 = .ok (.ireturn, 1) := by decide +kernel
theorem dX12_readsPlayer_24 : decode cX12_readsPlayer 24 = .ok (.aload_n 0, 1) := by decide +kernel
theorem dX12_readsPlayer_25 : decode cX12_readsPlayer 25 = .ok (.dup, 1) := by decide +kernel
theorem dX12_readsPlayer_26 : decode cX12_readsPlayer 26 = .ok (.getfield 133, 3) := by decide +kernel
theorem dX12_readsPlayer_29 : decode cX12_readsPlayer 29 = .ok (.iconst 1, 1) := by decide +kernel
theorem dX12_readsPlayer_30 : decode cX12_readsPlayer 30 = .ok (.iadd, 1) := by decide +kernel
theorem dX12_readsPlayer_31 : decode cX12_readsPlayer 31 = .ok (.putfield 133, 3) := by decide +kernel
theorem dX12_readsPlayer_34 : decode cX12_readsPlayer 34 = .ok (.aload_n 0, 1) := by decide +kernel
theorem dX12_readsPlayer_35 : decode cX12_readsPlayer 35 = .ok (.getfield 53, 3) := by decide +kernel
theorem dX12_readsPlayer_38 : decode cX12_readsPlayer 38 = .ok (.iload_n 1, 1) := by decide +kernel
theorem dX12_readsPlayer_39 : decode cX12_readsPlayer 39 = .ok (.aload_n 0, 1) := by decide +kernel
theorem dX12_readsPlayer_40 : decode cX12_readsPlayer 40 = .ok (.iconst 1, 1) := by decide +kernel
theorem dX12_readsPlayer_41 : decode cX12_readsPlayer 41 = .ok (.invokevirtual 144, 3) := by decide +kernel
theorem dX12_readsPlayer_44 : decode cX12_readsPlayer 44 = .ok (.iastore, 1) := by decide +kernel
theorem dX12_readsPlayer_45 : decode cX12_readsPlayer 45 = .ok (.aload_n 0, 1) := by decide +kernel
theorem dX12_readsPlayer_46 : decode cX12_readsPlayer 46 = .ok (.getfield 53, 3) := by decide +kernel
theorem dX12_readsPlayer_49 : decode cX12_readsPlayer 49 = .ok (.iload_n 1, 1) := by decide +kernel
theorem dX12_readsPlayer_50 : decode cX12_readsPlayer 50 = .ok (.iaload, 1) := by decide +kernel
theorem dX12_readsPlayer_51 : decode cX12_readsPlayer 51 = .ok (.ifCond .ge 5, 3) := by decide +kernel
theorem dX12_readsPlayer_54 : decode cX12_readsPlayer 54 = .ok (.iconst 0, 1) := by decide +kernel
theorem dX12_readsPlayer_55 : decode cX12_readsPlayer 55 = .ok (.ireturn, 1) := by decide +kernel
theorem dX12_readsPlayer_56 : decode cX12_readsPlayer 56 = .ok (.aload_n 0, 1) := by decide +kernel
theorem dX12_readsPlayer_57 : decode cX12_readsPlayer 57 = .ok (.getfield 56, 3) := by decide +kernel
theorem dX12_readsPlayer_60 : decode cX12_readsPlayer 60 = .ok (.iload_n 1, 1) := by decide +kernel
theorem dX12_readsPlayer_61 : decode cX12_readsPlayer 61 = .ok (.aload_n 0, 1) := by decide +kernel
theorem dX12_readsPlayer_62 : decode cX12_readsPlayer 62 = .ok (.iconst 3, 1) := by decide +kernel
theorem dX12_readsPlayer_63 : decode cX12_readsPlayer 63 = .ok (.invokevirtual 144, 3) := by decide +kernel
theorem dX12_readsPlayer_66 : decode cX12_readsPlayer 66 = .ok (.iastore, 1) := by decide +kernel
theorem dX12_readsPlayer_67 : decode cX12_readsPlayer 67 = .ok (.aload_n 0, 1) := by decide +kernel
theorem dX12_readsPlayer_68 : decode cX12_readsPlayer 68 = .ok (.getfield 56, 3) := by decide +kernel
theorem dX12_readsPlayer_71 : decode cX12_readsPlayer 71 = .ok (.iload_n 1, 1) := by decide +kernel
theorem dX12_readsPlayer_72 : decode cX12_readsPlayer 72 = .ok (.iaload, 1) := by decide +kernel
theorem dX12_readsPlayer_73 : decode cX12_readsPlayer 73 = .ok (.ifCond .lt 24, 3) := by decide +kernel
theorem dX12_readsPlayer_76 : decode cX12_readsPlayer 76 = .ok (.aload_n 0, 1) := by decide +kernel
theorem dX12_readsPlayer_77 : decode cX12_readsPlayer 77 = .ok (.bipush 58, 2) := by decide +kernel
theorem dX12_readsPlayer_79 : decode cX12_readsPlayer 79 = .ok (.invokevirtual 147, 3) := by decide +kernel
theorem dX12_readsPlayer_82 : decode cX12_readsPlayer 82 = .ok (.ifCond .eq 15, 3) := by decide +kernel
theorem dX12_readsPlayer_85 : decode cX12_readsPlayer 85 = .ok (.aload_n 0, 1) := by decide +kernel
theorem dX12_readsPlayer_86 : decode cX12_readsPlayer 86 = .ok (.iload_n 1, 1) := by decide +kernel
theorem dX12_readsPlayer_87 : decode cX12_readsPlayer 87 = .ok (.invokevirtual 154, 3) := by decide +kernel
theorem dX12_readsPlayer_90 : decode cX12_readsPlayer 90 = .ok (.ifCond .eq 7, 3) := by decide +kernel
theorem dX12_readsPlayer_93 : decode cX12_readsPlayer 93 = .ok (.iconst 1, 1) := by decide +kernel
theorem dX12_readsPlayer_94 : decode cX12_readsPlayer 94 = .ok (.goto 4, 3) := by decide +kernel
theorem dX12_readsPlayer_97 : decode cX12_readsPlayer 97 = .ok (.iconst 0, 1) := by decide +kernel
theorem dX12_readsPlayer_98 : decode cX12_readsPlayer 98 = .ok (.ireturn, 1) := by decide +kernel
set_option maxRecDepth 20000 in
theorem ggX12_statement_X12_sign : GoodIn wsX12_statement wsX12_sign := goodIn_r _ [9, 4, 10, 11, 42, 43, 44, 45, 46, 47, 48, 49, 50, 51, 52, 53, 54, 55, 56, 57, 58, 59, 60, 61, 62, 63, 64, 65, 66, 67, 68, 69, 70, 71, 72, 73, 74, 75, 76, 77, 78, 79, 80, 81, 82, 83, 84, 85, 86, 87, 88, 89, 90, 91, 92, 93] (by decide +kernel) (by decide +kernel)
set_option maxRecDepth 20000 in
theorem gX12_statement_X12_sign : GoodIn wsX12_statement (wsV RX12 136 RX12 yX12_sign wsX12_sign) := goodIn_app (goodIn_of _ (by decide +kernel)) ggX12_statement_X12_sign
set_option maxRecDepth 20000 in
theorem ggX12_statement_X12_readsWord : GoodIn wsX12_statement wsX12_readsWord := goodIn_r _ [15, 16, 17, 18, 19, 20, 21, 8, 22, 4, 5, 6, 7, 9, 10, 11, 23, 24, 25, 26, 27, 28, 29, 42, 43, 44, 45, 46, 47, 48, 49, 50, 51, 52, 53, 54, 55, 56, 57, 58, 59, 60, 61, 62, 63, 64, 65, 66, 67, 68, 69, 70, 71, 72, 73, 74, 75, 76, 77, 78, 79, 80, 81, 82, 83, 84, 85, 86, 87, 88, 89, 90, 91, 92, 93] (by decide +kernel) (by decide +kernel)
set_option maxRecDepth 20000 in
theorem gX12_statement_X12_readsWord : GoodIn wsX12_statement (wsV RX12 160 RX12 yX12_readsWord wsX12_readsWord) := goodIn_app (goodIn_of _ (by decide +kernel)) ggX12_statement_X12_readsWord
set_option maxRecDepth 20000 in
theorem ggX12_statement_X12_readsPlayer : GoodIn wsX12_statement wsX12_readsPlayer := goodIn_r _ [33, 18, 4, 16, 17, 5, 6, 7, 8, 9, 10, 11, 34, 35, 36, 19, 20, 21, 22, 23, 24, 25, 26, 27, 28, 29, 37, 38, 39, 40, 41, 42, 43, 44, 45, 46, 47, 48, 49, 50, 51, 52, 53, 54, 55, 56, 57, 58, 59, 60, 61, 62, 63, 64, 65, 66, 67, 68, 69, 70, 71, 72, 73, 74, 75, 76, 77, 78, 79, 80, 81, 82, 83, 84, 85, 86, 87, 88, 89, 90, 91, 92, 93] (by decide +kernel) (by decide +kernel)
set_option maxRecDepth 20000 in
theorem gX12_statement_X12_readsPlayer : GoodIn wsX12_statement (wsV RX12 163 RX12 yX12_readsPlayer wsX12_readsPlayer) := goodIn_app (goodIn_of _ (by decide +kernel)) ggX12_statement_X12_readsPlayer
theorem dX12_statement_0 : decode cX12_statement 0 = .ok (.aload_n 0, 1) := by decide +kernel
theorem dX12_statement_1 : decode cX12_statement 1 = .ok (.getfield 157, 3) := by decide +kernel
theorem dX12_statement_4 : decode cX12_statement 4 = .ok (.istore_n 1, 1) := by decide +kernel
theorem dX12_statement_5 : decode cX12_statement 5 = .ok (.aload_n 0, 1) := by decide +kernel
theorem dX12_statement_6 : decode cX12_statement 6 = .ok (.invokevirtual 136, 3) := by decide +kernel
theorem dX12_statement_9 : decode cX12_statement 9 = .ok (.istore_n 2, 1) := by decide +kernel
theorem dX12_statement_10 : decode cX12_statement 10 = .ok (.aload_n 0, 1) := by decide +kernel
theorem dX12_statement_11 : decode cX12_statement 11 = .ok (.getfield 65, 3) := by decide +kernel
theorem dX12_statement_14 : decode cX12_statement 14 = .ok (.iload_n 1, 1) := by decide +kernel
theorem dX12_statement_15 : decode cX12_statement 15 = .ok (.iload_n 2, 1) := by decide +kernel
theorem dX12_statement_16 : decode cX12_statement 16 = .ok (.iastore, 1) := by decide +kernel
theorem dX12_statement_17 : decode cX12_statement 17 = .ok (.aload_n 0, 1) := by decide +kernel
theorem dX12_statement_18 : decode cX12_statement 18 = .ok (.getfield 68, 3) := by decide +kernel
theorem dX12_statement_21 : decode cX12_statement 21 = .ok (.iload_n 1, 1) := by decide +kernel
theorem dX12_statement_22 : decode cX12_statement 22 = .ok (.aload_n 0, 1) := by decide +kernel
theorem dX12_statement_23 : decode cX12_statement 23 = .ok (.getfield 133, 3) := by decide +kernel
theorem dX12_statement_26 : decode cX12_statement 26 = .ok (.iastore, 1) := by decide +kernel
theorem dX12_statement_27 : decode cX12_statement 27 = .ok (.iload_n 2, 1) := by decide +kernel
theorem dX12_statement_28 : decode cX12_statement 28 = .ok (.bipush 119, 2) := by decide +kernel
theorem dX12_statement_30 : decode cX12_statement 30 = .ok (.if_icmp .eq 11, 3) := by decide +kernel
theorem dX12_statement_33 : decode cX12_statement 33 = .ok (.iload_n 2, 1) := by decide +kernel
theorem dX12_statement_34 : decode cX12_statement 34 = .ok (.bipush 112, 2) := by decide +kernel
theorem dX12_statement_36 : decode cX12_statement 36 = .ok (.if_icmp .eq 5, 3) := by decide +kernel
theorem dX12_statement_39 : decode cX12_statement 39 = .ok (.iconst 0, 1) := by decide +kernel
theorem dX12_statement_40 : decode cX12_statement 40 = .ok (.ireturn, 1) := by decide +kernel
theorem dX12_statement_41 : decode cX12_statement 41 = .ok (.aload_n 0, 1) := by decide +kernel
theorem dX12_statement_42 : decode cX12_statement 42 = .ok (.dup, 1) := by decide +kernel
theorem dX12_statement_43 : decode cX12_statement 43 = .ok (.getfield 133, 3) := by decide +kernel
theorem dX12_statement_46 : decode cX12_statement 46 = .ok (.iconst 1, 1) := by decide +kernel
theorem dX12_statement_47 : decode cX12_statement 47 = .ok (.iadd, 1) := by decide +kernel
theorem dX12_statement_48 : decode cX12_statement 48 = .ok (.putfield 133, 3) := by decide +kernel
theorem dX12_statement_51 : decode cX12_statement 51 = .ok (.iload_n 2, 1) := by decide +kernel
theorem dX12_statement_52 : decode cX12_statement 52 = .ok (.bipush 119, 2) := by decide +kernel
theorem dX12_statement_54 : decode cX12_statement 54 = .ok (.if_icmp .ne 11, 3) := by decide +kernel
theorem dX12_statement_57 : decode cX12_statement 57 = .ok (.aload_n 0, 1) := by decide +kernel
theorem dX12_statement_58 : decode cX12_statement 58 = .ok (.iload_n 1, 1) := by decide +kernel
theorem dX12_statement_59 : decode cX12_statement 59 = .ok (.invokevirtual 160, 3) := by decide +kernel
theorem dX12_statement_62 : decode cX12_statement 62 = .ok (.goto 8, 3) := by decide +kernel
theorem dX12_statement_65 : decode cX12_statement 65 = .ok (.aload_n 0, 1) := by decide +kernel
theorem dX12_statement_66 : decode cX12_statement 66 = .ok (.iload_n 1, 1) := by decide +kernel
theorem dX12_statement_67 : decode cX12_statement 67 = .ok (.invokevirtual 163, 3) := by decide +kernel
theorem dX12_statement_70 : decode cX12_statement 70 = .ok (.ireturn, 1) := by decide +kernel
set_option maxRecDepth 20000 in
theorem ggX12_comes_X12_isWord : GoodIn wsX12_comes wsX12_isWord := goodIn_r _ [18, 2, 26, 27, 28, 29, 30, 31, 32, 33, 34, 35, 36, 37, 38, 39, 40, 41, 42, 43, 44, 45, 46, 47, 48, 49, 50, 51, 52, 53, 54, 55, 56, 57, 58, 59, 60, 61, 62, 63, 64, 65, 66, 67, 68, 69, 70, 71, 72, 73, 74, 75, 76, 77] (by decide +kernel) (by decide +kernel)
set_option maxRecDepth 20000 in
theorem gX12_comes_X12_isWord : GoodIn wsX12_comes (wsV RX12 166 RX12 yX12_isWord wsX12_isWord) := goodIn_app (goodIn_of _ (by decide +kernel)) ggX12_comes_X12_isWord
set_option maxRecDepth 20000 in
theorem ggX12_comes_X12_comesWord : GoodIn wsX12_comes wsX12_comesWord := goodIn_r _ [22, 23, 2, 24, 4, 25, 26, 27, 28, 29, 30, 31, 32, 33, 34, 35, 36, 37, 38, 39, 40, 41, 42, 43, 44, 45, 46, 47, 48, 49, 50, 51, 52, 53, 54, 55, 56, 57, 58, 59, 60, 61, 62, 63, 64, 65, 66, 67, 68, 69, 70, 71, 72, 73, 74, 75, 76, 77] (by decide +kernel) (by decide +kernel)
set_option maxRecDepth 20000 in
theorem gX12_comes_X12_comesWord : GoodIn wsX12_comes (wsV RX12 169 RX12 yX12_comesWord wsX12_comesWord) := goodIn_app (goodIn_of _ (by decide +kernel)) ggX12_comes_X12_comesWord
theorem dX12_comes_0 : decode cX12_comes 0 = .ok (.aload_n 0, 1) := by decide +kernel
theorem dX12_comes_1 : decode cX12_comes 1 = .ok (.getfield 65, 3) := by decide +kernel
theorem dX12_comes_4 : decode cX12_comes 4 = .ok (.iload_n 1, 1) := by decide +kernel
theorem dX12_comes_5 : decode cX12_comes 5 = .ok (.iaload, 1) := by decide +kernel
theorem dX12_comes_6 : decode cX12_comes 6 = .ok (.bipush 119, 2) := by decide +kernel
theorem dX12_comes_8 : decode cX12_comes 8 = .ok (.if_icmp .ne 74, 3) := by decide +kernel
theorem dX12_comes_11 : decode cX12_comes 11 = .ok (.aload_n 0, 1) := by decide +kernel
theorem dX12_comes_12 : decode cX12_comes 12 = .ok (.getfield 46, 3) := by decide +kernel
theorem dX12_comes_15 : decode cX12_comes 15 = .ok (.bipush 24, 2) := by decide +kernel
theorem dX12_comes_17 : decode cX12_comes 17 = .ok (.if_icmp .eq 39, 3) := by decide +kernel
theorem dX12_comes_20 : decode cX12_comes 20 = .ok (.aload_n 0, 1) := by decide +kernel
theorem dX12_comes_21 : decode cX12_comes 21 = .ok (.aload_n 0, 1) := by decide +kernel
theorem dX12_comes_22 : decode cX12_comes 22 = .ok (.getfield 53, 3) := by decide +kernel
theorem dX12_comes_25 : decode cX12_comes 25 = .ok (.iload_n 1, 1) := by decide +kernel
theorem dX12_comes_26 : decode cX12_comes 26 = .ok (.iaload, 1) := by decide +kernel
theorem dX12_comes_27 : decode cX12_comes 27 = .ok (.invokevirtual 166, 3) := by decide +kernel
theorem dX12_comes_30 : decode cX12_comes 30 = .ok (.ifCond .eq 26, 3) := by decide +kernel
theorem dX12_comes_33 : decode cX12_comes 33 = .ok (.aload_n 0, 1) := by decide +kernel
theorem dX12_comes_34 : decode cX12_comes 34 = .ok (.getfield 19, 3) := by decide +kernel
theorem dX12_comes_37 : decode cX12_comes 37 = .ok (.aload_n 0, 1) := by decide +kernel
theorem dX12_comes_38 : decode cX12_comes 38 = .ok (.getfield 53, 3) := by decide +kernel
theorem dX12_comes_41 : decode cX12_comes 41 = .ok (.iload_n 1, 1) := by decide +kernel
theorem dX12_comes_42 : decode cX12_comes 42 = .ok (.iaload, 1) := by decide +kernel
theorem dX12_comes_43 : decode cX12_comes 43 = .ok (.iaload, 1) := by decide +kernel
theorem dX12_comes_44 : decode cX12_comes 44 = .ok (.ifCond .ne 12, 3) := by decide +kernel
theorem dX12_comes_47 : decode cX12_comes 47 = .ok (.aload_n 0, 1) := by decide +kernel
theorem dX12_comes_48 : decode cX12_comes 48 = .ok (.getfield 56, 3) := by decide +kernel
theorem dX12_comes_51 : decode cX12_comes 51 = .ok (.iload_n 1, 1) := by decide +kernel
theorem dX12_comes_52 : decode cX12_comes 52 = .ok (.iaload, 1) := by decide +kernel
theorem dX12_comes_53 : decode cX12_comes 53 = .ok (.ifCond .ne 5, 3) := by decide +kernel
theorem dX12_comes_56 : decode cX12_comes 56 = .ok (.iconst 0, 1) := by decide +kernel
theorem dX12_comes_57 : decode cX12_comes 57 = .ok (.ireturn, 1) := by decide +kernel
theorem dX12_comes_58 : decode cX12_comes 58 = .ok (.aload_n 0, 1) := by decide +kernel
theorem dX12_comes_59 : decode cX12_comes 59 = .ok (.aload_n 0, 1) := by decide +kernel
theorem dX12_comes_60 : decode cX12_comes 60 = .ok (.getfield 53, 3) := by decide +kernel
theorem dX12_comes_63 : decode cX12_comes 63 = .ok (.iload_n 1, 1) := by decide +kernel
theorem dX12_comes_64 : decode cX12_comes 64 = .ok (.iaload, 1) := by decide +kernel
theorem dX12_comes_65 : decode cX12_comes 65 = .ok (.aload_n 0, 1) := by decide +kernel
theorem dX12_comes_66 : decode cX12_comes 66 = .ok (.getfield 56, 3) := by decide +kernel
theorem dX12_comes_69 : decode cX12_comes 69 = .ok (.iload_n 1, 1) := by decide +kernel
theorem dX12_comes_70 : decode cX12_comes 70 = .ok (.iaload, 1) := by decide +kernel
theorem dX12_comes_71 : decode cX12_comes 71 = .ok (.aload_n 0, 1) := by decide +kernel
theorem dX12_comes_72 : decode cX12_comes 72 = .ok (.getfield 59, 3) := by decide +kernel
theorem dX12_comes_75 : decode cX12_comes 75 = .ok (.iload_n 1, 1) := by decide +kernel
theorem dX12_comes_76 : decode cX12_comes 76 = .ok (.iaload, 1) := by decide +kernel
theorem dX12_comes_77 : decode cX12_comes 77 = .ok (.invokevirtual 169, 3) := by decide +kernel
theorem dX12_comes_80 : decode cX12_comes 80 = .ok (.iconst 1, 1) := by decide +kernel
theorem dX12_comes_81 : decode cX12_comes 81 = .ok (.ireturn, 1) := by decide +kernel
theorem dX12_comes_82 : decode cX12_comes 82 = .ok (.aload_n 0, 1) := by decide +kernel
theorem dX12_comes_83 : decode cX12_comes 83 = .ok (.getfield 114, 3) := by decide +kernel
theorem dX12_comes_86 : decode cX12_comes 86 = .ok (.iconst 4, 1) := by decide +kernel
theorem dX12_comes_87 : decode cX12_comes 87 = .ok (.if_icmp .eq 26, 3) := by decide +kernel
theorem dX12_comes_90 : decode cX12_comes 90 = .ok (.aload_n 0, 1) := by decide +kernel
theorem dX12_comes_91 : decode cX12_comes 91 = .ok (.getfield 56, 3) := by decide +kernel
theorem dX12_comes_94 : decode cX12_comes 94 = .ok (.iload_n 1, 1) := by decide +kernel
theorem dX12_comes_95 : decode cX12_comes 95 = .ok (.iaload, 1) := by decide +kernel
theorem dX12_comes_96 : decode cX12_comes 96 = .ok (.bipush 100, 2) := by decide +kernel
theorem dX12_comes_98 : decode cX12_comes 98 = .ok (.if_icmp .gt 15, 3) := by decide +kernel
theorem dX12_comes_101 : decode cX12_comes 101 = .ok (.aload_n 0, 1) := by decide +kernel
theorem dX12_comes_102 : decode cX12_comes 102 = .ok (.getfield 62, 3) := by decide +kernel
theorem dX12_comes_105 : decode cX12_comes 105 = .ok (.iload_n 1, 1) := by decide +kernel
theorem dX12_comes_106 : decode cX12_comes 106 = .ok (.iaload, 1) := by decide +kernel
theorem dX12_comes_107 : decode cX12_comes 107 = .ok (.sipush 1024, 3) := by decide +kernel
theorem dX12_comes_110 : decode cX12_comes 110 = .ok (.if_icmp .lt 5, 3) := by decide +kernel
theorem dX12_comes_113 : decode cX12_comes 113 = .ok (.iconst 0, 1) := by decide +kernel
theorem dX12_comes_114 : decode cX12_comes 114 = .ok (.ireturn, 1) := by decide +kernel
theorem dX12_comes_115 : decode cX12_comes 115 = .ok (.aload_n 0, 1) := by decide +kernel
theorem dX12_comes_116 : decode cX12_comes 116 = .ok (.getfield 25, 3) := by decide +kernel
theorem dX12_comes_119 : decode cX12_comes 119 = .ok (.aload_n 0, 1) := by decide +kernel
theorem dX12_comes_120 : decode cX12_comes 120 = .ok (.getfield 114, 3) := by decide +kernel
theorem dX12_comes_123 : decode cX12_comes 123 = .ok (.aload_n 0, 1) := by decide +kernel
theorem dX12_comes_124 : decode cX12_comes 124 = .ok (.getfield 59, 3) := by decide +kernel
theorem dX12_comes_127 : decode cX12_comes 127 = .ok (.iload_n 1, 1) := by decide +kernel
theorem dX12_comes_128 : decode cX12_comes 128 = .ok (.iaload, 1) := by decide +kernel
theorem dX12_comes_129 : decode cX12_comes 129 = .ok (.iastore, 1) := by decide +kernel
theorem dX12_comes_130 : decode cX12_comes 130 = .ok (.aload_n 0, 1) := by decide +kernel
theorem dX12_comes_131 : decode cX12_comes 131 = .ok (.getfield 31, 3) := by decide +kernel
theorem dX12_comes_134 : decode cX12_comes 134 = .ok (.aload_n 0, 1) := by decide +kernel
theorem dX12_comes_135 : decode cX12_comes 135 = .ok (.getfield 114, 3) := by decide +kernel
theorem dX12_comes_138 : decode cX12_comes 138 = .ok (.aload_n 0, 1) := by decide +kernel
theorem dX12_comes_139 : decode cX12_comes 139 = .ok (.getfield 53, 3) := by decide +kernel
theorem dX12_comes_142 : decode cX12_comes 142 = .ok (.iload_n 1, 1) := by decide +kernel
theorem dX12_comes_143 : decode cX12_comes 143 = .ok (.iaload, 1) := by decide +kernel
theorem dX12_comes_144 : decode cX12_comes 144 = .ok (.iastore, 1) := by decide +kernel
theorem dX12_comes_145 : decode cX12_comes 145 = .ok (.aload_n 0, 1) := by decide +kernel
theorem dX12_comes_146 : decode cX12_comes 146 = .ok (.getfield 34, 3) := by decide +kernel
theorem dX12_comes_149 : decode cX12_comes 149 = .ok (.aload_n 0, 1) := by decide +kernel
theorem dX12_comes_150 : decode cX12_comes 150 = .ok (.getfield 114, 3) := by decide +kernel
theorem dX12_comes_153 : decode cX12_comes 153 = .ok (.aload_n 0, 1) := by decide +kernel
theorem dX12_comes_154 : decode cX12_comes 154 = .ok (.getfield 56, 3) := by decide +kernel
theorem dX12_comes_157 : decode cX12_comes 157 = .ok (.iload_n 1, 1) := by decide +kernel
theorem dX12_comes_158 : decode cX12_comes 158 = .ok (.iaload, 1) := by decide +kernel
theorem dX12_comes_159 : decode cX12_comes 159 = .ok (.iastore, 1) := by decide +kernel
theorem dX12_comes_160 : decode cX12_comes 160 = .ok (.aload_n 0, 1) := by decide +kernel
theorem dX12_comes_161 : decode cX12_comes 161 = .ok (.getfield 28, 3) := by decide +kernel
theorem dX12_comes_164 : decode cX12_comes 164 = .ok (.aload_n 0, 1) := by decide +kernel
theorem dX12_comes_165 : decode cX12_comes 165 = .ok (.getfield 114, 3) := by decide +kernel
theorem dX12_comes_168 : decode cX12_comes 168 = .ok (.aload_n 0, 1) := by decide +kernel
theorem dX12_comes_169 : decode cX12_comes 169 = .ok (.getfield 62, 3) := by decide +kernel
theorem dX12_comes_172 : decode cX12_comes 172 = .ok (.iload_n 1, 1) := by decide +kernel
theorem dX12_comes_173 : decode cX12_comes 173 = .ok (.iaload, 1) := by decide +kernel
theorem dX12_comes_174 : decode cX12_comes 174 = .ok (.iastore, 1) := by decide +kernel
theorem dX12_comes_175 : decode cX12_comes 175 = .ok (.aload_n 0, 1) := by decide +kernel
theorem dX12_comes_176 : decode cX12_comes 176 = .ok (.getfield 37, 3) := by decide +kernel
theorem dX12_comes_179 : decode cX12_comes 179 = .ok (.aload_n 0, 1) := by decide +kernel
theorem dX12_comes_180 : decode cX12_comes 180 = .ok (.getfield 114, 3) := by decide +kernel
theorem dX12_comes_183 : decode cX12_comes 183 = .ok (.iconst 0, 1) := by decide +kernel
theorem dX12_comes_184 : decode cX12_comes 184 = .ok (.iastore, 1) := by decide +kernel
theorem dX12_comes_185 : decode cX12_comes 185 = .ok (.aload_n 0, 1) := by decide +kernel
theorem dX12_comes_186 : decode cX12_comes 186 = .ok (.dup, 1) := by decide +kernel
theorem dX12_comes_187 : decode cX12_comes 187 = .ok (.getfield 114, 3) := by decide +kernel
theorem dX12_comes_190 : decode cX12_comes 190 = .ok (.iconst 1, 1) := by decide +kernel
theorem dX12_comes_191 : decode cX12_comes 191 = .ok (.iadd, 1) := by decide +kernel
theorem dX12_comes_192 : decode cX12_comes 192 = .ok (.putfield 114, 3) := by decide +kernel
theorem dX12_comes_195 : decode cX12_comes 195 = .ok (.iconst 1, 1) := by decide +kernel
theorem dX12_comes_196 : decode cX12_comes 196 = .ok (.ireturn, 1) := by decide +kernel
set_option maxRecDepth 20000 in
theorem ggX12_quiz_X12_statement : GoodIn wsX12_quiz wsX12_statement := goodIn_r _ [11, 2, 12, 6, 1, 13, 14, 15, 10, 16, 3, 17, 18, 19, 20, 21, 22, 23, 24, 25, 26, 27, 28, 29, 30, 31, 32, 33, 34, 35, 36, 37, 38, 39, 40, 41, 42, 43, 44, 45, 46, 47, 69, 70, 71, 72, 73, 74, 75, 76, 77, 78, 79, 80, 81, 82, 83, 84, 85, 86, 87, 88, 89, 90, 91, 92, 93, 94, 95, 96, 97, 98, 99, 100, 101, 102, 103, 104, 105, 106, 107, 108, 109, 110, 111, 112, 113, 114, 115, 116, 117, 118, 119, 120] (by decide +kernel) (by decide +kernel)
set_option maxRecDepth 20000 in
theorem gX12_quiz_X12_statement : GoodIn wsX12_quiz (wsV RX12 173 RX12 yX12_statement wsX12_statement) := goodIn_app (goodIn_of _ (by decide +kernel)) ggX12_quiz_X12_statement
set_option maxRecDepth 20000 in
theorem ggX12_quiz_X12_comes : GoodIn wsX12_quiz wsX12_comes := goodIn_r _ [51, 12, 4, 22, 52, 23, 24, 5, 47, 53, 54, 55, 56, 57, 58, 59, 60, 10, 61, 62, 63, 64, 65, 66, 67, 68, 69, 70, 71, 72, 73, 74, 75, 76, 77, 78, 79, 80, 81, 82, 83, 84, 85, 86, 87, 88, 89, 90, 91, 92, 93, 94, 95, 96, 97, 98, 99, 100, 101, 102, 103, 104, 105, 106, 107, 108, 109, 110, 111, 112, 113, 114, 115, 116, 117, 118, 119, 120] (by decide +kernel) (by decide +kernel)
set_option maxRecDepth 20000 in
theorem gX12_quiz_X12_comes : GoodIn wsX12_quiz (wsV RX12 177 RX12 yX12_comes wsX12_comes) := goodIn_app (goodIn_of _ (by decide +kernel)) ggX12_quiz_X12_comes
theorem dX12_quiz_0 : decode cX12_quiz 0 = .ok (.aload_n 0, 1) := by decide +kernel
theorem dX12_quiz_1 : decode cX12_quiz 1 = .ok (.iconst 0, 1) := by decide +kernel
theorem dX12_quiz_2 : decode cX12_quiz 2 = .ok (.putfield 133, 3) := by decide +kernel
theorem dX12_quiz_5 : decode cX12_quiz 5 = .ok (.aload_n 0, 1) := by decide +kernel
theorem dX12_quiz_6 : decode cX12_quiz 6 = .ok (.iconst 0, 1) := by decide +kernel
theorem dX12_quiz_7 : decode cX12_quiz 7 = .ok (.putfield 157, 3) := by decide +kernel
theorem dX12_quiz_10 : decode cX12_quiz 10 = .ok (.iconst 1, 1) := by decide +kernel
theorem dX12_quiz_11 : decode cX12_quiz 11 = .ok (.istore_n 1, 1) := by decide +kernel
theorem dX12_quiz_12 : decode cX12_quiz 12 = .ok (.iload_n 1, 1) := by decide +kernel
theorem dX12_quiz_13 : decode cX12_quiz 13 = .ok (.ifCond .eq 47, 3) := by decide +kernel
theorem dX12_quiz_16 : decode cX12_quiz 16 = .ok (.aload_n 0, 1) := by decide +kernel
theorem dX12_quiz_17 : decode cX12_quiz 17 = .ok (.getfield 133, 3) := by decide +kernel
theorem dX12_quiz_20 : decode cX12_quiz 20 = .ok (.aload_n 0, 1) := by decide +kernel
theorem dX12_quiz_21 : decode cX12_quiz 21 = .ok (.getfield 125, 3) := by decide +kernel
theorem dX12_quiz_24 : decode cX12_quiz 24 = .ok (.if_icmp .lt 10, 3) := by decide +kernel
theorem dX12_quiz_27 : decode cX12_quiz 27 = .ok (.aload_n 0, 1) := by decide +kernel
theorem dX12_quiz_28 : decode cX12_quiz 28 = .ok (.getfield 157, 3) := by decide +kernel
theorem dX12_quiz_31 : decode cX12_quiz 31 = .ok (.ifCond .ne 29, 3) := by decide +kernel
theorem dX12_quiz_34 : decode cX12_quiz 34 = .ok (.aload_n 0, 1) := by decide +kernel
theorem dX12_quiz_35 : decode cX12_quiz 35 = .ok (.invokevirtual 173, 3) := by decide +kernel
theorem dX12_quiz_38 : decode cX12_quiz 38 = .ok (.istore_n 1, 1) := by decide +kernel
theorem dX12_quiz_39 : decode cX12_quiz 39 = .ok (.aload_n 0, 1) := by decide +kernel
theorem dX12_quiz_40 : decode cX12_quiz 40 = .ok (.dup, 1) := by decide +kernel
theorem dX12_quiz_41 : decode cX12_quiz 41 = .ok (.getfield 157, 3) := by decide +kernel
theorem dX12_quiz_44 : decode cX12_quiz 44 = .ok (.iload_n 1, 1) := by decide +kernel
theorem dX12_quiz_45 : decode cX12_quiz 45 = .ok (.ifCond .eq 7, 3) := by decide +kernel
theorem dX12_quiz_48 : decode cX12_quiz 48 = .ok (.iconst 1, 1) := by decide +kernel
theorem dX12_quiz_49 : decode cX12_quiz 49 = .ok (.goto 4, 3) := by decide +kernel
theorem dX12_quiz_52 : decode cX12_quiz 52 = .ok (.iconst 0, 1) := by decide +kernel
theorem dX12_quiz_53 : decode cX12_quiz 53 = .ok (.iadd, 1) := by decide +kernel
theorem dX12_quiz_54 : decode cX12_quiz 54 = .ok (.putfield 157, 3) := by decide +kernel
theorem dX12_quiz_57 : decode cX12_quiz 57 = .ok (.goto (-45), 3) := by decide +kernel
theorem dX12_quiz_60 : decode cX12_quiz 60 = .ok (.aload_n 0, 1) := by decide +kernel
theorem dX12_quiz_61 : decode cX12_quiz 61 = .ok (.iconst 0, 1) := by decide +kernel
theorem dX12_quiz_62 : decode cX12_quiz 62 = .ok (.putfield 125, 3) := by decide +kernel
theorem dX12_quiz_65 : decode cX12_quiz 65 = .ok (.iload_n 1, 1) := by decide +kernel
theorem dX12_quiz_66 : decode cX12_quiz 66 = .ok (.ifCond .ne 12, 3) := by decide +kernel
theorem dX12_quiz_69 : decode cX12_quiz 69 = .ok (.sipush (-1000), 3) := by decide +kernel
theorem dX12_quiz_72 : decode cX12_quiz 72 = .ok (.aload_n 0, 1) := by decide +kernel
theorem dX12_quiz_73 : decode cX12_quiz 73 = .ok (.getfield 133, 3) := by decide +kernel
theorem dX12_quiz_76 : decode cX12_quiz 76 = .ok (.isub, 1) := by decide +kernel
theorem dX12_quiz_77 : decode cX12_quiz 77 = .ok (.ireturn, 1) := by decide +kernel
theorem dX12_quiz_78 : decode cX12_quiz 78 = .ok (.aload_n 0, 1) := by decide +kernel
theorem dX12_quiz_79 : decode cX12_quiz 79 = .ok (.getfield 46, 3) := by decide +kernel
theorem dX12_quiz_82 : decode cX12_quiz 82 = .ok (.istore_n 2, 1) := by decide +kernel
theorem dX12_quiz_83 : decode cX12_quiz 83 = .ok (.aload_n 0, 1) := by decide +kernel
theorem dX12_quiz_84 : decode cX12_quiz 84 = .ok (.getfield 114, 3) := by decide +kernel
theorem dX12_quiz_87 : decode cX12_quiz 87 = .ok (.istore_n 3, 1) := by decide +kernel
theorem dX12_quiz_88 : decode cX12_quiz 88 = .ok (.iconst 0, 1) := by decide +kernel
theorem dX12_quiz_89 : decode cX12_quiz 89 = .ok (.istore 4, 2) := by decide +kernel
theorem dX12_quiz_91 : decode cX12_quiz 91 = .ok (.iload 4, 2) := by decide +kernel
theorem dX12_quiz_93 : decode cX12_quiz 93 = .ok (.aload_n 0, 1) := by decide +kernel
theorem dX12_quiz_94 : decode cX12_quiz 94 = .ok (.getfield 157, 3) := by decide +kernel
theorem dX12_quiz_97 : decode cX12_quiz 97 = .ok (.if_icmp .ge 43, 3) := by decide +kernel
theorem dX12_quiz_100 : decode cX12_quiz 100 = .ok (.aload_n 0, 1) := by decide +kernel
theorem dX12_quiz_101 : decode cX12_quiz 101 = .ok (.iload 4, 2) := by decide +kernel
theorem dX12_quiz_103 : decode cX12_quiz 103 = .ok (.invokevirtual 177, 3) := by decide +kernel
theorem dX12_quiz_106 : decode cX12_quiz 106 = .ok (.ifCond .eq 6, 3) := by decide +kernel
theorem dX12_quiz_109 : decode cX12_quiz 109 = .ok (.goto 25, 3) := by decide +kernel
theorem dX12_quiz_112 : decode cX12_quiz 112 = .ok (.aload_n 0, 1) := by decide +kernel
theorem dX12_quiz_113 : decode cX12_quiz 113 = .ok (.iload_n 2, 1) := by decide +kernel
theorem dX12_quiz_114 : decode cX12_quiz 114 = .ok (.putfield 46, 3) := by decide +kernel
