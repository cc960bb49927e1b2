theorem dX11_init_0 : decode cX11_init 0 = .ok (.aload_n 0, 1) := by decide +kernel
theorem dX11_init_1 : decode cX11_init 1 = .ok (.invokespecial 1, 3) := by decide +kernel
theorem dX11_init_4 : decode cX11_init 4 = .ok (.aload_n 0, 1) := by decide +kernel
theorem dX11_init_5 : decode cX11_init 5 = .ok (.sipush 855, 3) := by decide +kernel
theorem dX11_init_8 : decode cX11_init 8 = .ok (.newarray .int, 2) := by decide +kernel
theorem dX11_init_10 : decode cX11_init 10 = .ok (.putfield 7, 3) := by decide +kernel
theorem dX11_init_13 : decode cX11_init 13 = .ok (.aload_n 0, 1) := by decide +kernel
theorem dX11_init_14 : decode cX11_init 14 = .ok (.sipush 855, 3) := by decide +kernel
theorem dX11_init_17 : decode cX11_init 17 = .ok (.newarray .int, 2) := by decide +kernel
theorem dX11_init_19 : decode cX11_init 19 = .ok (.putfield 13, 3) := by decide +kernel
theorem dX11_init_22 : decode cX11_init 22 = .ok (.aload_n 0, 1) := by decide +kernel
theorem dX11_init_23 : decode cX11_init 23 = .ok (.sipush 855, 3) := by decide +kernel
theorem dX11_init_26 : decode cX11_init 26 = .ok (.newarray .int, 2) := by decide +kernel
theorem dX11_init_28 : decode cX11_init 28 = .ok (.putfield 16, 3) := by decide +kernel
theorem dX11_init_31 : decode cX11_init 31 = .ok (.aload_n 0, 1) := by decide +kernel
theorem dX11_init_32 : decode cX11_init 32 = .ok (.sipush 400, 3) := by decide +kernel
theorem dX11_init_35 : decode cX11_init 35 = .ok (.newarray .int, 2) := by decide +kernel
theorem dX11_init_37 : decode cX11_init 37 = .ok (.putfield 19, 3) := by decide +kernel
theorem dX11_init_40 : decode cX11_init 40 = .ok (.aload_n 0, 1) := by decide +kernel
theorem dX11_init_41 : decode cX11_init 41 = .ok (.iconst (-1), 1) := by decide +kernel
theorem dX11_init_42 : decode cX11_init 42 = .ok (.putfield 22, 3) := by decide +kernel
theorem dX11_init_45 : decode cX11_init 45 = .ok (.aload_n 0, 1) := by decide +kernel
theorem dX11_init_46 : decode cX11_init 46 = .ok (.bipush 120, 2) := by decide +kernel
theorem dX11_init_48 : decode cX11_init 48 = .ok (.newarray .int, 2) := by decide +kernel
theorem dX11_init_50 : decode cX11_init 50 = .ok (.putfield 26, 3) := by decide +kernel
theorem dX11_init_53 : decode cX11_init 53 = .ok (.aload_n 0, 1) := by decide +kernel
theorem dX11_init_54 : decode cX11_init 54 = .ok (.bipush 12, 2) := by decide +kernel
theorem dX11_init_56 : decode cX11_init 56 = .ok (.newarray .int, 2) := by decide +kernel
theorem dX11_init_58 : decode cX11_init 58 = .ok (.putfield 29, 3) := by decide +kernel
theorem dX11_init_61 : decode cX11_init 61 = .ok (.aload_n 0, 1) := by decide +kernel
theorem dX11_init_62 : decode cX11_init 62 = .ok (.bipush 18, 2) := by decide +kernel
theorem dX11_init_64 : decode cX11_init 64 = .ok (.newarray .int, 2) := by decide +kernel
theorem dX11_init_66 : decode cX11_init 66 = .ok (.putfield 32, 3) := by decide +kernel
theorem dX11_init_69 : decode cX11_init 69 = .ok (.aload_n 0, 1) := by decide +kernel
theorem dX11_init_70 : decode cX11_init 70 = .ok (.bipush 12, 2) := by decide +kernel
theorem dX11_init_72 : decode cX11_init 72 = .ok (.newarray .int, 2) := by decide +kernel
theorem dX11_init_74 : decode cX11_init 74 = .ok (.putfield 35, 3) := by decide +kernel
theorem dX11_init_77 : decode cX11_init 77 = .ok (.aload_n 0, 1) := by decide +kernel
theorem dX11_init_78 : decode cX11_init 78 = .ok (.bipush 12, 2) := by decide +kernel
theorem dX11_init_80 : decode cX11_init 80 = .ok (.newarray .int, 2) := by decide +kernel
theorem dX11_init_82 : decode cX11_init 82 = .ok (.putfield 38, 3) := by decide +kernel
theorem dX11_init_85 : decode cX11_init 85 = .ok (.aload_n 0, 1) := by decide +kernel
theorem dX11_init_86 : decode cX11_init 86 = .ok (.sipush 18816, 3) := by decide +kernel
theorem dX11_init_89 : decode cX11_init 89 = .ok (.newarray .int, 2) := by decide +kernel
theorem dX11_init_91 : decode cX11_init 91 = .ok (.putfield 41, 3) := by decide +kernel
theorem dX11_init_94 : decode cX11_init 94 = .ok (.aload_n 0, 1) := by decide +kernel
theorem dX11_init_95 : decode cX11_init 95 = .ok (.sipush 448, 3) := by decide +kernel
theorem dX11_init_98 : decode cX11_init 98 = .ok (.newarray .long, 2) := by decide +kernel
theorem dX11_init_100 : decode cX11_init 100 = .ok (.putfield 44, 3) := by decide +kernel
theorem dX11_init_103 : decode cX11_init 103 = .ok (.aload_n 0, 1) := by decide +kernel
theorem dX11_init_104 : decode cX11_init 104 = .ok (.bipush 6, 2) := by decide +kernel
theorem dX11_init_106 : decode cX11_init 106 = .ok (.newarray .int, 2) := by decide +kernel
theorem dX11_init_108 : decode cX11_init 108 = .ok (.putfield 48, 3) := by decide +kernel
theorem dX11_init_111 : decode cX11_init 111 = .ok (.aload_n 0, 1) := by decide +kernel
theorem dX11_init_112 : decode cX11_init 112 = .ok (.bipush 6, 2) := by decide +kernel
theorem dX11_init_114 : decode cX11_init 114 = .ok (.newarray .int, 2) := by decide +kernel
theorem dX11_init_116 : decode cX11_init 116 = .ok (.putfield 51, 3) := by decide +kernel
theorem dX11_init_119 : decode cX11_init 119 = .ok (.aload_n 0, 1) := by decide +kernel
theorem dX11_init_120 : decode cX11_init 120 = .ok (.bipush 18, 2) := by decide +kernel
theorem dX11_init_122 : decode cX11_init 122 = .ok (.newarray .int, 2) := by decide +kernel
theorem dX11_init_124 : decode cX11_init 124 = .ok (.putfield 54, 3) := by decide +kernel
theorem dX11_init_127 : decode cX11_init 127 = .ok (.aload_n 0, 1) := by decide +kernel
theorem dX11_init_128 : decode cX11_init 128 = .ok (.bipush 36, 2) := by decide +kernel
theorem dX11_init_130 : decode cX11_init 130 = .ok (.newarray .int, 2) := by decide +kernel
theorem dX11_init_132 : decode cX11_init 132 = .ok (.putfield 57, 3) := by decide +kernel
theorem dX11_init_135 : decode cX11_init 135 = .ok (.aload_n 0, 1) := by decide +kernel
theorem dX11_init_136 : decode cX11_init 136 = .ok (.sipush 18816, 3) := by decide +kernel
theorem dX11_init_139 : decode cX11_init 139 = .ok (.newarray .boolean, 2) := by decide +kernel
theorem dX11_init_141 : decode cX11_init 141 = .ok (.putfield 60, 3) := by decide +kernel
theorem dX11_init_144 : decode cX11_init 144 = .ok (.aload_n 0, 1) := by decide +kernel
theorem dX11_init_145 : decode cX11_init 145 = .ok (.sipush 18816, 3) := by decide +kernel
theorem dX11_init_148 : decode cX11_init 148 = .ok (.newarray .boolean, 2) := by decide +kernel
theorem dX11_init_150 : decode cX11_init 150 = .ok (.putfield 64, 3) := by decide +kernel
theorem dX11_init_153 : decode cX11_init 153 = .ok (.aload_n 0, 1) := by decide +kernel
theorem dX11_init_154 : decode cX11_init 154 = .ok (.sipush 18816, 3) := by decide +kernel
theorem dX11_init_157 : decode cX11_init 157 = .ok (.newarray .int, 2) := by decide +kernel
theorem dX11_init_159 : decode cX11_init 159 = .ok (.putfield 67, 3) := by decide +kernel
theorem dX11_init_162 : decode cX11_init 162 = .ok (.aload_n 0, 1) := by decide +kernel
theorem dX11_init_163 : decode cX11_init 163 = .ok (.sipush 18816, 3) := by decide +kernel
theorem dX11_init_166 : decode cX11_init 166 = .ok (.newarray .int, 2) := by decide +kernel
theorem dX11_init_168 : decode cX11_init 168 = .ok (.putfield 70, 3) := by decide +kernel
theorem dX11_init_171 : decode cX11_init 171 = .ok (.aload_n 0, 1) := by decide +kernel
theorem dX11_init_172 : decode cX11_init 172 = .ok (.sipush 18816, 3) := by decide +kernel
theorem dX11_init_175 : decode cX11_init 175 = .ok (.newarray .int, 2) := by decide +kernel
theorem dX11_init_177 : decode cX11_init 177 = .ok (.putfield 73, 3) := by decide +kernel
theorem dX11_init_180 : decode cX11_init 180 = .ok (.aload_n 0, 1) := by decide +kernel
theorem dX11_init_181 : decode cX11_init 181 = .ok (.sipush 18816, 3) := by decide +kernel
theorem dX11_init_184 : decode cX11_init 184 = .ok (.newarray .int, 2) := by decide +kernel
theorem dX11_init_186 : decode cX11_init 186 = .ok (.putfield 76, 3) := by decide +kernel
theorem dX11_init_189 : decode cX11_init 189 = .ok (.aload_n 0, 1) := by decide +kernel
theorem dX11_init_190 : decode cX11_init 190 = .ok (.sipush 18816, 3) := by decide +kernel
theorem dX11_init_193 : decode cX11_init 193 = .ok (.newarray .int, 2) := by decide +kernel
theorem dX11_init_195 : decode cX11_init 195 = .ok (.putfield 79, 3) := by decide +kernel
theorem dX11_init_198 : decode cX11_init 198 = .ok (.aload_n 0, 1) := by decide +kernel
theorem dX11_init_199 : decode cX11_init 199 = .ok (.bipush 7, 2) := by decide +kernel
theorem dX11_init_201 : decode cX11_init 201 = .ok (.newarray .int, 2) := by decide +kernel
theorem dX11_init_203 : decode cX11_init 203 = .ok (.putfield 82, 3) := by decide +kernel
theorem dX11_init_206 : decode cX11_init 206 = .ok (.aload_n 0, 1) := by decide +kernel
theorem dX11_init_207 : decode cX11_init 207 = .ok (.bipush 7, 2) := by decide +kernel
theorem dX11_init_209 : decode cX11_init 209 = .ok (.newarray .int, 2) := by decide +kernel
theorem dX11_init_211 : decode cX11_init 211 = .ok (.putfield 85, 3) := by decide +kernel
theorem dX11_init_214 : decode cX11_init 214 = .ok (.aload_n 0, 1) := by decide +kernel
theorem dX11_init_215 : decode cX11_init 215 = .ok (.sipush 8512, 3) := by decide +kernel
theorem dX11_init_218 : decode cX11_init 218 = .ok (.newarray .int, 2) := by decide +kernel
theorem dX11_init_220 : decode cX11_init 220 = .ok (.putfield 88, 3) := by decide +kernel
theorem dX11_init_223 : decode cX11_init 223 = .ok (.aload_n 0, 1) := by decide +kernel
theorem dX11_init_224 : decode cX11_init 224 = .ok (.sipush 361, 3) := by decide +kernel
theorem dX11_init_227 : decode cX11_init 227 = .ok (.newarray .int, 2) := by decide +kernel
theorem dX11_init_229 : decode cX11_init 229 = .ok (.putfield 91, 3) := by decide +kernel
theorem dX11_init_232 : decode cX11_init 232 = .ok (.aload_n 0, 1) := by decide +kernel
theorem dX11_init_233 : decode cX11_init 233 = .ok (.sipush 180, 3) := by decide +kernel
theorem dX11_init_236 : decode cX11_init 236 = .ok (.newarray .int, 2) := by decide +kernel
theorem dX11_init_238 : decode cX11_init 238 = .ok (.putfield 94, 3) := by decide +kernel
theorem dX11_init_241 : decode cX11_init 241 = .ok (.aload_n 0, 1) := by decide +kernel
theorem dX11_init_242 : decode cX11_init 242 = .ok (.bipush 10, 2) := by decide +kernel
theorem dX11_init_244 : decode cX11_init 244 = .ok (.newarray .int, 2) := by decide +kernel
theorem dX11_init_246 : decode cX11_init 246 = .ok (.putfield 97, 3) := by decide +kernel
theorem dX11_init_249 : decode cX11_init 249 = .ok (.aload_n 0, 1) := by decide +kernel
theorem dX11_init_250 : decode cX11_init 250 = .ok (.getfield 7, 3) := by decide +kernel
theorem dX11_init_253 : decode cX11_init 253 = .ok (.iconst 4, 1) := by decide +kernel
theorem dX11_init_254 : decode cX11_init 254 = .ok (.bipush 20, 2) := by decide +kernel
theorem dX11_init_256 : decode cX11_init 256 = .ok (.iastore, 1) := by decide +kernel
theorem dX11_init_257 : decode cX11_init 257 = .ok (.aload_n 0, 1) := by decide +kernel
theorem dX11_init_258 : decode cX11_init 258 = .ok (.getfield 7, 3) := by decide +kernel
theorem dX11_init_261 : decode cX11_init 261 = .ok (.iconst 5, 1) := by decide +kernel
theorem dX11_init_262 : decode cX11_init 262 = .ok (.bipush 50, 2) := by decide +kernel
theorem dX11_init_264 : decode cX11_init 264 = .ok (.iastore, 1) := by decide +kernel
theorem dX11_init_265 : decode cX11_init 265 = .ok (.aload_n 0, 1) := by decide +kernel
theorem dX11_init_266 : decode cX11_init 266 = .ok (.getfield 7, 3) := by decide +kernel
theorem dX11_init_269 : decode cX11_init 269 = .ok (.bipush 6, 2) := by decide +kernel
theorem dX11_init_271 : decode cX11_init 271 = .ok (.iconst 2, 1) := by decide +kernel
theorem dX11_init_272 : decode cX11_init 272 = .ok (.iastore, 1) := by decide +kernel
theorem dX11_init_273 : decode cX11_init 273 = .ok (.aload_n 0, 1) := by decide +kernel
theorem dX11_init_274 : decode cX11_init 274 = .ok (.getfield 7, 3) := by decide +kernel
theorem dX11_init_277 : decode cX11_init 277 = .ok (.bipush 7, 2) := by decide +kernel
theorem dX11_init_279 : decode cX11_init 279 = .ok (.bipush 6, 2) := by decide +kernel
theorem dX11_init_281 : decode cX11_init 281 = .ok (.iastore, 1) := by decide +kernel
theorem dX11_init_282 : decode cX11_init 282 = .ok (.aload_n 0, 1) := by decide +kernel
theorem dX11_init_283 : decode cX11_init 283 = .ok (.getfield 7, 3) := by decide +kernel
theorem dX11_init_286 : decode cX11_init 286 = .ok (.bipush 8, 2) := by decide +kernel
theorem dX11_init_288 : decode cX11_init 288 = .ok (.bipush 8, 2) := by decide +kernel
theorem dX11_init_290 : decode cX11_init 290 = .ok (.iastore, 1) := by decide +kernel
theorem dX11_init_291 : decode cX11_init 291 = .ok (.return_, 1) := by decide +kernel
theorem dX11_thrown_0 : decode cX11_thrown 0 = .ok (.aload_n 0, 1) := by decide +kernel
theorem dX11_thrown_1 : decode cX11_thrown 1 = .ok (.getfield 100, 3) := by decide +kernel
theorem dX11_thrown_4 : decode cX11_thrown 4 = .ok (.ireturn, 1) := by decide +kernel
theorem dX11_isIn_0 : decode cX11_isIn 0 = .ok (.iload_n 0, 1) := by decide +kernel
theorem dX11_isIn_1 : decode cX11_isIn 1 = .ok (.iload_n 1, 1) := by decide +kernel
theorem dX11_isIn_2 : decode cX11_isIn 2 = .ok (.if_icmp .lt 12, 3) := by decide +kernel
theorem dX11_isIn_5 : decode cX11_isIn 5 = .ok (.iload_n 0, 1) := by decide +kernel
theorem dX11_isIn_6 : decode cX11_isIn 6 = .ok (.iload_n 2, 1) := by decide +kernel
theorem dX11_isIn_7 : decode cX11_isIn 7 = .ok (.if_icmp .gt 7, 3) := by decide +kernel
theorem dX11_isIn_10 : decode cX11_isIn 10 = .ok (.iconst 1, 1) := by decide +kernel
theorem dX11_isIn_11 : decode cX11_isIn 11 = .ok (.goto 4, 3) := by decide +kernel
theorem dX11_isIn_14 : decode cX11_isIn 14 = .ok (.iconst 0, 1) := by decide +kernel
theorem dX11_isIn_15 : decode cX11_isIn 15 = .ok (.ireturn, 1) := by decide +kernel
theorem dX11_lesser_0 : decode cX11_lesser 0 = .ok (.iload_n 0, 1) := by decide +kernel
theorem dX11_lesser_1 : decode cX11_lesser 1 = .ok (.iload_n 1, 1) := by decide +kernel
theorem dX11_lesser_2 : decode cX11_lesser 2 = .ok (.if_icmp .ge 7, 3) := by decide +kernel
theorem dX11_lesser_5 : decode cX11_lesser 5 = .ok (.iload_n 0, 1) := by decide +kernel
theorem dX11_lesser_6 : decode cX11_lesser 6 = .ok (.goto 4, 3) := by decide +kernel
theorem dX11_lesser_9 : decode cX11_lesser 9 = .ok (.iload_n 1, 1) := by decide +kernel
theorem dX11_lesser_10 : decode cX11_lesser 10 = .ok (.ireturn, 1) := by decide +kernel
theorem dX11_apartBy_0 : decode cX11_apartBy 0 = .ok (.iload_n 0, 1) := by decide +kernel
theorem dX11_apartBy_1 : decode cX11_apartBy 1 = .ok (.iload_n 1, 1) := by decide +kernel
theorem dX11_apartBy_2 : decode cX11_apartBy 2 = .ok (.if_icmp .ge 9, 3) := by decide +kernel
theorem dX11_apartBy_5 : decode cX11_apartBy 5 = .ok (.iload_n 1, 1) := by decide +kernel
theorem dX11_apartBy_6 : decode cX11_apartBy 6 = .ok (.iload_n 0, 1) := by decide +kernel
theorem dX11_apartBy_7 : decode cX11_apartBy 7 = .ok (.isub, 1) := by decide +kernel
theorem dX11_apartBy_8 : decode cX11_apartBy 8 = .ok (.goto 6, 3) := by decide +kernel
theorem dX11_apartBy_11 : decode cX11_apartBy 11 = .ok (.iload_n 0, 1) := by decide +kernel
theorem dX11_apartBy_12 : decode cX11_apartBy 12 = .ok (.iload_n 1, 1) := by decide +kernel
theorem dX11_apartBy_13 : decode cX11_apartBy 13 = .ok (.isub, 1) := by decide +kernel
theorem dX11_apartBy_14 : decode cX11_apartBy 14 = .ok (.ireturn, 1) := by decide +kernel
theorem dX11_isOf_0 : decode cX11_isOf 0 = .ok (.iload_n 0, 1) := by decide +kernel
theorem dX11_isOf_1 : decode cX11_isOf 1 = .ok (.iload_n 1, 1) := by decide +kernel
theorem dX11_isOf_2 : decode cX11_isOf 2 = .ok (.ishr, 1) := by decide +kernel
theorem dX11_isOf_3 : decode cX11_isOf 3 = .ok (.iconst 1, 1) := by decide +kernel
theorem dX11_isOf_4 : decode cX11_isOf 4 = .ok (.iand, 1) := by decide +kernel
theorem dX11_isOf_5 : decode cX11_isOf 5 = .ok (.iconst 1, 1) := by decide +kernel
theorem dX11_isOf_6 : decode cX11_isOf 6 = .ok (.if_icmp .ne 7, 3) := by decide +kernel
theorem dX11_isOf_9 : decode cX11_isOf 9 = .ok (.iconst 1, 1) := by decide +kernel
theorem dX11_isOf_10 : decode cX11_isOf 10 = .ok (.goto 4, 3) := by decide +kernel
theorem dX11_isOf_13 : decode cX11_isOf 13 = .ok (.iconst 0, 1) := by decide +kernel
theorem dX11_isOf_14 : decode cX11_isOf 14 = .ok (.ireturn, 1) := by decide +kernel
theorem dX11_bits_0 : decode cX11_bits 0 = .ok (.iconst 0, 1) := by decide +kernel
theorem dX11_bits_1 : decode cX11_bits 1 = .ok (.istore_n 1, 1) := by decide +kernel
theorem dX11_bits_2 : decode cX11_bits 2 = .ok (.iconst 0, 1) := by decide +kernel
theorem dX11_bits_3 : decode cX11_bits 3 = .ok (.istore_n 2, 1) := by decide +kernel
theorem dX11_bits_4 : decode cX11_bits 4 = .ok (.iload_n 2, 1) := by decide +kernel
theorem dX11_bits_5 : decode cX11_bits 5 = .ok (.bipush 6, 2) := by decide +kernel
theorem dX11_bits_7 : decode cX11_bits 7 = .ok (.if_icmp .ge 17, 3) := by decide +kernel
theorem dX11_bits_10 : decode cX11_bits 10 = .ok (.iload_n 1, 1) := by decide +kernel
theorem dX11_bits_11 : decode cX11_bits 11 = .ok (.iload_n 0, 1) := by decide +kernel
theorem dX11_bits_12 : decode cX11_bits 12 = .ok (.iload_n 2, 1) := by decide +kernel
theorem dX11_bits_13 : decode cX11_bits 13 = .ok (.ishr, 1) := by decide +kernel
theorem dX11_bits_14 : decode cX11_bits 14 = .ok (.iconst 1, 1) := by decide +kernel
theorem dX11_bits_15 : decode cX11_bits 15 = .ok (.iand, 1) := by decide +kernel
theorem dX11_bits_16 : decode cX11_bits 16 = .ok (.iadd, 1) := by decide +kernel
theorem dX11_bits_17 : decode cX11_bits 17 = .ok (.istore_n 1, 1) := by decide +kernel
theorem dX11_bits_18 : decode cX11_bits 18 = .ok (.iinc 2 1, 3) := by decide +kernel
theorem dX11_bits_21 : decode cX11_bits 21 = .ok (.goto (-17), 3) := by decide +kernel
theorem dX11_bits_24 : decode cX11_bits 24 = .ok (.iload_n 1, 1) := by decide +kernel
theorem dX11_bits_25 : decode cX11_bits 25 = .ok (.ireturn, 1) := by decide +kernel
theorem dX11_of_0 : decode cX11_of 0 = .ok (.aload_n 0, 1) := by decide +kernel
theorem dX11_of_1 : decode cX11_of 1 = .ok (.getfield 7, 3) := by decide +kernel
theorem dX11_of_4 : decode cX11_of 4 = .ok (.sipush 369, 3) := by decide +kernel
theorem dX11_of_7 : decode cX11_of 7 = .ok (.bipush 10, 2) := by decide +kernel
theorem dX11_of_9 : decode cX11_of 9 = .ok (.iload_n 1, 1) := by decide +kernel
theorem dX11_of_10 : decode cX11_of 10 = .ok (.imul, 1) := by decide +kernel
theorem dX11_of_11 : decode cX11_of 11 = .ok (.iadd, 1) := by decide +kernel
theorem dX11_of_12 : decode cX11_of 12 = .ok (.iload_n 2, 1) := by decide +kernel
theorem dX11_of_13 : decode cX11_of 13 = .ok (.iadd, 1) := by decide +kernel
theorem dX11_of_14 : decode cX11_of 14 = .ok (.iaload, 1) := by decide +kernel
theorem dX11_of_15 : decode cX11_of 15 = .ok (.ireturn, 1) := by decide +kernel
theorem dX11_isWord_0 : decode cX11_isWord 0 = .ok (.iload_n 1, 1) := by decide +kernel
theorem dX11_isWord_1 : decode cX11_isWord 1 = .ok (.iconst 0, 1) := by decide +kernel
theorem dX11_isWord_2 : decode cX11_isWord 2 = .ok (.aload_n 0, 1) := by decide +kernel
theorem dX11_isWord_3 : decode cX11_isWord 3 = .ok (.getfield 7, 3) := by decide +kernel
theorem dX11_isWord_6 : decode cX11_isWord 6 = .ok (.iconst 0, 1) := by decide +kernel
theorem dX11_isWord_7 : decode cX11_isWord 7 = .ok (.iaload, 1) := by decide +kernel
theorem dX11_isWord_8 : decode cX11_isWord 8 = .ok (.iconst 1, 1) := by decide +kernel
theorem dX11_isWord_9 : decode cX11_isWord 9 = .ok (.isub, 1) := by decide +kernel
theorem dX11_isWord_10 : decode cX11_isWord 10 = .ok (.invokestatic 103, 3) := by decide +kernel
theorem dX11_isWord_13 : decode cX11_isWord 13 = .ok (.ireturn, 1) := by decide +kernel
theorem dX11_isPhrase_0 : decode cX11_isPhrase 0 = .ok (.iload_n 1, 1) := by decide +kernel
theorem dX11_isPhrase_1 : decode cX11_isPhrase 1 = .ok (.iconst 0, 1) := by decide +kernel
theorem dX11_isPhrase_2 : decode cX11_isPhrase 2 = .ok (.aload_n 0, 1) := by decide +kernel
theorem dX11_isPhrase_3 : decode cX11_isPhrase 3 = .ok (.getfield 7, 3) := by decide +kernel
theorem dX11_isPhrase_6 : decode cX11_isPhrase 6 = .ok (.iconst 1, 1) := by decide +kernel
theorem dX11_isPhrase_7 : decode cX11_isPhrase 7 = .ok (.iaload, 1) := by decide +kernel
theorem dX11_isPhrase_8 : decode cX11_isPhrase 8 = .ok (.iconst 1, 1) := by decide +kernel
theorem dX11_isPhrase_9 : decode cX11_isPhrase 9 = .ok (.isub, 1) := by decide +kernel
theorem dX11_isPhrase_10 : decode cX11_isPhrase 10 = .ok (.invokestatic 103, 3) := by decide +kernel
theorem dX11_isPhrase_13 : decode cX11_isPhrase 13 = .ok (.ireturn, 1) := by decide +kernel
theorem dX11_isPlace_0 : decode cX11_isPlace 0 = .ok (.iload_n 1, 1) := by decide +kernel
theorem dX11_isPlace_1 : decode cX11_isPlace 1 = .ok (.iconst 0, 1) := by decide +kernel
theorem dX11_isPlace_2 : decode cX11_isPlace 2 = .ok (.aload_n 0, 1) := by decide +kernel
theorem dX11_isPlace_3 : decode cX11_isPlace 3 = .ok (.getfield 7, 3) := by decide +kernel
theorem dX11_isPlace_6 : decode cX11_isPlace 6 = .ok (.iconst 3, 1) := by decide +kernel
theorem dX11_isPlace_7 : decode cX11_isPlace 7 = .ok (.iaload, 1) := by decide +kernel
theorem dX11_isPlace_8 : decode cX11_isPlace 8 = .ok (.iconst 1, 1) := by decide +kernel
theorem dX11_isPlace_9 : decode cX11_isPlace 9 = .ok (.isub, 1) := by decide +kernel
theorem dX11_isPlace_10 : decode cX11_isPlace 10 = .ok (.invokestatic 103, 3) := by decide +kernel
theorem dX11_isPlace_13 : decode cX11_isPlace 13 = .ok (.ireturn, 1) := by decide +kernel
theorem dX11_feed_0 : decode cX11_feed 0 = .ok (.aload_n 0, 1) := by decide +kernel
theorem dX11_feed_1 : decode cX11_feed 1 = .ok (.iconst 0, 1) := by decide +kernel
theorem dX11_feed_2 : decode cX11_feed 2 = .ok (.putfield 100, 3) := by decide +kernel
theorem dX11_feed_5 : decode cX11_feed 5 = .ok (.aload_n 0, 1) := by decide +kernel
theorem dX11_feed_6 : decode cX11_feed 6 = .ok (.getfield 107, 3) := by decide +kernel
theorem dX11_feed_9 : decode cX11_feed 9 = .ok (.bipush 20, 2) := by decide +kernel
theorem dX11_feed_11 : decode cX11_feed 11 = .ok (.iadd, 1) := by decide +kernel
theorem dX11_feed_12 : decode cX11_feed 12 = .ok (.sipush 400, 3) := by decide +kernel
theorem dX11_feed_15 : decode cX11_feed 15 = .ok (.if_icmp .le 5, 3) := by decide +kernel
theorem dX11_feed_18 : decode cX11_feed 18 = .ok (.iconst (-1), 1) := by decide +kernel
theorem dX11_feed_19 : decode cX11_feed 19 = .ok (.ireturn, 1) := by decide +kernel
theorem dX11_feed_20 : decode cX11_feed 20 = .ok (.iconst 0, 1) := by decide +kernel
theorem dX11_feed_21 : decode cX11_feed 21 = .ok (.istore 6, 2) := by decide +kernel
theorem dX11_feed_23 : decode cX11_feed 23 = .ok (.iload 6, 2) := by decide +kernel
theorem dX11_feed_25 : decode cX11_feed 25 = .ok (.bipush 20, 2) := by decide +kernel
theorem dX11_feed_27 : decode cX11_feed 27 = .ok (.if_icmp .ge 93, 3) := by decide +kernel
theorem dX11_feed_30 : decode cX11_feed 30 = .ok (.iload 6, 2) := by decide +kernel
theorem dX11_feed_32 : decode cX11_feed 32 = .ok (.iconst 4, 1) := by decide +kernel
theorem dX11_feed_33 : decode cX11_feed 33 = .ok (.if_icmp .ge 7, 3) := by decide +kernel
theorem dX11_feed_36 : decode cX11_feed 36 = .ok (.iload_n 1, 1) := by decide +kernel
theorem dX11_feed_37 : decode cX11_feed 37 = .ok (.goto 39, 3) := by decide +kernel
theorem dX11_feed_40 : decode cX11_feed 40 = .ok (.iload 6, 2) := by decide +kernel
theorem dX11_feed_42 : decode cX11_feed 42 = .ok (.bipush 8, 2) := by decide +kernel
theorem dX11_feed_44 : decode cX11_feed 44 = .ok (.if_icmp .ge 7, 3) := by decide +kernel
theorem dX11_feed_47 : decode cX11_feed 47 = .ok (.iload_n 2, 1) := by decide +kernel
theorem dX11_feed_48 : decode cX11_feed 48 = .ok (.goto 28, 3) := by decide +kernel
theorem dX11_feed_51 : decode cX11_feed 51 = .ok (.iload 6, 2) := by decide +kernel
theorem dX11_feed_53 : decode cX11_feed 53 = .ok (.bipush 12, 2) := by decide +kernel
theorem dX11_feed_55 : decode cX11_feed 55 = .ok (.if_icmp .ge 7, 3) := by decide +kernel
theorem dX11_feed_58 : decode cX11_feed 58 = .ok (.iload_n 3, 1) := by decide +kernel
theorem dX11_feed_59 : decode cX11_feed 59 = .ok (.goto 17, 3) := by decide +kernel
theorem dX11_feed_62 : decode cX11_feed 62 = .ok (.iload 6, 2) := by decide +kernel
theorem dX11_feed_64 : decode cX11_feed 64 = .ok (.bipush 16, 2) := by decide +kernel
theorem dX11_feed_66 : decode cX11_feed 66 = .ok (.if_icmp .ge 8, 3) := by decide +kernel
theorem dX11_feed_69 : decode cX11_feed 69 = .ok (.iload 4, 2) := by decide +kernel
theorem dX11_feed_71 : decode cX11_feed 71 = .ok (.goto 5, 3) := by decide +kernel
theorem dX11_feed_74 : decode cX11_feed 74 = .ok (.iload 5, 2) := by decide +kernel
theorem dX11_feed_76 : decode cX11_feed 76 = .ok (.istore 7, 2) := by decide +kernel
theorem dX11_feed_78 : decode cX11_feed 78 = .ok (.aload_n 0, 1) := by decide +kernel
theorem dX11_feed_79 : decode cX11_feed 79 = .ok (.getfield 19, 3) := by decide +kernel
theorem dX11_feed_82 : decode cX11_feed 82 = .ok (.aload_n 0, 1) := by decide +kernel
theorem dX11_feed_83 : decode cX11_feed 83 = .ok (.getfield 107, 3) := by decide +kernel
theorem dX11_feed_86 : decode cX11_feed 86 = .ok (.iload 7, 2) := by decide +kernel
theorem dX11_feed_88 : decode cX11_feed 88 = .ok (.bipush 24, 2) := by decide +kernel
theorem dX11_feed_90 : decode cX11_feed 90 = .ok (.bipush 8, 2) := by decide +kernel
theorem dX11_feed_92 : decode cX11_feed 92 = .ok (.iload 6, 2) := by decide +kernel
theorem dX11_feed_94 : decode cX11_feed 94 = .ok (.iconst 4, 1) := by decide +kernel
theorem dX11_feed_95 : decode cX11_feed 95 = .ok (.irem, 1) := by decide +kernel
theorem dX11_feed_96 : decode cX11_feed 96 = .ok (.imul, 1) := by decide +kernel
theorem dX11_feed_97 : decode cX11_feed 97 = .ok (.isub, 1) := by decide +kernel
theorem dX11_feed_98 : decode cX11_feed 98 = .ok (.iushr, 1) := by decide +kernel
theorem dX11_feed_99 : decode cX11_feed 99 = .ok (.sipush 255, 3) := by decide +kernel
theorem dX11_feed_102 : decode cX11_feed 102 = .ok (.iand, 1) := by decide +kernel
theorem dX11_feed_103 : decode cX11_feed 103 = .ok (.iastore, 1) := by decide +kernel
theorem dX11_feed_104 : decode cX11_feed 104 = .ok (.aload_n 0, 1) := by decide +kernel
theorem dX11_feed_105 : decode cX11_feed 105 = .ok (.dup, 1) := by decide +kernel
theorem dX11_feed_106 : decode cX11_feed 106 = .ok (.getfield 107, 3) := by decide +kernel
theorem dX11_feed_109 : decode cX11_feed 109 = .ok (.iconst 1, 1) := by decide +kernel
theorem dX11_feed_110 : decode cX11_feed 110 = .ok (.iadd, 1) := by decide +kernel
theorem dX11_feed_111 : decode cX11_feed 111 = .ok (.putfield 107, 3) := by decide +kernel
theorem dX11_feed_114 : decode cX11_feed 114 = .ok (.iinc 6 1, 3) := by decide +kernel
theorem dX11_feed_117 : decode cX11_feed 117 = .ok (.goto (-94), 3) := by decide +kernel
theorem dX11_feed_120 : decode cX11_feed 120 = .ok (.aload_n 0, 1) := by decide +kernel
theorem dX11_feed_121 : decode cX11_feed 121 = .ok (.getfield 107, 3) := by decide +kernel
theorem dX11_feed_124 : decode cX11_feed 124 = .ok (.ireturn, 1) := by decide +kernel
theorem dX11_end_0 : decode cX11_end 0 = .ok (.aload_n 0, 1) := by decide +kernel
theorem dX11_end_1 : decode cX11_end 1 = .ok (.iconst 0, 1) := by decide +kernel
theorem dX11_end_2 : decode cX11_end 2 = .ok (.putfield 100, 3) := by decide +kernel
theorem dX11_end_5 : decode cX11_end 5 = .ok (.iload_n 1, 1) := by decide +kernel
theorem dX11_end_6 : decode cX11_end 6 = .ok (.iconst 0, 1) := by decide +kernel
theorem dX11_end_7 : decode cX11_end 7 = .ok (.aload_n 0, 1) := by decide +kernel
theorem dX11_end_8 : decode cX11_end 8 = .ok (.getfield 107, 3) := by decide +kernel
theorem dX11_end_11 : decode cX11_end 11 = .ok (.invokestatic 103, 3) := by decide +kernel
theorem dX11_end_14 : decode cX11_end 14 = .ok (.ifCond .ne 5, 3) := by decide +kernel
theorem dX11_end_17 : decode cX11_end 17 = .ok (.iconst 0, 1) := by decide +kernel
theorem dX11_end_18 : decode cX11_end 18 = .ok (.ireturn, 1) := by decide +kernel
theorem dX11_end_19 : decode cX11_end 19 = .ok (.aload_n 0, 1) := by decide +kernel
theorem dX11_end_20 : decode cX11_end 20 = .ok (.iload_n 1, 1) := by decide +kernel
theorem dX11_end_21 : decode cX11_end 21 = .ok (.putfield 107, 3) := by decide +kernel
theorem dX11_end_24 : decode cX11_end 24 = .ok (.iconst 1, 1) := by decide +kernel
theorem dX11_end_25 : decode cX11_end 25 = .ok (.ireturn, 1) := by decide +kernel
theorem dX11_begins_0 : decode cX11_begins 0 = .ok (.iconst 0, 1) := by decide +kernel
theorem dX11_begins_1 : decode cX11_begins 1 = .ok (.istore_n 1, 1) := by decide +kernel
theorem dX11_begins_2 : decode cX11_begins 2 = .ok (.iload_n 1, 1) := by decide +kernel
theorem dX11_begins_3 : decode cX11_begins 3 = .ok (.sipush 855, 3) := by decide +kernel
theorem dX11_begins_6 : decode cX11_begins 6 = .ok (.if_icmp .ge 21, 3) := by decide +kernel
theorem dX11_begins_9 : decode cX11_begins 9 = .ok (.aload_n 0, 1) := by decide +kernel
theorem dX11_begins_10 : decode cX11_begins 10 = .ok (.getfield 13, 3) := by decide +kernel
theorem dX11_begins_13 : decode cX11_begins 13 = .ok (.iload_n 1, 1) := by decide +kernel
theorem dX11_begins_14 : decode cX11_begins 14 = .ok (.aload_n 0, 1) := by decide +kernel
theorem dX11_begins_15 : decode cX11_begins 15 = .ok (.getfield 7, 3) := by decide +kernel
theorem dX11_begins_18 : decode cX11_begins 18 = .ok (.iload_n 1, 1) := by decide +kernel
theorem dX11_begins_19 : decode cX11_begins 19 = .ok (.iaload, 1) := by decide +kernel
theorem dX11_begins_20 : decode cX11_begins 20 = .ok (.iastore, 1) := by decide +kernel
theorem dX11_begins_21 : decode cX11_begins 21 = .ok (.iinc 1 1, 3) := by decide +kernel
theorem dX11_begins_24 : decode cX11_begins 24 = .ok (.goto (-22), 3) := by decide +kernel
theorem dX11_begins_27 : decode cX11_begins 27 = .ok (.aload_n 0, 1) := by decide +kernel
theorem dX11_begins_28 : decode cX11_begins 28 = .ok (.iconst (-1), 1) := by decide +kernel
theorem dX11_begins_29 : decode cX11_begins 29 = .ok (.putfield 22, 3) := by decide +kernel
theorem dX11_begins_32 : decode cX11_begins 32 = .ok (.aload_n 0, 1) := by decide +kernel
theorem dX11_begins_33 : decode cX11_begins 33 = .ok (.aload_n 0, 1) := by decide +kernel
theorem dX11_begins_34 : decode cX11_begins 34 = .ok (.getfield 107, 3) := by decide +kernel
theorem dX11_begins_37 : decode cX11_begins 37 = .ok (.putfield 110, 3) := by decide +kernel
theorem dX11_begins_40 : decode cX11_begins 40 = .ok (.aload_n 0, 1) := by decide +kernel
theorem dX11_begins_41 : decode cX11_begins 41 = .ok (.iconst 0, 1) := by decide +kernel
theorem dX11_begins_42 : decode cX11_begins 42 = .ok (.putfield 107, 3) := by decide +kernel
theorem dX11_begins_45 : decode cX11_begins 45 = .ok (.aload_n 0, 1) := by decide +kernel
theorem dX11_begins_46 : decode cX11_begins 46 = .ok (.iconst 0, 1) := by decide +kernel
theorem dX11_begins_47 : decode cX11_begins 47 = .ok (.putfield 113, 3) := by decide +kernel
theorem dX11_begins_50 : decode cX11_begins 50 = .ok (.aload_n 0, 1) := by decide +kernel
theorem dX11_begins_51 : decode cX11_begins 51 = .ok (.iconst 0, 1) := by decide +kernel
theorem dX11_begins_52 : decode cX11_begins 52 = .ok (.putfield 116, 3) := by decide +kernel
theorem dX11_begins_55 : decode cX11_begins 55 = .ok (.aload_n 0, 1) := by decide +kernel
theorem dX11_begins_56 : decode cX11_begins 56 = .ok (.iconst 0, 1) := by decide +kernel
theorem dX11_begins_57 : decode cX11_begins 57 = .ok (.putfield 119, 3) := by decide +kernel
theorem dX11_begins_60 : decode cX11_begins 60 = .ok (.aload_n 0, 1) := by decide +kernel
theorem dX11_begins_61 : decode cX11_begins 61 = .ok (.iconst 0, 1) := by decide +kernel
theorem dX11_begins_62 : decode cX11_begins 62 = .ok (.putfield 122, 3) := by decide +kernel
theorem dX11_begins_65 : decode cX11_begins 65 = .ok (.aload_n 0, 1) := by decide +kernel
theorem dX11_begins_66 : decode cX11_begins 66 = .ok (.iconst 0, 1) := by decide +kernel
theorem dX11_begins_67 : decode cX11_begins 67 = .ok (.putfield 125, 3) := by decide +kernel
theorem dX11_begins_70 : decode cX11_begins 70 = .ok (.return_, 1) := by decide +kernel
theorem dX11_isRight_0 : decode cX11_isRight 0 = .ok (.aload_n 0, 1) := by decide +kernel
theorem dX11_isRight_1 : decode cX11_isRight 1 = .ok (.aload_n 0, 1) := by decide +kernel
theorem dX11_isRight_2 : decode cX11_isRight 2 = .ok (.getfield 22, 3) := by decide +kernel
theorem dX11_isRight_5 : decode cX11_isRight 5 = .ok (.iconst (-1), 1) := by decide +kernel
theorem dX11_isRight_6 : decode cX11_isRight 6 = .ok (.if_icmp .ne 7, 3) := by decide +kernel
theorem dX11_isRight_9 : decode cX11_isRight 9 = .ok (.iconst 0, 1) := by decide +kernel
theorem dX11_isRight_10 : decode cX11_isRight 10 = .ok (.goto 4, 3) := by decide +kernel
theorem dX11_isRight_13 : decode cX11_isRight 13 = .ok (.iconst 1, 1) := by decide +kernel
theorem dX11_isRight_14 : decode cX11_isRight 14 = .ok (.putfield 100, 3) := by decide +kernel
theorem dX11_isRight_17 : decode cX11_isRight 17 = .ok (.aload_n 0, 1) := by decide +kernel
theorem dX11_isRight_18 : decode cX11_isRight 18 = .ok (.getfield 22, 3) := by decide +kernel
theorem dX11_isRight_21 : decode cX11_isRight 21 = .ok (.iconst (-1), 1) := by decide +kernel
theorem dX11_isRight_22 : decode cX11_isRight 22 = .ok (.if_icmp .ne 5, 3) := by decide +kernel
theorem dX11_isRight_25 : decode cX11_isRight 25 = .ok (.iconst 1, 1) := by decide +kernel
theorem dX11_isRight_26 : decode cX11_isRight 26 = .ok (.ireturn, 1) := by decide +kernel
theorem dX11_isRight_27 : decode cX11_isRight 27 = .ok (.iconst 0, 1) := by decide +kernel
theorem dX11_isRight_28 : decode cX11_isRight 28 = .ok (.istore_n 1, 1) := by decide +kernel
theorem dX11_isRight_29 : decode cX11_isRight 29 = .ok (.iload_n 1, 1) := by decide +kernel
theorem dX11_isRight_30 : decode cX11_isRight 30 = .ok (.sipush 855, 3) := by decide +kernel
theorem dX11_isRight_33 : decode cX11_isRight 33 = .ok (.if_icmp .ge 21, 3) := by decide +kernel
theorem dX11_isRight_36 : decode cX11_isRight 36 = .ok (.aload_n 0, 1) := by decide +kernel
theorem dX11_isRight_37 : decode cX11_isRight 37 = .ok (.getfield 7, 3) := by decide +kernel
theorem dX11_isRight_40 : decode cX11_isRight 40 = .ok (.iload_n 1, 1) := by decide +kernel
theorem dX11_isRight_41 : decode cX11_isRight 41 = .ok (.aload_n 0, 1) := by decide +kernel
theorem dX11_isRight_42 : decode cX11_isRight 42 = .ok (.getfield 13, 3) := by decide +kernel
theorem dX11_isRight_45 : decode cX11_isRight 45 = .ok (.iload_n 1, 1) := by decide +kernel
theorem dX11_isRight_46 : decode cX11_isRight 46 = .ok (.iaload, 1) := by decide +kernel
theorem dX11_isRight_47 : decode cX11_isRight 47 = .ok (.iastore, 1) := by decide +kernel
theorem dX11_isRight_48 : decode cX11_isRight 48 = .ok (.iinc 1 1, 3) := by decide +kernel
theorem dX11_isRight_51 : decode cX11_isRight 51 = .ok (.goto (-22), 3) := by decide +kernel
theorem dX11_isRight_54 : decode cX11_isRight 54 = .ok (.iconst 0, 1) := by decide +kernel
theorem dX11_isRight_55 : decode cX11_isRight 55 = .ok (.ireturn, 1) := by decide +kernel
theorem dX11_here_0 : decode cX11_here 0 = .ok (.aload_n 0, 1) := by decide +kernel
theorem dX11_here_1 : decode cX11_here 1 = .ok (.getfield 113, 3) := by decide +kernel
theorem dX11_here_4 : decode cX11_here 4 = .ok (.aload_n 0, 1) := by decide +kernel
theorem dX11_here_5 : decode cX11_here 5 = .ok (.getfield 110, 3) := by decide +kernel
theorem dX11_here_8 : decode cX11_here 8 = .ok (.if_icmp .ge 30, 3) := by decide +kernel
theorem dX11_here_11 : decode cX11_here 11 = .ok (.aload_n 0, 1) := by decide +kernel
theorem dX11_here_12 : decode cX11_here 12 = .ok (.getfield 19, 3) := by decide +kernel
theorem dX11_here_15 : decode cX11_here 15 = .ok (.aload_n 0, 1) := by decide +kernel
theorem dX11_here_16 : decode cX11_here 16 = .ok (.getfield 113, 3) := by decide +kernel
theorem dX11_here_19 : decode cX11_here 19 = .ok (.iaload, 1) := by decide +kernel
theorem dX11_here_20 : decode cX11_here 20 = .ok (.bipush 32, 2) := by decide +kernel
theorem dX11_here_22 : decode cX11_here 22 = .ok (.if_icmp .ne 16, 3) := by decide +kernel
theorem dX11_here_25 : decode cX11_here 25 = .ok (.aload_n 0, 1) := by decide +kernel
theorem dX11_here_26 : decode cX11_here 26 = .ok (.dup, 1) := by decide +kernel
theorem dX11_here_27 : decode cX11_here 27 = .ok (.getfield 113, 3) := by decide +kernel
theorem dX11_here_30 : decode cX11_here 30 = .ok (.iconst 1, 1) := by decide +kernel
theorem dX11_here_31 : decode cX11_here 31 = .ok (.iadd, 1) := by decide +kernel
theorem dX11_here_32 : decode cX11_here 32 = .ok (.putfield 113, 3) := by decide +kernel
theorem dX11_here_35 : decode cX11_here 35 = .ok (.goto (-35), 3) := by decide +kernel
theorem dX11_here_38 : decode cX11_here 38 = .ok (.aload_n 0, 1) := by decide +kernel
theorem dX11_here_39 : decode cX11_here 39 = .ok (.getfield 113, 3) := by decide +kernel
theorem dX11_here_42 : decode cX11_here 42 = .ok (.ireturn, 1) := by decide +kernel
theorem dX11_wrong_0 : decode cX11_wrong 0 = .ok (.aload_n 0, 1) := by decide +kernel
theorem dX11_wrong_1 : decode cX11_wrong 1 = .ok (.getfield 22, 3) := by decide +kernel
theorem dX11_wrong_4 : decode cX11_wrong 4 = .ok (.iconst (-1), 1) := by decide +kernel
theorem dX11_wrong_5 : decode cX11_wrong 5 = .ok (.if_icmp .ne 8, 3) := by decide +kernel
theorem dX11_wrong_8 : decode cX11_wrong 8 = .ok (.aload_n 0, 1) := by decide +kernel
theorem dX11_wrong_9 : decode cX11_wrong 9 = .ok (.iload_n 1, 1) := by decide +kernel
theorem dX11_wrong_10 : decode cX11_wrong 10 = .ok (.putfield 22, 3) := by decide +kernel
theorem dX11_wrong_13 : decode cX11_wrong 13 = .ok (.return_, 1) := by decide +kernel
theorem dX11_isSign_0 : decode cX11_isSign 0 = .ok (.aload_n 0, 1) := by decide +kernel
theorem dX11_isSign_1 : decode cX11_isSign 1 = .ok (.invokevirtual 129, 3) := by decide +kernel
theorem dX11_isSign_4 : decode cX11_isSign 4 = .ok (.aload_n 0, 1) := by decide +kernel
theorem dX11_isSign_5 : decode cX11_isSign 5 = .ok (.getfield 110, 3) := by decide +kernel
theorem dX11_isSign_8 : decode cX11_isSign 8 = .ok (.if_icmp .ge 20, 3) := by decide +kernel
theorem dX11_isSign_11 : decode cX11_isSign 11 = .ok (.aload_n 0, 1) := by decide +kernel
theorem dX11_isSign_12 : decode cX11_isSign 12 = .ok (.getfield 19, 3) := by decide +kernel
theorem dX11_isSign_15 : decode cX11_isSign 15 = .ok (.aload_n 0, 1) := by decide +kernel
theorem dX11_isSign_16 : decode cX11_isSign 16 = .ok (.getfield 113, 3) := by decide +kernel
theorem dX11_isSign_19 : decode cX11_isSign 19 = .ok (.iaload, 1) := by decide +kernel
theorem dX11_isSign_20 : decode cX11_isSign 20 = .ok (.iload_n 1, 1) := by decide +kernel
theorem dX11_isSign_21 : decode cX11_isSign 21 = .ok (.if_icmp .ne 7, 3) := by decide +kernel
theorem dX11_isSign_24 : decode cX11_isSign 24 = .ok (.iconst 1, 1) := by decide +kernel
theorem dX11_isSign_25 : decode cX11_isSign 25 = .ok (.goto 4, 3) := by decide +kernel
theorem dX11_isSign_28 : decode cX11_isSign 28 = .ok (.iconst 0, 1) := by decide +kernel
theorem dX11_isSign_29 : decode cX11_isSign 29 = .ok (.ireturn, 1) := by decide +kernel
theorem dX11_isLetter_0 : decode cX11_isLetter 0 = .ok (.aload_n 0, 1) := by decide +kernel
theorem dX11_isLetter_1 : decode cX11_isLetter 1 = .ok (.invokevirtual 129, 3) := by decide +kernel
theorem dX11_isLetter_4 : decode cX11_isLetter 4 = .ok (.aload_n 0, 1) := by decide +kernel
theorem dX11_isLetter_5 : decode cX11_isLetter 5 = .ok (.getfield 110, 3) := by decide +kernel
theorem dX11_isLetter_8 : decode cX11_isLetter 8 = .ok (.if_icmp .ge 26, 3) := by decide +kernel
theorem dX11_isLetter_11 : decode cX11_isLetter 11 = .ok (.aload_n 0, 1) := by decide +kernel
theorem dX11_isLetter_12 : decode cX11_isLetter 12 = .ok (.getfield 19, 3) := by decide +kernel
theorem dX11_isLetter_15 : decode cX11_isLetter 15 = .ok (.aload_n 0, 1) := by decide +kernel
theorem dX11_isLetter_16 : decode cX11_isLetter 16 = .ok (.getfield 113, 3) := by decide +kernel
theorem dX11_isLetter_19 : decode cX11_isLetter 19 = .ok (.iaload, 1) := by decide +kernel
theorem dX11_isLetter_20 : decode cX11_isLetter 20 = .ok (.bipush 97, 2) := by decide +kernel
theorem dX11_isLetter_22 : decode cX11_isLetter 22 = .ok (.bipush 122, 2) := by decide +kernel
theorem dX11_isLetter_24 : decode cX11_isLetter 24 = .ok (.invokestatic 103, 3) := by decide +kernel
theorem dX11_isLetter_27 : decode cX11_isLetter 27 = .ok (.ifCond .eq 7, 3) := by decide +kernel
theorem dX11_isLetter_30 : decode cX11_isLetter 30 = .ok (.iconst 1, 1) := by decide +kernel
theorem dX11_isLetter_31 : decode cX11_isLetter 31 = .ok (.goto 4, 3) := by decide +kernel
theorem dX11_isLetter_34 : decode cX11_isLetter 34 = .ok (.iconst 0, 1) := by decide +kernel
theorem dX11_isLetter_35 : decode cX11_isLetter 35 = .ok (.ireturn, 1) := by decide +kernel
theorem dX11_mustSign_0 : decode cX11_mustSign 0 = .ok (.aload_n 0, 1) := by decide +kernel
theorem dX11_mustSign_1 : decode cX11_mustSign 1 = .ok (.getfield 22, 3) := by decide +kernel
theorem dX11_mustSign_4 : decode cX11_mustSign 4 = .ok (.iconst (-1), 1) := by decide +kernel
theorem dX11_mustSign_5 : decode cX11_mustSign 5 = .ok (.if_icmp .eq 4, 3) := by decide +kernel
theorem dX11_mustSign_8 : decode cX11_mustSign 8 = .ok (.return_, 1) := by decide +kernel
theorem dX11_mustSign_9 : decode cX11_mustSign 9 = .ok (.aload_n 0, 1) := by decide +kernel
theorem dX11_mustSign_10 : decode cX11_mustSign 10 = .ok (.iload_n 1, 1) := by decide +kernel
theorem dX11_mustSign_11 : decode cX11_mustSign 11 = .ok (.invokevirtual 133, 3) := by decide +kernel
theorem dX11_mustSign_14 : decode cX11_mustSign 14 = .ok (.ifCond .eq 16, 3) := by decide +kernel
theorem dX11_mustSign_17 : decode cX11_mustSign 17 = .ok (.aload_n 0, 1) := by decide +kernel
theorem dX11_mustSign_18 : decode cX11_mustSign 18 = .ok (.dup, 1) := by decide +kernel
theorem dX11_mustSign_19 : decode cX11_mustSign 19 = .ok (.getfield 113, 3) := by decide +kernel
theorem dX11_mustSign_22 : decode cX11_mustSign 22 = .ok (.iconst 1, 1) := by decide +kernel
theorem dX11_mustSign_23 : decode cX11_mustSign 23 = .ok (.iadd, 1) := by decide +kernel
theorem dX11_mustSign_24 : decode cX11_mustSign 24 = .ok (.putfield 113, 3) := by decide +kernel
theorem dX11_mustSign_27 : decode cX11_mustSign 27 = .ok (.goto 11, 3) := by decide +kernel
theorem dX11_mustSign_30 : decode cX11_mustSign 30 = .ok (.aload_n 0, 1) := by decide +kernel
theorem dX11_mustSign_31 : decode cX11_mustSign 31 = .ok (.aload_n 0, 1) := by decide +kernel
theorem dX11_mustSign_32 : decode cX11_mustSign 32 = .ok (.getfield 113, 3) := by decide +kernel
theorem dX11_mustSign_35 : decode cX11_mustSign 35 = .ok (.invokevirtual 137, 3) := by decide +kernel
theorem dX11_mustSign_38 : decode cX11_mustSign 38 = .ok (.return_, 1) := by decide +kernel
theorem dX11_isSpelt_0 : decode cX11_isSpelt 0 = .ok (.aload_n 0, 1) := by decide +kernel
theorem dX11_isSpelt_1 : decode cX11_isSpelt 1 = .ok (.getfield 7, 3) := by decide +kernel
theorem dX11_isSpelt_4 : decode cX11_isSpelt 4 = .ok (.bipush 9, 2) := by decide +kernel
theorem dX11_isSpelt_6 : decode cX11_isSpelt 6 = .ok (.bipush 9, 2) := by decide +kernel
theorem dX11_isSpelt_8 : decode cX11_isSpelt 8 = .ok (.iload_n 1, 1) := by decide +kernel
theorem dX11_isSpelt_9 : decode cX11_isSpelt 9 = .ok (.imul, 1) := by decide +kernel
theorem dX11_isSpelt_10 : decode cX11_isSpelt 10 = .ok (.iadd, 1) := by decide +kernel
theorem dX11_isSpelt_11 : decode cX11_isSpelt 11 = .ok (.iaload, 1) := by decide +kernel
theorem dX11_isSpelt_12 : decode cX11_isSpelt 12 = .ok (.iload_n 3, 1) := by decide +kernel
theorem dX11_isSpelt_13 : decode cX11_isSpelt 13 = .ok (.if_icmp .eq 5, 3) := by decide +kernel
theorem dX11_isSpelt_16 : decode cX11_isSpelt 16 = .ok (.iconst 0, 1) := by decide +kernel
theorem dX11_isSpelt_17 : decode cX11_isSpelt 17 = .ok (.ireturn, 1) := by decide +kernel
theorem dX11_isSpelt_18 : decode cX11_isSpelt 18 = .ok (.iconst 0, 1) := by decide +kernel
theorem dX11_isSpelt_19 : decode cX11_isSpelt 19 = .ok (.istore 4, 2) := by decide +kernel
theorem dX11_isSpelt_21 : decode cX11_isSpelt 21 = .ok (.iload 4, 2) := by decide +kernel
theorem dX11_isSpelt_23 : decode cX11_isSpelt 23 = .ok (.iload_n 3, 1) := by decide +kernel
theorem dX11_isSpelt_24 : decode cX11_isSpelt 24 = .ok (.if_icmp .ge 43, 3) := by decide +kernel
theorem dX11_isSpelt_27 : decode cX11_isSpelt 27 = .ok (.aload_n 0, 1) := by decide +kernel
theorem dX11_isSpelt_28 : decode cX11_isSpelt 28 = .ok (.getfield 7, 3) := by decide +kernel
theorem dX11_isSpelt_31 : decode cX11_isSpelt 31 = .ok (.bipush 9, 2) := by decide +kernel
theorem dX11_isSpelt_33 : decode cX11_isSpelt 33 = .ok (.bipush 9, 2) := by decide +kernel
theorem dX11_isSpelt_35 : decode cX11_isSpelt 35 = .ok (.iload_n 1, 1) := by decide +kernel
theorem dX11_isSpelt_36 : decode cX11_isSpelt 36 = .ok (.imul, 1) := by decide +kernel
theorem dX11_isSpelt_37 : decode cX11_isSpelt 37 = .ok (.iadd, 1) := by decide +kernel
theorem dX11_isSpelt_38 : decode cX11_isSpelt 38 = .ok (.iconst 1, 1) := by decide +kernel
theorem dX11_isSpelt_39 : decode cX11_isSpelt 39 = .ok (.iadd, 1) := by decide +kernel
theorem dX11_isSpelt_40 : decode cX11_isSpelt 40 = .ok (.iload 4, 2) := by decide +kernel
theorem dX11_isSpelt_42 : decode cX11_isSpelt 42 = .ok (.iadd, 1) := by decide +kernel
theorem dX11_isSpelt_43 : decode cX11_isSpelt 43 = .ok (.iaload, 1) := by decide +kernel
theorem dX11_isSpelt_44 : decode cX11_isSpelt 44 = .ok (.aload_n 0, 1) := by decide +kernel
theorem dX11_isSpelt_45 : decode cX11_isSpelt 45 = .ok (.getfield 19, 3) := by decide +kernel
theorem dX11_isSpelt_48 : decode cX11_isSpelt 48 = .ok (.iload_n 2, 1) := by decide +kernel
theorem dX11_isSpelt_49 : decode cX11_isSpelt 49 = .ok (.iload 4, 2) := by decide +kernel
theorem dX11_isSpelt_51 : decode cX11_isSpelt 51 = .ok (.iadd, 1) := by decide +kernel
theorem dX11_isSpelt_52 : decode cX11_isSpelt 52 = .ok (.iaload, 1) := by decide +kernel
theorem dX11_isSpelt_53 : decode cX11_isSpelt 53 = .ok (.bipush 97, 2) := by decide +kernel
theorem dX11_isSpelt_55 : decode cX11_isSpelt 55 = .ok (.isub, 1) := by decide +kernel
theorem dX11_isSpelt_56 : decode cX11_isSpelt 56 = .ok (.if_icmp .eq 5, 3) := by decide +kernel
theorem dX11_isSpelt_59 : decode cX11_isSpelt 59 = .ok (.iconst 0, 1) := by decide +kernel
theorem dX11_isSpelt_60 : decode cX11_isSpelt 60 = .ok (.ireturn, 1) := by decide +kernel
theorem dX11_isSpelt_61 : decode cX11_isSpelt 61 = .ok (.iinc 4 1, 3) := by decide +kernel
theorem dX11_isSpelt_64 : decode cX11_isSpelt 64 = .ok (.goto (-43), 3) := by decide +kernel
theorem dX11_isSpelt_67 : decode cX11_isSpelt 67 = .ok (.iconst 1, 1) := by decide +kernel
theorem dX11_isSpelt_68 : decode cX11_isSpelt 68 = .ok (.ireturn, 1) := by decide +kernel
theorem dX11_word_0 : decode cX11_word 0 = .ok (.aload_n 0, 1) := by decide +kernel
theorem dX11_word_1 : decode cX11_word 1 = .ok (.getfield 22, 3) := by decide +kernel
theorem dX11_word_4 : decode cX11_word 4 = .ok (.iconst (-1), 1) := by decide +kernel
theorem dX11_word_5 : decode cX11_word 5 = .ok (.if_icmp .eq 5, 3) := by decide +kernel
theorem dX11_word_8 : decode cX11_word 8 = .ok (.iconst 0, 1) := by decide +kernel
theorem dX11_word_9 : decode cX11_word 9 = .ok (.ireturn, 1) := by decide +kernel
theorem dX11_word_10 : decode cX11_word 10 = .ok (.aload_n 0, 1) := by decide +kernel
theorem dX11_word_11 : decode cX11_word 11 = .ok (.invokevirtual 129, 3) := by decide +kernel
theorem dX11_word_14 : decode cX11_word 14 = .ok (.istore_n 2, 1) := by decide +kernel
theorem dX11_word_15 : decode cX11_word 15 = .ok (.aload_n 0, 1) := by decide +kernel
theorem dX11_word_16 : decode cX11_word 16 = .ok (.getfield 113, 3) := by decide +kernel
theorem dX11_word_19 : decode cX11_word 19 = .ok (.aload_n 0, 1) := by decide +kernel
theorem dX11_word_20 : decode cX11_word 20 = .ok (.getfield 110, 3) := by decide +kernel
theorem dX11_word_23 : decode cX11_word 23 = .ok (.if_icmp .ge 35, 3) := by decide +kernel
theorem dX11_word_26 : decode cX11_word 26 = .ok (.aload_n 0, 1) := by decide +kernel
theorem dX11_word_27 : decode cX11_word 27 = .ok (.getfield 19, 3) := by decide +kernel
theorem dX11_word_30 : decode cX11_word 30 = .ok (.aload_n 0, 1) := by decide +kernel
theorem dX11_word_31 : decode cX11_word 31 = .ok (.getfield 113, 3) := by decide +kernel
theorem dX11_word_34 : decode cX11_word 34 = .ok (.iaload, 1) := by decide +kernel
theorem dX11_word_35 : decode cX11_word 35 = .ok (.bipush 97, 2) := by decide +kernel
theorem dX11_word_37 : decode cX11_word 37 = .ok (.bipush 122, 2) := by decide +kernel
theorem dX11_word_39 : decode cX11_word 39 = .ok (.invokestatic 103, 3) := by decide +kernel
theorem dX11_word_42 : decode cX11_word 42 = .ok (.ifCond .eq 16, 3) := by decide +kernel
theorem dX11_word_45 : decode cX11_word 45 = .ok (.aload_n 0, 1) := by decide +kernel
theorem dX11_word_46 : decode cX11_word 46 = .ok (.dup, 1) := by decide +kernel
theorem dX11_word_47 : decode cX11_word 47 = .ok (.getfield 113, 3) := by decide +kernel
theorem dX11_word_50 : decode cX11_word 50 = .ok (.iconst 1, 1) := by decide +kernel
theorem dX11_word_51 : decode cX11_word 51 = .ok (.iadd, 1) := by decide +kernel
theorem dX11_word_52 : decode cX11_word 52 = .ok (.putfield 113, 3) := by decide +kernel
theorem dX11_word_55 : decode cX11_word 55 = .ok (.goto (-40), 3) := by decide +kernel
theorem dX11_word_58 : decode cX11_word 58 = .ok (.aload_n 0, 1) := by decide +kernel
theorem dX11_word_59 : decode cX11_word 59 = .ok (.getfield 113, 3) := by decide +kernel
theorem dX11_word_62 : decode cX11_word 62 = .ok (.iload_n 2, 1) := by decide +kernel
theorem dX11_word_63 : decode cX11_word 63 = .ok (.isub, 1) := by decide +kernel
theorem dX11_word_64 : decode cX11_word 64 = .ok (.istore_n 3, 1) := by decide +kernel
theorem dX11_word_65 : decode cX11_word 65 = .ok (.iload_n 3, 1) := by decide +kernel
theorem dX11_word_66 : decode cX11_word 66 = .ok (.ifCond .eq 9, 3) := by decide +kernel
theorem dX11_word_69 : decode cX11_word 69 = .ok (.iload_n 3, 1) := by decide +kernel
theorem dX11_word_70 : decode cX11_word 70 = .ok (.bipush 8, 2) := by decide +kernel
theorem dX11_word_72 : decode cX11_word 72 = .ok (.if_icmp .le 10, 3) := by decide +kernel
theorem dX11_word_75 : decode cX11_word 75 = .ok (.aload_n 0, 1) := by decide +kernel
theorem dX11_word_76 : decode cX11_word 76 = .ok (.iload_n 2, 1) := by decide +kernel
theorem dX11_word_77 : decode cX11_word 77 = .ok (.invokevirtual 137, 3) := by decide +kernel
theorem dX11_word_80 : decode cX11_word 80 = .ok (.iconst 0, 1) := by decide +kernel
theorem dX11_word_81 : decode cX11_word 81 = .ok (.ireturn, 1) := by decide +kernel
theorem dX11_word_82 : decode cX11_word 82 = .ok (.iconst 0, 1) := by decide +kernel
theorem dX11_word_83 : decode cX11_word 83 = .ok (.istore 4, 2) := by decide +kernel
theorem dX11_word_85 : decode cX11_word 85 = .ok (.iload 4, 2) := by decide +kernel
theorem dX11_word_87 : decode cX11_word 87 = .ok (.aload_n 0, 1) := by decide +kernel
theorem dX11_word_88 : decode cX11_word 88 = .ok (.getfield 7, 3) := by decide +kernel
theorem dX11_word_91 : decode cX11_word 91 = .ok (.iconst 0, 1) := by decide +kernel
theorem dX11_word_92 : decode cX11_word 92 = .ok (.iaload, 1) := by decide +kernel
theorem dX11_word_93 : decode cX11_word 93 = .ok (.if_icmp .ge 23, 3) := by decide +kernel
theorem dX11_word_96 : decode cX11_word 96 = .ok (.aload_n 0, 1) := by decide +kernel
theorem dX11_word_97 : decode cX11_word 97 = .ok (.iload 4, 2) := by decide +kernel
theorem dX11_word_99 : decode cX11_word 99 = .ok (.iload_n 2, 1) := by decide +kernel
theorem dX11_word_100 : decode cX11_word 100 = .ok (.iload_n 3, 1) := by decide +kernel
theorem dX11_word_101 : decode cX11_word 101 = .ok (.invokevirtual 141, 3) := by decide +kernel
theorem dX11_word_104 : decode cX11_word 104 = .ok (.ifCond .eq 6, 3) := by decide +kernel
theorem dX11_word_107 : decode cX11_word 107 = .ok (.iload 4, 2) := by decide +kernel
theorem dX11_word_109 : decode cX11_word 109 = .ok (.ireturn, 1) := by decide +kernel
theorem dX11_word_110 : decode cX11_word 110 = .ok (.iinc 4 1, 3) := by decide +kernel
theorem dX11_word_113 : decode cX11_word 113 = .ok (.goto (-28), 3) := by decide +kernel
theorem dX11_word_116 : decode cX11_word 116 = .ok (.iload_n 1, 1) := by decide +kernel
theorem dX11_word_117 : decode cX11_word 117 = .ok (.ifCond .ne 6, 3) := by decide +kernel
theorem dX11_word_120 : decode cX11_word 120 = .ok (.bipush (-2), 2) := by decide +kernel
theorem dX11_word_122 : decode cX11_word 122 = .ok (.ireturn, 1) := by decide +kernel
theorem dX11_word_123 : decode cX11_word 123 = .ok (.aload_n 0, 1) := by decide +kernel
theorem dX11_word_124 : decode cX11_word 124 = .ok (.getfield 7, 3) := by decide +kernel
theorem dX11_word_127 : decode cX11_word 127 = .ok (.iconst 0, 1) := by decide +kernel
theorem dX11_word_128 : decode cX11_word 128 = .ok (.iaload, 1) := by decide +kernel
theorem dX11_word_129 : decode cX11_word 129 = .ok (.bipush 40, 2) := by decide +kernel
theorem dX11_word_131 : decode cX11_word 131 = .ok (.if_icmp .ne 10, 3) := by decide +kernel
theorem dX11_word_134 : decode cX11_word 134 = .ok (.aload_n 0, 1) := by decide +kernel
theorem dX11_word_135 : decode cX11_word 135 = .ok (.iload_n 2, 1) := by decide +kernel
theorem dX11_word_136 : decode cX11_word 136 = .ok (.invokevirtual 137, 3) := by decide +kernel
theorem dX11_word_139 : decode cX11_word 139 = .ok (.iconst 0, 1) := by decide +kernel
theorem dX11_word_140 : decode cX11_word 140 = .ok (.ireturn, 1) := by decide +kernel
theorem dX11_word_141 : decode cX11_word 141 = .ok (.bipush 9, 2) := by decide +kernel
theorem dX11_word_143 : decode cX11_word 143 = .ok (.bipush 9, 2) := by decide +kernel
theorem dX11_word_145 : decode cX11_word 145 = .ok (.aload_n 0, 1) := by decide +kernel
theorem dX11_word_146 : decode cX11_word 146 = .ok (.getfield 7, 3) := by decide +kernel
theorem dX11_word_149 : decode cX11_word 149 = .ok (.iconst 0, 1) := by decide +kernel
theorem dX11_word_150 : decode cX11_word 150 = .ok (.iaload, 1) := by decide +kernel
theorem dX11_word_151 : decode cX11_word 151 = .ok (.imul, 1) := by decide +kernel
theorem dX11_word_152 : decode cX11_word 152 = .ok (.iadd, 1) := by decide +kernel
theorem dX11_word_153 : decode cX11_word 153 = .ok (.istore 4, 2) := by decide +kernel
theorem dX11_word_155 : decode cX11_word 155 = .ok (.aload_n 0, 1) := by decide +kernel
theorem dX11_word_156 : decode cX11_word 156 = .ok (.getfield 7, 3) := by decide +kernel
theorem dX11_word_159 : decode cX11_word 159 = .ok (.iload 4, 2) := by decide +kernel
theorem dX11_word_161 : decode cX11_word 161 = .ok (.iload_n 3, 1) := by decide +kernel
theorem dX11_word_162 : decode cX11_word 162 = .ok (.iastore, 1) := by decide +kernel
theorem dX11_word_163 : decode cX11_word 163 = .ok (.iconst 0, 1) := by decide +kernel
theorem dX11_word_164 : decode cX11_word 164 = .ok (.istore 5, 2) := by decide +kernel
theorem dX11_word_166 : decode cX11_word 166 = .ok (.iload 5, 2) := by decide +kernel
theorem dX11_word_168 : decode cX11_word 168 = .ok (.bipush 8, 2) := by decide +kernel
theorem dX11_word_170 : decode cX11_word 170 = .ok (.if_icmp .ge 43, 3) := by decide +kernel
theorem dX11_word_173 : decode cX11_word 173 = .ok (.aload_n 0, 1) := by decide +kernel
theorem dX11_word_174 : decode cX11_word 174 = .ok (.getfield 7, 3) := by decide +kernel
theorem dX11_word_177 : decode cX11_word 177 = .ok (.iload 4, 2) := by decide +kernel
theorem dX11_word_179 : decode cX11_word 179 = .ok (.iconst 1, 1) := by decide +kernel
theorem dX11_word_180 : decode cX11_word 180 = .ok (.iadd, 1) := by decide +kernel
theorem dX11_word_181 : decode cX11_word 181 = .ok (.iload 5, 2) := by decide +kernel
theorem dX11_word_183 : decode cX11_word 183 = .ok (.iadd, 1) := by decide +kernel
theorem dX11_word_184 : decode cX11_word 184 = .ok (.iload 5, 2) := by decide +kernel
theorem dX11_word_186 : decode cX11_word 186 = .ok (.iload_n 3, 1) := by decide +kernel
theorem dX11_word_187 : decode cX11_word 187 = .ok (.if_icmp .ge 18, 3) := by decide +kernel
theorem dX11_word_190 : decode cX11_word 190 = .ok (.aload_n 0, 1) := by decide +kernel
theorem dX11_word_191 : decode cX11_word 191 = .ok (.getfield 19, 3) := by decide +kernel
theorem dX11_word_194 : decode cX11_word 194 = .ok (.iload_n 2, 1) := by decide +kernel
theorem dX11_word_195 : decode cX11_word 195 = .ok (.iload 5, 2) := by decide +kernel
theorem dX11_word_197 : decode cX11_word 197 = .ok (.iadd, 1) := by decide +kernel
theorem dX11_word_198 : decode cX11_word 198 = .ok (.iaload, 1) := by decide +kernel
theorem dX11_word_199 : decode cX11_word 199 = .ok (.bipush 97, 2) := by decide +kernel
theorem dX11_word_201 : decode cX11_word 201 = .ok (.isub, 1) := by decide +kernel
theorem dX11_word_202 : decode cX11_word 202 = .ok (.goto 4, 3) := by decide +kernel
theorem dX11_word_205 : decode cX11_word 205 = .ok (.iconst 0, 1) := by decide +kernel
theorem dX11_word_206 : decode cX11_word 206 = .ok (.iastore, 1) := by decide +kernel
theorem dX11_word_207 : decode cX11_word 207 = .ok (.iinc 5 1, 3) := by decide +kernel
theorem dX11_word_210 : decode cX11_word 210 = .ok (.goto (-44), 3) := by decide +kernel
theorem dX11_word_213 : decode cX11_word 213 = .ok (.aload_n 0, 1) := by decide +kernel
theorem dX11_word_214 : decode cX11_word 214 = .ok (.getfield 7, 3) := by decide +kernel
theorem dX11_word_217 : decode cX11_word 217 = .ok (.iconst 0, 1) := by decide +kernel
theorem dX11_word_218 : decode cX11_word 218 = .ok (.dup2, 1) := by decide +kernel
theorem dX11_word_219 : decode cX11_word 219 = .ok (.iaload, 1) := by decide +kernel
theorem dX11_word_220 : decode cX11_word 220 = .ok (.iconst 1, 1) := by decide +kernel
theorem dX11_word_221 : decode cX11_word 221 = .ok (.iadd, 1) := by decide +kernel
theorem dX11_word_222 : decode cX11_word 222 = .ok (.iastore, 1) := by decide +kernel
theorem dX11_word_223 : decode cX11_word 223 = .ok (.aload_n 0, 1) := by decide +kernel
theorem dX11_word_224 : decode cX11_word 224 = .ok (.getfield 7, 3) := by decide +kernel
theorem dX11_word_227 : decode cX11_word 227 = .ok (.iconst 0, 1) := by decide +kernel
theorem dX11_word_228 : decode cX11_word 228 = .ok (.iaload, 1) := by decide +kernel
theorem dX11_word_229 : decode cX11_word 229 = .ok (.iconst 1, 1) := by decide +kernel
theorem dX11_word_230 : decode cX11_word 230 = .ok (.isub, 1) := by decide +kernel
theorem dX11_word_231 : decode cX11_word 231 = .ok (.ireturn, 1) := by decide +kernel
theorem dX11_number_0 : decode cX11_number 0 = .ok (.aload_n 0, 1) := by decide +kernel
theorem dX11_number_1 : decode cX11_number 1 = .ok (.getfield 22, 3) := by decide +kernel
theorem dX11_number_4 : decode cX11_number 4 = .ok (.iconst (-1), 1) := by decide +kernel
theorem dX11_number_5 : decode cX11_number 5 = .ok (.if_icmp .eq 5, 3) := by decide +kernel
theorem dX11_number_8 : decode cX11_number 8 = .ok (.iconst 0, 1) := by decide +kernel
theorem dX11_number_9 : decode cX11_number 9 = .ok (.ireturn, 1) := by decide +kernel
theorem dX11_number_10 : decode cX11_number 10 = .ok (.aload_n 0, 1) := by decide +kernel
theorem dX11_number_11 : decode cX11_number 11 = .ok (.invokevirtual 129, 3) := by decide +kernel
theorem dX11_number_14 : decode cX11_number 14 = .ok (.istore_n 2, 1) := by decide +kernel
theorem dX11_number_15 : decode cX11_number 15 = .ok (.iconst 0, 1) := by decide +kernel
theorem dX11_number_16 : decode cX11_number 16 = .ok (.istore_n 3, 1) := by decide +kernel
theorem dX11_number_17 : decode cX11_number 17 = .ok (.aload_n 0, 1) := by decide +kernel
theorem dX11_number_18 : decode cX11_number 18 = .ok (.getfield 113, 3) := by decide +kernel
theorem dX11_number_21 : decode cX11_number 21 = .ok (.aload_n 0, 1) := by decide +kernel
theorem dX11_number_22 : decode cX11_number 22 = .ok (.getfield 110, 3) := by decide +kernel
theorem dX11_number_25 : decode cX11_number 25 = .ok (.if_icmp .ge 63, 3) := by decide +kernel
theorem dX11_number_28 : decode cX11_number 28 = .ok (.aload_n 0, 1) := by decide +kernel
theorem dX11_number_29 : decode cX11_number 29 = .ok (.getfield 19, 3) := by decide +kernel
theorem dX11_number_32 : decode cX11_number 32 = .ok (.aload_n 0, 1) := by decide +kernel
theorem dX11_number_33 : decode cX11_number 33 = .ok (.getfield 113, 3) := by decide +kernel
theorem dX11_number_36 : decode cX11_number 36 = .ok (.iaload, 1) := by decide +kernel
theorem dX11_number_37 : decode cX11_number 37 = .ok (.bipush 48, 2) := by decide +kernel
theorem dX11_number_39 : decode cX11_number 39 = .ok (.bipush 57, 2) := by decide +kernel
theorem dX11_number_41 : decode cX11_number 41 = .ok (.invokestatic 103, 3) := by decide +kernel
theorem dX11_number_44 : decode cX11_number 44 = .ok (.ifCond .eq 44, 3) := by decide +kernel
theorem dX11_number_47 : decode cX11_number 47 = .ok (.aload_n 0, 1) := by decide +kernel
theorem dX11_number_48 : decode cX11_number 48 = .ok (.getfield 113, 3) := by decide +kernel
theorem dX11_number_51 : decode cX11_number 51 = .ok (.iload_n 2, 1) := by decide +kernel
theorem dX11_number_52 : decode cX11_number 52 = .ok (.isub, 1) := by decide +kernel
theorem dX11_number_53 : decode cX11_number 53 = .ok (.iconst 3, 1) := by decide +kernel
theorem dX11_number_54 : decode cX11_number 54 = .ok (.if_icmp .gt 34, 3) := by decide +kernel
theorem dX11_number_57 : decode cX11_number 57 = .ok (.bipush 10, 2) := by decide +kernel
theorem dX11_number_59 : decode cX11_number 59 = .ok (.iload_n 3, 1) := by decide +kernel
theorem dX11_number_60 : decode cX11_number 60 = .ok (.imul, 1) := by decide +kernel
theorem dX11_number_61 : decode cX11_number 61 = .ok (.aload_n 0, 1) := by decide +kernel
theorem dX11_number_62 : decode cX11_number 62 = .ok (.getfield 19, 3) := by decide +kernel
theorem dX11_number_65 : decode cX11_number 65 = .ok (.aload_n 0, 1) := by decide +kernel
theorem dX11_number_66 : decode cX11_number 66 = .ok (.getfield 113, 3) := by decide +kernel
theorem dX11_number_69 : decode cX11_number 69 = .ok (.iaload, 1) := by decide +kernel
theorem dX11_number_70 : decode cX11_number 70 = .ok (.iadd, 1) := by decide +kernel
theorem dX11_number_71 : decode cX11_number 71 = .ok (.bipush 48, 2) := by decide +kernel
theorem dX11_number_73 : decode cX11_number 73 = .ok (.isub, 1) := by decide +kernel
theorem dX11_number_74 : decode cX11_number 74 = .ok (.istore_n 3, 1) := by decide +kernel
theorem dX11_number_75 : decode cX11_number 75 = .ok (.aload_n 0, 1) := by decide +kernel
theorem dX11_number_76 : decode cX11_number 76 = .ok (.dup, 1) := by decide +kernel
theorem dX11_number_77 : decode cX11_number 77 = .ok (.getfield 113, 3) := by decide +kernel
theorem dX11_number_80 : decode cX11_number 80 = .ok (.iconst 1, 1) := by decide +kernel
theorem dX11_number_81 : decode cX11_number 81 = .ok (.iadd, 1) := by decide +kernel
theorem dX11_number_82 : decode cX11_number 82 = .ok (.putfield 113, 3) := by decide +kernel
theorem dX11_number_85 : decode cX11_number 85 = .ok (.goto (-68), 3) := by decide +kernel
theorem dX11_number_88 : decode cX11_number 88 = .ok (.aload_n 0, 1) := by decide +kernel
theorem dX11_number_89 : decode cX11_number 89 = .ok (.getfield 113, 3) := by decide +kernel
theorem dX11_number_92 : decode cX11_number 92 = .ok (.iload_n 2, 1) := by decide +kernel
theorem dX11_number_93 : decode cX11_number 93 = .ok (.if_icmp .eq 18, 3) := by decide +kernel
theorem dX11_number_96 : decode cX11_number 96 = .ok (.aload_n 0, 1) := by decide +kernel
theorem dX11_number_97 : decode cX11_number 97 = .ok (.getfield 113, 3) := by decide +kernel
theorem dX11_number_100 : decode cX11_number 100 = .ok (.iload_n 2, 1) := by decide +kernel
theorem dX11_number_101 : decode cX11_number 101 = .ok (.isub, 1) := by decide +kernel
theorem dX11_number_102 : decode cX11_number 102 = .ok (.iconst 3, 1) := by decide +kernel
theorem dX11_number_103 : decode cX11_number 103 = .ok (.if_icmp .gt 8, 3) := by decide +kernel
theorem dX11_number_106 : decode cX11_number 106 = .ok (.iload_n 3, 1) := by decide +kernel
theorem dX11_number_107 : decode cX11_number 107 = .ok (.iload_n 1, 1) := by decide +kernel
theorem dX11_number_108 : decode cX11_number 108 = .ok (.if_icmp .le 8, 3) := by decide +kernel
theorem dX11_number_111 : decode cX11_number 111 = .ok (.aload_n 0, 1) := by decide +kernel
theorem dX11_number_112 : decode cX11_number 112 = .ok (.iload_n 2, 1) := by decide +kernel
theorem dX11_number_113 : decode cX11_number 113 = .ok (.invokevirtual 137, 3) := by decide +kernel
theorem dX11_number_116 : decode cX11_number 116 = .ok (.iload_n 3, 1) := by decide +kernel
theorem dX11_number_117 : decode cX11_number 117 = .ok (.ireturn, 1) := by decide +kernel
theorem dX11_wordsInto_0 : decode cX11_wordsInto 0 = .ok (.iconst 0, 1) := by decide +kernel
theorem dX11_wordsInto_1 : decode cX11_wordsInto 1 = .ok (.istore 5, 2) := by decide +kernel
theorem dX11_wordsInto_3 : decode cX11_wordsInto 3 = .ok (.aload_n 0, 1) := by decide +kernel
theorem dX11_wordsInto_4 : decode cX11_wordsInto 4 = .ok (.getfield 22, 3) := by decide +kernel
theorem dX11_wordsInto_7 : decode cX11_wordsInto 7 = .ok (.iconst (-1), 1) := by decide +kernel
theorem dX11_wordsInto_8 : decode cX11_wordsInto 8 = .ok (.if_icmp .ne 54, 3) := by decide +kernel
theorem dX11_wordsInto_11 : decode cX11_wordsInto 11 = .ok (.aload_n 0, 1) := by decide +kernel
theorem dX11_wordsInto_12 : decode cX11_wordsInto 12 = .ok (.invokevirtual 144, 3) := by decide +kernel
theorem dX11_wordsInto_15 : decode cX11_wordsInto 15 = .ok (.ifCond .eq 47, 3) := by decide +kernel
theorem dX11_wordsInto_18 : decode cX11_wordsInto 18 = .ok (.iload 5, 2) := by decide +kernel
theorem dX11_wordsInto_20 : decode cX11_wordsInto 20 = .ok (.iload_n 3, 1) := by decide +kernel
theorem dX11_wordsInto_21 : decode cX11_wordsInto 21 = .ok (.if_icmp .ne 11, 3) := by decide +kernel
theorem dX11_wordsInto_24 : decode cX11_wordsInto 24 = .ok (.aload_n 0, 1) := by decide +kernel
theorem dX11_wordsInto_25 : decode cX11_wordsInto 25 = .ok (.aload_n 0, 1) := by decide +kernel
theorem dX11_wordsInto_26 : decode cX11_wordsInto 26 = .ok (.getfield 113, 3) := by decide +kernel
theorem dX11_wordsInto_29 : decode cX11_wordsInto 29 = .ok (.invokevirtual 137, 3) := by decide +kernel
theorem dX11_wordsInto_32 : decode cX11_wordsInto 32 = .ok (.aload_n 0, 1) := by decide +kernel
theorem dX11_wordsInto_33 : decode cX11_wordsInto 33 = .ok (.iload 4, 2) := by decide +kernel
theorem dX11_wordsInto_35 : decode cX11_wordsInto 35 = .ok (.invokevirtual 148, 3) := by decide +kernel
theorem dX11_wordsInto_38 : decode cX11_wordsInto 38 = .ok (.istore 6, 2) := by decide +kernel
theorem dX11_wordsInto_40 : decode cX11_wordsInto 40 = .ok (.aload_n 0, 1) := by decide +kernel
theorem dX11_wordsInto_41 : decode cX11_wordsInto 41 = .ok (.getfield 22, 3) := by decide +kernel
theorem dX11_wordsInto_44 : decode cX11_wordsInto 44 = .ok (.iconst (-1), 1) := by decide +kernel
theorem dX11_wordsInto_45 : decode cX11_wordsInto 45 = .ok (.if_icmp .ne 11, 3) := by decide +kernel
theorem dX11_wordsInto_48 : decode cX11_wordsInto 48 = .ok (.aload_n 1, 1) := by decide +kernel
theorem dX11_wordsInto_49 : decode cX11_wordsInto 49 = .ok (.iload_n 2, 1) := by decide +kernel
theorem dX11_wordsInto_50 : decode cX11_wordsInto 50 = .ok (.iload 5, 2) := by decide +kernel
theorem dX11_wordsInto_52 : decode cX11_wordsInto 52 = .ok (.iadd, 1) := by decide +kernel
theorem dX11_wordsInto_53 : decode cX11_wordsInto 53 = .ok (.iload 6, 2) := by decide +kernel
theorem dX11_wordsInto_55 : decode cX11_wordsInto 55 = .ok (.iastore, 1) := by decide +kernel
theorem dX11_wordsInto_56 : decode cX11_wordsInto 56 = .ok (.iinc 5 1, 3) := by decide +kernel
theorem dX11_wordsInto_59 : decode cX11_wordsInto 59 = .ok (.goto (-56), 3) := by decide +kernel
theorem dX11_wordsInto_62 : decode cX11_wordsInto 62 = .ok (.iload 5, 2) := by decide +kernel
theorem dX11_wordsInto_64 : decode cX11_wordsInto 64 = .ok (.ireturn, 1) := by decide +kernel
theorem dX11_entry_0 : decode cX11_entry 0 = .ok (.bipush 10, 2) := by decide +kernel
theorem dX11_entry_2 : decode cX11_entry 2 = .ok (.aload_n 0, 1) := by decide +kernel
theorem dX11_entry_3 : decode cX11_entry 3 = .ok (.getfield 116, 3) := by decide +kernel
theorem dX11_entry_6 : decode cX11_entry 6 = .ok (.imul, 1) := by decide +kernel
theorem dX11_entry_7 : decode cX11_entry 7 = .ok (.istore_n 1, 1) := by decide +kernel
theorem dX11_entry_8 : decode cX11_entry 8 = .ok (.aload_n 0, 1) := by decide +kernel
theorem dX11_entry_9 : decode cX11_entry 9 = .ok (.getfield 29, 3) := by decide +kernel
theorem dX11_entry_12 : decode cX11_entry 12 = .ok (.aload_n 0, 1) := by decide +kernel
theorem dX11_entry_13 : decode cX11_entry 13 = .ok (.getfield 116, 3) := by decide +kernel
theorem dX11_entry_16 : decode cX11_entry 16 = .ok (.aload_n 0, 1) := by decide +kernel
theorem dX11_entry_17 : decode cX11_entry 17 = .ok (.invokevirtual 129, 3) := by decide +kernel
theorem dX11_entry_20 : decode cX11_entry 20 = .ok (.iastore, 1) := by decide +kernel
theorem dX11_entry_21 : decode cX11_entry 21 = .ok (.aload_n 0, 1) := by decide +kernel
theorem dX11_entry_22 : decode cX11_entry 22 = .ok (.getfield 26, 3) := by decide +kernel
theorem dX11_entry_25 : decode cX11_entry 25 = .ok (.iload_n 1, 1) := by decide +kernel
theorem dX11_entry_26 : decode cX11_entry 26 = .ok (.aload_n 0, 1) := by decide +kernel
theorem dX11_entry_27 : decode cX11_entry 27 = .ok (.aload_n 0, 1) := by decide +kernel
theorem dX11_entry_28 : decode cX11_entry 28 = .ok (.getfield 26, 3) := by decide +kernel
theorem dX11_entry_31 : decode cX11_entry 31 = .ok (.iload_n 1, 1) := by decide +kernel
theorem dX11_entry_32 : decode cX11_entry 32 = .ok (.iconst 1, 1) := by decide +kernel
theorem dX11_entry_33 : decode cX11_entry 33 = .ok (.iadd, 1) := by decide +kernel
theorem dX11_entry_34 : decode cX11_entry 34 = .ok (.iconst 3, 1) := by decide +kernel
theorem dX11_entry_35 : decode cX11_entry 35 = .ok (.iconst 1, 1) := by decide +kernel
theorem dX11_entry_36 : decode cX11_entry 36 = .ok (.invokevirtual 152, 3) := by decide +kernel
theorem dX11_entry_39 : decode cX11_entry 39 = .ok (.iastore, 1) := by decide +kernel
theorem dX11_entry_40 : decode cX11_entry 40 = .ok (.aload_n 0, 1) := by decide +kernel
theorem dX11_entry_41 : decode cX11_entry 41 = .ok (.getfield 26, 3) := by decide +kernel
theorem dX11_entry_44 : decode cX11_entry 44 = .ok (.iload_n 1, 1) := by decide +kernel
theorem dX11_entry_45 : decode cX11_entry 45 = .ok (.iaload, 1) := by decide +kernel
theorem dX11_entry_46 : decode cX11_entry 46 = .ok (.ifCond .ne 11, 3) := by decide +kernel
theorem dX11_entry_49 : decode cX11_entry 49 = .ok (.aload_n 0, 1) := by decide +kernel
theorem dX11_entry_50 : decode cX11_entry 50 = .ok (.aload_n 0, 1) := by decide +kernel
theorem dX11_entry_51 : decode cX11_entry 51 = .ok (.invokevirtual 129, 3) := by decide +kernel
theorem dX11_entry_54 : decode cX11_entry 54 = .ok (.invokevirtual 137, 3) := by decide +kernel
theorem dX11_entry_57 : decode cX11_entry 57 = .ok (.aload_n 0, 1) := by decide +kernel
theorem dX11_entry_58 : decode cX11_entry 58 = .ok (.bipush 61, 2) := by decide +kernel
theorem dX11_entry_60 : decode cX11_entry 60 = .ok (.invokevirtual 156, 3) := by decide +kernel
theorem dX11_entry_63 : decode cX11_entry 63 = .ok (.aload_n 0, 1) := by decide +kernel
theorem dX11_entry_64 : decode cX11_entry 64 = .ok (.getfield 26, 3) := by decide +kernel
theorem dX11_entry_67 : decode cX11_entry 67 = .ok (.iload_n 1, 1) := by decide +kernel
theorem dX11_entry_68 : decode cX11_entry 68 = .ok (.iconst 4, 1) := by decide +kernel
theorem dX11_entry_69 : decode cX11_entry 69 = .ok (.iadd, 1) := by decide +kernel
theorem dX11_entry_70 : decode cX11_entry 70 = .ok (.aload_n 0, 1) := by decide +kernel
theorem dX11_entry_71 : decode cX11_entry 71 = .ok (.aload_n 0, 1) := by decide +kernel
theorem dX11_entry_72 : decode cX11_entry 72 = .ok (.getfield 26, 3) := by decide +kernel
theorem dX11_entry_75 : decode cX11_entry 75 = .ok (.iload_n 1, 1) := by decide +kernel
theorem dX11_entry_76 : decode cX11_entry 76 = .ok (.iconst 4, 1) := by decide +kernel
theorem dX11_entry_77 : decode cX11_entry 77 = .ok (.iadd, 1) := by decide +kernel
theorem dX11_entry_78 : decode cX11_entry 78 = .ok (.iconst 1, 1) := by decide +kernel
theorem dX11_entry_79 : decode cX11_entry 79 = .ok (.iadd, 1) := by decide +kernel
theorem dX11_entry_80 : decode cX11_entry 80 = .ok (.iconst 3, 1) := by decide +kernel
theorem dX11_entry_81 : decode cX11_entry 81 = .ok (.iconst 1, 1) := by decide +kernel
theorem dX11_entry_82 : decode cX11_entry 82 = .ok (.invokevirtual 152, 3) := by decide +kernel
theorem dX11_entry_85 : decode cX11_entry 85 = .ok (.iastore, 1) := by decide +kernel
theorem dX11_entry_86 : decode cX11_entry 86 = .ok (.aload_n 0, 1) := by decide +kernel
theorem dX11_entry_87 : decode cX11_entry 87 = .ok (.getfield 26, 3) := by decide +kernel
theorem dX11_entry_90 : decode cX11_entry 90 = .ok (.iload_n 1, 1) := by decide +kernel
theorem dX11_entry_91 : decode cX11_entry 91 = .ok (.bipush 8, 2) := by decide +kernel
theorem dX11_entry_93 : decode cX11_entry 93 = .ok (.iadd, 1) := by decide +kernel
theorem dX11_entry_94 : decode cX11_entry 94 = .ok (.aload_n 0, 1) := by decide +kernel
theorem dX11_entry_95 : decode cX11_entry 95 = .ok (.bipush 99, 2) := by decide +kernel
theorem dX11_entry_97 : decode cX11_entry 97 = .ok (.invokevirtual 159, 3) := by decide +kernel
theorem dX11_entry_100 : decode cX11_entry 100 = .ok (.iastore, 1) := by decide +kernel
theorem dX11_entry_101 : decode cX11_entry 101 = .ok (.return_, 1) := by decide +kernel
theorem dX11_pair_0 : decode cX11_pair 0 = .ok (.bipush 10, 2) := by decide +kernel
theorem dX11_pair_2 : decode cX11_pair 2 = .ok (.aload_n 0, 1) := by decide +kernel
theorem dX11_pair_3 : decode cX11_pair 3 = .ok (.getfield 116, 3) := by decide +kernel
theorem dX11_pair_6 : decode cX11_pair 6 = .ok (.imul, 1) := by decide +kernel
theorem dX11_pair_7 : decode cX11_pair 7 = .ok (.istore_n 1, 1) := by decide +kernel
theorem dX11_pair_8 : decode cX11_pair 8 = .ok (.aload_n 0, 1) := by decide +kernel
theorem dX11_pair_9 : decode cX11_pair 9 = .ok (.getfield 29, 3) := by decide +kernel
theorem dX11_pair_12 : decode cX11_pair 12 = .ok (.aload_n 0, 1) := by decide +kernel
theorem dX11_pair_13 : decode cX11_pair 13 = .ok (.getfield 116, 3) := by decide +kernel
theorem dX11_pair_16 : decode cX11_pair 16 = .ok (.aload_n 0, 1) := by decide +kernel
theorem dX11_pair_17 : decode cX11_pair 17 = .ok (.invokevirtual 129, 3) := by decide +kernel
theorem dX11_pair_20 : decode cX11_pair 20 = .ok (.iastore, 1) := by decide +kernel
theorem dX11_pair_21 : decode cX11_pair 21 = .ok (.aload_n 0, 1) := by decide +kernel
theorem dX11_pair_22 : decode cX11_pair 22 = .ok (.bipush 94, 2) := by decide +kernel
theorem dX11_pair_24 : decode cX11_pair 24 = .ok (.invokevirtual 133, 3) := by decide +kernel
theorem dX11_pair_27 : decode cX11_pair 27 = .ok (.istore_n 2, 1) := by decide +kernel
theorem dX11_pair_28 : decode cX11_pair 28 = .ok (.iload_n 2, 1) := by decide +kernel
theorem dX11_pair_29 : decode cX11_pair 29 = .ok (.ifCond .eq 13, 3) := by decide +kernel
theorem dX11_pair_32 : decode cX11_pair 32 = .ok (.aload_n 0, 1) := by decide +kernel
theorem dX11_pair_33 : decode cX11_pair 33 = .ok (.dup, 1) := by decide +kernel
theorem dX11_pair_34 : decode cX11_pair 34 = .ok (.getfield 113, 3) := by decide +kernel
theorem dX11_pair_37 : decode cX11_pair 37 = .ok (.iconst 1, 1) := by decide +kernel
theorem dX11_pair_38 : decode cX11_pair 38 = .ok (.iadd, 1) := by decide +kernel
theorem dX11_pair_39 : decode cX11_pair 39 = .ok (.putfield 113, 3) := by decide +kernel
theorem dX11_pair_42 : decode cX11_pair 42 = .ok (.aload_n 0, 1) := by decide +kernel
theorem dX11_pair_43 : decode cX11_pair 43 = .ok (.getfield 26, 3) := by decide +kernel
theorem dX11_pair_46 : decode cX11_pair 46 = .ok (.iload_n 1, 1) := by decide +kernel
theorem dX11_pair_47 : decode cX11_pair 47 = .ok (.iload_n 2, 1) := by decide +kernel
theorem dX11_pair_48 : decode cX11_pair 48 = .ok (.ifCond .eq 7, 3) := by decide +kernel
theorem dX11_pair_51 : decode cX11_pair 51 = .ok (.iconst (-1), 1) := by decide +kernel
theorem dX11_pair_52 : decode cX11_pair 52 = .ok (.goto 8, 3) := by decide +kernel
theorem dX11_pair_55 : decode cX11_pair 55 = .ok (.aload_n 0, 1) := by decide +kernel
theorem dX11_pair_56 : decode cX11_pair 56 = .ok (.iconst 1, 1) := by decide +kernel
theorem dX11_pair_57 : decode cX11_pair 57 = .ok (.invokevirtual 148, 3) := by decide +kernel
theorem dX11_pair_60 : decode cX11_pair 60 = .ok (.iastore, 1) := by decide +kernel
theorem dX11_pair_61 : decode cX11_pair 61 = .ok (.aload_n 0, 1) := by decide +kernel
theorem dX11_pair_62 : decode cX11_pair 62 = .ok (.getfield 22, 3) := by decide +kernel
theorem dX11_pair_65 : decode cX11_pair 65 = .ok (.iconst (-1), 1) := by decide +kernel
theorem dX11_pair_66 : decode cX11_pair 66 = .ok (.if_icmp .ne 16, 3) := by decide +kernel
theorem dX11_pair_69 : decode cX11_pair 69 = .ok (.aload_n 0, 1) := by decide +kernel
theorem dX11_pair_70 : decode cX11_pair 70 = .ok (.bipush 36, 2) := by decide +kernel
theorem dX11_pair_72 : decode cX11_pair 72 = .ok (.invokevirtual 133, 3) := by decide +kernel
theorem dX11_pair_75 : decode cX11_pair 75 = .ok (.ifCond .eq 7, 3) := by decide +kernel
theorem dX11_pair_78 : decode cX11_pair 78 = .ok (.iconst 1, 1) := by decide +kernel
theorem dX11_pair_79 : decode cX11_pair 79 = .ok (.goto 4, 3) := by decide +kernel
theorem dX11_pair_82 : decode cX11_pair 82 = .ok (.iconst 0, 1) := by decide +kernel
theorem dX11_pair_83 : decode cX11_pair 83 = .ok (.istore_n 3, 1) := by decide +kernel
theorem dX11_pair_84 : decode cX11_pair 84 = .ok (.iload_n 3, 1) := by decide +kernel
theorem dX11_pair_85 : decode cX11_pair 85 = .ok (.ifCond .eq 13, 3) := by decide +kernel
theorem dX11_pair_88 : decode cX11_pair 88 = .ok (.aload_n 0, 1) := by decide +kernel
theorem dX11_pair_89 : decode cX11_pair 89 = .ok (.dup, 1) := by decide +kernel
theorem dX11_pair_90 : decode cX11_pair 90 = .ok (.getfield 113, 3) := by decide +kernel
theorem dX11_pair_93 : decode cX11_pair 93 = .ok (.iconst 1, 1) := by decide +kernel
theorem dX11_pair_94 : decode cX11_pair 94 = .ok (.iadd, 1) := by decide +kernel
theorem dX11_pair_95 : decode cX11_pair 95 = .ok (.putfield 113, 3) := by decide +kernel
theorem dX11_pair_98 : decode cX11_pair 98 = .ok (.aload_n 0, 1) := by decide +kernel
theorem dX11_pair_99 : decode cX11_pair 99 = .ok (.getfield 26, 3) := by decide +kernel
theorem dX11_pair_102 : decode cX11_pair 102 = .ok (.iload_n 1, 1) := by decide +kernel
theorem dX11_pair_103 : decode cX11_pair 103 = .ok (.iconst 1, 1) := by decide +kernel
theorem dX11_pair_104 : decode cX11_pair 104 = .ok (.iadd, 1) := by decide +kernel
theorem dX11_pair_105 : decode cX11_pair 105 = .ok (.iload_n 3, 1) := by decide +kernel
theorem dX11_pair_106 : decode cX11_pair 106 = .ok (.ifCond .eq 7, 3) := by decide +kernel
theorem dX11_pair_109 : decode cX11_pair 109 = .ok (.iconst (-1), 1) := by decide +kernel
theorem dX11_pair_110 : decode cX11_pair 110 = .ok (.goto 8, 3) := by decide +kernel
theorem dX11_pair_113 : decode cX11_pair 113 = .ok (.aload_n 0, 1) := by decide +kernel
theorem dX11_pair_114 : decode cX11_pair 114 = .ok (.iconst 1, 1) := by decide +kernel
theorem dX11_pair_115 : decode cX11_pair 115 = .ok (.invokevirtual 148, 3) := by decide +kernel
theorem dX11_pair_118 : decode cX11_pair 118 = .ok (.iastore, 1) := by decide +kernel
theorem dX11_pair_119 : decode cX11_pair 119 = .ok (.aload_n 0, 1) := by decide +kernel
theorem dX11_pair_120 : decode cX11_pair 120 = .ok (.getfield 26, 3) := by decide +kernel
theorem dX11_pair_123 : decode cX11_pair 123 = .ok (.iload_n 1, 1) := by decide +kernel
theorem dX11_pair_124 : decode cX11_pair 124 = .ok (.iconst 2, 1) := by decide +kernel
theorem dX11_pair_125 : decode cX11_pair 125 = .ok (.iadd, 1) := by decide +kernel
theorem dX11_pair_126 : decode cX11_pair 126 = .ok (.aload_n 0, 1) := by decide +kernel
theorem dX11_pair_127 : decode cX11_pair 127 = .ok (.bipush 99, 2) := by decide +kernel
theorem dX11_pair_129 : decode cX11_pair 129 = .ok (.invokevirtual 159, 3) := by decide +kernel
theorem dX11_pair_132 : decode cX11_pair 132 = .ok (.iastore, 1) := by decide +kernel
theorem dX11_pair_133 : decode cX11_pair 133 = .ok (.return_, 1) := by decide +kernel
theorem dX11_reads_0 : decode cX11_reads 0 = .ok (.aload_n 0, 1) := by decide +kernel
theorem dX11_reads_1 : decode cX11_reads 1 = .ok (.invokevirtual 129, 3) := by decide +kernel
theorem dX11_reads_4 : decode cX11_reads 4 = .ok (.aload_n 0, 1) := by decide +kernel
theorem dX11_reads_5 : decode cX11_reads 5 = .ok (.getfield 110, 3) := by decide +kernel
theorem dX11_reads_8 : decode cX11_reads 8 = .ok (.if_icmp .ge 7, 3) := by decide +kernel
theorem dX11_reads_11 : decode cX11_reads 11 = .ok (.iconst 1, 1) := by decide +kernel
theorem dX11_reads_12 : decode cX11_reads 12 = .ok (.goto 4, 3) := by decide +kernel
theorem dX11_reads_15 : decode cX11_reads 15 = .ok (.iconst 0, 1) := by decide +kernel
theorem dX11_reads_16 : decode cX11_reads 16 = .ok (.istore_n 2, 1) := by decide +kernel
theorem dX11_reads_17 : decode cX11_reads 17 = .ok (.iload_n 2, 1) := by decide +kernel
theorem dX11_reads_18 : decode cX11_reads 18 = .ok (.ifCond .eq 89, 3) := by decide +kernel
theorem dX11_reads_21 : decode cX11_reads 21 = .ok (.aload_n 0, 1) := by decide +kernel
theorem dX11_reads_22 : decode cX11_reads 22 = .ok (.getfield 22, 3) := by decide +kernel
theorem dX11_reads_25 : decode cX11_reads 25 = .ok (.iconst (-1), 1) := by decide +kernel
theorem dX11_reads_26 : decode cX11_reads 26 = .ok (.if_icmp .ne 81, 3) := by decide +kernel
theorem dX11_reads_29 : decode cX11_reads 29 = .ok (.aload_n 0, 1) := by decide +kernel
theorem dX11_reads_30 : decode cX11_reads 30 = .ok (.getfield 116, 3) := by decide +kernel
theorem dX11_reads_33 : decode cX11_reads 33 = .ok (.bipush 12, 2) := by decide +kernel
theorem dX11_reads_35 : decode cX11_reads 35 = .ok (.if_icmp .ne 14, 3) := by decide +kernel
theorem dX11_reads_38 : decode cX11_reads 38 = .ok (.aload_n 0, 1) := by decide +kernel
theorem dX11_reads_39 : decode cX11_reads 39 = .ok (.aload_n 0, 1) := by decide +kernel
theorem dX11_reads_40 : decode cX11_reads 40 = .ok (.invokevirtual 129, 3) := by decide +kernel
theorem dX11_reads_43 : decode cX11_reads 43 = .ok (.invokevirtual 137, 3) := by decide +kernel
theorem dX11_reads_46 : decode cX11_reads 46 = .ok (.goto 18, 3) := by decide +kernel
theorem dX11_reads_49 : decode cX11_reads 49 = .ok (.iload_n 1, 1) := by decide +kernel
theorem dX11_reads_50 : decode cX11_reads 50 = .ok (.ifCond .eq 10, 3) := by decide +kernel
theorem dX11_reads_53 : decode cX11_reads 53 = .ok (.aload_n 0, 1) := by decide +kernel
theorem dX11_reads_54 : decode cX11_reads 54 = .ok (.invokevirtual 163, 3) := by decide +kernel
theorem dX11_reads_57 : decode cX11_reads 57 = .ok (.goto 7, 3) := by decide +kernel
theorem dX11_reads_60 : decode cX11_reads 60 = .ok (.aload_n 0, 1) := by decide +kernel
theorem dX11_reads_61 : decode cX11_reads 61 = .ok (.invokevirtual 166, 3) := by decide +kernel
theorem dX11_reads_64 : decode cX11_reads 64 = .ok (.aload_n 0, 1) := by decide +kernel
theorem dX11_reads_65 : decode cX11_reads 65 = .ok (.dup, 1) := by decide +kernel
theorem dX11_reads_66 : decode cX11_reads 66 = .ok (.getfield 116, 3) := by decide +kernel
theorem dX11_reads_69 : decode cX11_reads 69 = .ok (.iconst 1, 1) := by decide +kernel
theorem dX11_reads_70 : decode cX11_reads 70 = .ok (.iadd, 1) := by decide +kernel
theorem dX11_reads_71 : decode cX11_reads 71 = .ok (.putfield 116, 3) := by decide +kernel
theorem dX11_reads_74 : decode cX11_reads 74 = .ok (.aload_n 0, 1) := by decide +kernel
theorem dX11_reads_75 : decode cX11_reads 75 = .ok (.getfield 22, 3) := by decide +kernel
theorem dX11_reads_78 : decode cX11_reads 78 = .ok (.iconst (-1), 1) := by decide +kernel
theorem dX11_reads_79 : decode cX11_reads 79 = .ok (.if_icmp .ne 14, 3) := by decide +kernel
theorem dX11_reads_82 : decode cX11_reads 82 = .ok (.aload_n 0, 1) := by decide +kernel
theorem dX11_reads_83 : decode cX11_reads 83 = .ok (.invokevirtual 129, 3) := by decide +kernel
theorem dX11_reads_86 : decode cX11_reads 86 = .ok (.aload_n 0, 1) := by decide +kernel
theorem dX11_reads_87 : decode cX11_reads 87 = .ok (.getfield 110, 3) := by decide +kernel
theorem dX11_reads_90 : decode cX11_reads 90 = .ok (.if_icmp .ne 8, 3) := by decide +kernel
theorem dX11_reads_93 : decode cX11_reads 93 = .ok (.iconst 0, 1) := by decide +kernel
theorem dX11_reads_94 : decode cX11_reads 94 = .ok (.istore_n 2, 1) := by decide +kernel
theorem dX11_reads_95 : decode cX11_reads 95 = .ok (.goto (-78), 3) := by decide +kernel
theorem dX11_reads_98 : decode cX11_reads 98 = .ok (.aload_n 0, 1) := by decide +kernel
theorem dX11_reads_99 : decode cX11_reads 99 = .ok (.bipush 59, 2) := by decide +kernel
theorem dX11_reads_101 : decode cX11_reads 101 = .ok (.invokevirtual 156, 3) := by decide +kernel
theorem dX11_reads_104 : decode cX11_reads 104 = .ok (.goto (-87), 3) := by decide +kernel
theorem dX11_reads_107 : decode cX11_reads 107 = .ok (.return_, 1) := by decide +kernel
theorem dX11_alike_0 : decode cX11_alike 0 = .ok (.iconst 0, 1) := by decide +kernel
theorem dX11_alike_1 : decode cX11_alike 1 = .ok (.istore 4, 2) := by decide +kernel
theorem dX11_alike_3 : decode cX11_alike 3 = .ok (.iload 4, 2) := by decide +kernel
theorem dX11_alike_5 : decode cX11_alike 5 = .ok (.aload_n 0, 1) := by decide +kernel
theorem dX11_alike_6 : decode cX11_alike 6 = .ok (.getfield 7, 3) := by decide +kernel
theorem dX11_alike_9 : decode cX11_alike 9 = .ok (.iconst 1, 1) := by decide +kernel
theorem dX11_alike_10 : decode cX11_alike 10 = .ok (.iaload, 1) := by decide +kernel
theorem dX11_alike_11 : decode cX11_alike 11 = .ok (.if_icmp .ge 152, 3) := by decide +kernel
theorem dX11_alike_14 : decode cX11_alike 14 = .ok (.iload 4, 2) := by decide +kernel
theorem dX11_alike_16 : decode cX11_alike 16 = .ok (.iload_n 3, 1) := by decide +kernel
theorem dX11_alike_17 : decode cX11_alike 17 = .ok (.if_icmp .eq 46, 3) := by decide +kernel
theorem dX11_alike_20 : decode cX11_alike 20 = .ok (.aload_n 0, 1) := by decide +kernel
theorem dX11_alike_21 : decode cX11_alike 21 = .ok (.iload 4, 2) := by decide +kernel
theorem dX11_alike_23 : decode cX11_alike 23 = .ok (.bipush 9, 2) := by decide +kernel
theorem dX11_alike_25 : decode cX11_alike 25 = .ok (.invokevirtual 169, 3) := by decide +kernel
theorem dX11_alike_28 : decode cX11_alike 28 = .ok (.ifCond .ne 35, 3) := by decide +kernel
theorem dX11_alike_31 : decode cX11_alike 31 = .ok (.aload_n 0, 1) := by decide +kernel
theorem dX11_alike_32 : decode cX11_alike 32 = .ok (.iload 4, 2) := by decide +kernel
theorem dX11_alike_34 : decode cX11_alike 34 = .ok (.iconst 0, 1) := by decide +kernel
theorem dX11_alike_35 : decode cX11_alike 35 = .ok (.invokevirtual 169, 3) := by decide +kernel
theorem dX11_alike_38 : decode cX11_alike 38 = .ok (.aload_n 1, 1) := by decide +kernel
theorem dX11_alike_39 : decode cX11_alike 39 = .ok (.iload_n 2, 1) := by decide +kernel
theorem dX11_alike_40 : decode cX11_alike 40 = .ok (.iaload, 1) := by decide +kernel
theorem dX11_alike_41 : decode cX11_alike 41 = .ok (.if_icmp .ne 22, 3) := by decide +kernel
theorem dX11_alike_44 : decode cX11_alike 44 = .ok (.aload_n 0, 1) := by decide +kernel
theorem dX11_alike_45 : decode cX11_alike 45 = .ok (.iload 4, 2) := by decide +kernel
theorem dX11_alike_47 : decode cX11_alike 47 = .ok (.iconst 4, 1) := by decide +kernel
theorem dX11_alike_48 : decode cX11_alike 48 = .ok (.invokevirtual 169, 3) := by decide +kernel
theorem dX11_alike_51 : decode cX11_alike 51 = .ok (.aload_n 1, 1) := by decide +kernel
theorem dX11_alike_52 : decode cX11_alike 52 = .ok (.iload_n 2, 1) := by decide +kernel
theorem dX11_alike_53 : decode cX11_alike 53 = .ok (.iconst 4, 1) := by decide +kernel
theorem dX11_alike_54 : decode cX11_alike 54 = .ok (.iadd, 1) := by decide +kernel
theorem dX11_alike_55 : decode cX11_alike 55 = .ok (.iaload, 1) := by decide +kernel
theorem dX11_alike_56 : decode cX11_alike 56 = .ok (.if_icmp .ne 7, 3) := by decide +kernel
theorem dX11_alike_59 : decode cX11_alike 59 = .ok (.iconst 1, 1) := by decide +kernel
theorem dX11_alike_60 : decode cX11_alike 60 = .ok (.goto 4, 3) := by decide +kernel
theorem dX11_alike_63 : decode cX11_alike 63 = .ok (.iconst 0, 1) := by decide +kernel
theorem dX11_alike_64 : decode cX11_alike 64 = .ok (.istore 5, 2) := by decide +kernel
theorem dX11_alike_66 : decode cX11_alike 66 = .ok (.iconst 1, 1) := by decide +kernel
theorem dX11_alike_67 : decode cX11_alike 67 = .ok (.istore 6, 2) := by decide +kernel
theorem dX11_alike_69 : decode cX11_alike 69 = .ok (.iload 6, 2) := by decide +kernel
theorem dX11_alike_71 : decode cX11_alike 71 = .ok (.iconst 3, 1) := by decide +kernel
theorem dX11_alike_72 : decode cX11_alike 72 = .ok (.if_icmp .gt 77, 3) := by decide +kernel
theorem dX11_alike_75 : decode cX11_alike 75 = .ok (.iload 5, 2) := by decide +kernel
theorem dX11_alike_77 : decode cX11_alike 77 = .ok (.ifCond .eq 72, 3) := by decide +kernel
theorem dX11_alike_80 : decode cX11_alike 80 = .ok (.iload 6, 2) := by decide +kernel
theorem dX11_alike_82 : decode cX11_alike 82 = .ok (.aload_n 1, 1) := by decide +kernel
theorem dX11_alike_83 : decode cX11_alike 83 = .ok (.iload_n 2, 1) := by decide +kernel
theorem dX11_alike_84 : decode cX11_alike 84 = .ok (.iaload, 1) := by decide +kernel
theorem dX11_alike_85 : decode cX11_alike 85 = .ok (.if_icmp .gt 20, 3) := by decide +kernel
theorem dX11_alike_88 : decode cX11_alike 88 = .ok (.aload_n 0, 1) := by decide +kernel
theorem dX11_alike_89 : decode cX11_alike 89 = .ok (.iload 4, 2) := by decide +kernel
theorem dX11_alike_91 : decode cX11_alike 91 = .ok (.iload 6, 2) := by decide +kernel
theorem dX11_alike_93 : decode cX11_alike 93 = .ok (.invokevirtual 169, 3) := by decide +kernel
theorem dX11_alike_96 : decode cX11_alike 96 = .ok (.aload_n 1, 1) := by decide +kernel
theorem dX11_alike_97 : decode cX11_alike 97 = .ok (.iload_n 2, 1) := by decide +kernel
theorem dX11_alike_98 : decode cX11_alike 98 = .ok (.iload 6, 2) := by decide +kernel
theorem dX11_alike_100 : decode cX11_alike 100 = .ok (.iadd, 1) := by decide +kernel
theorem dX11_alike_101 : decode cX11_alike 101 = .ok (.iaload, 1) := by decide +kernel
theorem dX11_alike_102 : decode cX11_alike 102 = .ok (.if_icmp .ne 38, 3) := by decide +kernel
theorem dX11_alike_105 : decode cX11_alike 105 = .ok (.iload 6, 2) := by decide +kernel
theorem dX11_alike_107 : decode cX11_alike 107 = .ok (.aload_n 1, 1) := by decide +kernel
theorem dX11_alike_108 : decode cX11_alike 108 = .ok (.iload_n 2, 1) := by decide +kernel
theorem dX11_alike_109 : decode cX11_alike 109 = .ok (.iconst 4, 1) := by decide +kernel
theorem dX11_alike_110 : decode cX11_alike 110 = .ok (.iadd, 1) := by decide +kernel
theorem dX11_alike_111 : decode cX11_alike 111 = .ok (.iaload, 1) := by decide +kernel
theorem dX11_alike_112 : decode cX11_alike 112 = .ok (.if_icmp .gt 24, 3) := by decide +kernel
theorem dX11_alike_115 : decode cX11_alike 115 = .ok (.aload_n 0, 1) := by decide +kernel
theorem dX11_alike_116 : decode cX11_alike 116 = .ok (.iload 4, 2) := by decide +kernel
theorem dX11_alike_118 : decode cX11_alike 118 = .ok (.iconst 4, 1) := by decide +kernel
theorem dX11_alike_119 : decode cX11_alike 119 = .ok (.iload 6, 2) := by decide +kernel
theorem dX11_alike_121 : decode cX11_alike 121 = .ok (.iadd, 1) := by decide +kernel
theorem dX11_alike_122 : decode cX11_alike 122 = .ok (.invokevirtual 169, 3) := by decide +kernel
theorem dX11_alike_125 : decode cX11_alike 125 = .ok (.aload_n 1, 1) := by decide +kernel
theorem dX11_alike_126 : decode cX11_alike 126 = .ok (.iload_n 2, 1) := by decide +kernel
theorem dX11_alike_127 : decode cX11_alike 127 = .ok (.iconst 4, 1) := by decide +kernel
theorem dX11_alike_128 : decode cX11_alike 128 = .ok (.iadd, 1) := by decide +kernel
theorem dX11_alike_129 : decode cX11_alike 129 = .ok (.iload 6, 2) := by decide +kernel
theorem dX11_alike_131 : decode cX11_alike 131 = .ok (.iadd, 1) := by decide +kernel
theorem dX11_alike_132 : decode cX11_alike 132 = .ok (.iaload, 1) := by decide +kernel
theorem dX11_alike_133 : decode cX11_alike 133 = .ok (.if_icmp .ne 7, 3) := by decide +kernel
theorem dX11_alike_136 : decode cX11_alike 136 = .ok (.iconst 1, 1) := by decide +kernel
theorem dX11_alike_137 : decode cX11_alike 137 = .ok (.goto 4, 3) := by decide +kernel
theorem dX11_alike_140 : decode cX11_alike 140 = .ok (.iconst 0, 1) := by decide +kernel
theorem dX11_alike_141 : decode cX11_alike 141 = .ok (.istore 5, 2) := by decide +kernel
theorem dX11_alike_143 : decode cX11_alike 143 = .ok (.iinc 6 1, 3) := by decide +kernel
theorem dX11_alike_146 : decode cX11_alike 146 = .ok (.goto (-77), 3) := by decide +kernel
theorem dX11_alike_149 : decode cX11_alike 149 = .ok (.iload 5, 2) := by decide +kernel
theorem dX11_alike_151 : decode cX11_alike 151 = .ok (.ifCond .eq 6, 3) := by decide +kernel
theorem dX11_alike_154 : decode cX11_alike 154 = .ok (.iload 4, 2) := by decide +kernel
theorem dX11_alike_156 : decode cX11_alike 156 = .ok (.ireturn, 1) := by decide +kernel
theorem dX11_alike_157 : decode cX11_alike 157 = .ok (.iinc 4 1, 3) := by decide +kernel
theorem dX11_alike_160 : decode cX11_alike 160 = .ok (.goto (-157), 3) := by decide +kernel
theorem dX11_alike_163 : decode cX11_alike 163 = .ok (.iconst (-1), 1) := by decide +kernel
theorem dX11_alike_164 : decode cX11_alike 164 = .ok (.ireturn, 1) := by decide +kernel
theorem dX11_comes_0 : decode cX11_comes 0 = .ok (.sipush 369, 3) := by decide +kernel
theorem dX11_comes_3 : decode cX11_comes 3 = .ok (.bipush 10, 2) := by decide +kernel
theorem dX11_comes_5 : decode cX11_comes 5 = .ok (.aload_n 0, 1) := by decide +kernel
theorem dX11_comes_6 : decode cX11_comes 6 = .ok (.getfield 7, 3) := by decide +kernel
theorem dX11_comes_9 : decode cX11_comes 9 = .ok (.iconst 1, 1) := by decide +kernel
theorem dX11_comes_10 : decode cX11_comes 10 = .ok (.iaload, 1) := by decide +kernel
theorem dX11_comes_11 : decode cX11_comes 11 = .ok (.imul, 1) := by decide +kernel
theorem dX11_comes_12 : decode cX11_comes 12 = .ok (.iadd, 1) := by decide +kernel
theorem dX11_comes_13 : decode cX11_comes 13 = .ok (.istore_n 3, 1) := by decide +kernel
theorem dX11_comes_14 : decode cX11_comes 14 = .ok (.iconst 0, 1) := by decide +kernel
theorem dX11_comes_15 : decode cX11_comes 15 = .ok (.istore 4, 2) := by decide +kernel
theorem dX11_comes_17 : decode cX11_comes 17 = .ok (.iload 4, 2) := by decide +kernel
theorem dX11_comes_19 : decode cX11_comes 19 = .ok (.bipush 8, 2) := by decide +kernel
theorem dX11_comes_21 : decode cX11_comes 21 = .ok (.if_icmp .ge 27, 3) := by decide +kernel
theorem dX11_comes_24 : decode cX11_comes 24 = .ok (.aload_n 0, 1) := by decide +kernel
theorem dX11_comes_25 : decode cX11_comes 25 = .ok (.getfield 7, 3) := by decide +kernel
theorem dX11_comes_28 : decode cX11_comes 28 = .ok (.iload_n 3, 1) := by decide +kernel
theorem dX11_comes_29 : decode cX11_comes 29 = .ok (.iload 4, 2) := by decide +kernel
theorem dX11_comes_31 : decode cX11_comes 31 = .ok (.iadd, 1) := by decide +kernel
theorem dX11_comes_32 : decode cX11_comes 32 = .ok (.aload_n 0, 1) := by decide +kernel
theorem dX11_comes_33 : decode cX11_comes 33 = .ok (.getfield 26, 3) := by decide +kernel
theorem dX11_comes_36 : decode cX11_comes 36 = .ok (.iload_n 1, 1) := by decide +kernel
theorem dX11_comes_37 : decode cX11_comes 37 = .ok (.iload 4, 2) := by decide +kernel
theorem dX11_comes_39 : decode cX11_comes 39 = .ok (.iadd, 1) := by decide +kernel
theorem dX11_comes_40 : decode cX11_comes 40 = .ok (.iaload, 1) := by decide +kernel
theorem dX11_comes_41 : decode cX11_comes 41 = .ok (.iastore, 1) := by decide +kernel
theorem dX11_comes_42 : decode cX11_comes 42 = .ok (.iinc 4 1, 3) := by decide +kernel
theorem dX11_comes_45 : decode cX11_comes 45 = .ok (.goto (-28), 3) := by decide +kernel
theorem dX11_comes_48 : decode cX11_comes 48 = .ok (.aload_n 0, 1) := by decide +kernel
theorem dX11_comes_49 : decode cX11_comes 49 = .ok (.getfield 7, 3) := by decide +kernel
theorem dX11_comes_52 : decode cX11_comes 52 = .ok (.iload_n 3, 1) := by decide +kernel
theorem dX11_comes_53 : decode cX11_comes 53 = .ok (.bipush 8, 2) := by decide +kernel
theorem dX11_comes_55 : decode cX11_comes 55 = .ok (.iadd, 1) := by decide +kernel
theorem dX11_comes_56 : decode cX11_comes 56 = .ok (.iload_n 2, 1) := by decide +kernel
theorem dX11_comes_57 : decode cX11_comes 57 = .ok (.iastore, 1) := by decide +kernel
theorem dX11_comes_58 : decode cX11_comes 58 = .ok (.aload_n 0, 1) := by decide +kernel
theorem dX11_comes_59 : decode cX11_comes 59 = .ok (.getfield 7, 3) := by decide +kernel
theorem dX11_comes_62 : decode cX11_comes 62 = .ok (.iload_n 3, 1) := by decide +kernel
theorem dX11_comes_63 : decode cX11_comes 63 = .ok (.bipush 9, 2) := by decide +kernel
theorem dX11_comes_65 : decode cX11_comes 65 = .ok (.iadd, 1) := by decide +kernel
theorem dX11_comes_66 : decode cX11_comes 66 = .ok (.iconst 0, 1) := by decide +kernel
theorem dX11_comes_67 : decode cX11_comes 67 = .ok (.iastore, 1) := by decide +kernel
theorem dX11_comes_68 : decode cX11_comes 68 = .ok (.aload_n 0, 1) := by decide +kernel
theorem dX11_comes_69 : decode cX11_comes 69 = .ok (.getfield 7, 3) := by decide +kernel
theorem dX11_comes_72 : decode cX11_comes 72 = .ok (.iconst 1, 1) := by decide +kernel
theorem dX11_comes_73 : decode cX11_comes 73 = .ok (.dup2, 1) := by decide +kernel
theorem dX11_comes_74 : decode cX11_comes 74 = .ok (.iaload, 1) := by decide +kernel
theorem dX11_comes_75 : decode cX11_comes 75 = .ok (.iconst 1, 1) := by decide +kernel
theorem dX11_comes_76 : decode cX11_comes 76 = .ok (.iadd, 1) := by decide +kernel
theorem dX11_comes_77 : decode cX11_comes 77 = .ok (.iastore, 1) := by decide +kernel
theorem dX11_comes_78 : decode cX11_comes 78 = .ok (.return_, 1) := by decide +kernel
theorem dX11_book_0 : decode cX11_book 0 = .ok (.aload_n 0, 1) := by decide +kernel
theorem dX11_book_1 : decode cX11_book 1 = .ok (.invokevirtual 173, 3) := by decide +kernel
theorem dX11_book_4 : decode cX11_book 4 = .ok (.aload_n 0, 1) := by decide +kernel
theorem dX11_book_5 : decode cX11_book 5 = .ok (.iconst 1, 1) := by decide +kernel
theorem dX11_book_6 : decode cX11_book 6 = .ok (.invokevirtual 176, 3) := by decide +kernel
theorem dX11_book_9 : decode cX11_book 9 = .ok (.iconst 0, 1) := by decide +kernel
theorem dX11_book_10 : decode cX11_book 10 = .ok (.istore_n 1, 1) := by decide +kernel
theorem dX11_book_11 : decode cX11_book 11 = .ok (.iconst 0, 1) := by decide +kernel
theorem dX11_book_12 : decode cX11_book 12 = .ok (.istore_n 2, 1) := by decide +kernel
theorem dX11_book_13 : decode cX11_book 13 = .ok (.iload_n 2, 1) := by decide +kernel
theorem dX11_book_14 : decode cX11_book 14 = .ok (.aload_n 0, 1) := by decide +kernel
theorem dX11_book_15 : decode cX11_book 15 = .ok (.getfield 116, 3) := by decide +kernel
theorem dX11_book_18 : decode cX11_book 18 = .ok (.if_icmp .ge 114, 3) := by decide +kernel
theorem dX11_book_21 : decode cX11_book 21 = .ok (.aload_n 0, 1) := by decide +kernel
theorem dX11_book_22 : decode cX11_book 22 = .ok (.getfield 22, 3) := by decide +kernel
theorem dX11_book_25 : decode cX11_book 25 = .ok (.iconst (-1), 1) := by decide +kernel
theorem dX11_book_26 : decode cX11_book 26 = .ok (.if_icmp .ne 106, 3) := by decide +kernel
theorem dX11_book_29 : decode cX11_book 29 = .ok (.aload_n 0, 1) := by decide +kernel
theorem dX11_book_30 : decode cX11_book 30 = .ok (.aload_n 0, 1) := by decide +kernel
theorem dX11_book_31 : decode cX11_book 31 = .ok (.getfield 26, 3) := by decide +kernel
theorem dX11_book_34 : decode cX11_book 34 = .ok (.bipush 10, 2) := by decide +kernel
theorem dX11_book_36 : decode cX11_book 36 = .ok (.iload_n 2, 1) := by decide +kernel
theorem dX11_book_37 : decode cX11_book 37 = .ok (.imul, 1) := by decide +kernel
theorem dX11_book_38 : decode cX11_book 38 = .ok (.iconst (-1), 1) := by decide +kernel
theorem dX11_book_39 : decode cX11_book 39 = .ok (.invokevirtual 180, 3) := by decide +kernel
theorem dX11_book_42 : decode cX11_book 42 = .ok (.istore_n 3, 1) := by decide +kernel
theorem dX11_book_43 : decode cX11_book 43 = .ok (.iload_n 3, 1) := by decide +kernel
theorem dX11_book_44 : decode cX11_book 44 = .ok (.iconst (-1), 1) := by decide +kernel
theorem dX11_book_45 : decode cX11_book 45 = .ok (.if_icmp .eq 34, 3) := by decide +kernel
theorem dX11_book_48 : decode cX11_book 48 = .ok (.aload_n 0, 1) := by decide +kernel
theorem dX11_book_49 : decode cX11_book 49 = .ok (.getfield 7, 3) := by decide +kernel
theorem dX11_book_52 : decode cX11_book 52 = .ok (.sipush 369, 3) := by decide +kernel
theorem dX11_book_55 : decode cX11_book 55 = .ok (.bipush 10, 2) := by decide +kernel
theorem dX11_book_57 : decode cX11_book 57 = .ok (.iload_n 3, 1) := by decide +kernel
theorem dX11_book_58 : decode cX11_book 58 = .ok (.imul, 1) := by decide +kernel
theorem dX11_book_59 : decode cX11_book 59 = .ok (.iadd, 1) := by decide +kernel
theorem dX11_book_60 : decode cX11_book 60 = .ok (.bipush 8, 2) := by decide +kernel
theorem dX11_book_62 : decode cX11_book 62 = .ok (.iadd, 1) := by decide +kernel
theorem dX11_book_63 : decode cX11_book 63 = .ok (.aload_n 0, 1) := by decide +kernel
theorem dX11_book_64 : decode cX11_book 64 = .ok (.getfield 26, 3) := by decide +kernel
theorem dX11_book_67 : decode cX11_book 67 = .ok (.bipush 10, 2) := by decide +kernel
theorem dX11_book_69 : decode cX11_book 69 = .ok (.iload_n 2, 1) := by decide +kernel
theorem dX11_book_70 : decode cX11_book 70 = .ok (.imul, 1) := by decide +kernel
theorem dX11_book_71 : decode cX11_book 71 = .ok (.bipush 8, 2) := by decide +kernel
theorem dX11_book_73 : decode cX11_book 73 = .ok (.iadd, 1) := by decide +kernel
theorem dX11_book_74 : decode cX11_book 74 = .ok (.iaload, 1) := by decide +kernel
theorem dX11_book_75 : decode cX11_book 75 = .ok (.iastore, 1) := by decide +kernel
theorem dX11_book_76 : decode cX11_book 76 = .ok (.goto 50, 3) := by decide +kernel
theorem dX11_book_79 : decode cX11_book 79 = .ok (.aload_n 0, 1) := by decide +kernel
theorem dX11_book_80 : decode cX11_book 80 = .ok (.getfield 7, 3) := by decide +kernel
theorem dX11_book_83 : decode cX11_book 83 = .ok (.iconst 1, 1) := by decide +kernel
theorem dX11_book_84 : decode cX11_book 84 = .ok (.iaload, 1) := by decide +kernel
theorem dX11_book_85 : decode cX11_book 85 = .ok (.bipush 30, 2) := by decide +kernel
theorem dX11_book_87 : decode cX11_book 87 = .ok (.if_icmp .ne 16, 3) := by decide +kernel
theorem dX11_book_90 : decode cX11_book 90 = .ok (.aload_n 0, 1) := by decide +kernel
theorem dX11_book_91 : decode cX11_book 91 = .ok (.aload_n 0, 1) := by decide +kernel
theorem dX11_book_92 : decode cX11_book 92 = .ok (.getfield 29, 3) := by decide +kernel
theorem dX11_book_95 : decode cX11_book 95 = .ok (.iload_n 2, 1) := by decide +kernel
theorem dX11_book_96 : decode cX11_book 96 = .ok (.iaload, 1) := by decide +kernel
theorem dX11_book_97 : decode cX11_book 97 = .ok (.invokevirtual 137, 3) := by decide +kernel
theorem dX11_book_100 : decode cX11_book 100 = .ok (.goto 26, 3) := by decide +kernel
theorem dX11_book_103 : decode cX11_book 103 = .ok (.aload_n 0, 1) := by decide +kernel
theorem dX11_book_104 : decode cX11_book 104 = .ok (.bipush 10, 2) := by decide +kernel
theorem dX11_book_106 : decode cX11_book 106 = .ok (.iload_n 2, 1) := by decide +kernel
theorem dX11_book_107 : decode cX11_book 107 = .ok (.imul, 1) := by decide +kernel
theorem dX11_book_108 : decode cX11_book 108 = .ok (.aload_n 0, 1) := by decide +kernel
theorem dX11_book_109 : decode cX11_book 109 = .ok (.getfield 26, 3) := by decide +kernel
theorem dX11_book_112 : decode cX11_book 112 = .ok (.bipush 10, 2) := by decide +kernel
theorem dX11_book_114 : decode cX11_book 114 = .ok (.iload_n 2, 1) := by decide +kernel
theorem dX11_book_115 : decode cX11_book 115 = .ok (.imul, 1) := by decide +kernel
theorem dX11_book_116 : decode cX11_book 116 = .ok (.bipush 8, 2) := by decide +kernel
theorem dX11_book_118 : decode cX11_book 118 = .ok (.iadd, 1) := by decide +kernel
theorem dX11_book_119 : decode cX11_book 119 = .ok (.iaload, 1) := by decide +kernel
theorem dX11_book_120 : decode cX11_book 120 = .ok (.invokevirtual 184, 3) := by decide +kernel
theorem dX11_book_123 : decode cX11_book 123 = .ok (.iinc 1 1, 3) := by decide +kernel
theorem dX11_book_126 : decode cX11_book 126 = .ok (.iinc 2 1, 3) := by decide +kernel
theorem dX11_book_129 : decode cX11_book 129 = .ok (.goto (-116), 3) := by decide +kernel
theorem dX11_book_132 : decode cX11_book 132 = .ok (.aload_n 0, 1) := by decide +kernel
theorem dX11_book_133 : decode cX11_book 133 = .ok (.invokevirtual 188, 3) := by decide +kernel
theorem dX11_book_136 : decode cX11_book 136 = .ok (.ifCond .eq 7, 3) := by decide +kernel
theorem dX11_book_139 : decode cX11_book 139 = .ok (.iload_n 1, 1) := by decide +kernel
theorem dX11_book_140 : decode cX11_book 140 = .ok (.goto 4, 3) := by decide +kernel
theorem dX11_book_143 : decode cX11_book 143 = .ok (.iconst 0, 1) := by decide +kernel
theorem dX11_book_144 : decode cX11_book 144 = .ok (.ireturn, 1) := by decide +kernel
theorem dX11_pairOf_0 : decode cX11_pairOf 0 = .ok (.iconst 0, 1) := by decide +kernel
theorem dX11_pairOf_1 : decode cX11_pairOf 1 = .ok (.istore_n 3, 1) := by decide +kernel
theorem dX11_pairOf_2 : decode cX11_pairOf 2 = .ok (.iload_n 3, 1) := by decide +kernel
theorem dX11_pairOf_3 : decode cX11_pairOf 3 = .ok (.aload_n 0, 1) := by decide +kernel
theorem dX11_pairOf_4 : decode cX11_pairOf 4 = .ok (.getfield 7, 3) := by decide +kernel
theorem dX11_pairOf_7 : decode cX11_pairOf 7 = .ok (.iconst 2, 1) := by decide +kernel
theorem dX11_pairOf_8 : decode cX11_pairOf 8 = .ok (.iaload, 1) := by decide +kernel
theorem dX11_pairOf_9 : decode cX11_pairOf 9 = .ok (.if_icmp .ge 45, 3) := by decide +kernel
theorem dX11_pairOf_12 : decode cX11_pairOf 12 = .ok (.aload_n 0, 1) := by decide +kernel
theorem dX11_pairOf_13 : decode cX11_pairOf 13 = .ok (.getfield 7, 3) := by decide +kernel
theorem dX11_pairOf_16 : decode cX11_pairOf 16 = .ok (.sipush 669, 3) := by decide +kernel
theorem dX11_pairOf_19 : decode cX11_pairOf 19 = .ok (.iconst 3, 1) := by decide +kernel
theorem dX11_pairOf_20 : decode cX11_pairOf 20 = .ok (.iload_n 3, 1) := by decide +kernel
theorem dX11_pairOf_21 : decode cX11_pairOf 21 = .ok (.imul, 1) := by decide +kernel
theorem dX11_pairOf_22 : decode cX11_pairOf 22 = .ok (.iadd, 1) := by decide +kernel
theorem dX11_pairOf_23 : decode cX11_pairOf 23 = .ok (.iaload, 1) := by decide +kernel
theorem dX11_pairOf_24 : decode cX11_pairOf 24 = .ok (.iload_n 1, 1) := by decide +kernel
theorem dX11_pairOf_25 : decode cX11_pairOf 25 = .ok (.if_icmp .ne 23, 3) := by decide +kernel
theorem dX11_pairOf_28 : decode cX11_pairOf 28 = .ok (.aload_n 0, 1) := by decide +kernel
theorem dX11_pairOf_29 : decode cX11_pairOf 29 = .ok (.getfield 7, 3) := by decide +kernel
theorem dX11_pairOf_32 : decode cX11_pairOf 32 = .ok (.sipush 669, 3) := by decide +kernel
theorem dX11_pairOf_35 : decode cX11_pairOf 35 = .ok (.iconst 3, 1) := by decide +kernel
theorem dX11_pairOf_36 : decode cX11_pairOf 36 = .ok (.iload_n 3, 1) := by decide +kernel
theorem dX11_pairOf_37 : decode cX11_pairOf 37 = .ok (.imul, 1) := by decide +kernel
theorem dX11_pairOf_38 : decode cX11_pairOf 38 = .ok (.iadd, 1) := by decide +kernel
theorem dX11_pairOf_39 : decode cX11_pairOf 39 = .ok (.iconst 1, 1) := by decide +kernel
theorem dX11_pairOf_40 : decode cX11_pairOf 40 = .ok (.iadd, 1) := by decide +kernel
theorem dX11_pairOf_41 : decode cX11_pairOf 41 = .ok (.iaload, 1) := by decide +kernel
theorem dX11_pairOf_42 : decode cX11_pairOf 42 = .ok (.iload_n 2, 1) := by decide +kernel
theorem dX11_pairOf_43 : decode cX11_pairOf 43 = .ok (.if_icmp .ne 5, 3) := by decide +kernel
theorem dX11_pairOf_46 : decode cX11_pairOf 46 = .ok (.iload_n 3, 1) := by decide +kernel
theorem dX11_pairOf_47 : decode cX11_pairOf 47 = .ok (.ireturn, 1) := by decide +kernel
theorem dX11_pairOf_48 : decode cX11_pairOf 48 = .ok (.iinc 3 1, 3) := by decide +kernel
theorem dX11_pairOf_51 : decode cX11_pairOf 51 = .ok (.goto (-49), 3) := by decide +kernel
theorem dX11_pairOf_54 : decode cX11_pairOf 54 = .ok (.iconst (-1), 1) := by decide +kernel
theorem dX11_pairOf_55 : decode cX11_pairOf 55 = .ok (.ireturn, 1) := by decide +kernel
theorem dX11_fluency_0 : decode cX11_fluency 0 = .ok (.aload_n 0, 1) := by decide +kernel
theorem dX11_fluency_1 : decode cX11_fluency 1 = .ok (.invokevirtual 173, 3) := by decide +kernel
theorem dX11_fluency_4 : decode cX11_fluency 4 = .ok (.aload_n 0, 1) := by decide +kernel
theorem dX11_fluency_5 : decode cX11_fluency 5 = .ok (.iconst 0, 1) := by decide +kernel
theorem dX11_fluency_6 : decode cX11_fluency 6 = .ok (.invokevirtual 176, 3) := by decide +kernel
theorem dX11_fluency_9 : decode cX11_fluency 9 = .ok (.iconst 0, 1) := by decide +kernel
theorem dX11_fluency_10 : decode cX11_fluency 10 = .ok (.istore_n 1, 1) := by decide +kernel
theorem dX11_fluency_11 : decode cX11_fluency 11 = .ok (.iload_n 1, 1) := by decide +kernel
theorem dX11_fluency_12 : decode cX11_fluency 12 = .ok (.aload_n 0, 1) := by decide +kernel
theorem dX11_fluency_13 : decode cX11_fluency 13 = .ok (.getfield 116, 3) := by decide +kernel
theorem dX11_fluency_16 : decode cX11_fluency 16 = .ok (.if_icmp .ge 148, 3) := by decide +kernel
theorem dX11_fluency_19 : decode cX11_fluency 19 = .ok (.aload_n 0, 1) := by decide +kernel
theorem dX11_fluency_20 : decode cX11_fluency 20 = .ok (.getfield 22, 3) := by decide +kernel
theorem dX11_fluency_23 : decode cX11_fluency 23 = .ok (.iconst (-1), 1) := by decide +kernel
theorem dX11_fluency_24 : decode cX11_fluency 24 = .ok (.if_icmp .ne 140, 3) := by decide +kernel
theorem dX11_fluency_27 : decode cX11_fluency 27 = .ok (.aload_n 0, 1) := by decide +kernel
theorem dX11_fluency_28 : decode cX11_fluency 28 = .ok (.aload_n 0, 1) := by decide +kernel
theorem dX11_fluency_29 : decode cX11_fluency 29 = .ok (.getfield 26, 3) := by decide +kernel
theorem dX11_fluency_32 : decode cX11_fluency 32 = .ok (.bipush 10, 2) := by decide +kernel
theorem dX11_fluency_34 : decode cX11_fluency 34 = .ok (.iload_n 1, 1) := by decide +kernel
theorem dX11_fluency_35 : decode cX11_fluency 35 = .ok (.imul, 1) := by decide +kernel
theorem dX11_fluency_36 : decode cX11_fluency 36 = .ok (.iaload, 1) := by decide +kernel
theorem dX11_fluency_37 : decode cX11_fluency 37 = .ok (.aload_n 0, 1) := by decide +kernel
theorem dX11_fluency_38 : decode cX11_fluency 38 = .ok (.getfield 26, 3) := by decide +kernel
theorem dX11_fluency_41 : decode cX11_fluency 41 = .ok (.bipush 10, 2) := by decide +kernel
theorem dX11_fluency_43 : decode cX11_fluency 43 = .ok (.iload_n 1, 1) := by decide +kernel
theorem dX11_fluency_44 : decode cX11_fluency 44 = .ok (.imul, 1) := by decide +kernel
theorem dX11_fluency_45 : decode cX11_fluency 45 = .ok (.iconst 1, 1) := by decide +kernel
theorem dX11_fluency_46 : decode cX11_fluency 46 = .ok (.iadd, 1) := by decide +kernel
theorem dX11_fluency_47 : decode cX11_fluency 47 = .ok (.iaload, 1) := by decide +kernel
theorem dX11_fluency_48 : decode cX11_fluency 48 = .ok (.invokevirtual 191, 3) := by decide +kernel
theorem dX11_fluency_51 : decode cX11_fluency 51 = .ok (.istore_n 2, 1) := by decide +kernel
theorem dX11_fluency_52 : decode cX11_fluency 52 = .ok (.iload_n 2, 1) := by decide +kernel
theorem dX11_fluency_53 : decode cX11_fluency 53 = .ok (.iconst (-1), 1) := by decide +kernel
theorem dX11_fluency_54 : decode cX11_fluency 54 = .ok (.if_icmp .ne 27, 3) := by decide +kernel
theorem dX11_fluency_57 : decode cX11_fluency 57 = .ok (.aload_n 0, 1) := by decide +kernel
theorem dX11_fluency_58 : decode cX11_fluency 58 = .ok (.getfield 7, 3) := by decide +kernel
theorem dX11_fluency_61 : decode cX11_fluency 61 = .ok (.iconst 2, 1) := by decide +kernel
theorem dX11_fluency_62 : decode cX11_fluency 62 = .ok (.iaload, 1) := by decide +kernel
theorem dX11_fluency_63 : decode cX11_fluency 63 = .ok (.bipush 60, 2) := by decide +kernel
theorem dX11_fluency_65 : decode cX11_fluency 65 = .ok (.if_icmp .ne 16, 3) := by decide +kernel
theorem dX11_fluency_68 : decode cX11_fluency 68 = .ok (.aload_n 0, 1) := by decide +kernel
theorem dX11_fluency_69 : decode cX11_fluency 69 = .ok (.aload_n 0, 1) := by decide +kernel
theorem dX11_fluency_70 : decode cX11_fluency 70 = .ok (.getfield 29, 3) := by decide +kernel
theorem dX11_fluency_73 : decode cX11_fluency 73 = .ok (.iload_n 1, 1) := by decide +kernel
theorem dX11_fluency_74 : decode cX11_fluency 74 = .ok (.iaload, 1) := by decide +kernel
theorem dX11_fluency_75 : decode cX11_fluency 75 = .ok (.invokevirtual 137, 3) := by decide +kernel
theorem dX11_fluency_78 : decode cX11_fluency 78 = .ok (.goto 80, 3) := by decide +kernel
theorem dX11_fluency_81 : decode cX11_fluency 81 = .ok (.sipush 669, 3) := by decide +kernel
theorem dX11_fluency_84 : decode cX11_fluency 84 = .ok (.iconst 3, 1) := by decide +kernel
theorem dX11_fluency_85 : decode cX11_fluency 85 = .ok (.iload_n 2, 1) := by decide +kernel
theorem dX11_fluency_86 : decode cX11_fluency 86 = .ok (.iconst (-1), 1) := by decide +kernel
theorem dX11_fluency_87 : decode cX11_fluency 87 = .ok (.if_icmp .ne 12, 3) := by decide +kernel
theorem dX11_fluency_90 : decode cX11_fluency 90 = .ok (.aload_n 0, 1) := by decide +kernel
theorem dX11_fluency_91 : decode cX11_fluency 91 = .ok (.getfield 7, 3) := by decide +kernel
theorem dX11_fluency_94 : decode cX11_fluency 94 = .ok (.iconst 2, 1) := by decide +kernel
theorem dX11_fluency_95 : decode cX11_fluency 95 = .ok (.iaload, 1) := by decide +kernel
theorem dX11_fluency_96 : decode cX11_fluency 96 = .ok (.goto 4, 3) := by decide +kernel
theorem dX11_fluency_99 : decode cX11_fluency 99 = .ok (.iload_n 2, 1) := by decide +kernel
theorem dX11_fluency_100 : decode cX11_fluency 100 = .ok (.imul, 1) := by decide +kernel
theorem dX11_fluency_101 : decode cX11_fluency 101 = .ok (.iadd, 1) := by decide +kernel
theorem dX11_fluency_102 : decode cX11_fluency 102 = .ok (.istore_n 3, 1) := by decide +kernel
theorem dX11_fluency_103 : decode cX11_fluency 103 = .ok (.iconst 0, 1) := by decide +kernel
theorem dX11_fluency_104 : decode cX11_fluency 104 = .ok (.istore 4, 2) := by decide +kernel
theorem dX11_fluency_106 : decode cX11_fluency 106 = .ok (.iload 4, 2) := by decide +kernel
theorem dX11_fluency_108 : decode cX11_fluency 108 = .ok (.iconst 3, 1) := by decide +kernel
theorem dX11_fluency_109 : decode cX11_fluency 109 = .ok (.if_icmp .ge 30, 3) := by decide +kernel
theorem dX11_fluency_112 : decode cX11_fluency 112 = .ok (.aload_n 0, 1) := by decide +kernel
theorem dX11_fluency_113 : decode cX11_fluency 113 = .ok (.getfield 7, 3) := by decide +kernel
theorem dX11_fluency_116 : decode cX11_fluency 116 = .ok (.iload_n 3, 1) := by decide +kernel
theorem dX11_fluency_117 : decode cX11_fluency 117 = .ok (.iload 4, 2) := by decide +kernel
theorem dX11_fluency_119 : decode cX11_fluency 119 = .ok (.iadd, 1) := by decide +kernel
theorem dX11_fluency_120 : decode cX11_fluency 120 = .ok (.aload_n 0, 1) := by decide +kernel
theorem dX11_fluency_121 : decode cX11_fluency 121 = .ok (.getfield 26, 3) := by decide +kernel
theorem dX11_fluency_124 : decode cX11_fluency 124 = .ok (.bipush 10, 2) := by decide +kernel
theorem dX11_fluency_126 : decode cX11_fluency 126 = .ok (.iload_n 1, 1) := by decide +kernel
theorem dX11_fluency_127 : decode cX11_fluency 127 = .ok (.imul, 1) := by decide +kernel
theorem dX11_fluency_128 : decode cX11_fluency 128 = .ok (.iload 4, 2) := by decide +kernel
theorem dX11_fluency_130 : decode cX11_fluency 130 = .ok (.iadd, 1) := by decide +kernel
theorem dX11_fluency_131 : decode cX11_fluency 131 = .ok (.iaload, 1) := by decide +kernel
theorem dX11_fluency_132 : decode cX11_fluency 132 = .ok (.iastore, 1) := by decide +kernel
theorem dX11_fluency_133 : decode cX11_fluency 133 = .ok (.iinc 4 1, 3) := by decide +kernel
theorem dX11_fluency_136 : decode cX11_fluency 136 = .ok (.goto (-30), 3) := by decide +kernel
theorem dX11_fluency_139 : decode cX11_fluency 139 = .ok (.aload_n 0, 1) := by decide +kernel
theorem dX11_fluency_140 : decode cX11_fluency 140 = .ok (.getfield 7, 3) := by decide +kernel
theorem dX11_fluency_143 : decode cX11_fluency 143 = .ok (.iconst 2, 1) := by decide +kernel
theorem dX11_fluency_144 : decode cX11_fluency 144 = .ok (.dup2, 1) := by decide +kernel
theorem dX11_fluency_145 : decode cX11_fluency 145 = .ok (.iaload, 1) := by decide +kernel
theorem dX11_fluency_146 : decode cX11_fluency 146 = .ok (.iload_n 2, 1) := by decide +kernel
theorem dX11_fluency_147 : decode cX11_fluency 147 = .ok (.iconst (-1), 1) := by decide +kernel
theorem dX11_fluency_148 : decode cX11_fluency 148 = .ok (.if_icmp .ne 7, 3) := by decide +kernel
theorem dX11_fluency_151 : decode cX11_fluency 151 = .ok (.iconst 1, 1) := by decide +kernel
theorem dX11_fluency_152 : decode cX11_fluency 152 = .ok (.goto 4, 3) := by decide +kernel
theorem dX11_fluency_155 : decode cX11_fluency 155 = .ok (.iconst 0, 1) := by decide +kernel
theorem dX11_fluency_156 : decode cX11_fluency 156 = .ok (.iadd, 1) := by decide +kernel
theorem dX11_fluency_157 : decode cX11_fluency 157 = .ok (.iastore, 1) := by decide +kernel
theorem dX11_fluency_158 : decode cX11_fluency 158 = .ok (.iinc 1 1, 3) := by decide +kernel
theorem dX11_fluency_161 : decode cX11_fluency 161 = .ok (.goto (-150), 3) := by decide +kernel
theorem dX11_fluency_164 : decode cX11_fluency 164 = .ok (.aload_n 0, 1) := by decide +kernel
theorem dX11_fluency_165 : decode cX11_fluency 165 = .ok (.invokevirtual 188, 3) := by decide +kernel
theorem dX11_fluency_168 : decode cX11_fluency 168 = .ok (.ifCond .eq 12, 3) := by decide +kernel
theorem dX11_fluency_171 : decode cX11_fluency 171 = .ok (.aload_n 0, 1) := by decide +kernel
theorem dX11_fluency_172 : decode cX11_fluency 172 = .ok (.getfield 7, 3) := by decide +kernel
theorem dX11_fluency_175 : decode cX11_fluency 175 = .ok (.iconst 2, 1) := by decide +kernel
theorem dX11_fluency_176 : decode cX11_fluency 176 = .ok (.iaload, 1) := by decide +kernel
theorem dX11_fluency_177 : decode cX11_fluency 177 = .ok (.goto 4, 3) := by decide +kernel
theorem dX11_fluency_180 : decode cX11_fluency 180 = .ok (.iconst 0, 1) := by decide +kernel
theorem dX11_fluency_181 : decode cX11_fluency 181 = .ok (.ireturn, 1) := by decide +kernel
theorem dX11_sentence_0 : decode cX11_sentence 0 = .ok (.aload_n 0, 1) := by decide +kernel
theorem dX11_sentence_1 : decode cX11_sentence 1 = .ok (.invokevirtual 173, 3) := by decide +kernel
theorem dX11_sentence_4 : decode cX11_sentence 4 = .ok (.aload_n 0, 1) := by decide +kernel
theorem dX11_sentence_5 : decode cX11_sentence 5 = .ok (.aload_n 0, 1) := by decide +kernel
theorem dX11_sentence_6 : decode cX11_sentence 6 = .ok (.getfield 32, 3) := by decide +kernel
theorem dX11_sentence_9 : decode cX11_sentence 9 = .ok (.iconst 0, 1) := by decide +kernel
theorem dX11_sentence_10 : decode cX11_sentence 10 = .ok (.bipush 6, 2) := by decide +kernel
theorem dX11_sentence_12 : decode cX11_sentence 12 = .ok (.iconst 1, 1) := by decide +kernel
theorem dX11_sentence_13 : decode cX11_sentence 13 = .ok (.invokevirtual 152, 3) := by decide +kernel
theorem dX11_sentence_16 : decode cX11_sentence 16 = .ok (.istore_n 1, 1) := by decide +kernel
theorem dX11_sentence_17 : decode cX11_sentence 17 = .ok (.aload_n 0, 1) := by decide +kernel
theorem dX11_sentence_18 : decode cX11_sentence 18 = .ok (.getfield 22, 3) := by decide +kernel
theorem dX11_sentence_21 : decode cX11_sentence 21 = .ok (.iconst (-1), 1) := by decide +kernel
theorem dX11_sentence_22 : decode cX11_sentence 22 = .ok (.if_icmp .ne 22, 3) := by decide +kernel
theorem dX11_sentence_25 : decode cX11_sentence 25 = .ok (.aload_n 0, 1) := by decide +kernel
theorem dX11_sentence_26 : decode cX11_sentence 26 = .ok (.invokevirtual 129, 3) := by decide +kernel
theorem dX11_sentence_29 : decode cX11_sentence 29 = .ok (.aload_n 0, 1) := by decide +kernel
theorem dX11_sentence_30 : decode cX11_sentence 30 = .ok (.getfield 110, 3) := by decide +kernel
theorem dX11_sentence_33 : decode cX11_sentence 33 = .ok (.if_icmp .ge 11, 3) := by decide +kernel
theorem dX11_sentence_36 : decode cX11_sentence 36 = .ok (.aload_n 0, 1) := by decide +kernel
theorem dX11_sentence_37 : decode cX11_sentence 37 = .ok (.aload_n 0, 1) := by decide +kernel
theorem dX11_sentence_38 : decode cX11_sentence 38 = .ok (.getfield 113, 3) := by decide +kernel
theorem dX11_sentence_41 : decode cX11_sentence 41 = .ok (.invokevirtual 137, 3) := by decide +kernel
theorem dX11_sentence_44 : decode cX11_sentence 44 = .ok (.aload_n 0, 1) := by decide +kernel
theorem dX11_sentence_45 : decode cX11_sentence 45 = .ok (.invokevirtual 188, 3) := by decide +kernel
theorem dX11_sentence_48 : decode cX11_sentence 48 = .ok (.ifCond .ne 5, 3) := by decide +kernel
theorem dX11_sentence_51 : decode cX11_sentence 51 = .ok (.iconst 0, 1) := by decide +kernel
theorem dX11_sentence_52 : decode cX11_sentence 52 = .ok (.ireturn, 1) := by decide +kernel
theorem dX11_sentence_53 : decode cX11_sentence 53 = .ok (.aload_n 0, 1) := by decide +kernel
theorem dX11_sentence_54 : decode cX11_sentence 54 = .ok (.getfield 7, 3) := by decide +kernel
theorem dX11_sentence_57 : decode cX11_sentence 57 = .ok (.iconst 3, 1) := by decide +kernel
theorem dX11_sentence_58 : decode cX11_sentence 58 = .ok (.iload_n 1, 1) := by decide +kernel
theorem dX11_sentence_59 : decode cX11_sentence 59 = .ok (.iastore, 1) := by decide +kernel
theorem dX11_sentence_60 : decode cX11_sentence 60 = .ok (.iconst 0, 1) := by decide +kernel
theorem dX11_sentence_61 : decode cX11_sentence 61 = .ok (.istore_n 2, 1) := by decide +kernel
theorem dX11_sentence_62 : decode cX11_sentence 62 = .ok (.iload_n 2, 1) := by decide +kernel
theorem dX11_sentence_63 : decode cX11_sentence 63 = .ok (.bipush 6, 2) := by decide +kernel
theorem dX11_sentence_65 : decode cX11_sentence 65 = .ok (.if_icmp .ge 34, 3) := by decide +kernel
theorem dX11_sentence_68 : decode cX11_sentence 68 = .ok (.aload_n 0, 1) := by decide +kernel
theorem dX11_sentence_69 : decode cX11_sentence 69 = .ok (.getfield 7, 3) := by decide +kernel
theorem dX11_sentence_72 : decode cX11_sentence 72 = .ok (.sipush 849, 3) := by decide +kernel
theorem dX11_sentence_75 : decode cX11_sentence 75 = .ok (.iload_n 2, 1) := by decide +kernel
theorem dX11_sentence_76 : decode cX11_sentence 76 = .ok (.iadd, 1) := by decide +kernel
theorem dX11_sentence_77 : decode cX11_sentence 77 = .ok (.iload_n 2, 1) := by decide +kernel
theorem dX11_sentence_78 : decode cX11_sentence 78 = .ok (.iload_n 1, 1) := by decide +kernel
theorem dX11_sentence_79 : decode cX11_sentence 79 = .ok (.if_icmp .ge 12, 3) := by decide +kernel
theorem dX11_sentence_82 : decode cX11_sentence 82 = .ok (.aload_n 0, 1) := by decide +kernel
theorem dX11_sentence_83 : decode cX11_sentence 83 = .ok (.getfield 32, 3) := by decide +kernel
theorem dX11_sentence_86 : decode cX11_sentence 86 = .ok (.iload_n 2, 1) := by decide +kernel
theorem dX11_sentence_87 : decode cX11_sentence 87 = .ok (.iaload, 1) := by decide +kernel
theorem dX11_sentence_88 : decode cX11_sentence 88 = .ok (.goto 4, 3) := by decide +kernel
theorem dX11_sentence_91 : decode cX11_sentence 91 = .ok (.iconst 0, 1) := by decide +kernel
theorem dX11_sentence_92 : decode cX11_sentence 92 = .ok (.iastore, 1) := by decide +kernel
theorem dX11_sentence_93 : decode cX11_sentence 93 = .ok (.iinc 2 1, 3) := by decide +kernel
theorem dX11_sentence_96 : decode cX11_sentence 96 = .ok (.goto (-34), 3) := by decide +kernel
theorem dX11_sentence_99 : decode cX11_sentence 99 = .ok (.iload_n 1, 1) := by decide +kernel
theorem dX11_sentence_100 : decode cX11_sentence 100 = .ok (.ireturn, 1) := by decide +kernel
theorem dX11_link_0 : decode cX11_link 0 = .ok (.aload_n 0, 1) := by decide +kernel
theorem dX11_link_1 : decode cX11_link 1 = .ok (.invokevirtual 129, 3) := by decide +kernel
theorem dX11_link_4 : decode cX11_link 4 = .ok (.istore_n 1, 1) := by decide +kernel
theorem dX11_link_5 : decode cX11_link 5 = .ok (.aload_n 0, 1) := by decide +kernel
theorem dX11_link_6 : decode cX11_link 6 = .ok (.getfield 122, 3) := by decide +kernel
theorem dX11_link_9 : decode cX11_link 9 = .ok (.bipush 12, 2) := by decide +kernel
theorem dX11_link_11 : decode cX11_link 11 = .ok (.if_icmp .ne 8, 3) := by decide +kernel
theorem dX11_link_14 : decode cX11_link 14 = .ok (.aload_n 0, 1) := by decide +kernel
theorem dX11_link_15 : decode cX11_link 15 = .ok (.iload_n 1, 1) := by decide +kernel
theorem dX11_link_16 : decode cX11_link 16 = .ok (.invokevirtual 137, 3) := by decide +kernel
theorem dX11_link_19 : decode cX11_link 19 = .ok (.aload_n 0, 1) := by decide +kernel
theorem dX11_link_20 : decode cX11_link 20 = .ok (.aload_n 0, 1) := by decide +kernel
theorem dX11_link_21 : decode cX11_link 21 = .ok (.getfield 194, 3) := by decide +kernel
theorem dX11_link_24 : decode cX11_link 24 = .ok (.iconst 1, 1) := by decide +kernel
theorem dX11_link_25 : decode cX11_link 25 = .ok (.isub, 1) := by decide +kernel
theorem dX11_link_26 : decode cX11_link 26 = .ok (.invokevirtual 159, 3) := by decide +kernel
theorem dX11_link_29 : decode cX11_link 29 = .ok (.istore_n 2, 1) := by decide +kernel
theorem dX11_link_30 : decode cX11_link 30 = .ok (.aload_n 0, 1) := by decide +kernel
theorem dX11_link_31 : decode cX11_link 31 = .ok (.aload_n 0, 1) := by decide +kernel
theorem dX11_link_32 : decode cX11_link 32 = .ok (.getfield 119, 3) := by decide +kernel
theorem dX11_link_35 : decode cX11_link 35 = .ok (.aload_n 0, 1) := by decide +kernel
theorem dX11_link_36 : decode cX11_link 36 = .ok (.getfield 194, 3) := by decide +kernel
theorem dX11_link_39 : decode cX11_link 39 = .ok (.isub, 1) := by decide +kernel
theorem dX11_link_40 : decode cX11_link 40 = .ok (.iconst 1, 1) := by decide +kernel
theorem dX11_link_41 : decode cX11_link 41 = .ok (.isub, 1) := by decide +kernel
theorem dX11_link_42 : decode cX11_link 42 = .ok (.invokevirtual 159, 3) := by decide +kernel
theorem dX11_link_45 : decode cX11_link 45 = .ok (.istore_n 3, 1) := by decide +kernel
theorem dX11_link_46 : decode cX11_link 46 = .ok (.iconst 0, 1) := by decide +kernel
theorem dX11_link_47 : decode cX11_link 47 = .ok (.istore 4, 2) := by decide +kernel
theorem dX11_link_49 : decode cX11_link 49 = .ok (.iload 4, 2) := by decide +kernel
theorem dX11_link_51 : decode cX11_link 51 = .ok (.aload_n 0, 1) := by decide +kernel
theorem dX11_link_52 : decode cX11_link 52 = .ok (.getfield 122, 3) := by decide +kernel
theorem dX11_link_55 : decode cX11_link 55 = .ok (.if_icmp .ge 44, 3) := by decide +kernel
theorem dX11_link_58 : decode cX11_link 58 = .ok (.aload_n 0, 1) := by decide +kernel
theorem dX11_link_59 : decode cX11_link 59 = .ok (.getfield 22, 3) := by decide +kernel
theorem dX11_link_62 : decode cX11_link 62 = .ok (.iconst (-1), 1) := by decide +kernel
theorem dX11_link_63 : decode cX11_link 63 = .ok (.if_icmp .ne 36, 3) := by decide +kernel
theorem dX11_link_66 : decode cX11_link 66 = .ok (.aload_n 0, 1) := by decide +kernel
theorem dX11_link_67 : decode cX11_link 67 = .ok (.getfield 35, 3) := by decide +kernel
theorem dX11_link_70 : decode cX11_link 70 = .ok (.iload 4, 2) := by decide +kernel
theorem dX11_link_72 : decode cX11_link 72 = .ok (.iaload, 1) := by decide +kernel
theorem dX11_link_73 : decode cX11_link 73 = .ok (.iload_n 2, 1) := by decide +kernel
theorem dX11_link_74 : decode cX11_link 74 = .ok (.if_icmp .ne 19, 3) := by decide +kernel
theorem dX11_link_77 : decode cX11_link 77 = .ok (.aload_n 0, 1) := by decide +kernel
theorem dX11_link_78 : decode cX11_link 78 = .ok (.getfield 38, 3) := by decide +kernel
theorem dX11_link_81 : decode cX11_link 81 = .ok (.iload 4, 2) := by decide +kernel
theorem dX11_link_83 : decode cX11_link 83 = .ok (.iaload, 1) := by decide +kernel
theorem dX11_link_84 : decode cX11_link 84 = .ok (.iload_n 3, 1) := by decide +kernel
theorem dX11_link_85 : decode cX11_link 85 = .ok (.if_icmp .ne 8, 3) := by decide +kernel
theorem dX11_link_88 : decode cX11_link 88 = .ok (.aload_n 0, 1) := by decide +kernel
theorem dX11_link_89 : decode cX11_link 89 = .ok (.iload_n 1, 1) := by decide +kernel
theorem dX11_link_90 : decode cX11_link 90 = .ok (.invokevirtual 137, 3) := by decide +kernel
theorem dX11_link_93 : decode cX11_link 93 = .ok (.iinc 4 1, 3) := by decide +kernel
theorem dX11_link_96 : decode cX11_link 96 = .ok (.goto (-47), 3) := by decide +kernel
theorem dX11_link_99 : decode cX11_link 99 = .ok (.aload_n 0, 1) := by decide +kernel
theorem dX11_link_100 : decode cX11_link 100 = .ok (.getfield 22, 3) := by decide +kernel
theorem dX11_link_103 : decode cX11_link 103 = .ok (.iconst (-1), 1) := by decide +kernel
theorem dX11_link_104 : decode cX11_link 104 = .ok (.if_icmp .eq 4, 3) := by decide +kernel
theorem dX11_link_107 : decode cX11_link 107 = .ok (.return_, 1) := by decide +kernel
theorem dX11_link_108 : decode cX11_link 108 = .ok (.aload_n 0, 1) := by decide +kernel
theorem dX11_link_109 : decode cX11_link 109 = .ok (.getfield 35, 3) := by decide +kernel
theorem dX11_link_112 : decode cX11_link 112 = .ok (.aload_n 0, 1) := by decide +kernel
theorem dX11_link_113 : decode cX11_link 113 = .ok (.getfield 122, 3) := by decide +kernel
theorem dX11_link_116 : decode cX11_link 116 = .ok (.iload_n 2, 1) := by decide +kernel
theorem dX11_link_117 : decode cX11_link 117 = .ok (.iastore, 1) := by decide +kernel
theorem dX11_link_118 : decode cX11_link 118 = .ok (.aload_n 0, 1) := by decide +kernel
theorem dX11_link_119 : decode cX11_link 119 = .ok (.getfield 38, 3) := by decide +kernel
theorem dX11_link_122 : decode cX11_link 122 = .ok (.aload_n 0, 1) := by decide +kernel
theorem dX11_link_123 : decode cX11_link 123 = .ok (.getfield 122, 3) := by decide +kernel
theorem dX11_link_126 : decode cX11_link 126 = .ok (.iload_n 3, 1) := by decide +kernel
theorem dX11_link_127 : decode cX11_link 127 = .ok (.iastore, 1) := by decide +kernel
theorem dX11_link_128 : decode cX11_link 128 = .ok (.aload_n 0, 1) := by decide +kernel
theorem dX11_link_129 : decode cX11_link 129 = .ok (.dup, 1) := by decide +kernel
theorem dX11_link_130 : decode cX11_link 130 = .ok (.getfield 122, 3) := by decide +kernel
theorem dX11_link_133 : decode cX11_link 133 = .ok (.iconst 1, 1) := by decide +kernel
theorem dX11_link_134 : decode cX11_link 134 = .ok (.iadd, 1) := by decide +kernel
theorem dX11_link_135 : decode cX11_link 135 = .ok (.putfield 122, 3) := by decide +kernel
theorem dX11_link_138 : decode cX11_link 138 = .ok (.return_, 1) := by decide +kernel
theorem dX11_lesson_0 : decode cX11_lesson 0 = .ok (.aload_n 0, 1) := by decide +kernel
theorem dX11_lesson_1 : decode cX11_lesson 1 = .ok (.aload_n 0, 1) := by decide +kernel
theorem dX11_lesson_2 : decode cX11_lesson 2 = .ok (.aload_n 0, 1) := by decide +kernel
theorem dX11_lesson_3 : decode cX11_lesson 3 = .ok (.getfield 32, 3) := by decide +kernel
theorem dX11_lesson_6 : decode cX11_lesson 6 = .ok (.iconst 0, 1) := by decide +kernel
theorem dX11_lesson_7 : decode cX11_lesson 7 = .ok (.bipush 6, 2) := by decide +kernel
theorem dX11_lesson_9 : decode cX11_lesson 9 = .ok (.iconst 1, 1) := by decide +kernel
theorem dX11_lesson_10 : decode cX11_lesson 10 = .ok (.invokevirtual 152, 3) := by decide +kernel
theorem dX11_lesson_13 : decode cX11_lesson 13 = .ok (.putfield 194, 3) := by decide +kernel
theorem dX11_lesson_16 : decode cX11_lesson 16 = .ok (.aload_n 0, 1) := by decide +kernel
theorem dX11_lesson_17 : decode cX11_lesson 17 = .ok (.getfield 194, 3) := by decide +kernel
theorem dX11_lesson_20 : decode cX11_lesson 20 = .ok (.ifCond .ne 11, 3) := by decide +kernel
theorem dX11_lesson_23 : decode cX11_lesson 23 = .ok (.aload_n 0, 1) := by decide +kernel
theorem dX11_lesson_24 : decode cX11_lesson 24 = .ok (.aload_n 0, 1) := by decide +kernel
theorem dX11_lesson_25 : decode cX11_lesson 25 = .ok (.invokevirtual 129, 3) := by decide +kernel
theorem dX11_lesson_28 : decode cX11_lesson 28 = .ok (.invokevirtual 137, 3) := by decide +kernel
theorem dX11_lesson_31 : decode cX11_lesson 31 = .ok (.aload_n 0, 1) := by decide +kernel
theorem dX11_lesson_32 : decode cX11_lesson 32 = .ok (.bipush 61, 2) := by decide +kernel
theorem dX11_lesson_34 : decode cX11_lesson 34 = .ok (.invokevirtual 156, 3) := by decide +kernel
theorem dX11_lesson_37 : decode cX11_lesson 37 = .ok (.aload_n 0, 1) := by decide +kernel
theorem dX11_lesson_38 : decode cX11_lesson 38 = .ok (.getfield 22, 3) := by decide +kernel
theorem dX11_lesson_41 : decode cX11_lesson 41 = .ok (.iconst (-1), 1) := by decide +kernel
theorem dX11_lesson_42 : decode cX11_lesson 42 = .ok (.if_icmp .eq 4, 3) := by decide +kernel
theorem dX11_lesson_45 : decode cX11_lesson 45 = .ok (.return_, 1) := by decide +kernel
theorem dX11_lesson_46 : decode cX11_lesson 46 = .ok (.aload_n 0, 1) := by decide +kernel
theorem dX11_lesson_47 : decode cX11_lesson 47 = .ok (.aload_n 0, 1) := by decide +kernel
theorem dX11_lesson_48 : decode cX11_lesson 48 = .ok (.getfield 32, 3) := by decide +kernel
theorem dX11_lesson_51 : decode cX11_lesson 51 = .ok (.aload_n 0, 1) := by decide +kernel
theorem dX11_lesson_52 : decode cX11_lesson 52 = .ok (.getfield 194, 3) := by decide +kernel
theorem dX11_lesson_55 : decode cX11_lesson 55 = .ok (.bipush 6, 2) := by decide +kernel
theorem dX11_lesson_57 : decode cX11_lesson 57 = .ok (.iconst 1, 1) := by decide +kernel
theorem dX11_lesson_58 : decode cX11_lesson 58 = .ok (.invokevirtual 152, 3) := by decide +kernel
theorem dX11_lesson_61 : decode cX11_lesson 61 = .ok (.istore_n 1, 1) := by decide +kernel
theorem dX11_lesson_62 : decode cX11_lesson 62 = .ok (.iload_n 1, 1) := by decide +kernel
theorem dX11_lesson_63 : decode cX11_lesson 63 = .ok (.ifCond .ne 11, 3) := by decide +kernel
theorem dX11_lesson_66 : decode cX11_lesson 66 = .ok (.aload_n 0, 1) := by decide +kernel
theorem dX11_lesson_67 : decode cX11_lesson 67 = .ok (.aload_n 0, 1) := by decide +kernel
theorem dX11_lesson_68 : decode cX11_lesson 68 = .ok (.invokevirtual 129, 3) := by decide +kernel
theorem dX11_lesson_71 : decode cX11_lesson 71 = .ok (.invokevirtual 137, 3) := by decide +kernel
theorem dX11_lesson_74 : decode cX11_lesson 74 = .ok (.aload_n 0, 1) := by decide +kernel
theorem dX11_lesson_75 : decode cX11_lesson 75 = .ok (.aload_n 0, 1) := by decide +kernel
theorem dX11_lesson_76 : decode cX11_lesson 76 = .ok (.getfield 194, 3) := by decide +kernel
theorem dX11_lesson_79 : decode cX11_lesson 79 = .ok (.iload_n 1, 1) := by decide +kernel
theorem dX11_lesson_80 : decode cX11_lesson 80 = .ok (.iadd, 1) := by decide +kernel
theorem dX11_lesson_81 : decode cX11_lesson 81 = .ok (.putfield 119, 3) := by decide +kernel
theorem dX11_lesson_84 : decode cX11_lesson 84 = .ok (.aload_n 0, 1) := by decide +kernel
theorem dX11_lesson_85 : decode cX11_lesson 85 = .ok (.bipush 47, 2) := by decide +kernel
theorem dX11_lesson_87 : decode cX11_lesson 87 = .ok (.invokevirtual 156, 3) := by decide +kernel
theorem dX11_lesson_90 : decode cX11_lesson 90 = .ok (.iconst 1, 1) := by decide +kernel
theorem dX11_lesson_91 : decode cX11_lesson 91 = .ok (.istore_n 2, 1) := by decide +kernel
theorem dX11_lesson_92 : decode cX11_lesson 92 = .ok (.iload_n 2, 1) := by decide +kernel
theorem dX11_lesson_93 : decode cX11_lesson 93 = .ok (.ifCond .eq 53, 3) := by decide +kernel
theorem dX11_lesson_96 : decode cX11_lesson 96 = .ok (.aload_n 0, 1) := by decide +kernel
theorem dX11_lesson_97 : decode cX11_lesson 97 = .ok (.getfield 22, 3) := by decide +kernel
theorem dX11_lesson_100 : decode cX11_lesson 100 = .ok (.iconst (-1), 1) := by decide +kernel
theorem dX11_lesson_101 : decode cX11_lesson 101 = .ok (.if_icmp .ne 45, 3) := by decide +kernel
theorem dX11_lesson_104 : decode cX11_lesson 104 = .ok (.aload_n 0, 1) := by decide +kernel
theorem dX11_lesson_105 : decode cX11_lesson 105 = .ok (.invokevirtual 197, 3) := by decide +kernel
theorem dX11_lesson_108 : decode cX11_lesson 108 = .ok (.aload_n 0, 1) := by decide +kernel
theorem dX11_lesson_109 : decode cX11_lesson 109 = .ok (.getfield 22, 3) := by decide +kernel
theorem dX11_lesson_112 : decode cX11_lesson 112 = .ok (.iconst (-1), 1) := by decide +kernel
theorem dX11_lesson_113 : decode cX11_lesson 113 = .ok (.if_icmp .ne 18, 3) := by decide +kernel
theorem dX11_lesson_116 : decode cX11_lesson 116 = .ok (.aload_n 0, 1) := by decide +kernel
theorem dX11_lesson_117 : decode cX11_lesson 117 = .ok (.invokevirtual 129, 3) := by decide +kernel
theorem dX11_lesson_120 : decode cX11_lesson 120 = .ok (.aload_n 0, 1) := by decide +kernel
theorem dX11_lesson_121 : decode cX11_lesson 121 = .ok (.getfield 110, 3) := by decide +kernel
theorem dX11_lesson_124 : decode cX11_lesson 124 = .ok (.if_icmp .ge 7, 3) := by decide +kernel
theorem dX11_lesson_127 : decode cX11_lesson 127 = .ok (.iconst 1, 1) := by decide +kernel
theorem dX11_lesson_128 : decode cX11_lesson 128 = .ok (.goto 4, 3) := by decide +kernel
theorem dX11_lesson_131 : decode cX11_lesson 131 = .ok (.iconst 0, 1) := by decide +kernel
theorem dX11_lesson_132 : decode cX11_lesson 132 = .ok (.istore_n 2, 1) := by decide +kernel
theorem dX11_lesson_133 : decode cX11_lesson 133 = .ok (.iload_n 2, 1) := by decide +kernel
theorem dX11_lesson_134 : decode cX11_lesson 134 = .ok (.ifCond .eq (-42), 3) := by decide +kernel
theorem dX11_lesson_137 : decode cX11_lesson 137 = .ok (.aload_n 0, 1) := by decide +kernel
theorem dX11_lesson_138 : decode cX11_lesson 138 = .ok (.bipush 59, 2) := by decide +kernel
theorem dX11_lesson_140 : decode cX11_lesson 140 = .ok (.invokevirtual 156, 3) := by decide +kernel
theorem dX11_lesson_143 : decode cX11_lesson 143 = .ok (.goto (-51), 3) := by decide +kernel
theorem dX11_lesson_146 : decode cX11_lesson 146 = .ok (.return_, 1) := by decide +kernel
theorem dX11_goTogether_0 : decode cX11_goTogether 0 = .ok (.iconst 0, 1) := by decide +kernel
theorem dX11_goTogether_1 : decode cX11_goTogether 1 = .ok (.istore 5, 2) := by decide +kernel
theorem dX11_goTogether_3 : decode cX11_goTogether 3 = .ok (.iconst 0, 1) := by decide +kernel
theorem dX11_goTogether_4 : decode cX11_goTogether 4 = .ok (.istore 6, 2) := by decide +kernel
theorem dX11_goTogether_6 : decode cX11_goTogether 6 = .ok (.iload 6, 2) := by decide +kernel
theorem dX11_goTogether_8 : decode cX11_goTogether 8 = .ok (.aload_n 0, 1) := by decide +kernel
theorem dX11_goTogether_9 : decode cX11_goTogether 9 = .ok (.getfield 122, 3) := by decide +kernel
theorem dX11_goTogether_12 : decode cX11_goTogether 12 = .ok (.if_icmp .ge 62, 3) := by decide +kernel
theorem dX11_goTogether_15 : decode cX11_goTogether 15 = .ok (.aload_n 0, 1) := by decide +kernel
theorem dX11_goTogether_16 : decode cX11_goTogether 16 = .ok (.getfield 35, 3) := by decide +kernel
theorem dX11_goTogether_19 : decode cX11_goTogether 19 = .ok (.iload 6, 2) := by decide +kernel
theorem dX11_goTogether_21 : decode cX11_goTogether 21 = .ok (.iaload, 1) := by decide +kernel
theorem dX11_goTogether_22 : decode cX11_goTogether 22 = .ok (.iload_n 1, 1) := by decide +kernel
theorem dX11_goTogether_23 : decode cX11_goTogether 23 = .ok (.iload_n 2, 1) := by decide +kernel
theorem dX11_goTogether_24 : decode cX11_goTogether 24 = .ok (.invokestatic 103, 3) := by decide +kernel
theorem dX11_goTogether_27 : decode cX11_goTogether 27 = .ok (.istore 7, 2) := by decide +kernel
theorem dX11_goTogether_29 : decode cX11_goTogether 29 = .ok (.aload_n 0, 1) := by decide +kernel
theorem dX11_goTogether_30 : decode cX11_goTogether 30 = .ok (.getfield 38, 3) := by decide +kernel
theorem dX11_goTogether_33 : decode cX11_goTogether 33 = .ok (.iload 6, 2) := by decide +kernel
theorem dX11_goTogether_35 : decode cX11_goTogether 35 = .ok (.iaload, 1) := by decide +kernel
theorem dX11_goTogether_36 : decode cX11_goTogether 36 = .ok (.iload_n 3, 1) := by decide +kernel
theorem dX11_goTogether_37 : decode cX11_goTogether 37 = .ok (.iload 4, 2) := by decide +kernel
theorem dX11_goTogether_39 : decode cX11_goTogether 39 = .ok (.invokestatic 103, 3) := by decide +kernel
theorem dX11_goTogether_42 : decode cX11_goTogether 42 = .ok (.istore 8, 2) := by decide +kernel
theorem dX11_goTogether_44 : decode cX11_goTogether 44 = .ok (.iload 7, 2) := by decide +kernel
theorem dX11_goTogether_46 : decode cX11_goTogether 46 = .ok (.iload 8, 2) := by decide +kernel
theorem dX11_goTogether_48 : decode cX11_goTogether 48 = .ok (.if_icmp .eq 5, 3) := by decide +kernel
theorem dX11_goTogether_51 : decode cX11_goTogether 51 = .ok (.iconst 0, 1) := by decide +kernel
theorem dX11_goTogether_52 : decode cX11_goTogether 52 = .ok (.ireturn, 1) := by decide +kernel
theorem dX11_goTogether_53 : decode cX11_goTogether 53 = .ok (.iload 5, 2) := by decide +kernel
theorem dX11_goTogether_55 : decode cX11_goTogether 55 = .ok (.iload 7, 2) := by decide +kernel
theorem dX11_goTogether_57 : decode cX11_goTogether 57 = .ok (.ifCond .eq 7, 3) := by decide +kernel
theorem dX11_goTogether_60 : decode cX11_goTogether 60 = .ok (.iconst 1, 1) := by decide +kernel
theorem dX11_goTogether_61 : decode cX11_goTogether 61 = .ok (.goto 4, 3) := by decide +kernel
theorem dX11_goTogether_64 : decode cX11_goTogether 64 = .ok (.iconst 0, 1) := by decide +kernel
theorem dX11_goTogether_65 : decode cX11_goTogether 65 = .ok (.iadd, 1) := by decide +kernel
theorem dX11_goTogether_66 : decode cX11_goTogether 66 = .ok (.istore 5, 2) := by decide +kernel
theorem dX11_goTogether_68 : decode cX11_goTogether 68 = .ok (.iinc 6 1, 3) := by decide +kernel
theorem dX11_goTogether_71 : decode cX11_goTogether 71 = .ok (.goto (-65), 3) := by decide +kernel
theorem dX11_goTogether_74 : decode cX11_goTogether 74 = .ok (.iload 5, 2) := by decide +kernel
theorem dX11_goTogether_76 : decode cX11_goTogether 76 = .ok (.ifCond .le 7, 3) := by decide +kernel
theorem dX11_goTogether_79 : decode cX11_goTogether 79 = .ok (.iconst 1, 1) := by decide +kernel
theorem dX11_goTogether_80 : decode cX11_goTogether 80 = .ok (.goto 4, 3) := by decide +kernel
theorem dX11_goTogether_83 : decode cX11_goTogether 83 = .ok (.iconst 0, 1) := by decide +kernel
theorem dX11_goTogether_84 : decode cX11_goTogether 84 = .ok (.ireturn, 1) := by decide +kernel
theorem dX11_unlinked_0 : decode cX11_unlinked 0 = .ok (.iconst 0, 1) := by decide +kernel
theorem dX11_unlinked_1 : decode cX11_unlinked 1 = .ok (.istore 5, 2) := by decide +kernel
theorem dX11_unlinked_3 : decode cX11_unlinked 3 = .ok (.iload_n 1, 1) := by decide +kernel
theorem dX11_unlinked_4 : decode cX11_unlinked 4 = .ok (.istore 6, 2) := by decide +kernel
theorem dX11_unlinked_6 : decode cX11_unlinked 6 = .ok (.iload 6, 2) := by decide +kernel
theorem dX11_unlinked_8 : decode cX11_unlinked 8 = .ok (.iload_n 2, 1) := by decide +kernel
theorem dX11_unlinked_9 : decode cX11_unlinked 9 = .ok (.if_icmp .gt 69, 3) := by decide +kernel
theorem dX11_unlinked_12 : decode cX11_unlinked 12 = .ok (.iconst 0, 1) := by decide +kernel
theorem dX11_unlinked_13 : decode cX11_unlinked 13 = .ok (.istore 7, 2) := by decide +kernel
theorem dX11_unlinked_15 : decode cX11_unlinked 15 = .ok (.iconst 0, 1) := by decide +kernel
theorem dX11_unlinked_16 : decode cX11_unlinked 16 = .ok (.istore 8, 2) := by decide +kernel
theorem dX11_unlinked_18 : decode cX11_unlinked 18 = .ok (.iload 8, 2) := by decide +kernel
theorem dX11_unlinked_20 : decode cX11_unlinked 20 = .ok (.aload_n 0, 1) := by decide +kernel
theorem dX11_unlinked_21 : decode cX11_unlinked 21 = .ok (.getfield 122, 3) := by decide +kernel
theorem dX11_unlinked_24 : decode cX11_unlinked 24 = .ok (.if_icmp .ge 33, 3) := by decide +kernel
theorem dX11_unlinked_27 : decode cX11_unlinked 27 = .ok (.iload 7, 2) := by decide +kernel
theorem dX11_unlinked_29 : decode cX11_unlinked 29 = .ok (.ifCond .ne 15, 3) := by decide +kernel
theorem dX11_unlinked_32 : decode cX11_unlinked 32 = .ok (.aload_n 0, 1) := by decide +kernel
theorem dX11_unlinked_33 : decode cX11_unlinked 33 = .ok (.getfield 35, 3) := by decide +kernel
theorem dX11_unlinked_36 : decode cX11_unlinked 36 = .ok (.iload 8, 2) := by decide +kernel
theorem dX11_unlinked_38 : decode cX11_unlinked 38 = .ok (.iaload, 1) := by decide +kernel
theorem dX11_unlinked_39 : decode cX11_unlinked 39 = .ok (.iload 6, 2) := by decide +kernel
theorem dX11_unlinked_41 : decode cX11_unlinked 41 = .ok (.if_icmp .ne 7, 3) := by decide +kernel
theorem dX11_unlinked_44 : decode cX11_unlinked 44 = .ok (.iconst 1, 1) := by decide +kernel
theorem dX11_unlinked_45 : decode cX11_unlinked 45 = .ok (.goto 4, 3) := by decide +kernel
theorem dX11_unlinked_48 : decode cX11_unlinked 48 = .ok (.iconst 0, 1) := by decide +kernel
theorem dX11_unlinked_49 : decode cX11_unlinked 49 = .ok (.istore 7, 2) := by decide +kernel
theorem dX11_unlinked_51 : decode cX11_unlinked 51 = .ok (.iinc 8 1, 3) := by decide +kernel
theorem dX11_unlinked_54 : decode cX11_unlinked 54 = .ok (.goto (-36), 3) := by decide +kernel
theorem dX11_unlinked_57 : decode cX11_unlinked 57 = .ok (.iload 5, 2) := by decide +kernel
theorem dX11_unlinked_59 : decode cX11_unlinked 59 = .ok (.iload 7, 2) := by decide +kernel
theorem dX11_unlinked_61 : decode cX11_unlinked 61 = .ok (.ifCond .eq 7, 3) := by decide +kernel
theorem dX11_unlinked_64 : decode cX11_unlinked 64 = .ok (.iconst 0, 1) := by decide +kernel
theorem dX11_unlinked_65 : decode cX11_unlinked 65 = .ok (.goto 4, 3) := by decide +kernel
theorem dX11_unlinked_68 : decode cX11_unlinked 68 = .ok (.iconst 1, 1) := by decide +kernel
theorem dX11_unlinked_69 : decode cX11_unlinked 69 = .ok (.iadd, 1) := by decide +kernel
theorem dX11_unlinked_70 : decode cX11_unlinked 70 = .ok (.istore 5, 2) := by decide +kernel
theorem dX11_unlinked_72 : decode cX11_unlinked 72 = .ok (.iinc 6 1, 3) := by decide +kernel
theorem dX11_unlinked_75 : decode cX11_unlinked 75 = .ok (.goto (-69), 3) := by decide +kernel
theorem dX11_unlinked_78 : decode cX11_unlinked 78 = .ok (.iload_n 3, 1) := by decide +kernel
theorem dX11_unlinked_79 : decode cX11_unlinked 79 = .ok (.istore 6, 2) := by decide +kernel
theorem dX11_unlinked_81 : decode cX11_unlinked 81 = .ok (.iload 6, 2) := by decide +kernel
theorem dX11_unlinked_83 : decode cX11_unlinked 83 = .ok (.iload 4, 2) := by decide +kernel
theorem dX11_unlinked_85 : decode cX11_unlinked 85 = .ok (.if_icmp .gt 69, 3) := by decide +kernel
theorem dX11_unlinked_88 : decode cX11_unlinked 88 = .ok (.iconst 0, 1) := by decide +kernel
theorem dX11_unlinked_89 : decode cX11_unlinked 89 = .ok (.istore 7, 2) := by decide +kernel
theorem dX11_unlinked_91 : decode cX11_unlinked 91 = .ok (.iconst 0, 1) := by decide +kernel
theorem dX11_unlinked_92 : decode cX11_unlinked 92 = .ok (.istore 8, 2) := by decide +kernel
theorem dX11_unlinked_94 : decode cX11_unlinked 94 = .ok (.iload 8, 2) := by decide +kernel
theorem dX11_unlinked_96 : decode cX11_unlinked 96 = .ok (.aload_n 0, 1) := by decide +kernel
theorem dX11_unlinked_97 : decode cX11_unlinked 97 = .ok (.getfield 122, 3) := by decide +kernel
theorem dX11_unlinked_100 : decode cX11_unlinked 100 = .ok (.if_icmp .ge 33, 3) := by decide +kernel
theorem dX11_unlinked_103 : decode cX11_unlinked 103 = .ok (.iload 7, 2) := by decide +kernel
theorem dX11_unlinked_105 : decode cX11_unlinked 105 = .ok (.ifCond .ne 15, 3) := by decide +kernel
theorem dX11_unlinked_108 : decode cX11_unlinked 108 = .ok (.aload_n 0, 1) := by decide +kernel
theorem dX11_unlinked_109 : decode cX11_unlinked 109 = .ok (.getfield 38, 3) := by decide +kernel
theorem dX11_unlinked_112 : decode cX11_unlinked 112 = .ok (.iload 8, 2) := by decide +kernel
theorem dX11_unlinked_114 : decode cX11_unlinked 114 = .ok (.iaload, 1) := by decide +kernel
theorem dX11_unlinked_115 : decode cX11_unlinked 115 = .ok (.iload 6, 2) := by decide +kernel
theorem dX11_unlinked_117 : decode cX11_unlinked 117 = .ok (.if_icmp .ne 7, 3) := by decide +kernel
theorem dX11_unlinked_120 : decode cX11_unlinked 120 = .ok (.iconst 1, 1) := by decide +kernel
theorem dX11_unlinked_121 : decode cX11_unlinked 121 = .ok (.goto 4, 3) := by decide +kernel
theorem dX11_unlinked_124 : decode cX11_unlinked 124 = .ok (.iconst 0, 1) := by decide +kernel
theorem dX11_unlinked_125 : decode cX11_unlinked 125 = .ok (.istore 7, 2) := by decide +kernel
theorem dX11_unlinked_127 : decode cX11_unlinked 127 = .ok (.iinc 8 1, 3) := by decide +kernel
theorem dX11_unlinked_130 : decode cX11_unlinked 130 = .ok (.goto (-36), 3) := by decide +kernel
theorem dX11_unlinked_133 : decode cX11_unlinked 133 = .ok (.iload 5, 2) := by decide +kernel
theorem dX11_unlinked_135 : decode cX11_unlinked 135 = .ok (.iload 7, 2) := by decide +kernel
theorem dX11_unlinked_137 : decode cX11_unlinked 137 = .ok (.ifCond .eq 7, 3) := by decide +kernel
theorem dX11_unlinked_140 : decode cX11_unlinked 140 = .ok (.iconst 0, 1) := by decide +kernel
theorem dX11_unlinked_141 : decode cX11_unlinked 141 = .ok (.goto 4, 3) := by decide +kernel
theorem dX11_unlinked_144 : decode cX11_unlinked 144 = .ok (.iconst 1, 1) := by decide +kernel
theorem dX11_unlinked_145 : decode cX11_unlinked 145 = .ok (.iadd, 1) := by decide +kernel
theorem dX11_unlinked_146 : decode cX11_unlinked 146 = .ok (.istore 5, 2) := by decide +kernel
theorem dX11_unlinked_148 : decode cX11_unlinked 148 = .ok (.iinc 6 1, 3) := by decide +kernel
theorem dX11_unlinked_151 : decode cX11_unlinked 151 = .ok (.goto (-70), 3) := by decide +kernel
theorem dX11_unlinked_154 : decode cX11_unlinked 154 = .ok (.iload 5, 2) := by decide +kernel
theorem dX11_unlinked_156 : decode cX11_unlinked 156 = .ok (.ireturn, 1) := by decide +kernel
theorem dX11_learns_0 : decode cX11_learns 0 = .ok (.aload_n 0, 1) := by decide +kernel
theorem dX11_learns_1 : decode cX11_learns 1 = .ok (.getfield 26, 3) := by decide +kernel
theorem dX11_learns_4 : decode cX11_learns 4 = .ok (.iconst 0, 1) := by decide +kernel
theorem dX11_learns_5 : decode cX11_learns 5 = .ok (.iload_n 2, 1) := by decide +kernel
theorem dX11_learns_6 : decode cX11_learns 6 = .ok (.iload_n 1, 1) := by decide +kernel
theorem dX11_learns_7 : decode cX11_learns 7 = .ok (.isub, 1) := by decide +kernel
theorem dX11_learns_8 : decode cX11_learns 8 = .ok (.iconst 1, 1) := by decide +kernel
theorem dX11_learns_9 : decode cX11_learns 9 = .ok (.iadd, 1) := by decide +kernel
theorem dX11_learns_10 : decode cX11_learns 10 = .ok (.iastore, 1) := by decide +kernel
theorem dX11_learns_11 : decode cX11_learns 11 = .ok (.iload_n 1, 1) := by decide +kernel
theorem dX11_learns_12 : decode cX11_learns 12 = .ok (.istore 5, 2) := by decide +kernel
theorem dX11_learns_14 : decode cX11_learns 14 = .ok (.iload 5, 2) := by decide +kernel
theorem dX11_learns_16 : decode cX11_learns 16 = .ok (.iload_n 2, 1) := by decide +kernel
theorem dX11_learns_17 : decode cX11_learns 17 = .ok (.if_icmp .gt 27, 3) := by decide +kernel
theorem dX11_learns_20 : decode cX11_learns 20 = .ok (.aload_n 0, 1) := by decide +kernel
theorem dX11_learns_21 : decode cX11_learns 21 = .ok (.getfield 26, 3) := by decide +kernel
theorem dX11_learns_24 : decode cX11_learns 24 = .ok (.iconst 1, 1) := by decide +kernel
theorem dX11_learns_25 : decode cX11_learns 25 = .ok (.iload 5, 2) := by decide +kernel
theorem dX11_learns_27 : decode cX11_learns 27 = .ok (.iadd, 1) := by decide +kernel
theorem dX11_learns_28 : decode cX11_learns 28 = .ok (.iload_n 1, 1) := by decide +kernel
theorem dX11_learns_29 : decode cX11_learns 29 = .ok (.isub, 1) := by decide +kernel
theorem dX11_learns_30 : decode cX11_learns 30 = .ok (.aload_n 0, 1) := by decide +kernel
theorem dX11_learns_31 : decode cX11_learns 31 = .ok (.getfield 32, 3) := by decide +kernel
theorem dX11_learns_34 : decode cX11_learns 34 = .ok (.iload 5, 2) := by decide +kernel
theorem dX11_learns_36 : decode cX11_learns 36 = .ok (.iaload, 1) := by decide +kernel
theorem dX11_learns_37 : decode cX11_learns 37 = .ok (.iastore, 1) := by decide +kernel
theorem dX11_learns_38 : decode cX11_learns 38 = .ok (.iinc 5 1, 3) := by decide +kernel
theorem dX11_learns_41 : decode cX11_learns 41 = .ok (.goto (-27), 3) := by decide +kernel
theorem dX11_learns_44 : decode cX11_learns 44 = .ok (.aload_n 0, 1) := by decide +kernel
theorem dX11_learns_45 : decode cX11_learns 45 = .ok (.getfield 26, 3) := by decide +kernel
theorem dX11_learns_48 : decode cX11_learns 48 = .ok (.iconst 4, 1) := by decide +kernel
theorem dX11_learns_49 : decode cX11_learns 49 = .ok (.iload 4, 2) := by decide +kernel
theorem dX11_learns_51 : decode cX11_learns 51 = .ok (.iload_n 3, 1) := by decide +kernel
theorem dX11_learns_52 : decode cX11_learns 52 = .ok (.isub, 1) := by decide +kernel
theorem dX11_learns_53 : decode cX11_learns 53 = .ok (.iconst 1, 1) := by decide +kernel
theorem dX11_learns_54 : decode cX11_learns 54 = .ok (.iadd, 1) := by decide +kernel
theorem dX11_learns_55 : decode cX11_learns 55 = .ok (.iastore, 1) := by decide +kernel
theorem dX11_learns_56 : decode cX11_learns 56 = .ok (.iload_n 3, 1) := by decide +kernel
theorem dX11_learns_57 : decode cX11_learns 57 = .ok (.istore 5, 2) := by decide +kernel
theorem dX11_learns_59 : decode cX11_learns 59 = .ok (.iload 5, 2) := by decide +kernel
theorem dX11_learns_61 : decode cX11_learns 61 = .ok (.iload 4, 2) := by decide +kernel
theorem dX11_learns_63 : decode cX11_learns 63 = .ok (.if_icmp .gt 32, 3) := by decide +kernel
theorem dX11_learns_66 : decode cX11_learns 66 = .ok (.aload_n 0, 1) := by decide +kernel
theorem dX11_learns_67 : decode cX11_learns 67 = .ok (.getfield 26, 3) := by decide +kernel
theorem dX11_learns_70 : decode cX11_learns 70 = .ok (.iconst 5, 1) := by decide +kernel
theorem dX11_learns_71 : decode cX11_learns 71 = .ok (.iload 5, 2) := by decide +kernel
theorem dX11_learns_73 : decode cX11_learns 73 = .ok (.iadd, 1) := by decide +kernel
theorem dX11_learns_74 : decode cX11_learns 74 = .ok (.iload_n 3, 1) := by decide +kernel
theorem dX11_learns_75 : decode cX11_learns 75 = .ok (.isub, 1) := by decide +kernel
theorem dX11_learns_76 : decode cX11_learns 76 = .ok (.aload_n 0, 1) := by decide +kernel
theorem dX11_learns_77 : decode cX11_learns 77 = .ok (.getfield 32, 3) := by decide +kernel
theorem dX11_learns_80 : decode cX11_learns 80 = .ok (.aload_n 0, 1) := by decide +kernel
theorem dX11_learns_81 : decode cX11_learns 81 = .ok (.getfield 194, 3) := by decide +kernel
theorem dX11_learns_84 : decode cX11_learns 84 = .ok (.iload 5, 2) := by decide +kernel
theorem dX11_learns_86 : decode cX11_learns 86 = .ok (.iadd, 1) := by decide +kernel
theorem dX11_learns_87 : decode cX11_learns 87 = .ok (.iaload, 1) := by decide +kernel
theorem dX11_learns_88 : decode cX11_learns 88 = .ok (.iastore, 1) := by decide +kernel
theorem dX11_learns_89 : decode cX11_learns 89 = .ok (.iinc 5 1, 3) := by decide +kernel
theorem dX11_learns_92 : decode cX11_learns 92 = .ok (.goto (-33), 3) := by decide +kernel
theorem dX11_learns_95 : decode cX11_learns 95 = .ok (.aload_n 0, 1) := by decide +kernel
theorem dX11_learns_96 : decode cX11_learns 96 = .ok (.aload_n 0, 1) := by decide +kernel
theorem dX11_learns_97 : decode cX11_learns 97 = .ok (.getfield 26, 3) := by decide +kernel
theorem dX11_learns_100 : decode cX11_learns 100 = .ok (.iconst 0, 1) := by decide +kernel
theorem dX11_learns_101 : decode cX11_learns 101 = .ok (.iconst (-1), 1) := by decide +kernel
theorem dX11_learns_102 : decode cX11_learns 102 = .ok (.invokevirtual 180, 3) := by decide +kernel
theorem dX11_learns_105 : decode cX11_learns 105 = .ok (.istore 5, 2) := by decide +kernel
theorem dX11_learns_107 : decode cX11_learns 107 = .ok (.iload 5, 2) := by decide +kernel
theorem dX11_learns_109 : decode cX11_learns 109 = .ok (.iconst (-1), 1) := by decide +kernel
theorem dX11_learns_110 : decode cX11_learns 110 = .ok (.if_icmp .eq 49, 3) := by decide +kernel
theorem dX11_learns_113 : decode cX11_learns 113 = .ok (.sipush 369, 3) := by decide +kernel
theorem dX11_learns_116 : decode cX11_learns 116 = .ok (.bipush 10, 2) := by decide +kernel
theorem dX11_learns_118 : decode cX11_learns 118 = .ok (.iload 5, 2) := by decide +kernel
theorem dX11_learns_120 : decode cX11_learns 120 = .ok (.imul, 1) := by decide +kernel
theorem dX11_learns_121 : decode cX11_learns 121 = .ok (.iadd, 1) := by decide +kernel
theorem dX11_learns_122 : decode cX11_learns 122 = .ok (.bipush 8, 2) := by decide +kernel
theorem dX11_learns_124 : decode cX11_learns 124 = .ok (.iadd, 1) := by decide +kernel
theorem dX11_learns_125 : decode cX11_learns 125 = .ok (.istore 6, 2) := by decide +kernel
theorem dX11_learns_127 : decode cX11_learns 127 = .ok (.aload_n 0, 1) := by decide +kernel
theorem dX11_learns_128 : decode cX11_learns 128 = .ok (.getfield 7, 3) := by decide +kernel
theorem dX11_learns_131 : decode cX11_learns 131 = .ok (.iload 6, 2) := by decide +kernel
theorem dX11_learns_133 : decode cX11_learns 133 = .ok (.aload_n 0, 1) := by decide +kernel
theorem dX11_learns_134 : decode cX11_learns 134 = .ok (.getfield 7, 3) := by decide +kernel
theorem dX11_learns_137 : decode cX11_learns 137 = .ok (.iload 6, 2) := by decide +kernel
theorem dX11_learns_139 : decode cX11_learns 139 = .ok (.iaload, 1) := by decide +kernel
theorem dX11_learns_140 : decode cX11_learns 140 = .ok (.ifCond .le 15, 3) := by decide +kernel
theorem dX11_learns_143 : decode cX11_learns 143 = .ok (.aload_n 0, 1) := by decide +kernel
theorem dX11_learns_144 : decode cX11_learns 144 = .ok (.getfield 7, 3) := by decide +kernel
theorem dX11_learns_147 : decode cX11_learns 147 = .ok (.iload 6, 2) := by decide +kernel
theorem dX11_learns_149 : decode cX11_learns 149 = .ok (.iaload, 1) := by decide +kernel
theorem dX11_learns_150 : decode cX11_learns 150 = .ok (.iconst 1, 1) := by decide +kernel
theorem dX11_learns_151 : decode cX11_learns 151 = .ok (.isub, 1) := by decide +kernel
theorem dX11_learns_152 : decode cX11_learns 152 = .ok (.goto 4, 3) := by decide +kernel
theorem dX11_learns_155 : decode cX11_learns 155 = .ok (.iconst 0, 1) := by decide +kernel
theorem dX11_learns_156 : decode cX11_learns 156 = .ok (.iastore, 1) := by decide +kernel
theorem dX11_learns_157 : decode cX11_learns 157 = .ok (.iconst 0, 1) := by decide +kernel
theorem dX11_learns_158 : decode cX11_learns 158 = .ok (.ireturn, 1) := by decide +kernel
theorem dX11_learns_159 : decode cX11_learns 159 = .ok (.aload_n 0, 1) := by decide +kernel
theorem dX11_learns_160 : decode cX11_learns 160 = .ok (.getfield 7, 3) := by decide +kernel
theorem dX11_learns_163 : decode cX11_learns 163 = .ok (.iconst 1, 1) := by decide +kernel
theorem dX11_learns_164 : decode cX11_learns 164 = .ok (.iaload, 1) := by decide +kernel
theorem dX11_learns_165 : decode cX11_learns 165 = .ok (.bipush 30, 2) := by decide +kernel
theorem dX11_learns_167 : decode cX11_learns 167 = .ok (.if_icmp .ne 5, 3) := by decide +kernel
theorem dX11_learns_170 : decode cX11_learns 170 = .ok (.iconst 2, 1) := by decide +kernel
theorem dX11_learns_171 : decode cX11_learns 171 = .ok (.ireturn, 1) := by decide +kernel
theorem dX11_learns_172 : decode cX11_learns 172 = .ok (.aload_n 0, 1) := by decide +kernel
theorem dX11_learns_173 : decode cX11_learns 173 = .ok (.iconst 0, 1) := by decide +kernel
theorem dX11_learns_174 : decode cX11_learns 174 = .ok (.bipush 10, 2) := by decide +kernel
theorem dX11_learns_176 : decode cX11_learns 176 = .ok (.iconst 5, 1) := by decide +kernel
theorem dX11_learns_177 : decode cX11_learns 177 = .ok (.aload_n 0, 1) := by decide +kernel
theorem dX11_learns_178 : decode cX11_learns 178 = .ok (.iload_n 1, 1) := by decide +kernel
theorem dX11_learns_179 : decode cX11_learns 179 = .ok (.iload_n 2, 1) := by decide +kernel
theorem dX11_learns_180 : decode cX11_learns 180 = .ok (.iload_n 3, 1) := by decide +kernel
theorem dX11_learns_181 : decode cX11_learns 181 = .ok (.iload 4, 2) := by decide +kernel
theorem dX11_learns_183 : decode cX11_learns 183 = .ok (.invokevirtual 200, 3) := by decide +kernel
theorem dX11_learns_186 : decode cX11_learns 186 = .ok (.imul, 1) := by decide +kernel
theorem dX11_learns_187 : decode cX11_learns 187 = .ok (.iadd, 1) := by decide +kernel
theorem dX11_learns_188 : decode cX11_learns 188 = .ok (.invokevirtual 184, 3) := by decide +kernel
theorem dX11_learns_191 : decode cX11_learns 191 = .ok (.iconst 1, 1) := by decide +kernel
theorem dX11_learns_192 : decode cX11_learns 192 = .ok (.ireturn, 1) := by decide +kernel
theorem dX11_learn_0 : decode cX11_learn 0 = .ok (.aload_n 0, 1) := by decide +kernel
theorem dX11_learn_1 : decode cX11_learn 1 = .ok (.invokevirtual 173, 3) := by decide +kernel
theorem dX11_learn_4 : decode cX11_learn 4 = .ok (.aload_n 0, 1) := by decide +kernel
theorem dX11_learn_5 : decode cX11_learn 5 = .ok (.invokevirtual 204, 3) := by decide +kernel
theorem dX11_learn_8 : decode cX11_learn 8 = .ok (.aload_n 0, 1) := by decide +kernel
theorem dX11_learn_9 : decode cX11_learn 9 = .ok (.invokevirtual 188, 3) := by decide +kernel
theorem dX11_learn_12 : decode cX11_learn 12 = .ok (.ifCond .ne 5, 3) := by decide +kernel
theorem dX11_learn_15 : decode cX11_learn 15 = .ok (.iconst 0, 1) := by decide +kernel
theorem dX11_learn_16 : decode cX11_learn 16 = .ok (.ireturn, 1) := by decide +kernel
theorem dX11_learn_17 : decode cX11_learn 17 = .ok (.iconst 0, 1) := by decide +kernel
theorem dX11_learn_18 : decode cX11_learn 18 = .ok (.istore_n 1, 1) := by decide +kernel
theorem dX11_learn_19 : decode cX11_learn 19 = .ok (.iconst 0, 1) := by decide +kernel
theorem dX11_learn_20 : decode cX11_learn 20 = .ok (.istore_n 2, 1) := by decide +kernel
theorem dX11_learn_21 : decode cX11_learn 21 = .ok (.iconst 0, 1) := by decide +kernel
theorem dX11_learn_22 : decode cX11_learn 22 = .ok (.istore_n 3, 1) := by decide +kernel
theorem dX11_learn_23 : decode cX11_learn 23 = .ok (.iload_n 3, 1) := by decide +kernel
theorem dX11_learn_24 : decode cX11_learn 24 = .ok (.aload_n 0, 1) := by decide +kernel
theorem dX11_learn_25 : decode cX11_learn 25 = .ok (.getfield 194, 3) := by decide +kernel
theorem dX11_learn_28 : decode cX11_learn 28 = .ok (.if_icmp .ge 150, 3) := by decide +kernel
theorem dX11_learn_31 : decode cX11_learn 31 = .ok (.iload_n 3, 1) := by decide +kernel
theorem dX11_learn_32 : decode cX11_learn 32 = .ok (.istore 4, 2) := by decide +kernel
theorem dX11_learn_34 : decode cX11_learn 34 = .ok (.iload 4, 2) := by decide +kernel
theorem dX11_learn_36 : decode cX11_learn 36 = .ok (.aload_n 0, 1) := by decide +kernel
theorem dX11_learn_37 : decode cX11_learn 37 = .ok (.getfield 194, 3) := by decide +kernel
theorem dX11_learn_40 : decode cX11_learn 40 = .ok (.if_icmp .ge 132, 3) := by decide +kernel
theorem dX11_learn_43 : decode cX11_learn 43 = .ok (.iload 4, 2) := by decide +kernel
theorem dX11_learn_45 : decode cX11_learn 45 = .ok (.iload_n 3, 1) := by decide +kernel
theorem dX11_learn_46 : decode cX11_learn 46 = .ok (.iconst 3, 1) := by decide +kernel
theorem dX11_learn_47 : decode cX11_learn 47 = .ok (.iadd, 1) := by decide +kernel
theorem dX11_learn_48 : decode cX11_learn 48 = .ok (.if_icmp .ge 124, 3) := by decide +kernel
theorem dX11_learn_51 : decode cX11_learn 51 = .ok (.iconst 0, 1) := by decide +kernel
theorem dX11_learn_52 : decode cX11_learn 52 = .ok (.istore 5, 2) := by decide +kernel
theorem dX11_learn_54 : decode cX11_learn 54 = .ok (.iload 5, 2) := by decide +kernel
theorem dX11_learn_56 : decode cX11_learn 56 = .ok (.aload_n 0, 1) := by decide +kernel
theorem dX11_learn_57 : decode cX11_learn 57 = .ok (.getfield 119, 3) := by decide +kernel
theorem dX11_learn_60 : decode cX11_learn 60 = .ok (.aload_n 0, 1) := by decide +kernel
theorem dX11_learn_61 : decode cX11_learn 61 = .ok (.getfield 194, 3) := by decide +kernel
theorem dX11_learn_64 : decode cX11_learn 64 = .ok (.isub, 1) := by decide +kernel
theorem dX11_learn_65 : decode cX11_learn 65 = .ok (.if_icmp .ge 101, 3) := by decide +kernel
theorem dX11_learn_68 : decode cX11_learn 68 = .ok (.iload 5, 2) := by decide +kernel
theorem dX11_learn_70 : decode cX11_learn 70 = .ok (.istore 6, 2) := by decide +kernel
theorem dX11_learn_72 : decode cX11_learn 72 = .ok (.iload 6, 2) := by decide +kernel
theorem dX11_learn_74 : decode cX11_learn 74 = .ok (.aload_n 0, 1) := by decide +kernel
theorem dX11_learn_75 : decode cX11_learn 75 = .ok (.getfield 119, 3) := by decide +kernel
theorem dX11_learn_78 : decode cX11_learn 78 = .ok (.aload_n 0, 1) := by decide +kernel
theorem dX11_learn_79 : decode cX11_learn 79 = .ok (.getfield 194, 3) := by decide +kernel
theorem dX11_learn_82 : decode cX11_learn 82 = .ok (.isub, 1) := by decide +kernel
theorem dX11_learn_83 : decode cX11_learn 83 = .ok (.if_icmp .ge 77, 3) := by decide +kernel
theorem dX11_learn_86 : decode cX11_learn 86 = .ok (.iload 6, 2) := by decide +kernel
theorem dX11_learn_88 : decode cX11_learn 88 = .ok (.iload 5, 2) := by decide +kernel
theorem dX11_learn_90 : decode cX11_learn 90 = .ok (.iconst 3, 1) := by decide +kernel
theorem dX11_learn_91 : decode cX11_learn 91 = .ok (.iadd, 1) := by decide +kernel
theorem dX11_learn_92 : decode cX11_learn 92 = .ok (.if_icmp .ge 68, 3) := by decide +kernel
theorem dX11_learn_95 : decode cX11_learn 95 = .ok (.iload_n 2, 1) := by decide +kernel
theorem dX11_learn_96 : decode cX11_learn 96 = .ok (.ifCond .ne 58, 3) := by decide +kernel
theorem dX11_learn_99 : decode cX11_learn 99 = .ok (.aload_n 0, 1) := by decide +kernel
theorem dX11_learn_100 : decode cX11_learn 100 = .ok (.iload_n 3, 1) := by decide +kernel
theorem dX11_learn_101 : decode cX11_learn 101 = .ok (.iload 4, 2) := by decide +kernel
theorem dX11_learn_103 : decode cX11_learn 103 = .ok (.iload 5, 2) := by decide +kernel
theorem dX11_learn_105 : decode cX11_learn 105 = .ok (.iload 6, 2) := by decide +kernel
theorem dX11_learn_107 : decode cX11_learn 107 = .ok (.invokevirtual 207, 3) := by decide +kernel
theorem dX11_learn_110 : decode cX11_learn 110 = .ok (.ifCond .ne 6, 3) := by decide +kernel
theorem dX11_learn_113 : decode cX11_learn 113 = .ok (.goto 41, 3) := by decide +kernel
theorem dX11_learn_116 : decode cX11_learn 116 = .ok (.aload_n 0, 1) := by decide +kernel
theorem dX11_learn_117 : decode cX11_learn 117 = .ok (.iload_n 3, 1) := by decide +kernel
theorem dX11_learn_118 : decode cX11_learn 118 = .ok (.iload 4, 2) := by decide +kernel
theorem dX11_learn_120 : decode cX11_learn 120 = .ok (.iload 5, 2) := by decide +kernel
theorem dX11_learn_122 : decode cX11_learn 122 = .ok (.iload 6, 2) := by decide +kernel
theorem dX11_learn_124 : decode cX11_learn 124 = .ok (.invokevirtual 211, 3) := by decide +kernel
theorem dX11_learn_127 : decode cX11_learn 127 = .ok (.istore 7, 2) := by decide +kernel
theorem dX11_learn_129 : decode cX11_learn 129 = .ok (.iload 7, 2) := by decide +kernel
theorem dX11_learn_131 : decode cX11_learn 131 = .ok (.iconst 2, 1) := by decide +kernel
theorem dX11_learn_132 : decode cX11_learn 132 = .ok (.if_icmp .ne 7, 3) := by decide +kernel
theorem dX11_learn_135 : decode cX11_learn 135 = .ok (.iconst 1, 1) := by decide +kernel
theorem dX11_learn_136 : decode cX11_learn 136 = .ok (.goto 4, 3) := by decide +kernel
theorem dX11_learn_139 : decode cX11_learn 139 = .ok (.iconst 0, 1) := by decide +kernel
theorem dX11_learn_140 : decode cX11_learn 140 = .ok (.istore_n 2, 1) := by decide +kernel
theorem dX11_learn_141 : decode cX11_learn 141 = .ok (.iload_n 1, 1) := by decide +kernel
theorem dX11_learn_142 : decode cX11_learn 142 = .ok (.iload_n 2, 1) := by decide +kernel
theorem dX11_learn_143 : decode cX11_learn 143 = .ok (.ifCond .eq 7, 3) := by decide +kernel
theorem dX11_learn_146 : decode cX11_learn 146 = .ok (.iconst 0, 1) := by decide +kernel
theorem dX11_learn_147 : decode cX11_learn 147 = .ok (.goto 5, 3) := by decide +kernel
theorem dX11_learn_150 : decode cX11_learn 150 = .ok (.iload 7, 2) := by decide +kernel
theorem dX11_learn_152 : decode cX11_learn 152 = .ok (.iadd, 1) := by decide +kernel
theorem dX11_learn_153 : decode cX11_learn 153 = .ok (.istore_n 1, 1) := by decide +kernel
theorem dX11_learn_154 : decode cX11_learn 154 = .ok (.iinc 6 1, 3) := by decide +kernel
theorem dX11_learn_157 : decode cX11_learn 157 = .ok (.goto (-85), 3) := by decide +kernel
theorem dX11_learn_160 : decode cX11_learn 160 = .ok (.iinc 5 1, 3) := by decide +kernel
theorem dX11_learn_163 : decode cX11_learn 163 = .ok (.goto (-109), 3) := by decide +kernel
theorem dX11_learn_166 : decode cX11_learn 166 = .ok (.iinc 4 1, 3) := by decide +kernel
theorem dX11_learn_169 : decode cX11_learn 169 = .ok (.goto (-135), 3) := by decide +kernel
theorem dX11_learn_172 : decode cX11_learn 172 = .ok (.iinc 3 1, 3) := by decide +kernel
theorem dX11_learn_175 : decode cX11_learn 175 = .ok (.goto (-152), 3) := by decide +kernel
theorem dX11_learn_178 : decode cX11_learn 178 = .ok (.iload_n 2, 1) := by decide +kernel
theorem dX11_learn_179 : decode cX11_learn 179 = .ok (.ifCond .ne 5, 3) := by decide +kernel
theorem dX11_learn_182 : decode cX11_learn 182 = .ok (.iload_n 1, 1) := by decide +kernel
theorem dX11_learn_183 : decode cX11_learn 183 = .ok (.ireturn, 1) := by decide +kernel
theorem dX11_learn_184 : decode cX11_learn 184 = .ok (.aload_n 0, 1) := by decide +kernel
theorem dX11_learn_185 : decode cX11_learn 185 = .ok (.iconst 2, 1) := by decide +kernel
theorem dX11_learn_186 : decode cX11_learn 186 = .ok (.putfield 100, 3) := by decide +kernel
theorem dX11_learn_189 : decode cX11_learn 189 = .ok (.iconst 0, 1) := by decide +kernel
theorem dX11_learn_190 : decode cX11_learn 190 = .ok (.istore_n 3, 1) := by decide +kernel
theorem dX11_learn_191 : decode cX11_learn 191 = .ok (.iload_n 3, 1) := by decide +kernel
theorem dX11_learn_192 : decode cX11_learn 192 = .ok (.sipush 855, 3) := by decide +kernel
theorem dX11_learn_195 : decode cX11_learn 195 = .ok (.if_icmp .ge 21, 3) := by decide +kernel
theorem dX11_learn_198 : decode cX11_learn 198 = .ok (.aload_n 0, 1) := by decide +kernel
theorem dX11_learn_199 : decode cX11_learn 199 = .ok (.getfield 7, 3) := by decide +kernel
theorem dX11_learn_202 : decode cX11_learn 202 = .ok (.iload_n 3, 1) := by decide +kernel
theorem dX11_learn_203 : decode cX11_learn 203 = .ok (.aload_n 0, 1) := by decide +kernel
theorem dX11_learn_204 : decode cX11_learn 204 = .ok (.getfield 13, 3) := by decide +kernel
theorem dX11_learn_207 : decode cX11_learn 207 = .ok (.iload_n 3, 1) := by decide +kernel
theorem dX11_learn_208 : decode cX11_learn 208 = .ok (.iaload, 1) := by decide +kernel
theorem dX11_learn_209 : decode cX11_learn 209 = .ok (.iastore, 1) := by decide +kernel
theorem dX11_learn_210 : decode cX11_learn 210 = .ok (.iinc 3 1, 3) := by decide +kernel
theorem dX11_learn_213 : decode cX11_learn 213 = .ok (.goto (-22), 3) := by decide +kernel
theorem dX11_learn_216 : decode cX11_learn 216 = .ok (.iconst 0, 1) := by decide +kernel
theorem dX11_learn_217 : decode cX11_learn 217 = .ok (.ireturn, 1) := by decide +kernel
theorem dX11_fault_0 : decode cX11_fault 0 = .ok (.aload_n 0, 1) := by decide +kernel
theorem dX11_fault_1 : decode cX11_fault 1 = .ok (.iconst 0, 1) := by decide +kernel
theorem dX11_fault_2 : decode cX11_fault 2 = .ok (.putfield 100, 3) := by decide +kernel
theorem dX11_fault_5 : decode cX11_fault 5 = .ok (.aload_n 0, 1) := by decide +kernel
theorem dX11_fault_6 : decode cX11_fault 6 = .ok (.getfield 22, 3) := by decide +kernel
theorem dX11_fault_9 : decode cX11_fault 9 = .ok (.ireturn, 1) := by decide +kernel
theorem dX11_letter_0 : decode cX11_letter 0 = .ok (.aload_n 0, 1) := by decide +kernel
theorem dX11_letter_1 : decode cX11_letter 1 = .ok (.aload_n 0, 1) := by decide +kernel
theorem dX11_letter_2 : decode cX11_letter 2 = .ok (.iload_n 1, 1) := by decide +kernel
theorem dX11_letter_3 : decode cX11_letter 3 = .ok (.invokevirtual 214, 3) := by decide +kernel
theorem dX11_letter_6 : decode cX11_letter 6 = .ok (.ifCond .eq 7, 3) := by decide +kernel
theorem dX11_letter_9 : decode cX11_letter 9 = .ok (.iconst 0, 1) := by decide +kernel
theorem dX11_letter_10 : decode cX11_letter 10 = .ok (.goto 4, 3) := by decide +kernel
theorem dX11_letter_13 : decode cX11_letter 13 = .ok (.iconst 1, 1) := by decide +kernel
theorem dX11_letter_14 : decode cX11_letter 14 = .ok (.putfield 100, 3) := by decide +kernel
theorem dX11_letter_17 : decode cX11_letter 17 = .ok (.aload_n 0, 1) := by decide +kernel
theorem dX11_letter_18 : decode cX11_letter 18 = .ok (.getfield 100, 3) := by decide +kernel
theorem dX11_letter_21 : decode cX11_letter 21 = .ok (.ifCond .le 5, 3) := by decide +kernel
theorem dX11_letter_24 : decode cX11_letter 24 = .ok (.iconst 0, 1) := by decide +kernel
theorem dX11_letter_25 : decode cX11_letter 25 = .ok (.ireturn, 1) := by decide +kernel
theorem dX11_letter_26 : decode cX11_letter 26 = .ok (.iload_n 2, 1) := by decide +kernel
theorem dX11_letter_27 : decode cX11_letter 27 = .ok (.iconst 0, 1) := by decide +kernel
theorem dX11_letter_28 : decode cX11_letter 28 = .ok (.aload_n 0, 1) := by decide +kernel
theorem dX11_letter_29 : decode cX11_letter 29 = .ok (.getfield 7, 3) := by decide +kernel
theorem dX11_letter_32 : decode cX11_letter 32 = .ok (.bipush 9, 2) := by decide +kernel
theorem dX11_letter_34 : decode cX11_letter 34 = .ok (.bipush 9, 2) := by decide +kernel
theorem dX11_letter_36 : decode cX11_letter 36 = .ok (.iload_n 1, 1) := by decide +kernel
theorem dX11_letter_37 : decode cX11_letter 37 = .ok (.imul, 1) := by decide +kernel
theorem dX11_letter_38 : decode cX11_letter 38 = .ok (.iadd, 1) := by decide +kernel
theorem dX11_letter_39 : decode cX11_letter 39 = .ok (.iaload, 1) := by decide +kernel
theorem dX11_letter_40 : decode cX11_letter 40 = .ok (.iconst 1, 1) := by decide +kernel
theorem dX11_letter_41 : decode cX11_letter 41 = .ok (.isub, 1) := by decide +kernel
theorem dX11_letter_42 : decode cX11_letter 42 = .ok (.invokestatic 103, 3) := by decide +kernel
theorem dX11_letter_45 : decode cX11_letter 45 = .ok (.ifCond .eq 22, 3) := by decide +kernel
theorem dX11_letter_48 : decode cX11_letter 48 = .ok (.aload_n 0, 1) := by decide +kernel
theorem dX11_letter_49 : decode cX11_letter 49 = .ok (.getfield 7, 3) := by decide +kernel
theorem dX11_letter_52 : decode cX11_letter 52 = .ok (.bipush 9, 2) := by decide +kernel
theorem dX11_letter_54 : decode cX11_letter 54 = .ok (.bipush 9, 2) := by decide +kernel
theorem dX11_letter_56 : decode cX11_letter 56 = .ok (.iload_n 1, 1) := by decide +kernel
theorem dX11_letter_57 : decode cX11_letter 57 = .ok (.imul, 1) := by decide +kernel
theorem dX11_letter_58 : decode cX11_letter 58 = .ok (.iadd, 1) := by decide +kernel
theorem dX11_letter_59 : decode cX11_letter 59 = .ok (.iconst 1, 1) := by decide +kernel
theorem dX11_letter_60 : decode cX11_letter 60 = .ok (.iadd, 1) := by decide +kernel
theorem dX11_letter_61 : decode cX11_letter 61 = .ok (.iload_n 2, 1) := by decide +kernel
theorem dX11_letter_62 : decode cX11_letter 62 = .ok (.iadd, 1) := by decide +kernel
theorem dX11_letter_63 : decode cX11_letter 63 = .ok (.iaload, 1) := by decide +kernel
theorem dX11_letter_64 : decode cX11_letter 64 = .ok (.goto 4, 3) := by decide +kernel
theorem dX11_letter_67 : decode cX11_letter 67 = .ok (.iconst (-1), 1) := by decide +kernel
theorem dX11_letter_68 : decode cX11_letter 68 = .ok (.ireturn, 1) := by decide +kernel
theorem dX11_placesOf_0 : decode cX11_placesOf 0 = .ok (.iconst 0, 1) := by decide +kernel
theorem dX11_placesOf_1 : decode cX11_placesOf 1 = .ok (.istore_n 2, 1) := by decide +kernel
theorem dX11_placesOf_2 : decode cX11_placesOf 2 = .ok (.iconst 0, 1) := by decide +kernel
theorem dX11_placesOf_3 : decode cX11_placesOf 3 = .ok (.istore_n 3, 1) := by decide +kernel
theorem dX11_placesOf_4 : decode cX11_placesOf 4 = .ok (.iload_n 3, 1) := by decide +kernel
theorem dX11_placesOf_5 : decode cX11_placesOf 5 = .ok (.aload_n 0, 1) := by decide +kernel
theorem dX11_placesOf_6 : decode cX11_placesOf 6 = .ok (.getfield 7, 3) := by decide +kernel
theorem dX11_placesOf_9 : decode cX11_placesOf 9 = .ok (.iconst 3, 1) := by decide +kernel
theorem dX11_placesOf_10 : decode cX11_placesOf 10 = .ok (.iaload, 1) := by decide +kernel
theorem dX11_placesOf_11 : decode cX11_placesOf 11 = .ok (.if_icmp .ge 26, 3) := by decide +kernel
theorem dX11_placesOf_14 : decode cX11_placesOf 14 = .ok (.iload_n 2, 1) := by decide +kernel
theorem dX11_placesOf_15 : decode cX11_placesOf 15 = .ok (.aload_n 0, 1) := by decide +kernel
theorem dX11_placesOf_16 : decode cX11_placesOf 16 = .ok (.iload_n 1, 1) := by decide +kernel
theorem dX11_placesOf_17 : decode cX11_placesOf 17 = .ok (.iload_n 3, 1) := by decide +kernel
theorem dX11_placesOf_18 : decode cX11_placesOf 18 = .ok (.invokevirtual 217, 3) := by decide +kernel
theorem dX11_placesOf_21 : decode cX11_placesOf 21 = .ok (.ifCond .eq 7, 3) := by decide +kernel
theorem dX11_placesOf_24 : decode cX11_placesOf 24 = .ok (.iconst 1, 1) := by decide +kernel
theorem dX11_placesOf_25 : decode cX11_placesOf 25 = .ok (.goto 4, 3) := by decide +kernel
theorem dX11_placesOf_28 : decode cX11_placesOf 28 = .ok (.iconst 0, 1) := by decide +kernel
theorem dX11_placesOf_29 : decode cX11_placesOf 29 = .ok (.iadd, 1) := by decide +kernel
theorem dX11_placesOf_30 : decode cX11_placesOf 30 = .ok (.istore_n 2, 1) := by decide +kernel
theorem dX11_placesOf_31 : decode cX11_placesOf 31 = .ok (.iinc 3 1, 3) := by decide +kernel
theorem dX11_placesOf_34 : decode cX11_placesOf 34 = .ok (.goto (-30), 3) := by decide +kernel
theorem dX11_placesOf_37 : decode cX11_placesOf 37 = .ok (.iload_n 2, 1) := by decide +kernel
theorem dX11_placesOf_38 : decode cX11_placesOf 38 = .ok (.ireturn, 1) := by decide +kernel
theorem dX11_phrase_0 : decode cX11_phrase 0 = .ok (.aload_n 0, 1) := by decide +kernel
theorem dX11_phrase_1 : decode cX11_phrase 1 = .ok (.aload_n 0, 1) := by decide +kernel
theorem dX11_phrase_2 : decode cX11_phrase 2 = .ok (.iload_n 1, 1) := by decide +kernel
theorem dX11_phrase_3 : decode cX11_phrase 3 = .ok (.invokevirtual 221, 3) := by decide +kernel
theorem dX11_phrase_6 : decode cX11_phrase 6 = .ok (.ifCond .ne 7, 3) := by decide +kernel
theorem dX11_phrase_9 : decode cX11_phrase 9 = .ok (.iconst 1, 1) := by decide +kernel
theorem dX11_phrase_10 : decode cX11_phrase 10 = .ok (.goto 17, 3) := by decide +kernel
theorem dX11_phrase_13 : decode cX11_phrase 13 = .ok (.iload_n 2, 1) := by decide +kernel
theorem dX11_phrase_14 : decode cX11_phrase 14 = .ok (.iconst 0, 1) := by decide +kernel
theorem dX11_phrase_15 : decode cX11_phrase 15 = .ok (.iconst 5, 1) := by decide +kernel
theorem dX11_phrase_16 : decode cX11_phrase 16 = .ok (.invokestatic 103, 3) := by decide +kernel
theorem dX11_phrase_19 : decode cX11_phrase 19 = .ok (.ifCond .ne 7, 3) := by decide +kernel
theorem dX11_phrase_22 : decode cX11_phrase 22 = .ok (.iconst 2, 1) := by decide +kernel
theorem dX11_phrase_23 : decode cX11_phrase 23 = .ok (.goto 4, 3) := by decide +kernel
theorem dX11_phrase_26 : decode cX11_phrase 26 = .ok (.iconst 0, 1) := by decide +kernel
theorem dX11_phrase_27 : decode cX11_phrase 27 = .ok (.putfield 100, 3) := by decide +kernel
theorem dX11_phrase_30 : decode cX11_phrase 30 = .ok (.aload_n 0, 1) := by decide +kernel
theorem dX11_phrase_31 : decode cX11_phrase 31 = .ok (.getfield 100, 3) := by decide +kernel
theorem dX11_phrase_34 : decode cX11_phrase 34 = .ok (.ifCond .le 5, 3) := by decide +kernel
theorem dX11_phrase_37 : decode cX11_phrase 37 = .ok (.iconst 0, 1) := by decide +kernel
theorem dX11_phrase_38 : decode cX11_phrase 38 = .ok (.ireturn, 1) := by decide +kernel
theorem dX11_phrase_39 : decode cX11_phrase 39 = .ok (.iload_n 2, 1) := by decide +kernel
theorem dX11_phrase_40 : decode cX11_phrase 40 = .ok (.tableswitch 72 0 4 #[36, 43, 50, 58, 66], 36) := by decide +kernel
theorem dX11_phrase_76 : decode cX11_phrase 76 = .ok (.aload_n 0, 1) := by decide +kernel
theorem dX11_phrase_77 : decode cX11_phrase 77 = .ok (.iload_n 1, 1) := by decide +kernel
theorem dX11_phrase_78 : decode cX11_phrase 78 = .ok (.iconst 0, 1) := by decide +kernel
theorem dX11_phrase_79 : decode cX11_phrase 79 = .ok (.invokevirtual 169, 3) := by decide +kernel
theorem dX11_phrase_82 : decode cX11_phrase 82 = .ok (.ireturn, 1) := by decide +kernel
theorem dX11_phrase_83 : decode cX11_phrase 83 = .ok (.aload_n 0, 1) := by decide +kernel
theorem dX11_phrase_84 : decode cX11_phrase 84 = .ok (.iload_n 1, 1) := by decide +kernel
theorem dX11_phrase_85 : decode cX11_phrase 85 = .ok (.iconst 4, 1) := by decide +kernel
theorem dX11_phrase_86 : decode cX11_phrase 86 = .ok (.invokevirtual 169, 3) := by decide +kernel
theorem dX11_phrase_89 : decode cX11_phrase 89 = .ok (.ireturn, 1) := by decide +kernel
theorem dX11_phrase_90 : decode cX11_phrase 90 = .ok (.aload_n 0, 1) := by decide +kernel
theorem dX11_phrase_91 : decode cX11_phrase 91 = .ok (.iload_n 1, 1) := by decide +kernel
theorem dX11_phrase_92 : decode cX11_phrase 92 = .ok (.bipush 8, 2) := by decide +kernel
theorem dX11_phrase_94 : decode cX11_phrase 94 = .ok (.invokevirtual 169, 3) := by decide +kernel
theorem dX11_phrase_97 : decode cX11_phrase 97 = .ok (.ireturn, 1) := by decide +kernel
theorem dX11_phrase_98 : decode cX11_phrase 98 = .ok (.aload_n 0, 1) := by decide +kernel
theorem dX11_phrase_99 : decode cX11_phrase 99 = .ok (.iload_n 1, 1) := by decide +kernel
theorem dX11_phrase_100 : decode cX11_phrase 100 = .ok (.bipush 9, 2) := by decide +kernel
theorem dX11_phrase_102 : decode cX11_phrase 102 = .ok (.invokevirtual 169, 3) := by decide +kernel
theorem dX11_phrase_105 : decode cX11_phrase 105 = .ok (.ireturn, 1) := by decide +kernel
theorem dX11_phrase_106 : decode cX11_phrase 106 = .ok (.aload_n 0, 1) := by decide +kernel
theorem dX11_phrase_107 : decode cX11_phrase 107 = .ok (.iload_n 1, 1) := by decide +kernel
theorem dX11_phrase_108 : decode cX11_phrase 108 = .ok (.invokevirtual 224, 3) := by decide +kernel
theorem dX11_phrase_111 : decode cX11_phrase 111 = .ok (.ireturn, 1) := by decide +kernel
theorem dX11_phrase_112 : decode cX11_phrase 112 = .ok (.aload_n 0, 1) := by decide +kernel
theorem dX11_phrase_113 : decode cX11_phrase 113 = .ok (.iload_n 1, 1) := by decide +kernel
theorem dX11_phrase_114 : decode cX11_phrase 114 = .ok (.invokevirtual 227, 3) := by decide +kernel
theorem dX11_phrase_117 : decode cX11_phrase 117 = .ok (.ireturn, 1) := by decide +kernel
theorem dX11_part_0 : decode cX11_part 0 = .ok (.aload_n 0, 1) := by decide +kernel
theorem dX11_part_1 : decode cX11_part 1 = .ok (.aload_n 0, 1) := by decide +kernel
theorem dX11_part_2 : decode cX11_part 2 = .ok (.iload_n 1, 1) := by decide +kernel
theorem dX11_part_3 : decode cX11_part 3 = .ok (.invokevirtual 221, 3) := by decide +kernel
theorem dX11_part_6 : decode cX11_part 6 = .ok (.ifCond .eq 7, 3) := by decide +kernel
theorem dX11_part_9 : decode cX11_part 9 = .ok (.iconst 0, 1) := by decide +kernel
theorem dX11_part_10 : decode cX11_part 10 = .ok (.goto 4, 3) := by decide +kernel
theorem dX11_part_13 : decode cX11_part 13 = .ok (.iconst 1, 1) := by decide +kernel
theorem dX11_part_14 : decode cX11_part 14 = .ok (.putfield 100, 3) := by decide +kernel
theorem dX11_part_17 : decode cX11_part 17 = .ok (.aload_n 0, 1) := by decide +kernel
theorem dX11_part_18 : decode cX11_part 18 = .ok (.getfield 100, 3) := by decide +kernel
theorem dX11_part_21 : decode cX11_part 21 = .ok (.ifCond .le 5, 3) := by decide +kernel
theorem dX11_part_24 : decode cX11_part 24 = .ok (.iconst 0, 1) := by decide +kernel
theorem dX11_part_25 : decode cX11_part 25 = .ok (.ireturn, 1) := by decide +kernel
theorem dX11_part_26 : decode cX11_part 26 = .ok (.iload_n 2, 1) := by decide +kernel
theorem dX11_part_27 : decode cX11_part 27 = .ok (.ifCond .eq 7, 3) := by decide +kernel
theorem dX11_part_30 : decode cX11_part 30 = .ok (.iconst 4, 1) := by decide +kernel
theorem dX11_part_31 : decode cX11_part 31 = .ok (.goto 4, 3) := by decide +kernel
theorem dX11_part_34 : decode cX11_part 34 = .ok (.iconst 0, 1) := by decide +kernel
theorem dX11_part_35 : decode cX11_part 35 = .ok (.istore 4, 2) := by decide +kernel
theorem dX11_part_37 : decode cX11_part 37 = .ok (.iload_n 3, 1) := by decide +kernel
theorem dX11_part_38 : decode cX11_part 38 = .ok (.iconst 0, 1) := by decide +kernel
theorem dX11_part_39 : decode cX11_part 39 = .ok (.aload_n 0, 1) := by decide +kernel
theorem dX11_part_40 : decode cX11_part 40 = .ok (.iload_n 1, 1) := by decide +kernel
theorem dX11_part_41 : decode cX11_part 41 = .ok (.iload 4, 2) := by decide +kernel
theorem dX11_part_43 : decode cX11_part 43 = .ok (.invokevirtual 169, 3) := by decide +kernel
theorem dX11_part_46 : decode cX11_part 46 = .ok (.iconst 1, 1) := by decide +kernel
theorem dX11_part_47 : decode cX11_part 47 = .ok (.isub, 1) := by decide +kernel
theorem dX11_part_48 : decode cX11_part 48 = .ok (.invokestatic 103, 3) := by decide +kernel
theorem dX11_part_51 : decode cX11_part 51 = .ok (.ifCond .eq 17, 3) := by decide +kernel
theorem dX11_part_54 : decode cX11_part 54 = .ok (.aload_n 0, 1) := by decide +kernel
theorem dX11_part_55 : decode cX11_part 55 = .ok (.iload_n 1, 1) := by decide +kernel
theorem dX11_part_56 : decode cX11_part 56 = .ok (.iload 4, 2) := by decide +kernel
theorem dX11_part_58 : decode cX11_part 58 = .ok (.iconst 1, 1) := by decide +kernel
theorem dX11_part_59 : decode cX11_part 59 = .ok (.iadd, 1) := by decide +kernel
theorem dX11_part_60 : decode cX11_part 60 = .ok (.iload_n 3, 1) := by decide +kernel
theorem dX11_part_61 : decode cX11_part 61 = .ok (.iadd, 1) := by decide +kernel
theorem dX11_part_62 : decode cX11_part 62 = .ok (.invokevirtual 169, 3) := by decide +kernel
theorem dX11_part_65 : decode cX11_part 65 = .ok (.goto 4, 3) := by decide +kernel
theorem dX11_part_68 : decode cX11_part 68 = .ok (.iconst (-1), 1) := by decide +kernel
theorem dX11_part_69 : decode cX11_part 69 = .ok (.ireturn, 1) := by decide +kernel
theorem dX11_after0_0 : decode cX11_after0 0 = .ok (.aload_n 0, 1) := by decide +kernel
theorem dX11_after0_1 : decode cX11_after0 1 = .ok (.iload_n 1, 1) := by decide +kernel
theorem dX11_after0_2 : decode cX11_after0 2 = .ok (.iload_n 2, 1) := by decide +kernel
theorem dX11_after0_3 : decode cX11_after0 3 = .ok (.invokevirtual 191, 3) := by decide +kernel
theorem dX11_after0_6 : decode cX11_after0 6 = .ok (.istore_n 3, 1) := by decide +kernel
theorem dX11_after0_7 : decode cX11_after0 7 = .ok (.iload_n 3, 1) := by decide +kernel
theorem dX11_after0_8 : decode cX11_after0 8 = .ok (.iconst (-1), 1) := by decide +kernel
theorem dX11_after0_9 : decode cX11_after0 9 = .ok (.if_icmp .ne 12, 3) := by decide +kernel
theorem dX11_after0_12 : decode cX11_after0 12 = .ok (.aload_n 0, 1) := by decide +kernel
theorem dX11_after0_13 : decode cX11_after0 13 = .ok (.getfield 7, 3) := by decide +kernel
theorem dX11_after0_16 : decode cX11_after0 16 = .ok (.iconst 4, 1) := by decide +kernel
theorem dX11_after0_17 : decode cX11_after0 17 = .ok (.iaload, 1) := by decide +kernel
theorem dX11_after0_18 : decode cX11_after0 18 = .ok (.goto 17, 3) := by decide +kernel
theorem dX11_after0_21 : decode cX11_after0 21 = .ok (.aload_n 0, 1) := by decide +kernel
theorem dX11_after0_22 : decode cX11_after0 22 = .ok (.getfield 7, 3) := by decide +kernel
theorem dX11_after0_25 : decode cX11_after0 25 = .ok (.sipush 669, 3) := by decide +kernel
theorem dX11_after0_28 : decode cX11_after0 28 = .ok (.iconst 3, 1) := by decide +kernel
theorem dX11_after0_29 : decode cX11_after0 29 = .ok (.iload_n 3, 1) := by decide +kernel
theorem dX11_after0_30 : decode cX11_after0 30 = .ok (.imul, 1) := by decide +kernel
theorem dX11_after0_31 : decode cX11_after0 31 = .ok (.iadd, 1) := by decide +kernel
theorem dX11_after0_32 : decode cX11_after0 32 = .ok (.iconst 2, 1) := by decide +kernel
theorem dX11_after0_33 : decode cX11_after0 33 = .ok (.iadd, 1) := by decide +kernel
theorem dX11_after0_34 : decode cX11_after0 34 = .ok (.iaload, 1) := by decide +kernel
theorem dX11_after0_35 : decode cX11_after0 35 = .ok (.ireturn, 1) := by decide +kernel
theorem dX11_after_0 : decode cX11_after 0 = .ok (.aload_n 0, 1) := by decide +kernel
theorem dX11_after_1 : decode cX11_after 1 = .ok (.iload_n 1, 1) := by decide +kernel
theorem dX11_after_2 : decode cX11_after 2 = .ok (.iconst (-1), 1) := by decide +kernel
theorem dX11_after_3 : decode cX11_after 3 = .ok (.if_icmp .eq 11, 3) := by decide +kernel
theorem dX11_after_6 : decode cX11_after 6 = .ok (.aload_n 0, 1) := by decide +kernel
theorem dX11_after_7 : decode cX11_after 7 = .ok (.iload_n 1, 1) := by decide +kernel
theorem dX11_after_8 : decode cX11_after 8 = .ok (.invokevirtual 214, 3) := by decide +kernel
theorem dX11_after_11 : decode cX11_after 11 = .ok (.ifCond .eq 20, 3) := by decide +kernel
theorem dX11_after_14 : decode cX11_after 14 = .ok (.iload_n 2, 1) := by decide +kernel
theorem dX11_after_15 : decode cX11_after 15 = .ok (.iconst (-1), 1) := by decide +kernel
theorem dX11_after_16 : decode cX11_after 16 = .ok (.if_icmp .eq 11, 3) := by decide +kernel
theorem dX11_after_19 : decode cX11_after 19 = .ok (.aload_n 0, 1) := by decide +kernel
theorem dX11_after_20 : decode cX11_after 20 = .ok (.iload_n 2, 1) := by decide +kernel
theorem dX11_after_21 : decode cX11_after 21 = .ok (.invokevirtual 214, 3) := by decide +kernel
theorem dX11_after_24 : decode cX11_after 24 = .ok (.ifCond .eq 7, 3) := by decide +kernel
theorem dX11_after_27 : decode cX11_after 27 = .ok (.iconst 0, 1) := by decide +kernel
theorem dX11_after_28 : decode cX11_after 28 = .ok (.goto 4, 3) := by decide +kernel
theorem dX11_after_31 : decode cX11_after 31 = .ok (.iconst 1, 1) := by decide +kernel
theorem dX11_after_32 : decode cX11_after 32 = .ok (.putfield 100, 3) := by decide +kernel
theorem dX11_after_35 : decode cX11_after 35 = .ok (.aload_n 0, 1) := by decide +kernel
theorem dX11_after_36 : decode cX11_after 36 = .ok (.getfield 100, 3) := by decide +kernel
theorem dX11_after_39 : decode cX11_after 39 = .ok (.ifCond .le 7, 3) := by decide +kernel
theorem dX11_after_42 : decode cX11_after 42 = .ok (.iconst 0, 1) := by decide +kernel
theorem dX11_after_43 : decode cX11_after 43 = .ok (.goto 9, 3) := by decide +kernel
theorem dX11_after_46 : decode cX11_after 46 = .ok (.aload_n 0, 1) := by decide +kernel
theorem dX11_after_47 : decode cX11_after 47 = .ok (.iload_n 1, 1) := by decide +kernel
theorem dX11_after_48 : decode cX11_after 48 = .ok (.iload_n 2, 1) := by decide +kernel
theorem dX11_after_49 : decode cX11_after 49 = .ok (.invokevirtual 230, 3) := by decide +kernel
theorem dX11_after_52 : decode cX11_after 52 = .ok (.ireturn, 1) := by decide +kernel
theorem dX11_place_0 : decode cX11_place 0 = .ok (.aload_n 0, 1) := by decide +kernel
theorem dX11_place_1 : decode cX11_place 1 = .ok (.aload_n 0, 1) := by decide +kernel
theorem dX11_place_2 : decode cX11_place 2 = .ok (.iload_n 1, 1) := by decide +kernel
theorem dX11_place_3 : decode cX11_place 3 = .ok (.invokevirtual 233, 3) := by decide +kernel
theorem dX11_place_6 : decode cX11_place 6 = .ok (.ifCond .eq 7, 3) := by decide +kernel
theorem dX11_place_9 : decode cX11_place 9 = .ok (.iconst 0, 1) := by decide +kernel
theorem dX11_place_10 : decode cX11_place 10 = .ok (.goto 4, 3) := by decide +kernel
theorem dX11_place_13 : decode cX11_place 13 = .ok (.iconst 1, 1) := by decide +kernel
theorem dX11_place_14 : decode cX11_place 14 = .ok (.putfield 100, 3) := by decide +kernel
theorem dX11_place_17 : decode cX11_place 17 = .ok (.aload_n 0, 1) := by decide +kernel
theorem dX11_place_18 : decode cX11_place 18 = .ok (.getfield 100, 3) := by decide +kernel
theorem dX11_place_21 : decode cX11_place 21 = .ok (.ifCond .le 7, 3) := by decide +kernel
theorem dX11_place_24 : decode cX11_place 24 = .ok (.iconst 0, 1) := by decide +kernel
theorem dX11_place_25 : decode cX11_place 25 = .ok (.goto 13, 3) := by decide +kernel
theorem dX11_place_28 : decode cX11_place 28 = .ok (.aload_n 0, 1) := by decide +kernel
theorem dX11_place_29 : decode cX11_place 29 = .ok (.getfield 7, 3) := by decide +kernel
theorem dX11_place_32 : decode cX11_place 32 = .ok (.sipush 849, 3) := by decide +kernel
theorem dX11_place_35 : decode cX11_place 35 = .ok (.iload_n 1, 1) := by decide +kernel
theorem dX11_place_36 : decode cX11_place 36 = .ok (.iadd, 1) := by decide +kernel
theorem dX11_place_37 : decode cX11_place 37 = .ok (.iaload, 1) := by decide +kernel
theorem dX11_place_38 : decode cX11_place 38 = .ok (.ireturn, 1) := by decide +kernel
theorem dX11_put_0 : decode cX11_put 0 = .ok (.aload_n 0, 1) := by decide +kernel
theorem dX11_put_1 : decode cX11_put 1 = .ok (.aload_n 0, 1) := by decide +kernel
theorem dX11_put_2 : decode cX11_put 2 = .ok (.iload_n 1, 1) := by decide +kernel
theorem dX11_put_3 : decode cX11_put 3 = .ok (.invokevirtual 233, 3) := by decide +kernel
theorem dX11_put_6 : decode cX11_put 6 = .ok (.ifCond .eq 15, 3) := by decide +kernel
theorem dX11_put_9 : decode cX11_put 9 = .ok (.aload_n 0, 1) := by decide +kernel
theorem dX11_put_10 : decode cX11_put 10 = .ok (.iload_n 2, 1) := by decide +kernel
theorem dX11_put_11 : decode cX11_put 11 = .ok (.invokevirtual 214, 3) := by decide +kernel
theorem dX11_put_14 : decode cX11_put 14 = .ok (.ifCond .eq 7, 3) := by decide +kernel
theorem dX11_put_17 : decode cX11_put 17 = .ok (.iconst 0, 1) := by decide +kernel
theorem dX11_put_18 : decode cX11_put 18 = .ok (.goto 4, 3) := by decide +kernel
theorem dX11_put_21 : decode cX11_put 21 = .ok (.iconst 1, 1) := by decide +kernel
theorem dX11_put_22 : decode cX11_put 22 = .ok (.putfield 100, 3) := by decide +kernel
theorem dX11_put_25 : decode cX11_put 25 = .ok (.aload_n 0, 1) := by decide +kernel
theorem dX11_put_26 : decode cX11_put 26 = .ok (.getfield 100, 3) := by decide +kernel
theorem dX11_put_29 : decode cX11_put 29 = .ok (.ifCond .le 5, 3) := by decide +kernel
theorem dX11_put_32 : decode cX11_put 32 = .ok (.iconst 0, 1) := by decide +kernel
theorem dX11_put_33 : decode cX11_put 33 = .ok (.ireturn, 1) := by decide +kernel
theorem dX11_put_34 : decode cX11_put 34 = .ok (.aload_n 0, 1) := by decide +kernel
theorem dX11_put_35 : decode cX11_put 35 = .ok (.getfield 7, 3) := by decide +kernel
theorem dX11_put_38 : decode cX11_put 38 = .ok (.sipush 849, 3) := by decide +kernel
theorem dX11_put_41 : decode cX11_put 41 = .ok (.iload_n 1, 1) := by decide +kernel
theorem dX11_put_42 : decode cX11_put 42 = .ok (.iadd, 1) := by decide +kernel
theorem dX11_put_43 : decode cX11_put 43 = .ok (.iaload, 1) := by decide +kernel
theorem dX11_put_44 : decode cX11_put 44 = .ok (.istore_n 3, 1) := by decide +kernel
theorem dX11_put_45 : decode cX11_put 45 = .ok (.aload_n 0, 1) := by decide +kernel
theorem dX11_put_46 : decode cX11_put 46 = .ok (.getfield 7, 3) := by decide +kernel
theorem dX11_put_49 : decode cX11_put 49 = .ok (.sipush 849, 3) := by decide +kernel
theorem dX11_put_52 : decode cX11_put 52 = .ok (.iload_n 1, 1) := by decide +kernel
theorem dX11_put_53 : decode cX11_put 53 = .ok (.iadd, 1) := by decide +kernel
theorem dX11_put_54 : decode cX11_put 54 = .ok (.iload_n 2, 1) := by decide +kernel
theorem dX11_put_55 : decode cX11_put 55 = .ok (.iastore, 1) := by decide +kernel
theorem dX11_put_56 : decode cX11_put 56 = .ok (.aload_n 0, 1) := by decide +kernel
theorem dX11_put_57 : decode cX11_put 57 = .ok (.iconst 0, 1) := by decide +kernel
theorem dX11_put_58 : decode cX11_put 58 = .ok (.putfield 125, 3) := by decide +kernel
theorem dX11_put_61 : decode cX11_put 61 = .ok (.iload_n 3, 1) := by decide +kernel
theorem dX11_put_62 : decode cX11_put 62 = .ok (.ireturn, 1) := by decide +kernel
theorem dX11_price_0 : decode cX11_price 0 = .ok (.aload_n 0, 1) := by decide +kernel
theorem dX11_price_1 : decode cX11_price 1 = .ok (.aload_n 0, 1) := by decide +kernel
theorem dX11_price_2 : decode cX11_price 2 = .ok (.iload_n 1, 1) := by decide +kernel
theorem dX11_price_3 : decode cX11_price 3 = .ok (.invokevirtual 221, 3) := by decide +kernel
theorem dX11_price_6 : decode cX11_price 6 = .ok (.ifCond .ne 7, 3) := by decide +kernel
theorem dX11_price_9 : decode cX11_price 9 = .ok (.iconst 1, 1) := by decide +kernel
theorem dX11_price_10 : decode cX11_price 10 = .ok (.goto 18, 3) := by decide +kernel
theorem dX11_price_13 : decode cX11_price 13 = .ok (.iload_n 2, 1) := by decide +kernel
theorem dX11_price_14 : decode cX11_price 14 = .ok (.iconst 0, 1) := by decide +kernel
theorem dX11_price_15 : decode cX11_price 15 = .ok (.bipush 99, 2) := by decide +kernel
theorem dX11_price_17 : decode cX11_price 17 = .ok (.invokestatic 103, 3) := by decide +kernel
theorem dX11_price_20 : decode cX11_price 20 = .ok (.ifCond .ne 7, 3) := by decide +kernel
theorem dX11_price_23 : decode cX11_price 23 = .ok (.iconst 2, 1) := by decide +kernel
theorem dX11_price_24 : decode cX11_price 24 = .ok (.goto 4, 3) := by decide +kernel
theorem dX11_price_27 : decode cX11_price 27 = .ok (.iconst 0, 1) := by decide +kernel
theorem dX11_price_28 : decode cX11_price 28 = .ok (.putfield 100, 3) := by decide +kernel
theorem dX11_price_31 : decode cX11_price 31 = .ok (.aload_n 0, 1) := by decide +kernel
theorem dX11_price_32 : decode cX11_price 32 = .ok (.getfield 100, 3) := by decide +kernel
theorem dX11_price_35 : decode cX11_price 35 = .ok (.ifCond .le 5, 3) := by decide +kernel
theorem dX11_price_38 : decode cX11_price 38 = .ok (.iconst 0, 1) := by decide +kernel
theorem dX11_price_39 : decode cX11_price 39 = .ok (.ireturn, 1) := by decide +kernel
theorem dX11_price_40 : decode cX11_price 40 = .ok (.aload_n 0, 1) := by decide +kernel
theorem dX11_price_41 : decode cX11_price 41 = .ok (.iload_n 1, 1) := by decide +kernel
theorem dX11_price_42 : decode cX11_price 42 = .ok (.bipush 8, 2) := by decide +kernel
theorem dX11_price_44 : decode cX11_price 44 = .ok (.invokevirtual 169, 3) := by decide +kernel
theorem dX11_price_47 : decode cX11_price 47 = .ok (.istore_n 3, 1) := by decide +kernel
theorem dX11_price_48 : decode cX11_price 48 = .ok (.aload_n 0, 1) := by decide +kernel
theorem dX11_price_49 : decode cX11_price 49 = .ok (.getfield 7, 3) := by decide +kernel
theorem dX11_price_52 : decode cX11_price 52 = .ok (.sipush 369, 3) := by decide +kernel
theorem dX11_price_55 : decode cX11_price 55 = .ok (.bipush 10, 2) := by decide +kernel
theorem dX11_price_57 : decode cX11_price 57 = .ok (.iload_n 1, 1) := by decide +kernel
theorem dX11_price_58 : decode cX11_price 58 = .ok (.imul, 1) := by decide +kernel
theorem dX11_price_59 : decode cX11_price 59 = .ok (.iadd, 1) := by decide +kernel
theorem dX11_price_60 : decode cX11_price 60 = .ok (.bipush 8, 2) := by decide +kernel
theorem dX11_price_62 : decode cX11_price 62 = .ok (.iadd, 1) := by decide +kernel
theorem dX11_price_63 : decode cX11_price 63 = .ok (.iload_n 2, 1) := by decide +kernel
theorem dX11_price_64 : decode cX11_price 64 = .ok (.iastore, 1) := by decide +kernel
theorem dX11_price_65 : decode cX11_price 65 = .ok (.aload_n 0, 1) := by decide +kernel
theorem dX11_price_66 : decode cX11_price 66 = .ok (.iconst 0, 1) := by decide +kernel
theorem dX11_price_67 : decode cX11_price 67 = .ok (.putfield 125, 3) := by decide +kernel
theorem dX11_price_70 : decode cX11_price 70 = .ok (.iload_n 3, 1) := by decide +kernel
theorem dX11_price_71 : decode cX11_price 71 = .ok (.ireturn, 1) := by decide +kernel
theorem dX11_drop_0 : decode cX11_drop 0 = .ok (.aload_n 0, 1) := by decide +kernel
theorem dX11_drop_1 : decode cX11_drop 1 = .ok (.aload_n 0, 1) := by decide +kernel
theorem dX11_drop_2 : decode cX11_drop 2 = .ok (.iload_n 1, 1) := by decide +kernel
theorem dX11_drop_3 : decode cX11_drop 3 = .ok (.invokevirtual 221, 3) := by decide +kernel
theorem dX11_drop_6 : decode cX11_drop 6 = .ok (.ifCond .eq 7, 3) := by decide +kernel
theorem dX11_drop_9 : decode cX11_drop 9 = .ok (.iconst 0, 1) := by decide +kernel
theorem dX11_drop_10 : decode cX11_drop 10 = .ok (.goto 4, 3) := by decide +kernel
theorem dX11_drop_13 : decode cX11_drop 13 = .ok (.iconst 1, 1) := by decide +kernel
theorem dX11_drop_14 : decode cX11_drop 14 = .ok (.putfield 100, 3) := by decide +kernel
theorem dX11_drop_17 : decode cX11_drop 17 = .ok (.aload_n 0, 1) := by decide +kernel
theorem dX11_drop_18 : decode cX11_drop 18 = .ok (.getfield 100, 3) := by decide +kernel
theorem dX11_drop_21 : decode cX11_drop 21 = .ok (.ifCond .le 5, 3) := by decide +kernel
theorem dX11_drop_24 : decode cX11_drop 24 = .ok (.iconst 0, 1) := by decide +kernel
theorem dX11_drop_25 : decode cX11_drop 25 = .ok (.ireturn, 1) := by decide +kernel
theorem dX11_drop_26 : decode cX11_drop 26 = .ok (.aload_n 0, 1) := by decide +kernel
theorem dX11_drop_27 : decode cX11_drop 27 = .ok (.iload_n 1, 1) := by decide +kernel
theorem dX11_drop_28 : decode cX11_drop 28 = .ok (.bipush 9, 2) := by decide +kernel
theorem dX11_drop_30 : decode cX11_drop 30 = .ok (.invokevirtual 169, 3) := by decide +kernel
theorem dX11_drop_33 : decode cX11_drop 33 = .ok (.iconst 1, 1) := by decide +kernel
theorem dX11_drop_34 : decode cX11_drop 34 = .ok (.if_icmp .ne 7, 3) := by decide +kernel
theorem dX11_drop_37 : decode cX11_drop 37 = .ok (.iconst 1, 1) := by decide +kernel
theorem dX11_drop_38 : decode cX11_drop 38 = .ok (.goto 4, 3) := by decide +kernel
theorem dX11_drop_41 : decode cX11_drop 41 = .ok (.iconst 0, 1) := by decide +kernel
theorem dX11_drop_42 : decode cX11_drop 42 = .ok (.istore_n 3, 1) := by decide +kernel
theorem dX11_drop_43 : decode cX11_drop 43 = .ok (.aload_n 0, 1) := by decide +kernel
theorem dX11_drop_44 : decode cX11_drop 44 = .ok (.iload_n 3, 1) := by decide +kernel
theorem dX11_drop_45 : decode cX11_drop 45 = .ok (.ifCond .eq 32, 3) := by decide +kernel
theorem dX11_drop_48 : decode cX11_drop 48 = .ok (.iload_n 2, 1) := by decide +kernel
theorem dX11_drop_49 : decode cX11_drop 49 = .ok (.ifCond .ne 28, 3) := by decide +kernel
theorem dX11_drop_52 : decode cX11_drop 52 = .ok (.aload_n 0, 1) := by decide +kernel
theorem dX11_drop_53 : decode cX11_drop 53 = .ok (.aload_n 0, 1) := by decide +kernel
theorem dX11_drop_54 : decode cX11_drop 54 = .ok (.getfield 7, 3) := by decide +kernel
theorem dX11_drop_57 : decode cX11_drop 57 = .ok (.sipush 369, 3) := by decide +kernel
theorem dX11_drop_60 : decode cX11_drop 60 = .ok (.bipush 10, 2) := by decide +kernel
theorem dX11_drop_62 : decode cX11_drop 62 = .ok (.iload_n 1, 1) := by decide +kernel
theorem dX11_drop_63 : decode cX11_drop 63 = .ok (.imul, 1) := by decide +kernel
theorem dX11_drop_64 : decode cX11_drop 64 = .ok (.iadd, 1) := by decide +kernel
theorem dX11_drop_65 : decode cX11_drop 65 = .ok (.iload_n 1, 1) := by decide +kernel
theorem dX11_drop_66 : decode cX11_drop 66 = .ok (.invokevirtual 180, 3) := by decide +kernel
theorem dX11_drop_69 : decode cX11_drop 69 = .ok (.iconst (-1), 1) := by decide +kernel
theorem dX11_drop_70 : decode cX11_drop 70 = .ok (.if_icmp .eq 7, 3) := by decide +kernel
theorem dX11_drop_73 : decode cX11_drop 73 = .ok (.iconst 2, 1) := by decide +kernel
theorem dX11_drop_74 : decode cX11_drop 74 = .ok (.goto 4, 3) := by decide +kernel
theorem dX11_drop_77 : decode cX11_drop 77 = .ok (.iconst 0, 1) := by decide +kernel
theorem dX11_drop_78 : decode cX11_drop 78 = .ok (.putfield 100, 3) := by decide +kernel
theorem dX11_drop_81 : decode cX11_drop 81 = .ok (.aload_n 0, 1) := by decide +kernel
theorem dX11_drop_82 : decode cX11_drop 82 = .ok (.getfield 100, 3) := by decide +kernel
theorem dX11_drop_85 : decode cX11_drop 85 = .ok (.ifCond .le 5, 3) := by decide +kernel
theorem dX11_drop_88 : decode cX11_drop 88 = .ok (.iconst 0, 1) := by decide +kernel
theorem dX11_drop_89 : decode cX11_drop 89 = .ok (.ireturn, 1) := by decide +kernel
theorem dX11_drop_90 : decode cX11_drop 90 = .ok (.aload_n 0, 1) := by decide +kernel
theorem dX11_drop_91 : decode cX11_drop 91 = .ok (.getfield 7, 3) := by decide +kernel
theorem dX11_drop_94 : decode cX11_drop 94 = .ok (.sipush 369, 3) := by decide +kernel
theorem dX11_drop_97 : decode cX11_drop 97 = .ok (.bipush 10, 2) := by decide +kernel
theorem dX11_drop_99 : decode cX11_drop 99 = .ok (.iload_n 1, 1) := by decide +kernel
theorem dX11_drop_100 : decode cX11_drop 100 = .ok (.imul, 1) := by decide +kernel
theorem dX11_drop_101 : decode cX11_drop 101 = .ok (.iadd, 1) := by decide +kernel
theorem dX11_drop_102 : decode cX11_drop 102 = .ok (.bipush 9, 2) := by decide +kernel
theorem dX11_drop_104 : decode cX11_drop 104 = .ok (.iadd, 1) := by decide +kernel
theorem dX11_drop_105 : decode cX11_drop 105 = .ok (.iload_n 2, 1) := by decide +kernel
theorem dX11_drop_106 : decode cX11_drop 106 = .ok (.ifCond .eq 7, 3) := by decide +kernel
theorem dX11_drop_109 : decode cX11_drop 109 = .ok (.iconst 1, 1) := by decide +kernel
theorem dX11_drop_110 : decode cX11_drop 110 = .ok (.goto 4, 3) := by decide +kernel
theorem dX11_drop_113 : decode cX11_drop 113 = .ok (.iconst 0, 1) := by decide +kernel
theorem dX11_drop_114 : decode cX11_drop 114 = .ok (.iastore, 1) := by decide +kernel
theorem dX11_drop_115 : decode cX11_drop 115 = .ok (.aload_n 0, 1) := by decide +kernel
theorem dX11_drop_116 : decode cX11_drop 116 = .ok (.iconst 0, 1) := by decide +kernel
theorem dX11_drop_117 : decode cX11_drop 117 = .ok (.putfield 125, 3) := by decide +kernel
theorem dX11_drop_120 : decode cX11_drop 120 = .ok (.iload_n 3, 1) := by decide +kernel
theorem dX11_drop_121 : decode cX11_drop 121 = .ok (.iload_n 2, 1) := by decide +kernel
theorem dX11_drop_122 : decode cX11_drop 122 = .ok (.if_icmp .eq 7, 3) := by decide +kernel
theorem dX11_drop_125 : decode cX11_drop 125 = .ok (.iconst 1, 1) := by decide +kernel
theorem dX11_drop_126 : decode cX11_drop 126 = .ok (.goto 4, 3) := by decide +kernel
theorem dX11_drop_129 : decode cX11_drop 129 = .ok (.iconst 0, 1) := by decide +kernel
theorem dX11_drop_130 : decode cX11_drop 130 = .ok (.ireturn, 1) := by decide +kernel
theorem dX11_tune_0 : decode cX11_tune 0 = .ok (.aload_n 0, 1) := by decide +kernel
theorem dX11_tune_1 : decode cX11_tune 1 = .ok (.iload_n 1, 1) := by decide +kernel
theorem dX11_tune_2 : decode cX11_tune 2 = .ok (.iconst 0, 1) := by decide +kernel
theorem dX11_tune_3 : decode cX11_tune 3 = .ok (.iconst 4, 1) := by decide +kernel
theorem dX11_tune_4 : decode cX11_tune 4 = .ok (.invokestatic 103, 3) := by decide +kernel
theorem dX11_tune_7 : decode cX11_tune 7 = .ok (.ifCond .ne 7, 3) := by decide +kernel
theorem dX11_tune_10 : decode cX11_tune 10 = .ok (.iconst 1, 1) := by decide +kernel
theorem dX11_tune_11 : decode cX11_tune 11 = .ok (.goto 4, 3) := by decide +kernel
theorem dX11_tune_14 : decode cX11_tune 14 = .ok (.iconst 0, 1) := by decide +kernel
theorem dX11_tune_15 : decode cX11_tune 15 = .ok (.putfield 100, 3) := by decide +kernel
theorem dX11_tune_18 : decode cX11_tune 18 = .ok (.aload_n 0, 1) := by decide +kernel
theorem dX11_tune_19 : decode cX11_tune 19 = .ok (.getfield 100, 3) := by decide +kernel
theorem dX11_tune_22 : decode cX11_tune 22 = .ok (.ifCond .le 5, 3) := by decide +kernel
theorem dX11_tune_25 : decode cX11_tune 25 = .ok (.iconst 0, 1) := by decide +kernel
theorem dX11_tune_26 : decode cX11_tune 26 = .ok (.ireturn, 1) := by decide +kernel
theorem dX11_tune_27 : decode cX11_tune 27 = .ok (.iload_n 1, 1) := by decide +kernel
theorem dX11_tune_28 : decode cX11_tune 28 = .ok (.iconst 2, 1) := by decide +kernel
theorem dX11_tune_29 : decode cX11_tune 29 = .ok (.if_icmp .ge 8, 3) := by decide +kernel
theorem dX11_tune_32 : decode cX11_tune 32 = .ok (.bipush 99, 2) := by decide +kernel
theorem dX11_tune_34 : decode cX11_tune 34 = .ok (.goto 25, 3) := by decide +kernel
theorem dX11_tune_37 : decode cX11_tune 37 = .ok (.iload_n 1, 1) := by decide +kernel
theorem dX11_tune_38 : decode cX11_tune 38 = .ok (.iconst 2, 1) := by decide +kernel
theorem dX11_tune_39 : decode cX11_tune 39 = .ok (.if_icmp .ne 8, 3) := by decide +kernel
theorem dX11_tune_42 : decode cX11_tune 42 = .ok (.bipush 20, 2) := by decide +kernel
theorem dX11_tune_44 : decode cX11_tune 44 = .ok (.goto 15, 3) := by decide +kernel
theorem dX11_tune_47 : decode cX11_tune 47 = .ok (.iload_n 1, 1) := by decide +kernel
theorem dX11_tune_48 : decode cX11_tune 48 = .ok (.iconst 3, 1) := by decide +kernel
theorem dX11_tune_49 : decode cX11_tune 49 = .ok (.if_icmp .ne 8, 3) := by decide +kernel
theorem dX11_tune_52 : decode cX11_tune 52 = .ok (.bipush 6, 2) := by decide +kernel
theorem dX11_tune_54 : decode cX11_tune 54 = .ok (.goto 5, 3) := by decide +kernel
theorem dX11_tune_57 : decode cX11_tune 57 = .ok (.bipush 40, 2) := by decide +kernel
theorem dX11_tune_59 : decode cX11_tune 59 = .ok (.istore_n 3, 1) := by decide +kernel
theorem dX11_tune_60 : decode cX11_tune 60 = .ok (.aload_n 0, 1) := by decide +kernel
theorem dX11_tune_61 : decode cX11_tune 61 = .ok (.iload_n 2, 1) := by decide +kernel
theorem dX11_tune_62 : decode cX11_tune 62 = .ok (.iload_n 1, 1) := by decide +kernel
theorem dX11_tune_63 : decode cX11_tune 63 = .ok (.iconst 4, 1) := by decide +kernel
theorem dX11_tune_64 : decode cX11_tune 64 = .ok (.if_icmp .ne 7, 3) := by decide +kernel
theorem dX11_tune_67 : decode cX11_tune 67 = .ok (.iconst 1, 1) := by decide +kernel
theorem dX11_tune_68 : decode cX11_tune 68 = .ok (.goto 4, 3) := by decide +kernel
theorem dX11_tune_71 : decode cX11_tune 71 = .ok (.iconst 0, 1) := by decide +kernel
theorem dX11_tune_72 : decode cX11_tune 72 = .ok (.iload_n 3, 1) := by decide +kernel
theorem dX11_tune_73 : decode cX11_tune 73 = .ok (.invokestatic 103, 3) := by decide +kernel
theorem dX11_tune_76 : decode cX11_tune 76 = .ok (.ifCond .eq 7, 3) := by decide +kernel
theorem dX11_tune_79 : decode cX11_tune 79 = .ok (.iconst 0, 1) := by decide +kernel
theorem dX11_tune_80 : decode cX11_tune 80 = .ok (.goto 4, 3) := by decide +kernel
theorem dX11_tune_83 : decode cX11_tune 83 = .ok (.iconst 2, 1) := by decide +kernel
theorem dX11_tune_84 : decode cX11_tune 84 = .ok (.putfield 100, 3) := by decide +kernel
theorem dX11_tune_87 : decode cX11_tune 87 = .ok (.aload_n 0, 1) := by decide +kernel
theorem dX11_tune_88 : decode cX11_tune 88 = .ok (.getfield 100, 3) := by decide +kernel
theorem dX11_tune_91 : decode cX11_tune 91 = .ok (.ifCond .le 5, 3) := by decide +kernel
theorem dX11_tune_94 : decode cX11_tune 94 = .ok (.iconst 0, 1) := by decide +kernel
theorem dX11_tune_95 : decode cX11_tune 95 = .ok (.ireturn, 1) := by decide +kernel
theorem dX11_tune_96 : decode cX11_tune 96 = .ok (.aload_n 0, 1) := by decide +kernel
theorem dX11_tune_97 : decode cX11_tune 97 = .ok (.getfield 7, 3) := by decide +kernel
theorem dX11_tune_100 : decode cX11_tune 100 = .ok (.iconst 4, 1) := by decide +kernel
theorem dX11_tune_101 : decode cX11_tune 101 = .ok (.iload_n 1, 1) := by decide +kernel
theorem dX11_tune_102 : decode cX11_tune 102 = .ok (.iadd, 1) := by decide +kernel
theorem dX11_tune_103 : decode cX11_tune 103 = .ok (.iaload, 1) := by decide +kernel
theorem dX11_tune_104 : decode cX11_tune 104 = .ok (.istore 4, 2) := by decide +kernel
theorem dX11_tune_106 : decode cX11_tune 106 = .ok (.aload_n 0, 1) := by decide +kernel
theorem dX11_tune_107 : decode cX11_tune 107 = .ok (.getfield 7, 3) := by decide +kernel
theorem dX11_tune_110 : decode cX11_tune 110 = .ok (.iconst 4, 1) := by decide +kernel
theorem dX11_tune_111 : decode cX11_tune 111 = .ok (.iload_n 1, 1) := by decide +kernel
theorem dX11_tune_112 : decode cX11_tune 112 = .ok (.iadd, 1) := by decide +kernel
theorem dX11_tune_113 : decode cX11_tune 113 = .ok (.iload_n 2, 1) := by decide +kernel
theorem dX11_tune_114 : decode cX11_tune 114 = .ok (.iastore, 1) := by decide +kernel
theorem dX11_tune_115 : decode cX11_tune 115 = .ok (.aload_n 0, 1) := by decide +kernel
theorem dX11_tune_116 : decode cX11_tune 116 = .ok (.iconst 0, 1) := by decide +kernel
theorem dX11_tune_117 : decode cX11_tune 117 = .ok (.putfield 125, 3) := by decide +kernel
theorem dX11_tune_120 : decode cX11_tune 120 = .ok (.iload 4, 2) := by decide +kernel
theorem dX11_tune_122 : decode cX11_tune 122 = .ok (.ireturn, 1) := by decide +kernel
theorem dX11_covers_0 : decode cX11_covers 0 = .ok (.iload_n 1, 1) := by decide +kernel
theorem dX11_covers_1 : decode cX11_covers 1 = .ok (.bipush 99, 2) := by decide +kernel
theorem dX11_covers_3 : decode cX11_covers 3 = .ok (.if_icmp .ne 7, 3) := by decide +kernel
theorem dX11_covers_6 : decode cX11_covers 6 = .ok (.iconst 1, 1) := by decide +kernel
theorem dX11_covers_7 : decode cX11_covers 7 = .ok (.goto 9, 3) := by decide +kernel
theorem dX11_covers_10 : decode cX11_covers 10 = .ok (.aload_n 0, 1) := by decide +kernel
theorem dX11_covers_11 : decode cX11_covers 11 = .ok (.iload_n 1, 1) := by decide +kernel
theorem dX11_covers_12 : decode cX11_covers 12 = .ok (.iconst 0, 1) := by decide +kernel
theorem dX11_covers_13 : decode cX11_covers 13 = .ok (.invokevirtual 169, 3) := by decide +kernel
theorem dX11_covers_16 : decode cX11_covers 16 = .ok (.ireturn, 1) := by decide +kernel
theorem dX11_isOption_0 : decode cX11_isOption 0 = .ok (.iload_n 1, 1) := by decide +kernel
theorem dX11_isOption_1 : decode cX11_isOption 1 = .ok (.bipush 99, 2) := by decide +kernel
theorem dX11_isOption_3 : decode cX11_isOption 3 = .ok (.if_icmp .ne 9, 3) := by decide +kernel
theorem dX11_isOption_6 : decode cX11_isOption 6 = .ok (.aload_n 0, 1) := by decide +kernel
theorem dX11_isOption_7 : decode cX11_isOption 7 = .ok (.iload_n 2, 1) := by decide +kernel
theorem dX11_isOption_8 : decode cX11_isOption 8 = .ok (.invokevirtual 233, 3) := by decide +kernel
theorem dX11_isOption_11 : decode cX11_isOption 11 = .ok (.ireturn, 1) := by decide +kernel
theorem dX11_isOption_12 : decode cX11_isOption 12 = .ok (.aload_n 0, 1) := by decide +kernel
theorem dX11_isOption_13 : decode cX11_isOption 13 = .ok (.iload_n 1, 1) := by decide +kernel
theorem dX11_isOption_14 : decode cX11_isOption 14 = .ok (.bipush 9, 2) := by decide +kernel
theorem dX11_isOption_16 : decode cX11_isOption 16 = .ok (.invokevirtual 169, 3) := by decide +kernel
theorem dX11_isOption_19 : decode cX11_isOption 19 = .ok (.iconst 1, 1) := by decide +kernel
theorem dX11_isOption_20 : decode cX11_isOption 20 = .ok (.if_icmp .eq 19, 3) := by decide +kernel
theorem dX11_isOption_23 : decode cX11_isOption 23 = .ok (.iload_n 2, 1) := by decide +kernel
theorem dX11_isOption_24 : decode cX11_isOption 24 = .ok (.aload_n 0, 1) := by decide +kernel
theorem dX11_isOption_25 : decode cX11_isOption 25 = .ok (.iload_n 1, 1) := by decide +kernel
theorem dX11_isOption_26 : decode cX11_isOption 26 = .ok (.invokevirtual 236, 3) := by decide +kernel
theorem dX11_isOption_29 : decode cX11_isOption 29 = .ok (.iadd, 1) := by decide +kernel
theorem dX11_isOption_30 : decode cX11_isOption 30 = .ok (.aload_n 0, 1) := by decide +kernel
theorem dX11_isOption_31 : decode cX11_isOption 31 = .ok (.getfield 7, 3) := by decide +kernel
theorem dX11_isOption_34 : decode cX11_isOption 34 = .ok (.iconst 3, 1) := by decide +kernel
theorem dX11_isOption_35 : decode cX11_isOption 35 = .ok (.iaload, 1) := by decide +kernel
theorem dX11_isOption_36 : decode cX11_isOption 36 = .ok (.if_icmp .le 5, 3) := by decide +kernel
theorem dX11_isOption_39 : decode cX11_isOption 39 = .ok (.iconst 0, 1) := by decide +kernel
theorem dX11_isOption_40 : decode cX11_isOption 40 = .ok (.ireturn, 1) := by decide +kernel
theorem dX11_isOption_41 : decode cX11_isOption 41 = .ok (.iconst 0, 1) := by decide +kernel
theorem dX11_isOption_42 : decode cX11_isOption 42 = .ok (.istore_n 3, 1) := by decide +kernel
theorem dX11_isOption_43 : decode cX11_isOption 43 = .ok (.iload_n 3, 1) := by decide +kernel
theorem dX11_isOption_44 : decode cX11_isOption 44 = .ok (.aload_n 0, 1) := by decide +kernel
theorem dX11_isOption_45 : decode cX11_isOption 45 = .ok (.iload_n 1, 1) := by decide +kernel
theorem dX11_isOption_46 : decode cX11_isOption 46 = .ok (.invokevirtual 236, 3) := by decide +kernel
theorem dX11_isOption_49 : decode cX11_isOption 49 = .ok (.if_icmp .ge 34, 3) := by decide +kernel
theorem dX11_isOption_52 : decode cX11_isOption 52 = .ok (.aload_n 0, 1) := by decide +kernel
theorem dX11_isOption_53 : decode cX11_isOption 53 = .ok (.iload_n 1, 1) := by decide +kernel
theorem dX11_isOption_54 : decode cX11_isOption 54 = .ok (.iconst 1, 1) := by decide +kernel
theorem dX11_isOption_55 : decode cX11_isOption 55 = .ok (.iload_n 3, 1) := by decide +kernel
theorem dX11_isOption_56 : decode cX11_isOption 56 = .ok (.iadd, 1) := by decide +kernel
theorem dX11_isOption_57 : decode cX11_isOption 57 = .ok (.invokevirtual 169, 3) := by decide +kernel
theorem dX11_isOption_60 : decode cX11_isOption 60 = .ok (.aload_n 0, 1) := by decide +kernel
theorem dX11_isOption_61 : decode cX11_isOption 61 = .ok (.getfield 7, 3) := by decide +kernel
theorem dX11_isOption_64 : decode cX11_isOption 64 = .ok (.sipush 849, 3) := by decide +kernel
theorem dX11_isOption_67 : decode cX11_isOption 67 = .ok (.iload_n 2, 1) := by decide +kernel
theorem dX11_isOption_68 : decode cX11_isOption 68 = .ok (.iadd, 1) := by decide +kernel
theorem dX11_isOption_69 : decode cX11_isOption 69 = .ok (.iload_n 3, 1) := by decide +kernel
theorem dX11_isOption_70 : decode cX11_isOption 70 = .ok (.iadd, 1) := by decide +kernel
theorem dX11_isOption_71 : decode cX11_isOption 71 = .ok (.iaload, 1) := by decide +kernel
theorem dX11_isOption_72 : decode cX11_isOption 72 = .ok (.if_icmp .eq 5, 3) := by decide +kernel
theorem dX11_isOption_75 : decode cX11_isOption 75 = .ok (.iconst 0, 1) := by decide +kernel
theorem dX11_isOption_76 : decode cX11_isOption 76 = .ok (.ireturn, 1) := by decide +kernel
theorem dX11_isOption_77 : decode cX11_isOption 77 = .ok (.iinc 3 1, 3) := by decide +kernel
theorem dX11_isOption_80 : decode cX11_isOption 80 = .ok (.goto (-37), 3) := by decide +kernel
theorem dX11_isOption_83 : decode cX11_isOption 83 = .ok (.iconst 1, 1) := by decide +kernel
theorem dX11_isOption_84 : decode cX11_isOption 84 = .ok (.ireturn, 1) := by decide +kernel
theorem dX11_next_0 : decode cX11_next 0 = .ok (.iload_n 1, 1) := by decide +kernel
theorem dX11_next_1 : decode cX11_next 1 = .ok (.iconst 1, 1) := by decide +kernel
theorem dX11_next_2 : decode cX11_next 2 = .ok (.iadd, 1) := by decide +kernel
theorem dX11_next_3 : decode cX11_next 3 = .ok (.istore_n 2, 1) := by decide +kernel
theorem dX11_next_4 : decode cX11_next 4 = .ok (.iload_n 2, 1) := by decide +kernel
theorem dX11_next_5 : decode cX11_next 5 = .ok (.aload_n 0, 1) := by decide +kernel
theorem dX11_next_6 : decode cX11_next 6 = .ok (.getfield 7, 3) := by decide +kernel
theorem dX11_next_9 : decode cX11_next 9 = .ok (.iconst 1, 1) := by decide +kernel
theorem dX11_next_10 : decode cX11_next 10 = .ok (.iaload, 1) := by decide +kernel
theorem dX11_next_11 : decode cX11_next 11 = .ok (.if_icmp .ge 7, 3) := by decide +kernel
theorem dX11_next_14 : decode cX11_next 14 = .ok (.iload_n 2, 1) := by decide +kernel
theorem dX11_next_15 : decode cX11_next 15 = .ok (.goto 16, 3) := by decide +kernel
theorem dX11_next_18 : decode cX11_next 18 = .ok (.iload_n 2, 1) := by decide +kernel
theorem dX11_next_19 : decode cX11_next 19 = .ok (.bipush 99, 2) := by decide +kernel
theorem dX11_next_21 : decode cX11_next 21 = .ok (.if_icmp .gt 8, 3) := by decide +kernel
theorem dX11_next_24 : decode cX11_next 24 = .ok (.bipush 99, 2) := by decide +kernel
theorem dX11_next_26 : decode cX11_next 26 = .ok (.goto 5, 3) := by decide +kernel
theorem dX11_next_29 : decode cX11_next 29 = .ok (.bipush 100, 2) := by decide +kernel
theorem dX11_next_31 : decode cX11_next 31 = .ok (.ireturn, 1) := by decide +kernel
theorem dX11_option_0 : decode cX11_option 0 = .ok (.aload_n 0, 1) := by decide +kernel
theorem dX11_option_1 : decode cX11_option 1 = .ok (.aload_n 0, 1) := by decide +kernel
theorem dX11_option_2 : decode cX11_option 2 = .ok (.iload_n 1, 1) := by decide +kernel
theorem dX11_option_3 : decode cX11_option 3 = .ok (.invokevirtual 233, 3) := by decide +kernel
theorem dX11_option_6 : decode cX11_option 6 = .ok (.ifCond .eq 7, 3) := by decide +kernel
theorem dX11_option_9 : decode cX11_option 9 = .ok (.iconst 0, 1) := by decide +kernel
theorem dX11_option_10 : decode cX11_option 10 = .ok (.goto 4, 3) := by decide +kernel
theorem dX11_option_13 : decode cX11_option 13 = .ok (.iconst 1, 1) := by decide +kernel
theorem dX11_option_14 : decode cX11_option 14 = .ok (.putfield 100, 3) := by decide +kernel
theorem dX11_option_17 : decode cX11_option 17 = .ok (.aload_n 0, 1) := by decide +kernel
theorem dX11_option_18 : decode cX11_option 18 = .ok (.getfield 100, 3) := by decide +kernel
theorem dX11_option_21 : decode cX11_option 21 = .ok (.ifCond .le 5, 3) := by decide +kernel
theorem dX11_option_24 : decode cX11_option 24 = .ok (.iconst 0, 1) := by decide +kernel
theorem dX11_option_25 : decode cX11_option 25 = .ok (.ireturn, 1) := by decide +kernel
theorem dX11_option_26 : decode cX11_option 26 = .ok (.iconst 0, 1) := by decide +kernel
theorem dX11_option_27 : decode cX11_option 27 = .ok (.istore_n 3, 1) := by decide +kernel
theorem dX11_option_28 : decode cX11_option 28 = .ok (.aload_n 0, 1) := by decide +kernel
theorem dX11_option_29 : decode cX11_option 29 = .ok (.iconst (-1), 1) := by decide +kernel
theorem dX11_option_30 : decode cX11_option 30 = .ok (.invokevirtual 239, 3) := by decide +kernel
theorem dX11_option_33 : decode cX11_option 33 = .ok (.istore 4, 2) := by decide +kernel
theorem dX11_option_35 : decode cX11_option 35 = .ok (.iload 4, 2) := by decide +kernel
theorem dX11_option_37 : decode cX11_option 37 = .ok (.bipush 99, 2) := by decide +kernel
theorem dX11_option_39 : decode cX11_option 39 = .ok (.if_icmp .gt 38, 3) := by decide +kernel
theorem dX11_option_42 : decode cX11_option 42 = .ok (.aload_n 0, 1) := by decide +kernel
theorem dX11_option_43 : decode cX11_option 43 = .ok (.iload 4, 2) := by decide +kernel
theorem dX11_option_45 : decode cX11_option 45 = .ok (.iload_n 1, 1) := by decide +kernel
theorem dX11_option_46 : decode cX11_option 46 = .ok (.invokevirtual 217, 3) := by decide +kernel
theorem dX11_option_49 : decode cX11_option 49 = .ok (.ifCond .ne 6, 3) := by decide +kernel
theorem dX11_option_52 : decode cX11_option 52 = .ok (.goto 14, 3) := by decide +kernel
theorem dX11_option_55 : decode cX11_option 55 = .ok (.iload_n 3, 1) := by decide +kernel
theorem dX11_option_56 : decode cX11_option 56 = .ok (.iload_n 2, 1) := by decide +kernel
theorem dX11_option_57 : decode cX11_option 57 = .ok (.if_icmp .ne 6, 3) := by decide +kernel
theorem dX11_option_60 : decode cX11_option 60 = .ok (.iload 4, 2) := by decide +kernel
theorem dX11_option_62 : decode cX11_option 62 = .ok (.ireturn, 1) := by decide +kernel
theorem dX11_option_63 : decode cX11_option 63 = .ok (.iinc 3 1, 3) := by decide +kernel
theorem dX11_option_66 : decode cX11_option 66 = .ok (.aload_n 0, 1) := by decide +kernel
theorem dX11_option_67 : decode cX11_option 67 = .ok (.iload 4, 2) := by decide +kernel
theorem dX11_option_69 : decode cX11_option 69 = .ok (.invokevirtual 239, 3) := by decide +kernel
theorem dX11_option_72 : decode cX11_option 72 = .ok (.istore 4, 2) := by decide +kernel
theorem dX11_option_74 : decode cX11_option 74 = .ok (.goto (-39), 3) := by decide +kernel
theorem dX11_option_77 : decode cX11_option 77 = .ok (.iconst (-1), 1) := by decide +kernel
theorem dX11_option_78 : decode cX11_option 78 = .ok (.ireturn, 1) := by decide +kernel
theorem dX11_targetMany_0 : decode cX11_targetMany 0 = .ok (.iload_n 1, 1) := by decide +kernel
theorem dX11_targetMany_1 : decode cX11_targetMany 1 = .ok (.bipush 99, 2) := by decide +kernel
theorem dX11_targetMany_3 : decode cX11_targetMany 3 = .ok (.if_icmp .ne 7, 3) := by decide +kernel
theorem dX11_targetMany_6 : decode cX11_targetMany 6 = .ok (.iconst 1, 1) := by decide +kernel
theorem dX11_targetMany_7 : decode cX11_targetMany 7 = .ok (.goto 9, 3) := by decide +kernel
theorem dX11_targetMany_10 : decode cX11_targetMany 10 = .ok (.aload_n 0, 1) := by decide +kernel
theorem dX11_targetMany_11 : decode cX11_targetMany 11 = .ok (.iload_n 1, 1) := by decide +kernel
theorem dX11_targetMany_12 : decode cX11_targetMany 12 = .ok (.iconst 4, 1) := by decide +kernel
theorem dX11_targetMany_13 : decode cX11_targetMany 13 = .ok (.invokevirtual 169, 3) := by decide +kernel
theorem dX11_targetMany_16 : decode cX11_targetMany 16 = .ok (.ireturn, 1) := by decide +kernel
theorem dX11_targetOf_0 : decode cX11_targetOf 0 = .ok (.iload_n 1, 1) := by decide +kernel
theorem dX11_targetOf_1 : decode cX11_targetOf 1 = .ok (.bipush 99, 2) := by decide +kernel
theorem dX11_targetOf_3 : decode cX11_targetOf 3 = .ok (.if_icmp .ne 16, 3) := by decide +kernel
theorem dX11_targetOf_6 : decode cX11_targetOf 6 = .ok (.aload_n 0, 1) := by decide +kernel
theorem dX11_targetOf_7 : decode cX11_targetOf 7 = .ok (.getfield 7, 3) := by decide +kernel
theorem dX11_targetOf_10 : decode cX11_targetOf 10 = .ok (.sipush 849, 3) := by decide +kernel
theorem dX11_targetOf_13 : decode cX11_targetOf 13 = .ok (.iload_n 2, 1) := by decide +kernel
theorem dX11_targetOf_14 : decode cX11_targetOf 14 = .ok (.iadd, 1) := by decide +kernel
theorem dX11_targetOf_15 : decode cX11_targetOf 15 = .ok (.iaload, 1) := by decide +kernel
theorem dX11_targetOf_16 : decode cX11_targetOf 16 = .ok (.goto 11, 3) := by decide +kernel
theorem dX11_targetOf_19 : decode cX11_targetOf 19 = .ok (.aload_n 0, 1) := by decide +kernel
theorem dX11_targetOf_20 : decode cX11_targetOf 20 = .ok (.iload_n 1, 1) := by decide +kernel
theorem dX11_targetOf_21 : decode cX11_targetOf 21 = .ok (.iconst 5, 1) := by decide +kernel
theorem dX11_targetOf_22 : decode cX11_targetOf 22 = .ok (.iload_n 3, 1) := by decide +kernel
theorem dX11_targetOf_23 : decode cX11_targetOf 23 = .ok (.iadd, 1) := by decide +kernel
theorem dX11_targetOf_24 : decode cX11_targetOf 24 = .ok (.invokevirtual 169, 3) := by decide +kernel
theorem dX11_targetOf_27 : decode cX11_targetOf 27 = .ok (.ireturn, 1) := by decide +kernel
theorem dX11_maskOf_0 : decode cX11_maskOf 0 = .ok (.iconst 1, 1) := by decide +kernel
theorem dX11_maskOf_1 : decode cX11_maskOf 1 = .ok (.aload_n 0, 1) := by decide +kernel
theorem dX11_maskOf_2 : decode cX11_maskOf 2 = .ok (.iload_n 1, 1) := by decide +kernel
theorem dX11_maskOf_3 : decode cX11_maskOf 3 = .ok (.invokevirtual 236, 3) := by decide +kernel
theorem dX11_maskOf_6 : decode cX11_maskOf 6 = .ok (.ishl, 1) := by decide +kernel
theorem dX11_maskOf_7 : decode cX11_maskOf 7 = .ok (.iconst 1, 1) := by decide +kernel
theorem dX11_maskOf_8 : decode cX11_maskOf 8 = .ok (.isub, 1) := by decide +kernel
theorem dX11_maskOf_9 : decode cX11_maskOf 9 = .ok (.iload_n 2, 1) := by decide +kernel
theorem dX11_maskOf_10 : decode cX11_maskOf 10 = .ok (.ishl, 1) := by decide +kernel
theorem dX11_maskOf_11 : decode cX11_maskOf 11 = .ok (.ireturn, 1) := by decide +kernel
theorem dX11_may_0 : decode cX11_may 0 = .ok (.iload_n 3, 1) := by decide +kernel
theorem dX11_may_1 : decode cX11_may 1 = .ok (.iload_n 2, 1) := by decide +kernel
theorem dX11_may_2 : decode cX11_may 2 = .ok (.invokestatic 242, 3) := by decide +kernel
theorem dX11_may_5 : decode cX11_may 5 = .ok (.aload_n 0, 1) := by decide +kernel
theorem dX11_may_6 : decode cX11_may 6 = .ok (.getfield 7, 3) := by decide +kernel
theorem dX11_may_9 : decode cX11_may 9 = .ok (.bipush 7, 2) := by decide +kernel
theorem dX11_may_11 : decode cX11_may 11 = .ok (.iaload, 1) := by decide +kernel
theorem dX11_may_12 : decode cX11_may 12 = .ok (.if_icmp .gt 29, 3) := by decide +kernel
theorem dX11_may_15 : decode cX11_may 15 = .ok (.aload_n 0, 1) := by decide +kernel
theorem dX11_may_16 : decode cX11_may 16 = .ok (.iload 4, 2) := by decide +kernel
theorem dX11_may_18 : decode cX11_may 18 = .ok (.iload_n 3, 1) := by decide +kernel
theorem dX11_may_19 : decode cX11_may 19 = .ok (.invokevirtual 217, 3) := by decide +kernel
theorem dX11_may_22 : decode cX11_may 22 = .ok (.ifCond .eq 19, 3) := by decide +kernel
theorem dX11_may_25 : decode cX11_may 25 = .ok (.iload_n 1, 1) := by decide +kernel
theorem dX11_may_26 : decode cX11_may 26 = .ok (.aload_n 0, 1) := by decide +kernel
theorem dX11_may_27 : decode cX11_may 27 = .ok (.iload 4, 2) := by decide +kernel
theorem dX11_may_29 : decode cX11_may 29 = .ok (.iload_n 3, 1) := by decide +kernel
theorem dX11_may_30 : decode cX11_may 30 = .ok (.invokevirtual 245, 3) := by decide +kernel
theorem dX11_may_33 : decode cX11_may 33 = .ok (.iand, 1) := by decide +kernel
theorem dX11_may_34 : decode cX11_may 34 = .ok (.ifCond .ne 7, 3) := by decide +kernel
theorem dX11_may_37 : decode cX11_may 37 = .ok (.iconst 1, 1) := by decide +kernel
theorem dX11_may_38 : decode cX11_may 38 = .ok (.goto 4, 3) := by decide +kernel
theorem dX11_may_41 : decode cX11_may 41 = .ok (.iconst 0, 1) := by decide +kernel
theorem dX11_may_42 : decode cX11_may 42 = .ok (.ireturn, 1) := by decide +kernel
theorem dX11_weighs_0 : decode cX11_weighs 0 = .ok (.aload_n 0, 1) := by decide +kernel
theorem dX11_weighs_1 : decode cX11_weighs 1 = .ok (.iload 4, 2) := by decide +kernel
theorem dX11_weighs_3 : decode cX11_weighs 3 = .ok (.bipush 99, 2) := by decide +kernel
theorem dX11_weighs_5 : decode cX11_weighs 5 = .ok (.if_icmp .ne 12, 3) := by decide +kernel
theorem dX11_weighs_8 : decode cX11_weighs 8 = .ok (.aload_n 0, 1) := by decide +kernel
theorem dX11_weighs_9 : decode cX11_weighs 9 = .ok (.getfield 7, 3) := by decide +kernel
theorem dX11_weighs_12 : decode cX11_weighs 12 = .ok (.iconst 5, 1) := by decide +kernel
theorem dX11_weighs_13 : decode cX11_weighs 13 = .ok (.iaload, 1) := by decide +kernel
theorem dX11_weighs_14 : decode cX11_weighs 14 = .ok (.goto 11, 3) := by decide +kernel
theorem dX11_weighs_17 : decode cX11_weighs 17 = .ok (.aload_n 0, 1) := by decide +kernel
theorem dX11_weighs_18 : decode cX11_weighs 18 = .ok (.iload 4, 2) := by decide +kernel
theorem dX11_weighs_20 : decode cX11_weighs 20 = .ok (.bipush 8, 2) := by decide +kernel
theorem dX11_weighs_22 : decode cX11_weighs 22 = .ok (.invokevirtual 169, 3) := by decide +kernel
theorem dX11_weighs_25 : decode cX11_weighs 25 = .ok (.aload_n 0, 1) := by decide +kernel
theorem dX11_weighs_26 : decode cX11_weighs 26 = .ok (.getfield 7, 3) := by decide +kernel
theorem dX11_weighs_29 : decode cX11_weighs 29 = .ok (.bipush 6, 2) := by decide +kernel
theorem dX11_weighs_31 : decode cX11_weighs 31 = .ok (.iaload, 1) := by decide +kernel
theorem dX11_weighs_32 : decode cX11_weighs 32 = .ok (.iload_n 3, 1) := by decide +kernel
theorem dX11_weighs_33 : decode cX11_weighs 33 = .ok (.iload_n 1, 1) := by decide +kernel
theorem dX11_weighs_34 : decode cX11_weighs 34 = .ok (.invokestatic 242, 3) := by decide +kernel
theorem dX11_weighs_37 : decode cX11_weighs 37 = .ok (.imul, 1) := by decide +kernel
theorem dX11_weighs_38 : decode cX11_weighs 38 = .ok (.iadd, 1) := by decide +kernel
theorem dX11_weighs_39 : decode cX11_weighs 39 = .ok (.putfield 248, 3) := by decide +kernel
theorem dX11_weighs_42 : decode cX11_weighs 42 = .ok (.aload_n 0, 1) := by decide +kernel
theorem dX11_weighs_43 : decode cX11_weighs 43 = .ok (.iload_n 2, 1) := by decide +kernel
theorem dX11_weighs_44 : decode cX11_weighs 44 = .ok (.putfield 251, 3) := by decide +kernel
theorem dX11_weighs_47 : decode cX11_weighs 47 = .ok (.iconst 0, 1) := by decide +kernel
theorem dX11_weighs_48 : decode cX11_weighs 48 = .ok (.istore 5, 2) := by decide +kernel
theorem dX11_weighs_50 : decode cX11_weighs 50 = .ok (.iload 5, 2) := by decide +kernel
theorem dX11_weighs_52 : decode cX11_weighs 52 = .ok (.aload_n 0, 1) := by decide +kernel
theorem dX11_weighs_53 : decode cX11_weighs 53 = .ok (.iload 4, 2) := by decide +kernel
theorem dX11_weighs_55 : decode cX11_weighs 55 = .ok (.invokevirtual 254, 3) := by decide +kernel
theorem dX11_weighs_58 : decode cX11_weighs 58 = .ok (.if_icmp .ge 45, 3) := by decide +kernel
theorem dX11_weighs_61 : decode cX11_weighs 61 = .ok (.aload_n 0, 1) := by decide +kernel
theorem dX11_weighs_62 : decode cX11_weighs 62 = .ok (.iload 4, 2) := by decide +kernel
theorem dX11_weighs_64 : decode cX11_weighs 64 = .ok (.iload_n 3, 1) := by decide +kernel
theorem dX11_weighs_65 : decode cX11_weighs 65 = .ok (.iload 5, 2) := by decide +kernel
theorem dX11_weighs_67 : decode cX11_weighs 67 = .ok (.invokevirtual 257, 3) := by decide +kernel
theorem dX11_weighs_70 : decode cX11_weighs 70 = .ok (.istore 6, 2) := by decide +kernel
theorem dX11_weighs_72 : decode cX11_weighs 72 = .ok (.aload_n 0, 1) := by decide +kernel
theorem dX11_weighs_73 : decode cX11_weighs 73 = .ok (.dup, 1) := by decide +kernel
theorem dX11_weighs_74 : decode cX11_weighs 74 = .ok (.getfield 248, 3) := by decide +kernel
theorem dX11_weighs_77 : decode cX11_weighs 77 = .ok (.aload_n 0, 1) := by decide +kernel
theorem dX11_weighs_78 : decode cX11_weighs 78 = .ok (.aload_n 0, 1) := by decide +kernel
theorem dX11_weighs_79 : decode cX11_weighs 79 = .ok (.getfield 251, 3) := by decide +kernel
theorem dX11_weighs_82 : decode cX11_weighs 82 = .ok (.iload 6, 2) := by decide +kernel
theorem dX11_weighs_84 : decode cX11_weighs 84 = .ok (.invokevirtual 230, 3) := by decide +kernel
theorem dX11_weighs_87 : decode cX11_weighs 87 = .ok (.iadd, 1) := by decide +kernel
theorem dX11_weighs_88 : decode cX11_weighs 88 = .ok (.putfield 248, 3) := by decide +kernel
theorem dX11_weighs_91 : decode cX11_weighs 91 = .ok (.aload_n 0, 1) := by decide +kernel
theorem dX11_weighs_92 : decode cX11_weighs 92 = .ok (.iload 6, 2) := by decide +kernel
theorem dX11_weighs_94 : decode cX11_weighs 94 = .ok (.putfield 251, 3) := by decide +kernel
theorem dX11_weighs_97 : decode cX11_weighs 97 = .ok (.iinc 5 1, 3) := by decide +kernel
theorem dX11_weighs_100 : decode cX11_weighs 100 = .ok (.goto (-50), 3) := by decide +kernel
theorem dX11_weighs_103 : decode cX11_weighs 103 = .ok (.return_, 1) := by decide +kernel
theorem dX11_key_0 : decode cX11_key 0 = .ok (.iload_n 0, 1) := by decide +kernel
theorem dX11_key_1 : decode cX11_key 1 = .ok (.bipush 7, 2) := by decide +kernel
theorem dX11_key_3 : decode cX11_key 3 = .ok (.imul, 1) := by decide +kernel
theorem dX11_key_4 : decode cX11_key 4 = .ok (.iload_n 1, 1) := by decide +kernel
theorem dX11_key_5 : decode cX11_key 5 = .ok (.iadd, 1) := by decide +kernel
theorem dX11_key_6 : decode cX11_key 6 = .ok (.bipush 42, 2) := by decide +kernel
theorem dX11_key_8 : decode cX11_key 8 = .ok (.imul, 1) := by decide +kernel
theorem dX11_key_9 : decode cX11_key 9 = .ok (.iload_n 2, 1) := by decide +kernel
theorem dX11_key_10 : decode cX11_key 10 = .ok (.iadd, 1) := by decide +kernel
theorem dX11_key_11 : decode cX11_key 11 = .ok (.iconst 1, 1) := by decide +kernel
theorem dX11_key_12 : decode cX11_key 12 = .ok (.iadd, 1) := by decide +kernel
theorem dX11_key_13 : decode cX11_key 13 = .ok (.ireturn, 1) := by decide +kernel
theorem dX11_full_0 : decode cX11_full 0 = .ok (.iconst 1, 1) := by decide +kernel
theorem dX11_full_1 : decode cX11_full 1 = .ok (.aload_n 0, 1) := by decide +kernel
theorem dX11_full_2 : decode cX11_full 2 = .ok (.getfield 7, 3) := by decide +kernel
theorem dX11_full_5 : decode cX11_full 5 = .ok (.iconst 3, 1) := by decide +kernel
theorem dX11_full_6 : decode cX11_full 6 = .ok (.iaload, 1) := by decide +kernel
theorem dX11_full_7 : decode cX11_full 7 = .ok (.ishl, 1) := by decide +kernel
theorem dX11_full_8 : decode cX11_full 8 = .ok (.iconst 1, 1) := by decide +kernel
theorem dX11_full_9 : decode cX11_full 9 = .ok (.isub, 1) := by decide +kernel
theorem dX11_full_10 : decode cX11_full 10 = .ok (.ireturn, 1) := by decide +kernel
theorem dX11_lays_0 : decode cX11_lays 0 = .ok (.aload_n 0, 1) := by decide +kernel
theorem dX11_lays_1 : decode cX11_lays 1 = .ok (.getfield 125, 3) := by decide +kernel
theorem dX11_lays_4 : decode cX11_lays 4 = .ok (.ifCond .eq 4, 3) := by decide +kernel
theorem dX11_lays_7 : decode cX11_lays 7 = .ok (.return_, 1) := by decide +kernel
theorem dX11_lays_8 : decode cX11_lays 8 = .ok (.iconst 0, 1) := by decide +kernel
theorem dX11_lays_9 : decode cX11_lays 9 = .ok (.istore_n 1, 1) := by decide +kernel
theorem dX11_lays_10 : decode cX11_lays 10 = .ok (.iload_n 1, 1) := by decide +kernel
theorem dX11_lays_11 : decode cX11_lays 11 = .ok (.sipush 18816, 3) := by decide +kernel
theorem dX11_lays_14 : decode cX11_lays 14 = .ok (.if_icmp .ge 16, 3) := by decide +kernel
theorem dX11_lays_17 : decode cX11_lays 17 = .ok (.aload_n 0, 1) := by decide +kernel
theorem dX11_lays_18 : decode cX11_lays 18 = .ok (.getfield 41, 3) := by decide +kernel
theorem dX11_lays_21 : decode cX11_lays 21 = .ok (.iload_n 1, 1) := by decide +kernel
theorem dX11_lays_22 : decode cX11_lays 22 = .ok (.iconst (-1), 1) := by decide +kernel
theorem dX11_lays_23 : decode cX11_lays 23 = .ok (.iastore, 1) := by decide +kernel
theorem dX11_lays_24 : decode cX11_lays 24 = .ok (.iinc 1 1, 3) := by decide +kernel
theorem dX11_lays_27 : decode cX11_lays 27 = .ok (.goto (-17), 3) := by decide +kernel
theorem dX11_lays_30 : decode cX11_lays 30 = .ok (.aload_n 0, 1) := by decide +kernel
theorem dX11_lays_31 : decode cX11_lays 31 = .ok (.iconst 1, 1) := by decide +kernel
theorem dX11_lays_32 : decode cX11_lays 32 = .ok (.putfield 125, 3) := by decide +kernel
theorem dX11_lays_35 : decode cX11_lays 35 = .ok (.return_, 1) := by decide +kernel
theorem dX11_rest_0 : decode cX11_rest 0 = .ok (.iload_n 1, 1) := by decide +kernel
theorem dX11_rest_1 : decode cX11_rest 1 = .ok (.aload_n 0, 1) := by decide +kernel
theorem dX11_rest_2 : decode cX11_rest 2 = .ok (.invokevirtual 261, 3) := by decide +kernel
theorem dX11_rest_5 : decode cX11_rest 5 = .ok (.if_icmp .ne 10, 3) := by decide +kernel
theorem dX11_rest_8 : decode cX11_rest 8 = .ok (.aload_n 0, 1) := by decide +kernel
theorem dX11_rest_9 : decode cX11_rest 9 = .ok (.iload_n 3, 1) := by decide +kernel
theorem dX11_rest_10 : decode cX11_rest 10 = .ok (.iconst (-1), 1) := by decide +kernel
theorem dX11_rest_11 : decode cX11_rest 11 = .ok (.invokevirtual 230, 3) := by decide +kernel
theorem dX11_rest_14 : decode cX11_rest 14 = .ok (.ireturn, 1) := by decide +kernel
theorem dX11_rest_15 : decode cX11_rest 15 = .ok (.iload_n 1, 1) := by decide +kernel
theorem dX11_rest_16 : decode cX11_rest 16 = .ok (.iload_n 2, 1) := by decide +kernel
theorem dX11_rest_17 : decode cX11_rest 17 = .ok (.iload_n 3, 1) := by decide +kernel
theorem dX11_rest_18 : decode cX11_rest 18 = .ok (.invokestatic 264, 3) := by decide +kernel
theorem dX11_rest_21 : decode cX11_rest 21 = .ok (.istore 4, 2) := by decide +kernel
theorem dX11_rest_23 : decode cX11_rest 23 = .ok (.aload_n 0, 1) := by decide +kernel
theorem dX11_rest_24 : decode cX11_rest 24 = .ok (.getfield 41, 3) := by decide +kernel
theorem dX11_rest_27 : decode cX11_rest 27 = .ok (.iload 4, 2) := by decide +kernel
theorem dX11_rest_29 : decode cX11_rest 29 = .ok (.iaload, 1) := by decide +kernel
theorem dX11_rest_30 : decode cX11_rest 30 = .ok (.iconst (-1), 1) := by decide +kernel
theorem dX11_rest_31 : decode cX11_rest 31 = .ok (.if_icmp .eq 11, 3) := by decide +kernel
theorem dX11_rest_34 : decode cX11_rest 34 = .ok (.aload_n 0, 1) := by decide +kernel
theorem dX11_rest_35 : decode cX11_rest 35 = .ok (.getfield 41, 3) := by decide +kernel
theorem dX11_rest_38 : decode cX11_rest 38 = .ok (.iload 4, 2) := by decide +kernel
theorem dX11_rest_40 : decode cX11_rest 40 = .ok (.iaload, 1) := by decide +kernel
theorem dX11_rest_41 : decode cX11_rest 41 = .ok (.ireturn, 1) := by decide +kernel
theorem dX11_rest_42 : decode cX11_rest 42 = .ok (.ldc_w 267, 3) := by decide +kernel
theorem dX11_rest_45 : decode cX11_rest 45 = .ok (.istore 5, 2) := by decide +kernel
theorem dX11_rest_47 : decode cX11_rest 47 = .ok (.iconst 0, 1) := by decide +kernel
theorem dX11_rest_48 : decode cX11_rest 48 = .ok (.istore 6, 2) := by decide +kernel
theorem dX11_rest_50 : decode cX11_rest 50 = .ok (.iload 6, 2) := by decide +kernel
theorem dX11_rest_52 : decode cX11_rest 52 = .ok (.aload_n 0, 1) := by decide +kernel
theorem dX11_rest_53 : decode cX11_rest 53 = .ok (.getfield 7, 3) := by decide +kernel
theorem dX11_rest_56 : decode cX11_rest 56 = .ok (.iconst 3, 1) := by decide +kernel
theorem dX11_rest_57 : decode cX11_rest 57 = .ok (.iaload, 1) := by decide +kernel
theorem dX11_rest_58 : decode cX11_rest 58 = .ok (.if_icmp .ge 107, 3) := by decide +kernel
theorem dX11_rest_61 : decode cX11_rest 61 = .ok (.aload_n 0, 1) := by decide +kernel
theorem dX11_rest_62 : decode cX11_rest 62 = .ok (.iconst (-1), 1) := by decide +kernel
theorem dX11_rest_63 : decode cX11_rest 63 = .ok (.invokevirtual 239, 3) := by decide +kernel
theorem dX11_rest_66 : decode cX11_rest 66 = .ok (.istore 7, 2) := by decide +kernel
theorem dX11_rest_68 : decode cX11_rest 68 = .ok (.iload 7, 2) := by decide +kernel
theorem dX11_rest_70 : decode cX11_rest 70 = .ok (.bipush 99, 2) := by decide +kernel
theorem dX11_rest_72 : decode cX11_rest 72 = .ok (.if_icmp .gt 87, 3) := by decide +kernel
theorem dX11_rest_75 : decode cX11_rest 75 = .ok (.aload_n 0, 1) := by decide +kernel
theorem dX11_rest_76 : decode cX11_rest 76 = .ok (.iload_n 1, 1) := by decide +kernel
theorem dX11_rest_77 : decode cX11_rest 77 = .ok (.iload_n 2, 1) := by decide +kernel
theorem dX11_rest_78 : decode cX11_rest 78 = .ok (.iload 6, 2) := by decide +kernel
theorem dX11_rest_80 : decode cX11_rest 80 = .ok (.iload 7, 2) := by decide +kernel
theorem dX11_rest_82 : decode cX11_rest 82 = .ok (.invokevirtual 268, 3) := by decide +kernel
theorem dX11_rest_85 : decode cX11_rest 85 = .ok (.ifCond .ne 6, 3) := by decide +kernel
theorem dX11_rest_88 : decode cX11_rest 88 = .ok (.goto 60, 3) := by decide +kernel
theorem dX11_rest_91 : decode cX11_rest 91 = .ok (.aload_n 0, 1) := by decide +kernel
theorem dX11_rest_92 : decode cX11_rest 92 = .ok (.iload_n 2, 1) := by decide +kernel
theorem dX11_rest_93 : decode cX11_rest 93 = .ok (.iload_n 3, 1) := by decide +kernel
theorem dX11_rest_94 : decode cX11_rest 94 = .ok (.iload 6, 2) := by decide +kernel
theorem dX11_rest_96 : decode cX11_rest 96 = .ok (.iload 7, 2) := by decide +kernel
theorem dX11_rest_98 : decode cX11_rest 98 = .ok (.invokevirtual 271, 3) := by decide +kernel
theorem dX11_rest_101 : decode cX11_rest 101 = .ok (.aload_n 0, 1) := by decide +kernel
theorem dX11_rest_102 : decode cX11_rest 102 = .ok (.getfield 248, 3) := by decide +kernel
theorem dX11_rest_105 : decode cX11_rest 105 = .ok (.istore 8, 2) := by decide +kernel
theorem dX11_rest_107 : decode cX11_rest 107 = .ok (.aload_n 0, 1) := by decide +kernel
theorem dX11_rest_108 : decode cX11_rest 108 = .ok (.iload_n 1, 1) := by decide +kernel
theorem dX11_rest_109 : decode cX11_rest 109 = .ok (.aload_n 0, 1) := by decide +kernel
theorem dX11_rest_110 : decode cX11_rest 110 = .ok (.iload 7, 2) := by decide +kernel
theorem dX11_rest_112 : decode cX11_rest 112 = .ok (.iload 6, 2) := by decide +kernel
theorem dX11_rest_114 : decode cX11_rest 114 = .ok (.invokevirtual 245, 3) := by decide +kernel
theorem dX11_rest_117 : decode cX11_rest 117 = .ok (.ior, 1) := by decide +kernel
theorem dX11_rest_118 : decode cX11_rest 118 = .ok (.iload 6, 2) := by decide +kernel
theorem dX11_rest_120 : decode cX11_rest 120 = .ok (.aload_n 0, 1) := by decide +kernel
theorem dX11_rest_121 : decode cX11_rest 121 = .ok (.iload 7, 2) := by decide +kernel
theorem dX11_rest_123 : decode cX11_rest 123 = .ok (.invokevirtual 236, 3) := by decide +kernel
theorem dX11_rest_126 : decode cX11_rest 126 = .ok (.iadd, 1) := by decide +kernel
theorem dX11_rest_127 : decode cX11_rest 127 = .ok (.aload_n 0, 1) := by decide +kernel
theorem dX11_rest_128 : decode cX11_rest 128 = .ok (.getfield 251, 3) := by decide +kernel
theorem dX11_rest_131 : decode cX11_rest 131 = .ok (.invokevirtual 275, 3) := by decide +kernel
theorem dX11_rest_134 : decode cX11_rest 134 = .ok (.istore 9, 2) := by decide +kernel
theorem dX11_rest_136 : decode cX11_rest 136 = .ok (.iload 5, 2) := by decide +kernel
theorem dX11_rest_138 : decode cX11_rest 138 = .ok (.iload 8, 2) := by decide +kernel
theorem dX11_rest_140 : decode cX11_rest 140 = .ok (.iload 9, 2) := by decide +kernel
theorem dX11_rest_142 : decode cX11_rest 142 = .ok (.iadd, 1) := by decide +kernel
theorem dX11_rest_143 : decode cX11_rest 143 = .ok (.invokestatic 278, 3) := by decide +kernel
theorem dX11_rest_146 : decode cX11_rest 146 = .ok (.istore 5, 2) := by decide +kernel
theorem dX11_rest_148 : decode cX11_rest 148 = .ok (.aload_n 0, 1) := by decide +kernel
theorem dX11_rest_149 : decode cX11_rest 149 = .ok (.iload 7, 2) := by decide +kernel
theorem dX11_rest_151 : decode cX11_rest 151 = .ok (.invokevirtual 239, 3) := by decide +kernel
theorem dX11_rest_154 : decode cX11_rest 154 = .ok (.istore 7, 2) := by decide +kernel
theorem dX11_rest_156 : decode cX11_rest 156 = .ok (.goto (-88), 3) := by decide +kernel
theorem dX11_rest_159 : decode cX11_rest 159 = .ok (.iinc 6 1, 3) := by decide +kernel
theorem dX11_rest_162 : decode cX11_rest 162 = .ok (.goto (-112), 3) := by decide +kernel
theorem dX11_rest_165 : decode cX11_rest 165 = .ok (.aload_n 0, 1) := by decide +kernel
theorem dX11_rest_166 : decode cX11_rest 166 = .ok (.getfield 41, 3) := by decide +kernel
theorem dX11_rest_169 : decode cX11_rest 169 = .ok (.iload 4, 2) := by decide +kernel
theorem dX11_rest_171 : decode cX11_rest 171 = .ok (.iload 5, 2) := by decide +kernel
theorem dX11_rest_173 : decode cX11_rest 173 = .ok (.ldc_w 267, 3) := by decide +kernel
theorem dX11_rest_176 : decode cX11_rest 176 = .ok (.invokestatic 278, 3) := by decide +kernel
theorem dX11_rest_179 : decode cX11_rest 179 = .ok (.iastore, 1) := by decide +kernel
theorem dX11_rest_180 : decode cX11_rest 180 = .ok (.aload_n 0, 1) := by decide +kernel
theorem dX11_rest_181 : decode cX11_rest 181 = .ok (.getfield 41, 3) := by decide +kernel
theorem dX11_rest_184 : decode cX11_rest 184 = .ok (.iload 4, 2) := by decide +kernel
theorem dX11_rest_186 : decode cX11_rest 186 = .ok (.iaload, 1) := by decide +kernel
theorem dX11_rest_187 : decode cX11_rest 187 = .ok (.ireturn, 1) := by decide +kernel
theorem dX11_exact0_0 : decode cX11_exact0 0 = .ok (.aload_n 0, 1) := by decide +kernel
theorem dX11_exact0_1 : decode cX11_exact0 1 = .ok (.invokevirtual 281, 3) := by decide +kernel
theorem dX11_exact0_4 : decode cX11_exact0 4 = .ok (.aload_n 0, 1) := by decide +kernel
theorem dX11_exact0_5 : decode cX11_exact0 5 = .ok (.iconst 0, 1) := by decide +kernel
theorem dX11_exact0_6 : decode cX11_exact0 6 = .ok (.iconst 0, 1) := by decide +kernel
theorem dX11_exact0_7 : decode cX11_exact0 7 = .ok (.iconst (-1), 1) := by decide +kernel
theorem dX11_exact0_8 : decode cX11_exact0 8 = .ok (.invokevirtual 275, 3) := by decide +kernel
theorem dX11_exact0_11 : decode cX11_exact0 11 = .ok (.ireturn, 1) := by decide +kernel
theorem dX11_exact_0 : decode cX11_exact 0 = .ok (.aload_n 0, 1) := by decide +kernel
theorem dX11_exact_1 : decode cX11_exact 1 = .ok (.iconst 0, 1) := by decide +kernel
theorem dX11_exact_2 : decode cX11_exact 2 = .ok (.putfield 100, 3) := by decide +kernel
theorem dX11_exact_5 : decode cX11_exact 5 = .ok (.aload_n 0, 1) := by decide +kernel
theorem dX11_exact_6 : decode cX11_exact 6 = .ok (.invokevirtual 284, 3) := by decide +kernel
theorem dX11_exact_9 : decode cX11_exact 9 = .ok (.ireturn, 1) := by decide +kernel
theorem dX11_waysFrom_0 : decode cX11_waysFrom 0 = .ok (.iload_n 1, 1) := by decide +kernel
theorem dX11_waysFrom_1 : decode cX11_waysFrom 1 = .ok (.aload_n 0, 1) := by decide +kernel
theorem dX11_waysFrom_2 : decode cX11_waysFrom 2 = .ok (.invokevirtual 261, 3) := by decide +kernel
theorem dX11_waysFrom_5 : decode cX11_waysFrom 5 = .ok (.if_icmp .ne 5, 3) := by decide +kernel
theorem dX11_waysFrom_8 : decode cX11_waysFrom 8 = .ok (.lconst 1, 1) := by decide +kernel
theorem dX11_waysFrom_9 : decode cX11_waysFrom 9 = .ok (.lreturn, 1) := by decide +kernel
theorem dX11_waysFrom_10 : decode cX11_waysFrom 10 = .ok (.iload_n 1, 1) := by decide +kernel
theorem dX11_waysFrom_11 : decode cX11_waysFrom 11 = .ok (.bipush 7, 2) := by decide +kernel
theorem dX11_waysFrom_13 : decode cX11_waysFrom 13 = .ok (.imul, 1) := by decide +kernel
theorem dX11_waysFrom_14 : decode cX11_waysFrom 14 = .ok (.iload_n 2, 1) := by decide +kernel
theorem dX11_waysFrom_15 : decode cX11_waysFrom 15 = .ok (.iadd, 1) := by decide +kernel
theorem dX11_waysFrom_16 : decode cX11_waysFrom 16 = .ok (.istore_n 3, 1) := by decide +kernel
theorem dX11_waysFrom_17 : decode cX11_waysFrom 17 = .ok (.aload_n 0, 1) := by decide +kernel
theorem dX11_waysFrom_18 : decode cX11_waysFrom 18 = .ok (.getfield 44, 3) := by decide +kernel
theorem dX11_waysFrom_21 : decode cX11_waysFrom 21 = .ok (.iload_n 3, 1) := by decide +kernel
theorem dX11_waysFrom_22 : decode cX11_waysFrom 22 = .ok (.laload, 1) := by decide +kernel
theorem dX11_waysFrom_23 : decode cX11_waysFrom 23 = .ok (.lconst 0, 1) := by decide +kernel
theorem dX11_waysFrom_24 : decode cX11_waysFrom 24 = .ok (.lcmp, 1) := by decide +kernel
theorem dX11_waysFrom_25 : decode cX11_waysFrom 25 = .ok (.ifCond .lt 10, 3) := by decide +kernel
theorem dX11_waysFrom_28 : decode cX11_waysFrom 28 = .ok (.aload_n 0, 1) := by decide +kernel
theorem dX11_waysFrom_29 : decode cX11_waysFrom 29 = .ok (.getfield 44, 3) := by decide +kernel
theorem dX11_waysFrom_32 : decode cX11_waysFrom 32 = .ok (.iload_n 3, 1) := by decide +kernel
theorem dX11_waysFrom_33 : decode cX11_waysFrom 33 = .ok (.laload, 1) := by decide +kernel
theorem dX11_waysFrom_34 : decode cX11_waysFrom 34 = .ok (.lreturn, 1) := by decide +kernel
theorem dX11_waysFrom_35 : decode cX11_waysFrom 35 = .ok (.lconst 0, 1) := by decide +kernel
theorem dX11_waysFrom_36 : decode cX11_waysFrom 36 = .ok (.lstore 4, 2) := by decide +kernel
theorem dX11_waysFrom_38 : decode cX11_waysFrom 38 = .ok (.iconst 0, 1) := by decide +kernel
theorem dX11_waysFrom_39 : decode cX11_waysFrom 39 = .ok (.istore 6, 2) := by decide +kernel
theorem dX11_waysFrom_41 : decode cX11_waysFrom 41 = .ok (.iload 6, 2) := by decide +kernel
theorem dX11_waysFrom_43 : decode cX11_waysFrom 43 = .ok (.aload_n 0, 1) := by decide +kernel
theorem dX11_waysFrom_44 : decode cX11_waysFrom 44 = .ok (.getfield 7, 3) := by decide +kernel
theorem dX11_waysFrom_47 : decode cX11_waysFrom 47 = .ok (.iconst 3, 1) := by decide +kernel
theorem dX11_waysFrom_48 : decode cX11_waysFrom 48 = .ok (.iaload, 1) := by decide +kernel
theorem dX11_waysFrom_49 : decode cX11_waysFrom 49 = .ok (.if_icmp .ge 97, 3) := by decide +kernel
theorem dX11_waysFrom_52 : decode cX11_waysFrom 52 = .ok (.aload_n 0, 1) := by decide +kernel
theorem dX11_waysFrom_53 : decode cX11_waysFrom 53 = .ok (.iconst (-1), 1) := by decide +kernel
theorem dX11_waysFrom_54 : decode cX11_waysFrom 54 = .ok (.invokevirtual 239, 3) := by decide +kernel
theorem dX11_waysFrom_57 : decode cX11_waysFrom 57 = .ok (.istore 7, 2) := by decide +kernel
theorem dX11_waysFrom_59 : decode cX11_waysFrom 59 = .ok (.iload 7, 2) := by decide +kernel
theorem dX11_waysFrom_61 : decode cX11_waysFrom 61 = .ok (.bipush 99, 2) := by decide +kernel
theorem dX11_waysFrom_63 : decode cX11_waysFrom 63 = .ok (.if_icmp .gt 77, 3) := by decide +kernel
theorem dX11_waysFrom_66 : decode cX11_waysFrom 66 = .ok (.aload_n 0, 1) := by decide +kernel
theorem dX11_waysFrom_67 : decode cX11_waysFrom 67 = .ok (.iload_n 1, 1) := by decide +kernel
theorem dX11_waysFrom_68 : decode cX11_waysFrom 68 = .ok (.iload_n 2, 1) := by decide +kernel
theorem dX11_waysFrom_69 : decode cX11_waysFrom 69 = .ok (.iload 6, 2) := by decide +kernel
theorem dX11_waysFrom_71 : decode cX11_waysFrom 71 = .ok (.iload 7, 2) := by decide +kernel
theorem dX11_waysFrom_73 : decode cX11_waysFrom 73 = .ok (.invokevirtual 268, 3) := by decide +kernel
theorem dX11_waysFrom_76 : decode cX11_waysFrom 76 = .ok (.ifCond .ne 6, 3) := by decide +kernel
theorem dX11_waysFrom_79 : decode cX11_waysFrom 79 = .ok (.goto 50, 3) := by decide +kernel
theorem dX11_waysFrom_82 : decode cX11_waysFrom 82 = .ok (.lload 4, 2) := by decide +kernel
theorem dX11_waysFrom_84 : decode cX11_waysFrom 84 = .ok (.aload_n 0, 1) := by decide +kernel
theorem dX11_waysFrom_85 : decode cX11_waysFrom 85 = .ok (.iload_n 1, 1) := by decide +kernel
theorem dX11_waysFrom_86 : decode cX11_waysFrom 86 = .ok (.aload_n 0, 1) := by decide +kernel
theorem dX11_waysFrom_87 : decode cX11_waysFrom 87 = .ok (.iload 7, 2) := by decide +kernel
theorem dX11_waysFrom_89 : decode cX11_waysFrom 89 = .ok (.iload 6, 2) := by decide +kernel
theorem dX11_waysFrom_91 : decode cX11_waysFrom 91 = .ok (.invokevirtual 245, 3) := by decide +kernel
theorem dX11_waysFrom_94 : decode cX11_waysFrom 94 = .ok (.ior, 1) := by decide +kernel
theorem dX11_waysFrom_95 : decode cX11_waysFrom 95 = .ok (.iload 6, 2) := by decide +kernel
theorem dX11_waysFrom_97 : decode cX11_waysFrom 97 = .ok (.aload_n 0, 1) := by decide +kernel
theorem dX11_waysFrom_98 : decode cX11_waysFrom 98 = .ok (.iload 7, 2) := by decide +kernel
theorem dX11_waysFrom_100 : decode cX11_waysFrom 100 = .ok (.invokevirtual 236, 3) := by decide +kernel
theorem dX11_waysFrom_103 : decode cX11_waysFrom 103 = .ok (.iadd, 1) := by decide +kernel
theorem dX11_waysFrom_104 : decode cX11_waysFrom 104 = .ok (.invokevirtual 287, 3) := by decide +kernel
theorem dX11_waysFrom_107 : decode cX11_waysFrom 107 = .ok (.ladd, 1) := by decide +kernel
theorem dX11_waysFrom_108 : decode cX11_waysFrom 108 = .ok (.lstore 4, 2) := by decide +kernel
theorem dX11_waysFrom_110 : decode cX11_waysFrom 110 = .ok (.lload 4, 2) := by decide +kernel
theorem dX11_waysFrom_112 : decode cX11_waysFrom 112 = .ok (.ldc2_w 291, 3) := by decide +kernel
theorem dX11_waysFrom_115 : decode cX11_waysFrom 115 = .ok (.lcmp, 1) := by decide +kernel
theorem dX11_waysFrom_116 : decode cX11_waysFrom 116 = .ok (.ifCond .le 9, 3) := by decide +kernel
theorem dX11_waysFrom_119 : decode cX11_waysFrom 119 = .ok (.ldc2_w 291, 3) := by decide +kernel
theorem dX11_waysFrom_122 : decode cX11_waysFrom 122 = .ok (.goto 5, 3) := by decide +kernel
theorem dX11_waysFrom_125 : decode cX11_waysFrom 125 = .ok (.lload 4, 2) := by decide +kernel
theorem dX11_waysFrom_127 : decode cX11_waysFrom 127 = .ok (.lstore 4, 2) := by decide +kernel
theorem dX11_waysFrom_129 : decode cX11_waysFrom 129 = .ok (.aload_n 0, 1) := by decide +kernel
theorem dX11_waysFrom_130 : decode cX11_waysFrom 130 = .ok (.iload 7, 2) := by decide +kernel
theorem dX11_waysFrom_132 : decode cX11_waysFrom 132 = .ok (.invokevirtual 239, 3) := by decide +kernel
theorem dX11_waysFrom_135 : decode cX11_waysFrom 135 = .ok (.istore 7, 2) := by decide +kernel
theorem dX11_waysFrom_137 : decode cX11_waysFrom 137 = .ok (.goto (-78), 3) := by decide +kernel
theorem dX11_waysFrom_140 : decode cX11_waysFrom 140 = .ok (.iinc 6 1, 3) := by decide +kernel
theorem dX11_waysFrom_143 : decode cX11_waysFrom 143 = .ok (.goto (-102), 3) := by decide +kernel
theorem dX11_waysFrom_146 : decode cX11_waysFrom 146 = .ok (.aload_n 0, 1) := by decide +kernel
theorem dX11_waysFrom_147 : decode cX11_waysFrom 147 = .ok (.getfield 44, 3) := by decide +kernel
theorem dX11_waysFrom_150 : decode cX11_waysFrom 150 = .ok (.iload_n 3, 1) := by decide +kernel
theorem dX11_waysFrom_151 : decode cX11_waysFrom 151 = .ok (.lload 4, 2) := by decide +kernel
theorem dX11_waysFrom_153 : decode cX11_waysFrom 153 = .ok (.lastore, 1) := by decide +kernel
theorem dX11_waysFrom_154 : decode cX11_waysFrom 154 = .ok (.lload 4, 2) := by decide +kernel
theorem dX11_waysFrom_156 : decode cX11_waysFrom 156 = .ok (.lreturn, 1) := by decide +kernel
theorem dX11_many_0 : decode cX11_many 0 = .ok (.aload_n 0, 1) := by decide +kernel
theorem dX11_many_1 : decode cX11_many 1 = .ok (.iconst 0, 1) := by decide +kernel
theorem dX11_many_2 : decode cX11_many 2 = .ok (.putfield 100, 3) := by decide +kernel
theorem dX11_many_5 : decode cX11_many 5 = .ok (.iconst 0, 1) := by decide +kernel
theorem dX11_many_6 : decode cX11_many 6 = .ok (.istore_n 1, 1) := by decide +kernel
theorem dX11_many_7 : decode cX11_many 7 = .ok (.iload_n 1, 1) := by decide +kernel
theorem dX11_many_8 : decode cX11_many 8 = .ok (.sipush 448, 3) := by decide +kernel
theorem dX11_many_11 : decode cX11_many 11 = .ok (.if_icmp .ge 18, 3) := by decide +kernel
theorem dX11_many_14 : decode cX11_many 14 = .ok (.aload_n 0, 1) := by decide +kernel
theorem dX11_many_15 : decode cX11_many 15 = .ok (.getfield 44, 3) := by decide +kernel
theorem dX11_many_18 : decode cX11_many 18 = .ok (.iload_n 1, 1) := by decide +kernel
theorem dX11_many_19 : decode cX11_many 19 = .ok (.ldc2_w 293, 3) := by decide +kernel
theorem dX11_many_22 : decode cX11_many 22 = .ok (.lastore, 1) := by decide +kernel
theorem dX11_many_23 : decode cX11_many 23 = .ok (.iinc 1 1, 3) := by decide +kernel
theorem dX11_many_26 : decode cX11_many 26 = .ok (.goto (-19), 3) := by decide +kernel
theorem dX11_many_29 : decode cX11_many 29 = .ok (.aload_n 0, 1) := by decide +kernel
theorem dX11_many_30 : decode cX11_many 30 = .ok (.iconst 0, 1) := by decide +kernel
theorem dX11_many_31 : decode cX11_many 31 = .ok (.iconst 0, 1) := by decide +kernel
theorem dX11_many_32 : decode cX11_many 32 = .ok (.invokevirtual 287, 3) := by decide +kernel
theorem dX11_many_35 : decode cX11_many 35 = .ok (.l2i, 1) := by decide +kernel
theorem dX11_many_36 : decode cX11_many 36 = .ok (.ireturn, 1) := by decide +kernel
theorem dX11_goes_0 : decode cX11_goes 0 = .ok (.iload_n 1, 1) := by decide +kernel
theorem dX11_goes_1 : decode cX11_goes 1 = .ok (.aload_n 0, 1) := by decide +kernel
theorem dX11_goes_2 : decode cX11_goes 2 = .ok (.invokevirtual 261, 3) := by decide +kernel
theorem dX11_goes_5 : decode cX11_goes 5 = .ok (.if_icmp .ne 82, 3) := by decide +kernel
theorem dX11_goes_8 : decode cX11_goes 8 = .ok (.iload 4, 2) := by decide +kernel
theorem dX11_goes_10 : decode cX11_goes 10 = .ok (.aload_n 0, 1) := by decide +kernel
theorem dX11_goes_11 : decode cX11_goes 11 = .ok (.iload_n 3, 1) := by decide +kernel
theorem dX11_goes_12 : decode cX11_goes 12 = .ok (.iconst (-1), 1) := by decide +kernel
theorem dX11_goes_13 : decode cX11_goes 13 = .ok (.invokevirtual 230, 3) := by decide +kernel
theorem dX11_goes_16 : decode cX11_goes 16 = .ok (.iadd, 1) := by decide +kernel
theorem dX11_goes_17 : decode cX11_goes 17 = .ok (.istore 6, 2) := by decide +kernel
theorem dX11_goes_19 : decode cX11_goes 19 = .ok (.iload 6, 2) := by decide +kernel
theorem dX11_goes_21 : decode cX11_goes 21 = .ok (.aload_n 0, 1) := by decide +kernel
theorem dX11_goes_22 : decode cX11_goes 22 = .ok (.getfield 295, 3) := by decide +kernel
theorem dX11_goes_25 : decode cX11_goes 25 = .ok (.if_icmp .le 16, 3) := by decide +kernel
theorem dX11_goes_28 : decode cX11_goes 28 = .ok (.aload_n 0, 1) := by decide +kernel
theorem dX11_goes_29 : decode cX11_goes 29 = .ok (.aload_n 0, 1) := by decide +kernel
theorem dX11_goes_30 : decode cX11_goes 30 = .ok (.getfield 298, 3) := by decide +kernel
theorem dX11_goes_33 : decode cX11_goes 33 = .ok (.iload 6, 2) := by decide +kernel
theorem dX11_goes_35 : decode cX11_goes 35 = .ok (.invokestatic 278, 3) := by decide +kernel
theorem dX11_goes_38 : decode cX11_goes 38 = .ok (.putfield 298, 3) := by decide +kernel
theorem dX11_goes_41 : decode cX11_goes 41 = .ok (.iload 6, 2) := by decide +kernel
theorem dX11_goes_43 : decode cX11_goes 43 = .ok (.aload_n 0, 1) := by decide +kernel
theorem dX11_goes_44 : decode cX11_goes 44 = .ok (.getfield 295, 3) := by decide +kernel
theorem dX11_goes_47 : decode cX11_goes 47 = .ok (.if_icmp .eq 5, 3) := by decide +kernel
theorem dX11_goes_50 : decode cX11_goes 50 = .ok (.iconst 0, 1) := by decide +kernel
theorem dX11_goes_51 : decode cX11_goes 51 = .ok (.ireturn, 1) := by decide +kernel
theorem dX11_goes_52 : decode cX11_goes 52 = .ok (.aload_n 0, 1) := by decide +kernel
theorem dX11_goes_53 : decode cX11_goes 53 = .ok (.dup, 1) := by decide +kernel
theorem dX11_goes_54 : decode cX11_goes 54 = .ok (.getfield 301, 3) := by decide +kernel
theorem dX11_goes_57 : decode cX11_goes 57 = .ok (.iconst 1, 1) := by decide +kernel
theorem dX11_goes_58 : decode cX11_goes 58 = .ok (.isub, 1) := by decide +kernel
theorem dX11_goes_59 : decode cX11_goes 59 = .ok (.putfield 301, 3) := by decide +kernel
theorem dX11_goes_62 : decode cX11_goes 62 = .ok (.aload_n 0, 1) := by decide +kernel
theorem dX11_goes_63 : decode cX11_goes 63 = .ok (.iload 5, 2) := by decide +kernel
theorem dX11_goes_65 : decode cX11_goes 65 = .ok (.putfield 304, 3) := by decide +kernel
theorem dX11_goes_68 : decode cX11_goes 68 = .ok (.aload_n 0, 1) := by decide +kernel
theorem dX11_goes_69 : decode cX11_goes 69 = .ok (.iload 6, 2) := by decide +kernel
theorem dX11_goes_71 : decode cX11_goes 71 = .ok (.putfield 307, 3) := by decide +kernel
theorem dX11_goes_74 : decode cX11_goes 74 = .ok (.aload_n 0, 1) := by decide +kernel
theorem dX11_goes_75 : decode cX11_goes 75 = .ok (.getfield 301, 3) := by decide +kernel
theorem dX11_goes_78 : decode cX11_goes 78 = .ok (.ifCond .ge 7, 3) := by decide +kernel
theorem dX11_goes_81 : decode cX11_goes 81 = .ok (.iconst 1, 1) := by decide +kernel
theorem dX11_goes_82 : decode cX11_goes 82 = .ok (.goto 4, 3) := by decide +kernel
theorem dX11_goes_85 : decode cX11_goes 85 = .ok (.iconst 0, 1) := by decide +kernel
theorem dX11_goes_86 : decode cX11_goes 86 = .ok (.ireturn, 1) := by decide +kernel
theorem dX11_goes_87 : decode cX11_goes 87 = .ok (.iconst 0, 1) := by decide +kernel
theorem dX11_goes_88 : decode cX11_goes 88 = .ok (.istore 6, 2) := by decide +kernel
theorem dX11_goes_90 : decode cX11_goes 90 = .ok (.iload 6, 2) := by decide +kernel
theorem dX11_goes_92 : decode cX11_goes 92 = .ok (.aload_n 0, 1) := by decide +kernel
theorem dX11_goes_93 : decode cX11_goes 93 = .ok (.getfield 7, 3) := by decide +kernel
theorem dX11_goes_96 : decode cX11_goes 96 = .ok (.iconst 3, 1) := by decide +kernel
theorem dX11_goes_97 : decode cX11_goes 97 = .ok (.iaload, 1) := by decide +kernel
theorem dX11_goes_98 : decode cX11_goes 98 = .ok (.if_icmp .ge 198, 3) := by decide +kernel
theorem dX11_goes_101 : decode cX11_goes 101 = .ok (.aload_n 0, 1) := by decide +kernel
theorem dX11_goes_102 : decode cX11_goes 102 = .ok (.iconst (-1), 1) := by decide +kernel
theorem dX11_goes_103 : decode cX11_goes 103 = .ok (.invokevirtual 239, 3) := by decide +kernel
theorem dX11_goes_106 : decode cX11_goes 106 = .ok (.istore 7, 2) := by decide +kernel
theorem dX11_goes_108 : decode cX11_goes 108 = .ok (.iload 7, 2) := by decide +kernel
theorem dX11_goes_110 : decode cX11_goes 110 = .ok (.bipush 99, 2) := by decide +kernel
theorem dX11_goes_112 : decode cX11_goes 112 = .ok (.if_icmp .gt 178, 3) := by decide +kernel
theorem dX11_goes_115 : decode cX11_goes 115 = .ok (.aload_n 0, 1) := by decide +kernel
theorem dX11_goes_116 : decode cX11_goes 116 = .ok (.iload_n 1, 1) := by decide +kernel
theorem dX11_goes_117 : decode cX11_goes 117 = .ok (.iload_n 2, 1) := by decide +kernel
theorem dX11_goes_118 : decode cX11_goes 118 = .ok (.iload 6, 2) := by decide +kernel
theorem dX11_goes_120 : decode cX11_goes 120 = .ok (.iload 7, 2) := by decide +kernel
theorem dX11_goes_122 : decode cX11_goes 122 = .ok (.invokevirtual 268, 3) := by decide +kernel
theorem dX11_goes_125 : decode cX11_goes 125 = .ok (.ifCond .ne 6, 3) := by decide +kernel
theorem dX11_goes_128 : decode cX11_goes 128 = .ok (.goto 151, 3) := by decide +kernel
theorem dX11_goes_131 : decode cX11_goes 131 = .ok (.aload_n 0, 1) := by decide +kernel
theorem dX11_goes_132 : decode cX11_goes 132 = .ok (.iload_n 2, 1) := by decide +kernel
theorem dX11_goes_133 : decode cX11_goes 133 = .ok (.iload_n 3, 1) := by decide +kernel
theorem dX11_goes_134 : decode cX11_goes 134 = .ok (.iload 6, 2) := by decide +kernel
theorem dX11_goes_136 : decode cX11_goes 136 = .ok (.iload 7, 2) := by decide +kernel
theorem dX11_goes_138 : decode cX11_goes 138 = .ok (.invokevirtual 271, 3) := by decide +kernel
theorem dX11_goes_141 : decode cX11_goes 141 = .ok (.iload 4, 2) := by decide +kernel
theorem dX11_goes_143 : decode cX11_goes 143 = .ok (.aload_n 0, 1) := by decide +kernel
theorem dX11_goes_144 : decode cX11_goes 144 = .ok (.getfield 248, 3) := by decide +kernel
theorem dX11_goes_147 : decode cX11_goes 147 = .ok (.iadd, 1) := by decide +kernel
theorem dX11_goes_148 : decode cX11_goes 148 = .ok (.istore 8, 2) := by decide +kernel
theorem dX11_goes_150 : decode cX11_goes 150 = .ok (.aload_n 0, 1) := by decide +kernel
theorem dX11_goes_151 : decode cX11_goes 151 = .ok (.getfield 251, 3) := by decide +kernel
theorem dX11_goes_154 : decode cX11_goes 154 = .ok (.istore 9, 2) := by decide +kernel
theorem dX11_goes_156 : decode cX11_goes 156 = .ok (.aload_n 0, 1) := by decide +kernel
theorem dX11_goes_157 : decode cX11_goes 157 = .ok (.iload_n 1, 1) := by decide +kernel
theorem dX11_goes_158 : decode cX11_goes 158 = .ok (.aload_n 0, 1) := by decide +kernel
theorem dX11_goes_159 : decode cX11_goes 159 = .ok (.iload 7, 2) := by decide +kernel
theorem dX11_goes_161 : decode cX11_goes 161 = .ok (.iload 6, 2) := by decide +kernel
theorem dX11_goes_163 : decode cX11_goes 163 = .ok (.invokevirtual 245, 3) := by decide +kernel
theorem dX11_goes_166 : decode cX11_goes 166 = .ok (.ior, 1) := by decide +kernel
theorem dX11_goes_167 : decode cX11_goes 167 = .ok (.iload 6, 2) := by decide +kernel
theorem dX11_goes_169 : decode cX11_goes 169 = .ok (.aload_n 0, 1) := by decide +kernel
theorem dX11_goes_170 : decode cX11_goes 170 = .ok (.iload 7, 2) := by decide +kernel
theorem dX11_goes_172 : decode cX11_goes 172 = .ok (.invokevirtual 236, 3) := by decide +kernel
theorem dX11_goes_175 : decode cX11_goes 175 = .ok (.iadd, 1) := by decide +kernel
theorem dX11_goes_176 : decode cX11_goes 176 = .ok (.iload 9, 2) := by decide +kernel
theorem dX11_goes_178 : decode cX11_goes 178 = .ok (.invokevirtual 275, 3) := by decide +kernel
theorem dX11_goes_181 : decode cX11_goes 181 = .ok (.istore 10, 2) := by decide +kernel
theorem dX11_goes_183 : decode cX11_goes 183 = .ok (.iload 10, 2) := by decide +kernel
theorem dX11_goes_185 : decode cX11_goes 185 = .ok (.ldc_w 267, 3) := by decide +kernel
theorem dX11_goes_188 : decode cX11_goes 188 = .ok (.if_icmp .lt 6, 3) := by decide +kernel
theorem dX11_goes_191 : decode cX11_goes 191 = .ok (.goto 88, 3) := by decide +kernel
theorem dX11_goes_194 : decode cX11_goes 194 = .ok (.iload 8, 2) := by decide +kernel
theorem dX11_goes_196 : decode cX11_goes 196 = .ok (.iload 10, 2) := by decide +kernel
theorem dX11_goes_198 : decode cX11_goes 198 = .ok (.iadd, 1) := by decide +kernel
theorem dX11_goes_199 : decode cX11_goes 199 = .ok (.aload_n 0, 1) := by decide +kernel
theorem dX11_goes_200 : decode cX11_goes 200 = .ok (.getfield 295, 3) := by decide +kernel
theorem dX11_goes_203 : decode cX11_goes 203 = .ok (.if_icmp .le 22, 3) := by decide +kernel
theorem dX11_goes_206 : decode cX11_goes 206 = .ok (.aload_n 0, 1) := by decide +kernel
theorem dX11_goes_207 : decode cX11_goes 207 = .ok (.aload_n 0, 1) := by decide +kernel
theorem dX11_goes_208 : decode cX11_goes 208 = .ok (.getfield 298, 3) := by decide +kernel
theorem dX11_goes_211 : decode cX11_goes 211 = .ok (.iload 8, 2) := by decide +kernel
theorem dX11_goes_213 : decode cX11_goes 213 = .ok (.iload 10, 2) := by decide +kernel
theorem dX11_goes_215 : decode cX11_goes 215 = .ok (.iadd, 1) := by decide +kernel
theorem dX11_goes_216 : decode cX11_goes 216 = .ok (.invokestatic 278, 3) := by decide +kernel
theorem dX11_goes_219 : decode cX11_goes 219 = .ok (.putfield 298, 3) := by decide +kernel
theorem dX11_goes_222 : decode cX11_goes 222 = .ok (.goto 57, 3) := by decide +kernel
theorem dX11_goes_225 : decode cX11_goes 225 = .ok (.aload_n 0, 1) := by decide +kernel
theorem dX11_goes_226 : decode cX11_goes 226 = .ok (.getfield 48, 3) := by decide +kernel
theorem dX11_goes_229 : decode cX11_goes 229 = .ok (.iload 5, 2) := by decide +kernel
theorem dX11_goes_231 : decode cX11_goes 231 = .ok (.iload 6, 2) := by decide +kernel
theorem dX11_goes_233 : decode cX11_goes 233 = .ok (.iastore, 1) := by decide +kernel
theorem dX11_goes_234 : decode cX11_goes 234 = .ok (.aload_n 0, 1) := by decide +kernel
theorem dX11_goes_235 : decode cX11_goes 235 = .ok (.getfield 51, 3) := by decide +kernel
theorem dX11_goes_238 : decode cX11_goes 238 = .ok (.iload 5, 2) := by decide +kernel
theorem dX11_goes_240 : decode cX11_goes 240 = .ok (.iload 7, 2) := by decide +kernel
theorem dX11_goes_242 : decode cX11_goes 242 = .ok (.iastore, 1) := by decide +kernel
theorem dX11_goes_243 : decode cX11_goes 243 = .ok (.aload_n 0, 1) := by decide +kernel
theorem dX11_goes_244 : decode cX11_goes 244 = .ok (.iload_n 1, 1) := by decide +kernel
theorem dX11_goes_245 : decode cX11_goes 245 = .ok (.aload_n 0, 1) := by decide +kernel
theorem dX11_goes_246 : decode cX11_goes 246 = .ok (.iload 7, 2) := by decide +kernel
theorem dX11_goes_248 : decode cX11_goes 248 = .ok (.iload 6, 2) := by decide +kernel
theorem dX11_goes_250 : decode cX11_goes 250 = .ok (.invokevirtual 245, 3) := by decide +kernel
theorem dX11_goes_253 : decode cX11_goes 253 = .ok (.ior, 1) := by decide +kernel
theorem dX11_goes_254 : decode cX11_goes 254 = .ok (.iload 6, 2) := by decide +kernel
theorem dX11_goes_256 : decode cX11_goes 256 = .ok (.aload_n 0, 1) := by decide +kernel
theorem dX11_goes_257 : decode cX11_goes 257 = .ok (.iload 7, 2) := by decide +kernel
theorem dX11_goes_259 : decode cX11_goes 259 = .ok (.invokevirtual 236, 3) := by decide +kernel
theorem dX11_goes_262 : decode cX11_goes 262 = .ok (.iadd, 1) := by decide +kernel
theorem dX11_goes_263 : decode cX11_goes 263 = .ok (.iload 9, 2) := by decide +kernel
theorem dX11_goes_265 : decode cX11_goes 265 = .ok (.iload 8, 2) := by decide +kernel
theorem dX11_goes_267 : decode cX11_goes 267 = .ok (.iload 5, 2) := by decide +kernel
theorem dX11_goes_269 : decode cX11_goes 269 = .ok (.iconst 1, 1) := by decide +kernel
theorem dX11_goes_270 : decode cX11_goes 270 = .ok (.iadd, 1) := by decide +kernel
theorem dX11_goes_271 : decode cX11_goes 271 = .ok (.invokevirtual 310, 3) := by decide +kernel
theorem dX11_goes_274 : decode cX11_goes 274 = .ok (.ifCond .eq 5, 3) := by decide +kernel
theorem dX11_goes_277 : decode cX11_goes 277 = .ok (.iconst 1, 1) := by decide +kernel
theorem dX11_goes_278 : decode cX11_goes 278 = .ok (.ireturn, 1) := by decide +kernel
theorem dX11_goes_279 : decode cX11_goes 279 = .ok (.aload_n 0, 1) := by decide +kernel
theorem dX11_goes_280 : decode cX11_goes 280 = .ok (.iload 7, 2) := by decide +kernel
theorem dX11_goes_282 : decode cX11_goes 282 = .ok (.invokevirtual 239, 3) := by decide +kernel
theorem dX11_goes_285 : decode cX11_goes 285 = .ok (.istore 7, 2) := by decide +kernel
theorem dX11_goes_287 : decode cX11_goes 287 = .ok (.goto (-179), 3) := by decide +kernel
theorem dX11_goes_290 : decode cX11_goes 290 = .ok (.iinc 6 1, 3) := by decide +kernel
theorem dX11_goes_293 : decode cX11_goes 293 = .ok (.goto (-203), 3) := by decide +kernel
theorem dX11_goes_296 : decode cX11_goes 296 = .ok (.iconst 0, 1) := by decide +kernel
theorem dX11_goes_297 : decode cX11_goes 297 = .ok (.ireturn, 1) := by decide +kernel
theorem dX11_isWay_0 : decode cX11_isWay 0 = .ok (.aload_n 0, 1) := by decide +kernel
theorem dX11_isWay_1 : decode cX11_isWay 1 = .ok (.aload_n 0, 1) := by decide +kernel
theorem dX11_isWay_2 : decode cX11_isWay 2 = .ok (.invokevirtual 284, 3) := by decide +kernel
theorem dX11_isWay_5 : decode cX11_isWay 5 = .ok (.putfield 295, 3) := by decide +kernel
theorem dX11_isWay_8 : decode cX11_isWay 8 = .ok (.aload_n 0, 1) := by decide +kernel
theorem dX11_isWay_9 : decode cX11_isWay 9 = .ok (.iload_n 1, 1) := by decide +kernel
theorem dX11_isWay_10 : decode cX11_isWay 10 = .ok (.putfield 301, 3) := by decide +kernel
theorem dX11_isWay_13 : decode cX11_isWay 13 = .ok (.aload_n 0, 1) := by decide +kernel
theorem dX11_isWay_14 : decode cX11_isWay 14 = .ok (.getfield 295, 3) := by decide +kernel
theorem dX11_isWay_17 : decode cX11_isWay 17 = .ok (.ldc_w 267, 3) := by decide +kernel
theorem dX11_isWay_20 : decode cX11_isWay 20 = .ok (.if_icmp .ge 39, 3) := by decide +kernel
theorem dX11_isWay_23 : decode cX11_isWay 23 = .ok (.aload_n 0, 1) := by decide +kernel
theorem dX11_isWay_24 : decode cX11_isWay 24 = .ok (.ldc_w 267, 3) := by decide +kernel
theorem dX11_isWay_27 : decode cX11_isWay 27 = .ok (.putfield 298, 3) := by decide +kernel
theorem dX11_isWay_30 : decode cX11_isWay 30 = .ok (.aload_n 0, 1) := by decide +kernel
theorem dX11_isWay_31 : decode cX11_isWay 31 = .ok (.iconst 0, 1) := by decide +kernel
theorem dX11_isWay_32 : decode cX11_isWay 32 = .ok (.iconst 0, 1) := by decide +kernel
theorem dX11_isWay_33 : decode cX11_isWay 33 = .ok (.iconst (-1), 1) := by decide +kernel
theorem dX11_isWay_34 : decode cX11_isWay 34 = .ok (.iconst 0, 1) := by decide +kernel
theorem dX11_isWay_35 : decode cX11_isWay 35 = .ok (.iconst 0, 1) := by decide +kernel
theorem dX11_isWay_36 : decode cX11_isWay 36 = .ok (.invokevirtual 310, 3) := by decide +kernel
theorem dX11_isWay_39 : decode cX11_isWay 39 = .ok (.ifCond .eq 9, 3) := by decide +kernel
theorem dX11_isWay_42 : decode cX11_isWay 42 = .ok (.aload_n 0, 1) := by decide +kernel
theorem dX11_isWay_43 : decode cX11_isWay 43 = .ok (.invokevirtual 314, 3) := by decide +kernel
theorem dX11_isWay_46 : decode cX11_isWay 46 = .ok (.iconst 1, 1) := by decide +kernel
theorem dX11_isWay_47 : decode cX11_isWay 47 = .ok (.ireturn, 1) := by decide +kernel
theorem dX11_isWay_48 : decode cX11_isWay 48 = .ok (.aload_n 0, 1) := by decide +kernel
theorem dX11_isWay_49 : decode cX11_isWay 49 = .ok (.aload_n 0, 1) := by decide +kernel
theorem dX11_isWay_50 : decode cX11_isWay 50 = .ok (.getfield 298, 3) := by decide +kernel
theorem dX11_isWay_53 : decode cX11_isWay 53 = .ok (.putfield 295, 3) := by decide +kernel
theorem dX11_isWay_56 : decode cX11_isWay 56 = .ok (.goto (-43), 3) := by decide +kernel
theorem dX11_isWay_59 : decode cX11_isWay 59 = .ok (.iconst 0, 1) := by decide +kernel
theorem dX11_isWay_60 : decode cX11_isWay 60 = .ok (.ireturn, 1) := by decide +kernel
theorem dX11_spells_0 : decode cX11_spells 0 = .ok (.aload_n 0, 1) := by decide +kernel
theorem dX11_spells_1 : decode cX11_spells 1 = .ok (.iconst 0, 1) := by decide +kernel
theorem dX11_spells_2 : decode cX11_spells 2 = .ok (.putfield 317, 3) := by decide +kernel
theorem dX11_spells_5 : decode cX11_spells 5 = .ok (.iconst 0, 1) := by decide +kernel
theorem dX11_spells_6 : decode cX11_spells 6 = .ok (.istore_n 1, 1) := by decide +kernel
theorem dX11_spells_7 : decode cX11_spells 7 = .ok (.iload_n 1, 1) := by decide +kernel
theorem dX11_spells_8 : decode cX11_spells 8 = .ok (.aload_n 0, 1) := by decide +kernel
theorem dX11_spells_9 : decode cX11_spells 9 = .ok (.getfield 304, 3) := by decide +kernel
theorem dX11_spells_12 : decode cX11_spells 12 = .ok (.if_icmp .ge 67, 3) := by decide +kernel
theorem dX11_spells_15 : decode cX11_spells 15 = .ok (.iconst 0, 1) := by decide +kernel
theorem dX11_spells_16 : decode cX11_spells 16 = .ok (.istore_n 2, 1) := by decide +kernel
theorem dX11_spells_17 : decode cX11_spells 17 = .ok (.iload_n 2, 1) := by decide +kernel
theorem dX11_spells_18 : decode cX11_spells 18 = .ok (.aload_n 0, 1) := by decide +kernel
theorem dX11_spells_19 : decode cX11_spells 19 = .ok (.aload_n 0, 1) := by decide +kernel
theorem dX11_spells_20 : decode cX11_spells 20 = .ok (.getfield 51, 3) := by decide +kernel
theorem dX11_spells_23 : decode cX11_spells 23 = .ok (.iload_n 1, 1) := by decide +kernel
theorem dX11_spells_24 : decode cX11_spells 24 = .ok (.iaload, 1) := by decide +kernel
theorem dX11_spells_25 : decode cX11_spells 25 = .ok (.invokevirtual 254, 3) := by decide +kernel
theorem dX11_spells_28 : decode cX11_spells 28 = .ok (.if_icmp .ge 45, 3) := by decide +kernel
theorem dX11_spells_31 : decode cX11_spells 31 = .ok (.aload_n 0, 1) := by decide +kernel
theorem dX11_spells_32 : decode cX11_spells 32 = .ok (.getfield 54, 3) := by decide +kernel
theorem dX11_spells_35 : decode cX11_spells 35 = .ok (.aload_n 0, 1) := by decide +kernel
theorem dX11_spells_36 : decode cX11_spells 36 = .ok (.getfield 317, 3) := by decide +kernel
theorem dX11_spells_39 : decode cX11_spells 39 = .ok (.aload_n 0, 1) := by decide +kernel
theorem dX11_spells_40 : decode cX11_spells 40 = .ok (.aload_n 0, 1) := by decide +kernel
theorem dX11_spells_41 : decode cX11_spells 41 = .ok (.getfield 51, 3) := by decide +kernel
theorem dX11_spells_44 : decode cX11_spells 44 = .ok (.iload_n 1, 1) := by decide +kernel
theorem dX11_spells_45 : decode cX11_spells 45 = .ok (.iaload, 1) := by decide +kernel
theorem dX11_spells_46 : decode cX11_spells 46 = .ok (.aload_n 0, 1) := by decide +kernel
theorem dX11_spells_47 : decode cX11_spells 47 = .ok (.getfield 48, 3) := by decide +kernel
theorem dX11_spells_50 : decode cX11_spells 50 = .ok (.iload_n 1, 1) := by decide +kernel
theorem dX11_spells_51 : decode cX11_spells 51 = .ok (.iaload, 1) := by decide +kernel
theorem dX11_spells_52 : decode cX11_spells 52 = .ok (.iload_n 2, 1) := by decide +kernel
theorem dX11_spells_53 : decode cX11_spells 53 = .ok (.invokevirtual 257, 3) := by decide +kernel
theorem dX11_spells_56 : decode cX11_spells 56 = .ok (.iastore, 1) := by decide +kernel
theorem dX11_spells_57 : decode cX11_spells 57 = .ok (.aload_n 0, 1) := by decide +kernel
theorem dX11_spells_58 : decode cX11_spells 58 = .ok (.dup, 1) := by decide +kernel
theorem dX11_spells_59 : decode cX11_spells 59 = .ok (.getfield 317, 3) := by decide +kernel
theorem dX11_spells_62 : decode cX11_spells 62 = .ok (.iconst 1, 1) := by decide +kernel
theorem dX11_spells_63 : decode cX11_spells 63 = .ok (.iadd, 1) := by decide +kernel
theorem dX11_spells_64 : decode cX11_spells 64 = .ok (.putfield 317, 3) := by decide +kernel
theorem dX11_spells_67 : decode cX11_spells 67 = .ok (.iinc 2 1, 3) := by decide +kernel
theorem dX11_spells_70 : decode cX11_spells 70 = .ok (.goto (-53), 3) := by decide +kernel
theorem dX11_spells_73 : decode cX11_spells 73 = .ok (.iinc 1 1, 3) := by decide +kernel
theorem dX11_spells_76 : decode cX11_spells 76 = .ok (.goto (-69), 3) := by decide +kernel
theorem dX11_spells_79 : decode cX11_spells 79 = .ok (.return_, 1) := by decide +kernel
theorem dX11_isWayNumber_0 : decode cX11_isWayNumber 0 = .ok (.iload_n 0, 1) := by decide +kernel
theorem dX11_isWayNumber_1 : decode cX11_isWayNumber 1 = .ok (.iconst 0, 1) := by decide +kernel
theorem dX11_isWayNumber_2 : decode cX11_isWayNumber 2 = .ok (.bipush 29, 2) := by decide +kernel
theorem dX11_isWayNumber_4 : decode cX11_isWayNumber 4 = .ok (.invokestatic 103, 3) := by decide +kernel
theorem dX11_isWayNumber_7 : decode cX11_isWayNumber 7 = .ok (.ireturn, 1) := by decide +kernel
theorem dX11_way_0 : decode cX11_way 0 = .ok (.aload_n 0, 1) := by decide +kernel
theorem dX11_way_1 : decode cX11_way 1 = .ok (.iload_n 2, 1) := by decide +kernel
theorem dX11_way_2 : decode cX11_way 2 = .ok (.iconst 0, 1) := by decide +kernel
theorem dX11_way_3 : decode cX11_way 3 = .ok (.iconst 2, 1) := by decide +kernel
theorem dX11_way_4 : decode cX11_way 4 = .ok (.invokestatic 103, 3) := by decide +kernel
theorem dX11_way_7 : decode cX11_way 7 = .ok (.ifCond .ne 7, 3) := by decide +kernel
theorem dX11_way_10 : decode cX11_way 10 = .ok (.iconst 1, 1) := by decide +kernel
theorem dX11_way_11 : decode cX11_way 11 = .ok (.goto 15, 3) := by decide +kernel
theorem dX11_way_14 : decode cX11_way 14 = .ok (.iload_n 1, 1) := by decide +kernel
theorem dX11_way_15 : decode cX11_way 15 = .ok (.invokestatic 320, 3) := by decide +kernel
theorem dX11_way_18 : decode cX11_way 18 = .ok (.ifCond .ne 7, 3) := by decide +kernel
theorem dX11_way_21 : decode cX11_way 21 = .ok (.iconst 2, 1) := by decide +kernel
theorem dX11_way_22 : decode cX11_way 22 = .ok (.goto 4, 3) := by decide +kernel
theorem dX11_way_25 : decode cX11_way 25 = .ok (.iconst 0, 1) := by decide +kernel
theorem dX11_way_26 : decode cX11_way 26 = .ok (.putfield 100, 3) := by decide +kernel
theorem dX11_way_29 : decode cX11_way 29 = .ok (.aload_n 0, 1) := by decide +kernel
theorem dX11_way_30 : decode cX11_way 30 = .ok (.getfield 100, 3) := by decide +kernel
theorem dX11_way_33 : decode cX11_way 33 = .ok (.ifCond .le 5, 3) := by decide +kernel
theorem dX11_way_36 : decode cX11_way 36 = .ok (.iconst 0, 1) := by decide +kernel
theorem dX11_way_37 : decode cX11_way 37 = .ok (.ireturn, 1) := by decide +kernel
theorem dX11_way_38 : decode cX11_way 38 = .ok (.aload_n 0, 1) := by decide +kernel
theorem dX11_way_39 : decode cX11_way 39 = .ok (.iload_n 1, 1) := by decide +kernel
theorem dX11_way_40 : decode cX11_way 40 = .ok (.invokevirtual 323, 3) := by decide +kernel
theorem dX11_way_43 : decode cX11_way 43 = .ok (.ifCond .ne 5, 3) := by decide +kernel
theorem dX11_way_46 : decode cX11_way 46 = .ok (.iconst (-1), 1) := by decide +kernel
theorem dX11_way_47 : decode cX11_way 47 = .ok (.ireturn, 1) := by decide +kernel
theorem dX11_way_48 : decode cX11_way 48 = .ok (.iload_n 2, 1) := by decide +kernel
theorem dX11_way_49 : decode cX11_way 49 = .ok (.ifCond .ne 10, 3) := by decide +kernel
theorem dX11_way_52 : decode cX11_way 52 = .ok (.aload_n 0, 1) := by decide +kernel
theorem dX11_way_53 : decode cX11_way 53 = .ok (.getfield 307, 3) := by decide +kernel
theorem dX11_way_56 : decode cX11_way 56 = .ok (.goto 19, 3) := by decide +kernel
theorem dX11_way_59 : decode cX11_way 59 = .ok (.iload_n 2, 1) := by decide +kernel
theorem dX11_way_60 : decode cX11_way 60 = .ok (.iconst 1, 1) := by decide +kernel
theorem dX11_way_61 : decode cX11_way 61 = .ok (.if_icmp .ne 10, 3) := by decide +kernel
theorem dX11_way_64 : decode cX11_way 64 = .ok (.aload_n 0, 1) := by decide +kernel
theorem dX11_way_65 : decode cX11_way 65 = .ok (.getfield 304, 3) := by decide +kernel
theorem dX11_way_68 : decode cX11_way 68 = .ok (.goto 7, 3) := by decide +kernel
theorem dX11_way_71 : decode cX11_way 71 = .ok (.aload_n 0, 1) := by decide +kernel
theorem dX11_way_72 : decode cX11_way 72 = .ok (.getfield 317, 3) := by decide +kernel
theorem dX11_way_75 : decode cX11_way 75 = .ok (.ireturn, 1) := by decide +kernel
theorem dX11_costOf_0 : decode cX11_costOf 0 = .ok (.iconst 0, 1) := by decide +kernel
theorem dX11_costOf_1 : decode cX11_costOf 1 = .ok (.istore_n 2, 1) := by decide +kernel
theorem dX11_costOf_2 : decode cX11_costOf 2 = .ok (.iconst (-1), 1) := by decide +kernel
theorem dX11_costOf_3 : decode cX11_costOf 3 = .ok (.istore_n 3, 1) := by decide +kernel
theorem dX11_costOf_4 : decode cX11_costOf 4 = .ok (.iconst 0, 1) := by decide +kernel
theorem dX11_costOf_5 : decode cX11_costOf 5 = .ok (.istore 4, 2) := by decide +kernel
theorem dX11_costOf_7 : decode cX11_costOf 7 = .ok (.iload 4, 2) := by decide +kernel
theorem dX11_costOf_9 : decode cX11_costOf 9 = .ok (.iload_n 1, 1) := by decide +kernel
theorem dX11_costOf_10 : decode cX11_costOf 10 = .ok (.if_icmp .gt 54, 3) := by decide +kernel
theorem dX11_costOf_13 : decode cX11_costOf 13 = .ok (.aload_n 0, 1) := by decide +kernel
theorem dX11_costOf_14 : decode cX11_costOf 14 = .ok (.iload_n 2, 1) := by decide +kernel
theorem dX11_costOf_15 : decode cX11_costOf 15 = .ok (.iload_n 3, 1) := by decide +kernel
theorem dX11_costOf_16 : decode cX11_costOf 16 = .ok (.aload_n 0, 1) := by decide +kernel
theorem dX11_costOf_17 : decode cX11_costOf 17 = .ok (.getfield 48, 3) := by decide +kernel
theorem dX11_costOf_20 : decode cX11_costOf 20 = .ok (.iload 4, 2) := by decide +kernel
theorem dX11_costOf_22 : decode cX11_costOf 22 = .ok (.iaload, 1) := by decide +kernel
theorem dX11_costOf_23 : decode cX11_costOf 23 = .ok (.aload_n 0, 1) := by decide +kernel
theorem dX11_costOf_24 : decode cX11_costOf 24 = .ok (.getfield 51, 3) := by decide +kernel
theorem dX11_costOf_27 : decode cX11_costOf 27 = .ok (.iload 4, 2) := by decide +kernel
theorem dX11_costOf_29 : decode cX11_costOf 29 = .ok (.iaload, 1) := by decide +kernel
theorem dX11_costOf_30 : decode cX11_costOf 30 = .ok (.invokevirtual 271, 3) := by decide +kernel
theorem dX11_costOf_33 : decode cX11_costOf 33 = .ok (.aload_n 0, 1) := by decide +kernel
theorem dX11_costOf_34 : decode cX11_costOf 34 = .ok (.getfield 48, 3) := by decide +kernel
theorem dX11_costOf_37 : decode cX11_costOf 37 = .ok (.iload 4, 2) := by decide +kernel
theorem dX11_costOf_39 : decode cX11_costOf 39 = .ok (.iaload, 1) := by decide +kernel
theorem dX11_costOf_40 : decode cX11_costOf 40 = .ok (.aload_n 0, 1) := by decide +kernel
theorem dX11_costOf_41 : decode cX11_costOf 41 = .ok (.aload_n 0, 1) := by decide +kernel
theorem dX11_costOf_42 : decode cX11_costOf 42 = .ok (.getfield 51, 3) := by decide +kernel
theorem dX11_costOf_45 : decode cX11_costOf 45 = .ok (.iload 4, 2) := by decide +kernel
theorem dX11_costOf_47 : decode cX11_costOf 47 = .ok (.iaload, 1) := by decide +kernel
theorem dX11_costOf_48 : decode cX11_costOf 48 = .ok (.invokevirtual 236, 3) := by decide +kernel
theorem dX11_costOf_51 : decode cX11_costOf 51 = .ok (.iadd, 1) := by decide +kernel
theorem dX11_costOf_52 : decode cX11_costOf 52 = .ok (.istore_n 2, 1) := by decide +kernel
theorem dX11_costOf_53 : decode cX11_costOf 53 = .ok (.aload_n 0, 1) := by decide +kernel
theorem dX11_costOf_54 : decode cX11_costOf 54 = .ok (.getfield 251, 3) := by decide +kernel
theorem dX11_costOf_57 : decode cX11_costOf 57 = .ok (.istore_n 3, 1) := by decide +kernel
theorem dX11_costOf_58 : decode cX11_costOf 58 = .ok (.iinc 4 1, 3) := by decide +kernel
theorem dX11_costOf_61 : decode cX11_costOf 61 = .ok (.goto (-54), 3) := by decide +kernel
theorem dX11_costOf_64 : decode cX11_costOf 64 = .ok (.aload_n 0, 1) := by decide +kernel
theorem dX11_costOf_65 : decode cX11_costOf 65 = .ok (.getfield 248, 3) := by decide +kernel
theorem dX11_costOf_68 : decode cX11_costOf 68 = .ok (.ireturn, 1) := by decide +kernel
theorem dX11_step_0 : decode cX11_step 0 = .ok (.aload_n 0, 1) := by decide +kernel
theorem dX11_step_1 : decode cX11_step 1 = .ok (.iload_n 3, 1) := by decide +kernel
theorem dX11_step_2 : decode cX11_step 2 = .ok (.iconst 0, 1) := by decide +kernel
theorem dX11_step_3 : decode cX11_step 3 = .ok (.iconst 2, 1) := by decide +kernel
theorem dX11_step_4 : decode cX11_step 4 = .ok (.invokestatic 103, 3) := by decide +kernel
theorem dX11_step_7 : decode cX11_step 7 = .ok (.ifCond .ne 7, 3) := by decide +kernel
theorem dX11_step_10 : decode cX11_step 10 = .ok (.iconst 1, 1) := by decide +kernel
theorem dX11_step_11 : decode cX11_step 11 = .ok (.goto 15, 3) := by decide +kernel
theorem dX11_step_14 : decode cX11_step 14 = .ok (.iload_n 1, 1) := by decide +kernel
theorem dX11_step_15 : decode cX11_step 15 = .ok (.invokestatic 320, 3) := by decide +kernel
theorem dX11_step_18 : decode cX11_step 18 = .ok (.ifCond .ne 7, 3) := by decide +kernel
theorem dX11_step_21 : decode cX11_step 21 = .ok (.iconst 2, 1) := by decide +kernel
theorem dX11_step_22 : decode cX11_step 22 = .ok (.goto 4, 3) := by decide +kernel
theorem dX11_step_25 : decode cX11_step 25 = .ok (.iconst 0, 1) := by decide +kernel
theorem dX11_step_26 : decode cX11_step 26 = .ok (.putfield 100, 3) := by decide +kernel
theorem dX11_step_29 : decode cX11_step 29 = .ok (.aload_n 0, 1) := by decide +kernel
theorem dX11_step_30 : decode cX11_step 30 = .ok (.getfield 100, 3) := by decide +kernel
theorem dX11_step_33 : decode cX11_step 33 = .ok (.ifCond .le 5, 3) := by decide +kernel
theorem dX11_step_36 : decode cX11_step 36 = .ok (.iconst 0, 1) := by decide +kernel
theorem dX11_step_37 : decode cX11_step 37 = .ok (.ireturn, 1) := by decide +kernel
theorem dX11_step_38 : decode cX11_step 38 = .ok (.aload_n 0, 1) := by decide +kernel
theorem dX11_step_39 : decode cX11_step 39 = .ok (.iload_n 1, 1) := by decide +kernel
theorem dX11_step_40 : decode cX11_step 40 = .ok (.invokevirtual 323, 3) := by decide +kernel
theorem dX11_step_43 : decode cX11_step 43 = .ok (.ifCond .eq 17, 3) := by decide +kernel
theorem dX11_step_46 : decode cX11_step 46 = .ok (.iload_n 2, 1) := by decide +kernel
theorem dX11_step_47 : decode cX11_step 47 = .ok (.iconst 0, 1) := by decide +kernel
theorem dX11_step_48 : decode cX11_step 48 = .ok (.aload_n 0, 1) := by decide +kernel
theorem dX11_step_49 : decode cX11_step 49 = .ok (.getfield 304, 3) := by decide +kernel
theorem dX11_step_52 : decode cX11_step 52 = .ok (.iconst 1, 1) := by decide +kernel
theorem dX11_step_53 : decode cX11_step 53 = .ok (.isub, 1) := by decide +kernel
theorem dX11_step_54 : decode cX11_step 54 = .ok (.invokestatic 103, 3) := by decide +kernel
theorem dX11_step_57 : decode cX11_step 57 = .ok (.ifCond .ne 5, 3) := by decide +kernel
theorem dX11_step_60 : decode cX11_step 60 = .ok (.iconst (-1), 1) := by decide +kernel
theorem dX11_step_61 : decode cX11_step 61 = .ok (.ireturn, 1) := by decide +kernel
theorem dX11_step_62 : decode cX11_step 62 = .ok (.iload_n 3, 1) := by decide +kernel
theorem dX11_step_63 : decode cX11_step 63 = .ok (.ifCond .ne 12, 3) := by decide +kernel
theorem dX11_step_66 : decode cX11_step 66 = .ok (.aload_n 0, 1) := by decide +kernel
theorem dX11_step_67 : decode cX11_step 67 = .ok (.getfield 48, 3) := by decide +kernel
theorem dX11_step_70 : decode cX11_step 70 = .ok (.iload_n 2, 1) := by decide +kernel
theorem dX11_step_71 : decode cX11_step 71 = .ok (.iaload, 1) := by decide +kernel
theorem dX11_step_72 : decode cX11_step 72 = .ok (.goto 22, 3) := by decide +kernel
theorem dX11_step_75 : decode cX11_step 75 = .ok (.iload_n 3, 1) := by decide +kernel
theorem dX11_step_76 : decode cX11_step 76 = .ok (.iconst 1, 1) := by decide +kernel
theorem dX11_step_77 : decode cX11_step 77 = .ok (.if_icmp .ne 12, 3) := by decide +kernel
theorem dX11_step_80 : decode cX11_step 80 = .ok (.aload_n 0, 1) := by decide +kernel
theorem dX11_step_81 : decode cX11_step 81 = .ok (.getfield 51, 3) := by decide +kernel
theorem dX11_step_84 : decode cX11_step 84 = .ok (.iload_n 2, 1) := by decide +kernel
theorem dX11_step_85 : decode cX11_step 85 = .ok (.iaload, 1) := by decide +kernel
theorem dX11_step_86 : decode cX11_step 86 = .ok (.goto 8, 3) := by decide +kernel
theorem dX11_step_89 : decode cX11_step 89 = .ok (.aload_n 0, 1) := by decide +kernel
theorem dX11_step_90 : decode cX11_step 90 = .ok (.iload_n 2, 1) := by decide +kernel
theorem dX11_step_91 : decode cX11_step 91 = .ok (.invokevirtual 326, 3) := by decide +kernel
theorem dX11_step_94 : decode cX11_step 94 = .ok (.ireturn, 1) := by decide +kernel
theorem dX11_word__0 : decode cX11_word_ 0 = .ok (.aload_n 0, 1) := by decide +kernel
theorem dX11_word__1 : decode cX11_word_ 1 = .ok (.iload_n 1, 1) := by decide +kernel
theorem dX11_word__2 : decode cX11_word_ 2 = .ok (.invokestatic 320, 3) := by decide +kernel
theorem dX11_word__5 : decode cX11_word_ 5 = .ok (.ifCond .eq 7, 3) := by decide +kernel
theorem dX11_word__8 : decode cX11_word_ 8 = .ok (.iconst 0, 1) := by decide +kernel
theorem dX11_word__9 : decode cX11_word_ 9 = .ok (.goto 4, 3) := by decide +kernel
theorem dX11_word__12 : decode cX11_word_ 12 = .ok (.iconst 1, 1) := by decide +kernel
theorem dX11_word__13 : decode cX11_word_ 13 = .ok (.putfield 100, 3) := by decide +kernel
theorem dX11_word__16 : decode cX11_word_ 16 = .ok (.aload_n 0, 1) := by decide +kernel
theorem dX11_word__17 : decode cX11_word_ 17 = .ok (.getfield 100, 3) := by decide +kernel
theorem dX11_word__20 : decode cX11_word_ 20 = .ok (.ifCond .le 5, 3) := by decide +kernel
theorem dX11_word__23 : decode cX11_word_ 23 = .ok (.iconst 0, 1) := by decide +kernel
theorem dX11_word__24 : decode cX11_word_ 24 = .ok (.ireturn, 1) := by decide +kernel
theorem dX11_word__25 : decode cX11_word_ 25 = .ok (.aload_n 0, 1) := by decide +kernel
theorem dX11_word__26 : decode cX11_word_ 26 = .ok (.iload_n 1, 1) := by decide +kernel
theorem dX11_word__27 : decode cX11_word_ 27 = .ok (.invokevirtual 323, 3) := by decide +kernel
theorem dX11_word__30 : decode cX11_word_ 30 = .ok (.ifCond .eq 26, 3) := by decide +kernel
theorem dX11_word__33 : decode cX11_word_ 33 = .ok (.iload_n 2, 1) := by decide +kernel
theorem dX11_word__34 : decode cX11_word_ 34 = .ok (.iconst 0, 1) := by decide +kernel
theorem dX11_word__35 : decode cX11_word_ 35 = .ok (.aload_n 0, 1) := by decide +kernel
theorem dX11_word__36 : decode cX11_word_ 36 = .ok (.getfield 317, 3) := by decide +kernel
theorem dX11_word__39 : decode cX11_word_ 39 = .ok (.iconst 1, 1) := by decide +kernel
theorem dX11_word__40 : decode cX11_word_ 40 = .ok (.isub, 1) := by decide +kernel
theorem dX11_word__41 : decode cX11_word_ 41 = .ok (.invokestatic 103, 3) := by decide +kernel
theorem dX11_word__44 : decode cX11_word_ 44 = .ok (.ifCond .eq 12, 3) := by decide +kernel
theorem dX11_word__47 : decode cX11_word_ 47 = .ok (.aload_n 0, 1) := by decide +kernel
theorem dX11_word__48 : decode cX11_word_ 48 = .ok (.getfield 54, 3) := by decide +kernel
theorem dX11_word__51 : decode cX11_word_ 51 = .ok (.iload_n 2, 1) := by decide +kernel
theorem dX11_word__52 : decode cX11_word_ 52 = .ok (.iaload, 1) := by decide +kernel
theorem dX11_word__53 : decode cX11_word_ 53 = .ok (.goto 4, 3) := by decide +kernel
theorem dX11_word__56 : decode cX11_word_ 56 = .ok (.iconst (-1), 1) := by decide +kernel
theorem dX11_word__57 : decode cX11_word_ 57 = .ok (.ireturn, 1) := by decide +kernel
theorem dX11_optionFor_0 : decode cX11_optionFor 0 = .ok (.ldc_w 267, 3) := by decide +kernel
theorem dX11_optionFor_3 : decode cX11_optionFor 3 = .ok (.istore_n 3, 1) := by decide +kernel
theorem dX11_optionFor_4 : decode cX11_optionFor 4 = .ok (.aload_n 0, 1) := by decide +kernel
theorem dX11_optionFor_5 : decode cX11_optionFor 5 = .ok (.iconst (-1), 1) := by decide +kernel
theorem dX11_optionFor_6 : decode cX11_optionFor 6 = .ok (.invokevirtual 239, 3) := by decide +kernel
theorem dX11_optionFor_9 : decode cX11_optionFor 9 = .ok (.istore 4, 2) := by decide +kernel
theorem dX11_optionFor_11 : decode cX11_optionFor 11 = .ok (.iload 4, 2) := by decide +kernel
theorem dX11_optionFor_13 : decode cX11_optionFor 13 = .ok (.bipush 99, 2) := by decide +kernel
theorem dX11_optionFor_15 : decode cX11_optionFor 15 = .ok (.if_icmp .gt 123, 3) := by decide +kernel
theorem dX11_optionFor_18 : decode cX11_optionFor 18 = .ok (.aload_n 0, 1) := by decide +kernel
theorem dX11_optionFor_19 : decode cX11_optionFor 19 = .ok (.iload 4, 2) := by decide +kernel
theorem dX11_optionFor_21 : decode cX11_optionFor 21 = .ok (.iload_n 1, 1) := by decide +kernel
theorem dX11_optionFor_22 : decode cX11_optionFor 22 = .ok (.invokevirtual 217, 3) := by decide +kernel
theorem dX11_optionFor_25 : decode cX11_optionFor 25 = .ok (.ifCond .eq 102, 3) := by decide +kernel
theorem dX11_optionFor_28 : decode cX11_optionFor 28 = .ok (.aload_n 0, 1) := by decide +kernel
theorem dX11_optionFor_29 : decode cX11_optionFor 29 = .ok (.iload 4, 2) := by decide +kernel
theorem dX11_optionFor_31 : decode cX11_optionFor 31 = .ok (.invokevirtual 236, 3) := by decide +kernel
theorem dX11_optionFor_34 : decode cX11_optionFor 34 = .ok (.iload_n 2, 1) := by decide +kernel
theorem dX11_optionFor_35 : decode cX11_optionFor 35 = .ok (.iload_n 1, 1) := by decide +kernel
theorem dX11_optionFor_36 : decode cX11_optionFor 36 = .ok (.isub, 1) := by decide +kernel
theorem dX11_optionFor_37 : decode cX11_optionFor 37 = .ok (.iconst 1, 1) := by decide +kernel
theorem dX11_optionFor_38 : decode cX11_optionFor 38 = .ok (.iadd, 1) := by decide +kernel
theorem dX11_optionFor_39 : decode cX11_optionFor 39 = .ok (.if_icmp .eq 6, 3) := by decide +kernel
theorem dX11_optionFor_42 : decode cX11_optionFor 42 = .ok (.goto 85, 3) := by decide +kernel
theorem dX11_optionFor_45 : decode cX11_optionFor 45 = .ok (.iload 4, 2) := by decide +kernel
theorem dX11_optionFor_47 : decode cX11_optionFor 47 = .ok (.bipush 99, 2) := by decide +kernel
theorem dX11_optionFor_49 : decode cX11_optionFor 49 = .ok (.if_icmp .ne 12, 3) := by decide +kernel
theorem dX11_optionFor_52 : decode cX11_optionFor 52 = .ok (.aload_n 0, 1) := by decide +kernel
theorem dX11_optionFor_53 : decode cX11_optionFor 53 = .ok (.getfield 7, 3) := by decide +kernel
theorem dX11_optionFor_56 : decode cX11_optionFor 56 = .ok (.iconst 5, 1) := by decide +kernel
theorem dX11_optionFor_57 : decode cX11_optionFor 57 = .ok (.iaload, 1) := by decide +kernel
theorem dX11_optionFor_58 : decode cX11_optionFor 58 = .ok (.goto 11, 3) := by decide +kernel
theorem dX11_optionFor_61 : decode cX11_optionFor 61 = .ok (.aload_n 0, 1) := by decide +kernel
theorem dX11_optionFor_62 : decode cX11_optionFor 62 = .ok (.iload 4, 2) := by decide +kernel
theorem dX11_optionFor_64 : decode cX11_optionFor 64 = .ok (.bipush 8, 2) := by decide +kernel
theorem dX11_optionFor_66 : decode cX11_optionFor 66 = .ok (.invokevirtual 169, 3) := by decide +kernel
theorem dX11_optionFor_69 : decode cX11_optionFor 69 = .ok (.istore 5, 2) := by decide +kernel
theorem dX11_optionFor_71 : decode cX11_optionFor 71 = .ok (.iconst 1, 1) := by decide +kernel
theorem dX11_optionFor_72 : decode cX11_optionFor 72 = .ok (.istore 6, 2) := by decide +kernel
theorem dX11_optionFor_74 : decode cX11_optionFor 74 = .ok (.iload 6, 2) := by decide +kernel
theorem dX11_optionFor_76 : decode cX11_optionFor 76 = .ok (.aload_n 0, 1) := by decide +kernel
theorem dX11_optionFor_77 : decode cX11_optionFor 77 = .ok (.iload 4, 2) := by decide +kernel
theorem dX11_optionFor_79 : decode cX11_optionFor 79 = .ok (.invokevirtual 254, 3) := by decide +kernel
theorem dX11_optionFor_82 : decode cX11_optionFor 82 = .ok (.if_icmp .ge 38, 3) := by decide +kernel
theorem dX11_optionFor_85 : decode cX11_optionFor 85 = .ok (.iload 5, 2) := by decide +kernel
theorem dX11_optionFor_87 : decode cX11_optionFor 87 = .ok (.aload_n 0, 1) := by decide +kernel
theorem dX11_optionFor_88 : decode cX11_optionFor 88 = .ok (.aload_n 0, 1) := by decide +kernel
theorem dX11_optionFor_89 : decode cX11_optionFor 89 = .ok (.iload 4, 2) := by decide +kernel
theorem dX11_optionFor_91 : decode cX11_optionFor 91 = .ok (.iload_n 1, 1) := by decide +kernel
theorem dX11_optionFor_92 : decode cX11_optionFor 92 = .ok (.iload 6, 2) := by decide +kernel
theorem dX11_optionFor_94 : decode cX11_optionFor 94 = .ok (.iconst 1, 1) := by decide +kernel
theorem dX11_optionFor_95 : decode cX11_optionFor 95 = .ok (.isub, 1) := by decide +kernel
theorem dX11_optionFor_96 : decode cX11_optionFor 96 = .ok (.invokevirtual 257, 3) := by decide +kernel
theorem dX11_optionFor_99 : decode cX11_optionFor 99 = .ok (.aload_n 0, 1) := by decide +kernel
theorem dX11_optionFor_100 : decode cX11_optionFor 100 = .ok (.iload 4, 2) := by decide +kernel
theorem dX11_optionFor_102 : decode cX11_optionFor 102 = .ok (.iload_n 1, 1) := by decide +kernel
theorem dX11_optionFor_103 : decode cX11_optionFor 103 = .ok (.iload 6, 2) := by decide +kernel
theorem dX11_optionFor_105 : decode cX11_optionFor 105 = .ok (.invokevirtual 257, 3) := by decide +kernel
theorem dX11_optionFor_108 : decode cX11_optionFor 108 = .ok (.invokevirtual 230, 3) := by decide +kernel
theorem dX11_optionFor_111 : decode cX11_optionFor 111 = .ok (.iadd, 1) := by decide +kernel
theorem dX11_optionFor_112 : decode cX11_optionFor 112 = .ok (.istore 5, 2) := by decide +kernel
theorem dX11_optionFor_114 : decode cX11_optionFor 114 = .ok (.iinc 6 1, 3) := by decide +kernel
theorem dX11_optionFor_117 : decode cX11_optionFor 117 = .ok (.goto (-43), 3) := by decide +kernel
theorem dX11_optionFor_120 : decode cX11_optionFor 120 = .ok (.iload_n 3, 1) := by decide +kernel
theorem dX11_optionFor_121 : decode cX11_optionFor 121 = .ok (.iload 5, 2) := by decide +kernel
theorem dX11_optionFor_123 : decode cX11_optionFor 123 = .ok (.invokestatic 278, 3) := by decide +kernel
theorem dX11_optionFor_126 : decode cX11_optionFor 126 = .ok (.istore_n 3, 1) := by decide +kernel
theorem dX11_optionFor_127 : decode cX11_optionFor 127 = .ok (.aload_n 0, 1) := by decide +kernel
theorem dX11_optionFor_128 : decode cX11_optionFor 128 = .ok (.iload 4, 2) := by decide +kernel
theorem dX11_optionFor_130 : decode cX11_optionFor 130 = .ok (.invokevirtual 239, 3) := by decide +kernel
theorem dX11_optionFor_133 : decode cX11_optionFor 133 = .ok (.istore 4, 2) := by decide +kernel
theorem dX11_optionFor_135 : decode cX11_optionFor 135 = .ok (.goto (-124), 3) := by decide +kernel
theorem dX11_optionFor_138 : decode cX11_optionFor 138 = .ok (.iload_n 3, 1) := by decide +kernel
theorem dX11_optionFor_139 : decode cX11_optionFor 139 = .ok (.ireturn, 1) := by decide +kernel
theorem dX11_laysStretches_0 : decode cX11_laysStretches 0 = .ok (.iconst 1, 1) := by decide +kernel
theorem dX11_laysStretches_1 : decode cX11_laysStretches 1 = .ok (.istore_n 1, 1) := by decide +kernel
theorem dX11_laysStretches_2 : decode cX11_laysStretches 2 = .ok (.iload_n 1, 1) := by decide +kernel
theorem dX11_laysStretches_3 : decode cX11_laysStretches 3 = .ok (.aload_n 0, 1) := by decide +kernel
theorem dX11_laysStretches_4 : decode cX11_laysStretches 4 = .ok (.getfield 7, 3) := by decide +kernel
theorem dX11_laysStretches_7 : decode cX11_laysStretches 7 = .ok (.iconst 3, 1) := by decide +kernel
theorem dX11_laysStretches_8 : decode cX11_laysStretches 8 = .ok (.iaload, 1) := by decide +kernel
theorem dX11_laysStretches_9 : decode cX11_laysStretches 9 = .ok (.if_icmp .gt 105, 3) := by decide +kernel
theorem dX11_laysStretches_12 : decode cX11_laysStretches 12 = .ok (.iconst 0, 1) := by decide +kernel
theorem dX11_laysStretches_13 : decode cX11_laysStretches 13 = .ok (.istore_n 2, 1) := by decide +kernel
theorem dX11_laysStretches_14 : decode cX11_laysStretches 14 = .ok (.iload_n 2, 1) := by decide +kernel
theorem dX11_laysStretches_15 : decode cX11_laysStretches 15 = .ok (.iload_n 1, 1) := by decide +kernel
theorem dX11_laysStretches_16 : decode cX11_laysStretches 16 = .ok (.iadd, 1) := by decide +kernel
theorem dX11_laysStretches_17 : decode cX11_laysStretches 17 = .ok (.aload_n 0, 1) := by decide +kernel
theorem dX11_laysStretches_18 : decode cX11_laysStretches 18 = .ok (.getfield 7, 3) := by decide +kernel
theorem dX11_laysStretches_21 : decode cX11_laysStretches 21 = .ok (.iconst 3, 1) := by decide +kernel
theorem dX11_laysStretches_22 : decode cX11_laysStretches 22 = .ok (.iaload, 1) := by decide +kernel
theorem dX11_laysStretches_23 : decode cX11_laysStretches 23 = .ok (.if_icmp .gt 85, 3) := by decide +kernel
theorem dX11_laysStretches_26 : decode cX11_laysStretches 26 = .ok (.iload_n 2, 1) := by decide +kernel
theorem dX11_laysStretches_27 : decode cX11_laysStretches 27 = .ok (.iload_n 1, 1) := by decide +kernel
theorem dX11_laysStretches_28 : decode cX11_laysStretches 28 = .ok (.iadd, 1) := by decide +kernel
theorem dX11_laysStretches_29 : decode cX11_laysStretches 29 = .ok (.iconst 1, 1) := by decide +kernel
theorem dX11_laysStretches_30 : decode cX11_laysStretches 30 = .ok (.isub, 1) := by decide +kernel
theorem dX11_laysStretches_31 : decode cX11_laysStretches 31 = .ok (.istore_n 3, 1) := by decide +kernel
theorem dX11_laysStretches_32 : decode cX11_laysStretches 32 = .ok (.aload_n 0, 1) := by decide +kernel
theorem dX11_laysStretches_33 : decode cX11_laysStretches 33 = .ok (.iload_n 2, 1) := by decide +kernel
theorem dX11_laysStretches_34 : decode cX11_laysStretches 34 = .ok (.iload_n 3, 1) := by decide +kernel
theorem dX11_laysStretches_35 : decode cX11_laysStretches 35 = .ok (.invokevirtual 329, 3) := by decide +kernel
theorem dX11_laysStretches_38 : decode cX11_laysStretches 38 = .ok (.istore 4, 2) := by decide +kernel
theorem dX11_laysStretches_40 : decode cX11_laysStretches 40 = .ok (.iload_n 2, 1) := by decide +kernel
theorem dX11_laysStretches_41 : decode cX11_laysStretches 41 = .ok (.istore 5, 2) := by decide +kernel
theorem dX11_laysStretches_43 : decode cX11_laysStretches 43 = .ok (.iload 5, 2) := by decide +kernel
theorem dX11_laysStretches_45 : decode cX11_laysStretches 45 = .ok (.iload_n 3, 1) := by decide +kernel
theorem dX11_laysStretches_46 : decode cX11_laysStretches 46 = .ok (.if_icmp .ge 43, 3) := by decide +kernel
theorem dX11_laysStretches_49 : decode cX11_laysStretches 49 = .ok (.iload 4, 2) := by decide +kernel
theorem dX11_laysStretches_51 : decode cX11_laysStretches 51 = .ok (.aload_n 0, 1) := by decide +kernel
theorem dX11_laysStretches_52 : decode cX11_laysStretches 52 = .ok (.getfield 57, 3) := by decide +kernel
theorem dX11_laysStretches_55 : decode cX11_laysStretches 55 = .ok (.bipush 6, 2) := by decide +kernel
theorem dX11_laysStretches_57 : decode cX11_laysStretches 57 = .ok (.iload_n 2, 1) := by decide +kernel
theorem dX11_laysStretches_58 : decode cX11_laysStretches 58 = .ok (.imul, 1) := by decide +kernel
theorem dX11_laysStretches_59 : decode cX11_laysStretches 59 = .ok (.iload 5, 2) := by decide +kernel
theorem dX11_laysStretches_61 : decode cX11_laysStretches 61 = .ok (.iadd, 1) := by decide +kernel
theorem dX11_laysStretches_62 : decode cX11_laysStretches 62 = .ok (.iaload, 1) := by decide +kernel
theorem dX11_laysStretches_63 : decode cX11_laysStretches 63 = .ok (.aload_n 0, 1) := by decide +kernel
theorem dX11_laysStretches_64 : decode cX11_laysStretches 64 = .ok (.getfield 57, 3) := by decide +kernel
theorem dX11_laysStretches_67 : decode cX11_laysStretches 67 = .ok (.bipush 6, 2) := by decide +kernel
theorem dX11_laysStretches_69 : decode cX11_laysStretches 69 = .ok (.iload 5, 2) := by decide +kernel
theorem dX11_laysStretches_71 : decode cX11_laysStretches 71 = .ok (.iconst 1, 1) := by decide +kernel
theorem dX11_laysStretches_72 : decode cX11_laysStretches 72 = .ok (.iadd, 1) := by decide +kernel
theorem dX11_laysStretches_73 : decode cX11_laysStretches 73 = .ok (.imul, 1) := by decide +kernel
theorem dX11_laysStretches_74 : decode cX11_laysStretches 74 = .ok (.iload_n 3, 1) := by decide +kernel
theorem dX11_laysStretches_75 : decode cX11_laysStretches 75 = .ok (.iadd, 1) := by decide +kernel
theorem dX11_laysStretches_76 : decode cX11_laysStretches 76 = .ok (.iaload, 1) := by decide +kernel
theorem dX11_laysStretches_77 : decode cX11_laysStretches 77 = .ok (.iadd, 1) := by decide +kernel
theorem dX11_laysStretches_78 : decode cX11_laysStretches 78 = .ok (.invokestatic 278, 3) := by decide +kernel
theorem dX11_laysStretches_81 : decode cX11_laysStretches 81 = .ok (.istore 4, 2) := by decide +kernel
theorem dX11_laysStretches_83 : decode cX11_laysStretches 83 = .ok (.iinc 5 1, 3) := by decide +kernel
theorem dX11_laysStretches_86 : decode cX11_laysStretches 86 = .ok (.goto (-43), 3) := by decide +kernel
theorem dX11_laysStretches_89 : decode cX11_laysStretches 89 = .ok (.aload_n 0, 1) := by decide +kernel
theorem dX11_laysStretches_90 : decode cX11_laysStretches 90 = .ok (.getfield 57, 3) := by decide +kernel
theorem dX11_laysStretches_93 : decode cX11_laysStretches 93 = .ok (.bipush 6, 2) := by decide +kernel
theorem dX11_laysStretches_95 : decode cX11_laysStretches 95 = .ok (.iload_n 2, 1) := by decide +kernel
theorem dX11_laysStretches_96 : decode cX11_laysStretches 96 = .ok (.imul, 1) := by decide +kernel
theorem dX11_laysStretches_97 : decode cX11_laysStretches 97 = .ok (.iload_n 3, 1) := by decide +kernel
theorem dX11_laysStretches_98 : decode cX11_laysStretches 98 = .ok (.iadd, 1) := by decide +kernel
theorem dX11_laysStretches_99 : decode cX11_laysStretches 99 = .ok (.iload 4, 2) := by decide +kernel
theorem dX11_laysStretches_101 : decode cX11_laysStretches 101 = .ok (.iastore, 1) := by decide +kernel
theorem dX11_laysStretches_102 : decode cX11_laysStretches 102 = .ok (.iinc 2 1, 3) := by decide +kernel
theorem dX11_laysStretches_105 : decode cX11_laysStretches 105 = .ok (.goto (-91), 3) := by decide +kernel
theorem dX11_laysStretches_108 : decode cX11_laysStretches 108 = .ok (.iinc 1 1, 3) := by decide +kernel
theorem dX11_laysStretches_111 : decode cX11_laysStretches 111 = .ok (.goto (-109), 3) := by decide +kernel
theorem dX11_laysStretches_114 : decode cX11_laysStretches 114 = .ok (.return_, 1) := by decide +kernel
theorem dX11_stretch_0 : decode cX11_stretch 0 = .ok (.aload_n 0, 1) := by decide +kernel
theorem dX11_stretch_1 : decode cX11_stretch 1 = .ok (.aload_n 0, 1) := by decide +kernel
theorem dX11_stretch_2 : decode cX11_stretch 2 = .ok (.iload_n 1, 1) := by decide +kernel
theorem dX11_stretch_3 : decode cX11_stretch 3 = .ok (.invokevirtual 233, 3) := by decide +kernel
theorem dX11_stretch_6 : decode cX11_stretch 6 = .ok (.ifCond .eq 11, 3) := by decide +kernel
theorem dX11_stretch_9 : decode cX11_stretch 9 = .ok (.aload_n 0, 1) := by decide +kernel
theorem dX11_stretch_10 : decode cX11_stretch 10 = .ok (.iload_n 2, 1) := by decide +kernel
theorem dX11_stretch_11 : decode cX11_stretch 11 = .ok (.invokevirtual 233, 3) := by decide +kernel
theorem dX11_stretch_14 : decode cX11_stretch 14 = .ok (.ifCond .ne 7, 3) := by decide +kernel
theorem dX11_stretch_17 : decode cX11_stretch 17 = .ok (.iconst 1, 1) := by decide +kernel
theorem dX11_stretch_18 : decode cX11_stretch 18 = .ok (.goto 13, 3) := by decide +kernel
theorem dX11_stretch_21 : decode cX11_stretch 21 = .ok (.iload_n 2, 1) := by decide +kernel
theorem dX11_stretch_22 : decode cX11_stretch 22 = .ok (.iload_n 1, 1) := by decide +kernel
theorem dX11_stretch_23 : decode cX11_stretch 23 = .ok (.if_icmp .ge 7, 3) := by decide +kernel
theorem dX11_stretch_26 : decode cX11_stretch 26 = .ok (.iconst 2, 1) := by decide +kernel
theorem dX11_stretch_27 : decode cX11_stretch 27 = .ok (.goto 4, 3) := by decide +kernel
theorem dX11_stretch_30 : decode cX11_stretch 30 = .ok (.iconst 0, 1) := by decide +kernel
theorem dX11_stretch_31 : decode cX11_stretch 31 = .ok (.putfield 100, 3) := by decide +kernel
theorem dX11_stretch_34 : decode cX11_stretch 34 = .ok (.aload_n 0, 1) := by decide +kernel
theorem dX11_stretch_35 : decode cX11_stretch 35 = .ok (.getfield 100, 3) := by decide +kernel
theorem dX11_stretch_38 : decode cX11_stretch 38 = .ok (.ifCond .le 5, 3) := by decide +kernel
theorem dX11_stretch_41 : decode cX11_stretch 41 = .ok (.iconst 0, 1) := by decide +kernel
theorem dX11_stretch_42 : decode cX11_stretch 42 = .ok (.ireturn, 1) := by decide +kernel
theorem dX11_stretch_43 : decode cX11_stretch 43 = .ok (.aload_n 0, 1) := by decide +kernel
theorem dX11_stretch_44 : decode cX11_stretch 44 = .ok (.invokevirtual 332, 3) := by decide +kernel
theorem dX11_stretch_47 : decode cX11_stretch 47 = .ok (.aload_n 0, 1) := by decide +kernel
theorem dX11_stretch_48 : decode cX11_stretch 48 = .ok (.getfield 57, 3) := by decide +kernel
theorem dX11_stretch_51 : decode cX11_stretch 51 = .ok (.bipush 6, 2) := by decide +kernel
theorem dX11_stretch_53 : decode cX11_stretch 53 = .ok (.iload_n 1, 1) := by decide +kernel
theorem dX11_stretch_54 : decode cX11_stretch 54 = .ok (.imul, 1) := by decide +kernel
theorem dX11_stretch_55 : decode cX11_stretch 55 = .ok (.iload_n 2, 1) := by decide +kernel
theorem dX11_stretch_56 : decode cX11_stretch 56 = .ok (.iadd, 1) := by decide +kernel
theorem dX11_stretch_57 : decode cX11_stretch 57 = .ok (.iaload, 1) := by decide +kernel
theorem dX11_stretch_58 : decode cX11_stretch 58 = .ok (.ireturn, 1) := by decide +kernel
theorem dX11_aheadOf_0 : decode cX11_aheadOf 0 = .ok (.iconst 0, 1) := by decide +kernel
theorem dX11_aheadOf_1 : decode cX11_aheadOf 1 = .ok (.istore_n 2, 1) := by decide +kernel
theorem dX11_aheadOf_2 : decode cX11_aheadOf 2 = .ok (.iconst 0, 1) := by decide +kernel
theorem dX11_aheadOf_3 : decode cX11_aheadOf 3 = .ok (.istore_n 3, 1) := by decide +kernel
theorem dX11_aheadOf_4 : decode cX11_aheadOf 4 = .ok (.iload_n 3, 1) := by decide +kernel
theorem dX11_aheadOf_5 : decode cX11_aheadOf 5 = .ok (.aload_n 0, 1) := by decide +kernel
theorem dX11_aheadOf_6 : decode cX11_aheadOf 6 = .ok (.getfield 7, 3) := by decide +kernel
theorem dX11_aheadOf_9 : decode cX11_aheadOf 9 = .ok (.iconst 3, 1) := by decide +kernel
theorem dX11_aheadOf_10 : decode cX11_aheadOf 10 = .ok (.iaload, 1) := by decide +kernel
theorem dX11_aheadOf_11 : decode cX11_aheadOf 11 = .ok (.if_icmp .ge 73, 3) := by decide +kernel
theorem dX11_aheadOf_14 : decode cX11_aheadOf 14 = .ok (.iload_n 1, 1) := by decide +kernel
theorem dX11_aheadOf_15 : decode cX11_aheadOf 15 = .ok (.iload_n 3, 1) := by decide +kernel
theorem dX11_aheadOf_16 : decode cX11_aheadOf 16 = .ok (.invokestatic 335, 3) := by decide +kernel
theorem dX11_aheadOf_19 : decode cX11_aheadOf 19 = .ok (.ifCond .eq 9, 3) := by decide +kernel
theorem dX11_aheadOf_22 : decode cX11_aheadOf 22 = .ok (.iinc 3 1, 3) := by decide +kernel
theorem dX11_aheadOf_25 : decode cX11_aheadOf 25 = .ok (.goto (-21), 3) := by decide +kernel
theorem dX11_aheadOf_28 : decode cX11_aheadOf 28 = .ok (.iload_n 3, 1) := by decide +kernel
theorem dX11_aheadOf_29 : decode cX11_aheadOf 29 = .ok (.istore 4, 2) := by decide +kernel
theorem dX11_aheadOf_31 : decode cX11_aheadOf 31 = .ok (.iload 4, 2) := by decide +kernel
theorem dX11_aheadOf_33 : decode cX11_aheadOf 33 = .ok (.iconst 1, 1) := by decide +kernel
theorem dX11_aheadOf_34 : decode cX11_aheadOf 34 = .ok (.iadd, 1) := by decide +kernel
theorem dX11_aheadOf_35 : decode cX11_aheadOf 35 = .ok (.aload_n 0, 1) := by decide +kernel
theorem dX11_aheadOf_36 : decode cX11_aheadOf 36 = .ok (.getfield 7, 3) := by decide +kernel
theorem dX11_aheadOf_39 : decode cX11_aheadOf 39 = .ok (.iconst 3, 1) := by decide +kernel
theorem dX11_aheadOf_40 : decode cX11_aheadOf 40 = .ok (.iaload, 1) := by decide +kernel
theorem dX11_aheadOf_41 : decode cX11_aheadOf 41 = .ok (.if_icmp .ge 20, 3) := by decide +kernel
theorem dX11_aheadOf_44 : decode cX11_aheadOf 44 = .ok (.iload_n 1, 1) := by decide +kernel
theorem dX11_aheadOf_45 : decode cX11_aheadOf 45 = .ok (.iload 4, 2) := by decide +kernel
theorem dX11_aheadOf_47 : decode cX11_aheadOf 47 = .ok (.iconst 1, 1) := by decide +kernel
theorem dX11_aheadOf_48 : decode cX11_aheadOf 48 = .ok (.iadd, 1) := by decide +kernel
theorem dX11_aheadOf_49 : decode cX11_aheadOf 49 = .ok (.invokestatic 335, 3) := by decide +kernel
theorem dX11_aheadOf_52 : decode cX11_aheadOf 52 = .ok (.ifCond .ne 9, 3) := by decide +kernel
theorem dX11_aheadOf_55 : decode cX11_aheadOf 55 = .ok (.iinc 4 1, 3) := by decide +kernel
theorem dX11_aheadOf_58 : decode cX11_aheadOf 58 = .ok (.goto (-27), 3) := by decide +kernel
theorem dX11_aheadOf_61 : decode cX11_aheadOf 61 = .ok (.iload_n 2, 1) := by decide +kernel
theorem dX11_aheadOf_62 : decode cX11_aheadOf 62 = .ok (.aload_n 0, 1) := by decide +kernel
theorem dX11_aheadOf_63 : decode cX11_aheadOf 63 = .ok (.getfield 57, 3) := by decide +kernel
theorem dX11_aheadOf_66 : decode cX11_aheadOf 66 = .ok (.bipush 6, 2) := by decide +kernel
theorem dX11_aheadOf_68 : decode cX11_aheadOf 68 = .ok (.iload_n 3, 1) := by decide +kernel
theorem dX11_aheadOf_69 : decode cX11_aheadOf 69 = .ok (.imul, 1) := by decide +kernel
theorem dX11_aheadOf_70 : decode cX11_aheadOf 70 = .ok (.iload 4, 2) := by decide +kernel
theorem dX11_aheadOf_72 : decode cX11_aheadOf 72 = .ok (.iadd, 1) := by decide +kernel
theorem dX11_aheadOf_73 : decode cX11_aheadOf 73 = .ok (.iaload, 1) := by decide +kernel
theorem dX11_aheadOf_74 : decode cX11_aheadOf 74 = .ok (.iadd, 1) := by decide +kernel
theorem dX11_aheadOf_75 : decode cX11_aheadOf 75 = .ok (.istore_n 2, 1) := by decide +kernel
theorem dX11_aheadOf_76 : decode cX11_aheadOf 76 = .ok (.iload 4, 2) := by decide +kernel
theorem dX11_aheadOf_78 : decode cX11_aheadOf 78 = .ok (.iconst 1, 1) := by decide +kernel
theorem dX11_aheadOf_79 : decode cX11_aheadOf 79 = .ok (.iadd, 1) := by decide +kernel
theorem dX11_aheadOf_80 : decode cX11_aheadOf 80 = .ok (.istore_n 3, 1) := by decide +kernel
theorem dX11_aheadOf_81 : decode cX11_aheadOf 81 = .ok (.goto (-77), 3) := by decide +kernel
theorem dX11_aheadOf_84 : decode cX11_aheadOf 84 = .ok (.iload_n 2, 1) := by decide +kernel
theorem dX11_aheadOf_85 : decode cX11_aheadOf 85 = .ok (.ireturn, 1) := by decide +kernel
theorem dX11_setOf_0 : decode cX11_setOf 0 = .ok (.iload_n 1, 1) := by decide +kernel
theorem dX11_setOf_1 : decode cX11_setOf 1 = .ok (.sipush 294, 3) := by decide +kernel
theorem dX11_setOf_4 : decode cX11_setOf 4 = .ok (.idiv, 1) := by decide +kernel
theorem dX11_setOf_5 : decode cX11_setOf 5 = .ok (.ireturn, 1) := by decide +kernel
theorem dX11_placeOf_0 : decode cX11_placeOf 0 = .ok (.iload_n 1, 1) := by decide +kernel
theorem dX11_placeOf_1 : decode cX11_placeOf 1 = .ok (.bipush 42, 2) := by decide +kernel
theorem dX11_placeOf_3 : decode cX11_placeOf 3 = .ok (.idiv, 1) := by decide +kernel
theorem dX11_placeOf_4 : decode cX11_placeOf 4 = .ok (.bipush 7, 2) := by decide +kernel
theorem dX11_placeOf_6 : decode cX11_placeOf 6 = .ok (.irem, 1) := by decide +kernel
theorem dX11_placeOf_7 : decode cX11_placeOf 7 = .ok (.ireturn, 1) := by decide +kernel
theorem dX11_lastOf_0 : decode cX11_lastOf 0 = .ok (.iload_n 1, 1) := by decide +kernel
theorem dX11_lastOf_1 : decode cX11_lastOf 1 = .ok (.bipush 42, 2) := by decide +kernel
theorem dX11_lastOf_3 : decode cX11_lastOf 3 = .ok (.irem, 1) := by decide +kernel
theorem dX11_lastOf_4 : decode cX11_lastOf 4 = .ok (.iconst 1, 1) := by decide +kernel
theorem dX11_lastOf_5 : decode cX11_lastOf 5 = .ok (.isub, 1) := by decide +kernel
theorem dX11_lastOf_6 : decode cX11_lastOf 6 = .ok (.ireturn, 1) := by decide +kernel
theorem dX11_scoreOf_0 : decode cX11_scoreOf 0 = .ok (.aload_n 0, 1) := by decide +kernel
theorem dX11_scoreOf_1 : decode cX11_scoreOf 1 = .ok (.getfield 67, 3) := by decide +kernel
theorem dX11_scoreOf_4 : decode cX11_scoreOf 4 = .ok (.iload_n 1, 1) := by decide +kernel
theorem dX11_scoreOf_5 : decode cX11_scoreOf 5 = .ok (.iaload, 1) := by decide +kernel
theorem dX11_scoreOf_6 : decode cX11_scoreOf 6 = .ok (.aload_n 0, 1) := by decide +kernel
theorem dX11_scoreOf_7 : decode cX11_scoreOf 7 = .ok (.aload_n 0, 1) := by decide +kernel
theorem dX11_scoreOf_8 : decode cX11_scoreOf 8 = .ok (.iload_n 1, 1) := by decide +kernel
theorem dX11_scoreOf_9 : decode cX11_scoreOf 9 = .ok (.invokevirtual 338, 3) := by decide +kernel
theorem dX11_scoreOf_12 : decode cX11_scoreOf 12 = .ok (.invokevirtual 341, 3) := by decide +kernel
theorem dX11_scoreOf_15 : decode cX11_scoreOf 15 = .ok (.iadd, 1) := by decide +kernel
theorem dX11_scoreOf_16 : decode cX11_scoreOf 16 = .ok (.ireturn, 1) := by decide +kernel
theorem dX11_lies_0 : decode cX11_lies 0 = .ok (.aload_n 0, 1) := by decide +kernel
theorem dX11_lies_1 : decode cX11_lies 1 = .ok (.dup, 1) := by decide +kernel
theorem dX11_lies_2 : decode cX11_lies 2 = .ok (.getfield 344, 3) := by decide +kernel
theorem dX11_lies_5 : decode cX11_lies 5 = .ok (.iconst 1, 1) := by decide +kernel
theorem dX11_lies_6 : decode cX11_lies 6 = .ok (.iadd, 1) := by decide +kernel
theorem dX11_lies_7 : decode cX11_lies 7 = .ok (.putfield 344, 3) := by decide +kernel
theorem dX11_lies_10 : decode cX11_lies 10 = .ok (.aload_n 0, 1) := by decide +kernel
theorem dX11_lies_11 : decode cX11_lies 11 = .ok (.getfield 60, 3) := by decide +kernel
theorem dX11_lies_14 : decode cX11_lies 14 = .ok (.iload_n 1, 1) := by decide +kernel
theorem dX11_lies_15 : decode cX11_lies 15 = .ok (.baload, 1) := by decide +kernel
theorem dX11_lies_16 : decode cX11_lies 16 = .ok (.ifCond .eq 13, 3) := by decide +kernel
theorem dX11_lies_19 : decode cX11_lies 19 = .ok (.aload_n 0, 1) := by decide +kernel
theorem dX11_lies_20 : decode cX11_lies 20 = .ok (.dup, 1) := by decide +kernel
theorem dX11_lies_21 : decode cX11_lies 21 = .ok (.getfield 347, 3) := by decide +kernel
theorem dX11_lies_24 : decode cX11_lies 24 = .ok (.iconst 1, 1) := by decide +kernel
theorem dX11_lies_25 : decode cX11_lies 25 = .ok (.iadd, 1) := by decide +kernel
theorem dX11_lies_26 : decode cX11_lies 26 = .ok (.putfield 347, 3) := by decide +kernel
theorem dX11_lies_29 : decode cX11_lies 29 = .ok (.aload_n 0, 1) := by decide +kernel
theorem dX11_lies_30 : decode cX11_lies 30 = .ok (.getfield 60, 3) := by decide +kernel
theorem dX11_lies_33 : decode cX11_lies 33 = .ok (.iload_n 1, 1) := by decide +kernel
theorem dX11_lies_34 : decode cX11_lies 34 = .ok (.baload, 1) := by decide +kernel
theorem dX11_lies_35 : decode cX11_lies 35 = .ok (.ifCond .eq 14, 3) := by decide +kernel
theorem dX11_lies_38 : decode cX11_lies 38 = .ok (.aload_n 0, 1) := by decide +kernel
theorem dX11_lies_39 : decode cX11_lies 39 = .ok (.getfield 67, 3) := by decide +kernel
theorem dX11_lies_42 : decode cX11_lies 42 = .ok (.iload_n 1, 1) := by decide +kernel
theorem dX11_lies_43 : decode cX11_lies 43 = .ok (.iaload, 1) := by decide +kernel
theorem dX11_lies_44 : decode cX11_lies 44 = .ok (.iload_n 2, 1) := by decide +kernel
theorem dX11_lies_45 : decode cX11_lies 45 = .ok (.if_icmp .gt 4, 3) := by decide +kernel
theorem dX11_lies_48 : decode cX11_lies 48 = .ok (.return_, 1) := by decide +kernel
theorem dX11_lies_49 : decode cX11_lies 49 = .ok (.aload_n 0, 1) := by decide +kernel
theorem dX11_lies_50 : decode cX11_lies 50 = .ok (.getfield 60, 3) := by decide +kernel
theorem dX11_lies_53 : decode cX11_lies 53 = .ok (.iload_n 1, 1) := by decide +kernel
theorem dX11_lies_54 : decode cX11_lies 54 = .ok (.iconst 1, 1) := by decide +kernel
theorem dX11_lies_55 : decode cX11_lies 55 = .ok (.bastore, 1) := by decide +kernel
theorem dX11_lies_56 : decode cX11_lies 56 = .ok (.aload_n 0, 1) := by decide +kernel
theorem dX11_lies_57 : decode cX11_lies 57 = .ok (.getfield 67, 3) := by decide +kernel
theorem dX11_lies_60 : decode cX11_lies 60 = .ok (.iload_n 1, 1) := by decide +kernel
theorem dX11_lies_61 : decode cX11_lies 61 = .ok (.iload_n 2, 1) := by decide +kernel
theorem dX11_lies_62 : decode cX11_lies 62 = .ok (.iastore, 1) := by decide +kernel
theorem dX11_lies_63 : decode cX11_lies 63 = .ok (.aload_n 0, 1) := by decide +kernel
theorem dX11_lies_64 : decode cX11_lies 64 = .ok (.getfield 70, 3) := by decide +kernel
theorem dX11_lies_67 : decode cX11_lies 67 = .ok (.iload_n 1, 1) := by decide +kernel
theorem dX11_lies_68 : decode cX11_lies 68 = .ok (.aload_n 0, 1) := by decide +kernel
theorem dX11_lies_69 : decode cX11_lies 69 = .ok (.getfield 344, 3) := by decide +kernel
theorem dX11_lies_72 : decode cX11_lies 72 = .ok (.iastore, 1) := by decide +kernel
theorem dX11_lies_73 : decode cX11_lies 73 = .ok (.aload_n 0, 1) := by decide +kernel
theorem dX11_lies_74 : decode cX11_lies 74 = .ok (.getfield 73, 3) := by decide +kernel
theorem dX11_lies_77 : decode cX11_lies 77 = .ok (.iload_n 1, 1) := by decide +kernel
theorem dX11_lies_78 : decode cX11_lies 78 = .ok (.iload_n 3, 1) := by decide +kernel
theorem dX11_lies_79 : decode cX11_lies 79 = .ok (.iastore, 1) := by decide +kernel
theorem dX11_lies_80 : decode cX11_lies 80 = .ok (.aload_n 0, 1) := by decide +kernel
theorem dX11_lies_81 : decode cX11_lies 81 = .ok (.getfield 76, 3) := by decide +kernel
theorem dX11_lies_84 : decode cX11_lies 84 = .ok (.iload_n 1, 1) := by decide +kernel
theorem dX11_lies_85 : decode cX11_lies 85 = .ok (.iload 4, 2) := by decide +kernel
theorem dX11_lies_87 : decode cX11_lies 87 = .ok (.iastore, 1) := by decide +kernel
theorem dX11_lies_88 : decode cX11_lies 88 = .ok (.aload_n 0, 1) := by decide +kernel
theorem dX11_lies_89 : decode cX11_lies 89 = .ok (.getfield 79, 3) := by decide +kernel
theorem dX11_lies_92 : decode cX11_lies 92 = .ok (.iload_n 1, 1) := by decide +kernel
theorem dX11_lies_93 : decode cX11_lies 93 = .ok (.iload 5, 2) := by decide +kernel
theorem dX11_lies_95 : decode cX11_lies 95 = .ok (.iastore, 1) := by decide +kernel
theorem dX11_lies_96 : decode cX11_lies 96 = .ok (.return_, 1) := by decide +kernel
theorem dX11_goesOn_0 : decode cX11_goesOn 0 = .ok (.aload_n 0, 1) := by decide +kernel
theorem dX11_goesOn_1 : decode cX11_goesOn 1 = .ok (.iload_n 1, 1) := by decide +kernel
theorem dX11_goesOn_2 : decode cX11_goesOn 2 = .ok (.invokevirtual 338, 3) := by decide +kernel
theorem dX11_goesOn_5 : decode cX11_goesOn 5 = .ok (.istore_n 2, 1) := by decide +kernel
theorem dX11_goesOn_6 : decode cX11_goesOn 6 = .ok (.iconst 0, 1) := by decide +kernel
theorem dX11_goesOn_7 : decode cX11_goesOn 7 = .ok (.istore_n 3, 1) := by decide +kernel
theorem dX11_goesOn_8 : decode cX11_goesOn 8 = .ok (.iload_n 3, 1) := by decide +kernel
theorem dX11_goesOn_9 : decode cX11_goesOn 9 = .ok (.aload_n 0, 1) := by decide +kernel
theorem dX11_goesOn_10 : decode cX11_goesOn 10 = .ok (.getfield 7, 3) := by decide +kernel
theorem dX11_goesOn_13 : decode cX11_goesOn 13 = .ok (.iconst 3, 1) := by decide +kernel
theorem dX11_goesOn_14 : decode cX11_goesOn 14 = .ok (.iaload, 1) := by decide +kernel
theorem dX11_goesOn_15 : decode cX11_goesOn 15 = .ok (.if_icmp .ge 113, 3) := by decide +kernel
theorem dX11_goesOn_18 : decode cX11_goesOn 18 = .ok (.aload_n 0, 1) := by decide +kernel
theorem dX11_goesOn_19 : decode cX11_goesOn 19 = .ok (.iconst (-1), 1) := by decide +kernel
theorem dX11_goesOn_20 : decode cX11_goesOn 20 = .ok (.invokevirtual 239, 3) := by decide +kernel
theorem dX11_goesOn_23 : decode cX11_goesOn 23 = .ok (.istore 4, 2) := by decide +kernel
theorem dX11_goesOn_25 : decode cX11_goesOn 25 = .ok (.iload 4, 2) := by decide +kernel
theorem dX11_goesOn_27 : decode cX11_goesOn 27 = .ok (.bipush 99, 2) := by decide +kernel
theorem dX11_goesOn_29 : decode cX11_goesOn 29 = .ok (.if_icmp .gt 93, 3) := by decide +kernel
theorem dX11_goesOn_32 : decode cX11_goesOn 32 = .ok (.aload_n 0, 1) := by decide +kernel
theorem dX11_goesOn_33 : decode cX11_goesOn 33 = .ok (.iload_n 2, 1) := by decide +kernel
theorem dX11_goesOn_34 : decode cX11_goesOn 34 = .ok (.aload_n 0, 1) := by decide +kernel
theorem dX11_goesOn_35 : decode cX11_goesOn 35 = .ok (.iload_n 1, 1) := by decide +kernel
theorem dX11_goesOn_36 : decode cX11_goesOn 36 = .ok (.invokevirtual 350, 3) := by decide +kernel
theorem dX11_goesOn_39 : decode cX11_goesOn 39 = .ok (.iload_n 3, 1) := by decide +kernel
theorem dX11_goesOn_40 : decode cX11_goesOn 40 = .ok (.iload 4, 2) := by decide +kernel
theorem dX11_goesOn_42 : decode cX11_goesOn 42 = .ok (.invokevirtual 268, 3) := by decide +kernel
theorem dX11_goesOn_45 : decode cX11_goesOn 45 = .ok (.ifCond .ne 6, 3) := by decide +kernel
theorem dX11_goesOn_48 : decode cX11_goesOn 48 = .ok (.goto 63, 3) := by decide +kernel
theorem dX11_goesOn_51 : decode cX11_goesOn 51 = .ok (.aload_n 0, 1) := by decide +kernel
theorem dX11_goesOn_52 : decode cX11_goesOn 52 = .ok (.aload_n 0, 1) := by decide +kernel
theorem dX11_goesOn_53 : decode cX11_goesOn 53 = .ok (.iload_n 1, 1) := by decide +kernel
theorem dX11_goesOn_54 : decode cX11_goesOn 54 = .ok (.invokevirtual 350, 3) := by decide +kernel
theorem dX11_goesOn_57 : decode cX11_goesOn 57 = .ok (.aload_n 0, 1) := by decide +kernel
theorem dX11_goesOn_58 : decode cX11_goesOn 58 = .ok (.iload_n 1, 1) := by decide +kernel
theorem dX11_goesOn_59 : decode cX11_goesOn 59 = .ok (.invokevirtual 353, 3) := by decide +kernel
theorem dX11_goesOn_62 : decode cX11_goesOn 62 = .ok (.iload_n 3, 1) := by decide +kernel
theorem dX11_goesOn_63 : decode cX11_goesOn 63 = .ok (.iload 4, 2) := by decide +kernel
theorem dX11_goesOn_65 : decode cX11_goesOn 65 = .ok (.invokevirtual 271, 3) := by decide +kernel
theorem dX11_goesOn_68 : decode cX11_goesOn 68 = .ok (.aload_n 0, 1) := by decide +kernel
theorem dX11_goesOn_69 : decode cX11_goesOn 69 = .ok (.iload_n 2, 1) := by decide +kernel
theorem dX11_goesOn_70 : decode cX11_goesOn 70 = .ok (.aload_n 0, 1) := by decide +kernel
theorem dX11_goesOn_71 : decode cX11_goesOn 71 = .ok (.iload 4, 2) := by decide +kernel
theorem dX11_goesOn_73 : decode cX11_goesOn 73 = .ok (.iload_n 3, 1) := by decide +kernel
theorem dX11_goesOn_74 : decode cX11_goesOn 74 = .ok (.invokevirtual 245, 3) := by decide +kernel
theorem dX11_goesOn_77 : decode cX11_goesOn 77 = .ok (.ior, 1) := by decide +kernel
theorem dX11_goesOn_78 : decode cX11_goesOn 78 = .ok (.iload_n 3, 1) := by decide +kernel
theorem dX11_goesOn_79 : decode cX11_goesOn 79 = .ok (.aload_n 0, 1) := by decide +kernel
theorem dX11_goesOn_80 : decode cX11_goesOn 80 = .ok (.iload 4, 2) := by decide +kernel
theorem dX11_goesOn_82 : decode cX11_goesOn 82 = .ok (.invokevirtual 236, 3) := by decide +kernel
theorem dX11_goesOn_85 : decode cX11_goesOn 85 = .ok (.iadd, 1) := by decide +kernel
theorem dX11_goesOn_86 : decode cX11_goesOn 86 = .ok (.aload_n 0, 1) := by decide +kernel
theorem dX11_goesOn_87 : decode cX11_goesOn 87 = .ok (.getfield 251, 3) := by decide +kernel
theorem dX11_goesOn_90 : decode cX11_goesOn 90 = .ok (.invokestatic 264, 3) := by decide +kernel
theorem dX11_goesOn_93 : decode cX11_goesOn 93 = .ok (.aload_n 0, 1) := by decide +kernel
theorem dX11_goesOn_94 : decode cX11_goesOn 94 = .ok (.getfield 67, 3) := by decide +kernel
theorem dX11_goesOn_97 : decode cX11_goesOn 97 = .ok (.iload_n 1, 1) := by decide +kernel
theorem dX11_goesOn_98 : decode cX11_goesOn 98 = .ok (.iaload, 1) := by decide +kernel
theorem dX11_goesOn_99 : decode cX11_goesOn 99 = .ok (.aload_n 0, 1) := by decide +kernel
theorem dX11_goesOn_100 : decode cX11_goesOn 100 = .ok (.getfield 248, 3) := by decide +kernel
theorem dX11_goesOn_103 : decode cX11_goesOn 103 = .ok (.iadd, 1) := by decide +kernel
theorem dX11_goesOn_104 : decode cX11_goesOn 104 = .ok (.iload_n 1, 1) := by decide +kernel
theorem dX11_goesOn_105 : decode cX11_goesOn 105 = .ok (.iload_n 3, 1) := by decide +kernel
theorem dX11_goesOn_106 : decode cX11_goesOn 106 = .ok (.iload 4, 2) := by decide +kernel
theorem dX11_goesOn_108 : decode cX11_goesOn 108 = .ok (.invokevirtual 356, 3) := by decide +kernel
theorem dX11_goesOn_111 : decode cX11_goesOn 111 = .ok (.aload_n 0, 1) := by decide +kernel
theorem dX11_goesOn_112 : decode cX11_goesOn 112 = .ok (.iload 4, 2) := by decide +kernel
theorem dX11_goesOn_114 : decode cX11_goesOn 114 = .ok (.invokevirtual 239, 3) := by decide +kernel
theorem dX11_goesOn_117 : decode cX11_goesOn 117 = .ok (.istore 4, 2) := by decide +kernel
theorem dX11_goesOn_119 : decode cX11_goesOn 119 = .ok (.goto (-94), 3) := by decide +kernel
theorem dX11_goesOn_122 : decode cX11_goesOn 122 = .ok (.iinc 3 1, 3) := by decide +kernel
theorem dX11_goesOn_125 : decode cX11_goesOn 125 = .ok (.goto (-117), 3) := by decide +kernel
theorem dX11_goesOn_128 : decode cX11_goesOn 128 = .ok (.return_, 1) := by decide +kernel
theorem dX11_nextOf_0 : decode cX11_nextOf 0 = .ok (.iconst (-1), 1) := by decide +kernel
theorem dX11_nextOf_1 : decode cX11_nextOf 1 = .ok (.istore_n 2, 1) := by decide +kernel
theorem dX11_nextOf_2 : decode cX11_nextOf 2 = .ok (.iconst 0, 1) := by decide +kernel
theorem dX11_nextOf_3 : decode cX11_nextOf 3 = .ok (.istore_n 3, 1) := by decide +kernel
theorem dX11_nextOf_4 : decode cX11_nextOf 4 = .ok (.iconst 0, 1) := by decide +kernel
theorem dX11_nextOf_5 : decode cX11_nextOf 5 = .ok (.istore 4, 2) := by decide +kernel
theorem dX11_nextOf_7 : decode cX11_nextOf 7 = .ok (.iload 4, 2) := by decide +kernel
theorem dX11_nextOf_9 : decode cX11_nextOf 9 = .ok (.aload_n 0, 1) := by decide +kernel
theorem dX11_nextOf_10 : decode cX11_nextOf 10 = .ok (.invokevirtual 261, 3) := by decide +kernel
theorem dX11_nextOf_13 : decode cX11_nextOf 13 = .ok (.if_icmp .gt 123, 3) := by decide +kernel
theorem dX11_nextOf_16 : decode cX11_nextOf 16 = .ok (.iload 4, 2) := by decide +kernel
theorem dX11_nextOf_18 : decode cX11_nextOf 18 = .ok (.invokestatic 359, 3) := by decide +kernel
theorem dX11_nextOf_21 : decode cX11_nextOf 21 = .ok (.iload_n 1, 1) := by decide +kernel
theorem dX11_nextOf_22 : decode cX11_nextOf 22 = .ok (.if_icmp .eq 6, 3) := by decide +kernel
theorem dX11_nextOf_25 : decode cX11_nextOf 25 = .ok (.goto 105, 3) := by decide +kernel
theorem dX11_nextOf_28 : decode cX11_nextOf 28 = .ok (.sipush 294, 3) := by decide +kernel
theorem dX11_nextOf_31 : decode cX11_nextOf 31 = .ok (.iload 4, 2) := by decide +kernel
theorem dX11_nextOf_33 : decode cX11_nextOf 33 = .ok (.imul, 1) := by decide +kernel
theorem dX11_nextOf_34 : decode cX11_nextOf 34 = .ok (.istore 5, 2) := by decide +kernel
theorem dX11_nextOf_36 : decode cX11_nextOf 36 = .ok (.iload 5, 2) := by decide +kernel
theorem dX11_nextOf_38 : decode cX11_nextOf 38 = .ok (.sipush 294, 3) := by decide +kernel
theorem dX11_nextOf_41 : decode cX11_nextOf 41 = .ok (.iload 4, 2) := by decide +kernel
theorem dX11_nextOf_43 : decode cX11_nextOf 43 = .ok (.imul, 1) := by decide +kernel
theorem dX11_nextOf_44 : decode cX11_nextOf 44 = .ok (.sipush 294, 3) := by decide +kernel
theorem dX11_nextOf_47 : decode cX11_nextOf 47 = .ok (.iadd, 1) := by decide +kernel
theorem dX11_nextOf_48 : decode cX11_nextOf 48 = .ok (.if_icmp .ge 82, 3) := by decide +kernel
theorem dX11_nextOf_51 : decode cX11_nextOf 51 = .ok (.aload_n 0, 1) := by decide +kernel
theorem dX11_nextOf_52 : decode cX11_nextOf 52 = .ok (.getfield 60, 3) := by decide +kernel
theorem dX11_nextOf_55 : decode cX11_nextOf 55 = .ok (.iload 5, 2) := by decide +kernel
theorem dX11_nextOf_57 : decode cX11_nextOf 57 = .ok (.baload, 1) := by decide +kernel
theorem dX11_nextOf_58 : decode cX11_nextOf 58 = .ok (.ifCond .eq 66, 3) := by decide +kernel
theorem dX11_nextOf_61 : decode cX11_nextOf 61 = .ok (.aload_n 0, 1) := by decide +kernel
theorem dX11_nextOf_62 : decode cX11_nextOf 62 = .ok (.getfield 64, 3) := by decide +kernel
theorem dX11_nextOf_65 : decode cX11_nextOf 65 = .ok (.iload 5, 2) := by decide +kernel
theorem dX11_nextOf_67 : decode cX11_nextOf 67 = .ok (.baload, 1) := by decide +kernel
theorem dX11_nextOf_68 : decode cX11_nextOf 68 = .ok (.ifCond .eq 6, 3) := by decide +kernel
theorem dX11_nextOf_71 : decode cX11_nextOf 71 = .ok (.goto 53, 3) := by decide +kernel
theorem dX11_nextOf_74 : decode cX11_nextOf 74 = .ok (.aload_n 0, 1) := by decide +kernel
theorem dX11_nextOf_75 : decode cX11_nextOf 75 = .ok (.iload 5, 2) := by decide +kernel
theorem dX11_nextOf_77 : decode cX11_nextOf 77 = .ok (.invokevirtual 362, 3) := by decide +kernel
theorem dX11_nextOf_80 : decode cX11_nextOf 80 = .ok (.istore 6, 2) := by decide +kernel
theorem dX11_nextOf_82 : decode cX11_nextOf 82 = .ok (.iload_n 2, 1) := by decide +kernel
theorem dX11_nextOf_83 : decode cX11_nextOf 83 = .ok (.iconst (-1), 1) := by decide +kernel
theorem dX11_nextOf_84 : decode cX11_nextOf 84 = .ok (.if_icmp .eq 34, 3) := by decide +kernel
theorem dX11_nextOf_87 : decode cX11_nextOf 87 = .ok (.iload 6, 2) := by decide +kernel
theorem dX11_nextOf_89 : decode cX11_nextOf 89 = .ok (.iload_n 3, 1) := by decide +kernel
theorem dX11_nextOf_90 : decode cX11_nextOf 90 = .ok (.if_icmp .gt 34, 3) := by decide +kernel
theorem dX11_nextOf_93 : decode cX11_nextOf 93 = .ok (.iload 6, 2) := by decide +kernel
theorem dX11_nextOf_95 : decode cX11_nextOf 95 = .ok (.iload_n 3, 1) := by decide +kernel
theorem dX11_nextOf_96 : decode cX11_nextOf 96 = .ok (.if_icmp .ne 22, 3) := by decide +kernel
theorem dX11_nextOf_99 : decode cX11_nextOf 99 = .ok (.aload_n 0, 1) := by decide +kernel
theorem dX11_nextOf_100 : decode cX11_nextOf 100 = .ok (.getfield 70, 3) := by decide +kernel
theorem dX11_nextOf_103 : decode cX11_nextOf 103 = .ok (.iload 5, 2) := by decide +kernel
theorem dX11_nextOf_105 : decode cX11_nextOf 105 = .ok (.iaload, 1) := by decide +kernel
theorem dX11_nextOf_106 : decode cX11_nextOf 106 = .ok (.aload_n 0, 1) := by decide +kernel
theorem dX11_nextOf_107 : decode cX11_nextOf 107 = .ok (.getfield 70, 3) := by decide +kernel
theorem dX11_nextOf_110 : decode cX11_nextOf 110 = .ok (.iload_n 2, 1) := by decide +kernel
theorem dX11_nextOf_111 : decode cX11_nextOf 111 = .ok (.iaload, 1) := by decide +kernel
theorem dX11_nextOf_112 : decode cX11_nextOf 112 = .ok (.if_icmp .le 6, 3) := by decide +kernel
theorem dX11_nextOf_115 : decode cX11_nextOf 115 = .ok (.goto 9, 3) := by decide +kernel
theorem dX11_nextOf_118 : decode cX11_nextOf 118 = .ok (.iload 5, 2) := by decide +kernel
theorem dX11_nextOf_120 : decode cX11_nextOf 120 = .ok (.istore_n 2, 1) := by decide +kernel
theorem dX11_nextOf_121 : decode cX11_nextOf 121 = .ok (.iload 6, 2) := by decide +kernel
theorem dX11_nextOf_123 : decode cX11_nextOf 123 = .ok (.istore_n 3, 1) := by decide +kernel
theorem dX11_nextOf_124 : decode cX11_nextOf 124 = .ok (.iinc 5 1, 3) := by decide +kernel
theorem dX11_nextOf_127 : decode cX11_nextOf 127 = .ok (.goto (-91), 3) := by decide +kernel
theorem dX11_nextOf_130 : decode cX11_nextOf 130 = .ok (.iinc 4 1, 3) := by decide +kernel
theorem dX11_nextOf_133 : decode cX11_nextOf 133 = .ok (.goto (-126), 3) := by decide +kernel
theorem dX11_nextOf_136 : decode cX11_nextOf 136 = .ok (.iload_n 2, 1) := by decide +kernel
theorem dX11_nextOf_137 : decode cX11_nextOf 137 = .ok (.ireturn, 1) := by decide +kernel
theorem dX11_counts_0 : decode cX11_counts 0 = .ok (.aload_n 0, 1) := by decide +kernel
theorem dX11_counts_1 : decode cX11_counts 1 = .ok (.getfield 82, 3) := by decide +kernel
theorem dX11_counts_4 : decode cX11_counts 4 = .ok (.iload_n 1, 1) := by decide +kernel
theorem dX11_counts_5 : decode cX11_counts 5 = .ok (.iconst 0, 1) := by decide +kernel
theorem dX11_counts_6 : decode cX11_counts 6 = .ok (.iastore, 1) := by decide +kernel
theorem dX11_counts_7 : decode cX11_counts 7 = .ok (.aload_n 0, 1) := by decide +kernel
theorem dX11_counts_8 : decode cX11_counts 8 = .ok (.getfield 85, 3) := by decide +kernel
theorem dX11_counts_11 : decode cX11_counts 11 = .ok (.iload_n 1, 1) := by decide +kernel
theorem dX11_counts_12 : decode cX11_counts 12 = .ok (.iconst (-1), 1) := by decide +kernel
theorem dX11_counts_13 : decode cX11_counts 13 = .ok (.iastore, 1) := by decide +kernel
theorem dX11_counts_14 : decode cX11_counts 14 = .ok (.iconst 0, 1) := by decide +kernel
theorem dX11_counts_15 : decode cX11_counts 15 = .ok (.istore_n 2, 1) := by decide +kernel
theorem dX11_counts_16 : decode cX11_counts 16 = .ok (.iload_n 2, 1) := by decide +kernel
theorem dX11_counts_17 : decode cX11_counts 17 = .ok (.aload_n 0, 1) := by decide +kernel
theorem dX11_counts_18 : decode cX11_counts 18 = .ok (.invokevirtual 261, 3) := by decide +kernel
theorem dX11_counts_21 : decode cX11_counts 21 = .ok (.if_icmp .gt 103, 3) := by decide +kernel
theorem dX11_counts_24 : decode cX11_counts 24 = .ok (.iload_n 2, 1) := by decide +kernel
theorem dX11_counts_25 : decode cX11_counts 25 = .ok (.invokestatic 359, 3) := by decide +kernel
theorem dX11_counts_28 : decode cX11_counts 28 = .ok (.iload_n 1, 1) := by decide +kernel
theorem dX11_counts_29 : decode cX11_counts 29 = .ok (.if_icmp .eq 6, 3) := by decide +kernel
theorem dX11_counts_32 : decode cX11_counts 32 = .ok (.goto 86, 3) := by decide +kernel
theorem dX11_counts_35 : decode cX11_counts 35 = .ok (.sipush 294, 3) := by decide +kernel
theorem dX11_counts_38 : decode cX11_counts 38 = .ok (.iload_n 2, 1) := by decide +kernel
theorem dX11_counts_39 : decode cX11_counts 39 = .ok (.imul, 1) := by decide +kernel
theorem dX11_counts_40 : decode cX11_counts 40 = .ok (.istore_n 3, 1) := by decide +kernel
theorem dX11_counts_41 : decode cX11_counts 41 = .ok (.iload_n 3, 1) := by decide +kernel
theorem dX11_counts_42 : decode cX11_counts 42 = .ok (.sipush 294, 3) := by decide +kernel
theorem dX11_counts_45 : decode cX11_counts 45 = .ok (.iload_n 2, 1) := by decide +kernel
theorem dX11_counts_46 : decode cX11_counts 46 = .ok (.imul, 1) := by decide +kernel
theorem dX11_counts_47 : decode cX11_counts 47 = .ok (.sipush 294, 3) := by decide +kernel
theorem dX11_counts_50 : decode cX11_counts 50 = .ok (.iadd, 1) := by decide +kernel
theorem dX11_counts_51 : decode cX11_counts 51 = .ok (.if_icmp .ge 67, 3) := by decide +kernel
theorem dX11_counts_54 : decode cX11_counts 54 = .ok (.aload_n 0, 1) := by decide +kernel
theorem dX11_counts_55 : decode cX11_counts 55 = .ok (.getfield 60, 3) := by decide +kernel
theorem dX11_counts_58 : decode cX11_counts 58 = .ok (.iload_n 3, 1) := by decide +kernel
theorem dX11_counts_59 : decode cX11_counts 59 = .ok (.baload, 1) := by decide +kernel
theorem dX11_counts_60 : decode cX11_counts 60 = .ok (.ifCond .ne 6, 3) := by decide +kernel
theorem dX11_counts_63 : decode cX11_counts 63 = .ok (.goto 49, 3) := by decide +kernel
theorem dX11_counts_66 : decode cX11_counts 66 = .ok (.aload_n 0, 1) := by decide +kernel
theorem dX11_counts_67 : decode cX11_counts 67 = .ok (.getfield 82, 3) := by decide +kernel
theorem dX11_counts_70 : decode cX11_counts 70 = .ok (.iload_n 1, 1) := by decide +kernel
theorem dX11_counts_71 : decode cX11_counts 71 = .ok (.dup2, 1) := by decide +kernel
theorem dX11_counts_72 : decode cX11_counts 72 = .ok (.iaload, 1) := by decide +kernel
theorem dX11_counts_73 : decode cX11_counts 73 = .ok (.iconst 1, 1) := by decide +kernel
theorem dX11_counts_74 : decode cX11_counts 74 = .ok (.iadd, 1) := by decide +kernel
theorem dX11_counts_75 : decode cX11_counts 75 = .ok (.iastore, 1) := by decide +kernel
theorem dX11_counts_76 : decode cX11_counts 76 = .ok (.aload_n 0, 1) := by decide +kernel
theorem dX11_counts_77 : decode cX11_counts 77 = .ok (.iload_n 3, 1) := by decide +kernel
theorem dX11_counts_78 : decode cX11_counts 78 = .ok (.invokevirtual 362, 3) := by decide +kernel
theorem dX11_counts_81 : decode cX11_counts 81 = .ok (.istore 4, 2) := by decide +kernel
theorem dX11_counts_83 : decode cX11_counts 83 = .ok (.aload_n 0, 1) := by decide +kernel
theorem dX11_counts_84 : decode cX11_counts 84 = .ok (.getfield 85, 3) := by decide +kernel
theorem dX11_counts_87 : decode cX11_counts 87 = .ok (.iload_n 1, 1) := by decide +kernel
theorem dX11_counts_88 : decode cX11_counts 88 = .ok (.iaload, 1) := by decide +kernel
theorem dX11_counts_89 : decode cX11_counts 89 = .ok (.iconst (-1), 1) := by decide +kernel
theorem dX11_counts_90 : decode cX11_counts 90 = .ok (.if_icmp .eq 14, 3) := by decide +kernel
theorem dX11_counts_93 : decode cX11_counts 93 = .ok (.iload 4, 2) := by decide +kernel
theorem dX11_counts_95 : decode cX11_counts 95 = .ok (.aload_n 0, 1) := by decide +kernel
theorem dX11_counts_96 : decode cX11_counts 96 = .ok (.getfield 85, 3) := by decide +kernel
theorem dX11_counts_99 : decode cX11_counts 99 = .ok (.iload_n 1, 1) := by decide +kernel
theorem dX11_counts_100 : decode cX11_counts 100 = .ok (.iaload, 1) := by decide +kernel
theorem dX11_counts_101 : decode cX11_counts 101 = .ok (.if_icmp .ge 11, 3) := by decide +kernel
theorem dX11_counts_104 : decode cX11_counts 104 = .ok (.aload_n 0, 1) := by decide +kernel
theorem dX11_counts_105 : decode cX11_counts 105 = .ok (.getfield 85, 3) := by decide +kernel
theorem dX11_counts_108 : decode cX11_counts 108 = .ok (.iload_n 1, 1) := by decide +kernel
theorem dX11_counts_109 : decode cX11_counts 109 = .ok (.iload 4, 2) := by decide +kernel
theorem dX11_counts_111 : decode cX11_counts 111 = .ok (.iastore, 1) := by decide +kernel
theorem dX11_counts_112 : decode cX11_counts 112 = .ok (.iinc 3 1, 3) := by decide +kernel
theorem dX11_counts_115 : decode cX11_counts 115 = .ok (.goto (-74), 3) := by decide +kernel
theorem dX11_counts_118 : decode cX11_counts 118 = .ok (.iinc 2 1, 3) := by decide +kernel
theorem dX11_counts_121 : decode cX11_counts 121 = .ok (.goto (-105), 3) := by decide +kernel
theorem dX11_counts_124 : decode cX11_counts 124 = .ok (.return_, 1) := by decide +kernel
theorem dX11_stacks_0 : decode cX11_stacks 0 = .ok (.aload_n 0, 1) := by decide +kernel
theorem dX11_stacks_1 : decode cX11_stacks 1 = .ok (.invokevirtual 332, 3) := by decide +kernel
theorem dX11_stacks_4 : decode cX11_stacks 4 = .ok (.iconst 0, 1) := by decide +kernel
theorem dX11_stacks_5 : decode cX11_stacks 5 = .ok (.istore_n 1, 1) := by decide +kernel
theorem dX11_stacks_6 : decode cX11_stacks 6 = .ok (.iload_n 1, 1) := by decide +kernel
theorem dX11_stacks_7 : decode cX11_stacks 7 = .ok (.sipush 18816, 3) := by decide +kernel
theorem dX11_stacks_10 : decode cX11_stacks 10 = .ok (.if_icmp .ge 23, 3) := by decide +kernel
theorem dX11_stacks_13 : decode cX11_stacks 13 = .ok (.aload_n 0, 1) := by decide +kernel
theorem dX11_stacks_14 : decode cX11_stacks 14 = .ok (.getfield 60, 3) := by decide +kernel
theorem dX11_stacks_17 : decode cX11_stacks 17 = .ok (.iload_n 1, 1) := by decide +kernel
theorem dX11_stacks_18 : decode cX11_stacks 18 = .ok (.iconst 0, 1) := by decide +kernel
theorem dX11_stacks_19 : decode cX11_stacks 19 = .ok (.bastore, 1) := by decide +kernel
theorem dX11_stacks_20 : decode cX11_stacks 20 = .ok (.aload_n 0, 1) := by decide +kernel
theorem dX11_stacks_21 : decode cX11_stacks 21 = .ok (.getfield 64, 3) := by decide +kernel
theorem dX11_stacks_24 : decode cX11_stacks 24 = .ok (.iload_n 1, 1) := by decide +kernel
theorem dX11_stacks_25 : decode cX11_stacks 25 = .ok (.iconst 0, 1) := by decide +kernel
theorem dX11_stacks_26 : decode cX11_stacks 26 = .ok (.bastore, 1) := by decide +kernel
theorem dX11_stacks_27 : decode cX11_stacks 27 = .ok (.iinc 1 1, 3) := by decide +kernel
theorem dX11_stacks_30 : decode cX11_stacks 30 = .ok (.goto (-24), 3) := by decide +kernel
theorem dX11_stacks_33 : decode cX11_stacks 33 = .ok (.aload_n 0, 1) := by decide +kernel
theorem dX11_stacks_34 : decode cX11_stacks 34 = .ok (.iconst (-1), 1) := by decide +kernel
theorem dX11_stacks_35 : decode cX11_stacks 35 = .ok (.putfield 344, 3) := by decide +kernel
theorem dX11_stacks_38 : decode cX11_stacks 38 = .ok (.aload_n 0, 1) := by decide +kernel
theorem dX11_stacks_39 : decode cX11_stacks 39 = .ok (.iconst 0, 1) := by decide +kernel
theorem dX11_stacks_40 : decode cX11_stacks 40 = .ok (.putfield 347, 3) := by decide +kernel
theorem dX11_stacks_43 : decode cX11_stacks 43 = .ok (.aload_n 0, 1) := by decide +kernel
theorem dX11_stacks_44 : decode cX11_stacks 44 = .ok (.iconst 0, 1) := by decide +kernel
theorem dX11_stacks_45 : decode cX11_stacks 45 = .ok (.putfield 365, 3) := by decide +kernel
theorem dX11_stacks_48 : decode cX11_stacks 48 = .ok (.aload_n 0, 1) := by decide +kernel
theorem dX11_stacks_49 : decode cX11_stacks 49 = .ok (.iconst 0, 1) := by decide +kernel
theorem dX11_stacks_50 : decode cX11_stacks 50 = .ok (.iconst 0, 1) := by decide +kernel
theorem dX11_stacks_51 : decode cX11_stacks 51 = .ok (.iconst (-1), 1) := by decide +kernel
theorem dX11_stacks_52 : decode cX11_stacks 52 = .ok (.invokestatic 264, 3) := by decide +kernel
theorem dX11_stacks_55 : decode cX11_stacks 55 = .ok (.iconst 0, 1) := by decide +kernel
theorem dX11_stacks_56 : decode cX11_stacks 56 = .ok (.iconst (-1), 1) := by decide +kernel
theorem dX11_stacks_57 : decode cX11_stacks 57 = .ok (.iconst (-1), 1) := by decide +kernel
theorem dX11_stacks_58 : decode cX11_stacks 58 = .ok (.iconst (-1), 1) := by decide +kernel
theorem dX11_stacks_59 : decode cX11_stacks 59 = .ok (.invokevirtual 356, 3) := by decide +kernel
theorem dX11_stacks_62 : decode cX11_stacks 62 = .ok (.iconst 0, 1) := by decide +kernel
theorem dX11_stacks_63 : decode cX11_stacks 63 = .ok (.istore_n 1, 1) := by decide +kernel
theorem dX11_stacks_64 : decode cX11_stacks 64 = .ok (.iload_n 1, 1) := by decide +kernel
theorem dX11_stacks_65 : decode cX11_stacks 65 = .ok (.aload_n 0, 1) := by decide +kernel
theorem dX11_stacks_66 : decode cX11_stacks 66 = .ok (.getfield 7, 3) := by decide +kernel
theorem dX11_stacks_69 : decode cX11_stacks 69 = .ok (.iconst 3, 1) := by decide +kernel
theorem dX11_stacks_70 : decode cX11_stacks 70 = .ok (.iaload, 1) := by decide +kernel
theorem dX11_stacks_71 : decode cX11_stacks 71 = .ok (.if_icmp .gt 92, 3) := by decide +kernel
theorem dX11_stacks_74 : decode cX11_stacks 74 = .ok (.aload_n 0, 1) := by decide +kernel
theorem dX11_stacks_75 : decode cX11_stacks 75 = .ok (.iload_n 1, 1) := by decide +kernel
theorem dX11_stacks_76 : decode cX11_stacks 76 = .ok (.invokevirtual 368, 3) := by decide +kernel
theorem dX11_stacks_79 : decode cX11_stacks 79 = .ok (.iload_n 1, 1) := by decide +kernel
theorem dX11_stacks_80 : decode cX11_stacks 80 = .ok (.aload_n 0, 1) := by decide +kernel
theorem dX11_stacks_81 : decode cX11_stacks 81 = .ok (.getfield 7, 3) := by decide +kernel
theorem dX11_stacks_84 : decode cX11_stacks 84 = .ok (.iconst 3, 1) := by decide +kernel
theorem dX11_stacks_85 : decode cX11_stacks 85 = .ok (.iaload, 1) := by decide +kernel
theorem dX11_stacks_86 : decode cX11_stacks 86 = .ok (.if_icmp .ne 6, 3) := by decide +kernel
theorem dX11_stacks_89 : decode cX11_stacks 89 = .ok (.goto 68, 3) := by decide +kernel
theorem dX11_stacks_92 : decode cX11_stacks 92 = .ok (.iconst 0, 1) := by decide +kernel
theorem dX11_stacks_93 : decode cX11_stacks 93 = .ok (.istore_n 2, 1) := by decide +kernel
theorem dX11_stacks_94 : decode cX11_stacks 94 = .ok (.aload_n 0, 1) := by decide +kernel
theorem dX11_stacks_95 : decode cX11_stacks 95 = .ok (.iload_n 1, 1) := by decide +kernel
theorem dX11_stacks_96 : decode cX11_stacks 96 = .ok (.invokevirtual 371, 3) := by decide +kernel
theorem dX11_stacks_99 : decode cX11_stacks 99 = .ok (.istore_n 3, 1) := by decide +kernel
theorem dX11_stacks_100 : decode cX11_stacks 100 = .ok (.iload_n 3, 1) := by decide +kernel
theorem dX11_stacks_101 : decode cX11_stacks 101 = .ok (.iconst (-1), 1) := by decide +kernel
theorem dX11_stacks_102 : decode cX11_stacks 102 = .ok (.if_icmp .eq 38, 3) := by decide +kernel
theorem dX11_stacks_105 : decode cX11_stacks 105 = .ok (.iload_n 2, 1) := by decide +kernel
theorem dX11_stacks_106 : decode cX11_stacks 106 = .ok (.aload_n 0, 1) := by decide +kernel
theorem dX11_stacks_107 : decode cX11_stacks 107 = .ok (.getfield 7, 3) := by decide +kernel
theorem dX11_stacks_110 : decode cX11_stacks 110 = .ok (.bipush 8, 2) := by decide +kernel
theorem dX11_stacks_112 : decode cX11_stacks 112 = .ok (.iaload, 1) := by decide +kernel
theorem dX11_stacks_113 : decode cX11_stacks 113 = .ok (.if_icmp .ge 27, 3) := by decide +kernel
theorem dX11_stacks_116 : decode cX11_stacks 116 = .ok (.aload_n 0, 1) := by decide +kernel
theorem dX11_stacks_117 : decode cX11_stacks 117 = .ok (.getfield 64, 3) := by decide +kernel
theorem dX11_stacks_120 : decode cX11_stacks 120 = .ok (.iload_n 3, 1) := by decide +kernel
theorem dX11_stacks_121 : decode cX11_stacks 121 = .ok (.iconst 1, 1) := by decide +kernel
theorem dX11_stacks_122 : decode cX11_stacks 122 = .ok (.bastore, 1) := by decide +kernel
theorem dX11_stacks_123 : decode cX11_stacks 123 = .ok (.iinc 2 1, 3) := by decide +kernel
theorem dX11_stacks_126 : decode cX11_stacks 126 = .ok (.aload_n 0, 1) := by decide +kernel
theorem dX11_stacks_127 : decode cX11_stacks 127 = .ok (.iload_n 3, 1) := by decide +kernel
theorem dX11_stacks_128 : decode cX11_stacks 128 = .ok (.invokevirtual 374, 3) := by decide +kernel
theorem dX11_stacks_131 : decode cX11_stacks 131 = .ok (.aload_n 0, 1) := by decide +kernel
theorem dX11_stacks_132 : decode cX11_stacks 132 = .ok (.iload_n 1, 1) := by decide +kernel
theorem dX11_stacks_133 : decode cX11_stacks 133 = .ok (.invokevirtual 371, 3) := by decide +kernel
theorem dX11_stacks_136 : decode cX11_stacks 136 = .ok (.istore_n 3, 1) := by decide +kernel
theorem dX11_stacks_137 : decode cX11_stacks 137 = .ok (.goto (-37), 3) := by decide +kernel
theorem dX11_stacks_140 : decode cX11_stacks 140 = .ok (.aload_n 0, 1) := by decide +kernel
theorem dX11_stacks_141 : decode cX11_stacks 141 = .ok (.dup, 1) := by decide +kernel
theorem dX11_stacks_142 : decode cX11_stacks 142 = .ok (.getfield 365, 3) := by decide +kernel
theorem dX11_stacks_145 : decode cX11_stacks 145 = .ok (.aload_n 0, 1) := by decide +kernel
theorem dX11_stacks_146 : decode cX11_stacks 146 = .ok (.getfield 82, 3) := by decide +kernel
theorem dX11_stacks_149 : decode cX11_stacks 149 = .ok (.iload_n 1, 1) := by decide +kernel
theorem dX11_stacks_150 : decode cX11_stacks 150 = .ok (.iaload, 1) := by decide +kernel
theorem dX11_stacks_151 : decode cX11_stacks 151 = .ok (.iload_n 2, 1) := by decide +kernel
theorem dX11_stacks_152 : decode cX11_stacks 152 = .ok (.isub, 1) := by decide +kernel
theorem dX11_stacks_153 : decode cX11_stacks 153 = .ok (.iadd, 1) := by decide +kernel
theorem dX11_stacks_154 : decode cX11_stacks 154 = .ok (.putfield 365, 3) := by decide +kernel
theorem dX11_stacks_157 : decode cX11_stacks 157 = .ok (.iinc 1 1, 3) := by decide +kernel
theorem dX11_stacks_160 : decode cX11_stacks 160 = .ok (.goto (-96), 3) := by decide +kernel
theorem dX11_stacks_163 : decode cX11_stacks 163 = .ok (.aload_n 0, 1) := by decide +kernel
theorem dX11_stacks_164 : decode cX11_stacks 164 = .ok (.invokevirtual 377, 3) := by decide +kernel
theorem dX11_stacks_167 : decode cX11_stacks 167 = .ok (.return_, 1) := by decide +kernel
theorem dX11_finds_0 : decode cX11_finds 0 = .ok (.aload_n 0, 1) := by decide +kernel
theorem dX11_finds_1 : decode cX11_finds 1 = .ok (.iconst (-1), 1) := by decide +kernel
theorem dX11_finds_2 : decode cX11_finds 2 = .ok (.putfield 380, 3) := by decide +kernel
theorem dX11_finds_5 : decode cX11_finds 5 = .ok (.aload_n 0, 1) := by decide +kernel
theorem dX11_finds_6 : decode cX11_finds 6 = .ok (.iconst (-1), 1) := by decide +kernel
theorem dX11_finds_7 : decode cX11_finds 7 = .ok (.putfield 383, 3) := by decide +kernel
theorem dX11_finds_10 : decode cX11_finds 10 = .ok (.sipush 294, 3) := by decide +kernel
theorem dX11_finds_13 : decode cX11_finds 13 = .ok (.aload_n 0, 1) := by decide +kernel
theorem dX11_finds_14 : decode cX11_finds 14 = .ok (.invokevirtual 261, 3) := by decide +kernel
theorem dX11_finds_17 : decode cX11_finds 17 = .ok (.imul, 1) := by decide +kernel
theorem dX11_finds_18 : decode cX11_finds 18 = .ok (.istore_n 1, 1) := by decide +kernel
theorem dX11_finds_19 : decode cX11_finds 19 = .ok (.iload_n 1, 1) := by decide +kernel
theorem dX11_finds_20 : decode cX11_finds 20 = .ok (.sipush 294, 3) := by decide +kernel
theorem dX11_finds_23 : decode cX11_finds 23 = .ok (.aload_n 0, 1) := by decide +kernel
theorem dX11_finds_24 : decode cX11_finds 24 = .ok (.invokevirtual 261, 3) := by decide +kernel
theorem dX11_finds_27 : decode cX11_finds 27 = .ok (.imul, 1) := by decide +kernel
theorem dX11_finds_28 : decode cX11_finds 28 = .ok (.sipush 294, 3) := by decide +kernel
theorem dX11_finds_31 : decode cX11_finds 31 = .ok (.iadd, 1) := by decide +kernel
theorem dX11_finds_32 : decode cX11_finds 32 = .ok (.if_icmp .ge 94, 3) := by decide +kernel
theorem dX11_finds_35 : decode cX11_finds 35 = .ok (.aload_n 0, 1) := by decide +kernel
theorem dX11_finds_36 : decode cX11_finds 36 = .ok (.getfield 60, 3) := by decide +kernel
theorem dX11_finds_39 : decode cX11_finds 39 = .ok (.iload_n 1, 1) := by decide +kernel
theorem dX11_finds_40 : decode cX11_finds 40 = .ok (.baload, 1) := by decide +kernel
theorem dX11_finds_41 : decode cX11_finds 41 = .ok (.ifCond .ne 6, 3) := by decide +kernel
theorem dX11_finds_44 : decode cX11_finds 44 = .ok (.goto 76, 3) := by decide +kernel
theorem dX11_finds_47 : decode cX11_finds 47 = .ok (.aload_n 0, 1) := by decide +kernel
theorem dX11_finds_48 : decode cX11_finds 48 = .ok (.getfield 67, 3) := by decide +kernel
theorem dX11_finds_51 : decode cX11_finds 51 = .ok (.iload_n 1, 1) := by decide +kernel
theorem dX11_finds_52 : decode cX11_finds 52 = .ok (.iaload, 1) := by decide +kernel
theorem dX11_finds_53 : decode cX11_finds 53 = .ok (.aload_n 0, 1) := by decide +kernel
theorem dX11_finds_54 : decode cX11_finds 54 = .ok (.aload_n 0, 1) := by decide +kernel
theorem dX11_finds_55 : decode cX11_finds 55 = .ok (.iload_n 1, 1) := by decide +kernel
theorem dX11_finds_56 : decode cX11_finds 56 = .ok (.invokevirtual 353, 3) := by decide +kernel
theorem dX11_finds_59 : decode cX11_finds 59 = .ok (.iconst (-1), 1) := by decide +kernel
theorem dX11_finds_60 : decode cX11_finds 60 = .ok (.invokevirtual 230, 3) := by decide +kernel
theorem dX11_finds_63 : decode cX11_finds 63 = .ok (.iadd, 1) := by decide +kernel
theorem dX11_finds_64 : decode cX11_finds 64 = .ok (.istore_n 2, 1) := by decide +kernel
theorem dX11_finds_65 : decode cX11_finds 65 = .ok (.aload_n 0, 1) := by decide +kernel
theorem dX11_finds_66 : decode cX11_finds 66 = .ok (.getfield 380, 3) := by decide +kernel
theorem dX11_finds_69 : decode cX11_finds 69 = .ok (.iconst (-1), 1) := by decide +kernel
theorem dX11_finds_70 : decode cX11_finds 70 = .ok (.if_icmp .eq 40, 3) := by decide +kernel
theorem dX11_finds_73 : decode cX11_finds 73 = .ok (.iload_n 2, 1) := by decide +kernel
theorem dX11_finds_74 : decode cX11_finds 74 = .ok (.aload_n 0, 1) := by decide +kernel
theorem dX11_finds_75 : decode cX11_finds 75 = .ok (.getfield 383, 3) := by decide +kernel
theorem dX11_finds_78 : decode cX11_finds 78 = .ok (.if_icmp .gt 42, 3) := by decide +kernel
theorem dX11_finds_81 : decode cX11_finds 81 = .ok (.iload_n 2, 1) := by decide +kernel
theorem dX11_finds_82 : decode cX11_finds 82 = .ok (.aload_n 0, 1) := by decide +kernel
theorem dX11_finds_83 : decode cX11_finds 83 = .ok (.getfield 383, 3) := by decide +kernel
theorem dX11_finds_86 : decode cX11_finds 86 = .ok (.if_icmp .ne 24, 3) := by decide +kernel
theorem dX11_finds_89 : decode cX11_finds 89 = .ok (.aload_n 0, 1) := by decide +kernel
theorem dX11_finds_90 : decode cX11_finds 90 = .ok (.getfield 70, 3) := by decide +kernel
theorem dX11_finds_93 : decode cX11_finds 93 = .ok (.iload_n 1, 1) := by decide +kernel
theorem dX11_finds_94 : decode cX11_finds 94 = .ok (.iaload, 1) := by decide +kernel
theorem dX11_finds_95 : decode cX11_finds 95 = .ok (.aload_n 0, 1) := by decide +kernel
theorem dX11_finds_96 : decode cX11_finds 96 = .ok (.getfield 70, 3) := by decide +kernel
theorem dX11_finds_99 : decode cX11_finds 99 = .ok (.aload_n 0, 1) := by decide +kernel
theorem dX11_finds_100 : decode cX11_finds 100 = .ok (.getfield 380, 3) := by decide +kernel
theorem dX11_finds_103 : decode cX11_finds 103 = .ok (.iaload, 1) := by decide +kernel
theorem dX11_finds_104 : decode cX11_finds 104 = .ok (.if_icmp .le 6, 3) := by decide +kernel
theorem dX11_finds_107 : decode cX11_finds 107 = .ok (.goto 13, 3) := by decide +kernel
theorem dX11_finds_110 : decode cX11_finds 110 = .ok (.aload_n 0, 1) := by decide +kernel
theorem dX11_finds_111 : decode cX11_finds 111 = .ok (.iload_n 1, 1) := by decide +kernel
theorem dX11_finds_112 : decode cX11_finds 112 = .ok (.putfield 380, 3) := by decide +kernel
theorem dX11_finds_115 : decode cX11_finds 115 = .ok (.aload_n 0, 1) := by decide +kernel
theorem dX11_finds_116 : decode cX11_finds 116 = .ok (.iload_n 2, 1) := by decide +kernel
theorem dX11_finds_117 : decode cX11_finds 117 = .ok (.putfield 383, 3) := by decide +kernel
theorem dX11_finds_120 : decode cX11_finds 120 = .ok (.iinc 1 1, 3) := by decide +kernel
theorem dX11_finds_123 : decode cX11_finds 123 = .ok (.goto (-104), 3) := by decide +kernel
theorem dX11_finds_126 : decode cX11_finds 126 = .ok (.return_, 1) := by decide +kernel
theorem dX11_stepsOf_0 : decode cX11_stepsOf 0 = .ok (.iconst 0, 1) := by decide +kernel
theorem dX11_stepsOf_1 : decode cX11_stepsOf 1 = .ok (.istore_n 2, 1) := by decide +kernel
theorem dX11_stepsOf_2 : decode cX11_stepsOf 2 = .ok (.iload_n 1, 1) := by decide +kernel
theorem dX11_stepsOf_3 : decode cX11_stepsOf 3 = .ok (.istore_n 3, 1) := by decide +kernel
theorem dX11_stepsOf_4 : decode cX11_stepsOf 4 = .ok (.aload_n 0, 1) := by decide +kernel
theorem dX11_stepsOf_5 : decode cX11_stepsOf 5 = .ok (.getfield 73, 3) := by decide +kernel
theorem dX11_stepsOf_8 : decode cX11_stepsOf 8 = .ok (.iload_n 3, 1) := by decide +kernel
theorem dX11_stepsOf_9 : decode cX11_stepsOf 9 = .ok (.iaload, 1) := by decide +kernel
theorem dX11_stepsOf_10 : decode cX11_stepsOf 10 = .ok (.iconst (-1), 1) := by decide +kernel
theorem dX11_stepsOf_11 : decode cX11_stepsOf 11 = .ok (.if_icmp .eq 16, 3) := by decide +kernel
theorem dX11_stepsOf_14 : decode cX11_stepsOf 14 = .ok (.iinc 2 1, 3) := by decide +kernel
theorem dX11_stepsOf_17 : decode cX11_stepsOf 17 = .ok (.aload_n 0, 1) := by decide +kernel
theorem dX11_stepsOf_18 : decode cX11_stepsOf 18 = .ok (.getfield 73, 3) := by decide +kernel
theorem dX11_stepsOf_21 : decode cX11_stepsOf 21 = .ok (.iload_n 3, 1) := by decide +kernel
theorem dX11_stepsOf_22 : decode cX11_stepsOf 22 = .ok (.iaload, 1) := by decide +kernel
theorem dX11_stepsOf_23 : decode cX11_stepsOf 23 = .ok (.istore_n 3, 1) := by decide +kernel
theorem dX11_stepsOf_24 : decode cX11_stepsOf 24 = .ok (.goto (-20), 3) := by decide +kernel
theorem dX11_stepsOf_27 : decode cX11_stepsOf 27 = .ok (.iload_n 2, 1) := by decide +kernel
theorem dX11_stepsOf_28 : decode cX11_stepsOf 28 = .ok (.ireturn, 1) := by decide +kernel
theorem dX11_found_0 : decode cX11_found 0 = .ok (.aload_n 0, 1) := by decide +kernel
theorem dX11_found_1 : decode cX11_found 1 = .ok (.iload_n 1, 1) := by decide +kernel
theorem dX11_found_2 : decode cX11_found 2 = .ok (.iconst 0, 1) := by decide +kernel
theorem dX11_found_3 : decode cX11_found 3 = .ok (.iconst 4, 1) := by decide +kernel
theorem dX11_found_4 : decode cX11_found 4 = .ok (.invokestatic 103, 3) := by decide +kernel
theorem dX11_found_7 : decode cX11_found 7 = .ok (.ifCond .eq 7, 3) := by decide +kernel
theorem dX11_found_10 : decode cX11_found 10 = .ok (.iconst 0, 1) := by decide +kernel
theorem dX11_found_11 : decode cX11_found 11 = .ok (.goto 4, 3) := by decide +kernel
theorem dX11_found_14 : decode cX11_found 14 = .ok (.iconst 1, 1) := by decide +kernel
theorem dX11_found_15 : decode cX11_found 15 = .ok (.putfield 100, 3) := by decide +kernel
theorem dX11_found_18 : decode cX11_found 18 = .ok (.aload_n 0, 1) := by decide +kernel
theorem dX11_found_19 : decode cX11_found 19 = .ok (.getfield 100, 3) := by decide +kernel
theorem dX11_found_22 : decode cX11_found 22 = .ok (.ifCond .le 5, 3) := by decide +kernel
theorem dX11_found_25 : decode cX11_found 25 = .ok (.iconst 0, 1) := by decide +kernel
theorem dX11_found_26 : decode cX11_found 26 = .ok (.ireturn, 1) := by decide +kernel
theorem dX11_found_27 : decode cX11_found 27 = .ok (.aload_n 0, 1) := by decide +kernel
theorem dX11_found_28 : decode cX11_found 28 = .ok (.invokevirtual 386, 3) := by decide +kernel
theorem dX11_found_31 : decode cX11_found 31 = .ok (.iload_n 1, 1) := by decide +kernel
theorem dX11_found_32 : decode cX11_found 32 = .ok (.tableswitch 68 0 3 #[32, 37, 58, 63], 32) := by decide +kernel
theorem dX11_found_64 : decode cX11_found 64 = .ok (.aload_n 0, 1) := by decide +kernel
theorem dX11_found_65 : decode cX11_found 65 = .ok (.getfield 383, 3) := by decide +kernel
theorem dX11_found_68 : decode cX11_found 68 = .ok (.ireturn, 1) := by decide +kernel
theorem dX11_found_69 : decode cX11_found 69 = .ok (.aload_n 0, 1) := by decide +kernel
theorem dX11_found_70 : decode cX11_found 70 = .ok (.getfield 380, 3) := by decide +kernel
theorem dX11_found_73 : decode cX11_found 73 = .ok (.iconst (-1), 1) := by decide +kernel
theorem dX11_found_74 : decode cX11_found 74 = .ok (.if_icmp .ne 7, 3) := by decide +kernel
theorem dX11_found_77 : decode cX11_found 77 = .ok (.iconst (-1), 1) := by decide +kernel
theorem dX11_found_78 : decode cX11_found 78 = .ok (.goto 11, 3) := by decide +kernel
theorem dX11_found_81 : decode cX11_found 81 = .ok (.aload_n 0, 1) := by decide +kernel
theorem dX11_found_82 : decode cX11_found 82 = .ok (.aload_n 0, 1) := by decide +kernel
theorem dX11_found_83 : decode cX11_found 83 = .ok (.getfield 380, 3) := by decide +kernel
theorem dX11_found_86 : decode cX11_found 86 = .ok (.invokevirtual 389, 3) := by decide +kernel
theorem dX11_found_89 : decode cX11_found 89 = .ok (.ireturn, 1) := by decide +kernel
theorem dX11_found_90 : decode cX11_found 90 = .ok (.aload_n 0, 1) := by decide +kernel
theorem dX11_found_91 : decode cX11_found 91 = .ok (.getfield 344, 3) := by decide +kernel
theorem dX11_found_94 : decode cX11_found 94 = .ok (.ireturn, 1) := by decide +kernel
theorem dX11_found_95 : decode cX11_found 95 = .ok (.aload_n 0, 1) := by decide +kernel
theorem dX11_found_96 : decode cX11_found 96 = .ok (.getfield 347, 3) := by decide +kernel
theorem dX11_found_99 : decode cX11_found 99 = .ok (.ireturn, 1) := by decide +kernel
theorem dX11_found_100 : decode cX11_found 100 = .ok (.aload_n 0, 1) := by decide +kernel
theorem dX11_found_101 : decode cX11_found 101 = .ok (.getfield 365, 3) := by decide +kernel
theorem dX11_found_104 : decode cX11_found 104 = .ok (.ireturn, 1) := by decide +kernel
theorem dX11_halves_0 : decode cX11_halves 0 = .ok (.aload_n 0, 1) := by decide +kernel
theorem dX11_halves_1 : decode cX11_halves 1 = .ok (.iload_n 2, 1) := by decide +kernel
theorem dX11_halves_2 : decode cX11_halves 2 = .ok (.iconst 0, 1) := by decide +kernel
theorem dX11_halves_3 : decode cX11_halves 3 = .ok (.iconst 1, 1) := by decide +kernel
theorem dX11_halves_4 : decode cX11_halves 4 = .ok (.invokestatic 103, 3) := by decide +kernel
theorem dX11_halves_7 : decode cX11_halves 7 = .ok (.ifCond .eq 7, 3) := by decide +kernel
theorem dX11_halves_10 : decode cX11_halves 10 = .ok (.iconst 0, 1) := by decide +kernel
theorem dX11_halves_11 : decode cX11_halves 11 = .ok (.goto 4, 3) := by decide +kernel
theorem dX11_halves_14 : decode cX11_halves 14 = .ok (.iconst 1, 1) := by decide +kernel
theorem dX11_halves_15 : decode cX11_halves 15 = .ok (.putfield 100, 3) := by decide +kernel
theorem dX11_halves_18 : decode cX11_halves 18 = .ok (.aload_n 0, 1) := by decide +kernel
theorem dX11_halves_19 : decode cX11_halves 19 = .ok (.getfield 100, 3) := by decide +kernel
theorem dX11_halves_22 : decode cX11_halves 22 = .ok (.ifCond .le 5, 3) := by decide +kernel
theorem dX11_halves_25 : decode cX11_halves 25 = .ok (.iconst 0, 1) := by decide +kernel
theorem dX11_halves_26 : decode cX11_halves 26 = .ok (.ireturn, 1) := by decide +kernel
theorem dX11_halves_27 : decode cX11_halves 27 = .ok (.aload_n 0, 1) := by decide +kernel
theorem dX11_halves_28 : decode cX11_halves 28 = .ok (.invokevirtual 386, 3) := by decide +kernel
theorem dX11_halves_31 : decode cX11_halves 31 = .ok (.aload_n 0, 1) := by decide +kernel
theorem dX11_halves_32 : decode cX11_halves 32 = .ok (.getfield 380, 3) := by decide +kernel
theorem dX11_halves_35 : decode cX11_halves 35 = .ok (.iconst (-1), 1) := by decide +kernel
theorem dX11_halves_36 : decode cX11_halves 36 = .ok (.if_icmp .eq 21, 3) := by decide +kernel
theorem dX11_halves_39 : decode cX11_halves 39 = .ok (.iload_n 1, 1) := by decide +kernel
theorem dX11_halves_40 : decode cX11_halves 40 = .ok (.iconst 0, 1) := by decide +kernel
theorem dX11_halves_41 : decode cX11_halves 41 = .ok (.aload_n 0, 1) := by decide +kernel
theorem dX11_halves_42 : decode cX11_halves 42 = .ok (.aload_n 0, 1) := by decide +kernel
theorem dX11_halves_43 : decode cX11_halves 43 = .ok (.getfield 380, 3) := by decide +kernel
theorem dX11_halves_46 : decode cX11_halves 46 = .ok (.invokevirtual 389, 3) := by decide +kernel
theorem dX11_halves_49 : decode cX11_halves 49 = .ok (.iconst 1, 1) := by decide +kernel
theorem dX11_halves_50 : decode cX11_halves 50 = .ok (.isub, 1) := by decide +kernel
theorem dX11_halves_51 : decode cX11_halves 51 = .ok (.invokestatic 103, 3) := by decide +kernel
theorem dX11_halves_54 : decode cX11_halves 54 = .ok (.ifCond .ne 5, 3) := by decide +kernel
theorem dX11_halves_57 : decode cX11_halves 57 = .ok (.iconst (-1), 1) := by decide +kernel
theorem dX11_halves_58 : decode cX11_halves 58 = .ok (.ireturn, 1) := by decide +kernel
theorem dX11_halves_59 : decode cX11_halves 59 = .ok (.aload_n 0, 1) := by decide +kernel
theorem dX11_halves_60 : decode cX11_halves 60 = .ok (.getfield 380, 3) := by decide +kernel
theorem dX11_halves_63 : decode cX11_halves 63 = .ok (.istore_n 3, 1) := by decide +kernel
theorem dX11_halves_64 : decode cX11_halves 64 = .ok (.aload_n 0, 1) := by decide +kernel
theorem dX11_halves_65 : decode cX11_halves 65 = .ok (.aload_n 0, 1) := by decide +kernel
theorem dX11_halves_66 : decode cX11_halves 66 = .ok (.getfield 380, 3) := by decide +kernel
theorem dX11_halves_69 : decode cX11_halves 69 = .ok (.invokevirtual 389, 3) := by decide +kernel
theorem dX11_halves_72 : decode cX11_halves 72 = .ok (.iconst 1, 1) := by decide +kernel
theorem dX11_halves_73 : decode cX11_halves 73 = .ok (.isub, 1) := by decide +kernel
theorem dX11_halves_74 : decode cX11_halves 74 = .ok (.istore 4, 2) := by decide +kernel
theorem dX11_halves_76 : decode cX11_halves 76 = .ok (.iload 4, 2) := by decide +kernel
theorem dX11_halves_78 : decode cX11_halves 78 = .ok (.iload_n 1, 1) := by decide +kernel
theorem dX11_halves_79 : decode cX11_halves 79 = .ok (.if_icmp .le 16, 3) := by decide +kernel
theorem dX11_halves_82 : decode cX11_halves 82 = .ok (.aload_n 0, 1) := by decide +kernel
theorem dX11_halves_83 : decode cX11_halves 83 = .ok (.getfield 73, 3) := by decide +kernel
theorem dX11_halves_86 : decode cX11_halves 86 = .ok (.iload_n 3, 1) := by decide +kernel
theorem dX11_halves_87 : decode cX11_halves 87 = .ok (.iaload, 1) := by decide +kernel
theorem dX11_halves_88 : decode cX11_halves 88 = .ok (.istore_n 3, 1) := by decide +kernel
theorem dX11_halves_89 : decode cX11_halves 89 = .ok (.iinc 4 (-1), 3) := by decide +kernel
theorem dX11_halves_92 : decode cX11_halves 92 = .ok (.goto (-16), 3) := by decide +kernel
theorem dX11_halves_95 : decode cX11_halves 95 = .ok (.iload_n 2, 1) := by decide +kernel
theorem dX11_halves_96 : decode cX11_halves 96 = .ok (.ifCond .ne 12, 3) := by decide +kernel
theorem dX11_halves_99 : decode cX11_halves 99 = .ok (.aload_n 0, 1) := by decide +kernel
theorem dX11_halves_100 : decode cX11_halves 100 = .ok (.getfield 76, 3) := by decide +kernel
theorem dX11_halves_103 : decode cX11_halves 103 = .ok (.iload_n 3, 1) := by decide +kernel
theorem dX11_halves_104 : decode cX11_halves 104 = .ok (.iaload, 1) := by decide +kernel
theorem dX11_halves_105 : decode cX11_halves 105 = .ok (.goto 9, 3) := by decide +kernel
theorem dX11_halves_108 : decode cX11_halves 108 = .ok (.aload_n 0, 1) := by decide +kernel
theorem dX11_halves_109 : decode cX11_halves 109 = .ok (.getfield 79, 3) := by decide +kernel
theorem dX11_halves_112 : decode cX11_halves 112 = .ok (.iload_n 3, 1) := by decide +kernel
theorem dX11_halves_113 : decode cX11_halves 113 = .ok (.iaload, 1) := by decide +kernel
theorem dX11_halves_114 : decode cX11_halves 114 = .ok (.ireturn, 1) := by decide +kernel
theorem dX11_stack_0 : decode cX11_stack 0 = .ok (.aload_n 0, 1) := by decide +kernel
theorem dX11_stack_1 : decode cX11_stack 1 = .ok (.iload_n 1, 1) := by decide +kernel
theorem dX11_stack_2 : decode cX11_stack 2 = .ok (.iconst 0, 1) := by decide +kernel
theorem dX11_stack_3 : decode cX11_stack 3 = .ok (.aload_n 0, 1) := by decide +kernel
theorem dX11_stack_4 : decode cX11_stack 4 = .ok (.getfield 7, 3) := by decide +kernel
theorem dX11_stack_7 : decode cX11_stack 7 = .ok (.iconst 3, 1) := by decide +kernel
theorem dX11_stack_8 : decode cX11_stack 8 = .ok (.iaload, 1) := by decide +kernel
theorem dX11_stack_9 : decode cX11_stack 9 = .ok (.invokestatic 103, 3) := by decide +kernel
theorem dX11_stack_12 : decode cX11_stack 12 = .ok (.ifCond .ne 7, 3) := by decide +kernel
theorem dX11_stack_15 : decode cX11_stack 15 = .ok (.iconst 1, 1) := by decide +kernel
theorem dX11_stack_16 : decode cX11_stack 16 = .ok (.goto 17, 3) := by decide +kernel
theorem dX11_stack_19 : decode cX11_stack 19 = .ok (.iload_n 2, 1) := by decide +kernel
theorem dX11_stack_20 : decode cX11_stack 20 = .ok (.iconst 0, 1) := by decide +kernel
theorem dX11_stack_21 : decode cX11_stack 21 = .ok (.iconst 1, 1) := by decide +kernel
theorem dX11_stack_22 : decode cX11_stack 22 = .ok (.invokestatic 103, 3) := by decide +kernel
theorem dX11_stack_25 : decode cX11_stack 25 = .ok (.ifCond .ne 7, 3) := by decide +kernel
theorem dX11_stack_28 : decode cX11_stack 28 = .ok (.iconst 2, 1) := by decide +kernel
theorem dX11_stack_29 : decode cX11_stack 29 = .ok (.goto 4, 3) := by decide +kernel
theorem dX11_stack_32 : decode cX11_stack 32 = .ok (.iconst 0, 1) := by decide +kernel
theorem dX11_stack_33 : decode cX11_stack 33 = .ok (.putfield 100, 3) := by decide +kernel
theorem dX11_stack_36 : decode cX11_stack 36 = .ok (.aload_n 0, 1) := by decide +kernel
theorem dX11_stack_37 : decode cX11_stack 37 = .ok (.getfield 100, 3) := by decide +kernel
theorem dX11_stack_40 : decode cX11_stack 40 = .ok (.ifCond .le 5, 3) := by decide +kernel
theorem dX11_stack_43 : decode cX11_stack 43 = .ok (.iconst 0, 1) := by decide +kernel
theorem dX11_stack_44 : decode cX11_stack 44 = .ok (.ireturn, 1) := by decide +kernel
theorem dX11_stack_45 : decode cX11_stack 45 = .ok (.aload_n 0, 1) := by decide +kernel
theorem dX11_stack_46 : decode cX11_stack 46 = .ok (.invokevirtual 386, 3) := by decide +kernel
theorem dX11_stack_49 : decode cX11_stack 49 = .ok (.iload_n 2, 1) := by decide +kernel
theorem dX11_stack_50 : decode cX11_stack 50 = .ok (.ifCond .ne 12, 3) := by decide +kernel
theorem dX11_stack_53 : decode cX11_stack 53 = .ok (.aload_n 0, 1) := by decide +kernel
theorem dX11_stack_54 : decode cX11_stack 54 = .ok (.getfield 82, 3) := by decide +kernel
theorem dX11_stack_57 : decode cX11_stack 57 = .ok (.iload_n 1, 1) := by decide +kernel
theorem dX11_stack_58 : decode cX11_stack 58 = .ok (.iaload, 1) := by decide +kernel
theorem dX11_stack_59 : decode cX11_stack 59 = .ok (.goto 9, 3) := by decide +kernel
theorem dX11_stack_62 : decode cX11_stack 62 = .ok (.aload_n 0, 1) := by decide +kernel
theorem dX11_stack_63 : decode cX11_stack 63 = .ok (.getfield 85, 3) := by decide +kernel
theorem dX11_stack_66 : decode cX11_stack 66 = .ok (.iload_n 1, 1) := by decide +kernel
theorem dX11_stack_67 : decode cX11_stack 67 = .ok (.iaload, 1) := by decide +kernel
theorem dX11_stack_68 : decode cX11_stack 68 = .ok (.ireturn, 1) := by decide +kernel
theorem dX11_isTold_0 : decode cX11_isTold 0 = .ok (.aload_n 0, 1) := by decide +kernel
theorem dX11_isTold_1 : decode cX11_isTold 1 = .ok (.invokevirtual 173, 3) := by decide +kernel
theorem dX11_isTold_4 : decode cX11_isTold 4 = .ok (.aload_n 0, 1) := by decide +kernel
theorem dX11_isTold_5 : decode cX11_isTold 5 = .ok (.aload_n 0, 1) := by decide +kernel
theorem dX11_isTold_6 : decode cX11_isTold 6 = .ok (.aload_n 0, 1) := by decide +kernel
theorem dX11_isTold_7 : decode cX11_isTold 7 = .ok (.getfield 32, 3) := by decide +kernel
theorem dX11_isTold_10 : decode cX11_isTold 10 = .ok (.iconst 0, 1) := by decide +kernel
theorem dX11_isTold_11 : decode cX11_isTold 11 = .ok (.bipush 18, 2) := by decide +kernel
theorem dX11_isTold_13 : decode cX11_isTold 13 = .ok (.iconst 0, 1) := by decide +kernel
theorem dX11_isTold_14 : decode cX11_isTold 14 = .ok (.invokevirtual 152, 3) := by decide +kernel
theorem dX11_isTold_17 : decode cX11_isTold 17 = .ok (.putfield 119, 3) := by decide +kernel
theorem dX11_isTold_20 : decode cX11_isTold 20 = .ok (.aload_n 0, 1) := by decide +kernel
theorem dX11_isTold_21 : decode cX11_isTold 21 = .ok (.getfield 22, 3) := by decide +kernel
theorem dX11_isTold_24 : decode cX11_isTold 24 = .ok (.iconst (-1), 1) := by decide +kernel
theorem dX11_isTold_25 : decode cX11_isTold 25 = .ok (.if_icmp .ne 22, 3) := by decide +kernel
theorem dX11_isTold_28 : decode cX11_isTold 28 = .ok (.aload_n 0, 1) := by decide +kernel
theorem dX11_isTold_29 : decode cX11_isTold 29 = .ok (.invokevirtual 129, 3) := by decide +kernel
theorem dX11_isTold_32 : decode cX11_isTold 32 = .ok (.aload_n 0, 1) := by decide +kernel
theorem dX11_isTold_33 : decode cX11_isTold 33 = .ok (.getfield 110, 3) := by decide +kernel
theorem dX11_isTold_36 : decode cX11_isTold 36 = .ok (.if_icmp .ge 11, 3) := by decide +kernel
theorem dX11_isTold_39 : decode cX11_isTold 39 = .ok (.aload_n 0, 1) := by decide +kernel
theorem dX11_isTold_40 : decode cX11_isTold 40 = .ok (.aload_n 0, 1) := by decide +kernel
theorem dX11_isTold_41 : decode cX11_isTold 41 = .ok (.getfield 113, 3) := by decide +kernel
theorem dX11_isTold_44 : decode cX11_isTold 44 = .ok (.invokevirtual 137, 3) := by decide +kernel
theorem dX11_isTold_47 : decode cX11_isTold 47 = .ok (.aload_n 0, 1) := by decide +kernel
theorem dX11_isTold_48 : decode cX11_isTold 48 = .ok (.invokevirtual 188, 3) := by decide +kernel
theorem dX11_isTold_51 : decode cX11_isTold 51 = .ok (.ireturn, 1) := by decide +kernel
theorem dX11_isSpoken_0 : decode cX11_isSpoken 0 = .ok (.iload_n 3, 1) := by decide +kernel
theorem dX11_isSpoken_1 : decode cX11_isSpoken 1 = .ok (.aload_n 0, 1) := by decide +kernel
theorem dX11_isSpoken_2 : decode cX11_isSpoken 2 = .ok (.iload_n 1, 1) := by decide +kernel
theorem dX11_isSpoken_3 : decode cX11_isSpoken 3 = .ok (.invokevirtual 254, 3) := by decide +kernel
theorem dX11_isSpoken_6 : decode cX11_isSpoken 6 = .ok (.iadd, 1) := by decide +kernel
theorem dX11_isSpoken_7 : decode cX11_isSpoken 7 = .ok (.aload_n 0, 1) := by decide +kernel
theorem dX11_isSpoken_8 : decode cX11_isSpoken 8 = .ok (.getfield 119, 3) := by decide +kernel
theorem dX11_isSpoken_11 : decode cX11_isSpoken 11 = .ok (.if_icmp .le 5, 3) := by decide +kernel
theorem dX11_isSpoken_14 : decode cX11_isSpoken 14 = .ok (.iconst 0, 1) := by decide +kernel
theorem dX11_isSpoken_15 : decode cX11_isSpoken 15 = .ok (.ireturn, 1) := by decide +kernel
theorem dX11_isSpoken_16 : decode cX11_isSpoken 16 = .ok (.iconst 0, 1) := by decide +kernel
theorem dX11_isSpoken_17 : decode cX11_isSpoken 17 = .ok (.istore 4, 2) := by decide +kernel
theorem dX11_isSpoken_19 : decode cX11_isSpoken 19 = .ok (.iload 4, 2) := by decide +kernel
theorem dX11_isSpoken_21 : decode cX11_isSpoken 21 = .ok (.aload_n 0, 1) := by decide +kernel
theorem dX11_isSpoken_22 : decode cX11_isSpoken 22 = .ok (.iload_n 1, 1) := by decide +kernel
theorem dX11_isSpoken_23 : decode cX11_isSpoken 23 = .ok (.invokevirtual 254, 3) := by decide +kernel
theorem dX11_isSpoken_26 : decode cX11_isSpoken 26 = .ok (.if_icmp .ge 31, 3) := by decide +kernel
theorem dX11_isSpoken_29 : decode cX11_isSpoken 29 = .ok (.aload_n 0, 1) := by decide +kernel
theorem dX11_isSpoken_30 : decode cX11_isSpoken 30 = .ok (.getfield 32, 3) := by decide +kernel
theorem dX11_isSpoken_33 : decode cX11_isSpoken 33 = .ok (.iload_n 3, 1) := by decide +kernel
theorem dX11_isSpoken_34 : decode cX11_isSpoken 34 = .ok (.iload 4, 2) := by decide +kernel
theorem dX11_isSpoken_36 : decode cX11_isSpoken 36 = .ok (.iadd, 1) := by decide +kernel
theorem dX11_isSpoken_37 : decode cX11_isSpoken 37 = .ok (.iaload, 1) := by decide +kernel
theorem dX11_isSpoken_38 : decode cX11_isSpoken 38 = .ok (.aload_n 0, 1) := by decide +kernel
theorem dX11_isSpoken_39 : decode cX11_isSpoken 39 = .ok (.iload_n 1, 1) := by decide +kernel
theorem dX11_isSpoken_40 : decode cX11_isSpoken 40 = .ok (.iload_n 2, 1) := by decide +kernel
theorem dX11_isSpoken_41 : decode cX11_isSpoken 41 = .ok (.iload 4, 2) := by decide +kernel
theorem dX11_isSpoken_43 : decode cX11_isSpoken 43 = .ok (.invokevirtual 257, 3) := by decide +kernel
theorem dX11_isSpoken_46 : decode cX11_isSpoken 46 = .ok (.if_icmp .eq 5, 3) := by decide +kernel
theorem dX11_isSpoken_49 : decode cX11_isSpoken 49 = .ok (.iconst 0, 1) := by decide +kernel
theorem dX11_isSpoken_50 : decode cX11_isSpoken 50 = .ok (.ireturn, 1) := by decide +kernel
theorem dX11_isSpoken_51 : decode cX11_isSpoken 51 = .ok (.iinc 4 1, 3) := by decide +kernel
theorem dX11_isSpoken_54 : decode cX11_isSpoken 54 = .ok (.goto (-35), 3) := by decide +kernel
theorem dX11_isSpoken_57 : decode cX11_isSpoken 57 = .ok (.iconst 1, 1) := by decide +kernel
theorem dX11_isSpoken_58 : decode cX11_isSpoken 58 = .ok (.ireturn, 1) := by decide +kernel
theorem dX11_forcedFrom_0 : decode cX11_forcedFrom 0 = .ok (.iload_n 3, 1) := by decide +kernel
theorem dX11_forcedFrom_1 : decode cX11_forcedFrom 1 = .ok (.ifCond .ne 7, 3) := by decide +kernel
theorem dX11_forcedFrom_4 : decode cX11_forcedFrom 4 = .ok (.iconst (-1), 1) := by decide +kernel
theorem dX11_forcedFrom_5 : decode cX11_forcedFrom 5 = .ok (.goto 11, 3) := by decide +kernel
theorem dX11_forcedFrom_8 : decode cX11_forcedFrom 8 = .ok (.aload_n 0, 1) := by decide +kernel
theorem dX11_forcedFrom_9 : decode cX11_forcedFrom 9 = .ok (.getfield 32, 3) := by decide +kernel
theorem dX11_forcedFrom_12 : decode cX11_forcedFrom 12 = .ok (.iload_n 3, 1) := by decide +kernel
theorem dX11_forcedFrom_13 : decode cX11_forcedFrom 13 = .ok (.iconst 1, 1) := by decide +kernel
theorem dX11_forcedFrom_14 : decode cX11_forcedFrom 14 = .ok (.isub, 1) := by decide +kernel
theorem dX11_forcedFrom_15 : decode cX11_forcedFrom 15 = .ok (.iaload, 1) := by decide +kernel
theorem dX11_forcedFrom_16 : decode cX11_forcedFrom 16 = .ok (.istore 4, 2) := by decide +kernel
theorem dX11_forcedFrom_18 : decode cX11_forcedFrom 18 = .ok (.iload_n 1, 1) := by decide +kernel
theorem dX11_forcedFrom_19 : decode cX11_forcedFrom 19 = .ok (.aload_n 0, 1) := by decide +kernel
theorem dX11_forcedFrom_20 : decode cX11_forcedFrom 20 = .ok (.invokevirtual 261, 3) := by decide +kernel
theorem dX11_forcedFrom_23 : decode cX11_forcedFrom 23 = .ok (.if_icmp .ne 25, 3) := by decide +kernel
theorem dX11_forcedFrom_26 : decode cX11_forcedFrom 26 = .ok (.iload_n 3, 1) := by decide +kernel
theorem dX11_forcedFrom_27 : decode cX11_forcedFrom 27 = .ok (.aload_n 0, 1) := by decide +kernel
theorem dX11_forcedFrom_28 : decode cX11_forcedFrom 28 = .ok (.getfield 119, 3) := by decide +kernel
theorem dX11_forcedFrom_31 : decode cX11_forcedFrom 31 = .ok (.if_icmp .ne 13, 3) := by decide +kernel
theorem dX11_forcedFrom_34 : decode cX11_forcedFrom 34 = .ok (.aload_n 0, 1) := by decide +kernel
theorem dX11_forcedFrom_35 : decode cX11_forcedFrom 35 = .ok (.iload 4, 2) := by decide +kernel
theorem dX11_forcedFrom_37 : decode cX11_forcedFrom 37 = .ok (.iconst (-1), 1) := by decide +kernel
theorem dX11_forcedFrom_38 : decode cX11_forcedFrom 38 = .ok (.invokevirtual 230, 3) := by decide +kernel
theorem dX11_forcedFrom_41 : decode cX11_forcedFrom 41 = .ok (.goto 6, 3) := by decide +kernel
theorem dX11_forcedFrom_44 : decode cX11_forcedFrom 44 = .ok (.ldc_w 267, 3) := by decide +kernel
theorem dX11_forcedFrom_47 : decode cX11_forcedFrom 47 = .ok (.ireturn, 1) := by decide +kernel
theorem dX11_forcedFrom_48 : decode cX11_forcedFrom 48 = .ok (.iload_n 1, 1) := by decide +kernel
theorem dX11_forcedFrom_49 : decode cX11_forcedFrom 49 = .ok (.bipush 7, 2) := by decide +kernel
theorem dX11_forcedFrom_51 : decode cX11_forcedFrom 51 = .ok (.imul, 1) := by decide +kernel
theorem dX11_forcedFrom_52 : decode cX11_forcedFrom 52 = .ok (.iload_n 2, 1) := by decide +kernel
theorem dX11_forcedFrom_53 : decode cX11_forcedFrom 53 = .ok (.iadd, 1) := by decide +kernel
theorem dX11_forcedFrom_54 : decode cX11_forcedFrom 54 = .ok (.bipush 19, 2) := by decide +kernel
theorem dX11_forcedFrom_56 : decode cX11_forcedFrom 56 = .ok (.imul, 1) := by decide +kernel
theorem dX11_forcedFrom_57 : decode cX11_forcedFrom 57 = .ok (.iload_n 3, 1) := by decide +kernel
theorem dX11_forcedFrom_58 : decode cX11_forcedFrom 58 = .ok (.iadd, 1) := by decide +kernel
theorem dX11_forcedFrom_59 : decode cX11_forcedFrom 59 = .ok (.istore 5, 2) := by decide +kernel
theorem dX11_forcedFrom_61 : decode cX11_forcedFrom 61 = .ok (.aload_n 0, 1) := by decide +kernel
theorem dX11_forcedFrom_62 : decode cX11_forcedFrom 62 = .ok (.getfield 88, 3) := by decide +kernel
theorem dX11_forcedFrom_65 : decode cX11_forcedFrom 65 = .ok (.iload 5, 2) := by decide +kernel
theorem dX11_forcedFrom_67 : decode cX11_forcedFrom 67 = .ok (.iaload, 1) := by decide +kernel
theorem dX11_forcedFrom_68 : decode cX11_forcedFrom 68 = .ok (.iconst (-1), 1) := by decide +kernel
theorem dX11_forcedFrom_69 : decode cX11_forcedFrom 69 = .ok (.if_icmp .eq 11, 3) := by decide +kernel
theorem dX11_forcedFrom_72 : decode cX11_forcedFrom 72 = .ok (.aload_n 0, 1) := by decide +kernel
theorem dX11_forcedFrom_73 : decode cX11_forcedFrom 73 = .ok (.getfield 88, 3) := by decide +kernel
theorem dX11_forcedFrom_76 : decode cX11_forcedFrom 76 = .ok (.iload 5, 2) := by decide +kernel
theorem dX11_forcedFrom_78 : decode cX11_forcedFrom 78 = .ok (.iaload, 1) := by decide +kernel
theorem dX11_forcedFrom_79 : decode cX11_forcedFrom 79 = .ok (.ireturn, 1) := by decide +kernel
theorem dX11_forcedFrom_80 : decode cX11_forcedFrom 80 = .ok (.ldc_w 267, 3) := by decide +kernel
theorem dX11_forcedFrom_83 : decode cX11_forcedFrom 83 = .ok (.istore 6, 2) := by decide +kernel
theorem dX11_forcedFrom_85 : decode cX11_forcedFrom 85 = .ok (.iconst 0, 1) := by decide +kernel
theorem dX11_forcedFrom_86 : decode cX11_forcedFrom 86 = .ok (.istore 7, 2) := by decide +kernel
theorem dX11_forcedFrom_88 : decode cX11_forcedFrom 88 = .ok (.iload 7, 2) := by decide +kernel
theorem dX11_forcedFrom_90 : decode cX11_forcedFrom 90 = .ok (.aload_n 0, 1) := by decide +kernel
theorem dX11_forcedFrom_91 : decode cX11_forcedFrom 91 = .ok (.getfield 7, 3) := by decide +kernel
theorem dX11_forcedFrom_94 : decode cX11_forcedFrom 94 = .ok (.iconst 3, 1) := by decide +kernel
theorem dX11_forcedFrom_95 : decode cX11_forcedFrom 95 = .ok (.iaload, 1) := by decide +kernel
theorem dX11_forcedFrom_96 : decode cX11_forcedFrom 96 = .ok (.if_icmp .ge 120, 3) := by decide +kernel
theorem dX11_forcedFrom_99 : decode cX11_forcedFrom 99 = .ok (.aload_n 0, 1) := by decide +kernel
theorem dX11_forcedFrom_100 : decode cX11_forcedFrom 100 = .ok (.iconst (-1), 1) := by decide +kernel
theorem dX11_forcedFrom_101 : decode cX11_forcedFrom 101 = .ok (.invokevirtual 239, 3) := by decide +kernel
theorem dX11_forcedFrom_104 : decode cX11_forcedFrom 104 = .ok (.istore 8, 2) := by decide +kernel
theorem dX11_forcedFrom_106 : decode cX11_forcedFrom 106 = .ok (.iload 8, 2) := by decide +kernel
theorem dX11_forcedFrom_108 : decode cX11_forcedFrom 108 = .ok (.bipush 99, 2) := by decide +kernel
theorem dX11_forcedFrom_110 : decode cX11_forcedFrom 110 = .ok (.if_icmp .gt 100, 3) := by decide +kernel
theorem dX11_forcedFrom_113 : decode cX11_forcedFrom 113 = .ok (.aload_n 0, 1) := by decide +kernel
theorem dX11_forcedFrom_114 : decode cX11_forcedFrom 114 = .ok (.iload_n 1, 1) := by decide +kernel
theorem dX11_forcedFrom_115 : decode cX11_forcedFrom 115 = .ok (.iload_n 2, 1) := by decide +kernel
theorem dX11_forcedFrom_116 : decode cX11_forcedFrom 116 = .ok (.iload 7, 2) := by decide +kernel
theorem dX11_forcedFrom_118 : decode cX11_forcedFrom 118 = .ok (.iload 8, 2) := by decide +kernel
theorem dX11_forcedFrom_120 : decode cX11_forcedFrom 120 = .ok (.invokevirtual 268, 3) := by decide +kernel
theorem dX11_forcedFrom_123 : decode cX11_forcedFrom 123 = .ok (.ifCond .eq 76, 3) := by decide +kernel
theorem dX11_forcedFrom_126 : decode cX11_forcedFrom 126 = .ok (.aload_n 0, 1) := by decide +kernel
theorem dX11_forcedFrom_127 : decode cX11_forcedFrom 127 = .ok (.iload 8, 2) := by decide +kernel
theorem dX11_forcedFrom_129 : decode cX11_forcedFrom 129 = .ok (.iload 7, 2) := by decide +kernel
theorem dX11_forcedFrom_131 : decode cX11_forcedFrom 131 = .ok (.iload_n 3, 1) := by decide +kernel
theorem dX11_forcedFrom_132 : decode cX11_forcedFrom 132 = .ok (.invokevirtual 392, 3) := by decide +kernel
theorem dX11_forcedFrom_135 : decode cX11_forcedFrom 135 = .ok (.ifCond .ne 6, 3) := by decide +kernel
theorem dX11_forcedFrom_138 : decode cX11_forcedFrom 138 = .ok (.goto 61, 3) := by decide +kernel
theorem dX11_forcedFrom_141 : decode cX11_forcedFrom 141 = .ok (.aload_n 0, 1) := by decide +kernel
theorem dX11_forcedFrom_142 : decode cX11_forcedFrom 142 = .ok (.iload_n 2, 1) := by decide +kernel
theorem dX11_forcedFrom_143 : decode cX11_forcedFrom 143 = .ok (.iload 4, 2) := by decide +kernel
theorem dX11_forcedFrom_145 : decode cX11_forcedFrom 145 = .ok (.iload 7, 2) := by decide +kernel
theorem dX11_forcedFrom_147 : decode cX11_forcedFrom 147 = .ok (.iload 8, 2) := by decide +kernel
theorem dX11_forcedFrom_149 : decode cX11_forcedFrom 149 = .ok (.invokevirtual 271, 3) := by decide +kernel
theorem dX11_forcedFrom_152 : decode cX11_forcedFrom 152 = .ok (.aload_n 0, 1) := by decide +kernel
theorem dX11_forcedFrom_153 : decode cX11_forcedFrom 153 = .ok (.getfield 248, 3) := by decide +kernel
theorem dX11_forcedFrom_156 : decode cX11_forcedFrom 156 = .ok (.istore 9, 2) := by decide +kernel
theorem dX11_forcedFrom_158 : decode cX11_forcedFrom 158 = .ok (.iload 6, 2) := by decide +kernel
theorem dX11_forcedFrom_160 : decode cX11_forcedFrom 160 = .ok (.iload 9, 2) := by decide +kernel
theorem dX11_forcedFrom_162 : decode cX11_forcedFrom 162 = .ok (.aload_n 0, 1) := by decide +kernel
theorem dX11_forcedFrom_163 : decode cX11_forcedFrom 163 = .ok (.iload_n 1, 1) := by decide +kernel
theorem dX11_forcedFrom_164 : decode cX11_forcedFrom 164 = .ok (.aload_n 0, 1) := by decide +kernel
theorem dX11_forcedFrom_165 : decode cX11_forcedFrom 165 = .ok (.iload 8, 2) := by decide +kernel
theorem dX11_forcedFrom_167 : decode cX11_forcedFrom 167 = .ok (.iload 7, 2) := by decide +kernel
theorem dX11_forcedFrom_169 : decode cX11_forcedFrom 169 = .ok (.invokevirtual 245, 3) := by decide +kernel
theorem dX11_forcedFrom_172 : decode cX11_forcedFrom 172 = .ok (.ior, 1) := by decide +kernel
theorem dX11_forcedFrom_173 : decode cX11_forcedFrom 173 = .ok (.iload 7, 2) := by decide +kernel
theorem dX11_forcedFrom_175 : decode cX11_forcedFrom 175 = .ok (.aload_n 0, 1) := by decide +kernel
theorem dX11_forcedFrom_176 : decode cX11_forcedFrom 176 = .ok (.iload 8, 2) := by decide +kernel
theorem dX11_forcedFrom_178 : decode cX11_forcedFrom 178 = .ok (.invokevirtual 236, 3) := by decide +kernel
theorem dX11_forcedFrom_181 : decode cX11_forcedFrom 181 = .ok (.iadd, 1) := by decide +kernel
theorem dX11_forcedFrom_182 : decode cX11_forcedFrom 182 = .ok (.iload_n 3, 1) := by decide +kernel
theorem dX11_forcedFrom_183 : decode cX11_forcedFrom 183 = .ok (.aload_n 0, 1) := by decide +kernel
theorem dX11_forcedFrom_184 : decode cX11_forcedFrom 184 = .ok (.iload 8, 2) := by decide +kernel
theorem dX11_forcedFrom_186 : decode cX11_forcedFrom 186 = .ok (.invokevirtual 254, 3) := by decide +kernel
theorem dX11_forcedFrom_189 : decode cX11_forcedFrom 189 = .ok (.iadd, 1) := by decide +kernel
theorem dX11_forcedFrom_190 : decode cX11_forcedFrom 190 = .ok (.invokevirtual 395, 3) := by decide +kernel
theorem dX11_forcedFrom_193 : decode cX11_forcedFrom 193 = .ok (.iadd, 1) := by decide +kernel
theorem dX11_forcedFrom_194 : decode cX11_forcedFrom 194 = .ok (.invokestatic 278, 3) := by decide +kernel
theorem dX11_forcedFrom_197 : decode cX11_forcedFrom 197 = .ok (.istore 6, 2) := by decide +kernel
theorem dX11_forcedFrom_199 : decode cX11_forcedFrom 199 = .ok (.aload_n 0, 1) := by decide +kernel
theorem dX11_forcedFrom_200 : decode cX11_forcedFrom 200 = .ok (.iload 8, 2) := by decide +kernel
theorem dX11_forcedFrom_202 : decode cX11_forcedFrom 202 = .ok (.invokevirtual 239, 3) := by decide +kernel
theorem dX11_forcedFrom_205 : decode cX11_forcedFrom 205 = .ok (.istore 8, 2) := by decide +kernel
theorem dX11_forcedFrom_207 : decode cX11_forcedFrom 207 = .ok (.goto (-101), 3) := by decide +kernel
theorem dX11_forcedFrom_210 : decode cX11_forcedFrom 210 = .ok (.iinc 7 1, 3) := by decide +kernel
theorem dX11_forcedFrom_213 : decode cX11_forcedFrom 213 = .ok (.goto (-125), 3) := by decide +kernel
theorem dX11_forcedFrom_216 : decode cX11_forcedFrom 216 = .ok (.aload_n 0, 1) := by decide +kernel
theorem dX11_forcedFrom_217 : decode cX11_forcedFrom 217 = .ok (.getfield 88, 3) := by decide +kernel
theorem dX11_forcedFrom_220 : decode cX11_forcedFrom 220 = .ok (.iload 5, 2) := by decide +kernel
theorem dX11_forcedFrom_222 : decode cX11_forcedFrom 222 = .ok (.iload 6, 2) := by decide +kernel
theorem dX11_forcedFrom_224 : decode cX11_forcedFrom 224 = .ok (.ldc_w 267, 3) := by decide +kernel
theorem dX11_forcedFrom_227 : decode cX11_forcedFrom 227 = .ok (.invokestatic 278, 3) := by decide +kernel
theorem dX11_forcedFrom_230 : decode cX11_forcedFrom 230 = .ok (.iastore, 1) := by decide +kernel
theorem dX11_forcedFrom_231 : decode cX11_forcedFrom 231 = .ok (.aload_n 0, 1) := by decide +kernel
theorem dX11_forcedFrom_232 : decode cX11_forcedFrom 232 = .ok (.getfield 88, 3) := by decide +kernel
theorem dX11_forcedFrom_235 : decode cX11_forcedFrom 235 = .ok (.iload 5, 2) := by decide +kernel
theorem dX11_forcedFrom_237 : decode cX11_forcedFrom 237 = .ok (.iaload, 1) := by decide +kernel
theorem dX11_forcedFrom_238 : decode cX11_forcedFrom 238 = .ok (.ireturn, 1) := by decide +kernel
theorem dX11_forced_0 : decode cX11_forced 0 = .ok (.aload_n 0, 1) := by decide +kernel
theorem dX11_forced_1 : decode cX11_forced 1 = .ok (.invokevirtual 398, 3) := by decide +kernel
theorem dX11_forced_4 : decode cX11_forced 4 = .ok (.ifCond .ne 5, 3) := by decide +kernel
theorem dX11_forced_7 : decode cX11_forced 7 = .ok (.iconst 0, 1) := by decide +kernel
theorem dX11_forced_8 : decode cX11_forced 8 = .ok (.ireturn, 1) := by decide +kernel
theorem dX11_forced_9 : decode cX11_forced 9 = .ok (.iconst 0, 1) := by decide +kernel
theorem dX11_forced_10 : decode cX11_forced 10 = .ok (.istore_n 1, 1) := by decide +kernel
theorem dX11_forced_11 : decode cX11_forced 11 = .ok (.iload_n 1, 1) := by decide +kernel
theorem dX11_forced_12 : decode cX11_forced 12 = .ok (.sipush 8512, 3) := by decide +kernel
theorem dX11_forced_15 : decode cX11_forced 15 = .ok (.if_icmp .ge 16, 3) := by decide +kernel
theorem dX11_forced_18 : decode cX11_forced 18 = .ok (.aload_n 0, 1) := by decide +kernel
theorem dX11_forced_19 : decode cX11_forced 19 = .ok (.getfield 88, 3) := by decide +kernel
theorem dX11_forced_22 : decode cX11_forced 22 = .ok (.iload_n 1, 1) := by decide +kernel
theorem dX11_forced_23 : decode cX11_forced 23 = .ok (.iconst (-1), 1) := by decide +kernel
theorem dX11_forced_24 : decode cX11_forced 24 = .ok (.iastore, 1) := by decide +kernel
theorem dX11_forced_25 : decode cX11_forced 25 = .ok (.iinc 1 1, 3) := by decide +kernel
theorem dX11_forced_28 : decode cX11_forced 28 = .ok (.goto (-17), 3) := by decide +kernel
theorem dX11_forced_31 : decode cX11_forced 31 = .ok (.aload_n 0, 1) := by decide +kernel
theorem dX11_forced_32 : decode cX11_forced 32 = .ok (.iconst 0, 1) := by decide +kernel
theorem dX11_forced_33 : decode cX11_forced 33 = .ok (.iconst 0, 1) := by decide +kernel
theorem dX11_forced_34 : decode cX11_forced 34 = .ok (.iconst 0, 1) := by decide +kernel
theorem dX11_forced_35 : decode cX11_forced 35 = .ok (.invokevirtual 395, 3) := by decide +kernel
theorem dX11_forced_38 : decode cX11_forced 38 = .ok (.istore_n 1, 1) := by decide +kernel
theorem dX11_forced_39 : decode cX11_forced 39 = .ok (.iload_n 1, 1) := by decide +kernel
theorem dX11_forced_40 : decode cX11_forced 40 = .ok (.ldc_w 267, 3) := by decide +kernel
theorem dX11_forced_43 : decode cX11_forced 43 = .ok (.if_icmp .ne 7, 3) := by decide +kernel
theorem dX11_forced_46 : decode cX11_forced 46 = .ok (.iconst (-1), 1) := by decide +kernel
theorem dX11_forced_47 : decode cX11_forced 47 = .ok (.goto 4, 3) := by decide +kernel
theorem dX11_forced_50 : decode cX11_forced 50 = .ok (.iload_n 1, 1) := by decide +kernel
theorem dX11_forced_51 : decode cX11_forced 51 = .ok (.ireturn, 1) := by decide +kernel
theorem dX11_apart_0 : decode cX11_apart 0 = .ok (.iconst 0, 1) := by decide +kernel
theorem dX11_apart_1 : decode cX11_apart 1 = .ok (.istore 7, 2) := by decide +kernel
theorem dX11_apart_3 : decode cX11_apart 3 = .ok (.iload 7, 2) := by decide +kernel
theorem dX11_apart_5 : decode cX11_apart 5 = .ok (.iload_n 3, 1) := by decide +kernel
theorem dX11_apart_6 : decode cX11_apart 6 = .ok (.if_icmp .gt 158, 3) := by decide +kernel
theorem dX11_apart_9 : decode cX11_apart 9 = .ok (.iconst 0, 1) := by decide +kernel
theorem dX11_apart_10 : decode cX11_apart 10 = .ok (.istore 8, 2) := by decide +kernel
theorem dX11_apart_12 : decode cX11_apart 12 = .ok (.iload 8, 2) := by decide +kernel
theorem dX11_apart_14 : decode cX11_apart 14 = .ok (.iload 6, 2) := by decide +kernel
theorem dX11_apart_16 : decode cX11_apart 16 = .ok (.if_icmp .gt 142, 3) := by decide +kernel
theorem dX11_apart_19 : decode cX11_apart 19 = .ok (.iload 7, 2) := by decide +kernel
theorem dX11_apart_21 : decode cX11_apart 21 = .ok (.ifCond .ne 8, 3) := by decide +kernel
theorem dX11_apart_24 : decode cX11_apart 24 = .ok (.iload 8, 2) := by decide +kernel
theorem dX11_apart_26 : decode cX11_apart 26 = .ok (.goto 57, 3) := by decide +kernel
theorem dX11_apart_29 : decode cX11_apart 29 = .ok (.iload 8, 2) := by decide +kernel
theorem dX11_apart_31 : decode cX11_apart 31 = .ok (.ifCond .ne 8, 3) := by decide +kernel
theorem dX11_apart_34 : decode cX11_apart 34 = .ok (.iload 7, 2) := by decide +kernel
theorem dX11_apart_36 : decode cX11_apart 36 = .ok (.goto 47, 3) := by decide +kernel
theorem dX11_apart_39 : decode cX11_apart 39 = .ok (.aload_n 0, 1) := by decide +kernel
theorem dX11_apart_40 : decode cX11_apart 40 = .ok (.getfield 91, 3) := by decide +kernel
theorem dX11_apart_43 : decode cX11_apart 43 = .ok (.bipush 19, 2) := by decide +kernel
theorem dX11_apart_45 : decode cX11_apart 45 = .ok (.iload 7, 2) := by decide +kernel
theorem dX11_apart_47 : decode cX11_apart 47 = .ok (.iconst 1, 1) := by decide +kernel
theorem dX11_apart_48 : decode cX11_apart 48 = .ok (.isub, 1) := by decide +kernel
theorem dX11_apart_49 : decode cX11_apart 49 = .ok (.imul, 1) := by decide +kernel
theorem dX11_apart_50 : decode cX11_apart 50 = .ok (.iload 8, 2) := by decide +kernel
theorem dX11_apart_52 : decode cX11_apart 52 = .ok (.iadd, 1) := by decide +kernel
theorem dX11_apart_53 : decode cX11_apart 53 = .ok (.iconst 1, 1) := by decide +kernel
theorem dX11_apart_54 : decode cX11_apart 54 = .ok (.isub, 1) := by decide +kernel
theorem dX11_apart_55 : decode cX11_apart 55 = .ok (.iaload, 1) := by decide +kernel
theorem dX11_apart_56 : decode cX11_apart 56 = .ok (.aload_n 1, 1) := by decide +kernel
theorem dX11_apart_57 : decode cX11_apart 57 = .ok (.iload_n 2, 1) := by decide +kernel
theorem dX11_apart_58 : decode cX11_apart 58 = .ok (.iload 7, 2) := by decide +kernel
theorem dX11_apart_60 : decode cX11_apart 60 = .ok (.iadd, 1) := by decide +kernel
theorem dX11_apart_61 : decode cX11_apart 61 = .ok (.iconst 1, 1) := by decide +kernel
theorem dX11_apart_62 : decode cX11_apart 62 = .ok (.isub, 1) := by decide +kernel
theorem dX11_apart_63 : decode cX11_apart 63 = .ok (.iaload, 1) := by decide +kernel
theorem dX11_apart_64 : decode cX11_apart 64 = .ok (.aload 4, 2) := by decide +kernel
theorem dX11_apart_66 : decode cX11_apart 66 = .ok (.iload 5, 2) := by decide +kernel
theorem dX11_apart_68 : decode cX11_apart 68 = .ok (.iload 8, 2) := by decide +kernel
theorem dX11_apart_70 : decode cX11_apart 70 = .ok (.iadd, 1) := by decide +kernel
theorem dX11_apart_71 : decode cX11_apart 71 = .ok (.iconst 1, 1) := by decide +kernel
theorem dX11_apart_72 : decode cX11_apart 72 = .ok (.isub, 1) := by decide +kernel
theorem dX11_apart_73 : decode cX11_apart 73 = .ok (.iaload, 1) := by decide +kernel
theorem dX11_apart_74 : decode cX11_apart 74 = .ok (.if_icmp .ne 7, 3) := by decide +kernel
theorem dX11_apart_77 : decode cX11_apart 77 = .ok (.iconst 0, 1) := by decide +kernel
theorem dX11_apart_78 : decode cX11_apart 78 = .ok (.goto 4, 3) := by decide +kernel
theorem dX11_apart_81 : decode cX11_apart 81 = .ok (.iconst 1, 1) := by decide +kernel
theorem dX11_apart_82 : decode cX11_apart 82 = .ok (.iadd, 1) := by decide +kernel
theorem dX11_apart_83 : decode cX11_apart 83 = .ok (.istore 9, 2) := by decide +kernel
theorem dX11_apart_85 : decode cX11_apart 85 = .ok (.iload 7, 2) := by decide +kernel
theorem dX11_apart_87 : decode cX11_apart 87 = .ok (.ifCond .le 50, 3) := by decide +kernel
theorem dX11_apart_90 : decode cX11_apart 90 = .ok (.iload 8, 2) := by decide +kernel
theorem dX11_apart_92 : decode cX11_apart 92 = .ok (.ifCond .le 45, 3) := by decide +kernel
theorem dX11_apart_95 : decode cX11_apart 95 = .ok (.iload 9, 2) := by decide +kernel
theorem dX11_apart_97 : decode cX11_apart 97 = .ok (.iconst 1, 1) := by decide +kernel
theorem dX11_apart_98 : decode cX11_apart 98 = .ok (.aload_n 0, 1) := by decide +kernel
theorem dX11_apart_99 : decode cX11_apart 99 = .ok (.getfield 91, 3) := by decide +kernel
theorem dX11_apart_102 : decode cX11_apart 102 = .ok (.bipush 19, 2) := by decide +kernel
theorem dX11_apart_104 : decode cX11_apart 104 = .ok (.iload 7, 2) := by decide +kernel
theorem dX11_apart_106 : decode cX11_apart 106 = .ok (.iconst 1, 1) := by decide +kernel
theorem dX11_apart_107 : decode cX11_apart 107 = .ok (.isub, 1) := by decide +kernel
theorem dX11_apart_108 : decode cX11_apart 108 = .ok (.imul, 1) := by decide +kernel
theorem dX11_apart_109 : decode cX11_apart 109 = .ok (.iload 8, 2) := by decide +kernel
theorem dX11_apart_111 : decode cX11_apart 111 = .ok (.iadd, 1) := by decide +kernel
theorem dX11_apart_112 : decode cX11_apart 112 = .ok (.iaload, 1) := by decide +kernel
theorem dX11_apart_113 : decode cX11_apart 113 = .ok (.aload_n 0, 1) := by decide +kernel
theorem dX11_apart_114 : decode cX11_apart 114 = .ok (.getfield 91, 3) := by decide +kernel
theorem dX11_apart_117 : decode cX11_apart 117 = .ok (.bipush 19, 2) := by decide +kernel
theorem dX11_apart_119 : decode cX11_apart 119 = .ok (.iload 7, 2) := by decide +kernel
theorem dX11_apart_121 : decode cX11_apart 121 = .ok (.imul, 1) := by decide +kernel
theorem dX11_apart_122 : decode cX11_apart 122 = .ok (.iload 8, 2) := by decide +kernel
theorem dX11_apart_124 : decode cX11_apart 124 = .ok (.iadd, 1) := by decide +kernel
theorem dX11_apart_125 : decode cX11_apart 125 = .ok (.iconst 1, 1) := by decide +kernel
theorem dX11_apart_126 : decode cX11_apart 126 = .ok (.isub, 1) := by decide +kernel
theorem dX11_apart_127 : decode cX11_apart 127 = .ok (.iaload, 1) := by decide +kernel
theorem dX11_apart_128 : decode cX11_apart 128 = .ok (.invokestatic 278, 3) := by decide +kernel
theorem dX11_apart_131 : decode cX11_apart 131 = .ok (.iadd, 1) := by decide +kernel
theorem dX11_apart_132 : decode cX11_apart 132 = .ok (.invokestatic 278, 3) := by decide +kernel
theorem dX11_apart_135 : decode cX11_apart 135 = .ok (.istore 9, 2) := by decide +kernel
theorem dX11_apart_137 : decode cX11_apart 137 = .ok (.aload_n 0, 1) := by decide +kernel
theorem dX11_apart_138 : decode cX11_apart 138 = .ok (.getfield 91, 3) := by decide +kernel
theorem dX11_apart_141 : decode cX11_apart 141 = .ok (.bipush 19, 2) := by decide +kernel
theorem dX11_apart_143 : decode cX11_apart 143 = .ok (.iload 7, 2) := by decide +kernel
theorem dX11_apart_145 : decode cX11_apart 145 = .ok (.imul, 1) := by decide +kernel
theorem dX11_apart_146 : decode cX11_apart 146 = .ok (.iload 8, 2) := by decide +kernel
theorem dX11_apart_148 : decode cX11_apart 148 = .ok (.iadd, 1) := by decide +kernel
theorem dX11_apart_149 : decode cX11_apart 149 = .ok (.iload 9, 2) := by decide +kernel
theorem dX11_apart_151 : decode cX11_apart 151 = .ok (.iastore, 1) := by decide +kernel
theorem dX11_apart_152 : decode cX11_apart 152 = .ok (.iinc 8 1, 3) := by decide +kernel
theorem dX11_apart_155 : decode cX11_apart 155 = .ok (.goto (-143), 3) := by decide +kernel
theorem dX11_apart_158 : decode cX11_apart 158 = .ok (.iinc 7 1, 3) := by decide +kernel
theorem dX11_apart_161 : decode cX11_apart 161 = .ok (.goto (-158), 3) := by decide +kernel
theorem dX11_apart_164 : decode cX11_apart 164 = .ok (.aload_n 0, 1) := by decide +kernel
theorem dX11_apart_165 : decode cX11_apart 165 = .ok (.getfield 91, 3) := by decide +kernel
theorem dX11_apart_168 : decode cX11_apart 168 = .ok (.bipush 19, 2) := by decide +kernel
theorem dX11_apart_170 : decode cX11_apart 170 = .ok (.iload_n 3, 1) := by decide +kernel
theorem dX11_apart_171 : decode cX11_apart 171 = .ok (.imul, 1) := by decide +kernel
theorem dX11_apart_172 : decode cX11_apart 172 = .ok (.iload 6, 2) := by decide +kernel
theorem dX11_apart_174 : decode cX11_apart 174 = .ok (.iadd, 1) := by decide +kernel
theorem dX11_apart_175 : decode cX11_apart 175 = .ok (.iaload, 1) := by decide +kernel
theorem dX11_apart_176 : decode cX11_apart 176 = .ok (.ireturn, 1) := by decide +kernel
theorem dX11_nearTold_0 : decode cX11_nearTold 0 = .ok (.aload_n 0, 1) := by decide +kernel
theorem dX11_nearTold_1 : decode cX11_nearTold 1 = .ok (.iconst 0, 1) := by decide +kernel
theorem dX11_nearTold_2 : decode cX11_nearTold 2 = .ok (.invokevirtual 323, 3) := by decide +kernel
theorem dX11_nearTold_5 : decode cX11_nearTold 5 = .ok (.istore_n 1, 1) := by decide +kernel
theorem dX11_nearTold_6 : decode cX11_nearTold 6 = .ok (.aload_n 0, 1) := by decide +kernel
theorem dX11_nearTold_7 : decode cX11_nearTold 7 = .ok (.aload_n 0, 1) := by decide +kernel
theorem dX11_nearTold_8 : decode cX11_nearTold 8 = .ok (.getfield 54, 3) := by decide +kernel
theorem dX11_nearTold_11 : decode cX11_nearTold 11 = .ok (.iconst 0, 1) := by decide +kernel
theorem dX11_nearTold_12 : decode cX11_nearTold 12 = .ok (.aload_n 0, 1) := by decide +kernel
theorem dX11_nearTold_13 : decode cX11_nearTold 13 = .ok (.getfield 317, 3) := by decide +kernel
theorem dX11_nearTold_16 : decode cX11_nearTold 16 = .ok (.aload_n 0, 1) := by decide +kernel
theorem dX11_nearTold_17 : decode cX11_nearTold 17 = .ok (.getfield 32, 3) := by decide +kernel
theorem dX11_nearTold_20 : decode cX11_nearTold 20 = .ok (.iconst 0, 1) := by decide +kernel
theorem dX11_nearTold_21 : decode cX11_nearTold 21 = .ok (.aload_n 0, 1) := by decide +kernel
theorem dX11_nearTold_22 : decode cX11_nearTold 22 = .ok (.getfield 119, 3) := by decide +kernel
theorem dX11_nearTold_25 : decode cX11_nearTold 25 = .ok (.invokevirtual 401, 3) := by decide +kernel
theorem dX11_nearTold_28 : decode cX11_nearTold 28 = .ok (.ireturn, 1) := by decide +kernel
theorem dX11_near_0 : decode cX11_near 0 = .ok (.aload_n 0, 1) := by decide +kernel
theorem dX11_near_1 : decode cX11_near 1 = .ok (.invokevirtual 398, 3) := by decide +kernel
theorem dX11_near_4 : decode cX11_near 4 = .ok (.ifCond .eq 10, 3) := by decide +kernel
theorem dX11_near_7 : decode cX11_near 7 = .ok (.aload_n 0, 1) := by decide +kernel
theorem dX11_near_8 : decode cX11_near 8 = .ok (.invokevirtual 405, 3) := by decide +kernel
theorem dX11_near_11 : decode cX11_near 11 = .ok (.goto 4, 3) := by decide +kernel
theorem dX11_near_14 : decode cX11_near 14 = .ok (.iconst 0, 1) := by decide +kernel
theorem dX11_near_15 : decode cX11_near 15 = .ok (.ireturn, 1) := by decide +kernel
theorem dX11_areAlike_0 : decode cX11_areAlike 0 = .ok (.iconst 0, 1) := by decide +kernel
theorem dX11_areAlike_1 : decode cX11_areAlike 1 = .ok (.istore 5, 2) := by decide +kernel
theorem dX11_areAlike_3 : decode cX11_areAlike 3 = .ok (.iload 5, 2) := by decide +kernel
theorem dX11_areAlike_5 : decode cX11_areAlike 5 = .ok (.iload 4, 2) := by decide +kernel
theorem dX11_areAlike_7 : decode cX11_areAlike 7 = .ok (.if_icmp .ge 26, 3) := by decide +kernel
theorem dX11_areAlike_10 : decode cX11_areAlike 10 = .ok (.aload_n 0, 1) := by decide +kernel
theorem dX11_areAlike_11 : decode cX11_areAlike 11 = .ok (.iload_n 1, 1) := by decide +kernel
theorem dX11_areAlike_12 : decode cX11_areAlike 12 = .ok (.iload 5, 2) := by decide +kernel
theorem dX11_areAlike_14 : decode cX11_areAlike 14 = .ok (.iadd, 1) := by decide +kernel
theorem dX11_areAlike_15 : decode cX11_areAlike 15 = .ok (.iaload, 1) := by decide +kernel
theorem dX11_areAlike_16 : decode cX11_areAlike 16 = .ok (.aload_n 2, 1) := by decide +kernel
theorem dX11_areAlike_17 : decode cX11_areAlike 17 = .ok (.iload_n 3, 1) := by decide +kernel
theorem dX11_areAlike_18 : decode cX11_areAlike 18 = .ok (.iload 5, 2) := by decide +kernel
theorem dX11_areAlike_20 : decode cX11_areAlike 20 = .ok (.iadd, 1) := by decide +kernel
theorem dX11_areAlike_21 : decode cX11_areAlike 21 = .ok (.iaload, 1) := by decide +kernel
theorem dX11_areAlike_22 : decode cX11_areAlike 22 = .ok (.if_icmp .eq 5, 3) := by decide +kernel
theorem dX11_areAlike_25 : decode cX11_areAlike 25 = .ok (.iconst 0, 1) := by decide +kernel
theorem dX11_areAlike_26 : decode cX11_areAlike 26 = .ok (.ireturn, 1) := by decide +kernel
theorem dX11_areAlike_27 : decode cX11_areAlike 27 = .ok (.iinc 5 1, 3) := by decide +kernel
theorem dX11_areAlike_30 : decode cX11_areAlike 30 = .ok (.goto (-27), 3) := by decide +kernel
theorem dX11_areAlike_33 : decode cX11_areAlike 33 = .ok (.iconst 1, 1) := by decide +kernel
theorem dX11_areAlike_34 : decode cX11_areAlike 34 = .ok (.ireturn, 1) := by decide +kernel
theorem dX11_times_0 : decode cX11_times 0 = .ok (.iconst 0, 1) := by decide +kernel
theorem dX11_times_1 : decode cX11_times 1 = .ok (.istore 5, 2) := by decide +kernel
theorem dX11_times_3 : decode cX11_times 3 = .ok (.iconst 0, 1) := by decide +kernel
theorem dX11_times_4 : decode cX11_times 4 = .ok (.istore 6, 2) := by decide +kernel
theorem dX11_times_6 : decode cX11_times 6 = .ok (.iload 6, 2) := by decide +kernel
theorem dX11_times_8 : decode cX11_times 8 = .ok (.iload 4, 2) := by decide +kernel
theorem dX11_times_10 : decode cX11_times 10 = .ok (.iadd, 1) := by decide +kernel
theorem dX11_times_11 : decode cX11_times 11 = .ok (.iload_n 1, 1) := by decide +kernel
theorem dX11_times_12 : decode cX11_times 12 = .ok (.if_icmp .gt 32, 3) := by decide +kernel
theorem dX11_times_15 : decode cX11_times 15 = .ok (.iload 5, 2) := by decide +kernel
theorem dX11_times_17 : decode cX11_times 17 = .ok (.aload_n 0, 1) := by decide +kernel
theorem dX11_times_18 : decode cX11_times 18 = .ok (.iload 6, 2) := by decide +kernel
theorem dX11_times_20 : decode cX11_times 20 = .ok (.aload_n 2, 1) := by decide +kernel
theorem dX11_times_21 : decode cX11_times 21 = .ok (.iload_n 3, 1) := by decide +kernel
theorem dX11_times_22 : decode cX11_times 22 = .ok (.iload 4, 2) := by decide +kernel
theorem dX11_times_24 : decode cX11_times 24 = .ok (.invokestatic 408, 3) := by decide +kernel
theorem dX11_times_27 : decode cX11_times 27 = .ok (.ifCond .eq 7, 3) := by decide +kernel
theorem dX11_times_30 : decode cX11_times 30 = .ok (.iconst 1, 1) := by decide +kernel
theorem dX11_times_31 : decode cX11_times 31 = .ok (.goto 4, 3) := by decide +kernel
theorem dX11_times_34 : decode cX11_times 34 = .ok (.iconst 0, 1) := by decide +kernel
theorem dX11_times_35 : decode cX11_times 35 = .ok (.iadd, 1) := by decide +kernel
theorem dX11_times_36 : decode cX11_times 36 = .ok (.istore 5, 2) := by decide +kernel
theorem dX11_times_38 : decode cX11_times 38 = .ok (.iinc 6 1, 3) := by decide +kernel
theorem dX11_times_41 : decode cX11_times 41 = .ok (.goto (-35), 3) := by decide +kernel
theorem dX11_times_44 : decode cX11_times 44 = .ok (.iload 5, 2) := by decide +kernel
theorem dX11_times_46 : decode cX11_times 46 = .ok (.ireturn, 1) := by decide +kernel
theorem dX11_match_0 : decode cX11_match 0 = .ok (.iload_n 1, 1) := by decide +kernel
theorem dX11_match_1 : decode cX11_match 1 = .ok (.iconst 1, 1) := by decide +kernel
theorem dX11_match_2 : decode cX11_match 2 = .ok (.iconst 3, 1) := by decide +kernel
theorem dX11_match_3 : decode cX11_match 3 = .ok (.invokestatic 103, 3) := by decide +kernel
theorem dX11_match_6 : decode cX11_match 6 = .ok (.ifCond .ne 15, 3) := by decide +kernel
theorem dX11_match_9 : decode cX11_match 9 = .ok (.aload_n 0, 1) := by decide +kernel
theorem dX11_match_10 : decode cX11_match 10 = .ok (.iconst 1, 1) := by decide +kernel
theorem dX11_match_11 : decode cX11_match 11 = .ok (.putfield 100, 3) := by decide +kernel
theorem dX11_match_14 : decode cX11_match 14 = .ok (.aload_n 0, 1) := by decide +kernel
theorem dX11_match_15 : decode cX11_match 15 = .ok (.iconst 0, 1) := by decide +kernel
theorem dX11_match_16 : decode cX11_match 16 = .ok (.putfield 107, 3) := by decide +kernel
theorem dX11_match_19 : decode cX11_match 19 = .ok (.iconst 0, 1) := by decide +kernel
theorem dX11_match_20 : decode cX11_match 20 = .ok (.ireturn, 1) := by decide +kernel
theorem dX11_match_21 : decode cX11_match 21 = .ok (.aload_n 0, 1) := by decide +kernel
theorem dX11_match_22 : decode cX11_match 22 = .ok (.invokevirtual 398, 3) := by decide +kernel
theorem dX11_match_25 : decode cX11_match 25 = .ok (.ifCond .ne 5, 3) := by decide +kernel
theorem dX11_match_28 : decode cX11_match 28 = .ok (.iconst 0, 1) := by decide +kernel
theorem dX11_match_29 : decode cX11_match 29 = .ok (.ireturn, 1) := by decide +kernel
theorem dX11_match_30 : decode cX11_match 30 = .ok (.aload_n 0, 1) := by decide +kernel
theorem dX11_match_31 : decode cX11_match 31 = .ok (.iconst 0, 1) := by decide +kernel
theorem dX11_match_32 : decode cX11_match 32 = .ok (.invokevirtual 323, 3) := by decide +kernel
theorem dX11_match_35 : decode cX11_match 35 = .ok (.istore_n 2, 1) := by decide +kernel
theorem dX11_match_36 : decode cX11_match 36 = .ok (.iconst 0, 1) := by decide +kernel
theorem dX11_match_37 : decode cX11_match 37 = .ok (.istore_n 3, 1) := by decide +kernel
theorem dX11_match_38 : decode cX11_match 38 = .ok (.iconst 0, 1) := by decide +kernel
theorem dX11_match_39 : decode cX11_match 39 = .ok (.istore 4, 2) := by decide +kernel
theorem dX11_match_41 : decode cX11_match 41 = .ok (.iload 4, 2) := by decide +kernel
theorem dX11_match_43 : decode cX11_match 43 = .ok (.iload_n 1, 1) := by decide +kernel
theorem dX11_match_44 : decode cX11_match 44 = .ok (.iadd, 1) := by decide +kernel
theorem dX11_match_45 : decode cX11_match 45 = .ok (.aload_n 0, 1) := by decide +kernel
theorem dX11_match_46 : decode cX11_match 46 = .ok (.getfield 317, 3) := by decide +kernel
theorem dX11_match_49 : decode cX11_match 49 = .ok (.if_icmp .gt 106, 3) := by decide +kernel
theorem dX11_match_52 : decode cX11_match 52 = .ok (.iconst 1, 1) := by decide +kernel
theorem dX11_match_53 : decode cX11_match 53 = .ok (.istore 5, 2) := by decide +kernel
theorem dX11_match_55 : decode cX11_match 55 = .ok (.iconst 0, 1) := by decide +kernel
theorem dX11_match_56 : decode cX11_match 56 = .ok (.istore 6, 2) := by decide +kernel
theorem dX11_match_58 : decode cX11_match 58 = .ok (.iload 6, 2) := by decide +kernel
theorem dX11_match_60 : decode cX11_match 60 = .ok (.iload 4, 2) := by decide +kernel
theorem dX11_match_62 : decode cX11_match 62 = .ok (.if_icmp .ge 40, 3) := by decide +kernel
theorem dX11_match_65 : decode cX11_match 65 = .ok (.iload 5, 2) := by decide +kernel
theorem dX11_match_67 : decode cX11_match 67 = .ok (.ifCond .eq 35, 3) := by decide +kernel
theorem dX11_match_70 : decode cX11_match 70 = .ok (.aload_n 0, 1) := by decide +kernel
theorem dX11_match_71 : decode cX11_match 71 = .ok (.getfield 54, 3) := by decide +kernel
theorem dX11_match_74 : decode cX11_match 74 = .ok (.iload 6, 2) := by decide +kernel
theorem dX11_match_76 : decode cX11_match 76 = .ok (.aload_n 0, 1) := by decide +kernel
theorem dX11_match_77 : decode cX11_match 77 = .ok (.getfield 54, 3) := by decide +kernel
theorem dX11_match_80 : decode cX11_match 80 = .ok (.iload 4, 2) := by decide +kernel
theorem dX11_match_82 : decode cX11_match 82 = .ok (.iload_n 1, 1) := by decide +kernel
theorem dX11_match_83 : decode cX11_match 83 = .ok (.invokestatic 408, 3) := by decide +kernel
theorem dX11_match_86 : decode cX11_match 86 = .ok (.ifCond .ne 7, 3) := by decide +kernel
theorem dX11_match_89 : decode cX11_match 89 = .ok (.iconst 1, 1) := by decide +kernel
theorem dX11_match_90 : decode cX11_match 90 = .ok (.goto 4, 3) := by decide +kernel
theorem dX11_match_93 : decode cX11_match 93 = .ok (.iconst 0, 1) := by decide +kernel
theorem dX11_match_94 : decode cX11_match 94 = .ok (.istore 5, 2) := by decide +kernel
theorem dX11_match_96 : decode cX11_match 96 = .ok (.iinc 6 1, 3) := by decide +kernel
theorem dX11_match_99 : decode cX11_match 99 = .ok (.goto (-41), 3) := by decide +kernel
theorem dX11_match_102 : decode cX11_match 102 = .ok (.iload 5, 2) := by decide +kernel
theorem dX11_match_104 : decode cX11_match 104 = .ok (.ifCond .eq 45, 3) := by decide +kernel
theorem dX11_match_107 : decode cX11_match 107 = .ok (.iload_n 3, 1) := by decide +kernel
theorem dX11_match_108 : decode cX11_match 108 = .ok (.aload_n 0, 1) := by decide +kernel
theorem dX11_match_109 : decode cX11_match 109 = .ok (.getfield 54, 3) := by decide +kernel
theorem dX11_match_112 : decode cX11_match 112 = .ok (.aload_n 0, 1) := by decide +kernel
theorem dX11_match_113 : decode cX11_match 113 = .ok (.getfield 317, 3) := by decide +kernel
theorem dX11_match_116 : decode cX11_match 116 = .ok (.aload_n 0, 1) := by decide +kernel
theorem dX11_match_117 : decode cX11_match 117 = .ok (.getfield 54, 3) := by decide +kernel
theorem dX11_match_120 : decode cX11_match 120 = .ok (.iload 4, 2) := by decide +kernel
theorem dX11_match_122 : decode cX11_match 122 = .ok (.iload_n 1, 1) := by decide +kernel
theorem dX11_match_123 : decode cX11_match 123 = .ok (.invokestatic 412, 3) := by decide +kernel
theorem dX11_match_126 : decode cX11_match 126 = .ok (.aload_n 0, 1) := by decide +kernel
theorem dX11_match_127 : decode cX11_match 127 = .ok (.getfield 32, 3) := by decide +kernel
theorem dX11_match_130 : decode cX11_match 130 = .ok (.aload_n 0, 1) := by decide +kernel
theorem dX11_match_131 : decode cX11_match 131 = .ok (.getfield 119, 3) := by decide +kernel
theorem dX11_match_134 : decode cX11_match 134 = .ok (.aload_n 0, 1) := by decide +kernel
theorem dX11_match_135 : decode cX11_match 135 = .ok (.getfield 54, 3) := by decide +kernel
theorem dX11_match_138 : decode cX11_match 138 = .ok (.iload 4, 2) := by decide +kernel
theorem dX11_match_140 : decode cX11_match 140 = .ok (.iload_n 1, 1) := by decide +kernel
theorem dX11_match_141 : decode cX11_match 141 = .ok (.invokestatic 412, 3) := by decide +kernel
theorem dX11_match_144 : decode cX11_match 144 = .ok (.invokestatic 278, 3) := by decide +kernel
theorem dX11_match_147 : decode cX11_match 147 = .ok (.iadd, 1) := by decide +kernel
theorem dX11_match_148 : decode cX11_match 148 = .ok (.istore_n 3, 1) := by decide +kernel
theorem dX11_match_149 : decode cX11_match 149 = .ok (.iinc 4 1, 3) := by decide +kernel
theorem dX11_match_152 : decode cX11_match 152 = .ok (.goto (-111), 3) := by decide +kernel
theorem dX11_match_155 : decode cX11_match 155 = .ok (.iload_n 3, 1) := by decide +kernel
theorem dX11_match_156 : decode cX11_match 156 = .ok (.ireturn, 1) := by decide +kernel
theorem dX11_agreed_0 : decode cX11_agreed 0 = .ok (.aload_n 0, 1) := by decide +kernel
theorem dX11_agreed_1 : decode cX11_agreed 1 = .ok (.iload_n 1, 1) := by decide +kernel
theorem dX11_agreed_2 : decode cX11_agreed 2 = .ok (.iconst 1, 1) := by decide +kernel
theorem dX11_agreed_3 : decode cX11_agreed 3 = .ok (.bipush 10, 2) := by decide +kernel
theorem dX11_agreed_5 : decode cX11_agreed 5 = .ok (.invokestatic 103, 3) := by decide +kernel
theorem dX11_agreed_8 : decode cX11_agreed 8 = .ok (.ifCond .eq 7, 3) := by decide +kernel
theorem dX11_agreed_11 : decode cX11_agreed 11 = .ok (.iconst 0, 1) := by decide +kernel
theorem dX11_agreed_12 : decode cX11_agreed 12 = .ok (.goto 4, 3) := by decide +kernel
theorem dX11_agreed_15 : decode cX11_agreed 15 = .ok (.iconst 1, 1) := by decide +kernel
theorem dX11_agreed_16 : decode cX11_agreed 16 = .ok (.putfield 100, 3) := by decide +kernel
theorem dX11_agreed_19 : decode cX11_agreed 19 = .ok (.aload_n 0, 1) := by decide +kernel
theorem dX11_agreed_20 : decode cX11_agreed 20 = .ok (.getfield 100, 3) := by decide +kernel
theorem dX11_agreed_23 : decode cX11_agreed 23 = .ok (.ifCond .le 5, 3) := by decide +kernel
theorem dX11_agreed_26 : decode cX11_agreed 26 = .ok (.iconst 0, 1) := by decide +kernel
theorem dX11_agreed_27 : decode cX11_agreed 27 = .ok (.ireturn, 1) := by decide +kernel
theorem dX11_agreed_28 : decode cX11_agreed 28 = .ok (.iconst 0, 1) := by decide +kernel
theorem dX11_agreed_29 : decode cX11_agreed 29 = .ok (.istore_n 2, 1) := by decide +kernel
theorem dX11_agreed_30 : decode cX11_agreed 30 = .ok (.iload_n 2, 1) := by decide +kernel
theorem dX11_agreed_31 : decode cX11_agreed 31 = .ok (.iload_n 1, 1) := by decide +kernel
theorem dX11_agreed_32 : decode cX11_agreed 32 = .ok (.if_icmp .ge 60, 3) := by decide +kernel
theorem dX11_agreed_35 : decode cX11_agreed 35 = .ok (.aload_n 0, 1) := by decide +kernel
theorem dX11_agreed_36 : decode cX11_agreed 36 = .ok (.iload_n 2, 1) := by decide +kernel
theorem dX11_agreed_37 : decode cX11_agreed 37 = .ok (.invokevirtual 323, 3) := by decide +kernel
theorem dX11_agreed_40 : decode cX11_agreed 40 = .ok (.ifCond .eq 52, 3) := by decide +kernel
theorem dX11_agreed_43 : decode cX11_agreed 43 = .ok (.aload_n 0, 1) := by decide +kernel
theorem dX11_agreed_44 : decode cX11_agreed 44 = .ok (.getfield 97, 3) := by decide +kernel
theorem dX11_agreed_47 : decode cX11_agreed 47 = .ok (.iload_n 2, 1) := by decide +kernel
theorem dX11_agreed_48 : decode cX11_agreed 48 = .ok (.aload_n 0, 1) := by decide +kernel
theorem dX11_agreed_49 : decode cX11_agreed 49 = .ok (.getfield 317, 3) := by decide +kernel
theorem dX11_agreed_52 : decode cX11_agreed 52 = .ok (.iastore, 1) := by decide +kernel
theorem dX11_agreed_53 : decode cX11_agreed 53 = .ok (.iconst 0, 1) := by decide +kernel
theorem dX11_agreed_54 : decode cX11_agreed 54 = .ok (.istore_n 3, 1) := by decide +kernel
theorem dX11_agreed_55 : decode cX11_agreed 55 = .ok (.iload_n 3, 1) := by decide +kernel
theorem dX11_agreed_56 : decode cX11_agreed 56 = .ok (.aload_n 0, 1) := by decide +kernel
theorem dX11_agreed_57 : decode cX11_agreed 57 = .ok (.getfield 317, 3) := by decide +kernel
theorem dX11_agreed_60 : decode cX11_agreed 60 = .ok (.if_icmp .ge 26, 3) := by decide +kernel
theorem dX11_agreed_63 : decode cX11_agreed 63 = .ok (.aload_n 0, 1) := by decide +kernel
theorem dX11_agreed_64 : decode cX11_agreed 64 = .ok (.getfield 94, 3) := by decide +kernel
theorem dX11_agreed_67 : decode cX11_agreed 67 = .ok (.bipush 18, 2) := by decide +kernel
theorem dX11_agreed_69 : decode cX11_agreed 69 = .ok (.iload_n 2, 1) := by decide +kernel
theorem dX11_agreed_70 : decode cX11_agreed 70 = .ok (.imul, 1) := by decide +kernel
theorem dX11_agreed_71 : decode cX11_agreed 71 = .ok (.iload_n 3, 1) := by decide +kernel
theorem dX11_agreed_72 : decode cX11_agreed 72 = .ok (.iadd, 1) := by decide +kernel
theorem dX11_agreed_73 : decode cX11_agreed 73 = .ok (.aload_n 0, 1) := by decide +kernel
theorem dX11_agreed_74 : decode cX11_agreed 74 = .ok (.getfield 54, 3) := by decide +kernel
theorem dX11_agreed_77 : decode cX11_agreed 77 = .ok (.iload_n 3, 1) := by decide +kernel
theorem dX11_agreed_78 : decode cX11_agreed 78 = .ok (.iaload, 1) := by decide +kernel
theorem dX11_agreed_79 : decode cX11_agreed 79 = .ok (.iastore, 1) := by decide +kernel
theorem dX11_agreed_80 : decode cX11_agreed 80 = .ok (.iinc 3 1, 3) := by decide +kernel
theorem dX11_agreed_83 : decode cX11_agreed 83 = .ok (.goto (-28), 3) := by decide +kernel
theorem dX11_agreed_86 : decode cX11_agreed 86 = .ok (.iinc 2 1, 3) := by decide +kernel
theorem dX11_agreed_89 : decode cX11_agreed 89 = .ok (.goto (-59), 3) := by decide +kernel
theorem dX11_agreed_92 : decode cX11_agreed 92 = .ok (.iconst (-1), 1) := by decide +kernel
theorem dX11_agreed_93 : decode cX11_agreed 93 = .ok (.istore_n 3, 1) := by decide +kernel
theorem dX11_agreed_94 : decode cX11_agreed 94 = .ok (.iconst 0, 1) := by decide +kernel
theorem dX11_agreed_95 : decode cX11_agreed 95 = .ok (.istore 4, 2) := by decide +kernel
theorem dX11_agreed_97 : decode cX11_agreed 97 = .ok (.iconst 0, 1) := by decide +kernel
theorem dX11_agreed_98 : decode cX11_agreed 98 = .ok (.istore 5, 2) := by decide +kernel
theorem dX11_agreed_100 : decode cX11_agreed 100 = .ok (.iload 5, 2) := by decide +kernel
theorem dX11_agreed_102 : decode cX11_agreed 102 = .ok (.iload_n 2, 1) := by decide +kernel
theorem dX11_agreed_103 : decode cX11_agreed 103 = .ok (.if_icmp .ge 90, 3) := by decide +kernel
theorem dX11_agreed_106 : decode cX11_agreed 106 = .ok (.iconst 0, 1) := by decide +kernel
theorem dX11_agreed_107 : decode cX11_agreed 107 = .ok (.istore 6, 2) := by decide +kernel
theorem dX11_agreed_109 : decode cX11_agreed 109 = .ok (.iconst 0, 1) := by decide +kernel
theorem dX11_agreed_110 : decode cX11_agreed 110 = .ok (.istore 7, 2) := by decide +kernel
theorem dX11_agreed_112 : decode cX11_agreed 112 = .ok (.iload 7, 2) := by decide +kernel
theorem dX11_agreed_114 : decode cX11_agreed 114 = .ok (.iload_n 2, 1) := by decide +kernel
theorem dX11_agreed_115 : decode cX11_agreed 115 = .ok (.if_icmp .ge 50, 3) := by decide +kernel
theorem dX11_agreed_118 : decode cX11_agreed 118 = .ok (.iload 6, 2) := by decide +kernel
theorem dX11_agreed_120 : decode cX11_agreed 120 = .ok (.aload_n 0, 1) := by decide +kernel
theorem dX11_agreed_121 : decode cX11_agreed 121 = .ok (.aload_n 0, 1) := by decide +kernel
theorem dX11_agreed_122 : decode cX11_agreed 122 = .ok (.getfield 94, 3) := by decide +kernel
theorem dX11_agreed_125 : decode cX11_agreed 125 = .ok (.bipush 18, 2) := by decide +kernel
theorem dX11_agreed_127 : decode cX11_agreed 127 = .ok (.iload 5, 2) := by decide +kernel
theorem dX11_agreed_129 : decode cX11_agreed 129 = .ok (.imul, 1) := by decide +kernel
theorem dX11_agreed_130 : decode cX11_agreed 130 = .ok (.aload_n 0, 1) := by decide +kernel
theorem dX11_agreed_131 : decode cX11_agreed 131 = .ok (.getfield 97, 3) := by decide +kernel
theorem dX11_agreed_134 : decode cX11_agreed 134 = .ok (.iload 5, 2) := by decide +kernel
theorem dX11_agreed_136 : decode cX11_agreed 136 = .ok (.iaload, 1) := by decide +kernel
theorem dX11_agreed_137 : decode cX11_agreed 137 = .ok (.aload_n 0, 1) := by decide +kernel
theorem dX11_agreed_138 : decode cX11_agreed 138 = .ok (.getfield 94, 3) := by decide +kernel
theorem dX11_agreed_141 : decode cX11_agreed 141 = .ok (.bipush 18, 2) := by decide +kernel
theorem dX11_agreed_143 : decode cX11_agreed 143 = .ok (.iload 7, 2) := by decide +kernel
theorem dX11_agreed_145 : decode cX11_agreed 145 = .ok (.imul, 1) := by decide +kernel
theorem dX11_agreed_146 : decode cX11_agreed 146 = .ok (.aload_n 0, 1) := by decide +kernel
theorem dX11_agreed_147 : decode cX11_agreed 147 = .ok (.getfield 97, 3) := by decide +kernel
theorem dX11_agreed_150 : decode cX11_agreed 150 = .ok (.iload 7, 2) := by decide +kernel
theorem dX11_agreed_152 : decode cX11_agreed 152 = .ok (.iaload, 1) := by decide +kernel
theorem dX11_agreed_153 : decode cX11_agreed 153 = .ok (.invokevirtual 401, 3) := by decide +kernel
theorem dX11_agreed_156 : decode cX11_agreed 156 = .ok (.iadd, 1) := by decide +kernel
theorem dX11_agreed_157 : decode cX11_agreed 157 = .ok (.istore 6, 2) := by decide +kernel
theorem dX11_agreed_159 : decode cX11_agreed 159 = .ok (.iinc 7 1, 3) := by decide +kernel
theorem dX11_agreed_162 : decode cX11_agreed 162 = .ok (.goto (-50), 3) := by decide +kernel
theorem dX11_agreed_165 : decode cX11_agreed 165 = .ok (.iload_n 3, 1) := by decide +kernel
theorem dX11_agreed_166 : decode cX11_agreed 166 = .ok (.iconst (-1), 1) := by decide +kernel
theorem dX11_agreed_167 : decode cX11_agreed 167 = .ok (.if_icmp .eq 13, 3) := by decide +kernel
theorem dX11_agreed_170 : decode cX11_agreed 170 = .ok (.iload 6, 2) := by decide +kernel
theorem dX11_agreed_172 : decode cX11_agreed 172 = .ok (.iload 4, 2) := by decide +kernel
theorem dX11_agreed_174 : decode cX11_agreed 174 = .ok (.if_icmp .lt 6, 3) := by decide +kernel
theorem dX11_agreed_177 : decode cX11_agreed 177 = .ok (.goto 10, 3) := by decide +kernel
theorem dX11_agreed_180 : decode cX11_agreed 180 = .ok (.iload 5, 2) := by decide +kernel
theorem dX11_agreed_182 : decode cX11_agreed 182 = .ok (.istore_n 3, 1) := by decide +kernel
theorem dX11_agreed_183 : decode cX11_agreed 183 = .ok (.iload 6, 2) := by decide +kernel
theorem dX11_agreed_185 : decode cX11_agreed 185 = .ok (.istore 4, 2) := by decide +kernel
theorem dX11_agreed_187 : decode cX11_agreed 187 = .ok (.iinc 5 1, 3) := by decide +kernel
theorem dX11_agreed_190 : decode cX11_agreed 190 = .ok (.goto (-90), 3) := by decide +kernel
theorem dX11_agreed_193 : decode cX11_agreed 193 = .ok (.iload_n 3, 1) := by decide +kernel
theorem dX11_agreed_194 : decode cX11_agreed 194 = .ok (.ireturn, 1) := by decide +kernel
theorem dX11_worth_0 : decode cX11_worth 0 = .ok (.aload_n 0, 1) := by decide +kernel
theorem dX11_worth_1 : decode cX11_worth 1 = .ok (.iload_n 1, 1) := by decide +kernel
theorem dX11_worth_2 : decode cX11_worth 2 = .ok (.bipush 9, 2) := by decide +kernel
theorem dX11_worth_4 : decode cX11_worth 4 = .ok (.invokevirtual 169, 3) := by decide +kernel
theorem dX11_worth_7 : decode cX11_worth 7 = .ok (.iconst 1, 1) := by decide +kernel
theorem dX11_worth_8 : decode cX11_worth 8 = .ok (.if_icmp .ne 5, 3) := by decide +kernel
theorem dX11_worth_11 : decode cX11_worth 11 = .ok (.iconst 0, 1) := by decide +kernel
theorem dX11_worth_12 : decode cX11_worth 12 = .ok (.ireturn, 1) := by decide +kernel
theorem dX11_worth_13 : decode cX11_worth 13 = .ok (.aload_n 0, 1) := by decide +kernel
theorem dX11_worth_14 : decode cX11_worth 14 = .ok (.invokevirtual 284, 3) := by decide +kernel
theorem dX11_worth_17 : decode cX11_worth 17 = .ok (.istore_n 2, 1) := by decide +kernel
theorem dX11_worth_18 : decode cX11_worth 18 = .ok (.aload_n 0, 1) := by decide +kernel
theorem dX11_worth_19 : decode cX11_worth 19 = .ok (.getfield 7, 3) := by decide +kernel
theorem dX11_worth_22 : decode cX11_worth 22 = .ok (.sipush 369, 3) := by decide +kernel
theorem dX11_worth_25 : decode cX11_worth 25 = .ok (.bipush 10, 2) := by decide +kernel
theorem dX11_worth_27 : decode cX11_worth 27 = .ok (.iload_n 1, 1) := by decide +kernel
theorem dX11_worth_28 : decode cX11_worth 28 = .ok (.imul, 1) := by decide +kernel
theorem dX11_worth_29 : decode cX11_worth 29 = .ok (.iadd, 1) := by decide +kernel
theorem dX11_worth_30 : decode cX11_worth 30 = .ok (.bipush 9, 2) := by decide +kernel
theorem dX11_worth_32 : decode cX11_worth 32 = .ok (.iadd, 1) := by decide +kernel
theorem dX11_worth_33 : decode cX11_worth 33 = .ok (.iconst 1, 1) := by decide +kernel
theorem dX11_worth_34 : decode cX11_worth 34 = .ok (.iastore, 1) := by decide +kernel
theorem dX11_worth_35 : decode cX11_worth 35 = .ok (.aload_n 0, 1) := by decide +kernel
theorem dX11_worth_36 : decode cX11_worth 36 = .ok (.iconst 0, 1) := by decide +kernel
theorem dX11_worth_37 : decode cX11_worth 37 = .ok (.putfield 125, 3) := by decide +kernel
theorem dX11_worth_40 : decode cX11_worth 40 = .ok (.aload_n 0, 1) := by decide +kernel
theorem dX11_worth_41 : decode cX11_worth 41 = .ok (.invokevirtual 284, 3) := by decide +kernel
theorem dX11_worth_44 : decode cX11_worth 44 = .ok (.istore_n 3, 1) := by decide +kernel
theorem dX11_worth_45 : decode cX11_worth 45 = .ok (.aload_n 0, 1) := by decide +kernel
theorem dX11_worth_46 : decode cX11_worth 46 = .ok (.getfield 7, 3) := by decide +kernel
theorem dX11_worth_49 : decode cX11_worth 49 = .ok (.sipush 369, 3) := by decide +kernel
theorem dX11_worth_52 : decode cX11_worth 52 = .ok (.bipush 10, 2) := by decide +kernel
theorem dX11_worth_54 : decode cX11_worth 54 = .ok (.iload_n 1, 1) := by decide +kernel
theorem dX11_worth_55 : decode cX11_worth 55 = .ok (.imul, 1) := by decide +kernel
theorem dX11_worth_56 : decode cX11_worth 56 = .ok (.iadd, 1) := by decide +kernel
theorem dX11_worth_57 : decode cX11_worth 57 = .ok (.bipush 9, 2) := by decide +kernel
theorem dX11_worth_59 : decode cX11_worth 59 = .ok (.iadd, 1) := by decide +kernel
theorem dX11_worth_60 : decode cX11_worth 60 = .ok (.iconst 0, 1) := by decide +kernel
theorem dX11_worth_61 : decode cX11_worth 61 = .ok (.iastore, 1) := by decide +kernel
theorem dX11_worth_62 : decode cX11_worth 62 = .ok (.aload_n 0, 1) := by decide +kernel
theorem dX11_worth_63 : decode cX11_worth 63 = .ok (.iconst 0, 1) := by decide +kernel
theorem dX11_worth_64 : decode cX11_worth 64 = .ok (.putfield 125, 3) := by decide +kernel
theorem dX11_worth_67 : decode cX11_worth 67 = .ok (.iload_n 3, 1) := by decide +kernel
theorem dX11_worth_68 : decode cX11_worth 68 = .ok (.iload_n 2, 1) := by decide +kernel
theorem dX11_worth_69 : decode cX11_worth 69 = .ok (.isub, 1) := by decide +kernel
theorem dX11_worth_70 : decode cX11_worth 70 = .ok (.ireturn, 1) := by decide +kernel
theorem dX11_needed_0 : decode cX11_needed 0 = .ok (.aload_n 0, 1) := by decide +kernel
theorem dX11_needed_1 : decode cX11_needed 1 = .ok (.iconst 0, 1) := by decide +kernel
theorem dX11_needed_2 : decode cX11_needed 2 = .ok (.putfield 100, 3) := by decide +kernel
theorem dX11_needed_5 : decode cX11_needed 5 = .ok (.iconst 0, 1) := by decide +kernel
theorem dX11_needed_6 : decode cX11_needed 6 = .ok (.istore_n 1, 1) := by decide +kernel
theorem dX11_needed_7 : decode cX11_needed 7 = .ok (.iconst 0, 1) := by decide +kernel
theorem dX11_needed_8 : decode cX11_needed 8 = .ok (.istore_n 2, 1) := by decide +kernel
theorem dX11_needed_9 : decode cX11_needed 9 = .ok (.iload_n 2, 1) := by decide +kernel
theorem dX11_needed_10 : decode cX11_needed 10 = .ok (.aload_n 0, 1) := by decide +kernel
theorem dX11_needed_11 : decode cX11_needed 11 = .ok (.getfield 7, 3) := by decide +kernel
theorem dX11_needed_14 : decode cX11_needed 14 = .ok (.iconst 1, 1) := by decide +kernel
theorem dX11_needed_15 : decode cX11_needed 15 = .ok (.iaload, 1) := by decide +kernel
theorem dX11_needed_16 : decode cX11_needed 16 = .ok (.if_icmp .ge 35, 3) := by decide +kernel
theorem dX11_needed_19 : decode cX11_needed 19 = .ok (.iload_n 1, 1) := by decide +kernel
theorem dX11_needed_20 : decode cX11_needed 20 = .ok (.aload_n 0, 1) := by decide +kernel
theorem dX11_needed_21 : decode cX11_needed 21 = .ok (.iload_n 2, 1) := by decide +kernel
theorem dX11_needed_22 : decode cX11_needed 22 = .ok (.invokevirtual 224, 3) := by decide +kernel
theorem dX11_needed_25 : decode cX11_needed 25 = .ok (.ifCond .le 17, 3) := by decide +kernel
theorem dX11_needed_28 : decode cX11_needed 28 = .ok (.aload_n 0, 1) := by decide +kernel
theorem dX11_needed_29 : decode cX11_needed 29 = .ok (.iload_n 2, 1) := by decide +kernel
theorem dX11_needed_30 : decode cX11_needed 30 = .ok (.invokevirtual 227, 3) := by decide +kernel
theorem dX11_needed_33 : decode cX11_needed 33 = .ok (.ifCond .le 9, 3) := by decide +kernel
theorem dX11_needed_36 : decode cX11_needed 36 = .ok (.iconst 1, 1) := by decide +kernel
theorem dX11_needed_37 : decode cX11_needed 37 = .ok (.iload_n 2, 1) := by decide +kernel
theorem dX11_needed_38 : decode cX11_needed 38 = .ok (.ishl, 1) := by decide +kernel
theorem dX11_needed_39 : decode cX11_needed 39 = .ok (.goto 4, 3) := by decide +kernel
theorem dX11_needed_42 : decode cX11_needed 42 = .ok (.iconst 0, 1) := by decide +kernel
theorem dX11_needed_43 : decode cX11_needed 43 = .ok (.ior, 1) := by decide +kernel
theorem dX11_needed_44 : decode cX11_needed 44 = .ok (.istore_n 1, 1) := by decide +kernel
theorem dX11_needed_45 : decode cX11_needed 45 = .ok (.iinc 2 1, 3) := by decide +kernel
theorem dX11_needed_48 : decode cX11_needed 48 = .ok (.goto (-39), 3) := by decide +kernel
theorem dX11_needed_51 : decode cX11_needed 51 = .ok (.iload_n 1, 1) := by decide +kernel
theorem dX11_needed_52 : decode cX11_needed 52 = .ok (.ireturn, 1) := by decide +kernel
theorem dX11_idle_0 : decode cX11_idle 0 = .ok (.aload_n 0, 1) := by decide +kernel
theorem dX11_idle_1 : decode cX11_idle 1 = .ok (.iconst 0, 1) := by decide +kernel
theorem dX11_idle_2 : decode cX11_idle 2 = .ok (.putfield 100, 3) := by decide +kernel
theorem dX11_idle_5 : decode cX11_idle 5 = .ok (.iconst 0, 1) := by decide +kernel
theorem dX11_idle_6 : decode cX11_idle 6 = .ok (.istore_n 1, 1) := by decide +kernel
theorem dX11_idle_7 : decode cX11_idle 7 = .ok (.iconst 0, 1) := by decide +kernel
theorem dX11_idle_8 : decode cX11_idle 8 = .ok (.istore_n 2, 1) := by decide +kernel
theorem dX11_idle_9 : decode cX11_idle 9 = .ok (.iload_n 2, 1) := by decide +kernel
theorem dX11_idle_10 : decode cX11_idle 10 = .ok (.aload_n 0, 1) := by decide +kernel
theorem dX11_idle_11 : decode cX11_idle 11 = .ok (.getfield 7, 3) := by decide +kernel
theorem dX11_idle_14 : decode cX11_idle 14 = .ok (.iconst 1, 1) := by decide +kernel
theorem dX11_idle_15 : decode cX11_idle 15 = .ok (.iaload, 1) := by decide +kernel
theorem dX11_idle_16 : decode cX11_idle 16 = .ok (.if_icmp .ge 37, 3) := by decide +kernel
theorem dX11_idle_19 : decode cX11_idle 19 = .ok (.iload_n 1, 1) := by decide +kernel
theorem dX11_idle_20 : decode cX11_idle 20 = .ok (.aload_n 0, 1) := by decide +kernel
theorem dX11_idle_21 : decode cX11_idle 21 = .ok (.iload_n 2, 1) := by decide +kernel
theorem dX11_idle_22 : decode cX11_idle 22 = .ok (.bipush 9, 2) := by decide +kernel
theorem dX11_idle_24 : decode cX11_idle 24 = .ok (.invokevirtual 169, 3) := by decide +kernel
theorem dX11_idle_27 : decode cX11_idle 27 = .ok (.ifCond .ne 17, 3) := by decide +kernel
theorem dX11_idle_30 : decode cX11_idle 30 = .ok (.aload_n 0, 1) := by decide +kernel
theorem dX11_idle_31 : decode cX11_idle 31 = .ok (.iload_n 2, 1) := by decide +kernel
theorem dX11_idle_32 : decode cX11_idle 32 = .ok (.invokevirtual 224, 3) := by decide +kernel
theorem dX11_idle_35 : decode cX11_idle 35 = .ok (.ifCond .ne 9, 3) := by decide +kernel
theorem dX11_idle_38 : decode cX11_idle 38 = .ok (.iconst 1, 1) := by decide +kernel
theorem dX11_idle_39 : decode cX11_idle 39 = .ok (.iload_n 2, 1) := by decide +kernel
theorem dX11_idle_40 : decode cX11_idle 40 = .ok (.ishl, 1) := by decide +kernel
theorem dX11_idle_41 : decode cX11_idle 41 = .ok (.goto 4, 3) := by decide +kernel
theorem dX11_idle_44 : decode cX11_idle 44 = .ok (.iconst 0, 1) := by decide +kernel
theorem dX11_idle_45 : decode cX11_idle 45 = .ok (.ior, 1) := by decide +kernel
theorem dX11_idle_46 : decode cX11_idle 46 = .ok (.istore_n 1, 1) := by decide +kernel
theorem dX11_idle_47 : decode cX11_idle 47 = .ok (.iinc 2 1, 3) := by decide +kernel
theorem dX11_idle_50 : decode cX11_idle 50 = .ok (.goto (-41), 3) := by decide +kernel
theorem dX11_idle_53 : decode cX11_idle 53 = .ok (.iload_n 1, 1) := by decide +kernel
theorem dX11_idle_54 : decode cX11_idle 54 = .ok (.ireturn, 1) := by decide +kernel
theorem dX11_exactBy_0 : decode cX11_exactBy 0 = .ok (.aload_n 0, 1) := by decide +kernel
theorem dX11_exactBy_1 : decode cX11_exactBy 1 = .ok (.getfield 7, 3) := by decide +kernel
theorem dX11_exactBy_4 : decode cX11_exactBy 4 = .ok (.iload_n 1, 1) := by decide +kernel
theorem dX11_exactBy_5 : decode cX11_exactBy 5 = .ok (.iaload, 1) := by decide +kernel
theorem dX11_exactBy_6 : decode cX11_exactBy 6 = .ok (.istore_n 3, 1) := by decide +kernel
theorem dX11_exactBy_7 : decode cX11_exactBy 7 = .ok (.aload_n 0, 1) := by decide +kernel
theorem dX11_exactBy_8 : decode cX11_exactBy 8 = .ok (.getfield 7, 3) := by decide +kernel
theorem dX11_exactBy_11 : decode cX11_exactBy 11 = .ok (.iload_n 1, 1) := by decide +kernel
theorem dX11_exactBy_12 : decode cX11_exactBy 12 = .ok (.iload_n 2, 1) := by decide +kernel
theorem dX11_exactBy_13 : decode cX11_exactBy 13 = .ok (.iastore, 1) := by decide +kernel
theorem dX11_exactBy_14 : decode cX11_exactBy 14 = .ok (.aload_n 0, 1) := by decide +kernel
theorem dX11_exactBy_15 : decode cX11_exactBy 15 = .ok (.iconst 0, 1) := by decide +kernel
theorem dX11_exactBy_16 : decode cX11_exactBy 16 = .ok (.putfield 125, 3) := by decide +kernel
theorem dX11_exactBy_19 : decode cX11_exactBy 19 = .ok (.aload_n 0, 1) := by decide +kernel
theorem dX11_exactBy_20 : decode cX11_exactBy 20 = .ok (.invokevirtual 284, 3) := by decide +kernel
theorem dX11_exactBy_23 : decode cX11_exactBy 23 = .ok (.istore 4, 2) := by decide +kernel
theorem dX11_exactBy_25 : decode cX11_exactBy 25 = .ok (.aload_n 0, 1) := by decide +kernel
theorem dX11_exactBy_26 : decode cX11_exactBy 26 = .ok (.getfield 7, 3) := by decide +kernel
theorem dX11_exactBy_29 : decode cX11_exactBy 29 = .ok (.iload_n 1, 1) := by decide +kernel
theorem dX11_exactBy_30 : decode cX11_exactBy 30 = .ok (.iload_n 3, 1) := by decide +kernel
theorem dX11_exactBy_31 : decode cX11_exactBy 31 = .ok (.iastore, 1) := by decide +kernel
theorem dX11_exactBy_32 : decode cX11_exactBy 32 = .ok (.aload_n 0, 1) := by decide +kernel
theorem dX11_exactBy_33 : decode cX11_exactBy 33 = .ok (.iconst 0, 1) := by decide +kernel
theorem dX11_exactBy_34 : decode cX11_exactBy 34 = .ok (.putfield 125, 3) := by decide +kernel
theorem dX11_exactBy_37 : decode cX11_exactBy 37 = .ok (.iload 4, 2) := by decide +kernel
theorem dX11_exactBy_39 : decode cX11_exactBy 39 = .ok (.ireturn, 1) := by decide +kernel
theorem dX11_reach_0 : decode cX11_reach 0 = .ok (.aload_n 0, 1) := by decide +kernel
theorem dX11_reach_1 : decode cX11_reach 1 = .ok (.iconst 0, 1) := by decide +kernel
theorem dX11_reach_2 : decode cX11_reach 2 = .ok (.putfield 100, 3) := by decide +kernel
theorem dX11_reach_5 : decode cX11_reach 5 = .ok (.aload_n 0, 1) := by decide +kernel
theorem dX11_reach_6 : decode cX11_reach 6 = .ok (.bipush 7, 2) := by decide +kernel
theorem dX11_reach_8 : decode cX11_reach 8 = .ok (.bipush 6, 2) := by decide +kernel
theorem dX11_reach_10 : decode cX11_reach 10 = .ok (.invokevirtual 416, 3) := by decide +kernel
theorem dX11_reach_13 : decode cX11_reach 13 = .ok (.istore_n 1, 1) := by decide +kernel
theorem dX11_reach_14 : decode cX11_reach 14 = .ok (.iconst 0, 1) := by decide +kernel
theorem dX11_reach_15 : decode cX11_reach 15 = .ok (.istore_n 2, 1) := by decide +kernel
theorem dX11_reach_16 : decode cX11_reach 16 = .ok (.aload_n 0, 1) := by decide +kernel
theorem dX11_reach_17 : decode cX11_reach 17 = .ok (.bipush 7, 2) := by decide +kernel
theorem dX11_reach_19 : decode cX11_reach 19 = .ok (.iload_n 2, 1) := by decide +kernel
theorem dX11_reach_20 : decode cX11_reach 20 = .ok (.invokevirtual 416, 3) := by decide +kernel
theorem dX11_reach_23 : decode cX11_reach 23 = .ok (.iload_n 1, 1) := by decide +kernel
theorem dX11_reach_24 : decode cX11_reach 24 = .ok (.if_icmp .eq 9, 3) := by decide +kernel
theorem dX11_reach_27 : decode cX11_reach 27 = .ok (.iinc 2 1, 3) := by decide +kernel
theorem dX11_reach_30 : decode cX11_reach 30 = .ok (.goto (-14), 3) := by decide +kernel
theorem dX11_reach_33 : decode cX11_reach 33 = .ok (.iload_n 2, 1) := by decide +kernel
theorem dX11_reach_34 : decode cX11_reach 34 = .ok (.ireturn, 1) := by decide +kernel
theorem dX11_width_0 : decode cX11_width 0 = .ok (.aload_n 0, 1) := by decide +kernel
theorem dX11_width_1 : decode cX11_width 1 = .ok (.iconst 0, 1) := by decide +kernel
theorem dX11_width_2 : decode cX11_width 2 = .ok (.putfield 100, 3) := by decide +kernel
theorem dX11_width_5 : decode cX11_width 5 = .ok (.aload_n 0, 1) := by decide +kernel
theorem dX11_width_6 : decode cX11_width 6 = .ok (.invokevirtual 284, 3) := by decide +kernel
theorem dX11_width_9 : decode cX11_width 9 = .ok (.istore_n 1, 1) := by decide +kernel
theorem dX11_width_10 : decode cX11_width 10 = .ok (.aload_n 0, 1) := by decide +kernel
theorem dX11_width_11 : decode cX11_width 11 = .ok (.getfield 7, 3) := by decide +kernel
theorem dX11_width_14 : decode cX11_width 14 = .ok (.bipush 8, 2) := by decide +kernel
theorem dX11_width_16 : decode cX11_width 16 = .ok (.iaload, 1) := by decide +kernel
theorem dX11_width_17 : decode cX11_width 17 = .ok (.istore_n 2, 1) := by decide +kernel
theorem dX11_width_18 : decode cX11_width 18 = .ok (.iconst (-1), 1) := by decide +kernel
theorem dX11_width_19 : decode cX11_width 19 = .ok (.istore_n 3, 1) := by decide +kernel
theorem dX11_width_20 : decode cX11_width 20 = .ok (.iconst 1, 1) := by decide +kernel
theorem dX11_width_21 : decode cX11_width 21 = .ok (.istore 4, 2) := by decide +kernel
theorem dX11_width_23 : decode cX11_width 23 = .ok (.iload 4, 2) := by decide +kernel
theorem dX11_width_25 : decode cX11_width 25 = .ok (.bipush 40, 2) := by decide +kernel
theorem dX11_width_27 : decode cX11_width 27 = .ok (.if_icmp .gt 46, 3) := by decide +kernel
theorem dX11_width_30 : decode cX11_width 30 = .ok (.iload_n 3, 1) := by decide +kernel
theorem dX11_width_31 : decode cX11_width 31 = .ok (.iconst (-1), 1) := by decide +kernel
theorem dX11_width_32 : decode cX11_width 32 = .ok (.if_icmp .ne 41, 3) := by decide +kernel
theorem dX11_width_35 : decode cX11_width 35 = .ok (.aload_n 0, 1) := by decide +kernel
theorem dX11_width_36 : decode cX11_width 36 = .ok (.getfield 7, 3) := by decide +kernel
theorem dX11_width_39 : decode cX11_width 39 = .ok (.bipush 8, 2) := by decide +kernel
theorem dX11_width_41 : decode cX11_width 41 = .ok (.iload 4, 2) := by decide +kernel
theorem dX11_width_43 : decode cX11_width 43 = .ok (.iastore, 1) := by decide +kernel
theorem dX11_width_44 : decode cX11_width 44 = .ok (.aload_n 0, 1) := by decide +kernel
theorem dX11_width_45 : decode cX11_width 45 = .ok (.invokevirtual 386, 3) := by decide +kernel
theorem dX11_width_48 : decode cX11_width 48 = .ok (.aload_n 0, 1) := by decide +kernel
theorem dX11_width_49 : decode cX11_width 49 = .ok (.getfield 380, 3) := by decide +kernel
theorem dX11_width_52 : decode cX11_width 52 = .ok (.iconst (-1), 1) := by decide +kernel
theorem dX11_width_53 : decode cX11_width 53 = .ok (.if_icmp .eq 14, 3) := by decide +kernel
theorem dX11_width_56 : decode cX11_width 56 = .ok (.aload_n 0, 1) := by decide +kernel
theorem dX11_width_57 : decode cX11_width 57 = .ok (.getfield 383, 3) := by decide +kernel
theorem dX11_width_60 : decode cX11_width 60 = .ok (.iload_n 1, 1) := by decide +kernel
theorem dX11_width_61 : decode cX11_width 61 = .ok (.if_icmp .ne 6, 3) := by decide +kernel
theorem dX11_width_64 : decode cX11_width 64 = .ok (.iload 4, 2) := by decide +kernel
theorem dX11_width_66 : decode cX11_width 66 = .ok (.istore_n 3, 1) := by decide +kernel
theorem dX11_width_67 : decode cX11_width 67 = .ok (.iinc 4 1, 3) := by decide +kernel
theorem dX11_width_70 : decode cX11_width 70 = .ok (.goto (-47), 3) := by decide +kernel
theorem dX11_width_73 : decode cX11_width 73 = .ok (.aload_n 0, 1) := by decide +kernel
theorem dX11_width_74 : decode cX11_width 74 = .ok (.getfield 7, 3) := by decide +kernel
theorem dX11_width_77 : decode cX11_width 77 = .ok (.bipush 8, 2) := by decide +kernel
theorem dX11_width_79 : decode cX11_width 79 = .ok (.iload_n 2, 1) := by decide +kernel
theorem dX11_width_80 : decode cX11_width 80 = .ok (.iastore, 1) := by decide +kernel
theorem dX11_width_81 : decode cX11_width 81 = .ok (.iload_n 3, 1) := by decide +kernel
theorem dX11_width_82 : decode cX11_width 82 = .ok (.ireturn, 1) := by decide +kernel
theorem dX11_tuned_0 : decode cX11_tuned 0 = .ok (.aload_n 0, 1) := by decide +kernel
theorem dX11_tuned_1 : decode cX11_tuned 1 = .ok (.invokevirtual 398, 3) := by decide +kernel
theorem dX11_tuned_4 : decode cX11_tuned 4 = .ok (.ifCond .ne 5, 3) := by decide +kernel
theorem dX11_tuned_7 : decode cX11_tuned 7 = .ok (.iconst 0, 1) := by decide +kernel
theorem dX11_tuned_8 : decode cX11_tuned 8 = .ok (.ireturn, 1) := by decide +kernel
theorem dX11_tuned_9 : decode cX11_tuned 9 = .ok (.aload_n 0, 1) := by decide +kernel
theorem dX11_tuned_10 : decode cX11_tuned 10 = .ok (.getfield 7, 3) := by decide +kernel
theorem dX11_tuned_13 : decode cX11_tuned 13 = .ok (.bipush 6, 2) := by decide +kernel
theorem dX11_tuned_15 : decode cX11_tuned 15 = .ok (.iaload, 1) := by decide +kernel
theorem dX11_tuned_16 : decode cX11_tuned 16 = .ok (.istore_n 1, 1) := by decide +kernel
theorem dX11_tuned_17 : decode cX11_tuned 17 = .ok (.iconst (-1), 1) := by decide +kernel
theorem dX11_tuned_18 : decode cX11_tuned 18 = .ok (.istore_n 2, 1) := by decide +kernel
theorem dX11_tuned_19 : decode cX11_tuned 19 = .ok (.iconst 0, 1) := by decide +kernel
theorem dX11_tuned_20 : decode cX11_tuned 20 = .ok (.istore_n 3, 1) := by decide +kernel
theorem dX11_tuned_21 : decode cX11_tuned 21 = .ok (.iconst 0, 1) := by decide +kernel
theorem dX11_tuned_22 : decode cX11_tuned 22 = .ok (.istore 4, 2) := by decide +kernel
theorem dX11_tuned_24 : decode cX11_tuned 24 = .ok (.iload 4, 2) := by decide +kernel
theorem dX11_tuned_26 : decode cX11_tuned 26 = .ok (.bipush 20, 2) := by decide +kernel
theorem dX11_tuned_28 : decode cX11_tuned 28 = .ok (.if_icmp .gt 49, 3) := by decide +kernel
theorem dX11_tuned_31 : decode cX11_tuned 31 = .ok (.aload_n 0, 1) := by decide +kernel
theorem dX11_tuned_32 : decode cX11_tuned 32 = .ok (.getfield 7, 3) := by decide +kernel
theorem dX11_tuned_35 : decode cX11_tuned 35 = .ok (.bipush 6, 2) := by decide +kernel
theorem dX11_tuned_37 : decode cX11_tuned 37 = .ok (.iload 4, 2) := by decide +kernel
theorem dX11_tuned_39 : decode cX11_tuned 39 = .ok (.iastore, 1) := by decide +kernel
theorem dX11_tuned_40 : decode cX11_tuned 40 = .ok (.aload_n 0, 1) := by decide +kernel
theorem dX11_tuned_41 : decode cX11_tuned 41 = .ok (.iconst 0, 1) := by decide +kernel
theorem dX11_tuned_42 : decode cX11_tuned 42 = .ok (.putfield 125, 3) := by decide +kernel
theorem dX11_tuned_45 : decode cX11_tuned 45 = .ok (.aload_n 0, 1) := by decide +kernel
theorem dX11_tuned_46 : decode cX11_tuned 46 = .ok (.invokevirtual 405, 3) := by decide +kernel
theorem dX11_tuned_49 : decode cX11_tuned 49 = .ok (.istore 5, 2) := by decide +kernel
theorem dX11_tuned_51 : decode cX11_tuned 51 = .ok (.iload_n 2, 1) := by decide +kernel
theorem dX11_tuned_52 : decode cX11_tuned 52 = .ok (.iconst (-1), 1) := by decide +kernel
theorem dX11_tuned_53 : decode cX11_tuned 53 = .ok (.if_icmp .eq 12, 3) := by decide +kernel
theorem dX11_tuned_56 : decode cX11_tuned 56 = .ok (.iload 5, 2) := by decide +kernel
theorem dX11_tuned_58 : decode cX11_tuned 58 = .ok (.iload_n 3, 1) := by decide +kernel
theorem dX11_tuned_59 : decode cX11_tuned 59 = .ok (.if_icmp .lt 6, 3) := by decide +kernel
theorem dX11_tuned_62 : decode cX11_tuned 62 = .ok (.goto 9, 3) := by decide +kernel
theorem dX11_tuned_65 : decode cX11_tuned 65 = .ok (.iload 4, 2) := by decide +kernel
theorem dX11_tuned_67 : decode cX11_tuned 67 = .ok (.istore_n 2, 1) := by decide +kernel
theorem dX11_tuned_68 : decode cX11_tuned 68 = .ok (.iload 5, 2) := by decide +kernel
theorem dX11_tuned_70 : decode cX11_tuned 70 = .ok (.istore_n 3, 1) := by decide +kernel
theorem dX11_tuned_71 : decode cX11_tuned 71 = .ok (.iinc 4 1, 3) := by decide +kernel
theorem dX11_tuned_74 : decode cX11_tuned 74 = .ok (.goto (-50), 3) := by decide +kernel
theorem dX11_tuned_77 : decode cX11_tuned 77 = .ok (.aload_n 0, 1) := by decide +kernel
theorem dX11_tuned_78 : decode cX11_tuned 78 = .ok (.getfield 7, 3) := by decide +kernel
theorem dX11_tuned_81 : decode cX11_tuned 81 = .ok (.bipush 6, 2) := by decide +kernel
theorem dX11_tuned_83 : decode cX11_tuned 83 = .ok (.iload_n 1, 1) := by decide +kernel
theorem dX11_tuned_84 : decode cX11_tuned 84 = .ok (.iastore, 1) := by decide +kernel
theorem dX11_tuned_85 : decode cX11_tuned 85 = .ok (.aload_n 0, 1) := by decide +kernel
theorem dX11_tuned_86 : decode cX11_tuned 86 = .ok (.iconst 0, 1) := by decide +kernel
theorem dX11_tuned_87 : decode cX11_tuned 87 = .ok (.putfield 125, 3) := by decide +kernel
theorem dX11_tuned_90 : decode cX11_tuned 90 = .ok (.iload_n 2, 1) := by decide +kernel
theorem dX11_tuned_91 : decode cX11_tuned 91 = .ok (.ireturn, 1) := by decide +kernel
theorem dX11_image_0 : decode cX11_image 0 = .ok (.aload_n 0, 1) := by decide +kernel
theorem dX11_image_1 : decode cX11_image 1 = .ok (.iconst 0, 1) := by decide +kernel
theorem dX11_image_2 : decode cX11_image 2 = .ok (.putfield 100, 3) := by decide +kernel
theorem dX11_image_5 : decode cX11_image 5 = .ok (.iconst 0, 1) := by decide +kernel
theorem dX11_image_6 : decode cX11_image 6 = .ok (.istore_n 1, 1) := by decide +kernel
theorem dX11_image_7 : decode cX11_image 7 = .ok (.iload_n 1, 1) := by decide +kernel
theorem dX11_image_8 : decode cX11_image 8 = .ok (.sipush 855, 3) := by decide +kernel
theorem dX11_image_11 : decode cX11_image 11 = .ok (.if_icmp .ge 21, 3) := by decide +kernel
theorem dX11_image_14 : decode cX11_image 14 = .ok (.aload_n 0, 1) := by decide +kernel
theorem dX11_image_15 : decode cX11_image 15 = .ok (.getfield 16, 3) := by decide +kernel
theorem dX11_image_18 : decode cX11_image 18 = .ok (.iload_n 1, 1) := by decide +kernel
theorem dX11_image_19 : decode cX11_image 19 = .ok (.aload_n 0, 1) := by decide +kernel
theorem dX11_image_20 : decode cX11_image 20 = .ok (.getfield 7, 3) := by decide +kernel
theorem dX11_image_23 : decode cX11_image 23 = .ok (.iload_n 1, 1) := by decide +kernel
theorem dX11_image_24 : decode cX11_image 24 = .ok (.iaload, 1) := by decide +kernel
theorem dX11_image_25 : decode cX11_image 25 = .ok (.iastore, 1) := by decide +kernel
theorem dX11_image_26 : decode cX11_image 26 = .ok (.iinc 1 1, 3) := by decide +kernel
theorem dX11_image_29 : decode cX11_image 29 = .ok (.goto (-22), 3) := by decide +kernel
theorem dX11_image_32 : decode cX11_image 32 = .ok (.aload_n 0, 1) := by decide +kernel
theorem dX11_image_33 : decode cX11_image 33 = .ok (.iconst 1, 1) := by decide +kernel
theorem dX11_image_34 : decode cX11_image 34 = .ok (.putfield 419, 3) := by decide +kernel
theorem dX11_image_37 : decode cX11_image 37 = .ok (.return_, 1) := by decide +kernel
theorem dX11_back_0 : decode cX11_back 0 = .ok (.aload_n 0, 1) := by decide +kernel
theorem dX11_back_1 : decode cX11_back 1 = .ok (.iconst 0, 1) := by decide +kernel
theorem dX11_back_2 : decode cX11_back 2 = .ok (.putfield 100, 3) := by decide +kernel
theorem dX11_back_5 : decode cX11_back 5 = .ok (.aload_n 0, 1) := by decide +kernel
theorem dX11_back_6 : decode cX11_back 6 = .ok (.getfield 419, 3) := by decide +kernel
theorem dX11_back_9 : decode cX11_back 9 = .ok (.ifCond .ne 5, 3) := by decide +kernel
theorem dX11_back_12 : decode cX11_back 12 = .ok (.iconst 0, 1) := by decide +kernel
theorem dX11_back_13 : decode cX11_back 13 = .ok (.ireturn, 1) := by decide +kernel
theorem dX11_back_14 : decode cX11_back 14 = .ok (.iconst 0, 1) := by decide +kernel
theorem dX11_back_15 : decode cX11_back 15 = .ok (.istore_n 1, 1) := by decide +kernel
theorem dX11_back_16 : decode cX11_back 16 = .ok (.iload_n 1, 1) := by decide +kernel
theorem dX11_back_17 : decode cX11_back 17 = .ok (.sipush 855, 3) := by decide +kernel
theorem dX11_back_20 : decode cX11_back 20 = .ok (.if_icmp .ge 21, 3) := by decide +kernel
theorem dX11_back_23 : decode cX11_back 23 = .ok (.aload_n 0, 1) := by decide +kernel
theorem dX11_back_24 : decode cX11_back 24 = .ok (.getfield 7, 3) := by decide +kernel
theorem dX11_back_27 : decode cX11_back 27 = .ok (.iload_n 1, 1) := by decide +kernel
theorem dX11_back_28 : decode cX11_back 28 = .ok (.aload_n 0, 1) := by decide +kernel
theorem dX11_back_29 : decode cX11_back 29 = .ok (.getfield 16, 3) := by decide +kernel
theorem dX11_back_32 : decode cX11_back 32 = .ok (.iload_n 1, 1) := by decide +kernel
theorem dX11_back_33 : decode cX11_back 33 = .ok (.iaload, 1) := by decide +kernel
theorem dX11_back_34 : decode cX11_back 34 = .ok (.iastore, 1) := by decide +kernel
theorem dX11_back_35 : decode cX11_back 35 = .ok (.iinc 1 1, 3) := by decide +kernel
theorem dX11_back_38 : decode cX11_back 38 = .ok (.goto (-22), 3) := by decide +kernel
theorem dX11_back_41 : decode cX11_back 41 = .ok (.aload_n 0, 1) := by decide +kernel
theorem dX11_back_42 : decode cX11_back 42 = .ok (.iconst 0, 1) := by decide +kernel
theorem dX11_back_43 : decode cX11_back 43 = .ok (.putfield 125, 3) := by decide +kernel
theorem dX11_back_46 : decode cX11_back 46 = .ok (.iconst 1, 1) := by decide +kernel
theorem dX11_back_47 : decode cX11_back 47 = .ok (.ireturn, 1) := by decide +kernel
theorem dX11_count_0 : decode cX11_count 0 = .ok (.aload_n 0, 1) := by decide +kernel
theorem dX11_count_1 : decode cX11_count 1 = .ok (.iconst 0, 1) := by decide +kernel
theorem dX11_count_2 : decode cX11_count 2 = .ok (.putfield 100, 3) := by decide +kernel
theorem dX11_count_5 : decode cX11_count 5 = .ok (.iload_n 1, 1) := by decide +kernel
theorem dX11_count_6 : decode cX11_count 6 = .ok (.bipush 9, 2) := by decide +kernel
theorem dX11_count_8 : decode cX11_count 8 = .ok (.if_icmp .ne 43, 3) := by decide +kernel
theorem dX11_count_11 : decode cX11_count 11 = .ok (.iconst 0, 1) := by decide +kernel
theorem dX11_count_12 : decode cX11_count 12 = .ok (.istore_n 2, 1) := by decide +kernel
theorem dX11_count_13 : decode cX11_count 13 = .ok (.iconst 0, 1) := by decide +kernel
theorem dX11_count_14 : decode cX11_count 14 = .ok (.istore_n 3, 1) := by decide +kernel
theorem dX11_count_15 : decode cX11_count 15 = .ok (.iload_n 3, 1) := by decide +kernel
theorem dX11_count_16 : decode cX11_count 16 = .ok (.aload_n 0, 1) := by decide +kernel
theorem dX11_count_17 : decode cX11_count 17 = .ok (.getfield 7, 3) := by decide +kernel
theorem dX11_count_20 : decode cX11_count 20 = .ok (.iconst 1, 1) := by decide +kernel
theorem dX11_count_21 : decode cX11_count 21 = .ok (.iaload, 1) := by decide +kernel
theorem dX11_count_22 : decode cX11_count 22 = .ok (.if_icmp .ge 27, 3) := by decide +kernel
theorem dX11_count_25 : decode cX11_count 25 = .ok (.iload_n 2, 1) := by decide +kernel
theorem dX11_count_26 : decode cX11_count 26 = .ok (.aload_n 0, 1) := by decide +kernel
theorem dX11_count_27 : decode cX11_count 27 = .ok (.iload_n 3, 1) := by decide +kernel
theorem dX11_count_28 : decode cX11_count 28 = .ok (.bipush 9, 2) := by decide +kernel
theorem dX11_count_30 : decode cX11_count 30 = .ok (.invokevirtual 169, 3) := by decide +kernel
theorem dX11_count_33 : decode cX11_count 33 = .ok (.ifCond .ne 7, 3) := by decide +kernel
theorem dX11_count_36 : decode cX11_count 36 = .ok (.iconst 1, 1) := by decide +kernel
theorem dX11_count_37 : decode cX11_count 37 = .ok (.goto 4, 3) := by decide +kernel
theorem dX11_count_40 : decode cX11_count 40 = .ok (.iconst 0, 1) := by decide +kernel
theorem dX11_count_41 : decode cX11_count 41 = .ok (.iadd, 1) := by decide +kernel
theorem dX11_count_42 : decode cX11_count 42 = .ok (.istore_n 2, 1) := by decide +kernel
theorem dX11_count_43 : decode cX11_count 43 = .ok (.iinc 3 1, 3) := by decide +kernel
theorem dX11_count_46 : decode cX11_count 46 = .ok (.goto (-31), 3) := by decide +kernel
theorem dX11_count_49 : decode cX11_count 49 = .ok (.iload_n 2, 1) := by decide +kernel
theorem dX11_count_50 : decode cX11_count 50 = .ok (.ireturn, 1) := by decide +kernel
theorem dX11_count_51 : decode cX11_count 51 = .ok (.iload_n 1, 1) := by decide +kernel
theorem dX11_count_52 : decode cX11_count 52 = .ok (.iconst 0, 1) := by decide +kernel
theorem dX11_count_53 : decode cX11_count 53 = .ok (.bipush 8, 2) := by decide +kernel
theorem dX11_count_55 : decode cX11_count 55 = .ok (.invokestatic 103, 3) := by decide +kernel
theorem dX11_count_58 : decode cX11_count 58 = .ok (.ifCond .eq 12, 3) := by decide +kernel
theorem dX11_count_61 : decode cX11_count 61 = .ok (.aload_n 0, 1) := by decide +kernel
theorem dX11_count_62 : decode cX11_count 62 = .ok (.getfield 7, 3) := by decide +kernel
theorem dX11_count_65 : decode cX11_count 65 = .ok (.iload_n 1, 1) := by decide +kernel
theorem dX11_count_66 : decode cX11_count 66 = .ok (.iaload, 1) := by decide +kernel
theorem dX11_count_67 : decode cX11_count 67 = .ok (.goto 4, 3) := by decide +kernel
theorem dX11_count_70 : decode cX11_count 70 = .ok (.iconst (-1), 1) := by decide +kernel
theorem dX11_count_71 : decode cX11_count 71 = .ok (.ireturn, 1) := by decide +kernel
