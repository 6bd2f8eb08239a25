theorem dX9_init_0 : decode cX9_init 0 = .ok (.aload_n 0, 1) := by decide +kernel
theorem dX9_init_1 : decode cX9_init 1 = .ok (.invokespecial 1, 3) := by decide +kernel
theorem dX9_init_4 : decode cX9_init 4 = .ok (.aload_n 0, 1) := by decide +kernel
theorem dX9_init_5 : decode cX9_init 5 = .ok (.bipush 96, 2) := by decide +kernel
theorem dX9_init_7 : decode cX9_init 7 = .ok (.newarray .int, 2) := by decide +kernel
theorem dX9_init_9 : decode cX9_init 9 = .ok (.putfield 7, 3) := by decide +kernel
theorem dX9_init_12 : decode cX9_init 12 = .ok (.aload_n 0, 1) := by decide +kernel
theorem dX9_init_13 : decode cX9_init 13 = .ok (.bipush 6, 2) := by decide +kernel
theorem dX9_init_15 : decode cX9_init 15 = .ok (.newarray .int, 2) := by decide +kernel
theorem dX9_init_17 : decode cX9_init 17 = .ok (.putfield 13, 3) := by decide +kernel
theorem dX9_init_20 : decode cX9_init 20 = .ok (.aload_n 0, 1) := by decide +kernel
theorem dX9_init_21 : decode cX9_init 21 = .ok (.bipush 6, 2) := by decide +kernel
theorem dX9_init_23 : decode cX9_init 23 = .ok (.newarray .int, 2) := by decide +kernel
theorem dX9_init_25 : decode cX9_init 25 = .ok (.putfield 16, 3) := by decide +kernel
theorem dX9_init_28 : decode cX9_init 28 = .ok (.aload_n 0, 1) := by decide +kernel
theorem dX9_init_29 : decode cX9_init 29 = .ok (.bipush 10, 2) := by decide +kernel
theorem dX9_init_31 : decode cX9_init 31 = .ok (.newarray .int, 2) := by decide +kernel
theorem dX9_init_33 : decode cX9_init 33 = .ok (.putfield 19, 3) := by decide +kernel
theorem dX9_init_36 : decode cX9_init 36 = .ok (.aload_n 0, 1) := by decide +kernel
theorem dX9_init_37 : decode cX9_init 37 = .ok (.bipush 10, 2) := by decide +kernel
theorem dX9_init_39 : decode cX9_init 39 = .ok (.newarray .int, 2) := by decide +kernel
theorem dX9_init_41 : decode cX9_init 41 = .ok (.putfield 22, 3) := by decide +kernel
theorem dX9_init_44 : decode cX9_init 44 = .ok (.aload_n 0, 1) := by decide +kernel
theorem dX9_init_45 : decode cX9_init 45 = .ok (.bipush 10, 2) := by decide +kernel
theorem dX9_init_47 : decode cX9_init 47 = .ok (.newarray .int, 2) := by decide +kernel
theorem dX9_init_49 : decode cX9_init 49 = .ok (.putfield 25, 3) := by decide +kernel
theorem dX9_init_52 : decode cX9_init 52 = .ok (.aload_n 0, 1) := by decide +kernel
theorem dX9_init_53 : decode cX9_init 53 = .ok (.bipush 10, 2) := by decide +kernel
theorem dX9_init_55 : decode cX9_init 55 = .ok (.newarray .boolean, 2) := by decide +kernel
theorem dX9_init_57 : decode cX9_init 57 = .ok (.putfield 28, 3) := by decide +kernel
theorem dX9_init_60 : decode cX9_init 60 = .ok (.aload_n 0, 1) := by decide +kernel
theorem dX9_init_61 : decode cX9_init 61 = .ok (.bipush 6, 2) := by decide +kernel
theorem dX9_init_63 : decode cX9_init 63 = .ok (.newarray .int, 2) := by decide +kernel
theorem dX9_init_65 : decode cX9_init 65 = .ok (.putfield 32, 3) := by decide +kernel
theorem dX9_init_68 : decode cX9_init 68 = .ok (.aload_n 0, 1) := by decide +kernel
theorem dX9_init_69 : decode cX9_init 69 = .ok (.bipush 6, 2) := by decide +kernel
theorem dX9_init_71 : decode cX9_init 71 = .ok (.newarray .int, 2) := by decide +kernel
theorem dX9_init_73 : decode cX9_init 73 = .ok (.putfield 35, 3) := by decide +kernel
theorem dX9_init_76 : decode cX9_init 76 = .ok (.aload_n 0, 1) := by decide +kernel
theorem dX9_init_77 : decode cX9_init 77 = .ok (.bipush 6, 2) := by decide +kernel
theorem dX9_init_79 : decode cX9_init 79 = .ok (.newarray .int, 2) := by decide +kernel
theorem dX9_init_81 : decode cX9_init 81 = .ok (.putfield 38, 3) := by decide +kernel
theorem dX9_init_84 : decode cX9_init 84 = .ok (.aload_n 0, 1) := by decide +kernel
theorem dX9_init_85 : decode cX9_init 85 = .ok (.bipush 6, 2) := by decide +kernel
theorem dX9_init_87 : decode cX9_init 87 = .ok (.newarray .int, 2) := by decide +kernel
theorem dX9_init_89 : decode cX9_init 89 = .ok (.putfield 41, 3) := by decide +kernel
theorem dX9_init_92 : decode cX9_init 92 = .ok (.aload_n 0, 1) := by decide +kernel
theorem dX9_init_93 : decode cX9_init 93 = .ok (.bipush 6, 2) := by decide +kernel
theorem dX9_init_95 : decode cX9_init 95 = .ok (.newarray .int, 2) := by decide +kernel
theorem dX9_init_97 : decode cX9_init 97 = .ok (.putfield 44, 3) := by decide +kernel
theorem dX9_init_100 : decode cX9_init 100 = .ok (.aload_n 0, 1) := by decide +kernel
theorem dX9_init_101 : decode cX9_init 101 = .ok (.bipush 48, 2) := by decide +kernel
theorem dX9_init_103 : decode cX9_init 103 = .ok (.newarray .int, 2) := by decide +kernel
theorem dX9_init_105 : decode cX9_init 105 = .ok (.putfield 47, 3) := by decide +kernel
theorem dX9_init_108 : decode cX9_init 108 = .ok (.aload_n 0, 1) := by decide +kernel
theorem dX9_init_109 : decode cX9_init 109 = .ok (.bipush 6, 2) := by decide +kernel
theorem dX9_init_111 : decode cX9_init 111 = .ok (.newarray .int, 2) := by decide +kernel
theorem dX9_init_113 : decode cX9_init 113 = .ok (.putfield 50, 3) := by decide +kernel
theorem dX9_init_116 : decode cX9_init 116 = .ok (.aload_n 0, 1) := by decide +kernel
theorem dX9_init_117 : decode cX9_init 117 = .ok (.bipush 6, 2) := by decide +kernel
theorem dX9_init_119 : decode cX9_init 119 = .ok (.newarray .int, 2) := by decide +kernel
theorem dX9_init_121 : decode cX9_init 121 = .ok (.putfield 53, 3) := by decide +kernel
theorem dX9_init_124 : decode cX9_init 124 = .ok (.aload_n 0, 1) := by decide +kernel
theorem dX9_init_125 : decode cX9_init 125 = .ok (.bipush 6, 2) := by decide +kernel
theorem dX9_init_127 : decode cX9_init 127 = .ok (.newarray .int, 2) := by decide +kernel
theorem dX9_init_129 : decode cX9_init 129 = .ok (.putfield 56, 3) := by decide +kernel
theorem dX9_init_132 : decode cX9_init 132 = .ok (.aload_n 0, 1) := by decide +kernel
theorem dX9_init_133 : decode cX9_init 133 = .ok (.bipush 6, 2) := by decide +kernel
theorem dX9_init_135 : decode cX9_init 135 = .ok (.newarray .int, 2) := by decide +kernel
theorem dX9_init_137 : decode cX9_init 137 = .ok (.putfield 59, 3) := by decide +kernel
theorem dX9_init_140 : decode cX9_init 140 = .ok (.aload_n 0, 1) := by decide +kernel
theorem dX9_init_141 : decode cX9_init 141 = .ok (.bipush 10, 2) := by decide +kernel
theorem dX9_init_143 : decode cX9_init 143 = .ok (.newarray .int, 2) := by decide +kernel
theorem dX9_init_145 : decode cX9_init 145 = .ok (.putfield 62, 3) := by decide +kernel
theorem dX9_init_148 : decode cX9_init 148 = .ok (.aload_n 0, 1) := by decide +kernel
theorem dX9_init_149 : decode cX9_init 149 = .ok (.bipush 10, 2) := by decide +kernel
theorem dX9_init_151 : decode cX9_init 151 = .ok (.newarray .int, 2) := by decide +kernel
theorem dX9_init_153 : decode cX9_init 153 = .ok (.putfield 65, 3) := by decide +kernel
theorem dX9_init_156 : decode cX9_init 156 = .ok (.aload_n 0, 1) := by decide +kernel
theorem dX9_init_157 : decode cX9_init 157 = .ok (.bipush 10, 2) := by decide +kernel
theorem dX9_init_159 : decode cX9_init 159 = .ok (.newarray .int, 2) := by decide +kernel
theorem dX9_init_161 : decode cX9_init 161 = .ok (.putfield 68, 3) := by decide +kernel
theorem dX9_init_164 : decode cX9_init 164 = .ok (.aload_n 0, 1) := by decide +kernel
theorem dX9_init_165 : decode cX9_init 165 = .ok (.bipush 6, 2) := by decide +kernel
theorem dX9_init_167 : decode cX9_init 167 = .ok (.newarray .int, 2) := by decide +kernel
theorem dX9_init_169 : decode cX9_init 169 = .ok (.putfield 71, 3) := by decide +kernel
theorem dX9_init_172 : decode cX9_init 172 = .ok (.aload_n 0, 1) := by decide +kernel
theorem dX9_init_173 : decode cX9_init 173 = .ok (.bipush 6, 2) := by decide +kernel
theorem dX9_init_175 : decode cX9_init 175 = .ok (.newarray .int, 2) := by decide +kernel
theorem dX9_init_177 : decode cX9_init 177 = .ok (.putfield 74, 3) := by decide +kernel
theorem dX9_init_180 : decode cX9_init 180 = .ok (.aload_n 0, 1) := by decide +kernel
theorem dX9_init_181 : decode cX9_init 181 = .ok (.bipush 6, 2) := by decide +kernel
theorem dX9_init_183 : decode cX9_init 183 = .ok (.newarray .int, 2) := by decide +kernel
theorem dX9_init_185 : decode cX9_init 185 = .ok (.putfield 77, 3) := by decide +kernel
theorem dX9_init_188 : decode cX9_init 188 = .ok (.aload_n 0, 1) := by decide +kernel
theorem dX9_init_189 : decode cX9_init 189 = .ok (.bipush 6, 2) := by decide +kernel
theorem dX9_init_191 : decode cX9_init 191 = .ok (.newarray .int, 2) := by decide +kernel
theorem dX9_init_193 : decode cX9_init 193 = .ok (.putfield 80, 3) := by decide +kernel
theorem dX9_init_196 : decode cX9_init 196 = .ok (.aload_n 0, 1) := by decide +kernel
theorem dX9_init_197 : decode cX9_init 197 = .ok (.sipush 876, 3) := by decide +kernel
theorem dX9_init_200 : decode cX9_init 200 = .ok (.newarray .int, 2) := by decide +kernel
theorem dX9_init_202 : decode cX9_init 202 = .ok (.putfield 83, 3) := by decide +kernel
theorem dX9_init_205 : decode cX9_init 205 = .ok (.aload_n 0, 1) := by decide +kernel
theorem dX9_init_206 : decode cX9_init 206 = .ok (.sipush 146, 3) := by decide +kernel
theorem dX9_init_209 : decode cX9_init 209 = .ok (.newarray .int, 2) := by decide +kernel
theorem dX9_init_211 : decode cX9_init 211 = .ok (.putfield 86, 3) := by decide +kernel
theorem dX9_init_214 : decode cX9_init 214 = .ok (.aload_n 0, 1) := by decide +kernel
theorem dX9_init_215 : decode cX9_init 215 = .ok (.bipush 20, 2) := by decide +kernel
theorem dX9_init_217 : decode cX9_init 217 = .ok (.newarray .boolean, 2) := by decide +kernel
theorem dX9_init_219 : decode cX9_init 219 = .ok (.putfield 89, 3) := by decide +kernel
theorem dX9_init_222 : decode cX9_init 222 = .ok (.aload_n 0, 1) := by decide +kernel
theorem dX9_init_223 : decode cX9_init 223 = .ok (.iconst 2, 1) := by decide +kernel
theorem dX9_init_224 : decode cX9_init 224 = .ok (.newarray .boolean, 2) := by decide +kernel
theorem dX9_init_226 : decode cX9_init 226 = .ok (.putfield 92, 3) := by decide +kernel
theorem dX9_init_229 : decode cX9_init 229 = .ok (.aload_n 0, 1) := by decide +kernel
theorem dX9_init_230 : decode cX9_init 230 = .ok (.bipush 6, 2) := by decide +kernel
theorem dX9_init_232 : decode cX9_init 232 = .ok (.newarray .int, 2) := by decide +kernel
theorem dX9_init_234 : decode cX9_init 234 = .ok (.putfield 95, 3) := by decide +kernel
theorem dX9_init_237 : decode cX9_init 237 = .ok (.aload_n 0, 1) := by decide +kernel
theorem dX9_init_238 : decode cX9_init 238 = .ok (.bipush 6, 2) := by decide +kernel
theorem dX9_init_240 : decode cX9_init 240 = .ok (.newarray .int, 2) := by decide +kernel
theorem dX9_init_242 : decode cX9_init 242 = .ok (.putfield 98, 3) := by decide +kernel
theorem dX9_init_245 : decode cX9_init 245 = .ok (.aload_n 0, 1) := by decide +kernel
theorem dX9_init_246 : decode cX9_init 246 = .ok (.bipush 6, 2) := by decide +kernel
theorem dX9_init_248 : decode cX9_init 248 = .ok (.newarray .int, 2) := by decide +kernel
theorem dX9_init_250 : decode cX9_init 250 = .ok (.putfield 101, 3) := by decide +kernel
theorem dX9_init_253 : decode cX9_init 253 = .ok (.aload_n 0, 1) := by decide +kernel
theorem dX9_init_254 : decode cX9_init 254 = .ok (.bipush 8, 2) := by decide +kernel
theorem dX9_init_256 : decode cX9_init 256 = .ok (.newarray .int, 2) := by decide +kernel
theorem dX9_init_258 : decode cX9_init 258 = .ok (.putfield 104, 3) := by decide +kernel
theorem dX9_init_261 : decode cX9_init 261 = .ok (.aload_n 0, 1) := by decide +kernel
theorem dX9_init_262 : decode cX9_init 262 = .ok (.bipush 8, 2) := by decide +kernel
theorem dX9_init_264 : decode cX9_init 264 = .ok (.newarray .int, 2) := by decide +kernel
theorem dX9_init_266 : decode cX9_init 266 = .ok (.putfield 107, 3) := by decide +kernel
theorem dX9_init_269 : decode cX9_init 269 = .ok (.aload_n 0, 1) := by decide +kernel
theorem dX9_init_270 : decode cX9_init 270 = .ok (.bipush 6, 2) := by decide +kernel
theorem dX9_init_272 : decode cX9_init 272 = .ok (.newarray .long, 2) := by decide +kernel
theorem dX9_init_274 : decode cX9_init 274 = .ok (.putfield 110, 3) := by decide +kernel
theorem dX9_init_277 : decode cX9_init 277 = .ok (.aload_n 0, 1) := by decide +kernel
theorem dX9_init_278 : decode cX9_init 278 = .ok (.bipush 6, 2) := by decide +kernel
theorem dX9_init_280 : decode cX9_init 280 = .ok (.newarray .long, 2) := by decide +kernel
theorem dX9_init_282 : decode cX9_init 282 = .ok (.putfield 114, 3) := by decide +kernel
theorem dX9_init_285 : decode cX9_init 285 = .ok (.return_, 1) := by decide +kernel
theorem dX9_in_0 : decode cX9_in 0 = .ok (.lload_n 0, 1) := by decide +kernel
theorem dX9_in_1 : decode cX9_in 1 = .ok (.lload_n 2, 1) := by decide +kernel
theorem dX9_in_2 : decode cX9_in 2 = .ok (.lcmp, 1) := by decide +kernel
theorem dX9_in_3 : decode cX9_in 3 = .ok (.ifCond .lt 14, 3) := by decide +kernel
theorem dX9_in_6 : decode cX9_in 6 = .ok (.lload_n 0, 1) := by decide +kernel
theorem dX9_in_7 : decode cX9_in 7 = .ok (.lload 4, 2) := by decide +kernel
theorem dX9_in_9 : decode cX9_in 9 = .ok (.lcmp, 1) := by decide +kernel
theorem dX9_in_10 : decode cX9_in 10 = .ok (.ifCond .gt 7, 3) := by decide +kernel
theorem dX9_in_13 : decode cX9_in 13 = .ok (.iconst 1, 1) := by decide +kernel
theorem dX9_in_14 : decode cX9_in 14 = .ok (.goto 4, 3) := by decide +kernel
theorem dX9_in_17 : decode cX9_in 17 = .ok (.iconst 0, 1) := by decide +kernel
theorem dX9_in_18 : decode cX9_in 18 = .ok (.ireturn, 1) := by decide +kernel
theorem dX9_has_0 : decode cX9_has 0 = .ok (.iload_n 0, 1) := by decide +kernel
theorem dX9_has_1 : decode cX9_has 1 = .ok (.iload_n 1, 1) := by decide +kernel
theorem dX9_has_2 : decode cX9_has 2 = .ok (.ishr, 1) := by decide +kernel
theorem dX9_has_3 : decode cX9_has 3 = .ok (.iconst 1, 1) := by decide +kernel
theorem dX9_has_4 : decode cX9_has 4 = .ok (.iand, 1) := by decide +kernel
theorem dX9_has_5 : decode cX9_has 5 = .ok (.iconst 1, 1) := by decide +kernel
theorem dX9_has_6 : decode cX9_has 6 = .ok (.if_icmp .ne 7, 3) := by decide +kernel
theorem dX9_has_9 : decode cX9_has 9 = .ok (.iconst 1, 1) := by decide +kernel
theorem dX9_has_10 : decode cX9_has 10 = .ok (.goto 4, 3) := by decide +kernel
theorem dX9_has_13 : decode cX9_has 13 = .ok (.iconst 0, 1) := by decide +kernel
theorem dX9_has_14 : decode cX9_has 14 = .ok (.ireturn, 1) := by decide +kernel
theorem dX9_noHouse_0 : decode cX9_noHouse 0 = .ok (.iload_n 1, 1) := by decide +kernel
theorem dX9_noHouse_1 : decode cX9_noHouse 1 = .ok (.i2l, 1) := by decide +kernel
theorem dX9_noHouse_2 : decode cX9_noHouse 2 = .ok (.lconst 0, 1) := by decide +kernel
theorem dX9_noHouse_3 : decode cX9_noHouse 3 = .ok (.aload_n 0, 1) := by decide +kernel
theorem dX9_noHouse_4 : decode cX9_noHouse 4 = .ok (.getfield 121, 3) := by decide +kernel
theorem dX9_noHouse_7 : decode cX9_noHouse 7 = .ok (.iconst 1, 1) := by decide +kernel
theorem dX9_noHouse_8 : decode cX9_noHouse 8 = .ok (.isub, 1) := by decide +kernel
theorem dX9_noHouse_9 : decode cX9_noHouse 9 = .ok (.i2l, 1) := by decide +kernel
theorem dX9_noHouse_10 : decode cX9_noHouse 10 = .ok (.invokestatic 124, 3) := by decide +kernel
theorem dX9_noHouse_13 : decode cX9_noHouse 13 = .ok (.ifCond .ne 7, 3) := by decide +kernel
theorem dX9_noHouse_16 : decode cX9_noHouse 16 = .ok (.iconst 1, 1) := by decide +kernel
theorem dX9_noHouse_17 : decode cX9_noHouse 17 = .ok (.goto 4, 3) := by decide +kernel
theorem dX9_noHouse_20 : decode cX9_noHouse 20 = .ok (.iconst 0, 1) := by decide +kernel
theorem dX9_noHouse_21 : decode cX9_noHouse 21 = .ok (.ireturn, 1) := by decide +kernel
theorem dX9_noPiece_0 : decode cX9_noPiece 0 = .ok (.iload_n 1, 1) := by decide +kernel
theorem dX9_noPiece_1 : decode cX9_noPiece 1 = .ok (.i2l, 1) := by decide +kernel
theorem dX9_noPiece_2 : decode cX9_noPiece 2 = .ok (.lconst 0, 1) := by decide +kernel
theorem dX9_noPiece_3 : decode cX9_noPiece 3 = .ok (.aload_n 0, 1) := by decide +kernel
theorem dX9_noPiece_4 : decode cX9_noPiece 4 = .ok (.getfield 128, 3) := by decide +kernel
theorem dX9_noPiece_7 : decode cX9_noPiece 7 = .ok (.iconst 1, 1) := by decide +kernel
theorem dX9_noPiece_8 : decode cX9_noPiece 8 = .ok (.isub, 1) := by decide +kernel
theorem dX9_noPiece_9 : decode cX9_noPiece 9 = .ok (.i2l, 1) := by decide +kernel
theorem dX9_noPiece_10 : decode cX9_noPiece 10 = .ok (.invokestatic 124, 3) := by decide +kernel
theorem dX9_noPiece_13 : decode cX9_noPiece 13 = .ok (.ifCond .ne 7, 3) := by decide +kernel
theorem dX9_noPiece_16 : decode cX9_noPiece 16 = .ok (.iconst 1, 1) := by decide +kernel
theorem dX9_noPiece_17 : decode cX9_noPiece 17 = .ok (.goto 4, 3) := by decide +kernel
theorem dX9_noPiece_20 : decode cX9_noPiece 20 = .ok (.iconst 0, 1) := by decide +kernel
theorem dX9_noPiece_21 : decode cX9_noPiece 21 = .ok (.ireturn, 1) := by decide +kernel
theorem dX9_noFlood_0 : decode cX9_noFlood 0 = .ok (.iload_n 0, 1) := by decide +kernel
theorem dX9_noFlood_1 : decode cX9_noFlood 1 = .ok (.i2l, 1) := by decide +kernel
theorem dX9_noFlood_2 : decode cX9_noFlood 2 = .ok (.lconst 0, 1) := by decide +kernel
theorem dX9_noFlood_3 : decode cX9_noFlood 3 = .ok (.ldc2_w 131, 3) := by decide +kernel
theorem dX9_noFlood_6 : decode cX9_noFlood 6 = .ok (.invokestatic 124, 3) := by decide +kernel
theorem dX9_noFlood_9 : decode cX9_noFlood 9 = .ok (.ifCond .eq 15, 3) := by decide +kernel
theorem dX9_noFlood_12 : decode cX9_noFlood 12 = .ok (.iload_n 1, 1) := by decide +kernel
theorem dX9_noFlood_13 : decode cX9_noFlood 13 = .ok (.i2l, 1) := by decide +kernel
theorem dX9_noFlood_14 : decode cX9_noFlood 14 = .ok (.lconst 1, 1) := by decide +kernel
theorem dX9_noFlood_15 : decode cX9_noFlood 15 = .ok (.ldc2_w 133, 3) := by decide +kernel
theorem dX9_noFlood_18 : decode cX9_noFlood 18 = .ok (.invokestatic 124, 3) := by decide +kernel
theorem dX9_noFlood_21 : decode cX9_noFlood 21 = .ok (.ifCond .ne 7, 3) := by decide +kernel
theorem dX9_noFlood_24 : decode cX9_noFlood 24 = .ok (.iconst 1, 1) := by decide +kernel
theorem dX9_noFlood_25 : decode cX9_noFlood 25 = .ok (.goto 4, 3) := by decide +kernel
theorem dX9_noFlood_28 : decode cX9_noFlood 28 = .ok (.iconst 0, 1) := by decide +kernel
theorem dX9_noFlood_29 : decode cX9_noFlood 29 = .ok (.ireturn, 1) := by decide +kernel
theorem dX9_write_0 : decode cX9_write 0 = .ok (.aload_n 0, 1) := by decide +kernel
theorem dX9_write_1 : decode cX9_write 1 = .ok (.iconst 0, 1) := by decide +kernel
theorem dX9_write_2 : decode cX9_write 2 = .ok (.putfield 117, 3) := by decide +kernel
theorem dX9_write_5 : decode cX9_write 5 = .ok (.iload_n 1, 1) := by decide +kernel
theorem dX9_write_6 : decode cX9_write 6 = .ok (.i2l, 1) := by decide +kernel
theorem dX9_write_7 : decode cX9_write 7 = .ok (.lconst 1, 1) := by decide +kernel
theorem dX9_write_8 : decode cX9_write 8 = .ok (.ldc2_w 135, 3) := by decide +kernel
theorem dX9_write_11 : decode cX9_write 11 = .ok (.invokestatic 124, 3) := by decide +kernel
theorem dX9_write_14 : decode cX9_write 14 = .ok (.ifCond .ne 6, 3) := by decide +kernel
theorem dX9_write_17 : decode cX9_write 17 = .ok (.bipush (-2), 2) := by decide +kernel
theorem dX9_write_19 : decode cX9_write 19 = .ok (.ireturn, 1) := by decide +kernel
theorem dX9_write_20 : decode cX9_write 20 = .ok (.aload_n 0, 1) := by decide +kernel
theorem dX9_write_21 : decode cX9_write 21 = .ok (.getfield 137, 3) := by decide +kernel
theorem dX9_write_24 : decode cX9_write 24 = .ok (.iload_n 1, 1) := by decide +kernel
theorem dX9_write_25 : decode cX9_write 25 = .ok (.iadd, 1) := by decide +kernel
theorem dX9_write_26 : decode cX9_write 26 = .ok (.bipush 96, 2) := by decide +kernel
theorem dX9_write_28 : decode cX9_write 28 = .ok (.if_icmp .le 6, 3) := by decide +kernel
theorem dX9_write_31 : decode cX9_write 31 = .ok (.bipush (-4), 2) := by decide +kernel
theorem dX9_write_33 : decode cX9_write 33 = .ok (.ireturn, 1) := by decide +kernel
theorem dX9_write_34 : decode cX9_write 34 = .ok (.iload_n 1, 1) := by decide +kernel
theorem dX9_write_35 : decode cX9_write 35 = .ok (.iconst 1, 1) := by decide +kernel
theorem dX9_write_36 : decode cX9_write 36 = .ok (.isub, 1) := by decide +kernel
theorem dX9_write_37 : decode cX9_write 37 = .ok (.istore 4, 2) := by decide +kernel
theorem dX9_write_39 : decode cX9_write 39 = .ok (.iload 4, 2) := by decide +kernel
theorem dX9_write_41 : decode cX9_write 41 = .ok (.ifCond .lt 40, 3) := by decide +kernel
theorem dX9_write_44 : decode cX9_write 44 = .ok (.aload_n 0, 1) := by decide +kernel
theorem dX9_write_45 : decode cX9_write 45 = .ok (.getfield 7, 3) := by decide +kernel
theorem dX9_write_48 : decode cX9_write 48 = .ok (.aload_n 0, 1) := by decide +kernel
theorem dX9_write_49 : decode cX9_write 49 = .ok (.getfield 137, 3) := by decide +kernel
theorem dX9_write_52 : decode cX9_write 52 = .ok (.lload_n 2, 1) := by decide +kernel
theorem dX9_write_53 : decode cX9_write 53 = .ok (.bipush 8, 2) := by decide +kernel
theorem dX9_write_55 : decode cX9_write 55 = .ok (.iload 4, 2) := by decide +kernel
theorem dX9_write_57 : decode cX9_write 57 = .ok (.imul, 1) := by decide +kernel
theorem dX9_write_58 : decode cX9_write 58 = .ok (.lshr, 1) := by decide +kernel
theorem dX9_write_59 : decode cX9_write 59 = .ok (.l2i, 1) := by decide +kernel
theorem dX9_write_60 : decode cX9_write 60 = .ok (.sipush 255, 3) := by decide +kernel
theorem dX9_write_63 : decode cX9_write 63 = .ok (.iand, 1) := by decide +kernel
theorem dX9_write_64 : decode cX9_write 64 = .ok (.iastore, 1) := by decide +kernel
theorem dX9_write_65 : decode cX9_write 65 = .ok (.aload_n 0, 1) := by decide +kernel
theorem dX9_write_66 : decode cX9_write 66 = .ok (.dup, 1) := by decide +kernel
theorem dX9_write_67 : decode cX9_write 67 = .ok (.getfield 137, 3) := by decide +kernel
theorem dX9_write_70 : decode cX9_write 70 = .ok (.iconst 1, 1) := by decide +kernel
theorem dX9_write_71 : decode cX9_write 71 = .ok (.iadd, 1) := by decide +kernel
theorem dX9_write_72 : decode cX9_write 72 = .ok (.putfield 137, 3) := by decide +kernel
theorem dX9_write_75 : decode cX9_write 75 = .ok (.iinc 4 (-1), 3) := by decide +kernel
theorem dX9_write_78 : decode cX9_write 78 = .ok (.goto (-39), 3) := by decide +kernel
theorem dX9_write_81 : decode cX9_write 81 = .ok (.aload_n 0, 1) := by decide +kernel
theorem dX9_write_82 : decode cX9_write 82 = .ok (.getfield 137, 3) := by decide +kernel
theorem dX9_write_85 : decode cX9_write 85 = .ok (.ireturn, 1) := by decide +kernel
theorem dX9_wipe_0 : decode cX9_wipe 0 = .ok (.aload_n 0, 1) := by decide +kernel
theorem dX9_wipe_1 : decode cX9_wipe 1 = .ok (.iconst 0, 1) := by decide +kernel
theorem dX9_wipe_2 : decode cX9_wipe 2 = .ok (.putfield 117, 3) := by decide +kernel
theorem dX9_wipe_5 : decode cX9_wipe 5 = .ok (.aload_n 0, 1) := by decide +kernel
theorem dX9_wipe_6 : decode cX9_wipe 6 = .ok (.getfield 137, 3) := by decide +kernel
theorem dX9_wipe_9 : decode cX9_wipe 9 = .ok (.istore_n 1, 1) := by decide +kernel
theorem dX9_wipe_10 : decode cX9_wipe 10 = .ok (.aload_n 0, 1) := by decide +kernel
theorem dX9_wipe_11 : decode cX9_wipe 11 = .ok (.iconst 0, 1) := by decide +kernel
theorem dX9_wipe_12 : decode cX9_wipe 12 = .ok (.putfield 137, 3) := by decide +kernel
theorem dX9_wipe_15 : decode cX9_wipe 15 = .ok (.iload_n 1, 1) := by decide +kernel
theorem dX9_wipe_16 : decode cX9_wipe 16 = .ok (.ireturn, 1) := by decide +kernel
theorem dX9_figure_0 : decode cX9_figure 0 = .ok (.aload_n 0, 1) := by decide +kernel
theorem dX9_figure_1 : decode cX9_figure 1 = .ok (.getfield 140, 3) := by decide +kernel
theorem dX9_figure_4 : decode cX9_figure 4 = .ok (.aload_n 0, 1) := by decide +kernel
theorem dX9_figure_5 : decode cX9_figure 5 = .ok (.getfield 137, 3) := by decide +kernel
theorem dX9_figure_8 : decode cX9_figure 8 = .ok (.if_icmp .eq 26, 3) := by decide +kernel
theorem dX9_figure_11 : decode cX9_figure 11 = .ok (.aload_n 0, 1) := by decide +kernel
theorem dX9_figure_12 : decode cX9_figure 12 = .ok (.getfield 7, 3) := by decide +kernel
theorem dX9_figure_15 : decode cX9_figure 15 = .ok (.aload_n 0, 1) := by decide +kernel
theorem dX9_figure_16 : decode cX9_figure 16 = .ok (.getfield 140, 3) := by decide +kernel
theorem dX9_figure_19 : decode cX9_figure 19 = .ok (.iaload, 1) := by decide +kernel
theorem dX9_figure_20 : decode cX9_figure 20 = .ok (.bipush 48, 2) := by decide +kernel
theorem dX9_figure_22 : decode cX9_figure 22 = .ok (.isub, 1) := by decide +kernel
theorem dX9_figure_23 : decode cX9_figure 23 = .ok (.i2l, 1) := by decide +kernel
theorem dX9_figure_24 : decode cX9_figure 24 = .ok (.iload_n 1, 1) := by decide +kernel
theorem dX9_figure_25 : decode cX9_figure 25 = .ok (.i2l, 1) := by decide +kernel
theorem dX9_figure_26 : decode cX9_figure 26 = .ok (.iload_n 2, 1) := by decide +kernel
theorem dX9_figure_27 : decode cX9_figure 27 = .ok (.i2l, 1) := by decide +kernel
theorem dX9_figure_28 : decode cX9_figure 28 = .ok (.invokestatic 124, 3) := by decide +kernel
theorem dX9_figure_31 : decode cX9_figure 31 = .ok (.ifCond .ne 6, 3) := by decide +kernel
theorem dX9_figure_34 : decode cX9_figure 34 = .ok (.bipush (-9), 2) := by decide +kernel
theorem dX9_figure_36 : decode cX9_figure 36 = .ok (.ireturn, 1) := by decide +kernel
theorem dX9_figure_37 : decode cX9_figure 37 = .ok (.aload_n 0, 1) := by decide +kernel
theorem dX9_figure_38 : decode cX9_figure 38 = .ok (.dup, 1) := by decide +kernel
theorem dX9_figure_39 : decode cX9_figure 39 = .ok (.getfield 140, 3) := by decide +kernel
theorem dX9_figure_42 : decode cX9_figure 42 = .ok (.iconst 1, 1) := by decide +kernel
theorem dX9_figure_43 : decode cX9_figure 43 = .ok (.iadd, 1) := by decide +kernel
theorem dX9_figure_44 : decode cX9_figure 44 = .ok (.putfield 140, 3) := by decide +kernel
theorem dX9_figure_47 : decode cX9_figure 47 = .ok (.aload_n 0, 1) := by decide +kernel
theorem dX9_figure_48 : decode cX9_figure 48 = .ok (.getfield 7, 3) := by decide +kernel
theorem dX9_figure_51 : decode cX9_figure 51 = .ok (.aload_n 0, 1) := by decide +kernel
theorem dX9_figure_52 : decode cX9_figure 52 = .ok (.getfield 140, 3) := by decide +kernel
theorem dX9_figure_55 : decode cX9_figure 55 = .ok (.iconst 1, 1) := by decide +kernel
theorem dX9_figure_56 : decode cX9_figure 56 = .ok (.isub, 1) := by decide +kernel
theorem dX9_figure_57 : decode cX9_figure 57 = .ok (.iaload, 1) := by decide +kernel
theorem dX9_figure_58 : decode cX9_figure 58 = .ok (.bipush 48, 2) := by decide +kernel
theorem dX9_figure_60 : decode cX9_figure 60 = .ok (.isub, 1) := by decide +kernel
theorem dX9_figure_61 : decode cX9_figure 61 = .ok (.ireturn, 1) := by decide +kernel
theorem dX9_readHouse_0 : decode cX9_readHouse 0 = .ok (.aload_n 0, 1) := by decide +kernel
theorem dX9_readHouse_1 : decode cX9_readHouse 1 = .ok (.iconst 0, 1) := by decide +kernel
theorem dX9_readHouse_2 : decode cX9_readHouse 2 = .ok (.bipush 9, 2) := by decide +kernel
theorem dX9_readHouse_4 : decode cX9_readHouse 4 = .ok (.invokevirtual 143, 3) := by decide +kernel
theorem dX9_readHouse_7 : decode cX9_readHouse 7 = .ok (.istore_n 1, 1) := by decide +kernel
theorem dX9_readHouse_8 : decode cX9_readHouse 8 = .ok (.iload_n 1, 1) := by decide +kernel
theorem dX9_readHouse_9 : decode cX9_readHouse 9 = .ok (.bipush (-9), 2) := by decide +kernel
theorem dX9_readHouse_11 : decode cX9_readHouse 11 = .ok (.if_icmp .ne 8, 3) := by decide +kernel
theorem dX9_readHouse_14 : decode cX9_readHouse 14 = .ok (.bipush (-9), 2) := by decide +kernel
theorem dX9_readHouse_16 : decode cX9_readHouse 16 = .ok (.goto 10, 3) := by decide +kernel
theorem dX9_readHouse_19 : decode cX9_readHouse 19 = .ok (.aload_n 0, 1) := by decide +kernel
theorem dX9_readHouse_20 : decode cX9_readHouse 20 = .ok (.iconst 1, 1) := by decide +kernel
theorem dX9_readHouse_21 : decode cX9_readHouse 21 = .ok (.bipush 9, 2) := by decide +kernel
theorem dX9_readHouse_23 : decode cX9_readHouse 23 = .ok (.invokevirtual 143, 3) := by decide +kernel
theorem dX9_readHouse_26 : decode cX9_readHouse 26 = .ok (.istore_n 2, 1) := by decide +kernel
theorem dX9_readHouse_27 : decode cX9_readHouse 27 = .ok (.iload_n 2, 1) := by decide +kernel
theorem dX9_readHouse_28 : decode cX9_readHouse 28 = .ok (.bipush (-9), 2) := by decide +kernel
theorem dX9_readHouse_30 : decode cX9_readHouse 30 = .ok (.if_icmp .ne 5, 3) := by decide +kernel
theorem dX9_readHouse_33 : decode cX9_readHouse 33 = .ok (.iconst 0, 1) := by decide +kernel
theorem dX9_readHouse_34 : decode cX9_readHouse 34 = .ok (.ireturn, 1) := by decide +kernel
theorem dX9_readHouse_35 : decode cX9_readHouse 35 = .ok (.aload_n 0, 1) := by decide +kernel
theorem dX9_readHouse_36 : decode cX9_readHouse 36 = .ok (.getfield 56, 3) := by decide +kernel
theorem dX9_readHouse_39 : decode cX9_readHouse 39 = .ok (.aload_n 0, 1) := by decide +kernel
theorem dX9_readHouse_40 : decode cX9_readHouse 40 = .ok (.getfield 147, 3) := by decide +kernel
theorem dX9_readHouse_43 : decode cX9_readHouse 43 = .ok (.iload_n 1, 1) := by decide +kernel
theorem dX9_readHouse_44 : decode cX9_readHouse 44 = .ok (.iastore, 1) := by decide +kernel
theorem dX9_readHouse_45 : decode cX9_readHouse 45 = .ok (.aload_n 0, 1) := by decide +kernel
theorem dX9_readHouse_46 : decode cX9_readHouse 46 = .ok (.getfield 59, 3) := by decide +kernel
theorem dX9_readHouse_49 : decode cX9_readHouse 49 = .ok (.aload_n 0, 1) := by decide +kernel
theorem dX9_readHouse_50 : decode cX9_readHouse 50 = .ok (.getfield 147, 3) := by decide +kernel
theorem dX9_readHouse_53 : decode cX9_readHouse 53 = .ok (.iload_n 2, 1) := by decide +kernel
theorem dX9_readHouse_54 : decode cX9_readHouse 54 = .ok (.iastore, 1) := by decide +kernel
theorem dX9_readHouse_55 : decode cX9_readHouse 55 = .ok (.aload_n 0, 1) := by decide +kernel
theorem dX9_readHouse_56 : decode cX9_readHouse 56 = .ok (.dup, 1) := by decide +kernel
theorem dX9_readHouse_57 : decode cX9_readHouse 57 = .ok (.getfield 147, 3) := by decide +kernel
theorem dX9_readHouse_60 : decode cX9_readHouse 60 = .ok (.iconst 1, 1) := by decide +kernel
theorem dX9_readHouse_61 : decode cX9_readHouse 61 = .ok (.iadd, 1) := by decide +kernel
theorem dX9_readHouse_62 : decode cX9_readHouse 62 = .ok (.putfield 147, 3) := by decide +kernel
theorem dX9_readHouse_65 : decode cX9_readHouse 65 = .ok (.iconst 1, 1) := by decide +kernel
theorem dX9_readHouse_66 : decode cX9_readHouse 66 = .ok (.ireturn, 1) := by decide +kernel
theorem dX9_leftOf_0 : decode cX9_leftOf 0 = .ok (.bipush 10, 2) := by decide +kernel
theorem dX9_leftOf_2 : decode cX9_leftOf 2 = .ok (.istore_n 2, 1) := by decide +kernel
theorem dX9_leftOf_3 : decode cX9_leftOf 3 = .ok (.iconst 0, 1) := by decide +kernel
theorem dX9_leftOf_4 : decode cX9_leftOf 4 = .ok (.istore_n 3, 1) := by decide +kernel
theorem dX9_leftOf_5 : decode cX9_leftOf 5 = .ok (.iload_n 3, 1) := by decide +kernel
theorem dX9_leftOf_6 : decode cX9_leftOf 6 = .ok (.aload_n 0, 1) := by decide +kernel
theorem dX9_leftOf_7 : decode cX9_leftOf 7 = .ok (.getfield 150, 3) := by decide +kernel
theorem dX9_leftOf_10 : decode cX9_leftOf 10 = .ok (.if_icmp .ge 32, 3) := by decide +kernel
theorem dX9_leftOf_13 : decode cX9_leftOf 13 = .ok (.iload_n 2, 1) := by decide +kernel
theorem dX9_leftOf_14 : decode cX9_leftOf 14 = .ok (.aload_n 0, 1) := by decide +kernel
theorem dX9_leftOf_15 : decode cX9_leftOf 15 = .ok (.getfield 62, 3) := by decide +kernel
theorem dX9_leftOf_18 : decode cX9_leftOf 18 = .ok (.iload_n 3, 1) := by decide +kernel
theorem dX9_leftOf_19 : decode cX9_leftOf 19 = .ok (.iaload, 1) := by decide +kernel
theorem dX9_leftOf_20 : decode cX9_leftOf 20 = .ok (.iload_n 1, 1) := by decide +kernel
theorem dX9_leftOf_21 : decode cX9_leftOf 21 = .ok (.if_icmp .ne 12, 3) := by decide +kernel
theorem dX9_leftOf_24 : decode cX9_leftOf 24 = .ok (.aload_n 0, 1) := by decide +kernel
theorem dX9_leftOf_25 : decode cX9_leftOf 25 = .ok (.getfield 68, 3) := by decide +kernel
theorem dX9_leftOf_28 : decode cX9_leftOf 28 = .ok (.iload_n 3, 1) := by decide +kernel
theorem dX9_leftOf_29 : decode cX9_leftOf 29 = .ok (.iaload, 1) := by decide +kernel
theorem dX9_leftOf_30 : decode cX9_leftOf 30 = .ok (.goto 4, 3) := by decide +kernel
theorem dX9_leftOf_33 : decode cX9_leftOf 33 = .ok (.iconst 0, 1) := by decide +kernel
theorem dX9_leftOf_34 : decode cX9_leftOf 34 = .ok (.isub, 1) := by decide +kernel
theorem dX9_leftOf_35 : decode cX9_leftOf 35 = .ok (.istore_n 2, 1) := by decide +kernel
theorem dX9_leftOf_36 : decode cX9_leftOf 36 = .ok (.iinc 3 1, 3) := by decide +kernel
theorem dX9_leftOf_39 : decode cX9_leftOf 39 = .ok (.goto (-34), 3) := by decide +kernel
theorem dX9_leftOf_42 : decode cX9_leftOf 42 = .ok (.iload_n 2, 1) := by decide +kernel
theorem dX9_leftOf_43 : decode cX9_leftOf 43 = .ok (.ireturn, 1) := by decide +kernel
theorem dX9_isTold_0 : decode cX9_isTold 0 = .ok (.iconst 0, 1) := by decide +kernel
theorem dX9_isTold_1 : decode cX9_isTold 1 = .ok (.istore_n 3, 1) := by decide +kernel
theorem dX9_isTold_2 : decode cX9_isTold 2 = .ok (.iconst 0, 1) := by decide +kernel
theorem dX9_isTold_3 : decode cX9_isTold 3 = .ok (.istore 4, 2) := by decide +kernel
theorem dX9_isTold_5 : decode cX9_isTold 5 = .ok (.iload 4, 2) := by decide +kernel
theorem dX9_isTold_7 : decode cX9_isTold 7 = .ok (.aload_n 0, 1) := by decide +kernel
theorem dX9_isTold_8 : decode cX9_isTold 8 = .ok (.getfield 150, 3) := by decide +kernel
theorem dX9_isTold_11 : decode cX9_isTold 11 = .ok (.if_icmp .ge 41, 3) := by decide +kernel
theorem dX9_isTold_14 : decode cX9_isTold 14 = .ok (.iload_n 3, 1) := by decide +kernel
theorem dX9_isTold_15 : decode cX9_isTold 15 = .ok (.ifCond .ne 25, 3) := by decide +kernel
theorem dX9_isTold_18 : decode cX9_isTold 18 = .ok (.aload_n 0, 1) := by decide +kernel
theorem dX9_isTold_19 : decode cX9_isTold 19 = .ok (.getfield 62, 3) := by decide +kernel
theorem dX9_isTold_22 : decode cX9_isTold 22 = .ok (.iload 4, 2) := by decide +kernel
theorem dX9_isTold_24 : decode cX9_isTold 24 = .ok (.iaload, 1) := by decide +kernel
theorem dX9_isTold_25 : decode cX9_isTold 25 = .ok (.iload_n 1, 1) := by decide +kernel
theorem dX9_isTold_26 : decode cX9_isTold 26 = .ok (.if_icmp .ne 18, 3) := by decide +kernel
theorem dX9_isTold_29 : decode cX9_isTold 29 = .ok (.aload_n 0, 1) := by decide +kernel
theorem dX9_isTold_30 : decode cX9_isTold 30 = .ok (.getfield 65, 3) := by decide +kernel
theorem dX9_isTold_33 : decode cX9_isTold 33 = .ok (.iload 4, 2) := by decide +kernel
theorem dX9_isTold_35 : decode cX9_isTold 35 = .ok (.iaload, 1) := by decide +kernel
theorem dX9_isTold_36 : decode cX9_isTold 36 = .ok (.iload_n 2, 1) := by decide +kernel
theorem dX9_isTold_37 : decode cX9_isTold 37 = .ok (.if_icmp .ne 7, 3) := by decide +kernel
theorem dX9_isTold_40 : decode cX9_isTold 40 = .ok (.iconst 1, 1) := by decide +kernel
theorem dX9_isTold_41 : decode cX9_isTold 41 = .ok (.goto 4, 3) := by decide +kernel
theorem dX9_isTold_44 : decode cX9_isTold 44 = .ok (.iconst 0, 1) := by decide +kernel
theorem dX9_isTold_45 : decode cX9_isTold 45 = .ok (.istore_n 3, 1) := by decide +kernel
theorem dX9_isTold_46 : decode cX9_isTold 46 = .ok (.iinc 4 1, 3) := by decide +kernel
theorem dX9_isTold_49 : decode cX9_isTold 49 = .ok (.goto (-44), 3) := by decide +kernel
theorem dX9_isTold_52 : decode cX9_isTold 52 = .ok (.iload_n 3, 1) := by decide +kernel
theorem dX9_isTold_53 : decode cX9_isTold 53 = .ok (.ireturn, 1) := by decide +kernel
theorem dX9_hasMore_0 : decode cX9_hasMore 0 = .ok (.iconst 0, 1) := by decide +kernel
theorem dX9_hasMore_1 : decode cX9_hasMore 1 = .ok (.istore_n 2, 1) := by decide +kernel
theorem dX9_hasMore_2 : decode cX9_hasMore 2 = .ok (.iconst 0, 1) := by decide +kernel
theorem dX9_hasMore_3 : decode cX9_hasMore 3 = .ok (.istore_n 3, 1) := by decide +kernel
theorem dX9_hasMore_4 : decode cX9_hasMore 4 = .ok (.iload_n 3, 1) := by decide +kernel
theorem dX9_hasMore_5 : decode cX9_hasMore 5 = .ok (.aload_n 0, 1) := by decide +kernel
theorem dX9_hasMore_6 : decode cX9_hasMore 6 = .ok (.getfield 147, 3) := by decide +kernel
theorem dX9_hasMore_9 : decode cX9_hasMore 9 = .ok (.if_icmp .ge 33, 3) := by decide +kernel
theorem dX9_hasMore_12 : decode cX9_hasMore 12 = .ok (.iload_n 2, 1) := by decide +kernel
theorem dX9_hasMore_13 : decode cX9_hasMore 13 = .ok (.ifCond .ne 17, 3) := by decide +kernel
theorem dX9_hasMore_16 : decode cX9_hasMore 16 = .ok (.iload_n 1, 1) := by decide +kernel
theorem dX9_hasMore_17 : decode cX9_hasMore 17 = .ok (.iload_n 3, 1) := by decide +kernel
theorem dX9_hasMore_18 : decode cX9_hasMore 18 = .ok (.if_icmp .eq 16, 3) := by decide +kernel
theorem dX9_hasMore_21 : decode cX9_hasMore 21 = .ok (.aload_n 0, 1) := by decide +kernel
theorem dX9_hasMore_22 : decode cX9_hasMore 22 = .ok (.iload_n 1, 1) := by decide +kernel
theorem dX9_hasMore_23 : decode cX9_hasMore 23 = .ok (.iload_n 3, 1) := by decide +kernel
theorem dX9_hasMore_24 : decode cX9_hasMore 24 = .ok (.invokevirtual 153, 3) := by decide +kernel
theorem dX9_hasMore_27 : decode cX9_hasMore 27 = .ok (.ifCond .ne 7, 3) := by decide +kernel
theorem dX9_hasMore_30 : decode cX9_hasMore 30 = .ok (.iconst 1, 1) := by decide +kernel
theorem dX9_hasMore_31 : decode cX9_hasMore 31 = .ok (.goto 4, 3) := by decide +kernel
theorem dX9_hasMore_34 : decode cX9_hasMore 34 = .ok (.iconst 0, 1) := by decide +kernel
theorem dX9_hasMore_35 : decode cX9_hasMore 35 = .ok (.istore_n 2, 1) := by decide +kernel
theorem dX9_hasMore_36 : decode cX9_hasMore 36 = .ok (.iinc 3 1, 3) := by decide +kernel
theorem dX9_hasMore_39 : decode cX9_hasMore 39 = .ok (.goto (-35), 3) := by decide +kernel
theorem dX9_hasMore_42 : decode cX9_hasMore 42 = .ok (.iload_n 2, 1) := by decide +kernel
theorem dX9_hasMore_43 : decode cX9_hasMore 43 = .ok (.ifCond .eq 15, 3) := by decide +kernel
theorem dX9_hasMore_46 : decode cX9_hasMore 46 = .ok (.aload_n 0, 1) := by decide +kernel
theorem dX9_hasMore_47 : decode cX9_hasMore 47 = .ok (.iload_n 1, 1) := by decide +kernel
theorem dX9_hasMore_48 : decode cX9_hasMore 48 = .ok (.invokevirtual 157, 3) := by decide +kernel
theorem dX9_hasMore_51 : decode cX9_hasMore 51 = .ok (.ifCond .le 7, 3) := by decide +kernel
theorem dX9_hasMore_54 : decode cX9_hasMore 54 = .ok (.iconst 1, 1) := by decide +kernel
theorem dX9_hasMore_55 : decode cX9_hasMore 55 = .ok (.goto 4, 3) := by decide +kernel
theorem dX9_hasMore_58 : decode cX9_hasMore 58 = .ok (.iconst 0, 1) := by decide +kernel
theorem dX9_hasMore_59 : decode cX9_hasMore 59 = .ok (.ireturn, 1) := by decide +kernel
theorem dX9_hasAnyMore_0 : decode cX9_hasAnyMore 0 = .ok (.iconst 0, 1) := by decide +kernel
theorem dX9_hasAnyMore_1 : decode cX9_hasAnyMore 1 = .ok (.istore_n 1, 1) := by decide +kernel
theorem dX9_hasAnyMore_2 : decode cX9_hasAnyMore 2 = .ok (.iconst 0, 1) := by decide +kernel
theorem dX9_hasAnyMore_3 : decode cX9_hasAnyMore 3 = .ok (.istore_n 2, 1) := by decide +kernel
theorem dX9_hasAnyMore_4 : decode cX9_hasAnyMore 4 = .ok (.iload_n 2, 1) := by decide +kernel
theorem dX9_hasAnyMore_5 : decode cX9_hasAnyMore 5 = .ok (.aload_n 0, 1) := by decide +kernel
theorem dX9_hasAnyMore_6 : decode cX9_hasAnyMore 6 = .ok (.getfield 147, 3) := by decide +kernel
theorem dX9_hasAnyMore_9 : decode cX9_hasAnyMore 9 = .ok (.if_icmp .ge 27, 3) := by decide +kernel
theorem dX9_hasAnyMore_12 : decode cX9_hasAnyMore 12 = .ok (.iload_n 1, 1) := by decide +kernel
theorem dX9_hasAnyMore_13 : decode cX9_hasAnyMore 13 = .ok (.ifCond .ne 11, 3) := by decide +kernel
theorem dX9_hasAnyMore_16 : decode cX9_hasAnyMore 16 = .ok (.aload_n 0, 1) := by decide +kernel
theorem dX9_hasAnyMore_17 : decode cX9_hasAnyMore 17 = .ok (.iload_n 2, 1) := by decide +kernel
theorem dX9_hasAnyMore_18 : decode cX9_hasAnyMore 18 = .ok (.invokevirtual 161, 3) := by decide +kernel
theorem dX9_hasAnyMore_21 : decode cX9_hasAnyMore 21 = .ok (.ifCond .eq 7, 3) := by decide +kernel
theorem dX9_hasAnyMore_24 : decode cX9_hasAnyMore 24 = .ok (.iconst 1, 1) := by decide +kernel
theorem dX9_hasAnyMore_25 : decode cX9_hasAnyMore 25 = .ok (.goto 4, 3) := by decide +kernel
theorem dX9_hasAnyMore_28 : decode cX9_hasAnyMore 28 = .ok (.iconst 0, 1) := by decide +kernel
theorem dX9_hasAnyMore_29 : decode cX9_hasAnyMore 29 = .ok (.istore_n 1, 1) := by decide +kernel
theorem dX9_hasAnyMore_30 : decode cX9_hasAnyMore 30 = .ok (.iinc 2 1, 3) := by decide +kernel
theorem dX9_hasAnyMore_33 : decode cX9_hasAnyMore 33 = .ok (.goto (-29), 3) := by decide +kernel
theorem dX9_hasAnyMore_36 : decode cX9_hasAnyMore 36 = .ok (.iload_n 1, 1) := by decide +kernel
theorem dX9_hasAnyMore_37 : decode cX9_hasAnyMore 37 = .ok (.ireturn, 1) := by decide +kernel
theorem dX9_readStream_0 : decode cX9_readStream 0 = .ok (.aload_n 0, 1) := by decide +kernel
theorem dX9_readStream_1 : decode cX9_readStream 1 = .ok (.getfield 140, 3) := by decide +kernel
theorem dX9_readStream_4 : decode cX9_readStream 4 = .ok (.aload_n 0, 1) := by decide +kernel
theorem dX9_readStream_5 : decode cX9_readStream 5 = .ok (.getfield 137, 3) := by decide +kernel
theorem dX9_readStream_8 : decode cX9_readStream 8 = .ok (.if_icmp .ge 18, 3) := by decide +kernel
theorem dX9_readStream_11 : decode cX9_readStream 11 = .ok (.aload_n 0, 1) := by decide +kernel
theorem dX9_readStream_12 : decode cX9_readStream 12 = .ok (.getfield 7, 3) := by decide +kernel
theorem dX9_readStream_15 : decode cX9_readStream 15 = .ok (.aload_n 0, 1) := by decide +kernel
theorem dX9_readStream_16 : decode cX9_readStream 16 = .ok (.getfield 140, 3) := by decide +kernel
theorem dX9_readStream_19 : decode cX9_readStream 19 = .ok (.iaload, 1) := by decide +kernel
theorem dX9_readStream_20 : decode cX9_readStream 20 = .ok (.bipush 48, 2) := by decide +kernel
theorem dX9_readStream_22 : decode cX9_readStream 22 = .ok (.isub, 1) := by decide +kernel
theorem dX9_readStream_23 : decode cX9_readStream 23 = .ok (.goto 5, 3) := by decide +kernel
theorem dX9_readStream_26 : decode cX9_readStream 26 = .ok (.bipush (-9), 2) := by decide +kernel
theorem dX9_readStream_28 : decode cX9_readStream 28 = .ok (.istore_n 1, 1) := by decide +kernel
theorem dX9_readStream_29 : decode cX9_readStream 29 = .ok (.iload_n 1, 1) := by decide +kernel
theorem dX9_readStream_30 : decode cX9_readStream 30 = .ok (.i2l, 1) := by decide +kernel
theorem dX9_readStream_31 : decode cX9_readStream 31 = .ok (.lconst 0, 1) := by decide +kernel
theorem dX9_readStream_32 : decode cX9_readStream 32 = .ok (.aload_n 0, 1) := by decide +kernel
theorem dX9_readStream_33 : decode cX9_readStream 33 = .ok (.getfield 147, 3) := by decide +kernel
theorem dX9_readStream_36 : decode cX9_readStream 36 = .ok (.iconst 1, 1) := by decide +kernel
theorem dX9_readStream_37 : decode cX9_readStream 37 = .ok (.isub, 1) := by decide +kernel
theorem dX9_readStream_38 : decode cX9_readStream 38 = .ok (.i2l, 1) := by decide +kernel
theorem dX9_readStream_39 : decode cX9_readStream 39 = .ok (.invokestatic 124, 3) := by decide +kernel
theorem dX9_readStream_42 : decode cX9_readStream 42 = .ok (.ifCond .eq 11, 3) := by decide +kernel
theorem dX9_readStream_45 : decode cX9_readStream 45 = .ok (.aload_n 0, 1) := by decide +kernel
theorem dX9_readStream_46 : decode cX9_readStream 46 = .ok (.iload_n 1, 1) := by decide +kernel
theorem dX9_readStream_47 : decode cX9_readStream 47 = .ok (.invokevirtual 161, 3) := by decide +kernel
theorem dX9_readStream_50 : decode cX9_readStream 50 = .ok (.ifCond .ne 5, 3) := by decide +kernel
theorem dX9_readStream_53 : decode cX9_readStream 53 = .ok (.iconst 0, 1) := by decide +kernel
theorem dX9_readStream_54 : decode cX9_readStream 54 = .ok (.ireturn, 1) := by decide +kernel
theorem dX9_readStream_55 : decode cX9_readStream 55 = .ok (.aload_n 0, 1) := by decide +kernel
theorem dX9_readStream_56 : decode cX9_readStream 56 = .ok (.dup, 1) := by decide +kernel
theorem dX9_readStream_57 : decode cX9_readStream 57 = .ok (.getfield 140, 3) := by decide +kernel
theorem dX9_readStream_60 : decode cX9_readStream 60 = .ok (.iconst 1, 1) := by decide +kernel
theorem dX9_readStream_61 : decode cX9_readStream 61 = .ok (.iadd, 1) := by decide +kernel
theorem dX9_readStream_62 : decode cX9_readStream 62 = .ok (.putfield 140, 3) := by decide +kernel
theorem dX9_readStream_65 : decode cX9_readStream 65 = .ok (.aload_n 0, 1) := by decide +kernel
theorem dX9_readStream_66 : decode cX9_readStream 66 = .ok (.getfield 140, 3) := by decide +kernel
theorem dX9_readStream_69 : decode cX9_readStream 69 = .ok (.aload_n 0, 1) := by decide +kernel
theorem dX9_readStream_70 : decode cX9_readStream 70 = .ok (.getfield 137, 3) := by decide +kernel
theorem dX9_readStream_73 : decode cX9_readStream 73 = .ok (.if_icmp .ge 18, 3) := by decide +kernel
theorem dX9_readStream_76 : decode cX9_readStream 76 = .ok (.aload_n 0, 1) := by decide +kernel
theorem dX9_readStream_77 : decode cX9_readStream 77 = .ok (.getfield 7, 3) := by decide +kernel
theorem dX9_readStream_80 : decode cX9_readStream 80 = .ok (.aload_n 0, 1) := by decide +kernel
theorem dX9_readStream_81 : decode cX9_readStream 81 = .ok (.getfield 140, 3) := by decide +kernel
theorem dX9_readStream_84 : decode cX9_readStream 84 = .ok (.iaload, 1) := by decide +kernel
theorem dX9_readStream_85 : decode cX9_readStream 85 = .ok (.bipush 48, 2) := by decide +kernel
theorem dX9_readStream_87 : decode cX9_readStream 87 = .ok (.isub, 1) := by decide +kernel
theorem dX9_readStream_88 : decode cX9_readStream 88 = .ok (.goto 5, 3) := by decide +kernel
theorem dX9_readStream_91 : decode cX9_readStream 91 = .ok (.bipush (-9), 2) := by decide +kernel
theorem dX9_readStream_93 : decode cX9_readStream 93 = .ok (.istore_n 2, 1) := by decide +kernel
theorem dX9_readStream_94 : decode cX9_readStream 94 = .ok (.iload_n 2, 1) := by decide +kernel
theorem dX9_readStream_95 : decode cX9_readStream 95 = .ok (.i2l, 1) := by decide +kernel
theorem dX9_readStream_96 : decode cX9_readStream 96 = .ok (.lconst 0, 1) := by decide +kernel
theorem dX9_readStream_97 : decode cX9_readStream 97 = .ok (.aload_n 0, 1) := by decide +kernel
theorem dX9_readStream_98 : decode cX9_readStream 98 = .ok (.getfield 147, 3) := by decide +kernel
theorem dX9_readStream_101 : decode cX9_readStream 101 = .ok (.iconst 1, 1) := by decide +kernel
theorem dX9_readStream_102 : decode cX9_readStream 102 = .ok (.isub, 1) := by decide +kernel
theorem dX9_readStream_103 : decode cX9_readStream 103 = .ok (.i2l, 1) := by decide +kernel
theorem dX9_readStream_104 : decode cX9_readStream 104 = .ok (.invokestatic 124, 3) := by decide +kernel
theorem dX9_readStream_107 : decode cX9_readStream 107 = .ok (.ifCond .eq 17, 3) := by decide +kernel
theorem dX9_readStream_110 : decode cX9_readStream 110 = .ok (.iload_n 1, 1) := by decide +kernel
theorem dX9_readStream_111 : decode cX9_readStream 111 = .ok (.iload_n 2, 1) := by decide +kernel
theorem dX9_readStream_112 : decode cX9_readStream 112 = .ok (.if_icmp .eq 12, 3) := by decide +kernel
theorem dX9_readStream_115 : decode cX9_readStream 115 = .ok (.aload_n 0, 1) := by decide +kernel
theorem dX9_readStream_116 : decode cX9_readStream 116 = .ok (.iload_n 1, 1) := by decide +kernel
theorem dX9_readStream_117 : decode cX9_readStream 117 = .ok (.iload_n 2, 1) := by decide +kernel
theorem dX9_readStream_118 : decode cX9_readStream 118 = .ok (.invokevirtual 153, 3) := by decide +kernel
theorem dX9_readStream_121 : decode cX9_readStream 121 = .ok (.ifCond .eq 5, 3) := by decide +kernel
theorem dX9_readStream_124 : decode cX9_readStream 124 = .ok (.iconst 0, 1) := by decide +kernel
theorem dX9_readStream_125 : decode cX9_readStream 125 = .ok (.ireturn, 1) := by decide +kernel
theorem dX9_readStream_126 : decode cX9_readStream 126 = .ok (.aload_n 0, 1) := by decide +kernel
theorem dX9_readStream_127 : decode cX9_readStream 127 = .ok (.dup, 1) := by decide +kernel
theorem dX9_readStream_128 : decode cX9_readStream 128 = .ok (.getfield 140, 3) := by decide +kernel
theorem dX9_readStream_131 : decode cX9_readStream 131 = .ok (.iconst 1, 1) := by decide +kernel
theorem dX9_readStream_132 : decode cX9_readStream 132 = .ok (.iadd, 1) := by decide +kernel
theorem dX9_readStream_133 : decode cX9_readStream 133 = .ok (.putfield 140, 3) := by decide +kernel
theorem dX9_readStream_136 : decode cX9_readStream 136 = .ok (.aload_n 0, 1) := by decide +kernel
theorem dX9_readStream_137 : decode cX9_readStream 137 = .ok (.iload_n 1, 1) := by decide +kernel
theorem dX9_readStream_138 : decode cX9_readStream 138 = .ok (.invokevirtual 157, 3) := by decide +kernel
theorem dX9_readStream_141 : decode cX9_readStream 141 = .ok (.istore_n 3, 1) := by decide +kernel
theorem dX9_readStream_142 : decode cX9_readStream 142 = .ok (.aload_n 0, 1) := by decide +kernel
theorem dX9_readStream_143 : decode cX9_readStream 143 = .ok (.iconst 1, 1) := by decide +kernel
theorem dX9_readStream_144 : decode cX9_readStream 144 = .ok (.iload_n 3, 1) := by decide +kernel
theorem dX9_readStream_145 : decode cX9_readStream 145 = .ok (.bipush 9, 2) := by decide +kernel
theorem dX9_readStream_147 : decode cX9_readStream 147 = .ok (.if_icmp .ge 7, 3) := by decide +kernel
theorem dX9_readStream_150 : decode cX9_readStream 150 = .ok (.iload_n 3, 1) := by decide +kernel
theorem dX9_readStream_151 : decode cX9_readStream 151 = .ok (.goto 5, 3) := by decide +kernel
theorem dX9_readStream_154 : decode cX9_readStream 154 = .ok (.bipush 9, 2) := by decide +kernel
theorem dX9_readStream_156 : decode cX9_readStream 156 = .ok (.invokevirtual 143, 3) := by decide +kernel
theorem dX9_readStream_159 : decode cX9_readStream 159 = .ok (.istore 4, 2) := by decide +kernel
theorem dX9_readStream_161 : decode cX9_readStream 161 = .ok (.iload 4, 2) := by decide +kernel
theorem dX9_readStream_163 : decode cX9_readStream 163 = .ok (.bipush (-9), 2) := by decide +kernel
theorem dX9_readStream_165 : decode cX9_readStream 165 = .ok (.if_icmp .ne 5, 3) := by decide +kernel
theorem dX9_readStream_168 : decode cX9_readStream 168 = .ok (.iconst 0, 1) := by decide +kernel
theorem dX9_readStream_169 : decode cX9_readStream 169 = .ok (.ireturn, 1) := by decide +kernel
theorem dX9_readStream_170 : decode cX9_readStream 170 = .ok (.aload_n 0, 1) := by decide +kernel
theorem dX9_readStream_171 : decode cX9_readStream 171 = .ok (.getfield 62, 3) := by decide +kernel
theorem dX9_readStream_174 : decode cX9_readStream 174 = .ok (.aload_n 0, 1) := by decide +kernel
theorem dX9_readStream_175 : decode cX9_readStream 175 = .ok (.getfield 150, 3) := by decide +kernel
theorem dX9_readStream_178 : decode cX9_readStream 178 = .ok (.iload_n 1, 1) := by decide +kernel
theorem dX9_readStream_179 : decode cX9_readStream 179 = .ok (.iastore, 1) := by decide +kernel
theorem dX9_readStream_180 : decode cX9_readStream 180 = .ok (.aload_n 0, 1) := by decide +kernel
theorem dX9_readStream_181 : decode cX9_readStream 181 = .ok (.getfield 65, 3) := by decide +kernel
theorem dX9_readStream_184 : decode cX9_readStream 184 = .ok (.aload_n 0, 1) := by decide +kernel
theorem dX9_readStream_185 : decode cX9_readStream 185 = .ok (.getfield 150, 3) := by decide +kernel
theorem dX9_readStream_188 : decode cX9_readStream 188 = .ok (.iload_n 2, 1) := by decide +kernel
theorem dX9_readStream_189 : decode cX9_readStream 189 = .ok (.iastore, 1) := by decide +kernel
theorem dX9_readStream_190 : decode cX9_readStream 190 = .ok (.aload_n 0, 1) := by decide +kernel
theorem dX9_readStream_191 : decode cX9_readStream 191 = .ok (.getfield 68, 3) := by decide +kernel
theorem dX9_readStream_194 : decode cX9_readStream 194 = .ok (.aload_n 0, 1) := by decide +kernel
theorem dX9_readStream_195 : decode cX9_readStream 195 = .ok (.getfield 150, 3) := by decide +kernel
theorem dX9_readStream_198 : decode cX9_readStream 198 = .ok (.iload 4, 2) := by decide +kernel
theorem dX9_readStream_200 : decode cX9_readStream 200 = .ok (.iastore, 1) := by decide +kernel
theorem dX9_readStream_201 : decode cX9_readStream 201 = .ok (.aload_n 0, 1) := by decide +kernel
theorem dX9_readStream_202 : decode cX9_readStream 202 = .ok (.dup, 1) := by decide +kernel
theorem dX9_readStream_203 : decode cX9_readStream 203 = .ok (.getfield 150, 3) := by decide +kernel
theorem dX9_readStream_206 : decode cX9_readStream 206 = .ok (.iconst 1, 1) := by decide +kernel
theorem dX9_readStream_207 : decode cX9_readStream 207 = .ok (.iadd, 1) := by decide +kernel
theorem dX9_readStream_208 : decode cX9_readStream 208 = .ok (.putfield 150, 3) := by decide +kernel
theorem dX9_readStream_211 : decode cX9_readStream 211 = .ok (.iconst 1, 1) := by decide +kernel
theorem dX9_readStream_212 : decode cX9_readStream 212 = .ok (.ireturn, 1) := by decide +kernel
theorem dX9_readPiece_0 : decode cX9_readPiece 0 = .ok (.aload_n 0, 1) := by decide +kernel
theorem dX9_readPiece_1 : decode cX9_readPiece 1 = .ok (.iconst 0, 1) := by decide +kernel
theorem dX9_readPiece_2 : decode cX9_readPiece 2 = .ok (.aload_n 0, 1) := by decide +kernel
theorem dX9_readPiece_3 : decode cX9_readPiece 3 = .ok (.getfield 147, 3) := by decide +kernel
theorem dX9_readPiece_6 : decode cX9_readPiece 6 = .ok (.iconst 1, 1) := by decide +kernel
theorem dX9_readPiece_7 : decode cX9_readPiece 7 = .ok (.isub, 1) := by decide +kernel
theorem dX9_readPiece_8 : decode cX9_readPiece 8 = .ok (.invokevirtual 143, 3) := by decide +kernel
theorem dX9_readPiece_11 : decode cX9_readPiece 11 = .ok (.istore_n 1, 1) := by decide +kernel
theorem dX9_readPiece_12 : decode cX9_readPiece 12 = .ok (.iload_n 1, 1) := by decide +kernel
theorem dX9_readPiece_13 : decode cX9_readPiece 13 = .ok (.bipush (-9), 2) := by decide +kernel
theorem dX9_readPiece_15 : decode cX9_readPiece 15 = .ok (.if_icmp .ne 8, 3) := by decide +kernel
theorem dX9_readPiece_18 : decode cX9_readPiece 18 = .ok (.bipush (-9), 2) := by decide +kernel
theorem dX9_readPiece_20 : decode cX9_readPiece 20 = .ok (.goto 10, 3) := by decide +kernel
theorem dX9_readPiece_23 : decode cX9_readPiece 23 = .ok (.aload_n 0, 1) := by decide +kernel
theorem dX9_readPiece_24 : decode cX9_readPiece 24 = .ok (.iconst 1, 1) := by decide +kernel
theorem dX9_readPiece_25 : decode cX9_readPiece 25 = .ok (.bipush 9, 2) := by decide +kernel
theorem dX9_readPiece_27 : decode cX9_readPiece 27 = .ok (.invokevirtual 143, 3) := by decide +kernel
theorem dX9_readPiece_30 : decode cX9_readPiece 30 = .ok (.istore_n 2, 1) := by decide +kernel
theorem dX9_readPiece_31 : decode cX9_readPiece 31 = .ok (.iload_n 2, 1) := by decide +kernel
theorem dX9_readPiece_32 : decode cX9_readPiece 32 = .ok (.bipush (-9), 2) := by decide +kernel
theorem dX9_readPiece_34 : decode cX9_readPiece 34 = .ok (.if_icmp .ne 8, 3) := by decide +kernel
theorem dX9_readPiece_37 : decode cX9_readPiece 37 = .ok (.bipush (-9), 2) := by decide +kernel
theorem dX9_readPiece_39 : decode cX9_readPiece 39 = .ok (.goto 10, 3) := by decide +kernel
theorem dX9_readPiece_42 : decode cX9_readPiece 42 = .ok (.aload_n 0, 1) := by decide +kernel
theorem dX9_readPiece_43 : decode cX9_readPiece 43 = .ok (.iconst 1, 1) := by decide +kernel
theorem dX9_readPiece_44 : decode cX9_readPiece 44 = .ok (.bipush 9, 2) := by decide +kernel
theorem dX9_readPiece_46 : decode cX9_readPiece 46 = .ok (.invokevirtual 143, 3) := by decide +kernel
theorem dX9_readPiece_49 : decode cX9_readPiece 49 = .ok (.istore_n 3, 1) := by decide +kernel
theorem dX9_readPiece_50 : decode cX9_readPiece 50 = .ok (.iload_n 3, 1) := by decide +kernel
theorem dX9_readPiece_51 : decode cX9_readPiece 51 = .ok (.bipush (-9), 2) := by decide +kernel
theorem dX9_readPiece_53 : decode cX9_readPiece 53 = .ok (.if_icmp .ne 8, 3) := by decide +kernel
theorem dX9_readPiece_56 : decode cX9_readPiece 56 = .ok (.bipush (-9), 2) := by decide +kernel
theorem dX9_readPiece_58 : decode cX9_readPiece 58 = .ok (.goto 10, 3) := by decide +kernel
theorem dX9_readPiece_61 : decode cX9_readPiece 61 = .ok (.aload_n 0, 1) := by decide +kernel
theorem dX9_readPiece_62 : decode cX9_readPiece 62 = .ok (.iconst 0, 1) := by decide +kernel
theorem dX9_readPiece_63 : decode cX9_readPiece 63 = .ok (.bipush 9, 2) := by decide +kernel
theorem dX9_readPiece_65 : decode cX9_readPiece 65 = .ok (.invokevirtual 143, 3) := by decide +kernel
theorem dX9_readPiece_68 : decode cX9_readPiece 68 = .ok (.istore 4, 2) := by decide +kernel
theorem dX9_readPiece_70 : decode cX9_readPiece 70 = .ok (.iload 4, 2) := by decide +kernel
theorem dX9_readPiece_72 : decode cX9_readPiece 72 = .ok (.bipush (-9), 2) := by decide +kernel
theorem dX9_readPiece_74 : decode cX9_readPiece 74 = .ok (.if_icmp .ne 5, 3) := by decide +kernel
theorem dX9_readPiece_77 : decode cX9_readPiece 77 = .ok (.iconst 0, 1) := by decide +kernel
theorem dX9_readPiece_78 : decode cX9_readPiece 78 = .ok (.ireturn, 1) := by decide +kernel
theorem dX9_readPiece_79 : decode cX9_readPiece 79 = .ok (.aload_n 0, 1) := by decide +kernel
theorem dX9_readPiece_80 : decode cX9_readPiece 80 = .ok (.getfield 71, 3) := by decide +kernel
theorem dX9_readPiece_83 : decode cX9_readPiece 83 = .ok (.aload_n 0, 1) := by decide +kernel
theorem dX9_readPiece_84 : decode cX9_readPiece 84 = .ok (.getfield 165, 3) := by decide +kernel
theorem dX9_readPiece_87 : decode cX9_readPiece 87 = .ok (.iload_n 1, 1) := by decide +kernel
theorem dX9_readPiece_88 : decode cX9_readPiece 88 = .ok (.iastore, 1) := by decide +kernel
theorem dX9_readPiece_89 : decode cX9_readPiece 89 = .ok (.aload_n 0, 1) := by decide +kernel
theorem dX9_readPiece_90 : decode cX9_readPiece 90 = .ok (.getfield 74, 3) := by decide +kernel
theorem dX9_readPiece_93 : decode cX9_readPiece 93 = .ok (.aload_n 0, 1) := by decide +kernel
theorem dX9_readPiece_94 : decode cX9_readPiece 94 = .ok (.getfield 165, 3) := by decide +kernel
theorem dX9_readPiece_97 : decode cX9_readPiece 97 = .ok (.iload_n 2, 1) := by decide +kernel
theorem dX9_readPiece_98 : decode cX9_readPiece 98 = .ok (.iastore, 1) := by decide +kernel
theorem dX9_readPiece_99 : decode cX9_readPiece 99 = .ok (.aload_n 0, 1) := by decide +kernel
theorem dX9_readPiece_100 : decode cX9_readPiece 100 = .ok (.getfield 77, 3) := by decide +kernel
theorem dX9_readPiece_103 : decode cX9_readPiece 103 = .ok (.aload_n 0, 1) := by decide +kernel
theorem dX9_readPiece_104 : decode cX9_readPiece 104 = .ok (.getfield 165, 3) := by decide +kernel
theorem dX9_readPiece_107 : decode cX9_readPiece 107 = .ok (.iload_n 3, 1) := by decide +kernel
theorem dX9_readPiece_108 : decode cX9_readPiece 108 = .ok (.iastore, 1) := by decide +kernel
theorem dX9_readPiece_109 : decode cX9_readPiece 109 = .ok (.aload_n 0, 1) := by decide +kernel
theorem dX9_readPiece_110 : decode cX9_readPiece 110 = .ok (.getfield 80, 3) := by decide +kernel
theorem dX9_readPiece_113 : decode cX9_readPiece 113 = .ok (.aload_n 0, 1) := by decide +kernel
theorem dX9_readPiece_114 : decode cX9_readPiece 114 = .ok (.getfield 165, 3) := by decide +kernel
theorem dX9_readPiece_117 : decode cX9_readPiece 117 = .ok (.iload 4, 2) := by decide +kernel
theorem dX9_readPiece_119 : decode cX9_readPiece 119 = .ok (.iastore, 1) := by decide +kernel
theorem dX9_readPiece_120 : decode cX9_readPiece 120 = .ok (.aload_n 0, 1) := by decide +kernel
theorem dX9_readPiece_121 : decode cX9_readPiece 121 = .ok (.dup, 1) := by decide +kernel
theorem dX9_readPiece_122 : decode cX9_readPiece 122 = .ok (.getfield 165, 3) := by decide +kernel
theorem dX9_readPiece_125 : decode cX9_readPiece 125 = .ok (.iconst 1, 1) := by decide +kernel
theorem dX9_readPiece_126 : decode cX9_readPiece 126 = .ok (.iadd, 1) := by decide +kernel
theorem dX9_readPiece_127 : decode cX9_readPiece 127 = .ok (.putfield 165, 3) := by decide +kernel
theorem dX9_readPiece_130 : decode cX9_readPiece 130 = .ok (.iconst 1, 1) := by decide +kernel
theorem dX9_readPiece_131 : decode cX9_readPiece 131 = .ok (.ireturn, 1) := by decide +kernel
theorem dX9_readPart_0 : decode cX9_readPart 0 = .ok (.aload_n 0, 1) := by decide +kernel
theorem dX9_readPart_1 : decode cX9_readPart 1 = .ok (.getfield 7, 3) := by decide +kernel
theorem dX9_readPart_4 : decode cX9_readPart 4 = .ok (.aload_n 0, 1) := by decide +kernel
theorem dX9_readPart_5 : decode cX9_readPart 5 = .ok (.getfield 140, 3) := by decide +kernel
theorem dX9_readPart_8 : decode cX9_readPart 8 = .ok (.iaload, 1) := by decide +kernel
theorem dX9_readPart_9 : decode cX9_readPart 9 = .ok (.istore_n 1, 1) := by decide +kernel
theorem dX9_readPart_10 : decode cX9_readPart 10 = .ok (.iload_n 1, 1) := by decide +kernel
theorem dX9_readPart_11 : decode cX9_readPart 11 = .ok (.bipush 72, 2) := by decide +kernel
theorem dX9_readPart_13 : decode cX9_readPart 13 = .ok (.if_icmp .ne 27, 3) := by decide +kernel
theorem dX9_readPart_16 : decode cX9_readPart 16 = .ok (.aload_n 0, 1) := by decide +kernel
theorem dX9_readPart_17 : decode cX9_readPart 17 = .ok (.getfield 147, 3) := by decide +kernel
theorem dX9_readPart_20 : decode cX9_readPart 20 = .ok (.bipush 6, 2) := by decide +kernel
theorem dX9_readPart_22 : decode cX9_readPart 22 = .ok (.if_icmp .ge 18, 3) := by decide +kernel
theorem dX9_readPart_25 : decode cX9_readPart 25 = .ok (.aload_n 0, 1) := by decide +kernel
theorem dX9_readPart_26 : decode cX9_readPart 26 = .ok (.dup, 1) := by decide +kernel
theorem dX9_readPart_27 : decode cX9_readPart 27 = .ok (.getfield 140, 3) := by decide +kernel
theorem dX9_readPart_30 : decode cX9_readPart 30 = .ok (.iconst 1, 1) := by decide +kernel
theorem dX9_readPart_31 : decode cX9_readPart 31 = .ok (.iadd, 1) := by decide +kernel
theorem dX9_readPart_32 : decode cX9_readPart 32 = .ok (.putfield 140, 3) := by decide +kernel
theorem dX9_readPart_35 : decode cX9_readPart 35 = .ok (.aload_n 0, 1) := by decide +kernel
theorem dX9_readPart_36 : decode cX9_readPart 36 = .ok (.invokevirtual 168, 3) := by decide +kernel
theorem dX9_readPart_39 : decode cX9_readPart 39 = .ok (.ireturn, 1) := by decide +kernel
theorem dX9_readPart_40 : decode cX9_readPart 40 = .ok (.iload_n 1, 1) := by decide +kernel
theorem dX9_readPart_41 : decode cX9_readPart 41 = .ok (.bipush 83, 2) := by decide +kernel
theorem dX9_readPart_43 : decode cX9_readPart 43 = .ok (.if_icmp .ne 34, 3) := by decide +kernel
theorem dX9_readPart_46 : decode cX9_readPart 46 = .ok (.aload_n 0, 1) := by decide +kernel
theorem dX9_readPart_47 : decode cX9_readPart 47 = .ok (.getfield 150, 3) := by decide +kernel
theorem dX9_readPart_50 : decode cX9_readPart 50 = .ok (.bipush 10, 2) := by decide +kernel
theorem dX9_readPart_52 : decode cX9_readPart 52 = .ok (.if_icmp .ge 25, 3) := by decide +kernel
theorem dX9_readPart_55 : decode cX9_readPart 55 = .ok (.aload_n 0, 1) := by decide +kernel
theorem dX9_readPart_56 : decode cX9_readPart 56 = .ok (.invokevirtual 172, 3) := by decide +kernel
theorem dX9_readPart_59 : decode cX9_readPart 59 = .ok (.ifCond .eq 18, 3) := by decide +kernel
theorem dX9_readPart_62 : decode cX9_readPart 62 = .ok (.aload_n 0, 1) := by decide +kernel
theorem dX9_readPart_63 : decode cX9_readPart 63 = .ok (.dup, 1) := by decide +kernel
theorem dX9_readPart_64 : decode cX9_readPart 64 = .ok (.getfield 140, 3) := by decide +kernel
theorem dX9_readPart_67 : decode cX9_readPart 67 = .ok (.iconst 1, 1) := by decide +kernel
theorem dX9_readPart_68 : decode cX9_readPart 68 = .ok (.iadd, 1) := by decide +kernel
theorem dX9_readPart_69 : decode cX9_readPart 69 = .ok (.putfield 140, 3) := by decide +kernel
theorem dX9_readPart_72 : decode cX9_readPart 72 = .ok (.aload_n 0, 1) := by decide +kernel
theorem dX9_readPart_73 : decode cX9_readPart 73 = .ok (.invokevirtual 175, 3) := by decide +kernel
theorem dX9_readPart_76 : decode cX9_readPart 76 = .ok (.ireturn, 1) := by decide +kernel
theorem dX9_readPart_77 : decode cX9_readPart 77 = .ok (.iload_n 1, 1) := by decide +kernel
theorem dX9_readPart_78 : decode cX9_readPart 78 = .ok (.bipush 80, 2) := by decide +kernel
theorem dX9_readPart_80 : decode cX9_readPart 80 = .ok (.if_icmp .ne 34, 3) := by decide +kernel
theorem dX9_readPart_83 : decode cX9_readPart 83 = .ok (.aload_n 0, 1) := by decide +kernel
theorem dX9_readPart_84 : decode cX9_readPart 84 = .ok (.getfield 165, 3) := by decide +kernel
theorem dX9_readPart_87 : decode cX9_readPart 87 = .ok (.bipush 6, 2) := by decide +kernel
theorem dX9_readPart_89 : decode cX9_readPart 89 = .ok (.if_icmp .ge 25, 3) := by decide +kernel
theorem dX9_readPart_92 : decode cX9_readPart 92 = .ok (.aload_n 0, 1) := by decide +kernel
theorem dX9_readPart_93 : decode cX9_readPart 93 = .ok (.getfield 147, 3) := by decide +kernel
theorem dX9_readPart_96 : decode cX9_readPart 96 = .ok (.ifCond .le 18, 3) := by decide +kernel
theorem dX9_readPart_99 : decode cX9_readPart 99 = .ok (.aload_n 0, 1) := by decide +kernel
theorem dX9_readPart_100 : decode cX9_readPart 100 = .ok (.dup, 1) := by decide +kernel
theorem dX9_readPart_101 : decode cX9_readPart 101 = .ok (.getfield 140, 3) := by decide +kernel
theorem dX9_readPart_104 : decode cX9_readPart 104 = .ok (.iconst 1, 1) := by decide +kernel
theorem dX9_readPart_105 : decode cX9_readPart 105 = .ok (.iadd, 1) := by decide +kernel
theorem dX9_readPart_106 : decode cX9_readPart 106 = .ok (.putfield 140, 3) := by decide +kernel
theorem dX9_readPart_109 : decode cX9_readPart 109 = .ok (.aload_n 0, 1) := by decide +kernel
theorem dX9_readPart_110 : decode cX9_readPart 110 = .ok (.invokevirtual 178, 3) := by decide +kernel
theorem dX9_readPart_113 : decode cX9_readPart 113 = .ok (.ireturn, 1) := by decide +kernel
theorem dX9_readPart_114 : decode cX9_readPart 114 = .ok (.iconst 0, 1) := by decide +kernel
theorem dX9_readPart_115 : decode cX9_readPart 115 = .ok (.ireturn, 1) := by decide +kernel
theorem dX9_readTown_0 : decode cX9_readTown 0 = .ok (.aload_n 0, 1) := by decide +kernel
theorem dX9_readTown_1 : decode cX9_readTown 1 = .ok (.iconst 0, 1) := by decide +kernel
theorem dX9_readTown_2 : decode cX9_readTown 2 = .ok (.putfield 140, 3) := by decide +kernel
theorem dX9_readTown_5 : decode cX9_readTown 5 = .ok (.aload_n 0, 1) := by decide +kernel
theorem dX9_readTown_6 : decode cX9_readTown 6 = .ok (.iconst 0, 1) := by decide +kernel
theorem dX9_readTown_7 : decode cX9_readTown 7 = .ok (.putfield 147, 3) := by decide +kernel
theorem dX9_readTown_10 : decode cX9_readTown 10 = .ok (.aload_n 0, 1) := by decide +kernel
theorem dX9_readTown_11 : decode cX9_readTown 11 = .ok (.iconst 0, 1) := by decide +kernel
theorem dX9_readTown_12 : decode cX9_readTown 12 = .ok (.putfield 150, 3) := by decide +kernel
theorem dX9_readTown_15 : decode cX9_readTown 15 = .ok (.aload_n 0, 1) := by decide +kernel
theorem dX9_readTown_16 : decode cX9_readTown 16 = .ok (.iconst 0, 1) := by decide +kernel
theorem dX9_readTown_17 : decode cX9_readTown 17 = .ok (.putfield 165, 3) := by decide +kernel
theorem dX9_readTown_20 : decode cX9_readTown 20 = .ok (.aload_n 0, 1) := by decide +kernel
theorem dX9_readTown_21 : decode cX9_readTown 21 = .ok (.getfield 140, 3) := by decide +kernel
theorem dX9_readTown_24 : decode cX9_readTown 24 = .ok (.aload_n 0, 1) := by decide +kernel
theorem dX9_readTown_25 : decode cX9_readTown 25 = .ok (.getfield 137, 3) := by decide +kernel
theorem dX9_readTown_28 : decode cX9_readTown 28 = .ok (.if_icmp .ge 15, 3) := by decide +kernel
theorem dX9_readTown_31 : decode cX9_readTown 31 = .ok (.aload_n 0, 1) := by decide +kernel
theorem dX9_readTown_32 : decode cX9_readTown 32 = .ok (.invokevirtual 181, 3) := by decide +kernel
theorem dX9_readTown_35 : decode cX9_readTown 35 = .ok (.ifCond .ne (-15), 3) := by decide +kernel
theorem dX9_readTown_38 : decode cX9_readTown 38 = .ok (.aload_n 0, 1) := by decide +kernel
theorem dX9_readTown_39 : decode cX9_readTown 39 = .ok (.getfield 140, 3) := by decide +kernel
theorem dX9_readTown_42 : decode cX9_readTown 42 = .ok (.ireturn, 1) := by decide +kernel
theorem dX9_readTown_43 : decode cX9_readTown 43 = .ok (.bipush (-9), 2) := by decide +kernel
theorem dX9_readTown_45 : decode cX9_readTown 45 = .ok (.ireturn, 1) := by decide +kernel
theorem dX9_fault_0 : decode cX9_fault 0 = .ok (.aload_n 0, 1) := by decide +kernel
theorem dX9_fault_1 : decode cX9_fault 1 = .ok (.iconst 0, 1) := by decide +kernel
theorem dX9_fault_2 : decode cX9_fault 2 = .ok (.putfield 117, 3) := by decide +kernel
theorem dX9_fault_5 : decode cX9_fault 5 = .ok (.aload_n 0, 1) := by decide +kernel
theorem dX9_fault_6 : decode cX9_fault 6 = .ok (.invokevirtual 184, 3) := by decide +kernel
theorem dX9_fault_9 : decode cX9_fault 9 = .ok (.ireturn, 1) := by decide +kernel
theorem dX9_town_0 : decode cX9_town 0 = .ok (.aload_n 0, 1) := by decide +kernel
theorem dX9_town_1 : decode cX9_town 1 = .ok (.iconst 0, 1) := by decide +kernel
theorem dX9_town_2 : decode cX9_town 2 = .ok (.putfield 117, 3) := by decide +kernel
theorem dX9_town_5 : decode cX9_town 5 = .ok (.aload_n 0, 1) := by decide +kernel
theorem dX9_town_6 : decode cX9_town 6 = .ok (.invokevirtual 184, 3) := by decide +kernel
theorem dX9_town_9 : decode cX9_town 9 = .ok (.bipush (-9), 2) := by decide +kernel
theorem dX9_town_11 : decode cX9_town 11 = .ok (.if_icmp .eq 6, 3) := by decide +kernel
theorem dX9_town_14 : decode cX9_town 14 = .ok (.bipush (-3), 2) := by decide +kernel
theorem dX9_town_16 : decode cX9_town 16 = .ok (.ireturn, 1) := by decide +kernel
theorem dX9_town_17 : decode cX9_town 17 = .ok (.aload_n 0, 1) := by decide +kernel
theorem dX9_town_18 : decode cX9_town 18 = .ok (.aload_n 0, 1) := by decide +kernel
theorem dX9_town_19 : decode cX9_town 19 = .ok (.getfield 147, 3) := by decide +kernel
theorem dX9_town_22 : decode cX9_town 22 = .ok (.putfield 121, 3) := by decide +kernel
theorem dX9_town_25 : decode cX9_town 25 = .ok (.aload_n 0, 1) := by decide +kernel
theorem dX9_town_26 : decode cX9_town 26 = .ok (.aload_n 0, 1) := by decide +kernel
theorem dX9_town_27 : decode cX9_town 27 = .ok (.getfield 150, 3) := by decide +kernel
theorem dX9_town_30 : decode cX9_town 30 = .ok (.putfield 188, 3) := by decide +kernel
theorem dX9_town_33 : decode cX9_town 33 = .ok (.aload_n 0, 1) := by decide +kernel
theorem dX9_town_34 : decode cX9_town 34 = .ok (.aload_n 0, 1) := by decide +kernel
theorem dX9_town_35 : decode cX9_town 35 = .ok (.getfield 165, 3) := by decide +kernel
theorem dX9_town_38 : decode cX9_town 38 = .ok (.putfield 128, 3) := by decide +kernel
theorem dX9_town_41 : decode cX9_town 41 = .ok (.iconst 0, 1) := by decide +kernel
theorem dX9_town_42 : decode cX9_town 42 = .ok (.istore_n 1, 1) := by decide +kernel
theorem dX9_town_43 : decode cX9_town 43 = .ok (.iload_n 1, 1) := by decide +kernel
theorem dX9_town_44 : decode cX9_town 44 = .ok (.aload_n 0, 1) := by decide +kernel
theorem dX9_town_45 : decode cX9_town 45 = .ok (.getfield 121, 3) := by decide +kernel
theorem dX9_town_48 : decode cX9_town 48 = .ok (.if_icmp .ge 33, 3) := by decide +kernel
theorem dX9_town_51 : decode cX9_town 51 = .ok (.aload_n 0, 1) := by decide +kernel
theorem dX9_town_52 : decode cX9_town 52 = .ok (.getfield 13, 3) := by decide +kernel
theorem dX9_town_55 : decode cX9_town 55 = .ok (.iload_n 1, 1) := by decide +kernel
theorem dX9_town_56 : decode cX9_town 56 = .ok (.aload_n 0, 1) := by decide +kernel
theorem dX9_town_57 : decode cX9_town 57 = .ok (.getfield 56, 3) := by decide +kernel
theorem dX9_town_60 : decode cX9_town 60 = .ok (.iload_n 1, 1) := by decide +kernel
theorem dX9_town_61 : decode cX9_town 61 = .ok (.iaload, 1) := by decide +kernel
theorem dX9_town_62 : decode cX9_town 62 = .ok (.iastore, 1) := by decide +kernel
theorem dX9_town_63 : decode cX9_town 63 = .ok (.aload_n 0, 1) := by decide +kernel
theorem dX9_town_64 : decode cX9_town 64 = .ok (.getfield 16, 3) := by decide +kernel
theorem dX9_town_67 : decode cX9_town 67 = .ok (.iload_n 1, 1) := by decide +kernel
theorem dX9_town_68 : decode cX9_town 68 = .ok (.aload_n 0, 1) := by decide +kernel
theorem dX9_town_69 : decode cX9_town 69 = .ok (.getfield 59, 3) := by decide +kernel
theorem dX9_town_72 : decode cX9_town 72 = .ok (.iload_n 1, 1) := by decide +kernel
theorem dX9_town_73 : decode cX9_town 73 = .ok (.iaload, 1) := by decide +kernel
theorem dX9_town_74 : decode cX9_town 74 = .ok (.iastore, 1) := by decide +kernel
theorem dX9_town_75 : decode cX9_town 75 = .ok (.iinc 1 1, 3) := by decide +kernel
theorem dX9_town_78 : decode cX9_town 78 = .ok (.goto (-35), 3) := by decide +kernel
theorem dX9_town_81 : decode cX9_town 81 = .ok (.iconst 0, 1) := by decide +kernel
theorem dX9_town_82 : decode cX9_town 82 = .ok (.istore_n 1, 1) := by decide +kernel
theorem dX9_town_83 : decode cX9_town 83 = .ok (.iload_n 1, 1) := by decide +kernel
theorem dX9_town_84 : decode cX9_town 84 = .ok (.bipush 10, 2) := by decide +kernel
theorem dX9_town_86 : decode cX9_town 86 = .ok (.if_icmp .ge 52, 3) := by decide +kernel
theorem dX9_town_89 : decode cX9_town 89 = .ok (.aload_n 0, 1) := by decide +kernel
theorem dX9_town_90 : decode cX9_town 90 = .ok (.getfield 19, 3) := by decide +kernel
theorem dX9_town_93 : decode cX9_town 93 = .ok (.iload_n 1, 1) := by decide +kernel
theorem dX9_town_94 : decode cX9_town 94 = .ok (.aload_n 0, 1) := by decide +kernel
theorem dX9_town_95 : decode cX9_town 95 = .ok (.getfield 62, 3) := by decide +kernel
theorem dX9_town_98 : decode cX9_town 98 = .ok (.iload_n 1, 1) := by decide +kernel
theorem dX9_town_99 : decode cX9_town 99 = .ok (.iaload, 1) := by decide +kernel
theorem dX9_town_100 : decode cX9_town 100 = .ok (.iastore, 1) := by decide +kernel
theorem dX9_town_101 : decode cX9_town 101 = .ok (.aload_n 0, 1) := by decide +kernel
theorem dX9_town_102 : decode cX9_town 102 = .ok (.getfield 22, 3) := by decide +kernel
theorem dX9_town_105 : decode cX9_town 105 = .ok (.iload_n 1, 1) := by decide +kernel
theorem dX9_town_106 : decode cX9_town 106 = .ok (.aload_n 0, 1) := by decide +kernel
theorem dX9_town_107 : decode cX9_town 107 = .ok (.getfield 65, 3) := by decide +kernel
theorem dX9_town_110 : decode cX9_town 110 = .ok (.iload_n 1, 1) := by decide +kernel
theorem dX9_town_111 : decode cX9_town 111 = .ok (.iaload, 1) := by decide +kernel
theorem dX9_town_112 : decode cX9_town 112 = .ok (.iastore, 1) := by decide +kernel
theorem dX9_town_113 : decode cX9_town 113 = .ok (.aload_n 0, 1) := by decide +kernel
theorem dX9_town_114 : decode cX9_town 114 = .ok (.getfield 25, 3) := by decide +kernel
theorem dX9_town_117 : decode cX9_town 117 = .ok (.iload_n 1, 1) := by decide +kernel
theorem dX9_town_118 : decode cX9_town 118 = .ok (.aload_n 0, 1) := by decide +kernel
theorem dX9_town_119 : decode cX9_town 119 = .ok (.getfield 68, 3) := by decide +kernel
theorem dX9_town_122 : decode cX9_town 122 = .ok (.iload_n 1, 1) := by decide +kernel
theorem dX9_town_123 : decode cX9_town 123 = .ok (.iaload, 1) := by decide +kernel
theorem dX9_town_124 : decode cX9_town 124 = .ok (.iastore, 1) := by decide +kernel
theorem dX9_town_125 : decode cX9_town 125 = .ok (.aload_n 0, 1) := by decide +kernel
theorem dX9_town_126 : decode cX9_town 126 = .ok (.getfield 28, 3) := by decide +kernel
theorem dX9_town_129 : decode cX9_town 129 = .ok (.iload_n 1, 1) := by decide +kernel
theorem dX9_town_130 : decode cX9_town 130 = .ok (.iconst 0, 1) := by decide +kernel
theorem dX9_town_131 : decode cX9_town 131 = .ok (.bastore, 1) := by decide +kernel
theorem dX9_town_132 : decode cX9_town 132 = .ok (.iinc 1 1, 3) := by decide +kernel
theorem dX9_town_135 : decode cX9_town 135 = .ok (.goto (-52), 3) := by decide +kernel
theorem dX9_town_138 : decode cX9_town 138 = .ok (.iconst 0, 1) := by decide +kernel
theorem dX9_town_139 : decode cX9_town 139 = .ok (.istore_n 1, 1) := by decide +kernel
theorem dX9_town_140 : decode cX9_town 140 = .ok (.iload_n 1, 1) := by decide +kernel
theorem dX9_town_141 : decode cX9_town 141 = .ok (.aload_n 0, 1) := by decide +kernel
theorem dX9_town_142 : decode cX9_town 142 = .ok (.getfield 128, 3) := by decide +kernel
theorem dX9_town_145 : decode cX9_town 145 = .ok (.if_icmp .ge 103, 3) := by decide +kernel
theorem dX9_town_148 : decode cX9_town 148 = .ok (.aload_n 0, 1) := by decide +kernel
theorem dX9_town_149 : decode cX9_town 149 = .ok (.getfield 32, 3) := by decide +kernel
theorem dX9_town_152 : decode cX9_town 152 = .ok (.iload_n 1, 1) := by decide +kernel
theorem dX9_town_153 : decode cX9_town 153 = .ok (.aload_n 0, 1) := by decide +kernel
theorem dX9_town_154 : decode cX9_town 154 = .ok (.getfield 71, 3) := by decide +kernel
theorem dX9_town_157 : decode cX9_town 157 = .ok (.iload_n 1, 1) := by decide +kernel
theorem dX9_town_158 : decode cX9_town 158 = .ok (.iaload, 1) := by decide +kernel
theorem dX9_town_159 : decode cX9_town 159 = .ok (.iastore, 1) := by decide +kernel
theorem dX9_town_160 : decode cX9_town 160 = .ok (.aload_n 0, 1) := by decide +kernel
theorem dX9_town_161 : decode cX9_town 161 = .ok (.getfield 35, 3) := by decide +kernel
theorem dX9_town_164 : decode cX9_town 164 = .ok (.iload_n 1, 1) := by decide +kernel
theorem dX9_town_165 : decode cX9_town 165 = .ok (.aload_n 0, 1) := by decide +kernel
theorem dX9_town_166 : decode cX9_town 166 = .ok (.getfield 74, 3) := by decide +kernel
theorem dX9_town_169 : decode cX9_town 169 = .ok (.iload_n 1, 1) := by decide +kernel
theorem dX9_town_170 : decode cX9_town 170 = .ok (.iaload, 1) := by decide +kernel
theorem dX9_town_171 : decode cX9_town 171 = .ok (.iastore, 1) := by decide +kernel
theorem dX9_town_172 : decode cX9_town 172 = .ok (.aload_n 0, 1) := by decide +kernel
theorem dX9_town_173 : decode cX9_town 173 = .ok (.getfield 38, 3) := by decide +kernel
theorem dX9_town_176 : decode cX9_town 176 = .ok (.iload_n 1, 1) := by decide +kernel
theorem dX9_town_177 : decode cX9_town 177 = .ok (.aload_n 0, 1) := by decide +kernel
theorem dX9_town_178 : decode cX9_town 178 = .ok (.getfield 77, 3) := by decide +kernel
theorem dX9_town_181 : decode cX9_town 181 = .ok (.iload_n 1, 1) := by decide +kernel
theorem dX9_town_182 : decode cX9_town 182 = .ok (.iaload, 1) := by decide +kernel
theorem dX9_town_183 : decode cX9_town 183 = .ok (.iastore, 1) := by decide +kernel
theorem dX9_town_184 : decode cX9_town 184 = .ok (.aload_n 0, 1) := by decide +kernel
theorem dX9_town_185 : decode cX9_town 185 = .ok (.getfield 44, 3) := by decide +kernel
theorem dX9_town_188 : decode cX9_town 188 = .ok (.iload_n 1, 1) := by decide +kernel
theorem dX9_town_189 : decode cX9_town 189 = .ok (.aload_n 0, 1) := by decide +kernel
theorem dX9_town_190 : decode cX9_town 190 = .ok (.getfield 80, 3) := by decide +kernel
theorem dX9_town_193 : decode cX9_town 193 = .ok (.iload_n 1, 1) := by decide +kernel
theorem dX9_town_194 : decode cX9_town 194 = .ok (.iaload, 1) := by decide +kernel
theorem dX9_town_195 : decode cX9_town 195 = .ok (.iastore, 1) := by decide +kernel
theorem dX9_town_196 : decode cX9_town 196 = .ok (.aload_n 0, 1) := by decide +kernel
theorem dX9_town_197 : decode cX9_town 197 = .ok (.getfield 41, 3) := by decide +kernel
theorem dX9_town_200 : decode cX9_town 200 = .ok (.iload_n 1, 1) := by decide +kernel
theorem dX9_town_201 : decode cX9_town 201 = .ok (.aload_n 0, 1) := by decide +kernel
theorem dX9_town_202 : decode cX9_town 202 = .ok (.getfield 32, 3) := by decide +kernel
theorem dX9_town_205 : decode cX9_town 205 = .ok (.iload_n 1, 1) := by decide +kernel
theorem dX9_town_206 : decode cX9_town 206 = .ok (.iaload, 1) := by decide +kernel
theorem dX9_town_207 : decode cX9_town 207 = .ok (.iastore, 1) := by decide +kernel
theorem dX9_town_208 : decode cX9_town 208 = .ok (.aload_n 0, 1) := by decide +kernel
theorem dX9_town_209 : decode cX9_town 209 = .ok (.getfield 53, 3) := by decide +kernel
theorem dX9_town_212 : decode cX9_town 212 = .ok (.iload_n 1, 1) := by decide +kernel
theorem dX9_town_213 : decode cX9_town 213 = .ok (.aload_n 0, 1) := by decide +kernel
theorem dX9_town_214 : decode cX9_town 214 = .ok (.getfield 32, 3) := by decide +kernel
theorem dX9_town_217 : decode cX9_town 217 = .ok (.iload_n 1, 1) := by decide +kernel
theorem dX9_town_218 : decode cX9_town 218 = .ok (.iaload, 1) := by decide +kernel
theorem dX9_town_219 : decode cX9_town 219 = .ok (.iastore, 1) := by decide +kernel
theorem dX9_town_220 : decode cX9_town 220 = .ok (.aload_n 0, 1) := by decide +kernel
theorem dX9_town_221 : decode cX9_town 221 = .ok (.getfield 47, 3) := by decide +kernel
theorem dX9_town_224 : decode cX9_town 224 = .ok (.bipush 8, 2) := by decide +kernel
theorem dX9_town_226 : decode cX9_town 226 = .ok (.iload_n 1, 1) := by decide +kernel
theorem dX9_town_227 : decode cX9_town 227 = .ok (.imul, 1) := by decide +kernel
theorem dX9_town_228 : decode cX9_town 228 = .ok (.aload_n 0, 1) := by decide +kernel
theorem dX9_town_229 : decode cX9_town 229 = .ok (.getfield 32, 3) := by decide +kernel
theorem dX9_town_232 : decode cX9_town 232 = .ok (.iload_n 1, 1) := by decide +kernel
theorem dX9_town_233 : decode cX9_town 233 = .ok (.iaload, 1) := by decide +kernel
theorem dX9_town_234 : decode cX9_town 234 = .ok (.iastore, 1) := by decide +kernel
theorem dX9_town_235 : decode cX9_town 235 = .ok (.aload_n 0, 1) := by decide +kernel
theorem dX9_town_236 : decode cX9_town 236 = .ok (.getfield 50, 3) := by decide +kernel
theorem dX9_town_239 : decode cX9_town 239 = .ok (.iload_n 1, 1) := by decide +kernel
theorem dX9_town_240 : decode cX9_town 240 = .ok (.iconst 1, 1) := by decide +kernel
theorem dX9_town_241 : decode cX9_town 241 = .ok (.iastore, 1) := by decide +kernel
theorem dX9_town_242 : decode cX9_town 242 = .ok (.iinc 1 1, 3) := by decide +kernel
theorem dX9_town_245 : decode cX9_town 245 = .ok (.goto (-105), 3) := by decide +kernel
theorem dX9_town_248 : decode cX9_town 248 = .ok (.aload_n 0, 1) := by decide +kernel
theorem dX9_town_249 : decode cX9_town 249 = .ok (.iconst 0, 1) := by decide +kernel
theorem dX9_town_250 : decode cX9_town 250 = .ok (.putfield 191, 3) := by decide +kernel
theorem dX9_town_253 : decode cX9_town 253 = .ok (.aload_n 0, 1) := by decide +kernel
theorem dX9_town_254 : decode cX9_town 254 = .ok (.iconst 0, 1) := by decide +kernel
theorem dX9_town_255 : decode cX9_town 255 = .ok (.putfield 194, 3) := by decide +kernel
theorem dX9_town_258 : decode cX9_town 258 = .ok (.aload_n 0, 1) := by decide +kernel
theorem dX9_town_259 : decode cX9_town 259 = .ok (.getfield 92, 3) := by decide +kernel
theorem dX9_town_262 : decode cX9_town 262 = .ok (.iconst 0, 1) := by decide +kernel
theorem dX9_town_263 : decode cX9_town 263 = .ok (.iconst 0, 1) := by decide +kernel
theorem dX9_town_264 : decode cX9_town 264 = .ok (.bastore, 1) := by decide +kernel
theorem dX9_town_265 : decode cX9_town 265 = .ok (.aload_n 0, 1) := by decide +kernel
theorem dX9_town_266 : decode cX9_town 266 = .ok (.getfield 92, 3) := by decide +kernel
theorem dX9_town_269 : decode cX9_town 269 = .ok (.iconst 1, 1) := by decide +kernel
theorem dX9_town_270 : decode cX9_town 270 = .ok (.iconst 0, 1) := by decide +kernel
theorem dX9_town_271 : decode cX9_town 271 = .ok (.bastore, 1) := by decide +kernel
theorem dX9_town_272 : decode cX9_town 272 = .ok (.aload_n 0, 1) := by decide +kernel
theorem dX9_town_273 : decode cX9_town 273 = .ok (.getfield 121, 3) := by decide +kernel
theorem dX9_town_276 : decode cX9_town 276 = .ok (.ireturn, 1) := by decide +kernel
theorem dX9_about_0 : decode cX9_about 0 = .ok (.aload_n 0, 1) := by decide +kernel
theorem dX9_about_1 : decode cX9_about 1 = .ok (.iconst 0, 1) := by decide +kernel
theorem dX9_about_2 : decode cX9_about 2 = .ok (.putfield 117, 3) := by decide +kernel
theorem dX9_about_5 : decode cX9_about 5 = .ok (.iconst 0, 1) := by decide +kernel
theorem dX9_about_6 : decode cX9_about 6 = .ok (.istore_n 2, 1) := by decide +kernel
theorem dX9_about_7 : decode cX9_about 7 = .ok (.iconst 0, 1) := by decide +kernel
theorem dX9_about_8 : decode cX9_about 8 = .ok (.istore_n 3, 1) := by decide +kernel
theorem dX9_about_9 : decode cX9_about 9 = .ok (.iconst 0, 1) := by decide +kernel
theorem dX9_about_10 : decode cX9_about 10 = .ok (.istore 4, 2) := by decide +kernel
theorem dX9_about_12 : decode cX9_about 12 = .ok (.iload 4, 2) := by decide +kernel
theorem dX9_about_14 : decode cX9_about 14 = .ok (.aload_n 0, 1) := by decide +kernel
theorem dX9_about_15 : decode cX9_about 15 = .ok (.getfield 128, 3) := by decide +kernel
theorem dX9_about_18 : decode cX9_about 18 = .ok (.if_icmp .ge 59, 3) := by decide +kernel
theorem dX9_about_21 : decode cX9_about 21 = .ok (.iload_n 2, 1) := by decide +kernel
theorem dX9_about_22 : decode cX9_about 22 = .ok (.aload_n 0, 1) := by decide +kernel
theorem dX9_about_23 : decode cX9_about 23 = .ok (.getfield 41, 3) := by decide +kernel
theorem dX9_about_26 : decode cX9_about 26 = .ok (.iload 4, 2) := by decide +kernel
theorem dX9_about_28 : decode cX9_about 28 = .ok (.iaload, 1) := by decide +kernel
theorem dX9_about_29 : decode cX9_about 29 = .ok (.aload_n 0, 1) := by decide +kernel
theorem dX9_about_30 : decode cX9_about 30 = .ok (.getfield 32, 3) := by decide +kernel
theorem dX9_about_33 : decode cX9_about 33 = .ok (.iload 4, 2) := by decide +kernel
theorem dX9_about_35 : decode cX9_about 35 = .ok (.iaload, 1) := by decide +kernel
theorem dX9_about_36 : decode cX9_about 36 = .ok (.if_icmp .ne 7, 3) := by decide +kernel
theorem dX9_about_39 : decode cX9_about 39 = .ok (.iconst 0, 1) := by decide +kernel
theorem dX9_about_40 : decode cX9_about 40 = .ok (.goto 4, 3) := by decide +kernel
theorem dX9_about_43 : decode cX9_about 43 = .ok (.iconst 1, 1) := by decide +kernel
theorem dX9_about_44 : decode cX9_about 44 = .ok (.iadd, 1) := by decide +kernel
theorem dX9_about_45 : decode cX9_about 45 = .ok (.istore_n 2, 1) := by decide +kernel
theorem dX9_about_46 : decode cX9_about 46 = .ok (.iload_n 3, 1) := by decide +kernel
theorem dX9_about_47 : decode cX9_about 47 = .ok (.aload_n 0, 1) := by decide +kernel
theorem dX9_about_48 : decode cX9_about 48 = .ok (.getfield 53, 3) := by decide +kernel
theorem dX9_about_51 : decode cX9_about 51 = .ok (.iload 4, 2) := by decide +kernel
theorem dX9_about_53 : decode cX9_about 53 = .ok (.iaload, 1) := by decide +kernel
theorem dX9_about_54 : decode cX9_about 54 = .ok (.aload_n 0, 1) := by decide +kernel
theorem dX9_about_55 : decode cX9_about 55 = .ok (.getfield 32, 3) := by decide +kernel
theorem dX9_about_58 : decode cX9_about 58 = .ok (.iload 4, 2) := by decide +kernel
theorem dX9_about_60 : decode cX9_about 60 = .ok (.iaload, 1) := by decide +kernel
theorem dX9_about_61 : decode cX9_about 61 = .ok (.if_icmp .ne 7, 3) := by decide +kernel
theorem dX9_about_64 : decode cX9_about 64 = .ok (.iconst 0, 1) := by decide +kernel
theorem dX9_about_65 : decode cX9_about 65 = .ok (.goto 4, 3) := by decide +kernel
theorem dX9_about_68 : decode cX9_about 68 = .ok (.iconst 1, 1) := by decide +kernel
theorem dX9_about_69 : decode cX9_about 69 = .ok (.iadd, 1) := by decide +kernel
theorem dX9_about_70 : decode cX9_about 70 = .ok (.istore_n 3, 1) := by decide +kernel
theorem dX9_about_71 : decode cX9_about 71 = .ok (.iinc 4 1, 3) := by decide +kernel
theorem dX9_about_74 : decode cX9_about 74 = .ok (.goto (-62), 3) := by decide +kernel
theorem dX9_about_77 : decode cX9_about 77 = .ok (.iload_n 1, 1) := by decide +kernel
theorem dX9_about_78 : decode cX9_about 78 = .ok (.tableswitch 89 0 8 #[50, 55, 60, 65, 70, 75, 77, 79, 84], 50) := by decide +kernel
theorem dX9_about_128 : decode cX9_about 128 = .ok (.aload_n 0, 1) := by decide +kernel
theorem dX9_about_129 : decode cX9_about 129 = .ok (.getfield 121, 3) := by decide +kernel
theorem dX9_about_132 : decode cX9_about 132 = .ok (.ireturn, 1) := by decide +kernel
theorem dX9_about_133 : decode cX9_about 133 = .ok (.aload_n 0, 1) := by decide +kernel
theorem dX9_about_134 : decode cX9_about 134 = .ok (.getfield 188, 3) := by decide +kernel
theorem dX9_about_137 : decode cX9_about 137 = .ok (.ireturn, 1) := by decide +kernel
theorem dX9_about_138 : decode cX9_about 138 = .ok (.aload_n 0, 1) := by decide +kernel
theorem dX9_about_139 : decode cX9_about 139 = .ok (.getfield 128, 3) := by decide +kernel
theorem dX9_about_142 : decode cX9_about 142 = .ok (.ireturn, 1) := by decide +kernel
theorem dX9_about_143 : decode cX9_about 143 = .ok (.aload_n 0, 1) := by decide +kernel
theorem dX9_about_144 : decode cX9_about 144 = .ok (.getfield 191, 3) := by decide +kernel
theorem dX9_about_147 : decode cX9_about 147 = .ok (.ireturn, 1) := by decide +kernel
theorem dX9_about_148 : decode cX9_about 148 = .ok (.aload_n 0, 1) := by decide +kernel
theorem dX9_about_149 : decode cX9_about 149 = .ok (.getfield 194, 3) := by decide +kernel
theorem dX9_about_152 : decode cX9_about 152 = .ok (.ireturn, 1) := by decide +kernel
theorem dX9_about_153 : decode cX9_about 153 = .ok (.iload_n 2, 1) := by decide +kernel
theorem dX9_about_154 : decode cX9_about 154 = .ok (.ireturn, 1) := by decide +kernel
theorem dX9_about_155 : decode cX9_about 155 = .ok (.iload_n 3, 1) := by decide +kernel
theorem dX9_about_156 : decode cX9_about 156 = .ok (.ireturn, 1) := by decide +kernel
theorem dX9_about_157 : decode cX9_about 157 = .ok (.aload_n 0, 1) := by decide +kernel
theorem dX9_about_158 : decode cX9_about 158 = .ok (.getfield 197, 3) := by decide +kernel
theorem dX9_about_161 : decode cX9_about 161 = .ok (.ireturn, 1) := by decide +kernel
theorem dX9_about_162 : decode cX9_about 162 = .ok (.aload_n 0, 1) := by decide +kernel
theorem dX9_about_163 : decode cX9_about 163 = .ok (.getfield 137, 3) := by decide +kernel
theorem dX9_about_166 : decode cX9_about 166 = .ok (.ireturn, 1) := by decide +kernel
theorem dX9_about_167 : decode cX9_about 167 = .ok (.bipush (-2), 2) := by decide +kernel
theorem dX9_about_169 : decode cX9_about 169 = .ok (.ireturn, 1) := by decide +kernel
theorem dX9_house_0 : decode cX9_house 0 = .ok (.aload_n 0, 1) := by decide +kernel
theorem dX9_house_1 : decode cX9_house 1 = .ok (.iconst 0, 1) := by decide +kernel
theorem dX9_house_2 : decode cX9_house 2 = .ok (.putfield 117, 3) := by decide +kernel
theorem dX9_house_5 : decode cX9_house 5 = .ok (.aload_n 0, 1) := by decide +kernel
theorem dX9_house_6 : decode cX9_house 6 = .ok (.iload_n 1, 1) := by decide +kernel
theorem dX9_house_7 : decode cX9_house 7 = .ok (.invokevirtual 200, 3) := by decide +kernel
theorem dX9_house_10 : decode cX9_house 10 = .ok (.ifCond .eq 5, 3) := by decide +kernel
theorem dX9_house_13 : decode cX9_house 13 = .ok (.iconst (-1), 1) := by decide +kernel
theorem dX9_house_14 : decode cX9_house 14 = .ok (.ireturn, 1) := by decide +kernel
theorem dX9_house_15 : decode cX9_house 15 = .ok (.iconst 0, 1) := by decide +kernel
theorem dX9_house_16 : decode cX9_house 16 = .ok (.istore_n 3, 1) := by decide +kernel
theorem dX9_house_17 : decode cX9_house 17 = .ok (.iconst 0, 1) := by decide +kernel
theorem dX9_house_18 : decode cX9_house 18 = .ok (.istore 4, 2) := by decide +kernel
theorem dX9_house_20 : decode cX9_house 20 = .ok (.iconst 0, 1) := by decide +kernel
theorem dX9_house_21 : decode cX9_house 21 = .ok (.istore 5, 2) := by decide +kernel
theorem dX9_house_23 : decode cX9_house 23 = .ok (.iload 5, 2) := by decide +kernel
theorem dX9_house_25 : decode cX9_house 25 = .ok (.aload_n 0, 1) := by decide +kernel
theorem dX9_house_26 : decode cX9_house 26 = .ok (.getfield 128, 3) := by decide +kernel
theorem dX9_house_29 : decode cX9_house 29 = .ok (.if_icmp .ge 58, 3) := by decide +kernel
theorem dX9_house_32 : decode cX9_house 32 = .ok (.iload_n 3, 1) := by decide +kernel
theorem dX9_house_33 : decode cX9_house 33 = .ok (.aload_n 0, 1) := by decide +kernel
theorem dX9_house_34 : decode cX9_house 34 = .ok (.getfield 41, 3) := by decide +kernel
theorem dX9_house_37 : decode cX9_house 37 = .ok (.iload 5, 2) := by decide +kernel
theorem dX9_house_39 : decode cX9_house 39 = .ok (.iaload, 1) := by decide +kernel
theorem dX9_house_40 : decode cX9_house 40 = .ok (.iload_n 1, 1) := by decide +kernel
theorem dX9_house_41 : decode cX9_house 41 = .ok (.if_icmp .ne 10, 3) := by decide +kernel
theorem dX9_house_44 : decode cX9_house 44 = .ok (.iconst 1, 1) := by decide +kernel
theorem dX9_house_45 : decode cX9_house 45 = .ok (.iload 5, 2) := by decide +kernel
theorem dX9_house_47 : decode cX9_house 47 = .ok (.ishl, 1) := by decide +kernel
theorem dX9_house_48 : decode cX9_house 48 = .ok (.goto 4, 3) := by decide +kernel
theorem dX9_house_51 : decode cX9_house 51 = .ok (.iconst 0, 1) := by decide +kernel
theorem dX9_house_52 : decode cX9_house 52 = .ok (.ior, 1) := by decide +kernel
theorem dX9_house_53 : decode cX9_house 53 = .ok (.istore_n 3, 1) := by decide +kernel
theorem dX9_house_54 : decode cX9_house 54 = .ok (.iload 4, 2) := by decide +kernel
theorem dX9_house_56 : decode cX9_house 56 = .ok (.aload_n 0, 1) := by decide +kernel
theorem dX9_house_57 : decode cX9_house 57 = .ok (.getfield 41, 3) := by decide +kernel
theorem dX9_house_60 : decode cX9_house 60 = .ok (.iload 5, 2) := by decide +kernel
theorem dX9_house_62 : decode cX9_house 62 = .ok (.iaload, 1) := by decide +kernel
theorem dX9_house_63 : decode cX9_house 63 = .ok (.iload_n 1, 1) := by decide +kernel
theorem dX9_house_64 : decode cX9_house 64 = .ok (.if_icmp .ne 13, 3) := by decide +kernel
theorem dX9_house_67 : decode cX9_house 67 = .ok (.aload_n 0, 1) := by decide +kernel
theorem dX9_house_68 : decode cX9_house 68 = .ok (.getfield 35, 3) := by decide +kernel
theorem dX9_house_71 : decode cX9_house 71 = .ok (.iload 5, 2) := by decide +kernel
theorem dX9_house_73 : decode cX9_house 73 = .ok (.iaload, 1) := by decide +kernel
theorem dX9_house_74 : decode cX9_house 74 = .ok (.goto 4, 3) := by decide +kernel
theorem dX9_house_77 : decode cX9_house 77 = .ok (.iconst 0, 1) := by decide +kernel
theorem dX9_house_78 : decode cX9_house 78 = .ok (.iadd, 1) := by decide +kernel
theorem dX9_house_79 : decode cX9_house 79 = .ok (.istore 4, 2) := by decide +kernel
theorem dX9_house_81 : decode cX9_house 81 = .ok (.iinc 5 1, 3) := by decide +kernel
theorem dX9_house_84 : decode cX9_house 84 = .ok (.goto (-61), 3) := by decide +kernel
theorem dX9_house_87 : decode cX9_house 87 = .ok (.iload_n 2, 1) := by decide +kernel
theorem dX9_house_88 : decode cX9_house 88 = .ok (.ifCond .ne 12, 3) := by decide +kernel
theorem dX9_house_91 : decode cX9_house 91 = .ok (.aload_n 0, 1) := by decide +kernel
theorem dX9_house_92 : decode cX9_house 92 = .ok (.getfield 13, 3) := by decide +kernel
theorem dX9_house_95 : decode cX9_house 95 = .ok (.iload_n 1, 1) := by decide +kernel
theorem dX9_house_96 : decode cX9_house 96 = .ok (.iaload, 1) := by decide +kernel
theorem dX9_house_97 : decode cX9_house 97 = .ok (.goto 38, 3) := by decide +kernel
theorem dX9_house_100 : decode cX9_house 100 = .ok (.iload_n 2, 1) := by decide +kernel
theorem dX9_house_101 : decode cX9_house 101 = .ok (.iconst 1, 1) := by decide +kernel
theorem dX9_house_102 : decode cX9_house 102 = .ok (.if_icmp .ne 12, 3) := by decide +kernel
theorem dX9_house_105 : decode cX9_house 105 = .ok (.aload_n 0, 1) := by decide +kernel
theorem dX9_house_106 : decode cX9_house 106 = .ok (.getfield 16, 3) := by decide +kernel
theorem dX9_house_109 : decode cX9_house 109 = .ok (.iload_n 1, 1) := by decide +kernel
theorem dX9_house_110 : decode cX9_house 110 = .ok (.iaload, 1) := by decide +kernel
theorem dX9_house_111 : decode cX9_house 111 = .ok (.goto 24, 3) := by decide +kernel
theorem dX9_house_114 : decode cX9_house 114 = .ok (.iload_n 2, 1) := by decide +kernel
theorem dX9_house_115 : decode cX9_house 115 = .ok (.iconst 2, 1) := by decide +kernel
theorem dX9_house_116 : decode cX9_house 116 = .ok (.if_icmp .ne 7, 3) := by decide +kernel
theorem dX9_house_119 : decode cX9_house 119 = .ok (.iload_n 3, 1) := by decide +kernel
theorem dX9_house_120 : decode cX9_house 120 = .ok (.goto 15, 3) := by decide +kernel
theorem dX9_house_123 : decode cX9_house 123 = .ok (.iload_n 2, 1) := by decide +kernel
theorem dX9_house_124 : decode cX9_house 124 = .ok (.iconst 3, 1) := by decide +kernel
theorem dX9_house_125 : decode cX9_house 125 = .ok (.if_icmp .ne 8, 3) := by decide +kernel
theorem dX9_house_128 : decode cX9_house 128 = .ok (.iload 4, 2) := by decide +kernel
theorem dX9_house_130 : decode cX9_house 130 = .ok (.goto 5, 3) := by decide +kernel
theorem dX9_house_133 : decode cX9_house 133 = .ok (.bipush (-2), 2) := by decide +kernel
theorem dX9_house_135 : decode cX9_house 135 = .ok (.ireturn, 1) := by decide +kernel
theorem dX9_stream_0 : decode cX9_stream 0 = .ok (.aload_n 0, 1) := by decide +kernel
theorem dX9_stream_1 : decode cX9_stream 1 = .ok (.iconst 0, 1) := by decide +kernel
theorem dX9_stream_2 : decode cX9_stream 2 = .ok (.putfield 117, 3) := by decide +kernel
theorem dX9_stream_5 : decode cX9_stream 5 = .ok (.iload_n 1, 1) := by decide +kernel
theorem dX9_stream_6 : decode cX9_stream 6 = .ok (.i2l, 1) := by decide +kernel
theorem dX9_stream_7 : decode cX9_stream 7 = .ok (.lconst 0, 1) := by decide +kernel
theorem dX9_stream_8 : decode cX9_stream 8 = .ok (.aload_n 0, 1) := by decide +kernel
theorem dX9_stream_9 : decode cX9_stream 9 = .ok (.getfield 188, 3) := by decide +kernel
theorem dX9_stream_12 : decode cX9_stream 12 = .ok (.iconst 1, 1) := by decide +kernel
theorem dX9_stream_13 : decode cX9_stream 13 = .ok (.isub, 1) := by decide +kernel
theorem dX9_stream_14 : decode cX9_stream 14 = .ok (.i2l, 1) := by decide +kernel
theorem dX9_stream_15 : decode cX9_stream 15 = .ok (.invokestatic 124, 3) := by decide +kernel
theorem dX9_stream_18 : decode cX9_stream 18 = .ok (.ifCond .ne 5, 3) := by decide +kernel
theorem dX9_stream_21 : decode cX9_stream 21 = .ok (.iconst (-1), 1) := by decide +kernel
theorem dX9_stream_22 : decode cX9_stream 22 = .ok (.ireturn, 1) := by decide +kernel
theorem dX9_stream_23 : decode cX9_stream 23 = .ok (.iload_n 2, 1) := by decide +kernel
theorem dX9_stream_24 : decode cX9_stream 24 = .ok (.ifCond .ne 12, 3) := by decide +kernel
theorem dX9_stream_27 : decode cX9_stream 27 = .ok (.aload_n 0, 1) := by decide +kernel
theorem dX9_stream_28 : decode cX9_stream 28 = .ok (.getfield 19, 3) := by decide +kernel
theorem dX9_stream_31 : decode cX9_stream 31 = .ok (.iload_n 1, 1) := by decide +kernel
theorem dX9_stream_32 : decode cX9_stream 32 = .ok (.iaload, 1) := by decide +kernel
theorem dX9_stream_33 : decode cX9_stream 33 = .ok (.goto 55, 3) := by decide +kernel
theorem dX9_stream_36 : decode cX9_stream 36 = .ok (.iload_n 2, 1) := by decide +kernel
theorem dX9_stream_37 : decode cX9_stream 37 = .ok (.iconst 1, 1) := by decide +kernel
theorem dX9_stream_38 : decode cX9_stream 38 = .ok (.if_icmp .ne 12, 3) := by decide +kernel
theorem dX9_stream_41 : decode cX9_stream 41 = .ok (.aload_n 0, 1) := by decide +kernel
theorem dX9_stream_42 : decode cX9_stream 42 = .ok (.getfield 22, 3) := by decide +kernel
theorem dX9_stream_45 : decode cX9_stream 45 = .ok (.iload_n 1, 1) := by decide +kernel
theorem dX9_stream_46 : decode cX9_stream 46 = .ok (.iaload, 1) := by decide +kernel
theorem dX9_stream_47 : decode cX9_stream 47 = .ok (.goto 41, 3) := by decide +kernel
theorem dX9_stream_50 : decode cX9_stream 50 = .ok (.iload_n 2, 1) := by decide +kernel
theorem dX9_stream_51 : decode cX9_stream 51 = .ok (.iconst 2, 1) := by decide +kernel
theorem dX9_stream_52 : decode cX9_stream 52 = .ok (.if_icmp .ne 12, 3) := by decide +kernel
theorem dX9_stream_55 : decode cX9_stream 55 = .ok (.aload_n 0, 1) := by decide +kernel
theorem dX9_stream_56 : decode cX9_stream 56 = .ok (.getfield 25, 3) := by decide +kernel
theorem dX9_stream_59 : decode cX9_stream 59 = .ok (.iload_n 1, 1) := by decide +kernel
theorem dX9_stream_60 : decode cX9_stream 60 = .ok (.iaload, 1) := by decide +kernel
theorem dX9_stream_61 : decode cX9_stream 61 = .ok (.goto 27, 3) := by decide +kernel
theorem dX9_stream_64 : decode cX9_stream 64 = .ok (.iload_n 2, 1) := by decide +kernel
theorem dX9_stream_65 : decode cX9_stream 65 = .ok (.iconst 3, 1) := by decide +kernel
theorem dX9_stream_66 : decode cX9_stream 66 = .ok (.if_icmp .ne 20, 3) := by decide +kernel
theorem dX9_stream_69 : decode cX9_stream 69 = .ok (.aload_n 0, 1) := by decide +kernel
theorem dX9_stream_70 : decode cX9_stream 70 = .ok (.getfield 28, 3) := by decide +kernel
theorem dX9_stream_73 : decode cX9_stream 73 = .ok (.iload_n 1, 1) := by decide +kernel
theorem dX9_stream_74 : decode cX9_stream 74 = .ok (.baload, 1) := by decide +kernel
theorem dX9_stream_75 : decode cX9_stream 75 = .ok (.ifCond .eq 7, 3) := by decide +kernel
theorem dX9_stream_78 : decode cX9_stream 78 = .ok (.iconst 1, 1) := by decide +kernel
theorem dX9_stream_79 : decode cX9_stream 79 = .ok (.goto 9, 3) := by decide +kernel
theorem dX9_stream_82 : decode cX9_stream 82 = .ok (.iconst 0, 1) := by decide +kernel
theorem dX9_stream_83 : decode cX9_stream 83 = .ok (.goto 5, 3) := by decide +kernel
theorem dX9_stream_86 : decode cX9_stream 86 = .ok (.bipush (-2), 2) := by decide +kernel
theorem dX9_stream_88 : decode cX9_stream 88 = .ok (.ireturn, 1) := by decide +kernel
theorem dX9_piece_0 : decode cX9_piece 0 = .ok (.aload_n 0, 1) := by decide +kernel
theorem dX9_piece_1 : decode cX9_piece 1 = .ok (.iconst 0, 1) := by decide +kernel
theorem dX9_piece_2 : decode cX9_piece 2 = .ok (.putfield 117, 3) := by decide +kernel
theorem dX9_piece_5 : decode cX9_piece 5 = .ok (.aload_n 0, 1) := by decide +kernel
theorem dX9_piece_6 : decode cX9_piece 6 = .ok (.iload_n 1, 1) := by decide +kernel
theorem dX9_piece_7 : decode cX9_piece 7 = .ok (.invokevirtual 203, 3) := by decide +kernel
theorem dX9_piece_10 : decode cX9_piece 10 = .ok (.ifCond .eq 5, 3) := by decide +kernel
theorem dX9_piece_13 : decode cX9_piece 13 = .ok (.iconst (-1), 1) := by decide +kernel
theorem dX9_piece_14 : decode cX9_piece 14 = .ok (.ireturn, 1) := by decide +kernel
theorem dX9_piece_15 : decode cX9_piece 15 = .ok (.iload_n 2, 1) := by decide +kernel
theorem dX9_piece_16 : decode cX9_piece 16 = .ok (.tableswitch 82 0 5 #[40, 47, 54, 61, 68, 75], 40) := by decide +kernel
theorem dX9_piece_56 : decode cX9_piece 56 = .ok (.aload_n 0, 1) := by decide +kernel
theorem dX9_piece_57 : decode cX9_piece 57 = .ok (.getfield 41, 3) := by decide +kernel
theorem dX9_piece_60 : decode cX9_piece 60 = .ok (.iload_n 1, 1) := by decide +kernel
theorem dX9_piece_61 : decode cX9_piece 61 = .ok (.iaload, 1) := by decide +kernel
theorem dX9_piece_62 : decode cX9_piece 62 = .ok (.ireturn, 1) := by decide +kernel
theorem dX9_piece_63 : decode cX9_piece 63 = .ok (.aload_n 0, 1) := by decide +kernel
theorem dX9_piece_64 : decode cX9_piece 64 = .ok (.getfield 35, 3) := by decide +kernel
theorem dX9_piece_67 : decode cX9_piece 67 = .ok (.iload_n 1, 1) := by decide +kernel
theorem dX9_piece_68 : decode cX9_piece 68 = .ok (.iaload, 1) := by decide +kernel
theorem dX9_piece_69 : decode cX9_piece 69 = .ok (.ireturn, 1) := by decide +kernel
theorem dX9_piece_70 : decode cX9_piece 70 = .ok (.aload_n 0, 1) := by decide +kernel
theorem dX9_piece_71 : decode cX9_piece 71 = .ok (.getfield 38, 3) := by decide +kernel
theorem dX9_piece_74 : decode cX9_piece 74 = .ok (.iload_n 1, 1) := by decide +kernel
theorem dX9_piece_75 : decode cX9_piece 75 = .ok (.iaload, 1) := by decide +kernel
theorem dX9_piece_76 : decode cX9_piece 76 = .ok (.ireturn, 1) := by decide +kernel
theorem dX9_piece_77 : decode cX9_piece 77 = .ok (.aload_n 0, 1) := by decide +kernel
theorem dX9_piece_78 : decode cX9_piece 78 = .ok (.getfield 44, 3) := by decide +kernel
theorem dX9_piece_81 : decode cX9_piece 81 = .ok (.iload_n 1, 1) := by decide +kernel
theorem dX9_piece_82 : decode cX9_piece 82 = .ok (.iaload, 1) := by decide +kernel
theorem dX9_piece_83 : decode cX9_piece 83 = .ok (.ireturn, 1) := by decide +kernel
theorem dX9_piece_84 : decode cX9_piece 84 = .ok (.aload_n 0, 1) := by decide +kernel
theorem dX9_piece_85 : decode cX9_piece 85 = .ok (.getfield 32, 3) := by decide +kernel
theorem dX9_piece_88 : decode cX9_piece 88 = .ok (.iload_n 1, 1) := by decide +kernel
theorem dX9_piece_89 : decode cX9_piece 89 = .ok (.iaload, 1) := by decide +kernel
theorem dX9_piece_90 : decode cX9_piece 90 = .ok (.ireturn, 1) := by decide +kernel
theorem dX9_piece_91 : decode cX9_piece 91 = .ok (.aload_n 0, 1) := by decide +kernel
theorem dX9_piece_92 : decode cX9_piece 92 = .ok (.getfield 53, 3) := by decide +kernel
theorem dX9_piece_95 : decode cX9_piece 95 = .ok (.iload_n 1, 1) := by decide +kernel
theorem dX9_piece_96 : decode cX9_piece 96 = .ok (.iaload, 1) := by decide +kernel
theorem dX9_piece_97 : decode cX9_piece 97 = .ok (.ireturn, 1) := by decide +kernel
theorem dX9_piece_98 : decode cX9_piece 98 = .ok (.bipush (-2), 2) := by decide +kernel
theorem dX9_piece_100 : decode cX9_piece 100 = .ok (.ireturn, 1) := by decide +kernel
theorem dX9_owner_0 : decode cX9_owner 0 = .ok (.aload_n 0, 1) := by decide +kernel
theorem dX9_owner_1 : decode cX9_owner 1 = .ok (.iconst 0, 1) := by decide +kernel
theorem dX9_owner_2 : decode cX9_owner 2 = .ok (.putfield 117, 3) := by decide +kernel
theorem dX9_owner_5 : decode cX9_owner 5 = .ok (.aload_n 0, 1) := by decide +kernel
theorem dX9_owner_6 : decode cX9_owner 6 = .ok (.iload_n 1, 1) := by decide +kernel
theorem dX9_owner_7 : decode cX9_owner 7 = .ok (.invokevirtual 203, 3) := by decide +kernel
theorem dX9_owner_10 : decode cX9_owner 10 = .ok (.ifCond .eq 5, 3) := by decide +kernel
theorem dX9_owner_13 : decode cX9_owner 13 = .ok (.iconst (-1), 1) := by decide +kernel
theorem dX9_owner_14 : decode cX9_owner 14 = .ok (.ireturn, 1) := by decide +kernel
theorem dX9_owner_15 : decode cX9_owner 15 = .ok (.iload_n 2, 1) := by decide +kernel
theorem dX9_owner_16 : decode cX9_owner 16 = .ok (.i2l, 1) := by decide +kernel
theorem dX9_owner_17 : decode cX9_owner 17 = .ok (.lconst 0, 1) := by decide +kernel
theorem dX9_owner_18 : decode cX9_owner 18 = .ok (.aload_n 0, 1) := by decide +kernel
theorem dX9_owner_19 : decode cX9_owner 19 = .ok (.getfield 50, 3) := by decide +kernel
theorem dX9_owner_22 : decode cX9_owner 22 = .ok (.iload_n 1, 1) := by decide +kernel
theorem dX9_owner_23 : decode cX9_owner 23 = .ok (.iaload, 1) := by decide +kernel
theorem dX9_owner_24 : decode cX9_owner 24 = .ok (.iconst 1, 1) := by decide +kernel
theorem dX9_owner_25 : decode cX9_owner 25 = .ok (.isub, 1) := by decide +kernel
theorem dX9_owner_26 : decode cX9_owner 26 = .ok (.i2l, 1) := by decide +kernel
theorem dX9_owner_27 : decode cX9_owner 27 = .ok (.invokestatic 124, 3) := by decide +kernel
theorem dX9_owner_30 : decode cX9_owner 30 = .ok (.ifCond .eq 17, 3) := by decide +kernel
theorem dX9_owner_33 : decode cX9_owner 33 = .ok (.aload_n 0, 1) := by decide +kernel
theorem dX9_owner_34 : decode cX9_owner 34 = .ok (.getfield 47, 3) := by decide +kernel
theorem dX9_owner_37 : decode cX9_owner 37 = .ok (.bipush 8, 2) := by decide +kernel
theorem dX9_owner_39 : decode cX9_owner 39 = .ok (.iload_n 1, 1) := by decide +kernel
theorem dX9_owner_40 : decode cX9_owner 40 = .ok (.imul, 1) := by decide +kernel
theorem dX9_owner_41 : decode cX9_owner 41 = .ok (.iload_n 2, 1) := by decide +kernel
theorem dX9_owner_42 : decode cX9_owner 42 = .ok (.iadd, 1) := by decide +kernel
theorem dX9_owner_43 : decode cX9_owner 43 = .ok (.iaload, 1) := by decide +kernel
theorem dX9_owner_44 : decode cX9_owner 44 = .ok (.goto 5, 3) := by decide +kernel
theorem dX9_owner_47 : decode cX9_owner 47 = .ok (.bipush (-9), 2) := by decide +kernel
theorem dX9_owner_49 : decode cX9_owner 49 = .ok (.ireturn, 1) := by decide +kernel
theorem dX9_tie_0 : decode cX9_tie 0 = .ok (.aload_n 0, 1) := by decide +kernel
theorem dX9_tie_1 : decode cX9_tie 1 = .ok (.iconst 0, 1) := by decide +kernel
theorem dX9_tie_2 : decode cX9_tie 2 = .ok (.putfield 117, 3) := by decide +kernel
theorem dX9_tie_5 : decode cX9_tie 5 = .ok (.aload_n 0, 1) := by decide +kernel
theorem dX9_tie_6 : decode cX9_tie 6 = .ok (.iload_n 1, 1) := by decide +kernel
theorem dX9_tie_7 : decode cX9_tie 7 = .ok (.invokevirtual 203, 3) := by decide +kernel
theorem dX9_tie_10 : decode cX9_tie 10 = .ok (.ifCond .eq 5, 3) := by decide +kernel
theorem dX9_tie_13 : decode cX9_tie 13 = .ok (.iconst (-1), 1) := by decide +kernel
theorem dX9_tie_14 : decode cX9_tie 14 = .ok (.ireturn, 1) := by decide +kernel
theorem dX9_tie_15 : decode cX9_tie 15 = .ok (.iload_n 2, 1) := by decide +kernel
theorem dX9_tie_16 : decode cX9_tie 16 = .ok (.i2l, 1) := by decide +kernel
theorem dX9_tie_17 : decode cX9_tie 17 = .ok (.lconst 0, 1) := by decide +kernel
theorem dX9_tie_18 : decode cX9_tie 18 = .ok (.ldc2_w 133, 3) := by decide +kernel
theorem dX9_tie_21 : decode cX9_tie 21 = .ok (.invokestatic 124, 3) := by decide +kernel
theorem dX9_tie_24 : decode cX9_tie 24 = .ok (.ifCond .ne 6, 3) := by decide +kernel
theorem dX9_tie_27 : decode cX9_tie 27 = .ok (.bipush (-2), 2) := by decide +kernel
theorem dX9_tie_29 : decode cX9_tie 29 = .ok (.ireturn, 1) := by decide +kernel
theorem dX9_tie_30 : decode cX9_tie 30 = .ok (.aload_n 0, 1) := by decide +kernel
theorem dX9_tie_31 : decode cX9_tie 31 = .ok (.getfield 44, 3) := by decide +kernel
theorem dX9_tie_34 : decode cX9_tie 34 = .ok (.iload_n 1, 1) := by decide +kernel
theorem dX9_tie_35 : decode cX9_tie 35 = .ok (.iaload, 1) := by decide +kernel
theorem dX9_tie_36 : decode cX9_tie 36 = .ok (.istore_n 3, 1) := by decide +kernel
theorem dX9_tie_37 : decode cX9_tie 37 = .ok (.aload_n 0, 1) := by decide +kernel
theorem dX9_tie_38 : decode cX9_tie 38 = .ok (.getfield 44, 3) := by decide +kernel
theorem dX9_tie_41 : decode cX9_tie 41 = .ok (.iload_n 1, 1) := by decide +kernel
theorem dX9_tie_42 : decode cX9_tie 42 = .ok (.iload_n 2, 1) := by decide +kernel
theorem dX9_tie_43 : decode cX9_tie 43 = .ok (.iastore, 1) := by decide +kernel
theorem dX9_tie_44 : decode cX9_tie 44 = .ok (.iload_n 3, 1) := by decide +kernel
theorem dX9_tie_45 : decode cX9_tie 45 = .ok (.ireturn, 1) := by decide +kernel
theorem dX9_carry_0 : decode cX9_carry 0 = .ok (.aload_n 0, 1) := by decide +kernel
theorem dX9_carry_1 : decode cX9_carry 1 = .ok (.iconst 0, 1) := by decide +kernel
theorem dX9_carry_2 : decode cX9_carry 2 = .ok (.putfield 117, 3) := by decide +kernel
theorem dX9_carry_5 : decode cX9_carry 5 = .ok (.aload_n 0, 1) := by decide +kernel
theorem dX9_carry_6 : decode cX9_carry 6 = .ok (.iload_n 1, 1) := by decide +kernel
theorem dX9_carry_7 : decode cX9_carry 7 = .ok (.invokevirtual 203, 3) := by decide +kernel
theorem dX9_carry_10 : decode cX9_carry 10 = .ok (.ifCond .ne 11, 3) := by decide +kernel
theorem dX9_carry_13 : decode cX9_carry 13 = .ok (.aload_n 0, 1) := by decide +kernel
theorem dX9_carry_14 : decode cX9_carry 14 = .ok (.iload_n 2, 1) := by decide +kernel
theorem dX9_carry_15 : decode cX9_carry 15 = .ok (.invokevirtual 200, 3) := by decide +kernel
theorem dX9_carry_18 : decode cX9_carry 18 = .ok (.ifCond .eq 5, 3) := by decide +kernel
theorem dX9_carry_21 : decode cX9_carry 21 = .ok (.iconst (-1), 1) := by decide +kernel
theorem dX9_carry_22 : decode cX9_carry 22 = .ok (.ireturn, 1) := by decide +kernel
theorem dX9_carry_23 : decode cX9_carry 23 = .ok (.aload_n 0, 1) := by decide +kernel
theorem dX9_carry_24 : decode cX9_carry 24 = .ok (.getfield 41, 3) := by decide +kernel
theorem dX9_carry_27 : decode cX9_carry 27 = .ok (.iload_n 1, 1) := by decide +kernel
theorem dX9_carry_28 : decode cX9_carry 28 = .ok (.iaload, 1) := by decide +kernel
theorem dX9_carry_29 : decode cX9_carry 29 = .ok (.istore_n 3, 1) := by decide +kernel
theorem dX9_carry_30 : decode cX9_carry 30 = .ok (.aload_n 0, 1) := by decide +kernel
theorem dX9_carry_31 : decode cX9_carry 31 = .ok (.getfield 41, 3) := by decide +kernel
theorem dX9_carry_34 : decode cX9_carry 34 = .ok (.iload_n 1, 1) := by decide +kernel
theorem dX9_carry_35 : decode cX9_carry 35 = .ok (.iload_n 2, 1) := by decide +kernel
theorem dX9_carry_36 : decode cX9_carry 36 = .ok (.iastore, 1) := by decide +kernel
theorem dX9_carry_37 : decode cX9_carry 37 = .ok (.iload_n 3, 1) := by decide +kernel
theorem dX9_carry_38 : decode cX9_carry 38 = .ok (.ireturn, 1) := by decide +kernel
theorem dX9_shut_0 : decode cX9_shut 0 = .ok (.aload_n 0, 1) := by decide +kernel
theorem dX9_shut_1 : decode cX9_shut 1 = .ok (.iconst 0, 1) := by decide +kernel
theorem dX9_shut_2 : decode cX9_shut 2 = .ok (.putfield 117, 3) := by decide +kernel
theorem dX9_shut_5 : decode cX9_shut 5 = .ok (.iload_n 1, 1) := by decide +kernel
theorem dX9_shut_6 : decode cX9_shut 6 = .ok (.i2l, 1) := by decide +kernel
theorem dX9_shut_7 : decode cX9_shut 7 = .ok (.lconst 0, 1) := by decide +kernel
theorem dX9_shut_8 : decode cX9_shut 8 = .ok (.aload_n 0, 1) := by decide +kernel
theorem dX9_shut_9 : decode cX9_shut 9 = .ok (.getfield 188, 3) := by decide +kernel
theorem dX9_shut_12 : decode cX9_shut 12 = .ok (.iconst 1, 1) := by decide +kernel
theorem dX9_shut_13 : decode cX9_shut 13 = .ok (.isub, 1) := by decide +kernel
theorem dX9_shut_14 : decode cX9_shut 14 = .ok (.i2l, 1) := by decide +kernel
theorem dX9_shut_15 : decode cX9_shut 15 = .ok (.invokestatic 124, 3) := by decide +kernel
theorem dX9_shut_18 : decode cX9_shut 18 = .ok (.ifCond .ne 5, 3) := by decide +kernel
theorem dX9_shut_21 : decode cX9_shut 21 = .ok (.iconst (-1), 1) := by decide +kernel
theorem dX9_shut_22 : decode cX9_shut 22 = .ok (.ireturn, 1) := by decide +kernel
theorem dX9_shut_23 : decode cX9_shut 23 = .ok (.aload_n 0, 1) := by decide +kernel
theorem dX9_shut_24 : decode cX9_shut 24 = .ok (.getfield 28, 3) := by decide +kernel
theorem dX9_shut_27 : decode cX9_shut 27 = .ok (.iload_n 1, 1) := by decide +kernel
theorem dX9_shut_28 : decode cX9_shut 28 = .ok (.baload, 1) := by decide +kernel
theorem dX9_shut_29 : decode cX9_shut 29 = .ok (.istore_n 3, 1) := by decide +kernel
theorem dX9_shut_30 : decode cX9_shut 30 = .ok (.aload_n 0, 1) := by decide +kernel
theorem dX9_shut_31 : decode cX9_shut 31 = .ok (.getfield 28, 3) := by decide +kernel
theorem dX9_shut_34 : decode cX9_shut 34 = .ok (.iload_n 1, 1) := by decide +kernel
theorem dX9_shut_35 : decode cX9_shut 35 = .ok (.iload_n 2, 1) := by decide +kernel
theorem dX9_shut_36 : decode cX9_shut 36 = .ok (.bastore, 1) := by decide +kernel
theorem dX9_shut_37 : decode cX9_shut 37 = .ok (.iload_n 3, 1) := by decide +kernel
theorem dX9_shut_38 : decode cX9_shut 38 = .ok (.iload_n 2, 1) := by decide +kernel
theorem dX9_shut_39 : decode cX9_shut 39 = .ok (.if_icmp .ne 7, 3) := by decide +kernel
theorem dX9_shut_42 : decode cX9_shut 42 = .ok (.iconst 0, 1) := by decide +kernel
theorem dX9_shut_43 : decode cX9_shut 43 = .ok (.goto 4, 3) := by decide +kernel
theorem dX9_shut_46 : decode cX9_shut 46 = .ok (.iconst 1, 1) := by decide +kernel
theorem dX9_shut_47 : decode cX9_shut 47 = .ok (.ireturn, 1) := by decide +kernel
theorem dX9_depth_0 : decode cX9_depth 0 = .ok (.iload_n 2, 1) := by decide +kernel
theorem dX9_depth_1 : decode cX9_depth 1 = .ok (.aload_n 0, 1) := by decide +kernel
theorem dX9_depth_2 : decode cX9_depth 2 = .ok (.getfield 13, 3) := by decide +kernel
theorem dX9_depth_5 : decode cX9_depth 5 = .ok (.iload_n 1, 1) := by decide +kernel
theorem dX9_depth_6 : decode cX9_depth 6 = .ok (.iaload, 1) := by decide +kernel
theorem dX9_depth_7 : decode cX9_depth 7 = .ok (.if_icmp .le 14, 3) := by decide +kernel
theorem dX9_depth_10 : decode cX9_depth 10 = .ok (.iload_n 2, 1) := by decide +kernel
theorem dX9_depth_11 : decode cX9_depth 11 = .ok (.aload_n 0, 1) := by decide +kernel
theorem dX9_depth_12 : decode cX9_depth 12 = .ok (.getfield 13, 3) := by decide +kernel
theorem dX9_depth_15 : decode cX9_depth 15 = .ok (.iload_n 1, 1) := by decide +kernel
theorem dX9_depth_16 : decode cX9_depth 16 = .ok (.iaload, 1) := by decide +kernel
theorem dX9_depth_17 : decode cX9_depth 17 = .ok (.isub, 1) := by decide +kernel
theorem dX9_depth_18 : decode cX9_depth 18 = .ok (.goto 4, 3) := by decide +kernel
theorem dX9_depth_21 : decode cX9_depth 21 = .ok (.iconst 0, 1) := by decide +kernel
theorem dX9_depth_22 : decode cX9_depth 22 = .ok (.ireturn, 1) := by decide +kernel
theorem dX9_deep_0 : decode cX9_deep 0 = .ok (.aload_n 0, 1) := by decide +kernel
theorem dX9_deep_1 : decode cX9_deep 1 = .ok (.iconst 0, 1) := by decide +kernel
theorem dX9_deep_2 : decode cX9_deep 2 = .ok (.putfield 117, 3) := by decide +kernel
theorem dX9_deep_5 : decode cX9_deep 5 = .ok (.aload_n 0, 1) := by decide +kernel
theorem dX9_deep_6 : decode cX9_deep 6 = .ok (.iload_n 1, 1) := by decide +kernel
theorem dX9_deep_7 : decode cX9_deep 7 = .ok (.invokevirtual 200, 3) := by decide +kernel
theorem dX9_deep_10 : decode cX9_deep 10 = .ok (.ifCond .eq 5, 3) := by decide +kernel
theorem dX9_deep_13 : decode cX9_deep 13 = .ok (.iconst (-1), 1) := by decide +kernel
theorem dX9_deep_14 : decode cX9_deep 14 = .ok (.ireturn, 1) := by decide +kernel
theorem dX9_deep_15 : decode cX9_deep 15 = .ok (.iload_n 2, 1) := by decide +kernel
theorem dX9_deep_16 : decode cX9_deep 16 = .ok (.i2l, 1) := by decide +kernel
theorem dX9_deep_17 : decode cX9_deep 17 = .ok (.lconst 0, 1) := by decide +kernel
theorem dX9_deep_18 : decode cX9_deep 18 = .ok (.ldc2_w 131, 3) := by decide +kernel
theorem dX9_deep_21 : decode cX9_deep 21 = .ok (.invokestatic 124, 3) := by decide +kernel
theorem dX9_deep_24 : decode cX9_deep 24 = .ok (.ifCond .eq 12, 3) := by decide +kernel
theorem dX9_deep_27 : decode cX9_deep 27 = .ok (.aload_n 0, 1) := by decide +kernel
theorem dX9_deep_28 : decode cX9_deep 28 = .ok (.iload_n 1, 1) := by decide +kernel
theorem dX9_deep_29 : decode cX9_deep 29 = .ok (.iload_n 2, 1) := by decide +kernel
theorem dX9_deep_30 : decode cX9_deep 30 = .ok (.invokevirtual 206, 3) := by decide +kernel
theorem dX9_deep_33 : decode cX9_deep 33 = .ok (.goto 5, 3) := by decide +kernel
theorem dX9_deep_36 : decode cX9_deep 36 = .ok (.bipush (-2), 2) := by decide +kernel
theorem dX9_deep_38 : decode cX9_deep 38 = .ok (.ireturn, 1) := by decide +kernel
theorem dX9_strongest_0 : decode cX9_strongest 0 = .ok (.bipush (-9), 2) := by decide +kernel
theorem dX9_strongest_2 : decode cX9_strongest 2 = .ok (.istore_n 2, 1) := by decide +kernel
theorem dX9_strongest_3 : decode cX9_strongest 3 = .ok (.iconst 0, 1) := by decide +kernel
theorem dX9_strongest_4 : decode cX9_strongest 4 = .ok (.istore_n 3, 1) := by decide +kernel
theorem dX9_strongest_5 : decode cX9_strongest 5 = .ok (.iload_n 3, 1) := by decide +kernel
theorem dX9_strongest_6 : decode cX9_strongest 6 = .ok (.aload_n 0, 1) := by decide +kernel
theorem dX9_strongest_7 : decode cX9_strongest 7 = .ok (.getfield 188, 3) := by decide +kernel
theorem dX9_strongest_10 : decode cX9_strongest 10 = .ok (.if_icmp .ge 67, 3) := by decide +kernel
theorem dX9_strongest_13 : decode cX9_strongest 13 = .ok (.aload_n 0, 1) := by decide +kernel
theorem dX9_strongest_14 : decode cX9_strongest 14 = .ok (.getfield 19, 3) := by decide +kernel
theorem dX9_strongest_17 : decode cX9_strongest 17 = .ok (.iload_n 3, 1) := by decide +kernel
theorem dX9_strongest_18 : decode cX9_strongest 18 = .ok (.iaload, 1) := by decide +kernel
theorem dX9_strongest_19 : decode cX9_strongest 19 = .ok (.iload_n 1, 1) := by decide +kernel
theorem dX9_strongest_20 : decode cX9_strongest 20 = .ok (.if_icmp .ne 16, 3) := by decide +kernel
theorem dX9_strongest_23 : decode cX9_strongest 23 = .ok (.aload_n 0, 1) := by decide +kernel
theorem dX9_strongest_24 : decode cX9_strongest 24 = .ok (.getfield 28, 3) := by decide +kernel
theorem dX9_strongest_27 : decode cX9_strongest 27 = .ok (.iload_n 3, 1) := by decide +kernel
theorem dX9_strongest_28 : decode cX9_strongest 28 = .ok (.baload, 1) := by decide +kernel
theorem dX9_strongest_29 : decode cX9_strongest 29 = .ok (.ifCond .ne 7, 3) := by decide +kernel
theorem dX9_strongest_32 : decode cX9_strongest 32 = .ok (.iconst 1, 1) := by decide +kernel
theorem dX9_strongest_33 : decode cX9_strongest 33 = .ok (.goto 4, 3) := by decide +kernel
theorem dX9_strongest_36 : decode cX9_strongest 36 = .ok (.iconst 0, 1) := by decide +kernel
theorem dX9_strongest_37 : decode cX9_strongest 37 = .ok (.istore 4, 2) := by decide +kernel
theorem dX9_strongest_39 : decode cX9_strongest 39 = .ok (.iload 4, 2) := by decide +kernel
theorem dX9_strongest_41 : decode cX9_strongest 41 = .ok (.ifCond .eq 28, 3) := by decide +kernel
theorem dX9_strongest_44 : decode cX9_strongest 44 = .ok (.iload_n 2, 1) := by decide +kernel
theorem dX9_strongest_45 : decode cX9_strongest 45 = .ok (.bipush (-9), 2) := by decide +kernel
theorem dX9_strongest_47 : decode cX9_strongest 47 = .ok (.if_icmp .eq 18, 3) := by decide +kernel
theorem dX9_strongest_50 : decode cX9_strongest 50 = .ok (.aload_n 0, 1) := by decide +kernel
theorem dX9_strongest_51 : decode cX9_strongest 51 = .ok (.getfield 25, 3) := by decide +kernel
theorem dX9_strongest_54 : decode cX9_strongest 54 = .ok (.iload_n 3, 1) := by decide +kernel
theorem dX9_strongest_55 : decode cX9_strongest 55 = .ok (.iaload, 1) := by decide +kernel
theorem dX9_strongest_56 : decode cX9_strongest 56 = .ok (.aload_n 0, 1) := by decide +kernel
theorem dX9_strongest_57 : decode cX9_strongest 57 = .ok (.getfield 25, 3) := by decide +kernel
theorem dX9_strongest_60 : decode cX9_strongest 60 = .ok (.iload_n 2, 1) := by decide +kernel
theorem dX9_strongest_61 : decode cX9_strongest 61 = .ok (.iaload, 1) := by decide +kernel
theorem dX9_strongest_62 : decode cX9_strongest 62 = .ok (.if_icmp .le 7, 3) := by decide +kernel
theorem dX9_strongest_65 : decode cX9_strongest 65 = .ok (.iload_n 3, 1) := by decide +kernel
theorem dX9_strongest_66 : decode cX9_strongest 66 = .ok (.goto 4, 3) := by decide +kernel
theorem dX9_strongest_69 : decode cX9_strongest 69 = .ok (.iload_n 2, 1) := by decide +kernel
theorem dX9_strongest_70 : decode cX9_strongest 70 = .ok (.istore_n 2, 1) := by decide +kernel
theorem dX9_strongest_71 : decode cX9_strongest 71 = .ok (.iinc 3 1, 3) := by decide +kernel
theorem dX9_strongest_74 : decode cX9_strongest 74 = .ok (.goto (-69), 3) := by decide +kernel
theorem dX9_strongest_77 : decode cX9_strongest 77 = .ok (.iload_n 2, 1) := by decide +kernel
theorem dX9_strongest_78 : decode cX9_strongest 78 = .ok (.ireturn, 1) := by decide +kernel
theorem dX9_begin_0 : decode cX9_begin 0 = .ok (.iconst 0, 1) := by decide +kernel
theorem dX9_begin_1 : decode cX9_begin 1 = .ok (.istore_n 1, 1) := by decide +kernel
theorem dX9_begin_2 : decode cX9_begin 2 = .ok (.iload_n 1, 1) := by decide +kernel
theorem dX9_begin_3 : decode cX9_begin 3 = .ok (.aload_n 0, 1) := by decide +kernel
theorem dX9_begin_4 : decode cX9_begin 4 = .ok (.getfield 128, 3) := by decide +kernel
theorem dX9_begin_7 : decode cX9_begin 7 = .ok (.if_icmp .ge 33, 3) := by decide +kernel
theorem dX9_begin_10 : decode cX9_begin 10 = .ok (.aload_n 0, 1) := by decide +kernel
theorem dX9_begin_11 : decode cX9_begin 11 = .ok (.getfield 95, 3) := by decide +kernel
theorem dX9_begin_14 : decode cX9_begin 14 = .ok (.iload_n 1, 1) := by decide +kernel
theorem dX9_begin_15 : decode cX9_begin 15 = .ok (.aload_n 0, 1) := by decide +kernel
theorem dX9_begin_16 : decode cX9_begin 16 = .ok (.getfield 41, 3) := by decide +kernel
theorem dX9_begin_19 : decode cX9_begin 19 = .ok (.iload_n 1, 1) := by decide +kernel
theorem dX9_begin_20 : decode cX9_begin 20 = .ok (.iaload, 1) := by decide +kernel
theorem dX9_begin_21 : decode cX9_begin 21 = .ok (.iastore, 1) := by decide +kernel
theorem dX9_begin_22 : decode cX9_begin 22 = .ok (.aload_n 0, 1) := by decide +kernel
theorem dX9_begin_23 : decode cX9_begin 23 = .ok (.getfield 98, 3) := by decide +kernel
theorem dX9_begin_26 : decode cX9_begin 26 = .ok (.iload_n 1, 1) := by decide +kernel
theorem dX9_begin_27 : decode cX9_begin 27 = .ok (.aload_n 0, 1) := by decide +kernel
theorem dX9_begin_28 : decode cX9_begin 28 = .ok (.getfield 44, 3) := by decide +kernel
theorem dX9_begin_31 : decode cX9_begin 31 = .ok (.iload_n 1, 1) := by decide +kernel
theorem dX9_begin_32 : decode cX9_begin 32 = .ok (.iaload, 1) := by decide +kernel
theorem dX9_begin_33 : decode cX9_begin 33 = .ok (.iastore, 1) := by decide +kernel
theorem dX9_begin_34 : decode cX9_begin 34 = .ok (.iinc 1 1, 3) := by decide +kernel
theorem dX9_begin_37 : decode cX9_begin 37 = .ok (.goto (-35), 3) := by decide +kernel
theorem dX9_begin_40 : decode cX9_begin 40 = .ok (.return_, 1) := by decide +kernel
theorem dX9_goHour_0 : decode cX9_goHour 0 = .ok (.iconst 0, 1) := by decide +kernel
theorem dX9_goHour_1 : decode cX9_goHour 1 = .ok (.istore_n 2, 1) := by decide +kernel
theorem dX9_goHour_2 : decode cX9_goHour 2 = .ok (.aload_n 0, 1) := by decide +kernel
theorem dX9_goHour_3 : decode cX9_goHour 3 = .ok (.iconst 0, 1) := by decide +kernel
theorem dX9_goHour_4 : decode cX9_goHour 4 = .ok (.putfield 209, 3) := by decide +kernel
theorem dX9_goHour_7 : decode cX9_goHour 7 = .ok (.iconst 0, 1) := by decide +kernel
theorem dX9_goHour_8 : decode cX9_goHour 8 = .ok (.istore_n 3, 1) := by decide +kernel
theorem dX9_goHour_9 : decode cX9_goHour 9 = .ok (.iload_n 3, 1) := by decide +kernel
theorem dX9_goHour_10 : decode cX9_goHour 10 = .ok (.aload_n 0, 1) := by decide +kernel
theorem dX9_goHour_11 : decode cX9_goHour 11 = .ok (.getfield 121, 3) := by decide +kernel
theorem dX9_goHour_14 : decode cX9_goHour 14 = .ok (.if_icmp .ge 21, 3) := by decide +kernel
theorem dX9_goHour_17 : decode cX9_goHour 17 = .ok (.aload_n 0, 1) := by decide +kernel
theorem dX9_goHour_18 : decode cX9_goHour 18 = .ok (.getfield 101, 3) := by decide +kernel
theorem dX9_goHour_21 : decode cX9_goHour 21 = .ok (.iload_n 3, 1) := by decide +kernel
theorem dX9_goHour_22 : decode cX9_goHour 22 = .ok (.aload_n 0, 1) := by decide +kernel
theorem dX9_goHour_23 : decode cX9_goHour 23 = .ok (.getfield 16, 3) := by decide +kernel
theorem dX9_goHour_26 : decode cX9_goHour 26 = .ok (.iload_n 3, 1) := by decide +kernel
theorem dX9_goHour_27 : decode cX9_goHour 27 = .ok (.iaload, 1) := by decide +kernel
theorem dX9_goHour_28 : decode cX9_goHour 28 = .ok (.iastore, 1) := by decide +kernel
theorem dX9_goHour_29 : decode cX9_goHour 29 = .ok (.iinc 3 1, 3) := by decide +kernel
theorem dX9_goHour_32 : decode cX9_goHour 32 = .ok (.goto (-23), 3) := by decide +kernel
theorem dX9_goHour_35 : decode cX9_goHour 35 = .ok (.iconst 0, 1) := by decide +kernel
theorem dX9_goHour_36 : decode cX9_goHour 36 = .ok (.istore_n 3, 1) := by decide +kernel
theorem dX9_goHour_37 : decode cX9_goHour 37 = .ok (.iload_n 3, 1) := by decide +kernel
theorem dX9_goHour_38 : decode cX9_goHour 38 = .ok (.aload_n 0, 1) := by decide +kernel
theorem dX9_goHour_39 : decode cX9_goHour 39 = .ok (.getfield 128, 3) := by decide +kernel
theorem dX9_goHour_42 : decode cX9_goHour 42 = .ok (.if_icmp .ge 240, 3) := by decide +kernel
theorem dX9_goHour_45 : decode cX9_goHour 45 = .ok (.aload_n 0, 1) := by decide +kernel
theorem dX9_goHour_46 : decode cX9_goHour 46 = .ok (.aload_n 0, 1) := by decide +kernel
theorem dX9_goHour_47 : decode cX9_goHour 47 = .ok (.getfield 95, 3) := by decide +kernel
theorem dX9_goHour_50 : decode cX9_goHour 50 = .ok (.iload_n 3, 1) := by decide +kernel
theorem dX9_goHour_51 : decode cX9_goHour 51 = .ok (.iaload, 1) := by decide +kernel
theorem dX9_goHour_52 : decode cX9_goHour 52 = .ok (.iload_n 1, 1) := by decide +kernel
theorem dX9_goHour_53 : decode cX9_goHour 53 = .ok (.invokevirtual 206, 3) := by decide +kernel
theorem dX9_goHour_56 : decode cX9_goHour 56 = .ok (.istore 4, 2) := by decide +kernel
theorem dX9_goHour_58 : decode cX9_goHour 58 = .ok (.iload 4, 2) := by decide +kernel
theorem dX9_goHour_60 : decode cX9_goHour 60 = .ok (.aload_n 0, 1) := by decide +kernel
theorem dX9_goHour_61 : decode cX9_goHour 61 = .ok (.getfield 38, 3) := by decide +kernel
theorem dX9_goHour_64 : decode cX9_goHour 64 = .ok (.iload_n 3, 1) := by decide +kernel
theorem dX9_goHour_65 : decode cX9_goHour 65 = .ok (.iaload, 1) := by decide +kernel
theorem dX9_goHour_66 : decode cX9_goHour 66 = .ok (.if_icmp .lt 7, 3) := by decide +kernel
theorem dX9_goHour_69 : decode cX9_goHour 69 = .ok (.iconst 1, 1) := by decide +kernel
theorem dX9_goHour_70 : decode cX9_goHour 70 = .ok (.goto 4, 3) := by decide +kernel
theorem dX9_goHour_73 : decode cX9_goHour 73 = .ok (.iconst 0, 1) := by decide +kernel
theorem dX9_goHour_74 : decode cX9_goHour 74 = .ok (.istore 5, 2) := by decide +kernel
theorem dX9_goHour_76 : decode cX9_goHour 76 = .ok (.aload_n 0, 1) := by decide +kernel
theorem dX9_goHour_77 : decode cX9_goHour 77 = .ok (.getfield 98, 3) := by decide +kernel
theorem dX9_goHour_80 : decode cX9_goHour 80 = .ok (.iload_n 3, 1) := by decide +kernel
theorem dX9_goHour_81 : decode cX9_goHour 81 = .ok (.iload 5, 2) := by decide +kernel
theorem dX9_goHour_83 : decode cX9_goHour 83 = .ok (.ifCond .eq 18, 3) := by decide +kernel
theorem dX9_goHour_86 : decode cX9_goHour 86 = .ok (.aload_n 0, 1) := by decide +kernel
theorem dX9_goHour_87 : decode cX9_goHour 87 = .ok (.getfield 98, 3) := by decide +kernel
theorem dX9_goHour_90 : decode cX9_goHour 90 = .ok (.iload_n 3, 1) := by decide +kernel
theorem dX9_goHour_91 : decode cX9_goHour 91 = .ok (.iaload, 1) := by decide +kernel
theorem dX9_goHour_92 : decode cX9_goHour 92 = .ok (.iload 4, 2) := by decide +kernel
theorem dX9_goHour_94 : decode cX9_goHour 94 = .ok (.if_icmp .ge 7, 3) := by decide +kernel
theorem dX9_goHour_97 : decode cX9_goHour 97 = .ok (.iconst 0, 1) := by decide +kernel
theorem dX9_goHour_98 : decode cX9_goHour 98 = .ok (.goto 9, 3) := by decide +kernel
theorem dX9_goHour_101 : decode cX9_goHour 101 = .ok (.aload_n 0, 1) := by decide +kernel
theorem dX9_goHour_102 : decode cX9_goHour 102 = .ok (.getfield 98, 3) := by decide +kernel
theorem dX9_goHour_105 : decode cX9_goHour 105 = .ok (.iload_n 3, 1) := by decide +kernel
theorem dX9_goHour_106 : decode cX9_goHour 106 = .ok (.iaload, 1) := by decide +kernel
theorem dX9_goHour_107 : decode cX9_goHour 107 = .ok (.iastore, 1) := by decide +kernel
theorem dX9_goHour_108 : decode cX9_goHour 108 = .ok (.iload 5, 2) := by decide +kernel
theorem dX9_goHour_110 : decode cX9_goHour 110 = .ok (.ifCond .eq 25, 3) := by decide +kernel
theorem dX9_goHour_113 : decode cX9_goHour 113 = .ok (.aload_n 0, 1) := by decide +kernel
theorem dX9_goHour_114 : decode cX9_goHour 114 = .ok (.getfield 98, 3) := by decide +kernel
theorem dX9_goHour_117 : decode cX9_goHour 117 = .ok (.iload_n 3, 1) := by decide +kernel
theorem dX9_goHour_118 : decode cX9_goHour 118 = .ok (.iaload, 1) := by decide +kernel
theorem dX9_goHour_119 : decode cX9_goHour 119 = .ok (.ifCond .ne 16, 3) := by decide +kernel
theorem dX9_goHour_122 : decode cX9_goHour 122 = .ok (.aload_n 0, 1) := by decide +kernel
theorem dX9_goHour_123 : decode cX9_goHour 123 = .ok (.aload_n 0, 1) := by decide +kernel
theorem dX9_goHour_124 : decode cX9_goHour 124 = .ok (.getfield 95, 3) := by decide +kernel
theorem dX9_goHour_127 : decode cX9_goHour 127 = .ok (.iload_n 3, 1) := by decide +kernel
theorem dX9_goHour_128 : decode cX9_goHour 128 = .ok (.iaload, 1) := by decide +kernel
theorem dX9_goHour_129 : decode cX9_goHour 129 = .ok (.invokevirtual 212, 3) := by decide +kernel
theorem dX9_goHour_132 : decode cX9_goHour 132 = .ok (.goto 5, 3) := by decide +kernel
theorem dX9_goHour_135 : decode cX9_goHour 135 = .ok (.bipush (-9), 2) := by decide +kernel
theorem dX9_goHour_137 : decode cX9_goHour 137 = .ok (.istore 6, 2) := by decide +kernel
theorem dX9_goHour_139 : decode cX9_goHour 139 = .ok (.iload 6, 2) := by decide +kernel
theorem dX9_goHour_141 : decode cX9_goHour 141 = .ok (.bipush (-9), 2) := by decide +kernel
theorem dX9_goHour_143 : decode cX9_goHour 143 = .ok (.if_icmp .eq 133, 3) := by decide +kernel
theorem dX9_goHour_146 : decode cX9_goHour 146 = .ok (.aload_n 0, 1) := by decide +kernel
theorem dX9_goHour_147 : decode cX9_goHour 147 = .ok (.getfield 101, 3) := by decide +kernel
theorem dX9_goHour_150 : decode cX9_goHour 150 = .ok (.aload_n 0, 1) := by decide +kernel
theorem dX9_goHour_151 : decode cX9_goHour 151 = .ok (.getfield 19, 3) := by decide +kernel
theorem dX9_goHour_154 : decode cX9_goHour 154 = .ok (.iload 6, 2) := by decide +kernel
theorem dX9_goHour_156 : decode cX9_goHour 156 = .ok (.iaload, 1) := by decide +kernel
theorem dX9_goHour_157 : decode cX9_goHour 157 = .ok (.iaload, 1) := by decide +kernel
theorem dX9_goHour_158 : decode cX9_goHour 158 = .ok (.aload_n 0, 1) := by decide +kernel
theorem dX9_goHour_159 : decode cX9_goHour 159 = .ok (.getfield 35, 3) := by decide +kernel
theorem dX9_goHour_162 : decode cX9_goHour 162 = .ok (.iload_n 3, 1) := by decide +kernel
theorem dX9_goHour_163 : decode cX9_goHour 163 = .ok (.iaload, 1) := by decide +kernel
theorem dX9_goHour_164 : decode cX9_goHour 164 = .ok (.if_icmp .lt 28, 3) := by decide +kernel
theorem dX9_goHour_167 : decode cX9_goHour 167 = .ok (.aload_n 0, 1) := by decide +kernel
theorem dX9_goHour_168 : decode cX9_goHour 168 = .ok (.getfield 101, 3) := by decide +kernel
theorem dX9_goHour_171 : decode cX9_goHour 171 = .ok (.aload_n 0, 1) := by decide +kernel
theorem dX9_goHour_172 : decode cX9_goHour 172 = .ok (.getfield 22, 3) := by decide +kernel
theorem dX9_goHour_175 : decode cX9_goHour 175 = .ok (.iload 6, 2) := by decide +kernel
theorem dX9_goHour_177 : decode cX9_goHour 177 = .ok (.iaload, 1) := by decide +kernel
theorem dX9_goHour_178 : decode cX9_goHour 178 = .ok (.iaload, 1) := by decide +kernel
theorem dX9_goHour_179 : decode cX9_goHour 179 = .ok (.aload_n 0, 1) := by decide +kernel
theorem dX9_goHour_180 : decode cX9_goHour 180 = .ok (.getfield 35, 3) := by decide +kernel
theorem dX9_goHour_183 : decode cX9_goHour 183 = .ok (.iload_n 3, 1) := by decide +kernel
theorem dX9_goHour_184 : decode cX9_goHour 184 = .ok (.iaload, 1) := by decide +kernel
theorem dX9_goHour_185 : decode cX9_goHour 185 = .ok (.if_icmp .lt 7, 3) := by decide +kernel
theorem dX9_goHour_188 : decode cX9_goHour 188 = .ok (.iconst 1, 1) := by decide +kernel
theorem dX9_goHour_189 : decode cX9_goHour 189 = .ok (.goto 4, 3) := by decide +kernel
theorem dX9_goHour_192 : decode cX9_goHour 192 = .ok (.iconst 0, 1) := by decide +kernel
theorem dX9_goHour_193 : decode cX9_goHour 193 = .ok (.istore 7, 2) := by decide +kernel
theorem dX9_goHour_195 : decode cX9_goHour 195 = .ok (.iload 7, 2) := by decide +kernel
theorem dX9_goHour_197 : decode cX9_goHour 197 = .ok (.ifCond .eq 67, 3) := by decide +kernel
theorem dX9_goHour_200 : decode cX9_goHour 200 = .ok (.aload_n 0, 1) := by decide +kernel
theorem dX9_goHour_201 : decode cX9_goHour 201 = .ok (.getfield 101, 3) := by decide +kernel
theorem dX9_goHour_204 : decode cX9_goHour 204 = .ok (.aload_n 0, 1) := by decide +kernel
theorem dX9_goHour_205 : decode cX9_goHour 205 = .ok (.getfield 19, 3) := by decide +kernel
theorem dX9_goHour_208 : decode cX9_goHour 208 = .ok (.iload 6, 2) := by decide +kernel
theorem dX9_goHour_210 : decode cX9_goHour 210 = .ok (.iaload, 1) := by decide +kernel
theorem dX9_goHour_211 : decode cX9_goHour 211 = .ok (.dup2, 1) := by decide +kernel
theorem dX9_goHour_212 : decode cX9_goHour 212 = .ok (.iaload, 1) := by decide +kernel
theorem dX9_goHour_213 : decode cX9_goHour 213 = .ok (.aload_n 0, 1) := by decide +kernel
theorem dX9_goHour_214 : decode cX9_goHour 214 = .ok (.getfield 35, 3) := by decide +kernel
theorem dX9_goHour_217 : decode cX9_goHour 217 = .ok (.iload_n 3, 1) := by decide +kernel
theorem dX9_goHour_218 : decode cX9_goHour 218 = .ok (.iaload, 1) := by decide +kernel
theorem dX9_goHour_219 : decode cX9_goHour 219 = .ok (.isub, 1) := by decide +kernel
theorem dX9_goHour_220 : decode cX9_goHour 220 = .ok (.iastore, 1) := by decide +kernel
theorem dX9_goHour_221 : decode cX9_goHour 221 = .ok (.aload_n 0, 1) := by decide +kernel
theorem dX9_goHour_222 : decode cX9_goHour 222 = .ok (.getfield 101, 3) := by decide +kernel
theorem dX9_goHour_225 : decode cX9_goHour 225 = .ok (.aload_n 0, 1) := by decide +kernel
theorem dX9_goHour_226 : decode cX9_goHour 226 = .ok (.getfield 22, 3) := by decide +kernel
theorem dX9_goHour_229 : decode cX9_goHour 229 = .ok (.iload 6, 2) := by decide +kernel
theorem dX9_goHour_231 : decode cX9_goHour 231 = .ok (.iaload, 1) := by decide +kernel
theorem dX9_goHour_232 : decode cX9_goHour 232 = .ok (.dup2, 1) := by decide +kernel
theorem dX9_goHour_233 : decode cX9_goHour 233 = .ok (.iaload, 1) := by decide +kernel
theorem dX9_goHour_234 : decode cX9_goHour 234 = .ok (.aload_n 0, 1) := by decide +kernel
theorem dX9_goHour_235 : decode cX9_goHour 235 = .ok (.getfield 35, 3) := by decide +kernel
theorem dX9_goHour_238 : decode cX9_goHour 238 = .ok (.iload_n 3, 1) := by decide +kernel
theorem dX9_goHour_239 : decode cX9_goHour 239 = .ok (.iaload, 1) := by decide +kernel
theorem dX9_goHour_240 : decode cX9_goHour 240 = .ok (.isub, 1) := by decide +kernel
theorem dX9_goHour_241 : decode cX9_goHour 241 = .ok (.iastore, 1) := by decide +kernel
theorem dX9_goHour_242 : decode cX9_goHour 242 = .ok (.aload_n 0, 1) := by decide +kernel
theorem dX9_goHour_243 : decode cX9_goHour 243 = .ok (.getfield 95, 3) := by decide +kernel
theorem dX9_goHour_246 : decode cX9_goHour 246 = .ok (.iload_n 3, 1) := by decide +kernel
theorem dX9_goHour_247 : decode cX9_goHour 247 = .ok (.aload_n 0, 1) := by decide +kernel
theorem dX9_goHour_248 : decode cX9_goHour 248 = .ok (.getfield 22, 3) := by decide +kernel
theorem dX9_goHour_251 : decode cX9_goHour 251 = .ok (.iload 6, 2) := by decide +kernel
theorem dX9_goHour_253 : decode cX9_goHour 253 = .ok (.iaload, 1) := by decide +kernel
theorem dX9_goHour_254 : decode cX9_goHour 254 = .ok (.iastore, 1) := by decide +kernel
theorem dX9_goHour_255 : decode cX9_goHour 255 = .ok (.iload_n 2, 1) := by decide +kernel
theorem dX9_goHour_256 : decode cX9_goHour 256 = .ok (.iconst 1, 1) := by decide +kernel
theorem dX9_goHour_257 : decode cX9_goHour 257 = .ok (.iload_n 3, 1) := by decide +kernel
theorem dX9_goHour_258 : decode cX9_goHour 258 = .ok (.ishl, 1) := by decide +kernel
theorem dX9_goHour_259 : decode cX9_goHour 259 = .ok (.ior, 1) := by decide +kernel
theorem dX9_goHour_260 : decode cX9_goHour 260 = .ok (.istore_n 2, 1) := by decide +kernel
theorem dX9_goHour_261 : decode cX9_goHour 261 = .ok (.goto 15, 3) := by decide +kernel
theorem dX9_goHour_264 : decode cX9_goHour 264 = .ok (.aload_n 0, 1) := by decide +kernel
theorem dX9_goHour_265 : decode cX9_goHour 265 = .ok (.dup, 1) := by decide +kernel
theorem dX9_goHour_266 : decode cX9_goHour 266 = .ok (.getfield 209, 3) := by decide +kernel
theorem dX9_goHour_269 : decode cX9_goHour 269 = .ok (.iconst 1, 1) := by decide +kernel
theorem dX9_goHour_270 : decode cX9_goHour 270 = .ok (.iload_n 3, 1) := by decide +kernel
theorem dX9_goHour_271 : decode cX9_goHour 271 = .ok (.ishl, 1) := by decide +kernel
theorem dX9_goHour_272 : decode cX9_goHour 272 = .ok (.ior, 1) := by decide +kernel
theorem dX9_goHour_273 : decode cX9_goHour 273 = .ok (.putfield 209, 3) := by decide +kernel
theorem dX9_goHour_276 : decode cX9_goHour 276 = .ok (.iinc 3 1, 3) := by decide +kernel
theorem dX9_goHour_279 : decode cX9_goHour 279 = .ok (.goto (-242), 3) := by decide +kernel
theorem dX9_goHour_282 : decode cX9_goHour 282 = .ok (.iload_n 2, 1) := by decide +kernel
theorem dX9_goHour_283 : decode cX9_goHour 283 = .ok (.ireturn, 1) := by decide +kernel
theorem dX9_goHours_0 : decode cX9_goHours 0 = .ok (.iconst 0, 1) := by decide +kernel
theorem dX9_goHours_1 : decode cX9_goHours 1 = .ok (.istore_n 3, 1) := by decide +kernel
theorem dX9_goHours_2 : decode cX9_goHours 2 = .ok (.iload_n 3, 1) := by decide +kernel
theorem dX9_goHours_3 : decode cX9_goHours 3 = .ok (.iload_n 2, 1) := by decide +kernel
theorem dX9_goHours_4 : decode cX9_goHours 4 = .ok (.if_icmp .ge 15, 3) := by decide +kernel
theorem dX9_goHours_7 : decode cX9_goHours 7 = .ok (.aload_n 0, 1) := by decide +kernel
theorem dX9_goHours_8 : decode cX9_goHours 8 = .ok (.iload_n 1, 1) := by decide +kernel
theorem dX9_goHours_9 : decode cX9_goHours 9 = .ok (.invokevirtual 215, 3) := by decide +kernel
theorem dX9_goHours_12 : decode cX9_goHours 12 = .ok (.pop, 1) := by decide +kernel
theorem dX9_goHours_13 : decode cX9_goHours 13 = .ok (.iinc 3 1, 3) := by decide +kernel
theorem dX9_goHours_16 : decode cX9_goHours 16 = .ok (.goto (-14), 3) := by decide +kernel
theorem dX9_goHours_19 : decode cX9_goHours 19 = .ok (.return_, 1) := by decide +kernel
theorem dX9_layPage_0 : decode cX9_layPage 0 = .ok (.iconst 0, 1) := by decide +kernel
theorem dX9_layPage_1 : decode cX9_layPage 1 = .ok (.istore_n 3, 1) := by decide +kernel
theorem dX9_layPage_2 : decode cX9_layPage 2 = .ok (.iload_n 3, 1) := by decide +kernel
theorem dX9_layPage_3 : decode cX9_layPage 3 = .ok (.bipush 6, 2) := by decide +kernel
theorem dX9_layPage_5 : decode cX9_layPage 5 = .ok (.if_icmp .ge 62, 3) := by decide +kernel
theorem dX9_layPage_8 : decode cX9_layPage 8 = .ok (.aload_n 1, 1) := by decide +kernel
theorem dX9_layPage_9 : decode cX9_layPage 9 = .ok (.iload_n 2, 1) := by decide +kernel
theorem dX9_layPage_10 : decode cX9_layPage 10 = .ok (.iload_n 3, 1) := by decide +kernel
theorem dX9_layPage_11 : decode cX9_layPage 11 = .ok (.iadd, 1) := by decide +kernel
theorem dX9_layPage_12 : decode cX9_layPage 12 = .ok (.aload_n 0, 1) := by decide +kernel
theorem dX9_layPage_13 : decode cX9_layPage 13 = .ok (.getfield 41, 3) := by decide +kernel
theorem dX9_layPage_16 : decode cX9_layPage 16 = .ok (.iload_n 3, 1) := by decide +kernel
theorem dX9_layPage_17 : decode cX9_layPage 17 = .ok (.iaload, 1) := by decide +kernel
theorem dX9_layPage_18 : decode cX9_layPage 18 = .ok (.iastore, 1) := by decide +kernel
theorem dX9_layPage_19 : decode cX9_layPage 19 = .ok (.aload_n 1, 1) := by decide +kernel
theorem dX9_layPage_20 : decode cX9_layPage 20 = .ok (.iload_n 2, 1) := by decide +kernel
theorem dX9_layPage_21 : decode cX9_layPage 21 = .ok (.bipush 6, 2) := by decide +kernel
theorem dX9_layPage_23 : decode cX9_layPage 23 = .ok (.iadd, 1) := by decide +kernel
theorem dX9_layPage_24 : decode cX9_layPage 24 = .ok (.iload_n 3, 1) := by decide +kernel
theorem dX9_layPage_25 : decode cX9_layPage 25 = .ok (.iadd, 1) := by decide +kernel
theorem dX9_layPage_26 : decode cX9_layPage 26 = .ok (.aload_n 0, 1) := by decide +kernel
theorem dX9_layPage_27 : decode cX9_layPage 27 = .ok (.getfield 44, 3) := by decide +kernel
theorem dX9_layPage_30 : decode cX9_layPage 30 = .ok (.iload_n 3, 1) := by decide +kernel
theorem dX9_layPage_31 : decode cX9_layPage 31 = .ok (.iaload, 1) := by decide +kernel
theorem dX9_layPage_32 : decode cX9_layPage 32 = .ok (.iastore, 1) := by decide +kernel
theorem dX9_layPage_33 : decode cX9_layPage 33 = .ok (.aload_n 1, 1) := by decide +kernel
theorem dX9_layPage_34 : decode cX9_layPage 34 = .ok (.iload_n 2, 1) := by decide +kernel
theorem dX9_layPage_35 : decode cX9_layPage 35 = .ok (.bipush 12, 2) := by decide +kernel
theorem dX9_layPage_37 : decode cX9_layPage 37 = .ok (.iadd, 1) := by decide +kernel
theorem dX9_layPage_38 : decode cX9_layPage 38 = .ok (.iload_n 3, 1) := by decide +kernel
theorem dX9_layPage_39 : decode cX9_layPage 39 = .ok (.iadd, 1) := by decide +kernel
theorem dX9_layPage_40 : decode cX9_layPage 40 = .ok (.aload_n 0, 1) := by decide +kernel
theorem dX9_layPage_41 : decode cX9_layPage 41 = .ok (.getfield 50, 3) := by decide +kernel
theorem dX9_layPage_44 : decode cX9_layPage 44 = .ok (.iload_n 3, 1) := by decide +kernel
theorem dX9_layPage_45 : decode cX9_layPage 45 = .ok (.iaload, 1) := by decide +kernel
theorem dX9_layPage_46 : decode cX9_layPage 46 = .ok (.iastore, 1) := by decide +kernel
theorem dX9_layPage_47 : decode cX9_layPage 47 = .ok (.aload_n 1, 1) := by decide +kernel
theorem dX9_layPage_48 : decode cX9_layPage 48 = .ok (.iload_n 2, 1) := by decide +kernel
theorem dX9_layPage_49 : decode cX9_layPage 49 = .ok (.bipush 18, 2) := by decide +kernel
theorem dX9_layPage_51 : decode cX9_layPage 51 = .ok (.iadd, 1) := by decide +kernel
theorem dX9_layPage_52 : decode cX9_layPage 52 = .ok (.iload_n 3, 1) := by decide +kernel
theorem dX9_layPage_53 : decode cX9_layPage 53 = .ok (.iadd, 1) := by decide +kernel
theorem dX9_layPage_54 : decode cX9_layPage 54 = .ok (.aload_n 0, 1) := by decide +kernel
theorem dX9_layPage_55 : decode cX9_layPage 55 = .ok (.getfield 53, 3) := by decide +kernel
theorem dX9_layPage_58 : decode cX9_layPage 58 = .ok (.iload_n 3, 1) := by decide +kernel
theorem dX9_layPage_59 : decode cX9_layPage 59 = .ok (.iaload, 1) := by decide +kernel
theorem dX9_layPage_60 : decode cX9_layPage 60 = .ok (.iastore, 1) := by decide +kernel
theorem dX9_layPage_61 : decode cX9_layPage 61 = .ok (.iinc 3 1, 3) := by decide +kernel
theorem dX9_layPage_64 : decode cX9_layPage 64 = .ok (.goto (-62), 3) := by decide +kernel
theorem dX9_layPage_67 : decode cX9_layPage 67 = .ok (.iconst 0, 1) := by decide +kernel
theorem dX9_layPage_68 : decode cX9_layPage 68 = .ok (.istore_n 3, 1) := by decide +kernel
theorem dX9_layPage_69 : decode cX9_layPage 69 = .ok (.iload_n 3, 1) := by decide +kernel
theorem dX9_layPage_70 : decode cX9_layPage 70 = .ok (.bipush 48, 2) := by decide +kernel
theorem dX9_layPage_72 : decode cX9_layPage 72 = .ok (.if_icmp .ge 23, 3) := by decide +kernel
theorem dX9_layPage_75 : decode cX9_layPage 75 = .ok (.aload_n 1, 1) := by decide +kernel
theorem dX9_layPage_76 : decode cX9_layPage 76 = .ok (.iload_n 2, 1) := by decide +kernel
theorem dX9_layPage_77 : decode cX9_layPage 77 = .ok (.bipush 24, 2) := by decide +kernel
theorem dX9_layPage_79 : decode cX9_layPage 79 = .ok (.iadd, 1) := by decide +kernel
theorem dX9_layPage_80 : decode cX9_layPage 80 = .ok (.iload_n 3, 1) := by decide +kernel
theorem dX9_layPage_81 : decode cX9_layPage 81 = .ok (.iadd, 1) := by decide +kernel
theorem dX9_layPage_82 : decode cX9_layPage 82 = .ok (.aload_n 0, 1) := by decide +kernel
theorem dX9_layPage_83 : decode cX9_layPage 83 = .ok (.getfield 47, 3) := by decide +kernel
theorem dX9_layPage_86 : decode cX9_layPage 86 = .ok (.iload_n 3, 1) := by decide +kernel
theorem dX9_layPage_87 : decode cX9_layPage 87 = .ok (.iaload, 1) := by decide +kernel
theorem dX9_layPage_88 : decode cX9_layPage 88 = .ok (.iastore, 1) := by decide +kernel
theorem dX9_layPage_89 : decode cX9_layPage 89 = .ok (.iinc 3 1, 3) := by decide +kernel
theorem dX9_layPage_92 : decode cX9_layPage 92 = .ok (.goto (-23), 3) := by decide +kernel
theorem dX9_layPage_95 : decode cX9_layPage 95 = .ok (.aload_n 1, 1) := by decide +kernel
theorem dX9_layPage_96 : decode cX9_layPage 96 = .ok (.iload_n 2, 1) := by decide +kernel
theorem dX9_layPage_97 : decode cX9_layPage 97 = .ok (.bipush 72, 2) := by decide +kernel
theorem dX9_layPage_99 : decode cX9_layPage 99 = .ok (.iadd, 1) := by decide +kernel
theorem dX9_layPage_100 : decode cX9_layPage 100 = .ok (.aload_n 0, 1) := by decide +kernel
theorem dX9_layPage_101 : decode cX9_layPage 101 = .ok (.getfield 191, 3) := by decide +kernel
theorem dX9_layPage_104 : decode cX9_layPage 104 = .ok (.iastore, 1) := by decide +kernel
theorem dX9_layPage_105 : decode cX9_layPage 105 = .ok (.return_, 1) := by decide +kernel
theorem dX9_takePage_0 : decode cX9_takePage 0 = .ok (.iconst 0, 1) := by decide +kernel
theorem dX9_takePage_1 : decode cX9_takePage 1 = .ok (.istore_n 3, 1) := by decide +kernel
theorem dX9_takePage_2 : decode cX9_takePage 2 = .ok (.iload_n 3, 1) := by decide +kernel
theorem dX9_takePage_3 : decode cX9_takePage 3 = .ok (.bipush 6, 2) := by decide +kernel
theorem dX9_takePage_5 : decode cX9_takePage 5 = .ok (.if_icmp .ge 62, 3) := by decide +kernel
theorem dX9_takePage_8 : decode cX9_takePage 8 = .ok (.aload_n 0, 1) := by decide +kernel
theorem dX9_takePage_9 : decode cX9_takePage 9 = .ok (.getfield 41, 3) := by decide +kernel
theorem dX9_takePage_12 : decode cX9_takePage 12 = .ok (.iload_n 3, 1) := by decide +kernel
theorem dX9_takePage_13 : decode cX9_takePage 13 = .ok (.aload_n 1, 1) := by decide +kernel
theorem dX9_takePage_14 : decode cX9_takePage 14 = .ok (.iload_n 2, 1) := by decide +kernel
theorem dX9_takePage_15 : decode cX9_takePage 15 = .ok (.iload_n 3, 1) := by decide +kernel
theorem dX9_takePage_16 : decode cX9_takePage 16 = .ok (.iadd, 1) := by decide +kernel
theorem dX9_takePage_17 : decode cX9_takePage 17 = .ok (.iaload, 1) := by decide +kernel
theorem dX9_takePage_18 : decode cX9_takePage 18 = .ok (.iastore, 1) := by decide +kernel
theorem dX9_takePage_19 : decode cX9_takePage 19 = .ok (.aload_n 0, 1) := by decide +kernel
theorem dX9_takePage_20 : decode cX9_takePage 20 = .ok (.getfield 44, 3) := by decide +kernel
theorem dX9_takePage_23 : decode cX9_takePage 23 = .ok (.iload_n 3, 1) := by decide +kernel
theorem dX9_takePage_24 : decode cX9_takePage 24 = .ok (.aload_n 1, 1) := by decide +kernel
theorem dX9_takePage_25 : decode cX9_takePage 25 = .ok (.iload_n 2, 1) := by decide +kernel
theorem dX9_takePage_26 : decode cX9_takePage 26 = .ok (.bipush 6, 2) := by decide +kernel
theorem dX9_takePage_28 : decode cX9_takePage 28 = .ok (.iadd, 1) := by decide +kernel
theorem dX9_takePage_29 : decode cX9_takePage 29 = .ok (.iload_n 3, 1) := by decide +kernel
theorem dX9_takePage_30 : decode cX9_takePage 30 = .ok (.iadd, 1) := by decide +kernel
theorem dX9_takePage_31 : decode cX9_takePage 31 = .ok (.iaload, 1) := by decide +kernel
theorem dX9_takePage_32 : decode cX9_takePage 32 = .ok (.iastore, 1) := by decide +kernel
theorem dX9_takePage_33 : decode cX9_takePage 33 = .ok (.aload_n 0, 1) := by decide +kernel
theorem dX9_takePage_34 : decode cX9_takePage 34 = .ok (.getfield 50, 3) := by decide +kernel
theorem dX9_takePage_37 : decode cX9_takePage 37 = .ok (.iload_n 3, 1) := by decide +kernel
theorem dX9_takePage_38 : decode cX9_takePage 38 = .ok (.aload_n 1, 1) := by decide +kernel
theorem dX9_takePage_39 : decode cX9_takePage 39 = .ok (.iload_n 2, 1) := by decide +kernel
theorem dX9_takePage_40 : decode cX9_takePage 40 = .ok (.bipush 12, 2) := by decide +kernel
theorem dX9_takePage_42 : decode cX9_takePage 42 = .ok (.iadd, 1) := by decide +kernel
theorem dX9_takePage_43 : decode cX9_takePage 43 = .ok (.iload_n 3, 1) := by decide +kernel
theorem dX9_takePage_44 : decode cX9_takePage 44 = .ok (.iadd, 1) := by decide +kernel
theorem dX9_takePage_45 : decode cX9_takePage 45 = .ok (.iaload, 1) := by decide +kernel
theorem dX9_takePage_46 : decode cX9_takePage 46 = .ok (.iastore, 1) := by decide +kernel
theorem dX9_takePage_47 : decode cX9_takePage 47 = .ok (.aload_n 0, 1) := by decide +kernel
theorem dX9_takePage_48 : decode cX9_takePage 48 = .ok (.getfield 53, 3) := by decide +kernel
theorem dX9_takePage_51 : decode cX9_takePage 51 = .ok (.iload_n 3, 1) := by decide +kernel
theorem dX9_takePage_52 : decode cX9_takePage 52 = .ok (.aload_n 1, 1) := by decide +kernel
theorem dX9_takePage_53 : decode cX9_takePage 53 = .ok (.iload_n 2, 1) := by decide +kernel
theorem dX9_takePage_54 : decode cX9_takePage 54 = .ok (.bipush 18, 2) := by decide +kernel
theorem dX9_takePage_56 : decode cX9_takePage 56 = .ok (.iadd, 1) := by decide +kernel
theorem dX9_takePage_57 : decode cX9_takePage 57 = .ok (.iload_n 3, 1) := by decide +kernel
theorem dX9_takePage_58 : decode cX9_takePage 58 = .ok (.iadd, 1) := by decide +kernel
theorem dX9_takePage_59 : decode cX9_takePage 59 = .ok (.iaload, 1) := by decide +kernel
theorem dX9_takePage_60 : decode cX9_takePage 60 = .ok (.iastore, 1) := by decide +kernel
theorem dX9_takePage_61 : decode cX9_takePage 61 = .ok (.iinc 3 1, 3) := by decide +kernel
theorem dX9_takePage_64 : decode cX9_takePage 64 = .ok (.goto (-62), 3) := by decide +kernel
theorem dX9_takePage_67 : decode cX9_takePage 67 = .ok (.iconst 0, 1) := by decide +kernel
theorem dX9_takePage_68 : decode cX9_takePage 68 = .ok (.istore_n 3, 1) := by decide +kernel
theorem dX9_takePage_69 : decode cX9_takePage 69 = .ok (.iload_n 3, 1) := by decide +kernel
theorem dX9_takePage_70 : decode cX9_takePage 70 = .ok (.bipush 48, 2) := by decide +kernel
theorem dX9_takePage_72 : decode cX9_takePage 72 = .ok (.if_icmp .ge 23, 3) := by decide +kernel
theorem dX9_takePage_75 : decode cX9_takePage 75 = .ok (.aload_n 0, 1) := by decide +kernel
theorem dX9_takePage_76 : decode cX9_takePage 76 = .ok (.getfield 47, 3) := by decide +kernel
theorem dX9_takePage_79 : decode cX9_takePage 79 = .ok (.iload_n 3, 1) := by decide +kernel
theorem dX9_takePage_80 : decode cX9_takePage 80 = .ok (.aload_n 1, 1) := by decide +kernel
theorem dX9_takePage_81 : decode cX9_takePage 81 = .ok (.iload_n 2, 1) := by decide +kernel
theorem dX9_takePage_82 : decode cX9_takePage 82 = .ok (.bipush 24, 2) := by decide +kernel
theorem dX9_takePage_84 : decode cX9_takePage 84 = .ok (.iadd, 1) := by decide +kernel
theorem dX9_takePage_85 : decode cX9_takePage 85 = .ok (.iload_n 3, 1) := by decide +kernel
theorem dX9_takePage_86 : decode cX9_takePage 86 = .ok (.iadd, 1) := by decide +kernel
theorem dX9_takePage_87 : decode cX9_takePage 87 = .ok (.iaload, 1) := by decide +kernel
theorem dX9_takePage_88 : decode cX9_takePage 88 = .ok (.iastore, 1) := by decide +kernel
theorem dX9_takePage_89 : decode cX9_takePage 89 = .ok (.iinc 3 1, 3) := by decide +kernel
theorem dX9_takePage_92 : decode cX9_takePage 92 = .ok (.goto (-23), 3) := by decide +kernel
theorem dX9_takePage_95 : decode cX9_takePage 95 = .ok (.aload_n 0, 1) := by decide +kernel
theorem dX9_takePage_96 : decode cX9_takePage 96 = .ok (.aload_n 1, 1) := by decide +kernel
theorem dX9_takePage_97 : decode cX9_takePage 97 = .ok (.iload_n 2, 1) := by decide +kernel
theorem dX9_takePage_98 : decode cX9_takePage 98 = .ok (.bipush 72, 2) := by decide +kernel
theorem dX9_takePage_100 : decode cX9_takePage 100 = .ok (.iadd, 1) := by decide +kernel
theorem dX9_takePage_101 : decode cX9_takePage 101 = .ok (.iaload, 1) := by decide +kernel
theorem dX9_takePage_102 : decode cX9_takePage 102 = .ok (.putfield 191, 3) := by decide +kernel
theorem dX9_takePage_105 : decode cX9_takePage 105 = .ok (.return_, 1) := by decide +kernel
theorem dX9_note_0 : decode cX9_note 0 = .ok (.aload_n 0, 1) := by decide +kernel
theorem dX9_note_1 : decode cX9_note 1 = .ok (.getfield 194, 3) := by decide +kernel
theorem dX9_note_4 : decode cX9_note 4 = .ok (.bipush 12, 2) := by decide +kernel
theorem dX9_note_6 : decode cX9_note 6 = .ok (.if_icmp .ne 43, 3) := by decide +kernel
theorem dX9_note_9 : decode cX9_note 9 = .ok (.iconst 0, 1) := by decide +kernel
theorem dX9_note_10 : decode cX9_note 10 = .ok (.istore_n 1, 1) := by decide +kernel
theorem dX9_note_11 : decode cX9_note 11 = .ok (.iload_n 1, 1) := by decide +kernel
theorem dX9_note_12 : decode cX9_note 12 = .ok (.sipush 803, 3) := by decide +kernel
theorem dX9_note_15 : decode cX9_note 15 = .ok (.if_icmp .ge 24, 3) := by decide +kernel
theorem dX9_note_18 : decode cX9_note 18 = .ok (.aload_n 0, 1) := by decide +kernel
theorem dX9_note_19 : decode cX9_note 19 = .ok (.getfield 83, 3) := by decide +kernel
theorem dX9_note_22 : decode cX9_note 22 = .ok (.iload_n 1, 1) := by decide +kernel
theorem dX9_note_23 : decode cX9_note 23 = .ok (.aload_n 0, 1) := by decide +kernel
theorem dX9_note_24 : decode cX9_note 24 = .ok (.getfield 83, 3) := by decide +kernel
theorem dX9_note_27 : decode cX9_note 27 = .ok (.iload_n 1, 1) := by decide +kernel
theorem dX9_note_28 : decode cX9_note 28 = .ok (.bipush 73, 2) := by decide +kernel
theorem dX9_note_30 : decode cX9_note 30 = .ok (.iadd, 1) := by decide +kernel
theorem dX9_note_31 : decode cX9_note 31 = .ok (.iaload, 1) := by decide +kernel
theorem dX9_note_32 : decode cX9_note 32 = .ok (.iastore, 1) := by decide +kernel
theorem dX9_note_33 : decode cX9_note 33 = .ok (.iinc 1 1, 3) := by decide +kernel
theorem dX9_note_36 : decode cX9_note 36 = .ok (.goto (-25), 3) := by decide +kernel
theorem dX9_note_39 : decode cX9_note 39 = .ok (.aload_n 0, 1) := by decide +kernel
theorem dX9_note_40 : decode cX9_note 40 = .ok (.dup, 1) := by decide +kernel
theorem dX9_note_41 : decode cX9_note 41 = .ok (.getfield 194, 3) := by decide +kernel
theorem dX9_note_44 : decode cX9_note 44 = .ok (.iconst 1, 1) := by decide +kernel
theorem dX9_note_45 : decode cX9_note 45 = .ok (.isub, 1) := by decide +kernel
theorem dX9_note_46 : decode cX9_note 46 = .ok (.putfield 194, 3) := by decide +kernel
theorem dX9_note_49 : decode cX9_note 49 = .ok (.aload_n 0, 1) := by decide +kernel
theorem dX9_note_50 : decode cX9_note 50 = .ok (.aload_n 0, 1) := by decide +kernel
theorem dX9_note_51 : decode cX9_note 51 = .ok (.getfield 83, 3) := by decide +kernel
theorem dX9_note_54 : decode cX9_note 54 = .ok (.bipush 73, 2) := by decide +kernel
theorem dX9_note_56 : decode cX9_note 56 = .ok (.aload_n 0, 1) := by decide +kernel
theorem dX9_note_57 : decode cX9_note 57 = .ok (.getfield 194, 3) := by decide +kernel
theorem dX9_note_60 : decode cX9_note 60 = .ok (.imul, 1) := by decide +kernel
theorem dX9_note_61 : decode cX9_note 61 = .ok (.invokevirtual 218, 3) := by decide +kernel
theorem dX9_note_64 : decode cX9_note 64 = .ok (.aload_n 0, 1) := by decide +kernel
theorem dX9_note_65 : decode cX9_note 65 = .ok (.dup, 1) := by decide +kernel
theorem dX9_note_66 : decode cX9_note 66 = .ok (.getfield 194, 3) := by decide +kernel
theorem dX9_note_69 : decode cX9_note 69 = .ok (.iconst 1, 1) := by decide +kernel
theorem dX9_note_70 : decode cX9_note 70 = .ok (.iadd, 1) := by decide +kernel
theorem dX9_note_71 : decode cX9_note 71 = .ok (.putfield 194, 3) := by decide +kernel
theorem dX9_note_74 : decode cX9_note 74 = .ok (.return_, 1) := by decide +kernel
theorem dX9_hour_0 : decode cX9_hour 0 = .ok (.aload_n 0, 1) := by decide +kernel
theorem dX9_hour_1 : decode cX9_hour 1 = .ok (.iconst 0, 1) := by decide +kernel
theorem dX9_hour_2 : decode cX9_hour 2 = .ok (.putfield 117, 3) := by decide +kernel
theorem dX9_hour_5 : decode cX9_hour 5 = .ok (.iload_n 1, 1) := by decide +kernel
theorem dX9_hour_6 : decode cX9_hour 6 = .ok (.i2l, 1) := by decide +kernel
theorem dX9_hour_7 : decode cX9_hour 7 = .ok (.lconst 0, 1) := by decide +kernel
theorem dX9_hour_8 : decode cX9_hour 8 = .ok (.ldc2_w 131, 3) := by decide +kernel
theorem dX9_hour_11 : decode cX9_hour 11 = .ok (.invokestatic 124, 3) := by decide +kernel
theorem dX9_hour_14 : decode cX9_hour 14 = .ok (.ifCond .ne 6, 3) := by decide +kernel
theorem dX9_hour_17 : decode cX9_hour 17 = .ok (.bipush (-2), 2) := by decide +kernel
theorem dX9_hour_19 : decode cX9_hour 19 = .ok (.ireturn, 1) := by decide +kernel
theorem dX9_hour_20 : decode cX9_hour 20 = .ok (.aload_n 0, 1) := by decide +kernel
theorem dX9_hour_21 : decode cX9_hour 21 = .ok (.invokevirtual 222, 3) := by decide +kernel
theorem dX9_hour_24 : decode cX9_hour 24 = .ok (.aload_n 0, 1) := by decide +kernel
theorem dX9_hour_25 : decode cX9_hour 25 = .ok (.invokevirtual 225, 3) := by decide +kernel
theorem dX9_hour_28 : decode cX9_hour 28 = .ok (.aload_n 0, 1) := by decide +kernel
theorem dX9_hour_29 : decode cX9_hour 29 = .ok (.iload_n 1, 1) := by decide +kernel
theorem dX9_hour_30 : decode cX9_hour 30 = .ok (.invokevirtual 215, 3) := by decide +kernel
theorem dX9_hour_33 : decode cX9_hour 33 = .ok (.istore_n 2, 1) := by decide +kernel
theorem dX9_hour_34 : decode cX9_hour 34 = .ok (.iconst 0, 1) := by decide +kernel
theorem dX9_hour_35 : decode cX9_hour 35 = .ok (.istore_n 3, 1) := by decide +kernel
theorem dX9_hour_36 : decode cX9_hour 36 = .ok (.iload_n 3, 1) := by decide +kernel
theorem dX9_hour_37 : decode cX9_hour 37 = .ok (.aload_n 0, 1) := by decide +kernel
theorem dX9_hour_38 : decode cX9_hour 38 = .ok (.getfield 128, 3) := by decide +kernel
theorem dX9_hour_41 : decode cX9_hour 41 = .ok (.if_icmp .ge 33, 3) := by decide +kernel
theorem dX9_hour_44 : decode cX9_hour 44 = .ok (.aload_n 0, 1) := by decide +kernel
theorem dX9_hour_45 : decode cX9_hour 45 = .ok (.getfield 41, 3) := by decide +kernel
theorem dX9_hour_48 : decode cX9_hour 48 = .ok (.iload_n 3, 1) := by decide +kernel
theorem dX9_hour_49 : decode cX9_hour 49 = .ok (.aload_n 0, 1) := by decide +kernel
theorem dX9_hour_50 : decode cX9_hour 50 = .ok (.getfield 95, 3) := by decide +kernel
theorem dX9_hour_53 : decode cX9_hour 53 = .ok (.iload_n 3, 1) := by decide +kernel
theorem dX9_hour_54 : decode cX9_hour 54 = .ok (.iaload, 1) := by decide +kernel
theorem dX9_hour_55 : decode cX9_hour 55 = .ok (.iastore, 1) := by decide +kernel
theorem dX9_hour_56 : decode cX9_hour 56 = .ok (.aload_n 0, 1) := by decide +kernel
theorem dX9_hour_57 : decode cX9_hour 57 = .ok (.getfield 44, 3) := by decide +kernel
theorem dX9_hour_60 : decode cX9_hour 60 = .ok (.iload_n 3, 1) := by decide +kernel
theorem dX9_hour_61 : decode cX9_hour 61 = .ok (.aload_n 0, 1) := by decide +kernel
theorem dX9_hour_62 : decode cX9_hour 62 = .ok (.getfield 98, 3) := by decide +kernel
theorem dX9_hour_65 : decode cX9_hour 65 = .ok (.iload_n 3, 1) := by decide +kernel
theorem dX9_hour_66 : decode cX9_hour 66 = .ok (.iaload, 1) := by decide +kernel
theorem dX9_hour_67 : decode cX9_hour 67 = .ok (.iastore, 1) := by decide +kernel
theorem dX9_hour_68 : decode cX9_hour 68 = .ok (.iinc 3 1, 3) := by decide +kernel
theorem dX9_hour_71 : decode cX9_hour 71 = .ok (.goto (-35), 3) := by decide +kernel
theorem dX9_hour_74 : decode cX9_hour 74 = .ok (.iload_n 2, 1) := by decide +kernel
theorem dX9_hour_75 : decode cX9_hour 75 = .ok (.ireturn, 1) := by decide +kernel
theorem dX9_jams_0 : decode cX9_jams 0 = .ok (.aload_n 0, 1) := by decide +kernel
theorem dX9_jams_1 : decode cX9_jams 1 = .ok (.iconst 0, 1) := by decide +kernel
theorem dX9_jams_2 : decode cX9_jams 2 = .ok (.putfield 117, 3) := by decide +kernel
theorem dX9_jams_5 : decode cX9_jams 5 = .ok (.iload_n 1, 1) := by decide +kernel
theorem dX9_jams_6 : decode cX9_jams 6 = .ok (.i2l, 1) := by decide +kernel
theorem dX9_jams_7 : decode cX9_jams 7 = .ok (.lconst 0, 1) := by decide +kernel
theorem dX9_jams_8 : decode cX9_jams 8 = .ok (.ldc2_w 131, 3) := by decide +kernel
theorem dX9_jams_11 : decode cX9_jams 11 = .ok (.invokestatic 124, 3) := by decide +kernel
theorem dX9_jams_14 : decode cX9_jams 14 = .ok (.ifCond .ne 6, 3) := by decide +kernel
theorem dX9_jams_17 : decode cX9_jams 17 = .ok (.bipush (-2), 2) := by decide +kernel
theorem dX9_jams_19 : decode cX9_jams 19 = .ok (.ireturn, 1) := by decide +kernel
theorem dX9_jams_20 : decode cX9_jams 20 = .ok (.aload_n 0, 1) := by decide +kernel
theorem dX9_jams_21 : decode cX9_jams 21 = .ok (.invokevirtual 225, 3) := by decide +kernel
theorem dX9_jams_24 : decode cX9_jams 24 = .ok (.aload_n 0, 1) := by decide +kernel
theorem dX9_jams_25 : decode cX9_jams 25 = .ok (.iload_n 1, 1) := by decide +kernel
theorem dX9_jams_26 : decode cX9_jams 26 = .ok (.invokevirtual 215, 3) := by decide +kernel
theorem dX9_jams_29 : decode cX9_jams 29 = .ok (.pop, 1) := by decide +kernel
theorem dX9_jams_30 : decode cX9_jams 30 = .ok (.aload_n 0, 1) := by decide +kernel
theorem dX9_jams_31 : decode cX9_jams 31 = .ok (.getfield 209, 3) := by decide +kernel
theorem dX9_jams_34 : decode cX9_jams 34 = .ok (.ireturn, 1) := by decide +kernel
theorem dX9_spring_0 : decode cX9_spring 0 = .ok (.aload_n 0, 1) := by decide +kernel
theorem dX9_spring_1 : decode cX9_spring 1 = .ok (.iconst 0, 1) := by decide +kernel
theorem dX9_spring_2 : decode cX9_spring 2 = .ok (.putfield 117, 3) := by decide +kernel
theorem dX9_spring_5 : decode cX9_spring 5 = .ok (.aload_n 0, 1) := by decide +kernel
theorem dX9_spring_6 : decode cX9_spring 6 = .ok (.invokevirtual 222, 3) := by decide +kernel
theorem dX9_spring_9 : decode cX9_spring 9 = .ok (.iconst 0, 1) := by decide +kernel
theorem dX9_spring_10 : decode cX9_spring 10 = .ok (.istore_n 1, 1) := by decide +kernel
theorem dX9_spring_11 : decode cX9_spring 11 = .ok (.iconst 0, 1) := by decide +kernel
theorem dX9_spring_12 : decode cX9_spring 12 = .ok (.istore_n 2, 1) := by decide +kernel
theorem dX9_spring_13 : decode cX9_spring 13 = .ok (.iload_n 2, 1) := by decide +kernel
theorem dX9_spring_14 : decode cX9_spring 14 = .ok (.aload_n 0, 1) := by decide +kernel
theorem dX9_spring_15 : decode cX9_spring 15 = .ok (.getfield 128, 3) := by decide +kernel
theorem dX9_spring_18 : decode cX9_spring 18 = .ok (.if_icmp .ge 82, 3) := by decide +kernel
theorem dX9_spring_21 : decode cX9_spring 21 = .ok (.aload_n 0, 1) := by decide +kernel
theorem dX9_spring_22 : decode cX9_spring 22 = .ok (.getfield 53, 3) := by decide +kernel
theorem dX9_spring_25 : decode cX9_spring 25 = .ok (.iload_n 2, 1) := by decide +kernel
theorem dX9_spring_26 : decode cX9_spring 26 = .ok (.iaload, 1) := by decide +kernel
theorem dX9_spring_27 : decode cX9_spring 27 = .ok (.aload_n 0, 1) := by decide +kernel
theorem dX9_spring_28 : decode cX9_spring 28 = .ok (.getfield 41, 3) := by decide +kernel
theorem dX9_spring_31 : decode cX9_spring 31 = .ok (.iload_n 2, 1) := by decide +kernel
theorem dX9_spring_32 : decode cX9_spring 32 = .ok (.iaload, 1) := by decide +kernel
theorem dX9_spring_33 : decode cX9_spring 33 = .ok (.if_icmp .eq 61, 3) := by decide +kernel
theorem dX9_spring_36 : decode cX9_spring 36 = .ok (.iinc 1 1, 3) := by decide +kernel
theorem dX9_spring_39 : decode cX9_spring 39 = .ok (.aload_n 0, 1) := by decide +kernel
theorem dX9_spring_40 : decode cX9_spring 40 = .ok (.getfield 53, 3) := by decide +kernel
theorem dX9_spring_43 : decode cX9_spring 43 = .ok (.iload_n 2, 1) := by decide +kernel
theorem dX9_spring_44 : decode cX9_spring 44 = .ok (.aload_n 0, 1) := by decide +kernel
theorem dX9_spring_45 : decode cX9_spring 45 = .ok (.getfield 41, 3) := by decide +kernel
theorem dX9_spring_48 : decode cX9_spring 48 = .ok (.iload_n 2, 1) := by decide +kernel
theorem dX9_spring_49 : decode cX9_spring 49 = .ok (.iaload, 1) := by decide +kernel
theorem dX9_spring_50 : decode cX9_spring 50 = .ok (.iastore, 1) := by decide +kernel
theorem dX9_spring_51 : decode cX9_spring 51 = .ok (.aload_n 0, 1) := by decide +kernel
theorem dX9_spring_52 : decode cX9_spring 52 = .ok (.getfield 50, 3) := by decide +kernel
theorem dX9_spring_55 : decode cX9_spring 55 = .ok (.iload_n 2, 1) := by decide +kernel
theorem dX9_spring_56 : decode cX9_spring 56 = .ok (.iaload, 1) := by decide +kernel
theorem dX9_spring_57 : decode cX9_spring 57 = .ok (.bipush 8, 2) := by decide +kernel
theorem dX9_spring_59 : decode cX9_spring 59 = .ok (.if_icmp .ge 35, 3) := by decide +kernel
theorem dX9_spring_62 : decode cX9_spring 62 = .ok (.aload_n 0, 1) := by decide +kernel
theorem dX9_spring_63 : decode cX9_spring 63 = .ok (.getfield 47, 3) := by decide +kernel
theorem dX9_spring_66 : decode cX9_spring 66 = .ok (.bipush 8, 2) := by decide +kernel
theorem dX9_spring_68 : decode cX9_spring 68 = .ok (.iload_n 2, 1) := by decide +kernel
theorem dX9_spring_69 : decode cX9_spring 69 = .ok (.imul, 1) := by decide +kernel
theorem dX9_spring_70 : decode cX9_spring 70 = .ok (.aload_n 0, 1) := by decide +kernel
theorem dX9_spring_71 : decode cX9_spring 71 = .ok (.getfield 50, 3) := by decide +kernel
theorem dX9_spring_74 : decode cX9_spring 74 = .ok (.iload_n 2, 1) := by decide +kernel
theorem dX9_spring_75 : decode cX9_spring 75 = .ok (.iaload, 1) := by decide +kernel
theorem dX9_spring_76 : decode cX9_spring 76 = .ok (.iadd, 1) := by decide +kernel
theorem dX9_spring_77 : decode cX9_spring 77 = .ok (.aload_n 0, 1) := by decide +kernel
theorem dX9_spring_78 : decode cX9_spring 78 = .ok (.getfield 41, 3) := by decide +kernel
theorem dX9_spring_81 : decode cX9_spring 81 = .ok (.iload_n 2, 1) := by decide +kernel
theorem dX9_spring_82 : decode cX9_spring 82 = .ok (.iaload, 1) := by decide +kernel
theorem dX9_spring_83 : decode cX9_spring 83 = .ok (.iastore, 1) := by decide +kernel
theorem dX9_spring_84 : decode cX9_spring 84 = .ok (.aload_n 0, 1) := by decide +kernel
theorem dX9_spring_85 : decode cX9_spring 85 = .ok (.getfield 50, 3) := by decide +kernel
theorem dX9_spring_88 : decode cX9_spring 88 = .ok (.iload_n 2, 1) := by decide +kernel
theorem dX9_spring_89 : decode cX9_spring 89 = .ok (.dup2, 1) := by decide +kernel
theorem dX9_spring_90 : decode cX9_spring 90 = .ok (.iaload, 1) := by decide +kernel
theorem dX9_spring_91 : decode cX9_spring 91 = .ok (.iconst 1, 1) := by decide +kernel
theorem dX9_spring_92 : decode cX9_spring 92 = .ok (.iadd, 1) := by decide +kernel
theorem dX9_spring_93 : decode cX9_spring 93 = .ok (.iastore, 1) := by decide +kernel
theorem dX9_spring_94 : decode cX9_spring 94 = .ok (.iinc 2 1, 3) := by decide +kernel
theorem dX9_spring_97 : decode cX9_spring 97 = .ok (.goto (-84), 3) := by decide +kernel
theorem dX9_spring_100 : decode cX9_spring 100 = .ok (.aload_n 0, 1) := by decide +kernel
theorem dX9_spring_101 : decode cX9_spring 101 = .ok (.dup, 1) := by decide +kernel
theorem dX9_spring_102 : decode cX9_spring 102 = .ok (.getfield 191, 3) := by decide +kernel
theorem dX9_spring_105 : decode cX9_spring 105 = .ok (.iconst 1, 1) := by decide +kernel
theorem dX9_spring_106 : decode cX9_spring 106 = .ok (.iadd, 1) := by decide +kernel
theorem dX9_spring_107 : decode cX9_spring 107 = .ok (.putfield 191, 3) := by decide +kernel
theorem dX9_spring_110 : decode cX9_spring 110 = .ok (.iload_n 1, 1) := by decide +kernel
theorem dX9_spring_111 : decode cX9_spring 111 = .ok (.ireturn, 1) := by decide +kernel
theorem dX9_undo_0 : decode cX9_undo 0 = .ok (.aload_n 0, 1) := by decide +kernel
theorem dX9_undo_1 : decode cX9_undo 1 = .ok (.iconst 0, 1) := by decide +kernel
theorem dX9_undo_2 : decode cX9_undo 2 = .ok (.putfield 117, 3) := by decide +kernel
theorem dX9_undo_5 : decode cX9_undo 5 = .ok (.aload_n 0, 1) := by decide +kernel
theorem dX9_undo_6 : decode cX9_undo 6 = .ok (.getfield 194, 3) := by decide +kernel
theorem dX9_undo_9 : decode cX9_undo 9 = .ok (.ifCond .ne 6, 3) := by decide +kernel
theorem dX9_undo_12 : decode cX9_undo 12 = .ok (.bipush (-3), 2) := by decide +kernel
theorem dX9_undo_14 : decode cX9_undo 14 = .ok (.ireturn, 1) := by decide +kernel
theorem dX9_undo_15 : decode cX9_undo 15 = .ok (.aload_n 0, 1) := by decide +kernel
theorem dX9_undo_16 : decode cX9_undo 16 = .ok (.dup, 1) := by decide +kernel
theorem dX9_undo_17 : decode cX9_undo 17 = .ok (.getfield 194, 3) := by decide +kernel
theorem dX9_undo_20 : decode cX9_undo 20 = .ok (.iconst 1, 1) := by decide +kernel
theorem dX9_undo_21 : decode cX9_undo 21 = .ok (.isub, 1) := by decide +kernel
theorem dX9_undo_22 : decode cX9_undo 22 = .ok (.putfield 194, 3) := by decide +kernel
theorem dX9_undo_25 : decode cX9_undo 25 = .ok (.aload_n 0, 1) := by decide +kernel
theorem dX9_undo_26 : decode cX9_undo 26 = .ok (.aload_n 0, 1) := by decide +kernel
theorem dX9_undo_27 : decode cX9_undo 27 = .ok (.getfield 83, 3) := by decide +kernel
theorem dX9_undo_30 : decode cX9_undo 30 = .ok (.bipush 73, 2) := by decide +kernel
theorem dX9_undo_32 : decode cX9_undo 32 = .ok (.aload_n 0, 1) := by decide +kernel
theorem dX9_undo_33 : decode cX9_undo 33 = .ok (.getfield 194, 3) := by decide +kernel
theorem dX9_undo_36 : decode cX9_undo 36 = .ok (.imul, 1) := by decide +kernel
theorem dX9_undo_37 : decode cX9_undo 37 = .ok (.invokevirtual 228, 3) := by decide +kernel
theorem dX9_undo_40 : decode cX9_undo 40 = .ok (.aload_n 0, 1) := by decide +kernel
theorem dX9_undo_41 : decode cX9_undo 41 = .ok (.getfield 194, 3) := by decide +kernel
theorem dX9_undo_44 : decode cX9_undo 44 = .ok (.ireturn, 1) := by decide +kernel
theorem dX9_after_0 : decode cX9_after 0 = .ok (.aload_n 0, 1) := by decide +kernel
theorem dX9_after_1 : decode cX9_after 1 = .ok (.iconst 0, 1) := by decide +kernel
theorem dX9_after_2 : decode cX9_after 2 = .ok (.putfield 117, 3) := by decide +kernel
theorem dX9_after_5 : decode cX9_after 5 = .ok (.aload_n 0, 1) := by decide +kernel
theorem dX9_after_6 : decode cX9_after 6 = .ok (.iload_n 1, 1) := by decide +kernel
theorem dX9_after_7 : decode cX9_after 7 = .ok (.invokevirtual 203, 3) := by decide +kernel
theorem dX9_after_10 : decode cX9_after 10 = .ok (.ifCond .eq 5, 3) := by decide +kernel
theorem dX9_after_13 : decode cX9_after 13 = .ok (.iconst (-1), 1) := by decide +kernel
theorem dX9_after_14 : decode cX9_after 14 = .ok (.ireturn, 1) := by decide +kernel
theorem dX9_after_15 : decode cX9_after 15 = .ok (.iload_n 2, 1) := by decide +kernel
theorem dX9_after_16 : decode cX9_after 16 = .ok (.iload_n 3, 1) := by decide +kernel
theorem dX9_after_17 : decode cX9_after 17 = .ok (.invokestatic 231, 3) := by decide +kernel
theorem dX9_after_20 : decode cX9_after 20 = .ok (.ifCond .eq 6, 3) := by decide +kernel
theorem dX9_after_23 : decode cX9_after 23 = .ok (.bipush (-2), 2) := by decide +kernel
theorem dX9_after_25 : decode cX9_after 25 = .ok (.ireturn, 1) := by decide +kernel
theorem dX9_after_26 : decode cX9_after 26 = .ok (.aload_n 0, 1) := by decide +kernel
theorem dX9_after_27 : decode cX9_after 27 = .ok (.invokevirtual 225, 3) := by decide +kernel
theorem dX9_after_30 : decode cX9_after 30 = .ok (.aload_n 0, 1) := by decide +kernel
theorem dX9_after_31 : decode cX9_after 31 = .ok (.iload_n 2, 1) := by decide +kernel
theorem dX9_after_32 : decode cX9_after 32 = .ok (.iload_n 3, 1) := by decide +kernel
theorem dX9_after_33 : decode cX9_after 33 = .ok (.invokevirtual 234, 3) := by decide +kernel
theorem dX9_after_36 : decode cX9_after 36 = .ok (.aload_n 0, 1) := by decide +kernel
theorem dX9_after_37 : decode cX9_after 37 = .ok (.getfield 95, 3) := by decide +kernel
theorem dX9_after_40 : decode cX9_after 40 = .ok (.iload_n 1, 1) := by decide +kernel
theorem dX9_after_41 : decode cX9_after 41 = .ok (.iaload, 1) := by decide +kernel
theorem dX9_after_42 : decode cX9_after 42 = .ok (.ireturn, 1) := by decide +kernel
theorem dX9_findTies_0 : decode cX9_findTies 0 = .ok (.bipush (-9), 2) := by decide +kernel
theorem dX9_findTies_2 : decode cX9_findTies 2 = .ok (.istore 4, 2) := by decide +kernel
theorem dX9_findTies_4 : decode cX9_findTies 4 = .ok (.iconst 0, 1) := by decide +kernel
theorem dX9_findTies_5 : decode cX9_findTies 5 = .ok (.istore 5, 2) := by decide +kernel
theorem dX9_findTies_7 : decode cX9_findTies 7 = .ok (.iload 5, 2) := by decide +kernel
theorem dX9_findTies_9 : decode cX9_findTies 9 = .ok (.iconst 1, 1) := by decide +kernel
theorem dX9_findTies_10 : decode cX9_findTies 10 = .ok (.aload_n 0, 1) := by decide +kernel
theorem dX9_findTies_11 : decode cX9_findTies 11 = .ok (.getfield 128, 3) := by decide +kernel
theorem dX9_findTies_14 : decode cX9_findTies 14 = .ok (.ishl, 1) := by decide +kernel
theorem dX9_findTies_15 : decode cX9_findTies 15 = .ok (.if_icmp .ge 225, 3) := by decide +kernel
theorem dX9_findTies_18 : decode cX9_findTies 18 = .ok (.iconst 0, 1) := by decide +kernel
theorem dX9_findTies_19 : decode cX9_findTies 19 = .ok (.istore 6, 2) := by decide +kernel
theorem dX9_findTies_21 : decode cX9_findTies 21 = .ok (.aload_n 0, 1) := by decide +kernel
theorem dX9_findTies_22 : decode cX9_findTies 22 = .ok (.invokevirtual 225, 3) := by decide +kernel
theorem dX9_findTies_25 : decode cX9_findTies 25 = .ok (.iconst 0, 1) := by decide +kernel
theorem dX9_findTies_26 : decode cX9_findTies 26 = .ok (.istore 7, 2) := by decide +kernel
theorem dX9_findTies_28 : decode cX9_findTies 28 = .ok (.iload 7, 2) := by decide +kernel
theorem dX9_findTies_30 : decode cX9_findTies 30 = .ok (.aload_n 0, 1) := by decide +kernel
theorem dX9_findTies_31 : decode cX9_findTies 31 = .ok (.getfield 128, 3) := by decide +kernel
theorem dX9_findTies_34 : decode cX9_findTies 34 = .ok (.if_icmp .ge 89, 3) := by decide +kernel
theorem dX9_findTies_37 : decode cX9_findTies 37 = .ok (.aload_n 0, 1) := by decide +kernel
theorem dX9_findTies_38 : decode cX9_findTies 38 = .ok (.aload_n 0, 1) := by decide +kernel
theorem dX9_findTies_39 : decode cX9_findTies 39 = .ok (.getfield 95, 3) := by decide +kernel
theorem dX9_findTies_42 : decode cX9_findTies 42 = .ok (.iload 7, 2) := by decide +kernel
theorem dX9_findTies_44 : decode cX9_findTies 44 = .ok (.iaload, 1) := by decide +kernel
theorem dX9_findTies_45 : decode cX9_findTies 45 = .ok (.iload_n 2, 1) := by decide +kernel
theorem dX9_findTies_46 : decode cX9_findTies 46 = .ok (.invokevirtual 206, 3) := by decide +kernel
theorem dX9_findTies_49 : decode cX9_findTies 49 = .ok (.istore 8, 2) := by decide +kernel
theorem dX9_findTies_51 : decode cX9_findTies 51 = .ok (.iload 8, 2) := by decide +kernel
theorem dX9_findTies_53 : decode cX9_findTies 53 = .ok (.bipush 9, 2) := by decide +kernel
theorem dX9_findTies_55 : decode cX9_findTies 55 = .ok (.if_icmp .le 8, 3) := by decide +kernel
theorem dX9_findTies_58 : decode cX9_findTies 58 = .ok (.bipush 9, 2) := by decide +kernel
theorem dX9_findTies_60 : decode cX9_findTies 60 = .ok (.goto 5, 3) := by decide +kernel
theorem dX9_findTies_63 : decode cX9_findTies 63 = .ok (.iload 8, 2) := by decide +kernel
theorem dX9_findTies_65 : decode cX9_findTies 65 = .ok (.istore 8, 2) := by decide +kernel
theorem dX9_findTies_67 : decode cX9_findTies 67 = .ok (.iload 6, 2) := by decide +kernel
theorem dX9_findTies_69 : decode cX9_findTies 69 = .ok (.iload 5, 2) := by decide +kernel
theorem dX9_findTies_71 : decode cX9_findTies 71 = .ok (.iload 7, 2) := by decide +kernel
theorem dX9_findTies_73 : decode cX9_findTies 73 = .ok (.invokestatic 238, 3) := by decide +kernel
theorem dX9_findTies_76 : decode cX9_findTies 76 = .ok (.ifCond .eq 8, 3) := by decide +kernel
theorem dX9_findTies_79 : decode cX9_findTies 79 = .ok (.iload 8, 2) := by decide +kernel
theorem dX9_findTies_81 : decode cX9_findTies 81 = .ok (.goto 4, 3) := by decide +kernel
theorem dX9_findTies_84 : decode cX9_findTies 84 = .ok (.iconst 0, 1) := by decide +kernel
theorem dX9_findTies_85 : decode cX9_findTies 85 = .ok (.iadd, 1) := by decide +kernel
theorem dX9_findTies_86 : decode cX9_findTies 86 = .ok (.istore 6, 2) := by decide +kernel
theorem dX9_findTies_88 : decode cX9_findTies 88 = .ok (.aload_n 0, 1) := by decide +kernel
theorem dX9_findTies_89 : decode cX9_findTies 89 = .ok (.getfield 98, 3) := by decide +kernel
theorem dX9_findTies_92 : decode cX9_findTies 92 = .ok (.iload 7, 2) := by decide +kernel
theorem dX9_findTies_94 : decode cX9_findTies 94 = .ok (.iload 5, 2) := by decide +kernel
theorem dX9_findTies_96 : decode cX9_findTies 96 = .ok (.iload 7, 2) := by decide +kernel
theorem dX9_findTies_98 : decode cX9_findTies 98 = .ok (.invokestatic 238, 3) := by decide +kernel
theorem dX9_findTies_101 : decode cX9_findTies 101 = .ok (.ifCond .eq 8, 3) := by decide +kernel
theorem dX9_findTies_104 : decode cX9_findTies 104 = .ok (.iload 8, 2) := by decide +kernel
theorem dX9_findTies_106 : decode cX9_findTies 106 = .ok (.goto 10, 3) := by decide +kernel
theorem dX9_findTies_109 : decode cX9_findTies 109 = .ok (.aload_n 0, 1) := by decide +kernel
theorem dX9_findTies_110 : decode cX9_findTies 110 = .ok (.getfield 98, 3) := by decide +kernel
theorem dX9_findTies_113 : decode cX9_findTies 113 = .ok (.iload 7, 2) := by decide +kernel
theorem dX9_findTies_115 : decode cX9_findTies 115 = .ok (.iaload, 1) := by decide +kernel
theorem dX9_findTies_116 : decode cX9_findTies 116 = .ok (.iastore, 1) := by decide +kernel
theorem dX9_findTies_117 : decode cX9_findTies 117 = .ok (.iinc 7 1, 3) := by decide +kernel
theorem dX9_findTies_120 : decode cX9_findTies 120 = .ok (.goto (-92), 3) := by decide +kernel
theorem dX9_findTies_123 : decode cX9_findTies 123 = .ok (.iload 4, 2) := by decide +kernel
theorem dX9_findTies_125 : decode cX9_findTies 125 = .ok (.bipush (-9), 2) := by decide +kernel
theorem dX9_findTies_127 : decode cX9_findTies 127 = .ok (.if_icmp .eq 10, 3) := by decide +kernel
theorem dX9_findTies_130 : decode cX9_findTies 130 = .ok (.iload 6, 2) := by decide +kernel
theorem dX9_findTies_132 : decode cX9_findTies 132 = .ok (.iload 4, 2) := by decide +kernel
theorem dX9_findTies_134 : decode cX9_findTies 134 = .ok (.if_icmp .ge 100, 3) := by decide +kernel
theorem dX9_findTies_137 : decode cX9_findTies 137 = .ok (.aload_n 0, 1) := by decide +kernel
theorem dX9_findTies_138 : decode cX9_findTies 138 = .ok (.iload_n 2, 1) := by decide +kernel
theorem dX9_findTies_139 : decode cX9_findTies 139 = .ok (.iload_n 3, 1) := by decide +kernel
theorem dX9_findTies_140 : decode cX9_findTies 140 = .ok (.invokevirtual 234, 3) := by decide +kernel
theorem dX9_findTies_143 : decode cX9_findTies 143 = .ok (.iconst 1, 1) := by decide +kernel
theorem dX9_findTies_144 : decode cX9_findTies 144 = .ok (.istore 7, 2) := by decide +kernel
theorem dX9_findTies_146 : decode cX9_findTies 146 = .ok (.iconst 0, 1) := by decide +kernel
theorem dX9_findTies_147 : decode cX9_findTies 147 = .ok (.istore 8, 2) := by decide +kernel
theorem dX9_findTies_149 : decode cX9_findTies 149 = .ok (.iload 8, 2) := by decide +kernel
theorem dX9_findTies_151 : decode cX9_findTies 151 = .ok (.aload_n 0, 1) := by decide +kernel
theorem dX9_findTies_152 : decode cX9_findTies 152 = .ok (.getfield 128, 3) := by decide +kernel
theorem dX9_findTies_155 : decode cX9_findTies 155 = .ok (.if_icmp .ge 47, 3) := by decide +kernel
theorem dX9_findTies_158 : decode cX9_findTies 158 = .ok (.iload 7, 2) := by decide +kernel
theorem dX9_findTies_160 : decode cX9_findTies 160 = .ok (.ifCond .eq 33, 3) := by decide +kernel
theorem dX9_findTies_163 : decode cX9_findTies 163 = .ok (.iload_n 1, 1) := by decide +kernel
theorem dX9_findTies_164 : decode cX9_findTies 164 = .ok (.iload 8, 2) := by decide +kernel
theorem dX9_findTies_166 : decode cX9_findTies 166 = .ok (.invokestatic 238, 3) := by decide +kernel
theorem dX9_findTies_169 : decode cX9_findTies 169 = .ok (.ifCond .eq 20, 3) := by decide +kernel
theorem dX9_findTies_172 : decode cX9_findTies 172 = .ok (.aload_n 0, 1) := by decide +kernel
theorem dX9_findTies_173 : decode cX9_findTies 173 = .ok (.getfield 95, 3) := by decide +kernel
theorem dX9_findTies_176 : decode cX9_findTies 176 = .ok (.iload 8, 2) := by decide +kernel
theorem dX9_findTies_178 : decode cX9_findTies 178 = .ok (.iaload, 1) := by decide +kernel
theorem dX9_findTies_179 : decode cX9_findTies 179 = .ok (.aload_n 0, 1) := by decide +kernel
theorem dX9_findTies_180 : decode cX9_findTies 180 = .ok (.getfield 41, 3) := by decide +kernel
theorem dX9_findTies_183 : decode cX9_findTies 183 = .ok (.iload 8, 2) := by decide +kernel
theorem dX9_findTies_185 : decode cX9_findTies 185 = .ok (.iaload, 1) := by decide +kernel
theorem dX9_findTies_186 : decode cX9_findTies 186 = .ok (.if_icmp .ne 7, 3) := by decide +kernel
theorem dX9_findTies_189 : decode cX9_findTies 189 = .ok (.iconst 1, 1) := by decide +kernel
theorem dX9_findTies_190 : decode cX9_findTies 190 = .ok (.goto 4, 3) := by decide +kernel
theorem dX9_findTies_193 : decode cX9_findTies 193 = .ok (.iconst 0, 1) := by decide +kernel
theorem dX9_findTies_194 : decode cX9_findTies 194 = .ok (.istore 7, 2) := by decide +kernel
theorem dX9_findTies_196 : decode cX9_findTies 196 = .ok (.iinc 8 1, 3) := by decide +kernel
theorem dX9_findTies_199 : decode cX9_findTies 199 = .ok (.goto (-50), 3) := by decide +kernel
theorem dX9_findTies_202 : decode cX9_findTies 202 = .ok (.iload 7, 2) := by decide +kernel
theorem dX9_findTies_204 : decode cX9_findTies 204 = .ok (.ifCond .eq 8, 3) := by decide +kernel
theorem dX9_findTies_207 : decode cX9_findTies 207 = .ok (.iload 6, 2) := by decide +kernel
theorem dX9_findTies_209 : decode cX9_findTies 209 = .ok (.goto 5, 3) := by decide +kernel
theorem dX9_findTies_212 : decode cX9_findTies 212 = .ok (.iload 4, 2) := by decide +kernel
theorem dX9_findTies_214 : decode cX9_findTies 214 = .ok (.istore 4, 2) := by decide +kernel
theorem dX9_findTies_216 : decode cX9_findTies 216 = .ok (.aload_n 0, 1) := by decide +kernel
theorem dX9_findTies_217 : decode cX9_findTies 217 = .ok (.iload 7, 2) := by decide +kernel
theorem dX9_findTies_219 : decode cX9_findTies 219 = .ok (.ifCond .eq 8, 3) := by decide +kernel
theorem dX9_findTies_222 : decode cX9_findTies 222 = .ok (.iload 5, 2) := by decide +kernel
theorem dX9_findTies_224 : decode cX9_findTies 224 = .ok (.goto 7, 3) := by decide +kernel
theorem dX9_findTies_227 : decode cX9_findTies 227 = .ok (.aload_n 0, 1) := by decide +kernel
theorem dX9_findTies_228 : decode cX9_findTies 228 = .ok (.getfield 241, 3) := by decide +kernel
theorem dX9_findTies_231 : decode cX9_findTies 231 = .ok (.putfield 241, 3) := by decide +kernel
theorem dX9_findTies_234 : decode cX9_findTies 234 = .ok (.iinc 5 1, 3) := by decide +kernel
theorem dX9_findTies_237 : decode cX9_findTies 237 = .ok (.goto (-230), 3) := by decide +kernel
theorem dX9_findTies_240 : decode cX9_findTies 240 = .ok (.iload 4, 2) := by decide +kernel
theorem dX9_findTies_242 : decode cX9_findTies 242 = .ok (.ireturn, 1) := by decide +kernel
theorem dX9_ties_0 : decode cX9_ties 0 = .ok (.aload_n 0, 1) := by decide +kernel
theorem dX9_ties_1 : decode cX9_ties 1 = .ok (.iconst 0, 1) := by decide +kernel
theorem dX9_ties_2 : decode cX9_ties 2 = .ok (.putfield 117, 3) := by decide +kernel
theorem dX9_ties_5 : decode cX9_ties 5 = .ok (.iload_n 1, 1) := by decide +kernel
theorem dX9_ties_6 : decode cX9_ties 6 = .ok (.i2l, 1) := by decide +kernel
theorem dX9_ties_7 : decode cX9_ties 7 = .ok (.lconst 0, 1) := by decide +kernel
theorem dX9_ties_8 : decode cX9_ties 8 = .ok (.iconst 1, 1) := by decide +kernel
theorem dX9_ties_9 : decode cX9_ties 9 = .ok (.aload_n 0, 1) := by decide +kernel
theorem dX9_ties_10 : decode cX9_ties 10 = .ok (.getfield 128, 3) := by decide +kernel
theorem dX9_ties_13 : decode cX9_ties 13 = .ok (.ishl, 1) := by decide +kernel
theorem dX9_ties_14 : decode cX9_ties 14 = .ok (.iconst 1, 1) := by decide +kernel
theorem dX9_ties_15 : decode cX9_ties 15 = .ok (.isub, 1) := by decide +kernel
theorem dX9_ties_16 : decode cX9_ties 16 = .ok (.i2l, 1) := by decide +kernel
theorem dX9_ties_17 : decode cX9_ties 17 = .ok (.invokestatic 124, 3) := by decide +kernel
theorem dX9_ties_20 : decode cX9_ties 20 = .ok (.ifCond .eq 11, 3) := by decide +kernel
theorem dX9_ties_23 : decode cX9_ties 23 = .ok (.iload_n 2, 1) := by decide +kernel
theorem dX9_ties_24 : decode cX9_ties 24 = .ok (.iload_n 3, 1) := by decide +kernel
theorem dX9_ties_25 : decode cX9_ties 25 = .ok (.invokestatic 231, 3) := by decide +kernel
theorem dX9_ties_28 : decode cX9_ties 28 = .ok (.ifCond .eq 6, 3) := by decide +kernel
theorem dX9_ties_31 : decode cX9_ties 31 = .ok (.bipush (-2), 2) := by decide +kernel
theorem dX9_ties_33 : decode cX9_ties 33 = .ok (.ireturn, 1) := by decide +kernel
theorem dX9_ties_34 : decode cX9_ties 34 = .ok (.aload_n 0, 1) := by decide +kernel
theorem dX9_ties_35 : decode cX9_ties 35 = .ok (.iload_n 1, 1) := by decide +kernel
theorem dX9_ties_36 : decode cX9_ties 36 = .ok (.iload_n 2, 1) := by decide +kernel
theorem dX9_ties_37 : decode cX9_ties 37 = .ok (.iload_n 3, 1) := by decide +kernel
theorem dX9_ties_38 : decode cX9_ties 38 = .ok (.invokevirtual 244, 3) := by decide +kernel
theorem dX9_ties_41 : decode cX9_ties 41 = .ok (.istore 5, 2) := by decide +kernel
theorem dX9_ties_43 : decode cX9_ties 43 = .ok (.iload 5, 2) := by decide +kernel
theorem dX9_ties_45 : decode cX9_ties 45 = .ok (.bipush (-9), 2) := by decide +kernel
theorem dX9_ties_47 : decode cX9_ties 47 = .ok (.if_icmp .eq 8, 3) := by decide +kernel
theorem dX9_ties_50 : decode cX9_ties 50 = .ok (.iload 4, 2) := by decide +kernel
theorem dX9_ties_52 : decode cX9_ties 52 = .ok (.ifCond .ne 8, 3) := by decide +kernel
theorem dX9_ties_55 : decode cX9_ties 55 = .ok (.iload 5, 2) := by decide +kernel
theorem dX9_ties_57 : decode cX9_ties 57 = .ok (.goto 7, 3) := by decide +kernel
theorem dX9_ties_60 : decode cX9_ties 60 = .ok (.aload_n 0, 1) := by decide +kernel
theorem dX9_ties_61 : decode cX9_ties 61 = .ok (.getfield 241, 3) := by decide +kernel
theorem dX9_ties_64 : decode cX9_ties 64 = .ok (.ireturn, 1) := by decide +kernel
theorem dX9_dowry_0 : decode cX9_dowry 0 = .ok (.aload_n 0, 1) := by decide +kernel
theorem dX9_dowry_1 : decode cX9_dowry 1 = .ok (.iconst 0, 1) := by decide +kernel
theorem dX9_dowry_2 : decode cX9_dowry 2 = .ok (.putfield 117, 3) := by decide +kernel
theorem dX9_dowry_5 : decode cX9_dowry 5 = .ok (.aload_n 0, 1) := by decide +kernel
theorem dX9_dowry_6 : decode cX9_dowry 6 = .ok (.iload_n 1, 1) := by decide +kernel
theorem dX9_dowry_7 : decode cX9_dowry 7 = .ok (.invokevirtual 203, 3) := by decide +kernel
theorem dX9_dowry_10 : decode cX9_dowry 10 = .ok (.ifCond .ne 12, 3) := by decide +kernel
theorem dX9_dowry_13 : decode cX9_dowry 13 = .ok (.aload_n 0, 1) := by decide +kernel
theorem dX9_dowry_14 : decode cX9_dowry 14 = .ok (.iload 4, 2) := by decide +kernel
theorem dX9_dowry_16 : decode cX9_dowry 16 = .ok (.invokevirtual 200, 3) := by decide +kernel
theorem dX9_dowry_19 : decode cX9_dowry 19 = .ok (.ifCond .eq 5, 3) := by decide +kernel
theorem dX9_dowry_22 : decode cX9_dowry 22 = .ok (.iconst (-1), 1) := by decide +kernel
theorem dX9_dowry_23 : decode cX9_dowry 23 = .ok (.ireturn, 1) := by decide +kernel
theorem dX9_dowry_24 : decode cX9_dowry 24 = .ok (.iload_n 2, 1) := by decide +kernel
theorem dX9_dowry_25 : decode cX9_dowry 25 = .ok (.iload_n 3, 1) := by decide +kernel
theorem dX9_dowry_26 : decode cX9_dowry 26 = .ok (.invokestatic 231, 3) := by decide +kernel
theorem dX9_dowry_29 : decode cX9_dowry 29 = .ok (.ifCond .eq 6, 3) := by decide +kernel
theorem dX9_dowry_32 : decode cX9_dowry 32 = .ok (.bipush (-2), 2) := by decide +kernel
theorem dX9_dowry_34 : decode cX9_dowry 34 = .ok (.ireturn, 1) := by decide +kernel
theorem dX9_dowry_35 : decode cX9_dowry 35 = .ok (.iconst 0, 1) := by decide +kernel
theorem dX9_dowry_36 : decode cX9_dowry 36 = .ok (.istore 5, 2) := by decide +kernel
theorem dX9_dowry_38 : decode cX9_dowry 38 = .ok (.iload 5, 2) := by decide +kernel
theorem dX9_dowry_40 : decode cX9_dowry 40 = .ok (.aload_n 0, 1) := by decide +kernel
theorem dX9_dowry_41 : decode cX9_dowry 41 = .ok (.getfield 121, 3) := by decide +kernel
theorem dX9_dowry_44 : decode cX9_dowry 44 = .ok (.if_icmp .ge 41, 3) := by decide +kernel
theorem dX9_dowry_47 : decode cX9_dowry 47 = .ok (.aload_n 0, 1) := by decide +kernel
theorem dX9_dowry_48 : decode cX9_dowry 48 = .ok (.invokevirtual 225, 3) := by decide +kernel
theorem dX9_dowry_51 : decode cX9_dowry 51 = .ok (.aload_n 0, 1) := by decide +kernel
theorem dX9_dowry_52 : decode cX9_dowry 52 = .ok (.getfield 95, 3) := by decide +kernel
theorem dX9_dowry_55 : decode cX9_dowry 55 = .ok (.iload_n 1, 1) := by decide +kernel
theorem dX9_dowry_56 : decode cX9_dowry 56 = .ok (.iload 5, 2) := by decide +kernel
theorem dX9_dowry_58 : decode cX9_dowry 58 = .ok (.iastore, 1) := by decide +kernel
theorem dX9_dowry_59 : decode cX9_dowry 59 = .ok (.aload_n 0, 1) := by decide +kernel
theorem dX9_dowry_60 : decode cX9_dowry 60 = .ok (.iload_n 2, 1) := by decide +kernel
theorem dX9_dowry_61 : decode cX9_dowry 61 = .ok (.iload_n 3, 1) := by decide +kernel
theorem dX9_dowry_62 : decode cX9_dowry 62 = .ok (.invokevirtual 234, 3) := by decide +kernel
theorem dX9_dowry_65 : decode cX9_dowry 65 = .ok (.aload_n 0, 1) := by decide +kernel
theorem dX9_dowry_66 : decode cX9_dowry 66 = .ok (.getfield 95, 3) := by decide +kernel
theorem dX9_dowry_69 : decode cX9_dowry 69 = .ok (.iload_n 1, 1) := by decide +kernel
theorem dX9_dowry_70 : decode cX9_dowry 70 = .ok (.iaload, 1) := by decide +kernel
theorem dX9_dowry_71 : decode cX9_dowry 71 = .ok (.iload 4, 2) := by decide +kernel
theorem dX9_dowry_73 : decode cX9_dowry 73 = .ok (.if_icmp .ne 6, 3) := by decide +kernel
theorem dX9_dowry_76 : decode cX9_dowry 76 = .ok (.iload 5, 2) := by decide +kernel
theorem dX9_dowry_78 : decode cX9_dowry 78 = .ok (.ireturn, 1) := by decide +kernel
theorem dX9_dowry_79 : decode cX9_dowry 79 = .ok (.iinc 5 1, 3) := by decide +kernel
theorem dX9_dowry_82 : decode cX9_dowry 82 = .ok (.goto (-44), 3) := by decide +kernel
theorem dX9_dowry_85 : decode cX9_dowry 85 = .ok (.bipush (-9), 2) := by decide +kernel
theorem dX9_dowry_87 : decode cX9_dowry 87 = .ok (.ireturn, 1) := by decide +kernel
theorem dX9_widthIn_0 : decode cX9_widthIn 0 = .ok (.aload_n 0, 1) := by decide +kernel
theorem dX9_widthIn_1 : decode cX9_widthIn 1 = .ok (.invokevirtual 225, 3) := by decide +kernel
theorem dX9_widthIn_4 : decode cX9_widthIn 4 = .ok (.aload_n 0, 1) := by decide +kernel
theorem dX9_widthIn_5 : decode cX9_widthIn 5 = .ok (.iload_n 2, 1) := by decide +kernel
theorem dX9_widthIn_6 : decode cX9_widthIn 6 = .ok (.iload_n 3, 1) := by decide +kernel
theorem dX9_widthIn_7 : decode cX9_widthIn 7 = .ok (.invokevirtual 234, 3) := by decide +kernel
theorem dX9_widthIn_10 : decode cX9_widthIn 10 = .ok (.iconst 0, 1) := by decide +kernel
theorem dX9_widthIn_11 : decode cX9_widthIn 11 = .ok (.istore 4, 2) := by decide +kernel
theorem dX9_widthIn_13 : decode cX9_widthIn 13 = .ok (.iconst 0, 1) := by decide +kernel
theorem dX9_widthIn_14 : decode cX9_widthIn 14 = .ok (.istore 5, 2) := by decide +kernel
theorem dX9_widthIn_16 : decode cX9_widthIn 16 = .ok (.iload 5, 2) := by decide +kernel
theorem dX9_widthIn_18 : decode cX9_widthIn 18 = .ok (.aload_n 0, 1) := by decide +kernel
theorem dX9_widthIn_19 : decode cX9_widthIn 19 = .ok (.getfield 128, 3) := by decide +kernel
theorem dX9_widthIn_22 : decode cX9_widthIn 22 = .ok (.if_icmp .ge 36, 3) := by decide +kernel
theorem dX9_widthIn_25 : decode cX9_widthIn 25 = .ok (.iload 4, 2) := by decide +kernel
theorem dX9_widthIn_27 : decode cX9_widthIn 27 = .ok (.aload_n 0, 1) := by decide +kernel
theorem dX9_widthIn_28 : decode cX9_widthIn 28 = .ok (.getfield 95, 3) := by decide +kernel
theorem dX9_widthIn_31 : decode cX9_widthIn 31 = .ok (.iload 5, 2) := by decide +kernel
theorem dX9_widthIn_33 : decode cX9_widthIn 33 = .ok (.iaload, 1) := by decide +kernel
theorem dX9_widthIn_34 : decode cX9_widthIn 34 = .ok (.iload_n 1, 1) := by decide +kernel
theorem dX9_widthIn_35 : decode cX9_widthIn 35 = .ok (.if_icmp .ne 13, 3) := by decide +kernel
theorem dX9_widthIn_38 : decode cX9_widthIn 38 = .ok (.aload_n 0, 1) := by decide +kernel
theorem dX9_widthIn_39 : decode cX9_widthIn 39 = .ok (.getfield 35, 3) := by decide +kernel
theorem dX9_widthIn_42 : decode cX9_widthIn 42 = .ok (.iload 5, 2) := by decide +kernel
theorem dX9_widthIn_44 : decode cX9_widthIn 44 = .ok (.iaload, 1) := by decide +kernel
theorem dX9_widthIn_45 : decode cX9_widthIn 45 = .ok (.goto 4, 3) := by decide +kernel
theorem dX9_widthIn_48 : decode cX9_widthIn 48 = .ok (.iconst 0, 1) := by decide +kernel
theorem dX9_widthIn_49 : decode cX9_widthIn 49 = .ok (.iadd, 1) := by decide +kernel
theorem dX9_widthIn_50 : decode cX9_widthIn 50 = .ok (.istore 4, 2) := by decide +kernel
theorem dX9_widthIn_52 : decode cX9_widthIn 52 = .ok (.iinc 5 1, 3) := by decide +kernel
theorem dX9_widthIn_55 : decode cX9_widthIn 55 = .ok (.goto (-39), 3) := by decide +kernel
theorem dX9_widthIn_58 : decode cX9_widthIn 58 = .ok (.iload 4, 2) := by decide +kernel
theorem dX9_widthIn_60 : decode cX9_widthIn 60 = .ok (.ireturn, 1) := by decide +kernel
theorem dX9_toShut_0 : decode cX9_toShut 0 = .ok (.aload_n 0, 1) := by decide +kernel
theorem dX9_toShut_1 : decode cX9_toShut 1 = .ok (.iconst 0, 1) := by decide +kernel
theorem dX9_toShut_2 : decode cX9_toShut 2 = .ok (.putfield 117, 3) := by decide +kernel
theorem dX9_toShut_5 : decode cX9_toShut 5 = .ok (.aload_n 0, 1) := by decide +kernel
theorem dX9_toShut_6 : decode cX9_toShut 6 = .ok (.iload_n 1, 1) := by decide +kernel
theorem dX9_toShut_7 : decode cX9_toShut 7 = .ok (.invokevirtual 200, 3) := by decide +kernel
theorem dX9_toShut_10 : decode cX9_toShut 10 = .ok (.ifCond .eq 5, 3) := by decide +kernel
theorem dX9_toShut_13 : decode cX9_toShut 13 = .ok (.iconst (-1), 1) := by decide +kernel
theorem dX9_toShut_14 : decode cX9_toShut 14 = .ok (.ireturn, 1) := by decide +kernel
theorem dX9_toShut_15 : decode cX9_toShut 15 = .ok (.iload_n 2, 1) := by decide +kernel
theorem dX9_toShut_16 : decode cX9_toShut 16 = .ok (.iload_n 3, 1) := by decide +kernel
theorem dX9_toShut_17 : decode cX9_toShut 17 = .ok (.invokestatic 231, 3) := by decide +kernel
theorem dX9_toShut_20 : decode cX9_toShut 20 = .ok (.ifCond .eq 6, 3) := by decide +kernel
theorem dX9_toShut_23 : decode cX9_toShut 23 = .ok (.bipush (-2), 2) := by decide +kernel
theorem dX9_toShut_25 : decode cX9_toShut 25 = .ok (.ireturn, 1) := by decide +kernel
theorem dX9_toShut_26 : decode cX9_toShut 26 = .ok (.aload_n 0, 1) := by decide +kernel
theorem dX9_toShut_27 : decode cX9_toShut 27 = .ok (.iload_n 1, 1) := by decide +kernel
theorem dX9_toShut_28 : decode cX9_toShut 28 = .ok (.iload_n 2, 1) := by decide +kernel
theorem dX9_toShut_29 : decode cX9_toShut 29 = .ok (.iload_n 3, 1) := by decide +kernel
theorem dX9_toShut_30 : decode cX9_toShut 30 = .ok (.invokevirtual 248, 3) := by decide +kernel
theorem dX9_toShut_33 : decode cX9_toShut 33 = .ok (.istore 4, 2) := by decide +kernel
theorem dX9_toShut_35 : decode cX9_toShut 35 = .ok (.bipush (-9), 2) := by decide +kernel
theorem dX9_toShut_37 : decode cX9_toShut 37 = .ok (.istore 5, 2) := by decide +kernel
theorem dX9_toShut_39 : decode cX9_toShut 39 = .ok (.iconst 0, 1) := by decide +kernel
theorem dX9_toShut_40 : decode cX9_toShut 40 = .ok (.istore 6, 2) := by decide +kernel
theorem dX9_toShut_42 : decode cX9_toShut 42 = .ok (.iload 6, 2) := by decide +kernel
theorem dX9_toShut_44 : decode cX9_toShut 44 = .ok (.aload_n 0, 1) := by decide +kernel
theorem dX9_toShut_45 : decode cX9_toShut 45 = .ok (.getfield 188, 3) := by decide +kernel
theorem dX9_toShut_48 : decode cX9_toShut 48 = .ok (.if_icmp .ge 76, 3) := by decide +kernel
theorem dX9_toShut_51 : decode cX9_toShut 51 = .ok (.aload_n 0, 1) := by decide +kernel
theorem dX9_toShut_52 : decode cX9_toShut 52 = .ok (.getfield 28, 3) := by decide +kernel
theorem dX9_toShut_55 : decode cX9_toShut 55 = .ok (.iload 6, 2) := by decide +kernel
theorem dX9_toShut_57 : decode cX9_toShut 57 = .ok (.baload, 1) := by decide +kernel
theorem dX9_toShut_58 : decode cX9_toShut 58 = .ok (.ifCond .ne 60, 3) := by decide +kernel
theorem dX9_toShut_61 : decode cX9_toShut 61 = .ok (.aload_n 0, 1) := by decide +kernel
theorem dX9_toShut_62 : decode cX9_toShut 62 = .ok (.getfield 28, 3) := by decide +kernel
theorem dX9_toShut_65 : decode cX9_toShut 65 = .ok (.iload 6, 2) := by decide +kernel
theorem dX9_toShut_67 : decode cX9_toShut 67 = .ok (.iconst 1, 1) := by decide +kernel
theorem dX9_toShut_68 : decode cX9_toShut 68 = .ok (.bastore, 1) := by decide +kernel
theorem dX9_toShut_69 : decode cX9_toShut 69 = .ok (.aload_n 0, 1) := by decide +kernel
theorem dX9_toShut_70 : decode cX9_toShut 70 = .ok (.iload_n 1, 1) := by decide +kernel
theorem dX9_toShut_71 : decode cX9_toShut 71 = .ok (.iload_n 2, 1) := by decide +kernel
theorem dX9_toShut_72 : decode cX9_toShut 72 = .ok (.iload_n 3, 1) := by decide +kernel
theorem dX9_toShut_73 : decode cX9_toShut 73 = .ok (.invokevirtual 248, 3) := by decide +kernel
theorem dX9_toShut_76 : decode cX9_toShut 76 = .ok (.istore 7, 2) := by decide +kernel
theorem dX9_toShut_78 : decode cX9_toShut 78 = .ok (.aload_n 0, 1) := by decide +kernel
theorem dX9_toShut_79 : decode cX9_toShut 79 = .ok (.getfield 28, 3) := by decide +kernel
theorem dX9_toShut_82 : decode cX9_toShut 82 = .ok (.iload 6, 2) := by decide +kernel
theorem dX9_toShut_84 : decode cX9_toShut 84 = .ok (.iconst 0, 1) := by decide +kernel
theorem dX9_toShut_85 : decode cX9_toShut 85 = .ok (.bastore, 1) := by decide +kernel
theorem dX9_toShut_86 : decode cX9_toShut 86 = .ok (.iload 7, 2) := by decide +kernel
theorem dX9_toShut_88 : decode cX9_toShut 88 = .ok (.iload 4, 2) := by decide +kernel
theorem dX9_toShut_90 : decode cX9_toShut 90 = .ok (.if_icmp .le 8, 3) := by decide +kernel
theorem dX9_toShut_93 : decode cX9_toShut 93 = .ok (.iload 6, 2) := by decide +kernel
theorem dX9_toShut_95 : decode cX9_toShut 95 = .ok (.goto 5, 3) := by decide +kernel
theorem dX9_toShut_98 : decode cX9_toShut 98 = .ok (.iload 5, 2) := by decide +kernel
theorem dX9_toShut_100 : decode cX9_toShut 100 = .ok (.istore 5, 2) := by decide +kernel
theorem dX9_toShut_102 : decode cX9_toShut 102 = .ok (.iload 7, 2) := by decide +kernel
theorem dX9_toShut_104 : decode cX9_toShut 104 = .ok (.iload 4, 2) := by decide +kernel
theorem dX9_toShut_106 : decode cX9_toShut 106 = .ok (.if_icmp .le 8, 3) := by decide +kernel
theorem dX9_toShut_109 : decode cX9_toShut 109 = .ok (.iload 7, 2) := by decide +kernel
theorem dX9_toShut_111 : decode cX9_toShut 111 = .ok (.goto 5, 3) := by decide +kernel
theorem dX9_toShut_114 : decode cX9_toShut 114 = .ok (.iload 4, 2) := by decide +kernel
theorem dX9_toShut_116 : decode cX9_toShut 116 = .ok (.istore 4, 2) := by decide +kernel
theorem dX9_toShut_118 : decode cX9_toShut 118 = .ok (.iinc 6 1, 3) := by decide +kernel
theorem dX9_toShut_121 : decode cX9_toShut 121 = .ok (.goto (-79), 3) := by decide +kernel
theorem dX9_toShut_124 : decode cX9_toShut 124 = .ok (.iload 5, 2) := by decide +kernel
theorem dX9_toShut_126 : decode cX9_toShut 126 = .ok (.ireturn, 1) := by decide +kernel
theorem dX9_divisor_0 : decode cX9_divisor 0 = .ok (.lload_n 0, 1) := by decide +kernel
theorem dX9_divisor_1 : decode cX9_divisor 1 = .ok (.lstore 4, 2) := by decide +kernel
theorem dX9_divisor_3 : decode cX9_divisor 3 = .ok (.lload_n 2, 1) := by decide +kernel
theorem dX9_divisor_4 : decode cX9_divisor 4 = .ok (.lstore 6, 2) := by decide +kernel
theorem dX9_divisor_6 : decode cX9_divisor 6 = .ok (.lload 6, 2) := by decide +kernel
theorem dX9_divisor_8 : decode cX9_divisor 8 = .ok (.lconst 0, 1) := by decide +kernel
theorem dX9_divisor_9 : decode cX9_divisor 9 = .ok (.lcmp, 1) := by decide +kernel
theorem dX9_divisor_10 : decode cX9_divisor 10 = .ok (.ifCond .eq 21, 3) := by decide +kernel
theorem dX9_divisor_13 : decode cX9_divisor 13 = .ok (.lload 4, 2) := by decide +kernel
theorem dX9_divisor_15 : decode cX9_divisor 15 = .ok (.lload 6, 2) := by decide +kernel
theorem dX9_divisor_17 : decode cX9_divisor 17 = .ok (.lrem, 1) := by decide +kernel
theorem dX9_divisor_18 : decode cX9_divisor 18 = .ok (.lstore 8, 2) := by decide +kernel
theorem dX9_divisor_20 : decode cX9_divisor 20 = .ok (.lload 6, 2) := by decide +kernel
theorem dX9_divisor_22 : decode cX9_divisor 22 = .ok (.lstore 4, 2) := by decide +kernel
theorem dX9_divisor_24 : decode cX9_divisor 24 = .ok (.lload 8, 2) := by decide +kernel
theorem dX9_divisor_26 : decode cX9_divisor 26 = .ok (.lstore 6, 2) := by decide +kernel
theorem dX9_divisor_28 : decode cX9_divisor 28 = .ok (.goto (-22), 3) := by decide +kernel
theorem dX9_divisor_31 : decode cX9_divisor 31 = .ok (.lload 4, 2) := by decide +kernel
theorem dX9_divisor_33 : decode cX9_divisor 33 = .ok (.lreturn, 1) := by decide +kernel
theorem dX9_drawn_0 : decode cX9_drawn 0 = .ok (.aload_n 0, 1) := by decide +kernel
theorem dX9_drawn_1 : decode cX9_drawn 1 = .ok (.iconst 0, 1) := by decide +kernel
theorem dX9_drawn_2 : decode cX9_drawn 2 = .ok (.putfield 117, 3) := by decide +kernel
theorem dX9_drawn_5 : decode cX9_drawn 5 = .ok (.aload_n 0, 1) := by decide +kernel
theorem dX9_drawn_6 : decode cX9_drawn 6 = .ok (.iload_n 1, 1) := by decide +kernel
theorem dX9_drawn_7 : decode cX9_drawn 7 = .ok (.invokevirtual 203, 3) := by decide +kernel
theorem dX9_drawn_10 : decode cX9_drawn 10 = .ok (.ifCond .ne 12, 3) := by decide +kernel
theorem dX9_drawn_13 : decode cX9_drawn 13 = .ok (.aload_n 0, 1) := by decide +kernel
theorem dX9_drawn_14 : decode cX9_drawn 14 = .ok (.iload 4, 2) := by decide +kernel
theorem dX9_drawn_16 : decode cX9_drawn 16 = .ok (.invokevirtual 200, 3) := by decide +kernel
theorem dX9_drawn_19 : decode cX9_drawn 19 = .ok (.ifCond .eq 7, 3) := by decide +kernel
theorem dX9_drawn_22 : decode cX9_drawn 22 = .ok (.ldc2_w 251, 3) := by decide +kernel
theorem dX9_drawn_25 : decode cX9_drawn 25 = .ok (.lreturn, 1) := by decide +kernel
theorem dX9_drawn_26 : decode cX9_drawn 26 = .ok (.iload_n 2, 1) := by decide +kernel
theorem dX9_drawn_27 : decode cX9_drawn 27 = .ok (.iload_n 3, 1) := by decide +kernel
theorem dX9_drawn_28 : decode cX9_drawn 28 = .ok (.invokestatic 231, 3) := by decide +kernel
theorem dX9_drawn_31 : decode cX9_drawn 31 = .ok (.ifCond .eq 7, 3) := by decide +kernel
theorem dX9_drawn_34 : decode cX9_drawn 34 = .ok (.ldc2_w 253, 3) := by decide +kernel
theorem dX9_drawn_37 : decode cX9_drawn 37 = .ok (.lreturn, 1) := by decide +kernel
theorem dX9_drawn_38 : decode cX9_drawn 38 = .ok (.iconst 0, 1) := by decide +kernel
theorem dX9_drawn_39 : decode cX9_drawn 39 = .ok (.istore 6, 2) := by decide +kernel
theorem dX9_drawn_41 : decode cX9_drawn 41 = .ok (.iload 6, 2) := by decide +kernel
theorem dX9_drawn_43 : decode cX9_drawn 43 = .ok (.bipush 6, 2) := by decide +kernel
theorem dX9_drawn_45 : decode cX9_drawn 45 = .ok (.if_icmp .ge 32, 3) := by decide +kernel
theorem dX9_drawn_48 : decode cX9_drawn 48 = .ok (.aload_n 0, 1) := by decide +kernel
theorem dX9_drawn_49 : decode cX9_drawn 49 = .ok (.getfield 110, 3) := by decide +kernel
theorem dX9_drawn_52 : decode cX9_drawn 52 = .ok (.iload 6, 2) := by decide +kernel
theorem dX9_drawn_54 : decode cX9_drawn 54 = .ok (.iload 6, 2) := by decide +kernel
theorem dX9_drawn_56 : decode cX9_drawn 56 = .ok (.aload_n 0, 1) := by decide +kernel
theorem dX9_drawn_57 : decode cX9_drawn 57 = .ok (.getfield 41, 3) := by decide +kernel
theorem dX9_drawn_60 : decode cX9_drawn 60 = .ok (.iload_n 1, 1) := by decide +kernel
theorem dX9_drawn_61 : decode cX9_drawn 61 = .ok (.iaload, 1) := by decide +kernel
theorem dX9_drawn_62 : decode cX9_drawn 62 = .ok (.if_icmp .ne 7, 3) := by decide +kernel
theorem dX9_drawn_65 : decode cX9_drawn 65 = .ok (.lconst 1, 1) := by decide +kernel
theorem dX9_drawn_66 : decode cX9_drawn 66 = .ok (.goto 4, 3) := by decide +kernel
theorem dX9_drawn_69 : decode cX9_drawn 69 = .ok (.lconst 0, 1) := by decide +kernel
theorem dX9_drawn_70 : decode cX9_drawn 70 = .ok (.lastore, 1) := by decide +kernel
theorem dX9_drawn_71 : decode cX9_drawn 71 = .ok (.iinc 6 1, 3) := by decide +kernel
theorem dX9_drawn_74 : decode cX9_drawn 74 = .ok (.goto (-33), 3) := by decide +kernel
theorem dX9_drawn_77 : decode cX9_drawn 77 = .ok (.lconst 1, 1) := by decide +kernel
theorem dX9_drawn_78 : decode cX9_drawn 78 = .ok (.lstore 6, 2) := by decide +kernel
theorem dX9_drawn_80 : decode cX9_drawn 80 = .ok (.iconst 0, 1) := by decide +kernel
theorem dX9_drawn_81 : decode cX9_drawn 81 = .ok (.istore 8, 2) := by decide +kernel
theorem dX9_drawn_83 : decode cX9_drawn 83 = .ok (.iload 8, 2) := by decide +kernel
theorem dX9_drawn_85 : decode cX9_drawn 85 = .ok (.iload_n 3, 1) := by decide +kernel
theorem dX9_drawn_86 : decode cX9_drawn 86 = .ok (.if_icmp .ge 187, 3) := by decide +kernel
theorem dX9_drawn_89 : decode cX9_drawn 89 = .ok (.lload 6, 2) := by decide +kernel
theorem dX9_drawn_91 : decode cX9_drawn 91 = .ok (.ldc2_w 255, 3) := by decide +kernel
theorem dX9_drawn_94 : decode cX9_drawn 94 = .ok (.lmul, 1) := by decide +kernel
theorem dX9_drawn_95 : decode cX9_drawn 95 = .ok (.lstore 6, 2) := by decide +kernel
theorem dX9_drawn_97 : decode cX9_drawn 97 = .ok (.iconst 0, 1) := by decide +kernel
theorem dX9_drawn_98 : decode cX9_drawn 98 = .ok (.istore 9, 2) := by decide +kernel
theorem dX9_drawn_100 : decode cX9_drawn 100 = .ok (.iload 9, 2) := by decide +kernel
theorem dX9_drawn_102 : decode cX9_drawn 102 = .ok (.bipush 6, 2) := by decide +kernel
theorem dX9_drawn_104 : decode cX9_drawn 104 = .ok (.if_icmp .ge 27, 3) := by decide +kernel
theorem dX9_drawn_107 : decode cX9_drawn 107 = .ok (.aload_n 0, 1) := by decide +kernel
theorem dX9_drawn_108 : decode cX9_drawn 108 = .ok (.getfield 114, 3) := by decide +kernel
theorem dX9_drawn_111 : decode cX9_drawn 111 = .ok (.iload 9, 2) := by decide +kernel
theorem dX9_drawn_113 : decode cX9_drawn 113 = .ok (.ldc2_w 255, 3) := by decide +kernel
theorem dX9_drawn_116 : decode cX9_drawn 116 = .ok (.aload_n 0, 1) := by decide +kernel
theorem dX9_drawn_117 : decode cX9_drawn 117 = .ok (.getfield 110, 3) := by decide +kernel
theorem dX9_drawn_120 : decode cX9_drawn 120 = .ok (.iload 9, 2) := by decide +kernel
theorem dX9_drawn_122 : decode cX9_drawn 122 = .ok (.laload, 1) := by decide +kernel
theorem dX9_drawn_123 : decode cX9_drawn 123 = .ok (.lmul, 1) := by decide +kernel
theorem dX9_drawn_124 : decode cX9_drawn 124 = .ok (.lastore, 1) := by decide +kernel
theorem dX9_drawn_125 : decode cX9_drawn 125 = .ok (.iinc 9 1, 3) := by decide +kernel
theorem dX9_drawn_128 : decode cX9_drawn 128 = .ok (.goto (-28), 3) := by decide +kernel
theorem dX9_drawn_131 : decode cX9_drawn 131 = .ok (.iconst 0, 1) := by decide +kernel
theorem dX9_drawn_132 : decode cX9_drawn 132 = .ok (.istore 9, 2) := by decide +kernel
theorem dX9_drawn_134 : decode cX9_drawn 134 = .ok (.iload 9, 2) := by decide +kernel
theorem dX9_drawn_136 : decode cX9_drawn 136 = .ok (.aload_n 0, 1) := by decide +kernel
theorem dX9_drawn_137 : decode cX9_drawn 137 = .ok (.getfield 188, 3) := by decide +kernel
theorem dX9_drawn_140 : decode cX9_drawn 140 = .ok (.if_icmp .ge 97, 3) := by decide +kernel
theorem dX9_drawn_143 : decode cX9_drawn 143 = .ok (.aload_n 0, 1) := by decide +kernel
theorem dX9_drawn_144 : decode cX9_drawn 144 = .ok (.getfield 28, 3) := by decide +kernel
theorem dX9_drawn_147 : decode cX9_drawn 147 = .ok (.iload 9, 2) := by decide +kernel
theorem dX9_drawn_149 : decode cX9_drawn 149 = .ok (.baload, 1) := by decide +kernel
theorem dX9_drawn_150 : decode cX9_drawn 150 = .ok (.ifCond .ne 81, 3) := by decide +kernel
theorem dX9_drawn_153 : decode cX9_drawn 153 = .ok (.aload_n 0, 1) := by decide +kernel
theorem dX9_drawn_154 : decode cX9_drawn 154 = .ok (.aload_n 0, 1) := by decide +kernel
theorem dX9_drawn_155 : decode cX9_drawn 155 = .ok (.getfield 19, 3) := by decide +kernel
theorem dX9_drawn_158 : decode cX9_drawn 158 = .ok (.iload 9, 2) := by decide +kernel
theorem dX9_drawn_160 : decode cX9_drawn 160 = .ok (.iaload, 1) := by decide +kernel
theorem dX9_drawn_161 : decode cX9_drawn 161 = .ok (.iload_n 2, 1) := by decide +kernel
theorem dX9_drawn_162 : decode cX9_drawn 162 = .ok (.invokevirtual 206, 3) := by decide +kernel
theorem dX9_drawn_165 : decode cX9_drawn 165 = .ok (.aload_n 0, 1) := by decide +kernel
theorem dX9_drawn_166 : decode cX9_drawn 166 = .ok (.getfield 38, 3) := by decide +kernel
theorem dX9_drawn_169 : decode cX9_drawn 169 = .ok (.iload_n 1, 1) := by decide +kernel
theorem dX9_drawn_170 : decode cX9_drawn 170 = .ok (.iaload, 1) := by decide +kernel
theorem dX9_drawn_171 : decode cX9_drawn 171 = .ok (.if_icmp .lt 60, 3) := by decide +kernel
theorem dX9_drawn_174 : decode cX9_drawn 174 = .ok (.aload_n 0, 1) := by decide +kernel
theorem dX9_drawn_175 : decode cX9_drawn 175 = .ok (.getfield 110, 3) := by decide +kernel
theorem dX9_drawn_178 : decode cX9_drawn 178 = .ok (.aload_n 0, 1) := by decide +kernel
theorem dX9_drawn_179 : decode cX9_drawn 179 = .ok (.getfield 19, 3) := by decide +kernel
theorem dX9_drawn_182 : decode cX9_drawn 182 = .ok (.iload 9, 2) := by decide +kernel
theorem dX9_drawn_184 : decode cX9_drawn 184 = .ok (.iaload, 1) := by decide +kernel
theorem dX9_drawn_185 : decode cX9_drawn 185 = .ok (.laload, 1) := by decide +kernel
theorem dX9_drawn_186 : decode cX9_drawn 186 = .ok (.aload_n 0, 1) := by decide +kernel
theorem dX9_drawn_187 : decode cX9_drawn 187 = .ok (.getfield 25, 3) := by decide +kernel
theorem dX9_drawn_190 : decode cX9_drawn 190 = .ok (.iload 9, 2) := by decide +kernel
theorem dX9_drawn_192 : decode cX9_drawn 192 = .ok (.iaload, 1) := by decide +kernel
theorem dX9_drawn_193 : decode cX9_drawn 193 = .ok (.i2l, 1) := by decide +kernel
theorem dX9_drawn_194 : decode cX9_drawn 194 = .ok (.lmul, 1) := by decide +kernel
theorem dX9_drawn_195 : decode cX9_drawn 195 = .ok (.lstore 10, 2) := by decide +kernel
theorem dX9_drawn_197 : decode cX9_drawn 197 = .ok (.aload_n 0, 1) := by decide +kernel
theorem dX9_drawn_198 : decode cX9_drawn 198 = .ok (.getfield 114, 3) := by decide +kernel
theorem dX9_drawn_201 : decode cX9_drawn 201 = .ok (.aload_n 0, 1) := by decide +kernel
theorem dX9_drawn_202 : decode cX9_drawn 202 = .ok (.getfield 19, 3) := by decide +kernel
theorem dX9_drawn_205 : decode cX9_drawn 205 = .ok (.iload 9, 2) := by decide +kernel
theorem dX9_drawn_207 : decode cX9_drawn 207 = .ok (.iaload, 1) := by decide +kernel
theorem dX9_drawn_208 : decode cX9_drawn 208 = .ok (.dup2, 1) := by decide +kernel
theorem dX9_drawn_209 : decode cX9_drawn 209 = .ok (.laload, 1) := by decide +kernel
theorem dX9_drawn_210 : decode cX9_drawn 210 = .ok (.lload 10, 2) := by decide +kernel
theorem dX9_drawn_212 : decode cX9_drawn 212 = .ok (.lsub, 1) := by decide +kernel
theorem dX9_drawn_213 : decode cX9_drawn 213 = .ok (.lastore, 1) := by decide +kernel
theorem dX9_drawn_214 : decode cX9_drawn 214 = .ok (.aload_n 0, 1) := by decide +kernel
theorem dX9_drawn_215 : decode cX9_drawn 215 = .ok (.getfield 114, 3) := by decide +kernel
theorem dX9_drawn_218 : decode cX9_drawn 218 = .ok (.aload_n 0, 1) := by decide +kernel
theorem dX9_drawn_219 : decode cX9_drawn 219 = .ok (.getfield 22, 3) := by decide +kernel
theorem dX9_drawn_222 : decode cX9_drawn 222 = .ok (.iload 9, 2) := by decide +kernel
theorem dX9_drawn_224 : decode cX9_drawn 224 = .ok (.iaload, 1) := by decide +kernel
theorem dX9_drawn_225 : decode cX9_drawn 225 = .ok (.dup2, 1) := by decide +kernel
theorem dX9_drawn_226 : decode cX9_drawn 226 = .ok (.laload, 1) := by decide +kernel
theorem dX9_drawn_227 : decode cX9_drawn 227 = .ok (.lload 10, 2) := by decide +kernel
theorem dX9_drawn_229 : decode cX9_drawn 229 = .ok (.ladd, 1) := by decide +kernel
theorem dX9_drawn_230 : decode cX9_drawn 230 = .ok (.lastore, 1) := by decide +kernel
theorem dX9_drawn_231 : decode cX9_drawn 231 = .ok (.iinc 9 1, 3) := by decide +kernel
theorem dX9_drawn_234 : decode cX9_drawn 234 = .ok (.goto (-100), 3) := by decide +kernel
theorem dX9_drawn_237 : decode cX9_drawn 237 = .ok (.iconst 0, 1) := by decide +kernel
theorem dX9_drawn_238 : decode cX9_drawn 238 = .ok (.istore 9, 2) := by decide +kernel
theorem dX9_drawn_240 : decode cX9_drawn 240 = .ok (.iload 9, 2) := by decide +kernel
theorem dX9_drawn_242 : decode cX9_drawn 242 = .ok (.bipush 6, 2) := by decide +kernel
theorem dX9_drawn_244 : decode cX9_drawn 244 = .ok (.if_icmp .ge 23, 3) := by decide +kernel
theorem dX9_drawn_247 : decode cX9_drawn 247 = .ok (.aload_n 0, 1) := by decide +kernel
theorem dX9_drawn_248 : decode cX9_drawn 248 = .ok (.getfield 110, 3) := by decide +kernel
theorem dX9_drawn_251 : decode cX9_drawn 251 = .ok (.iload 9, 2) := by decide +kernel
theorem dX9_drawn_253 : decode cX9_drawn 253 = .ok (.aload_n 0, 1) := by decide +kernel
theorem dX9_drawn_254 : decode cX9_drawn 254 = .ok (.getfield 114, 3) := by decide +kernel
theorem dX9_drawn_257 : decode cX9_drawn 257 = .ok (.iload 9, 2) := by decide +kernel
theorem dX9_drawn_259 : decode cX9_drawn 259 = .ok (.laload, 1) := by decide +kernel
theorem dX9_drawn_260 : decode cX9_drawn 260 = .ok (.lastore, 1) := by decide +kernel
theorem dX9_drawn_261 : decode cX9_drawn 261 = .ok (.iinc 9 1, 3) := by decide +kernel
theorem dX9_drawn_264 : decode cX9_drawn 264 = .ok (.goto (-24), 3) := by decide +kernel
theorem dX9_drawn_267 : decode cX9_drawn 267 = .ok (.iinc 8 1, 3) := by decide +kernel
theorem dX9_drawn_270 : decode cX9_drawn 270 = .ok (.goto (-187), 3) := by decide +kernel
theorem dX9_drawn_273 : decode cX9_drawn 273 = .ok (.aload_n 0, 1) := by decide +kernel
theorem dX9_drawn_274 : decode cX9_drawn 274 = .ok (.getfield 110, 3) := by decide +kernel
theorem dX9_drawn_277 : decode cX9_drawn 277 = .ok (.iload 4, 2) := by decide +kernel
theorem dX9_drawn_279 : decode cX9_drawn 279 = .ok (.laload, 1) := by decide +kernel
theorem dX9_drawn_280 : decode cX9_drawn 280 = .ok (.lload 6, 2) := by decide +kernel
theorem dX9_drawn_282 : decode cX9_drawn 282 = .ok (.invokestatic 257, 3) := by decide +kernel
theorem dX9_drawn_285 : decode cX9_drawn 285 = .ok (.lstore 8, 2) := by decide +kernel
theorem dX9_drawn_287 : decode cX9_drawn 287 = .ok (.iload 5, 2) := by decide +kernel
theorem dX9_drawn_289 : decode cX9_drawn 289 = .ok (.ifCond .eq 16, 3) := by decide +kernel
theorem dX9_drawn_292 : decode cX9_drawn 292 = .ok (.aload_n 0, 1) := by decide +kernel
theorem dX9_drawn_293 : decode cX9_drawn 293 = .ok (.getfield 110, 3) := by decide +kernel
theorem dX9_drawn_296 : decode cX9_drawn 296 = .ok (.iload 4, 2) := by decide +kernel
theorem dX9_drawn_298 : decode cX9_drawn 298 = .ok (.laload, 1) := by decide +kernel
theorem dX9_drawn_299 : decode cX9_drawn 299 = .ok (.lload 8, 2) := by decide +kernel
theorem dX9_drawn_301 : decode cX9_drawn 301 = .ok (.ldiv, 1) := by decide +kernel
theorem dX9_drawn_302 : decode cX9_drawn 302 = .ok (.goto 8, 3) := by decide +kernel
theorem dX9_drawn_305 : decode cX9_drawn 305 = .ok (.lload 6, 2) := by decide +kernel
theorem dX9_drawn_307 : decode cX9_drawn 307 = .ok (.lload 8, 2) := by decide +kernel
theorem dX9_drawn_309 : decode cX9_drawn 309 = .ok (.ldiv, 1) := by decide +kernel
theorem dX9_drawn_310 : decode cX9_drawn 310 = .ok (.lreturn, 1) := by decide +kernel
theorem dX9_goesFrom_0 : decode cX9_goesFrom 0 = .ok (.aload_n 0, 1) := by decide +kernel
theorem dX9_goesFrom_1 : decode cX9_goesFrom 1 = .ok (.iconst 0, 1) := by decide +kernel
theorem dX9_goesFrom_2 : decode cX9_goesFrom 2 = .ok (.putfield 117, 3) := by decide +kernel
theorem dX9_goesFrom_5 : decode cX9_goesFrom 5 = .ok (.aload_n 0, 1) := by decide +kernel
theorem dX9_goesFrom_6 : decode cX9_goesFrom 6 = .ok (.iload_n 1, 1) := by decide +kernel
theorem dX9_goesFrom_7 : decode cX9_goesFrom 7 = .ok (.invokevirtual 203, 3) := by decide +kernel
theorem dX9_goesFrom_10 : decode cX9_goesFrom 10 = .ok (.ifCond .eq 5, 3) := by decide +kernel
theorem dX9_goesFrom_13 : decode cX9_goesFrom 13 = .ok (.iconst (-1), 1) := by decide +kernel
theorem dX9_goesFrom_14 : decode cX9_goesFrom 14 = .ok (.ireturn, 1) := by decide +kernel
theorem dX9_goesFrom_15 : decode cX9_goesFrom 15 = .ok (.iconst 0, 1) := by decide +kernel
theorem dX9_goesFrom_16 : decode cX9_goesFrom 16 = .ok (.istore_n 2, 1) := by decide +kernel
theorem dX9_goesFrom_17 : decode cX9_goesFrom 17 = .ok (.iload_n 2, 1) := by decide +kernel
theorem dX9_goesFrom_18 : decode cX9_goesFrom 18 = .ok (.bipush 20, 2) := by decide +kernel
theorem dX9_goesFrom_20 : decode cX9_goesFrom 20 = .ok (.if_icmp .ge 67, 3) := by decide +kernel
theorem dX9_goesFrom_23 : decode cX9_goesFrom 23 = .ok (.aload_n 0, 1) := by decide +kernel
theorem dX9_goesFrom_24 : decode cX9_goesFrom 24 = .ok (.aload_n 0, 1) := by decide +kernel
theorem dX9_goesFrom_25 : decode cX9_goesFrom 25 = .ok (.getfield 41, 3) := by decide +kernel
theorem dX9_goesFrom_28 : decode cX9_goesFrom 28 = .ok (.iload_n 1, 1) := by decide +kernel
theorem dX9_goesFrom_29 : decode cX9_goesFrom 29 = .ok (.iaload, 1) := by decide +kernel
theorem dX9_goesFrom_30 : decode cX9_goesFrom 30 = .ok (.invokevirtual 212, 3) := by decide +kernel
theorem dX9_goesFrom_33 : decode cX9_goesFrom 33 = .ok (.bipush (-9), 2) := by decide +kernel
theorem dX9_goesFrom_35 : decode cX9_goesFrom 35 = .ok (.if_icmp .eq 52, 3) := by decide +kernel
theorem dX9_goesFrom_38 : decode cX9_goesFrom 38 = .ok (.aload_n 0, 1) := by decide +kernel
theorem dX9_goesFrom_39 : decode cX9_goesFrom 39 = .ok (.aload_n 0, 1) := by decide +kernel
theorem dX9_goesFrom_40 : decode cX9_goesFrom 40 = .ok (.getfield 41, 3) := by decide +kernel
theorem dX9_goesFrom_43 : decode cX9_goesFrom 43 = .ok (.iload_n 1, 1) := by decide +kernel
theorem dX9_goesFrom_44 : decode cX9_goesFrom 44 = .ok (.iaload, 1) := by decide +kernel
theorem dX9_goesFrom_45 : decode cX9_goesFrom 45 = .ok (.iload_n 2, 1) := by decide +kernel
theorem dX9_goesFrom_46 : decode cX9_goesFrom 46 = .ok (.invokevirtual 206, 3) := by decide +kernel
theorem dX9_goesFrom_49 : decode cX9_goesFrom 49 = .ok (.istore_n 3, 1) := by decide +kernel
theorem dX9_goesFrom_50 : decode cX9_goesFrom 50 = .ok (.iload_n 3, 1) := by decide +kernel
theorem dX9_goesFrom_51 : decode cX9_goesFrom 51 = .ok (.aload_n 0, 1) := by decide +kernel
theorem dX9_goesFrom_52 : decode cX9_goesFrom 52 = .ok (.getfield 38, 3) := by decide +kernel
theorem dX9_goesFrom_55 : decode cX9_goesFrom 55 = .ok (.iload_n 1, 1) := by decide +kernel
theorem dX9_goesFrom_56 : decode cX9_goesFrom 56 = .ok (.iaload, 1) := by decide +kernel
theorem dX9_goesFrom_57 : decode cX9_goesFrom 57 = .ok (.if_icmp .lt 24, 3) := by decide +kernel
theorem dX9_goesFrom_60 : decode cX9_goesFrom 60 = .ok (.aload_n 0, 1) := by decide +kernel
theorem dX9_goesFrom_61 : decode cX9_goesFrom 61 = .ok (.getfield 44, 3) := by decide +kernel
theorem dX9_goesFrom_64 : decode cX9_goesFrom 64 = .ok (.iload_n 1, 1) := by decide +kernel
theorem dX9_goesFrom_65 : decode cX9_goesFrom 65 = .ok (.iaload, 1) := by decide +kernel
theorem dX9_goesFrom_66 : decode cX9_goesFrom 66 = .ok (.ifCond .eq 13, 3) := by decide +kernel
theorem dX9_goesFrom_69 : decode cX9_goesFrom 69 = .ok (.aload_n 0, 1) := by decide +kernel
theorem dX9_goesFrom_70 : decode cX9_goesFrom 70 = .ok (.getfield 44, 3) := by decide +kernel
theorem dX9_goesFrom_73 : decode cX9_goesFrom 73 = .ok (.iload_n 1, 1) := by decide +kernel
theorem dX9_goesFrom_74 : decode cX9_goesFrom 74 = .ok (.iaload, 1) := by decide +kernel
theorem dX9_goesFrom_75 : decode cX9_goesFrom 75 = .ok (.iload_n 3, 1) := by decide +kernel
theorem dX9_goesFrom_76 : decode cX9_goesFrom 76 = .ok (.if_icmp .ge 5, 3) := by decide +kernel
theorem dX9_goesFrom_79 : decode cX9_goesFrom 79 = .ok (.iload_n 2, 1) := by decide +kernel
theorem dX9_goesFrom_80 : decode cX9_goesFrom 80 = .ok (.ireturn, 1) := by decide +kernel
theorem dX9_goesFrom_81 : decode cX9_goesFrom 81 = .ok (.iinc 2 1, 3) := by decide +kernel
theorem dX9_goesFrom_84 : decode cX9_goesFrom 84 = .ok (.goto (-67), 3) := by decide +kernel
theorem dX9_goesFrom_87 : decode cX9_goesFrom 87 = .ok (.bipush (-9), 2) := by decide +kernel
theorem dX9_goesFrom_89 : decode cX9_goesFrom 89 = .ok (.ireturn, 1) := by decide +kernel
theorem dX9_mark_0 : decode cX9_mark 0 = .ok (.aload_n 0, 1) := by decide +kernel
theorem dX9_mark_1 : decode cX9_mark 1 = .ok (.iconst 0, 1) := by decide +kernel
theorem dX9_mark_2 : decode cX9_mark 2 = .ok (.putfield 117, 3) := by decide +kernel
theorem dX9_mark_5 : decode cX9_mark 5 = .ok (.aload_n 0, 1) := by decide +kernel
theorem dX9_mark_6 : decode cX9_mark 6 = .ok (.iload_n 2, 1) := by decide +kernel
theorem dX9_mark_7 : decode cX9_mark 7 = .ok (.invokevirtual 200, 3) := by decide +kernel
theorem dX9_mark_10 : decode cX9_mark 10 = .ok (.ifCond .eq 5, 3) := by decide +kernel
theorem dX9_mark_13 : decode cX9_mark 13 = .ok (.iconst (-1), 1) := by decide +kernel
theorem dX9_mark_14 : decode cX9_mark 14 = .ok (.ireturn, 1) := by decide +kernel
theorem dX9_mark_15 : decode cX9_mark 15 = .ok (.iload_n 1, 1) := by decide +kernel
theorem dX9_mark_16 : decode cX9_mark 16 = .ok (.i2l, 1) := by decide +kernel
theorem dX9_mark_17 : decode cX9_mark 17 = .ok (.lconst 1, 1) := by decide +kernel
theorem dX9_mark_18 : decode cX9_mark 18 = .ok (.ldc2_w 133, 3) := by decide +kernel
theorem dX9_mark_21 : decode cX9_mark 21 = .ok (.invokestatic 124, 3) := by decide +kernel
theorem dX9_mark_24 : decode cX9_mark 24 = .ok (.ifCond .ne 6, 3) := by decide +kernel
theorem dX9_mark_27 : decode cX9_mark 27 = .ok (.bipush (-2), 2) := by decide +kernel
theorem dX9_mark_29 : decode cX9_mark 29 = .ok (.ireturn, 1) := by decide +kernel
theorem dX9_mark_30 : decode cX9_mark 30 = .ok (.aload_n 0, 1) := by decide +kernel
theorem dX9_mark_31 : decode cX9_mark 31 = .ok (.getfield 197, 3) := by decide +kernel
theorem dX9_mark_34 : decode cX9_mark 34 = .ok (.bipush 8, 2) := by decide +kernel
theorem dX9_mark_36 : decode cX9_mark 36 = .ok (.if_icmp .ne 6, 3) := by decide +kernel
theorem dX9_mark_39 : decode cX9_mark 39 = .ok (.bipush (-4), 2) := by decide +kernel
theorem dX9_mark_41 : decode cX9_mark 41 = .ok (.ireturn, 1) := by decide +kernel
theorem dX9_mark_42 : decode cX9_mark 42 = .ok (.aload_n 0, 1) := by decide +kernel
theorem dX9_mark_43 : decode cX9_mark 43 = .ok (.getfield 104, 3) := by decide +kernel
theorem dX9_mark_46 : decode cX9_mark 46 = .ok (.aload_n 0, 1) := by decide +kernel
theorem dX9_mark_47 : decode cX9_mark 47 = .ok (.getfield 197, 3) := by decide +kernel
theorem dX9_mark_50 : decode cX9_mark 50 = .ok (.iload_n 1, 1) := by decide +kernel
theorem dX9_mark_51 : decode cX9_mark 51 = .ok (.iastore, 1) := by decide +kernel
theorem dX9_mark_52 : decode cX9_mark 52 = .ok (.aload_n 0, 1) := by decide +kernel
theorem dX9_mark_53 : decode cX9_mark 53 = .ok (.getfield 107, 3) := by decide +kernel
theorem dX9_mark_56 : decode cX9_mark 56 = .ok (.aload_n 0, 1) := by decide +kernel
theorem dX9_mark_57 : decode cX9_mark 57 = .ok (.getfield 197, 3) := by decide +kernel
theorem dX9_mark_60 : decode cX9_mark 60 = .ok (.iload_n 2, 1) := by decide +kernel
theorem dX9_mark_61 : decode cX9_mark 61 = .ok (.iastore, 1) := by decide +kernel
theorem dX9_mark_62 : decode cX9_mark 62 = .ok (.aload_n 0, 1) := by decide +kernel
theorem dX9_mark_63 : decode cX9_mark 63 = .ok (.dup, 1) := by decide +kernel
theorem dX9_mark_64 : decode cX9_mark 64 = .ok (.getfield 197, 3) := by decide +kernel
theorem dX9_mark_67 : decode cX9_mark 67 = .ok (.iconst 1, 1) := by decide +kernel
theorem dX9_mark_68 : decode cX9_mark 68 = .ok (.iadd, 1) := by decide +kernel
theorem dX9_mark_69 : decode cX9_mark 69 = .ok (.putfield 197, 3) := by decide +kernel
theorem dX9_mark_72 : decode cX9_mark 72 = .ok (.aload_n 0, 1) := by decide +kernel
theorem dX9_mark_73 : decode cX9_mark 73 = .ok (.getfield 197, 3) := by decide +kernel
theorem dX9_mark_76 : decode cX9_mark 76 = .ok (.ireturn, 1) := by decide +kernel
theorem dX9_unmark_0 : decode cX9_unmark 0 = .ok (.aload_n 0, 1) := by decide +kernel
theorem dX9_unmark_1 : decode cX9_unmark 1 = .ok (.iconst 0, 1) := by decide +kernel
theorem dX9_unmark_2 : decode cX9_unmark 2 = .ok (.putfield 117, 3) := by decide +kernel
theorem dX9_unmark_5 : decode cX9_unmark 5 = .ok (.aload_n 0, 1) := by decide +kernel
theorem dX9_unmark_6 : decode cX9_unmark 6 = .ok (.getfield 197, 3) := by decide +kernel
theorem dX9_unmark_9 : decode cX9_unmark 9 = .ok (.istore_n 1, 1) := by decide +kernel
theorem dX9_unmark_10 : decode cX9_unmark 10 = .ok (.aload_n 0, 1) := by decide +kernel
theorem dX9_unmark_11 : decode cX9_unmark 11 = .ok (.iconst 0, 1) := by decide +kernel
theorem dX9_unmark_12 : decode cX9_unmark 12 = .ok (.putfield 197, 3) := by decide +kernel
theorem dX9_unmark_15 : decode cX9_unmark 15 = .ok (.iload_n 1, 1) := by decide +kernel
theorem dX9_unmark_16 : decode cX9_unmark 16 = .ok (.ireturn, 1) := by decide +kernel
theorem dX9_isMarked_0 : decode cX9_isMarked 0 = .ok (.iconst 1, 1) := by decide +kernel
theorem dX9_isMarked_1 : decode cX9_isMarked 1 = .ok (.istore_n 3, 1) := by decide +kernel
theorem dX9_isMarked_2 : decode cX9_isMarked 2 = .ok (.iconst 0, 1) := by decide +kernel
theorem dX9_isMarked_3 : decode cX9_isMarked 3 = .ok (.istore 4, 2) := by decide +kernel
theorem dX9_isMarked_5 : decode cX9_isMarked 5 = .ok (.iload 4, 2) := by decide +kernel
theorem dX9_isMarked_7 : decode cX9_isMarked 7 = .ok (.aload_n 0, 1) := by decide +kernel
theorem dX9_isMarked_8 : decode cX9_isMarked 8 = .ok (.getfield 197, 3) := by decide +kernel
theorem dX9_isMarked_11 : decode cX9_isMarked 11 = .ok (.if_icmp .ge 41, 3) := by decide +kernel
theorem dX9_isMarked_14 : decode cX9_isMarked 14 = .ok (.iload_n 3, 1) := by decide +kernel
theorem dX9_isMarked_15 : decode cX9_isMarked 15 = .ok (.ifCond .eq 29, 3) := by decide +kernel
theorem dX9_isMarked_18 : decode cX9_isMarked 18 = .ok (.aload_n 0, 1) := by decide +kernel
theorem dX9_isMarked_19 : decode cX9_isMarked 19 = .ok (.getfield 104, 3) := by decide +kernel
theorem dX9_isMarked_22 : decode cX9_isMarked 22 = .ok (.iload 4, 2) := by decide +kernel
theorem dX9_isMarked_24 : decode cX9_isMarked 24 = .ok (.iaload, 1) := by decide +kernel
theorem dX9_isMarked_25 : decode cX9_isMarked 25 = .ok (.iload_n 1, 1) := by decide +kernel
theorem dX9_isMarked_26 : decode cX9_isMarked 26 = .ok (.if_icmp .ne 14, 3) := by decide +kernel
theorem dX9_isMarked_29 : decode cX9_isMarked 29 = .ok (.aload_n 0, 1) := by decide +kernel
theorem dX9_isMarked_30 : decode cX9_isMarked 30 = .ok (.getfield 107, 3) := by decide +kernel
theorem dX9_isMarked_33 : decode cX9_isMarked 33 = .ok (.iload 4, 2) := by decide +kernel
theorem dX9_isMarked_35 : decode cX9_isMarked 35 = .ok (.iaload, 1) := by decide +kernel
theorem dX9_isMarked_36 : decode cX9_isMarked 36 = .ok (.iload_n 2, 1) := by decide +kernel
theorem dX9_isMarked_37 : decode cX9_isMarked 37 = .ok (.if_icmp .ne 7, 3) := by decide +kernel
theorem dX9_isMarked_40 : decode cX9_isMarked 40 = .ok (.iconst 1, 1) := by decide +kernel
theorem dX9_isMarked_41 : decode cX9_isMarked 41 = .ok (.goto 4, 3) := by decide +kernel
theorem dX9_isMarked_44 : decode cX9_isMarked 44 = .ok (.iconst 0, 1) := by decide +kernel
theorem dX9_isMarked_45 : decode cX9_isMarked 45 = .ok (.istore_n 3, 1) := by decide +kernel
theorem dX9_isMarked_46 : decode cX9_isMarked 46 = .ok (.iinc 4 1, 3) := by decide +kernel
theorem dX9_isMarked_49 : decode cX9_isMarked 49 = .ok (.goto (-44), 3) := by decide +kernel
theorem dX9_isMarked_52 : decode cX9_isMarked 52 = .ok (.iload_n 3, 1) := by decide +kernel
theorem dX9_isMarked_53 : decode cX9_isMarked 53 = .ok (.ireturn, 1) := by decide +kernel
theorem dX9_layRows_0 : decode cX9_layRows 0 = .ok (.iconst 0, 1) := by decide +kernel
theorem dX9_layRows_1 : decode cX9_layRows 1 = .ok (.istore_n 3, 1) := by decide +kernel
theorem dX9_layRows_2 : decode cX9_layRows 2 = .ok (.iload_n 3, 1) := by decide +kernel
theorem dX9_layRows_3 : decode cX9_layRows 3 = .ok (.bipush 6, 2) := by decide +kernel
theorem dX9_layRows_5 : decode cX9_layRows 5 = .ok (.if_icmp .ge 25, 3) := by decide +kernel
theorem dX9_layRows_8 : decode cX9_layRows 8 = .ok (.aload_n 0, 1) := by decide +kernel
theorem dX9_layRows_9 : decode cX9_layRows 9 = .ok (.getfield 110, 3) := by decide +kernel
theorem dX9_layRows_12 : decode cX9_layRows 12 = .ok (.iload_n 3, 1) := by decide +kernel
theorem dX9_layRows_13 : decode cX9_layRows 13 = .ok (.iload_n 3, 1) := by decide +kernel
theorem dX9_layRows_14 : decode cX9_layRows 14 = .ok (.iload_n 2, 1) := by decide +kernel
theorem dX9_layRows_15 : decode cX9_layRows 15 = .ok (.if_icmp .ne 7, 3) := by decide +kernel
theorem dX9_layRows_18 : decode cX9_layRows 18 = .ok (.lconst 1, 1) := by decide +kernel
theorem dX9_layRows_19 : decode cX9_layRows 19 = .ok (.goto 4, 3) := by decide +kernel
theorem dX9_layRows_22 : decode cX9_layRows 22 = .ok (.lconst 0, 1) := by decide +kernel
theorem dX9_layRows_23 : decode cX9_layRows 23 = .ok (.lastore, 1) := by decide +kernel
theorem dX9_layRows_24 : decode cX9_layRows 24 = .ok (.iinc 3 1, 3) := by decide +kernel
theorem dX9_layRows_27 : decode cX9_layRows 27 = .ok (.goto (-25), 3) := by decide +kernel
theorem dX9_layRows_30 : decode cX9_layRows 30 = .ok (.iconst 1, 1) := by decide +kernel
theorem dX9_layRows_31 : decode cX9_layRows 31 = .ok (.istore_n 3, 1) := by decide +kernel
theorem dX9_layRows_32 : decode cX9_layRows 32 = .ok (.iload_n 3, 1) := by decide +kernel
theorem dX9_layRows_33 : decode cX9_layRows 33 = .ok (.iload_n 1, 1) := by decide +kernel
theorem dX9_layRows_34 : decode cX9_layRows 34 = .ok (.if_icmp .gt 128, 3) := by decide +kernel
theorem dX9_layRows_37 : decode cX9_layRows 37 = .ok (.iconst 0, 1) := by decide +kernel
theorem dX9_layRows_38 : decode cX9_layRows 38 = .ok (.istore 4, 2) := by decide +kernel
theorem dX9_layRows_40 : decode cX9_layRows 40 = .ok (.iload 4, 2) := by decide +kernel
theorem dX9_layRows_42 : decode cX9_layRows 42 = .ok (.bipush 6, 2) := by decide +kernel
theorem dX9_layRows_44 : decode cX9_layRows 44 = .ok (.if_icmp .ge 23, 3) := by decide +kernel
theorem dX9_layRows_47 : decode cX9_layRows 47 = .ok (.aload_n 0, 1) := by decide +kernel
theorem dX9_layRows_48 : decode cX9_layRows 48 = .ok (.getfield 114, 3) := by decide +kernel
theorem dX9_layRows_51 : decode cX9_layRows 51 = .ok (.iload 4, 2) := by decide +kernel
theorem dX9_layRows_53 : decode cX9_layRows 53 = .ok (.aload_n 0, 1) := by decide +kernel
theorem dX9_layRows_54 : decode cX9_layRows 54 = .ok (.getfield 110, 3) := by decide +kernel
theorem dX9_layRows_57 : decode cX9_layRows 57 = .ok (.iload 4, 2) := by decide +kernel
theorem dX9_layRows_59 : decode cX9_layRows 59 = .ok (.laload, 1) := by decide +kernel
theorem dX9_layRows_60 : decode cX9_layRows 60 = .ok (.lastore, 1) := by decide +kernel
theorem dX9_layRows_61 : decode cX9_layRows 61 = .ok (.iinc 4 1, 3) := by decide +kernel
theorem dX9_layRows_64 : decode cX9_layRows 64 = .ok (.goto (-24), 3) := by decide +kernel
theorem dX9_layRows_67 : decode cX9_layRows 67 = .ok (.iconst 0, 1) := by decide +kernel
theorem dX9_layRows_68 : decode cX9_layRows 68 = .ok (.istore 4, 2) := by decide +kernel
theorem dX9_layRows_70 : decode cX9_layRows 70 = .ok (.iload 4, 2) := by decide +kernel
theorem dX9_layRows_72 : decode cX9_layRows 72 = .ok (.aload_n 0, 1) := by decide +kernel
theorem dX9_layRows_73 : decode cX9_layRows 73 = .ok (.getfield 188, 3) := by decide +kernel
theorem dX9_layRows_76 : decode cX9_layRows 76 = .ok (.if_icmp .ge 36, 3) := by decide +kernel
theorem dX9_layRows_79 : decode cX9_layRows 79 = .ok (.aload_n 0, 1) := by decide +kernel
theorem dX9_layRows_80 : decode cX9_layRows 80 = .ok (.getfield 114, 3) := by decide +kernel
theorem dX9_layRows_83 : decode cX9_layRows 83 = .ok (.aload_n 0, 1) := by decide +kernel
theorem dX9_layRows_84 : decode cX9_layRows 84 = .ok (.getfield 22, 3) := by decide +kernel
theorem dX9_layRows_87 : decode cX9_layRows 87 = .ok (.iload 4, 2) := by decide +kernel
theorem dX9_layRows_89 : decode cX9_layRows 89 = .ok (.iaload, 1) := by decide +kernel
theorem dX9_layRows_90 : decode cX9_layRows 90 = .ok (.dup2, 1) := by decide +kernel
theorem dX9_layRows_91 : decode cX9_layRows 91 = .ok (.laload, 1) := by decide +kernel
theorem dX9_layRows_92 : decode cX9_layRows 92 = .ok (.aload_n 0, 1) := by decide +kernel
theorem dX9_layRows_93 : decode cX9_layRows 93 = .ok (.getfield 110, 3) := by decide +kernel
theorem dX9_layRows_96 : decode cX9_layRows 96 = .ok (.aload_n 0, 1) := by decide +kernel
theorem dX9_layRows_97 : decode cX9_layRows 97 = .ok (.getfield 19, 3) := by decide +kernel
theorem dX9_layRows_100 : decode cX9_layRows 100 = .ok (.iload 4, 2) := by decide +kernel
theorem dX9_layRows_102 : decode cX9_layRows 102 = .ok (.iaload, 1) := by decide +kernel
theorem dX9_layRows_103 : decode cX9_layRows 103 = .ok (.laload, 1) := by decide +kernel
theorem dX9_layRows_104 : decode cX9_layRows 104 = .ok (.ladd, 1) := by decide +kernel
theorem dX9_layRows_105 : decode cX9_layRows 105 = .ok (.lastore, 1) := by decide +kernel
theorem dX9_layRows_106 : decode cX9_layRows 106 = .ok (.iinc 4 1, 3) := by decide +kernel
theorem dX9_layRows_109 : decode cX9_layRows 109 = .ok (.goto (-39), 3) := by decide +kernel
theorem dX9_layRows_112 : decode cX9_layRows 112 = .ok (.iconst 0, 1) := by decide +kernel
theorem dX9_layRows_113 : decode cX9_layRows 113 = .ok (.istore 4, 2) := by decide +kernel
theorem dX9_layRows_115 : decode cX9_layRows 115 = .ok (.iload 4, 2) := by decide +kernel
theorem dX9_layRows_117 : decode cX9_layRows 117 = .ok (.bipush 6, 2) := by decide +kernel
theorem dX9_layRows_119 : decode cX9_layRows 119 = .ok (.if_icmp .ge 37, 3) := by decide +kernel
theorem dX9_layRows_122 : decode cX9_layRows 122 = .ok (.aload_n 0, 1) := by decide +kernel
theorem dX9_layRows_123 : decode cX9_layRows 123 = .ok (.getfield 110, 3) := by decide +kernel
theorem dX9_layRows_126 : decode cX9_layRows 126 = .ok (.iload 4, 2) := by decide +kernel
theorem dX9_layRows_128 : decode cX9_layRows 128 = .ok (.aload_n 0, 1) := by decide +kernel
theorem dX9_layRows_129 : decode cX9_layRows 129 = .ok (.iload_n 3, 1) := by decide +kernel
theorem dX9_layRows_130 : decode cX9_layRows 130 = .ok (.iload 4, 2) := by decide +kernel
theorem dX9_layRows_132 : decode cX9_layRows 132 = .ok (.invokevirtual 261, 3) := by decide +kernel
theorem dX9_layRows_135 : decode cX9_layRows 135 = .ok (.ifCond .eq 13, 3) := by decide +kernel
theorem dX9_layRows_138 : decode cX9_layRows 138 = .ok (.aload_n 0, 1) := by decide +kernel
theorem dX9_layRows_139 : decode cX9_layRows 139 = .ok (.getfield 114, 3) := by decide +kernel
theorem dX9_layRows_142 : decode cX9_layRows 142 = .ok (.iload 4, 2) := by decide +kernel
theorem dX9_layRows_144 : decode cX9_layRows 144 = .ok (.laload, 1) := by decide +kernel
theorem dX9_layRows_145 : decode cX9_layRows 145 = .ok (.goto 4, 3) := by decide +kernel
theorem dX9_layRows_148 : decode cX9_layRows 148 = .ok (.lconst 0, 1) := by decide +kernel
theorem dX9_layRows_149 : decode cX9_layRows 149 = .ok (.lastore, 1) := by decide +kernel
theorem dX9_layRows_150 : decode cX9_layRows 150 = .ok (.iinc 4 1, 3) := by decide +kernel
theorem dX9_layRows_153 : decode cX9_layRows 153 = .ok (.goto (-38), 3) := by decide +kernel
theorem dX9_layRows_156 : decode cX9_layRows 156 = .ok (.iinc 3 1, 3) := by decide +kernel
theorem dX9_layRows_159 : decode cX9_layRows 159 = .ok (.goto (-127), 3) := by decide +kernel
theorem dX9_layRows_162 : decode cX9_layRows 162 = .ok (.return_, 1) := by decide +kernel
theorem dX9_rows_0 : decode cX9_rows 0 = .ok (.aload_n 0, 1) := by decide +kernel
theorem dX9_rows_1 : decode cX9_rows 1 = .ok (.iconst 0, 1) := by decide +kernel
theorem dX9_rows_2 : decode cX9_rows 2 = .ok (.putfield 117, 3) := by decide +kernel
theorem dX9_rows_5 : decode cX9_rows 5 = .ok (.aload_n 0, 1) := by decide +kernel
theorem dX9_rows_6 : decode cX9_rows 6 = .ok (.iload_n 2, 1) := by decide +kernel
theorem dX9_rows_7 : decode cX9_rows 7 = .ok (.invokevirtual 200, 3) := by decide +kernel
theorem dX9_rows_10 : decode cX9_rows 10 = .ok (.ifCond .eq 7, 3) := by decide +kernel
theorem dX9_rows_13 : decode cX9_rows 13 = .ok (.ldc2_w 251, 3) := by decide +kernel
theorem dX9_rows_16 : decode cX9_rows 16 = .ok (.lreturn, 1) := by decide +kernel
theorem dX9_rows_17 : decode cX9_rows 17 = .ok (.iload_n 1, 1) := by decide +kernel
theorem dX9_rows_18 : decode cX9_rows 18 = .ok (.i2l, 1) := by decide +kernel
theorem dX9_rows_19 : decode cX9_rows 19 = .ok (.lconst 0, 1) := by decide +kernel
theorem dX9_rows_20 : decode cX9_rows 20 = .ok (.ldc2_w 133, 3) := by decide +kernel
theorem dX9_rows_23 : decode cX9_rows 23 = .ok (.invokestatic 124, 3) := by decide +kernel
theorem dX9_rows_26 : decode cX9_rows 26 = .ok (.ifCond .ne 7, 3) := by decide +kernel
theorem dX9_rows_29 : decode cX9_rows 29 = .ok (.ldc2_w 253, 3) := by decide +kernel
theorem dX9_rows_32 : decode cX9_rows 32 = .ok (.lreturn, 1) := by decide +kernel
theorem dX9_rows_33 : decode cX9_rows 33 = .ok (.aload_n 0, 1) := by decide +kernel
theorem dX9_rows_34 : decode cX9_rows 34 = .ok (.iload_n 1, 1) := by decide +kernel
theorem dX9_rows_35 : decode cX9_rows 35 = .ok (.iload_n 2, 1) := by decide +kernel
theorem dX9_rows_36 : decode cX9_rows 36 = .ok (.invokevirtual 264, 3) := by decide +kernel
theorem dX9_rows_39 : decode cX9_rows 39 = .ok (.lconst 0, 1) := by decide +kernel
theorem dX9_rows_40 : decode cX9_rows 40 = .ok (.lstore_n 3, 1) := by decide +kernel
theorem dX9_rows_41 : decode cX9_rows 41 = .ok (.iconst 0, 1) := by decide +kernel
theorem dX9_rows_42 : decode cX9_rows 42 = .ok (.istore 5, 2) := by decide +kernel
theorem dX9_rows_44 : decode cX9_rows 44 = .ok (.iload 5, 2) := by decide +kernel
theorem dX9_rows_46 : decode cX9_rows 46 = .ok (.bipush 6, 2) := by decide +kernel
theorem dX9_rows_48 : decode cX9_rows 48 = .ok (.if_icmp .ge 19, 3) := by decide +kernel
theorem dX9_rows_51 : decode cX9_rows 51 = .ok (.lload_n 3, 1) := by decide +kernel
theorem dX9_rows_52 : decode cX9_rows 52 = .ok (.aload_n 0, 1) := by decide +kernel
theorem dX9_rows_53 : decode cX9_rows 53 = .ok (.getfield 110, 3) := by decide +kernel
theorem dX9_rows_56 : decode cX9_rows 56 = .ok (.iload 5, 2) := by decide +kernel
theorem dX9_rows_58 : decode cX9_rows 58 = .ok (.laload, 1) := by decide +kernel
theorem dX9_rows_59 : decode cX9_rows 59 = .ok (.ladd, 1) := by decide +kernel
theorem dX9_rows_60 : decode cX9_rows 60 = .ok (.lstore_n 3, 1) := by decide +kernel
theorem dX9_rows_61 : decode cX9_rows 61 = .ok (.iinc 5 1, 3) := by decide +kernel
theorem dX9_rows_64 : decode cX9_rows 64 = .ok (.goto (-20), 3) := by decide +kernel
theorem dX9_rows_67 : decode cX9_rows 67 = .ok (.lload_n 3, 1) := by decide +kernel
theorem dX9_rows_68 : decode cX9_rows 68 = .ok (.lreturn, 1) := by decide +kernel
theorem dX9_ends_0 : decode cX9_ends 0 = .ok (.aload_n 0, 1) := by decide +kernel
theorem dX9_ends_1 : decode cX9_ends 1 = .ok (.iconst 0, 1) := by decide +kernel
theorem dX9_ends_2 : decode cX9_ends 2 = .ok (.putfield 117, 3) := by decide +kernel
theorem dX9_ends_5 : decode cX9_ends 5 = .ok (.aload_n 0, 1) := by decide +kernel
theorem dX9_ends_6 : decode cX9_ends 6 = .ok (.iload_n 2, 1) := by decide +kernel
theorem dX9_ends_7 : decode cX9_ends 7 = .ok (.invokevirtual 200, 3) := by decide +kernel
theorem dX9_ends_10 : decode cX9_ends 10 = .ok (.ifCond .eq 5, 3) := by decide +kernel
theorem dX9_ends_13 : decode cX9_ends 13 = .ok (.iconst (-1), 1) := by decide +kernel
theorem dX9_ends_14 : decode cX9_ends 14 = .ok (.ireturn, 1) := by decide +kernel
theorem dX9_ends_15 : decode cX9_ends 15 = .ok (.iload_n 1, 1) := by decide +kernel
theorem dX9_ends_16 : decode cX9_ends 16 = .ok (.i2l, 1) := by decide +kernel
theorem dX9_ends_17 : decode cX9_ends 17 = .ok (.lconst 0, 1) := by decide +kernel
theorem dX9_ends_18 : decode cX9_ends 18 = .ok (.ldc2_w 133, 3) := by decide +kernel
theorem dX9_ends_21 : decode cX9_ends 21 = .ok (.invokestatic 124, 3) := by decide +kernel
theorem dX9_ends_24 : decode cX9_ends 24 = .ok (.ifCond .ne 6, 3) := by decide +kernel
theorem dX9_ends_27 : decode cX9_ends 27 = .ok (.bipush (-2), 2) := by decide +kernel
theorem dX9_ends_29 : decode cX9_ends 29 = .ok (.ireturn, 1) := by decide +kernel
theorem dX9_ends_30 : decode cX9_ends 30 = .ok (.aload_n 0, 1) := by decide +kernel
theorem dX9_ends_31 : decode cX9_ends 31 = .ok (.iload_n 1, 1) := by decide +kernel
theorem dX9_ends_32 : decode cX9_ends 32 = .ok (.iload_n 2, 1) := by decide +kernel
theorem dX9_ends_33 : decode cX9_ends 33 = .ok (.invokevirtual 264, 3) := by decide +kernel
theorem dX9_ends_36 : decode cX9_ends 36 = .ok (.iconst 0, 1) := by decide +kernel
theorem dX9_ends_37 : decode cX9_ends 37 = .ok (.istore_n 3, 1) := by decide +kernel
theorem dX9_ends_38 : decode cX9_ends 38 = .ok (.iconst 0, 1) := by decide +kernel
theorem dX9_ends_39 : decode cX9_ends 39 = .ok (.istore 4, 2) := by decide +kernel
theorem dX9_ends_41 : decode cX9_ends 41 = .ok (.iload 4, 2) := by decide +kernel
theorem dX9_ends_43 : decode cX9_ends 43 = .ok (.bipush 6, 2) := by decide +kernel
theorem dX9_ends_45 : decode cX9_ends 45 = .ok (.if_icmp .ge 32, 3) := by decide +kernel
theorem dX9_ends_48 : decode cX9_ends 48 = .ok (.iload_n 3, 1) := by decide +kernel
theorem dX9_ends_49 : decode cX9_ends 49 = .ok (.aload_n 0, 1) := by decide +kernel
theorem dX9_ends_50 : decode cX9_ends 50 = .ok (.getfield 110, 3) := by decide +kernel
theorem dX9_ends_53 : decode cX9_ends 53 = .ok (.iload 4, 2) := by decide +kernel
theorem dX9_ends_55 : decode cX9_ends 55 = .ok (.laload, 1) := by decide +kernel
theorem dX9_ends_56 : decode cX9_ends 56 = .ok (.lconst 0, 1) := by decide +kernel
theorem dX9_ends_57 : decode cX9_ends 57 = .ok (.lcmp, 1) := by decide +kernel
theorem dX9_ends_58 : decode cX9_ends 58 = .ok (.ifCond .le 10, 3) := by decide +kernel
theorem dX9_ends_61 : decode cX9_ends 61 = .ok (.iconst 1, 1) := by decide +kernel
theorem dX9_ends_62 : decode cX9_ends 62 = .ok (.iload 4, 2) := by decide +kernel
theorem dX9_ends_64 : decode cX9_ends 64 = .ok (.ishl, 1) := by decide +kernel
theorem dX9_ends_65 : decode cX9_ends 65 = .ok (.goto 4, 3) := by decide +kernel
theorem dX9_ends_68 : decode cX9_ends 68 = .ok (.iconst 0, 1) := by decide +kernel
theorem dX9_ends_69 : decode cX9_ends 69 = .ok (.ior, 1) := by decide +kernel
theorem dX9_ends_70 : decode cX9_ends 70 = .ok (.istore_n 3, 1) := by decide +kernel
theorem dX9_ends_71 : decode cX9_ends 71 = .ok (.iinc 4 1, 3) := by decide +kernel
theorem dX9_ends_74 : decode cX9_ends 74 = .ok (.goto (-33), 3) := by decide +kernel
theorem dX9_ends_77 : decode cX9_ends 77 = .ok (.iload_n 3, 1) := by decide +kernel
theorem dX9_ends_78 : decode cX9_ends 78 = .ok (.ireturn, 1) := by decide +kernel
theorem dX9_keep_0 : decode cX9_keep 0 = .ok (.aload_n 0, 1) := by decide +kernel
theorem dX9_keep_1 : decode cX9_keep 1 = .ok (.iconst 0, 1) := by decide +kernel
theorem dX9_keep_2 : decode cX9_keep 2 = .ok (.putfield 117, 3) := by decide +kernel
theorem dX9_keep_5 : decode cX9_keep 5 = .ok (.iload_n 1, 1) := by decide +kernel
theorem dX9_keep_6 : decode cX9_keep 6 = .ok (.i2l, 1) := by decide +kernel
theorem dX9_keep_7 : decode cX9_keep 7 = .ok (.lconst 0, 1) := by decide +kernel
theorem dX9_keep_8 : decode cX9_keep 8 = .ok (.lconst 1, 1) := by decide +kernel
theorem dX9_keep_9 : decode cX9_keep 9 = .ok (.invokestatic 124, 3) := by decide +kernel
theorem dX9_keep_12 : decode cX9_keep 12 = .ok (.ifCond .ne 5, 3) := by decide +kernel
theorem dX9_keep_15 : decode cX9_keep 15 = .ok (.iconst (-1), 1) := by decide +kernel
theorem dX9_keep_16 : decode cX9_keep 16 = .ok (.ireturn, 1) := by decide +kernel
theorem dX9_keep_17 : decode cX9_keep 17 = .ok (.aload_n 0, 1) := by decide +kernel
theorem dX9_keep_18 : decode cX9_keep 18 = .ok (.getfield 92, 3) := by decide +kernel
theorem dX9_keep_21 : decode cX9_keep 21 = .ok (.iload_n 1, 1) := by decide +kernel
theorem dX9_keep_22 : decode cX9_keep 22 = .ok (.iconst 1, 1) := by decide +kernel
theorem dX9_keep_23 : decode cX9_keep 23 = .ok (.bastore, 1) := by decide +kernel
theorem dX9_keep_24 : decode cX9_keep 24 = .ok (.aload_n 0, 1) := by decide +kernel
theorem dX9_keep_25 : decode cX9_keep 25 = .ok (.aload_n 0, 1) := by decide +kernel
theorem dX9_keep_26 : decode cX9_keep 26 = .ok (.getfield 86, 3) := by decide +kernel
theorem dX9_keep_29 : decode cX9_keep 29 = .ok (.bipush 73, 2) := by decide +kernel
theorem dX9_keep_31 : decode cX9_keep 31 = .ok (.iload_n 1, 1) := by decide +kernel
theorem dX9_keep_32 : decode cX9_keep 32 = .ok (.imul, 1) := by decide +kernel
theorem dX9_keep_33 : decode cX9_keep 33 = .ok (.invokevirtual 218, 3) := by decide +kernel
theorem dX9_keep_36 : decode cX9_keep 36 = .ok (.iconst 0, 1) := by decide +kernel
theorem dX9_keep_37 : decode cX9_keep 37 = .ok (.istore_n 2, 1) := by decide +kernel
theorem dX9_keep_38 : decode cX9_keep 38 = .ok (.iload_n 2, 1) := by decide +kernel
theorem dX9_keep_39 : decode cX9_keep 39 = .ok (.bipush 10, 2) := by decide +kernel
theorem dX9_keep_41 : decode cX9_keep 41 = .ok (.if_icmp .ge 26, 3) := by decide +kernel
theorem dX9_keep_44 : decode cX9_keep 44 = .ok (.aload_n 0, 1) := by decide +kernel
theorem dX9_keep_45 : decode cX9_keep 45 = .ok (.getfield 89, 3) := by decide +kernel
theorem dX9_keep_48 : decode cX9_keep 48 = .ok (.bipush 10, 2) := by decide +kernel
theorem dX9_keep_50 : decode cX9_keep 50 = .ok (.iload_n 1, 1) := by decide +kernel
theorem dX9_keep_51 : decode cX9_keep 51 = .ok (.imul, 1) := by decide +kernel
theorem dX9_keep_52 : decode cX9_keep 52 = .ok (.iload_n 2, 1) := by decide +kernel
theorem dX9_keep_53 : decode cX9_keep 53 = .ok (.iadd, 1) := by decide +kernel
theorem dX9_keep_54 : decode cX9_keep 54 = .ok (.aload_n 0, 1) := by decide +kernel
theorem dX9_keep_55 : decode cX9_keep 55 = .ok (.getfield 28, 3) := by decide +kernel
theorem dX9_keep_58 : decode cX9_keep 58 = .ok (.iload_n 2, 1) := by decide +kernel
theorem dX9_keep_59 : decode cX9_keep 59 = .ok (.baload, 1) := by decide +kernel
theorem dX9_keep_60 : decode cX9_keep 60 = .ok (.bastore, 1) := by decide +kernel
theorem dX9_keep_61 : decode cX9_keep 61 = .ok (.iinc 2 1, 3) := by decide +kernel
theorem dX9_keep_64 : decode cX9_keep 64 = .ok (.goto (-26), 3) := by decide +kernel
theorem dX9_keep_67 : decode cX9_keep 67 = .ok (.aload_n 0, 1) := by decide +kernel
theorem dX9_keep_68 : decode cX9_keep 68 = .ok (.getfield 191, 3) := by decide +kernel
theorem dX9_keep_71 : decode cX9_keep 71 = .ok (.ireturn, 1) := by decide +kernel
theorem dX9_again_0 : decode cX9_again 0 = .ok (.aload_n 0, 1) := by decide +kernel
theorem dX9_again_1 : decode cX9_again 1 = .ok (.iconst 0, 1) := by decide +kernel
theorem dX9_again_2 : decode cX9_again 2 = .ok (.putfield 117, 3) := by decide +kernel
theorem dX9_again_5 : decode cX9_again 5 = .ok (.iload_n 1, 1) := by decide +kernel
theorem dX9_again_6 : decode cX9_again 6 = .ok (.i2l, 1) := by decide +kernel
theorem dX9_again_7 : decode cX9_again 7 = .ok (.lconst 0, 1) := by decide +kernel
theorem dX9_again_8 : decode cX9_again 8 = .ok (.lconst 1, 1) := by decide +kernel
theorem dX9_again_9 : decode cX9_again 9 = .ok (.invokestatic 124, 3) := by decide +kernel
theorem dX9_again_12 : decode cX9_again 12 = .ok (.ifCond .ne 5, 3) := by decide +kernel
theorem dX9_again_15 : decode cX9_again 15 = .ok (.iconst (-1), 1) := by decide +kernel
theorem dX9_again_16 : decode cX9_again 16 = .ok (.ireturn, 1) := by decide +kernel
theorem dX9_again_17 : decode cX9_again 17 = .ok (.aload_n 0, 1) := by decide +kernel
theorem dX9_again_18 : decode cX9_again 18 = .ok (.getfield 92, 3) := by decide +kernel
theorem dX9_again_21 : decode cX9_again 21 = .ok (.iload_n 1, 1) := by decide +kernel
theorem dX9_again_22 : decode cX9_again 22 = .ok (.baload, 1) := by decide +kernel
theorem dX9_again_23 : decode cX9_again 23 = .ok (.ifCond .ne 6, 3) := by decide +kernel
theorem dX9_again_26 : decode cX9_again 26 = .ok (.bipush (-3), 2) := by decide +kernel
theorem dX9_again_28 : decode cX9_again 28 = .ok (.ireturn, 1) := by decide +kernel
theorem dX9_again_29 : decode cX9_again 29 = .ok (.aload_n 0, 1) := by decide +kernel
theorem dX9_again_30 : decode cX9_again 30 = .ok (.aload_n 0, 1) := by decide +kernel
theorem dX9_again_31 : decode cX9_again 31 = .ok (.getfield 86, 3) := by decide +kernel
theorem dX9_again_34 : decode cX9_again 34 = .ok (.bipush 73, 2) := by decide +kernel
theorem dX9_again_36 : decode cX9_again 36 = .ok (.iload_n 1, 1) := by decide +kernel
theorem dX9_again_37 : decode cX9_again 37 = .ok (.imul, 1) := by decide +kernel
theorem dX9_again_38 : decode cX9_again 38 = .ok (.invokevirtual 228, 3) := by decide +kernel
theorem dX9_again_41 : decode cX9_again 41 = .ok (.iconst 0, 1) := by decide +kernel
theorem dX9_again_42 : decode cX9_again 42 = .ok (.istore_n 2, 1) := by decide +kernel
theorem dX9_again_43 : decode cX9_again 43 = .ok (.iload_n 2, 1) := by decide +kernel
theorem dX9_again_44 : decode cX9_again 44 = .ok (.bipush 10, 2) := by decide +kernel
theorem dX9_again_46 : decode cX9_again 46 = .ok (.if_icmp .ge 26, 3) := by decide +kernel
theorem dX9_again_49 : decode cX9_again 49 = .ok (.aload_n 0, 1) := by decide +kernel
theorem dX9_again_50 : decode cX9_again 50 = .ok (.getfield 28, 3) := by decide +kernel
theorem dX9_again_53 : decode cX9_again 53 = .ok (.iload_n 2, 1) := by decide +kernel
theorem dX9_again_54 : decode cX9_again 54 = .ok (.aload_n 0, 1) := by decide +kernel
theorem dX9_again_55 : decode cX9_again 55 = .ok (.getfield 89, 3) := by decide +kernel
theorem dX9_again_58 : decode cX9_again 58 = .ok (.bipush 10, 2) := by decide +kernel
theorem dX9_again_60 : decode cX9_again 60 = .ok (.iload_n 1, 1) := by decide +kernel
theorem dX9_again_61 : decode cX9_again 61 = .ok (.imul, 1) := by decide +kernel
theorem dX9_again_62 : decode cX9_again 62 = .ok (.iload_n 2, 1) := by decide +kernel
theorem dX9_again_63 : decode cX9_again 63 = .ok (.iadd, 1) := by decide +kernel
theorem dX9_again_64 : decode cX9_again 64 = .ok (.baload, 1) := by decide +kernel
theorem dX9_again_65 : decode cX9_again 65 = .ok (.bastore, 1) := by decide +kernel
theorem dX9_again_66 : decode cX9_again 66 = .ok (.iinc 2 1, 3) := by decide +kernel
theorem dX9_again_69 : decode cX9_again 69 = .ok (.goto (-26), 3) := by decide +kernel
theorem dX9_again_72 : decode cX9_again 72 = .ok (.aload_n 0, 1) := by decide +kernel
theorem dX9_again_73 : decode cX9_again 73 = .ok (.iconst 0, 1) := by decide +kernel
theorem dX9_again_74 : decode cX9_again 74 = .ok (.putfield 194, 3) := by decide +kernel
theorem dX9_again_77 : decode cX9_again 77 = .ok (.aload_n 0, 1) := by decide +kernel
theorem dX9_again_78 : decode cX9_again 78 = .ok (.getfield 191, 3) := by decide +kernel
theorem dX9_again_81 : decode cX9_again 81 = .ok (.ireturn, 1) := by decide +kernel
