theorem dX8_init_0 : decode cX8_init 0 = .ok (.aload_n 0, 1) := by decide +kernel
theorem dX8_init_1 : decode cX8_init 1 = .ok (.invokespecial 1, 3) := by decide +kernel
theorem dX8_init_4 : decode cX8_init 4 = .ok (.aload_n 0, 1) := by decide +kernel
theorem dX8_init_5 : decode cX8_init 5 = .ok (.iconst 2, 1) := by decide +kernel
theorem dX8_init_6 : decode cX8_init 6 = .ok (.putfield 7, 3) := by decide +kernel
theorem dX8_init_9 : decode cX8_init 9 = .ok (.aload_n 0, 1) := by decide +kernel
theorem dX8_init_10 : decode cX8_init 10 = .ok (.iconst 4, 1) := by decide +kernel
theorem dX8_init_11 : decode cX8_init 11 = .ok (.newarray .int, 2) := by decide +kernel
theorem dX8_init_13 : decode cX8_init 13 = .ok (.putfield 13, 3) := by decide +kernel
theorem dX8_init_16 : decode cX8_init 16 = .ok (.aload_n 0, 1) := by decide +kernel
theorem dX8_init_17 : decode cX8_init 17 = .ok (.sipush 128, 3) := by decide +kernel
theorem dX8_init_20 : decode cX8_init 20 = .ok (.newarray .int, 2) := by decide +kernel
theorem dX8_init_22 : decode cX8_init 22 = .ok (.putfield 17, 3) := by decide +kernel
theorem dX8_init_25 : decode cX8_init 25 = .ok (.aload_n 0, 1) := by decide +kernel
theorem dX8_init_26 : decode cX8_init 26 = .ok (.iconst 4, 1) := by decide +kernel
theorem dX8_init_27 : decode cX8_init 27 = .ok (.newarray .int, 2) := by decide +kernel
theorem dX8_init_29 : decode cX8_init 29 = .ok (.putfield 20, 3) := by decide +kernel
theorem dX8_init_32 : decode cX8_init 32 = .ok (.aload_n 0, 1) := by decide +kernel
theorem dX8_init_33 : decode cX8_init 33 = .ok (.iconst 4, 1) := by decide +kernel
theorem dX8_init_34 : decode cX8_init 34 = .ok (.newarray .int, 2) := by decide +kernel
theorem dX8_init_36 : decode cX8_init 36 = .ok (.putfield 23, 3) := by decide +kernel
theorem dX8_init_39 : decode cX8_init 39 = .ok (.aload_n 0, 1) := by decide +kernel
theorem dX8_init_40 : decode cX8_init 40 = .ok (.iconst 4, 1) := by decide +kernel
theorem dX8_init_41 : decode cX8_init 41 = .ok (.newarray .int, 2) := by decide +kernel
theorem dX8_init_43 : decode cX8_init 43 = .ok (.putfield 26, 3) := by decide +kernel
theorem dX8_init_46 : decode cX8_init 46 = .ok (.aload_n 0, 1) := by decide +kernel
theorem dX8_init_47 : decode cX8_init 47 = .ok (.bipush 32, 2) := by decide +kernel
theorem dX8_init_49 : decode cX8_init 49 = .ok (.newarray .int, 2) := by decide +kernel
theorem dX8_init_51 : decode cX8_init 51 = .ok (.putfield 29, 3) := by decide +kernel
theorem dX8_init_54 : decode cX8_init 54 = .ok (.aload_n 0, 1) := by decide +kernel
theorem dX8_init_55 : decode cX8_init 55 = .ok (.bipush 32, 2) := by decide +kernel
theorem dX8_init_57 : decode cX8_init 57 = .ok (.newarray .int, 2) := by decide +kernel
theorem dX8_init_59 : decode cX8_init 59 = .ok (.putfield 32, 3) := by decide +kernel
theorem dX8_init_62 : decode cX8_init 62 = .ok (.aload_n 0, 1) := by decide +kernel
theorem dX8_init_63 : decode cX8_init 63 = .ok (.bipush 32, 2) := by decide +kernel
theorem dX8_init_65 : decode cX8_init 65 = .ok (.newarray .int, 2) := by decide +kernel
theorem dX8_init_67 : decode cX8_init 67 = .ok (.putfield 35, 3) := by decide +kernel
theorem dX8_init_70 : decode cX8_init 70 = .ok (.aload_n 0, 1) := by decide +kernel
theorem dX8_init_71 : decode cX8_init 71 = .ok (.bipush 32, 2) := by decide +kernel
theorem dX8_init_73 : decode cX8_init 73 = .ok (.newarray .int, 2) := by decide +kernel
theorem dX8_init_75 : decode cX8_init 75 = .ok (.putfield 38, 3) := by decide +kernel
theorem dX8_init_78 : decode cX8_init 78 = .ok (.aload_n 0, 1) := by decide +kernel
theorem dX8_init_79 : decode cX8_init 79 = .ok (.bipush 32, 2) := by decide +kernel
theorem dX8_init_81 : decode cX8_init 81 = .ok (.newarray .int, 2) := by decide +kernel
theorem dX8_init_83 : decode cX8_init 83 = .ok (.putfield 41, 3) := by decide +kernel
theorem dX8_init_86 : decode cX8_init 86 = .ok (.aload_n 0, 1) := by decide +kernel
theorem dX8_init_87 : decode cX8_init 87 = .ok (.bipush 32, 2) := by decide +kernel
theorem dX8_init_89 : decode cX8_init 89 = .ok (.newarray .int, 2) := by decide +kernel
theorem dX8_init_91 : decode cX8_init 91 = .ok (.putfield 44, 3) := by decide +kernel
theorem dX8_init_94 : decode cX8_init 94 = .ok (.aload_n 0, 1) := by decide +kernel
theorem dX8_init_95 : decode cX8_init 95 = .ok (.bipush 32, 2) := by decide +kernel
theorem dX8_init_97 : decode cX8_init 97 = .ok (.newarray .int, 2) := by decide +kernel
theorem dX8_init_99 : decode cX8_init 99 = .ok (.putfield 47, 3) := by decide +kernel
theorem dX8_init_102 : decode cX8_init 102 = .ok (.aload_n 0, 1) := by decide +kernel
theorem dX8_init_103 : decode cX8_init 103 = .ok (.iconst 1, 1) := by decide +kernel
theorem dX8_init_104 : decode cX8_init 104 = .ok (.putfield 50, 3) := by decide +kernel
theorem dX8_init_107 : decode cX8_init 107 = .ok (.aload_n 0, 1) := by decide +kernel
theorem dX8_init_108 : decode cX8_init 108 = .ok (.sipush 160, 3) := by decide +kernel
theorem dX8_init_111 : decode cX8_init 111 = .ok (.newarray .int, 2) := by decide +kernel
theorem dX8_init_113 : decode cX8_init 113 = .ok (.putfield 53, 3) := by decide +kernel
theorem dX8_init_116 : decode cX8_init 116 = .ok (.aload_n 0, 1) := by decide +kernel
theorem dX8_init_117 : decode cX8_init 117 = .ok (.iconst 5, 1) := by decide +kernel
theorem dX8_init_118 : decode cX8_init 118 = .ok (.newarray .int, 2) := by decide +kernel
theorem dX8_init_120 : decode cX8_init 120 = .ok (.putfield 56, 3) := by decide +kernel
theorem dX8_init_123 : decode cX8_init 123 = .ok (.aload_n 0, 1) := by decide +kernel
theorem dX8_init_124 : decode cX8_init 124 = .ok (.iconst 5, 1) := by decide +kernel
theorem dX8_init_125 : decode cX8_init 125 = .ok (.newarray .int, 2) := by decide +kernel
theorem dX8_init_127 : decode cX8_init 127 = .ok (.putfield 59, 3) := by decide +kernel
theorem dX8_init_130 : decode cX8_init 130 = .ok (.aload_n 0, 1) := by decide +kernel
theorem dX8_init_131 : decode cX8_init 131 = .ok (.bipush 10, 2) := by decide +kernel
theorem dX8_init_133 : decode cX8_init 133 = .ok (.newarray .int, 2) := by decide +kernel
theorem dX8_init_135 : decode cX8_init 135 = .ok (.putfield 62, 3) := by decide +kernel
theorem dX8_init_138 : decode cX8_init 138 = .ok (.aload_n 0, 1) := by decide +kernel
theorem dX8_init_139 : decode cX8_init 139 = .ok (.bipush 10, 2) := by decide +kernel
theorem dX8_init_141 : decode cX8_init 141 = .ok (.newarray .int, 2) := by decide +kernel
theorem dX8_init_143 : decode cX8_init 143 = .ok (.putfield 65, 3) := by decide +kernel
theorem dX8_init_146 : decode cX8_init 146 = .ok (.aload_n 0, 1) := by decide +kernel
theorem dX8_init_147 : decode cX8_init 147 = .ok (.bipush 8, 2) := by decide +kernel
theorem dX8_init_149 : decode cX8_init 149 = .ok (.newarray .int, 2) := by decide +kernel
theorem dX8_init_151 : decode cX8_init 151 = .ok (.putfield 68, 3) := by decide +kernel
theorem dX8_init_154 : decode cX8_init 154 = .ok (.aload_n 0, 1) := by decide +kernel
theorem dX8_init_155 : decode cX8_init 155 = .ok (.bipush 8, 2) := by decide +kernel
theorem dX8_init_157 : decode cX8_init 157 = .ok (.newarray .int, 2) := by decide +kernel
theorem dX8_init_159 : decode cX8_init 159 = .ok (.putfield 71, 3) := by decide +kernel
theorem dX8_init_162 : decode cX8_init 162 = .ok (.aload_n 0, 1) := by decide +kernel
theorem dX8_init_163 : decode cX8_init 163 = .ok (.sipush 600, 3) := by decide +kernel
theorem dX8_init_166 : decode cX8_init 166 = .ok (.newarray .int, 2) := by decide +kernel
theorem dX8_init_168 : decode cX8_init 168 = .ok (.putfield 74, 3) := by decide +kernel
theorem dX8_init_171 : decode cX8_init 171 = .ok (.aload_n 0, 1) := by decide +kernel
theorem dX8_init_172 : decode cX8_init 172 = .ok (.sipush 600, 3) := by decide +kernel
theorem dX8_init_175 : decode cX8_init 175 = .ok (.newarray .int, 2) := by decide +kernel
theorem dX8_init_177 : decode cX8_init 177 = .ok (.putfield 77, 3) := by decide +kernel
theorem dX8_init_180 : decode cX8_init 180 = .ok (.aload_n 0, 1) := by decide +kernel
theorem dX8_init_181 : decode cX8_init 181 = .ok (.bipush 32, 2) := by decide +kernel
theorem dX8_init_183 : decode cX8_init 183 = .ok (.newarray .boolean, 2) := by decide +kernel
theorem dX8_init_185 : decode cX8_init 185 = .ok (.putfield 80, 3) := by decide +kernel
theorem dX8_init_188 : decode cX8_init 188 = .ok (.aload_n 0, 1) := by decide +kernel
theorem dX8_init_189 : decode cX8_init 189 = .ok (.bipush 100, 2) := by decide +kernel
theorem dX8_init_191 : decode cX8_init 191 = .ok (.newarray .int, 2) := by decide +kernel
theorem dX8_init_193 : decode cX8_init 193 = .ok (.putfield 84, 3) := by decide +kernel
theorem dX8_init_196 : decode cX8_init 196 = .ok (.aload_n 0, 1) := by decide +kernel
theorem dX8_init_197 : decode cX8_init 197 = .ok (.bipush 101, 2) := by decide +kernel
theorem dX8_init_199 : decode cX8_init 199 = .ok (.newarray .int, 2) := by decide +kernel
theorem dX8_init_201 : decode cX8_init 201 = .ok (.putfield 87, 3) := by decide +kernel
theorem dX8_init_204 : decode cX8_init 204 = .ok (.aload_n 0, 1) := by decide +kernel
theorem dX8_init_205 : decode cX8_init 205 = .ok (.bipush 101, 2) := by decide +kernel
theorem dX8_init_207 : decode cX8_init 207 = .ok (.newarray .int, 2) := by decide +kernel
theorem dX8_init_209 : decode cX8_init 209 = .ok (.putfield 90, 3) := by decide +kernel
theorem dX8_init_212 : decode cX8_init 212 = .ok (.aload_n 0, 1) := by decide +kernel
theorem dX8_init_213 : decode cX8_init 213 = .ok (.bipush 101, 2) := by decide +kernel
theorem dX8_init_215 : decode cX8_init 215 = .ok (.newarray .int, 2) := by decide +kernel
theorem dX8_init_217 : decode cX8_init 217 = .ok (.putfield 93, 3) := by decide +kernel
theorem dX8_init_220 : decode cX8_init 220 = .ok (.aload_n 0, 1) := by decide +kernel
theorem dX8_init_221 : decode cX8_init 221 = .ok (.iconst 5, 1) := by decide +kernel
theorem dX8_init_222 : decode cX8_init 222 = .ok (.newarray .int, 2) := by decide +kernel
theorem dX8_init_224 : decode cX8_init 224 = .ok (.putfield 96, 3) := by decide +kernel
theorem dX8_init_227 : decode cX8_init 227 = .ok (.aload_n 0, 1) := by decide +kernel
theorem dX8_init_228 : decode cX8_init 228 = .ok (.iconst 5, 1) := by decide +kernel
theorem dX8_init_229 : decode cX8_init 229 = .ok (.newarray .int, 2) := by decide +kernel
theorem dX8_init_231 : decode cX8_init 231 = .ok (.putfield 99, 3) := by decide +kernel
theorem dX8_init_234 : decode cX8_init 234 = .ok (.aload_n 0, 1) := by decide +kernel
theorem dX8_init_235 : decode cX8_init 235 = .ok (.bipush 32, 2) := by decide +kernel
theorem dX8_init_237 : decode cX8_init 237 = .ok (.newarray .int, 2) := by decide +kernel
theorem dX8_init_239 : decode cX8_init 239 = .ok (.putfield 102, 3) := by decide +kernel
theorem dX8_init_242 : decode cX8_init 242 = .ok (.aload_n 0, 1) := by decide +kernel
theorem dX8_init_243 : decode cX8_init 243 = .ok (.bipush 32, 2) := by decide +kernel
theorem dX8_init_245 : decode cX8_init 245 = .ok (.newarray .int, 2) := by decide +kernel
theorem dX8_init_247 : decode cX8_init 247 = .ok (.putfield 105, 3) := by decide +kernel
theorem dX8_init_250 : decode cX8_init 250 = .ok (.aload_n 0, 1) := by decide +kernel
theorem dX8_init_251 : decode cX8_init 251 = .ok (.bipush 6, 2) := by decide +kernel
theorem dX8_init_253 : decode cX8_init 253 = .ok (.newarray .int, 2) := by decide +kernel
theorem dX8_init_255 : decode cX8_init 255 = .ok (.putfield 108, 3) := by decide +kernel
theorem dX8_init_258 : decode cX8_init 258 = .ok (.aload_n 0, 1) := by decide +kernel
theorem dX8_init_259 : decode cX8_init 259 = .ok (.bipush 6, 2) := by decide +kernel
theorem dX8_init_261 : decode cX8_init 261 = .ok (.newarray .int, 2) := by decide +kernel
theorem dX8_init_263 : decode cX8_init 263 = .ok (.putfield 111, 3) := by decide +kernel
theorem dX8_init_266 : decode cX8_init 266 = .ok (.aload_n 0, 1) := by decide +kernel
theorem dX8_init_267 : decode cX8_init 267 = .ok (.sipush 360, 3) := by decide +kernel
theorem dX8_init_270 : decode cX8_init 270 = .ok (.newarray .long, 2) := by decide +kernel
theorem dX8_init_272 : decode cX8_init 272 = .ok (.putfield 114, 3) := by decide +kernel
theorem dX8_init_275 : decode cX8_init 275 = .ok (.aload_n 0, 1) := by decide +kernel
theorem dX8_init_276 : decode cX8_init 276 = .ok (.bipush 60, 2) := by decide +kernel
theorem dX8_init_278 : decode cX8_init 278 = .ok (.newarray .long, 2) := by decide +kernel
theorem dX8_init_280 : decode cX8_init 280 = .ok (.putfield 118, 3) := by decide +kernel
theorem dX8_init_283 : decode cX8_init 283 = .ok (.aload_n 0, 1) := by decide +kernel
theorem dX8_init_284 : decode cX8_init 284 = .ok (.bipush 6, 2) := by decide +kernel
theorem dX8_init_286 : decode cX8_init 286 = .ok (.newarray .boolean, 2) := by decide +kernel
theorem dX8_init_288 : decode cX8_init 288 = .ok (.putfield 121, 3) := by decide +kernel
theorem dX8_init_291 : decode cX8_init 291 = .ok (.aload_n 0, 1) := by decide +kernel
theorem dX8_init_292 : decode cX8_init 292 = .ok (.iconst 0, 1) := by decide +kernel
theorem dX8_init_293 : decode cX8_init 293 = .ok (.putfield 124, 3) := by decide +kernel
theorem dX8_init_296 : decode cX8_init 296 = .ok (.iconst 0, 1) := by decide +kernel
theorem dX8_init_297 : decode cX8_init 297 = .ok (.istore_n 1, 1) := by decide +kernel
theorem dX8_init_298 : decode cX8_init 298 = .ok (.iload_n 1, 1) := by decide +kernel
theorem dX8_init_299 : decode cX8_init 299 = .ok (.iconst 4, 1) := by decide +kernel
theorem dX8_init_300 : decode cX8_init 300 = .ok (.if_icmp .ge 17, 3) := by decide +kernel
theorem dX8_init_303 : decode cX8_init 303 = .ok (.aload_n 0, 1) := by decide +kernel
theorem dX8_init_304 : decode cX8_init 304 = .ok (.getfield 20, 3) := by decide +kernel
theorem dX8_init_307 : decode cX8_init 307 = .ok (.iload_n 1, 1) := by decide +kernel
theorem dX8_init_308 : decode cX8_init 308 = .ok (.bipush (-5), 2) := by decide +kernel
theorem dX8_init_310 : decode cX8_init 310 = .ok (.iastore, 1) := by decide +kernel
theorem dX8_init_311 : decode cX8_init 311 = .ok (.iinc 1 1, 3) := by decide +kernel
theorem dX8_init_314 : decode cX8_init 314 = .ok (.goto (-16), 3) := by decide +kernel
theorem dX8_init_317 : decode cX8_init 317 = .ok (.return_, 1) := by decide +kernel
theorem dX8_in_0 : decode cX8_in 0 = .ok (.lload_n 0, 1) := by decide +kernel
theorem dX8_in_1 : decode cX8_in 1 = .ok (.lload_n 2, 1) := by decide +kernel
theorem dX8_in_2 : decode cX8_in 2 = .ok (.lcmp, 1) := by decide +kernel
theorem dX8_in_3 : decode cX8_in 3 = .ok (.ifCond .lt 14, 3) := by decide +kernel
theorem dX8_in_6 : decode cX8_in 6 = .ok (.lload_n 0, 1) := by decide +kernel
theorem dX8_in_7 : decode cX8_in 7 = .ok (.lload 4, 2) := by decide +kernel
theorem dX8_in_9 : decode cX8_in 9 = .ok (.lcmp, 1) := by decide +kernel
theorem dX8_in_10 : decode cX8_in 10 = .ok (.ifCond .gt 7, 3) := by decide +kernel
theorem dX8_in_13 : decode cX8_in 13 = .ok (.iconst 1, 1) := by decide +kernel
theorem dX8_in_14 : decode cX8_in 14 = .ok (.goto 4, 3) := by decide +kernel
theorem dX8_in_17 : decode cX8_in 17 = .ok (.iconst 0, 1) := by decide +kernel
theorem dX8_in_18 : decode cX8_in 18 = .ok (.ireturn, 1) := by decide +kernel
theorem dX8_isTask_0 : decode cX8_isTask 0 = .ok (.iload_n 1, 1) := by decide +kernel
theorem dX8_isTask_1 : decode cX8_isTask 1 = .ok (.i2l, 1) := by decide +kernel
theorem dX8_isTask_2 : decode cX8_isTask 2 = .ok (.lconst 0, 1) := by decide +kernel
theorem dX8_isTask_3 : decode cX8_isTask 3 = .ok (.aload_n 0, 1) := by decide +kernel
theorem dX8_isTask_4 : decode cX8_isTask 4 = .ok (.getfield 127, 3) := by decide +kernel
theorem dX8_isTask_7 : decode cX8_isTask 7 = .ok (.iconst 1, 1) := by decide +kernel
theorem dX8_isTask_8 : decode cX8_isTask 8 = .ok (.isub, 1) := by decide +kernel
theorem dX8_isTask_9 : decode cX8_isTask 9 = .ok (.i2l, 1) := by decide +kernel
theorem dX8_isTask_10 : decode cX8_isTask 10 = .ok (.invokestatic 130, 3) := by decide +kernel
theorem dX8_isTask_13 : decode cX8_isTask 13 = .ok (.ireturn, 1) := by decide +kernel
theorem dX8_isArm_0 : decode cX8_isArm 0 = .ok (.iload_n 1, 1) := by decide +kernel
theorem dX8_isArm_1 : decode cX8_isArm 1 = .ok (.i2l, 1) := by decide +kernel
theorem dX8_isArm_2 : decode cX8_isArm 2 = .ok (.lconst 0, 1) := by decide +kernel
theorem dX8_isArm_3 : decode cX8_isArm 3 = .ok (.aload_n 0, 1) := by decide +kernel
theorem dX8_isArm_4 : decode cX8_isArm 4 = .ok (.getfield 7, 3) := by decide +kernel
theorem dX8_isArm_7 : decode cX8_isArm 7 = .ok (.iconst 1, 1) := by decide +kernel
theorem dX8_isArm_8 : decode cX8_isArm 8 = .ok (.isub, 1) := by decide +kernel
theorem dX8_isArm_9 : decode cX8_isArm 9 = .ok (.i2l, 1) := by decide +kernel
theorem dX8_isArm_10 : decode cX8_isArm 10 = .ok (.invokestatic 130, 3) := by decide +kernel
theorem dX8_isArm_13 : decode cX8_isArm 13 = .ok (.ireturn, 1) := by decide +kernel
theorem dX8_isEnded_0 : decode cX8_isEnded 0 = .ok (.aload_n 0, 1) := by decide +kernel
theorem dX8_isEnded_1 : decode cX8_isEnded 1 = .ok (.getfield 29, 3) := by decide +kernel
theorem dX8_isEnded_4 : decode cX8_isEnded 4 = .ok (.iload_n 1, 1) := by decide +kernel
theorem dX8_isEnded_5 : decode cX8_isEnded 5 = .ok (.iaload, 1) := by decide +kernel
theorem dX8_isEnded_6 : decode cX8_isEnded 6 = .ok (.iconst 3, 1) := by decide +kernel
theorem dX8_isEnded_7 : decode cX8_isEnded 7 = .ok (.if_icmp .lt 7, 3) := by decide +kernel
theorem dX8_isEnded_10 : decode cX8_isEnded 10 = .ok (.iconst 1, 1) := by decide +kernel
theorem dX8_isEnded_11 : decode cX8_isEnded 11 = .ok (.goto 4, 3) := by decide +kernel
theorem dX8_isEnded_14 : decode cX8_isEnded 14 = .ok (.iconst 0, 1) := by decide +kernel
theorem dX8_isEnded_15 : decode cX8_isEnded 15 = .ok (.ireturn, 1) := by decide +kernel
theorem dX8_carry_0 : decode cX8_carry 0 = .ok (.aload_n 0, 1) := by decide +kernel
theorem dX8_carry_1 : decode cX8_carry 1 = .ok (.getfield 134, 3) := by decide +kernel
theorem dX8_carry_4 : decode cX8_carry 4 = .ok (.ifCond .eq 13, 3) := by decide +kernel
theorem dX8_carry_7 : decode cX8_carry 7 = .ok (.aload_n 0, 1) := by decide +kernel
theorem dX8_carry_8 : decode cX8_carry 8 = .ok (.getfield 138, 3) := by decide +kernel
theorem dX8_carry_11 : decode cX8_carry 11 = .ok (.aload_n 0, 1) := by decide +kernel
theorem dX8_carry_12 : decode cX8_carry 12 = .ok (.getfield 141, 3) := by decide +kernel
theorem dX8_carry_15 : decode cX8_carry 15 = .ok (.iload_n 1, 1) := by decide +kernel
theorem dX8_carry_16 : decode cX8_carry 16 = .ok (.iastore, 1) := by decide +kernel
theorem dX8_carry_17 : decode cX8_carry 17 = .ok (.aload_n 0, 1) := by decide +kernel
theorem dX8_carry_18 : decode cX8_carry 18 = .ok (.dup, 1) := by decide +kernel
theorem dX8_carry_19 : decode cX8_carry 19 = .ok (.getfield 141, 3) := by decide +kernel
theorem dX8_carry_22 : decode cX8_carry 22 = .ok (.iconst 1, 1) := by decide +kernel
theorem dX8_carry_23 : decode cX8_carry 23 = .ok (.iadd, 1) := by decide +kernel
theorem dX8_carry_24 : decode cX8_carry 24 = .ok (.putfield 141, 3) := by decide +kernel
theorem dX8_carry_27 : decode cX8_carry 27 = .ok (.aload_n 0, 1) := by decide +kernel
theorem dX8_carry_28 : decode cX8_carry 28 = .ok (.getfield 138, 3) := by decide +kernel
theorem dX8_carry_31 : decode cX8_carry 31 = .ok (.aload_n 0, 1) := by decide +kernel
theorem dX8_carry_32 : decode cX8_carry 32 = .ok (.getfield 141, 3) := by decide +kernel
theorem dX8_carry_35 : decode cX8_carry 35 = .ok (.iconst 1, 1) := by decide +kernel
theorem dX8_carry_36 : decode cX8_carry 36 = .ok (.isub, 1) := by decide +kernel
theorem dX8_carry_37 : decode cX8_carry 37 = .ok (.iaload, 1) := by decide +kernel
theorem dX8_carry_38 : decode cX8_carry 38 = .ok (.ireturn, 1) := by decide +kernel
theorem dX8_carryTold_0 : decode cX8_carryTold 0 = .ok (.aload_n 0, 1) := by decide +kernel
theorem dX8_carryTold_1 : decode cX8_carryTold 1 = .ok (.aload_n 0, 1) := by decide +kernel
theorem dX8_carryTold_2 : decode cX8_carryTold 2 = .ok (.aload_n 0, 1) := by decide +kernel
theorem dX8_carryTold_3 : decode cX8_carryTold 3 = .ok (.getfield 144, 3) := by decide +kernel
theorem dX8_carryTold_6 : decode cX8_carryTold 6 = .ok (.invokevirtual 147, 3) := by decide +kernel
theorem dX8_carryTold_9 : decode cX8_carryTold 9 = .ok (.putfield 144, 3) := by decide +kernel
theorem dX8_carryTold_12 : decode cX8_carryTold 12 = .ok (.aload_n 0, 1) := by decide +kernel
theorem dX8_carryTold_13 : decode cX8_carryTold 13 = .ok (.aload_n 0, 1) := by decide +kernel
theorem dX8_carryTold_14 : decode cX8_carryTold 14 = .ok (.aload_n 0, 1) := by decide +kernel
theorem dX8_carryTold_15 : decode cX8_carryTold 15 = .ok (.getfield 151, 3) := by decide +kernel
theorem dX8_carryTold_18 : decode cX8_carryTold 18 = .ok (.invokevirtual 147, 3) := by decide +kernel
theorem dX8_carryTold_21 : decode cX8_carryTold 21 = .ok (.putfield 151, 3) := by decide +kernel
theorem dX8_carryTold_24 : decode cX8_carryTold 24 = .ok (.aload_n 0, 1) := by decide +kernel
theorem dX8_carryTold_25 : decode cX8_carryTold 25 = .ok (.aload_n 0, 1) := by decide +kernel
theorem dX8_carryTold_26 : decode cX8_carryTold 26 = .ok (.aload_n 0, 1) := by decide +kernel
theorem dX8_carryTold_27 : decode cX8_carryTold 27 = .ok (.getfield 154, 3) := by decide +kernel
theorem dX8_carryTold_30 : decode cX8_carryTold 30 = .ok (.invokevirtual 147, 3) := by decide +kernel
theorem dX8_carryTold_33 : decode cX8_carryTold 33 = .ok (.putfield 154, 3) := by decide +kernel
theorem dX8_carryTold_36 : decode cX8_carryTold 36 = .ok (.iconst 0, 1) := by decide +kernel
theorem dX8_carryTold_37 : decode cX8_carryTold 37 = .ok (.istore_n 1, 1) := by decide +kernel
theorem dX8_carryTold_38 : decode cX8_carryTold 38 = .ok (.iload_n 1, 1) := by decide +kernel
theorem dX8_carryTold_39 : decode cX8_carryTold 39 = .ok (.iconst 5, 1) := by decide +kernel
theorem dX8_carryTold_40 : decode cX8_carryTold 40 = .ok (.if_icmp .ge 41, 3) := by decide +kernel
theorem dX8_carryTold_43 : decode cX8_carryTold 43 = .ok (.aload_n 0, 1) := by decide +kernel
theorem dX8_carryTold_44 : decode cX8_carryTold 44 = .ok (.getfield 56, 3) := by decide +kernel
theorem dX8_carryTold_47 : decode cX8_carryTold 47 = .ok (.iload_n 1, 1) := by decide +kernel
theorem dX8_carryTold_48 : decode cX8_carryTold 48 = .ok (.aload_n 0, 1) := by decide +kernel
theorem dX8_carryTold_49 : decode cX8_carryTold 49 = .ok (.aload_n 0, 1) := by decide +kernel
theorem dX8_carryTold_50 : decode cX8_carryTold 50 = .ok (.getfield 56, 3) := by decide +kernel
theorem dX8_carryTold_53 : decode cX8_carryTold 53 = .ok (.iload_n 1, 1) := by decide +kernel
theorem dX8_carryTold_54 : decode cX8_carryTold 54 = .ok (.iaload, 1) := by decide +kernel
theorem dX8_carryTold_55 : decode cX8_carryTold 55 = .ok (.invokevirtual 147, 3) := by decide +kernel
theorem dX8_carryTold_58 : decode cX8_carryTold 58 = .ok (.iastore, 1) := by decide +kernel
theorem dX8_carryTold_59 : decode cX8_carryTold 59 = .ok (.aload_n 0, 1) := by decide +kernel
theorem dX8_carryTold_60 : decode cX8_carryTold 60 = .ok (.getfield 59, 3) := by decide +kernel
theorem dX8_carryTold_63 : decode cX8_carryTold 63 = .ok (.iload_n 1, 1) := by decide +kernel
theorem dX8_carryTold_64 : decode cX8_carryTold 64 = .ok (.aload_n 0, 1) := by decide +kernel
theorem dX8_carryTold_65 : decode cX8_carryTold 65 = .ok (.aload_n 0, 1) := by decide +kernel
theorem dX8_carryTold_66 : decode cX8_carryTold 66 = .ok (.getfield 59, 3) := by decide +kernel
theorem dX8_carryTold_69 : decode cX8_carryTold 69 = .ok (.iload_n 1, 1) := by decide +kernel
theorem dX8_carryTold_70 : decode cX8_carryTold 70 = .ok (.iaload, 1) := by decide +kernel
theorem dX8_carryTold_71 : decode cX8_carryTold 71 = .ok (.invokevirtual 147, 3) := by decide +kernel
theorem dX8_carryTold_74 : decode cX8_carryTold 74 = .ok (.iastore, 1) := by decide +kernel
theorem dX8_carryTold_75 : decode cX8_carryTold 75 = .ok (.iinc 1 1, 3) := by decide +kernel
theorem dX8_carryTold_78 : decode cX8_carryTold 78 = .ok (.goto (-40), 3) := by decide +kernel
theorem dX8_carryTold_81 : decode cX8_carryTold 81 = .ok (.iconst 0, 1) := by decide +kernel
theorem dX8_carryTold_82 : decode cX8_carryTold 82 = .ok (.istore_n 1, 1) := by decide +kernel
theorem dX8_carryTold_83 : decode cX8_carryTold 83 = .ok (.iload_n 1, 1) := by decide +kernel
theorem dX8_carryTold_84 : decode cX8_carryTold 84 = .ok (.bipush 10, 2) := by decide +kernel
theorem dX8_carryTold_86 : decode cX8_carryTold 86 = .ok (.if_icmp .ge 41, 3) := by decide +kernel
theorem dX8_carryTold_89 : decode cX8_carryTold 89 = .ok (.aload_n 0, 1) := by decide +kernel
theorem dX8_carryTold_90 : decode cX8_carryTold 90 = .ok (.getfield 62, 3) := by decide +kernel
theorem dX8_carryTold_93 : decode cX8_carryTold 93 = .ok (.iload_n 1, 1) := by decide +kernel
theorem dX8_carryTold_94 : decode cX8_carryTold 94 = .ok (.aload_n 0, 1) := by decide +kernel
theorem dX8_carryTold_95 : decode cX8_carryTold 95 = .ok (.aload_n 0, 1) := by decide +kernel
theorem dX8_carryTold_96 : decode cX8_carryTold 96 = .ok (.getfield 62, 3) := by decide +kernel
theorem dX8_carryTold_99 : decode cX8_carryTold 99 = .ok (.iload_n 1, 1) := by decide +kernel
theorem dX8_carryTold_100 : decode cX8_carryTold 100 = .ok (.iaload, 1) := by decide +kernel
theorem dX8_carryTold_101 : decode cX8_carryTold 101 = .ok (.invokevirtual 147, 3) := by decide +kernel
theorem dX8_carryTold_104 : decode cX8_carryTold 104 = .ok (.iastore, 1) := by decide +kernel
theorem dX8_carryTold_105 : decode cX8_carryTold 105 = .ok (.aload_n 0, 1) := by decide +kernel
theorem dX8_carryTold_106 : decode cX8_carryTold 106 = .ok (.getfield 65, 3) := by decide +kernel
theorem dX8_carryTold_109 : decode cX8_carryTold 109 = .ok (.iload_n 1, 1) := by decide +kernel
theorem dX8_carryTold_110 : decode cX8_carryTold 110 = .ok (.aload_n 0, 1) := by decide +kernel
theorem dX8_carryTold_111 : decode cX8_carryTold 111 = .ok (.aload_n 0, 1) := by decide +kernel
theorem dX8_carryTold_112 : decode cX8_carryTold 112 = .ok (.getfield 65, 3) := by decide +kernel
theorem dX8_carryTold_115 : decode cX8_carryTold 115 = .ok (.iload_n 1, 1) := by decide +kernel
theorem dX8_carryTold_116 : decode cX8_carryTold 116 = .ok (.iaload, 1) := by decide +kernel
theorem dX8_carryTold_117 : decode cX8_carryTold 117 = .ok (.invokevirtual 147, 3) := by decide +kernel
theorem dX8_carryTold_120 : decode cX8_carryTold 120 = .ok (.iastore, 1) := by decide +kernel
theorem dX8_carryTold_121 : decode cX8_carryTold 121 = .ok (.iinc 1 1, 3) := by decide +kernel
theorem dX8_carryTold_124 : decode cX8_carryTold 124 = .ok (.goto (-41), 3) := by decide +kernel
theorem dX8_carryTold_127 : decode cX8_carryTold 127 = .ok (.iconst 0, 1) := by decide +kernel
theorem dX8_carryTold_128 : decode cX8_carryTold 128 = .ok (.istore_n 1, 1) := by decide +kernel
theorem dX8_carryTold_129 : decode cX8_carryTold 129 = .ok (.iload_n 1, 1) := by decide +kernel
theorem dX8_carryTold_130 : decode cX8_carryTold 130 = .ok (.bipush 8, 2) := by decide +kernel
theorem dX8_carryTold_132 : decode cX8_carryTold 132 = .ok (.if_icmp .ge 41, 3) := by decide +kernel
theorem dX8_carryTold_135 : decode cX8_carryTold 135 = .ok (.aload_n 0, 1) := by decide +kernel
theorem dX8_carryTold_136 : decode cX8_carryTold 136 = .ok (.getfield 68, 3) := by decide +kernel
theorem dX8_carryTold_139 : decode cX8_carryTold 139 = .ok (.iload_n 1, 1) := by decide +kernel
theorem dX8_carryTold_140 : decode cX8_carryTold 140 = .ok (.aload_n 0, 1) := by decide +kernel
theorem dX8_carryTold_141 : decode cX8_carryTold 141 = .ok (.aload_n 0, 1) := by decide +kernel
theorem dX8_carryTold_142 : decode cX8_carryTold 142 = .ok (.getfield 68, 3) := by decide +kernel
theorem dX8_carryTold_145 : decode cX8_carryTold 145 = .ok (.iload_n 1, 1) := by decide +kernel
theorem dX8_carryTold_146 : decode cX8_carryTold 146 = .ok (.iaload, 1) := by decide +kernel
theorem dX8_carryTold_147 : decode cX8_carryTold 147 = .ok (.invokevirtual 147, 3) := by decide +kernel
theorem dX8_carryTold_150 : decode cX8_carryTold 150 = .ok (.iastore, 1) := by decide +kernel
theorem dX8_carryTold_151 : decode cX8_carryTold 151 = .ok (.aload_n 0, 1) := by decide +kernel
theorem dX8_carryTold_152 : decode cX8_carryTold 152 = .ok (.getfield 71, 3) := by decide +kernel
theorem dX8_carryTold_155 : decode cX8_carryTold 155 = .ok (.iload_n 1, 1) := by decide +kernel
theorem dX8_carryTold_156 : decode cX8_carryTold 156 = .ok (.aload_n 0, 1) := by decide +kernel
theorem dX8_carryTold_157 : decode cX8_carryTold 157 = .ok (.aload_n 0, 1) := by decide +kernel
theorem dX8_carryTold_158 : decode cX8_carryTold 158 = .ok (.getfield 71, 3) := by decide +kernel
theorem dX8_carryTold_161 : decode cX8_carryTold 161 = .ok (.iload_n 1, 1) := by decide +kernel
theorem dX8_carryTold_162 : decode cX8_carryTold 162 = .ok (.iaload, 1) := by decide +kernel
theorem dX8_carryTold_163 : decode cX8_carryTold 163 = .ok (.invokevirtual 147, 3) := by decide +kernel
theorem dX8_carryTold_166 : decode cX8_carryTold 166 = .ok (.iastore, 1) := by decide +kernel
theorem dX8_carryTold_167 : decode cX8_carryTold 167 = .ok (.iinc 1 1, 3) := by decide +kernel
theorem dX8_carryTold_170 : decode cX8_carryTold 170 = .ok (.goto (-41), 3) := by decide +kernel
theorem dX8_carryTold_173 : decode cX8_carryTold 173 = .ok (.return_, 1) := by decide +kernel
theorem dX8_carryAll_0 : decode cX8_carryAll 0 = .ok (.aload_n 0, 1) := by decide +kernel
theorem dX8_carryAll_1 : decode cX8_carryAll 1 = .ok (.aload_n 1, 1) := by decide +kernel
theorem dX8_carryAll_2 : decode cX8_carryAll 2 = .ok (.putfield 138, 3) := by decide +kernel
theorem dX8_carryAll_5 : decode cX8_carryAll 5 = .ok (.aload_n 0, 1) := by decide +kernel
theorem dX8_carryAll_6 : decode cX8_carryAll 6 = .ok (.iload_n 2, 1) := by decide +kernel
theorem dX8_carryAll_7 : decode cX8_carryAll 7 = .ok (.putfield 134, 3) := by decide +kernel
theorem dX8_carryAll_10 : decode cX8_carryAll 10 = .ok (.aload_n 0, 1) := by decide +kernel
theorem dX8_carryAll_11 : decode cX8_carryAll 11 = .ok (.iconst 0, 1) := by decide +kernel
theorem dX8_carryAll_12 : decode cX8_carryAll 12 = .ok (.putfield 141, 3) := by decide +kernel
theorem dX8_carryAll_15 : decode cX8_carryAll 15 = .ok (.aload_n 0, 1) := by decide +kernel
theorem dX8_carryAll_16 : decode cX8_carryAll 16 = .ok (.aload_n 0, 1) := by decide +kernel
theorem dX8_carryAll_17 : decode cX8_carryAll 17 = .ok (.aload_n 0, 1) := by decide +kernel
theorem dX8_carryAll_18 : decode cX8_carryAll 18 = .ok (.getfield 7, 3) := by decide +kernel
theorem dX8_carryAll_21 : decode cX8_carryAll 21 = .ok (.invokevirtual 147, 3) := by decide +kernel
theorem dX8_carryAll_24 : decode cX8_carryAll 24 = .ok (.putfield 7, 3) := by decide +kernel
theorem dX8_carryAll_27 : decode cX8_carryAll 27 = .ok (.aload_n 0, 1) := by decide +kernel
theorem dX8_carryAll_28 : decode cX8_carryAll 28 = .ok (.aload_n 0, 1) := by decide +kernel
theorem dX8_carryAll_29 : decode cX8_carryAll 29 = .ok (.aload_n 0, 1) := by decide +kernel
theorem dX8_carryAll_30 : decode cX8_carryAll 30 = .ok (.getfield 127, 3) := by decide +kernel
theorem dX8_carryAll_33 : decode cX8_carryAll 33 = .ok (.invokevirtual 147, 3) := by decide +kernel
theorem dX8_carryAll_36 : decode cX8_carryAll 36 = .ok (.putfield 127, 3) := by decide +kernel
theorem dX8_carryAll_39 : decode cX8_carryAll 39 = .ok (.aload_n 0, 1) := by decide +kernel
theorem dX8_carryAll_40 : decode cX8_carryAll 40 = .ok (.aload_n 0, 1) := by decide +kernel
theorem dX8_carryAll_41 : decode cX8_carryAll 41 = .ok (.aload_n 0, 1) := by decide +kernel
theorem dX8_carryAll_42 : decode cX8_carryAll 42 = .ok (.getfield 50, 3) := by decide +kernel
theorem dX8_carryAll_45 : decode cX8_carryAll 45 = .ok (.invokevirtual 147, 3) := by decide +kernel
theorem dX8_carryAll_48 : decode cX8_carryAll 48 = .ok (.putfield 50, 3) := by decide +kernel
theorem dX8_carryAll_51 : decode cX8_carryAll 51 = .ok (.aload_n 0, 1) := by decide +kernel
theorem dX8_carryAll_52 : decode cX8_carryAll 52 = .ok (.aload_n 0, 1) := by decide +kernel
theorem dX8_carryAll_53 : decode cX8_carryAll 53 = .ok (.aload_n 0, 1) := by decide +kernel
theorem dX8_carryAll_54 : decode cX8_carryAll 54 = .ok (.getfield 157, 3) := by decide +kernel
theorem dX8_carryAll_57 : decode cX8_carryAll 57 = .ok (.invokevirtual 147, 3) := by decide +kernel
theorem dX8_carryAll_60 : decode cX8_carryAll 60 = .ok (.putfield 157, 3) := by decide +kernel
theorem dX8_carryAll_63 : decode cX8_carryAll 63 = .ok (.aload_n 0, 1) := by decide +kernel
theorem dX8_carryAll_64 : decode cX8_carryAll 64 = .ok (.aload_n 0, 1) := by decide +kernel
theorem dX8_carryAll_65 : decode cX8_carryAll 65 = .ok (.aload_n 0, 1) := by decide +kernel
theorem dX8_carryAll_66 : decode cX8_carryAll 66 = .ok (.getfield 160, 3) := by decide +kernel
theorem dX8_carryAll_69 : decode cX8_carryAll 69 = .ok (.invokevirtual 147, 3) := by decide +kernel
theorem dX8_carryAll_72 : decode cX8_carryAll 72 = .ok (.putfield 160, 3) := by decide +kernel
theorem dX8_carryAll_75 : decode cX8_carryAll 75 = .ok (.iconst 0, 1) := by decide +kernel
theorem dX8_carryAll_76 : decode cX8_carryAll 76 = .ok (.istore_n 3, 1) := by decide +kernel
theorem dX8_carryAll_77 : decode cX8_carryAll 77 = .ok (.iload_n 3, 1) := by decide +kernel
theorem dX8_carryAll_78 : decode cX8_carryAll 78 = .ok (.iconst 4, 1) := by decide +kernel
theorem dX8_carryAll_79 : decode cX8_carryAll 79 = .ok (.if_icmp .ge 73, 3) := by decide +kernel
theorem dX8_carryAll_82 : decode cX8_carryAll 82 = .ok (.aload_n 0, 1) := by decide +kernel
theorem dX8_carryAll_83 : decode cX8_carryAll 83 = .ok (.getfield 13, 3) := by decide +kernel
theorem dX8_carryAll_86 : decode cX8_carryAll 86 = .ok (.iload_n 3, 1) := by decide +kernel
theorem dX8_carryAll_87 : decode cX8_carryAll 87 = .ok (.aload_n 0, 1) := by decide +kernel
theorem dX8_carryAll_88 : decode cX8_carryAll 88 = .ok (.aload_n 0, 1) := by decide +kernel
theorem dX8_carryAll_89 : decode cX8_carryAll 89 = .ok (.getfield 13, 3) := by decide +kernel
theorem dX8_carryAll_92 : decode cX8_carryAll 92 = .ok (.iload_n 3, 1) := by decide +kernel
theorem dX8_carryAll_93 : decode cX8_carryAll 93 = .ok (.iaload, 1) := by decide +kernel
theorem dX8_carryAll_94 : decode cX8_carryAll 94 = .ok (.invokevirtual 147, 3) := by decide +kernel
theorem dX8_carryAll_97 : decode cX8_carryAll 97 = .ok (.iastore, 1) := by decide +kernel
theorem dX8_carryAll_98 : decode cX8_carryAll 98 = .ok (.aload_n 0, 1) := by decide +kernel
theorem dX8_carryAll_99 : decode cX8_carryAll 99 = .ok (.getfield 20, 3) := by decide +kernel
theorem dX8_carryAll_102 : decode cX8_carryAll 102 = .ok (.iload_n 3, 1) := by decide +kernel
theorem dX8_carryAll_103 : decode cX8_carryAll 103 = .ok (.aload_n 0, 1) := by decide +kernel
theorem dX8_carryAll_104 : decode cX8_carryAll 104 = .ok (.aload_n 0, 1) := by decide +kernel
theorem dX8_carryAll_105 : decode cX8_carryAll 105 = .ok (.getfield 20, 3) := by decide +kernel
theorem dX8_carryAll_108 : decode cX8_carryAll 108 = .ok (.iload_n 3, 1) := by decide +kernel
theorem dX8_carryAll_109 : decode cX8_carryAll 109 = .ok (.iaload, 1) := by decide +kernel
theorem dX8_carryAll_110 : decode cX8_carryAll 110 = .ok (.invokevirtual 147, 3) := by decide +kernel
theorem dX8_carryAll_113 : decode cX8_carryAll 113 = .ok (.iastore, 1) := by decide +kernel
theorem dX8_carryAll_114 : decode cX8_carryAll 114 = .ok (.aload_n 0, 1) := by decide +kernel
theorem dX8_carryAll_115 : decode cX8_carryAll 115 = .ok (.getfield 23, 3) := by decide +kernel
theorem dX8_carryAll_118 : decode cX8_carryAll 118 = .ok (.iload_n 3, 1) := by decide +kernel
theorem dX8_carryAll_119 : decode cX8_carryAll 119 = .ok (.aload_n 0, 1) := by decide +kernel
theorem dX8_carryAll_120 : decode cX8_carryAll 120 = .ok (.aload_n 0, 1) := by decide +kernel
theorem dX8_carryAll_121 : decode cX8_carryAll 121 = .ok (.getfield 23, 3) := by decide +kernel
theorem dX8_carryAll_124 : decode cX8_carryAll 124 = .ok (.iload_n 3, 1) := by decide +kernel
theorem dX8_carryAll_125 : decode cX8_carryAll 125 = .ok (.iaload, 1) := by decide +kernel
theorem dX8_carryAll_126 : decode cX8_carryAll 126 = .ok (.invokevirtual 147, 3) := by decide +kernel
theorem dX8_carryAll_129 : decode cX8_carryAll 129 = .ok (.iastore, 1) := by decide +kernel
theorem dX8_carryAll_130 : decode cX8_carryAll 130 = .ok (.aload_n 0, 1) := by decide +kernel
theorem dX8_carryAll_131 : decode cX8_carryAll 131 = .ok (.getfield 26, 3) := by decide +kernel
theorem dX8_carryAll_134 : decode cX8_carryAll 134 = .ok (.iload_n 3, 1) := by decide +kernel
theorem dX8_carryAll_135 : decode cX8_carryAll 135 = .ok (.aload_n 0, 1) := by decide +kernel
theorem dX8_carryAll_136 : decode cX8_carryAll 136 = .ok (.aload_n 0, 1) := by decide +kernel
theorem dX8_carryAll_137 : decode cX8_carryAll 137 = .ok (.getfield 26, 3) := by decide +kernel
theorem dX8_carryAll_140 : decode cX8_carryAll 140 = .ok (.iload_n 3, 1) := by decide +kernel
theorem dX8_carryAll_141 : decode cX8_carryAll 141 = .ok (.iaload, 1) := by decide +kernel
theorem dX8_carryAll_142 : decode cX8_carryAll 142 = .ok (.invokevirtual 147, 3) := by decide +kernel
theorem dX8_carryAll_145 : decode cX8_carryAll 145 = .ok (.iastore, 1) := by decide +kernel
theorem dX8_carryAll_146 : decode cX8_carryAll 146 = .ok (.iinc 3 1, 3) := by decide +kernel
theorem dX8_carryAll_149 : decode cX8_carryAll 149 = .ok (.goto (-72), 3) := by decide +kernel
theorem dX8_carryAll_152 : decode cX8_carryAll 152 = .ok (.iconst 0, 1) := by decide +kernel
theorem dX8_carryAll_153 : decode cX8_carryAll 153 = .ok (.istore_n 3, 1) := by decide +kernel
theorem dX8_carryAll_154 : decode cX8_carryAll 154 = .ok (.iload_n 3, 1) := by decide +kernel
theorem dX8_carryAll_155 : decode cX8_carryAll 155 = .ok (.sipush 128, 3) := by decide +kernel
theorem dX8_carryAll_158 : decode cX8_carryAll 158 = .ok (.if_icmp .ge 25, 3) := by decide +kernel
theorem dX8_carryAll_161 : decode cX8_carryAll 161 = .ok (.aload_n 0, 1) := by decide +kernel
theorem dX8_carryAll_162 : decode cX8_carryAll 162 = .ok (.getfield 17, 3) := by decide +kernel
theorem dX8_carryAll_165 : decode cX8_carryAll 165 = .ok (.iload_n 3, 1) := by decide +kernel
theorem dX8_carryAll_166 : decode cX8_carryAll 166 = .ok (.aload_n 0, 1) := by decide +kernel
theorem dX8_carryAll_167 : decode cX8_carryAll 167 = .ok (.aload_n 0, 1) := by decide +kernel
theorem dX8_carryAll_168 : decode cX8_carryAll 168 = .ok (.getfield 17, 3) := by decide +kernel
theorem dX8_carryAll_171 : decode cX8_carryAll 171 = .ok (.iload_n 3, 1) := by decide +kernel
theorem dX8_carryAll_172 : decode cX8_carryAll 172 = .ok (.iaload, 1) := by decide +kernel
theorem dX8_carryAll_173 : decode cX8_carryAll 173 = .ok (.invokevirtual 147, 3) := by decide +kernel
theorem dX8_carryAll_176 : decode cX8_carryAll 176 = .ok (.iastore, 1) := by decide +kernel
theorem dX8_carryAll_177 : decode cX8_carryAll 177 = .ok (.iinc 3 1, 3) := by decide +kernel
theorem dX8_carryAll_180 : decode cX8_carryAll 180 = .ok (.goto (-26), 3) := by decide +kernel
theorem dX8_carryAll_183 : decode cX8_carryAll 183 = .ok (.iconst 0, 1) := by decide +kernel
theorem dX8_carryAll_184 : decode cX8_carryAll 184 = .ok (.istore_n 3, 1) := by decide +kernel
theorem dX8_carryAll_185 : decode cX8_carryAll 185 = .ok (.iload_n 3, 1) := by decide +kernel
theorem dX8_carryAll_186 : decode cX8_carryAll 186 = .ok (.bipush 32, 2) := by decide +kernel
theorem dX8_carryAll_188 : decode cX8_carryAll 188 = .ok (.if_icmp .ge 121, 3) := by decide +kernel
theorem dX8_carryAll_191 : decode cX8_carryAll 191 = .ok (.aload_n 0, 1) := by decide +kernel
theorem dX8_carryAll_192 : decode cX8_carryAll 192 = .ok (.getfield 29, 3) := by decide +kernel
theorem dX8_carryAll_195 : decode cX8_carryAll 195 = .ok (.iload_n 3, 1) := by decide +kernel
theorem dX8_carryAll_196 : decode cX8_carryAll 196 = .ok (.aload_n 0, 1) := by decide +kernel
theorem dX8_carryAll_197 : decode cX8_carryAll 197 = .ok (.aload_n 0, 1) := by decide +kernel
theorem dX8_carryAll_198 : decode cX8_carryAll 198 = .ok (.getfield 29, 3) := by decide +kernel
theorem dX8_carryAll_201 : decode cX8_carryAll 201 = .ok (.iload_n 3, 1) := by decide +kernel
theorem dX8_carryAll_202 : decode cX8_carryAll 202 = .ok (.iaload, 1) := by decide +kernel
theorem dX8_carryAll_203 : decode cX8_carryAll 203 = .ok (.invokevirtual 147, 3) := by decide +kernel
theorem dX8_carryAll_206 : decode cX8_carryAll 206 = .ok (.iastore, 1) := by decide +kernel
theorem dX8_carryAll_207 : decode cX8_carryAll 207 = .ok (.aload_n 0, 1) := by decide +kernel
theorem dX8_carryAll_208 : decode cX8_carryAll 208 = .ok (.getfield 32, 3) := by decide +kernel
theorem dX8_carryAll_211 : decode cX8_carryAll 211 = .ok (.iload_n 3, 1) := by decide +kernel
theorem dX8_carryAll_212 : decode cX8_carryAll 212 = .ok (.aload_n 0, 1) := by decide +kernel
theorem dX8_carryAll_213 : decode cX8_carryAll 213 = .ok (.aload_n 0, 1) := by decide +kernel
theorem dX8_carryAll_214 : decode cX8_carryAll 214 = .ok (.getfield 32, 3) := by decide +kernel
theorem dX8_carryAll_217 : decode cX8_carryAll 217 = .ok (.iload_n 3, 1) := by decide +kernel
theorem dX8_carryAll_218 : decode cX8_carryAll 218 = .ok (.iaload, 1) := by decide +kernel
theorem dX8_carryAll_219 : decode cX8_carryAll 219 = .ok (.invokevirtual 147, 3) := by decide +kernel
theorem dX8_carryAll_222 : decode cX8_carryAll 222 = .ok (.iastore, 1) := by decide +kernel
theorem dX8_carryAll_223 : decode cX8_carryAll 223 = .ok (.aload_n 0, 1) := by decide +kernel
theorem dX8_carryAll_224 : decode cX8_carryAll 224 = .ok (.getfield 35, 3) := by decide +kernel
theorem dX8_carryAll_227 : decode cX8_carryAll 227 = .ok (.iload_n 3, 1) := by decide +kernel
theorem dX8_carryAll_228 : decode cX8_carryAll 228 = .ok (.aload_n 0, 1) := by decide +kernel
theorem dX8_carryAll_229 : decode cX8_carryAll 229 = .ok (.aload_n 0, 1) := by decide +kernel
theorem dX8_carryAll_230 : decode cX8_carryAll 230 = .ok (.getfield 35, 3) := by decide +kernel
theorem dX8_carryAll_233 : decode cX8_carryAll 233 = .ok (.iload_n 3, 1) := by decide +kernel
theorem dX8_carryAll_234 : decode cX8_carryAll 234 = .ok (.iaload, 1) := by decide +kernel
theorem dX8_carryAll_235 : decode cX8_carryAll 235 = .ok (.invokevirtual 147, 3) := by decide +kernel
theorem dX8_carryAll_238 : decode cX8_carryAll 238 = .ok (.iastore, 1) := by decide +kernel
theorem dX8_carryAll_239 : decode cX8_carryAll 239 = .ok (.aload_n 0, 1) := by decide +kernel
theorem dX8_carryAll_240 : decode cX8_carryAll 240 = .ok (.getfield 38, 3) := by decide +kernel
theorem dX8_carryAll_243 : decode cX8_carryAll 243 = .ok (.iload_n 3, 1) := by decide +kernel
theorem dX8_carryAll_244 : decode cX8_carryAll 244 = .ok (.aload_n 0, 1) := by decide +kernel
theorem dX8_carryAll_245 : decode cX8_carryAll 245 = .ok (.aload_n 0, 1) := by decide +kernel
theorem dX8_carryAll_246 : decode cX8_carryAll 246 = .ok (.getfield 38, 3) := by decide +kernel
theorem dX8_carryAll_249 : decode cX8_carryAll 249 = .ok (.iload_n 3, 1) := by decide +kernel
theorem dX8_carryAll_250 : decode cX8_carryAll 250 = .ok (.iaload, 1) := by decide +kernel
theorem dX8_carryAll_251 : decode cX8_carryAll 251 = .ok (.invokevirtual 147, 3) := by decide +kernel
theorem dX8_carryAll_254 : decode cX8_carryAll 254 = .ok (.iastore, 1) := by decide +kernel
theorem dX8_carryAll_255 : decode cX8_carryAll 255 = .ok (.aload_n 0, 1) := by decide +kernel
theorem dX8_carryAll_256 : decode cX8_carryAll 256 = .ok (.getfield 41, 3) := by decide +kernel
theorem dX8_carryAll_259 : decode cX8_carryAll 259 = .ok (.iload_n 3, 1) := by decide +kernel
theorem dX8_carryAll_260 : decode cX8_carryAll 260 = .ok (.aload_n 0, 1) := by decide +kernel
theorem dX8_carryAll_261 : decode cX8_carryAll 261 = .ok (.aload_n 0, 1) := by decide +kernel
theorem dX8_carryAll_262 : decode cX8_carryAll 262 = .ok (.getfield 41, 3) := by decide +kernel
theorem dX8_carryAll_265 : decode cX8_carryAll 265 = .ok (.iload_n 3, 1) := by decide +kernel
theorem dX8_carryAll_266 : decode cX8_carryAll 266 = .ok (.iaload, 1) := by decide +kernel
theorem dX8_carryAll_267 : decode cX8_carryAll 267 = .ok (.invokevirtual 147, 3) := by decide +kernel
theorem dX8_carryAll_270 : decode cX8_carryAll 270 = .ok (.iastore, 1) := by decide +kernel
theorem dX8_carryAll_271 : decode cX8_carryAll 271 = .ok (.aload_n 0, 1) := by decide +kernel
theorem dX8_carryAll_272 : decode cX8_carryAll 272 = .ok (.getfield 44, 3) := by decide +kernel
theorem dX8_carryAll_275 : decode cX8_carryAll 275 = .ok (.iload_n 3, 1) := by decide +kernel
theorem dX8_carryAll_276 : decode cX8_carryAll 276 = .ok (.aload_n 0, 1) := by decide +kernel
theorem dX8_carryAll_277 : decode cX8_carryAll 277 = .ok (.aload_n 0, 1) := by decide +kernel
theorem dX8_carryAll_278 : decode cX8_carryAll 278 = .ok (.getfield 44, 3) := by decide +kernel
theorem dX8_carryAll_281 : decode cX8_carryAll 281 = .ok (.iload_n 3, 1) := by decide +kernel
theorem dX8_carryAll_282 : decode cX8_carryAll 282 = .ok (.iaload, 1) := by decide +kernel
theorem dX8_carryAll_283 : decode cX8_carryAll 283 = .ok (.invokevirtual 147, 3) := by decide +kernel
theorem dX8_carryAll_286 : decode cX8_carryAll 286 = .ok (.iastore, 1) := by decide +kernel
theorem dX8_carryAll_287 : decode cX8_carryAll 287 = .ok (.aload_n 0, 1) := by decide +kernel
theorem dX8_carryAll_288 : decode cX8_carryAll 288 = .ok (.getfield 47, 3) := by decide +kernel
theorem dX8_carryAll_291 : decode cX8_carryAll 291 = .ok (.iload_n 3, 1) := by decide +kernel
theorem dX8_carryAll_292 : decode cX8_carryAll 292 = .ok (.aload_n 0, 1) := by decide +kernel
theorem dX8_carryAll_293 : decode cX8_carryAll 293 = .ok (.aload_n 0, 1) := by decide +kernel
theorem dX8_carryAll_294 : decode cX8_carryAll 294 = .ok (.getfield 47, 3) := by decide +kernel
theorem dX8_carryAll_297 : decode cX8_carryAll 297 = .ok (.iload_n 3, 1) := by decide +kernel
theorem dX8_carryAll_298 : decode cX8_carryAll 298 = .ok (.iaload, 1) := by decide +kernel
theorem dX8_carryAll_299 : decode cX8_carryAll 299 = .ok (.invokevirtual 147, 3) := by decide +kernel
theorem dX8_carryAll_302 : decode cX8_carryAll 302 = .ok (.iastore, 1) := by decide +kernel
theorem dX8_carryAll_303 : decode cX8_carryAll 303 = .ok (.iinc 3 1, 3) := by decide +kernel
theorem dX8_carryAll_306 : decode cX8_carryAll 306 = .ok (.goto (-121), 3) := by decide +kernel
theorem dX8_carryAll_309 : decode cX8_carryAll 309 = .ok (.iconst 0, 1) := by decide +kernel
theorem dX8_carryAll_310 : decode cX8_carryAll 310 = .ok (.istore_n 3, 1) := by decide +kernel
theorem dX8_carryAll_311 : decode cX8_carryAll 311 = .ok (.iload_n 3, 1) := by decide +kernel
theorem dX8_carryAll_312 : decode cX8_carryAll 312 = .ok (.sipush 160, 3) := by decide +kernel
theorem dX8_carryAll_315 : decode cX8_carryAll 315 = .ok (.if_icmp .ge 25, 3) := by decide +kernel
theorem dX8_carryAll_318 : decode cX8_carryAll 318 = .ok (.aload_n 0, 1) := by decide +kernel
theorem dX8_carryAll_319 : decode cX8_carryAll 319 = .ok (.getfield 53, 3) := by decide +kernel
theorem dX8_carryAll_322 : decode cX8_carryAll 322 = .ok (.iload_n 3, 1) := by decide +kernel
theorem dX8_carryAll_323 : decode cX8_carryAll 323 = .ok (.aload_n 0, 1) := by decide +kernel
theorem dX8_carryAll_324 : decode cX8_carryAll 324 = .ok (.aload_n 0, 1) := by decide +kernel
theorem dX8_carryAll_325 : decode cX8_carryAll 325 = .ok (.getfield 53, 3) := by decide +kernel
theorem dX8_carryAll_328 : decode cX8_carryAll 328 = .ok (.iload_n 3, 1) := by decide +kernel
theorem dX8_carryAll_329 : decode cX8_carryAll 329 = .ok (.iaload, 1) := by decide +kernel
theorem dX8_carryAll_330 : decode cX8_carryAll 330 = .ok (.invokevirtual 147, 3) := by decide +kernel
theorem dX8_carryAll_333 : decode cX8_carryAll 333 = .ok (.iastore, 1) := by decide +kernel
theorem dX8_carryAll_334 : decode cX8_carryAll 334 = .ok (.iinc 3 1, 3) := by decide +kernel
theorem dX8_carryAll_337 : decode cX8_carryAll 337 = .ok (.goto (-26), 3) := by decide +kernel
theorem dX8_carryAll_340 : decode cX8_carryAll 340 = .ok (.aload_n 0, 1) := by decide +kernel
theorem dX8_carryAll_341 : decode cX8_carryAll 341 = .ok (.invokevirtual 163, 3) := by decide +kernel
theorem dX8_carryAll_344 : decode cX8_carryAll 344 = .ok (.return_, 1) := by decide +kernel
theorem dX8_open_0 : decode cX8_open 0 = .ok (.aload_n 0, 1) := by decide +kernel
theorem dX8_open_1 : decode cX8_open 1 = .ok (.aload_n 0, 1) := by decide +kernel
theorem dX8_open_2 : decode cX8_open 2 = .ok (.getfield 74, 3) := by decide +kernel
theorem dX8_open_5 : decode cX8_open 5 = .ok (.iconst 1, 1) := by decide +kernel
theorem dX8_open_6 : decode cX8_open 6 = .ok (.invokevirtual 166, 3) := by decide +kernel
theorem dX8_open_9 : decode cX8_open 9 = .ok (.return_, 1) := by decide +kernel
theorem dX8_again_0 : decode cX8_again 0 = .ok (.aload_n 0, 1) := by decide +kernel
theorem dX8_again_1 : decode cX8_again 1 = .ok (.aload_n 0, 1) := by decide +kernel
theorem dX8_again_2 : decode cX8_again 2 = .ok (.getfield 74, 3) := by decide +kernel
theorem dX8_again_5 : decode cX8_again 5 = .ok (.iconst 0, 1) := by decide +kernel
theorem dX8_again_6 : decode cX8_again 6 = .ok (.invokevirtual 166, 3) := by decide +kernel
theorem dX8_again_9 : decode cX8_again 9 = .ok (.return_, 1) := by decide +kernel
theorem dX8_image_0 : decode cX8_image 0 = .ok (.aload_n 0, 1) := by decide +kernel
theorem dX8_image_1 : decode cX8_image 1 = .ok (.iconst 0, 1) := by decide +kernel
theorem dX8_image_2 : decode cX8_image 2 = .ok (.putfield 124, 3) := by decide +kernel
theorem dX8_image_5 : decode cX8_image 5 = .ok (.aload_n 0, 1) := by decide +kernel
theorem dX8_image_6 : decode cX8_image 6 = .ok (.iconst 1, 1) := by decide +kernel
theorem dX8_image_7 : decode cX8_image 7 = .ok (.putfield 170, 3) := by decide +kernel
theorem dX8_image_10 : decode cX8_image 10 = .ok (.aload_n 0, 1) := by decide +kernel
theorem dX8_image_11 : decode cX8_image 11 = .ok (.aload_n 0, 1) := by decide +kernel
theorem dX8_image_12 : decode cX8_image 12 = .ok (.getfield 77, 3) := by decide +kernel
theorem dX8_image_15 : decode cX8_image 15 = .ok (.iconst 1, 1) := by decide +kernel
theorem dX8_image_16 : decode cX8_image 16 = .ok (.invokevirtual 166, 3) := by decide +kernel
theorem dX8_image_19 : decode cX8_image 19 = .ok (.aload_n 0, 1) := by decide +kernel
theorem dX8_image_20 : decode cX8_image 20 = .ok (.getfield 127, 3) := by decide +kernel
theorem dX8_image_23 : decode cX8_image 23 = .ok (.ireturn, 1) := by decide +kernel
theorem dX8_undo_0 : decode cX8_undo 0 = .ok (.aload_n 0, 1) := by decide +kernel
theorem dX8_undo_1 : decode cX8_undo 1 = .ok (.iconst 0, 1) := by decide +kernel
theorem dX8_undo_2 : decode cX8_undo 2 = .ok (.putfield 124, 3) := by decide +kernel
theorem dX8_undo_5 : decode cX8_undo 5 = .ok (.aload_n 0, 1) := by decide +kernel
theorem dX8_undo_6 : decode cX8_undo 6 = .ok (.getfield 170, 3) := by decide +kernel
theorem dX8_undo_9 : decode cX8_undo 9 = .ok (.ifCond .ne 6, 3) := by decide +kernel
theorem dX8_undo_12 : decode cX8_undo 12 = .ok (.bipush (-3), 2) := by decide +kernel
theorem dX8_undo_14 : decode cX8_undo 14 = .ok (.ireturn, 1) := by decide +kernel
theorem dX8_undo_15 : decode cX8_undo 15 = .ok (.aload_n 0, 1) := by decide +kernel
theorem dX8_undo_16 : decode cX8_undo 16 = .ok (.aload_n 0, 1) := by decide +kernel
theorem dX8_undo_17 : decode cX8_undo 17 = .ok (.getfield 77, 3) := by decide +kernel
theorem dX8_undo_20 : decode cX8_undo 20 = .ok (.iconst 0, 1) := by decide +kernel
theorem dX8_undo_21 : decode cX8_undo 21 = .ok (.invokevirtual 166, 3) := by decide +kernel
theorem dX8_undo_24 : decode cX8_undo 24 = .ok (.aload_n 0, 1) := by decide +kernel
theorem dX8_undo_25 : decode cX8_undo 25 = .ok (.getfield 127, 3) := by decide +kernel
theorem dX8_undo_28 : decode cX8_undo 28 = .ok (.ireturn, 1) := by decide +kernel
theorem dX8_looksAt_0 : decode cX8_looksAt 0 = .ok (.iconst 0, 1) := by decide +kernel
theorem dX8_looksAt_1 : decode cX8_looksAt 1 = .ok (.istore_n 2, 1) := by decide +kernel
theorem dX8_looksAt_2 : decode cX8_looksAt 2 = .ok (.iload_n 2, 1) := by decide +kernel
theorem dX8_looksAt_3 : decode cX8_looksAt 3 = .ok (.aload_n 0, 1) := by decide +kernel
theorem dX8_looksAt_4 : decode cX8_looksAt 4 = .ok (.getfield 144, 3) := by decide +kernel
theorem dX8_looksAt_7 : decode cX8_looksAt 7 = .ok (.if_icmp .ge 48, 3) := by decide +kernel
theorem dX8_looksAt_10 : decode cX8_looksAt 10 = .ok (.aload_n 0, 1) := by decide +kernel
theorem dX8_looksAt_11 : decode cX8_looksAt 11 = .ok (.aload_n 0, 1) := by decide +kernel
theorem dX8_looksAt_12 : decode cX8_looksAt 12 = .ok (.getfield 173, 3) := by decide +kernel
theorem dX8_looksAt_15 : decode cX8_looksAt 15 = .ok (.ifCond .ne 26, 3) := by decide +kernel
theorem dX8_looksAt_18 : decode cX8_looksAt 18 = .ok (.aload_n 0, 1) := by decide +kernel
theorem dX8_looksAt_19 : decode cX8_looksAt 19 = .ok (.getfield 59, 3) := by decide +kernel
theorem dX8_looksAt_22 : decode cX8_looksAt 22 = .ok (.iload_n 2, 1) := by decide +kernel
theorem dX8_looksAt_23 : decode cX8_looksAt 23 = .ok (.iaload, 1) := by decide +kernel
theorem dX8_looksAt_24 : decode cX8_looksAt 24 = .ok (.aload_n 0, 1) := by decide +kernel
theorem dX8_looksAt_25 : decode cX8_looksAt 25 = .ok (.getfield 176, 3) := by decide +kernel
theorem dX8_looksAt_28 : decode cX8_looksAt 28 = .ok (.if_icmp .ne 17, 3) := by decide +kernel
theorem dX8_looksAt_31 : decode cX8_looksAt 31 = .ok (.aload_n 0, 1) := by decide +kernel
theorem dX8_looksAt_32 : decode cX8_looksAt 32 = .ok (.getfield 56, 3) := by decide +kernel
theorem dX8_looksAt_35 : decode cX8_looksAt 35 = .ok (.iload_n 2, 1) := by decide +kernel
theorem dX8_looksAt_36 : decode cX8_looksAt 36 = .ok (.iaload, 1) := by decide +kernel
theorem dX8_looksAt_37 : decode cX8_looksAt 37 = .ok (.iload_n 1, 1) := by decide +kernel
theorem dX8_looksAt_38 : decode cX8_looksAt 38 = .ok (.if_icmp .eq 7, 3) := by decide +kernel
theorem dX8_looksAt_41 : decode cX8_looksAt 41 = .ok (.iconst 1, 1) := by decide +kernel
theorem dX8_looksAt_42 : decode cX8_looksAt 42 = .ok (.goto 4, 3) := by decide +kernel
theorem dX8_looksAt_45 : decode cX8_looksAt 45 = .ok (.iconst 0, 1) := by decide +kernel
theorem dX8_looksAt_46 : decode cX8_looksAt 46 = .ok (.putfield 173, 3) := by decide +kernel
theorem dX8_looksAt_49 : decode cX8_looksAt 49 = .ok (.iinc 2 1, 3) := by decide +kernel
theorem dX8_looksAt_52 : decode cX8_looksAt 52 = .ok (.goto (-50), 3) := by decide +kernel
theorem dX8_looksAt_55 : decode cX8_looksAt 55 = .ok (.aload_n 0, 1) := by decide +kernel
theorem dX8_looksAt_56 : decode cX8_looksAt 56 = .ok (.dup, 1) := by decide +kernel
theorem dX8_looksAt_57 : decode cX8_looksAt 57 = .ok (.getfield 176, 3) := by decide +kernel
theorem dX8_looksAt_60 : decode cX8_looksAt 60 = .ok (.iconst 1, 1) := by decide +kernel
theorem dX8_looksAt_61 : decode cX8_looksAt 61 = .ok (.iadd, 1) := by decide +kernel
theorem dX8_looksAt_62 : decode cX8_looksAt 62 = .ok (.putfield 176, 3) := by decide +kernel
theorem dX8_looksAt_65 : decode cX8_looksAt 65 = .ok (.return_, 1) := by decide +kernel
theorem dX8_entry_0 : decode cX8_entry 0 = .ok (.aload_n 0, 1) := by decide +kernel
theorem dX8_entry_1 : decode cX8_entry 1 = .ok (.getfield 160, 3) := by decide +kernel
theorem dX8_entry_4 : decode cX8_entry 4 = .ok (.bipush 40, 2) := by decide +kernel
theorem dX8_entry_6 : decode cX8_entry 6 = .ok (.if_icmp .ne 46, 3) := by decide +kernel
theorem dX8_entry_9 : decode cX8_entry 9 = .ok (.iconst 4, 1) := by decide +kernel
theorem dX8_entry_10 : decode cX8_entry 10 = .ok (.istore 4, 2) := by decide +kernel
theorem dX8_entry_12 : decode cX8_entry 12 = .ok (.iload 4, 2) := by decide +kernel
theorem dX8_entry_14 : decode cX8_entry 14 = .ok (.sipush 160, 3) := by decide +kernel
theorem dX8_entry_17 : decode cX8_entry 17 = .ok (.if_icmp .ge 25, 3) := by decide +kernel
theorem dX8_entry_20 : decode cX8_entry 20 = .ok (.aload_n 0, 1) := by decide +kernel
theorem dX8_entry_21 : decode cX8_entry 21 = .ok (.getfield 53, 3) := by decide +kernel
theorem dX8_entry_24 : decode cX8_entry 24 = .ok (.iload 4, 2) := by decide +kernel
theorem dX8_entry_26 : decode cX8_entry 26 = .ok (.iconst 4, 1) := by decide +kernel
theorem dX8_entry_27 : decode cX8_entry 27 = .ok (.isub, 1) := by decide +kernel
theorem dX8_entry_28 : decode cX8_entry 28 = .ok (.aload_n 0, 1) := by decide +kernel
theorem dX8_entry_29 : decode cX8_entry 29 = .ok (.getfield 53, 3) := by decide +kernel
theorem dX8_entry_32 : decode cX8_entry 32 = .ok (.iload 4, 2) := by decide +kernel
theorem dX8_entry_34 : decode cX8_entry 34 = .ok (.iaload, 1) := by decide +kernel
theorem dX8_entry_35 : decode cX8_entry 35 = .ok (.iastore, 1) := by decide +kernel
theorem dX8_entry_36 : decode cX8_entry 36 = .ok (.iinc 4 1, 3) := by decide +kernel
theorem dX8_entry_39 : decode cX8_entry 39 = .ok (.goto (-27), 3) := by decide +kernel
theorem dX8_entry_42 : decode cX8_entry 42 = .ok (.aload_n 0, 1) := by decide +kernel
theorem dX8_entry_43 : decode cX8_entry 43 = .ok (.dup, 1) := by decide +kernel
theorem dX8_entry_44 : decode cX8_entry 44 = .ok (.getfield 160, 3) := by decide +kernel
theorem dX8_entry_47 : decode cX8_entry 47 = .ok (.iconst 1, 1) := by decide +kernel
theorem dX8_entry_48 : decode cX8_entry 48 = .ok (.isub, 1) := by decide +kernel
theorem dX8_entry_49 : decode cX8_entry 49 = .ok (.putfield 160, 3) := by decide +kernel
theorem dX8_entry_52 : decode cX8_entry 52 = .ok (.aload_n 0, 1) := by decide +kernel
theorem dX8_entry_53 : decode cX8_entry 53 = .ok (.getfield 53, 3) := by decide +kernel
theorem dX8_entry_56 : decode cX8_entry 56 = .ok (.iconst 4, 1) := by decide +kernel
theorem dX8_entry_57 : decode cX8_entry 57 = .ok (.aload_n 0, 1) := by decide +kernel
theorem dX8_entry_58 : decode cX8_entry 58 = .ok (.getfield 160, 3) := by decide +kernel
theorem dX8_entry_61 : decode cX8_entry 61 = .ok (.imul, 1) := by decide +kernel
theorem dX8_entry_62 : decode cX8_entry 62 = .ok (.aload_n 0, 1) := by decide +kernel
theorem dX8_entry_63 : decode cX8_entry 63 = .ok (.getfield 157, 3) := by decide +kernel
theorem dX8_entry_66 : decode cX8_entry 66 = .ok (.iastore, 1) := by decide +kernel
theorem dX8_entry_67 : decode cX8_entry 67 = .ok (.aload_n 0, 1) := by decide +kernel
theorem dX8_entry_68 : decode cX8_entry 68 = .ok (.getfield 53, 3) := by decide +kernel
theorem dX8_entry_71 : decode cX8_entry 71 = .ok (.iconst 4, 1) := by decide +kernel
theorem dX8_entry_72 : decode cX8_entry 72 = .ok (.aload_n 0, 1) := by decide +kernel
theorem dX8_entry_73 : decode cX8_entry 73 = .ok (.getfield 160, 3) := by decide +kernel
theorem dX8_entry_76 : decode cX8_entry 76 = .ok (.imul, 1) := by decide +kernel
theorem dX8_entry_77 : decode cX8_entry 77 = .ok (.iconst 1, 1) := by decide +kernel
theorem dX8_entry_78 : decode cX8_entry 78 = .ok (.iadd, 1) := by decide +kernel
theorem dX8_entry_79 : decode cX8_entry 79 = .ok (.iload_n 1, 1) := by decide +kernel
theorem dX8_entry_80 : decode cX8_entry 80 = .ok (.iastore, 1) := by decide +kernel
theorem dX8_entry_81 : decode cX8_entry 81 = .ok (.aload_n 0, 1) := by decide +kernel
theorem dX8_entry_82 : decode cX8_entry 82 = .ok (.getfield 53, 3) := by decide +kernel
theorem dX8_entry_85 : decode cX8_entry 85 = .ok (.iconst 4, 1) := by decide +kernel
theorem dX8_entry_86 : decode cX8_entry 86 = .ok (.aload_n 0, 1) := by decide +kernel
theorem dX8_entry_87 : decode cX8_entry 87 = .ok (.getfield 160, 3) := by decide +kernel
theorem dX8_entry_90 : decode cX8_entry 90 = .ok (.imul, 1) := by decide +kernel
theorem dX8_entry_91 : decode cX8_entry 91 = .ok (.iconst 2, 1) := by decide +kernel
theorem dX8_entry_92 : decode cX8_entry 92 = .ok (.iadd, 1) := by decide +kernel
theorem dX8_entry_93 : decode cX8_entry 93 = .ok (.iload_n 2, 1) := by decide +kernel
theorem dX8_entry_94 : decode cX8_entry 94 = .ok (.iastore, 1) := by decide +kernel
theorem dX8_entry_95 : decode cX8_entry 95 = .ok (.aload_n 0, 1) := by decide +kernel
theorem dX8_entry_96 : decode cX8_entry 96 = .ok (.getfield 53, 3) := by decide +kernel
theorem dX8_entry_99 : decode cX8_entry 99 = .ok (.iconst 4, 1) := by decide +kernel
theorem dX8_entry_100 : decode cX8_entry 100 = .ok (.aload_n 0, 1) := by decide +kernel
theorem dX8_entry_101 : decode cX8_entry 101 = .ok (.getfield 160, 3) := by decide +kernel
theorem dX8_entry_104 : decode cX8_entry 104 = .ok (.imul, 1) := by decide +kernel
theorem dX8_entry_105 : decode cX8_entry 105 = .ok (.iconst 3, 1) := by decide +kernel
theorem dX8_entry_106 : decode cX8_entry 106 = .ok (.iadd, 1) := by decide +kernel
theorem dX8_entry_107 : decode cX8_entry 107 = .ok (.iload_n 3, 1) := by decide +kernel
theorem dX8_entry_108 : decode cX8_entry 108 = .ok (.iastore, 1) := by decide +kernel
theorem dX8_entry_109 : decode cX8_entry 109 = .ok (.aload_n 0, 1) := by decide +kernel
theorem dX8_entry_110 : decode cX8_entry 110 = .ok (.dup, 1) := by decide +kernel
theorem dX8_entry_111 : decode cX8_entry 111 = .ok (.getfield 160, 3) := by decide +kernel
theorem dX8_entry_114 : decode cX8_entry 114 = .ok (.iconst 1, 1) := by decide +kernel
theorem dX8_entry_115 : decode cX8_entry 115 = .ok (.iadd, 1) := by decide +kernel
theorem dX8_entry_116 : decode cX8_entry 116 = .ok (.putfield 160, 3) := by decide +kernel
theorem dX8_entry_119 : decode cX8_entry 119 = .ok (.aload_n 0, 1) := by decide +kernel
theorem dX8_entry_120 : decode cX8_entry 120 = .ok (.iload_n 3, 1) := by decide +kernel
theorem dX8_entry_121 : decode cX8_entry 121 = .ok (.invokevirtual 179, 3) := by decide +kernel
theorem dX8_entry_124 : decode cX8_entry 124 = .ok (.return_, 1) := by decide +kernel
theorem dX8_leavesRows_0 : decode cX8_leavesRows 0 = .ok (.iconst 0, 1) := by decide +kernel
theorem dX8_leavesRows_1 : decode cX8_leavesRows 1 = .ok (.istore_n 2, 1) := by decide +kernel
theorem dX8_leavesRows_2 : decode cX8_leavesRows 2 = .ok (.iload_n 2, 1) := by decide +kernel
theorem dX8_leavesRows_3 : decode cX8_leavesRows 3 = .ok (.iconst 4, 1) := by decide +kernel
theorem dX8_leavesRows_4 : decode cX8_leavesRows 4 = .ok (.if_icmp .ge 112, 3) := by decide +kernel
theorem dX8_leavesRows_7 : decode cX8_leavesRows 7 = .ok (.aload_n 0, 1) := by decide +kernel
theorem dX8_leavesRows_8 : decode cX8_leavesRows 8 = .ok (.getfield 20, 3) := by decide +kernel
theorem dX8_leavesRows_11 : decode cX8_leavesRows 11 = .ok (.iload_n 2, 1) := by decide +kernel
theorem dX8_leavesRows_12 : decode cX8_leavesRows 12 = .ok (.aload_n 0, 1) := by decide +kernel
theorem dX8_leavesRows_13 : decode cX8_leavesRows 13 = .ok (.getfield 20, 3) := by decide +kernel
theorem dX8_leavesRows_16 : decode cX8_leavesRows 16 = .ok (.iload_n 2, 1) := by decide +kernel
theorem dX8_leavesRows_17 : decode cX8_leavesRows 17 = .ok (.iaload, 1) := by decide +kernel
theorem dX8_leavesRows_18 : decode cX8_leavesRows 18 = .ok (.iload_n 1, 1) := by decide +kernel
theorem dX8_leavesRows_19 : decode cX8_leavesRows 19 = .ok (.if_icmp .ne 8, 3) := by decide +kernel
theorem dX8_leavesRows_22 : decode cX8_leavesRows 22 = .ok (.bipush (-5), 2) := by decide +kernel
theorem dX8_leavesRows_24 : decode cX8_leavesRows 24 = .ok (.goto 9, 3) := by decide +kernel
theorem dX8_leavesRows_27 : decode cX8_leavesRows 27 = .ok (.aload_n 0, 1) := by decide +kernel
theorem dX8_leavesRows_28 : decode cX8_leavesRows 28 = .ok (.getfield 20, 3) := by decide +kernel
theorem dX8_leavesRows_31 : decode cX8_leavesRows 31 = .ok (.iload_n 2, 1) := by decide +kernel
theorem dX8_leavesRows_32 : decode cX8_leavesRows 32 = .ok (.iaload, 1) := by decide +kernel
theorem dX8_leavesRows_33 : decode cX8_leavesRows 33 = .ok (.iastore, 1) := by decide +kernel
theorem dX8_leavesRows_34 : decode cX8_leavesRows 34 = .ok (.iconst 0, 1) := by decide +kernel
theorem dX8_leavesRows_35 : decode cX8_leavesRows 35 = .ok (.istore_n 3, 1) := by decide +kernel
theorem dX8_leavesRows_36 : decode cX8_leavesRows 36 = .ok (.iconst 0, 1) := by decide +kernel
theorem dX8_leavesRows_37 : decode cX8_leavesRows 37 = .ok (.istore 4, 2) := by decide +kernel
theorem dX8_leavesRows_39 : decode cX8_leavesRows 39 = .ok (.iload 4, 2) := by decide +kernel
theorem dX8_leavesRows_41 : decode cX8_leavesRows 41 = .ok (.aload_n 0, 1) := by decide +kernel
theorem dX8_leavesRows_42 : decode cX8_leavesRows 42 = .ok (.getfield 13, 3) := by decide +kernel
theorem dX8_leavesRows_45 : decode cX8_leavesRows 45 = .ok (.iload_n 2, 1) := by decide +kernel
theorem dX8_leavesRows_46 : decode cX8_leavesRows 46 = .ok (.iaload, 1) := by decide +kernel
theorem dX8_leavesRows_47 : decode cX8_leavesRows 47 = .ok (.if_icmp .ge 56, 3) := by decide +kernel
theorem dX8_leavesRows_50 : decode cX8_leavesRows 50 = .ok (.aload_n 0, 1) := by decide +kernel
theorem dX8_leavesRows_51 : decode cX8_leavesRows 51 = .ok (.getfield 17, 3) := by decide +kernel
theorem dX8_leavesRows_54 : decode cX8_leavesRows 54 = .ok (.bipush 32, 2) := by decide +kernel
theorem dX8_leavesRows_56 : decode cX8_leavesRows 56 = .ok (.iload_n 2, 1) := by decide +kernel
theorem dX8_leavesRows_57 : decode cX8_leavesRows 57 = .ok (.imul, 1) := by decide +kernel
theorem dX8_leavesRows_58 : decode cX8_leavesRows 58 = .ok (.iload_n 3, 1) := by decide +kernel
theorem dX8_leavesRows_59 : decode cX8_leavesRows 59 = .ok (.iadd, 1) := by decide +kernel
theorem dX8_leavesRows_60 : decode cX8_leavesRows 60 = .ok (.aload_n 0, 1) := by decide +kernel
theorem dX8_leavesRows_61 : decode cX8_leavesRows 61 = .ok (.getfield 17, 3) := by decide +kernel
theorem dX8_leavesRows_64 : decode cX8_leavesRows 64 = .ok (.bipush 32, 2) := by decide +kernel
theorem dX8_leavesRows_66 : decode cX8_leavesRows 66 = .ok (.iload_n 2, 1) := by decide +kernel
theorem dX8_leavesRows_67 : decode cX8_leavesRows 67 = .ok (.imul, 1) := by decide +kernel
theorem dX8_leavesRows_68 : decode cX8_leavesRows 68 = .ok (.iload 4, 2) := by decide +kernel
theorem dX8_leavesRows_70 : decode cX8_leavesRows 70 = .ok (.iadd, 1) := by decide +kernel
theorem dX8_leavesRows_71 : decode cX8_leavesRows 71 = .ok (.iaload, 1) := by decide +kernel
theorem dX8_leavesRows_72 : decode cX8_leavesRows 72 = .ok (.iastore, 1) := by decide +kernel
theorem dX8_leavesRows_73 : decode cX8_leavesRows 73 = .ok (.iload_n 3, 1) := by decide +kernel
theorem dX8_leavesRows_74 : decode cX8_leavesRows 74 = .ok (.aload_n 0, 1) := by decide +kernel
theorem dX8_leavesRows_75 : decode cX8_leavesRows 75 = .ok (.getfield 17, 3) := by decide +kernel
theorem dX8_leavesRows_78 : decode cX8_leavesRows 78 = .ok (.bipush 32, 2) := by decide +kernel
theorem dX8_leavesRows_80 : decode cX8_leavesRows 80 = .ok (.iload_n 2, 1) := by decide +kernel
theorem dX8_leavesRows_81 : decode cX8_leavesRows 81 = .ok (.imul, 1) := by decide +kernel
theorem dX8_leavesRows_82 : decode cX8_leavesRows 82 = .ok (.iload 4, 2) := by decide +kernel
theorem dX8_leavesRows_84 : decode cX8_leavesRows 84 = .ok (.iadd, 1) := by decide +kernel
theorem dX8_leavesRows_85 : decode cX8_leavesRows 85 = .ok (.iaload, 1) := by decide +kernel
theorem dX8_leavesRows_86 : decode cX8_leavesRows 86 = .ok (.iload_n 1, 1) := by decide +kernel
theorem dX8_leavesRows_87 : decode cX8_leavesRows 87 = .ok (.if_icmp .ne 7, 3) := by decide +kernel
theorem dX8_leavesRows_90 : decode cX8_leavesRows 90 = .ok (.iconst 0, 1) := by decide +kernel
theorem dX8_leavesRows_91 : decode cX8_leavesRows 91 = .ok (.goto 4, 3) := by decide +kernel
theorem dX8_leavesRows_94 : decode cX8_leavesRows 94 = .ok (.iconst 1, 1) := by decide +kernel
theorem dX8_leavesRows_95 : decode cX8_leavesRows 95 = .ok (.iadd, 1) := by decide +kernel
theorem dX8_leavesRows_96 : decode cX8_leavesRows 96 = .ok (.istore_n 3, 1) := by decide +kernel
theorem dX8_leavesRows_97 : decode cX8_leavesRows 97 = .ok (.iinc 4 1, 3) := by decide +kernel
theorem dX8_leavesRows_100 : decode cX8_leavesRows 100 = .ok (.goto (-61), 3) := by decide +kernel
theorem dX8_leavesRows_103 : decode cX8_leavesRows 103 = .ok (.aload_n 0, 1) := by decide +kernel
theorem dX8_leavesRows_104 : decode cX8_leavesRows 104 = .ok (.getfield 13, 3) := by decide +kernel
theorem dX8_leavesRows_107 : decode cX8_leavesRows 107 = .ok (.iload_n 2, 1) := by decide +kernel
theorem dX8_leavesRows_108 : decode cX8_leavesRows 108 = .ok (.iload_n 3, 1) := by decide +kernel
theorem dX8_leavesRows_109 : decode cX8_leavesRows 109 = .ok (.iastore, 1) := by decide +kernel
theorem dX8_leavesRows_110 : decode cX8_leavesRows 110 = .ok (.iinc 2 1, 3) := by decide +kernel
theorem dX8_leavesRows_113 : decode cX8_leavesRows 113 = .ok (.goto (-111), 3) := by decide +kernel
theorem dX8_leavesRows_116 : decode cX8_leavesRows 116 = .ok (.return_, 1) := by decide +kernel
theorem dX8_cancelMarked_0 : decode cX8_cancelMarked 0 = .ok (.iconst 0, 1) := by decide +kernel
theorem dX8_cancelMarked_1 : decode cX8_cancelMarked 1 = .ok (.istore_n 1, 1) := by decide +kernel
theorem dX8_cancelMarked_2 : decode cX8_cancelMarked 2 = .ok (.iconst 0, 1) := by decide +kernel
theorem dX8_cancelMarked_3 : decode cX8_cancelMarked 3 = .ok (.istore_n 2, 1) := by decide +kernel
theorem dX8_cancelMarked_4 : decode cX8_cancelMarked 4 = .ok (.iload_n 2, 1) := by decide +kernel
theorem dX8_cancelMarked_5 : decode cX8_cancelMarked 5 = .ok (.aload_n 0, 1) := by decide +kernel
theorem dX8_cancelMarked_6 : decode cX8_cancelMarked 6 = .ok (.getfield 127, 3) := by decide +kernel
theorem dX8_cancelMarked_9 : decode cX8_cancelMarked 9 = .ok (.if_icmp .ge 92, 3) := by decide +kernel
theorem dX8_cancelMarked_12 : decode cX8_cancelMarked 12 = .ok (.aload_n 0, 1) := by decide +kernel
theorem dX8_cancelMarked_13 : decode cX8_cancelMarked 13 = .ok (.getfield 80, 3) := by decide +kernel
theorem dX8_cancelMarked_16 : decode cX8_cancelMarked 16 = .ok (.iload_n 2, 1) := by decide +kernel
theorem dX8_cancelMarked_17 : decode cX8_cancelMarked 17 = .ok (.aload_n 0, 1) := by decide +kernel
theorem dX8_cancelMarked_18 : decode cX8_cancelMarked 18 = .ok (.getfield 80, 3) := by decide +kernel
theorem dX8_cancelMarked_21 : decode cX8_cancelMarked 21 = .ok (.iload_n 2, 1) := by decide +kernel
theorem dX8_cancelMarked_22 : decode cX8_cancelMarked 22 = .ok (.baload, 1) := by decide +kernel
theorem dX8_cancelMarked_23 : decode cX8_cancelMarked 23 = .ok (.ifCond .ne 26, 3) := by decide +kernel
theorem dX8_cancelMarked_26 : decode cX8_cancelMarked 26 = .ok (.aload_n 0, 1) := by decide +kernel
theorem dX8_cancelMarked_27 : decode cX8_cancelMarked 27 = .ok (.getfield 41, 3) := by decide +kernel
theorem dX8_cancelMarked_30 : decode cX8_cancelMarked 30 = .ok (.iload_n 2, 1) := by decide +kernel
theorem dX8_cancelMarked_31 : decode cX8_cancelMarked 31 = .ok (.iaload, 1) := by decide +kernel
theorem dX8_cancelMarked_32 : decode cX8_cancelMarked 32 = .ok (.ifCond .lt 21, 3) := by decide +kernel
theorem dX8_cancelMarked_35 : decode cX8_cancelMarked 35 = .ok (.aload_n 0, 1) := by decide +kernel
theorem dX8_cancelMarked_36 : decode cX8_cancelMarked 36 = .ok (.getfield 80, 3) := by decide +kernel
theorem dX8_cancelMarked_39 : decode cX8_cancelMarked 39 = .ok (.aload_n 0, 1) := by decide +kernel
theorem dX8_cancelMarked_40 : decode cX8_cancelMarked 40 = .ok (.getfield 41, 3) := by decide +kernel
theorem dX8_cancelMarked_43 : decode cX8_cancelMarked 43 = .ok (.iload_n 2, 1) := by decide +kernel
theorem dX8_cancelMarked_44 : decode cX8_cancelMarked 44 = .ok (.iaload, 1) := by decide +kernel
theorem dX8_cancelMarked_45 : decode cX8_cancelMarked 45 = .ok (.baload, 1) := by decide +kernel
theorem dX8_cancelMarked_46 : decode cX8_cancelMarked 46 = .ok (.ifCond .eq 7, 3) := by decide +kernel
theorem dX8_cancelMarked_49 : decode cX8_cancelMarked 49 = .ok (.iconst 1, 1) := by decide +kernel
theorem dX8_cancelMarked_50 : decode cX8_cancelMarked 50 = .ok (.goto 4, 3) := by decide +kernel
theorem dX8_cancelMarked_53 : decode cX8_cancelMarked 53 = .ok (.iconst 0, 1) := by decide +kernel
theorem dX8_cancelMarked_54 : decode cX8_cancelMarked 54 = .ok (.bastore, 1) := by decide +kernel
theorem dX8_cancelMarked_55 : decode cX8_cancelMarked 55 = .ok (.aload_n 0, 1) := by decide +kernel
theorem dX8_cancelMarked_56 : decode cX8_cancelMarked 56 = .ok (.getfield 80, 3) := by decide +kernel
theorem dX8_cancelMarked_59 : decode cX8_cancelMarked 59 = .ok (.iload_n 2, 1) := by decide +kernel
theorem dX8_cancelMarked_60 : decode cX8_cancelMarked 60 = .ok (.baload, 1) := by decide +kernel
theorem dX8_cancelMarked_61 : decode cX8_cancelMarked 61 = .ok (.ifCond .eq 34, 3) := by decide +kernel
theorem dX8_cancelMarked_64 : decode cX8_cancelMarked 64 = .ok (.aload_n 0, 1) := by decide +kernel
theorem dX8_cancelMarked_65 : decode cX8_cancelMarked 65 = .ok (.iload_n 2, 1) := by decide +kernel
theorem dX8_cancelMarked_66 : decode cX8_cancelMarked 66 = .ok (.invokevirtual 183, 3) := by decide +kernel
theorem dX8_cancelMarked_69 : decode cX8_cancelMarked 69 = .ok (.ifCond .ne 26, 3) := by decide +kernel
theorem dX8_cancelMarked_72 : decode cX8_cancelMarked 72 = .ok (.aload_n 0, 1) := by decide +kernel
theorem dX8_cancelMarked_73 : decode cX8_cancelMarked 73 = .ok (.iload_n 2, 1) := by decide +kernel
theorem dX8_cancelMarked_74 : decode cX8_cancelMarked 74 = .ok (.invokevirtual 187, 3) := by decide +kernel
theorem dX8_cancelMarked_77 : decode cX8_cancelMarked 77 = .ok (.aload_n 0, 1) := by decide +kernel
theorem dX8_cancelMarked_78 : decode cX8_cancelMarked 78 = .ok (.getfield 29, 3) := by decide +kernel
theorem dX8_cancelMarked_81 : decode cX8_cancelMarked 81 = .ok (.iload_n 2, 1) := by decide +kernel
theorem dX8_cancelMarked_82 : decode cX8_cancelMarked 82 = .ok (.iconst 5, 1) := by decide +kernel
theorem dX8_cancelMarked_83 : decode cX8_cancelMarked 83 = .ok (.iastore, 1) := by decide +kernel
theorem dX8_cancelMarked_84 : decode cX8_cancelMarked 84 = .ok (.aload_n 0, 1) := by decide +kernel
theorem dX8_cancelMarked_85 : decode cX8_cancelMarked 85 = .ok (.bipush (-5), 2) := by decide +kernel
theorem dX8_cancelMarked_87 : decode cX8_cancelMarked 87 = .ok (.iconst 5, 1) := by decide +kernel
theorem dX8_cancelMarked_88 : decode cX8_cancelMarked 88 = .ok (.iload_n 2, 1) := by decide +kernel
theorem dX8_cancelMarked_89 : decode cX8_cancelMarked 89 = .ok (.invokevirtual 190, 3) := by decide +kernel
theorem dX8_cancelMarked_92 : decode cX8_cancelMarked 92 = .ok (.iinc 1 1, 3) := by decide +kernel
theorem dX8_cancelMarked_95 : decode cX8_cancelMarked 95 = .ok (.iinc 2 1, 3) := by decide +kernel
theorem dX8_cancelMarked_98 : decode cX8_cancelMarked 98 = .ok (.goto (-94), 3) := by decide +kernel
theorem dX8_cancelMarked_101 : decode cX8_cancelMarked 101 = .ok (.iload_n 1, 1) := by decide +kernel
theorem dX8_cancelMarked_102 : decode cX8_cancelMarked 102 = .ok (.ireturn, 1) := by decide +kernel
theorem dX8_cancelIn_0 : decode cX8_cancelIn 0 = .ok (.iconst 0, 1) := by decide +kernel
theorem dX8_cancelIn_1 : decode cX8_cancelIn 1 = .ok (.istore_n 2, 1) := by decide +kernel
theorem dX8_cancelIn_2 : decode cX8_cancelIn 2 = .ok (.iload_n 2, 1) := by decide +kernel
theorem dX8_cancelIn_3 : decode cX8_cancelIn 3 = .ok (.aload_n 0, 1) := by decide +kernel
theorem dX8_cancelIn_4 : decode cX8_cancelIn 4 = .ok (.getfield 127, 3) := by decide +kernel
theorem dX8_cancelIn_7 : decode cX8_cancelIn 7 = .ok (.if_icmp .ge 30, 3) := by decide +kernel
theorem dX8_cancelIn_10 : decode cX8_cancelIn 10 = .ok (.aload_n 0, 1) := by decide +kernel
theorem dX8_cancelIn_11 : decode cX8_cancelIn 11 = .ok (.getfield 80, 3) := by decide +kernel
theorem dX8_cancelIn_14 : decode cX8_cancelIn 14 = .ok (.iload_n 2, 1) := by decide +kernel
theorem dX8_cancelIn_15 : decode cX8_cancelIn 15 = .ok (.aload_n 0, 1) := by decide +kernel
theorem dX8_cancelIn_16 : decode cX8_cancelIn 16 = .ok (.getfield 41, 3) := by decide +kernel
theorem dX8_cancelIn_19 : decode cX8_cancelIn 19 = .ok (.iload_n 2, 1) := by decide +kernel
theorem dX8_cancelIn_20 : decode cX8_cancelIn 20 = .ok (.iaload, 1) := by decide +kernel
theorem dX8_cancelIn_21 : decode cX8_cancelIn 21 = .ok (.iload_n 1, 1) := by decide +kernel
theorem dX8_cancelIn_22 : decode cX8_cancelIn 22 = .ok (.if_icmp .ne 7, 3) := by decide +kernel
theorem dX8_cancelIn_25 : decode cX8_cancelIn 25 = .ok (.iconst 1, 1) := by decide +kernel
theorem dX8_cancelIn_26 : decode cX8_cancelIn 26 = .ok (.goto 4, 3) := by decide +kernel
theorem dX8_cancelIn_29 : decode cX8_cancelIn 29 = .ok (.iconst 0, 1) := by decide +kernel
theorem dX8_cancelIn_30 : decode cX8_cancelIn 30 = .ok (.bastore, 1) := by decide +kernel
theorem dX8_cancelIn_31 : decode cX8_cancelIn 31 = .ok (.iinc 2 1, 3) := by decide +kernel
theorem dX8_cancelIn_34 : decode cX8_cancelIn 34 = .ok (.goto (-32), 3) := by decide +kernel
theorem dX8_cancelIn_37 : decode cX8_cancelIn 37 = .ok (.aload_n 0, 1) := by decide +kernel
theorem dX8_cancelIn_38 : decode cX8_cancelIn 38 = .ok (.invokevirtual 194, 3) := by decide +kernel
theorem dX8_cancelIn_41 : decode cX8_cancelIn 41 = .ok (.pop, 1) := by decide +kernel
theorem dX8_cancelIn_42 : decode cX8_cancelIn 42 = .ok (.return_, 1) := by decide +kernel
theorem dX8_cancelOne_0 : decode cX8_cancelOne 0 = .ok (.iconst 0, 1) := by decide +kernel
theorem dX8_cancelOne_1 : decode cX8_cancelOne 1 = .ok (.istore_n 2, 1) := by decide +kernel
theorem dX8_cancelOne_2 : decode cX8_cancelOne 2 = .ok (.iload_n 2, 1) := by decide +kernel
theorem dX8_cancelOne_3 : decode cX8_cancelOne 3 = .ok (.aload_n 0, 1) := by decide +kernel
theorem dX8_cancelOne_4 : decode cX8_cancelOne 4 = .ok (.getfield 127, 3) := by decide +kernel
theorem dX8_cancelOne_7 : decode cX8_cancelOne 7 = .ok (.if_icmp .ge 25, 3) := by decide +kernel
theorem dX8_cancelOne_10 : decode cX8_cancelOne 10 = .ok (.aload_n 0, 1) := by decide +kernel
theorem dX8_cancelOne_11 : decode cX8_cancelOne 11 = .ok (.getfield 80, 3) := by decide +kernel
theorem dX8_cancelOne_14 : decode cX8_cancelOne 14 = .ok (.iload_n 2, 1) := by decide +kernel
theorem dX8_cancelOne_15 : decode cX8_cancelOne 15 = .ok (.iload_n 2, 1) := by decide +kernel
theorem dX8_cancelOne_16 : decode cX8_cancelOne 16 = .ok (.iload_n 1, 1) := by decide +kernel
theorem dX8_cancelOne_17 : decode cX8_cancelOne 17 = .ok (.if_icmp .ne 7, 3) := by decide +kernel
theorem dX8_cancelOne_20 : decode cX8_cancelOne 20 = .ok (.iconst 1, 1) := by decide +kernel
theorem dX8_cancelOne_21 : decode cX8_cancelOne 21 = .ok (.goto 4, 3) := by decide +kernel
theorem dX8_cancelOne_24 : decode cX8_cancelOne 24 = .ok (.iconst 0, 1) := by decide +kernel
theorem dX8_cancelOne_25 : decode cX8_cancelOne 25 = .ok (.bastore, 1) := by decide +kernel
theorem dX8_cancelOne_26 : decode cX8_cancelOne 26 = .ok (.iinc 2 1, 3) := by decide +kernel
theorem dX8_cancelOne_29 : decode cX8_cancelOne 29 = .ok (.goto (-27), 3) := by decide +kernel
theorem dX8_cancelOne_32 : decode cX8_cancelOne 32 = .ok (.aload_n 0, 1) := by decide +kernel
theorem dX8_cancelOne_33 : decode cX8_cancelOne 33 = .ok (.invokevirtual 194, 3) := by decide +kernel
theorem dX8_cancelOne_36 : decode cX8_cancelOne 36 = .ok (.ireturn, 1) := by decide +kernel
theorem dX8_allEnded_0 : decode cX8_allEnded 0 = .ok (.iconst 1, 1) := by decide +kernel
theorem dX8_allEnded_1 : decode cX8_allEnded 1 = .ok (.istore_n 2, 1) := by decide +kernel
theorem dX8_allEnded_2 : decode cX8_allEnded 2 = .ok (.iconst 0, 1) := by decide +kernel
theorem dX8_allEnded_3 : decode cX8_allEnded 3 = .ok (.istore_n 3, 1) := by decide +kernel
theorem dX8_allEnded_4 : decode cX8_allEnded 4 = .ok (.iload_n 3, 1) := by decide +kernel
theorem dX8_allEnded_5 : decode cX8_allEnded 5 = .ok (.aload_n 0, 1) := by decide +kernel
theorem dX8_allEnded_6 : decode cX8_allEnded 6 = .ok (.getfield 127, 3) := by decide +kernel
theorem dX8_allEnded_9 : decode cX8_allEnded 9 = .ok (.if_icmp .ge 37, 3) := by decide +kernel
theorem dX8_allEnded_12 : decode cX8_allEnded 12 = .ok (.iload_n 2, 1) := by decide +kernel
theorem dX8_allEnded_13 : decode cX8_allEnded 13 = .ok (.ifCond .eq 25, 3) := by decide +kernel
theorem dX8_allEnded_16 : decode cX8_allEnded 16 = .ok (.aload_n 0, 1) := by decide +kernel
theorem dX8_allEnded_17 : decode cX8_allEnded 17 = .ok (.getfield 41, 3) := by decide +kernel
theorem dX8_allEnded_20 : decode cX8_allEnded 20 = .ok (.iload_n 3, 1) := by decide +kernel
theorem dX8_allEnded_21 : decode cX8_allEnded 21 = .ok (.iaload, 1) := by decide +kernel
theorem dX8_allEnded_22 : decode cX8_allEnded 22 = .ok (.iload_n 1, 1) := by decide +kernel
theorem dX8_allEnded_23 : decode cX8_allEnded 23 = .ok (.if_icmp .ne 11, 3) := by decide +kernel
theorem dX8_allEnded_26 : decode cX8_allEnded 26 = .ok (.aload_n 0, 1) := by decide +kernel
theorem dX8_allEnded_27 : decode cX8_allEnded 27 = .ok (.iload_n 3, 1) := by decide +kernel
theorem dX8_allEnded_28 : decode cX8_allEnded 28 = .ok (.invokevirtual 183, 3) := by decide +kernel
theorem dX8_allEnded_31 : decode cX8_allEnded 31 = .ok (.ifCond .eq 7, 3) := by decide +kernel
theorem dX8_allEnded_34 : decode cX8_allEnded 34 = .ok (.iconst 1, 1) := by decide +kernel
theorem dX8_allEnded_35 : decode cX8_allEnded 35 = .ok (.goto 4, 3) := by decide +kernel
theorem dX8_allEnded_38 : decode cX8_allEnded 38 = .ok (.iconst 0, 1) := by decide +kernel
theorem dX8_allEnded_39 : decode cX8_allEnded 39 = .ok (.istore_n 2, 1) := by decide +kernel
theorem dX8_allEnded_40 : decode cX8_allEnded 40 = .ok (.iinc 3 1, 3) := by decide +kernel
theorem dX8_allEnded_43 : decode cX8_allEnded 43 = .ok (.goto (-39), 3) := by decide +kernel
theorem dX8_allEnded_46 : decode cX8_allEnded 46 = .ok (.iload_n 2, 1) := by decide +kernel
theorem dX8_allEnded_47 : decode cX8_allEnded 47 = .ok (.ireturn, 1) := by decide +kernel
theorem dX8_worthIn_0 : decode cX8_worthIn 0 = .ok (.aload_n 0, 1) := by decide +kernel
theorem dX8_worthIn_1 : decode cX8_worthIn 1 = .ok (.getfield 32, 3) := by decide +kernel
theorem dX8_worthIn_4 : decode cX8_worthIn 4 = .ok (.iload_n 1, 1) := by decide +kernel
theorem dX8_worthIn_5 : decode cX8_worthIn 5 = .ok (.iaload, 1) := by decide +kernel
theorem dX8_worthIn_6 : decode cX8_worthIn 6 = .ok (.istore_n 2, 1) := by decide +kernel
theorem dX8_worthIn_7 : decode cX8_worthIn 7 = .ok (.iconst 0, 1) := by decide +kernel
theorem dX8_worthIn_8 : decode cX8_worthIn 8 = .ok (.istore_n 3, 1) := by decide +kernel
theorem dX8_worthIn_9 : decode cX8_worthIn 9 = .ok (.iload_n 3, 1) := by decide +kernel
theorem dX8_worthIn_10 : decode cX8_worthIn 10 = .ok (.aload_n 0, 1) := by decide +kernel
theorem dX8_worthIn_11 : decode cX8_worthIn 11 = .ok (.getfield 127, 3) := by decide +kernel
theorem dX8_worthIn_14 : decode cX8_worthIn 14 = .ok (.if_icmp .ge 42, 3) := by decide +kernel
theorem dX8_worthIn_17 : decode cX8_worthIn 17 = .ok (.iload_n 2, 1) := by decide +kernel
theorem dX8_worthIn_18 : decode cX8_worthIn 18 = .ok (.aload_n 0, 1) := by decide +kernel
theorem dX8_worthIn_19 : decode cX8_worthIn 19 = .ok (.getfield 41, 3) := by decide +kernel
theorem dX8_worthIn_22 : decode cX8_worthIn 22 = .ok (.iload_n 3, 1) := by decide +kernel
theorem dX8_worthIn_23 : decode cX8_worthIn 23 = .ok (.iaload, 1) := by decide +kernel
theorem dX8_worthIn_24 : decode cX8_worthIn 24 = .ok (.iload_n 1, 1) := by decide +kernel
theorem dX8_worthIn_25 : decode cX8_worthIn 25 = .ok (.if_icmp .ne 22, 3) := by decide +kernel
theorem dX8_worthIn_28 : decode cX8_worthIn 28 = .ok (.aload_n 0, 1) := by decide +kernel
theorem dX8_worthIn_29 : decode cX8_worthIn 29 = .ok (.getfield 29, 3) := by decide +kernel
theorem dX8_worthIn_32 : decode cX8_worthIn 32 = .ok (.iload_n 3, 1) := by decide +kernel
theorem dX8_worthIn_33 : decode cX8_worthIn 33 = .ok (.iaload, 1) := by decide +kernel
theorem dX8_worthIn_34 : decode cX8_worthIn 34 = .ok (.iconst 3, 1) := by decide +kernel
theorem dX8_worthIn_35 : decode cX8_worthIn 35 = .ok (.if_icmp .ne 12, 3) := by decide +kernel
theorem dX8_worthIn_38 : decode cX8_worthIn 38 = .ok (.aload_n 0, 1) := by decide +kernel
theorem dX8_worthIn_39 : decode cX8_worthIn 39 = .ok (.getfield 38, 3) := by decide +kernel
theorem dX8_worthIn_42 : decode cX8_worthIn 42 = .ok (.iload_n 3, 1) := by decide +kernel
theorem dX8_worthIn_43 : decode cX8_worthIn 43 = .ok (.iaload, 1) := by decide +kernel
theorem dX8_worthIn_44 : decode cX8_worthIn 44 = .ok (.goto 4, 3) := by decide +kernel
theorem dX8_worthIn_47 : decode cX8_worthIn 47 = .ok (.iconst 0, 1) := by decide +kernel
theorem dX8_worthIn_48 : decode cX8_worthIn 48 = .ok (.iadd, 1) := by decide +kernel
theorem dX8_worthIn_49 : decode cX8_worthIn 49 = .ok (.istore_n 2, 1) := by decide +kernel
theorem dX8_worthIn_50 : decode cX8_worthIn 50 = .ok (.iinc 3 1, 3) := by decide +kernel
theorem dX8_worthIn_53 : decode cX8_worthIn 53 = .ok (.goto (-44), 3) := by decide +kernel
theorem dX8_worthIn_56 : decode cX8_worthIn 56 = .ok (.iload_n 2, 1) := by decide +kernel
theorem dX8_worthIn_57 : decode cX8_worthIn 57 = .ok (.ireturn, 1) := by decide +kernel
theorem dX8_goesUp_0 : decode cX8_goesUp 0 = .ok (.iload_n 1, 1) := by decide +kernel
theorem dX8_goesUp_1 : decode cX8_goesUp 1 = .ok (.istore_n 2, 1) := by decide +kernel
theorem dX8_goesUp_2 : decode cX8_goesUp 2 = .ok (.iload_n 2, 1) := by decide +kernel
theorem dX8_goesUp_3 : decode cX8_goesUp 3 = .ok (.ifCond .lt 135, 3) := by decide +kernel
theorem dX8_goesUp_6 : decode cX8_goesUp 6 = .ok (.aload_n 0, 1) := by decide +kernel
theorem dX8_goesUp_7 : decode cX8_goesUp 7 = .ok (.getfield 41, 3) := by decide +kernel
theorem dX8_goesUp_10 : decode cX8_goesUp 10 = .ok (.iload_n 2, 1) := by decide +kernel
theorem dX8_goesUp_11 : decode cX8_goesUp 11 = .ok (.iaload, 1) := by decide +kernel
theorem dX8_goesUp_12 : decode cX8_goesUp 12 = .ok (.istore_n 3, 1) := by decide +kernel
theorem dX8_goesUp_13 : decode cX8_goesUp 13 = .ok (.iload_n 3, 1) := by decide +kernel
theorem dX8_goesUp_14 : decode cX8_goesUp 14 = .ok (.ifCond .lt 17, 3) := by decide +kernel
theorem dX8_goesUp_17 : decode cX8_goesUp 17 = .ok (.aload_n 0, 1) := by decide +kernel
theorem dX8_goesUp_18 : decode cX8_goesUp 18 = .ok (.getfield 29, 3) := by decide +kernel
theorem dX8_goesUp_21 : decode cX8_goesUp 21 = .ok (.iload_n 3, 1) := by decide +kernel
theorem dX8_goesUp_22 : decode cX8_goesUp 22 = .ok (.iaload, 1) := by decide +kernel
theorem dX8_goesUp_23 : decode cX8_goesUp 23 = .ok (.iconst 2, 1) := by decide +kernel
theorem dX8_goesUp_24 : decode cX8_goesUp 24 = .ok (.if_icmp .ne 7, 3) := by decide +kernel
theorem dX8_goesUp_27 : decode cX8_goesUp 27 = .ok (.iconst 1, 1) := by decide +kernel
theorem dX8_goesUp_28 : decode cX8_goesUp 28 = .ok (.goto 4, 3) := by decide +kernel
theorem dX8_goesUp_31 : decode cX8_goesUp 31 = .ok (.iconst 0, 1) := by decide +kernel
theorem dX8_goesUp_32 : decode cX8_goesUp 32 = .ok (.istore 4, 2) := by decide +kernel
theorem dX8_goesUp_34 : decode cX8_goesUp 34 = .ok (.iload 4, 2) := by decide +kernel
theorem dX8_goesUp_36 : decode cX8_goesUp 36 = .ok (.ifCond .eq 53, 3) := by decide +kernel
theorem dX8_goesUp_39 : decode cX8_goesUp 39 = .ok (.aload_n 0, 1) := by decide +kernel
theorem dX8_goesUp_40 : decode cX8_goesUp 40 = .ok (.getfield 29, 3) := by decide +kernel
theorem dX8_goesUp_43 : decode cX8_goesUp 43 = .ok (.iload_n 2, 1) := by decide +kernel
theorem dX8_goesUp_44 : decode cX8_goesUp 44 = .ok (.iaload, 1) := by decide +kernel
theorem dX8_goesUp_45 : decode cX8_goesUp 45 = .ok (.iconst 4, 1) := by decide +kernel
theorem dX8_goesUp_46 : decode cX8_goesUp 46 = .ok (.if_icmp .ne 43, 3) := by decide +kernel
theorem dX8_goesUp_49 : decode cX8_goesUp 49 = .ok (.aload_n 0, 1) := by decide +kernel
theorem dX8_goesUp_50 : decode cX8_goesUp 50 = .ok (.getfield 44, 3) := by decide +kernel
theorem dX8_goesUp_53 : decode cX8_goesUp 53 = .ok (.iload_n 3, 1) := by decide +kernel
theorem dX8_goesUp_54 : decode cX8_goesUp 54 = .ok (.iaload, 1) := by decide +kernel
theorem dX8_goesUp_55 : decode cX8_goesUp 55 = .ok (.iconst 2, 1) := by decide +kernel
theorem dX8_goesUp_56 : decode cX8_goesUp 56 = .ok (.if_icmp .eq 33, 3) := by decide +kernel
theorem dX8_goesUp_59 : decode cX8_goesUp 59 = .ok (.aload_n 0, 1) := by decide +kernel
theorem dX8_goesUp_60 : decode cX8_goesUp 60 = .ok (.iload_n 3, 1) := by decide +kernel
theorem dX8_goesUp_61 : decode cX8_goesUp 61 = .ok (.invokevirtual 198, 3) := by decide +kernel
theorem dX8_goesUp_64 : decode cX8_goesUp 64 = .ok (.aload_n 0, 1) := by decide +kernel
theorem dX8_goesUp_65 : decode cX8_goesUp 65 = .ok (.getfield 29, 3) := by decide +kernel
theorem dX8_goesUp_68 : decode cX8_goesUp 68 = .ok (.iload_n 3, 1) := by decide +kernel
theorem dX8_goesUp_69 : decode cX8_goesUp 69 = .ok (.iconst 4, 1) := by decide +kernel
theorem dX8_goesUp_70 : decode cX8_goesUp 70 = .ok (.iastore, 1) := by decide +kernel
theorem dX8_goesUp_71 : decode cX8_goesUp 71 = .ok (.aload_n 0, 1) := by decide +kernel
theorem dX8_goesUp_72 : decode cX8_goesUp 72 = .ok (.getfield 47, 3) := by decide +kernel
theorem dX8_goesUp_75 : decode cX8_goesUp 75 = .ok (.iload_n 3, 1) := by decide +kernel
theorem dX8_goesUp_76 : decode cX8_goesUp 76 = .ok (.iload_n 2, 1) := by decide +kernel
theorem dX8_goesUp_77 : decode cX8_goesUp 77 = .ok (.iastore, 1) := by decide +kernel
theorem dX8_goesUp_78 : decode cX8_goesUp 78 = .ok (.aload_n 0, 1) := by decide +kernel
theorem dX8_goesUp_79 : decode cX8_goesUp 79 = .ok (.bipush (-5), 2) := by decide +kernel
theorem dX8_goesUp_81 : decode cX8_goesUp 81 = .ok (.iconst 4, 1) := by decide +kernel
theorem dX8_goesUp_82 : decode cX8_goesUp 82 = .ok (.iload_n 3, 1) := by decide +kernel
theorem dX8_goesUp_83 : decode cX8_goesUp 83 = .ok (.invokevirtual 190, 3) := by decide +kernel
theorem dX8_goesUp_86 : decode cX8_goesUp 86 = .ok (.goto 47, 3) := by decide +kernel
theorem dX8_goesUp_89 : decode cX8_goesUp 89 = .ok (.iload 4, 2) := by decide +kernel
theorem dX8_goesUp_91 : decode cX8_goesUp 91 = .ok (.ifCond .eq 40, 3) := by decide +kernel
theorem dX8_goesUp_94 : decode cX8_goesUp 94 = .ok (.aload_n 0, 1) := by decide +kernel
theorem dX8_goesUp_95 : decode cX8_goesUp 95 = .ok (.iload_n 3, 1) := by decide +kernel
theorem dX8_goesUp_96 : decode cX8_goesUp 96 = .ok (.invokevirtual 201, 3) := by decide +kernel
theorem dX8_goesUp_99 : decode cX8_goesUp 99 = .ok (.ifCond .eq 32, 3) := by decide +kernel
theorem dX8_goesUp_102 : decode cX8_goesUp 102 = .ok (.aload_n 0, 1) := by decide +kernel
theorem dX8_goesUp_103 : decode cX8_goesUp 103 = .ok (.getfield 29, 3) := by decide +kernel
theorem dX8_goesUp_106 : decode cX8_goesUp 106 = .ok (.iload_n 3, 1) := by decide +kernel
theorem dX8_goesUp_107 : decode cX8_goesUp 107 = .ok (.iconst 3, 1) := by decide +kernel
theorem dX8_goesUp_108 : decode cX8_goesUp 108 = .ok (.iastore, 1) := by decide +kernel
theorem dX8_goesUp_109 : decode cX8_goesUp 109 = .ok (.aload_n 0, 1) := by decide +kernel
theorem dX8_goesUp_110 : decode cX8_goesUp 110 = .ok (.getfield 38, 3) := by decide +kernel
theorem dX8_goesUp_113 : decode cX8_goesUp 113 = .ok (.iload_n 3, 1) := by decide +kernel
theorem dX8_goesUp_114 : decode cX8_goesUp 114 = .ok (.aload_n 0, 1) := by decide +kernel
theorem dX8_goesUp_115 : decode cX8_goesUp 115 = .ok (.iload_n 3, 1) := by decide +kernel
theorem dX8_goesUp_116 : decode cX8_goesUp 116 = .ok (.invokevirtual 204, 3) := by decide +kernel
theorem dX8_goesUp_119 : decode cX8_goesUp 119 = .ok (.iastore, 1) := by decide +kernel
theorem dX8_goesUp_120 : decode cX8_goesUp 120 = .ok (.aload_n 0, 1) := by decide +kernel
theorem dX8_goesUp_121 : decode cX8_goesUp 121 = .ok (.bipush (-5), 2) := by decide +kernel
theorem dX8_goesUp_123 : decode cX8_goesUp 123 = .ok (.iconst 3, 1) := by decide +kernel
theorem dX8_goesUp_124 : decode cX8_goesUp 124 = .ok (.iload_n 3, 1) := by decide +kernel
theorem dX8_goesUp_125 : decode cX8_goesUp 125 = .ok (.invokevirtual 190, 3) := by decide +kernel
theorem dX8_goesUp_128 : decode cX8_goesUp 128 = .ok (.goto 5, 3) := by decide +kernel
theorem dX8_goesUp_131 : decode cX8_goesUp 131 = .ok (.iconst (-1), 1) := by decide +kernel
theorem dX8_goesUp_132 : decode cX8_goesUp 132 = .ok (.istore_n 3, 1) := by decide +kernel
theorem dX8_goesUp_133 : decode cX8_goesUp 133 = .ok (.iload_n 3, 1) := by decide +kernel
theorem dX8_goesUp_134 : decode cX8_goesUp 134 = .ok (.istore_n 2, 1) := by decide +kernel
theorem dX8_goesUp_135 : decode cX8_goesUp 135 = .ok (.goto (-133), 3) := by decide +kernel
theorem dX8_goesUp_138 : decode cX8_goesUp 138 = .ok (.return_, 1) := by decide +kernel
theorem dX8_manyIn_0 : decode cX8_manyIn 0 = .ok (.iconst 0, 1) := by decide +kernel
theorem dX8_manyIn_1 : decode cX8_manyIn 1 = .ok (.istore_n 2, 1) := by decide +kernel
theorem dX8_manyIn_2 : decode cX8_manyIn 2 = .ok (.iconst 0, 1) := by decide +kernel
theorem dX8_manyIn_3 : decode cX8_manyIn 3 = .ok (.istore_n 3, 1) := by decide +kernel
theorem dX8_manyIn_4 : decode cX8_manyIn 4 = .ok (.iload_n 3, 1) := by decide +kernel
theorem dX8_manyIn_5 : decode cX8_manyIn 5 = .ok (.aload_n 0, 1) := by decide +kernel
theorem dX8_manyIn_6 : decode cX8_manyIn 6 = .ok (.getfield 127, 3) := by decide +kernel
theorem dX8_manyIn_9 : decode cX8_manyIn 9 = .ok (.if_icmp .ge 27, 3) := by decide +kernel
theorem dX8_manyIn_12 : decode cX8_manyIn 12 = .ok (.iload_n 2, 1) := by decide +kernel
theorem dX8_manyIn_13 : decode cX8_manyIn 13 = .ok (.aload_n 0, 1) := by decide +kernel
theorem dX8_manyIn_14 : decode cX8_manyIn 14 = .ok (.getfield 41, 3) := by decide +kernel
theorem dX8_manyIn_17 : decode cX8_manyIn 17 = .ok (.iload_n 3, 1) := by decide +kernel
theorem dX8_manyIn_18 : decode cX8_manyIn 18 = .ok (.iaload, 1) := by decide +kernel
theorem dX8_manyIn_19 : decode cX8_manyIn 19 = .ok (.iload_n 1, 1) := by decide +kernel
theorem dX8_manyIn_20 : decode cX8_manyIn 20 = .ok (.if_icmp .ne 7, 3) := by decide +kernel
theorem dX8_manyIn_23 : decode cX8_manyIn 23 = .ok (.iconst 1, 1) := by decide +kernel
theorem dX8_manyIn_24 : decode cX8_manyIn 24 = .ok (.goto 4, 3) := by decide +kernel
theorem dX8_manyIn_27 : decode cX8_manyIn 27 = .ok (.iconst 0, 1) := by decide +kernel
theorem dX8_manyIn_28 : decode cX8_manyIn 28 = .ok (.iadd, 1) := by decide +kernel
theorem dX8_manyIn_29 : decode cX8_manyIn 29 = .ok (.istore_n 2, 1) := by decide +kernel
theorem dX8_manyIn_30 : decode cX8_manyIn 30 = .ok (.iinc 3 1, 3) := by decide +kernel
theorem dX8_manyIn_33 : decode cX8_manyIn 33 = .ok (.goto (-29), 3) := by decide +kernel
theorem dX8_manyIn_36 : decode cX8_manyIn 36 = .ok (.iload_n 2, 1) := by decide +kernel
theorem dX8_manyIn_37 : decode cX8_manyIn 37 = .ok (.ireturn, 1) := by decide +kernel
theorem dX8_comesTo_0 : decode cX8_comesTo 0 = .ok (.aload_n 0, 1) := by decide +kernel
theorem dX8_comesTo_1 : decode cX8_comesTo 1 = .ok (.getfield 17, 3) := by decide +kernel
theorem dX8_comesTo_4 : decode cX8_comesTo 4 = .ok (.bipush 32, 2) := by decide +kernel
theorem dX8_comesTo_6 : decode cX8_comesTo 6 = .ok (.iload_n 1, 1) := by decide +kernel
theorem dX8_comesTo_7 : decode cX8_comesTo 7 = .ok (.imul, 1) := by decide +kernel
theorem dX8_comesTo_8 : decode cX8_comesTo 8 = .ok (.aload_n 0, 1) := by decide +kernel
theorem dX8_comesTo_9 : decode cX8_comesTo 9 = .ok (.getfield 13, 3) := by decide +kernel
theorem dX8_comesTo_12 : decode cX8_comesTo 12 = .ok (.iload_n 1, 1) := by decide +kernel
theorem dX8_comesTo_13 : decode cX8_comesTo 13 = .ok (.iaload, 1) := by decide +kernel
theorem dX8_comesTo_14 : decode cX8_comesTo 14 = .ok (.iadd, 1) := by decide +kernel
theorem dX8_comesTo_15 : decode cX8_comesTo 15 = .ok (.iload_n 2, 1) := by decide +kernel
theorem dX8_comesTo_16 : decode cX8_comesTo 16 = .ok (.iastore, 1) := by decide +kernel
theorem dX8_comesTo_17 : decode cX8_comesTo 17 = .ok (.aload_n 0, 1) := by decide +kernel
theorem dX8_comesTo_18 : decode cX8_comesTo 18 = .ok (.getfield 13, 3) := by decide +kernel
theorem dX8_comesTo_21 : decode cX8_comesTo 21 = .ok (.iload_n 1, 1) := by decide +kernel
theorem dX8_comesTo_22 : decode cX8_comesTo 22 = .ok (.dup2, 1) := by decide +kernel
theorem dX8_comesTo_23 : decode cX8_comesTo 23 = .ok (.iaload, 1) := by decide +kernel
theorem dX8_comesTo_24 : decode cX8_comesTo 24 = .ok (.iconst 1, 1) := by decide +kernel
theorem dX8_comesTo_25 : decode cX8_comesTo 25 = .ok (.iadd, 1) := by decide +kernel
theorem dX8_comesTo_26 : decode cX8_comesTo 26 = .ok (.iastore, 1) := by decide +kernel
theorem dX8_comesTo_27 : decode cX8_comesTo 27 = .ok (.return_, 1) := by decide +kernel
theorem dX8_isThrough_0 : decode cX8_isThrough 0 = .ok (.aload_n 0, 1) := by decide +kernel
theorem dX8_isThrough_1 : decode cX8_isThrough 1 = .ok (.getfield 44, 3) := by decide +kernel
theorem dX8_isThrough_4 : decode cX8_isThrough 4 = .ok (.iload_n 2, 1) := by decide +kernel
theorem dX8_isThrough_5 : decode cX8_isThrough 5 = .ok (.iaload, 1) := by decide +kernel
theorem dX8_isThrough_6 : decode cX8_isThrough 6 = .ok (.iconst 1, 1) := by decide +kernel
theorem dX8_isThrough_7 : decode cX8_isThrough 7 = .ok (.if_icmp .ne 33, 3) := by decide +kernel
theorem dX8_isThrough_10 : decode cX8_isThrough 10 = .ok (.aload_n 0, 1) := by decide +kernel
theorem dX8_isThrough_11 : decode cX8_isThrough 11 = .ok (.getfield 29, 3) := by decide +kernel
theorem dX8_isThrough_14 : decode cX8_isThrough 14 = .ok (.iload_n 2, 1) := by decide +kernel
theorem dX8_isThrough_15 : decode cX8_isThrough 15 = .ok (.iconst 4, 1) := by decide +kernel
theorem dX8_isThrough_16 : decode cX8_isThrough 16 = .ok (.iastore, 1) := by decide +kernel
theorem dX8_isThrough_17 : decode cX8_isThrough 17 = .ok (.aload_n 0, 1) := by decide +kernel
theorem dX8_isThrough_18 : decode cX8_isThrough 18 = .ok (.getfield 47, 3) := by decide +kernel
theorem dX8_isThrough_21 : decode cX8_isThrough 21 = .ok (.iload_n 2, 1) := by decide +kernel
theorem dX8_isThrough_22 : decode cX8_isThrough 22 = .ok (.bipush (-5), 2) := by decide +kernel
theorem dX8_isThrough_24 : decode cX8_isThrough 24 = .ok (.iastore, 1) := by decide +kernel
theorem dX8_isThrough_25 : decode cX8_isThrough 25 = .ok (.aload_n 0, 1) := by decide +kernel
theorem dX8_isThrough_26 : decode cX8_isThrough 26 = .ok (.iload_n 1, 1) := by decide +kernel
theorem dX8_isThrough_27 : decode cX8_isThrough 27 = .ok (.iconst 4, 1) := by decide +kernel
theorem dX8_isThrough_28 : decode cX8_isThrough 28 = .ok (.iload_n 2, 1) := by decide +kernel
theorem dX8_isThrough_29 : decode cX8_isThrough 29 = .ok (.invokevirtual 190, 3) := by decide +kernel
theorem dX8_isThrough_32 : decode cX8_isThrough 32 = .ok (.aload_n 0, 1) := by decide +kernel
theorem dX8_isThrough_33 : decode cX8_isThrough 33 = .ok (.iload_n 2, 1) := by decide +kernel
theorem dX8_isThrough_34 : decode cX8_isThrough 34 = .ok (.invokevirtual 207, 3) := by decide +kernel
theorem dX8_isThrough_37 : decode cX8_isThrough 37 = .ok (.goto 91, 3) := by decide +kernel
theorem dX8_isThrough_40 : decode cX8_isThrough 40 = .ok (.aload_n 0, 1) := by decide +kernel
theorem dX8_isThrough_41 : decode cX8_isThrough 41 = .ok (.iload_n 2, 1) := by decide +kernel
theorem dX8_isThrough_42 : decode cX8_isThrough 42 = .ok (.invokevirtual 201, 3) := by decide +kernel
theorem dX8_isThrough_45 : decode cX8_isThrough 45 = .ok (.ifCond .ne 53, 3) := by decide +kernel
theorem dX8_isThrough_48 : decode cX8_isThrough 48 = .ok (.aload_n 0, 1) := by decide +kernel
theorem dX8_isThrough_49 : decode cX8_isThrough 49 = .ok (.getfield 29, 3) := by decide +kernel
theorem dX8_isThrough_52 : decode cX8_isThrough 52 = .ok (.iload_n 2, 1) := by decide +kernel
theorem dX8_isThrough_53 : decode cX8_isThrough 53 = .ok (.iconst 2, 1) := by decide +kernel
theorem dX8_isThrough_54 : decode cX8_isThrough 54 = .ok (.iastore, 1) := by decide +kernel
theorem dX8_isThrough_55 : decode cX8_isThrough 55 = .ok (.iconst 0, 1) := by decide +kernel
theorem dX8_isThrough_56 : decode cX8_isThrough 56 = .ok (.istore_n 3, 1) := by decide +kernel
theorem dX8_isThrough_57 : decode cX8_isThrough 57 = .ok (.iload_n 3, 1) := by decide +kernel
theorem dX8_isThrough_58 : decode cX8_isThrough 58 = .ok (.aload_n 0, 1) := by decide +kernel
theorem dX8_isThrough_59 : decode cX8_isThrough 59 = .ok (.getfield 127, 3) := by decide +kernel
theorem dX8_isThrough_62 : decode cX8_isThrough 62 = .ok (.if_icmp .ge 33, 3) := by decide +kernel
theorem dX8_isThrough_65 : decode cX8_isThrough 65 = .ok (.aload_n 0, 1) := by decide +kernel
theorem dX8_isThrough_66 : decode cX8_isThrough 66 = .ok (.getfield 41, 3) := by decide +kernel
theorem dX8_isThrough_69 : decode cX8_isThrough 69 = .ok (.iload_n 3, 1) := by decide +kernel
theorem dX8_isThrough_70 : decode cX8_isThrough 70 = .ok (.iaload, 1) := by decide +kernel
theorem dX8_isThrough_71 : decode cX8_isThrough 71 = .ok (.iload_n 2, 1) := by decide +kernel
theorem dX8_isThrough_72 : decode cX8_isThrough 72 = .ok (.if_icmp .ne 17, 3) := by decide +kernel
theorem dX8_isThrough_75 : decode cX8_isThrough 75 = .ok (.aload_n 0, 1) := by decide +kernel
theorem dX8_isThrough_76 : decode cX8_isThrough 76 = .ok (.iload_n 3, 1) := by decide +kernel
theorem dX8_isThrough_77 : decode cX8_isThrough 77 = .ok (.invokevirtual 183, 3) := by decide +kernel
theorem dX8_isThrough_80 : decode cX8_isThrough 80 = .ok (.ifCond .ne 9, 3) := by decide +kernel
theorem dX8_isThrough_83 : decode cX8_isThrough 83 = .ok (.aload_n 0, 1) := by decide +kernel
theorem dX8_isThrough_84 : decode cX8_isThrough 84 = .ok (.iload_n 1, 1) := by decide +kernel
theorem dX8_isThrough_85 : decode cX8_isThrough 85 = .ok (.iload_n 3, 1) := by decide +kernel
theorem dX8_isThrough_86 : decode cX8_isThrough 86 = .ok (.invokevirtual 210, 3) := by decide +kernel
theorem dX8_isThrough_89 : decode cX8_isThrough 89 = .ok (.iinc 3 1, 3) := by decide +kernel
theorem dX8_isThrough_92 : decode cX8_isThrough 92 = .ok (.goto (-35), 3) := by decide +kernel
theorem dX8_isThrough_95 : decode cX8_isThrough 95 = .ok (.goto 33, 3) := by decide +kernel
theorem dX8_isThrough_98 : decode cX8_isThrough 98 = .ok (.aload_n 0, 1) := by decide +kernel
theorem dX8_isThrough_99 : decode cX8_isThrough 99 = .ok (.getfield 29, 3) := by decide +kernel
theorem dX8_isThrough_102 : decode cX8_isThrough 102 = .ok (.iload_n 2, 1) := by decide +kernel
theorem dX8_isThrough_103 : decode cX8_isThrough 103 = .ok (.iconst 3, 1) := by decide +kernel
theorem dX8_isThrough_104 : decode cX8_isThrough 104 = .ok (.iastore, 1) := by decide +kernel
theorem dX8_isThrough_105 : decode cX8_isThrough 105 = .ok (.aload_n 0, 1) := by decide +kernel
theorem dX8_isThrough_106 : decode cX8_isThrough 106 = .ok (.getfield 38, 3) := by decide +kernel
theorem dX8_isThrough_109 : decode cX8_isThrough 109 = .ok (.iload_n 2, 1) := by decide +kernel
theorem dX8_isThrough_110 : decode cX8_isThrough 110 = .ok (.aload_n 0, 1) := by decide +kernel
theorem dX8_isThrough_111 : decode cX8_isThrough 111 = .ok (.iload_n 2, 1) := by decide +kernel
theorem dX8_isThrough_112 : decode cX8_isThrough 112 = .ok (.invokevirtual 204, 3) := by decide +kernel
theorem dX8_isThrough_115 : decode cX8_isThrough 115 = .ok (.iastore, 1) := by decide +kernel
theorem dX8_isThrough_116 : decode cX8_isThrough 116 = .ok (.aload_n 0, 1) := by decide +kernel
theorem dX8_isThrough_117 : decode cX8_isThrough 117 = .ok (.iload_n 1, 1) := by decide +kernel
theorem dX8_isThrough_118 : decode cX8_isThrough 118 = .ok (.iconst 3, 1) := by decide +kernel
theorem dX8_isThrough_119 : decode cX8_isThrough 119 = .ok (.iload_n 2, 1) := by decide +kernel
theorem dX8_isThrough_120 : decode cX8_isThrough 120 = .ok (.invokevirtual 190, 3) := by decide +kernel
theorem dX8_isThrough_123 : decode cX8_isThrough 123 = .ok (.aload_n 0, 1) := by decide +kernel
theorem dX8_isThrough_124 : decode cX8_isThrough 124 = .ok (.iload_n 2, 1) := by decide +kernel
theorem dX8_isThrough_125 : decode cX8_isThrough 125 = .ok (.invokevirtual 207, 3) := by decide +kernel
theorem dX8_isThrough_128 : decode cX8_isThrough 128 = .ok (.return_, 1) := by decide +kernel
theorem dX8_drawBelow_0 : decode cX8_drawBelow 0 = .ok (.aload_n 0, 1) := by decide +kernel
theorem dX8_drawBelow_1 : decode cX8_drawBelow 1 = .ok (.aload_n 0, 1) := by decide +kernel
theorem dX8_drawBelow_2 : decode cX8_drawBelow 2 = .ok (.getfield 50, 3) := by decide +kernel
theorem dX8_drawBelow_5 : decode cX8_drawBelow 5 = .ok (.ldc 214, 2) := by decide +kernel
theorem dX8_drawBelow_7 : decode cX8_drawBelow 7 = .ok (.imul, 1) := by decide +kernel
theorem dX8_drawBelow_8 : decode cX8_drawBelow 8 = .ok (.sipush 12345, 3) := by decide +kernel
theorem dX8_drawBelow_11 : decode cX8_drawBelow 11 = .ok (.iadd, 1) := by decide +kernel
theorem dX8_drawBelow_12 : decode cX8_drawBelow 12 = .ok (.putfield 50, 3) := by decide +kernel
theorem dX8_drawBelow_15 : decode cX8_drawBelow 15 = .ok (.aload_n 0, 1) := by decide +kernel
theorem dX8_drawBelow_16 : decode cX8_drawBelow 16 = .ok (.getfield 50, 3) := by decide +kernel
theorem dX8_drawBelow_19 : decode cX8_drawBelow 19 = .ok (.bipush 16, 2) := by decide +kernel
theorem dX8_drawBelow_21 : decode cX8_drawBelow 21 = .ok (.iushr, 1) := by decide +kernel
theorem dX8_drawBelow_22 : decode cX8_drawBelow 22 = .ok (.iload_n 1, 1) := by decide +kernel
theorem dX8_drawBelow_23 : decode cX8_drawBelow 23 = .ok (.irem, 1) := by decide +kernel
theorem dX8_drawBelow_24 : decode cX8_drawBelow 24 = .ok (.ireturn, 1) := by decide +kernel
theorem dX8_fullOthers_0 : decode cX8_fullOthers 0 = .ok (.iconst 0, 1) := by decide +kernel
theorem dX8_fullOthers_1 : decode cX8_fullOthers 1 = .ok (.istore_n 2, 1) := by decide +kernel
theorem dX8_fullOthers_2 : decode cX8_fullOthers 2 = .ok (.iconst 0, 1) := by decide +kernel
theorem dX8_fullOthers_3 : decode cX8_fullOthers 3 = .ok (.istore_n 3, 1) := by decide +kernel
theorem dX8_fullOthers_4 : decode cX8_fullOthers 4 = .ok (.iload_n 3, 1) := by decide +kernel
theorem dX8_fullOthers_5 : decode cX8_fullOthers 5 = .ok (.aload_n 0, 1) := by decide +kernel
theorem dX8_fullOthers_6 : decode cX8_fullOthers 6 = .ok (.getfield 7, 3) := by decide +kernel
theorem dX8_fullOthers_9 : decode cX8_fullOthers 9 = .ok (.if_icmp .ge 31, 3) := by decide +kernel
theorem dX8_fullOthers_12 : decode cX8_fullOthers 12 = .ok (.iload_n 2, 1) := by decide +kernel
theorem dX8_fullOthers_13 : decode cX8_fullOthers 13 = .ok (.iload_n 3, 1) := by decide +kernel
theorem dX8_fullOthers_14 : decode cX8_fullOthers 14 = .ok (.iload_n 1, 1) := by decide +kernel
theorem dX8_fullOthers_15 : decode cX8_fullOthers 15 = .ok (.if_icmp .eq 16, 3) := by decide +kernel
theorem dX8_fullOthers_18 : decode cX8_fullOthers 18 = .ok (.aload_n 0, 1) := by decide +kernel
theorem dX8_fullOthers_19 : decode cX8_fullOthers 19 = .ok (.getfield 13, 3) := by decide +kernel
theorem dX8_fullOthers_22 : decode cX8_fullOthers 22 = .ok (.iload_n 3, 1) := by decide +kernel
theorem dX8_fullOthers_23 : decode cX8_fullOthers 23 = .ok (.iaload, 1) := by decide +kernel
theorem dX8_fullOthers_24 : decode cX8_fullOthers 24 = .ok (.ifCond .le 7, 3) := by decide +kernel
theorem dX8_fullOthers_27 : decode cX8_fullOthers 27 = .ok (.iconst 1, 1) := by decide +kernel
theorem dX8_fullOthers_28 : decode cX8_fullOthers 28 = .ok (.goto 4, 3) := by decide +kernel
theorem dX8_fullOthers_31 : decode cX8_fullOthers 31 = .ok (.iconst 0, 1) := by decide +kernel
theorem dX8_fullOthers_32 : decode cX8_fullOthers 32 = .ok (.iadd, 1) := by decide +kernel
theorem dX8_fullOthers_33 : decode cX8_fullOthers 33 = .ok (.istore_n 2, 1) := by decide +kernel
theorem dX8_fullOthers_34 : decode cX8_fullOthers 34 = .ok (.iinc 3 1, 3) := by decide +kernel
theorem dX8_fullOthers_37 : decode cX8_fullOthers 37 = .ok (.goto (-33), 3) := by decide +kernel
theorem dX8_fullOthers_40 : decode cX8_fullOthers 40 = .ok (.iload_n 2, 1) := by decide +kernel
theorem dX8_fullOthers_41 : decode cX8_fullOthers 41 = .ok (.ireturn, 1) := by decide +kernel
theorem dX8_worksOn_0 : decode cX8_worksOn 0 = .ok (.aload_n 0, 1) := by decide +kernel
theorem dX8_worksOn_1 : decode cX8_worksOn 1 = .ok (.getfield 20, 3) := by decide +kernel
theorem dX8_worksOn_4 : decode cX8_worksOn 4 = .ok (.iload_n 1, 1) := by decide +kernel
theorem dX8_worksOn_5 : decode cX8_worksOn 5 = .ok (.iload_n 2, 1) := by decide +kernel
theorem dX8_worksOn_6 : decode cX8_worksOn 6 = .ok (.iastore, 1) := by decide +kernel
theorem dX8_worksOn_7 : decode cX8_worksOn 7 = .ok (.aload_n 0, 1) := by decide +kernel
theorem dX8_worksOn_8 : decode cX8_worksOn 8 = .ok (.getfield 29, 3) := by decide +kernel
theorem dX8_worksOn_11 : decode cX8_worksOn 11 = .ok (.iload_n 2, 1) := by decide +kernel
theorem dX8_worksOn_12 : decode cX8_worksOn 12 = .ok (.iconst 1, 1) := by decide +kernel
theorem dX8_worksOn_13 : decode cX8_worksOn 13 = .ok (.iastore, 1) := by decide +kernel
theorem dX8_worksOn_14 : decode cX8_worksOn 14 = .ok (.aload_n 0, 1) := by decide +kernel
theorem dX8_worksOn_15 : decode cX8_worksOn 15 = .ok (.iload_n 1, 1) := by decide +kernel
theorem dX8_worksOn_16 : decode cX8_worksOn 16 = .ok (.iload_n 3, 1) := by decide +kernel
theorem dX8_worksOn_17 : decode cX8_worksOn 17 = .ok (.iload_n 2, 1) := by decide +kernel
theorem dX8_worksOn_18 : decode cX8_worksOn 18 = .ok (.invokevirtual 190, 3) := by decide +kernel
theorem dX8_worksOn_21 : decode cX8_worksOn 21 = .ok (.return_, 1) := by decide +kernel
theorem dX8_steals_0 : decode cX8_steals 0 = .ok (.aload_n 0, 1) := by decide +kernel
theorem dX8_steals_1 : decode cX8_steals 1 = .ok (.iload_n 2, 1) := by decide +kernel
theorem dX8_steals_2 : decode cX8_steals 2 = .ok (.invokevirtual 215, 3) := by decide +kernel
theorem dX8_steals_5 : decode cX8_steals 5 = .ok (.istore_n 3, 1) := by decide +kernel
theorem dX8_steals_6 : decode cX8_steals 6 = .ok (.iconst (-1), 1) := by decide +kernel
theorem dX8_steals_7 : decode cX8_steals 7 = .ok (.istore 4, 2) := by decide +kernel
theorem dX8_steals_9 : decode cX8_steals 9 = .ok (.iconst 0, 1) := by decide +kernel
theorem dX8_steals_10 : decode cX8_steals 10 = .ok (.istore 5, 2) := by decide +kernel
theorem dX8_steals_12 : decode cX8_steals 12 = .ok (.iload 5, 2) := by decide +kernel
theorem dX8_steals_14 : decode cX8_steals 14 = .ok (.aload_n 0, 1) := by decide +kernel
theorem dX8_steals_15 : decode cX8_steals 15 = .ok (.getfield 7, 3) := by decide +kernel
theorem dX8_steals_18 : decode cX8_steals 18 = .ok (.if_icmp .ge 63, 3) := by decide +kernel
theorem dX8_steals_21 : decode cX8_steals 21 = .ok (.iload 5, 2) := by decide +kernel
theorem dX8_steals_23 : decode cX8_steals 23 = .ok (.iload_n 1, 1) := by decide +kernel
theorem dX8_steals_24 : decode cX8_steals 24 = .ok (.if_icmp .eq 17, 3) := by decide +kernel
theorem dX8_steals_27 : decode cX8_steals 27 = .ok (.aload_n 0, 1) := by decide +kernel
theorem dX8_steals_28 : decode cX8_steals 28 = .ok (.getfield 13, 3) := by decide +kernel
theorem dX8_steals_31 : decode cX8_steals 31 = .ok (.iload 5, 2) := by decide +kernel
theorem dX8_steals_33 : decode cX8_steals 33 = .ok (.iaload, 1) := by decide +kernel
theorem dX8_steals_34 : decode cX8_steals 34 = .ok (.ifCond .le 7, 3) := by decide +kernel
theorem dX8_steals_37 : decode cX8_steals 37 = .ok (.iconst 1, 1) := by decide +kernel
theorem dX8_steals_38 : decode cX8_steals 38 = .ok (.goto 4, 3) := by decide +kernel
theorem dX8_steals_41 : decode cX8_steals 41 = .ok (.iconst 0, 1) := by decide +kernel
theorem dX8_steals_42 : decode cX8_steals 42 = .ok (.istore 6, 2) := by decide +kernel
theorem dX8_steals_44 : decode cX8_steals 44 = .ok (.iload 6, 2) := by decide +kernel
theorem dX8_steals_46 : decode cX8_steals 46 = .ok (.ifCond .eq 12, 3) := by decide +kernel
theorem dX8_steals_49 : decode cX8_steals 49 = .ok (.iload_n 3, 1) := by decide +kernel
theorem dX8_steals_50 : decode cX8_steals 50 = .ok (.ifCond .ne 8, 3) := by decide +kernel
theorem dX8_steals_53 : decode cX8_steals 53 = .ok (.iload 5, 2) := by decide +kernel
theorem dX8_steals_55 : decode cX8_steals 55 = .ok (.goto 5, 3) := by decide +kernel
theorem dX8_steals_58 : decode cX8_steals 58 = .ok (.iload 4, 2) := by decide +kernel
theorem dX8_steals_60 : decode cX8_steals 60 = .ok (.istore 4, 2) := by decide +kernel
theorem dX8_steals_62 : decode cX8_steals 62 = .ok (.iload_n 3, 1) := by decide +kernel
theorem dX8_steals_63 : decode cX8_steals 63 = .ok (.iload 6, 2) := by decide +kernel
theorem dX8_steals_65 : decode cX8_steals 65 = .ok (.ifCond .eq 7, 3) := by decide +kernel
theorem dX8_steals_68 : decode cX8_steals 68 = .ok (.iconst 1, 1) := by decide +kernel
theorem dX8_steals_69 : decode cX8_steals 69 = .ok (.goto 4, 3) := by decide +kernel
theorem dX8_steals_72 : decode cX8_steals 72 = .ok (.iconst 0, 1) := by decide +kernel
theorem dX8_steals_73 : decode cX8_steals 73 = .ok (.isub, 1) := by decide +kernel
theorem dX8_steals_74 : decode cX8_steals 74 = .ok (.istore_n 3, 1) := by decide +kernel
theorem dX8_steals_75 : decode cX8_steals 75 = .ok (.iinc 5 1, 3) := by decide +kernel
theorem dX8_steals_78 : decode cX8_steals 78 = .ok (.goto (-66), 3) := by decide +kernel
theorem dX8_steals_81 : decode cX8_steals 81 = .ok (.aload_n 0, 1) := by decide +kernel
theorem dX8_steals_82 : decode cX8_steals 82 = .ok (.getfield 17, 3) := by decide +kernel
theorem dX8_steals_85 : decode cX8_steals 85 = .ok (.bipush 32, 2) := by decide +kernel
theorem dX8_steals_87 : decode cX8_steals 87 = .ok (.iload 4, 2) := by decide +kernel
theorem dX8_steals_89 : decode cX8_steals 89 = .ok (.imul, 1) := by decide +kernel
theorem dX8_steals_90 : decode cX8_steals 90 = .ok (.iaload, 1) := by decide +kernel
theorem dX8_steals_91 : decode cX8_steals 91 = .ok (.istore 5, 2) := by decide +kernel
theorem dX8_steals_93 : decode cX8_steals 93 = .ok (.aload_n 0, 1) := by decide +kernel
theorem dX8_steals_94 : decode cX8_steals 94 = .ok (.iload 5, 2) := by decide +kernel
theorem dX8_steals_96 : decode cX8_steals 96 = .ok (.invokevirtual 187, 3) := by decide +kernel
theorem dX8_steals_99 : decode cX8_steals 99 = .ok (.aload_n 0, 1) := by decide +kernel
theorem dX8_steals_100 : decode cX8_steals 100 = .ok (.getfield 26, 3) := by decide +kernel
theorem dX8_steals_103 : decode cX8_steals 103 = .ok (.iload_n 1, 1) := by decide +kernel
theorem dX8_steals_104 : decode cX8_steals 104 = .ok (.dup2, 1) := by decide +kernel
theorem dX8_steals_105 : decode cX8_steals 105 = .ok (.iaload, 1) := by decide +kernel
theorem dX8_steals_106 : decode cX8_steals 106 = .ok (.iconst 1, 1) := by decide +kernel
theorem dX8_steals_107 : decode cX8_steals 107 = .ok (.iadd, 1) := by decide +kernel
theorem dX8_steals_108 : decode cX8_steals 108 = .ok (.iastore, 1) := by decide +kernel
theorem dX8_steals_109 : decode cX8_steals 109 = .ok (.aload_n 0, 1) := by decide +kernel
theorem dX8_steals_110 : decode cX8_steals 110 = .ok (.iload_n 1, 1) := by decide +kernel
theorem dX8_steals_111 : decode cX8_steals 111 = .ok (.iload 5, 2) := by decide +kernel
theorem dX8_steals_113 : decode cX8_steals 113 = .ok (.iconst 1, 1) := by decide +kernel
theorem dX8_steals_114 : decode cX8_steals 114 = .ok (.invokevirtual 218, 3) := by decide +kernel
theorem dX8_steals_117 : decode cX8_steals 117 = .ok (.return_, 1) := by decide +kernel
theorem dX8_armGoes_0 : decode cX8_armGoes 0 = .ok (.aload_n 0, 1) := by decide +kernel
theorem dX8_armGoes_1 : decode cX8_armGoes 1 = .ok (.getfield 20, 3) := by decide +kernel
theorem dX8_armGoes_4 : decode cX8_armGoes 4 = .ok (.iload_n 1, 1) := by decide +kernel
theorem dX8_armGoes_5 : decode cX8_armGoes 5 = .ok (.iaload, 1) := by decide +kernel
theorem dX8_armGoes_6 : decode cX8_armGoes 6 = .ok (.istore_n 2, 1) := by decide +kernel
theorem dX8_armGoes_7 : decode cX8_armGoes 7 = .ok (.iload_n 2, 1) := by decide +kernel
theorem dX8_armGoes_8 : decode cX8_armGoes 8 = .ok (.ifCond .lt 39, 3) := by decide +kernel
theorem dX8_armGoes_11 : decode cX8_armGoes 11 = .ok (.aload_n 0, 1) := by decide +kernel
theorem dX8_armGoes_12 : decode cX8_armGoes 12 = .ok (.getfield 35, 3) := by decide +kernel
theorem dX8_armGoes_15 : decode cX8_armGoes 15 = .ok (.iload_n 2, 1) := by decide +kernel
theorem dX8_armGoes_16 : decode cX8_armGoes 16 = .ok (.dup2, 1) := by decide +kernel
theorem dX8_armGoes_17 : decode cX8_armGoes 17 = .ok (.iaload, 1) := by decide +kernel
theorem dX8_armGoes_18 : decode cX8_armGoes 18 = .ok (.iconst 1, 1) := by decide +kernel
theorem dX8_armGoes_19 : decode cX8_armGoes 19 = .ok (.isub, 1) := by decide +kernel
theorem dX8_armGoes_20 : decode cX8_armGoes 20 = .ok (.iastore, 1) := by decide +kernel
theorem dX8_armGoes_21 : decode cX8_armGoes 21 = .ok (.aload_n 0, 1) := by decide +kernel
theorem dX8_armGoes_22 : decode cX8_armGoes 22 = .ok (.getfield 35, 3) := by decide +kernel
theorem dX8_armGoes_25 : decode cX8_armGoes 25 = .ok (.iload_n 2, 1) := by decide +kernel
theorem dX8_armGoes_26 : decode cX8_armGoes 26 = .ok (.iaload, 1) := by decide +kernel
theorem dX8_armGoes_27 : decode cX8_armGoes 27 = .ok (.ifCond .ne 95, 3) := by decide +kernel
theorem dX8_armGoes_30 : decode cX8_armGoes 30 = .ok (.aload_n 0, 1) := by decide +kernel
theorem dX8_armGoes_31 : decode cX8_armGoes 31 = .ok (.getfield 20, 3) := by decide +kernel
theorem dX8_armGoes_34 : decode cX8_armGoes 34 = .ok (.iload_n 1, 1) := by decide +kernel
theorem dX8_armGoes_35 : decode cX8_armGoes 35 = .ok (.bipush (-5), 2) := by decide +kernel
theorem dX8_armGoes_37 : decode cX8_armGoes 37 = .ok (.iastore, 1) := by decide +kernel
theorem dX8_armGoes_38 : decode cX8_armGoes 38 = .ok (.aload_n 0, 1) := by decide +kernel
theorem dX8_armGoes_39 : decode cX8_armGoes 39 = .ok (.iload_n 1, 1) := by decide +kernel
theorem dX8_armGoes_40 : decode cX8_armGoes 40 = .ok (.iload_n 2, 1) := by decide +kernel
theorem dX8_armGoes_41 : decode cX8_armGoes 41 = .ok (.invokevirtual 221, 3) := by decide +kernel
theorem dX8_armGoes_44 : decode cX8_armGoes 44 = .ok (.goto 78, 3) := by decide +kernel
theorem dX8_armGoes_47 : decode cX8_armGoes 47 = .ok (.aload_n 0, 1) := by decide +kernel
theorem dX8_armGoes_48 : decode cX8_armGoes 48 = .ok (.getfield 13, 3) := by decide +kernel
theorem dX8_armGoes_51 : decode cX8_armGoes 51 = .ok (.iload_n 1, 1) := by decide +kernel
theorem dX8_armGoes_52 : decode cX8_armGoes 52 = .ok (.iaload, 1) := by decide +kernel
theorem dX8_armGoes_53 : decode cX8_armGoes 53 = .ok (.ifCond .le 38, 3) := by decide +kernel
theorem dX8_armGoes_56 : decode cX8_armGoes 56 = .ok (.aload_n 0, 1) := by decide +kernel
theorem dX8_armGoes_57 : decode cX8_armGoes 57 = .ok (.getfield 13, 3) := by decide +kernel
theorem dX8_armGoes_60 : decode cX8_armGoes 60 = .ok (.iload_n 1, 1) := by decide +kernel
theorem dX8_armGoes_61 : decode cX8_armGoes 61 = .ok (.dup2, 1) := by decide +kernel
theorem dX8_armGoes_62 : decode cX8_armGoes 62 = .ok (.iaload, 1) := by decide +kernel
theorem dX8_armGoes_63 : decode cX8_armGoes 63 = .ok (.iconst 1, 1) := by decide +kernel
theorem dX8_armGoes_64 : decode cX8_armGoes 64 = .ok (.isub, 1) := by decide +kernel
theorem dX8_armGoes_65 : decode cX8_armGoes 65 = .ok (.iastore, 1) := by decide +kernel
theorem dX8_armGoes_66 : decode cX8_armGoes 66 = .ok (.aload_n 0, 1) := by decide +kernel
theorem dX8_armGoes_67 : decode cX8_armGoes 67 = .ok (.iload_n 1, 1) := by decide +kernel
theorem dX8_armGoes_68 : decode cX8_armGoes 68 = .ok (.aload_n 0, 1) := by decide +kernel
theorem dX8_armGoes_69 : decode cX8_armGoes 69 = .ok (.getfield 17, 3) := by decide +kernel
theorem dX8_armGoes_72 : decode cX8_armGoes 72 = .ok (.bipush 32, 2) := by decide +kernel
theorem dX8_armGoes_74 : decode cX8_armGoes 74 = .ok (.iload_n 1, 1) := by decide +kernel
theorem dX8_armGoes_75 : decode cX8_armGoes 75 = .ok (.imul, 1) := by decide +kernel
theorem dX8_armGoes_76 : decode cX8_armGoes 76 = .ok (.aload_n 0, 1) := by decide +kernel
theorem dX8_armGoes_77 : decode cX8_armGoes 77 = .ok (.getfield 13, 3) := by decide +kernel
theorem dX8_armGoes_80 : decode cX8_armGoes 80 = .ok (.iload_n 1, 1) := by decide +kernel
theorem dX8_armGoes_81 : decode cX8_armGoes 81 = .ok (.iaload, 1) := by decide +kernel
theorem dX8_armGoes_82 : decode cX8_armGoes 82 = .ok (.iadd, 1) := by decide +kernel
theorem dX8_armGoes_83 : decode cX8_armGoes 83 = .ok (.iaload, 1) := by decide +kernel
theorem dX8_armGoes_84 : decode cX8_armGoes 84 = .ok (.iconst 0, 1) := by decide +kernel
theorem dX8_armGoes_85 : decode cX8_armGoes 85 = .ok (.invokevirtual 218, 3) := by decide +kernel
theorem dX8_armGoes_88 : decode cX8_armGoes 88 = .ok (.goto 34, 3) := by decide +kernel
theorem dX8_armGoes_91 : decode cX8_armGoes 91 = .ok (.aload_n 0, 1) := by decide +kernel
theorem dX8_armGoes_92 : decode cX8_armGoes 92 = .ok (.iload_n 1, 1) := by decide +kernel
theorem dX8_armGoes_93 : decode cX8_armGoes 93 = .ok (.invokevirtual 224, 3) := by decide +kernel
theorem dX8_armGoes_96 : decode cX8_armGoes 96 = .ok (.ifCond .le 16, 3) := by decide +kernel
theorem dX8_armGoes_99 : decode cX8_armGoes 99 = .ok (.aload_n 0, 1) := by decide +kernel
theorem dX8_armGoes_100 : decode cX8_armGoes 100 = .ok (.iload_n 1, 1) := by decide +kernel
theorem dX8_armGoes_101 : decode cX8_armGoes 101 = .ok (.aload_n 0, 1) := by decide +kernel
theorem dX8_armGoes_102 : decode cX8_armGoes 102 = .ok (.iload_n 1, 1) := by decide +kernel
theorem dX8_armGoes_103 : decode cX8_armGoes 103 = .ok (.invokevirtual 224, 3) := by decide +kernel
theorem dX8_armGoes_106 : decode cX8_armGoes 106 = .ok (.invokevirtual 227, 3) := by decide +kernel
theorem dX8_armGoes_109 : decode cX8_armGoes 109 = .ok (.goto 13, 3) := by decide +kernel
theorem dX8_armGoes_112 : decode cX8_armGoes 112 = .ok (.aload_n 0, 1) := by decide +kernel
theorem dX8_armGoes_113 : decode cX8_armGoes 113 = .ok (.getfield 23, 3) := by decide +kernel
theorem dX8_armGoes_116 : decode cX8_armGoes 116 = .ok (.iload_n 1, 1) := by decide +kernel
theorem dX8_armGoes_117 : decode cX8_armGoes 117 = .ok (.dup2, 1) := by decide +kernel
theorem dX8_armGoes_118 : decode cX8_armGoes 118 = .ok (.iaload, 1) := by decide +kernel
theorem dX8_armGoes_119 : decode cX8_armGoes 119 = .ok (.iconst 1, 1) := by decide +kernel
theorem dX8_armGoes_120 : decode cX8_armGoes 120 = .ok (.iadd, 1) := by decide +kernel
theorem dX8_armGoes_121 : decode cX8_armGoes 121 = .ok (.iastore, 1) := by decide +kernel
theorem dX8_armGoes_122 : decode cX8_armGoes 122 = .ok (.return_, 1) := by decide +kernel
theorem dX8_roundOn_0 : decode cX8_roundOn 0 = .ok (.iconst 0, 1) := by decide +kernel
theorem dX8_roundOn_1 : decode cX8_roundOn 1 = .ok (.istore_n 1, 1) := by decide +kernel
theorem dX8_roundOn_2 : decode cX8_roundOn 2 = .ok (.iload_n 1, 1) := by decide +kernel
theorem dX8_roundOn_3 : decode cX8_roundOn 3 = .ok (.aload_n 0, 1) := by decide +kernel
theorem dX8_roundOn_4 : decode cX8_roundOn 4 = .ok (.getfield 7, 3) := by decide +kernel
theorem dX8_roundOn_7 : decode cX8_roundOn 7 = .ok (.if_icmp .ge 14, 3) := by decide +kernel
theorem dX8_roundOn_10 : decode cX8_roundOn 10 = .ok (.aload_n 0, 1) := by decide +kernel
theorem dX8_roundOn_11 : decode cX8_roundOn 11 = .ok (.iload_n 1, 1) := by decide +kernel
theorem dX8_roundOn_12 : decode cX8_roundOn 12 = .ok (.invokevirtual 230, 3) := by decide +kernel
theorem dX8_roundOn_15 : decode cX8_roundOn 15 = .ok (.iinc 1 1, 3) := by decide +kernel
theorem dX8_roundOn_18 : decode cX8_roundOn 18 = .ok (.goto (-16), 3) := by decide +kernel
theorem dX8_roundOn_21 : decode cX8_roundOn 21 = .ok (.aload_n 0, 1) := by decide +kernel
theorem dX8_roundOn_22 : decode cX8_roundOn 22 = .ok (.dup, 1) := by decide +kernel
theorem dX8_roundOn_23 : decode cX8_roundOn 23 = .ok (.getfield 157, 3) := by decide +kernel
theorem dX8_roundOn_26 : decode cX8_roundOn 26 = .ok (.iconst 1, 1) := by decide +kernel
theorem dX8_roundOn_27 : decode cX8_roundOn 27 = .ok (.iadd, 1) := by decide +kernel
theorem dX8_roundOn_28 : decode cX8_roundOn 28 = .ok (.putfield 157, 3) := by decide +kernel
theorem dX8_roundOn_31 : decode cX8_roundOn 31 = .ok (.return_, 1) := by decide +kernel
theorem dX8_goRounds_0 : decode cX8_goRounds 0 = .ok (.iconst 0, 1) := by decide +kernel
theorem dX8_goRounds_1 : decode cX8_goRounds 1 = .ok (.istore_n 2, 1) := by decide +kernel
theorem dX8_goRounds_2 : decode cX8_goRounds 2 = .ok (.iload_n 2, 1) := by decide +kernel
theorem dX8_goRounds_3 : decode cX8_goRounds 3 = .ok (.iload_n 1, 1) := by decide +kernel
theorem dX8_goRounds_4 : decode cX8_goRounds 4 = .ok (.if_icmp .ge 13, 3) := by decide +kernel
theorem dX8_goRounds_7 : decode cX8_goRounds 7 = .ok (.aload_n 0, 1) := by decide +kernel
theorem dX8_goRounds_8 : decode cX8_goRounds 8 = .ok (.invokevirtual 233, 3) := by decide +kernel
theorem dX8_goRounds_11 : decode cX8_goRounds 11 = .ok (.iinc 2 1, 3) := by decide +kernel
theorem dX8_goRounds_14 : decode cX8_goRounds 14 = .ok (.goto (-12), 3) := by decide +kernel
theorem dX8_goRounds_17 : decode cX8_goRounds 17 = .ok (.return_, 1) := by decide +kernel
theorem dX8_isOver_0 : decode cX8_isOver 0 = .ok (.iconst 1, 1) := by decide +kernel
theorem dX8_isOver_1 : decode cX8_isOver 1 = .ok (.istore_n 1, 1) := by decide +kernel
theorem dX8_isOver_2 : decode cX8_isOver 2 = .ok (.iconst 0, 1) := by decide +kernel
theorem dX8_isOver_3 : decode cX8_isOver 3 = .ok (.istore_n 2, 1) := by decide +kernel
theorem dX8_isOver_4 : decode cX8_isOver 4 = .ok (.iload_n 2, 1) := by decide +kernel
theorem dX8_isOver_5 : decode cX8_isOver 5 = .ok (.aload_n 0, 1) := by decide +kernel
theorem dX8_isOver_6 : decode cX8_isOver 6 = .ok (.getfield 127, 3) := by decide +kernel
theorem dX8_isOver_9 : decode cX8_isOver 9 = .ok (.if_icmp .ge 39, 3) := by decide +kernel
theorem dX8_isOver_12 : decode cX8_isOver 12 = .ok (.iload_n 1, 1) := by decide +kernel
theorem dX8_isOver_13 : decode cX8_isOver 13 = .ok (.ifCond .eq 27, 3) := by decide +kernel
theorem dX8_isOver_16 : decode cX8_isOver 16 = .ok (.aload_n 0, 1) := by decide +kernel
theorem dX8_isOver_17 : decode cX8_isOver 17 = .ok (.getfield 29, 3) := by decide +kernel
theorem dX8_isOver_20 : decode cX8_isOver 20 = .ok (.iload_n 2, 1) := by decide +kernel
theorem dX8_isOver_21 : decode cX8_isOver 21 = .ok (.iaload, 1) := by decide +kernel
theorem dX8_isOver_22 : decode cX8_isOver 22 = .ok (.iconst 1, 1) := by decide +kernel
theorem dX8_isOver_23 : decode cX8_isOver 23 = .ok (.if_icmp .eq 17, 3) := by decide +kernel
theorem dX8_isOver_26 : decode cX8_isOver 26 = .ok (.aload_n 0, 1) := by decide +kernel
theorem dX8_isOver_27 : decode cX8_isOver 27 = .ok (.getfield 29, 3) := by decide +kernel
theorem dX8_isOver_30 : decode cX8_isOver 30 = .ok (.iload_n 2, 1) := by decide +kernel
theorem dX8_isOver_31 : decode cX8_isOver 31 = .ok (.iaload, 1) := by decide +kernel
theorem dX8_isOver_32 : decode cX8_isOver 32 = .ok (.iconst 2, 1) := by decide +kernel
theorem dX8_isOver_33 : decode cX8_isOver 33 = .ok (.if_icmp .eq 7, 3) := by decide +kernel
theorem dX8_isOver_36 : decode cX8_isOver 36 = .ok (.iconst 1, 1) := by decide +kernel
theorem dX8_isOver_37 : decode cX8_isOver 37 = .ok (.goto 4, 3) := by decide +kernel
theorem dX8_isOver_40 : decode cX8_isOver 40 = .ok (.iconst 0, 1) := by decide +kernel
theorem dX8_isOver_41 : decode cX8_isOver 41 = .ok (.istore_n 1, 1) := by decide +kernel
theorem dX8_isOver_42 : decode cX8_isOver 42 = .ok (.iinc 2 1, 3) := by decide +kernel
theorem dX8_isOver_45 : decode cX8_isOver 45 = .ok (.goto (-41), 3) := by decide +kernel
theorem dX8_isOver_48 : decode cX8_isOver 48 = .ok (.iconst 0, 1) := by decide +kernel
theorem dX8_isOver_49 : decode cX8_isOver 49 = .ok (.istore_n 2, 1) := by decide +kernel
theorem dX8_isOver_50 : decode cX8_isOver 50 = .ok (.iload_n 2, 1) := by decide +kernel
theorem dX8_isOver_51 : decode cX8_isOver 51 = .ok (.aload_n 0, 1) := by decide +kernel
theorem dX8_isOver_52 : decode cX8_isOver 52 = .ok (.getfield 7, 3) := by decide +kernel
theorem dX8_isOver_55 : decode cX8_isOver 55 = .ok (.if_icmp .ge 28, 3) := by decide +kernel
theorem dX8_isOver_58 : decode cX8_isOver 58 = .ok (.iload_n 1, 1) := by decide +kernel
theorem dX8_isOver_59 : decode cX8_isOver 59 = .ok (.ifCond .eq 16, 3) := by decide +kernel
theorem dX8_isOver_62 : decode cX8_isOver 62 = .ok (.aload_n 0, 1) := by decide +kernel
theorem dX8_isOver_63 : decode cX8_isOver 63 = .ok (.getfield 13, 3) := by decide +kernel
theorem dX8_isOver_66 : decode cX8_isOver 66 = .ok (.iload_n 2, 1) := by decide +kernel
theorem dX8_isOver_67 : decode cX8_isOver 67 = .ok (.iaload, 1) := by decide +kernel
theorem dX8_isOver_68 : decode cX8_isOver 68 = .ok (.ifCond .ne 7, 3) := by decide +kernel
theorem dX8_isOver_71 : decode cX8_isOver 71 = .ok (.iconst 1, 1) := by decide +kernel
theorem dX8_isOver_72 : decode cX8_isOver 72 = .ok (.goto 4, 3) := by decide +kernel
theorem dX8_isOver_75 : decode cX8_isOver 75 = .ok (.iconst 0, 1) := by decide +kernel
theorem dX8_isOver_76 : decode cX8_isOver 76 = .ok (.istore_n 1, 1) := by decide +kernel
theorem dX8_isOver_77 : decode cX8_isOver 77 = .ok (.iinc 2 1, 3) := by decide +kernel
theorem dX8_isOver_80 : decode cX8_isOver 80 = .ok (.goto (-30), 3) := by decide +kernel
theorem dX8_isOver_83 : decode cX8_isOver 83 = .ok (.iload_n 1, 1) := by decide +kernel
theorem dX8_isOver_84 : decode cX8_isOver 84 = .ok (.ireturn, 1) := by decide +kernel
theorem dX8_becomeArms_0 : decode cX8_becomeArms 0 = .ok (.aload_n 0, 1) := by decide +kernel
theorem dX8_becomeArms_1 : decode cX8_becomeArms 1 = .ok (.getfield 7, 3) := by decide +kernel
theorem dX8_becomeArms_4 : decode cX8_becomeArms 4 = .ok (.istore_n 2, 1) := by decide +kernel
theorem dX8_becomeArms_5 : decode cX8_becomeArms 5 = .ok (.iload_n 2, 1) := by decide +kernel
theorem dX8_becomeArms_6 : decode cX8_becomeArms 6 = .ok (.iload_n 1, 1) := by decide +kernel
theorem dX8_becomeArms_7 : decode cX8_becomeArms 7 = .ok (.if_icmp .ge 38, 3) := by decide +kernel
theorem dX8_becomeArms_10 : decode cX8_becomeArms 10 = .ok (.aload_n 0, 1) := by decide +kernel
theorem dX8_becomeArms_11 : decode cX8_becomeArms 11 = .ok (.getfield 13, 3) := by decide +kernel
theorem dX8_becomeArms_14 : decode cX8_becomeArms 14 = .ok (.iload_n 2, 1) := by decide +kernel
theorem dX8_becomeArms_15 : decode cX8_becomeArms 15 = .ok (.iconst 0, 1) := by decide +kernel
theorem dX8_becomeArms_16 : decode cX8_becomeArms 16 = .ok (.iastore, 1) := by decide +kernel
theorem dX8_becomeArms_17 : decode cX8_becomeArms 17 = .ok (.aload_n 0, 1) := by decide +kernel
theorem dX8_becomeArms_18 : decode cX8_becomeArms 18 = .ok (.getfield 20, 3) := by decide +kernel
theorem dX8_becomeArms_21 : decode cX8_becomeArms 21 = .ok (.iload_n 2, 1) := by decide +kernel
theorem dX8_becomeArms_22 : decode cX8_becomeArms 22 = .ok (.bipush (-5), 2) := by decide +kernel
theorem dX8_becomeArms_24 : decode cX8_becomeArms 24 = .ok (.iastore, 1) := by decide +kernel
theorem dX8_becomeArms_25 : decode cX8_becomeArms 25 = .ok (.aload_n 0, 1) := by decide +kernel
theorem dX8_becomeArms_26 : decode cX8_becomeArms 26 = .ok (.getfield 23, 3) := by decide +kernel
theorem dX8_becomeArms_29 : decode cX8_becomeArms 29 = .ok (.iload_n 2, 1) := by decide +kernel
theorem dX8_becomeArms_30 : decode cX8_becomeArms 30 = .ok (.iconst 0, 1) := by decide +kernel
theorem dX8_becomeArms_31 : decode cX8_becomeArms 31 = .ok (.iastore, 1) := by decide +kernel
theorem dX8_becomeArms_32 : decode cX8_becomeArms 32 = .ok (.aload_n 0, 1) := by decide +kernel
theorem dX8_becomeArms_33 : decode cX8_becomeArms 33 = .ok (.getfield 26, 3) := by decide +kernel
theorem dX8_becomeArms_36 : decode cX8_becomeArms 36 = .ok (.iload_n 2, 1) := by decide +kernel
theorem dX8_becomeArms_37 : decode cX8_becomeArms 37 = .ok (.iconst 0, 1) := by decide +kernel
theorem dX8_becomeArms_38 : decode cX8_becomeArms 38 = .ok (.iastore, 1) := by decide +kernel
theorem dX8_becomeArms_39 : decode cX8_becomeArms 39 = .ok (.iinc 2 1, 3) := by decide +kernel
theorem dX8_becomeArms_42 : decode cX8_becomeArms 42 = .ok (.goto (-37), 3) := by decide +kernel
theorem dX8_becomeArms_45 : decode cX8_becomeArms 45 = .ok (.iload_n 1, 1) := by decide +kernel
theorem dX8_becomeArms_46 : decode cX8_becomeArms 46 = .ok (.istore_n 2, 1) := by decide +kernel
theorem dX8_becomeArms_47 : decode cX8_becomeArms 47 = .ok (.iload_n 2, 1) := by decide +kernel
theorem dX8_becomeArms_48 : decode cX8_becomeArms 48 = .ok (.aload_n 0, 1) := by decide +kernel
theorem dX8_becomeArms_49 : decode cX8_becomeArms 49 = .ok (.getfield 7, 3) := by decide +kernel
theorem dX8_becomeArms_52 : decode cX8_becomeArms 52 = .ok (.if_icmp .ge 90, 3) := by decide +kernel
theorem dX8_becomeArms_55 : decode cX8_becomeArms 55 = .ok (.aload_n 0, 1) := by decide +kernel
theorem dX8_becomeArms_56 : decode cX8_becomeArms 56 = .ok (.getfield 20, 3) := by decide +kernel
theorem dX8_becomeArms_59 : decode cX8_becomeArms 59 = .ok (.iload_n 2, 1) := by decide +kernel
theorem dX8_becomeArms_60 : decode cX8_becomeArms 60 = .ok (.iaload, 1) := by decide +kernel
theorem dX8_becomeArms_61 : decode cX8_becomeArms 61 = .ok (.ifCond .lt 34, 3) := by decide +kernel
theorem dX8_becomeArms_64 : decode cX8_becomeArms 64 = .ok (.aload_n 0, 1) := by decide +kernel
theorem dX8_becomeArms_65 : decode cX8_becomeArms 65 = .ok (.getfield 29, 3) := by decide +kernel
theorem dX8_becomeArms_68 : decode cX8_becomeArms 68 = .ok (.aload_n 0, 1) := by decide +kernel
theorem dX8_becomeArms_69 : decode cX8_becomeArms 69 = .ok (.getfield 20, 3) := by decide +kernel
theorem dX8_becomeArms_72 : decode cX8_becomeArms 72 = .ok (.iload_n 2, 1) := by decide +kernel
theorem dX8_becomeArms_73 : decode cX8_becomeArms 73 = .ok (.iaload, 1) := by decide +kernel
theorem dX8_becomeArms_74 : decode cX8_becomeArms 74 = .ok (.iconst 0, 1) := by decide +kernel
theorem dX8_becomeArms_75 : decode cX8_becomeArms 75 = .ok (.iastore, 1) := by decide +kernel
theorem dX8_becomeArms_76 : decode cX8_becomeArms 76 = .ok (.aload_n 0, 1) := by decide +kernel
theorem dX8_becomeArms_77 : decode cX8_becomeArms 77 = .ok (.iconst 0, 1) := by decide +kernel
theorem dX8_becomeArms_78 : decode cX8_becomeArms 78 = .ok (.aload_n 0, 1) := by decide +kernel
theorem dX8_becomeArms_79 : decode cX8_becomeArms 79 = .ok (.getfield 20, 3) := by decide +kernel
theorem dX8_becomeArms_82 : decode cX8_becomeArms 82 = .ok (.iload_n 2, 1) := by decide +kernel
theorem dX8_becomeArms_83 : decode cX8_becomeArms 83 = .ok (.iaload, 1) := by decide +kernel
theorem dX8_becomeArms_84 : decode cX8_becomeArms 84 = .ok (.invokevirtual 210, 3) := by decide +kernel
theorem dX8_becomeArms_87 : decode cX8_becomeArms 87 = .ok (.aload_n 0, 1) := by decide +kernel
theorem dX8_becomeArms_88 : decode cX8_becomeArms 88 = .ok (.getfield 20, 3) := by decide +kernel
theorem dX8_becomeArms_91 : decode cX8_becomeArms 91 = .ok (.iload_n 2, 1) := by decide +kernel
theorem dX8_becomeArms_92 : decode cX8_becomeArms 92 = .ok (.bipush (-5), 2) := by decide +kernel
theorem dX8_becomeArms_94 : decode cX8_becomeArms 94 = .ok (.iastore, 1) := by decide +kernel
theorem dX8_becomeArms_95 : decode cX8_becomeArms 95 = .ok (.iconst 0, 1) := by decide +kernel
theorem dX8_becomeArms_96 : decode cX8_becomeArms 96 = .ok (.istore_n 3, 1) := by decide +kernel
theorem dX8_becomeArms_97 : decode cX8_becomeArms 97 = .ok (.iload_n 3, 1) := by decide +kernel
theorem dX8_becomeArms_98 : decode cX8_becomeArms 98 = .ok (.aload_n 0, 1) := by decide +kernel
theorem dX8_becomeArms_99 : decode cX8_becomeArms 99 = .ok (.getfield 13, 3) := by decide +kernel
theorem dX8_becomeArms_102 : decode cX8_becomeArms 102 = .ok (.iload_n 2, 1) := by decide +kernel
theorem dX8_becomeArms_103 : decode cX8_becomeArms 103 = .ok (.iaload, 1) := by decide +kernel
theorem dX8_becomeArms_104 : decode cX8_becomeArms 104 = .ok (.if_icmp .ge 25, 3) := by decide +kernel
theorem dX8_becomeArms_107 : decode cX8_becomeArms 107 = .ok (.aload_n 0, 1) := by decide +kernel
theorem dX8_becomeArms_108 : decode cX8_becomeArms 108 = .ok (.iconst 0, 1) := by decide +kernel
theorem dX8_becomeArms_109 : decode cX8_becomeArms 109 = .ok (.aload_n 0, 1) := by decide +kernel
theorem dX8_becomeArms_110 : decode cX8_becomeArms 110 = .ok (.getfield 17, 3) := by decide +kernel
theorem dX8_becomeArms_113 : decode cX8_becomeArms 113 = .ok (.bipush 32, 2) := by decide +kernel
theorem dX8_becomeArms_115 : decode cX8_becomeArms 115 = .ok (.iload_n 2, 1) := by decide +kernel
theorem dX8_becomeArms_116 : decode cX8_becomeArms 116 = .ok (.imul, 1) := by decide +kernel
theorem dX8_becomeArms_117 : decode cX8_becomeArms 117 = .ok (.iload_n 3, 1) := by decide +kernel
theorem dX8_becomeArms_118 : decode cX8_becomeArms 118 = .ok (.iadd, 1) := by decide +kernel
theorem dX8_becomeArms_119 : decode cX8_becomeArms 119 = .ok (.iaload, 1) := by decide +kernel
theorem dX8_becomeArms_120 : decode cX8_becomeArms 120 = .ok (.invokevirtual 210, 3) := by decide +kernel
theorem dX8_becomeArms_123 : decode cX8_becomeArms 123 = .ok (.iinc 3 1, 3) := by decide +kernel
theorem dX8_becomeArms_126 : decode cX8_becomeArms 126 = .ok (.goto (-29), 3) := by decide +kernel
theorem dX8_becomeArms_129 : decode cX8_becomeArms 129 = .ok (.aload_n 0, 1) := by decide +kernel
theorem dX8_becomeArms_130 : decode cX8_becomeArms 130 = .ok (.getfield 13, 3) := by decide +kernel
theorem dX8_becomeArms_133 : decode cX8_becomeArms 133 = .ok (.iload_n 2, 1) := by decide +kernel
theorem dX8_becomeArms_134 : decode cX8_becomeArms 134 = .ok (.iconst 0, 1) := by decide +kernel
theorem dX8_becomeArms_135 : decode cX8_becomeArms 135 = .ok (.iastore, 1) := by decide +kernel
theorem dX8_becomeArms_136 : decode cX8_becomeArms 136 = .ok (.iinc 2 1, 3) := by decide +kernel
theorem dX8_becomeArms_139 : decode cX8_becomeArms 139 = .ok (.goto (-92), 3) := by decide +kernel
theorem dX8_becomeArms_142 : decode cX8_becomeArms 142 = .ok (.aload_n 0, 1) := by decide +kernel
theorem dX8_becomeArms_143 : decode cX8_becomeArms 143 = .ok (.iload_n 1, 1) := by decide +kernel
theorem dX8_becomeArms_144 : decode cX8_becomeArms 144 = .ok (.putfield 7, 3) := by decide +kernel
theorem dX8_becomeArms_147 : decode cX8_becomeArms 147 = .ok (.return_, 1) := by decide +kernel
theorem dX8_arms_0 : decode cX8_arms 0 = .ok (.aload_n 0, 1) := by decide +kernel
theorem dX8_arms_1 : decode cX8_arms 1 = .ok (.iconst 0, 1) := by decide +kernel
theorem dX8_arms_2 : decode cX8_arms 2 = .ok (.putfield 124, 3) := by decide +kernel
theorem dX8_arms_5 : decode cX8_arms 5 = .ok (.iload_n 1, 1) := by decide +kernel
theorem dX8_arms_6 : decode cX8_arms 6 = .ok (.i2l, 1) := by decide +kernel
theorem dX8_arms_7 : decode cX8_arms 7 = .ok (.lconst 1, 1) := by decide +kernel
theorem dX8_arms_8 : decode cX8_arms 8 = .ok (.ldc2_w 236, 3) := by decide +kernel
theorem dX8_arms_11 : decode cX8_arms 11 = .ok (.invokestatic 130, 3) := by decide +kernel
theorem dX8_arms_14 : decode cX8_arms 14 = .ok (.ifCond .ne 6, 3) := by decide +kernel
theorem dX8_arms_17 : decode cX8_arms 17 = .ok (.bipush (-2), 2) := by decide +kernel
theorem dX8_arms_19 : decode cX8_arms 19 = .ok (.ireturn, 1) := by decide +kernel
theorem dX8_arms_20 : decode cX8_arms 20 = .ok (.aload_n 0, 1) := by decide +kernel
theorem dX8_arms_21 : decode cX8_arms 21 = .ok (.getfield 7, 3) := by decide +kernel
theorem dX8_arms_24 : decode cX8_arms 24 = .ok (.istore_n 2, 1) := by decide +kernel
theorem dX8_arms_25 : decode cX8_arms 25 = .ok (.aload_n 0, 1) := by decide +kernel
theorem dX8_arms_26 : decode cX8_arms 26 = .ok (.iload_n 1, 1) := by decide +kernel
theorem dX8_arms_27 : decode cX8_arms 27 = .ok (.invokevirtual 238, 3) := by decide +kernel
theorem dX8_arms_30 : decode cX8_arms 30 = .ok (.iload_n 2, 1) := by decide +kernel
theorem dX8_arms_31 : decode cX8_arms 31 = .ok (.ireturn, 1) := by decide +kernel
theorem dX8_seed_0 : decode cX8_seed 0 = .ok (.aload_n 0, 1) := by decide +kernel
theorem dX8_seed_1 : decode cX8_seed 1 = .ok (.iconst 0, 1) := by decide +kernel
theorem dX8_seed_2 : decode cX8_seed 2 = .ok (.putfield 124, 3) := by decide +kernel
theorem dX8_seed_5 : decode cX8_seed 5 = .ok (.aload_n 0, 1) := by decide +kernel
theorem dX8_seed_6 : decode cX8_seed 6 = .ok (.getfield 50, 3) := by decide +kernel
theorem dX8_seed_9 : decode cX8_seed 9 = .ok (.istore_n 2, 1) := by decide +kernel
theorem dX8_seed_10 : decode cX8_seed 10 = .ok (.aload_n 0, 1) := by decide +kernel
theorem dX8_seed_11 : decode cX8_seed 11 = .ok (.iload_n 1, 1) := by decide +kernel
theorem dX8_seed_12 : decode cX8_seed 12 = .ok (.putfield 50, 3) := by decide +kernel
theorem dX8_seed_15 : decode cX8_seed 15 = .ok (.iload_n 2, 1) := by decide +kernel
theorem dX8_seed_16 : decode cX8_seed 16 = .ok (.ireturn, 1) := by decide +kernel
theorem dX8_feed_0 : decode cX8_feed 0 = .ok (.aload_n 0, 1) := by decide +kernel
theorem dX8_feed_1 : decode cX8_feed 1 = .ok (.iconst 0, 1) := by decide +kernel
theorem dX8_feed_2 : decode cX8_feed 2 = .ok (.putfield 124, 3) := by decide +kernel
theorem dX8_feed_5 : decode cX8_feed 5 = .ok (.iload_n 1, 1) := by decide +kernel
theorem dX8_feed_6 : decode cX8_feed 6 = .ok (.i2l, 1) := by decide +kernel
theorem dX8_feed_7 : decode cX8_feed 7 = .ok (.lconst 0, 1) := by decide +kernel
theorem dX8_feed_8 : decode cX8_feed 8 = .ok (.ldc2_w 241, 3) := by decide +kernel
theorem dX8_feed_11 : decode cX8_feed 11 = .ok (.invokestatic 130, 3) := by decide +kernel
theorem dX8_feed_14 : decode cX8_feed 14 = .ok (.ifCond .ne 6, 3) := by decide +kernel
theorem dX8_feed_17 : decode cX8_feed 17 = .ok (.bipush (-2), 2) := by decide +kernel
theorem dX8_feed_19 : decode cX8_feed 19 = .ok (.ireturn, 1) := by decide +kernel
theorem dX8_feed_20 : decode cX8_feed 20 = .ok (.aload_n 0, 1) := by decide +kernel
theorem dX8_feed_21 : decode cX8_feed 21 = .ok (.getfield 243, 3) := by decide +kernel
theorem dX8_feed_24 : decode cX8_feed 24 = .ok (.bipush 100, 2) := by decide +kernel
theorem dX8_feed_26 : decode cX8_feed 26 = .ok (.if_icmp .ne 6, 3) := by decide +kernel
theorem dX8_feed_29 : decode cX8_feed 29 = .ok (.bipush (-4), 2) := by decide +kernel
theorem dX8_feed_31 : decode cX8_feed 31 = .ok (.ireturn, 1) := by decide +kernel
theorem dX8_feed_32 : decode cX8_feed 32 = .ok (.aload_n 0, 1) := by decide +kernel
theorem dX8_feed_33 : decode cX8_feed 33 = .ok (.getfield 84, 3) := by decide +kernel
theorem dX8_feed_36 : decode cX8_feed 36 = .ok (.aload_n 0, 1) := by decide +kernel
theorem dX8_feed_37 : decode cX8_feed 37 = .ok (.getfield 243, 3) := by decide +kernel
theorem dX8_feed_40 : decode cX8_feed 40 = .ok (.iload_n 1, 1) := by decide +kernel
theorem dX8_feed_41 : decode cX8_feed 41 = .ok (.iastore, 1) := by decide +kernel
theorem dX8_feed_42 : decode cX8_feed 42 = .ok (.aload_n 0, 1) := by decide +kernel
theorem dX8_feed_43 : decode cX8_feed 43 = .ok (.dup, 1) := by decide +kernel
theorem dX8_feed_44 : decode cX8_feed 44 = .ok (.getfield 243, 3) := by decide +kernel
theorem dX8_feed_47 : decode cX8_feed 47 = .ok (.iconst 1, 1) := by decide +kernel
theorem dX8_feed_48 : decode cX8_feed 48 = .ok (.iadd, 1) := by decide +kernel
theorem dX8_feed_49 : decode cX8_feed 49 = .ok (.putfield 243, 3) := by decide +kernel
theorem dX8_feed_52 : decode cX8_feed 52 = .ok (.aload_n 0, 1) := by decide +kernel
theorem dX8_feed_53 : decode cX8_feed 53 = .ok (.getfield 243, 3) := by decide +kernel
theorem dX8_feed_56 : decode cX8_feed 56 = .ok (.ireturn, 1) := by decide +kernel
theorem dX8_here_0 : decode cX8_here 0 = .ok (.aload_n 0, 1) := by decide +kernel
theorem dX8_here_1 : decode cX8_here 1 = .ok (.getfield 246, 3) := by decide +kernel
theorem dX8_here_4 : decode cX8_here 4 = .ok (.aload_n 0, 1) := by decide +kernel
theorem dX8_here_5 : decode cX8_here 5 = .ok (.getfield 243, 3) := by decide +kernel
theorem dX8_here_8 : decode cX8_here 8 = .ok (.if_icmp .ge 15, 3) := by decide +kernel
theorem dX8_here_11 : decode cX8_here 11 = .ok (.aload_n 0, 1) := by decide +kernel
theorem dX8_here_12 : decode cX8_here 12 = .ok (.getfield 84, 3) := by decide +kernel
theorem dX8_here_15 : decode cX8_here 15 = .ok (.aload_n 0, 1) := by decide +kernel
theorem dX8_here_16 : decode cX8_here 16 = .ok (.getfield 246, 3) := by decide +kernel
theorem dX8_here_19 : decode cX8_here 19 = .ok (.iaload, 1) := by decide +kernel
theorem dX8_here_20 : decode cX8_here 20 = .ok (.goto 4, 3) := by decide +kernel
theorem dX8_here_23 : decode cX8_here 23 = .ok (.iconst (-1), 1) := by decide +kernel
theorem dX8_here_24 : decode cX8_here 24 = .ok (.ireturn, 1) := by decide +kernel
theorem dX8_readTask_0 : decode cX8_readTask 0 = .ok (.aload_n 0, 1) := by decide +kernel
theorem dX8_readTask_1 : decode cX8_readTask 1 = .ok (.getfield 249, 3) := by decide +kernel
theorem dX8_readTask_4 : decode cX8_readTask 4 = .ok (.istore_n 1, 1) := by decide +kernel
theorem dX8_readTask_5 : decode cX8_readTask 5 = .ok (.aload_n 0, 1) := by decide +kernel
theorem dX8_readTask_6 : decode cX8_readTask 6 = .ok (.aload_n 0, 1) := by decide +kernel
theorem dX8_readTask_7 : decode cX8_readTask 7 = .ok (.invokevirtual 252, 3) := by decide +kernel
theorem dX8_readTask_10 : decode cX8_readTask 10 = .ok (.i2l, 1) := by decide +kernel
theorem dX8_readTask_11 : decode cX8_readTask 11 = .ok (.ldc2_w 255, 3) := by decide +kernel
theorem dX8_readTask_14 : decode cX8_readTask 14 = .ok (.ldc2_w 257, 3) := by decide +kernel
theorem dX8_readTask_17 : decode cX8_readTask 17 = .ok (.invokestatic 130, 3) := by decide +kernel
theorem dX8_readTask_20 : decode cX8_readTask 20 = .ok (.ifCond .ne 7, 3) := by decide +kernel
theorem dX8_readTask_23 : decode cX8_readTask 23 = .ok (.iconst 1, 1) := by decide +kernel
theorem dX8_readTask_24 : decode cX8_readTask 24 = .ok (.goto 4, 3) := by decide +kernel
theorem dX8_readTask_27 : decode cX8_readTask 27 = .ok (.iconst 0, 1) := by decide +kernel
theorem dX8_readTask_28 : decode cX8_readTask 28 = .ok (.putfield 259, 3) := by decide +kernel
theorem dX8_readTask_31 : decode cX8_readTask 31 = .ok (.aload_n 0, 1) := by decide +kernel
theorem dX8_readTask_32 : decode cX8_readTask 32 = .ok (.getfield 259, 3) := by decide +kernel
theorem dX8_readTask_35 : decode cX8_readTask 35 = .ok (.ifCond .eq 4, 3) := by decide +kernel
theorem dX8_readTask_38 : decode cX8_readTask 38 = .ok (.return_, 1) := by decide +kernel
theorem dX8_readTask_39 : decode cX8_readTask 39 = .ok (.aload_n 0, 1) := by decide +kernel
theorem dX8_readTask_40 : decode cX8_readTask 40 = .ok (.getfield 87, 3) := by decide +kernel
theorem dX8_readTask_43 : decode cX8_readTask 43 = .ok (.iload_n 1, 1) := by decide +kernel
theorem dX8_readTask_44 : decode cX8_readTask 44 = .ok (.aload_n 0, 1) := by decide +kernel
theorem dX8_readTask_45 : decode cX8_readTask 45 = .ok (.invokevirtual 252, 3) := by decide +kernel
theorem dX8_readTask_48 : decode cX8_readTask 48 = .ok (.bipush 48, 2) := by decide +kernel
theorem dX8_readTask_50 : decode cX8_readTask 50 = .ok (.isub, 1) := by decide +kernel
theorem dX8_readTask_51 : decode cX8_readTask 51 = .ok (.iastore, 1) := by decide +kernel
theorem dX8_readTask_52 : decode cX8_readTask 52 = .ok (.aload_n 0, 1) := by decide +kernel
theorem dX8_readTask_53 : decode cX8_readTask 53 = .ok (.getfield 93, 3) := by decide +kernel
theorem dX8_readTask_56 : decode cX8_readTask 56 = .ok (.iload_n 1, 1) := by decide +kernel
theorem dX8_readTask_57 : decode cX8_readTask 57 = .ok (.aload_n 0, 1) := by decide +kernel
theorem dX8_readTask_58 : decode cX8_readTask 58 = .ok (.getfield 262, 3) := by decide +kernel
theorem dX8_readTask_61 : decode cX8_readTask 61 = .ok (.ifCond .ne 8, 3) := by decide +kernel
theorem dX8_readTask_64 : decode cX8_readTask 64 = .ok (.bipush (-5), 2) := by decide +kernel
theorem dX8_readTask_66 : decode cX8_readTask 66 = .ok (.goto 14, 3) := by decide +kernel
theorem dX8_readTask_69 : decode cX8_readTask 69 = .ok (.aload_n 0, 1) := by decide +kernel
theorem dX8_readTask_70 : decode cX8_readTask 70 = .ok (.getfield 96, 3) := by decide +kernel
theorem dX8_readTask_73 : decode cX8_readTask 73 = .ok (.aload_n 0, 1) := by decide +kernel
theorem dX8_readTask_74 : decode cX8_readTask 74 = .ok (.getfield 262, 3) := by decide +kernel
theorem dX8_readTask_77 : decode cX8_readTask 77 = .ok (.iconst 1, 1) := by decide +kernel
theorem dX8_readTask_78 : decode cX8_readTask 78 = .ok (.isub, 1) := by decide +kernel
theorem dX8_readTask_79 : decode cX8_readTask 79 = .ok (.iaload, 1) := by decide +kernel
theorem dX8_readTask_80 : decode cX8_readTask 80 = .ok (.iastore, 1) := by decide +kernel
theorem dX8_readTask_81 : decode cX8_readTask 81 = .ok (.aload_n 0, 1) := by decide +kernel
theorem dX8_readTask_82 : decode cX8_readTask 82 = .ok (.getfield 90, 3) := by decide +kernel
theorem dX8_readTask_85 : decode cX8_readTask 85 = .ok (.iload_n 1, 1) := by decide +kernel
theorem dX8_readTask_86 : decode cX8_readTask 86 = .ok (.iconst 0, 1) := by decide +kernel
theorem dX8_readTask_87 : decode cX8_readTask 87 = .ok (.iastore, 1) := by decide +kernel
theorem dX8_readTask_88 : decode cX8_readTask 88 = .ok (.aload_n 0, 1) := by decide +kernel
theorem dX8_readTask_89 : decode cX8_readTask 89 = .ok (.dup, 1) := by decide +kernel
theorem dX8_readTask_90 : decode cX8_readTask 90 = .ok (.getfield 249, 3) := by decide +kernel
theorem dX8_readTask_93 : decode cX8_readTask 93 = .ok (.iconst 1, 1) := by decide +kernel
theorem dX8_readTask_94 : decode cX8_readTask 94 = .ok (.iadd, 1) := by decide +kernel
theorem dX8_readTask_95 : decode cX8_readTask 95 = .ok (.putfield 249, 3) := by decide +kernel
theorem dX8_readTask_98 : decode cX8_readTask 98 = .ok (.aload_n 0, 1) := by decide +kernel
theorem dX8_readTask_99 : decode cX8_readTask 99 = .ok (.dup, 1) := by decide +kernel
theorem dX8_readTask_100 : decode cX8_readTask 100 = .ok (.getfield 246, 3) := by decide +kernel
theorem dX8_readTask_103 : decode cX8_readTask 103 = .ok (.iconst 1, 1) := by decide +kernel
theorem dX8_readTask_104 : decode cX8_readTask 104 = .ok (.iadd, 1) := by decide +kernel
theorem dX8_readTask_105 : decode cX8_readTask 105 = .ok (.putfield 246, 3) := by decide +kernel
theorem dX8_readTask_108 : decode cX8_readTask 108 = .ok (.aload_n 0, 1) := by decide +kernel
theorem dX8_readTask_109 : decode cX8_readTask 109 = .ok (.invokevirtual 252, 3) := by decide +kernel
theorem dX8_readTask_112 : decode cX8_readTask 112 = .ok (.bipush 33, 2) := by decide +kernel
theorem dX8_readTask_114 : decode cX8_readTask 114 = .ok (.if_icmp .eq 12, 3) := by decide +kernel
theorem dX8_readTask_117 : decode cX8_readTask 117 = .ok (.aload_n 0, 1) := by decide +kernel
theorem dX8_readTask_118 : decode cX8_readTask 118 = .ok (.invokevirtual 252, 3) := by decide +kernel
theorem dX8_readTask_121 : decode cX8_readTask 121 = .ok (.bipush 63, 2) := by decide +kernel
theorem dX8_readTask_123 : decode cX8_readTask 123 = .ok (.if_icmp .ne 33, 3) := by decide +kernel
theorem dX8_readTask_126 : decode cX8_readTask 126 = .ok (.aload_n 0, 1) := by decide +kernel
theorem dX8_readTask_127 : decode cX8_readTask 127 = .ok (.getfield 90, 3) := by decide +kernel
theorem dX8_readTask_130 : decode cX8_readTask 130 = .ok (.iload_n 1, 1) := by decide +kernel
theorem dX8_readTask_131 : decode cX8_readTask 131 = .ok (.aload_n 0, 1) := by decide +kernel
theorem dX8_readTask_132 : decode cX8_readTask 132 = .ok (.invokevirtual 252, 3) := by decide +kernel
theorem dX8_readTask_135 : decode cX8_readTask 135 = .ok (.bipush 33, 2) := by decide +kernel
theorem dX8_readTask_137 : decode cX8_readTask 137 = .ok (.if_icmp .ne 7, 3) := by decide +kernel
theorem dX8_readTask_140 : decode cX8_readTask 140 = .ok (.iconst 1, 1) := by decide +kernel
theorem dX8_readTask_141 : decode cX8_readTask 141 = .ok (.goto 4, 3) := by decide +kernel
theorem dX8_readTask_144 : decode cX8_readTask 144 = .ok (.iconst 2, 1) := by decide +kernel
theorem dX8_readTask_145 : decode cX8_readTask 145 = .ok (.iastore, 1) := by decide +kernel
theorem dX8_readTask_146 : decode cX8_readTask 146 = .ok (.aload_n 0, 1) := by decide +kernel
theorem dX8_readTask_147 : decode cX8_readTask 147 = .ok (.dup, 1) := by decide +kernel
theorem dX8_readTask_148 : decode cX8_readTask 148 = .ok (.getfield 246, 3) := by decide +kernel
theorem dX8_readTask_151 : decode cX8_readTask 151 = .ok (.iconst 1, 1) := by decide +kernel
theorem dX8_readTask_152 : decode cX8_readTask 152 = .ok (.iadd, 1) := by decide +kernel
theorem dX8_readTask_153 : decode cX8_readTask 153 = .ok (.putfield 246, 3) := by decide +kernel
theorem dX8_readTask_156 : decode cX8_readTask 156 = .ok (.return_, 1) := by decide +kernel
theorem dX8_goesOn_0 : decode cX8_goesOn 0 = .ok (.aload_n 0, 1) := by decide +kernel
theorem dX8_goesOn_1 : decode cX8_goesOn 1 = .ok (.invokevirtual 252, 3) := by decide +kernel
theorem dX8_goesOn_4 : decode cX8_goesOn 4 = .ok (.bipush 40, 2) := by decide +kernel
theorem dX8_goesOn_6 : decode cX8_goesOn 6 = .ok (.if_icmp .ne 58, 3) := by decide +kernel
theorem dX8_goesOn_9 : decode cX8_goesOn 9 = .ok (.aload_n 0, 1) := by decide +kernel
theorem dX8_goesOn_10 : decode cX8_goesOn 10 = .ok (.getfield 262, 3) := by decide +kernel
theorem dX8_goesOn_13 : decode cX8_goesOn 13 = .ok (.iconst 4, 1) := by decide +kernel
theorem dX8_goesOn_14 : decode cX8_goesOn 14 = .ok (.if_icmp .ge 50, 3) := by decide +kernel
theorem dX8_goesOn_17 : decode cX8_goesOn 17 = .ok (.aload_n 0, 1) := by decide +kernel
theorem dX8_goesOn_18 : decode cX8_goesOn 18 = .ok (.getfield 96, 3) := by decide +kernel
theorem dX8_goesOn_21 : decode cX8_goesOn 21 = .ok (.aload_n 0, 1) := by decide +kernel
theorem dX8_goesOn_22 : decode cX8_goesOn 22 = .ok (.getfield 262, 3) := by decide +kernel
theorem dX8_goesOn_25 : decode cX8_goesOn 25 = .ok (.aload_n 0, 1) := by decide +kernel
theorem dX8_goesOn_26 : decode cX8_goesOn 26 = .ok (.getfield 249, 3) := by decide +kernel
theorem dX8_goesOn_29 : decode cX8_goesOn 29 = .ok (.iconst 1, 1) := by decide +kernel
theorem dX8_goesOn_30 : decode cX8_goesOn 30 = .ok (.isub, 1) := by decide +kernel
theorem dX8_goesOn_31 : decode cX8_goesOn 31 = .ok (.iastore, 1) := by decide +kernel
theorem dX8_goesOn_32 : decode cX8_goesOn 32 = .ok (.aload_n 0, 1) := by decide +kernel
theorem dX8_goesOn_33 : decode cX8_goesOn 33 = .ok (.getfield 99, 3) := by decide +kernel
theorem dX8_goesOn_36 : decode cX8_goesOn 36 = .ok (.aload_n 0, 1) := by decide +kernel
theorem dX8_goesOn_37 : decode cX8_goesOn 37 = .ok (.getfield 262, 3) := by decide +kernel
theorem dX8_goesOn_40 : decode cX8_goesOn 40 = .ok (.iconst 1, 1) := by decide +kernel
theorem dX8_goesOn_41 : decode cX8_goesOn 41 = .ok (.iastore, 1) := by decide +kernel
theorem dX8_goesOn_42 : decode cX8_goesOn 42 = .ok (.aload_n 0, 1) := by decide +kernel
theorem dX8_goesOn_43 : decode cX8_goesOn 43 = .ok (.dup, 1) := by decide +kernel
theorem dX8_goesOn_44 : decode cX8_goesOn 44 = .ok (.getfield 262, 3) := by decide +kernel
theorem dX8_goesOn_47 : decode cX8_goesOn 47 = .ok (.iconst 1, 1) := by decide +kernel
theorem dX8_goesOn_48 : decode cX8_goesOn 48 = .ok (.iadd, 1) := by decide +kernel
theorem dX8_goesOn_49 : decode cX8_goesOn 49 = .ok (.putfield 262, 3) := by decide +kernel
theorem dX8_goesOn_52 : decode cX8_goesOn 52 = .ok (.aload_n 0, 1) := by decide +kernel
theorem dX8_goesOn_53 : decode cX8_goesOn 53 = .ok (.dup, 1) := by decide +kernel
theorem dX8_goesOn_54 : decode cX8_goesOn 54 = .ok (.getfield 246, 3) := by decide +kernel
theorem dX8_goesOn_57 : decode cX8_goesOn 57 = .ok (.iconst 1, 1) := by decide +kernel
theorem dX8_goesOn_58 : decode cX8_goesOn 58 = .ok (.iadd, 1) := by decide +kernel
theorem dX8_goesOn_59 : decode cX8_goesOn 59 = .ok (.putfield 246, 3) := by decide +kernel
theorem dX8_goesOn_62 : decode cX8_goesOn 62 = .ok (.iconst 1, 1) := by decide +kernel
theorem dX8_goesOn_63 : decode cX8_goesOn 63 = .ok (.ireturn, 1) := by decide +kernel
theorem dX8_goesOn_64 : decode cX8_goesOn 64 = .ok (.aload_n 0, 1) := by decide +kernel
theorem dX8_goesOn_65 : decode cX8_goesOn 65 = .ok (.getfield 262, 3) := by decide +kernel
theorem dX8_goesOn_68 : decode cX8_goesOn 68 = .ok (.ifCond .le 35, 3) := by decide +kernel
theorem dX8_goesOn_71 : decode cX8_goesOn 71 = .ok (.aload_n 0, 1) := by decide +kernel
theorem dX8_goesOn_72 : decode cX8_goesOn 72 = .ok (.invokevirtual 252, 3) := by decide +kernel
theorem dX8_goesOn_75 : decode cX8_goesOn 75 = .ok (.bipush 41, 2) := by decide +kernel
theorem dX8_goesOn_77 : decode cX8_goesOn 77 = .ok (.if_icmp .ne 26, 3) := by decide +kernel
theorem dX8_goesOn_80 : decode cX8_goesOn 80 = .ok (.aload_n 0, 1) := by decide +kernel
theorem dX8_goesOn_81 : decode cX8_goesOn 81 = .ok (.dup, 1) := by decide +kernel
theorem dX8_goesOn_82 : decode cX8_goesOn 82 = .ok (.getfield 262, 3) := by decide +kernel
theorem dX8_goesOn_85 : decode cX8_goesOn 85 = .ok (.iconst 1, 1) := by decide +kernel
theorem dX8_goesOn_86 : decode cX8_goesOn 86 = .ok (.isub, 1) := by decide +kernel
theorem dX8_goesOn_87 : decode cX8_goesOn 87 = .ok (.putfield 262, 3) := by decide +kernel
theorem dX8_goesOn_90 : decode cX8_goesOn 90 = .ok (.aload_n 0, 1) := by decide +kernel
theorem dX8_goesOn_91 : decode cX8_goesOn 91 = .ok (.dup, 1) := by decide +kernel
theorem dX8_goesOn_92 : decode cX8_goesOn 92 = .ok (.getfield 246, 3) := by decide +kernel
theorem dX8_goesOn_95 : decode cX8_goesOn 95 = .ok (.iconst 1, 1) := by decide +kernel
theorem dX8_goesOn_96 : decode cX8_goesOn 96 = .ok (.iadd, 1) := by decide +kernel
theorem dX8_goesOn_97 : decode cX8_goesOn 97 = .ok (.putfield 246, 3) := by decide +kernel
theorem dX8_goesOn_100 : decode cX8_goesOn 100 = .ok (.goto (-36), 3) := by decide +kernel
theorem dX8_goesOn_103 : decode cX8_goesOn 103 = .ok (.aload_n 0, 1) := by decide +kernel
theorem dX8_goesOn_104 : decode cX8_goesOn 104 = .ok (.getfield 262, 3) := by decide +kernel
theorem dX8_goesOn_107 : decode cX8_goesOn 107 = .ok (.ifCond .le 55, 3) := by decide +kernel
theorem dX8_goesOn_110 : decode cX8_goesOn 110 = .ok (.aload_n 0, 1) := by decide +kernel
theorem dX8_goesOn_111 : decode cX8_goesOn 111 = .ok (.invokevirtual 252, 3) := by decide +kernel
theorem dX8_goesOn_114 : decode cX8_goesOn 114 = .ok (.bipush 44, 2) := by decide +kernel
theorem dX8_goesOn_116 : decode cX8_goesOn 116 = .ok (.if_icmp .ne 46, 3) := by decide +kernel
theorem dX8_goesOn_119 : decode cX8_goesOn 119 = .ok (.aload_n 0, 1) := by decide +kernel
theorem dX8_goesOn_120 : decode cX8_goesOn 120 = .ok (.getfield 99, 3) := by decide +kernel
theorem dX8_goesOn_123 : decode cX8_goesOn 123 = .ok (.aload_n 0, 1) := by decide +kernel
theorem dX8_goesOn_124 : decode cX8_goesOn 124 = .ok (.getfield 262, 3) := by decide +kernel
theorem dX8_goesOn_127 : decode cX8_goesOn 127 = .ok (.iconst 1, 1) := by decide +kernel
theorem dX8_goesOn_128 : decode cX8_goesOn 128 = .ok (.isub, 1) := by decide +kernel
theorem dX8_goesOn_129 : decode cX8_goesOn 129 = .ok (.iaload, 1) := by decide +kernel
theorem dX8_goesOn_130 : decode cX8_goesOn 130 = .ok (.bipush 6, 2) := by decide +kernel
theorem dX8_goesOn_132 : decode cX8_goesOn 132 = .ok (.if_icmp .ge 30, 3) := by decide +kernel
theorem dX8_goesOn_135 : decode cX8_goesOn 135 = .ok (.aload_n 0, 1) := by decide +kernel
theorem dX8_goesOn_136 : decode cX8_goesOn 136 = .ok (.getfield 99, 3) := by decide +kernel
theorem dX8_goesOn_139 : decode cX8_goesOn 139 = .ok (.aload_n 0, 1) := by decide +kernel
theorem dX8_goesOn_140 : decode cX8_goesOn 140 = .ok (.getfield 262, 3) := by decide +kernel
theorem dX8_goesOn_143 : decode cX8_goesOn 143 = .ok (.iconst 1, 1) := by decide +kernel
theorem dX8_goesOn_144 : decode cX8_goesOn 144 = .ok (.isub, 1) := by decide +kernel
theorem dX8_goesOn_145 : decode cX8_goesOn 145 = .ok (.dup2, 1) := by decide +kernel
theorem dX8_goesOn_146 : decode cX8_goesOn 146 = .ok (.iaload, 1) := by decide +kernel
theorem dX8_goesOn_147 : decode cX8_goesOn 147 = .ok (.iconst 1, 1) := by decide +kernel
theorem dX8_goesOn_148 : decode cX8_goesOn 148 = .ok (.iadd, 1) := by decide +kernel
theorem dX8_goesOn_149 : decode cX8_goesOn 149 = .ok (.iastore, 1) := by decide +kernel
theorem dX8_goesOn_150 : decode cX8_goesOn 150 = .ok (.aload_n 0, 1) := by decide +kernel
theorem dX8_goesOn_151 : decode cX8_goesOn 151 = .ok (.dup, 1) := by decide +kernel
theorem dX8_goesOn_152 : decode cX8_goesOn 152 = .ok (.getfield 246, 3) := by decide +kernel
theorem dX8_goesOn_155 : decode cX8_goesOn 155 = .ok (.iconst 1, 1) := by decide +kernel
theorem dX8_goesOn_156 : decode cX8_goesOn 156 = .ok (.iadd, 1) := by decide +kernel
theorem dX8_goesOn_157 : decode cX8_goesOn 157 = .ok (.putfield 246, 3) := by decide +kernel
theorem dX8_goesOn_160 : decode cX8_goesOn 160 = .ok (.iconst 1, 1) := by decide +kernel
theorem dX8_goesOn_161 : decode cX8_goesOn 161 = .ok (.ireturn, 1) := by decide +kernel
theorem dX8_goesOn_162 : decode cX8_goesOn 162 = .ok (.aload_n 0, 1) := by decide +kernel
theorem dX8_goesOn_163 : decode cX8_goesOn 163 = .ok (.aload_n 0, 1) := by decide +kernel
theorem dX8_goesOn_164 : decode cX8_goesOn 164 = .ok (.getfield 262, 3) := by decide +kernel
theorem dX8_goesOn_167 : decode cX8_goesOn 167 = .ok (.ifCond .gt 14, 3) := by decide +kernel
theorem dX8_goesOn_170 : decode cX8_goesOn 170 = .ok (.aload_n 0, 1) := by decide +kernel
theorem dX8_goesOn_171 : decode cX8_goesOn 171 = .ok (.getfield 246, 3) := by decide +kernel
theorem dX8_goesOn_174 : decode cX8_goesOn 174 = .ok (.aload_n 0, 1) := by decide +kernel
theorem dX8_goesOn_175 : decode cX8_goesOn 175 = .ok (.getfield 243, 3) := by decide +kernel
theorem dX8_goesOn_178 : decode cX8_goesOn 178 = .ok (.if_icmp .ge 7, 3) := by decide +kernel
theorem dX8_goesOn_181 : decode cX8_goesOn 181 = .ok (.iconst 1, 1) := by decide +kernel
theorem dX8_goesOn_182 : decode cX8_goesOn 182 = .ok (.goto 4, 3) := by decide +kernel
theorem dX8_goesOn_185 : decode cX8_goesOn 185 = .ok (.iconst 0, 1) := by decide +kernel
theorem dX8_goesOn_186 : decode cX8_goesOn 186 = .ok (.putfield 259, 3) := by decide +kernel
theorem dX8_goesOn_189 : decode cX8_goesOn 189 = .ok (.iconst 0, 1) := by decide +kernel
theorem dX8_goesOn_190 : decode cX8_goesOn 190 = .ok (.ireturn, 1) := by decide +kernel
theorem dX8_readTree_0 : decode cX8_readTree 0 = .ok (.aload_n 0, 1) := by decide +kernel
theorem dX8_readTree_1 : decode cX8_readTree 1 = .ok (.iconst 0, 1) := by decide +kernel
theorem dX8_readTree_2 : decode cX8_readTree 2 = .ok (.putfield 246, 3) := by decide +kernel
theorem dX8_readTree_5 : decode cX8_readTree 5 = .ok (.aload_n 0, 1) := by decide +kernel
theorem dX8_readTree_6 : decode cX8_readTree 6 = .ok (.iconst 0, 1) := by decide +kernel
theorem dX8_readTree_7 : decode cX8_readTree 7 = .ok (.putfield 259, 3) := by decide +kernel
theorem dX8_readTree_10 : decode cX8_readTree 10 = .ok (.aload_n 0, 1) := by decide +kernel
theorem dX8_readTree_11 : decode cX8_readTree 11 = .ok (.iconst 0, 1) := by decide +kernel
theorem dX8_readTree_12 : decode cX8_readTree 12 = .ok (.putfield 249, 3) := by decide +kernel
theorem dX8_readTree_15 : decode cX8_readTree 15 = .ok (.aload_n 0, 1) := by decide +kernel
theorem dX8_readTree_16 : decode cX8_readTree 16 = .ok (.iconst 0, 1) := by decide +kernel
theorem dX8_readTree_17 : decode cX8_readTree 17 = .ok (.putfield 262, 3) := by decide +kernel
theorem dX8_readTree_20 : decode cX8_readTree 20 = .ok (.iconst 1, 1) := by decide +kernel
theorem dX8_readTree_21 : decode cX8_readTree 21 = .ok (.istore_n 1, 1) := by decide +kernel
theorem dX8_readTree_22 : decode cX8_readTree 22 = .ok (.iload_n 1, 1) := by decide +kernel
theorem dX8_readTree_23 : decode cX8_readTree 23 = .ok (.ifCond .eq 37, 3) := by decide +kernel
theorem dX8_readTree_26 : decode cX8_readTree 26 = .ok (.aload_n 0, 1) := by decide +kernel
theorem dX8_readTree_27 : decode cX8_readTree 27 = .ok (.getfield 259, 3) := by decide +kernel
theorem dX8_readTree_30 : decode cX8_readTree 30 = .ok (.ifCond .ne 30, 3) := by decide +kernel
theorem dX8_readTree_33 : decode cX8_readTree 33 = .ok (.aload_n 0, 1) := by decide +kernel
theorem dX8_readTree_34 : decode cX8_readTree 34 = .ok (.invokevirtual 265, 3) := by decide +kernel
theorem dX8_readTree_37 : decode cX8_readTree 37 = .ok (.aload_n 0, 1) := by decide +kernel
theorem dX8_readTree_38 : decode cX8_readTree 38 = .ok (.getfield 259, 3) := by decide +kernel
theorem dX8_readTree_41 : decode cX8_readTree 41 = .ok (.ifCond .ne 14, 3) := by decide +kernel
theorem dX8_readTree_44 : decode cX8_readTree 44 = .ok (.aload_n 0, 1) := by decide +kernel
theorem dX8_readTree_45 : decode cX8_readTree 45 = .ok (.invokevirtual 268, 3) := by decide +kernel
theorem dX8_readTree_48 : decode cX8_readTree 48 = .ok (.ifCond .eq 7, 3) := by decide +kernel
theorem dX8_readTree_51 : decode cX8_readTree 51 = .ok (.iconst 1, 1) := by decide +kernel
theorem dX8_readTree_52 : decode cX8_readTree 52 = .ok (.goto 4, 3) := by decide +kernel
