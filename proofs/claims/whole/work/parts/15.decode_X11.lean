theorem dX11_init_0 : decode cX11_init 0 = .ok (.aload_n 0, 1) := by decide +kernel
theorem dX11_init_1 : decode cX11_init 1 = .ok (.invokespecial 1, 3) := by decide +kernel
theorem dX11_init_4 : decode cX11_init 4 = .ok (.aload_n 0, 1) := by decide +kernel
theorem dX11_init_5 : decode cX11_init 5 = .ok (.sipush 288, 3) := by decide +kernel
theorem dX11_init_8 : decode cX11_init 8 = .ok (.newarray .int, 2) := by decide +kernel
theorem dX11_init_10 : decode cX11_init 10 = .ok (.putfield 7, 3) := by decide +kernel
theorem dX11_init_13 : decode cX11_init 13 = .ok (.aload_n 0, 1) := by decide +kernel
theorem dX11_init_14 : decode cX11_init 14 = .ok (.sipush 3072, 3) := by decide +kernel
theorem dX11_init_17 : decode cX11_init 17 = .ok (.newarray .boolean, 2) := by decide +kernel
theorem dX11_init_19 : decode cX11_init 19 = .ok (.putfield 13, 3) := by decide +kernel
theorem dX11_init_22 : decode cX11_init 22 = .ok (.aload_n 0, 1) := by decide +kernel
theorem dX11_init_23 : decode cX11_init 23 = .ok (.bipush 16, 2) := by decide +kernel
theorem dX11_init_25 : decode cX11_init 25 = .ok (.newarray .boolean, 2) := by decide +kernel
theorem dX11_init_27 : decode cX11_init 27 = .ok (.putfield 17, 3) := by decide +kernel
theorem dX11_init_30 : decode cX11_init 30 = .ok (.aload_n 0, 1) := by decide +kernel
theorem dX11_init_31 : decode cX11_init 31 = .ok (.bipush 30, 2) := by decide +kernel
theorem dX11_init_33 : decode cX11_init 33 = .ok (.newarray .int, 2) := by decide +kernel
theorem dX11_init_35 : decode cX11_init 35 = .ok (.putfield 20, 3) := by decide +kernel
theorem dX11_init_38 : decode cX11_init 38 = .ok (.aload_n 0, 1) := by decide +kernel
theorem dX11_init_39 : decode cX11_init 39 = .ok (.sipush 3072, 3) := by decide +kernel
theorem dX11_init_42 : decode cX11_init 42 = .ok (.newarray .int, 2) := by decide +kernel
theorem dX11_init_44 : decode cX11_init 44 = .ok (.putfield 23, 3) := by decide +kernel
theorem dX11_init_47 : decode cX11_init 47 = .ok (.aload_n 0, 1) := by decide +kernel
theorem dX11_init_48 : decode cX11_init 48 = .ok (.iconst (-1), 1) := by decide +kernel
theorem dX11_init_49 : decode cX11_init 49 = .ok (.putfield 26, 3) := by decide +kernel
theorem dX11_init_52 : decode cX11_init 52 = .ok (.aload_n 0, 1) := by decide +kernel
theorem dX11_init_53 : decode cX11_init 53 = .ok (.sipush 2000, 3) := by decide +kernel
theorem dX11_init_56 : decode cX11_init 56 = .ok (.newarray .int, 2) := by decide +kernel
theorem dX11_init_58 : decode cX11_init 58 = .ok (.putfield 30, 3) := by decide +kernel
theorem dX11_init_61 : decode cX11_init 61 = .ok (.aload_n 0, 1) := by decide +kernel
theorem dX11_init_62 : decode cX11_init 62 = .ok (.ldc 33, 2) := by decide +kernel
theorem dX11_init_64 : decode cX11_init 64 = .ok (.newarray .int, 2) := by decide +kernel
theorem dX11_init_66 : decode cX11_init 66 = .ok (.putfield 34, 3) := by decide +kernel
theorem dX11_init_69 : decode cX11_init 69 = .ok (.aload_n 0, 1) := by decide +kernel
theorem dX11_init_70 : decode cX11_init 70 = .ok (.sipush 4008, 3) := by decide +kernel
theorem dX11_init_73 : decode cX11_init 73 = .ok (.newarray .int, 2) := by decide +kernel
theorem dX11_init_75 : decode cX11_init 75 = .ok (.putfield 37, 3) := by decide +kernel
theorem dX11_init_78 : decode cX11_init 78 = .ok (.aload_n 0, 1) := by decide +kernel
theorem dX11_init_79 : decode cX11_init 79 = .ok (.ldc 40, 2) := by decide +kernel
theorem dX11_init_81 : decode cX11_init 81 = .ok (.newarray .boolean, 2) := by decide +kernel
theorem dX11_init_83 : decode cX11_init 83 = .ok (.putfield 41, 3) := by decide +kernel
theorem dX11_init_86 : decode cX11_init 86 = .ok (.aload_n 0, 1) := by decide +kernel
theorem dX11_init_87 : decode cX11_init 87 = .ok (.sipush 896, 3) := by decide +kernel
theorem dX11_init_90 : decode cX11_init 90 = .ok (.newarray .boolean, 2) := by decide +kernel
theorem dX11_init_92 : decode cX11_init 92 = .ok (.putfield 44, 3) := by decide +kernel
theorem dX11_init_95 : decode cX11_init 95 = .ok (.aload_n 0, 1) := by decide +kernel
theorem dX11_init_96 : decode cX11_init 96 = .ok (.bipush 112, 2) := by decide +kernel
theorem dX11_init_98 : decode cX11_init 98 = .ok (.newarray .boolean, 2) := by decide +kernel
theorem dX11_init_100 : decode cX11_init 100 = .ok (.putfield 47, 3) := by decide +kernel
theorem dX11_init_103 : decode cX11_init 103 = .ok (.aload_n 0, 1) := by decide +kernel
theorem dX11_init_104 : decode cX11_init 104 = .ok (.bipush 112, 2) := by decide +kernel
theorem dX11_init_106 : decode cX11_init 106 = .ok (.newarray .boolean, 2) := by decide +kernel
theorem dX11_init_108 : decode cX11_init 108 = .ok (.putfield 50, 3) := by decide +kernel
theorem dX11_init_111 : decode cX11_init 111 = .ok (.aload_n 0, 1) := by decide +kernel
theorem dX11_init_112 : decode cX11_init 112 = .ok (.sipush 600, 3) := by decide +kernel
theorem dX11_init_115 : decode cX11_init 115 = .ok (.newarray .int, 2) := by decide +kernel
theorem dX11_init_117 : decode cX11_init 117 = .ok (.putfield 53, 3) := by decide +kernel
theorem dX11_init_120 : decode cX11_init 120 = .ok (.aload_n 0, 1) := by decide +kernel
theorem dX11_init_121 : decode cX11_init 121 = .ok (.iconst (-1), 1) := by decide +kernel
theorem dX11_init_122 : decode cX11_init 122 = .ok (.putfield 56, 3) := by decide +kernel
theorem dX11_init_125 : decode cX11_init 125 = .ok (.aload_n 0, 1) := by decide +kernel
theorem dX11_init_126 : decode cX11_init 126 = .ok (.iconst 3, 1) := by decide +kernel
theorem dX11_init_127 : decode cX11_init 127 = .ok (.newarray .long, 2) := by decide +kernel
theorem dX11_init_129 : decode cX11_init 129 = .ok (.putfield 59, 3) := by decide +kernel
theorem dX11_init_132 : decode cX11_init 132 = .ok (.aload_n 0, 1) := by decide +kernel
theorem dX11_init_133 : decode cX11_init 133 = .ok (.bipush 12, 2) := by decide +kernel
theorem dX11_init_135 : decode cX11_init 135 = .ok (.newarray .long, 2) := by decide +kernel
theorem dX11_init_137 : decode cX11_init 137 = .ok (.putfield 63, 3) := by decide +kernel
theorem dX11_init_140 : decode cX11_init 140 = .ok (.aload_n 0, 1) := by decide +kernel
theorem dX11_init_141 : decode cX11_init 141 = .ok (.bipush 6, 2) := by decide +kernel
theorem dX11_init_143 : decode cX11_init 143 = .ok (.newarray .int, 2) := by decide +kernel
theorem dX11_init_145 : decode cX11_init 145 = .ok (.putfield 66, 3) := by decide +kernel
theorem dX11_init_148 : decode cX11_init 148 = .ok (.aload_n 0, 1) := by decide +kernel
theorem dX11_init_149 : decode cX11_init 149 = .ok (.bipush 6, 2) := by decide +kernel
theorem dX11_init_151 : decode cX11_init 151 = .ok (.newarray .long, 2) := by decide +kernel
theorem dX11_init_153 : decode cX11_init 153 = .ok (.putfield 69, 3) := by decide +kernel
theorem dX11_init_156 : decode cX11_init 156 = .ok (.aload_n 0, 1) := by decide +kernel
theorem dX11_init_157 : decode cX11_init 157 = .ok (.bipush 6, 2) := by decide +kernel
theorem dX11_init_159 : decode cX11_init 159 = .ok (.newarray .int, 2) := by decide +kernel
theorem dX11_init_161 : decode cX11_init 161 = .ok (.putfield 72, 3) := by decide +kernel
theorem dX11_init_164 : decode cX11_init 164 = .ok (.aload_n 0, 1) := by decide +kernel
theorem dX11_init_165 : decode cX11_init 165 = .ok (.bipush 40, 2) := by decide +kernel
theorem dX11_init_167 : decode cX11_init 167 = .ok (.newarray .int, 2) := by decide +kernel
theorem dX11_init_169 : decode cX11_init 169 = .ok (.putfield 75, 3) := by decide +kernel
theorem dX11_init_172 : decode cX11_init 172 = .ok (.aload_n 0, 1) := by decide +kernel
theorem dX11_init_173 : decode cX11_init 173 = .ok (.bipush 40, 2) := by decide +kernel
theorem dX11_init_175 : decode cX11_init 175 = .ok (.newarray .int, 2) := by decide +kernel
theorem dX11_init_177 : decode cX11_init 177 = .ok (.putfield 78, 3) := by decide +kernel
theorem dX11_init_180 : decode cX11_init 180 = .ok (.aload_n 0, 1) := by decide +kernel
theorem dX11_init_181 : decode cX11_init 181 = .ok (.bipush 40, 2) := by decide +kernel
theorem dX11_init_183 : decode cX11_init 183 = .ok (.newarray .int, 2) := by decide +kernel
theorem dX11_init_185 : decode cX11_init 185 = .ok (.putfield 81, 3) := by decide +kernel
theorem dX11_init_188 : decode cX11_init 188 = .ok (.aload_n 0, 1) := by decide +kernel
theorem dX11_init_189 : decode cX11_init 189 = .ok (.bipush 40, 2) := by decide +kernel
theorem dX11_init_191 : decode cX11_init 191 = .ok (.newarray .int, 2) := by decide +kernel
theorem dX11_init_193 : decode cX11_init 193 = .ok (.putfield 84, 3) := by decide +kernel
theorem dX11_init_196 : decode cX11_init 196 = .ok (.aload_n 0, 1) := by decide +kernel
theorem dX11_init_197 : decode cX11_init 197 = .ok (.bipush 80, 2) := by decide +kernel
theorem dX11_init_199 : decode cX11_init 199 = .ok (.newarray .int, 2) := by decide +kernel
theorem dX11_init_201 : decode cX11_init 201 = .ok (.putfield 87, 3) := by decide +kernel
theorem dX11_init_204 : decode cX11_init 204 = .ok (.aload_n 0, 1) := by decide +kernel
theorem dX11_init_205 : decode cX11_init 205 = .ok (.bipush 40, 2) := by decide +kernel
theorem dX11_init_207 : decode cX11_init 207 = .ok (.newarray .int, 2) := by decide +kernel
theorem dX11_init_209 : decode cX11_init 209 = .ok (.putfield 90, 3) := by decide +kernel
theorem dX11_init_212 : decode cX11_init 212 = .ok (.aload_n 0, 1) := by decide +kernel
theorem dX11_init_213 : decode cX11_init 213 = .ok (.bipush 40, 2) := by decide +kernel
theorem dX11_init_215 : decode cX11_init 215 = .ok (.newarray .int, 2) := by decide +kernel
theorem dX11_init_217 : decode cX11_init 217 = .ok (.putfield 93, 3) := by decide +kernel
theorem dX11_init_220 : decode cX11_init 220 = .ok (.aload_n 0, 1) := by decide +kernel
theorem dX11_init_221 : decode cX11_init 221 = .ok (.bipush 40, 2) := by decide +kernel
theorem dX11_init_223 : decode cX11_init 223 = .ok (.newarray .int, 2) := by decide +kernel
theorem dX11_init_225 : decode cX11_init 225 = .ok (.putfield 96, 3) := by decide +kernel
theorem dX11_init_228 : decode cX11_init 228 = .ok (.aload_n 0, 1) := by decide +kernel
theorem dX11_init_229 : decode cX11_init 229 = .ok (.bipush 40, 2) := by decide +kernel
theorem dX11_init_231 : decode cX11_init 231 = .ok (.newarray .int, 2) := by decide +kernel
theorem dX11_init_233 : decode cX11_init 233 = .ok (.putfield 99, 3) := by decide +kernel
theorem dX11_init_236 : decode cX11_init 236 = .ok (.aload_n 0, 1) := by decide +kernel
theorem dX11_init_237 : decode cX11_init 237 = .ok (.bipush 40, 2) := by decide +kernel
theorem dX11_init_239 : decode cX11_init 239 = .ok (.newarray .int, 2) := by decide +kernel
theorem dX11_init_241 : decode cX11_init 241 = .ok (.putfield 102, 3) := by decide +kernel
theorem dX11_init_244 : decode cX11_init 244 = .ok (.aload_n 0, 1) := by decide +kernel
theorem dX11_init_245 : decode cX11_init 245 = .ok (.sipush 700, 3) := by decide +kernel
theorem dX11_init_248 : decode cX11_init 248 = .ok (.newarray .int, 2) := by decide +kernel
theorem dX11_init_250 : decode cX11_init 250 = .ok (.putfield 105, 3) := by decide +kernel
theorem dX11_init_253 : decode cX11_init 253 = .ok (.aload_n 0, 1) := by decide +kernel
theorem dX11_init_254 : decode cX11_init 254 = .ok (.bipush 40, 2) := by decide +kernel
theorem dX11_init_256 : decode cX11_init 256 = .ok (.newarray .long, 2) := by decide +kernel
theorem dX11_init_258 : decode cX11_init 258 = .ok (.putfield 108, 3) := by decide +kernel
theorem dX11_init_261 : decode cX11_init 261 = .ok (.aload_n 0, 1) := by decide +kernel
theorem dX11_init_262 : decode cX11_init 262 = .ok (.bipush 40, 2) := by decide +kernel
theorem dX11_init_264 : decode cX11_init 264 = .ok (.newarray .int, 2) := by decide +kernel
theorem dX11_init_266 : decode cX11_init 266 = .ok (.putfield 111, 3) := by decide +kernel
theorem dX11_init_269 : decode cX11_init 269 = .ok (.aload_n 0, 1) := by decide +kernel
theorem dX11_init_270 : decode cX11_init 270 = .ok (.bipush 90, 2) := by decide +kernel
theorem dX11_init_272 : decode cX11_init 272 = .ok (.newarray .int, 2) := by decide +kernel
theorem dX11_init_274 : decode cX11_init 274 = .ok (.putfield 114, 3) := by decide +kernel
theorem dX11_init_277 : decode cX11_init 277 = .ok (.aload_n 0, 1) := by decide +kernel
theorem dX11_init_278 : decode cX11_init 278 = .ok (.bipush 90, 2) := by decide +kernel
theorem dX11_init_280 : decode cX11_init 280 = .ok (.newarray .int, 2) := by decide +kernel
theorem dX11_init_282 : decode cX11_init 282 = .ok (.putfield 117, 3) := by decide +kernel
theorem dX11_init_285 : decode cX11_init 285 = .ok (.aload_n 0, 1) := by decide +kernel
theorem dX11_init_286 : decode cX11_init 286 = .ok (.bipush 90, 2) := by decide +kernel
theorem dX11_init_288 : decode cX11_init 288 = .ok (.newarray .int, 2) := by decide +kernel
theorem dX11_init_290 : decode cX11_init 290 = .ok (.putfield 120, 3) := by decide +kernel
theorem dX11_init_293 : decode cX11_init 293 = .ok (.aload_n 0, 1) := by decide +kernel
theorem dX11_init_294 : decode cX11_init 294 = .ok (.bipush 12, 2) := by decide +kernel
theorem dX11_init_296 : decode cX11_init 296 = .ok (.newarray .int, 2) := by decide +kernel
theorem dX11_init_298 : decode cX11_init 298 = .ok (.putfield 123, 3) := by decide +kernel
theorem dX11_init_301 : decode cX11_init 301 = .ok (.aload_n 0, 1) := by decide +kernel
theorem dX11_init_302 : decode cX11_init 302 = .ok (.sipush 700, 3) := by decide +kernel
theorem dX11_init_305 : decode cX11_init 305 = .ok (.newarray .int, 2) := by decide +kernel
theorem dX11_init_307 : decode cX11_init 307 = .ok (.putfield 126, 3) := by decide +kernel
theorem dX11_init_310 : decode cX11_init 310 = .ok (.aload_n 0, 1) := by decide +kernel
theorem dX11_init_311 : decode cX11_init 311 = .ok (.sipush 700, 3) := by decide +kernel
theorem dX11_init_314 : decode cX11_init 314 = .ok (.newarray .int, 2) := by decide +kernel
theorem dX11_init_316 : decode cX11_init 316 = .ok (.putfield 129, 3) := by decide +kernel
theorem dX11_init_319 : decode cX11_init 319 = .ok (.aload_n 0, 1) := by decide +kernel
theorem dX11_init_320 : decode cX11_init 320 = .ok (.sipush 10240, 3) := by decide +kernel
theorem dX11_init_323 : decode cX11_init 323 = .ok (.newarray .int, 2) := by decide +kernel
theorem dX11_init_325 : decode cX11_init 325 = .ok (.putfield 132, 3) := by decide +kernel
theorem dX11_init_328 : decode cX11_init 328 = .ok (.aload_n 0, 1) := by decide +kernel
theorem dX11_init_329 : decode cX11_init 329 = .ok (.sipush 1280, 3) := by decide +kernel
theorem dX11_init_332 : decode cX11_init 332 = .ok (.newarray .int, 2) := by decide +kernel
theorem dX11_init_334 : decode cX11_init 334 = .ok (.putfield 135, 3) := by decide +kernel
theorem dX11_init_337 : decode cX11_init 337 = .ok (.aload_n 0, 1) := by decide +kernel
theorem dX11_init_338 : decode cX11_init 338 = .ok (.sipush 10000, 3) := by decide +kernel
theorem dX11_init_341 : decode cX11_init 341 = .ok (.newarray .int, 2) := by decide +kernel
theorem dX11_init_343 : decode cX11_init 343 = .ok (.putfield 138, 3) := by decide +kernel
theorem dX11_init_346 : decode cX11_init 346 = .ok (.aload_n 0, 1) := by decide +kernel
theorem dX11_init_347 : decode cX11_init 347 = .ok (.sipush 2002, 3) := by decide +kernel
theorem dX11_init_350 : decode cX11_init 350 = .ok (.newarray .int, 2) := by decide +kernel
theorem dX11_init_352 : decode cX11_init 352 = .ok (.putfield 141, 3) := by decide +kernel
theorem dX11_init_355 : decode cX11_init 355 = .ok (.aload_n 0, 1) := by decide +kernel
theorem dX11_init_356 : decode cX11_init 356 = .ok (.sipush 2002, 3) := by decide +kernel
theorem dX11_init_359 : decode cX11_init 359 = .ok (.newarray .int, 2) := by decide +kernel
theorem dX11_init_361 : decode cX11_init 361 = .ok (.putfield 144, 3) := by decide +kernel
theorem dX11_init_364 : decode cX11_init 364 = .ok (.aload_n 0, 1) := by decide +kernel
theorem dX11_init_365 : decode cX11_init 365 = .ok (.sipush 16016, 3) := by decide +kernel
theorem dX11_init_368 : decode cX11_init 368 = .ok (.newarray .int, 2) := by decide +kernel
theorem dX11_init_370 : decode cX11_init 370 = .ok (.putfield 147, 3) := by decide +kernel
theorem dX11_init_373 : decode cX11_init 373 = .ok (.return_, 1) := by decide +kernel
theorem dX11_in_0 : decode cX11_in 0 = .ok (.iload_n 0, 1) := by decide +kernel
theorem dX11_in_1 : decode cX11_in 1 = .ok (.iload_n 1, 1) := by decide +kernel
theorem dX11_in_2 : decode cX11_in 2 = .ok (.if_icmp .lt 12, 3) := by decide +kernel
theorem dX11_in_5 : decode cX11_in 5 = .ok (.iload_n 0, 1) := by decide +kernel
theorem dX11_in_6 : decode cX11_in 6 = .ok (.iload_n 2, 1) := by decide +kernel
theorem dX11_in_7 : decode cX11_in 7 = .ok (.if_icmp .gt 7, 3) := by decide +kernel
theorem dX11_in_10 : decode cX11_in 10 = .ok (.iconst 1, 1) := by decide +kernel
theorem dX11_in_11 : decode cX11_in 11 = .ok (.goto 4, 3) := by decide +kernel
theorem dX11_in_14 : decode cX11_in 14 = .ok (.iconst 0, 1) := by decide +kernel
theorem dX11_in_15 : decode cX11_in 15 = .ok (.ireturn, 1) := by decide +kernel
theorem dX11_forget_0 : decode cX11_forget 0 = .ok (.aload_n 0, 1) := by decide +kernel
theorem dX11_forget_1 : decode cX11_forget 1 = .ok (.iconst 0, 1) := by decide +kernel
theorem dX11_forget_2 : decode cX11_forget 2 = .ok (.putfield 153, 3) := by decide +kernel
theorem dX11_forget_5 : decode cX11_forget 5 = .ok (.aload_n 0, 1) := by decide +kernel
theorem dX11_forget_6 : decode cX11_forget 6 = .ok (.iconst (-1), 1) := by decide +kernel
theorem dX11_forget_7 : decode cX11_forget 7 = .ok (.putfield 26, 3) := by decide +kernel
theorem dX11_forget_10 : decode cX11_forget 10 = .ok (.return_, 1) := by decide +kernel
theorem dX11_rule_0 : decode cX11_rule 0 = .ok (.aload_n 0, 1) := by decide +kernel
theorem dX11_rule_1 : decode cX11_rule 1 = .ok (.iconst 0, 1) := by decide +kernel
theorem dX11_rule_2 : decode cX11_rule 2 = .ok (.putfield 150, 3) := by decide +kernel
theorem dX11_rule_5 : decode cX11_rule 5 = .ok (.iload_n 1, 1) := by decide +kernel
theorem dX11_rule_6 : decode cX11_rule 6 = .ok (.iconst 0, 1) := by decide +kernel
theorem dX11_rule_7 : decode cX11_rule 7 = .ok (.bipush 7, 2) := by decide +kernel
theorem dX11_rule_9 : decode cX11_rule 9 = .ok (.invokestatic 157, 3) := by decide +kernel
theorem dX11_rule_12 : decode cX11_rule 12 = .ok (.ifCond .eq 66, 3) := by decide +kernel
theorem dX11_rule_15 : decode cX11_rule 15 = .ok (.iload_n 2, 1) := by decide +kernel
theorem dX11_rule_16 : decode cX11_rule 16 = .ok (.iconst 0, 1) := by decide +kernel
theorem dX11_rule_17 : decode cX11_rule 17 = .ok (.bipush 11, 2) := by decide +kernel
theorem dX11_rule_19 : decode cX11_rule 19 = .ok (.invokestatic 157, 3) := by decide +kernel
theorem dX11_rule_22 : decode cX11_rule 22 = .ok (.ifCond .eq 56, 3) := by decide +kernel
theorem dX11_rule_25 : decode cX11_rule 25 = .ok (.iload_n 3, 1) := by decide +kernel
theorem dX11_rule_26 : decode cX11_rule 26 = .ok (.iconst 0, 1) := by decide +kernel
theorem dX11_rule_27 : decode cX11_rule 27 = .ok (.bipush 7, 2) := by decide +kernel
theorem dX11_rule_29 : decode cX11_rule 29 = .ok (.invokestatic 157, 3) := by decide +kernel
theorem dX11_rule_32 : decode cX11_rule 32 = .ok (.ifCond .eq 46, 3) := by decide +kernel
theorem dX11_rule_35 : decode cX11_rule 35 = .ok (.iload 4, 2) := by decide +kernel
theorem dX11_rule_37 : decode cX11_rule 37 = .ok (.iconst 0, 1) := by decide +kernel
theorem dX11_rule_38 : decode cX11_rule 38 = .ok (.iconst 2, 1) := by decide +kernel
theorem dX11_rule_39 : decode cX11_rule 39 = .ok (.invokestatic 157, 3) := by decide +kernel
theorem dX11_rule_42 : decode cX11_rule 42 = .ok (.ifCond .eq 36, 3) := by decide +kernel
theorem dX11_rule_45 : decode cX11_rule 45 = .ok (.iload 4, 2) := by decide +kernel
theorem dX11_rule_47 : decode cX11_rule 47 = .ok (.ifCond .le 14, 3) := by decide +kernel
theorem dX11_rule_50 : decode cX11_rule 50 = .ok (.iload 5, 2) := by decide +kernel
theorem dX11_rule_52 : decode cX11_rule 52 = .ok (.iconst 0, 1) := by decide +kernel
theorem dX11_rule_53 : decode cX11_rule 53 = .ok (.bipush 11, 2) := by decide +kernel
theorem dX11_rule_55 : decode cX11_rule 55 = .ok (.invokestatic 157, 3) := by decide +kernel
theorem dX11_rule_58 : decode cX11_rule 58 = .ok (.ifCond .eq 20, 3) := by decide +kernel
theorem dX11_rule_61 : decode cX11_rule 61 = .ok (.iload 4, 2) := by decide +kernel
theorem dX11_rule_63 : decode cX11_rule 63 = .ok (.iconst 1, 1) := by decide +kernel
theorem dX11_rule_64 : decode cX11_rule 64 = .ok (.if_icmp .le 17, 3) := by decide +kernel
theorem dX11_rule_67 : decode cX11_rule 67 = .ok (.iload 6, 2) := by decide +kernel
theorem dX11_rule_69 : decode cX11_rule 69 = .ok (.iconst 0, 1) := by decide +kernel
theorem dX11_rule_70 : decode cX11_rule 70 = .ok (.bipush 11, 2) := by decide +kernel
theorem dX11_rule_72 : decode cX11_rule 72 = .ok (.invokestatic 157, 3) := by decide +kernel
theorem dX11_rule_75 : decode cX11_rule 75 = .ok (.ifCond .ne 6, 3) := by decide +kernel
theorem dX11_rule_78 : decode cX11_rule 78 = .ok (.bipush (-2), 2) := by decide +kernel
theorem dX11_rule_80 : decode cX11_rule 80 = .ok (.ireturn, 1) := by decide +kernel
theorem dX11_rule_81 : decode cX11_rule 81 = .ok (.aload_n 0, 1) := by decide +kernel
theorem dX11_rule_82 : decode cX11_rule 82 = .ok (.getfield 161, 3) := by decide +kernel
theorem dX11_rule_85 : decode cX11_rule 85 = .ok (.bipush 48, 2) := by decide +kernel
theorem dX11_rule_87 : decode cX11_rule 87 = .ok (.if_icmp .ne 6, 3) := by decide +kernel
theorem dX11_rule_90 : decode cX11_rule 90 = .ok (.bipush (-3), 2) := by decide +kernel
theorem dX11_rule_92 : decode cX11_rule 92 = .ok (.ireturn, 1) := by decide +kernel
theorem dX11_rule_93 : decode cX11_rule 93 = .ok (.aload_n 0, 1) := by decide +kernel
theorem dX11_rule_94 : decode cX11_rule 94 = .ok (.getfield 7, 3) := by decide +kernel
theorem dX11_rule_97 : decode cX11_rule 97 = .ok (.bipush 6, 2) := by decide +kernel
theorem dX11_rule_99 : decode cX11_rule 99 = .ok (.aload_n 0, 1) := by decide +kernel
theorem dX11_rule_100 : decode cX11_rule 100 = .ok (.getfield 161, 3) := by decide +kernel
theorem dX11_rule_103 : decode cX11_rule 103 = .ok (.imul, 1) := by decide +kernel
theorem dX11_rule_104 : decode cX11_rule 104 = .ok (.iload_n 1, 1) := by decide +kernel
theorem dX11_rule_105 : decode cX11_rule 105 = .ok (.iastore, 1) := by decide +kernel
theorem dX11_rule_106 : decode cX11_rule 106 = .ok (.aload_n 0, 1) := by decide +kernel
theorem dX11_rule_107 : decode cX11_rule 107 = .ok (.getfield 7, 3) := by decide +kernel
theorem dX11_rule_110 : decode cX11_rule 110 = .ok (.bipush 6, 2) := by decide +kernel
theorem dX11_rule_112 : decode cX11_rule 112 = .ok (.aload_n 0, 1) := by decide +kernel
theorem dX11_rule_113 : decode cX11_rule 113 = .ok (.getfield 161, 3) := by decide +kernel
theorem dX11_rule_116 : decode cX11_rule 116 = .ok (.imul, 1) := by decide +kernel
theorem dX11_rule_117 : decode cX11_rule 117 = .ok (.iconst 1, 1) := by decide +kernel
theorem dX11_rule_118 : decode cX11_rule 118 = .ok (.iadd, 1) := by decide +kernel
theorem dX11_rule_119 : decode cX11_rule 119 = .ok (.iload_n 2, 1) := by decide +kernel
theorem dX11_rule_120 : decode cX11_rule 120 = .ok (.iastore, 1) := by decide +kernel
theorem dX11_rule_121 : decode cX11_rule 121 = .ok (.aload_n 0, 1) := by decide +kernel
theorem dX11_rule_122 : decode cX11_rule 122 = .ok (.getfield 7, 3) := by decide +kernel
theorem dX11_rule_125 : decode cX11_rule 125 = .ok (.bipush 6, 2) := by decide +kernel
theorem dX11_rule_127 : decode cX11_rule 127 = .ok (.aload_n 0, 1) := by decide +kernel
theorem dX11_rule_128 : decode cX11_rule 128 = .ok (.getfield 161, 3) := by decide +kernel
theorem dX11_rule_131 : decode cX11_rule 131 = .ok (.imul, 1) := by decide +kernel
theorem dX11_rule_132 : decode cX11_rule 132 = .ok (.iconst 2, 1) := by decide +kernel
theorem dX11_rule_133 : decode cX11_rule 133 = .ok (.iadd, 1) := by decide +kernel
theorem dX11_rule_134 : decode cX11_rule 134 = .ok (.iload_n 3, 1) := by decide +kernel
theorem dX11_rule_135 : decode cX11_rule 135 = .ok (.iastore, 1) := by decide +kernel
theorem dX11_rule_136 : decode cX11_rule 136 = .ok (.aload_n 0, 1) := by decide +kernel
theorem dX11_rule_137 : decode cX11_rule 137 = .ok (.getfield 7, 3) := by decide +kernel
theorem dX11_rule_140 : decode cX11_rule 140 = .ok (.bipush 6, 2) := by decide +kernel
theorem dX11_rule_142 : decode cX11_rule 142 = .ok (.aload_n 0, 1) := by decide +kernel
theorem dX11_rule_143 : decode cX11_rule 143 = .ok (.getfield 161, 3) := by decide +kernel
theorem dX11_rule_146 : decode cX11_rule 146 = .ok (.imul, 1) := by decide +kernel
theorem dX11_rule_147 : decode cX11_rule 147 = .ok (.iconst 3, 1) := by decide +kernel
theorem dX11_rule_148 : decode cX11_rule 148 = .ok (.iadd, 1) := by decide +kernel
theorem dX11_rule_149 : decode cX11_rule 149 = .ok (.iload 4, 2) := by decide +kernel
theorem dX11_rule_151 : decode cX11_rule 151 = .ok (.iastore, 1) := by decide +kernel
theorem dX11_rule_152 : decode cX11_rule 152 = .ok (.aload_n 0, 1) := by decide +kernel
theorem dX11_rule_153 : decode cX11_rule 153 = .ok (.getfield 7, 3) := by decide +kernel
theorem dX11_rule_156 : decode cX11_rule 156 = .ok (.bipush 6, 2) := by decide +kernel
theorem dX11_rule_158 : decode cX11_rule 158 = .ok (.aload_n 0, 1) := by decide +kernel
theorem dX11_rule_159 : decode cX11_rule 159 = .ok (.getfield 161, 3) := by decide +kernel
theorem dX11_rule_162 : decode cX11_rule 162 = .ok (.imul, 1) := by decide +kernel
theorem dX11_rule_163 : decode cX11_rule 163 = .ok (.iconst 4, 1) := by decide +kernel
theorem dX11_rule_164 : decode cX11_rule 164 = .ok (.iadd, 1) := by decide +kernel
theorem dX11_rule_165 : decode cX11_rule 165 = .ok (.iload 5, 2) := by decide +kernel
theorem dX11_rule_167 : decode cX11_rule 167 = .ok (.iastore, 1) := by decide +kernel
theorem dX11_rule_168 : decode cX11_rule 168 = .ok (.aload_n 0, 1) := by decide +kernel
theorem dX11_rule_169 : decode cX11_rule 169 = .ok (.getfield 7, 3) := by decide +kernel
theorem dX11_rule_172 : decode cX11_rule 172 = .ok (.bipush 6, 2) := by decide +kernel
theorem dX11_rule_174 : decode cX11_rule 174 = .ok (.aload_n 0, 1) := by decide +kernel
theorem dX11_rule_175 : decode cX11_rule 175 = .ok (.getfield 161, 3) := by decide +kernel
theorem dX11_rule_178 : decode cX11_rule 178 = .ok (.imul, 1) := by decide +kernel
theorem dX11_rule_179 : decode cX11_rule 179 = .ok (.iconst 5, 1) := by decide +kernel
theorem dX11_rule_180 : decode cX11_rule 180 = .ok (.iadd, 1) := by decide +kernel
theorem dX11_rule_181 : decode cX11_rule 181 = .ok (.iload 6, 2) := by decide +kernel
theorem dX11_rule_183 : decode cX11_rule 183 = .ok (.iastore, 1) := by decide +kernel
theorem dX11_rule_184 : decode cX11_rule 184 = .ok (.aload_n 0, 1) := by decide +kernel
theorem dX11_rule_185 : decode cX11_rule 185 = .ok (.dup, 1) := by decide +kernel
theorem dX11_rule_186 : decode cX11_rule 186 = .ok (.getfield 161, 3) := by decide +kernel
theorem dX11_rule_189 : decode cX11_rule 189 = .ok (.iconst 1, 1) := by decide +kernel
theorem dX11_rule_190 : decode cX11_rule 190 = .ok (.iadd, 1) := by decide +kernel
theorem dX11_rule_191 : decode cX11_rule 191 = .ok (.putfield 161, 3) := by decide +kernel
theorem dX11_rule_194 : decode cX11_rule 194 = .ok (.aload_n 0, 1) := by decide +kernel
theorem dX11_rule_195 : decode cX11_rule 195 = .ok (.invokevirtual 164, 3) := by decide +kernel
theorem dX11_rule_198 : decode cX11_rule 198 = .ok (.aload_n 0, 1) := by decide +kernel
theorem dX11_rule_199 : decode cX11_rule 199 = .ok (.getfield 161, 3) := by decide +kernel
theorem dX11_rule_202 : decode cX11_rule 202 = .ok (.iconst 1, 1) := by decide +kernel
theorem dX11_rule_203 : decode cX11_rule 203 = .ok (.isub, 1) := by decide +kernel
theorem dX11_rule_204 : decode cX11_rule 204 = .ok (.ireturn, 1) := by decide +kernel
theorem dX11_arc_0 : decode cX11_arc 0 = .ok (.aload_n 0, 1) := by decide +kernel
theorem dX11_arc_1 : decode cX11_arc 1 = .ok (.iconst 0, 1) := by decide +kernel
theorem dX11_arc_2 : decode cX11_arc 2 = .ok (.putfield 150, 3) := by decide +kernel
theorem dX11_arc_5 : decode cX11_arc 5 = .ok (.iload_n 1, 1) := by decide +kernel
theorem dX11_arc_6 : decode cX11_arc 6 = .ok (.iconst 0, 1) := by decide +kernel
theorem dX11_arc_7 : decode cX11_arc 7 = .ok (.bipush 15, 2) := by decide +kernel
theorem dX11_arc_9 : decode cX11_arc 9 = .ok (.invokestatic 157, 3) := by decide +kernel
theorem dX11_arc_12 : decode cX11_arc 12 = .ok (.ifCond .eq 24, 3) := by decide +kernel
theorem dX11_arc_15 : decode cX11_arc 15 = .ok (.iload_n 2, 1) := by decide +kernel
theorem dX11_arc_16 : decode cX11_arc 16 = .ok (.iconst 0, 1) := by decide +kernel
theorem dX11_arc_17 : decode cX11_arc 17 = .ok (.bipush 11, 2) := by decide +kernel
theorem dX11_arc_19 : decode cX11_arc 19 = .ok (.invokestatic 157, 3) := by decide +kernel
theorem dX11_arc_22 : decode cX11_arc 22 = .ok (.ifCond .eq 14, 3) := by decide +kernel
theorem dX11_arc_25 : decode cX11_arc 25 = .ok (.iload_n 3, 1) := by decide +kernel
theorem dX11_arc_26 : decode cX11_arc 26 = .ok (.bipush 8, 2) := by decide +kernel
theorem dX11_arc_28 : decode cX11_arc 28 = .ok (.bipush 15, 2) := by decide +kernel
theorem dX11_arc_30 : decode cX11_arc 30 = .ok (.invokestatic 157, 3) := by decide +kernel
theorem dX11_arc_33 : decode cX11_arc 33 = .ok (.ifCond .ne 6, 3) := by decide +kernel
theorem dX11_arc_36 : decode cX11_arc 36 = .ok (.bipush (-2), 2) := by decide +kernel
theorem dX11_arc_38 : decode cX11_arc 38 = .ok (.ireturn, 1) := by decide +kernel
theorem dX11_arc_39 : decode cX11_arc 39 = .ok (.sipush 192, 3) := by decide +kernel
theorem dX11_arc_42 : decode cX11_arc 42 = .ok (.iload_n 1, 1) := by decide +kernel
theorem dX11_arc_43 : decode cX11_arc 43 = .ok (.imul, 1) := by decide +kernel
theorem dX11_arc_44 : decode cX11_arc 44 = .ok (.bipush 16, 2) := by decide +kernel
theorem dX11_arc_46 : decode cX11_arc 46 = .ok (.iload_n 2, 1) := by decide +kernel
theorem dX11_arc_47 : decode cX11_arc 47 = .ok (.imul, 1) := by decide +kernel
theorem dX11_arc_48 : decode cX11_arc 48 = .ok (.iadd, 1) := by decide +kernel
theorem dX11_arc_49 : decode cX11_arc 49 = .ok (.iload_n 3, 1) := by decide +kernel
theorem dX11_arc_50 : decode cX11_arc 50 = .ok (.iadd, 1) := by decide +kernel
theorem dX11_arc_51 : decode cX11_arc 51 = .ok (.istore 4, 2) := by decide +kernel
theorem dX11_arc_53 : decode cX11_arc 53 = .ok (.aload_n 0, 1) := by decide +kernel
theorem dX11_arc_54 : decode cX11_arc 54 = .ok (.getfield 13, 3) := by decide +kernel
theorem dX11_arc_57 : decode cX11_arc 57 = .ok (.iload 4, 2) := by decide +kernel
theorem dX11_arc_59 : decode cX11_arc 59 = .ok (.baload, 1) := by decide +kernel
theorem dX11_arc_60 : decode cX11_arc 60 = .ok (.ifCond .eq 8, 3) := by decide +kernel
theorem dX11_arc_63 : decode cX11_arc 63 = .ok (.aload_n 0, 1) := by decide +kernel
theorem dX11_arc_64 : decode cX11_arc 64 = .ok (.getfield 167, 3) := by decide +kernel
theorem dX11_arc_67 : decode cX11_arc 67 = .ok (.ireturn, 1) := by decide +kernel
theorem dX11_arc_68 : decode cX11_arc 68 = .ok (.aload_n 0, 1) := by decide +kernel
theorem dX11_arc_69 : decode cX11_arc 69 = .ok (.getfield 167, 3) := by decide +kernel
theorem dX11_arc_72 : decode cX11_arc 72 = .ok (.bipush 64, 2) := by decide +kernel
theorem dX11_arc_74 : decode cX11_arc 74 = .ok (.if_icmp .ne 6, 3) := by decide +kernel
theorem dX11_arc_77 : decode cX11_arc 77 = .ok (.bipush (-3), 2) := by decide +kernel
theorem dX11_arc_79 : decode cX11_arc 79 = .ok (.ireturn, 1) := by decide +kernel
theorem dX11_arc_80 : decode cX11_arc 80 = .ok (.aload_n 0, 1) := by decide +kernel
theorem dX11_arc_81 : decode cX11_arc 81 = .ok (.getfield 13, 3) := by decide +kernel
theorem dX11_arc_84 : decode cX11_arc 84 = .ok (.iload 4, 2) := by decide +kernel
theorem dX11_arc_86 : decode cX11_arc 86 = .ok (.iconst 1, 1) := by decide +kernel
theorem dX11_arc_87 : decode cX11_arc 87 = .ok (.bastore, 1) := by decide +kernel
theorem dX11_arc_88 : decode cX11_arc 88 = .ok (.aload_n 0, 1) := by decide +kernel
theorem dX11_arc_89 : decode cX11_arc 89 = .ok (.dup, 1) := by decide +kernel
theorem dX11_arc_90 : decode cX11_arc 90 = .ok (.getfield 167, 3) := by decide +kernel
theorem dX11_arc_93 : decode cX11_arc 93 = .ok (.iconst 1, 1) := by decide +kernel
theorem dX11_arc_94 : decode cX11_arc 94 = .ok (.iadd, 1) := by decide +kernel
theorem dX11_arc_95 : decode cX11_arc 95 = .ok (.putfield 167, 3) := by decide +kernel
theorem dX11_arc_98 : decode cX11_arc 98 = .ok (.aload_n 0, 1) := by decide +kernel
theorem dX11_arc_99 : decode cX11_arc 99 = .ok (.invokevirtual 164, 3) := by decide +kernel
theorem dX11_arc_102 : decode cX11_arc 102 = .ok (.aload_n 0, 1) := by decide +kernel
theorem dX11_arc_103 : decode cX11_arc 103 = .ok (.getfield 167, 3) := by decide +kernel
theorem dX11_arc_106 : decode cX11_arc 106 = .ok (.ireturn, 1) := by decide +kernel
theorem dX11_end_0 : decode cX11_end 0 = .ok (.aload_n 0, 1) := by decide +kernel
theorem dX11_end_1 : decode cX11_end 1 = .ok (.iconst 0, 1) := by decide +kernel
theorem dX11_end_2 : decode cX11_end 2 = .ok (.putfield 150, 3) := by decide +kernel
theorem dX11_end_5 : decode cX11_end 5 = .ok (.iload_n 1, 1) := by decide +kernel
theorem dX11_end_6 : decode cX11_end 6 = .ok (.iconst 0, 1) := by decide +kernel
theorem dX11_end_7 : decode cX11_end 7 = .ok (.bipush 15, 2) := by decide +kernel
theorem dX11_end_9 : decode cX11_end 9 = .ok (.invokestatic 157, 3) := by decide +kernel
theorem dX11_end_12 : decode cX11_end 12 = .ok (.ifCond .eq 12, 3) := by decide +kernel
theorem dX11_end_15 : decode cX11_end 15 = .ok (.iload_n 2, 1) := by decide +kernel
theorem dX11_end_16 : decode cX11_end 16 = .ok (.iconst 0, 1) := by decide +kernel
theorem dX11_end_17 : decode cX11_end 17 = .ok (.iconst 1, 1) := by decide +kernel
theorem dX11_end_18 : decode cX11_end 18 = .ok (.invokestatic 157, 3) := by decide +kernel
theorem dX11_end_21 : decode cX11_end 21 = .ok (.ifCond .ne 6, 3) := by decide +kernel
theorem dX11_end_24 : decode cX11_end 24 = .ok (.bipush (-2), 2) := by decide +kernel
theorem dX11_end_26 : decode cX11_end 26 = .ok (.ireturn, 1) := by decide +kernel
theorem dX11_end_27 : decode cX11_end 27 = .ok (.aload_n 0, 1) := by decide +kernel
theorem dX11_end_28 : decode cX11_end 28 = .ok (.getfield 17, 3) := by decide +kernel
theorem dX11_end_31 : decode cX11_end 31 = .ok (.iload_n 1, 1) := by decide +kernel
theorem dX11_end_32 : decode cX11_end 32 = .ok (.baload, 1) := by decide +kernel
theorem dX11_end_33 : decode cX11_end 33 = .ok (.ifCond .eq 7, 3) := by decide +kernel
theorem dX11_end_36 : decode cX11_end 36 = .ok (.iconst 1, 1) := by decide +kernel
theorem dX11_end_37 : decode cX11_end 37 = .ok (.goto 4, 3) := by decide +kernel
theorem dX11_end_40 : decode cX11_end 40 = .ok (.iconst 0, 1) := by decide +kernel
theorem dX11_end_41 : decode cX11_end 41 = .ok (.istore_n 3, 1) := by decide +kernel
theorem dX11_end_42 : decode cX11_end 42 = .ok (.aload_n 0, 1) := by decide +kernel
theorem dX11_end_43 : decode cX11_end 43 = .ok (.getfield 17, 3) := by decide +kernel
theorem dX11_end_46 : decode cX11_end 46 = .ok (.iload_n 1, 1) := by decide +kernel
theorem dX11_end_47 : decode cX11_end 47 = .ok (.iload_n 2, 1) := by decide +kernel
theorem dX11_end_48 : decode cX11_end 48 = .ok (.iconst 1, 1) := by decide +kernel
theorem dX11_end_49 : decode cX11_end 49 = .ok (.if_icmp .ne 7, 3) := by decide +kernel
theorem dX11_end_52 : decode cX11_end 52 = .ok (.iconst 1, 1) := by decide +kernel
theorem dX11_end_53 : decode cX11_end 53 = .ok (.goto 4, 3) := by decide +kernel
theorem dX11_end_56 : decode cX11_end 56 = .ok (.iconst 0, 1) := by decide +kernel
theorem dX11_end_57 : decode cX11_end 57 = .ok (.bastore, 1) := by decide +kernel
theorem dX11_end_58 : decode cX11_end 58 = .ok (.aload_n 0, 1) := by decide +kernel
theorem dX11_end_59 : decode cX11_end 59 = .ok (.invokevirtual 164, 3) := by decide +kernel
theorem dX11_end_62 : decode cX11_end 62 = .ok (.iload_n 3, 1) := by decide +kernel
theorem dX11_end_63 : decode cX11_end 63 = .ok (.ireturn, 1) := by decide +kernel
theorem dX11_clear_0 : decode cX11_clear 0 = .ok (.aload_n 0, 1) := by decide +kernel
theorem dX11_clear_1 : decode cX11_clear 1 = .ok (.iconst 0, 1) := by decide +kernel
theorem dX11_clear_2 : decode cX11_clear 2 = .ok (.putfield 150, 3) := by decide +kernel
theorem dX11_clear_5 : decode cX11_clear 5 = .ok (.aload_n 0, 1) := by decide +kernel
theorem dX11_clear_6 : decode cX11_clear 6 = .ok (.getfield 161, 3) := by decide +kernel
theorem dX11_clear_9 : decode cX11_clear 9 = .ok (.istore_n 1, 1) := by decide +kernel
theorem dX11_clear_10 : decode cX11_clear 10 = .ok (.aload_n 0, 1) := by decide +kernel
theorem dX11_clear_11 : decode cX11_clear 11 = .ok (.iconst 0, 1) := by decide +kernel
theorem dX11_clear_12 : decode cX11_clear 12 = .ok (.putfield 161, 3) := by decide +kernel
theorem dX11_clear_15 : decode cX11_clear 15 = .ok (.aload_n 0, 1) := by decide +kernel
theorem dX11_clear_16 : decode cX11_clear 16 = .ok (.iconst 0, 1) := by decide +kernel
theorem dX11_clear_17 : decode cX11_clear 17 = .ok (.putfield 167, 3) := by decide +kernel
theorem dX11_clear_20 : decode cX11_clear 20 = .ok (.iconst 0, 1) := by decide +kernel
theorem dX11_clear_21 : decode cX11_clear 21 = .ok (.istore_n 2, 1) := by decide +kernel
theorem dX11_clear_22 : decode cX11_clear 22 = .ok (.iload_n 2, 1) := by decide +kernel
theorem dX11_clear_23 : decode cX11_clear 23 = .ok (.sipush 3072, 3) := by decide +kernel
theorem dX11_clear_26 : decode cX11_clear 26 = .ok (.if_icmp .ge 16, 3) := by decide +kernel
theorem dX11_clear_29 : decode cX11_clear 29 = .ok (.aload_n 0, 1) := by decide +kernel
theorem dX11_clear_30 : decode cX11_clear 30 = .ok (.getfield 13, 3) := by decide +kernel
theorem dX11_clear_33 : decode cX11_clear 33 = .ok (.iload_n 2, 1) := by decide +kernel
theorem dX11_clear_34 : decode cX11_clear 34 = .ok (.iconst 0, 1) := by decide +kernel
theorem dX11_clear_35 : decode cX11_clear 35 = .ok (.bastore, 1) := by decide +kernel
theorem dX11_clear_36 : decode cX11_clear 36 = .ok (.iinc 2 1, 3) := by decide +kernel
theorem dX11_clear_39 : decode cX11_clear 39 = .ok (.goto (-17), 3) := by decide +kernel
theorem dX11_clear_42 : decode cX11_clear 42 = .ok (.iconst 0, 1) := by decide +kernel
theorem dX11_clear_43 : decode cX11_clear 43 = .ok (.istore_n 2, 1) := by decide +kernel
theorem dX11_clear_44 : decode cX11_clear 44 = .ok (.iload_n 2, 1) := by decide +kernel
theorem dX11_clear_45 : decode cX11_clear 45 = .ok (.bipush 16, 2) := by decide +kernel
theorem dX11_clear_47 : decode cX11_clear 47 = .ok (.if_icmp .ge 16, 3) := by decide +kernel
theorem dX11_clear_50 : decode cX11_clear 50 = .ok (.aload_n 0, 1) := by decide +kernel
theorem dX11_clear_51 : decode cX11_clear 51 = .ok (.getfield 17, 3) := by decide +kernel
theorem dX11_clear_54 : decode cX11_clear 54 = .ok (.iload_n 2, 1) := by decide +kernel
theorem dX11_clear_55 : decode cX11_clear 55 = .ok (.iconst 0, 1) := by decide +kernel
theorem dX11_clear_56 : decode cX11_clear 56 = .ok (.bastore, 1) := by decide +kernel
theorem dX11_clear_57 : decode cX11_clear 57 = .ok (.iinc 2 1, 3) := by decide +kernel
theorem dX11_clear_60 : decode cX11_clear 60 = .ok (.goto (-16), 3) := by decide +kernel
theorem dX11_clear_63 : decode cX11_clear 63 = .ok (.aload_n 0, 1) := by decide +kernel
theorem dX11_clear_64 : decode cX11_clear 64 = .ok (.invokevirtual 164, 3) := by decide +kernel
theorem dX11_clear_67 : decode cX11_clear 67 = .ok (.iload_n 1, 1) := by decide +kernel
theorem dX11_clear_68 : decode cX11_clear 68 = .ok (.ireturn, 1) := by decide +kernel
theorem dX11_push_0 : decode cX11_push 0 = .ok (.aload_n 0, 1) := by decide +kernel
theorem dX11_push_1 : decode cX11_push 1 = .ok (.iconst 0, 1) := by decide +kernel
theorem dX11_push_2 : decode cX11_push 2 = .ok (.putfield 150, 3) := by decide +kernel
theorem dX11_push_5 : decode cX11_push 5 = .ok (.iload_n 1, 1) := by decide +kernel
theorem dX11_push_6 : decode cX11_push 6 = .ok (.iconst 0, 1) := by decide +kernel
theorem dX11_push_7 : decode cX11_push 7 = .ok (.bipush 11, 2) := by decide +kernel
theorem dX11_push_9 : decode cX11_push 9 = .ok (.invokestatic 157, 3) := by decide +kernel
theorem dX11_push_12 : decode cX11_push 12 = .ok (.ifCond .ne 6, 3) := by decide +kernel
theorem dX11_push_15 : decode cX11_push 15 = .ok (.bipush (-2), 2) := by decide +kernel
theorem dX11_push_17 : decode cX11_push 17 = .ok (.ireturn, 1) := by decide +kernel
theorem dX11_push_18 : decode cX11_push 18 = .ok (.aload_n 0, 1) := by decide +kernel
theorem dX11_push_19 : decode cX11_push 19 = .ok (.getfield 170, 3) := by decide +kernel
theorem dX11_push_22 : decode cX11_push 22 = .ok (.bipush 30, 2) := by decide +kernel
theorem dX11_push_24 : decode cX11_push 24 = .ok (.if_icmp .ne 6, 3) := by decide +kernel
theorem dX11_push_27 : decode cX11_push 27 = .ok (.bipush (-3), 2) := by decide +kernel
theorem dX11_push_29 : decode cX11_push 29 = .ok (.ireturn, 1) := by decide +kernel
theorem dX11_push_30 : decode cX11_push 30 = .ok (.aload_n 0, 1) := by decide +kernel
theorem dX11_push_31 : decode cX11_push 31 = .ok (.getfield 20, 3) := by decide +kernel
theorem dX11_push_34 : decode cX11_push 34 = .ok (.aload_n 0, 1) := by decide +kernel
theorem dX11_push_35 : decode cX11_push 35 = .ok (.getfield 170, 3) := by decide +kernel
theorem dX11_push_38 : decode cX11_push 38 = .ok (.iload_n 1, 1) := by decide +kernel
theorem dX11_push_39 : decode cX11_push 39 = .ok (.iastore, 1) := by decide +kernel
theorem dX11_push_40 : decode cX11_push 40 = .ok (.aload_n 0, 1) := by decide +kernel
theorem dX11_push_41 : decode cX11_push 41 = .ok (.dup, 1) := by decide +kernel
theorem dX11_push_42 : decode cX11_push 42 = .ok (.getfield 170, 3) := by decide +kernel
theorem dX11_push_45 : decode cX11_push 45 = .ok (.iconst 1, 1) := by decide +kernel
theorem dX11_push_46 : decode cX11_push 46 = .ok (.iadd, 1) := by decide +kernel
theorem dX11_push_47 : decode cX11_push 47 = .ok (.putfield 170, 3) := by decide +kernel
theorem dX11_push_50 : decode cX11_push 50 = .ok (.aload_n 0, 1) := by decide +kernel
theorem dX11_push_51 : decode cX11_push 51 = .ok (.iconst (-1), 1) := by decide +kernel
theorem dX11_push_52 : decode cX11_push 52 = .ok (.putfield 26, 3) := by decide +kernel
theorem dX11_push_55 : decode cX11_push 55 = .ok (.aload_n 0, 1) := by decide +kernel
theorem dX11_push_56 : decode cX11_push 56 = .ok (.getfield 170, 3) := by decide +kernel
theorem dX11_push_59 : decode cX11_push 59 = .ok (.ireturn, 1) := by decide +kernel
theorem dX11_drop_0 : decode cX11_drop 0 = .ok (.aload_n 0, 1) := by decide +kernel
theorem dX11_drop_1 : decode cX11_drop 1 = .ok (.iconst 0, 1) := by decide +kernel
theorem dX11_drop_2 : decode cX11_drop 2 = .ok (.putfield 150, 3) := by decide +kernel
theorem dX11_drop_5 : decode cX11_drop 5 = .ok (.aload_n 0, 1) := by decide +kernel
theorem dX11_drop_6 : decode cX11_drop 6 = .ok (.getfield 170, 3) := by decide +kernel
theorem dX11_drop_9 : decode cX11_drop 9 = .ok (.istore_n 1, 1) := by decide +kernel
theorem dX11_drop_10 : decode cX11_drop 10 = .ok (.aload_n 0, 1) := by decide +kernel
theorem dX11_drop_11 : decode cX11_drop 11 = .ok (.iconst 0, 1) := by decide +kernel
theorem dX11_drop_12 : decode cX11_drop 12 = .ok (.putfield 170, 3) := by decide +kernel
theorem dX11_drop_15 : decode cX11_drop 15 = .ok (.aload_n 0, 1) := by decide +kernel
theorem dX11_drop_16 : decode cX11_drop 16 = .ok (.iconst (-1), 1) := by decide +kernel
theorem dX11_drop_17 : decode cX11_drop 17 = .ok (.putfield 26, 3) := by decide +kernel
theorem dX11_drop_20 : decode cX11_drop 20 = .ok (.iload_n 1, 1) := by decide +kernel
theorem dX11_drop_21 : decode cX11_drop 21 = .ok (.ireturn, 1) := by decide +kernel
theorem dX11_lies_0 : decode cX11_lies 0 = .ok (.aload_n 0, 1) := by decide +kernel
theorem dX11_lies_1 : decode cX11_lies 1 = .ok (.iconst 0, 1) := by decide +kernel
theorem dX11_lies_2 : decode cX11_lies 2 = .ok (.putfield 150, 3) := by decide +kernel
theorem dX11_lies_5 : decode cX11_lies 5 = .ok (.iload_n 1, 1) := by decide +kernel
theorem dX11_lies_6 : decode cX11_lies 6 = .ok (.iconst 0, 1) := by decide +kernel
theorem dX11_lies_7 : decode cX11_lies 7 = .ok (.bipush 7, 2) := by decide +kernel
theorem dX11_lies_9 : decode cX11_lies 9 = .ok (.invokestatic 157, 3) := by decide +kernel
theorem dX11_lies_12 : decode cX11_lies 12 = .ok (.ifCond .ne 6, 3) := by decide +kernel
theorem dX11_lies_15 : decode cX11_lies 15 = .ok (.bipush (-2), 2) := by decide +kernel
theorem dX11_lies_17 : decode cX11_lies 17 = .ok (.ireturn, 1) := by decide +kernel
theorem dX11_lies_18 : decode cX11_lies 18 = .ok (.iconst 1, 1) := by decide +kernel
theorem dX11_lies_19 : decode cX11_lies 19 = .ok (.iload_n 1, 1) := by decide +kernel
theorem dX11_lies_20 : decode cX11_lies 20 = .ok (.ishl, 1) := by decide +kernel
theorem dX11_lies_21 : decode cX11_lies 21 = .ok (.istore_n 2, 1) := by decide +kernel
theorem dX11_lies_22 : decode cX11_lies 22 = .ok (.aload_n 0, 1) := by decide +kernel
theorem dX11_lies_23 : decode cX11_lies 23 = .ok (.getfield 170, 3) := by decide +kernel
theorem dX11_lies_26 : decode cX11_lies 26 = .ok (.iconst 1, 1) := by decide +kernel
theorem dX11_lies_27 : decode cX11_lies 27 = .ok (.isub, 1) := by decide +kernel
theorem dX11_lies_28 : decode cX11_lies 28 = .ok (.istore_n 3, 1) := by decide +kernel
theorem dX11_lies_29 : decode cX11_lies 29 = .ok (.iload_n 3, 1) := by decide +kernel
theorem dX11_lies_30 : decode cX11_lies 30 = .ok (.ifCond .lt 98, 3) := by decide +kernel
theorem dX11_lies_33 : decode cX11_lies 33 = .ok (.iconst 0, 1) := by decide +kernel
theorem dX11_lies_34 : decode cX11_lies 34 = .ok (.istore 4, 2) := by decide +kernel
theorem dX11_lies_36 : decode cX11_lies 36 = .ok (.iconst 0, 1) := by decide +kernel
theorem dX11_lies_37 : decode cX11_lies 37 = .ok (.istore 5, 2) := by decide +kernel
theorem dX11_lies_39 : decode cX11_lies 39 = .ok (.iload 5, 2) := by decide +kernel
theorem dX11_lies_41 : decode cX11_lies 41 = .ok (.bipush 16, 2) := by decide +kernel
theorem dX11_lies_43 : decode cX11_lies 43 = .ok (.if_icmp .ge 76, 3) := by decide +kernel
theorem dX11_lies_46 : decode cX11_lies 46 = .ok (.bipush 8, 2) := by decide +kernel
theorem dX11_lies_48 : decode cX11_lies 48 = .ok (.istore 6, 2) := by decide +kernel
theorem dX11_lies_50 : decode cX11_lies 50 = .ok (.iload 6, 2) := by decide +kernel
theorem dX11_lies_52 : decode cX11_lies 52 = .ok (.bipush 16, 2) := by decide +kernel
theorem dX11_lies_54 : decode cX11_lies 54 = .ok (.if_icmp .ge 59, 3) := by decide +kernel
theorem dX11_lies_57 : decode cX11_lies 57 = .ok (.iload 4, 2) := by decide +kernel
theorem dX11_lies_59 : decode cX11_lies 59 = .ok (.iload_n 2, 1) := by decide +kernel
theorem dX11_lies_60 : decode cX11_lies 60 = .ok (.iload 5, 2) := by decide +kernel
theorem dX11_lies_62 : decode cX11_lies 62 = .ok (.ishr, 1) := by decide +kernel
theorem dX11_lies_63 : decode cX11_lies 63 = .ok (.iconst 1, 1) := by decide +kernel
theorem dX11_lies_64 : decode cX11_lies 64 = .ok (.iand, 1) := by decide +kernel
theorem dX11_lies_65 : decode cX11_lies 65 = .ok (.iconst 1, 1) := by decide +kernel
theorem dX11_lies_66 : decode cX11_lies 66 = .ok (.if_icmp .ne 37, 3) := by decide +kernel
theorem dX11_lies_69 : decode cX11_lies 69 = .ok (.aload_n 0, 1) := by decide +kernel
theorem dX11_lies_70 : decode cX11_lies 70 = .ok (.getfield 13, 3) := by decide +kernel
theorem dX11_lies_73 : decode cX11_lies 73 = .ok (.sipush 192, 3) := by decide +kernel
theorem dX11_lies_76 : decode cX11_lies 76 = .ok (.iload 5, 2) := by decide +kernel
theorem dX11_lies_78 : decode cX11_lies 78 = .ok (.imul, 1) := by decide +kernel
theorem dX11_lies_79 : decode cX11_lies 79 = .ok (.bipush 16, 2) := by decide +kernel
theorem dX11_lies_81 : decode cX11_lies 81 = .ok (.aload_n 0, 1) := by decide +kernel
theorem dX11_lies_82 : decode cX11_lies 82 = .ok (.getfield 20, 3) := by decide +kernel
theorem dX11_lies_85 : decode cX11_lies 85 = .ok (.iload_n 3, 1) := by decide +kernel
theorem dX11_lies_86 : decode cX11_lies 86 = .ok (.iaload, 1) := by decide +kernel
theorem dX11_lies_87 : decode cX11_lies 87 = .ok (.imul, 1) := by decide +kernel
theorem dX11_lies_88 : decode cX11_lies 88 = .ok (.iadd, 1) := by decide +kernel
theorem dX11_lies_89 : decode cX11_lies 89 = .ok (.iload 6, 2) := by decide +kernel
theorem dX11_lies_91 : decode cX11_lies 91 = .ok (.iadd, 1) := by decide +kernel
theorem dX11_lies_92 : decode cX11_lies 92 = .ok (.baload, 1) := by decide +kernel
theorem dX11_lies_93 : decode cX11_lies 93 = .ok (.ifCond .eq 10, 3) := by decide +kernel
theorem dX11_lies_96 : decode cX11_lies 96 = .ok (.iconst 1, 1) := by decide +kernel
theorem dX11_lies_97 : decode cX11_lies 97 = .ok (.iload 6, 2) := by decide +kernel
theorem dX11_lies_99 : decode cX11_lies 99 = .ok (.ishl, 1) := by decide +kernel
theorem dX11_lies_100 : decode cX11_lies 100 = .ok (.goto 4, 3) := by decide +kernel
theorem dX11_lies_103 : decode cX11_lies 103 = .ok (.iconst 0, 1) := by decide +kernel
theorem dX11_lies_104 : decode cX11_lies 104 = .ok (.ior, 1) := by decide +kernel
theorem dX11_lies_105 : decode cX11_lies 105 = .ok (.istore 4, 2) := by decide +kernel
theorem dX11_lies_107 : decode cX11_lies 107 = .ok (.iinc 6 1, 3) := by decide +kernel
theorem dX11_lies_110 : decode cX11_lies 110 = .ok (.goto (-60), 3) := by decide +kernel
theorem dX11_lies_113 : decode cX11_lies 113 = .ok (.iinc 5 1, 3) := by decide +kernel
theorem dX11_lies_116 : decode cX11_lies 116 = .ok (.goto (-77), 3) := by decide +kernel
theorem dX11_lies_119 : decode cX11_lies 119 = .ok (.iload 4, 2) := by decide +kernel
theorem dX11_lies_121 : decode cX11_lies 121 = .ok (.istore_n 2, 1) := by decide +kernel
theorem dX11_lies_122 : decode cX11_lies 122 = .ok (.iinc 3 (-1), 3) := by decide +kernel
theorem dX11_lies_125 : decode cX11_lies 125 = .ok (.goto (-96), 3) := by decide +kernel
theorem dX11_lies_128 : decode cX11_lies 128 = .ok (.aload_n 0, 1) := by decide +kernel
theorem dX11_lies_129 : decode cX11_lies 129 = .ok (.iload_n 2, 1) := by decide +kernel
theorem dX11_lies_130 : decode cX11_lies 130 = .ok (.invokevirtual 173, 3) := by decide +kernel
theorem dX11_lies_133 : decode cX11_lies 133 = .ok (.ifCond .eq 7, 3) := by decide +kernel
theorem dX11_lies_136 : decode cX11_lies 136 = .ok (.iconst 1, 1) := by decide +kernel
theorem dX11_lies_137 : decode cX11_lies 137 = .ok (.goto 4, 3) := by decide +kernel
theorem dX11_lies_140 : decode cX11_lies 140 = .ok (.iconst 0, 1) := by decide +kernel
theorem dX11_lies_141 : decode cX11_lies 141 = .ok (.ireturn, 1) := by decide +kernel
theorem dX11_meetsEnd_0 : decode cX11_meetsEnd 0 = .ok (.iconst 0, 1) := by decide +kernel
theorem dX11_meetsEnd_1 : decode cX11_meetsEnd 1 = .ok (.istore_n 2, 1) := by decide +kernel
theorem dX11_meetsEnd_2 : decode cX11_meetsEnd 2 = .ok (.iconst 0, 1) := by decide +kernel
theorem dX11_meetsEnd_3 : decode cX11_meetsEnd 3 = .ok (.istore_n 3, 1) := by decide +kernel
theorem dX11_meetsEnd_4 : decode cX11_meetsEnd 4 = .ok (.iload_n 3, 1) := by decide +kernel
theorem dX11_meetsEnd_5 : decode cX11_meetsEnd 5 = .ok (.bipush 16, 2) := by decide +kernel
theorem dX11_meetsEnd_7 : decode cX11_meetsEnd 7 = .ok (.if_icmp .ge 37, 3) := by decide +kernel
theorem dX11_meetsEnd_10 : decode cX11_meetsEnd 10 = .ok (.iload_n 2, 1) := by decide +kernel
theorem dX11_meetsEnd_11 : decode cX11_meetsEnd 11 = .ok (.ifCond .ne 21, 3) := by decide +kernel
theorem dX11_meetsEnd_14 : decode cX11_meetsEnd 14 = .ok (.iload_n 1, 1) := by decide +kernel
theorem dX11_meetsEnd_15 : decode cX11_meetsEnd 15 = .ok (.iload_n 3, 1) := by decide +kernel
theorem dX11_meetsEnd_16 : decode cX11_meetsEnd 16 = .ok (.ishr, 1) := by decide +kernel
theorem dX11_meetsEnd_17 : decode cX11_meetsEnd 17 = .ok (.iconst 1, 1) := by decide +kernel
theorem dX11_meetsEnd_18 : decode cX11_meetsEnd 18 = .ok (.iand, 1) := by decide +kernel
theorem dX11_meetsEnd_19 : decode cX11_meetsEnd 19 = .ok (.iconst 1, 1) := by decide +kernel
theorem dX11_meetsEnd_20 : decode cX11_meetsEnd 20 = .ok (.if_icmp .ne 16, 3) := by decide +kernel
theorem dX11_meetsEnd_23 : decode cX11_meetsEnd 23 = .ok (.aload_n 0, 1) := by decide +kernel
theorem dX11_meetsEnd_24 : decode cX11_meetsEnd 24 = .ok (.getfield 17, 3) := by decide +kernel
theorem dX11_meetsEnd_27 : decode cX11_meetsEnd 27 = .ok (.iload_n 3, 1) := by decide +kernel
theorem dX11_meetsEnd_28 : decode cX11_meetsEnd 28 = .ok (.baload, 1) := by decide +kernel
theorem dX11_meetsEnd_29 : decode cX11_meetsEnd 29 = .ok (.ifCond .eq 7, 3) := by decide +kernel
theorem dX11_meetsEnd_32 : decode cX11_meetsEnd 32 = .ok (.iconst 1, 1) := by decide +kernel
theorem dX11_meetsEnd_33 : decode cX11_meetsEnd 33 = .ok (.goto 4, 3) := by decide +kernel
theorem dX11_meetsEnd_36 : decode cX11_meetsEnd 36 = .ok (.iconst 0, 1) := by decide +kernel
theorem dX11_meetsEnd_37 : decode cX11_meetsEnd 37 = .ok (.istore_n 2, 1) := by decide +kernel
theorem dX11_meetsEnd_38 : decode cX11_meetsEnd 38 = .ok (.iinc 3 1, 3) := by decide +kernel
theorem dX11_meetsEnd_41 : decode cX11_meetsEnd 41 = .ok (.goto (-37), 3) := by decide +kernel
theorem dX11_meetsEnd_44 : decode cX11_meetsEnd 44 = .ok (.iload_n 2, 1) := by decide +kernel
theorem dX11_meetsEnd_45 : decode cX11_meetsEnd 45 = .ok (.ireturn, 1) := by decide +kernel
theorem dX11_sum_0 : decode cX11_sum 0 = .ok (.iload_n 0, 1) := by decide +kernel
theorem dX11_sum_1 : decode cX11_sum 1 = .ok (.ldc 177, 2) := by decide +kernel
theorem dX11_sum_3 : decode cX11_sum 3 = .ok (.if_icmp .eq 9, 3) := by decide +kernel
theorem dX11_sum_6 : decode cX11_sum 6 = .ok (.iload_n 1, 1) := by decide +kernel
theorem dX11_sum_7 : decode cX11_sum 7 = .ok (.ldc 177, 2) := by decide +kernel
theorem dX11_sum_9 : decode cX11_sum 9 = .ok (.if_icmp .ne 8, 3) := by decide +kernel
theorem dX11_sum_12 : decode cX11_sum 12 = .ok (.ldc 177, 2) := by decide +kernel
theorem dX11_sum_14 : decode cX11_sum 14 = .ok (.goto 19, 3) := by decide +kernel
theorem dX11_sum_17 : decode cX11_sum 17 = .ok (.iload_n 0, 1) := by decide +kernel
theorem dX11_sum_18 : decode cX11_sum 18 = .ok (.iload_n 1, 1) := by decide +kernel
theorem dX11_sum_19 : decode cX11_sum 19 = .ok (.iadd, 1) := by decide +kernel
theorem dX11_sum_20 : decode cX11_sum 20 = .ok (.ldc 178, 2) := by decide +kernel
theorem dX11_sum_22 : decode cX11_sum 22 = .ok (.if_icmp .le 8, 3) := by decide +kernel
theorem dX11_sum_25 : decode cX11_sum 25 = .ok (.ldc 178, 2) := by decide +kernel
theorem dX11_sum_27 : decode cX11_sum 27 = .ok (.goto 6, 3) := by decide +kernel
theorem dX11_sum_30 : decode cX11_sum 30 = .ok (.iload_n 0, 1) := by decide +kernel
theorem dX11_sum_31 : decode cX11_sum 31 = .ok (.iload_n 1, 1) := by decide +kernel
theorem dX11_sum_32 : decode cX11_sum 32 = .ok (.iadd, 1) := by decide +kernel
theorem dX11_sum_33 : decode cX11_sum 33 = .ok (.ireturn, 1) := by decide +kernel
theorem dX11_byRule_0 : decode cX11_byRule 0 = .ok (.aload_n 0, 1) := by decide +kernel
theorem dX11_byRule_1 : decode cX11_byRule 1 = .ok (.getfield 7, 3) := by decide +kernel
theorem dX11_byRule_4 : decode cX11_byRule 4 = .ok (.iload_n 1, 1) := by decide +kernel
theorem dX11_byRule_5 : decode cX11_byRule 5 = .ok (.iconst 2, 1) := by decide +kernel
theorem dX11_byRule_6 : decode cX11_byRule 6 = .ok (.iadd, 1) := by decide +kernel
theorem dX11_byRule_7 : decode cX11_byRule 7 = .ok (.iaload, 1) := by decide +kernel
theorem dX11_byRule_8 : decode cX11_byRule 8 = .ok (.istore_n 3, 1) := by decide +kernel
theorem dX11_byRule_9 : decode cX11_byRule 9 = .ok (.aload_n 0, 1) := by decide +kernel
theorem dX11_byRule_10 : decode cX11_byRule 10 = .ok (.getfield 7, 3) := by decide +kernel
theorem dX11_byRule_13 : decode cX11_byRule 13 = .ok (.iload_n 1, 1) := by decide +kernel
theorem dX11_byRule_14 : decode cX11_byRule 14 = .ok (.iconst 3, 1) := by decide +kernel
theorem dX11_byRule_15 : decode cX11_byRule 15 = .ok (.iadd, 1) := by decide +kernel
theorem dX11_byRule_16 : decode cX11_byRule 16 = .ok (.iaload, 1) := by decide +kernel
theorem dX11_byRule_17 : decode cX11_byRule 17 = .ok (.istore 4, 2) := by decide +kernel
theorem dX11_byRule_19 : decode cX11_byRule 19 = .ok (.iload 4, 2) := by decide +kernel
theorem dX11_byRule_21 : decode cX11_byRule 21 = .ok (.ifCond .ne 15, 3) := by decide +kernel
theorem dX11_byRule_24 : decode cX11_byRule 24 = .ok (.iload_n 3, 1) := by decide +kernel
theorem dX11_byRule_25 : decode cX11_byRule 25 = .ok (.iload_n 2, 1) := by decide +kernel
theorem dX11_byRule_26 : decode cX11_byRule 26 = .ok (.if_icmp .ne 7, 3) := by decide +kernel
theorem dX11_byRule_29 : decode cX11_byRule 29 = .ok (.iconst 1, 1) := by decide +kernel
theorem dX11_byRule_30 : decode cX11_byRule 30 = .ok (.goto 5, 3) := by decide +kernel
theorem dX11_byRule_33 : decode cX11_byRule 33 = .ok (.ldc 177, 2) := by decide +kernel
theorem dX11_byRule_35 : decode cX11_byRule 35 = .ok (.ireturn, 1) := by decide +kernel
theorem dX11_byRule_36 : decode cX11_byRule 36 = .ok (.sipush 192, 3) := by decide +kernel
theorem dX11_byRule_39 : decode cX11_byRule 39 = .ok (.iload_n 3, 1) := by decide +kernel
theorem dX11_byRule_40 : decode cX11_byRule 40 = .ok (.imul, 1) := by decide +kernel
theorem dX11_byRule_41 : decode cX11_byRule 41 = .ok (.bipush 16, 2) := by decide +kernel
theorem dX11_byRule_43 : decode cX11_byRule 43 = .ok (.aload_n 0, 1) := by decide +kernel
theorem dX11_byRule_44 : decode cX11_byRule 44 = .ok (.getfield 7, 3) := by decide +kernel
theorem dX11_byRule_47 : decode cX11_byRule 47 = .ok (.iload_n 1, 1) := by decide +kernel
theorem dX11_byRule_48 : decode cX11_byRule 48 = .ok (.iconst 4, 1) := by decide +kernel
theorem dX11_byRule_49 : decode cX11_byRule 49 = .ok (.iadd, 1) := by decide +kernel
theorem dX11_byRule_50 : decode cX11_byRule 50 = .ok (.iaload, 1) := by decide +kernel
theorem dX11_byRule_51 : decode cX11_byRule 51 = .ok (.imul, 1) := by decide +kernel
theorem dX11_byRule_52 : decode cX11_byRule 52 = .ok (.iadd, 1) := by decide +kernel
theorem dX11_byRule_53 : decode cX11_byRule 53 = .ok (.istore 5, 2) := by decide +kernel
theorem dX11_byRule_55 : decode cX11_byRule 55 = .ok (.iload 4, 2) := by decide +kernel
theorem dX11_byRule_57 : decode cX11_byRule 57 = .ok (.iconst 1, 1) := by decide +kernel
theorem dX11_byRule_58 : decode cX11_byRule 58 = .ok (.if_icmp .ne 17, 3) := by decide +kernel
theorem dX11_byRule_61 : decode cX11_byRule 61 = .ok (.iconst 1, 1) := by decide +kernel
theorem dX11_byRule_62 : decode cX11_byRule 62 = .ok (.aload_n 0, 1) := by decide +kernel
theorem dX11_byRule_63 : decode cX11_byRule 63 = .ok (.getfield 23, 3) := by decide +kernel
theorem dX11_byRule_66 : decode cX11_byRule 66 = .ok (.iload 5, 2) := by decide +kernel
theorem dX11_byRule_68 : decode cX11_byRule 68 = .ok (.iload_n 2, 1) := by decide +kernel
theorem dX11_byRule_69 : decode cX11_byRule 69 = .ok (.iadd, 1) := by decide +kernel
theorem dX11_byRule_70 : decode cX11_byRule 70 = .ok (.iaload, 1) := by decide +kernel
theorem dX11_byRule_71 : decode cX11_byRule 71 = .ok (.invokestatic 179, 3) := by decide +kernel
theorem dX11_byRule_74 : decode cX11_byRule 74 = .ok (.ireturn, 1) := by decide +kernel
theorem dX11_byRule_75 : decode cX11_byRule 75 = .ok (.ldc 177, 2) := by decide +kernel
theorem dX11_byRule_77 : decode cX11_byRule 77 = .ok (.istore 6, 2) := by decide +kernel
theorem dX11_byRule_79 : decode cX11_byRule 79 = .ok (.iconst 0, 1) := by decide +kernel
theorem dX11_byRule_80 : decode cX11_byRule 80 = .ok (.istore 7, 2) := by decide +kernel
theorem dX11_byRule_82 : decode cX11_byRule 82 = .ok (.iload 7, 2) := by decide +kernel
theorem dX11_byRule_84 : decode cX11_byRule 84 = .ok (.bipush 16, 2) := by decide +kernel
theorem dX11_byRule_86 : decode cX11_byRule 86 = .ok (.if_icmp .ge 65, 3) := by decide +kernel
theorem dX11_byRule_89 : decode cX11_byRule 89 = .ok (.aload_n 0, 1) := by decide +kernel
theorem dX11_byRule_90 : decode cX11_byRule 90 = .ok (.getfield 23, 3) := by decide +kernel
theorem dX11_byRule_93 : decode cX11_byRule 93 = .ok (.iload 5, 2) := by decide +kernel
theorem dX11_byRule_95 : decode cX11_byRule 95 = .ok (.iload 7, 2) := by decide +kernel
theorem dX11_byRule_97 : decode cX11_byRule 97 = .ok (.iadd, 1) := by decide +kernel
theorem dX11_byRule_98 : decode cX11_byRule 98 = .ok (.iaload, 1) := by decide +kernel
theorem dX11_byRule_99 : decode cX11_byRule 99 = .ok (.aload_n 0, 1) := by decide +kernel
theorem dX11_byRule_100 : decode cX11_byRule 100 = .ok (.getfield 23, 3) := by decide +kernel
theorem dX11_byRule_103 : decode cX11_byRule 103 = .ok (.sipush 192, 3) := by decide +kernel
theorem dX11_byRule_106 : decode cX11_byRule 106 = .ok (.iload 7, 2) := by decide +kernel
theorem dX11_byRule_108 : decode cX11_byRule 108 = .ok (.imul, 1) := by decide +kernel
theorem dX11_byRule_109 : decode cX11_byRule 109 = .ok (.bipush 16, 2) := by decide +kernel
theorem dX11_byRule_111 : decode cX11_byRule 111 = .ok (.aload_n 0, 1) := by decide +kernel
theorem dX11_byRule_112 : decode cX11_byRule 112 = .ok (.getfield 7, 3) := by decide +kernel
theorem dX11_byRule_115 : decode cX11_byRule 115 = .ok (.iload_n 1, 1) := by decide +kernel
theorem dX11_byRule_116 : decode cX11_byRule 116 = .ok (.iconst 5, 1) := by decide +kernel
theorem dX11_byRule_117 : decode cX11_byRule 117 = .ok (.iadd, 1) := by decide +kernel
theorem dX11_byRule_118 : decode cX11_byRule 118 = .ok (.iaload, 1) := by decide +kernel
theorem dX11_byRule_119 : decode cX11_byRule 119 = .ok (.imul, 1) := by decide +kernel
theorem dX11_byRule_120 : decode cX11_byRule 120 = .ok (.iadd, 1) := by decide +kernel
theorem dX11_byRule_121 : decode cX11_byRule 121 = .ok (.iload_n 2, 1) := by decide +kernel
theorem dX11_byRule_122 : decode cX11_byRule 122 = .ok (.iadd, 1) := by decide +kernel
theorem dX11_byRule_123 : decode cX11_byRule 123 = .ok (.iaload, 1) := by decide +kernel
theorem dX11_byRule_124 : decode cX11_byRule 124 = .ok (.invokestatic 179, 3) := by decide +kernel
theorem dX11_byRule_127 : decode cX11_byRule 127 = .ok (.istore 8, 2) := by decide +kernel
theorem dX11_byRule_129 : decode cX11_byRule 129 = .ok (.iload 8, 2) := by decide +kernel
theorem dX11_byRule_131 : decode cX11_byRule 131 = .ok (.iload 6, 2) := by decide +kernel
theorem dX11_byRule_133 : decode cX11_byRule 133 = .ok (.if_icmp .ge 8, 3) := by decide +kernel
theorem dX11_byRule_136 : decode cX11_byRule 136 = .ok (.iload 8, 2) := by decide +kernel
theorem dX11_byRule_138 : decode cX11_byRule 138 = .ok (.goto 5, 3) := by decide +kernel
theorem dX11_byRule_141 : decode cX11_byRule 141 = .ok (.iload 6, 2) := by decide +kernel
theorem dX11_byRule_143 : decode cX11_byRule 143 = .ok (.istore 6, 2) := by decide +kernel
theorem dX11_byRule_145 : decode cX11_byRule 145 = .ok (.iinc 7 1, 3) := by decide +kernel
theorem dX11_byRule_148 : decode cX11_byRule 148 = .ok (.goto (-66), 3) := by decide +kernel
theorem dX11_byRule_151 : decode cX11_byRule 151 = .ok (.iconst 1, 1) := by decide +kernel
theorem dX11_byRule_152 : decode cX11_byRule 152 = .ok (.iload 6, 2) := by decide +kernel
theorem dX11_byRule_154 : decode cX11_byRule 154 = .ok (.invokestatic 179, 3) := by decide +kernel
theorem dX11_byRule_157 : decode cX11_byRule 157 = .ok (.ireturn, 1) := by decide +kernel
theorem dX11_reckon_0 : decode cX11_reckon 0 = .ok (.aload_n 0, 1) := by decide +kernel
theorem dX11_reckon_1 : decode cX11_reckon 1 = .ok (.getfield 153, 3) := by decide +kernel
theorem dX11_reckon_4 : decode cX11_reckon 4 = .ok (.ifCond .eq 4, 3) := by decide +kernel
theorem dX11_reckon_7 : decode cX11_reckon 7 = .ok (.return_, 1) := by decide +kernel
theorem dX11_reckon_8 : decode cX11_reckon 8 = .ok (.aload_n 0, 1) := by decide +kernel
theorem dX11_reckon_9 : decode cX11_reckon 9 = .ok (.iconst 1, 1) := by decide +kernel
theorem dX11_reckon_10 : decode cX11_reckon 10 = .ok (.putfield 153, 3) := by decide +kernel
theorem dX11_reckon_13 : decode cX11_reckon 13 = .ok (.iconst 0, 1) := by decide +kernel
theorem dX11_reckon_14 : decode cX11_reckon 14 = .ok (.istore_n 1, 1) := by decide +kernel
theorem dX11_reckon_15 : decode cX11_reckon 15 = .ok (.iload_n 1, 1) := by decide +kernel
theorem dX11_reckon_16 : decode cX11_reckon 16 = .ok (.sipush 3072, 3) := by decide +kernel
theorem dX11_reckon_19 : decode cX11_reckon 19 = .ok (.if_icmp .ge 30, 3) := by decide +kernel
theorem dX11_reckon_22 : decode cX11_reckon 22 = .ok (.aload_n 0, 1) := by decide +kernel
theorem dX11_reckon_23 : decode cX11_reckon 23 = .ok (.getfield 23, 3) := by decide +kernel
theorem dX11_reckon_26 : decode cX11_reckon 26 = .ok (.iload_n 1, 1) := by decide +kernel
theorem dX11_reckon_27 : decode cX11_reckon 27 = .ok (.aload_n 0, 1) := by decide +kernel
theorem dX11_reckon_28 : decode cX11_reckon 28 = .ok (.getfield 13, 3) := by decide +kernel
theorem dX11_reckon_31 : decode cX11_reckon 31 = .ok (.iload_n 1, 1) := by decide +kernel
theorem dX11_reckon_32 : decode cX11_reckon 32 = .ok (.baload, 1) := by decide +kernel
theorem dX11_reckon_33 : decode cX11_reckon 33 = .ok (.ifCond .eq 7, 3) := by decide +kernel
theorem dX11_reckon_36 : decode cX11_reckon 36 = .ok (.iconst 0, 1) := by decide +kernel
theorem dX11_reckon_37 : decode cX11_reckon 37 = .ok (.goto 5, 3) := by decide +kernel
theorem dX11_reckon_40 : decode cX11_reckon 40 = .ok (.ldc 177, 2) := by decide +kernel
theorem dX11_reckon_42 : decode cX11_reckon 42 = .ok (.iastore, 1) := by decide +kernel
theorem dX11_reckon_43 : decode cX11_reckon 43 = .ok (.iinc 1 1, 3) := by decide +kernel
theorem dX11_reckon_46 : decode cX11_reckon 46 = .ok (.goto (-31), 3) := by decide +kernel
theorem dX11_reckon_49 : decode cX11_reckon 49 = .ok (.iconst 1, 1) := by decide +kernel
theorem dX11_reckon_50 : decode cX11_reckon 50 = .ok (.istore_n 1, 1) := by decide +kernel
theorem dX11_reckon_51 : decode cX11_reckon 51 = .ok (.iload_n 1, 1) := by decide +kernel
theorem dX11_reckon_52 : decode cX11_reckon 52 = .ok (.ifCond .eq 134, 3) := by decide +kernel
theorem dX11_reckon_55 : decode cX11_reckon 55 = .ok (.iconst 0, 1) := by decide +kernel
theorem dX11_reckon_56 : decode cX11_reckon 56 = .ok (.istore_n 1, 1) := by decide +kernel
theorem dX11_reckon_57 : decode cX11_reckon 57 = .ok (.iconst 0, 1) := by decide +kernel
theorem dX11_reckon_58 : decode cX11_reckon 58 = .ok (.istore_n 2, 1) := by decide +kernel
theorem dX11_reckon_59 : decode cX11_reckon 59 = .ok (.iload_n 2, 1) := by decide +kernel
theorem dX11_reckon_60 : decode cX11_reckon 60 = .ok (.aload_n 0, 1) := by decide +kernel
theorem dX11_reckon_61 : decode cX11_reckon 61 = .ok (.getfield 161, 3) := by decide +kernel
theorem dX11_reckon_64 : decode cX11_reckon 64 = .ok (.if_icmp .ge 119, 3) := by decide +kernel
theorem dX11_reckon_67 : decode cX11_reckon 67 = .ok (.bipush 6, 2) := by decide +kernel
theorem dX11_reckon_69 : decode cX11_reckon 69 = .ok (.iload_n 2, 1) := by decide +kernel
theorem dX11_reckon_70 : decode cX11_reckon 70 = .ok (.imul, 1) := by decide +kernel
theorem dX11_reckon_71 : decode cX11_reckon 71 = .ok (.istore_n 3, 1) := by decide +kernel
theorem dX11_reckon_72 : decode cX11_reckon 72 = .ok (.iconst 0, 1) := by decide +kernel
theorem dX11_reckon_73 : decode cX11_reckon 73 = .ok (.istore 4, 2) := by decide +kernel
theorem dX11_reckon_75 : decode cX11_reckon 75 = .ok (.iload 4, 2) := by decide +kernel
theorem dX11_reckon_77 : decode cX11_reckon 77 = .ok (.bipush 16, 2) := by decide +kernel
theorem dX11_reckon_79 : decode cX11_reckon 79 = .ok (.if_icmp .ge 98, 3) := by decide +kernel
theorem dX11_reckon_82 : decode cX11_reckon 82 = .ok (.sipush 192, 3) := by decide +kernel
theorem dX11_reckon_85 : decode cX11_reckon 85 = .ok (.aload_n 0, 1) := by decide +kernel
theorem dX11_reckon_86 : decode cX11_reckon 86 = .ok (.getfield 7, 3) := by decide +kernel
theorem dX11_reckon_89 : decode cX11_reckon 89 = .ok (.iload_n 3, 1) := by decide +kernel
theorem dX11_reckon_90 : decode cX11_reckon 90 = .ok (.iaload, 1) := by decide +kernel
theorem dX11_reckon_91 : decode cX11_reckon 91 = .ok (.imul, 1) := by decide +kernel
theorem dX11_reckon_92 : decode cX11_reckon 92 = .ok (.bipush 16, 2) := by decide +kernel
theorem dX11_reckon_94 : decode cX11_reckon 94 = .ok (.aload_n 0, 1) := by decide +kernel
theorem dX11_reckon_95 : decode cX11_reckon 95 = .ok (.getfield 7, 3) := by decide +kernel
theorem dX11_reckon_98 : decode cX11_reckon 98 = .ok (.iload_n 3, 1) := by decide +kernel
theorem dX11_reckon_99 : decode cX11_reckon 99 = .ok (.iconst 1, 1) := by decide +kernel
theorem dX11_reckon_100 : decode cX11_reckon 100 = .ok (.iadd, 1) := by decide +kernel
theorem dX11_reckon_101 : decode cX11_reckon 101 = .ok (.iaload, 1) := by decide +kernel
theorem dX11_reckon_102 : decode cX11_reckon 102 = .ok (.imul, 1) := by decide +kernel
theorem dX11_reckon_103 : decode cX11_reckon 103 = .ok (.iadd, 1) := by decide +kernel
theorem dX11_reckon_104 : decode cX11_reckon 104 = .ok (.iload 4, 2) := by decide +kernel
theorem dX11_reckon_106 : decode cX11_reckon 106 = .ok (.iadd, 1) := by decide +kernel
theorem dX11_reckon_107 : decode cX11_reckon 107 = .ok (.istore 5, 2) := by decide +kernel
theorem dX11_reckon_109 : decode cX11_reckon 109 = .ok (.aload_n 0, 1) := by decide +kernel
theorem dX11_reckon_110 : decode cX11_reckon 110 = .ok (.iload_n 3, 1) := by decide +kernel
theorem dX11_reckon_111 : decode cX11_reckon 111 = .ok (.iload 4, 2) := by decide +kernel
theorem dX11_reckon_113 : decode cX11_reckon 113 = .ok (.invokevirtual 183, 3) := by decide +kernel
theorem dX11_reckon_116 : decode cX11_reckon 116 = .ok (.istore 6, 2) := by decide +kernel
theorem dX11_reckon_118 : decode cX11_reckon 118 = .ok (.iload_n 1, 1) := by decide +kernel
theorem dX11_reckon_119 : decode cX11_reckon 119 = .ok (.ifCond .ne 15, 3) := by decide +kernel
theorem dX11_reckon_122 : decode cX11_reckon 122 = .ok (.iload 6, 2) := by decide +kernel
theorem dX11_reckon_124 : decode cX11_reckon 124 = .ok (.aload_n 0, 1) := by decide +kernel
theorem dX11_reckon_125 : decode cX11_reckon 125 = .ok (.getfield 23, 3) := by decide +kernel
theorem dX11_reckon_128 : decode cX11_reckon 128 = .ok (.iload 5, 2) := by decide +kernel
theorem dX11_reckon_130 : decode cX11_reckon 130 = .ok (.iaload, 1) := by decide +kernel
theorem dX11_reckon_131 : decode cX11_reckon 131 = .ok (.if_icmp .ge 7, 3) := by decide +kernel
theorem dX11_reckon_134 : decode cX11_reckon 134 = .ok (.iconst 1, 1) := by decide +kernel
theorem dX11_reckon_135 : decode cX11_reckon 135 = .ok (.goto 4, 3) := by decide +kernel
theorem dX11_reckon_138 : decode cX11_reckon 138 = .ok (.iconst 0, 1) := by decide +kernel
theorem dX11_reckon_139 : decode cX11_reckon 139 = .ok (.istore_n 1, 1) := by decide +kernel
theorem dX11_reckon_140 : decode cX11_reckon 140 = .ok (.aload_n 0, 1) := by decide +kernel
theorem dX11_reckon_141 : decode cX11_reckon 141 = .ok (.getfield 23, 3) := by decide +kernel
theorem dX11_reckon_144 : decode cX11_reckon 144 = .ok (.iload 5, 2) := by decide +kernel
theorem dX11_reckon_146 : decode cX11_reckon 146 = .ok (.iload 6, 2) := by decide +kernel
theorem dX11_reckon_148 : decode cX11_reckon 148 = .ok (.aload_n 0, 1) := by decide +kernel
theorem dX11_reckon_149 : decode cX11_reckon 149 = .ok (.getfield 23, 3) := by decide +kernel
theorem dX11_reckon_152 : decode cX11_reckon 152 = .ok (.iload 5, 2) := by decide +kernel
theorem dX11_reckon_154 : decode cX11_reckon 154 = .ok (.iaload, 1) := by decide +kernel
theorem dX11_reckon_155 : decode cX11_reckon 155 = .ok (.if_icmp .ge 8, 3) := by decide +kernel
theorem dX11_reckon_158 : decode cX11_reckon 158 = .ok (.iload 6, 2) := by decide +kernel
theorem dX11_reckon_160 : decode cX11_reckon 160 = .ok (.goto 10, 3) := by decide +kernel
theorem dX11_reckon_163 : decode cX11_reckon 163 = .ok (.aload_n 0, 1) := by decide +kernel
theorem dX11_reckon_164 : decode cX11_reckon 164 = .ok (.getfield 23, 3) := by decide +kernel
theorem dX11_reckon_167 : decode cX11_reckon 167 = .ok (.iload 5, 2) := by decide +kernel
theorem dX11_reckon_169 : decode cX11_reckon 169 = .ok (.iaload, 1) := by decide +kernel
theorem dX11_reckon_170 : decode cX11_reckon 170 = .ok (.iastore, 1) := by decide +kernel
theorem dX11_reckon_171 : decode cX11_reckon 171 = .ok (.iinc 4 1, 3) := by decide +kernel
theorem dX11_reckon_174 : decode cX11_reckon 174 = .ok (.goto (-99), 3) := by decide +kernel
theorem dX11_reckon_177 : decode cX11_reckon 177 = .ok (.iinc 2 1, 3) := by decide +kernel
theorem dX11_reckon_180 : decode cX11_reckon 180 = .ok (.goto (-121), 3) := by decide +kernel
theorem dX11_reckon_183 : decode cX11_reckon 183 = .ok (.goto (-132), 3) := by decide +kernel
theorem dX11_reckon_186 : decode cX11_reckon 186 = .ok (.return_, 1) := by decide +kernel
theorem dX11_lay_0 : decode cX11_lay 0 = .ok (.aload_n 0, 1) := by decide +kernel
theorem dX11_lay_1 : decode cX11_lay 1 = .ok (.getfield 37, 3) := by decide +kernel
theorem dX11_lay_4 : decode cX11_lay 4 = .ok (.iload_n 1, 1) := by decide +kernel
theorem dX11_lay_5 : decode cX11_lay 5 = .ok (.iload_n 2, 1) := by decide +kernel
theorem dX11_lay_6 : decode cX11_lay 6 = .ok (.iastore, 1) := by decide +kernel
theorem dX11_lay_7 : decode cX11_lay 7 = .ok (.iconst 0, 1) := by decide +kernel
theorem dX11_lay_8 : decode cX11_lay 8 = .ok (.istore_n 3, 1) := by decide +kernel
theorem dX11_lay_9 : decode cX11_lay 9 = .ok (.iload_n 3, 1) := by decide +kernel
theorem dX11_lay_10 : decode cX11_lay 10 = .ok (.bipush 16, 2) := by decide +kernel
theorem dX11_lay_12 : decode cX11_lay 12 = .ok (.if_icmp .ge 95, 3) := by decide +kernel
theorem dX11_lay_15 : decode cX11_lay 15 = .ok (.ldc 177, 2) := by decide +kernel
theorem dX11_lay_17 : decode cX11_lay 17 = .ok (.istore 4, 2) := by decide +kernel
theorem dX11_lay_19 : decode cX11_lay 19 = .ok (.iconst 0, 1) := by decide +kernel
theorem dX11_lay_20 : decode cX11_lay 20 = .ok (.istore 5, 2) := by decide +kernel
theorem dX11_lay_22 : decode cX11_lay 22 = .ok (.iload 5, 2) := by decide +kernel
theorem dX11_lay_24 : decode cX11_lay 24 = .ok (.bipush 16, 2) := by decide +kernel
theorem dX11_lay_26 : decode cX11_lay 26 = .ok (.if_icmp .ge 60, 3) := by decide +kernel
theorem dX11_lay_29 : decode cX11_lay 29 = .ok (.aload_n 0, 1) := by decide +kernel
theorem dX11_lay_30 : decode cX11_lay 30 = .ok (.getfield 23, 3) := by decide +kernel
theorem dX11_lay_33 : decode cX11_lay 33 = .ok (.sipush 192, 3) := by decide +kernel
theorem dX11_lay_36 : decode cX11_lay 36 = .ok (.iload_n 3, 1) := by decide +kernel
theorem dX11_lay_37 : decode cX11_lay 37 = .ok (.imul, 1) := by decide +kernel
theorem dX11_lay_38 : decode cX11_lay 38 = .ok (.bipush 16, 2) := by decide +kernel
theorem dX11_lay_40 : decode cX11_lay 40 = .ok (.iload_n 2, 1) := by decide +kernel
theorem dX11_lay_41 : decode cX11_lay 41 = .ok (.imul, 1) := by decide +kernel
theorem dX11_lay_42 : decode cX11_lay 42 = .ok (.iadd, 1) := by decide +kernel
theorem dX11_lay_43 : decode cX11_lay 43 = .ok (.iload 5, 2) := by decide +kernel
theorem dX11_lay_45 : decode cX11_lay 45 = .ok (.iadd, 1) := by decide +kernel
theorem dX11_lay_46 : decode cX11_lay 46 = .ok (.iaload, 1) := by decide +kernel
theorem dX11_lay_47 : decode cX11_lay 47 = .ok (.aload_n 0, 1) := by decide +kernel
theorem dX11_lay_48 : decode cX11_lay 48 = .ok (.getfield 34, 3) := by decide +kernel
theorem dX11_lay_51 : decode cX11_lay 51 = .ok (.bipush 16, 2) := by decide +kernel
theorem dX11_lay_53 : decode cX11_lay 53 = .ok (.iload_n 1, 1) := by decide +kernel
theorem dX11_lay_54 : decode cX11_lay 54 = .ok (.imul, 1) := by decide +kernel
theorem dX11_lay_55 : decode cX11_lay 55 = .ok (.iload 5, 2) := by decide +kernel
theorem dX11_lay_57 : decode cX11_lay 57 = .ok (.iadd, 1) := by decide +kernel
theorem dX11_lay_58 : decode cX11_lay 58 = .ok (.iaload, 1) := by decide +kernel
theorem dX11_lay_59 : decode cX11_lay 59 = .ok (.invokestatic 179, 3) := by decide +kernel
theorem dX11_lay_62 : decode cX11_lay 62 = .ok (.istore 6, 2) := by decide +kernel
theorem dX11_lay_64 : decode cX11_lay 64 = .ok (.iload 6, 2) := by decide +kernel
theorem dX11_lay_66 : decode cX11_lay 66 = .ok (.iload 4, 2) := by decide +kernel
theorem dX11_lay_68 : decode cX11_lay 68 = .ok (.if_icmp .ge 8, 3) := by decide +kernel
theorem dX11_lay_71 : decode cX11_lay 71 = .ok (.iload 6, 2) := by decide +kernel
theorem dX11_lay_73 : decode cX11_lay 73 = .ok (.goto 5, 3) := by decide +kernel
theorem dX11_lay_76 : decode cX11_lay 76 = .ok (.iload 4, 2) := by decide +kernel
theorem dX11_lay_78 : decode cX11_lay 78 = .ok (.istore 4, 2) := by decide +kernel
theorem dX11_lay_80 : decode cX11_lay 80 = .ok (.iinc 5 1, 3) := by decide +kernel
theorem dX11_lay_83 : decode cX11_lay 83 = .ok (.goto (-61), 3) := by decide +kernel
theorem dX11_lay_86 : decode cX11_lay 86 = .ok (.aload_n 0, 1) := by decide +kernel
theorem dX11_lay_87 : decode cX11_lay 87 = .ok (.getfield 34, 3) := by decide +kernel
theorem dX11_lay_90 : decode cX11_lay 90 = .ok (.bipush 16, 2) := by decide +kernel
theorem dX11_lay_92 : decode cX11_lay 92 = .ok (.iload_n 1, 1) := by decide +kernel
theorem dX11_lay_93 : decode cX11_lay 93 = .ok (.iconst 1, 1) := by decide +kernel
theorem dX11_lay_94 : decode cX11_lay 94 = .ok (.iadd, 1) := by decide +kernel
theorem dX11_lay_95 : decode cX11_lay 95 = .ok (.imul, 1) := by decide +kernel
theorem dX11_lay_96 : decode cX11_lay 96 = .ok (.iload_n 3, 1) := by decide +kernel
theorem dX11_lay_97 : decode cX11_lay 97 = .ok (.iadd, 1) := by decide +kernel
theorem dX11_lay_98 : decode cX11_lay 98 = .ok (.iload 4, 2) := by decide +kernel
theorem dX11_lay_100 : decode cX11_lay 100 = .ok (.iastore, 1) := by decide +kernel
theorem dX11_lay_101 : decode cX11_lay 101 = .ok (.iinc 3 1, 3) := by decide +kernel
theorem dX11_lay_104 : decode cX11_lay 104 = .ok (.goto (-95), 3) := by decide +kernel
theorem dX11_lay_107 : decode cX11_lay 107 = .ok (.return_, 1) := by decide +kernel
theorem dX11_layWord_0 : decode cX11_layWord 0 = .ok (.aload_n 0, 1) := by decide +kernel
theorem dX11_layWord_1 : decode cX11_layWord 1 = .ok (.invokevirtual 186, 3) := by decide +kernel
theorem dX11_layWord_4 : decode cX11_layWord 4 = .ok (.iconst 0, 1) := by decide +kernel
theorem dX11_layWord_5 : decode cX11_layWord 5 = .ok (.istore_n 1, 1) := by decide +kernel
theorem dX11_layWord_6 : decode cX11_layWord 6 = .ok (.iload_n 1, 1) := by decide +kernel
theorem dX11_layWord_7 : decode cX11_layWord 7 = .ok (.bipush 16, 2) := by decide +kernel
theorem dX11_layWord_9 : decode cX11_layWord 9 = .ok (.if_icmp .ge 30, 3) := by decide +kernel
theorem dX11_layWord_12 : decode cX11_layWord 12 = .ok (.aload_n 0, 1) := by decide +kernel
theorem dX11_layWord_13 : decode cX11_layWord 13 = .ok (.getfield 34, 3) := by decide +kernel
theorem dX11_layWord_16 : decode cX11_layWord 16 = .ok (.iload_n 1, 1) := by decide +kernel
theorem dX11_layWord_17 : decode cX11_layWord 17 = .ok (.aload_n 0, 1) := by decide +kernel
theorem dX11_layWord_18 : decode cX11_layWord 18 = .ok (.getfield 17, 3) := by decide +kernel
theorem dX11_layWord_21 : decode cX11_layWord 21 = .ok (.iload_n 1, 1) := by decide +kernel
theorem dX11_layWord_22 : decode cX11_layWord 22 = .ok (.baload, 1) := by decide +kernel
theorem dX11_layWord_23 : decode cX11_layWord 23 = .ok (.ifCond .eq 7, 3) := by decide +kernel
theorem dX11_layWord_26 : decode cX11_layWord 26 = .ok (.iconst 0, 1) := by decide +kernel
theorem dX11_layWord_27 : decode cX11_layWord 27 = .ok (.goto 5, 3) := by decide +kernel
theorem dX11_layWord_30 : decode cX11_layWord 30 = .ok (.ldc 177, 2) := by decide +kernel
theorem dX11_layWord_32 : decode cX11_layWord 32 = .ok (.iastore, 1) := by decide +kernel
theorem dX11_layWord_33 : decode cX11_layWord 33 = .ok (.iinc 1 1, 3) := by decide +kernel
theorem dX11_layWord_36 : decode cX11_layWord 36 = .ok (.goto (-30), 3) := by decide +kernel
theorem dX11_layWord_39 : decode cX11_layWord 39 = .ok (.iconst 0, 1) := by decide +kernel
theorem dX11_layWord_40 : decode cX11_layWord 40 = .ok (.istore_n 1, 1) := by decide +kernel
theorem dX11_layWord_41 : decode cX11_layWord 41 = .ok (.iload_n 1, 1) := by decide +kernel
theorem dX11_layWord_42 : decode cX11_layWord 42 = .ok (.aload_n 0, 1) := by decide +kernel
theorem dX11_layWord_43 : decode cX11_layWord 43 = .ok (.getfield 170, 3) := by decide +kernel
theorem dX11_layWord_46 : decode cX11_layWord 46 = .ok (.if_icmp .ge 20, 3) := by decide +kernel
theorem dX11_layWord_49 : decode cX11_layWord 49 = .ok (.aload_n 0, 1) := by decide +kernel
theorem dX11_layWord_50 : decode cX11_layWord 50 = .ok (.iload_n 1, 1) := by decide +kernel
theorem dX11_layWord_51 : decode cX11_layWord 51 = .ok (.aload_n 0, 1) := by decide +kernel
theorem dX11_layWord_52 : decode cX11_layWord 52 = .ok (.getfield 20, 3) := by decide +kernel
theorem dX11_layWord_55 : decode cX11_layWord 55 = .ok (.iload_n 1, 1) := by decide +kernel
theorem dX11_layWord_56 : decode cX11_layWord 56 = .ok (.iaload, 1) := by decide +kernel
theorem dX11_layWord_57 : decode cX11_layWord 57 = .ok (.invokevirtual 189, 3) := by decide +kernel
theorem dX11_layWord_60 : decode cX11_layWord 60 = .ok (.iinc 1 1, 3) := by decide +kernel
theorem dX11_layWord_63 : decode cX11_layWord 63 = .ok (.goto (-22), 3) := by decide +kernel
theorem dX11_layWord_66 : decode cX11_layWord 66 = .ok (.return_, 1) := by decide +kernel
theorem dX11_far_0 : decode cX11_far 0 = .ok (.aload_n 0, 1) := by decide +kernel
theorem dX11_far_1 : decode cX11_far 1 = .ok (.iconst 0, 1) := by decide +kernel
theorem dX11_far_2 : decode cX11_far 2 = .ok (.putfield 150, 3) := by decide +kernel
theorem dX11_far_5 : decode cX11_far 5 = .ok (.iload_n 1, 1) := by decide +kernel
theorem dX11_far_6 : decode cX11_far 6 = .ok (.iconst 0, 1) := by decide +kernel
theorem dX11_far_7 : decode cX11_far 7 = .ok (.bipush 7, 2) := by decide +kernel
theorem dX11_far_9 : decode cX11_far 9 = .ok (.invokestatic 157, 3) := by decide +kernel
theorem dX11_far_12 : decode cX11_far 12 = .ok (.ifCond .ne 6, 3) := by decide +kernel
theorem dX11_far_15 : decode cX11_far 15 = .ok (.bipush (-2), 2) := by decide +kernel
theorem dX11_far_17 : decode cX11_far 17 = .ok (.ireturn, 1) := by decide +kernel
theorem dX11_far_18 : decode cX11_far 18 = .ok (.aload_n 0, 1) := by decide +kernel
theorem dX11_far_19 : decode cX11_far 19 = .ok (.invokevirtual 193, 3) := by decide +kernel
theorem dX11_far_22 : decode cX11_far 22 = .ok (.aload_n 0, 1) := by decide +kernel
theorem dX11_far_23 : decode cX11_far 23 = .ok (.getfield 34, 3) := by decide +kernel
theorem dX11_far_26 : decode cX11_far 26 = .ok (.bipush 16, 2) := by decide +kernel
theorem dX11_far_28 : decode cX11_far 28 = .ok (.aload_n 0, 1) := by decide +kernel
theorem dX11_far_29 : decode cX11_far 29 = .ok (.getfield 170, 3) := by decide +kernel
theorem dX11_far_32 : decode cX11_far 32 = .ok (.imul, 1) := by decide +kernel
theorem dX11_far_33 : decode cX11_far 33 = .ok (.iload_n 1, 1) := by decide +kernel
theorem dX11_far_34 : decode cX11_far 34 = .ok (.iadd, 1) := by decide +kernel
theorem dX11_far_35 : decode cX11_far 35 = .ok (.iaload, 1) := by decide +kernel
theorem dX11_far_36 : decode cX11_far 36 = .ok (.istore_n 2, 1) := by decide +kernel
theorem dX11_far_37 : decode cX11_far 37 = .ok (.iload_n 2, 1) := by decide +kernel
theorem dX11_far_38 : decode cX11_far 38 = .ok (.ldc 177, 2) := by decide +kernel
theorem dX11_far_40 : decode cX11_far 40 = .ok (.if_icmp .ne 7, 3) := by decide +kernel
theorem dX11_far_43 : decode cX11_far 43 = .ok (.iconst (-1), 1) := by decide +kernel
theorem dX11_far_44 : decode cX11_far 44 = .ok (.goto 4, 3) := by decide +kernel
theorem dX11_far_47 : decode cX11_far 47 = .ok (.iload_n 2, 1) := by decide +kernel
theorem dX11_far_48 : decode cX11_far 48 = .ok (.ireturn, 1) := by decide +kernel
theorem dX11_findWay_0 : decode cX11_findWay 0 = .ok (.aload_n 0, 1) := by decide +kernel
theorem dX11_findWay_1 : decode cX11_findWay 1 = .ok (.invokevirtual 193, 3) := by decide +kernel
theorem dX11_findWay_4 : decode cX11_findWay 4 = .ok (.aload_n 0, 1) := by decide +kernel
theorem dX11_findWay_5 : decode cX11_findWay 5 = .ok (.iload_n 1, 1) := by decide +kernel
theorem dX11_findWay_6 : decode cX11_findWay 6 = .ok (.putfield 26, 3) := by decide +kernel
theorem dX11_findWay_9 : decode cX11_findWay 9 = .ok (.aload_n 0, 1) := by decide +kernel
theorem dX11_findWay_10 : decode cX11_findWay 10 = .ok (.iconst 0, 1) := by decide +kernel
theorem dX11_findWay_11 : decode cX11_findWay 11 = .ok (.putfield 196, 3) := by decide +kernel
theorem dX11_findWay_14 : decode cX11_findWay 14 = .ok (.aload_n 0, 1) := by decide +kernel
theorem dX11_findWay_15 : decode cX11_findWay 15 = .ok (.getfield 34, 3) := by decide +kernel
theorem dX11_findWay_18 : decode cX11_findWay 18 = .ok (.bipush 16, 2) := by decide +kernel
theorem dX11_findWay_20 : decode cX11_findWay 20 = .ok (.aload_n 0, 1) := by decide +kernel
theorem dX11_findWay_21 : decode cX11_findWay 21 = .ok (.getfield 170, 3) := by decide +kernel
theorem dX11_findWay_24 : decode cX11_findWay 24 = .ok (.imul, 1) := by decide +kernel
theorem dX11_findWay_25 : decode cX11_findWay 25 = .ok (.iload_n 1, 1) := by decide +kernel
theorem dX11_findWay_26 : decode cX11_findWay 26 = .ok (.iadd, 1) := by decide +kernel
theorem dX11_findWay_27 : decode cX11_findWay 27 = .ok (.iaload, 1) := by decide +kernel
theorem dX11_findWay_28 : decode cX11_findWay 28 = .ok (.istore_n 2, 1) := by decide +kernel
theorem dX11_findWay_29 : decode cX11_findWay 29 = .ok (.iload_n 2, 1) := by decide +kernel
theorem dX11_findWay_30 : decode cX11_findWay 30 = .ok (.sipush 2000, 3) := by decide +kernel
theorem dX11_findWay_33 : decode cX11_findWay 33 = .ok (.if_icmp .le 4, 3) := by decide +kernel
theorem dX11_findWay_36 : decode cX11_findWay 36 = .ok (.return_, 1) := by decide +kernel
theorem dX11_findWay_37 : decode cX11_findWay 37 = .ok (.aload_n 0, 1) := by decide +kernel
theorem dX11_findWay_38 : decode cX11_findWay 38 = .ok (.iload_n 2, 1) := by decide +kernel
theorem dX11_findWay_39 : decode cX11_findWay 39 = .ok (.putfield 196, 3) := by decide +kernel
theorem dX11_findWay_42 : decode cX11_findWay 42 = .ok (.iload_n 1, 1) := by decide +kernel
theorem dX11_findWay_43 : decode cX11_findWay 43 = .ok (.istore_n 3, 1) := by decide +kernel
theorem dX11_findWay_44 : decode cX11_findWay 44 = .ok (.aload_n 0, 1) := by decide +kernel
theorem dX11_findWay_45 : decode cX11_findWay 45 = .ok (.getfield 170, 3) := by decide +kernel
theorem dX11_findWay_48 : decode cX11_findWay 48 = .ok (.istore 4, 2) := by decide +kernel
theorem dX11_findWay_50 : decode cX11_findWay 50 = .ok (.iconst 0, 1) := by decide +kernel
theorem dX11_findWay_51 : decode cX11_findWay 51 = .ok (.istore 5, 2) := by decide +kernel
theorem dX11_findWay_53 : decode cX11_findWay 53 = .ok (.iload 5, 2) := by decide +kernel
theorem dX11_findWay_55 : decode cX11_findWay 55 = .ok (.aload_n 0, 1) := by decide +kernel
theorem dX11_findWay_56 : decode cX11_findWay 56 = .ok (.getfield 196, 3) := by decide +kernel
theorem dX11_findWay_59 : decode cX11_findWay 59 = .ok (.if_icmp .ge 231, 3) := by decide +kernel
theorem dX11_findWay_62 : decode cX11_findWay 62 = .ok (.iconst 0, 1) := by decide +kernel
theorem dX11_findWay_63 : decode cX11_findWay 63 = .ok (.istore 6, 2) := by decide +kernel
theorem dX11_findWay_65 : decode cX11_findWay 65 = .ok (.iload 4, 2) := by decide +kernel
theorem dX11_findWay_67 : decode cX11_findWay 67 = .ok (.ifCond .le 15, 3) := by decide +kernel
theorem dX11_findWay_70 : decode cX11_findWay 70 = .ok (.aload_n 0, 1) := by decide +kernel
theorem dX11_findWay_71 : decode cX11_findWay 71 = .ok (.getfield 37, 3) := by decide +kernel
theorem dX11_findWay_74 : decode cX11_findWay 74 = .ok (.iload 4, 2) := by decide +kernel
theorem dX11_findWay_76 : decode cX11_findWay 76 = .ok (.iconst 1, 1) := by decide +kernel
theorem dX11_findWay_77 : decode cX11_findWay 77 = .ok (.isub, 1) := by decide +kernel
theorem dX11_findWay_78 : decode cX11_findWay 78 = .ok (.iaload, 1) := by decide +kernel
theorem dX11_findWay_79 : decode cX11_findWay 79 = .ok (.goto 4, 3) := by decide +kernel
theorem dX11_findWay_82 : decode cX11_findWay 82 = .ok (.iconst (-1), 1) := by decide +kernel
theorem dX11_findWay_83 : decode cX11_findWay 83 = .ok (.istore 7, 2) := by decide +kernel
theorem dX11_findWay_85 : decode cX11_findWay 85 = .ok (.iconst 0, 1) := by decide +kernel
theorem dX11_findWay_86 : decode cX11_findWay 86 = .ok (.istore 8, 2) := by decide +kernel
theorem dX11_findWay_88 : decode cX11_findWay 88 = .ok (.iload 8, 2) := by decide +kernel
theorem dX11_findWay_90 : decode cX11_findWay 90 = .ok (.aload_n 0, 1) := by decide +kernel
theorem dX11_findWay_91 : decode cX11_findWay 91 = .ok (.getfield 161, 3) := by decide +kernel
theorem dX11_findWay_94 : decode cX11_findWay 94 = .ok (.if_icmp .ge 190, 3) := by decide +kernel
theorem dX11_findWay_97 : decode cX11_findWay 97 = .ok (.iload 6, 2) := by decide +kernel
theorem dX11_findWay_99 : decode cX11_findWay 99 = .ok (.ifCond .ne 185, 3) := by decide +kernel
theorem dX11_findWay_102 : decode cX11_findWay 102 = .ok (.bipush 6, 2) := by decide +kernel
theorem dX11_findWay_104 : decode cX11_findWay 104 = .ok (.iload 8, 2) := by decide +kernel
theorem dX11_findWay_106 : decode cX11_findWay 106 = .ok (.imul, 1) := by decide +kernel
theorem dX11_findWay_107 : decode cX11_findWay 107 = .ok (.istore 9, 2) := by decide +kernel
theorem dX11_findWay_109 : decode cX11_findWay 109 = .ok (.aload_n 0, 1) := by decide +kernel
theorem dX11_findWay_110 : decode cX11_findWay 110 = .ok (.getfield 7, 3) := by decide +kernel
theorem dX11_findWay_113 : decode cX11_findWay 113 = .ok (.iload 9, 2) := by decide +kernel
theorem dX11_findWay_115 : decode cX11_findWay 115 = .ok (.iaload, 1) := by decide +kernel
theorem dX11_findWay_116 : decode cX11_findWay 116 = .ok (.iload_n 3, 1) := by decide +kernel
theorem dX11_findWay_117 : decode cX11_findWay 117 = .ok (.if_icmp .ne 161, 3) := by decide +kernel
theorem dX11_findWay_120 : decode cX11_findWay 120 = .ok (.aload_n 0, 1) := by decide +kernel
theorem dX11_findWay_121 : decode cX11_findWay 121 = .ok (.getfield 7, 3) := by decide +kernel
theorem dX11_findWay_124 : decode cX11_findWay 124 = .ok (.iload 9, 2) := by decide +kernel
theorem dX11_findWay_126 : decode cX11_findWay 126 = .ok (.iconst 1, 1) := by decide +kernel
theorem dX11_findWay_127 : decode cX11_findWay 127 = .ok (.iadd, 1) := by decide +kernel
theorem dX11_findWay_128 : decode cX11_findWay 128 = .ok (.iaload, 1) := by decide +kernel
theorem dX11_findWay_129 : decode cX11_findWay 129 = .ok (.iload 7, 2) := by decide +kernel
theorem dX11_findWay_131 : decode cX11_findWay 131 = .ok (.if_icmp .ne 147, 3) := by decide +kernel
theorem dX11_findWay_134 : decode cX11_findWay 134 = .ok (.iload 4, 2) := by decide +kernel
theorem dX11_findWay_136 : decode cX11_findWay 136 = .ok (.iconst 1, 1) := by decide +kernel
theorem dX11_findWay_137 : decode cX11_findWay 137 = .ok (.isub, 1) := by decide +kernel
theorem dX11_findWay_138 : decode cX11_findWay 138 = .ok (.istore 10, 2) := by decide +kernel
theorem dX11_findWay_140 : decode cX11_findWay 140 = .ok (.aload_n 0, 1) := by decide +kernel
theorem dX11_findWay_141 : decode cX11_findWay 141 = .ok (.getfield 7, 3) := by decide +kernel
theorem dX11_findWay_144 : decode cX11_findWay 144 = .ok (.iload 9, 2) := by decide +kernel
theorem dX11_findWay_146 : decode cX11_findWay 146 = .ok (.iconst 3, 1) := by decide +kernel
theorem dX11_findWay_147 : decode cX11_findWay 147 = .ok (.iadd, 1) := by decide +kernel
theorem dX11_findWay_148 : decode cX11_findWay 148 = .ok (.iaload, 1) := by decide +kernel
theorem dX11_findWay_149 : decode cX11_findWay 149 = .ok (.iconst 2, 1) := by decide +kernel
theorem dX11_findWay_150 : decode cX11_findWay 150 = .ok (.if_icmp .ne 21, 3) := by decide +kernel
theorem dX11_findWay_153 : decode cX11_findWay 153 = .ok (.aload_n 0, 1) := by decide +kernel
theorem dX11_findWay_154 : decode cX11_findWay 154 = .ok (.iload 10, 2) := by decide +kernel
theorem dX11_findWay_156 : decode cX11_findWay 156 = .ok (.aload_n 0, 1) := by decide +kernel
theorem dX11_findWay_157 : decode cX11_findWay 157 = .ok (.getfield 7, 3) := by decide +kernel
theorem dX11_findWay_160 : decode cX11_findWay 160 = .ok (.iload 9, 2) := by decide +kernel
theorem dX11_findWay_162 : decode cX11_findWay 162 = .ok (.iconst 5, 1) := by decide +kernel
theorem dX11_findWay_163 : decode cX11_findWay 163 = .ok (.iadd, 1) := by decide +kernel
theorem dX11_findWay_164 : decode cX11_findWay 164 = .ok (.iaload, 1) := by decide +kernel
theorem dX11_findWay_165 : decode cX11_findWay 165 = .ok (.invokevirtual 189, 3) := by decide +kernel
theorem dX11_findWay_168 : decode cX11_findWay 168 = .ok (.iinc 10 1, 3) := by decide +kernel
theorem dX11_findWay_171 : decode cX11_findWay 171 = .ok (.aload_n 0, 1) := by decide +kernel
theorem dX11_findWay_172 : decode cX11_findWay 172 = .ok (.getfield 7, 3) := by decide +kernel
theorem dX11_findWay_175 : decode cX11_findWay 175 = .ok (.iload 9, 2) := by decide +kernel
theorem dX11_findWay_177 : decode cX11_findWay 177 = .ok (.iconst 3, 1) := by decide +kernel
theorem dX11_findWay_178 : decode cX11_findWay 178 = .ok (.iadd, 1) := by decide +kernel
theorem dX11_findWay_179 : decode cX11_findWay 179 = .ok (.iaload, 1) := by decide +kernel
theorem dX11_findWay_180 : decode cX11_findWay 180 = .ok (.ifCond .le 21, 3) := by decide +kernel
theorem dX11_findWay_183 : decode cX11_findWay 183 = .ok (.aload_n 0, 1) := by decide +kernel
theorem dX11_findWay_184 : decode cX11_findWay 184 = .ok (.iload 10, 2) := by decide +kernel
theorem dX11_findWay_186 : decode cX11_findWay 186 = .ok (.aload_n 0, 1) := by decide +kernel
theorem dX11_findWay_187 : decode cX11_findWay 187 = .ok (.getfield 7, 3) := by decide +kernel
theorem dX11_findWay_190 : decode cX11_findWay 190 = .ok (.iload 9, 2) := by decide +kernel
theorem dX11_findWay_192 : decode cX11_findWay 192 = .ok (.iconst 4, 1) := by decide +kernel
theorem dX11_findWay_193 : decode cX11_findWay 193 = .ok (.iadd, 1) := by decide +kernel
theorem dX11_findWay_194 : decode cX11_findWay 194 = .ok (.iaload, 1) := by decide +kernel
theorem dX11_findWay_195 : decode cX11_findWay 195 = .ok (.invokevirtual 189, 3) := by decide +kernel
theorem dX11_findWay_198 : decode cX11_findWay 198 = .ok (.iinc 10 1, 3) := by decide +kernel
theorem dX11_findWay_201 : decode cX11_findWay 201 = .ok (.aload_n 0, 1) := by decide +kernel
theorem dX11_findWay_202 : decode cX11_findWay 202 = .ok (.getfield 34, 3) := by decide +kernel
theorem dX11_findWay_205 : decode cX11_findWay 205 = .ok (.bipush 16, 2) := by decide +kernel
theorem dX11_findWay_207 : decode cX11_findWay 207 = .ok (.iload 10, 2) := by decide +kernel
theorem dX11_findWay_209 : decode cX11_findWay 209 = .ok (.imul, 1) := by decide +kernel
theorem dX11_findWay_210 : decode cX11_findWay 210 = .ok (.aload_n 0, 1) := by decide +kernel
theorem dX11_findWay_211 : decode cX11_findWay 211 = .ok (.getfield 7, 3) := by decide +kernel
theorem dX11_findWay_214 : decode cX11_findWay 214 = .ok (.iload 9, 2) := by decide +kernel
theorem dX11_findWay_216 : decode cX11_findWay 216 = .ok (.iconst 2, 1) := by decide +kernel
theorem dX11_findWay_217 : decode cX11_findWay 217 = .ok (.iadd, 1) := by decide +kernel
theorem dX11_findWay_218 : decode cX11_findWay 218 = .ok (.iaload, 1) := by decide +kernel
theorem dX11_findWay_219 : decode cX11_findWay 219 = .ok (.iadd, 1) := by decide +kernel
theorem dX11_findWay_220 : decode cX11_findWay 220 = .ok (.iaload, 1) := by decide +kernel
theorem dX11_findWay_221 : decode cX11_findWay 221 = .ok (.iload_n 2, 1) := by decide +kernel
theorem dX11_findWay_222 : decode cX11_findWay 222 = .ok (.iconst 1, 1) := by decide +kernel
theorem dX11_findWay_223 : decode cX11_findWay 223 = .ok (.isub, 1) := by decide +kernel
theorem dX11_findWay_224 : decode cX11_findWay 224 = .ok (.if_icmp .ne 7, 3) := by decide +kernel
theorem dX11_findWay_227 : decode cX11_findWay 227 = .ok (.iconst 1, 1) := by decide +kernel
theorem dX11_findWay_228 : decode cX11_findWay 228 = .ok (.goto 4, 3) := by decide +kernel
theorem dX11_findWay_231 : decode cX11_findWay 231 = .ok (.iconst 0, 1) := by decide +kernel
theorem dX11_findWay_232 : decode cX11_findWay 232 = .ok (.istore 6, 2) := by decide +kernel
theorem dX11_findWay_234 : decode cX11_findWay 234 = .ok (.iload 6, 2) := by decide +kernel
theorem dX11_findWay_236 : decode cX11_findWay 236 = .ok (.ifCond .eq 32, 3) := by decide +kernel
theorem dX11_findWay_239 : decode cX11_findWay 239 = .ok (.aload_n 0, 1) := by decide +kernel
theorem dX11_findWay_240 : decode cX11_findWay 240 = .ok (.getfield 30, 3) := by decide +kernel
theorem dX11_findWay_243 : decode cX11_findWay 243 = .ok (.iload 5, 2) := by decide +kernel
theorem dX11_findWay_245 : decode cX11_findWay 245 = .ok (.iload 8, 2) := by decide +kernel
theorem dX11_findWay_247 : decode cX11_findWay 247 = .ok (.iastore, 1) := by decide +kernel
theorem dX11_findWay_248 : decode cX11_findWay 248 = .ok (.iinc 2 (-1), 3) := by decide +kernel
theorem dX11_findWay_251 : decode cX11_findWay 251 = .ok (.aload_n 0, 1) := by decide +kernel
theorem dX11_findWay_252 : decode cX11_findWay 252 = .ok (.getfield 7, 3) := by decide +kernel
theorem dX11_findWay_255 : decode cX11_findWay 255 = .ok (.iload 9, 2) := by decide +kernel
theorem dX11_findWay_257 : decode cX11_findWay 257 = .ok (.iconst 2, 1) := by decide +kernel
theorem dX11_findWay_258 : decode cX11_findWay 258 = .ok (.iadd, 1) := by decide +kernel
theorem dX11_findWay_259 : decode cX11_findWay 259 = .ok (.iaload, 1) := by decide +kernel
theorem dX11_findWay_260 : decode cX11_findWay 260 = .ok (.istore_n 3, 1) := by decide +kernel
theorem dX11_findWay_261 : decode cX11_findWay 261 = .ok (.iload 10, 2) := by decide +kernel
theorem dX11_findWay_263 : decode cX11_findWay 263 = .ok (.istore 4, 2) := by decide +kernel
theorem dX11_findWay_265 : decode cX11_findWay 265 = .ok (.goto 13, 3) := by decide +kernel
theorem dX11_findWay_268 : decode cX11_findWay 268 = .ok (.aload_n 0, 1) := by decide +kernel
theorem dX11_findWay_269 : decode cX11_findWay 269 = .ok (.iload 4, 2) := by decide +kernel
theorem dX11_findWay_271 : decode cX11_findWay 271 = .ok (.iconst 1, 1) := by decide +kernel
theorem dX11_findWay_272 : decode cX11_findWay 272 = .ok (.isub, 1) := by decide +kernel
theorem dX11_findWay_273 : decode cX11_findWay 273 = .ok (.iload 7, 2) := by decide +kernel
theorem dX11_findWay_275 : decode cX11_findWay 275 = .ok (.invokevirtual 189, 3) := by decide +kernel
theorem dX11_findWay_278 : decode cX11_findWay 278 = .ok (.iinc 8 1, 3) := by decide +kernel
theorem dX11_findWay_281 : decode cX11_findWay 281 = .ok (.goto (-193), 3) := by decide +kernel
theorem dX11_findWay_284 : decode cX11_findWay 284 = .ok (.iinc 5 1, 3) := by decide +kernel
theorem dX11_findWay_287 : decode cX11_findWay 287 = .ok (.goto (-234), 3) := by decide +kernel
theorem dX11_findWay_290 : decode cX11_findWay 290 = .ok (.return_, 1) := by decide +kernel
theorem dX11_way_0 : decode cX11_way 0 = .ok (.aload_n 0, 1) := by decide +kernel
theorem dX11_way_1 : decode cX11_way 1 = .ok (.iconst 0, 1) := by decide +kernel
theorem dX11_way_2 : decode cX11_way 2 = .ok (.putfield 150, 3) := by decide +kernel
theorem dX11_way_5 : decode cX11_way 5 = .ok (.iload_n 1, 1) := by decide +kernel
theorem dX11_way_6 : decode cX11_way 6 = .ok (.iconst 0, 1) := by decide +kernel
theorem dX11_way_7 : decode cX11_way 7 = .ok (.bipush 7, 2) := by decide +kernel
theorem dX11_way_9 : decode cX11_way 9 = .ok (.invokestatic 157, 3) := by decide +kernel
theorem dX11_way_12 : decode cX11_way 12 = .ok (.ifCond .ne 6, 3) := by decide +kernel
theorem dX11_way_15 : decode cX11_way 15 = .ok (.bipush (-2), 2) := by decide +kernel
theorem dX11_way_17 : decode cX11_way 17 = .ok (.ireturn, 1) := by decide +kernel
theorem dX11_way_18 : decode cX11_way 18 = .ok (.aload_n 0, 1) := by decide +kernel
theorem dX11_way_19 : decode cX11_way 19 = .ok (.getfield 26, 3) := by decide +kernel
theorem dX11_way_22 : decode cX11_way 22 = .ok (.iload_n 1, 1) := by decide +kernel
theorem dX11_way_23 : decode cX11_way 23 = .ok (.if_icmp .eq 8, 3) := by decide +kernel
theorem dX11_way_26 : decode cX11_way 26 = .ok (.aload_n 0, 1) := by decide +kernel
theorem dX11_way_27 : decode cX11_way 27 = .ok (.iload_n 1, 1) := by decide +kernel
theorem dX11_way_28 : decode cX11_way 28 = .ok (.invokevirtual 199, 3) := by decide +kernel
theorem dX11_way_31 : decode cX11_way 31 = .ok (.iload_n 2, 1) := by decide +kernel
theorem dX11_way_32 : decode cX11_way 32 = .ok (.iconst 0, 1) := by decide +kernel
theorem dX11_way_33 : decode cX11_way 33 = .ok (.aload_n 0, 1) := by decide +kernel
theorem dX11_way_34 : decode cX11_way 34 = .ok (.getfield 196, 3) := by decide +kernel
theorem dX11_way_37 : decode cX11_way 37 = .ok (.iconst 1, 1) := by decide +kernel
theorem dX11_way_38 : decode cX11_way 38 = .ok (.isub, 1) := by decide +kernel
theorem dX11_way_39 : decode cX11_way 39 = .ok (.invokestatic 157, 3) := by decide +kernel
theorem dX11_way_42 : decode cX11_way 42 = .ok (.ifCond .eq 12, 3) := by decide +kernel
theorem dX11_way_45 : decode cX11_way 45 = .ok (.aload_n 0, 1) := by decide +kernel
theorem dX11_way_46 : decode cX11_way 46 = .ok (.getfield 30, 3) := by decide +kernel
theorem dX11_way_49 : decode cX11_way 49 = .ok (.iload_n 2, 1) := by decide +kernel
theorem dX11_way_50 : decode cX11_way 50 = .ok (.iaload, 1) := by decide +kernel
theorem dX11_way_51 : decode cX11_way 51 = .ok (.goto 4, 3) := by decide +kernel
theorem dX11_way_54 : decode cX11_way 54 = .ok (.iconst (-1), 1) := by decide +kernel
theorem dX11_way_55 : decode cX11_way 55 = .ok (.ireturn, 1) := by decide +kernel
theorem dX11_add_0 : decode cX11_add 0 = .ok (.sipush 1344, 3) := by decide +kernel
theorem dX11_add_3 : decode cX11_add 3 = .ok (.iload_n 1, 1) := by decide +kernel
theorem dX11_add_4 : decode cX11_add 4 = .ok (.imul, 1) := by decide +kernel
theorem dX11_add_5 : decode cX11_add 5 = .ok (.bipush 112, 2) := by decide +kernel
theorem dX11_add_7 : decode cX11_add 7 = .ok (.iload_n 2, 1) := by decide +kernel
theorem dX11_add_8 : decode cX11_add 8 = .ok (.imul, 1) := by decide +kernel
theorem dX11_add_9 : decode cX11_add 9 = .ok (.iadd, 1) := by decide +kernel
theorem dX11_add_10 : decode cX11_add 10 = .ok (.iload_n 3, 1) := by decide +kernel
theorem dX11_add_11 : decode cX11_add 11 = .ok (.iadd, 1) := by decide +kernel
theorem dX11_add_12 : decode cX11_add 12 = .ok (.istore 4, 2) := by decide +kernel
theorem dX11_add_14 : decode cX11_add 14 = .ok (.aload_n 0, 1) := by decide +kernel
theorem dX11_add_15 : decode cX11_add 15 = .ok (.getfield 41, 3) := by decide +kernel
theorem dX11_add_18 : decode cX11_add 18 = .ok (.iload 4, 2) := by decide +kernel
theorem dX11_add_20 : decode cX11_add 20 = .ok (.baload, 1) := by decide +kernel
theorem dX11_add_21 : decode cX11_add 21 = .ok (.ifCond .ne 7, 3) := by decide +kernel
theorem dX11_add_24 : decode cX11_add 24 = .ok (.iconst 1, 1) := by decide +kernel
theorem dX11_add_25 : decode cX11_add 25 = .ok (.goto 4, 3) := by decide +kernel
theorem dX11_add_28 : decode cX11_add 28 = .ok (.iconst 0, 1) := by decide +kernel
theorem dX11_add_29 : decode cX11_add 29 = .ok (.istore 5, 2) := by decide +kernel
theorem dX11_add_31 : decode cX11_add 31 = .ok (.aload_n 0, 1) := by decide +kernel
theorem dX11_add_32 : decode cX11_add 32 = .ok (.getfield 41, 3) := by decide +kernel
theorem dX11_add_35 : decode cX11_add 35 = .ok (.iload 4, 2) := by decide +kernel
theorem dX11_add_37 : decode cX11_add 37 = .ok (.iconst 1, 1) := by decide +kernel
theorem dX11_add_38 : decode cX11_add 38 = .ok (.bastore, 1) := by decide +kernel
theorem dX11_add_39 : decode cX11_add 39 = .ok (.iload 5, 2) := by decide +kernel
theorem dX11_add_41 : decode cX11_add 41 = .ok (.ireturn, 1) := by decide +kernel
theorem dX11_spread_0 : decode cX11_spread 0 = .ok (.iconst 0, 1) := by decide +kernel
theorem dX11_spread_1 : decode cX11_spread 1 = .ok (.istore_n 1, 1) := by decide +kernel
theorem dX11_spread_2 : decode cX11_spread 2 = .ok (.iconst 0, 1) := by decide +kernel
theorem dX11_spread_3 : decode cX11_spread 3 = .ok (.istore_n 2, 1) := by decide +kernel
theorem dX11_spread_4 : decode cX11_spread 4 = .ok (.iload_n 2, 1) := by decide +kernel
theorem dX11_spread_5 : decode cX11_spread 5 = .ok (.aload_n 0, 1) := by decide +kernel
theorem dX11_spread_6 : decode cX11_spread 6 = .ok (.getfield 161, 3) := by decide +kernel
theorem dX11_spread_9 : decode cX11_spread 9 = .ok (.if_icmp .ge 250, 3) := by decide +kernel
theorem dX11_spread_12 : decode cX11_spread 12 = .ok (.bipush 6, 2) := by decide +kernel
theorem dX11_spread_14 : decode cX11_spread 14 = .ok (.iload_n 2, 1) := by decide +kernel
theorem dX11_spread_15 : decode cX11_spread 15 = .ok (.imul, 1) := by decide +kernel
theorem dX11_spread_16 : decode cX11_spread 16 = .ok (.istore_n 3, 1) := by decide +kernel
theorem dX11_spread_17 : decode cX11_spread 17 = .ok (.aload_n 0, 1) := by decide +kernel
theorem dX11_spread_18 : decode cX11_spread 18 = .ok (.getfield 7, 3) := by decide +kernel
theorem dX11_spread_21 : decode cX11_spread 21 = .ok (.iload_n 3, 1) := by decide +kernel
theorem dX11_spread_22 : decode cX11_spread 22 = .ok (.iconst 2, 1) := by decide +kernel
theorem dX11_spread_23 : decode cX11_spread 23 = .ok (.iadd, 1) := by decide +kernel
theorem dX11_spread_24 : decode cX11_spread 24 = .ok (.iaload, 1) := by decide +kernel
theorem dX11_spread_25 : decode cX11_spread 25 = .ok (.istore 4, 2) := by decide +kernel
theorem dX11_spread_27 : decode cX11_spread 27 = .ok (.iconst 0, 1) := by decide +kernel
theorem dX11_spread_28 : decode cX11_spread 28 = .ok (.istore 5, 2) := by decide +kernel
theorem dX11_spread_30 : decode cX11_spread 30 = .ok (.iload 5, 2) := by decide +kernel
theorem dX11_spread_32 : decode cX11_spread 32 = .ok (.bipush 112, 2) := by decide +kernel
theorem dX11_spread_34 : decode cX11_spread 34 = .ok (.if_icmp .ge 219, 3) := by decide +kernel
theorem dX11_spread_37 : decode cX11_spread 37 = .ok (.aload_n 0, 1) := by decide +kernel
theorem dX11_spread_38 : decode cX11_spread 38 = .ok (.getfield 41, 3) := by decide +kernel
theorem dX11_spread_41 : decode cX11_spread 41 = .ok (.sipush 1344, 3) := by decide +kernel
theorem dX11_spread_44 : decode cX11_spread 44 = .ok (.aload_n 0, 1) := by decide +kernel
theorem dX11_spread_45 : decode cX11_spread 45 = .ok (.getfield 7, 3) := by decide +kernel
theorem dX11_spread_48 : decode cX11_spread 48 = .ok (.iload_n 3, 1) := by decide +kernel
theorem dX11_spread_49 : decode cX11_spread 49 = .ok (.iaload, 1) := by decide +kernel
theorem dX11_spread_50 : decode cX11_spread 50 = .ok (.imul, 1) := by decide +kernel
theorem dX11_spread_51 : decode cX11_spread 51 = .ok (.bipush 112, 2) := by decide +kernel
theorem dX11_spread_53 : decode cX11_spread 53 = .ok (.aload_n 0, 1) := by decide +kernel
theorem dX11_spread_54 : decode cX11_spread 54 = .ok (.getfield 7, 3) := by decide +kernel
theorem dX11_spread_57 : decode cX11_spread 57 = .ok (.iload_n 3, 1) := by decide +kernel
theorem dX11_spread_58 : decode cX11_spread 58 = .ok (.iconst 1, 1) := by decide +kernel
theorem dX11_spread_59 : decode cX11_spread 59 = .ok (.iadd, 1) := by decide +kernel
theorem dX11_spread_60 : decode cX11_spread 60 = .ok (.iaload, 1) := by decide +kernel
theorem dX11_spread_61 : decode cX11_spread 61 = .ok (.imul, 1) := by decide +kernel
theorem dX11_spread_62 : decode cX11_spread 62 = .ok (.iadd, 1) := by decide +kernel
theorem dX11_spread_63 : decode cX11_spread 63 = .ok (.iload 5, 2) := by decide +kernel
theorem dX11_spread_65 : decode cX11_spread 65 = .ok (.iadd, 1) := by decide +kernel
theorem dX11_spread_66 : decode cX11_spread 66 = .ok (.baload, 1) := by decide +kernel
theorem dX11_spread_67 : decode cX11_spread 67 = .ok (.ifCond .eq 180, 3) := by decide +kernel
theorem dX11_spread_70 : decode cX11_spread 70 = .ok (.aload_n 0, 1) := by decide +kernel
theorem dX11_spread_71 : decode cX11_spread 71 = .ok (.getfield 7, 3) := by decide +kernel
theorem dX11_spread_74 : decode cX11_spread 74 = .ok (.iload_n 3, 1) := by decide +kernel
theorem dX11_spread_75 : decode cX11_spread 75 = .ok (.iconst 3, 1) := by decide +kernel
theorem dX11_spread_76 : decode cX11_spread 76 = .ok (.iadd, 1) := by decide +kernel
theorem dX11_spread_77 : decode cX11_spread 77 = .ok (.iaload, 1) := by decide +kernel
theorem dX11_spread_78 : decode cX11_spread 78 = .ok (.ifCond .ne 46, 3) := by decide +kernel
theorem dX11_spread_81 : decode cX11_spread 81 = .ok (.iload_n 1, 1) := by decide +kernel
theorem dX11_spread_82 : decode cX11_spread 82 = .ok (.ifCond .ne 19, 3) := by decide +kernel
theorem dX11_spread_85 : decode cX11_spread 85 = .ok (.aload_n 0, 1) := by decide +kernel
theorem dX11_spread_86 : decode cX11_spread 86 = .ok (.getfield 44, 3) := by decide +kernel
theorem dX11_spread_89 : decode cX11_spread 89 = .ok (.bipush 112, 2) := by decide +kernel
theorem dX11_spread_91 : decode cX11_spread 91 = .ok (.iload 4, 2) := by decide +kernel
theorem dX11_spread_93 : decode cX11_spread 93 = .ok (.imul, 1) := by decide +kernel
theorem dX11_spread_94 : decode cX11_spread 94 = .ok (.iload 5, 2) := by decide +kernel
theorem dX11_spread_96 : decode cX11_spread 96 = .ok (.iadd, 1) := by decide +kernel
theorem dX11_spread_97 : decode cX11_spread 97 = .ok (.baload, 1) := by decide +kernel
theorem dX11_spread_98 : decode cX11_spread 98 = .ok (.ifCond .ne 7, 3) := by decide +kernel
theorem dX11_spread_101 : decode cX11_spread 101 = .ok (.iconst 1, 1) := by decide +kernel
theorem dX11_spread_102 : decode cX11_spread 102 = .ok (.goto 4, 3) := by decide +kernel
theorem dX11_spread_105 : decode cX11_spread 105 = .ok (.iconst 0, 1) := by decide +kernel
theorem dX11_spread_106 : decode cX11_spread 106 = .ok (.istore_n 1, 1) := by decide +kernel
theorem dX11_spread_107 : decode cX11_spread 107 = .ok (.aload_n 0, 1) := by decide +kernel
theorem dX11_spread_108 : decode cX11_spread 108 = .ok (.getfield 44, 3) := by decide +kernel
theorem dX11_spread_111 : decode cX11_spread 111 = .ok (.bipush 112, 2) := by decide +kernel
theorem dX11_spread_113 : decode cX11_spread 113 = .ok (.iload 4, 2) := by decide +kernel
theorem dX11_spread_115 : decode cX11_spread 115 = .ok (.imul, 1) := by decide +kernel
theorem dX11_spread_116 : decode cX11_spread 116 = .ok (.iload 5, 2) := by decide +kernel
theorem dX11_spread_118 : decode cX11_spread 118 = .ok (.iadd, 1) := by decide +kernel
theorem dX11_spread_119 : decode cX11_spread 119 = .ok (.iconst 1, 1) := by decide +kernel
theorem dX11_spread_120 : decode cX11_spread 120 = .ok (.bastore, 1) := by decide +kernel
theorem dX11_spread_121 : decode cX11_spread 121 = .ok (.goto 126, 3) := by decide +kernel
theorem dX11_spread_124 : decode cX11_spread 124 = .ok (.aload_n 0, 1) := by decide +kernel
theorem dX11_spread_125 : decode cX11_spread 125 = .ok (.getfield 7, 3) := by decide +kernel
theorem dX11_spread_128 : decode cX11_spread 128 = .ok (.iload_n 3, 1) := by decide +kernel
theorem dX11_spread_129 : decode cX11_spread 129 = .ok (.iconst 3, 1) := by decide +kernel
theorem dX11_spread_130 : decode cX11_spread 130 = .ok (.iadd, 1) := by decide +kernel
theorem dX11_spread_131 : decode cX11_spread 131 = .ok (.iaload, 1) := by decide +kernel
theorem dX11_spread_132 : decode cX11_spread 132 = .ok (.iconst 1, 1) := by decide +kernel
theorem dX11_spread_133 : decode cX11_spread 133 = .ok (.if_icmp .ne 39, 3) := by decide +kernel
theorem dX11_spread_136 : decode cX11_spread 136 = .ok (.aload_n 0, 1) := by decide +kernel
theorem dX11_spread_137 : decode cX11_spread 137 = .ok (.iload 4, 2) := by decide +kernel
theorem dX11_spread_139 : decode cX11_spread 139 = .ok (.aload_n 0, 1) := by decide +kernel
theorem dX11_spread_140 : decode cX11_spread 140 = .ok (.getfield 7, 3) := by decide +kernel
theorem dX11_spread_143 : decode cX11_spread 143 = .ok (.iload_n 3, 1) := by decide +kernel
theorem dX11_spread_144 : decode cX11_spread 144 = .ok (.iconst 4, 1) := by decide +kernel
theorem dX11_spread_145 : decode cX11_spread 145 = .ok (.iadd, 1) := by decide +kernel
theorem dX11_spread_146 : decode cX11_spread 146 = .ok (.iaload, 1) := by decide +kernel
theorem dX11_spread_147 : decode cX11_spread 147 = .ok (.iload 5, 2) := by decide +kernel
theorem dX11_spread_149 : decode cX11_spread 149 = .ok (.invokevirtual 203, 3) := by decide +kernel
theorem dX11_spread_152 : decode cX11_spread 152 = .ok (.istore 6, 2) := by decide +kernel
theorem dX11_spread_154 : decode cX11_spread 154 = .ok (.iload_n 1, 1) := by decide +kernel
theorem dX11_spread_155 : decode cX11_spread 155 = .ok (.ifCond .ne 8, 3) := by decide +kernel
theorem dX11_spread_158 : decode cX11_spread 158 = .ok (.iload 6, 2) := by decide +kernel
theorem dX11_spread_160 : decode cX11_spread 160 = .ok (.ifCond .eq 7, 3) := by decide +kernel
theorem dX11_spread_163 : decode cX11_spread 163 = .ok (.iconst 1, 1) := by decide +kernel
theorem dX11_spread_164 : decode cX11_spread 164 = .ok (.goto 4, 3) := by decide +kernel
theorem dX11_spread_167 : decode cX11_spread 167 = .ok (.iconst 0, 1) := by decide +kernel
theorem dX11_spread_168 : decode cX11_spread 168 = .ok (.istore_n 1, 1) := by decide +kernel
theorem dX11_spread_169 : decode cX11_spread 169 = .ok (.goto 78, 3) := by decide +kernel
theorem dX11_spread_172 : decode cX11_spread 172 = .ok (.bipush 16, 2) := by decide +kernel
theorem dX11_spread_174 : decode cX11_spread 174 = .ok (.bipush 12, 2) := by decide +kernel
theorem dX11_spread_176 : decode cX11_spread 176 = .ok (.iload 4, 2) := by decide +kernel
theorem dX11_spread_178 : decode cX11_spread 178 = .ok (.imul, 1) := by decide +kernel
theorem dX11_spread_179 : decode cX11_spread 179 = .ok (.iadd, 1) := by decide +kernel
theorem dX11_spread_180 : decode cX11_spread 180 = .ok (.aload_n 0, 1) := by decide +kernel
theorem dX11_spread_181 : decode cX11_spread 181 = .ok (.getfield 7, 3) := by decide +kernel
theorem dX11_spread_184 : decode cX11_spread 184 = .ok (.iload_n 3, 1) := by decide +kernel
theorem dX11_spread_185 : decode cX11_spread 185 = .ok (.iconst 4, 1) := by decide +kernel
theorem dX11_spread_186 : decode cX11_spread 186 = .ok (.iadd, 1) := by decide +kernel
theorem dX11_spread_187 : decode cX11_spread 187 = .ok (.iaload, 1) := by decide +kernel
theorem dX11_spread_188 : decode cX11_spread 188 = .ok (.iadd, 1) := by decide +kernel
theorem dX11_spread_189 : decode cX11_spread 189 = .ok (.istore 6, 2) := by decide +kernel
theorem dX11_spread_191 : decode cX11_spread 191 = .ok (.aload_n 0, 1) := by decide +kernel
theorem dX11_spread_192 : decode cX11_spread 192 = .ok (.iload 4, 2) := by decide +kernel
theorem dX11_spread_194 : decode cX11_spread 194 = .ok (.aload_n 0, 1) := by decide +kernel
theorem dX11_spread_195 : decode cX11_spread 195 = .ok (.getfield 7, 3) := by decide +kernel
theorem dX11_spread_198 : decode cX11_spread 198 = .ok (.iload_n 3, 1) := by decide +kernel
theorem dX11_spread_199 : decode cX11_spread 199 = .ok (.iconst 4, 1) := by decide +kernel
theorem dX11_spread_200 : decode cX11_spread 200 = .ok (.iadd, 1) := by decide +kernel
theorem dX11_spread_201 : decode cX11_spread 201 = .ok (.iaload, 1) := by decide +kernel
theorem dX11_spread_202 : decode cX11_spread 202 = .ok (.iload 6, 2) := by decide +kernel
theorem dX11_spread_204 : decode cX11_spread 204 = .ok (.invokevirtual 203, 3) := by decide +kernel
theorem dX11_spread_207 : decode cX11_spread 207 = .ok (.istore 7, 2) := by decide +kernel
theorem dX11_spread_209 : decode cX11_spread 209 = .ok (.aload_n 0, 1) := by decide +kernel
theorem dX11_spread_210 : decode cX11_spread 210 = .ok (.iload 6, 2) := by decide +kernel
theorem dX11_spread_212 : decode cX11_spread 212 = .ok (.aload_n 0, 1) := by decide +kernel
theorem dX11_spread_213 : decode cX11_spread 213 = .ok (.getfield 7, 3) := by decide +kernel
theorem dX11_spread_216 : decode cX11_spread 216 = .ok (.iload_n 3, 1) := by decide +kernel
theorem dX11_spread_217 : decode cX11_spread 217 = .ok (.iconst 5, 1) := by decide +kernel
theorem dX11_spread_218 : decode cX11_spread 218 = .ok (.iadd, 1) := by decide +kernel
theorem dX11_spread_219 : decode cX11_spread 219 = .ok (.iaload, 1) := by decide +kernel
theorem dX11_spread_220 : decode cX11_spread 220 = .ok (.iload 5, 2) := by decide +kernel
theorem dX11_spread_222 : decode cX11_spread 222 = .ok (.invokevirtual 203, 3) := by decide +kernel
theorem dX11_spread_225 : decode cX11_spread 225 = .ok (.istore 8, 2) := by decide +kernel
theorem dX11_spread_227 : decode cX11_spread 227 = .ok (.iload_n 1, 1) := by decide +kernel
theorem dX11_spread_228 : decode cX11_spread 228 = .ok (.ifCond .ne 13, 3) := by decide +kernel
theorem dX11_spread_231 : decode cX11_spread 231 = .ok (.iload 7, 2) := by decide +kernel
theorem dX11_spread_233 : decode cX11_spread 233 = .ok (.ifCond .ne 8, 3) := by decide +kernel
theorem dX11_spread_236 : decode cX11_spread 236 = .ok (.iload 8, 2) := by decide +kernel
theorem dX11_spread_238 : decode cX11_spread 238 = .ok (.ifCond .eq 7, 3) := by decide +kernel
theorem dX11_spread_241 : decode cX11_spread 241 = .ok (.iconst 1, 1) := by decide +kernel
theorem dX11_spread_242 : decode cX11_spread 242 = .ok (.goto 4, 3) := by decide +kernel
theorem dX11_spread_245 : decode cX11_spread 245 = .ok (.iconst 0, 1) := by decide +kernel
theorem dX11_spread_246 : decode cX11_spread 246 = .ok (.istore_n 1, 1) := by decide +kernel
theorem dX11_spread_247 : decode cX11_spread 247 = .ok (.iinc 5 1, 3) := by decide +kernel
theorem dX11_spread_250 : decode cX11_spread 250 = .ok (.goto (-220), 3) := by decide +kernel
theorem dX11_spread_253 : decode cX11_spread 253 = .ok (.iinc 2 1, 3) := by decide +kernel
theorem dX11_spread_256 : decode cX11_spread 256 = .ok (.goto (-252), 3) := by decide +kernel
theorem dX11_spread_259 : decode cX11_spread 259 = .ok (.iconst 0, 1) := by decide +kernel
theorem dX11_spread_260 : decode cX11_spread 260 = .ok (.istore_n 2, 1) := by decide +kernel
theorem dX11_spread_261 : decode cX11_spread 261 = .ok (.iload_n 2, 1) := by decide +kernel
theorem dX11_spread_262 : decode cX11_spread 262 = .ok (.bipush 8, 2) := by decide +kernel
theorem dX11_spread_264 : decode cX11_spread 264 = .ok (.if_icmp .ge 183, 3) := by decide +kernel
theorem dX11_spread_267 : decode cX11_spread 267 = .ok (.iconst 0, 1) := by decide +kernel
theorem dX11_spread_268 : decode cX11_spread 268 = .ok (.istore_n 3, 1) := by decide +kernel
theorem dX11_spread_269 : decode cX11_spread 269 = .ok (.iload_n 3, 1) := by decide +kernel
theorem dX11_spread_270 : decode cX11_spread 270 = .ok (.bipush 112, 2) := by decide +kernel
theorem dX11_spread_272 : decode cX11_spread 272 = .ok (.if_icmp .ge 169, 3) := by decide +kernel
theorem dX11_spread_275 : decode cX11_spread 275 = .ok (.iconst 0, 1) := by decide +kernel
theorem dX11_spread_276 : decode cX11_spread 276 = .ok (.istore 4, 2) := by decide +kernel
theorem dX11_spread_278 : decode cX11_spread 278 = .ok (.iload 4, 2) := by decide +kernel
theorem dX11_spread_280 : decode cX11_spread 280 = .ok (.sipush 1344, 3) := by decide +kernel
theorem dX11_spread_283 : decode cX11_spread 283 = .ok (.if_icmp .ge 71, 3) := by decide +kernel
theorem dX11_spread_286 : decode cX11_spread 286 = .ok (.aload_n 0, 1) := by decide +kernel
theorem dX11_spread_287 : decode cX11_spread 287 = .ok (.getfield 44, 3) := by decide +kernel
theorem dX11_spread_290 : decode cX11_spread 290 = .ok (.bipush 112, 2) := by decide +kernel
theorem dX11_spread_292 : decode cX11_spread 292 = .ok (.iload_n 2, 1) := by decide +kernel
theorem dX11_spread_293 : decode cX11_spread 293 = .ok (.imul, 1) := by decide +kernel
theorem dX11_spread_294 : decode cX11_spread 294 = .ok (.iload_n 3, 1) := by decide +kernel
theorem dX11_spread_295 : decode cX11_spread 295 = .ok (.iadd, 1) := by decide +kernel
theorem dX11_spread_296 : decode cX11_spread 296 = .ok (.baload, 1) := by decide +kernel
theorem dX11_spread_297 : decode cX11_spread 297 = .ok (.ifCond .eq 57, 3) := by decide +kernel
theorem dX11_spread_300 : decode cX11_spread 300 = .ok (.aload_n 0, 1) := by decide +kernel
theorem dX11_spread_301 : decode cX11_spread 301 = .ok (.getfield 41, 3) := by decide +kernel
theorem dX11_spread_304 : decode cX11_spread 304 = .ok (.sipush 1344, 3) := by decide +kernel
theorem dX11_spread_307 : decode cX11_spread 307 = .ok (.iload_n 3, 1) := by decide +kernel
theorem dX11_spread_308 : decode cX11_spread 308 = .ok (.imul, 1) := by decide +kernel
theorem dX11_spread_309 : decode cX11_spread 309 = .ok (.iload 4, 2) := by decide +kernel
theorem dX11_spread_311 : decode cX11_spread 311 = .ok (.iadd, 1) := by decide +kernel
theorem dX11_spread_312 : decode cX11_spread 312 = .ok (.baload, 1) := by decide +kernel
theorem dX11_spread_313 : decode cX11_spread 313 = .ok (.ifCond .eq 35, 3) := by decide +kernel
theorem dX11_spread_316 : decode cX11_spread 316 = .ok (.aload_n 0, 1) := by decide +kernel
theorem dX11_spread_317 : decode cX11_spread 317 = .ok (.getfield 41, 3) := by decide +kernel
theorem dX11_spread_320 : decode cX11_spread 320 = .ok (.sipush 1344, 3) := by decide +kernel
theorem dX11_spread_323 : decode cX11_spread 323 = .ok (.iload_n 2, 1) := by decide +kernel
theorem dX11_spread_324 : decode cX11_spread 324 = .ok (.imul, 1) := by decide +kernel
theorem dX11_spread_325 : decode cX11_spread 325 = .ok (.iload 4, 2) := by decide +kernel
theorem dX11_spread_327 : decode cX11_spread 327 = .ok (.iadd, 1) := by decide +kernel
theorem dX11_spread_328 : decode cX11_spread 328 = .ok (.baload, 1) := by decide +kernel
theorem dX11_spread_329 : decode cX11_spread 329 = .ok (.ifCond .ne 19, 3) := by decide +kernel
theorem dX11_spread_332 : decode cX11_spread 332 = .ok (.aload_n 0, 1) := by decide +kernel
theorem dX11_spread_333 : decode cX11_spread 333 = .ok (.getfield 41, 3) := by decide +kernel
theorem dX11_spread_336 : decode cX11_spread 336 = .ok (.sipush 1344, 3) := by decide +kernel
theorem dX11_spread_339 : decode cX11_spread 339 = .ok (.iload_n 2, 1) := by decide +kernel
theorem dX11_spread_340 : decode cX11_spread 340 = .ok (.imul, 1) := by decide +kernel
theorem dX11_spread_341 : decode cX11_spread 341 = .ok (.iload 4, 2) := by decide +kernel
theorem dX11_spread_343 : decode cX11_spread 343 = .ok (.iadd, 1) := by decide +kernel
theorem dX11_spread_344 : decode cX11_spread 344 = .ok (.iconst 1, 1) := by decide +kernel
theorem dX11_spread_345 : decode cX11_spread 345 = .ok (.bastore, 1) := by decide +kernel
theorem dX11_spread_346 : decode cX11_spread 346 = .ok (.iconst 1, 1) := by decide +kernel
theorem dX11_spread_347 : decode cX11_spread 347 = .ok (.istore_n 1, 1) := by decide +kernel
theorem dX11_spread_348 : decode cX11_spread 348 = .ok (.iinc 4 1, 3) := by decide +kernel
theorem dX11_spread_351 : decode cX11_spread 351 = .ok (.goto (-73), 3) := by decide +kernel
theorem dX11_spread_354 : decode cX11_spread 354 = .ok (.iconst 0, 1) := by decide +kernel
theorem dX11_spread_355 : decode cX11_spread 355 = .ok (.istore 4, 2) := by decide +kernel
theorem dX11_spread_357 : decode cX11_spread 357 = .ok (.iload 4, 2) := by decide +kernel
theorem dX11_spread_359 : decode cX11_spread 359 = .ok (.bipush 112, 2) := by decide +kernel
theorem dX11_spread_361 : decode cX11_spread 361 = .ok (.if_icmp .ge 74, 3) := by decide +kernel
theorem dX11_spread_364 : decode cX11_spread 364 = .ok (.iload_n 3, 1) := by decide +kernel
theorem dX11_spread_365 : decode cX11_spread 365 = .ok (.bipush 8, 2) := by decide +kernel
theorem dX11_spread_367 : decode cX11_spread 367 = .ok (.if_icmp .ge 68, 3) := by decide +kernel
theorem dX11_spread_370 : decode cX11_spread 370 = .ok (.aload_n 0, 1) := by decide +kernel
theorem dX11_spread_371 : decode cX11_spread 371 = .ok (.getfield 44, 3) := by decide +kernel
theorem dX11_spread_374 : decode cX11_spread 374 = .ok (.bipush 112, 2) := by decide +kernel
theorem dX11_spread_376 : decode cX11_spread 376 = .ok (.iload_n 2, 1) := by decide +kernel
theorem dX11_spread_377 : decode cX11_spread 377 = .ok (.imul, 1) := by decide +kernel
theorem dX11_spread_378 : decode cX11_spread 378 = .ok (.iload_n 3, 1) := by decide +kernel
theorem dX11_spread_379 : decode cX11_spread 379 = .ok (.iadd, 1) := by decide +kernel
theorem dX11_spread_380 : decode cX11_spread 380 = .ok (.baload, 1) := by decide +kernel
theorem dX11_spread_381 : decode cX11_spread 381 = .ok (.ifCond .eq 54, 3) := by decide +kernel
theorem dX11_spread_384 : decode cX11_spread 384 = .ok (.aload_n 0, 1) := by decide +kernel
theorem dX11_spread_385 : decode cX11_spread 385 = .ok (.getfield 44, 3) := by decide +kernel
theorem dX11_spread_388 : decode cX11_spread 388 = .ok (.bipush 112, 2) := by decide +kernel
theorem dX11_spread_390 : decode cX11_spread 390 = .ok (.iload_n 3, 1) := by decide +kernel
theorem dX11_spread_391 : decode cX11_spread 391 = .ok (.imul, 1) := by decide +kernel
theorem dX11_spread_392 : decode cX11_spread 392 = .ok (.iload 4, 2) := by decide +kernel
theorem dX11_spread_394 : decode cX11_spread 394 = .ok (.iadd, 1) := by decide +kernel
theorem dX11_spread_395 : decode cX11_spread 395 = .ok (.baload, 1) := by decide +kernel
theorem dX11_spread_396 : decode cX11_spread 396 = .ok (.ifCond .eq 33, 3) := by decide +kernel
theorem dX11_spread_399 : decode cX11_spread 399 = .ok (.aload_n 0, 1) := by decide +kernel
theorem dX11_spread_400 : decode cX11_spread 400 = .ok (.getfield 44, 3) := by decide +kernel
theorem dX11_spread_403 : decode cX11_spread 403 = .ok (.bipush 112, 2) := by decide +kernel
theorem dX11_spread_405 : decode cX11_spread 405 = .ok (.iload_n 2, 1) := by decide +kernel
theorem dX11_spread_406 : decode cX11_spread 406 = .ok (.imul, 1) := by decide +kernel
theorem dX11_spread_407 : decode cX11_spread 407 = .ok (.iload 4, 2) := by decide +kernel
theorem dX11_spread_409 : decode cX11_spread 409 = .ok (.iadd, 1) := by decide +kernel
theorem dX11_spread_410 : decode cX11_spread 410 = .ok (.baload, 1) := by decide +kernel
theorem dX11_spread_411 : decode cX11_spread 411 = .ok (.ifCond .ne 18, 3) := by decide +kernel
theorem dX11_spread_414 : decode cX11_spread 414 = .ok (.aload_n 0, 1) := by decide +kernel
theorem dX11_spread_415 : decode cX11_spread 415 = .ok (.getfield 44, 3) := by decide +kernel
theorem dX11_spread_418 : decode cX11_spread 418 = .ok (.bipush 112, 2) := by decide +kernel
theorem dX11_spread_420 : decode cX11_spread 420 = .ok (.iload_n 2, 1) := by decide +kernel
theorem dX11_spread_421 : decode cX11_spread 421 = .ok (.imul, 1) := by decide +kernel
theorem dX11_spread_422 : decode cX11_spread 422 = .ok (.iload 4, 2) := by decide +kernel
theorem dX11_spread_424 : decode cX11_spread 424 = .ok (.iadd, 1) := by decide +kernel
theorem dX11_spread_425 : decode cX11_spread 425 = .ok (.iconst 1, 1) := by decide +kernel
theorem dX11_spread_426 : decode cX11_spread 426 = .ok (.bastore, 1) := by decide +kernel
theorem dX11_spread_427 : decode cX11_spread 427 = .ok (.iconst 1, 1) := by decide +kernel
theorem dX11_spread_428 : decode cX11_spread 428 = .ok (.istore_n 1, 1) := by decide +kernel
theorem dX11_spread_429 : decode cX11_spread 429 = .ok (.iinc 4 1, 3) := by decide +kernel
theorem dX11_spread_432 : decode cX11_spread 432 = .ok (.goto (-75), 3) := by decide +kernel
theorem dX11_spread_435 : decode cX11_spread 435 = .ok (.iinc 3 1, 3) := by decide +kernel
theorem dX11_spread_438 : decode cX11_spread 438 = .ok (.goto (-169), 3) := by decide +kernel
theorem dX11_spread_441 : decode cX11_spread 441 = .ok (.iinc 2 1, 3) := by decide +kernel
theorem dX11_spread_444 : decode cX11_spread 444 = .ok (.goto (-183), 3) := by decide +kernel
theorem dX11_spread_447 : decode cX11_spread 447 = .ok (.iload_n 1, 1) := by decide +kernel
theorem dX11_spread_448 : decode cX11_spread 448 = .ok (.ireturn, 1) := by decide +kernel
theorem dX11_after_0 : decode cX11_after 0 = .ok (.aload_n 0, 1) := by decide +kernel
theorem dX11_after_1 : decode cX11_after 1 = .ok (.iconst 0, 1) := by decide +kernel
theorem dX11_after_2 : decode cX11_after 2 = .ok (.putfield 150, 3) := by decide +kernel
theorem dX11_after_5 : decode cX11_after 5 = .ok (.iload_n 1, 1) := by decide +kernel
theorem dX11_after_6 : decode cX11_after 6 = .ok (.iconst 0, 1) := by decide +kernel
theorem dX11_after_7 : decode cX11_after 7 = .ok (.bipush 7, 2) := by decide +kernel
theorem dX11_after_9 : decode cX11_after 9 = .ok (.invokestatic 157, 3) := by decide +kernel
theorem dX11_after_12 : decode cX11_after 12 = .ok (.ifCond .ne 6, 3) := by decide +kernel
theorem dX11_after_15 : decode cX11_after 15 = .ok (.bipush (-2), 2) := by decide +kernel
theorem dX11_after_17 : decode cX11_after 17 = .ok (.ireturn, 1) := by decide +kernel
theorem dX11_after_18 : decode cX11_after 18 = .ok (.iconst 0, 1) := by decide +kernel
theorem dX11_after_19 : decode cX11_after 19 = .ok (.istore_n 2, 1) := by decide +kernel
theorem dX11_after_20 : decode cX11_after 20 = .ok (.iload_n 2, 1) := by decide +kernel
theorem dX11_after_21 : decode cX11_after 21 = .ok (.ldc 40, 2) := by decide +kernel
theorem dX11_after_23 : decode cX11_after 23 = .ok (.if_icmp .ge 16, 3) := by decide +kernel
theorem dX11_after_26 : decode cX11_after 26 = .ok (.aload_n 0, 1) := by decide +kernel
theorem dX11_after_27 : decode cX11_after 27 = .ok (.getfield 41, 3) := by decide +kernel
theorem dX11_after_30 : decode cX11_after 30 = .ok (.iload_n 2, 1) := by decide +kernel
theorem dX11_after_31 : decode cX11_after 31 = .ok (.iconst 0, 1) := by decide +kernel
theorem dX11_after_32 : decode cX11_after 32 = .ok (.bastore, 1) := by decide +kernel
theorem dX11_after_33 : decode cX11_after 33 = .ok (.iinc 2 1, 3) := by decide +kernel
theorem dX11_after_36 : decode cX11_after 36 = .ok (.goto (-16), 3) := by decide +kernel
theorem dX11_after_39 : decode cX11_after 39 = .ok (.iconst 0, 1) := by decide +kernel
theorem dX11_after_40 : decode cX11_after 40 = .ok (.istore_n 2, 1) := by decide +kernel
theorem dX11_after_41 : decode cX11_after 41 = .ok (.iload_n 2, 1) := by decide +kernel
theorem dX11_after_42 : decode cX11_after 42 = .ok (.sipush 896, 3) := by decide +kernel
theorem dX11_after_45 : decode cX11_after 45 = .ok (.if_icmp .ge 16, 3) := by decide +kernel
theorem dX11_after_48 : decode cX11_after 48 = .ok (.aload_n 0, 1) := by decide +kernel
theorem dX11_after_49 : decode cX11_after 49 = .ok (.getfield 44, 3) := by decide +kernel
theorem dX11_after_52 : decode cX11_after 52 = .ok (.iload_n 2, 1) := by decide +kernel
theorem dX11_after_53 : decode cX11_after 53 = .ok (.iconst 0, 1) := by decide +kernel
theorem dX11_after_54 : decode cX11_after 54 = .ok (.bastore, 1) := by decide +kernel
theorem dX11_after_55 : decode cX11_after 55 = .ok (.iinc 2 1, 3) := by decide +kernel
theorem dX11_after_58 : decode cX11_after 58 = .ok (.goto (-17), 3) := by decide +kernel
theorem dX11_after_61 : decode cX11_after 61 = .ok (.iconst 0, 1) := by decide +kernel
theorem dX11_after_62 : decode cX11_after 62 = .ok (.istore_n 2, 1) := by decide +kernel
theorem dX11_after_63 : decode cX11_after 63 = .ok (.iload_n 2, 1) := by decide +kernel
theorem dX11_after_64 : decode cX11_after 64 = .ok (.bipush 16, 2) := by decide +kernel
theorem dX11_after_66 : decode cX11_after 66 = .ok (.if_icmp .ge 76, 3) := by decide +kernel
theorem dX11_after_69 : decode cX11_after 69 = .ok (.iconst 0, 1) := by decide +kernel
theorem dX11_after_70 : decode cX11_after 70 = .ok (.istore_n 3, 1) := by decide +kernel
theorem dX11_after_71 : decode cX11_after 71 = .ok (.iload_n 3, 1) := by decide +kernel
theorem dX11_after_72 : decode cX11_after 72 = .ok (.bipush 12, 2) := by decide +kernel
theorem dX11_after_74 : decode cX11_after 74 = .ok (.if_icmp .ge 62, 3) := by decide +kernel
theorem dX11_after_77 : decode cX11_after 77 = .ok (.bipush 8, 2) := by decide +kernel
theorem dX11_after_79 : decode cX11_after 79 = .ok (.istore 4, 2) := by decide +kernel
theorem dX11_after_81 : decode cX11_after 81 = .ok (.iload 4, 2) := by decide +kernel
theorem dX11_after_83 : decode cX11_after 83 = .ok (.bipush 16, 2) := by decide +kernel
theorem dX11_after_85 : decode cX11_after 85 = .ok (.if_icmp .ge 45, 3) := by decide +kernel
theorem dX11_after_88 : decode cX11_after 88 = .ok (.aload_n 0, 1) := by decide +kernel
theorem dX11_after_89 : decode cX11_after 89 = .ok (.getfield 41, 3) := by decide +kernel
theorem dX11_after_92 : decode cX11_after 92 = .ok (.sipush 1344, 3) := by decide +kernel
theorem dX11_after_95 : decode cX11_after 95 = .ok (.iload_n 2, 1) := by decide +kernel
theorem dX11_after_96 : decode cX11_after 96 = .ok (.imul, 1) := by decide +kernel
theorem dX11_after_97 : decode cX11_after 97 = .ok (.bipush 112, 2) := by decide +kernel
theorem dX11_after_99 : decode cX11_after 99 = .ok (.iload_n 3, 1) := by decide +kernel
theorem dX11_after_100 : decode cX11_after 100 = .ok (.imul, 1) := by decide +kernel
theorem dX11_after_101 : decode cX11_after 101 = .ok (.iadd, 1) := by decide +kernel
theorem dX11_after_102 : decode cX11_after 102 = .ok (.iload 4, 2) := by decide +kernel
theorem dX11_after_104 : decode cX11_after 104 = .ok (.iadd, 1) := by decide +kernel
theorem dX11_after_105 : decode cX11_after 105 = .ok (.aload_n 0, 1) := by decide +kernel
theorem dX11_after_106 : decode cX11_after 106 = .ok (.getfield 13, 3) := by decide +kernel
theorem dX11_after_109 : decode cX11_after 109 = .ok (.sipush 192, 3) := by decide +kernel
theorem dX11_after_112 : decode cX11_after 112 = .ok (.iload_n 2, 1) := by decide +kernel
theorem dX11_after_113 : decode cX11_after 113 = .ok (.imul, 1) := by decide +kernel
theorem dX11_after_114 : decode cX11_after 114 = .ok (.bipush 16, 2) := by decide +kernel
theorem dX11_after_116 : decode cX11_after 116 = .ok (.iload_n 3, 1) := by decide +kernel
theorem dX11_after_117 : decode cX11_after 117 = .ok (.imul, 1) := by decide +kernel
theorem dX11_after_118 : decode cX11_after 118 = .ok (.iadd, 1) := by decide +kernel
theorem dX11_after_119 : decode cX11_after 119 = .ok (.iload 4, 2) := by decide +kernel
theorem dX11_after_121 : decode cX11_after 121 = .ok (.iadd, 1) := by decide +kernel
theorem dX11_after_122 : decode cX11_after 122 = .ok (.baload, 1) := by decide +kernel
theorem dX11_after_123 : decode cX11_after 123 = .ok (.bastore, 1) := by decide +kernel
theorem dX11_after_124 : decode cX11_after 124 = .ok (.iinc 4 1, 3) := by decide +kernel
theorem dX11_after_127 : decode cX11_after 127 = .ok (.goto (-46), 3) := by decide +kernel
theorem dX11_after_130 : decode cX11_after 130 = .ok (.iinc 3 1, 3) := by decide +kernel
theorem dX11_after_133 : decode cX11_after 133 = .ok (.goto (-62), 3) := by decide +kernel
theorem dX11_after_136 : decode cX11_after 136 = .ok (.iinc 2 1, 3) := by decide +kernel
theorem dX11_after_139 : decode cX11_after 139 = .ok (.goto (-76), 3) := by decide +kernel
theorem dX11_after_142 : decode cX11_after 142 = .ok (.iconst 1, 1) := by decide +kernel
theorem dX11_after_143 : decode cX11_after 143 = .ok (.istore_n 2, 1) := by decide +kernel
theorem dX11_after_144 : decode cX11_after 144 = .ok (.iload_n 2, 1) := by decide +kernel
theorem dX11_after_145 : decode cX11_after 145 = .ok (.ifCond .eq 11, 3) := by decide +kernel
theorem dX11_after_148 : decode cX11_after 148 = .ok (.aload_n 0, 1) := by decide +kernel
theorem dX11_after_149 : decode cX11_after 149 = .ok (.invokevirtual 206, 3) := by decide +kernel
theorem dX11_after_152 : decode cX11_after 152 = .ok (.istore_n 2, 1) := by decide +kernel
theorem dX11_after_153 : decode cX11_after 153 = .ok (.goto (-9), 3) := by decide +kernel
theorem dX11_after_156 : decode cX11_after 156 = .ok (.iconst 0, 1) := by decide +kernel
theorem dX11_after_157 : decode cX11_after 157 = .ok (.istore_n 3, 1) := by decide +kernel
theorem dX11_after_158 : decode cX11_after 158 = .ok (.iload_n 3, 1) := by decide +kernel
theorem dX11_after_159 : decode cX11_after 159 = .ok (.bipush 112, 2) := by decide +kernel
theorem dX11_after_161 : decode cX11_after 161 = .ok (.if_icmp .ge 39, 3) := by decide +kernel
theorem dX11_after_164 : decode cX11_after 164 = .ok (.aload_n 0, 1) := by decide +kernel
theorem dX11_after_165 : decode cX11_after 165 = .ok (.getfield 47, 3) := by decide +kernel
theorem dX11_after_168 : decode cX11_after 168 = .ok (.iload_n 3, 1) := by decide +kernel
theorem dX11_after_169 : decode cX11_after 169 = .ok (.iload_n 3, 1) := by decide +kernel
theorem dX11_after_170 : decode cX11_after 170 = .ok (.iload_n 1, 1) := by decide +kernel
theorem dX11_after_171 : decode cX11_after 171 = .ok (.if_icmp .eq 17, 3) := by decide +kernel
theorem dX11_after_174 : decode cX11_after 174 = .ok (.aload_n 0, 1) := by decide +kernel
theorem dX11_after_175 : decode cX11_after 175 = .ok (.getfield 44, 3) := by decide +kernel
theorem dX11_after_178 : decode cX11_after 178 = .ok (.bipush 112, 2) := by decide +kernel
theorem dX11_after_180 : decode cX11_after 180 = .ok (.iload_n 1, 1) := by decide +kernel
theorem dX11_after_181 : decode cX11_after 181 = .ok (.imul, 1) := by decide +kernel
theorem dX11_after_182 : decode cX11_after 182 = .ok (.iload_n 3, 1) := by decide +kernel
theorem dX11_after_183 : decode cX11_after 183 = .ok (.iadd, 1) := by decide +kernel
theorem dX11_after_184 : decode cX11_after 184 = .ok (.baload, 1) := by decide +kernel
theorem dX11_after_185 : decode cX11_after 185 = .ok (.ifCond .eq 7, 3) := by decide +kernel
theorem dX11_after_188 : decode cX11_after 188 = .ok (.iconst 1, 1) := by decide +kernel
theorem dX11_after_189 : decode cX11_after 189 = .ok (.goto 4, 3) := by decide +kernel
theorem dX11_after_192 : decode cX11_after 192 = .ok (.iconst 0, 1) := by decide +kernel
theorem dX11_after_193 : decode cX11_after 193 = .ok (.bastore, 1) := by decide +kernel
theorem dX11_after_194 : decode cX11_after 194 = .ok (.iinc 3 1, 3) := by decide +kernel
theorem dX11_after_197 : decode cX11_after 197 = .ok (.goto (-39), 3) := by decide +kernel
theorem dX11_after_200 : decode cX11_after 200 = .ok (.aload_n 0, 1) := by decide +kernel
theorem dX11_after_201 : decode cX11_after 201 = .ok (.getfield 170, 3) := by decide +kernel
theorem dX11_after_204 : decode cX11_after 204 = .ok (.iconst 1, 1) := by decide +kernel
theorem dX11_after_205 : decode cX11_after 205 = .ok (.isub, 1) := by decide +kernel
theorem dX11_after_206 : decode cX11_after 206 = .ok (.istore_n 3, 1) := by decide +kernel
theorem dX11_after_207 : decode cX11_after 207 = .ok (.iload_n 3, 1) := by decide +kernel
theorem dX11_after_208 : decode cX11_after 208 = .ok (.ifCond .lt 154, 3) := by decide +kernel
theorem dX11_after_211 : decode cX11_after 211 = .ok (.iconst 0, 1) := by decide +kernel
theorem dX11_after_212 : decode cX11_after 212 = .ok (.istore 4, 2) := by decide +kernel
theorem dX11_after_214 : decode cX11_after 214 = .ok (.iload 4, 2) := by decide +kernel
theorem dX11_after_216 : decode cX11_after 216 = .ok (.bipush 112, 2) := by decide +kernel
theorem dX11_after_218 : decode cX11_after 218 = .ok (.if_icmp .ge 17, 3) := by decide +kernel
theorem dX11_after_221 : decode cX11_after 221 = .ok (.aload_n 0, 1) := by decide +kernel
theorem dX11_after_222 : decode cX11_after 222 = .ok (.getfield 50, 3) := by decide +kernel
theorem dX11_after_225 : decode cX11_after 225 = .ok (.iload 4, 2) := by decide +kernel
theorem dX11_after_227 : decode cX11_after 227 = .ok (.iconst 0, 1) := by decide +kernel
theorem dX11_after_228 : decode cX11_after 228 = .ok (.bastore, 1) := by decide +kernel
theorem dX11_after_229 : decode cX11_after 229 = .ok (.iinc 4 1, 3) := by decide +kernel
theorem dX11_after_232 : decode cX11_after 232 = .ok (.goto (-18), 3) := by decide +kernel
theorem dX11_after_235 : decode cX11_after 235 = .ok (.iconst 0, 1) := by decide +kernel
theorem dX11_after_236 : decode cX11_after 236 = .ok (.istore 4, 2) := by decide +kernel
theorem dX11_after_238 : decode cX11_after 238 = .ok (.iload 4, 2) := by decide +kernel
theorem dX11_after_240 : decode cX11_after 240 = .ok (.bipush 112, 2) := by decide +kernel
theorem dX11_after_242 : decode cX11_after 242 = .ok (.if_icmp .ge 84, 3) := by decide +kernel
theorem dX11_after_245 : decode cX11_after 245 = .ok (.iconst 0, 1) := by decide +kernel
theorem dX11_after_246 : decode cX11_after 246 = .ok (.istore 5, 2) := by decide +kernel
theorem dX11_after_248 : decode cX11_after 248 = .ok (.iload 5, 2) := by decide +kernel
theorem dX11_after_250 : decode cX11_after 250 = .ok (.bipush 112, 2) := by decide +kernel
theorem dX11_after_252 : decode cX11_after 252 = .ok (.if_icmp .ge 68, 3) := by decide +kernel
theorem dX11_after_255 : decode cX11_after 255 = .ok (.aload_n 0, 1) := by decide +kernel
theorem dX11_after_256 : decode cX11_after 256 = .ok (.getfield 47, 3) := by decide +kernel
theorem dX11_after_259 : decode cX11_after 259 = .ok (.iload 4, 2) := by decide +kernel
theorem dX11_after_261 : decode cX11_after 261 = .ok (.baload, 1) := by decide +kernel
theorem dX11_after_262 : decode cX11_after 262 = .ok (.ifCond .eq 58, 3) := by decide +kernel
theorem dX11_after_265 : decode cX11_after 265 = .ok (.aload_n 0, 1) := by decide +kernel
theorem dX11_after_266 : decode cX11_after 266 = .ok (.getfield 50, 3) := by decide +kernel
theorem dX11_after_269 : decode cX11_after 269 = .ok (.iload 5, 2) := by decide +kernel
theorem dX11_after_271 : decode cX11_after 271 = .ok (.aload_n 0, 1) := by decide +kernel
theorem dX11_after_272 : decode cX11_after 272 = .ok (.getfield 50, 3) := by decide +kernel
theorem dX11_after_275 : decode cX11_after 275 = .ok (.iload 5, 2) := by decide +kernel
theorem dX11_after_277 : decode cX11_after 277 = .ok (.baload, 1) := by decide +kernel
theorem dX11_after_278 : decode cX11_after 278 = .ok (.ifCond .ne 30, 3) := by decide +kernel
theorem dX11_after_281 : decode cX11_after 281 = .ok (.aload_n 0, 1) := by decide +kernel
theorem dX11_after_282 : decode cX11_after 282 = .ok (.getfield 41, 3) := by decide +kernel
theorem dX11_after_285 : decode cX11_after 285 = .ok (.sipush 1344, 3) := by decide +kernel
theorem dX11_after_288 : decode cX11_after 288 = .ok (.iload 4, 2) := by decide +kernel
theorem dX11_after_290 : decode cX11_after 290 = .ok (.imul, 1) := by decide +kernel
theorem dX11_after_291 : decode cX11_after 291 = .ok (.bipush 112, 2) := by decide +kernel
theorem dX11_after_293 : decode cX11_after 293 = .ok (.aload_n 0, 1) := by decide +kernel
theorem dX11_after_294 : decode cX11_after 294 = .ok (.getfield 20, 3) := by decide +kernel
theorem dX11_after_297 : decode cX11_after 297 = .ok (.iload_n 3, 1) := by decide +kernel
theorem dX11_after_298 : decode cX11_after 298 = .ok (.iaload, 1) := by decide +kernel
theorem dX11_after_299 : decode cX11_after 299 = .ok (.imul, 1) := by decide +kernel
theorem dX11_after_300 : decode cX11_after 300 = .ok (.iadd, 1) := by decide +kernel
theorem dX11_after_301 : decode cX11_after 301 = .ok (.iload 5, 2) := by decide +kernel
theorem dX11_after_303 : decode cX11_after 303 = .ok (.iadd, 1) := by decide +kernel
theorem dX11_after_304 : decode cX11_after 304 = .ok (.baload, 1) := by decide +kernel
theorem dX11_after_305 : decode cX11_after 305 = .ok (.ifCond .eq 7, 3) := by decide +kernel
theorem dX11_after_308 : decode cX11_after 308 = .ok (.iconst 1, 1) := by decide +kernel
theorem dX11_after_309 : decode cX11_after 309 = .ok (.goto 4, 3) := by decide +kernel
theorem dX11_after_312 : decode cX11_after 312 = .ok (.iconst 0, 1) := by decide +kernel
theorem dX11_after_313 : decode cX11_after 313 = .ok (.bastore, 1) := by decide +kernel
theorem dX11_after_314 : decode cX11_after 314 = .ok (.iinc 5 1, 3) := by decide +kernel
theorem dX11_after_317 : decode cX11_after 317 = .ok (.goto (-69), 3) := by decide +kernel
theorem dX11_after_320 : decode cX11_after 320 = .ok (.iinc 4 1, 3) := by decide +kernel
theorem dX11_after_323 : decode cX11_after 323 = .ok (.goto (-85), 3) := by decide +kernel
theorem dX11_after_326 : decode cX11_after 326 = .ok (.iconst 0, 1) := by decide +kernel
theorem dX11_after_327 : decode cX11_after 327 = .ok (.istore 4, 2) := by decide +kernel
theorem dX11_after_329 : decode cX11_after 329 = .ok (.iload 4, 2) := by decide +kernel
theorem dX11_after_331 : decode cX11_after 331 = .ok (.bipush 112, 2) := by decide +kernel
theorem dX11_after_333 : decode cX11_after 333 = .ok (.if_icmp .ge 23, 3) := by decide +kernel
theorem dX11_after_336 : decode cX11_after 336 = .ok (.aload_n 0, 1) := by decide +kernel
theorem dX11_after_337 : decode cX11_after 337 = .ok (.getfield 47, 3) := by decide +kernel
theorem dX11_after_340 : decode cX11_after 340 = .ok (.iload 4, 2) := by decide +kernel
theorem dX11_after_342 : decode cX11_after 342 = .ok (.aload_n 0, 1) := by decide +kernel
theorem dX11_after_343 : decode cX11_after 343 = .ok (.getfield 50, 3) := by decide +kernel
theorem dX11_after_346 : decode cX11_after 346 = .ok (.iload 4, 2) := by decide +kernel
theorem dX11_after_348 : decode cX11_after 348 = .ok (.baload, 1) := by decide +kernel
theorem dX11_after_349 : decode cX11_after 349 = .ok (.bastore, 1) := by decide +kernel
theorem dX11_after_350 : decode cX11_after 350 = .ok (.iinc 4 1, 3) := by decide +kernel
theorem dX11_after_353 : decode cX11_after 353 = .ok (.goto (-24), 3) := by decide +kernel
theorem dX11_after_356 : decode cX11_after 356 = .ok (.iinc 3 (-1), 3) := by decide +kernel
theorem dX11_after_359 : decode cX11_after 359 = .ok (.goto (-152), 3) := by decide +kernel
theorem dX11_after_362 : decode cX11_after 362 = .ok (.iconst 0, 1) := by decide +kernel
theorem dX11_after_363 : decode cX11_after 363 = .ok (.istore_n 3, 1) := by decide +kernel
theorem dX11_after_364 : decode cX11_after 364 = .ok (.iconst 0, 1) := by decide +kernel
theorem dX11_after_365 : decode cX11_after 365 = .ok (.istore 4, 2) := by decide +kernel
theorem dX11_after_367 : decode cX11_after 367 = .ok (.iload 4, 2) := by decide +kernel
theorem dX11_after_369 : decode cX11_after 369 = .ok (.bipush 16, 2) := by decide +kernel
theorem dX11_after_371 : decode cX11_after 371 = .ok (.if_icmp .ge 39, 3) := by decide +kernel
theorem dX11_after_374 : decode cX11_after 374 = .ok (.iload_n 3, 1) := by decide +kernel
theorem dX11_after_375 : decode cX11_after 375 = .ok (.ifCond .ne 23, 3) := by decide +kernel
theorem dX11_after_378 : decode cX11_after 378 = .ok (.aload_n 0, 1) := by decide +kernel
theorem dX11_after_379 : decode cX11_after 379 = .ok (.getfield 47, 3) := by decide +kernel
theorem dX11_after_382 : decode cX11_after 382 = .ok (.iload 4, 2) := by decide +kernel
theorem dX11_after_384 : decode cX11_after 384 = .ok (.baload, 1) := by decide +kernel
theorem dX11_after_385 : decode cX11_after 385 = .ok (.ifCond .eq 17, 3) := by decide +kernel
theorem dX11_after_388 : decode cX11_after 388 = .ok (.aload_n 0, 1) := by decide +kernel
theorem dX11_after_389 : decode cX11_after 389 = .ok (.getfield 17, 3) := by decide +kernel
theorem dX11_after_392 : decode cX11_after 392 = .ok (.iload 4, 2) := by decide +kernel
theorem dX11_after_394 : decode cX11_after 394 = .ok (.baload, 1) := by decide +kernel
theorem dX11_after_395 : decode cX11_after 395 = .ok (.ifCond .eq 7, 3) := by decide +kernel
theorem dX11_after_398 : decode cX11_after 398 = .ok (.iconst 1, 1) := by decide +kernel
theorem dX11_after_399 : decode cX11_after 399 = .ok (.goto 4, 3) := by decide +kernel
theorem dX11_after_402 : decode cX11_after 402 = .ok (.iconst 0, 1) := by decide +kernel
theorem dX11_after_403 : decode cX11_after 403 = .ok (.istore_n 3, 1) := by decide +kernel
theorem dX11_after_404 : decode cX11_after 404 = .ok (.iinc 4 1, 3) := by decide +kernel
theorem dX11_after_407 : decode cX11_after 407 = .ok (.goto (-40), 3) := by decide +kernel
theorem dX11_after_410 : decode cX11_after 410 = .ok (.iload_n 3, 1) := by decide +kernel
theorem dX11_after_411 : decode cX11_after 411 = .ok (.ifCond .eq 7, 3) := by decide +kernel
theorem dX11_after_414 : decode cX11_after 414 = .ok (.iconst 1, 1) := by decide +kernel
theorem dX11_after_415 : decode cX11_after 415 = .ok (.goto 4, 3) := by decide +kernel
theorem dX11_after_418 : decode cX11_after 418 = .ok (.iconst 0, 1) := by decide +kernel
theorem dX11_after_419 : decode cX11_after 419 = .ok (.ireturn, 1) := by decide +kernel
theorem dX11_byteAt_0 : decode cX11_byteAt 0 = .ok (.iload_n 1, 1) := by decide +kernel
theorem dX11_byteAt_1 : decode cX11_byteAt 1 = .ok (.aload_n 0, 1) := by decide +kernel
theorem dX11_byteAt_2 : decode cX11_byteAt 2 = .ok (.getfield 210, 3) := by decide +kernel
theorem dX11_byteAt_5 : decode cX11_byteAt 5 = .ok (.if_icmp .ge 12, 3) := by decide +kernel
theorem dX11_byteAt_8 : decode cX11_byteAt 8 = .ok (.aload_n 0, 1) := by decide +kernel
theorem dX11_byteAt_9 : decode cX11_byteAt 9 = .ok (.getfield 53, 3) := by decide +kernel
theorem dX11_byteAt_12 : decode cX11_byteAt 12 = .ok (.iload_n 1, 1) := by decide +kernel
theorem dX11_byteAt_13 : decode cX11_byteAt 13 = .ok (.iaload, 1) := by decide +kernel
theorem dX11_byteAt_14 : decode cX11_byteAt 14 = .ok (.goto 4, 3) := by decide +kernel
theorem dX11_byteAt_17 : decode cX11_byteAt 17 = .ok (.iconst (-1), 1) := by decide +kernel
theorem dX11_byteAt_18 : decode cX11_byteAt 18 = .ok (.ireturn, 1) := by decide +kernel
theorem dX11_isNameByte_0 : decode cX11_isNameByte 0 = .ok (.iload_n 0, 1) := by decide +kernel
theorem dX11_isNameByte_1 : decode cX11_isNameByte 1 = .ok (.bipush 97, 2) := by decide +kernel
theorem dX11_isNameByte_3 : decode cX11_isNameByte 3 = .ok (.bipush 122, 2) := by decide +kernel
theorem dX11_isNameByte_5 : decode cX11_isNameByte 5 = .ok (.invokestatic 157, 3) := by decide +kernel
theorem dX11_isNameByte_8 : decode cX11_isNameByte 8 = .ok (.ifCond .ne 14, 3) := by decide +kernel
theorem dX11_isNameByte_11 : decode cX11_isNameByte 11 = .ok (.iload_n 0, 1) := by decide +kernel
theorem dX11_isNameByte_12 : decode cX11_isNameByte 12 = .ok (.bipush 48, 2) := by decide +kernel
theorem dX11_isNameByte_14 : decode cX11_isNameByte 14 = .ok (.bipush 57, 2) := by decide +kernel
theorem dX11_isNameByte_16 : decode cX11_isNameByte 16 = .ok (.invokestatic 157, 3) := by decide +kernel
theorem dX11_isNameByte_19 : decode cX11_isNameByte 19 = .ok (.ifCond .eq 7, 3) := by decide +kernel
theorem dX11_isNameByte_22 : decode cX11_isNameByte 22 = .ok (.iconst 1, 1) := by decide +kernel
theorem dX11_isNameByte_23 : decode cX11_isNameByte 23 = .ok (.goto 4, 3) := by decide +kernel
theorem dX11_isNameByte_26 : decode cX11_isNameByte 26 = .ok (.iconst 0, 1) := by decide +kernel
theorem dX11_isNameByte_27 : decode cX11_isNameByte 27 = .ok (.ireturn, 1) := by decide +kernel
theorem dX11_isWord_0 : decode cX11_isWord 0 = .ok (.lload_n 0, 1) := by decide +kernel
theorem dX11_isWord_1 : decode cX11_isWord 1 = .ok (.ldc2_w 213, 3) := by decide +kernel
theorem dX11_isWord_4 : decode cX11_isWord 4 = .ok (.lcmp, 1) := by decide +kernel
theorem dX11_isWord_5 : decode cX11_isWord 5 = .ok (.ifCond .eq 75, 3) := by decide +kernel
theorem dX11_isWord_8 : decode cX11_isWord 8 = .ok (.lload_n 0, 1) := by decide +kernel
theorem dX11_isWord_9 : decode cX11_isWord 9 = .ok (.ldc2_w 215, 3) := by decide +kernel
theorem dX11_isWord_12 : decode cX11_isWord 12 = .ok (.lcmp, 1) := by decide +kernel
theorem dX11_isWord_13 : decode cX11_isWord 13 = .ok (.ifCond .eq 67, 3) := by decide +kernel
theorem dX11_isWord_16 : decode cX11_isWord 16 = .ok (.lload_n 0, 1) := by decide +kernel
theorem dX11_isWord_17 : decode cX11_isWord 17 = .ok (.ldc2_w 217, 3) := by decide +kernel
theorem dX11_isWord_20 : decode cX11_isWord 20 = .ok (.lcmp, 1) := by decide +kernel
theorem dX11_isWord_21 : decode cX11_isWord 21 = .ok (.ifCond .eq 59, 3) := by decide +kernel
theorem dX11_isWord_24 : decode cX11_isWord 24 = .ok (.lload_n 0, 1) := by decide +kernel
theorem dX11_isWord_25 : decode cX11_isWord 25 = .ok (.ldc2_w 219, 3) := by decide +kernel
theorem dX11_isWord_28 : decode cX11_isWord 28 = .ok (.lcmp, 1) := by decide +kernel
theorem dX11_isWord_29 : decode cX11_isWord 29 = .ok (.ifCond .eq 51, 3) := by decide +kernel
theorem dX11_isWord_32 : decode cX11_isWord 32 = .ok (.lload_n 0, 1) := by decide +kernel
theorem dX11_isWord_33 : decode cX11_isWord 33 = .ok (.ldc2_w 221, 3) := by decide +kernel
theorem dX11_isWord_36 : decode cX11_isWord 36 = .ok (.lcmp, 1) := by decide +kernel
theorem dX11_isWord_37 : decode cX11_isWord 37 = .ok (.ifCond .eq 43, 3) := by decide +kernel
theorem dX11_isWord_40 : decode cX11_isWord 40 = .ok (.lload_n 0, 1) := by decide +kernel
theorem dX11_isWord_41 : decode cX11_isWord 41 = .ok (.ldc2_w 223, 3) := by decide +kernel
theorem dX11_isWord_44 : decode cX11_isWord 44 = .ok (.lcmp, 1) := by decide +kernel
theorem dX11_isWord_45 : decode cX11_isWord 45 = .ok (.ifCond .eq 35, 3) := by decide +kernel
theorem dX11_isWord_48 : decode cX11_isWord 48 = .ok (.lload_n 0, 1) := by decide +kernel
theorem dX11_isWord_49 : decode cX11_isWord 49 = .ok (.ldc2_w 225, 3) := by decide +kernel
theorem dX11_isWord_52 : decode cX11_isWord 52 = .ok (.lcmp, 1) := by decide +kernel
theorem dX11_isWord_53 : decode cX11_isWord 53 = .ok (.ifCond .eq 27, 3) := by decide +kernel
theorem dX11_isWord_56 : decode cX11_isWord 56 = .ok (.lload_n 0, 1) := by decide +kernel
theorem dX11_isWord_57 : decode cX11_isWord 57 = .ok (.ldc2_w 227, 3) := by decide +kernel
theorem dX11_isWord_60 : decode cX11_isWord 60 = .ok (.lcmp, 1) := by decide +kernel
theorem dX11_isWord_61 : decode cX11_isWord 61 = .ok (.ifCond .eq 19, 3) := by decide +kernel
theorem dX11_isWord_64 : decode cX11_isWord 64 = .ok (.lload_n 0, 1) := by decide +kernel
theorem dX11_isWord_65 : decode cX11_isWord 65 = .ok (.ldc2_w 229, 3) := by decide +kernel
theorem dX11_isWord_68 : decode cX11_isWord 68 = .ok (.lcmp, 1) := by decide +kernel
theorem dX11_isWord_69 : decode cX11_isWord 69 = .ok (.ifCond .eq 11, 3) := by decide +kernel
theorem dX11_isWord_72 : decode cX11_isWord 72 = .ok (.lload_n 0, 1) := by decide +kernel
theorem dX11_isWord_73 : decode cX11_isWord 73 = .ok (.ldc2_w 231, 3) := by decide +kernel
theorem dX11_isWord_76 : decode cX11_isWord 76 = .ok (.lcmp, 1) := by decide +kernel
theorem dX11_isWord_77 : decode cX11_isWord 77 = .ok (.ifCond .ne 7, 3) := by decide +kernel
theorem dX11_isWord_80 : decode cX11_isWord 80 = .ok (.iconst 1, 1) := by decide +kernel
theorem dX11_isWord_81 : decode cX11_isWord 81 = .ok (.goto 4, 3) := by decide +kernel
theorem dX11_isWord_84 : decode cX11_isWord 84 = .ok (.iconst 0, 1) := by decide +kernel
theorem dX11_isWord_85 : decode cX11_isWord 85 = .ok (.ireturn, 1) := by decide +kernel
theorem dX11_isSign_0 : decode cX11_isSign 0 = .ok (.iload_n 0, 1) := by decide +kernel
theorem dX11_isSign_1 : decode cX11_isSign 1 = .ok (.bipush 48, 2) := by decide +kernel
theorem dX11_isSign_3 : decode cX11_isSign 3 = .ok (.if_icmp .eq 75, 3) := by decide +kernel
theorem dX11_isSign_6 : decode cX11_isSign 6 = .ok (.iload_n 0, 1) := by decide +kernel
theorem dX11_isSign_7 : decode cX11_isSign 7 = .ok (.bipush 49, 2) := by decide +kernel
theorem dX11_isSign_9 : decode cX11_isSign 9 = .ok (.if_icmp .eq 69, 3) := by decide +kernel
theorem dX11_isSign_12 : decode cX11_isSign 12 = .ok (.iload_n 0, 1) := by decide +kernel
theorem dX11_isSign_13 : decode cX11_isSign 13 = .ok (.bipush 42, 2) := by decide +kernel
theorem dX11_isSign_15 : decode cX11_isSign 15 = .ok (.if_icmp .eq 63, 3) := by decide +kernel
theorem dX11_isSign_18 : decode cX11_isSign 18 = .ok (.iload_n 0, 1) := by decide +kernel
theorem dX11_isSign_19 : decode cX11_isSign 19 = .ok (.bipush 61, 2) := by decide +kernel
theorem dX11_isSign_21 : decode cX11_isSign 21 = .ok (.if_icmp .eq 57, 3) := by decide +kernel
theorem dX11_isSign_24 : decode cX11_isSign 24 = .ok (.iload_n 0, 1) := by decide +kernel
theorem dX11_isSign_25 : decode cX11_isSign 25 = .ok (.bipush 59, 2) := by decide +kernel
theorem dX11_isSign_27 : decode cX11_isSign 27 = .ok (.if_icmp .eq 51, 3) := by decide +kernel
theorem dX11_isSign_30 : decode cX11_isSign 30 = .ok (.iload_n 0, 1) := by decide +kernel
theorem dX11_isSign_31 : decode cX11_isSign 31 = .ok (.bipush 44, 2) := by decide +kernel
theorem dX11_isSign_33 : decode cX11_isSign 33 = .ok (.if_icmp .eq 45, 3) := by decide +kernel
theorem dX11_isSign_36 : decode cX11_isSign 36 = .ok (.iload_n 0, 1) := by decide +kernel
theorem dX11_isSign_37 : decode cX11_isSign 37 = .ok (.bipush 123, 2) := by decide +kernel
theorem dX11_isSign_39 : decode cX11_isSign 39 = .ok (.if_icmp .eq 39, 3) := by decide +kernel
theorem dX11_isSign_42 : decode cX11_isSign 42 = .ok (.iload_n 0, 1) := by decide +kernel
theorem dX11_isSign_43 : decode cX11_isSign 43 = .ok (.bipush 125, 2) := by decide +kernel
theorem dX11_isSign_45 : decode cX11_isSign 45 = .ok (.if_icmp .eq 33, 3) := by decide +kernel
theorem dX11_isSign_48 : decode cX11_isSign 48 = .ok (.iload_n 0, 1) := by decide +kernel
theorem dX11_isSign_49 : decode cX11_isSign 49 = .ok (.bipush 40, 2) := by decide +kernel
theorem dX11_isSign_51 : decode cX11_isSign 51 = .ok (.if_icmp .eq 27, 3) := by decide +kernel
theorem dX11_isSign_54 : decode cX11_isSign 54 = .ok (.iload_n 0, 1) := by decide +kernel
theorem dX11_isSign_55 : decode cX11_isSign 55 = .ok (.bipush 41, 2) := by decide +kernel
theorem dX11_isSign_57 : decode cX11_isSign 57 = .ok (.if_icmp .eq 21, 3) := by decide +kernel
theorem dX11_isSign_60 : decode cX11_isSign 60 = .ok (.iload_n 0, 1) := by decide +kernel
theorem dX11_isSign_61 : decode cX11_isSign 61 = .ok (.bipush 33, 2) := by decide +kernel
theorem dX11_isSign_63 : decode cX11_isSign 63 = .ok (.if_icmp .eq 15, 3) := by decide +kernel
theorem dX11_isSign_66 : decode cX11_isSign 66 = .ok (.iload_n 0, 1) := by decide +kernel
theorem dX11_isSign_67 : decode cX11_isSign 67 = .ok (.bipush 38, 2) := by decide +kernel
theorem dX11_isSign_69 : decode cX11_isSign 69 = .ok (.if_icmp .eq 9, 3) := by decide +kernel
theorem dX11_isSign_72 : decode cX11_isSign 72 = .ok (.iload_n 0, 1) := by decide +kernel
theorem dX11_isSign_73 : decode cX11_isSign 73 = .ok (.bipush 124, 2) := by decide +kernel
theorem dX11_isSign_75 : decode cX11_isSign 75 = .ok (.if_icmp .ne 7, 3) := by decide +kernel
theorem dX11_isSign_78 : decode cX11_isSign 78 = .ok (.iconst 1, 1) := by decide +kernel
theorem dX11_isSign_79 : decode cX11_isSign 79 = .ok (.goto 4, 3) := by decide +kernel
theorem dX11_isSign_82 : decode cX11_isSign 82 = .ok (.iconst 0, 1) := by decide +kernel
theorem dX11_isSign_83 : decode cX11_isSign 83 = .ok (.ireturn, 1) := by decide +kernel
theorem dX11_next_0 : decode cX11_next 0 = .ok (.aload_n 0, 1) := by decide +kernel
theorem dX11_next_1 : decode cX11_next 1 = .ok (.aload_n 0, 1) := by decide +kernel
theorem dX11_next_2 : decode cX11_next 2 = .ok (.getfield 233, 3) := by decide +kernel
theorem dX11_next_5 : decode cX11_next 5 = .ok (.putfield 236, 3) := by decide +kernel
theorem dX11_next_8 : decode cX11_next 8 = .ok (.aload_n 0, 1) := by decide +kernel
theorem dX11_next_9 : decode cX11_next 9 = .ok (.aload_n 0, 1) := by decide +kernel
theorem dX11_next_10 : decode cX11_next 10 = .ok (.getfield 236, 3) := by decide +kernel
theorem dX11_next_13 : decode cX11_next 13 = .ok (.invokevirtual 239, 3) := by decide +kernel
theorem dX11_next_16 : decode cX11_next 16 = .ok (.bipush 32, 2) := by decide +kernel
theorem dX11_next_18 : decode cX11_next 18 = .ok (.if_icmp .eq 16, 3) := by decide +kernel
theorem dX11_next_21 : decode cX11_next 21 = .ok (.aload_n 0, 1) := by decide +kernel
theorem dX11_next_22 : decode cX11_next 22 = .ok (.aload_n 0, 1) := by decide +kernel
theorem dX11_next_23 : decode cX11_next 23 = .ok (.getfield 236, 3) := by decide +kernel
theorem dX11_next_26 : decode cX11_next 26 = .ok (.invokevirtual 239, 3) := by decide +kernel
theorem dX11_next_29 : decode cX11_next 29 = .ok (.bipush 10, 2) := by decide +kernel
theorem dX11_next_31 : decode cX11_next 31 = .ok (.if_icmp .ne 16, 3) := by decide +kernel
theorem dX11_next_34 : decode cX11_next 34 = .ok (.aload_n 0, 1) := by decide +kernel
theorem dX11_next_35 : decode cX11_next 35 = .ok (.dup, 1) := by decide +kernel
theorem dX11_next_36 : decode cX11_next 36 = .ok (.getfield 236, 3) := by decide +kernel
theorem dX11_next_39 : decode cX11_next 39 = .ok (.iconst 1, 1) := by decide +kernel
theorem dX11_next_40 : decode cX11_next 40 = .ok (.iadd, 1) := by decide +kernel
theorem dX11_next_41 : decode cX11_next 41 = .ok (.putfield 236, 3) := by decide +kernel
theorem dX11_next_44 : decode cX11_next 44 = .ok (.goto (-36), 3) := by decide +kernel
theorem dX11_next_47 : decode cX11_next 47 = .ok (.aload_n 0, 1) := by decide +kernel
theorem dX11_next_48 : decode cX11_next 48 = .ok (.aload_n 0, 1) := by decide +kernel
theorem dX11_next_49 : decode cX11_next 49 = .ok (.getfield 236, 3) := by decide +kernel
theorem dX11_next_52 : decode cX11_next 52 = .ok (.putfield 233, 3) := by decide +kernel
theorem dX11_next_55 : decode cX11_next 55 = .ok (.aload_n 0, 1) := by decide +kernel
theorem dX11_next_56 : decode cX11_next 56 = .ok (.aload_n 0, 1) := by decide +kernel
theorem dX11_next_57 : decode cX11_next 57 = .ok (.getfield 236, 3) := by decide +kernel
theorem dX11_next_60 : decode cX11_next 60 = .ok (.invokevirtual 239, 3) := by decide +kernel
theorem dX11_next_63 : decode cX11_next 63 = .ok (.istore_n 1, 1) := by decide +kernel
theorem dX11_next_64 : decode cX11_next 64 = .ok (.iload_n 1, 1) := by decide +kernel
theorem dX11_next_65 : decode cX11_next 65 = .ok (.ifCond .ge 11, 3) := by decide +kernel
theorem dX11_next_68 : decode cX11_next 68 = .ok (.aload_n 0, 1) := by decide +kernel
theorem dX11_next_69 : decode cX11_next 69 = .ok (.iconst 0, 1) := by decide +kernel
theorem dX11_next_70 : decode cX11_next 70 = .ok (.putfield 243, 3) := by decide +kernel
theorem dX11_next_73 : decode cX11_next 73 = .ok (.goto 154, 3) := by decide +kernel
theorem dX11_next_76 : decode cX11_next 76 = .ok (.iload_n 1, 1) := by decide +kernel
theorem dX11_next_77 : decode cX11_next 77 = .ok (.bipush 97, 2) := by decide +kernel
theorem dX11_next_79 : decode cX11_next 79 = .ok (.bipush 122, 2) := by decide +kernel
theorem dX11_next_81 : decode cX11_next 81 = .ok (.invokestatic 157, 3) := by decide +kernel
theorem dX11_next_84 : decode cX11_next 84 = .ok (.ifCond .eq 117, 3) := by decide +kernel
theorem dX11_next_87 : decode cX11_next 87 = .ok (.aload_n 0, 1) := by decide +kernel
theorem dX11_next_88 : decode cX11_next 88 = .ok (.lconst 0, 1) := by decide +kernel
theorem dX11_next_89 : decode cX11_next 89 = .ok (.putfield 246, 3) := by decide +kernel
theorem dX11_next_92 : decode cX11_next 92 = .ok (.aload_n 0, 1) := by decide +kernel
theorem dX11_next_93 : decode cX11_next 93 = .ok (.aload_n 0, 1) := by decide +kernel
theorem dX11_next_94 : decode cX11_next 94 = .ok (.getfield 233, 3) := by decide +kernel
theorem dX11_next_97 : decode cX11_next 97 = .ok (.invokevirtual 239, 3) := by decide +kernel
theorem dX11_next_100 : decode cX11_next 100 = .ok (.invokestatic 250, 3) := by decide +kernel
theorem dX11_next_103 : decode cX11_next 103 = .ok (.ifCond .eq 58, 3) := by decide +kernel
theorem dX11_next_106 : decode cX11_next 106 = .ok (.aload_n 0, 1) := by decide +kernel
theorem dX11_next_107 : decode cX11_next 107 = .ok (.aload_n 0, 1) := by decide +kernel
theorem dX11_next_108 : decode cX11_next 108 = .ok (.getfield 233, 3) := by decide +kernel
theorem dX11_next_111 : decode cX11_next 111 = .ok (.aload_n 0, 1) := by decide +kernel
theorem dX11_next_112 : decode cX11_next 112 = .ok (.getfield 236, 3) := by decide +kernel
theorem dX11_next_115 : decode cX11_next 115 = .ok (.isub, 1) := by decide +kernel
theorem dX11_next_116 : decode cX11_next 116 = .ok (.bipush 8, 2) := by decide +kernel
theorem dX11_next_118 : decode cX11_next 118 = .ok (.if_icmp .ge 23, 3) := by decide +kernel
theorem dX11_next_121 : decode cX11_next 121 = .ok (.aload_n 0, 1) := by decide +kernel
theorem dX11_next_122 : decode cX11_next 122 = .ok (.getfield 246, 3) := by decide +kernel
theorem dX11_next_125 : decode cX11_next 125 = .ok (.bipush 8, 2) := by decide +kernel
theorem dX11_next_127 : decode cX11_next 127 = .ok (.lshl, 1) := by decide +kernel
theorem dX11_next_128 : decode cX11_next 128 = .ok (.aload_n 0, 1) := by decide +kernel
theorem dX11_next_129 : decode cX11_next 129 = .ok (.aload_n 0, 1) := by decide +kernel
theorem dX11_next_130 : decode cX11_next 130 = .ok (.getfield 233, 3) := by decide +kernel
theorem dX11_next_133 : decode cX11_next 133 = .ok (.invokevirtual 239, 3) := by decide +kernel
theorem dX11_next_136 : decode cX11_next 136 = .ok (.i2l, 1) := by decide +kernel
theorem dX11_next_137 : decode cX11_next 137 = .ok (.lor, 1) := by decide +kernel
theorem dX11_next_138 : decode cX11_next 138 = .ok (.goto 7, 3) := by decide +kernel
theorem dX11_next_141 : decode cX11_next 141 = .ok (.aload_n 0, 1) := by decide +kernel
theorem dX11_next_142 : decode cX11_next 142 = .ok (.getfield 246, 3) := by decide +kernel
theorem dX11_next_145 : decode cX11_next 145 = .ok (.putfield 246, 3) := by decide +kernel
theorem dX11_next_148 : decode cX11_next 148 = .ok (.aload_n 0, 1) := by decide +kernel
theorem dX11_next_149 : decode cX11_next 149 = .ok (.dup, 1) := by decide +kernel
theorem dX11_next_150 : decode cX11_next 150 = .ok (.getfield 233, 3) := by decide +kernel
theorem dX11_next_153 : decode cX11_next 153 = .ok (.iconst 1, 1) := by decide +kernel
theorem dX11_next_154 : decode cX11_next 154 = .ok (.iadd, 1) := by decide +kernel
theorem dX11_next_155 : decode cX11_next 155 = .ok (.putfield 233, 3) := by decide +kernel
theorem dX11_next_158 : decode cX11_next 158 = .ok (.goto (-66), 3) := by decide +kernel
theorem dX11_next_161 : decode cX11_next 161 = .ok (.aload_n 0, 1) := by decide +kernel
theorem dX11_next_162 : decode cX11_next 162 = .ok (.aload_n 0, 1) := by decide +kernel
theorem dX11_next_163 : decode cX11_next 163 = .ok (.getfield 233, 3) := by decide +kernel
theorem dX11_next_166 : decode cX11_next 166 = .ok (.aload_n 0, 1) := by decide +kernel
theorem dX11_next_167 : decode cX11_next 167 = .ok (.getfield 236, 3) := by decide +kernel
theorem dX11_next_170 : decode cX11_next 170 = .ok (.isub, 1) := by decide +kernel
theorem dX11_next_171 : decode cX11_next 171 = .ok (.bipush 8, 2) := by decide +kernel
theorem dX11_next_173 : decode cX11_next 173 = .ok (.if_icmp .le 7, 3) := by decide +kernel
theorem dX11_next_176 : decode cX11_next 176 = .ok (.iconst 4, 1) := by decide +kernel
theorem dX11_next_177 : decode cX11_next 177 = .ok (.goto 18, 3) := by decide +kernel
theorem dX11_next_180 : decode cX11_next 180 = .ok (.aload_n 0, 1) := by decide +kernel
theorem dX11_next_181 : decode cX11_next 181 = .ok (.getfield 246, 3) := by decide +kernel
theorem dX11_next_184 : decode cX11_next 184 = .ok (.invokestatic 253, 3) := by decide +kernel
theorem dX11_next_187 : decode cX11_next 187 = .ok (.ifCond .eq 7, 3) := by decide +kernel
theorem dX11_next_190 : decode cX11_next 190 = .ok (.iconst 2, 1) := by decide +kernel
theorem dX11_next_191 : decode cX11_next 191 = .ok (.goto 4, 3) := by decide +kernel
theorem dX11_next_194 : decode cX11_next 194 = .ok (.iconst 1, 1) := by decide +kernel
theorem dX11_next_195 : decode cX11_next 195 = .ok (.putfield 243, 3) := by decide +kernel
theorem dX11_next_198 : decode cX11_next 198 = .ok (.goto 29, 3) := by decide +kernel
theorem dX11_next_201 : decode cX11_next 201 = .ok (.aload_n 0, 1) := by decide +kernel
theorem dX11_next_202 : decode cX11_next 202 = .ok (.iload_n 1, 1) := by decide +kernel
theorem dX11_next_203 : decode cX11_next 203 = .ok (.invokestatic 257, 3) := by decide +kernel
theorem dX11_next_206 : decode cX11_next 206 = .ok (.ifCond .eq 7, 3) := by decide +kernel
theorem dX11_next_209 : decode cX11_next 209 = .ok (.iconst 3, 1) := by decide +kernel
theorem dX11_next_210 : decode cX11_next 210 = .ok (.goto 4, 3) := by decide +kernel
theorem dX11_next_213 : decode cX11_next 213 = .ok (.iconst 4, 1) := by decide +kernel
theorem dX11_next_214 : decode cX11_next 214 = .ok (.putfield 243, 3) := by decide +kernel
theorem dX11_next_217 : decode cX11_next 217 = .ok (.aload_n 0, 1) := by decide +kernel
theorem dX11_next_218 : decode cX11_next 218 = .ok (.dup, 1) := by decide +kernel
theorem dX11_next_219 : decode cX11_next 219 = .ok (.getfield 233, 3) := by decide +kernel
theorem dX11_next_222 : decode cX11_next 222 = .ok (.iconst 1, 1) := by decide +kernel
theorem dX11_next_223 : decode cX11_next 223 = .ok (.iadd, 1) := by decide +kernel
theorem dX11_next_224 : decode cX11_next 224 = .ok (.putfield 233, 3) := by decide +kernel
theorem dX11_next_227 : decode cX11_next 227 = .ok (.return_, 1) := by decide +kernel
theorem dX11_fail_0 : decode cX11_fail 0 = .ok (.aload_n 0, 1) := by decide +kernel
theorem dX11_fail_1 : decode cX11_fail 1 = .ok (.getfield 260, 3) := by decide +kernel
theorem dX11_fail_4 : decode cX11_fail 4 = .ok (.ifCond .ne 13, 3) := by decide +kernel
theorem dX11_fail_7 : decode cX11_fail 7 = .ok (.aload_n 0, 1) := by decide +kernel
theorem dX11_fail_8 : decode cX11_fail 8 = .ok (.iload_n 1, 1) := by decide +kernel
theorem dX11_fail_9 : decode cX11_fail 9 = .ok (.putfield 260, 3) := by decide +kernel
theorem dX11_fail_12 : decode cX11_fail 12 = .ok (.aload_n 0, 1) := by decide +kernel
theorem dX11_fail_13 : decode cX11_fail 13 = .ok (.iload_n 2, 1) := by decide +kernel
theorem dX11_fail_14 : decode cX11_fail 14 = .ok (.putfield 56, 3) := by decide +kernel
theorem dX11_fail_17 : decode cX11_fail 17 = .ok (.iconst 0, 1) := by decide +kernel
theorem dX11_fail_18 : decode cX11_fail 18 = .ok (.ireturn, 1) := by decide +kernel
theorem dX11_may_0 : decode cX11_may 0 = .ok (.aload_n 0, 1) := by decide +kernel
theorem dX11_may_1 : decode cX11_may 1 = .ok (.getfield 260, 3) := by decide +kernel
theorem dX11_may_4 : decode cX11_may 4 = .ok (.ifCond .ne 46, 3) := by decide +kernel
theorem dX11_may_7 : decode cX11_may 7 = .ok (.aload_n 0, 1) := by decide +kernel
theorem dX11_may_8 : decode cX11_may 8 = .ok (.getfield 243, 3) := by decide +kernel
theorem dX11_may_11 : decode cX11_may 11 = .ok (.iconst 4, 1) := by decide +kernel
theorem dX11_may_12 : decode cX11_may 12 = .ok (.if_icmp .ne 18, 3) := by decide +kernel
theorem dX11_may_15 : decode cX11_may 15 = .ok (.aload_n 0, 1) := by decide +kernel
theorem dX11_may_16 : decode cX11_may 16 = .ok (.iconst 1, 1) := by decide +kernel
theorem dX11_may_17 : decode cX11_may 17 = .ok (.aload_n 0, 1) := by decide +kernel
theorem dX11_may_18 : decode cX11_may 18 = .ok (.getfield 236, 3) := by decide +kernel
theorem dX11_may_21 : decode cX11_may 21 = .ok (.invokevirtual 263, 3) := by decide +kernel
theorem dX11_may_24 : decode cX11_may 24 = .ok (.ifCond .eq 26, 3) := by decide +kernel
theorem dX11_may_27 : decode cX11_may 27 = .ok (.goto 19, 3) := by decide +kernel
theorem dX11_may_30 : decode cX11_may 30 = .ok (.iload_n 1, 1) := by decide +kernel
theorem dX11_may_31 : decode cX11_may 31 = .ok (.ifCond .ne 15, 3) := by decide +kernel
theorem dX11_may_34 : decode cX11_may 34 = .ok (.aload_n 0, 1) := by decide +kernel
theorem dX11_may_35 : decode cX11_may 35 = .ok (.iconst 2, 1) := by decide +kernel
theorem dX11_may_36 : decode cX11_may 36 = .ok (.aload_n 0, 1) := by decide +kernel
theorem dX11_may_37 : decode cX11_may 37 = .ok (.getfield 236, 3) := by decide +kernel
theorem dX11_may_40 : decode cX11_may 40 = .ok (.invokevirtual 263, 3) := by decide +kernel
theorem dX11_may_43 : decode cX11_may 43 = .ok (.ifCond .eq 7, 3) := by decide +kernel
theorem dX11_may_46 : decode cX11_may 46 = .ok (.iconst 1, 1) := by decide +kernel
theorem dX11_may_47 : decode cX11_may 47 = .ok (.goto 4, 3) := by decide +kernel
theorem dX11_may_50 : decode cX11_may 50 = .ok (.iconst 0, 1) := by decide +kernel
theorem dX11_may_51 : decode cX11_may 51 = .ok (.ireturn, 1) := by decide +kernel
theorem dX11_sees_0 : decode cX11_sees 0 = .ok (.aload_n 0, 1) := by decide +kernel
theorem dX11_sees_1 : decode cX11_sees 1 = .ok (.getfield 243, 3) := by decide +kernel
theorem dX11_sees_4 : decode cX11_sees 4 = .ok (.iconst 3, 1) := by decide +kernel
theorem dX11_sees_5 : decode cX11_sees 5 = .ok (.if_icmp .ne 19, 3) := by decide +kernel
theorem dX11_sees_8 : decode cX11_sees 8 = .ok (.aload_n 0, 1) := by decide +kernel
theorem dX11_sees_9 : decode cX11_sees 9 = .ok (.aload_n 0, 1) := by decide +kernel
theorem dX11_sees_10 : decode cX11_sees 10 = .ok (.getfield 236, 3) := by decide +kernel
theorem dX11_sees_13 : decode cX11_sees 13 = .ok (.invokevirtual 239, 3) := by decide +kernel
theorem dX11_sees_16 : decode cX11_sees 16 = .ok (.iload_n 1, 1) := by decide +kernel
theorem dX11_sees_17 : decode cX11_sees 17 = .ok (.if_icmp .ne 7, 3) := by decide +kernel
theorem dX11_sees_20 : decode cX11_sees 20 = .ok (.iconst 1, 1) := by decide +kernel
theorem dX11_sees_21 : decode cX11_sees 21 = .ok (.goto 4, 3) := by decide +kernel
theorem dX11_sees_24 : decode cX11_sees 24 = .ok (.iconst 0, 1) := by decide +kernel
theorem dX11_sees_25 : decode cX11_sees 25 = .ok (.ireturn, 1) := by decide +kernel
theorem dX11_isThe_0 : decode cX11_isThe 0 = .ok (.aload_n 0, 1) := by decide +kernel
theorem dX11_isThe_1 : decode cX11_isThe 1 = .ok (.getfield 243, 3) := by decide +kernel
theorem dX11_isThe_4 : decode cX11_isThe 4 = .ok (.iconst 2, 1) := by decide +kernel
theorem dX11_isThe_5 : decode cX11_isThe 5 = .ok (.if_icmp .ne 16, 3) := by decide +kernel
theorem dX11_isThe_8 : decode cX11_isThe 8 = .ok (.aload_n 0, 1) := by decide +kernel
theorem dX11_isThe_9 : decode cX11_isThe 9 = .ok (.getfield 246, 3) := by decide +kernel
theorem dX11_isThe_12 : decode cX11_isThe 12 = .ok (.lload_n 1, 1) := by decide +kernel
theorem dX11_isThe_13 : decode cX11_isThe 13 = .ok (.lcmp, 1) := by decide +kernel
theorem dX11_isThe_14 : decode cX11_isThe 14 = .ok (.ifCond .ne 7, 3) := by decide +kernel
theorem dX11_isThe_17 : decode cX11_isThe 17 = .ok (.iconst 1, 1) := by decide +kernel
theorem dX11_isThe_18 : decode cX11_isThe 18 = .ok (.goto 4, 3) := by decide +kernel
theorem dX11_isThe_21 : decode cX11_isThe 21 = .ok (.iconst 0, 1) := by decide +kernel
theorem dX11_isThe_22 : decode cX11_isThe 22 = .ok (.ireturn, 1) := by decide +kernel
theorem dX11_take_0 : decode cX11_take 0 = .ok (.aload_n 0, 1) := by decide +kernel
theorem dX11_take_1 : decode cX11_take 1 = .ok (.aload_n 0, 1) := by decide +kernel
theorem dX11_take_2 : decode cX11_take 2 = .ok (.iload_n 1, 1) := by decide +kernel
theorem dX11_take_3 : decode cX11_take 3 = .ok (.invokevirtual 267, 3) := by decide +kernel
theorem dX11_take_6 : decode cX11_take 6 = .ok (.invokevirtual 270, 3) := by decide +kernel
theorem dX11_take_9 : decode cX11_take 9 = .ok (.istore_n 2, 1) := by decide +kernel
theorem dX11_take_10 : decode cX11_take 10 = .ok (.iload_n 2, 1) := by decide +kernel
theorem dX11_take_11 : decode cX11_take 11 = .ok (.ifCond .eq 7, 3) := by decide +kernel
theorem dX11_take_14 : decode cX11_take 14 = .ok (.aload_n 0, 1) := by decide +kernel
theorem dX11_take_15 : decode cX11_take 15 = .ok (.invokevirtual 274, 3) := by decide +kernel
theorem dX11_take_18 : decode cX11_take 18 = .ok (.iload_n 2, 1) := by decide +kernel
theorem dX11_take_19 : decode cX11_take 19 = .ok (.ireturn, 1) := by decide +kernel
theorem dX11_variable_0 : decode cX11_variable 0 = .ok (.iconst (-1), 1) := by decide +kernel
theorem dX11_variable_1 : decode cX11_variable 1 = .ok (.istore 4, 2) := by decide +kernel
theorem dX11_variable_3 : decode cX11_variable 3 = .ok (.iconst 0, 1) := by decide +kernel
theorem dX11_variable_4 : decode cX11_variable 4 = .ok (.istore 5, 2) := by decide +kernel
theorem dX11_variable_6 : decode cX11_variable 6 = .ok (.iload 5, 2) := by decide +kernel
theorem dX11_variable_8 : decode cX11_variable 8 = .ok (.aload_n 0, 1) := by decide +kernel
theorem dX11_variable_9 : decode cX11_variable 9 = .ok (.getfield 277, 3) := by decide +kernel
theorem dX11_variable_12 : decode cX11_variable 12 = .ok (.if_icmp .ge 33, 3) := by decide +kernel
theorem dX11_variable_15 : decode cX11_variable 15 = .ok (.aload_n 0, 1) := by decide +kernel
theorem dX11_variable_16 : decode cX11_variable 16 = .ok (.getfield 59, 3) := by decide +kernel
theorem dX11_variable_19 : decode cX11_variable 19 = .ok (.iload 5, 2) := by decide +kernel
theorem dX11_variable_21 : decode cX11_variable 21 = .ok (.laload, 1) := by decide +kernel
theorem dX11_variable_22 : decode cX11_variable 22 = .ok (.lload_n 2, 1) := by decide +kernel
theorem dX11_variable_23 : decode cX11_variable 23 = .ok (.lcmp, 1) := by decide +kernel
theorem dX11_variable_24 : decode cX11_variable 24 = .ok (.ifCond .ne 11, 3) := by decide +kernel
theorem dX11_variable_27 : decode cX11_variable 27 = .ok (.bipush 16, 2) := by decide +kernel
theorem dX11_variable_29 : decode cX11_variable 29 = .ok (.iload 5, 2) := by decide +kernel
theorem dX11_variable_31 : decode cX11_variable 31 = .ok (.iadd, 1) := by decide +kernel
theorem dX11_variable_32 : decode cX11_variable 32 = .ok (.goto 5, 3) := by decide +kernel
theorem dX11_variable_35 : decode cX11_variable 35 = .ok (.iload 4, 2) := by decide +kernel
theorem dX11_variable_37 : decode cX11_variable 37 = .ok (.istore 4, 2) := by decide +kernel
theorem dX11_variable_39 : decode cX11_variable 39 = .ok (.iinc 5 1, 3) := by decide +kernel
theorem dX11_variable_42 : decode cX11_variable 42 = .ok (.goto (-36), 3) := by decide +kernel
theorem dX11_variable_45 : decode cX11_variable 45 = .ok (.iconst 0, 1) := by decide +kernel
theorem dX11_variable_46 : decode cX11_variable 46 = .ok (.istore 5, 2) := by decide +kernel
theorem dX11_variable_48 : decode cX11_variable 48 = .ok (.iload 5, 2) := by decide +kernel
theorem dX11_variable_50 : decode cX11_variable 50 = .ok (.aload_n 0, 1) := by decide +kernel
theorem dX11_variable_51 : decode cX11_variable 51 = .ok (.getfield 66, 3) := by decide +kernel
theorem dX11_variable_54 : decode cX11_variable 54 = .ok (.iload_n 1, 1) := by decide +kernel
theorem dX11_variable_55 : decode cX11_variable 55 = .ok (.iaload, 1) := by decide +kernel
theorem dX11_variable_56 : decode cX11_variable 56 = .ok (.if_icmp .ge 37, 3) := by decide +kernel
theorem dX11_variable_59 : decode cX11_variable 59 = .ok (.aload_n 0, 1) := by decide +kernel
theorem dX11_variable_60 : decode cX11_variable 60 = .ok (.getfield 63, 3) := by decide +kernel
theorem dX11_variable_63 : decode cX11_variable 63 = .ok (.iconst 2, 1) := by decide +kernel
theorem dX11_variable_64 : decode cX11_variable 64 = .ok (.iload_n 1, 1) := by decide +kernel
theorem dX11_variable_65 : decode cX11_variable 65 = .ok (.imul, 1) := by decide +kernel
theorem dX11_variable_66 : decode cX11_variable 66 = .ok (.iload 5, 2) := by decide +kernel
theorem dX11_variable_68 : decode cX11_variable 68 = .ok (.iadd, 1) := by decide +kernel
theorem dX11_variable_69 : decode cX11_variable 69 = .ok (.laload, 1) := by decide +kernel
theorem dX11_variable_70 : decode cX11_variable 70 = .ok (.lload_n 2, 1) := by decide +kernel
theorem dX11_variable_71 : decode cX11_variable 71 = .ok (.lcmp, 1) := by decide +kernel
theorem dX11_variable_72 : decode cX11_variable 72 = .ok (.ifCond .ne 11, 3) := by decide +kernel
theorem dX11_variable_75 : decode cX11_variable 75 = .ok (.bipush 24, 2) := by decide +kernel
theorem dX11_variable_77 : decode cX11_variable 77 = .ok (.iload 5, 2) := by decide +kernel
theorem dX11_variable_79 : decode cX11_variable 79 = .ok (.iadd, 1) := by decide +kernel
theorem dX11_variable_80 : decode cX11_variable 80 = .ok (.goto 5, 3) := by decide +kernel
theorem dX11_variable_83 : decode cX11_variable 83 = .ok (.iload 4, 2) := by decide +kernel
theorem dX11_variable_85 : decode cX11_variable 85 = .ok (.istore 4, 2) := by decide +kernel
theorem dX11_variable_87 : decode cX11_variable 87 = .ok (.iinc 5 1, 3) := by decide +kernel
theorem dX11_variable_90 : decode cX11_variable 90 = .ok (.goto (-42), 3) := by decide +kernel
theorem dX11_variable_93 : decode cX11_variable 93 = .ok (.iload 4, 2) := by decide +kernel
theorem dX11_variable_95 : decode cX11_variable 95 = .ok (.ireturn, 1) := by decide +kernel
theorem dX11_takeVars_0 : decode cX11_takeVars 0 = .ok (.iconst 1, 1) := by decide +kernel
theorem dX11_takeVars_1 : decode cX11_takeVars 1 = .ok (.istore_n 2, 1) := by decide +kernel
theorem dX11_takeVars_2 : decode cX11_takeVars 2 = .ok (.iload_n 2, 1) := by decide +kernel
theorem dX11_takeVars_3 : decode cX11_takeVars 3 = .ok (.ifCond .eq 241, 3) := by decide +kernel
theorem dX11_takeVars_6 : decode cX11_takeVars 6 = .ok (.aload_n 0, 1) := by decide +kernel
theorem dX11_takeVars_7 : decode cX11_takeVars 7 = .ok (.aload_n 0, 1) := by decide +kernel
theorem dX11_takeVars_8 : decode cX11_takeVars 8 = .ok (.getfield 243, 3) := by decide +kernel
theorem dX11_takeVars_11 : decode cX11_takeVars 11 = .ok (.iconst 1, 1) := by decide +kernel
theorem dX11_takeVars_12 : decode cX11_takeVars 12 = .ok (.if_icmp .ne 7, 3) := by decide +kernel
theorem dX11_takeVars_15 : decode cX11_takeVars 15 = .ok (.iconst 1, 1) := by decide +kernel
theorem dX11_takeVars_16 : decode cX11_takeVars 16 = .ok (.goto 4, 3) := by decide +kernel
theorem dX11_takeVars_19 : decode cX11_takeVars 19 = .ok (.iconst 0, 1) := by decide +kernel
theorem dX11_takeVars_20 : decode cX11_takeVars 20 = .ok (.invokevirtual 270, 3) := by decide +kernel
theorem dX11_takeVars_23 : decode cX11_takeVars 23 = .ok (.ifCond .ne 5, 3) := by decide +kernel
theorem dX11_takeVars_26 : decode cX11_takeVars 26 = .ok (.iconst 0, 1) := by decide +kernel
theorem dX11_takeVars_27 : decode cX11_takeVars 27 = .ok (.ireturn, 1) := by decide +kernel
theorem dX11_takeVars_28 : decode cX11_takeVars 28 = .ok (.iconst (-1), 1) := by decide +kernel
theorem dX11_takeVars_29 : decode cX11_takeVars 29 = .ok (.istore_n 3, 1) := by decide +kernel
theorem dX11_takeVars_30 : decode cX11_takeVars 30 = .ok (.iconst 0, 1) := by decide +kernel
theorem dX11_takeVars_31 : decode cX11_takeVars 31 = .ok (.istore 4, 2) := by decide +kernel
theorem dX11_takeVars_33 : decode cX11_takeVars 33 = .ok (.iload 4, 2) := by decide +kernel
theorem dX11_takeVars_35 : decode cX11_takeVars 35 = .ok (.aload_n 0, 1) := by decide +kernel
theorem dX11_takeVars_36 : decode cX11_takeVars 36 = .ok (.getfield 277, 3) := by decide +kernel
theorem dX11_takeVars_39 : decode cX11_takeVars 39 = .ok (.if_icmp .ge 31, 3) := by decide +kernel
theorem dX11_takeVars_42 : decode cX11_takeVars 42 = .ok (.aload_n 0, 1) := by decide +kernel
theorem dX11_takeVars_43 : decode cX11_takeVars 43 = .ok (.getfield 59, 3) := by decide +kernel
theorem dX11_takeVars_46 : decode cX11_takeVars 46 = .ok (.iload 4, 2) := by decide +kernel
theorem dX11_takeVars_48 : decode cX11_takeVars 48 = .ok (.laload, 1) := by decide +kernel
theorem dX11_takeVars_49 : decode cX11_takeVars 49 = .ok (.aload_n 0, 1) := by decide +kernel
theorem dX11_takeVars_50 : decode cX11_takeVars 50 = .ok (.getfield 246, 3) := by decide +kernel
theorem dX11_takeVars_53 : decode cX11_takeVars 53 = .ok (.lcmp, 1) := by decide +kernel
theorem dX11_takeVars_54 : decode cX11_takeVars 54 = .ok (.ifCond .ne 8, 3) := by decide +kernel
theorem dX11_takeVars_57 : decode cX11_takeVars 57 = .ok (.iload 4, 2) := by decide +kernel
theorem dX11_takeVars_59 : decode cX11_takeVars 59 = .ok (.goto 4, 3) := by decide +kernel
theorem dX11_takeVars_62 : decode cX11_takeVars 62 = .ok (.iload_n 3, 1) := by decide +kernel
theorem dX11_takeVars_63 : decode cX11_takeVars 63 = .ok (.istore_n 3, 1) := by decide +kernel
theorem dX11_takeVars_64 : decode cX11_takeVars 64 = .ok (.iinc 4 1, 3) := by decide +kernel
theorem dX11_takeVars_67 : decode cX11_takeVars 67 = .ok (.goto (-34), 3) := by decide +kernel
theorem dX11_takeVars_70 : decode cX11_takeVars 70 = .ok (.iconst 0, 1) := by decide +kernel
theorem dX11_takeVars_71 : decode cX11_takeVars 71 = .ok (.istore 4, 2) := by decide +kernel
theorem dX11_takeVars_73 : decode cX11_takeVars 73 = .ok (.iload_n 1, 1) := by decide +kernel
theorem dX11_takeVars_74 : decode cX11_takeVars 74 = .ok (.iconst (-1), 1) := by decide +kernel
theorem dX11_takeVars_75 : decode cX11_takeVars 75 = .ok (.if_icmp .eq 46, 3) := by decide +kernel
theorem dX11_takeVars_78 : decode cX11_takeVars 78 = .ok (.iload 4, 2) := by decide +kernel
theorem dX11_takeVars_80 : decode cX11_takeVars 80 = .ok (.aload_n 0, 1) := by decide +kernel
theorem dX11_takeVars_81 : decode cX11_takeVars 81 = .ok (.getfield 66, 3) := by decide +kernel
theorem dX11_takeVars_84 : decode cX11_takeVars 84 = .ok (.iload_n 1, 1) := by decide +kernel
theorem dX11_takeVars_85 : decode cX11_takeVars 85 = .ok (.iaload, 1) := by decide +kernel
theorem dX11_takeVars_86 : decode cX11_takeVars 86 = .ok (.if_icmp .ge 35, 3) := by decide +kernel
theorem dX11_takeVars_89 : decode cX11_takeVars 89 = .ok (.aload_n 0, 1) := by decide +kernel
theorem dX11_takeVars_90 : decode cX11_takeVars 90 = .ok (.getfield 63, 3) := by decide +kernel
theorem dX11_takeVars_93 : decode cX11_takeVars 93 = .ok (.iconst 2, 1) := by decide +kernel
theorem dX11_takeVars_94 : decode cX11_takeVars 94 = .ok (.iload_n 1, 1) := by decide +kernel
theorem dX11_takeVars_95 : decode cX11_takeVars 95 = .ok (.imul, 1) := by decide +kernel
theorem dX11_takeVars_96 : decode cX11_takeVars 96 = .ok (.iload 4, 2) := by decide +kernel
theorem dX11_takeVars_98 : decode cX11_takeVars 98 = .ok (.iadd, 1) := by decide +kernel
theorem dX11_takeVars_99 : decode cX11_takeVars 99 = .ok (.laload, 1) := by decide +kernel
theorem dX11_takeVars_100 : decode cX11_takeVars 100 = .ok (.aload_n 0, 1) := by decide +kernel
theorem dX11_takeVars_101 : decode cX11_takeVars 101 = .ok (.getfield 246, 3) := by decide +kernel
theorem dX11_takeVars_104 : decode cX11_takeVars 104 = .ok (.lcmp, 1) := by decide +kernel
theorem dX11_takeVars_105 : decode cX11_takeVars 105 = .ok (.ifCond .ne 8, 3) := by decide +kernel
theorem dX11_takeVars_108 : decode cX11_takeVars 108 = .ok (.iload 4, 2) := by decide +kernel
theorem dX11_takeVars_110 : decode cX11_takeVars 110 = .ok (.goto 4, 3) := by decide +kernel
theorem dX11_takeVars_113 : decode cX11_takeVars 113 = .ok (.iload_n 3, 1) := by decide +kernel
theorem dX11_takeVars_114 : decode cX11_takeVars 114 = .ok (.istore_n 3, 1) := by decide +kernel
theorem dX11_takeVars_115 : decode cX11_takeVars 115 = .ok (.iinc 4 1, 3) := by decide +kernel
theorem dX11_takeVars_118 : decode cX11_takeVars 118 = .ok (.goto (-45), 3) := by decide +kernel
theorem dX11_takeVars_121 : decode cX11_takeVars 121 = .ok (.iload_n 3, 1) := by decide +kernel
theorem dX11_takeVars_122 : decode cX11_takeVars 122 = .ok (.iconst (-1), 1) := by decide +kernel
theorem dX11_takeVars_123 : decode cX11_takeVars 123 = .ok (.if_icmp .ne 29, 3) := by decide +kernel
theorem dX11_takeVars_126 : decode cX11_takeVars 126 = .ok (.iload_n 1, 1) := by decide +kernel
theorem dX11_takeVars_127 : decode cX11_takeVars 127 = .ok (.iconst (-1), 1) := by decide +kernel
theorem dX11_takeVars_128 : decode cX11_takeVars 128 = .ok (.if_icmp .ne 14, 3) := by decide +kernel
theorem dX11_takeVars_131 : decode cX11_takeVars 131 = .ok (.aload_n 0, 1) := by decide +kernel
theorem dX11_takeVars_132 : decode cX11_takeVars 132 = .ok (.getfield 277, 3) := by decide +kernel
theorem dX11_takeVars_135 : decode cX11_takeVars 135 = .ok (.iconst 3, 1) := by decide +kernel
theorem dX11_takeVars_136 : decode cX11_takeVars 136 = .ok (.if_icmp .ne 26, 3) := by decide +kernel
theorem dX11_takeVars_139 : decode cX11_takeVars 139 = .ok (.goto 13, 3) := by decide +kernel
theorem dX11_takeVars_142 : decode cX11_takeVars 142 = .ok (.aload_n 0, 1) := by decide +kernel
theorem dX11_takeVars_143 : decode cX11_takeVars 143 = .ok (.getfield 66, 3) := by decide +kernel
theorem dX11_takeVars_146 : decode cX11_takeVars 146 = .ok (.iload_n 1, 1) := by decide +kernel
theorem dX11_takeVars_147 : decode cX11_takeVars 147 = .ok (.iaload, 1) := by decide +kernel
theorem dX11_takeVars_148 : decode cX11_takeVars 148 = .ok (.iconst 2, 1) := by decide +kernel
theorem dX11_takeVars_149 : decode cX11_takeVars 149 = .ok (.if_icmp .ne 13, 3) := by decide +kernel
theorem dX11_takeVars_152 : decode cX11_takeVars 152 = .ok (.aload_n 0, 1) := by decide +kernel
theorem dX11_takeVars_153 : decode cX11_takeVars 153 = .ok (.iconst 3, 1) := by decide +kernel
theorem dX11_takeVars_154 : decode cX11_takeVars 154 = .ok (.aload_n 0, 1) := by decide +kernel
theorem dX11_takeVars_155 : decode cX11_takeVars 155 = .ok (.getfield 236, 3) := by decide +kernel
theorem dX11_takeVars_158 : decode cX11_takeVars 158 = .ok (.invokevirtual 263, 3) := by decide +kernel
theorem dX11_takeVars_161 : decode cX11_takeVars 161 = .ok (.ireturn, 1) := by decide +kernel
theorem dX11_takeVars_162 : decode cX11_takeVars 162 = .ok (.iload_n 1, 1) := by decide +kernel
theorem dX11_takeVars_163 : decode cX11_takeVars 163 = .ok (.iconst (-1), 1) := by decide +kernel
theorem dX11_takeVars_164 : decode cX11_takeVars 164 = .ok (.if_icmp .ne 29, 3) := by decide +kernel
theorem dX11_takeVars_167 : decode cX11_takeVars 167 = .ok (.aload_n 0, 1) := by decide +kernel
theorem dX11_takeVars_168 : decode cX11_takeVars 168 = .ok (.getfield 59, 3) := by decide +kernel
theorem dX11_takeVars_171 : decode cX11_takeVars 171 = .ok (.aload_n 0, 1) := by decide +kernel
theorem dX11_takeVars_172 : decode cX11_takeVars 172 = .ok (.getfield 277, 3) := by decide +kernel
theorem dX11_takeVars_175 : decode cX11_takeVars 175 = .ok (.aload_n 0, 1) := by decide +kernel
theorem dX11_takeVars_176 : decode cX11_takeVars 176 = .ok (.getfield 246, 3) := by decide +kernel
theorem dX11_takeVars_179 : decode cX11_takeVars 179 = .ok (.lastore, 1) := by decide +kernel
theorem dX11_takeVars_180 : decode cX11_takeVars 180 = .ok (.aload_n 0, 1) := by decide +kernel
theorem dX11_takeVars_181 : decode cX11_takeVars 181 = .ok (.dup, 1) := by decide +kernel
theorem dX11_takeVars_182 : decode cX11_takeVars 182 = .ok (.getfield 277, 3) := by decide +kernel
theorem dX11_takeVars_185 : decode cX11_takeVars 185 = .ok (.iconst 1, 1) := by decide +kernel
theorem dX11_takeVars_186 : decode cX11_takeVars 186 = .ok (.iadd, 1) := by decide +kernel
theorem dX11_takeVars_187 : decode cX11_takeVars 187 = .ok (.putfield 277, 3) := by decide +kernel
theorem dX11_takeVars_190 : decode cX11_takeVars 190 = .ok (.goto 32, 3) := by decide +kernel
theorem dX11_takeVars_193 : decode cX11_takeVars 193 = .ok (.aload_n 0, 1) := by decide +kernel
theorem dX11_takeVars_194 : decode cX11_takeVars 194 = .ok (.getfield 63, 3) := by decide +kernel
theorem dX11_takeVars_197 : decode cX11_takeVars 197 = .ok (.iconst 2, 1) := by decide +kernel
theorem dX11_takeVars_198 : decode cX11_takeVars 198 = .ok (.iload_n 1, 1) := by decide +kernel
theorem dX11_takeVars_199 : decode cX11_takeVars 199 = .ok (.imul, 1) := by decide +kernel
theorem dX11_takeVars_200 : decode cX11_takeVars 200 = .ok (.aload_n 0, 1) := by decide +kernel
theorem dX11_takeVars_201 : decode cX11_takeVars 201 = .ok (.getfield 66, 3) := by decide +kernel
theorem dX11_takeVars_204 : decode cX11_takeVars 204 = .ok (.iload_n 1, 1) := by decide +kernel
theorem dX11_takeVars_205 : decode cX11_takeVars 205 = .ok (.iaload, 1) := by decide +kernel
theorem dX11_takeVars_206 : decode cX11_takeVars 206 = .ok (.iadd, 1) := by decide +kernel
theorem dX11_takeVars_207 : decode cX11_takeVars 207 = .ok (.aload_n 0, 1) := by decide +kernel
theorem dX11_takeVars_208 : decode cX11_takeVars 208 = .ok (.getfield 246, 3) := by decide +kernel
theorem dX11_takeVars_211 : decode cX11_takeVars 211 = .ok (.lastore, 1) := by decide +kernel
theorem dX11_takeVars_212 : decode cX11_takeVars 212 = .ok (.aload_n 0, 1) := by decide +kernel
theorem dX11_takeVars_213 : decode cX11_takeVars 213 = .ok (.getfield 66, 3) := by decide +kernel
theorem dX11_takeVars_216 : decode cX11_takeVars 216 = .ok (.iload_n 1, 1) := by decide +kernel
theorem dX11_takeVars_217 : decode cX11_takeVars 217 = .ok (.dup2, 1) := by decide +kernel
theorem dX11_takeVars_218 : decode cX11_takeVars 218 = .ok (.iaload, 1) := by decide +kernel
theorem dX11_takeVars_219 : decode cX11_takeVars 219 = .ok (.iconst 1, 1) := by decide +kernel
theorem dX11_takeVars_220 : decode cX11_takeVars 220 = .ok (.iadd, 1) := by decide +kernel
theorem dX11_takeVars_221 : decode cX11_takeVars 221 = .ok (.iastore, 1) := by decide +kernel
theorem dX11_takeVars_222 : decode cX11_takeVars 222 = .ok (.aload_n 0, 1) := by decide +kernel
theorem dX11_takeVars_223 : decode cX11_takeVars 223 = .ok (.invokevirtual 274, 3) := by decide +kernel
theorem dX11_takeVars_226 : decode cX11_takeVars 226 = .ok (.aload_n 0, 1) := by decide +kernel
theorem dX11_takeVars_227 : decode cX11_takeVars 227 = .ok (.bipush 44, 2) := by decide +kernel
theorem dX11_takeVars_229 : decode cX11_takeVars 229 = .ok (.invokevirtual 267, 3) := by decide +kernel
theorem dX11_takeVars_232 : decode cX11_takeVars 232 = .ok (.istore_n 2, 1) := by decide +kernel
theorem dX11_takeVars_233 : decode cX11_takeVars 233 = .ok (.iload_n 2, 1) := by decide +kernel
theorem dX11_takeVars_234 : decode cX11_takeVars 234 = .ok (.ifCond .eq 7, 3) := by decide +kernel
theorem dX11_takeVars_237 : decode cX11_takeVars 237 = .ok (.aload_n 0, 1) := by decide +kernel
theorem dX11_takeVars_238 : decode cX11_takeVars 238 = .ok (.invokevirtual 274, 3) := by decide +kernel
theorem dX11_takeVars_241 : decode cX11_takeVars 241 = .ok (.goto (-239), 3) := by decide +kernel
theorem dX11_takeVars_244 : decode cX11_takeVars 244 = .ok (.aload_n 0, 1) := by decide +kernel
theorem dX11_takeVars_245 : decode cX11_takeVars 245 = .ok (.bipush 59, 2) := by decide +kernel
theorem dX11_takeVars_247 : decode cX11_takeVars 247 = .ok (.invokevirtual 280, 3) := by decide +kernel
theorem dX11_takeVars_250 : decode cX11_takeVars 250 = .ok (.ireturn, 1) := by decide +kernel
theorem dX11_emit_0 : decode cX11_emit 0 = .ok (.aload_n 0, 1) := by decide +kernel
theorem dX11_emit_1 : decode cX11_emit 1 = .ok (.getfield 105, 3) := by decide +kernel
theorem dX11_emit_4 : decode cX11_emit 4 = .ok (.aload_n 0, 1) := by decide +kernel
theorem dX11_emit_5 : decode cX11_emit 5 = .ok (.getfield 283, 3) := by decide +kernel
theorem dX11_emit_8 : decode cX11_emit 8 = .ok (.iload_n 1, 1) := by decide +kernel
theorem dX11_emit_9 : decode cX11_emit 9 = .ok (.iastore, 1) := by decide +kernel
theorem dX11_emit_10 : decode cX11_emit 10 = .ok (.aload_n 0, 1) := by decide +kernel
theorem dX11_emit_11 : decode cX11_emit 11 = .ok (.dup, 1) := by decide +kernel
theorem dX11_emit_12 : decode cX11_emit 12 = .ok (.getfield 283, 3) := by decide +kernel
theorem dX11_emit_15 : decode cX11_emit 15 = .ok (.iconst 1, 1) := by decide +kernel
theorem dX11_emit_16 : decode cX11_emit 16 = .ok (.iadd, 1) := by decide +kernel
theorem dX11_emit_17 : decode cX11_emit 17 = .ok (.putfield 283, 3) := by decide +kernel
theorem dX11_emit_20 : decode cX11_emit 20 = .ok (.return_, 1) := by decide +kernel
theorem dX11_finish_0 : decode cX11_finish 0 = .ok (.aload_n 0, 1) := by decide +kernel
theorem dX11_finish_1 : decode cX11_finish 1 = .ok (.getfield 286, 3) := by decide +kernel
theorem dX11_finish_4 : decode cX11_finish 4 = .ok (.ifCond .le 47, 3) := by decide +kernel
theorem dX11_finish_7 : decode cX11_finish 7 = .ok (.aload_n 0, 1) := by decide +kernel
theorem dX11_finish_8 : decode cX11_finish 8 = .ok (.getfield 126, 3) := by decide +kernel
theorem dX11_finish_11 : decode cX11_finish 11 = .ok (.aload_n 0, 1) := by decide +kernel
theorem dX11_finish_12 : decode cX11_finish 12 = .ok (.getfield 286, 3) := by decide +kernel
theorem dX11_finish_15 : decode cX11_finish 15 = .ok (.iconst 1, 1) := by decide +kernel
theorem dX11_finish_16 : decode cX11_finish 16 = .ok (.isub, 1) := by decide +kernel
theorem dX11_finish_17 : decode cX11_finish 17 = .ok (.iaload, 1) := by decide +kernel
theorem dX11_finish_18 : decode cX11_finish 18 = .ok (.bipush 33, 2) := by decide +kernel
theorem dX11_finish_20 : decode cX11_finish 20 = .ok (.if_icmp .ne 31, 3) := by decide +kernel
theorem dX11_finish_23 : decode cX11_finish 23 = .ok (.aload_n 0, 1) := by decide +kernel
theorem dX11_finish_24 : decode cX11_finish 24 = .ok (.iconst 3, 1) := by decide +kernel
theorem dX11_finish_25 : decode cX11_finish 25 = .ok (.invokevirtual 289, 3) := by decide +kernel
theorem dX11_finish_28 : decode cX11_finish 28 = .ok (.aload_n 0, 1) := by decide +kernel
theorem dX11_finish_29 : decode cX11_finish 29 = .ok (.dup, 1) := by decide +kernel
theorem dX11_finish_30 : decode cX11_finish 30 = .ok (.getfield 286, 3) := by decide +kernel
theorem dX11_finish_33 : decode cX11_finish 33 = .ok (.iconst 1, 1) := by decide +kernel
theorem dX11_finish_34 : decode cX11_finish 34 = .ok (.isub, 1) := by decide +kernel
theorem dX11_finish_35 : decode cX11_finish 35 = .ok (.putfield 286, 3) := by decide +kernel
theorem dX11_finish_38 : decode cX11_finish 38 = .ok (.aload_n 0, 1) := by decide +kernel
theorem dX11_finish_39 : decode cX11_finish 39 = .ok (.dup, 1) := by decide +kernel
theorem dX11_finish_40 : decode cX11_finish 40 = .ok (.getfield 292, 3) := by decide +kernel
theorem dX11_finish_43 : decode cX11_finish 43 = .ok (.iconst 1, 1) := by decide +kernel
theorem dX11_finish_44 : decode cX11_finish 44 = .ok (.isub, 1) := by decide +kernel
theorem dX11_finish_45 : decode cX11_finish 45 = .ok (.putfield 292, 3) := by decide +kernel
theorem dX11_finish_48 : decode cX11_finish 48 = .ok (.goto (-48), 3) := by decide +kernel
theorem dX11_finish_51 : decode cX11_finish 51 = .ok (.return_, 1) := by decide +kernel
theorem dX11_reduce_0 : decode cX11_reduce 0 = .ok (.aload_n 0, 1) := by decide +kernel
theorem dX11_reduce_1 : decode cX11_reduce 1 = .ok (.getfield 286, 3) := by decide +kernel
theorem dX11_reduce_4 : decode cX11_reduce 4 = .ok (.ifCond .le 75, 3) := by decide +kernel
theorem dX11_reduce_7 : decode cX11_reduce 7 = .ok (.aload_n 0, 1) := by decide +kernel
theorem dX11_reduce_8 : decode cX11_reduce 8 = .ok (.getfield 126, 3) := by decide +kernel
theorem dX11_reduce_11 : decode cX11_reduce 11 = .ok (.aload_n 0, 1) := by decide +kernel
theorem dX11_reduce_12 : decode cX11_reduce 12 = .ok (.getfield 286, 3) := by decide +kernel
theorem dX11_reduce_15 : decode cX11_reduce 15 = .ok (.iconst 1, 1) := by decide +kernel
theorem dX11_reduce_16 : decode cX11_reduce 16 = .ok (.isub, 1) := by decide +kernel
theorem dX11_reduce_17 : decode cX11_reduce 17 = .ok (.iaload, 1) := by decide +kernel
theorem dX11_reduce_18 : decode cX11_reduce 18 = .ok (.bipush 38, 2) := by decide +kernel
theorem dX11_reduce_20 : decode cX11_reduce 20 = .ok (.if_icmp .eq 23, 3) := by decide +kernel
theorem dX11_reduce_23 : decode cX11_reduce 23 = .ok (.iload_n 1, 1) := by decide +kernel
theorem dX11_reduce_24 : decode cX11_reduce 24 = .ok (.ifCond .eq 55, 3) := by decide +kernel
theorem dX11_reduce_27 : decode cX11_reduce 27 = .ok (.aload_n 0, 1) := by decide +kernel
theorem dX11_reduce_28 : decode cX11_reduce 28 = .ok (.getfield 126, 3) := by decide +kernel
theorem dX11_reduce_31 : decode cX11_reduce 31 = .ok (.aload_n 0, 1) := by decide +kernel
theorem dX11_reduce_32 : decode cX11_reduce 32 = .ok (.getfield 286, 3) := by decide +kernel
theorem dX11_reduce_35 : decode cX11_reduce 35 = .ok (.iconst 1, 1) := by decide +kernel
theorem dX11_reduce_36 : decode cX11_reduce 36 = .ok (.isub, 1) := by decide +kernel
theorem dX11_reduce_37 : decode cX11_reduce 37 = .ok (.iaload, 1) := by decide +kernel
theorem dX11_reduce_38 : decode cX11_reduce 38 = .ok (.bipush 124, 2) := by decide +kernel
theorem dX11_reduce_40 : decode cX11_reduce 40 = .ok (.if_icmp .ne 39, 3) := by decide +kernel
theorem dX11_reduce_43 : decode cX11_reduce 43 = .ok (.aload_n 0, 1) := by decide +kernel
theorem dX11_reduce_44 : decode cX11_reduce 44 = .ok (.dup, 1) := by decide +kernel
theorem dX11_reduce_45 : decode cX11_reduce 45 = .ok (.getfield 286, 3) := by decide +kernel
theorem dX11_reduce_48 : decode cX11_reduce 48 = .ok (.iconst 1, 1) := by decide +kernel
theorem dX11_reduce_49 : decode cX11_reduce 49 = .ok (.isub, 1) := by decide +kernel
theorem dX11_reduce_50 : decode cX11_reduce 50 = .ok (.putfield 286, 3) := by decide +kernel
theorem dX11_reduce_53 : decode cX11_reduce 53 = .ok (.aload_n 0, 1) := by decide +kernel
theorem dX11_reduce_54 : decode cX11_reduce 54 = .ok (.aload_n 0, 1) := by decide +kernel
theorem dX11_reduce_55 : decode cX11_reduce 55 = .ok (.getfield 126, 3) := by decide +kernel
theorem dX11_reduce_58 : decode cX11_reduce 58 = .ok (.aload_n 0, 1) := by decide +kernel
theorem dX11_reduce_59 : decode cX11_reduce 59 = .ok (.getfield 286, 3) := by decide +kernel
theorem dX11_reduce_62 : decode cX11_reduce 62 = .ok (.iaload, 1) := by decide +kernel
theorem dX11_reduce_63 : decode cX11_reduce 63 = .ok (.bipush 38, 2) := by decide +kernel
theorem dX11_reduce_65 : decode cX11_reduce 65 = .ok (.if_icmp .ne 7, 3) := by decide +kernel
theorem dX11_reduce_68 : decode cX11_reduce 68 = .ok (.iconst 4, 1) := by decide +kernel
theorem dX11_reduce_69 : decode cX11_reduce 69 = .ok (.goto 4, 3) := by decide +kernel
theorem dX11_reduce_72 : decode cX11_reduce 72 = .ok (.iconst 5, 1) := by decide +kernel
theorem dX11_reduce_73 : decode cX11_reduce 73 = .ok (.invokevirtual 289, 3) := by decide +kernel
theorem dX11_reduce_76 : decode cX11_reduce 76 = .ok (.goto (-76), 3) := by decide +kernel
theorem dX11_reduce_79 : decode cX11_reduce 79 = .ok (.return_, 1) := by decide +kernel
theorem dX11_takeExp_0 : decode cX11_takeExp 0 = .ok (.aload_n 0, 1) := by decide +kernel
theorem dX11_takeExp_1 : decode cX11_takeExp 1 = .ok (.getfield 99, 3) := by decide +kernel
theorem dX11_takeExp_4 : decode cX11_takeExp 4 = .ok (.iload_n 2, 1) := by decide +kernel
theorem dX11_takeExp_5 : decode cX11_takeExp 5 = .ok (.aload_n 0, 1) := by decide +kernel
theorem dX11_takeExp_6 : decode cX11_takeExp 6 = .ok (.getfield 283, 3) := by decide +kernel
theorem dX11_takeExp_9 : decode cX11_takeExp 9 = .ok (.iastore, 1) := by decide +kernel
theorem dX11_takeExp_10 : decode cX11_takeExp 10 = .ok (.aload_n 0, 1) := by decide +kernel
theorem dX11_takeExp_11 : decode cX11_takeExp 11 = .ok (.iconst 0, 1) := by decide +kernel
theorem dX11_takeExp_12 : decode cX11_takeExp 12 = .ok (.putfield 286, 3) := by decide +kernel
theorem dX11_takeExp_15 : decode cX11_takeExp 15 = .ok (.aload_n 0, 1) := by decide +kernel
theorem dX11_takeExp_16 : decode cX11_takeExp 16 = .ok (.iconst 0, 1) := by decide +kernel
theorem dX11_takeExp_17 : decode cX11_takeExp 17 = .ok (.putfield 292, 3) := by decide +kernel
theorem dX11_takeExp_20 : decode cX11_takeExp 20 = .ok (.iconst 1, 1) := by decide +kernel
theorem dX11_takeExp_21 : decode cX11_takeExp 21 = .ok (.istore_n 3, 1) := by decide +kernel
theorem dX11_takeExp_22 : decode cX11_takeExp 22 = .ok (.iconst 1, 1) := by decide +kernel
theorem dX11_takeExp_23 : decode cX11_takeExp 23 = .ok (.istore 4, 2) := by decide +kernel
theorem dX11_takeExp_25 : decode cX11_takeExp 25 = .ok (.iload 4, 2) := by decide +kernel
theorem dX11_takeExp_27 : decode cX11_takeExp 27 = .ok (.ifCond .eq 362, 3) := by decide +kernel
theorem dX11_takeExp_30 : decode cX11_takeExp 30 = .ok (.iload_n 3, 1) := by decide +kernel
theorem dX11_takeExp_31 : decode cX11_takeExp 31 = .ok (.ifCond .eq 230, 3) := by decide +kernel
theorem dX11_takeExp_34 : decode cX11_takeExp 34 = .ok (.aload_n 0, 1) := by decide +kernel
theorem dX11_takeExp_35 : decode cX11_takeExp 35 = .ok (.bipush 40, 2) := by decide +kernel
theorem dX11_takeExp_37 : decode cX11_takeExp 37 = .ok (.invokevirtual 267, 3) := by decide +kernel
theorem dX11_takeExp_40 : decode cX11_takeExp 40 = .ok (.ifCond .ne 12, 3) := by decide +kernel
theorem dX11_takeExp_43 : decode cX11_takeExp 43 = .ok (.aload_n 0, 1) := by decide +kernel
theorem dX11_takeExp_44 : decode cX11_takeExp 44 = .ok (.bipush 33, 2) := by decide +kernel
theorem dX11_takeExp_46 : decode cX11_takeExp 46 = .ok (.invokevirtual 267, 3) := by decide +kernel
theorem dX11_takeExp_49 : decode cX11_takeExp 49 = .ok (.ifCond .eq 7, 3) := by decide +kernel
theorem dX11_takeExp_52 : decode cX11_takeExp 52 = .ok (.iconst 1, 1) := by decide +kernel
theorem dX11_takeExp_53 : decode cX11_takeExp 53 = .ok (.goto 4, 3) := by decide +kernel
theorem dX11_takeExp_56 : decode cX11_takeExp 56 = .ok (.iconst 0, 1) := by decide +kernel
theorem dX11_takeExp_57 : decode cX11_takeExp 57 = .ok (.istore 5, 2) := by decide +kernel
theorem dX11_takeExp_59 : decode cX11_takeExp 59 = .ok (.aload_n 0, 1) := by decide +kernel
theorem dX11_takeExp_60 : decode cX11_takeExp 60 = .ok (.iload 5, 2) := by decide +kernel
theorem dX11_takeExp_62 : decode cX11_takeExp 62 = .ok (.ifCond .ne 38, 3) := by decide +kernel
theorem dX11_takeExp_65 : decode cX11_takeExp 65 = .ok (.aload_n 0, 1) := by decide +kernel
theorem dX11_takeExp_66 : decode cX11_takeExp 66 = .ok (.getfield 243, 3) := by decide +kernel
theorem dX11_takeExp_69 : decode cX11_takeExp 69 = .ok (.iconst 1, 1) := by decide +kernel
theorem dX11_takeExp_70 : decode cX11_takeExp 70 = .ok (.if_icmp .eq 30, 3) := by decide +kernel
theorem dX11_takeExp_73 : decode cX11_takeExp 73 = .ok (.aload_n 0, 1) := by decide +kernel
theorem dX11_takeExp_74 : decode cX11_takeExp 74 = .ok (.bipush 48, 2) := by decide +kernel
theorem dX11_takeExp_76 : decode cX11_takeExp 76 = .ok (.invokevirtual 267, 3) := by decide +kernel
theorem dX11_takeExp_79 : decode cX11_takeExp 79 = .ok (.ifCond .ne 21, 3) := by decide +kernel
theorem dX11_takeExp_82 : decode cX11_takeExp 82 = .ok (.aload_n 0, 1) := by decide +kernel
theorem dX11_takeExp_83 : decode cX11_takeExp 83 = .ok (.bipush 49, 2) := by decide +kernel
theorem dX11_takeExp_85 : decode cX11_takeExp 85 = .ok (.invokevirtual 267, 3) := by decide +kernel
theorem dX11_takeExp_88 : decode cX11_takeExp 88 = .ok (.ifCond .ne 12, 3) := by decide +kernel
theorem dX11_takeExp_91 : decode cX11_takeExp 91 = .ok (.aload_n 0, 1) := by decide +kernel
theorem dX11_takeExp_92 : decode cX11_takeExp 92 = .ok (.bipush 42, 2) := by decide +kernel
theorem dX11_takeExp_94 : decode cX11_takeExp 94 = .ok (.invokevirtual 267, 3) := by decide +kernel
theorem dX11_takeExp_97 : decode cX11_takeExp 97 = .ok (.ifCond .eq 7, 3) := by decide +kernel
theorem dX11_takeExp_100 : decode cX11_takeExp 100 = .ok (.iconst 1, 1) := by decide +kernel
theorem dX11_takeExp_101 : decode cX11_takeExp 101 = .ok (.goto 4, 3) := by decide +kernel
theorem dX11_takeExp_104 : decode cX11_takeExp 104 = .ok (.iconst 0, 1) := by decide +kernel
theorem dX11_takeExp_105 : decode cX11_takeExp 105 = .ok (.invokevirtual 270, 3) := by decide +kernel
theorem dX11_takeExp_108 : decode cX11_takeExp 108 = .ok (.ifCond .ne 5, 3) := by decide +kernel
theorem dX11_takeExp_111 : decode cX11_takeExp 111 = .ok (.iconst 0, 1) := by decide +kernel
theorem dX11_takeExp_112 : decode cX11_takeExp 112 = .ok (.ireturn, 1) := by decide +kernel
theorem dX11_takeExp_113 : decode cX11_takeExp 113 = .ok (.iload 5, 2) := by decide +kernel
theorem dX11_takeExp_115 : decode cX11_takeExp 115 = .ok (.ifCond .eq 62, 3) := by decide +kernel
theorem dX11_takeExp_118 : decode cX11_takeExp 118 = .ok (.aload_n 0, 1) := by decide +kernel
theorem dX11_takeExp_119 : decode cX11_takeExp 119 = .ok (.getfield 292, 3) := by decide +kernel
theorem dX11_takeExp_122 : decode cX11_takeExp 122 = .ok (.bipush 10, 2) := by decide +kernel
theorem dX11_takeExp_124 : decode cX11_takeExp 124 = .ok (.if_icmp .ne 13, 3) := by decide +kernel
theorem dX11_takeExp_127 : decode cX11_takeExp 127 = .ok (.aload_n 0, 1) := by decide +kernel
theorem dX11_takeExp_128 : decode cX11_takeExp 128 = .ok (.iconst 3, 1) := by decide +kernel
theorem dX11_takeExp_129 : decode cX11_takeExp 129 = .ok (.aload_n 0, 1) := by decide +kernel
theorem dX11_takeExp_130 : decode cX11_takeExp 130 = .ok (.getfield 236, 3) := by decide +kernel
theorem dX11_takeExp_133 : decode cX11_takeExp 133 = .ok (.invokevirtual 263, 3) := by decide +kernel
theorem dX11_takeExp_136 : decode cX11_takeExp 136 = .ok (.ireturn, 1) := by decide +kernel
theorem dX11_takeExp_137 : decode cX11_takeExp 137 = .ok (.aload_n 0, 1) := by decide +kernel
theorem dX11_takeExp_138 : decode cX11_takeExp 138 = .ok (.dup, 1) := by decide +kernel
theorem dX11_takeExp_139 : decode cX11_takeExp 139 = .ok (.getfield 292, 3) := by decide +kernel
theorem dX11_takeExp_142 : decode cX11_takeExp 142 = .ok (.iconst 1, 1) := by decide +kernel
theorem dX11_takeExp_143 : decode cX11_takeExp 143 = .ok (.iadd, 1) := by decide +kernel
theorem dX11_takeExp_144 : decode cX11_takeExp 144 = .ok (.putfield 292, 3) := by decide +kernel
theorem dX11_takeExp_147 : decode cX11_takeExp 147 = .ok (.aload_n 0, 1) := by decide +kernel
theorem dX11_takeExp_148 : decode cX11_takeExp 148 = .ok (.getfield 126, 3) := by decide +kernel
theorem dX11_takeExp_151 : decode cX11_takeExp 151 = .ok (.aload_n 0, 1) := by decide +kernel
theorem dX11_takeExp_152 : decode cX11_takeExp 152 = .ok (.getfield 286, 3) := by decide +kernel
theorem dX11_takeExp_155 : decode cX11_takeExp 155 = .ok (.aload_n 0, 1) := by decide +kernel
theorem dX11_takeExp_156 : decode cX11_takeExp 156 = .ok (.aload_n 0, 1) := by decide +kernel
theorem dX11_takeExp_157 : decode cX11_takeExp 157 = .ok (.getfield 236, 3) := by decide +kernel
theorem dX11_takeExp_160 : decode cX11_takeExp 160 = .ok (.invokevirtual 239, 3) := by decide +kernel
theorem dX11_takeExp_163 : decode cX11_takeExp 163 = .ok (.iastore, 1) := by decide +kernel
theorem dX11_takeExp_164 : decode cX11_takeExp 164 = .ok (.aload_n 0, 1) := by decide +kernel
theorem dX11_takeExp_165 : decode cX11_takeExp 165 = .ok (.dup, 1) := by decide +kernel
theorem dX11_takeExp_166 : decode cX11_takeExp 166 = .ok (.getfield 286, 3) := by decide +kernel
theorem dX11_takeExp_169 : decode cX11_takeExp 169 = .ok (.iconst 1, 1) := by decide +kernel
theorem dX11_takeExp_170 : decode cX11_takeExp 170 = .ok (.iadd, 1) := by decide +kernel
theorem dX11_takeExp_171 : decode cX11_takeExp 171 = .ok (.putfield 286, 3) := by decide +kernel
theorem dX11_takeExp_174 : decode cX11_takeExp 174 = .ok (.goto 80, 3) := by decide +kernel
theorem dX11_takeExp_177 : decode cX11_takeExp 177 = .ok (.aload_n 0, 1) := by decide +kernel
theorem dX11_takeExp_178 : decode cX11_takeExp 178 = .ok (.getfield 243, 3) := by decide +kernel
theorem dX11_takeExp_181 : decode cX11_takeExp 181 = .ok (.iconst 1, 1) := by decide +kernel
theorem dX11_takeExp_182 : decode cX11_takeExp 182 = .ok (.if_icmp .ne 15, 3) := by decide +kernel
theorem dX11_takeExp_185 : decode cX11_takeExp 185 = .ok (.aload_n 0, 1) := by decide +kernel
theorem dX11_takeExp_186 : decode cX11_takeExp 186 = .ok (.iload_n 1, 1) := by decide +kernel
theorem dX11_takeExp_187 : decode cX11_takeExp 187 = .ok (.aload_n 0, 1) := by decide +kernel
theorem dX11_takeExp_188 : decode cX11_takeExp 188 = .ok (.getfield 246, 3) := by decide +kernel
theorem dX11_takeExp_191 : decode cX11_takeExp 191 = .ok (.invokevirtual 295, 3) := by decide +kernel
theorem dX11_takeExp_194 : decode cX11_takeExp 194 = .ok (.goto 30, 3) := by decide +kernel
theorem dX11_takeExp_197 : decode cX11_takeExp 197 = .ok (.aload_n 0, 1) := by decide +kernel
theorem dX11_takeExp_198 : decode cX11_takeExp 198 = .ok (.bipush 48, 2) := by decide +kernel
theorem dX11_takeExp_200 : decode cX11_takeExp 200 = .ok (.invokevirtual 267, 3) := by decide +kernel
theorem dX11_takeExp_203 : decode cX11_takeExp 203 = .ok (.ifCond .eq 7, 3) := by decide +kernel
theorem dX11_takeExp_206 : decode cX11_takeExp 206 = .ok (.iconst 0, 1) := by decide +kernel
theorem dX11_takeExp_207 : decode cX11_takeExp 207 = .ok (.goto 17, 3) := by decide +kernel
theorem dX11_takeExp_210 : decode cX11_takeExp 210 = .ok (.aload_n 0, 1) := by decide +kernel
theorem dX11_takeExp_211 : decode cX11_takeExp 211 = .ok (.bipush 49, 2) := by decide +kernel
theorem dX11_takeExp_213 : decode cX11_takeExp 213 = .ok (.invokevirtual 267, 3) := by decide +kernel
theorem dX11_takeExp_216 : decode cX11_takeExp 216 = .ok (.ifCond .eq 7, 3) := by decide +kernel
theorem dX11_takeExp_219 : decode cX11_takeExp 219 = .ok (.iconst 1, 1) := by decide +kernel
theorem dX11_takeExp_220 : decode cX11_takeExp 220 = .ok (.goto 4, 3) := by decide +kernel
theorem dX11_takeExp_223 : decode cX11_takeExp 223 = .ok (.iconst 2, 1) := by decide +kernel
theorem dX11_takeExp_224 : decode cX11_takeExp 224 = .ok (.istore 6, 2) := by decide +kernel
theorem dX11_takeExp_226 : decode cX11_takeExp 226 = .ok (.iload 6, 2) := by decide +kernel
theorem dX11_takeExp_228 : decode cX11_takeExp 228 = .ok (.iconst (-1), 1) := by decide +kernel
theorem dX11_takeExp_229 : decode cX11_takeExp 229 = .ok (.if_icmp .ne 13, 3) := by decide +kernel
theorem dX11_takeExp_232 : decode cX11_takeExp 232 = .ok (.aload_n 0, 1) := by decide +kernel
theorem dX11_takeExp_233 : decode cX11_takeExp 233 = .ok (.iconst 3, 1) := by decide +kernel
theorem dX11_takeExp_234 : decode cX11_takeExp 234 = .ok (.aload_n 0, 1) := by decide +kernel
theorem dX11_takeExp_235 : decode cX11_takeExp 235 = .ok (.getfield 236, 3) := by decide +kernel
theorem dX11_takeExp_238 : decode cX11_takeExp 238 = .ok (.invokevirtual 263, 3) := by decide +kernel
theorem dX11_takeExp_241 : decode cX11_takeExp 241 = .ok (.ireturn, 1) := by decide +kernel
theorem dX11_takeExp_242 : decode cX11_takeExp 242 = .ok (.aload_n 0, 1) := by decide +kernel
theorem dX11_takeExp_243 : decode cX11_takeExp 243 = .ok (.iload 6, 2) := by decide +kernel
theorem dX11_takeExp_245 : decode cX11_takeExp 245 = .ok (.invokevirtual 289, 3) := by decide +kernel
theorem dX11_takeExp_248 : decode cX11_takeExp 248 = .ok (.aload_n 0, 1) := by decide +kernel
theorem dX11_takeExp_249 : decode cX11_takeExp 249 = .ok (.invokevirtual 299, 3) := by decide +kernel
theorem dX11_takeExp_252 : decode cX11_takeExp 252 = .ok (.iconst 0, 1) := by decide +kernel
theorem dX11_takeExp_253 : decode cX11_takeExp 253 = .ok (.istore_n 3, 1) := by decide +kernel
theorem dX11_takeExp_254 : decode cX11_takeExp 254 = .ok (.aload_n 0, 1) := by decide +kernel
theorem dX11_takeExp_255 : decode cX11_takeExp 255 = .ok (.invokevirtual 274, 3) := by decide +kernel
theorem dX11_takeExp_258 : decode cX11_takeExp 258 = .ok (.goto (-233), 3) := by decide +kernel
theorem dX11_takeExp_261 : decode cX11_takeExp 261 = .ok (.aload_n 0, 1) := by decide +kernel
theorem dX11_takeExp_262 : decode cX11_takeExp 262 = .ok (.bipush 38, 2) := by decide +kernel
theorem dX11_takeExp_264 : decode cX11_takeExp 264 = .ok (.invokevirtual 267, 3) := by decide +kernel
theorem dX11_takeExp_267 : decode cX11_takeExp 267 = .ok (.ifCond .ne 12, 3) := by decide +kernel
theorem dX11_takeExp_270 : decode cX11_takeExp 270 = .ok (.aload_n 0, 1) := by decide +kernel
theorem dX11_takeExp_271 : decode cX11_takeExp 271 = .ok (.bipush 124, 2) := by decide +kernel
theorem dX11_takeExp_273 : decode cX11_takeExp 273 = .ok (.invokevirtual 267, 3) := by decide +kernel
theorem dX11_takeExp_276 : decode cX11_takeExp 276 = .ok (.ifCond .eq 49, 3) := by decide +kernel
theorem dX11_takeExp_279 : decode cX11_takeExp 279 = .ok (.aload_n 0, 1) := by decide +kernel
theorem dX11_takeExp_280 : decode cX11_takeExp 280 = .ok (.aload_n 0, 1) := by decide +kernel
theorem dX11_takeExp_281 : decode cX11_takeExp 281 = .ok (.bipush 124, 2) := by decide +kernel
theorem dX11_takeExp_283 : decode cX11_takeExp 283 = .ok (.invokevirtual 267, 3) := by decide +kernel
theorem dX11_takeExp_286 : decode cX11_takeExp 286 = .ok (.invokevirtual 302, 3) := by decide +kernel
theorem dX11_takeExp_289 : decode cX11_takeExp 289 = .ok (.aload_n 0, 1) := by decide +kernel
theorem dX11_takeExp_290 : decode cX11_takeExp 290 = .ok (.getfield 126, 3) := by decide +kernel
theorem dX11_takeExp_293 : decode cX11_takeExp 293 = .ok (.aload_n 0, 1) := by decide +kernel
