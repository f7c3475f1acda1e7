theorem dX12_init_0 : decode cX12_init 0 = .ok (.aload_n 0, 1) := by decide +kernel
theorem dX12_init_1 : decode cX12_init 1 = .ok (.invokespecial 1, 3) := by decide +kernel
theorem dX12_init_4 : decode cX12_init 4 = .ok (.aload_n 0, 1) := by decide +kernel
theorem dX12_init_5 : decode cX12_init 5 = .ok (.bipush 8, 2) := by decide +kernel
theorem dX12_init_7 : decode cX12_init 7 = .ok (.newarray .int, 2) := by decide +kernel
theorem dX12_init_9 : decode cX12_init 9 = .ok (.dup, 1) := by decide +kernel
theorem dX12_init_10 : decode cX12_init 10 = .ok (.iconst 0, 1) := by decide +kernel
theorem dX12_init_11 : decode cX12_init 11 = .ok (.iconst (-1), 1) := by decide +kernel
theorem dX12_init_12 : decode cX12_init 12 = .ok (.iastore, 1) := by decide +kernel
theorem dX12_init_13 : decode cX12_init 13 = .ok (.dup, 1) := by decide +kernel
theorem dX12_init_14 : decode cX12_init 14 = .ok (.iconst 1, 1) := by decide +kernel
theorem dX12_init_15 : decode cX12_init 15 = .ok (.iconst (-1), 1) := by decide +kernel
theorem dX12_init_16 : decode cX12_init 16 = .ok (.iastore, 1) := by decide +kernel
theorem dX12_init_17 : decode cX12_init 17 = .ok (.dup, 1) := by decide +kernel
theorem dX12_init_18 : decode cX12_init 18 = .ok (.iconst 2, 1) := by decide +kernel
theorem dX12_init_19 : decode cX12_init 19 = .ok (.iconst (-1), 1) := by decide +kernel
theorem dX12_init_20 : decode cX12_init 20 = .ok (.iastore, 1) := by decide +kernel
theorem dX12_init_21 : decode cX12_init 21 = .ok (.dup, 1) := by decide +kernel
theorem dX12_init_22 : decode cX12_init 22 = .ok (.iconst 3, 1) := by decide +kernel
theorem dX12_init_23 : decode cX12_init 23 = .ok (.iconst (-1), 1) := by decide +kernel
theorem dX12_init_24 : decode cX12_init 24 = .ok (.iastore, 1) := by decide +kernel
theorem dX12_init_25 : decode cX12_init 25 = .ok (.dup, 1) := by decide +kernel
theorem dX12_init_26 : decode cX12_init 26 = .ok (.iconst 4, 1) := by decide +kernel
theorem dX12_init_27 : decode cX12_init 27 = .ok (.iconst (-1), 1) := by decide +kernel
theorem dX12_init_28 : decode cX12_init 28 = .ok (.iastore, 1) := by decide +kernel
theorem dX12_init_29 : decode cX12_init 29 = .ok (.dup, 1) := by decide +kernel
theorem dX12_init_30 : decode cX12_init 30 = .ok (.iconst 5, 1) := by decide +kernel
theorem dX12_init_31 : decode cX12_init 31 = .ok (.iconst (-1), 1) := by decide +kernel
theorem dX12_init_32 : decode cX12_init 32 = .ok (.iastore, 1) := by decide +kernel
theorem dX12_init_33 : decode cX12_init 33 = .ok (.dup, 1) := by decide +kernel
theorem dX12_init_34 : decode cX12_init 34 = .ok (.bipush 6, 2) := by decide +kernel
theorem dX12_init_36 : decode cX12_init 36 = .ok (.iconst (-1), 1) := by decide +kernel
theorem dX12_init_37 : decode cX12_init 37 = .ok (.iastore, 1) := by decide +kernel
theorem dX12_init_38 : decode cX12_init 38 = .ok (.dup, 1) := by decide +kernel
theorem dX12_init_39 : decode cX12_init 39 = .ok (.bipush 7, 2) := by decide +kernel
theorem dX12_init_41 : decode cX12_init 41 = .ok (.iconst (-1), 1) := by decide +kernel
theorem dX12_init_42 : decode cX12_init 42 = .ok (.iastore, 1) := by decide +kernel
theorem dX12_init_43 : decode cX12_init 43 = .ok (.putfield 7, 3) := by decide +kernel
theorem dX12_init_46 : decode cX12_init 46 = .ok (.aload_n 0, 1) := by decide +kernel
theorem dX12_init_47 : decode cX12_init 47 = .ok (.bipush 8, 2) := by decide +kernel
theorem dX12_init_49 : decode cX12_init 49 = .ok (.newarray .int, 2) := by decide +kernel
theorem dX12_init_51 : decode cX12_init 51 = .ok (.putfield 13, 3) := by decide +kernel
theorem dX12_init_54 : decode cX12_init 54 = .ok (.aload_n 0, 1) := by decide +kernel
theorem dX12_init_55 : decode cX12_init 55 = .ok (.sipush 160, 3) := by decide +kernel
theorem dX12_init_58 : decode cX12_init 58 = .ok (.newarray .int, 2) := by decide +kernel
theorem dX12_init_60 : decode cX12_init 60 = .ok (.putfield 16, 3) := by decide +kernel
theorem dX12_init_63 : decode cX12_init 63 = .ok (.aload_n 0, 1) := by decide +kernel
theorem dX12_init_64 : decode cX12_init 64 = .ok (.sipush 300, 3) := by decide +kernel
theorem dX12_init_67 : decode cX12_init 67 = .ok (.newarray .int, 2) := by decide +kernel
theorem dX12_init_69 : decode cX12_init 69 = .ok (.putfield 19, 3) := by decide +kernel
theorem dX12_init_72 : decode cX12_init 72 = .ok (.aload_n 0, 1) := by decide +kernel
theorem dX12_init_73 : decode cX12_init 73 = .ok (.bipush 8, 2) := by decide +kernel
theorem dX12_init_75 : decode cX12_init 75 = .ok (.newarray .int, 2) := by decide +kernel
theorem dX12_init_77 : decode cX12_init 77 = .ok (.putfield 22, 3) := by decide +kernel
theorem dX12_init_80 : decode cX12_init 80 = .ok (.aload_n 0, 1) := by decide +kernel
theorem dX12_init_81 : decode cX12_init 81 = .ok (.bipush 120, 2) := by decide +kernel
theorem dX12_init_83 : decode cX12_init 83 = .ok (.newarray .int, 2) := by decide +kernel
theorem dX12_init_85 : decode cX12_init 85 = .ok (.putfield 25, 3) := by decide +kernel
theorem dX12_init_88 : decode cX12_init 88 = .ok (.aload_n 0, 1) := by decide +kernel
theorem dX12_init_89 : decode cX12_init 89 = .ok (.bipush 120, 2) := by decide +kernel
theorem dX12_init_91 : decode cX12_init 91 = .ok (.newarray .int, 2) := by decide +kernel
theorem dX12_init_93 : decode cX12_init 93 = .ok (.putfield 28, 3) := by decide +kernel
theorem dX12_init_96 : decode cX12_init 96 = .ok (.aload_n 0, 1) := by decide +kernel
theorem dX12_init_97 : decode cX12_init 97 = .ok (.bipush 120, 2) := by decide +kernel
theorem dX12_init_99 : decode cX12_init 99 = .ok (.newarray .int, 2) := by decide +kernel
theorem dX12_init_101 : decode cX12_init 101 = .ok (.putfield 31, 3) := by decide +kernel
theorem dX12_init_104 : decode cX12_init 104 = .ok (.aload_n 0, 1) := by decide +kernel
theorem dX12_init_105 : decode cX12_init 105 = .ok (.bipush 8, 2) := by decide +kernel
theorem dX12_init_107 : decode cX12_init 107 = .ok (.newarray .int, 2) := by decide +kernel
theorem dX12_init_109 : decode cX12_init 109 = .ok (.putfield 34, 3) := by decide +kernel
theorem dX12_init_112 : decode cX12_init 112 = .ok (.aload_n 0, 1) := by decide +kernel
theorem dX12_init_113 : decode cX12_init 113 = .ok (.iconst 4, 1) := by decide +kernel
theorem dX12_init_114 : decode cX12_init 114 = .ok (.putfield 37, 3) := by decide +kernel
theorem dX12_init_117 : decode cX12_init 117 = .ok (.aload_n 0, 1) := by decide +kernel
theorem dX12_init_118 : decode cX12_init 118 = .ok (.bipush 10, 2) := by decide +kernel
theorem dX12_init_120 : decode cX12_init 120 = .ok (.newarray .int, 2) := by decide +kernel
theorem dX12_init_122 : decode cX12_init 122 = .ok (.putfield 41, 3) := by decide +kernel
theorem dX12_init_125 : decode cX12_init 125 = .ok (.aload_n 0, 1) := by decide +kernel
theorem dX12_init_126 : decode cX12_init 126 = .ok (.bipush 10, 2) := by decide +kernel
theorem dX12_init_128 : decode cX12_init 128 = .ok (.newarray .int, 2) := by decide +kernel
theorem dX12_init_130 : decode cX12_init 130 = .ok (.dup, 1) := by decide +kernel
theorem dX12_init_131 : decode cX12_init 131 = .ok (.iconst 0, 1) := by decide +kernel
theorem dX12_init_132 : decode cX12_init 132 = .ok (.iconst 1, 1) := by decide +kernel
theorem dX12_init_133 : decode cX12_init 133 = .ok (.iastore, 1) := by decide +kernel
theorem dX12_init_134 : decode cX12_init 134 = .ok (.dup, 1) := by decide +kernel
theorem dX12_init_135 : decode cX12_init 135 = .ok (.iconst 1, 1) := by decide +kernel
theorem dX12_init_136 : decode cX12_init 136 = .ok (.iconst 1, 1) := by decide +kernel
theorem dX12_init_137 : decode cX12_init 137 = .ok (.iastore, 1) := by decide +kernel
theorem dX12_init_138 : decode cX12_init 138 = .ok (.dup, 1) := by decide +kernel
theorem dX12_init_139 : decode cX12_init 139 = .ok (.iconst 2, 1) := by decide +kernel
theorem dX12_init_140 : decode cX12_init 140 = .ok (.iconst 1, 1) := by decide +kernel
theorem dX12_init_141 : decode cX12_init 141 = .ok (.iastore, 1) := by decide +kernel
theorem dX12_init_142 : decode cX12_init 142 = .ok (.dup, 1) := by decide +kernel
theorem dX12_init_143 : decode cX12_init 143 = .ok (.iconst 3, 1) := by decide +kernel
theorem dX12_init_144 : decode cX12_init 144 = .ok (.iconst 1, 1) := by decide +kernel
theorem dX12_init_145 : decode cX12_init 145 = .ok (.iastore, 1) := by decide +kernel
theorem dX12_init_146 : decode cX12_init 146 = .ok (.dup, 1) := by decide +kernel
theorem dX12_init_147 : decode cX12_init 147 = .ok (.iconst 4, 1) := by decide +kernel
theorem dX12_init_148 : decode cX12_init 148 = .ok (.iconst 1, 1) := by decide +kernel
theorem dX12_init_149 : decode cX12_init 149 = .ok (.iastore, 1) := by decide +kernel
theorem dX12_init_150 : decode cX12_init 150 = .ok (.dup, 1) := by decide +kernel
theorem dX12_init_151 : decode cX12_init 151 = .ok (.iconst 5, 1) := by decide +kernel
theorem dX12_init_152 : decode cX12_init 152 = .ok (.iconst 1, 1) := by decide +kernel
theorem dX12_init_153 : decode cX12_init 153 = .ok (.iastore, 1) := by decide +kernel
theorem dX12_init_154 : decode cX12_init 154 = .ok (.dup, 1) := by decide +kernel
theorem dX12_init_155 : decode cX12_init 155 = .ok (.bipush 6, 2) := by decide +kernel
theorem dX12_init_157 : decode cX12_init 157 = .ok (.iconst 1, 1) := by decide +kernel
theorem dX12_init_158 : decode cX12_init 158 = .ok (.iastore, 1) := by decide +kernel
theorem dX12_init_159 : decode cX12_init 159 = .ok (.dup, 1) := by decide +kernel
theorem dX12_init_160 : decode cX12_init 160 = .ok (.bipush 7, 2) := by decide +kernel
theorem dX12_init_162 : decode cX12_init 162 = .ok (.iconst 1, 1) := by decide +kernel
theorem dX12_init_163 : decode cX12_init 163 = .ok (.iastore, 1) := by decide +kernel
theorem dX12_init_164 : decode cX12_init 164 = .ok (.dup, 1) := by decide +kernel
theorem dX12_init_165 : decode cX12_init 165 = .ok (.bipush 8, 2) := by decide +kernel
theorem dX12_init_167 : decode cX12_init 167 = .ok (.iconst 1, 1) := by decide +kernel
theorem dX12_init_168 : decode cX12_init 168 = .ok (.iastore, 1) := by decide +kernel
theorem dX12_init_169 : decode cX12_init 169 = .ok (.dup, 1) := by decide +kernel
theorem dX12_init_170 : decode cX12_init 170 = .ok (.bipush 9, 2) := by decide +kernel
theorem dX12_init_172 : decode cX12_init 172 = .ok (.iconst 1, 1) := by decide +kernel
theorem dX12_init_173 : decode cX12_init 173 = .ok (.iastore, 1) := by decide +kernel
theorem dX12_init_174 : decode cX12_init 174 = .ok (.putfield 44, 3) := by decide +kernel
theorem dX12_init_177 : decode cX12_init 177 = .ok (.aload_n 0, 1) := by decide +kernel
theorem dX12_init_178 : decode cX12_init 178 = .ok (.iconst 2, 1) := by decide +kernel
theorem dX12_init_179 : decode cX12_init 179 = .ok (.newarray .int, 2) := by decide +kernel
theorem dX12_init_181 : decode cX12_init 181 = .ok (.putfield 47, 3) := by decide +kernel
theorem dX12_init_184 : decode cX12_init 184 = .ok (.aload_n 0, 1) := by decide +kernel
theorem dX12_init_185 : decode cX12_init 185 = .ok (.sipush 1220, 3) := by decide +kernel
theorem dX12_init_188 : decode cX12_init 188 = .ok (.newarray .int, 2) := by decide +kernel
theorem dX12_init_190 : decode cX12_init 190 = .ok (.putfield 50, 3) := by decide +kernel
theorem dX12_init_193 : decode cX12_init 193 = .ok (.aload_n 0, 1) := by decide +kernel
theorem dX12_init_194 : decode cX12_init 194 = .ok (.bipush 60, 2) := by decide +kernel
theorem dX12_init_196 : decode cX12_init 196 = .ok (.newarray .int, 2) := by decide +kernel
theorem dX12_init_198 : decode cX12_init 198 = .ok (.putfield 53, 3) := by decide +kernel
theorem dX12_init_201 : decode cX12_init 201 = .ok (.aload_n 0, 1) := by decide +kernel
theorem dX12_init_202 : decode cX12_init 202 = .ok (.bipush 60, 2) := by decide +kernel
theorem dX12_init_204 : decode cX12_init 204 = .ok (.newarray .boolean, 2) := by decide +kernel
theorem dX12_init_206 : decode cX12_init 206 = .ok (.putfield 56, 3) := by decide +kernel
theorem dX12_init_209 : decode cX12_init 209 = .ok (.aload_n 0, 1) := by decide +kernel
theorem dX12_init_210 : decode cX12_init 210 = .ok (.bipush 60, 2) := by decide +kernel
theorem dX12_init_212 : decode cX12_init 212 = .ok (.newarray .int, 2) := by decide +kernel
theorem dX12_init_214 : decode cX12_init 214 = .ok (.putfield 60, 3) := by decide +kernel
theorem dX12_init_217 : decode cX12_init 217 = .ok (.aload_n 0, 1) := by decide +kernel
theorem dX12_init_218 : decode cX12_init 218 = .ok (.bipush 12, 2) := by decide +kernel
theorem dX12_init_220 : decode cX12_init 220 = .ok (.newarray .int, 2) := by decide +kernel
theorem dX12_init_222 : decode cX12_init 222 = .ok (.putfield 63, 3) := by decide +kernel
theorem dX12_init_225 : decode cX12_init 225 = .ok (.aload_n 0, 1) := by decide +kernel
theorem dX12_init_226 : decode cX12_init 226 = .ok (.bipush 12, 2) := by decide +kernel
theorem dX12_init_228 : decode cX12_init 228 = .ok (.newarray .int, 2) := by decide +kernel
theorem dX12_init_230 : decode cX12_init 230 = .ok (.putfield 66, 3) := by decide +kernel
theorem dX12_init_233 : decode cX12_init 233 = .ok (.aload_n 0, 1) := by decide +kernel
theorem dX12_init_234 : decode cX12_init 234 = .ok (.bipush 12, 2) := by decide +kernel
theorem dX12_init_236 : decode cX12_init 236 = .ok (.newarray .int, 2) := by decide +kernel
theorem dX12_init_238 : decode cX12_init 238 = .ok (.putfield 69, 3) := by decide +kernel
theorem dX12_init_241 : decode cX12_init 241 = .ok (.aload_n 0, 1) := by decide +kernel
theorem dX12_init_242 : decode cX12_init 242 = .ok (.bipush 12, 2) := by decide +kernel
theorem dX12_init_244 : decode cX12_init 244 = .ok (.newarray .int, 2) := by decide +kernel
theorem dX12_init_246 : decode cX12_init 246 = .ok (.putfield 72, 3) := by decide +kernel
theorem dX12_init_249 : decode cX12_init 249 = .ok (.aload_n 0, 1) := by decide +kernel
theorem dX12_init_250 : decode cX12_init 250 = .ok (.bipush 12, 2) := by decide +kernel
theorem dX12_init_252 : decode cX12_init 252 = .ok (.newarray .boolean, 2) := by decide +kernel
theorem dX12_init_254 : decode cX12_init 254 = .ok (.putfield 75, 3) := by decide +kernel
theorem dX12_init_257 : decode cX12_init 257 = .ok (.aload_n 0, 1) := by decide +kernel
theorem dX12_init_258 : decode cX12_init 258 = .ok (.bipush 10, 2) := by decide +kernel
theorem dX12_init_260 : decode cX12_init 260 = .ok (.newarray .int, 2) := by decide +kernel
theorem dX12_init_262 : decode cX12_init 262 = .ok (.putfield 78, 3) := by decide +kernel
theorem dX12_init_265 : decode cX12_init 265 = .ok (.aload_n 0, 1) := by decide +kernel
theorem dX12_init_266 : decode cX12_init 266 = .ok (.bipush 10, 2) := by decide +kernel
theorem dX12_init_268 : decode cX12_init 268 = .ok (.newarray .int, 2) := by decide +kernel
theorem dX12_init_270 : decode cX12_init 270 = .ok (.putfield 81, 3) := by decide +kernel
theorem dX12_init_273 : decode cX12_init 273 = .ok (.aload_n 0, 1) := by decide +kernel
theorem dX12_init_274 : decode cX12_init 274 = .ok (.bipush 10, 2) := by decide +kernel
theorem dX12_init_276 : decode cX12_init 276 = .ok (.newarray .int, 2) := by decide +kernel
theorem dX12_init_278 : decode cX12_init 278 = .ok (.putfield 84, 3) := by decide +kernel
theorem dX12_init_281 : decode cX12_init 281 = .ok (.aload_n 0, 1) := by decide +kernel
theorem dX12_init_282 : decode cX12_init 282 = .ok (.iconst 2, 1) := by decide +kernel
theorem dX12_init_283 : decode cX12_init 283 = .ok (.newarray .int, 2) := by decide +kernel
theorem dX12_init_285 : decode cX12_init 285 = .ok (.putfield 87, 3) := by decide +kernel
theorem dX12_init_288 : decode cX12_init 288 = .ok (.aload_n 0, 1) := by decide +kernel
theorem dX12_init_289 : decode cX12_init 289 = .ok (.sipush 287, 3) := by decide +kernel
theorem dX12_init_292 : decode cX12_init 292 = .ok (.newarray .int, 2) := by decide +kernel
theorem dX12_init_294 : decode cX12_init 294 = .ok (.putfield 90, 3) := by decide +kernel
theorem dX12_init_297 : decode cX12_init 297 = .ok (.aload_n 0, 1) := by decide +kernel
theorem dX12_init_298 : decode cX12_init 298 = .ok (.sipush 287, 3) := by decide +kernel
theorem dX12_init_301 : decode cX12_init 301 = .ok (.newarray .int, 2) := by decide +kernel
theorem dX12_init_303 : decode cX12_init 303 = .ok (.putfield 93, 3) := by decide +kernel
theorem dX12_init_306 : decode cX12_init 306 = .ok (.aload_n 0, 1) := by decide +kernel
theorem dX12_init_307 : decode cX12_init 307 = .ok (.bipush 10, 2) := by decide +kernel
theorem dX12_init_309 : decode cX12_init 309 = .ok (.newarray .boolean, 2) := by decide +kernel
theorem dX12_init_311 : decode cX12_init 311 = .ok (.putfield 96, 3) := by decide +kernel
theorem dX12_init_314 : decode cX12_init 314 = .ok (.aload_n 0, 1) := by decide +kernel
theorem dX12_init_315 : decode cX12_init 315 = .ok (.bipush 10, 2) := by decide +kernel
theorem dX12_init_317 : decode cX12_init 317 = .ok (.newarray .int, 2) := by decide +kernel
theorem dX12_init_319 : decode cX12_init 319 = .ok (.putfield 99, 3) := by decide +kernel
theorem dX12_init_322 : decode cX12_init 322 = .ok (.aload_n 0, 1) := by decide +kernel
theorem dX12_init_323 : decode cX12_init 323 = .ok (.bipush 60, 2) := by decide +kernel
theorem dX12_init_325 : decode cX12_init 325 = .ok (.newarray .int, 2) := by decide +kernel
theorem dX12_init_327 : decode cX12_init 327 = .ok (.putfield 102, 3) := by decide +kernel
theorem dX12_init_330 : decode cX12_init 330 = .ok (.aload_n 0, 1) := by decide +kernel
theorem dX12_init_331 : decode cX12_init 331 = .ok (.bipush 6, 2) := by decide +kernel
theorem dX12_init_333 : decode cX12_init 333 = .ok (.newarray .int, 2) := by decide +kernel
theorem dX12_init_335 : decode cX12_init 335 = .ok (.putfield 105, 3) := by decide +kernel
theorem dX12_init_338 : decode cX12_init 338 = .ok (.aload_n 0, 1) := by decide +kernel
theorem dX12_init_339 : decode cX12_init 339 = .ok (.sipush 210, 3) := by decide +kernel
theorem dX12_init_342 : decode cX12_init 342 = .ok (.newarray .int, 2) := by decide +kernel
theorem dX12_init_344 : decode cX12_init 344 = .ok (.putfield 108, 3) := by decide +kernel
theorem dX12_init_347 : decode cX12_init 347 = .ok (.aload_n 0, 1) := by decide +kernel
theorem dX12_init_348 : decode cX12_init 348 = .ok (.bipush 16, 2) := by decide +kernel
theorem dX12_init_350 : decode cX12_init 350 = .ok (.newarray .int, 2) := by decide +kernel
theorem dX12_init_352 : decode cX12_init 352 = .ok (.putfield 111, 3) := by decide +kernel
theorem dX12_init_355 : decode cX12_init 355 = .ok (.return_, 1) := by decide +kernel
theorem dX12_within_0 : decode cX12_within 0 = .ok (.iload_n 0, 1) := by decide +kernel
theorem dX12_within_1 : decode cX12_within 1 = .ok (.iload_n 1, 1) := by decide +kernel
theorem dX12_within_2 : decode cX12_within 2 = .ok (.if_icmp .lt 12, 3) := by decide +kernel
theorem dX12_within_5 : decode cX12_within 5 = .ok (.iload_n 0, 1) := by decide +kernel
theorem dX12_within_6 : decode cX12_within 6 = .ok (.iload_n 2, 1) := by decide +kernel
theorem dX12_within_7 : decode cX12_within 7 = .ok (.if_icmp .gt 7, 3) := by decide +kernel
theorem dX12_within_10 : decode cX12_within 10 = .ok (.iconst 1, 1) := by decide +kernel
theorem dX12_within_11 : decode cX12_within 11 = .ok (.goto 4, 3) := by decide +kernel
theorem dX12_within_14 : decode cX12_within 14 = .ok (.iconst 0, 1) := by decide +kernel
theorem dX12_within_15 : decode cX12_within 15 = .ok (.ireturn, 1) := by decide +kernel
theorem dX12_refused_0 : decode cX12_refused 0 = .ok (.ldc2_w 114, 3) := by decide +kernel
theorem dX12_refused_3 : decode cX12_refused 3 = .ok (.iload_n 0, 1) := by decide +kernel
theorem dX12_refused_4 : decode cX12_refused 4 = .ok (.i2l, 1) := by decide +kernel
theorem dX12_refused_5 : decode cX12_refused 5 = .ok (.lsub, 1) := by decide +kernel
theorem dX12_refused_6 : decode cX12_refused 6 = .ok (.lreturn, 1) := by decide +kernel
theorem dX12_finds_0 : decode cX12_finds 0 = .ok (.aload_n 0, 1) := by decide +kernel
theorem dX12_finds_1 : decode cX12_finds 1 = .ok (.iload_n 1, 1) := by decide +kernel
theorem dX12_finds_2 : decode cX12_finds 2 = .ok (.putfield 116, 3) := by decide +kernel
theorem dX12_finds_5 : decode cX12_finds 5 = .ok (.ldc2_w 119, 3) := by decide +kernel
theorem dX12_finds_8 : decode cX12_finds 8 = .ok (.iload_n 1, 1) := by decide +kernel
theorem dX12_finds_9 : decode cX12_finds 9 = .ok (.i2l, 1) := by decide +kernel
theorem dX12_finds_10 : decode cX12_finds 10 = .ok (.lsub, 1) := by decide +kernel
theorem dX12_finds_11 : decode cX12_finds 11 = .ok (.lreturn, 1) := by decide +kernel
theorem dX12_isRow_0 : decode cX12_isRow 0 = .ok (.iload_n 0, 1) := by decide +kernel
theorem dX12_isRow_1 : decode cX12_isRow 1 = .ok (.iconst 0, 1) := by decide +kernel
theorem dX12_isRow_2 : decode cX12_isRow 2 = .ok (.bipush 7, 2) := by decide +kernel
theorem dX12_isRow_4 : decode cX12_isRow 4 = .ok (.invokestatic 121, 3) := by decide +kernel
theorem dX12_isRow_7 : decode cX12_isRow 7 = .ok (.ireturn, 1) := by decide +kernel
theorem dX12_row_0 : decode cX12_row 0 = .ok (.iload_n 1, 1) := by decide +kernel
theorem dX12_row_1 : decode cX12_row 1 = .ok (.invokestatic 125, 3) := by decide +kernel
theorem dX12_row_4 : decode cX12_row 4 = .ok (.ifCond .eq 18, 3) := by decide +kernel
theorem dX12_row_7 : decode cX12_row 7 = .ok (.iload_n 2, 1) := by decide +kernel
theorem dX12_row_8 : decode cX12_row 8 = .ok (.iconst 0, 1) := by decide +kernel
theorem dX12_row_9 : decode cX12_row 9 = .ok (.iconst 2, 1) := by decide +kernel
theorem dX12_row_10 : decode cX12_row 10 = .ok (.invokestatic 121, 3) := by decide +kernel
theorem dX12_row_13 : decode cX12_row 13 = .ok (.ifCond .eq 9, 3) := by decide +kernel
theorem dX12_row_16 : decode cX12_row 16 = .ok (.iload_n 3, 1) := by decide +kernel
theorem dX12_row_17 : decode cX12_row 17 = .ok (.bipush 20, 2) := by decide +kernel
theorem dX12_row_19 : decode cX12_row 19 = .ok (.if_icmp .le 8, 3) := by decide +kernel
theorem dX12_row_22 : decode cX12_row 22 = .ok (.iconst 1, 1) := by decide +kernel
theorem dX12_row_23 : decode cX12_row 23 = .ok (.invokestatic 129, 3) := by decide +kernel
theorem dX12_row_26 : decode cX12_row 26 = .ok (.lreturn, 1) := by decide +kernel
theorem dX12_row_27 : decode cX12_row 27 = .ok (.iload_n 3, 1) := by decide +kernel
theorem dX12_row_28 : decode cX12_row 28 = .ok (.ifCond .ge 9, 3) := by decide +kernel
theorem dX12_row_31 : decode cX12_row 31 = .ok (.aload_n 0, 1) := by decide +kernel
theorem dX12_row_32 : decode cX12_row 32 = .ok (.iconst 4, 1) := by decide +kernel
theorem dX12_row_33 : decode cX12_row 33 = .ok (.invokevirtual 133, 3) := by decide +kernel
theorem dX12_row_36 : decode cX12_row 36 = .ok (.lreturn, 1) := by decide +kernel
theorem dX12_row_37 : decode cX12_row 37 = .ok (.aload_n 0, 1) := by decide +kernel
theorem dX12_row_38 : decode cX12_row 38 = .ok (.iconst 0, 1) := by decide +kernel
theorem dX12_row_39 : decode cX12_row 39 = .ok (.putfield 116, 3) := by decide +kernel
theorem dX12_row_42 : decode cX12_row 42 = .ok (.aload_n 0, 1) := by decide +kernel
theorem dX12_row_43 : decode cX12_row 43 = .ok (.getfield 7, 3) := by decide +kernel
theorem dX12_row_46 : decode cX12_row 46 = .ok (.iload_n 1, 1) := by decide +kernel
theorem dX12_row_47 : decode cX12_row 47 = .ok (.iload_n 2, 1) := by decide +kernel
theorem dX12_row_48 : decode cX12_row 48 = .ok (.iastore, 1) := by decide +kernel
theorem dX12_row_49 : decode cX12_row 49 = .ok (.aload_n 0, 1) := by decide +kernel
theorem dX12_row_50 : decode cX12_row 50 = .ok (.getfield 13, 3) := by decide +kernel
theorem dX12_row_53 : decode cX12_row 53 = .ok (.iload_n 1, 1) := by decide +kernel
theorem dX12_row_54 : decode cX12_row 54 = .ok (.iload_n 3, 1) := by decide +kernel
theorem dX12_row_55 : decode cX12_row 55 = .ok (.iastore, 1) := by decide +kernel
theorem dX12_row_56 : decode cX12_row 56 = .ok (.iconst 0, 1) := by decide +kernel
theorem dX12_row_57 : decode cX12_row 57 = .ok (.istore 4, 2) := by decide +kernel
theorem dX12_row_59 : decode cX12_row 59 = .ok (.iload 4, 2) := by decide +kernel
theorem dX12_row_61 : decode cX12_row 61 = .ok (.bipush 20, 2) := by decide +kernel
theorem dX12_row_63 : decode cX12_row 63 = .ok (.if_icmp .ge 22, 3) := by decide +kernel
theorem dX12_row_66 : decode cX12_row 66 = .ok (.aload_n 0, 1) := by decide +kernel
theorem dX12_row_67 : decode cX12_row 67 = .ok (.getfield 16, 3) := by decide +kernel
theorem dX12_row_70 : decode cX12_row 70 = .ok (.bipush 20, 2) := by decide +kernel
theorem dX12_row_72 : decode cX12_row 72 = .ok (.iload_n 1, 1) := by decide +kernel
theorem dX12_row_73 : decode cX12_row 73 = .ok (.imul, 1) := by decide +kernel
theorem dX12_row_74 : decode cX12_row 74 = .ok (.iload 4, 2) := by decide +kernel
theorem dX12_row_76 : decode cX12_row 76 = .ok (.iadd, 1) := by decide +kernel
theorem dX12_row_77 : decode cX12_row 77 = .ok (.iconst 0, 1) := by decide +kernel
theorem dX12_row_78 : decode cX12_row 78 = .ok (.iastore, 1) := by decide +kernel
theorem dX12_row_79 : decode cX12_row 79 = .ok (.iinc 4 1, 3) := by decide +kernel
theorem dX12_row_82 : decode cX12_row 82 = .ok (.goto (-23), 3) := by decide +kernel
theorem dX12_row_85 : decode cX12_row 85 = .ok (.iload_n 3, 1) := by decide +kernel
theorem dX12_row_86 : decode cX12_row 86 = .ok (.i2l, 1) := by decide +kernel
theorem dX12_row_87 : decode cX12_row 87 = .ok (.lreturn, 1) := by decide +kernel
theorem dX12_cut_0 : decode cX12_cut 0 = .ok (.iload_n 0, 1) := by decide +kernel
theorem dX12_cut_1 : decode cX12_cut 1 = .ok (.ifCond .ne 8, 3) := by decide +kernel
theorem dX12_cut_4 : decode cX12_cut 4 = .ok (.iload_n 1, 1) := by decide +kernel
theorem dX12_cut_5 : decode cX12_cut 5 = .ok (.i2b, 1) := by decide +kernel
theorem dX12_cut_6 : decode cX12_cut 6 = .ok (.goto 14, 3) := by decide +kernel
theorem dX12_cut_9 : decode cX12_cut 9 = .ok (.iload_n 0, 1) := by decide +kernel
theorem dX12_cut_10 : decode cX12_cut 10 = .ok (.iconst 1, 1) := by decide +kernel
theorem dX12_cut_11 : decode cX12_cut 11 = .ok (.if_icmp .ne 8, 3) := by decide +kernel
theorem dX12_cut_14 : decode cX12_cut 14 = .ok (.iload_n 1, 1) := by decide +kernel
theorem dX12_cut_15 : decode cX12_cut 15 = .ok (.i2s, 1) := by decide +kernel
theorem dX12_cut_16 : decode cX12_cut 16 = .ok (.goto 4, 3) := by decide +kernel
theorem dX12_cut_19 : decode cX12_cut 19 = .ok (.iload_n 1, 1) := by decide +kernel
theorem dX12_cut_20 : decode cX12_cut 20 = .ok (.ireturn, 1) := by decide +kernel
theorem dX12_set_0 : decode cX12_set 0 = .ok (.iload_n 1, 1) := by decide +kernel
theorem dX12_set_1 : decode cX12_set 1 = .ok (.invokestatic 125, 3) := by decide +kernel
theorem dX12_set_4 : decode cX12_set 4 = .ok (.ifCond .ne 8, 3) := by decide +kernel
theorem dX12_set_7 : decode cX12_set 7 = .ok (.iconst 1, 1) := by decide +kernel
theorem dX12_set_8 : decode cX12_set 8 = .ok (.invokestatic 129, 3) := by decide +kernel
theorem dX12_set_11 : decode cX12_set 11 = .ok (.lreturn, 1) := by decide +kernel
theorem dX12_set_12 : decode cX12_set 12 = .ok (.aload_n 0, 1) := by decide +kernel
theorem dX12_set_13 : decode cX12_set 13 = .ok (.getfield 7, 3) := by decide +kernel
theorem dX12_set_16 : decode cX12_set 16 = .ok (.iload_n 1, 1) := by decide +kernel
theorem dX12_set_17 : decode cX12_set 17 = .ok (.iaload, 1) := by decide +kernel
theorem dX12_set_18 : decode cX12_set 18 = .ok (.ifCond .ge 9, 3) := by decide +kernel
theorem dX12_set_21 : decode cX12_set 21 = .ok (.aload_n 0, 1) := by decide +kernel
theorem dX12_set_22 : decode cX12_set 22 = .ok (.iconst 1, 1) := by decide +kernel
theorem dX12_set_23 : decode cX12_set 23 = .ok (.invokevirtual 133, 3) := by decide +kernel
theorem dX12_set_26 : decode cX12_set 26 = .ok (.lreturn, 1) := by decide +kernel
theorem dX12_set_27 : decode cX12_set 27 = .ok (.iload_n 2, 1) := by decide +kernel
theorem dX12_set_28 : decode cX12_set 28 = .ok (.iconst 0, 1) := by decide +kernel
theorem dX12_set_29 : decode cX12_set 29 = .ok (.aload_n 0, 1) := by decide +kernel
theorem dX12_set_30 : decode cX12_set 30 = .ok (.getfield 13, 3) := by decide +kernel
theorem dX12_set_33 : decode cX12_set 33 = .ok (.iload_n 1, 1) := by decide +kernel
theorem dX12_set_34 : decode cX12_set 34 = .ok (.iaload, 1) := by decide +kernel
theorem dX12_set_35 : decode cX12_set 35 = .ok (.iconst 1, 1) := by decide +kernel
theorem dX12_set_36 : decode cX12_set 36 = .ok (.isub, 1) := by decide +kernel
theorem dX12_set_37 : decode cX12_set 37 = .ok (.invokestatic 121, 3) := by decide +kernel
theorem dX12_set_40 : decode cX12_set 40 = .ok (.ifCond .ne 9, 3) := by decide +kernel
theorem dX12_set_43 : decode cX12_set 43 = .ok (.aload_n 0, 1) := by decide +kernel
theorem dX12_set_44 : decode cX12_set 44 = .ok (.iconst 2, 1) := by decide +kernel
theorem dX12_set_45 : decode cX12_set 45 = .ok (.invokevirtual 133, 3) := by decide +kernel
theorem dX12_set_48 : decode cX12_set 48 = .ok (.lreturn, 1) := by decide +kernel
theorem dX12_set_49 : decode cX12_set 49 = .ok (.aload_n 0, 1) := by decide +kernel
theorem dX12_set_50 : decode cX12_set 50 = .ok (.iconst 0, 1) := by decide +kernel
theorem dX12_set_51 : decode cX12_set 51 = .ok (.putfield 116, 3) := by decide +kernel
theorem dX12_set_54 : decode cX12_set 54 = .ok (.aload_n 0, 1) := by decide +kernel
theorem dX12_set_55 : decode cX12_set 55 = .ok (.getfield 16, 3) := by decide +kernel
theorem dX12_set_58 : decode cX12_set 58 = .ok (.bipush 20, 2) := by decide +kernel
theorem dX12_set_60 : decode cX12_set 60 = .ok (.iload_n 1, 1) := by decide +kernel
theorem dX12_set_61 : decode cX12_set 61 = .ok (.imul, 1) := by decide +kernel
theorem dX12_set_62 : decode cX12_set 62 = .ok (.iload_n 2, 1) := by decide +kernel
theorem dX12_set_63 : decode cX12_set 63 = .ok (.iadd, 1) := by decide +kernel
theorem dX12_set_64 : decode cX12_set 64 = .ok (.aload_n 0, 1) := by decide +kernel
theorem dX12_set_65 : decode cX12_set 65 = .ok (.getfield 7, 3) := by decide +kernel
theorem dX12_set_68 : decode cX12_set 68 = .ok (.iload_n 1, 1) := by decide +kernel
theorem dX12_set_69 : decode cX12_set 69 = .ok (.iaload, 1) := by decide +kernel
theorem dX12_set_70 : decode cX12_set 70 = .ok (.iload_n 3, 1) := by decide +kernel
theorem dX12_set_71 : decode cX12_set 71 = .ok (.invokestatic 136, 3) := by decide +kernel
theorem dX12_set_74 : decode cX12_set 74 = .ok (.iastore, 1) := by decide +kernel
theorem dX12_set_75 : decode cX12_set 75 = .ok (.aload_n 0, 1) := by decide +kernel
theorem dX12_set_76 : decode cX12_set 76 = .ok (.getfield 16, 3) := by decide +kernel
theorem dX12_set_79 : decode cX12_set 79 = .ok (.bipush 20, 2) := by decide +kernel
theorem dX12_set_81 : decode cX12_set 81 = .ok (.iload_n 1, 1) := by decide +kernel
theorem dX12_set_82 : decode cX12_set 82 = .ok (.imul, 1) := by decide +kernel
theorem dX12_set_83 : decode cX12_set 83 = .ok (.iload_n 2, 1) := by decide +kernel
theorem dX12_set_84 : decode cX12_set 84 = .ok (.iadd, 1) := by decide +kernel
theorem dX12_set_85 : decode cX12_set 85 = .ok (.iaload, 1) := by decide +kernel
theorem dX12_set_86 : decode cX12_set 86 = .ok (.i2l, 1) := by decide +kernel
theorem dX12_set_87 : decode cX12_set 87 = .ok (.lreturn, 1) := by decide +kernel
theorem dX12_copy_0 : decode cX12_copy 0 = .ok (.iload_n 1, 1) := by decide +kernel
theorem dX12_copy_1 : decode cX12_copy 1 = .ok (.invokestatic 125, 3) := by decide +kernel
theorem dX12_copy_4 : decode cX12_copy 4 = .ok (.ifCond .eq 10, 3) := by decide +kernel
theorem dX12_copy_7 : decode cX12_copy 7 = .ok (.iload_n 3, 1) := by decide +kernel
theorem dX12_copy_8 : decode cX12_copy 8 = .ok (.invokestatic 125, 3) := by decide +kernel
theorem dX12_copy_11 : decode cX12_copy 11 = .ok (.ifCond .ne 8, 3) := by decide +kernel
theorem dX12_copy_14 : decode cX12_copy 14 = .ok (.iconst 1, 1) := by decide +kernel
theorem dX12_copy_15 : decode cX12_copy 15 = .ok (.invokestatic 129, 3) := by decide +kernel
theorem dX12_copy_18 : decode cX12_copy 18 = .ok (.lreturn, 1) := by decide +kernel
theorem dX12_copy_19 : decode cX12_copy 19 = .ok (.aload_n 0, 1) := by decide +kernel
theorem dX12_copy_20 : decode cX12_copy 20 = .ok (.getfield 7, 3) := by decide +kernel
theorem dX12_copy_23 : decode cX12_copy 23 = .ok (.iload_n 1, 1) := by decide +kernel
theorem dX12_copy_24 : decode cX12_copy 24 = .ok (.iaload, 1) := by decide +kernel
theorem dX12_copy_25 : decode cX12_copy 25 = .ok (.ifCond .lt 12, 3) := by decide +kernel
theorem dX12_copy_28 : decode cX12_copy 28 = .ok (.aload_n 0, 1) := by decide +kernel
theorem dX12_copy_29 : decode cX12_copy 29 = .ok (.getfield 7, 3) := by decide +kernel
theorem dX12_copy_32 : decode cX12_copy 32 = .ok (.iload_n 3, 1) := by decide +kernel
theorem dX12_copy_33 : decode cX12_copy 33 = .ok (.iaload, 1) := by decide +kernel
theorem dX12_copy_34 : decode cX12_copy 34 = .ok (.ifCond .ge 9, 3) := by decide +kernel
theorem dX12_copy_37 : decode cX12_copy 37 = .ok (.aload_n 0, 1) := by decide +kernel
theorem dX12_copy_38 : decode cX12_copy 38 = .ok (.iconst 1, 1) := by decide +kernel
theorem dX12_copy_39 : decode cX12_copy 39 = .ok (.invokevirtual 133, 3) := by decide +kernel
theorem dX12_copy_42 : decode cX12_copy 42 = .ok (.lreturn, 1) := by decide +kernel
theorem dX12_copy_43 : decode cX12_copy 43 = .ok (.aload_n 0, 1) := by decide +kernel
theorem dX12_copy_44 : decode cX12_copy 44 = .ok (.getfield 7, 3) := by decide +kernel
theorem dX12_copy_47 : decode cX12_copy 47 = .ok (.iload_n 1, 1) := by decide +kernel
theorem dX12_copy_48 : decode cX12_copy 48 = .ok (.iaload, 1) := by decide +kernel
theorem dX12_copy_49 : decode cX12_copy 49 = .ok (.aload_n 0, 1) := by decide +kernel
theorem dX12_copy_50 : decode cX12_copy 50 = .ok (.getfield 7, 3) := by decide +kernel
theorem dX12_copy_53 : decode cX12_copy 53 = .ok (.iload_n 3, 1) := by decide +kernel
theorem dX12_copy_54 : decode cX12_copy 54 = .ok (.iaload, 1) := by decide +kernel
theorem dX12_copy_55 : decode cX12_copy 55 = .ok (.if_icmp .eq 9, 3) := by decide +kernel
theorem dX12_copy_58 : decode cX12_copy 58 = .ok (.aload_n 0, 1) := by decide +kernel
theorem dX12_copy_59 : decode cX12_copy 59 = .ok (.iconst 5, 1) := by decide +kernel
theorem dX12_copy_60 : decode cX12_copy 60 = .ok (.invokevirtual 133, 3) := by decide +kernel
theorem dX12_copy_63 : decode cX12_copy 63 = .ok (.lreturn, 1) := by decide +kernel
theorem dX12_copy_64 : decode cX12_copy 64 = .ok (.iload_n 2, 1) := by decide +kernel
theorem dX12_copy_65 : decode cX12_copy 65 = .ok (.ifCond .lt 38, 3) := by decide +kernel
theorem dX12_copy_68 : decode cX12_copy 68 = .ok (.iload 4, 2) := by decide +kernel
theorem dX12_copy_70 : decode cX12_copy 70 = .ok (.ifCond .lt 33, 3) := by decide +kernel
theorem dX12_copy_73 : decode cX12_copy 73 = .ok (.iload 5, 2) := by decide +kernel
theorem dX12_copy_75 : decode cX12_copy 75 = .ok (.ifCond .lt 28, 3) := by decide +kernel
theorem dX12_copy_78 : decode cX12_copy 78 = .ok (.iload_n 2, 1) := by decide +kernel
theorem dX12_copy_79 : decode cX12_copy 79 = .ok (.aload_n 0, 1) := by decide +kernel
theorem dX12_copy_80 : decode cX12_copy 80 = .ok (.getfield 13, 3) := by decide +kernel
theorem dX12_copy_83 : decode cX12_copy 83 = .ok (.iload_n 1, 1) := by decide +kernel
theorem dX12_copy_84 : decode cX12_copy 84 = .ok (.iaload, 1) := by decide +kernel
theorem dX12_copy_85 : decode cX12_copy 85 = .ok (.if_icmp .gt 18, 3) := by decide +kernel
theorem dX12_copy_88 : decode cX12_copy 88 = .ok (.iload 4, 2) := by decide +kernel
theorem dX12_copy_90 : decode cX12_copy 90 = .ok (.aload_n 0, 1) := by decide +kernel
theorem dX12_copy_91 : decode cX12_copy 91 = .ok (.getfield 13, 3) := by decide +kernel
theorem dX12_copy_94 : decode cX12_copy 94 = .ok (.iload_n 3, 1) := by decide +kernel
theorem dX12_copy_95 : decode cX12_copy 95 = .ok (.iaload, 1) := by decide +kernel
theorem dX12_copy_96 : decode cX12_copy 96 = .ok (.if_icmp .gt 7, 3) := by decide +kernel
theorem dX12_copy_99 : decode cX12_copy 99 = .ok (.iconst 1, 1) := by decide +kernel
theorem dX12_copy_100 : decode cX12_copy 100 = .ok (.goto 4, 3) := by decide +kernel
theorem dX12_copy_103 : decode cX12_copy 103 = .ok (.iconst 0, 1) := by decide +kernel
theorem dX12_copy_104 : decode cX12_copy 104 = .ok (.istore 6, 2) := by decide +kernel
theorem dX12_copy_106 : decode cX12_copy 106 = .ok (.iload 6, 2) := by decide +kernel
theorem dX12_copy_108 : decode cX12_copy 108 = .ok (.ifCond .eq 30, 3) := by decide +kernel
theorem dX12_copy_111 : decode cX12_copy 111 = .ok (.iload 5, 2) := by decide +kernel
theorem dX12_copy_113 : decode cX12_copy 113 = .ok (.aload_n 0, 1) := by decide +kernel
theorem dX12_copy_114 : decode cX12_copy 114 = .ok (.getfield 13, 3) := by decide +kernel
theorem dX12_copy_117 : decode cX12_copy 117 = .ok (.iload_n 1, 1) := by decide +kernel
theorem dX12_copy_118 : decode cX12_copy 118 = .ok (.iaload, 1) := by decide +kernel
theorem dX12_copy_119 : decode cX12_copy 119 = .ok (.iload_n 2, 1) := by decide +kernel
theorem dX12_copy_120 : decode cX12_copy 120 = .ok (.isub, 1) := by decide +kernel
theorem dX12_copy_121 : decode cX12_copy 121 = .ok (.if_icmp .gt 17, 3) := by decide +kernel
theorem dX12_copy_124 : decode cX12_copy 124 = .ok (.iload 5, 2) := by decide +kernel
theorem dX12_copy_126 : decode cX12_copy 126 = .ok (.aload_n 0, 1) := by decide +kernel
theorem dX12_copy_127 : decode cX12_copy 127 = .ok (.getfield 13, 3) := by decide +kernel
theorem dX12_copy_130 : decode cX12_copy 130 = .ok (.iload_n 3, 1) := by decide +kernel
theorem dX12_copy_131 : decode cX12_copy 131 = .ok (.iaload, 1) := by decide +kernel
theorem dX12_copy_132 : decode cX12_copy 132 = .ok (.iload 4, 2) := by decide +kernel
theorem dX12_copy_134 : decode cX12_copy 134 = .ok (.isub, 1) := by decide +kernel
theorem dX12_copy_135 : decode cX12_copy 135 = .ok (.if_icmp .le 9, 3) := by decide +kernel
theorem dX12_copy_138 : decode cX12_copy 138 = .ok (.aload_n 0, 1) := by decide +kernel
theorem dX12_copy_139 : decode cX12_copy 139 = .ok (.iconst 2, 1) := by decide +kernel
theorem dX12_copy_140 : decode cX12_copy 140 = .ok (.invokevirtual 133, 3) := by decide +kernel
theorem dX12_copy_143 : decode cX12_copy 143 = .ok (.lreturn, 1) := by decide +kernel
theorem dX12_copy_144 : decode cX12_copy 144 = .ok (.aload_n 0, 1) := by decide +kernel
theorem dX12_copy_145 : decode cX12_copy 145 = .ok (.iconst 0, 1) := by decide +kernel
theorem dX12_copy_146 : decode cX12_copy 146 = .ok (.putfield 116, 3) := by decide +kernel
theorem dX12_copy_149 : decode cX12_copy 149 = .ok (.iload_n 2, 1) := by decide +kernel
theorem dX12_copy_150 : decode cX12_copy 150 = .ok (.iload 4, 2) := by decide +kernel
theorem dX12_copy_152 : decode cX12_copy 152 = .ok (.if_icmp .ge 7, 3) := by decide +kernel
theorem dX12_copy_155 : decode cX12_copy 155 = .ok (.iconst 1, 1) := by decide +kernel
theorem dX12_copy_156 : decode cX12_copy 156 = .ok (.goto 4, 3) := by decide +kernel
theorem dX12_copy_159 : decode cX12_copy 159 = .ok (.iconst 0, 1) := by decide +kernel
theorem dX12_copy_160 : decode cX12_copy 160 = .ok (.istore 7, 2) := by decide +kernel
theorem dX12_copy_162 : decode cX12_copy 162 = .ok (.iconst 0, 1) := by decide +kernel
theorem dX12_copy_163 : decode cX12_copy 163 = .ok (.istore 8, 2) := by decide +kernel
theorem dX12_copy_165 : decode cX12_copy 165 = .ok (.iload 8, 2) := by decide +kernel
theorem dX12_copy_167 : decode cX12_copy 167 = .ok (.iload 5, 2) := by decide +kernel
theorem dX12_copy_169 : decode cX12_copy 169 = .ok (.if_icmp .ge 57, 3) := by decide +kernel
theorem dX12_copy_172 : decode cX12_copy 172 = .ok (.iload 7, 2) := by decide +kernel
theorem dX12_copy_174 : decode cX12_copy 174 = .ok (.ifCond .eq 13, 3) := by decide +kernel
theorem dX12_copy_177 : decode cX12_copy 177 = .ok (.iload 5, 2) := by decide +kernel
theorem dX12_copy_179 : decode cX12_copy 179 = .ok (.iconst 1, 1) := by decide +kernel
theorem dX12_copy_180 : decode cX12_copy 180 = .ok (.isub, 1) := by decide +kernel
theorem dX12_copy_181 : decode cX12_copy 181 = .ok (.iload 8, 2) := by decide +kernel
theorem dX12_copy_183 : decode cX12_copy 183 = .ok (.isub, 1) := by decide +kernel
theorem dX12_copy_184 : decode cX12_copy 184 = .ok (.goto 5, 3) := by decide +kernel
theorem dX12_copy_187 : decode cX12_copy 187 = .ok (.iload 8, 2) := by decide +kernel
theorem dX12_copy_189 : decode cX12_copy 189 = .ok (.istore 9, 2) := by decide +kernel
theorem dX12_copy_191 : decode cX12_copy 191 = .ok (.aload_n 0, 1) := by decide +kernel
theorem dX12_copy_192 : decode cX12_copy 192 = .ok (.getfield 16, 3) := by decide +kernel
theorem dX12_copy_195 : decode cX12_copy 195 = .ok (.bipush 20, 2) := by decide +kernel
theorem dX12_copy_197 : decode cX12_copy 197 = .ok (.iload_n 3, 1) := by decide +kernel
theorem dX12_copy_198 : decode cX12_copy 198 = .ok (.imul, 1) := by decide +kernel
theorem dX12_copy_199 : decode cX12_copy 199 = .ok (.iload 4, 2) := by decide +kernel
theorem dX12_copy_201 : decode cX12_copy 201 = .ok (.iadd, 1) := by decide +kernel
theorem dX12_copy_202 : decode cX12_copy 202 = .ok (.iload 9, 2) := by decide +kernel
theorem dX12_copy_204 : decode cX12_copy 204 = .ok (.iadd, 1) := by decide +kernel
theorem dX12_copy_205 : decode cX12_copy 205 = .ok (.aload_n 0, 1) := by decide +kernel
theorem dX12_copy_206 : decode cX12_copy 206 = .ok (.getfield 16, 3) := by decide +kernel
theorem dX12_copy_209 : decode cX12_copy 209 = .ok (.bipush 20, 2) := by decide +kernel
theorem dX12_copy_211 : decode cX12_copy 211 = .ok (.iload_n 1, 1) := by decide +kernel
theorem dX12_copy_212 : decode cX12_copy 212 = .ok (.imul, 1) := by decide +kernel
theorem dX12_copy_213 : decode cX12_copy 213 = .ok (.iload_n 2, 1) := by decide +kernel
theorem dX12_copy_214 : decode cX12_copy 214 = .ok (.iadd, 1) := by decide +kernel
theorem dX12_copy_215 : decode cX12_copy 215 = .ok (.iload 9, 2) := by decide +kernel
theorem dX12_copy_217 : decode cX12_copy 217 = .ok (.iadd, 1) := by decide +kernel
theorem dX12_copy_218 : decode cX12_copy 218 = .ok (.iaload, 1) := by decide +kernel
theorem dX12_copy_219 : decode cX12_copy 219 = .ok (.iastore, 1) := by decide +kernel
theorem dX12_copy_220 : decode cX12_copy 220 = .ok (.iinc 8 1, 3) := by decide +kernel
theorem dX12_copy_223 : decode cX12_copy 223 = .ok (.goto (-58), 3) := by decide +kernel
theorem dX12_copy_226 : decode cX12_copy 226 = .ok (.iload 5, 2) := by decide +kernel
theorem dX12_copy_228 : decode cX12_copy 228 = .ok (.i2l, 1) := by decide +kernel
theorem dX12_copy_229 : decode cX12_copy 229 = .ok (.lreturn, 1) := by decide +kernel
theorem dX12_drop_0 : decode cX12_drop 0 = .ok (.iload_n 1, 1) := by decide +kernel
theorem dX12_drop_1 : decode cX12_drop 1 = .ok (.invokestatic 125, 3) := by decide +kernel
theorem dX12_drop_4 : decode cX12_drop 4 = .ok (.ifCond .ne 8, 3) := by decide +kernel
theorem dX12_drop_7 : decode cX12_drop 7 = .ok (.iconst 1, 1) := by decide +kernel
theorem dX12_drop_8 : decode cX12_drop 8 = .ok (.invokestatic 129, 3) := by decide +kernel
theorem dX12_drop_11 : decode cX12_drop 11 = .ok (.lreturn, 1) := by decide +kernel
theorem dX12_drop_12 : decode cX12_drop 12 = .ok (.aload_n 0, 1) := by decide +kernel
theorem dX12_drop_13 : decode cX12_drop 13 = .ok (.getfield 7, 3) := by decide +kernel
theorem dX12_drop_16 : decode cX12_drop 16 = .ok (.iload_n 1, 1) := by decide +kernel
theorem dX12_drop_17 : decode cX12_drop 17 = .ok (.iaload, 1) := by decide +kernel
theorem dX12_drop_18 : decode cX12_drop 18 = .ok (.ifCond .ge 9, 3) := by decide +kernel
theorem dX12_drop_21 : decode cX12_drop 21 = .ok (.aload_n 0, 1) := by decide +kernel
theorem dX12_drop_22 : decode cX12_drop 22 = .ok (.iconst 1, 1) := by decide +kernel
theorem dX12_drop_23 : decode cX12_drop 23 = .ok (.invokevirtual 133, 3) := by decide +kernel
theorem dX12_drop_26 : decode cX12_drop 26 = .ok (.lreturn, 1) := by decide +kernel
theorem dX12_drop_27 : decode cX12_drop 27 = .ok (.aload_n 0, 1) := by decide +kernel
theorem dX12_drop_28 : decode cX12_drop 28 = .ok (.iconst 0, 1) := by decide +kernel
theorem dX12_drop_29 : decode cX12_drop 29 = .ok (.putfield 116, 3) := by decide +kernel
theorem dX12_drop_32 : decode cX12_drop 32 = .ok (.aload_n 0, 1) := by decide +kernel
theorem dX12_drop_33 : decode cX12_drop 33 = .ok (.getfield 7, 3) := by decide +kernel
theorem dX12_drop_36 : decode cX12_drop 36 = .ok (.iload_n 1, 1) := by decide +kernel
theorem dX12_drop_37 : decode cX12_drop 37 = .ok (.iconst (-1), 1) := by decide +kernel
theorem dX12_drop_38 : decode cX12_drop 38 = .ok (.iastore, 1) := by decide +kernel
theorem dX12_drop_39 : decode cX12_drop 39 = .ok (.aload_n 0, 1) := by decide +kernel
theorem dX12_drop_40 : decode cX12_drop 40 = .ok (.getfield 13, 3) := by decide +kernel
theorem dX12_drop_43 : decode cX12_drop 43 = .ok (.iload_n 1, 1) := by decide +kernel
theorem dX12_drop_44 : decode cX12_drop 44 = .ok (.iaload, 1) := by decide +kernel
theorem dX12_drop_45 : decode cX12_drop 45 = .ok (.i2l, 1) := by decide +kernel
theorem dX12_drop_46 : decode cX12_drop 46 = .ok (.lreturn, 1) := by decide +kernel
theorem dX12_feed_0 : decode cX12_feed 0 = .ok (.iload_n 3, 1) := by decide +kernel
theorem dX12_feed_1 : decode cX12_feed 1 = .ok (.iconst 1, 1) := by decide +kernel
theorem dX12_feed_2 : decode cX12_feed 2 = .ok (.bipush 8, 2) := by decide +kernel
theorem dX12_feed_4 : decode cX12_feed 4 = .ok (.invokestatic 121, 3) := by decide +kernel
theorem dX12_feed_7 : decode cX12_feed 7 = .ok (.ifCond .ne 8, 3) := by decide +kernel
theorem dX12_feed_10 : decode cX12_feed 10 = .ok (.iconst 1, 1) := by decide +kernel
theorem dX12_feed_11 : decode cX12_feed 11 = .ok (.invokestatic 129, 3) := by decide +kernel
theorem dX12_feed_14 : decode cX12_feed 14 = .ok (.lreturn, 1) := by decide +kernel
theorem dX12_feed_15 : decode cX12_feed 15 = .ok (.aload_n 0, 1) := by decide +kernel
theorem dX12_feed_16 : decode cX12_feed 16 = .ok (.getfield 140, 3) := by decide +kernel
theorem dX12_feed_19 : decode cX12_feed 19 = .ok (.iload_n 3, 1) := by decide +kernel
theorem dX12_feed_20 : decode cX12_feed 20 = .ok (.iadd, 1) := by decide +kernel
theorem dX12_feed_21 : decode cX12_feed 21 = .ok (.sipush 300, 3) := by decide +kernel
theorem dX12_feed_24 : decode cX12_feed 24 = .ok (.if_icmp .le 8, 3) := by decide +kernel
theorem dX12_feed_27 : decode cX12_feed 27 = .ok (.iconst 3, 1) := by decide +kernel
theorem dX12_feed_28 : decode cX12_feed 28 = .ok (.invokestatic 129, 3) := by decide +kernel
theorem dX12_feed_31 : decode cX12_feed 31 = .ok (.lreturn, 1) := by decide +kernel
theorem dX12_feed_32 : decode cX12_feed 32 = .ok (.iload_n 3, 1) := by decide +kernel
theorem dX12_feed_33 : decode cX12_feed 33 = .ok (.iconst 1, 1) := by decide +kernel
theorem dX12_feed_34 : decode cX12_feed 34 = .ok (.isub, 1) := by decide +kernel
theorem dX12_feed_35 : decode cX12_feed 35 = .ok (.istore 4, 2) := by decide +kernel
theorem dX12_feed_37 : decode cX12_feed 37 = .ok (.iload 4, 2) := by decide +kernel
theorem dX12_feed_39 : decode cX12_feed 39 = .ok (.ifCond .lt 40, 3) := by decide +kernel
theorem dX12_feed_42 : decode cX12_feed 42 = .ok (.aload_n 0, 1) := by decide +kernel
theorem dX12_feed_43 : decode cX12_feed 43 = .ok (.getfield 19, 3) := by decide +kernel
theorem dX12_feed_46 : decode cX12_feed 46 = .ok (.aload_n 0, 1) := by decide +kernel
theorem dX12_feed_47 : decode cX12_feed 47 = .ok (.getfield 140, 3) := by decide +kernel
theorem dX12_feed_50 : decode cX12_feed 50 = .ok (.lload_n 1, 1) := by decide +kernel
theorem dX12_feed_51 : decode cX12_feed 51 = .ok (.bipush 8, 2) := by decide +kernel
theorem dX12_feed_53 : decode cX12_feed 53 = .ok (.iload 4, 2) := by decide +kernel
theorem dX12_feed_55 : decode cX12_feed 55 = .ok (.imul, 1) := by decide +kernel
theorem dX12_feed_56 : decode cX12_feed 56 = .ok (.lshr, 1) := by decide +kernel
theorem dX12_feed_57 : decode cX12_feed 57 = .ok (.l2i, 1) := by decide +kernel
theorem dX12_feed_58 : decode cX12_feed 58 = .ok (.sipush 255, 3) := by decide +kernel
theorem dX12_feed_61 : decode cX12_feed 61 = .ok (.iand, 1) := by decide +kernel
theorem dX12_feed_62 : decode cX12_feed 62 = .ok (.iastore, 1) := by decide +kernel
theorem dX12_feed_63 : decode cX12_feed 63 = .ok (.aload_n 0, 1) := by decide +kernel
theorem dX12_feed_64 : decode cX12_feed 64 = .ok (.dup, 1) := by decide +kernel
theorem dX12_feed_65 : decode cX12_feed 65 = .ok (.getfield 140, 3) := by decide +kernel
theorem dX12_feed_68 : decode cX12_feed 68 = .ok (.iconst 1, 1) := by decide +kernel
theorem dX12_feed_69 : decode cX12_feed 69 = .ok (.iadd, 1) := by decide +kernel
theorem dX12_feed_70 : decode cX12_feed 70 = .ok (.putfield 140, 3) := by decide +kernel
theorem dX12_feed_73 : decode cX12_feed 73 = .ok (.iinc 4 (-1), 3) := by decide +kernel
theorem dX12_feed_76 : decode cX12_feed 76 = .ok (.goto (-39), 3) := by decide +kernel
theorem dX12_feed_79 : decode cX12_feed 79 = .ok (.aload_n 0, 1) := by decide +kernel
theorem dX12_feed_80 : decode cX12_feed 80 = .ok (.getfield 140, 3) := by decide +kernel
theorem dX12_feed_83 : decode cX12_feed 83 = .ok (.i2l, 1) := by decide +kernel
theorem dX12_feed_84 : decode cX12_feed 84 = .ok (.lreturn, 1) := by decide +kernel
theorem dX12_isLetter_0 : decode cX12_isLetter 0 = .ok (.iload_n 0, 1) := by decide +kernel
theorem dX12_isLetter_1 : decode cX12_isLetter 1 = .ok (.bipush 97, 2) := by decide +kernel
theorem dX12_isLetter_3 : decode cX12_isLetter 3 = .ok (.bipush 122, 2) := by decide +kernel
theorem dX12_isLetter_5 : decode cX12_isLetter 5 = .ok (.invokestatic 121, 3) := by decide +kernel
theorem dX12_isLetter_8 : decode cX12_isLetter 8 = .ok (.ireturn, 1) := by decide +kernel
theorem dX12_isDigit_0 : decode cX12_isDigit 0 = .ok (.iload_n 0, 1) := by decide +kernel
theorem dX12_isDigit_1 : decode cX12_isDigit 1 = .ok (.bipush 48, 2) := by decide +kernel
theorem dX12_isDigit_3 : decode cX12_isDigit 3 = .ok (.bipush 57, 2) := by decide +kernel
theorem dX12_isDigit_5 : decode cX12_isDigit 5 = .ok (.invokestatic 121, 3) := by decide +kernel
theorem dX12_isDigit_8 : decode cX12_isDigit 8 = .ok (.ireturn, 1) := by decide +kernel
theorem dX12_token_0 : decode cX12_token 0 = .ok (.aload_n 0, 1) := by decide +kernel
theorem dX12_token_1 : decode cX12_token 1 = .ok (.getfield 143, 3) := by decide +kernel
theorem dX12_token_4 : decode cX12_token 4 = .ok (.aload_n 0, 1) := by decide +kernel
theorem dX12_token_5 : decode cX12_token 5 = .ok (.getfield 140, 3) := by decide +kernel
theorem dX12_token_8 : decode cX12_token 8 = .ok (.if_icmp .ge 44, 3) := by decide +kernel
theorem dX12_token_11 : decode cX12_token 11 = .ok (.aload_n 0, 1) := by decide +kernel
theorem dX12_token_12 : decode cX12_token 12 = .ok (.getfield 19, 3) := by decide +kernel
theorem dX12_token_15 : decode cX12_token 15 = .ok (.aload_n 0, 1) := by decide +kernel
theorem dX12_token_16 : decode cX12_token 16 = .ok (.getfield 143, 3) := by decide +kernel
theorem dX12_token_19 : decode cX12_token 19 = .ok (.iaload, 1) := by decide +kernel
theorem dX12_token_20 : decode cX12_token 20 = .ok (.bipush 32, 2) := by decide +kernel
theorem dX12_token_22 : decode cX12_token 22 = .ok (.if_icmp .eq 17, 3) := by decide +kernel
theorem dX12_token_25 : decode cX12_token 25 = .ok (.aload_n 0, 1) := by decide +kernel
theorem dX12_token_26 : decode cX12_token 26 = .ok (.getfield 19, 3) := by decide +kernel
theorem dX12_token_29 : decode cX12_token 29 = .ok (.aload_n 0, 1) := by decide +kernel
theorem dX12_token_30 : decode cX12_token 30 = .ok (.getfield 143, 3) := by decide +kernel
theorem dX12_token_33 : decode cX12_token 33 = .ok (.iaload, 1) := by decide +kernel
theorem dX12_token_34 : decode cX12_token 34 = .ok (.bipush 10, 2) := by decide +kernel
theorem dX12_token_36 : decode cX12_token 36 = .ok (.if_icmp .ne 16, 3) := by decide +kernel
theorem dX12_token_39 : decode cX12_token 39 = .ok (.aload_n 0, 1) := by decide +kernel
theorem dX12_token_40 : decode cX12_token 40 = .ok (.dup, 1) := by decide +kernel
theorem dX12_token_41 : decode cX12_token 41 = .ok (.getfield 143, 3) := by decide +kernel
theorem dX12_token_44 : decode cX12_token 44 = .ok (.iconst 1, 1) := by decide +kernel
theorem dX12_token_45 : decode cX12_token 45 = .ok (.iadd, 1) := by decide +kernel
theorem dX12_token_46 : decode cX12_token 46 = .ok (.putfield 143, 3) := by decide +kernel
theorem dX12_token_49 : decode cX12_token 49 = .ok (.goto (-49), 3) := by decide +kernel
theorem dX12_token_52 : decode cX12_token 52 = .ok (.aload_n 0, 1) := by decide +kernel
theorem dX12_token_53 : decode cX12_token 53 = .ok (.aload_n 0, 1) := by decide +kernel
theorem dX12_token_54 : decode cX12_token 54 = .ok (.getfield 143, 3) := by decide +kernel
theorem dX12_token_57 : decode cX12_token 57 = .ok (.putfield 146, 3) := by decide +kernel
theorem dX12_token_60 : decode cX12_token 60 = .ok (.aload_n 0, 1) := by decide +kernel
theorem dX12_token_61 : decode cX12_token 61 = .ok (.getfield 143, 3) := by decide +kernel
theorem dX12_token_64 : decode cX12_token 64 = .ok (.aload_n 0, 1) := by decide +kernel
theorem dX12_token_65 : decode cX12_token 65 = .ok (.getfield 140, 3) := by decide +kernel
theorem dX12_token_68 : decode cX12_token 68 = .ok (.if_icmp .ne 5, 3) := by decide +kernel
theorem dX12_token_71 : decode cX12_token 71 = .ok (.iconst 0, 1) := by decide +kernel
theorem dX12_token_72 : decode cX12_token 72 = .ok (.ireturn, 1) := by decide +kernel
theorem dX12_token_73 : decode cX12_token 73 = .ok (.aload_n 0, 1) := by decide +kernel
theorem dX12_token_74 : decode cX12_token 74 = .ok (.getfield 19, 3) := by decide +kernel
theorem dX12_token_77 : decode cX12_token 77 = .ok (.aload_n 0, 1) := by decide +kernel
theorem dX12_token_78 : decode cX12_token 78 = .ok (.getfield 143, 3) := by decide +kernel
theorem dX12_token_81 : decode cX12_token 81 = .ok (.iaload, 1) := by decide +kernel
theorem dX12_token_82 : decode cX12_token 82 = .ok (.istore_n 1, 1) := by decide +kernel
theorem dX12_token_83 : decode cX12_token 83 = .ok (.aload_n 0, 1) := by decide +kernel
theorem dX12_token_84 : decode cX12_token 84 = .ok (.iconst 0, 1) := by decide +kernel
theorem dX12_token_85 : decode cX12_token 85 = .ok (.putfield 149, 3) := by decide +kernel
theorem dX12_token_88 : decode cX12_token 88 = .ok (.iload_n 1, 1) := by decide +kernel
theorem dX12_token_89 : decode cX12_token 89 = .ok (.invokestatic 152, 3) := by decide +kernel
theorem dX12_token_92 : decode cX12_token 92 = .ok (.ifCond .eq 82, 3) := by decide +kernel
theorem dX12_token_95 : decode cX12_token 95 = .ok (.iconst 0, 1) := by decide +kernel
theorem dX12_token_96 : decode cX12_token 96 = .ok (.istore_n 2, 1) := by decide +kernel
theorem dX12_token_97 : decode cX12_token 97 = .ok (.aload_n 0, 1) := by decide +kernel
theorem dX12_token_98 : decode cX12_token 98 = .ok (.getfield 143, 3) := by decide +kernel
theorem dX12_token_101 : decode cX12_token 101 = .ok (.aload_n 0, 1) := by decide +kernel
theorem dX12_token_102 : decode cX12_token 102 = .ok (.getfield 140, 3) := by decide +kernel
theorem dX12_token_105 : decode cX12_token 105 = .ok (.if_icmp .ge 67, 3) := by decide +kernel
theorem dX12_token_108 : decode cX12_token 108 = .ok (.aload_n 0, 1) := by decide +kernel
theorem dX12_token_109 : decode cX12_token 109 = .ok (.getfield 19, 3) := by decide +kernel
theorem dX12_token_112 : decode cX12_token 112 = .ok (.aload_n 0, 1) := by decide +kernel
theorem dX12_token_113 : decode cX12_token 113 = .ok (.getfield 143, 3) := by decide +kernel
theorem dX12_token_116 : decode cX12_token 116 = .ok (.iaload, 1) := by decide +kernel
theorem dX12_token_117 : decode cX12_token 117 = .ok (.invokestatic 152, 3) := by decide +kernel
theorem dX12_token_120 : decode cX12_token 120 = .ok (.ifCond .eq 52, 3) := by decide +kernel
theorem dX12_token_123 : decode cX12_token 123 = .ok (.aload_n 0, 1) := by decide +kernel
theorem dX12_token_124 : decode cX12_token 124 = .ok (.iload_n 2, 1) := by decide +kernel
theorem dX12_token_125 : decode cX12_token 125 = .ok (.iconst 4, 1) := by decide +kernel
theorem dX12_token_126 : decode cX12_token 126 = .ok (.if_icmp .ge 26, 3) := by decide +kernel
theorem dX12_token_129 : decode cX12_token 129 = .ok (.bipush 27, 2) := by decide +kernel
theorem dX12_token_131 : decode cX12_token 131 = .ok (.aload_n 0, 1) := by decide +kernel
theorem dX12_token_132 : decode cX12_token 132 = .ok (.getfield 149, 3) := by decide +kernel
theorem dX12_token_135 : decode cX12_token 135 = .ok (.imul, 1) := by decide +kernel
theorem dX12_token_136 : decode cX12_token 136 = .ok (.aload_n 0, 1) := by decide +kernel
theorem dX12_token_137 : decode cX12_token 137 = .ok (.getfield 19, 3) := by decide +kernel
theorem dX12_token_140 : decode cX12_token 140 = .ok (.aload_n 0, 1) := by decide +kernel
theorem dX12_token_141 : decode cX12_token 141 = .ok (.getfield 143, 3) := by decide +kernel
theorem dX12_token_144 : decode cX12_token 144 = .ok (.iaload, 1) := by decide +kernel
theorem dX12_token_145 : decode cX12_token 145 = .ok (.iadd, 1) := by decide +kernel
theorem dX12_token_146 : decode cX12_token 146 = .ok (.bipush 96, 2) := by decide +kernel
theorem dX12_token_148 : decode cX12_token 148 = .ok (.isub, 1) := by decide +kernel
theorem dX12_token_149 : decode cX12_token 149 = .ok (.goto 4, 3) := by decide +kernel
theorem dX12_token_152 : decode cX12_token 152 = .ok (.iconst (-1), 1) := by decide +kernel
theorem dX12_token_153 : decode cX12_token 153 = .ok (.putfield 149, 3) := by decide +kernel
theorem dX12_token_156 : decode cX12_token 156 = .ok (.iinc 2 1, 3) := by decide +kernel
theorem dX12_token_159 : decode cX12_token 159 = .ok (.aload_n 0, 1) := by decide +kernel
theorem dX12_token_160 : decode cX12_token 160 = .ok (.dup, 1) := by decide +kernel
theorem dX12_token_161 : decode cX12_token 161 = .ok (.getfield 143, 3) := by decide +kernel
theorem dX12_token_164 : decode cX12_token 164 = .ok (.iconst 1, 1) := by decide +kernel
theorem dX12_token_165 : decode cX12_token 165 = .ok (.iadd, 1) := by decide +kernel
theorem dX12_token_166 : decode cX12_token 166 = .ok (.putfield 143, 3) := by decide +kernel
theorem dX12_token_169 : decode cX12_token 169 = .ok (.goto (-72), 3) := by decide +kernel
theorem dX12_token_172 : decode cX12_token 172 = .ok (.iconst 1, 1) := by decide +kernel
theorem dX12_token_173 : decode cX12_token 173 = .ok (.ireturn, 1) := by decide +kernel
theorem dX12_token_174 : decode cX12_token 174 = .ok (.iload_n 1, 1) := by decide +kernel
theorem dX12_token_175 : decode cX12_token 175 = .ok (.invokestatic 155, 3) := by decide +kernel
theorem dX12_token_178 : decode cX12_token 178 = .ok (.ifCond .eq 96, 3) := by decide +kernel
theorem dX12_token_181 : decode cX12_token 181 = .ok (.aload_n 0, 1) := by decide +kernel
theorem dX12_token_182 : decode cX12_token 182 = .ok (.getfield 143, 3) := by decide +kernel
theorem dX12_token_185 : decode cX12_token 185 = .ok (.aload_n 0, 1) := by decide +kernel
theorem dX12_token_186 : decode cX12_token 186 = .ok (.getfield 140, 3) := by decide +kernel
theorem dX12_token_189 : decode cX12_token 189 = .ok (.if_icmp .ge 72, 3) := by decide +kernel
theorem dX12_token_192 : decode cX12_token 192 = .ok (.aload_n 0, 1) := by decide +kernel
theorem dX12_token_193 : decode cX12_token 193 = .ok (.getfield 19, 3) := by decide +kernel
theorem dX12_token_196 : decode cX12_token 196 = .ok (.aload_n 0, 1) := by decide +kernel
theorem dX12_token_197 : decode cX12_token 197 = .ok (.getfield 143, 3) := by decide +kernel
theorem dX12_token_200 : decode cX12_token 200 = .ok (.iaload, 1) := by decide +kernel
theorem dX12_token_201 : decode cX12_token 201 = .ok (.invokestatic 155, 3) := by decide +kernel
theorem dX12_token_204 : decode cX12_token 204 = .ok (.ifCond .eq 57, 3) := by decide +kernel
theorem dX12_token_207 : decode cX12_token 207 = .ok (.aload_n 0, 1) := by decide +kernel
theorem dX12_token_208 : decode cX12_token 208 = .ok (.aload_n 0, 1) := by decide +kernel
theorem dX12_token_209 : decode cX12_token 209 = .ok (.getfield 143, 3) := by decide +kernel
theorem dX12_token_212 : decode cX12_token 212 = .ok (.aload_n 0, 1) := by decide +kernel
theorem dX12_token_213 : decode cX12_token 213 = .ok (.getfield 146, 3) := by decide +kernel
theorem dX12_token_216 : decode cX12_token 216 = .ok (.iconst 4, 1) := by decide +kernel
theorem dX12_token_217 : decode cX12_token 217 = .ok (.iadd, 1) := by decide +kernel
theorem dX12_token_218 : decode cX12_token 218 = .ok (.if_icmp .ge 26, 3) := by decide +kernel
theorem dX12_token_221 : decode cX12_token 221 = .ok (.bipush 10, 2) := by decide +kernel
theorem dX12_token_223 : decode cX12_token 223 = .ok (.aload_n 0, 1) := by decide +kernel
theorem dX12_token_224 : decode cX12_token 224 = .ok (.getfield 149, 3) := by decide +kernel
theorem dX12_token_227 : decode cX12_token 227 = .ok (.imul, 1) := by decide +kernel
theorem dX12_token_228 : decode cX12_token 228 = .ok (.aload_n 0, 1) := by decide +kernel
theorem dX12_token_229 : decode cX12_token 229 = .ok (.getfield 19, 3) := by decide +kernel
theorem dX12_token_232 : decode cX12_token 232 = .ok (.aload_n 0, 1) := by decide +kernel
theorem dX12_token_233 : decode cX12_token 233 = .ok (.getfield 143, 3) := by decide +kernel
theorem dX12_token_236 : decode cX12_token 236 = .ok (.iaload, 1) := by decide +kernel
theorem dX12_token_237 : decode cX12_token 237 = .ok (.iadd, 1) := by decide +kernel
theorem dX12_token_238 : decode cX12_token 238 = .ok (.bipush 48, 2) := by decide +kernel
theorem dX12_token_240 : decode cX12_token 240 = .ok (.isub, 1) := by decide +kernel
theorem dX12_token_241 : decode cX12_token 241 = .ok (.goto 4, 3) := by decide +kernel
theorem dX12_token_244 : decode cX12_token 244 = .ok (.iconst (-1), 1) := by decide +kernel
theorem dX12_token_245 : decode cX12_token 245 = .ok (.putfield 149, 3) := by decide +kernel
theorem dX12_token_248 : decode cX12_token 248 = .ok (.aload_n 0, 1) := by decide +kernel
theorem dX12_token_249 : decode cX12_token 249 = .ok (.dup, 1) := by decide +kernel
theorem dX12_token_250 : decode cX12_token 250 = .ok (.getfield 143, 3) := by decide +kernel
theorem dX12_token_253 : decode cX12_token 253 = .ok (.iconst 1, 1) := by decide +kernel
theorem dX12_token_254 : decode cX12_token 254 = .ok (.iadd, 1) := by decide +kernel
theorem dX12_token_255 : decode cX12_token 255 = .ok (.putfield 143, 3) := by decide +kernel
theorem dX12_token_258 : decode cX12_token 258 = .ok (.goto (-77), 3) := by decide +kernel
theorem dX12_token_261 : decode cX12_token 261 = .ok (.aload_n 0, 1) := by decide +kernel
theorem dX12_token_262 : decode cX12_token 262 = .ok (.getfield 149, 3) := by decide +kernel
theorem dX12_token_265 : decode cX12_token 265 = .ok (.ifCond .ge 7, 3) := by decide +kernel
theorem dX12_token_268 : decode cX12_token 268 = .ok (.iconst 4, 1) := by decide +kernel
theorem dX12_token_269 : decode cX12_token 269 = .ok (.goto 4, 3) := by decide +kernel
theorem dX12_token_272 : decode cX12_token 272 = .ok (.iconst 2, 1) := by decide +kernel
theorem dX12_token_273 : decode cX12_token 273 = .ok (.ireturn, 1) := by decide +kernel
theorem dX12_token_274 : decode cX12_token 274 = .ok (.aload_n 0, 1) := by decide +kernel
theorem dX12_token_275 : decode cX12_token 275 = .ok (.dup, 1) := by decide +kernel
theorem dX12_token_276 : decode cX12_token 276 = .ok (.getfield 143, 3) := by decide +kernel
theorem dX12_token_279 : decode cX12_token 279 = .ok (.iconst 1, 1) := by decide +kernel
theorem dX12_token_280 : decode cX12_token 280 = .ok (.iadd, 1) := by decide +kernel
theorem dX12_token_281 : decode cX12_token 281 = .ok (.putfield 143, 3) := by decide +kernel
theorem dX12_token_284 : decode cX12_token 284 = .ok (.aload_n 0, 1) := by decide +kernel
theorem dX12_token_285 : decode cX12_token 285 = .ok (.iload_n 1, 1) := by decide +kernel
theorem dX12_token_286 : decode cX12_token 286 = .ok (.putfield 149, 3) := by decide +kernel
theorem dX12_token_289 : decode cX12_token 289 = .ok (.iload_n 1, 1) := by decide +kernel
theorem dX12_token_290 : decode cX12_token 290 = .ok (.bipush 59, 2) := by decide +kernel
theorem dX12_token_292 : decode cX12_token 292 = .ok (.if_icmp .eq 21, 3) := by decide +kernel
theorem dX12_token_295 : decode cX12_token 295 = .ok (.iload_n 1, 1) := by decide +kernel
theorem dX12_token_296 : decode cX12_token 296 = .ok (.bipush 43, 2) := by decide +kernel
theorem dX12_token_298 : decode cX12_token 298 = .ok (.if_icmp .eq 15, 3) := by decide +kernel
theorem dX12_token_301 : decode cX12_token 301 = .ok (.iload_n 1, 1) := by decide +kernel
theorem dX12_token_302 : decode cX12_token 302 = .ok (.bipush 45, 2) := by decide +kernel
theorem dX12_token_304 : decode cX12_token 304 = .ok (.if_icmp .eq 9, 3) := by decide +kernel
theorem dX12_token_307 : decode cX12_token 307 = .ok (.iload_n 1, 1) := by decide +kernel
theorem dX12_token_308 : decode cX12_token 308 = .ok (.bipush 42, 2) := by decide +kernel
theorem dX12_token_310 : decode cX12_token 310 = .ok (.if_icmp .ne 7, 3) := by decide +kernel
theorem dX12_token_313 : decode cX12_token 313 = .ok (.iconst 3, 1) := by decide +kernel
theorem dX12_token_314 : decode cX12_token 314 = .ok (.goto 4, 3) := by decide +kernel
theorem dX12_token_317 : decode cX12_token 317 = .ok (.iconst 4, 1) := by decide +kernel
theorem dX12_token_318 : decode cX12_token 318 = .ok (.ireturn, 1) := by decide +kernel
theorem dX12_wordOf_0 : decode cX12_wordOf 0 = .ok (.iload_n 0, 1) := by decide +kernel
theorem dX12_wordOf_1 : decode cX12_wordOf 1 = .ok (.istore 4, 2) := by decide +kernel
theorem dX12_wordOf_3 : decode cX12_wordOf 3 = .ok (.iload_n 1, 1) := by decide +kernel
theorem dX12_wordOf_4 : decode cX12_wordOf 4 = .ok (.ifCond .ne 8, 3) := by decide +kernel
theorem dX12_wordOf_7 : decode cX12_wordOf 7 = .ok (.iload 4, 2) := by decide +kernel
theorem dX12_wordOf_9 : decode cX12_wordOf 9 = .ok (.goto 10, 3) := by decide +kernel
theorem dX12_wordOf_12 : decode cX12_wordOf 12 = .ok (.bipush 27, 2) := by decide +kernel
theorem dX12_wordOf_14 : decode cX12_wordOf 14 = .ok (.iload 4, 2) := by decide +kernel
theorem dX12_wordOf_16 : decode cX12_wordOf 16 = .ok (.imul, 1) := by decide +kernel
theorem dX12_wordOf_17 : decode cX12_wordOf 17 = .ok (.iload_n 1, 1) := by decide +kernel
theorem dX12_wordOf_18 : decode cX12_wordOf 18 = .ok (.iadd, 1) := by decide +kernel
theorem dX12_wordOf_19 : decode cX12_wordOf 19 = .ok (.istore 4, 2) := by decide +kernel
theorem dX12_wordOf_21 : decode cX12_wordOf 21 = .ok (.iload_n 2, 1) := by decide +kernel
theorem dX12_wordOf_22 : decode cX12_wordOf 22 = .ok (.ifCond .ne 8, 3) := by decide +kernel
theorem dX12_wordOf_25 : decode cX12_wordOf 25 = .ok (.iload 4, 2) := by decide +kernel
theorem dX12_wordOf_27 : decode cX12_wordOf 27 = .ok (.goto 10, 3) := by decide +kernel
theorem dX12_wordOf_30 : decode cX12_wordOf 30 = .ok (.bipush 27, 2) := by decide +kernel
theorem dX12_wordOf_32 : decode cX12_wordOf 32 = .ok (.iload 4, 2) := by decide +kernel
theorem dX12_wordOf_34 : decode cX12_wordOf 34 = .ok (.imul, 1) := by decide +kernel
theorem dX12_wordOf_35 : decode cX12_wordOf 35 = .ok (.iload_n 2, 1) := by decide +kernel
theorem dX12_wordOf_36 : decode cX12_wordOf 36 = .ok (.iadd, 1) := by decide +kernel
theorem dX12_wordOf_37 : decode cX12_wordOf 37 = .ok (.istore 4, 2) := by decide +kernel
theorem dX12_wordOf_39 : decode cX12_wordOf 39 = .ok (.iload_n 3, 1) := by decide +kernel
theorem dX12_wordOf_40 : decode cX12_wordOf 40 = .ok (.ifCond .ne 8, 3) := by decide +kernel
theorem dX12_wordOf_43 : decode cX12_wordOf 43 = .ok (.iload 4, 2) := by decide +kernel
theorem dX12_wordOf_45 : decode cX12_wordOf 45 = .ok (.goto 10, 3) := by decide +kernel
theorem dX12_wordOf_48 : decode cX12_wordOf 48 = .ok (.bipush 27, 2) := by decide +kernel
theorem dX12_wordOf_50 : decode cX12_wordOf 50 = .ok (.iload 4, 2) := by decide +kernel
theorem dX12_wordOf_52 : decode cX12_wordOf 52 = .ok (.imul, 1) := by decide +kernel
theorem dX12_wordOf_53 : decode cX12_wordOf 53 = .ok (.iload_n 3, 1) := by decide +kernel
theorem dX12_wordOf_54 : decode cX12_wordOf 54 = .ok (.iadd, 1) := by decide +kernel
theorem dX12_wordOf_55 : decode cX12_wordOf 55 = .ok (.ireturn, 1) := by decide +kernel
theorem dX12_kindOf_0 : decode cX12_kindOf 0 = .ok (.iload_n 1, 1) := by decide +kernel
theorem dX12_kindOf_1 : decode cX12_kindOf 1 = .ok (.iconst 2, 1) := by decide +kernel
theorem dX12_kindOf_2 : decode cX12_kindOf 2 = .ok (.if_icmp .ne 15, 3) := by decide +kernel
theorem dX12_kindOf_5 : decode cX12_kindOf 5 = .ok (.aload_n 0, 1) := by decide +kernel
theorem dX12_kindOf_6 : decode cX12_kindOf 6 = .ok (.getfield 28, 3) := by decide +kernel
theorem dX12_kindOf_9 : decode cX12_kindOf 9 = .ok (.iload_n 2, 1) := by decide +kernel
theorem dX12_kindOf_10 : decode cX12_kindOf 10 = .ok (.aload_n 0, 1) := by decide +kernel
theorem dX12_kindOf_11 : decode cX12_kindOf 11 = .ok (.getfield 149, 3) := by decide +kernel
theorem dX12_kindOf_14 : decode cX12_kindOf 14 = .ok (.iastore, 1) := by decide +kernel
theorem dX12_kindOf_15 : decode cX12_kindOf 15 = .ok (.iconst 1, 1) := by decide +kernel
theorem dX12_kindOf_16 : decode cX12_kindOf 16 = .ok (.ireturn, 1) := by decide +kernel
theorem dX12_kindOf_17 : decode cX12_kindOf 17 = .ok (.iload_n 1, 1) := by decide +kernel
theorem dX12_kindOf_18 : decode cX12_kindOf 18 = .ok (.iconst 3, 1) := by decide +kernel
theorem dX12_kindOf_19 : decode cX12_kindOf 19 = .ok (.if_icmp .ne 28, 3) := by decide +kernel
theorem dX12_kindOf_22 : decode cX12_kindOf 22 = .ok (.aload_n 0, 1) := by decide +kernel
theorem dX12_kindOf_23 : decode cX12_kindOf 23 = .ok (.getfield 28, 3) := by decide +kernel
theorem dX12_kindOf_26 : decode cX12_kindOf 26 = .ok (.iload_n 2, 1) := by decide +kernel
theorem dX12_kindOf_27 : decode cX12_kindOf 27 = .ok (.aload_n 0, 1) := by decide +kernel
theorem dX12_kindOf_28 : decode cX12_kindOf 28 = .ok (.getfield 149, 3) := by decide +kernel
theorem dX12_kindOf_31 : decode cX12_kindOf 31 = .ok (.iastore, 1) := by decide +kernel
theorem dX12_kindOf_32 : decode cX12_kindOf 32 = .ok (.aload_n 0, 1) := by decide +kernel
theorem dX12_kindOf_33 : decode cX12_kindOf 33 = .ok (.getfield 149, 3) := by decide +kernel
theorem dX12_kindOf_36 : decode cX12_kindOf 36 = .ok (.bipush 59, 2) := by decide +kernel
theorem dX12_kindOf_38 : decode cX12_kindOf 38 = .ok (.if_icmp .ne 7, 3) := by decide +kernel
theorem dX12_kindOf_41 : decode cX12_kindOf 41 = .ok (.iconst 0, 1) := by decide +kernel
theorem dX12_kindOf_42 : decode cX12_kindOf 42 = .ok (.goto 4, 3) := by decide +kernel
theorem dX12_kindOf_45 : decode cX12_kindOf 45 = .ok (.iconst 3, 1) := by decide +kernel
theorem dX12_kindOf_46 : decode cX12_kindOf 46 = .ok (.ireturn, 1) := by decide +kernel
theorem dX12_kindOf_47 : decode cX12_kindOf 47 = .ok (.iload_n 1, 1) := by decide +kernel
theorem dX12_kindOf_48 : decode cX12_kindOf 48 = .ok (.iconst 1, 1) := by decide +kernel
theorem dX12_kindOf_49 : decode cX12_kindOf 49 = .ok (.if_icmp .eq 5, 3) := by decide +kernel
theorem dX12_kindOf_52 : decode cX12_kindOf 52 = .ok (.iconst 0, 1) := by decide +kernel
theorem dX12_kindOf_53 : decode cX12_kindOf 53 = .ok (.ireturn, 1) := by decide +kernel
theorem dX12_kindOf_54 : decode cX12_kindOf 54 = .ok (.aload_n 0, 1) := by decide +kernel
theorem dX12_kindOf_55 : decode cX12_kindOf 55 = .ok (.getfield 149, 3) := by decide +kernel
theorem dX12_kindOf_58 : decode cX12_kindOf 58 = .ok (.bipush 12, 2) := by decide +kernel
theorem dX12_kindOf_60 : decode cX12_kindOf 60 = .ok (.if_icmp .ne 7, 3) := by decide +kernel
theorem dX12_kindOf_63 : decode cX12_kindOf 63 = .ok (.iconst 0, 1) := by decide +kernel
theorem dX12_kindOf_64 : decode cX12_kindOf 64 = .ok (.goto 42, 3) := by decide +kernel
theorem dX12_kindOf_67 : decode cX12_kindOf 67 = .ok (.aload_n 0, 1) := by decide +kernel
theorem dX12_kindOf_68 : decode cX12_kindOf 68 = .ok (.getfield 149, 3) := by decide +kernel
theorem dX12_kindOf_71 : decode cX12_kindOf 71 = .ok (.iconst 3, 1) := by decide +kernel
theorem dX12_kindOf_72 : decode cX12_kindOf 72 = .ok (.if_icmp .ne 7, 3) := by decide +kernel
theorem dX12_kindOf_75 : decode cX12_kindOf 75 = .ok (.iconst 1, 1) := by decide +kernel
theorem dX12_kindOf_76 : decode cX12_kindOf 76 = .ok (.goto 30, 3) := by decide +kernel
theorem dX12_kindOf_79 : decode cX12_kindOf 79 = .ok (.aload_n 0, 1) := by decide +kernel
theorem dX12_kindOf_80 : decode cX12_kindOf 80 = .ok (.getfield 149, 3) := by decide +kernel
theorem dX12_kindOf_83 : decode cX12_kindOf 83 = .ok (.bipush 18, 2) := by decide +kernel
theorem dX12_kindOf_85 : decode cX12_kindOf 85 = .ok (.if_icmp .ne 7, 3) := by decide +kernel
theorem dX12_kindOf_88 : decode cX12_kindOf 88 = .ok (.iconst 2, 1) := by decide +kernel
theorem dX12_kindOf_89 : decode cX12_kindOf 89 = .ok (.goto 17, 3) := by decide +kernel
theorem dX12_kindOf_92 : decode cX12_kindOf 92 = .ok (.aload_n 0, 1) := by decide +kernel
theorem dX12_kindOf_93 : decode cX12_kindOf 93 = .ok (.getfield 149, 3) := by decide +kernel
theorem dX12_kindOf_96 : decode cX12_kindOf 96 = .ok (.bipush 11, 2) := by decide +kernel
theorem dX12_kindOf_98 : decode cX12_kindOf 98 = .ok (.if_icmp .ne 7, 3) := by decide +kernel
theorem dX12_kindOf_101 : decode cX12_kindOf 101 = .ok (.iconst 3, 1) := by decide +kernel
theorem dX12_kindOf_102 : decode cX12_kindOf 102 = .ok (.goto 4, 3) := by decide +kernel
theorem dX12_kindOf_105 : decode cX12_kindOf 105 = .ok (.iconst (-1), 1) := by decide +kernel
theorem dX12_kindOf_106 : decode cX12_kindOf 106 = .ok (.istore_n 3, 1) := by decide +kernel
theorem dX12_kindOf_107 : decode cX12_kindOf 107 = .ok (.iload_n 3, 1) := by decide +kernel
theorem dX12_kindOf_108 : decode cX12_kindOf 108 = .ok (.ifCond .lt 12, 3) := by decide +kernel
theorem dX12_kindOf_111 : decode cX12_kindOf 111 = .ok (.aload_n 0, 1) := by decide +kernel
theorem dX12_kindOf_112 : decode cX12_kindOf 112 = .ok (.getfield 28, 3) := by decide +kernel
theorem dX12_kindOf_115 : decode cX12_kindOf 115 = .ok (.iload_n 2, 1) := by decide +kernel
theorem dX12_kindOf_116 : decode cX12_kindOf 116 = .ok (.iload_n 3, 1) := by decide +kernel
theorem dX12_kindOf_117 : decode cX12_kindOf 117 = .ok (.iastore, 1) := by decide +kernel
theorem dX12_kindOf_118 : decode cX12_kindOf 118 = .ok (.iconst 2, 1) := by decide +kernel
theorem dX12_kindOf_119 : decode cX12_kindOf 119 = .ok (.ireturn, 1) := by decide +kernel
theorem dX12_kindOf_120 : decode cX12_kindOf 120 = .ok (.aload_n 0, 1) := by decide +kernel
theorem dX12_kindOf_121 : decode cX12_kindOf 121 = .ok (.getfield 149, 3) := by decide +kernel
theorem dX12_kindOf_124 : decode cX12_kindOf 124 = .ok (.bipush 13, 2) := by decide +kernel
theorem dX12_kindOf_126 : decode cX12_kindOf 126 = .ok (.bipush 9, 2) := by decide +kernel
theorem dX12_kindOf_128 : decode cX12_kindOf 128 = .ok (.bipush 14, 2) := by decide +kernel
theorem dX12_kindOf_130 : decode cX12_kindOf 130 = .ok (.iconst 0, 1) := by decide +kernel
theorem dX12_kindOf_131 : decode cX12_kindOf 131 = .ok (.invokestatic 158, 3) := by decide +kernel
theorem dX12_kindOf_134 : decode cX12_kindOf 134 = .ok (.if_icmp .eq 19, 3) := by decide +kernel
theorem dX12_kindOf_137 : decode cX12_kindOf 137 = .ok (.aload_n 0, 1) := by decide +kernel
theorem dX12_kindOf_138 : decode cX12_kindOf 138 = .ok (.getfield 149, 3) := by decide +kernel
theorem dX12_kindOf_141 : decode cX12_kindOf 141 = .ok (.bipush 13, 2) := by decide +kernel
theorem dX12_kindOf_143 : decode cX12_kindOf 143 = .ok (.iconst 1, 1) := by decide +kernel
theorem dX12_kindOf_144 : decode cX12_kindOf 144 = .ok (.bipush 24, 2) := by decide +kernel
theorem dX12_kindOf_146 : decode cX12_kindOf 146 = .ok (.iconst 0, 1) := by decide +kernel
theorem dX12_kindOf_147 : decode cX12_kindOf 147 = .ok (.invokestatic 158, 3) := by decide +kernel
theorem dX12_kindOf_150 : decode cX12_kindOf 150 = .ok (.if_icmp .ne 33, 3) := by decide +kernel
theorem dX12_kindOf_153 : decode cX12_kindOf 153 = .ok (.aload_n 0, 1) := by decide +kernel
theorem dX12_kindOf_154 : decode cX12_kindOf 154 = .ok (.getfield 28, 3) := by decide +kernel
theorem dX12_kindOf_157 : decode cX12_kindOf 157 = .ok (.iload_n 2, 1) := by decide +kernel
theorem dX12_kindOf_158 : decode cX12_kindOf 158 = .ok (.aload_n 0, 1) := by decide +kernel
theorem dX12_kindOf_159 : decode cX12_kindOf 159 = .ok (.getfield 149, 3) := by decide +kernel
theorem dX12_kindOf_162 : decode cX12_kindOf 162 = .ok (.bipush 13, 2) := by decide +kernel
theorem dX12_kindOf_164 : decode cX12_kindOf 164 = .ok (.bipush 9, 2) := by decide +kernel
theorem dX12_kindOf_166 : decode cX12_kindOf 166 = .ok (.bipush 14, 2) := by decide +kernel
theorem dX12_kindOf_168 : decode cX12_kindOf 168 = .ok (.iconst 0, 1) := by decide +kernel
theorem dX12_kindOf_169 : decode cX12_kindOf 169 = .ok (.invokestatic 158, 3) := by decide +kernel
theorem dX12_kindOf_172 : decode cX12_kindOf 172 = .ok (.if_icmp .ne 7, 3) := by decide +kernel
theorem dX12_kindOf_175 : decode cX12_kindOf 175 = .ok (.iconst 1, 1) := by decide +kernel
theorem dX12_kindOf_176 : decode cX12_kindOf 176 = .ok (.goto 4, 3) := by decide +kernel
theorem dX12_kindOf_179 : decode cX12_kindOf 179 = .ok (.iconst 2, 1) := by decide +kernel
theorem dX12_kindOf_180 : decode cX12_kindOf 180 = .ok (.iastore, 1) := by decide +kernel
theorem dX12_kindOf_181 : decode cX12_kindOf 181 = .ok (.iconst 4, 1) := by decide +kernel
theorem dX12_kindOf_182 : decode cX12_kindOf 182 = .ok (.ireturn, 1) := by decide +kernel
theorem dX12_kindOf_183 : decode cX12_kindOf 183 = .ok (.aload_n 0, 1) := by decide +kernel
theorem dX12_kindOf_184 : decode cX12_kindOf 184 = .ok (.getfield 149, 3) := by decide +kernel
theorem dX12_kindOf_187 : decode cX12_kindOf 187 = .ok (.bipush 9, 2) := by decide +kernel
theorem dX12_kindOf_189 : decode cX12_kindOf 189 = .ok (.bipush 6, 2) := by decide +kernel
theorem dX12_kindOf_191 : decode cX12_kindOf 191 = .ok (.iconst 0, 1) := by decide +kernel
theorem dX12_kindOf_192 : decode cX12_kindOf 192 = .ok (.iconst 0, 1) := by decide +kernel
theorem dX12_kindOf_193 : decode cX12_kindOf 193 = .ok (.invokestatic 158, 3) := by decide +kernel
theorem dX12_kindOf_196 : decode cX12_kindOf 196 = .ok (.if_icmp .ne 7, 3) := by decide +kernel
theorem dX12_kindOf_199 : decode cX12_kindOf 199 = .ok (.iconst 5, 1) := by decide +kernel
theorem dX12_kindOf_200 : decode cX12_kindOf 200 = .ok (.goto 4, 3) := by decide +kernel
theorem dX12_kindOf_203 : decode cX12_kindOf 203 = .ok (.iconst 0, 1) := by decide +kernel
theorem dX12_kindOf_204 : decode cX12_kindOf 204 = .ok (.ireturn, 1) := by decide +kernel
theorem dX12_children_0 : decode cX12_children 0 = .ok (.iload_n 0, 1) := by decide +kernel
theorem dX12_children_1 : decode cX12_children 1 = .ok (.iconst 5, 1) := by decide +kernel
theorem dX12_children_2 : decode cX12_children 2 = .ok (.if_icmp .ne 7, 3) := by decide +kernel
theorem dX12_children_5 : decode cX12_children 5 = .ok (.iconst 4, 1) := by decide +kernel
theorem dX12_children_6 : decode cX12_children 6 = .ok (.goto 13, 3) := by decide +kernel
theorem dX12_children_9 : decode cX12_children 9 = .ok (.iload_n 0, 1) := by decide +kernel
theorem dX12_children_10 : decode cX12_children 10 = .ok (.iconst 3, 1) := by decide +kernel
theorem dX12_children_11 : decode cX12_children 11 = .ok (.if_icmp .lt 7, 3) := by decide +kernel
theorem dX12_children_14 : decode cX12_children 14 = .ok (.iconst 2, 1) := by decide +kernel
theorem dX12_children_15 : decode cX12_children 15 = .ok (.goto 4, 3) := by decide +kernel
theorem dX12_children_18 : decode cX12_children 18 = .ok (.iconst 0, 1) := by decide +kernel
theorem dX12_children_19 : decode cX12_children 19 = .ok (.ireturn, 1) := by decide +kernel
theorem dX12_readAll_0 : decode cX12_readAll 0 = .ok (.aload_n 0, 1) := by decide +kernel
theorem dX12_readAll_1 : decode cX12_readAll 1 = .ok (.iconst 0, 1) := by decide +kernel
theorem dX12_readAll_2 : decode cX12_readAll 2 = .ok (.putfield 143, 3) := by decide +kernel
theorem dX12_readAll_5 : decode cX12_readAll 5 = .ok (.aload_n 0, 1) := by decide +kernel
theorem dX12_readAll_6 : decode cX12_readAll 6 = .ok (.iconst 0, 1) := by decide +kernel
theorem dX12_readAll_7 : decode cX12_readAll 7 = .ok (.putfield 162, 3) := by decide +kernel
theorem dX12_readAll_10 : decode cX12_readAll 10 = .ok (.aload_n 0, 1) := by decide +kernel
theorem dX12_readAll_11 : decode cX12_readAll 11 = .ok (.iconst 0, 1) := by decide +kernel
theorem dX12_readAll_12 : decode cX12_readAll 12 = .ok (.putfield 165, 3) := by decide +kernel
theorem dX12_readAll_15 : decode cX12_readAll 15 = .ok (.aload_n 0, 1) := by decide +kernel
theorem dX12_readAll_16 : decode cX12_readAll 16 = .ok (.invokevirtual 168, 3) := by decide +kernel
theorem dX12_readAll_19 : decode cX12_readAll 19 = .ok (.istore_n 1, 1) := by decide +kernel
theorem dX12_readAll_20 : decode cX12_readAll 20 = .ok (.iload_n 1, 1) := by decide +kernel
theorem dX12_readAll_21 : decode cX12_readAll 21 = .ok (.ifCond .ne 12, 3) := by decide +kernel
theorem dX12_readAll_24 : decode cX12_readAll 24 = .ok (.aload_n 0, 1) := by decide +kernel
theorem dX12_readAll_25 : decode cX12_readAll 25 = .ok (.getfield 165, 3) := by decide +kernel
theorem dX12_readAll_28 : decode cX12_readAll 28 = .ok (.ifCond .le 5, 3) := by decide +kernel
theorem dX12_readAll_31 : decode cX12_readAll 31 = .ok (.iconst 0, 1) := by decide +kernel
theorem dX12_readAll_32 : decode cX12_readAll 32 = .ok (.ireturn, 1) := by decide +kernel
theorem dX12_readAll_33 : decode cX12_readAll 33 = .ok (.iload_n 1, 1) := by decide +kernel
theorem dX12_readAll_34 : decode cX12_readAll 34 = .ok (.iconst 1, 1) := by decide +kernel
theorem dX12_readAll_35 : decode cX12_readAll 35 = .ok (.if_icmp .ne 19, 3) := by decide +kernel
theorem dX12_readAll_38 : decode cX12_readAll 38 = .ok (.aload_n 0, 1) := by decide +kernel
theorem dX12_readAll_39 : decode cX12_readAll 39 = .ok (.getfield 149, 3) := by decide +kernel
theorem dX12_readAll_42 : decode cX12_readAll 42 = .ok (.iconst 3, 1) := by decide +kernel
theorem dX12_readAll_43 : decode cX12_readAll 43 = .ok (.iconst 5, 1) := by decide +kernel
theorem dX12_readAll_44 : decode cX12_readAll 44 = .ok (.bipush 12, 2) := by decide +kernel
theorem dX12_readAll_46 : decode cX12_readAll 46 = .ok (.bipush 12, 2) := by decide +kernel
theorem dX12_readAll_48 : decode cX12_readAll 48 = .ok (.invokestatic 158, 3) := by decide +kernel
theorem dX12_readAll_51 : decode cX12_readAll 51 = .ok (.if_icmp .eq 5, 3) := by decide +kernel
theorem dX12_readAll_54 : decode cX12_readAll 54 = .ok (.iconst 1, 1) := by decide +kernel
theorem dX12_readAll_55 : decode cX12_readAll 55 = .ok (.ireturn, 1) := by decide +kernel
theorem dX12_readAll_56 : decode cX12_readAll 56 = .ok (.aload_n 0, 1) := by decide +kernel
theorem dX12_readAll_57 : decode cX12_readAll 57 = .ok (.getfield 165, 3) := by decide +kernel
theorem dX12_readAll_60 : decode cX12_readAll 60 = .ok (.iconst 3, 1) := by decide +kernel
theorem dX12_readAll_61 : decode cX12_readAll 61 = .ok (.if_icmp .ne 5, 3) := by decide +kernel
theorem dX12_readAll_64 : decode cX12_readAll 64 = .ok (.iconst 3, 1) := by decide +kernel
theorem dX12_readAll_65 : decode cX12_readAll 65 = .ok (.ireturn, 1) := by decide +kernel
theorem dX12_readAll_66 : decode cX12_readAll 66 = .ok (.aload_n 0, 1) := by decide +kernel
theorem dX12_readAll_67 : decode cX12_readAll 67 = .ok (.getfield 22, 3) := by decide +kernel
theorem dX12_readAll_70 : decode cX12_readAll 70 = .ok (.iconst 4, 1) := by decide +kernel
theorem dX12_readAll_71 : decode cX12_readAll 71 = .ok (.aload_n 0, 1) := by decide +kernel
theorem dX12_readAll_72 : decode cX12_readAll 72 = .ok (.getfield 165, 3) := by decide +kernel
theorem dX12_readAll_75 : decode cX12_readAll 75 = .ok (.iadd, 1) := by decide +kernel
theorem dX12_readAll_76 : decode cX12_readAll 76 = .ok (.aload_n 0, 1) := by decide +kernel
theorem dX12_readAll_77 : decode cX12_readAll 77 = .ok (.getfield 162, 3) := by decide +kernel
theorem dX12_readAll_80 : decode cX12_readAll 80 = .ok (.iastore, 1) := by decide +kernel
theorem dX12_readAll_81 : decode cX12_readAll 81 = .ok (.aload_n 0, 1) := by decide +kernel
theorem dX12_readAll_82 : decode cX12_readAll 82 = .ok (.getfield 162, 3) := by decide +kernel
theorem dX12_readAll_85 : decode cX12_readAll 85 = .ok (.istore_n 2, 1) := by decide +kernel
theorem dX12_readAll_86 : decode cX12_readAll 86 = .ok (.iconst 0, 1) := by decide +kernel
theorem dX12_readAll_87 : decode cX12_readAll 87 = .ok (.istore_n 3, 1) := by decide +kernel
theorem dX12_readAll_88 : decode cX12_readAll 88 = .ok (.aload_n 0, 1) := by decide +kernel
theorem dX12_readAll_89 : decode cX12_readAll 89 = .ok (.getfield 34, 3) := by decide +kernel
theorem dX12_readAll_92 : decode cX12_readAll 92 = .ok (.iconst 0, 1) := by decide +kernel
theorem dX12_readAll_93 : decode cX12_readAll 93 = .ok (.iconst 1, 1) := by decide +kernel
theorem dX12_readAll_94 : decode cX12_readAll 94 = .ok (.iastore, 1) := by decide +kernel
theorem dX12_readAll_95 : decode cX12_readAll 95 = .ok (.iload_n 3, 1) := by decide +kernel
theorem dX12_readAll_96 : decode cX12_readAll 96 = .ok (.ifCond .lt 128, 3) := by decide +kernel
theorem dX12_readAll_99 : decode cX12_readAll 99 = .ok (.aload_n 0, 1) := by decide +kernel
theorem dX12_readAll_100 : decode cX12_readAll 100 = .ok (.getfield 34, 3) := by decide +kernel
theorem dX12_readAll_103 : decode cX12_readAll 103 = .ok (.iload_n 3, 1) := by decide +kernel
theorem dX12_readAll_104 : decode cX12_readAll 104 = .ok (.iaload, 1) := by decide +kernel
theorem dX12_readAll_105 : decode cX12_readAll 105 = .ok (.ifCond .ne 9, 3) := by decide +kernel
theorem dX12_readAll_108 : decode cX12_readAll 108 = .ok (.iinc 3 (-1), 3) := by decide +kernel
theorem dX12_readAll_111 : decode cX12_readAll 111 = .ok (.goto (-16), 3) := by decide +kernel
theorem dX12_readAll_114 : decode cX12_readAll 114 = .ok (.aload_n 0, 1) := by decide +kernel
theorem dX12_readAll_115 : decode cX12_readAll 115 = .ok (.invokevirtual 168, 3) := by decide +kernel
theorem dX12_readAll_118 : decode cX12_readAll 118 = .ok (.istore_n 1, 1) := by decide +kernel
theorem dX12_readAll_119 : decode cX12_readAll 119 = .ok (.aload_n 0, 1) := by decide +kernel
theorem dX12_readAll_120 : decode cX12_readAll 120 = .ok (.iload_n 1, 1) := by decide +kernel
theorem dX12_readAll_121 : decode cX12_readAll 121 = .ok (.bipush 60, 2) := by decide +kernel
theorem dX12_readAll_123 : decode cX12_readAll 123 = .ok (.aload_n 0, 1) := by decide +kernel
theorem dX12_readAll_124 : decode cX12_readAll 124 = .ok (.getfield 162, 3) := by decide +kernel
theorem dX12_readAll_127 : decode cX12_readAll 127 = .ok (.bipush 60, 2) := by decide +kernel
theorem dX12_readAll_129 : decode cX12_readAll 129 = .ok (.if_icmp .ge 10, 3) := by decide +kernel
theorem dX12_readAll_132 : decode cX12_readAll 132 = .ok (.aload_n 0, 1) := by decide +kernel
theorem dX12_readAll_133 : decode cX12_readAll 133 = .ok (.getfield 162, 3) := by decide +kernel
theorem dX12_readAll_136 : decode cX12_readAll 136 = .ok (.goto 5, 3) := by decide +kernel
theorem dX12_readAll_139 : decode cX12_readAll 139 = .ok (.bipush 59, 2) := by decide +kernel
theorem dX12_readAll_141 : decode cX12_readAll 141 = .ok (.iadd, 1) := by decide +kernel
theorem dX12_readAll_142 : decode cX12_readAll 142 = .ok (.invokevirtual 172, 3) := by decide +kernel
theorem dX12_readAll_145 : decode cX12_readAll 145 = .ok (.istore 4, 2) := by decide +kernel
theorem dX12_readAll_147 : decode cX12_readAll 147 = .ok (.iload 4, 2) := by decide +kernel
theorem dX12_readAll_149 : decode cX12_readAll 149 = .ok (.ifCond .ne 5, 3) := by decide +kernel
theorem dX12_readAll_152 : decode cX12_readAll 152 = .ok (.iconst 1, 1) := by decide +kernel
theorem dX12_readAll_153 : decode cX12_readAll 153 = .ok (.ireturn, 1) := by decide +kernel
theorem dX12_readAll_154 : decode cX12_readAll 154 = .ok (.aload_n 0, 1) := by decide +kernel
theorem dX12_readAll_155 : decode cX12_readAll 155 = .ok (.getfield 162, 3) := by decide +kernel
theorem dX12_readAll_158 : decode cX12_readAll 158 = .ok (.iload_n 2, 1) := by decide +kernel
theorem dX12_readAll_159 : decode cX12_readAll 159 = .ok (.isub, 1) := by decide +kernel
theorem dX12_readAll_160 : decode cX12_readAll 160 = .ok (.bipush 20, 2) := by decide +kernel
theorem dX12_readAll_162 : decode cX12_readAll 162 = .ok (.if_icmp .eq 9, 3) := by decide +kernel
theorem dX12_readAll_165 : decode cX12_readAll 165 = .ok (.iload_n 3, 1) := by decide +kernel
theorem dX12_readAll_166 : decode cX12_readAll 166 = .ok (.bipush 6, 2) := by decide +kernel
theorem dX12_readAll_168 : decode cX12_readAll 168 = .ok (.if_icmp .ne 5, 3) := by decide +kernel
theorem dX12_readAll_171 : decode cX12_readAll 171 = .ok (.iconst 3, 1) := by decide +kernel
theorem dX12_readAll_172 : decode cX12_readAll 172 = .ok (.ireturn, 1) := by decide +kernel
theorem dX12_readAll_173 : decode cX12_readAll 173 = .ok (.aload_n 0, 1) := by decide +kernel
theorem dX12_readAll_174 : decode cX12_readAll 174 = .ok (.getfield 25, 3) := by decide +kernel
theorem dX12_readAll_177 : decode cX12_readAll 177 = .ok (.bipush 60, 2) := by decide +kernel
theorem dX12_readAll_179 : decode cX12_readAll 179 = .ok (.aload_n 0, 1) := by decide +kernel
theorem dX12_readAll_180 : decode cX12_readAll 180 = .ok (.getfield 162, 3) := by decide +kernel
theorem dX12_readAll_183 : decode cX12_readAll 183 = .ok (.iadd, 1) := by decide +kernel
theorem dX12_readAll_184 : decode cX12_readAll 184 = .ok (.iload 4, 2) := by decide +kernel
theorem dX12_readAll_186 : decode cX12_readAll 186 = .ok (.iastore, 1) := by decide +kernel
theorem dX12_readAll_187 : decode cX12_readAll 187 = .ok (.aload_n 0, 1) := by decide +kernel
theorem dX12_readAll_188 : decode cX12_readAll 188 = .ok (.dup, 1) := by decide +kernel
theorem dX12_readAll_189 : decode cX12_readAll 189 = .ok (.getfield 162, 3) := by decide +kernel
theorem dX12_readAll_192 : decode cX12_readAll 192 = .ok (.iconst 1, 1) := by decide +kernel
theorem dX12_readAll_193 : decode cX12_readAll 193 = .ok (.iadd, 1) := by decide +kernel
theorem dX12_readAll_194 : decode cX12_readAll 194 = .ok (.putfield 162, 3) := by decide +kernel
theorem dX12_readAll_197 : decode cX12_readAll 197 = .ok (.aload_n 0, 1) := by decide +kernel
theorem dX12_readAll_198 : decode cX12_readAll 198 = .ok (.getfield 34, 3) := by decide +kernel
theorem dX12_readAll_201 : decode cX12_readAll 201 = .ok (.iload_n 3, 1) := by decide +kernel
theorem dX12_readAll_202 : decode cX12_readAll 202 = .ok (.dup2, 1) := by decide +kernel
theorem dX12_readAll_203 : decode cX12_readAll 203 = .ok (.iaload, 1) := by decide +kernel
theorem dX12_readAll_204 : decode cX12_readAll 204 = .ok (.iconst 1, 1) := by decide +kernel
theorem dX12_readAll_205 : decode cX12_readAll 205 = .ok (.isub, 1) := by decide +kernel
theorem dX12_readAll_206 : decode cX12_readAll 206 = .ok (.iastore, 1) := by decide +kernel
theorem dX12_readAll_207 : decode cX12_readAll 207 = .ok (.iinc 3 1, 3) := by decide +kernel
theorem dX12_readAll_210 : decode cX12_readAll 210 = .ok (.aload_n 0, 1) := by decide +kernel
theorem dX12_readAll_211 : decode cX12_readAll 211 = .ok (.getfield 34, 3) := by decide +kernel
theorem dX12_readAll_214 : decode cX12_readAll 214 = .ok (.iload_n 3, 1) := by decide +kernel
theorem dX12_readAll_215 : decode cX12_readAll 215 = .ok (.iload 4, 2) := by decide +kernel
theorem dX12_readAll_217 : decode cX12_readAll 217 = .ok (.invokestatic 175, 3) := by decide +kernel
theorem dX12_readAll_220 : decode cX12_readAll 220 = .ok (.iastore, 1) := by decide +kernel
theorem dX12_readAll_221 : decode cX12_readAll 221 = .ok (.goto (-126), 3) := by decide +kernel
theorem dX12_readAll_224 : decode cX12_readAll 224 = .ok (.aload_n 0, 1) := by decide +kernel
theorem dX12_readAll_225 : decode cX12_readAll 225 = .ok (.dup, 1) := by decide +kernel
theorem dX12_readAll_226 : decode cX12_readAll 226 = .ok (.getfield 165, 3) := by decide +kernel
theorem dX12_readAll_229 : decode cX12_readAll 229 = .ok (.iconst 1, 1) := by decide +kernel
theorem dX12_readAll_230 : decode cX12_readAll 230 = .ok (.iadd, 1) := by decide +kernel
theorem dX12_readAll_231 : decode cX12_readAll 231 = .ok (.putfield 165, 3) := by decide +kernel
theorem dX12_readAll_234 : decode cX12_readAll 234 = .ok (.aload_n 0, 1) := by decide +kernel
theorem dX12_readAll_235 : decode cX12_readAll 235 = .ok (.invokevirtual 168, 3) := by decide +kernel
theorem dX12_readAll_238 : decode cX12_readAll 238 = .ok (.istore_n 1, 1) := by decide +kernel
theorem dX12_readAll_239 : decode cX12_readAll 239 = .ok (.iload_n 1, 1) := by decide +kernel
theorem dX12_readAll_240 : decode cX12_readAll 240 = .ok (.iconst 3, 1) := by decide +kernel
theorem dX12_readAll_241 : decode cX12_readAll 241 = .ok (.if_icmp .ne 12, 3) := by decide +kernel
theorem dX12_readAll_244 : decode cX12_readAll 244 = .ok (.aload_n 0, 1) := by decide +kernel
theorem dX12_readAll_245 : decode cX12_readAll 245 = .ok (.getfield 149, 3) := by decide +kernel
theorem dX12_readAll_248 : decode cX12_readAll 248 = .ok (.bipush 59, 2) := by decide +kernel
theorem dX12_readAll_250 : decode cX12_readAll 250 = .ok (.if_icmp .eq 5, 3) := by decide +kernel
theorem dX12_readAll_253 : decode cX12_readAll 253 = .ok (.iconst 1, 1) := by decide +kernel
theorem dX12_readAll_254 : decode cX12_readAll 254 = .ok (.ireturn, 1) := by decide +kernel
theorem dX12_readAll_255 : decode cX12_readAll 255 = .ok (.goto (-240), 3) := by decide +kernel
theorem dX12_laySizes_0 : decode cX12_laySizes 0 = .ok (.aload_n 0, 1) := by decide +kernel
theorem dX12_laySizes_1 : decode cX12_laySizes 1 = .ok (.getfield 179, 3) := by decide +kernel
theorem dX12_laySizes_4 : decode cX12_laySizes 4 = .ok (.iconst 1, 1) := by decide +kernel
theorem dX12_laySizes_5 : decode cX12_laySizes 5 = .ok (.isub, 1) := by decide +kernel
theorem dX12_laySizes_6 : decode cX12_laySizes 6 = .ok (.istore_n 1, 1) := by decide +kernel
theorem dX12_laySizes_7 : decode cX12_laySizes 7 = .ok (.iload_n 1, 1) := by decide +kernel
theorem dX12_laySizes_8 : decode cX12_laySizes 8 = .ok (.ifCond .lt 50, 3) := by decide +kernel
theorem dX12_laySizes_11 : decode cX12_laySizes 11 = .ok (.iconst 1, 1) := by decide +kernel
theorem dX12_laySizes_12 : decode cX12_laySizes 12 = .ok (.istore_n 2, 1) := by decide +kernel
theorem dX12_laySizes_13 : decode cX12_laySizes 13 = .ok (.iconst 0, 1) := by decide +kernel
theorem dX12_laySizes_14 : decode cX12_laySizes 14 = .ok (.istore_n 3, 1) := by decide +kernel
theorem dX12_laySizes_15 : decode cX12_laySizes 15 = .ok (.iload_n 3, 1) := by decide +kernel
theorem dX12_laySizes_16 : decode cX12_laySizes 16 = .ok (.aload_n 0, 1) := by decide +kernel
theorem dX12_laySizes_17 : decode cX12_laySizes 17 = .ok (.getfield 25, 3) := by decide +kernel
theorem dX12_laySizes_20 : decode cX12_laySizes 20 = .ok (.iload_n 1, 1) := by decide +kernel
theorem dX12_laySizes_21 : decode cX12_laySizes 21 = .ok (.iaload, 1) := by decide +kernel
theorem dX12_laySizes_22 : decode cX12_laySizes 22 = .ok (.invokestatic 175, 3) := by decide +kernel
theorem dX12_laySizes_25 : decode cX12_laySizes 25 = .ok (.if_icmp .ge 20, 3) := by decide +kernel
theorem dX12_laySizes_28 : decode cX12_laySizes 28 = .ok (.iload_n 2, 1) := by decide +kernel
theorem dX12_laySizes_29 : decode cX12_laySizes 29 = .ok (.aload_n 0, 1) := by decide +kernel
theorem dX12_laySizes_30 : decode cX12_laySizes 30 = .ok (.getfield 31, 3) := by decide +kernel
theorem dX12_laySizes_33 : decode cX12_laySizes 33 = .ok (.iload_n 1, 1) := by decide +kernel
theorem dX12_laySizes_34 : decode cX12_laySizes 34 = .ok (.iload_n 2, 1) := by decide +kernel
theorem dX12_laySizes_35 : decode cX12_laySizes 35 = .ok (.iadd, 1) := by decide +kernel
theorem dX12_laySizes_36 : decode cX12_laySizes 36 = .ok (.iaload, 1) := by decide +kernel
theorem dX12_laySizes_37 : decode cX12_laySizes 37 = .ok (.iadd, 1) := by decide +kernel
theorem dX12_laySizes_38 : decode cX12_laySizes 38 = .ok (.istore_n 2, 1) := by decide +kernel
theorem dX12_laySizes_39 : decode cX12_laySizes 39 = .ok (.iinc 3 1, 3) := by decide +kernel
theorem dX12_laySizes_42 : decode cX12_laySizes 42 = .ok (.goto (-27), 3) := by decide +kernel
theorem dX12_laySizes_45 : decode cX12_laySizes 45 = .ok (.aload_n 0, 1) := by decide +kernel
theorem dX12_laySizes_46 : decode cX12_laySizes 46 = .ok (.getfield 31, 3) := by decide +kernel
theorem dX12_laySizes_49 : decode cX12_laySizes 49 = .ok (.iload_n 1, 1) := by decide +kernel
theorem dX12_laySizes_50 : decode cX12_laySizes 50 = .ok (.iload_n 2, 1) := by decide +kernel
theorem dX12_laySizes_51 : decode cX12_laySizes 51 = .ok (.iastore, 1) := by decide +kernel
theorem dX12_laySizes_52 : decode cX12_laySizes 52 = .ok (.iinc 1 (-1), 3) := by decide +kernel
theorem dX12_laySizes_55 : decode cX12_laySizes 55 = .ok (.goto (-48), 3) := by decide +kernel
theorem dX12_laySizes_58 : decode cX12_laySizes 58 = .ok (.return_, 1) := by decide +kernel
theorem dX12_stencils_0 : decode cX12_stencils 0 = .ok (.aload_n 0, 1) := by decide +kernel
theorem dX12_stencils_1 : decode cX12_stencils 1 = .ok (.invokevirtual 182, 3) := by decide +kernel
theorem dX12_stencils_4 : decode cX12_stencils 4 = .ok (.istore_n 1, 1) := by decide +kernel
theorem dX12_stencils_5 : decode cX12_stencils 5 = .ok (.aload_n 0, 1) := by decide +kernel
theorem dX12_stencils_6 : decode cX12_stencils 6 = .ok (.iconst 0, 1) := by decide +kernel
theorem dX12_stencils_7 : decode cX12_stencils 7 = .ok (.putfield 140, 3) := by decide +kernel
theorem dX12_stencils_10 : decode cX12_stencils 10 = .ok (.iload_n 1, 1) := by decide +kernel
theorem dX12_stencils_11 : decode cX12_stencils 11 = .ok (.ifCond .le 18, 3) := by decide +kernel
theorem dX12_stencils_14 : decode cX12_stencils 14 = .ok (.aload_n 0, 1) := by decide +kernel
theorem dX12_stencils_15 : decode cX12_stencils 15 = .ok (.iload_n 1, 1) := by decide +kernel
theorem dX12_stencils_16 : decode cX12_stencils 16 = .ok (.putfield 185, 3) := by decide +kernel
theorem dX12_stencils_19 : decode cX12_stencils 19 = .ok (.ldc2_w 188, 3) := by decide +kernel
theorem dX12_stencils_22 : decode cX12_stencils 22 = .ok (.aload_n 0, 1) := by decide +kernel
theorem dX12_stencils_23 : decode cX12_stencils 23 = .ok (.getfield 146, 3) := by decide +kernel
theorem dX12_stencils_26 : decode cX12_stencils 26 = .ok (.i2l, 1) := by decide +kernel
theorem dX12_stencils_27 : decode cX12_stencils 27 = .ok (.lsub, 1) := by decide +kernel
theorem dX12_stencils_28 : decode cX12_stencils 28 = .ok (.lreturn, 1) := by decide +kernel
theorem dX12_stencils_29 : decode cX12_stencils 29 = .ok (.aload_n 0, 1) := by decide +kernel
theorem dX12_stencils_30 : decode cX12_stencils 30 = .ok (.aload_n 0, 1) := by decide +kernel
theorem dX12_stencils_31 : decode cX12_stencils 31 = .ok (.getfield 165, 3) := by decide +kernel
theorem dX12_stencils_34 : decode cX12_stencils 34 = .ok (.putfield 190, 3) := by decide +kernel
theorem dX12_stencils_37 : decode cX12_stencils 37 = .ok (.aload_n 0, 1) := by decide +kernel
theorem dX12_stencils_38 : decode cX12_stencils 38 = .ok (.aload_n 0, 1) := by decide +kernel
theorem dX12_stencils_39 : decode cX12_stencils 39 = .ok (.getfield 162, 3) := by decide +kernel
theorem dX12_stencils_42 : decode cX12_stencils 42 = .ok (.putfield 179, 3) := by decide +kernel
theorem dX12_stencils_45 : decode cX12_stencils 45 = .ok (.iconst 0, 1) := by decide +kernel
theorem dX12_stencils_46 : decode cX12_stencils 46 = .ok (.istore_n 2, 1) := by decide +kernel
theorem dX12_stencils_47 : decode cX12_stencils 47 = .ok (.iload_n 2, 1) := by decide +kernel
theorem dX12_stencils_48 : decode cX12_stencils 48 = .ok (.aload_n 0, 1) := by decide +kernel
theorem dX12_stencils_49 : decode cX12_stencils 49 = .ok (.getfield 179, 3) := by decide +kernel
theorem dX12_stencils_52 : decode cX12_stencils 52 = .ok (.if_icmp .ge 39, 3) := by decide +kernel
theorem dX12_stencils_55 : decode cX12_stencils 55 = .ok (.aload_n 0, 1) := by decide +kernel
theorem dX12_stencils_56 : decode cX12_stencils 56 = .ok (.getfield 25, 3) := by decide +kernel
theorem dX12_stencils_59 : decode cX12_stencils 59 = .ok (.iload_n 2, 1) := by decide +kernel
theorem dX12_stencils_60 : decode cX12_stencils 60 = .ok (.aload_n 0, 1) := by decide +kernel
theorem dX12_stencils_61 : decode cX12_stencils 61 = .ok (.getfield 25, 3) := by decide +kernel
theorem dX12_stencils_64 : decode cX12_stencils 64 = .ok (.bipush 60, 2) := by decide +kernel
theorem dX12_stencils_66 : decode cX12_stencils 66 = .ok (.iload_n 2, 1) := by decide +kernel
theorem dX12_stencils_67 : decode cX12_stencils 67 = .ok (.iadd, 1) := by decide +kernel
theorem dX12_stencils_68 : decode cX12_stencils 68 = .ok (.iaload, 1) := by decide +kernel
theorem dX12_stencils_69 : decode cX12_stencils 69 = .ok (.iastore, 1) := by decide +kernel
theorem dX12_stencils_70 : decode cX12_stencils 70 = .ok (.aload_n 0, 1) := by decide +kernel
theorem dX12_stencils_71 : decode cX12_stencils 71 = .ok (.getfield 28, 3) := by decide +kernel
theorem dX12_stencils_74 : decode cX12_stencils 74 = .ok (.iload_n 2, 1) := by decide +kernel
theorem dX12_stencils_75 : decode cX12_stencils 75 = .ok (.aload_n 0, 1) := by decide +kernel
theorem dX12_stencils_76 : decode cX12_stencils 76 = .ok (.getfield 28, 3) := by decide +kernel
theorem dX12_stencils_79 : decode cX12_stencils 79 = .ok (.bipush 60, 2) := by decide +kernel
theorem dX12_stencils_81 : decode cX12_stencils 81 = .ok (.iload_n 2, 1) := by decide +kernel
theorem dX12_stencils_82 : decode cX12_stencils 82 = .ok (.iadd, 1) := by decide +kernel
theorem dX12_stencils_83 : decode cX12_stencils 83 = .ok (.iaload, 1) := by decide +kernel
theorem dX12_stencils_84 : decode cX12_stencils 84 = .ok (.iastore, 1) := by decide +kernel
theorem dX12_stencils_85 : decode cX12_stencils 85 = .ok (.iinc 2 1, 3) := by decide +kernel
theorem dX12_stencils_88 : decode cX12_stencils 88 = .ok (.goto (-41), 3) := by decide +kernel
theorem dX12_stencils_91 : decode cX12_stencils 91 = .ok (.iconst 0, 1) := by decide +kernel
theorem dX12_stencils_92 : decode cX12_stencils 92 = .ok (.istore_n 2, 1) := by decide +kernel
theorem dX12_stencils_93 : decode cX12_stencils 93 = .ok (.iload_n 2, 1) := by decide +kernel
theorem dX12_stencils_94 : decode cX12_stencils 94 = .ok (.aload_n 0, 1) := by decide +kernel
theorem dX12_stencils_95 : decode cX12_stencils 95 = .ok (.getfield 190, 3) := by decide +kernel
theorem dX12_stencils_98 : decode cX12_stencils 98 = .ok (.if_icmp .ge 23, 3) := by decide +kernel
theorem dX12_stencils_101 : decode cX12_stencils 101 = .ok (.aload_n 0, 1) := by decide +kernel
theorem dX12_stencils_102 : decode cX12_stencils 102 = .ok (.getfield 22, 3) := by decide +kernel
theorem dX12_stencils_105 : decode cX12_stencils 105 = .ok (.iload_n 2, 1) := by decide +kernel
theorem dX12_stencils_106 : decode cX12_stencils 106 = .ok (.aload_n 0, 1) := by decide +kernel
theorem dX12_stencils_107 : decode cX12_stencils 107 = .ok (.getfield 22, 3) := by decide +kernel
theorem dX12_stencils_110 : decode cX12_stencils 110 = .ok (.iconst 4, 1) := by decide +kernel
theorem dX12_stencils_111 : decode cX12_stencils 111 = .ok (.iload_n 2, 1) := by decide +kernel
theorem dX12_stencils_112 : decode cX12_stencils 112 = .ok (.iadd, 1) := by decide +kernel
theorem dX12_stencils_113 : decode cX12_stencils 113 = .ok (.iaload, 1) := by decide +kernel
theorem dX12_stencils_114 : decode cX12_stencils 114 = .ok (.iastore, 1) := by decide +kernel
theorem dX12_stencils_115 : decode cX12_stencils 115 = .ok (.iinc 2 1, 3) := by decide +kernel
theorem dX12_stencils_118 : decode cX12_stencils 118 = .ok (.goto (-25), 3) := by decide +kernel
theorem dX12_stencils_121 : decode cX12_stencils 121 = .ok (.aload_n 0, 1) := by decide +kernel
theorem dX12_stencils_122 : decode cX12_stencils 122 = .ok (.getfield 22, 3) := by decide +kernel
theorem dX12_stencils_125 : decode cX12_stencils 125 = .ok (.aload_n 0, 1) := by decide +kernel
theorem dX12_stencils_126 : decode cX12_stencils 126 = .ok (.getfield 190, 3) := by decide +kernel
theorem dX12_stencils_129 : decode cX12_stencils 129 = .ok (.aload_n 0, 1) := by decide +kernel
theorem dX12_stencils_130 : decode cX12_stencils 130 = .ok (.getfield 179, 3) := by decide +kernel
theorem dX12_stencils_133 : decode cX12_stencils 133 = .ok (.iastore, 1) := by decide +kernel
theorem dX12_stencils_134 : decode cX12_stencils 134 = .ok (.aload_n 0, 1) := by decide +kernel
theorem dX12_stencils_135 : decode cX12_stencils 135 = .ok (.invokevirtual 193, 3) := by decide +kernel
theorem dX12_stencils_138 : decode cX12_stencils 138 = .ok (.aload_n 0, 1) := by decide +kernel
theorem dX12_stencils_139 : decode cX12_stencils 139 = .ok (.getfield 179, 3) := by decide +kernel
theorem dX12_stencils_142 : decode cX12_stencils 142 = .ok (.i2l, 1) := by decide +kernel
theorem dX12_stencils_143 : decode cX12_stencils 143 = .ok (.lreturn, 1) := by decide +kernel
theorem dX12_fault_0 : decode cX12_fault 0 = .ok (.aload_n 0, 1) := by decide +kernel
theorem dX12_fault_1 : decode cX12_fault 1 = .ok (.getfield 185, 3) := by decide +kernel
theorem dX12_fault_4 : decode cX12_fault 4 = .ok (.ireturn, 1) := by decide +kernel
theorem dX12_isCell_0 : decode cX12_isCell 0 = .ok (.iload_n 1, 1) := by decide +kernel
theorem dX12_isCell_1 : decode cX12_isCell 1 = .ok (.iconst 0, 1) := by decide +kernel
theorem dX12_isCell_2 : decode cX12_isCell 2 = .ok (.aload_n 0, 1) := by decide +kernel
theorem dX12_isCell_3 : decode cX12_isCell 3 = .ok (.getfield 37, 3) := by decide +kernel
theorem dX12_isCell_6 : decode cX12_isCell 6 = .ok (.iconst 1, 1) := by decide +kernel
theorem dX12_isCell_7 : decode cX12_isCell 7 = .ok (.isub, 1) := by decide +kernel
theorem dX12_isCell_8 : decode cX12_isCell 8 = .ok (.invokestatic 121, 3) := by decide +kernel
theorem dX12_isCell_11 : decode cX12_isCell 11 = .ok (.ireturn, 1) := by decide +kernel
theorem dX12_bay_0 : decode cX12_bay 0 = .ok (.iload_n 1, 1) := by decide +kernel
theorem dX12_bay_1 : decode cX12_bay 1 = .ok (.iconst 2, 1) := by decide +kernel
theorem dX12_bay_2 : decode cX12_bay 2 = .ok (.bipush 10, 2) := by decide +kernel
theorem dX12_bay_4 : decode cX12_bay 4 = .ok (.invokestatic 121, 3) := by decide +kernel
theorem dX12_bay_7 : decode cX12_bay 7 = .ok (.ifCond .ne 8, 3) := by decide +kernel
theorem dX12_bay_10 : decode cX12_bay 10 = .ok (.iconst 1, 1) := by decide +kernel
theorem dX12_bay_11 : decode cX12_bay 11 = .ok (.invokestatic 129, 3) := by decide +kernel
theorem dX12_bay_14 : decode cX12_bay 14 = .ok (.lreturn, 1) := by decide +kernel
theorem dX12_bay_15 : decode cX12_bay 15 = .ok (.aload_n 0, 1) := by decide +kernel
theorem dX12_bay_16 : decode cX12_bay 16 = .ok (.getfield 37, 3) := by decide +kernel
theorem dX12_bay_19 : decode cX12_bay 19 = .ok (.istore_n 2, 1) := by decide +kernel
theorem dX12_bay_20 : decode cX12_bay 20 = .ok (.aload_n 0, 1) := by decide +kernel
theorem dX12_bay_21 : decode cX12_bay 21 = .ok (.iload_n 1, 1) := by decide +kernel
theorem dX12_bay_22 : decode cX12_bay 22 = .ok (.putfield 37, 3) := by decide +kernel
theorem dX12_bay_25 : decode cX12_bay 25 = .ok (.iconst 0, 1) := by decide +kernel
theorem dX12_bay_26 : decode cX12_bay 26 = .ok (.istore_n 3, 1) := by decide +kernel
theorem dX12_bay_27 : decode cX12_bay 27 = .ok (.iload_n 3, 1) := by decide +kernel
theorem dX12_bay_28 : decode cX12_bay 28 = .ok (.bipush 10, 2) := by decide +kernel
theorem dX12_bay_30 : decode cX12_bay 30 = .ok (.if_icmp .ge 23, 3) := by decide +kernel
theorem dX12_bay_33 : decode cX12_bay 33 = .ok (.aload_n 0, 1) := by decide +kernel
theorem dX12_bay_34 : decode cX12_bay 34 = .ok (.getfield 41, 3) := by decide +kernel
theorem dX12_bay_37 : decode cX12_bay 37 = .ok (.iload_n 3, 1) := by decide +kernel
theorem dX12_bay_38 : decode cX12_bay 38 = .ok (.iconst 0, 1) := by decide +kernel
theorem dX12_bay_39 : decode cX12_bay 39 = .ok (.iastore, 1) := by decide +kernel
theorem dX12_bay_40 : decode cX12_bay 40 = .ok (.aload_n 0, 1) := by decide +kernel
theorem dX12_bay_41 : decode cX12_bay 41 = .ok (.getfield 44, 3) := by decide +kernel
theorem dX12_bay_44 : decode cX12_bay 44 = .ok (.iload_n 3, 1) := by decide +kernel
theorem dX12_bay_45 : decode cX12_bay 45 = .ok (.iconst 1, 1) := by decide +kernel
theorem dX12_bay_46 : decode cX12_bay 46 = .ok (.iastore, 1) := by decide +kernel
theorem dX12_bay_47 : decode cX12_bay 47 = .ok (.iinc 3 1, 3) := by decide +kernel
theorem dX12_bay_50 : decode cX12_bay 50 = .ok (.goto (-23), 3) := by decide +kernel
theorem dX12_bay_53 : decode cX12_bay 53 = .ok (.iload_n 2, 1) := by decide +kernel
theorem dX12_bay_54 : decode cX12_bay 54 = .ok (.i2l, 1) := by decide +kernel
theorem dX12_bay_55 : decode cX12_bay 55 = .ok (.lreturn, 1) := by decide +kernel
theorem dX12_start_0 : decode cX12_start 0 = .ok (.iload_n 1, 1) := by decide +kernel
theorem dX12_start_1 : decode cX12_start 1 = .ok (.invokestatic 125, 3) := by decide +kernel
theorem dX12_start_4 : decode cX12_start 4 = .ok (.ifCond .ne 8, 3) := by decide +kernel
theorem dX12_start_7 : decode cX12_start 7 = .ok (.iconst 1, 1) := by decide +kernel
theorem dX12_start_8 : decode cX12_start 8 = .ok (.invokestatic 129, 3) := by decide +kernel
theorem dX12_start_11 : decode cX12_start 11 = .ok (.lreturn, 1) := by decide +kernel
theorem dX12_start_12 : decode cX12_start 12 = .ok (.aload_n 0, 1) := by decide +kernel
theorem dX12_start_13 : decode cX12_start 13 = .ok (.getfield 7, 3) := by decide +kernel
theorem dX12_start_16 : decode cX12_start 16 = .ok (.iload_n 1, 1) := by decide +kernel
theorem dX12_start_17 : decode cX12_start 17 = .ok (.iaload, 1) := by decide +kernel
theorem dX12_start_18 : decode cX12_start 18 = .ok (.ifCond .ge 9, 3) := by decide +kernel
theorem dX12_start_21 : decode cX12_start 21 = .ok (.aload_n 0, 1) := by decide +kernel
theorem dX12_start_22 : decode cX12_start 22 = .ok (.iconst 1, 1) := by decide +kernel
theorem dX12_start_23 : decode cX12_start 23 = .ok (.invokevirtual 133, 3) := by decide +kernel
theorem dX12_start_26 : decode cX12_start 26 = .ok (.lreturn, 1) := by decide +kernel
theorem dX12_start_27 : decode cX12_start 27 = .ok (.iload_n 2, 1) := by decide +kernel
theorem dX12_start_28 : decode cX12_start 28 = .ok (.ifCond .lt 28, 3) := by decide +kernel
theorem dX12_start_31 : decode cX12_start 31 = .ok (.iload_n 2, 1) := by decide +kernel
theorem dX12_start_32 : decode cX12_start 32 = .ok (.aload_n 0, 1) := by decide +kernel
theorem dX12_start_33 : decode cX12_start 33 = .ok (.getfield 13, 3) := by decide +kernel
theorem dX12_start_36 : decode cX12_start 36 = .ok (.iload_n 1, 1) := by decide +kernel
theorem dX12_start_37 : decode cX12_start 37 = .ok (.iaload, 1) := by decide +kernel
theorem dX12_start_38 : decode cX12_start 38 = .ok (.if_icmp .gt 18, 3) := by decide +kernel
theorem dX12_start_41 : decode cX12_start 41 = .ok (.aload_n 0, 1) := by decide +kernel
theorem dX12_start_42 : decode cX12_start 42 = .ok (.getfield 37, 3) := by decide +kernel
theorem dX12_start_45 : decode cX12_start 45 = .ok (.aload_n 0, 1) := by decide +kernel
theorem dX12_start_46 : decode cX12_start 46 = .ok (.getfield 13, 3) := by decide +kernel
theorem dX12_start_49 : decode cX12_start 49 = .ok (.iload_n 1, 1) := by decide +kernel
theorem dX12_start_50 : decode cX12_start 50 = .ok (.iaload, 1) := by decide +kernel
theorem dX12_start_51 : decode cX12_start 51 = .ok (.iload_n 2, 1) := by decide +kernel
theorem dX12_start_52 : decode cX12_start 52 = .ok (.isub, 1) := by decide +kernel
theorem dX12_start_53 : decode cX12_start 53 = .ok (.if_icmp .le 9, 3) := by decide +kernel
theorem dX12_start_56 : decode cX12_start 56 = .ok (.aload_n 0, 1) := by decide +kernel
theorem dX12_start_57 : decode cX12_start 57 = .ok (.iconst 2, 1) := by decide +kernel
theorem dX12_start_58 : decode cX12_start 58 = .ok (.invokevirtual 133, 3) := by decide +kernel
theorem dX12_start_61 : decode cX12_start 61 = .ok (.lreturn, 1) := by decide +kernel
theorem dX12_start_62 : decode cX12_start 62 = .ok (.aload_n 0, 1) := by decide +kernel
theorem dX12_start_63 : decode cX12_start 63 = .ok (.iconst 0, 1) := by decide +kernel
theorem dX12_start_64 : decode cX12_start 64 = .ok (.putfield 116, 3) := by decide +kernel
theorem dX12_start_67 : decode cX12_start 67 = .ok (.iconst 0, 1) := by decide +kernel
theorem dX12_start_68 : decode cX12_start 68 = .ok (.istore_n 3, 1) := by decide +kernel
theorem dX12_start_69 : decode cX12_start 69 = .ok (.iload_n 3, 1) := by decide +kernel
theorem dX12_start_70 : decode cX12_start 70 = .ok (.aload_n 0, 1) := by decide +kernel
theorem dX12_start_71 : decode cX12_start 71 = .ok (.getfield 37, 3) := by decide +kernel
theorem dX12_start_74 : decode cX12_start 74 = .ok (.if_icmp .ge 28, 3) := by decide +kernel
theorem dX12_start_77 : decode cX12_start 77 = .ok (.aload_n 0, 1) := by decide +kernel
theorem dX12_start_78 : decode cX12_start 78 = .ok (.getfield 41, 3) := by decide +kernel
theorem dX12_start_81 : decode cX12_start 81 = .ok (.iload_n 3, 1) := by decide +kernel
theorem dX12_start_82 : decode cX12_start 82 = .ok (.aload_n 0, 1) := by decide +kernel
theorem dX12_start_83 : decode cX12_start 83 = .ok (.getfield 16, 3) := by decide +kernel
theorem dX12_start_86 : decode cX12_start 86 = .ok (.bipush 20, 2) := by decide +kernel
theorem dX12_start_88 : decode cX12_start 88 = .ok (.iload_n 1, 1) := by decide +kernel
theorem dX12_start_89 : decode cX12_start 89 = .ok (.imul, 1) := by decide +kernel
theorem dX12_start_90 : decode cX12_start 90 = .ok (.iload_n 2, 1) := by decide +kernel
theorem dX12_start_91 : decode cX12_start 91 = .ok (.iadd, 1) := by decide +kernel
theorem dX12_start_92 : decode cX12_start 92 = .ok (.iload_n 3, 1) := by decide +kernel
theorem dX12_start_93 : decode cX12_start 93 = .ok (.iadd, 1) := by decide +kernel
theorem dX12_start_94 : decode cX12_start 94 = .ok (.iaload, 1) := by decide +kernel
theorem dX12_start_95 : decode cX12_start 95 = .ok (.iastore, 1) := by decide +kernel
theorem dX12_start_96 : decode cX12_start 96 = .ok (.iinc 3 1, 3) := by decide +kernel
theorem dX12_start_99 : decode cX12_start 99 = .ok (.goto (-30), 3) := by decide +kernel
theorem dX12_start_102 : decode cX12_start 102 = .ok (.aload_n 0, 1) := by decide +kernel
theorem dX12_start_103 : decode cX12_start 103 = .ok (.getfield 37, 3) := by decide +kernel
theorem dX12_start_106 : decode cX12_start 106 = .ok (.i2l, 1) := by decide +kernel
theorem dX12_start_107 : decode cX12_start 107 = .ok (.lreturn, 1) := by decide +kernel
theorem dX12_strip_0 : decode cX12_strip 0 = .ok (.aload_n 0, 1) := by decide +kernel
theorem dX12_strip_1 : decode cX12_strip 1 = .ok (.iload_n 1, 1) := by decide +kernel
theorem dX12_strip_2 : decode cX12_strip 2 = .ok (.invokevirtual 196, 3) := by decide +kernel
theorem dX12_strip_5 : decode cX12_strip 5 = .ok (.ifCond .eq 13, 3) := by decide +kernel
theorem dX12_strip_8 : decode cX12_strip 8 = .ok (.iload_n 2, 1) := by decide +kernel
theorem dX12_strip_9 : decode cX12_strip 9 = .ok (.iconst 0, 1) := by decide +kernel
theorem dX12_strip_10 : decode cX12_strip 10 = .ok (.bipush 9, 2) := by decide +kernel
theorem dX12_strip_12 : decode cX12_strip 12 = .ok (.invokestatic 121, 3) := by decide +kernel
theorem dX12_strip_15 : decode cX12_strip 15 = .ok (.ifCond .ne 8, 3) := by decide +kernel
theorem dX12_strip_18 : decode cX12_strip 18 = .ok (.iconst 1, 1) := by decide +kernel
theorem dX12_strip_19 : decode cX12_strip 19 = .ok (.invokestatic 129, 3) := by decide +kernel
theorem dX12_strip_22 : decode cX12_strip 22 = .ok (.lreturn, 1) := by decide +kernel
theorem dX12_strip_23 : decode cX12_strip 23 = .ok (.aload_n 0, 1) := by decide +kernel
theorem dX12_strip_24 : decode cX12_strip 24 = .ok (.getfield 44, 3) := by decide +kernel
theorem dX12_strip_27 : decode cX12_strip 27 = .ok (.iload_n 1, 1) := by decide +kernel
theorem dX12_strip_28 : decode cX12_strip 28 = .ok (.iaload, 1) := by decide +kernel
theorem dX12_strip_29 : decode cX12_strip 29 = .ok (.istore_n 3, 1) := by decide +kernel
theorem dX12_strip_30 : decode cX12_strip 30 = .ok (.aload_n 0, 1) := by decide +kernel
theorem dX12_strip_31 : decode cX12_strip 31 = .ok (.getfield 44, 3) := by decide +kernel
theorem dX12_strip_34 : decode cX12_strip 34 = .ok (.iload_n 1, 1) := by decide +kernel
theorem dX12_strip_35 : decode cX12_strip 35 = .ok (.iload_n 2, 1) := by decide +kernel
theorem dX12_strip_36 : decode cX12_strip 36 = .ok (.iastore, 1) := by decide +kernel
theorem dX12_strip_37 : decode cX12_strip 37 = .ok (.iload_n 3, 1) := by decide +kernel
theorem dX12_strip_38 : decode cX12_strip 38 = .ok (.i2l, 1) := by decide +kernel
theorem dX12_strip_39 : decode cX12_strip 39 = .ok (.lreturn, 1) := by decide +kernel
theorem dX12_edge_0 : decode cX12_edge 0 = .ok (.iload_n 1, 1) := by decide +kernel
theorem dX12_edge_1 : decode cX12_edge 1 = .ok (.iconst 0, 1) := by decide +kernel
theorem dX12_edge_2 : decode cX12_edge 2 = .ok (.iconst 1, 1) := by decide +kernel
theorem dX12_edge_3 : decode cX12_edge 3 = .ok (.invokestatic 121, 3) := by decide +kernel
theorem dX12_edge_6 : decode cX12_edge 6 = .ok (.ifCond .ne 8, 3) := by decide +kernel
theorem dX12_edge_9 : decode cX12_edge 9 = .ok (.iconst 1, 1) := by decide +kernel
theorem dX12_edge_10 : decode cX12_edge 10 = .ok (.invokestatic 129, 3) := by decide +kernel
theorem dX12_edge_13 : decode cX12_edge 13 = .ok (.lreturn, 1) := by decide +kernel
theorem dX12_edge_14 : decode cX12_edge 14 = .ok (.aload_n 0, 1) := by decide +kernel
theorem dX12_edge_15 : decode cX12_edge 15 = .ok (.getfield 47, 3) := by decide +kernel
theorem dX12_edge_18 : decode cX12_edge 18 = .ok (.iload_n 1, 1) := by decide +kernel
theorem dX12_edge_19 : decode cX12_edge 19 = .ok (.iaload, 1) := by decide +kernel
theorem dX12_edge_20 : decode cX12_edge 20 = .ok (.istore_n 3, 1) := by decide +kernel
theorem dX12_edge_21 : decode cX12_edge 21 = .ok (.aload_n 0, 1) := by decide +kernel
theorem dX12_edge_22 : decode cX12_edge 22 = .ok (.getfield 47, 3) := by decide +kernel
theorem dX12_edge_25 : decode cX12_edge 25 = .ok (.iload_n 1, 1) := by decide +kernel
theorem dX12_edge_26 : decode cX12_edge 26 = .ok (.iload_n 2, 1) := by decide +kernel
theorem dX12_edge_27 : decode cX12_edge 27 = .ok (.iastore, 1) := by decide +kernel
theorem dX12_edge_28 : decode cX12_edge 28 = .ok (.iload_n 3, 1) := by decide +kernel
theorem dX12_edge_29 : decode cX12_edge 29 = .ok (.i2l, 1) := by decide +kernel
theorem dX12_edge_30 : decode cX12_edge 30 = .ok (.lreturn, 1) := by decide +kernel
theorem dX12_seenAt_0 : decode cX12_seenAt 0 = .ok (.iload_n 3, 1) := by decide +kernel
theorem dX12_seenAt_1 : decode cX12_seenAt 1 = .ok (.tableswitch 99 0 2 #[27, 54, 66], 27) := by decide +kernel
theorem dX12_seenAt_28 : decode cX12_seenAt 28 = .ok (.iload_n 2, 1) := by decide +kernel
theorem dX12_seenAt_29 : decode cX12_seenAt 29 = .ok (.ifCond .ne 12, 3) := by decide +kernel
theorem dX12_seenAt_32 : decode cX12_seenAt 32 = .ok (.aload_n 0, 1) := by decide +kernel
theorem dX12_seenAt_33 : decode cX12_seenAt 33 = .ok (.getfield 47, 3) := by decide +kernel
theorem dX12_seenAt_36 : decode cX12_seenAt 36 = .ok (.iconst 0, 1) := by decide +kernel
theorem dX12_seenAt_37 : decode cX12_seenAt 37 = .ok (.iaload, 1) := by decide +kernel
theorem dX12_seenAt_38 : decode cX12_seenAt 38 = .ok (.goto 16, 3) := by decide +kernel
theorem dX12_seenAt_41 : decode cX12_seenAt 41 = .ok (.aload_n 0, 1) := by decide +kernel
theorem dX12_seenAt_42 : decode cX12_seenAt 42 = .ok (.getfield 50, 3) := by decide +kernel
theorem dX12_seenAt_45 : decode cX12_seenAt 45 = .ok (.bipush 10, 2) := by decide +kernel
theorem dX12_seenAt_47 : decode cX12_seenAt 47 = .ok (.iload_n 1, 1) := by decide +kernel
theorem dX12_seenAt_48 : decode cX12_seenAt 48 = .ok (.imul, 1) := by decide +kernel
theorem dX12_seenAt_49 : decode cX12_seenAt 49 = .ok (.iload_n 2, 1) := by decide +kernel
theorem dX12_seenAt_50 : decode cX12_seenAt 50 = .ok (.iadd, 1) := by decide +kernel
theorem dX12_seenAt_51 : decode cX12_seenAt 51 = .ok (.iconst 1, 1) := by decide +kernel
theorem dX12_seenAt_52 : decode cX12_seenAt 52 = .ok (.isub, 1) := by decide +kernel
theorem dX12_seenAt_53 : decode cX12_seenAt 53 = .ok (.iaload, 1) := by decide +kernel
theorem dX12_seenAt_54 : decode cX12_seenAt 54 = .ok (.ireturn, 1) := by decide +kernel
theorem dX12_seenAt_55 : decode cX12_seenAt 55 = .ok (.aload_n 0, 1) := by decide +kernel
theorem dX12_seenAt_56 : decode cX12_seenAt 56 = .ok (.getfield 50, 3) := by decide +kernel
theorem dX12_seenAt_59 : decode cX12_seenAt 59 = .ok (.bipush 10, 2) := by decide +kernel
theorem dX12_seenAt_61 : decode cX12_seenAt 61 = .ok (.iload_n 1, 1) := by decide +kernel
theorem dX12_seenAt_62 : decode cX12_seenAt 62 = .ok (.imul, 1) := by decide +kernel
theorem dX12_seenAt_63 : decode cX12_seenAt 63 = .ok (.iload_n 2, 1) := by decide +kernel
theorem dX12_seenAt_64 : decode cX12_seenAt 64 = .ok (.iadd, 1) := by decide +kernel
theorem dX12_seenAt_65 : decode cX12_seenAt 65 = .ok (.iaload, 1) := by decide +kernel
theorem dX12_seenAt_66 : decode cX12_seenAt 66 = .ok (.ireturn, 1) := by decide +kernel
theorem dX12_seenAt_67 : decode cX12_seenAt 67 = .ok (.iload_n 2, 1) := by decide +kernel
theorem dX12_seenAt_68 : decode cX12_seenAt 68 = .ok (.aload_n 0, 1) := by decide +kernel
theorem dX12_seenAt_69 : decode cX12_seenAt 69 = .ok (.getfield 37, 3) := by decide +kernel
theorem dX12_seenAt_72 : decode cX12_seenAt 72 = .ok (.iconst 1, 1) := by decide +kernel
theorem dX12_seenAt_73 : decode cX12_seenAt 73 = .ok (.isub, 1) := by decide +kernel
theorem dX12_seenAt_74 : decode cX12_seenAt 74 = .ok (.if_icmp .ne 12, 3) := by decide +kernel
theorem dX12_seenAt_77 : decode cX12_seenAt 77 = .ok (.aload_n 0, 1) := by decide +kernel
theorem dX12_seenAt_78 : decode cX12_seenAt 78 = .ok (.getfield 47, 3) := by decide +kernel
theorem dX12_seenAt_81 : decode cX12_seenAt 81 = .ok (.iconst 1, 1) := by decide +kernel
theorem dX12_seenAt_82 : decode cX12_seenAt 82 = .ok (.iaload, 1) := by decide +kernel
theorem dX12_seenAt_83 : decode cX12_seenAt 83 = .ok (.goto 16, 3) := by decide +kernel
theorem dX12_seenAt_86 : decode cX12_seenAt 86 = .ok (.aload_n 0, 1) := by decide +kernel
theorem dX12_seenAt_87 : decode cX12_seenAt 87 = .ok (.getfield 50, 3) := by decide +kernel
theorem dX12_seenAt_90 : decode cX12_seenAt 90 = .ok (.bipush 10, 2) := by decide +kernel
theorem dX12_seenAt_92 : decode cX12_seenAt 92 = .ok (.iload_n 1, 1) := by decide +kernel
theorem dX12_seenAt_93 : decode cX12_seenAt 93 = .ok (.imul, 1) := by decide +kernel
theorem dX12_seenAt_94 : decode cX12_seenAt 94 = .ok (.iload_n 2, 1) := by decide +kernel
theorem dX12_seenAt_95 : decode cX12_seenAt 95 = .ok (.iadd, 1) := by decide +kernel
theorem dX12_seenAt_96 : decode cX12_seenAt 96 = .ok (.iconst 1, 1) := by decide +kernel
theorem dX12_seenAt_97 : decode cX12_seenAt 97 = .ok (.iadd, 1) := by decide +kernel
theorem dX12_seenAt_98 : decode cX12_seenAt 98 = .ok (.iaload, 1) := by decide +kernel
theorem dX12_seenAt_99 : decode cX12_seenAt 99 = .ok (.ireturn, 1) := by decide +kernel
theorem dX12_seenAt_100 : decode cX12_seenAt 100 = .ok (.aload_n 0, 1) := by decide +kernel
theorem dX12_seenAt_101 : decode cX12_seenAt 101 = .ok (.getfield 44, 3) := by decide +kernel
theorem dX12_seenAt_104 : decode cX12_seenAt 104 = .ok (.iload_n 2, 1) := by decide +kernel
theorem dX12_seenAt_105 : decode cX12_seenAt 105 = .ok (.iaload, 1) := by decide +kernel
theorem dX12_seenAt_106 : decode cX12_seenAt 106 = .ok (.ireturn, 1) := by decide +kernel
theorem dX12_second_0 : decode cX12_second 0 = .ok (.iload_n 1, 1) := by decide +kernel
theorem dX12_second_1 : decode cX12_second 1 = .ok (.iconst 1, 1) := by decide +kernel
theorem dX12_second_2 : decode cX12_second 2 = .ok (.iadd, 1) := by decide +kernel
theorem dX12_second_3 : decode cX12_second 3 = .ok (.aload_n 0, 1) := by decide +kernel
theorem dX12_second_4 : decode cX12_second 4 = .ok (.getfield 31, 3) := by decide +kernel
theorem dX12_second_7 : decode cX12_second 7 = .ok (.iload_n 1, 1) := by decide +kernel
theorem dX12_second_8 : decode cX12_second 8 = .ok (.iconst 1, 1) := by decide +kernel
theorem dX12_second_9 : decode cX12_second 9 = .ok (.iadd, 1) := by decide +kernel
theorem dX12_second_10 : decode cX12_second 10 = .ok (.iaload, 1) := by decide +kernel
theorem dX12_second_11 : decode cX12_second 11 = .ok (.iadd, 1) := by decide +kernel
theorem dX12_second_12 : decode cX12_second 12 = .ok (.ireturn, 1) := by decide +kernel
theorem dX12_third_0 : decode cX12_third 0 = .ok (.aload_n 0, 1) := by decide +kernel
theorem dX12_third_1 : decode cX12_third 1 = .ok (.iload_n 1, 1) := by decide +kernel
theorem dX12_third_2 : decode cX12_third 2 = .ok (.invokevirtual 199, 3) := by decide +kernel
theorem dX12_third_5 : decode cX12_third 5 = .ok (.aload_n 0, 1) := by decide +kernel
theorem dX12_third_6 : decode cX12_third 6 = .ok (.getfield 31, 3) := by decide +kernel
theorem dX12_third_9 : decode cX12_third 9 = .ok (.aload_n 0, 1) := by decide +kernel
theorem dX12_third_10 : decode cX12_third 10 = .ok (.iload_n 1, 1) := by decide +kernel
theorem dX12_third_11 : decode cX12_third 11 = .ok (.invokevirtual 199, 3) := by decide +kernel
theorem dX12_third_14 : decode cX12_third 14 = .ok (.iaload, 1) := by decide +kernel
theorem dX12_third_15 : decode cX12_third 15 = .ok (.iadd, 1) := by decide +kernel
theorem dX12_third_16 : decode cX12_third 16 = .ok (.ireturn, 1) := by decide +kernel
theorem dX12_fourth_0 : decode cX12_fourth 0 = .ok (.aload_n 0, 1) := by decide +kernel
theorem dX12_fourth_1 : decode cX12_fourth 1 = .ok (.iload_n 1, 1) := by decide +kernel
theorem dX12_fourth_2 : decode cX12_fourth 2 = .ok (.invokevirtual 202, 3) := by decide +kernel
theorem dX12_fourth_5 : decode cX12_fourth 5 = .ok (.aload_n 0, 1) := by decide +kernel
theorem dX12_fourth_6 : decode cX12_fourth 6 = .ok (.getfield 31, 3) := by decide +kernel
theorem dX12_fourth_9 : decode cX12_fourth 9 = .ok (.aload_n 0, 1) := by decide +kernel
theorem dX12_fourth_10 : decode cX12_fourth 10 = .ok (.iload_n 1, 1) := by decide +kernel
theorem dX12_fourth_11 : decode cX12_fourth 11 = .ok (.invokevirtual 202, 3) := by decide +kernel
theorem dX12_fourth_14 : decode cX12_fourth 14 = .ok (.iaload, 1) := by decide +kernel
theorem dX12_fourth_15 : decode cX12_fourth 15 = .ok (.iadd, 1) := by decide +kernel
theorem dX12_fourth_16 : decode cX12_fourth 16 = .ok (.ireturn, 1) := by decide +kernel
theorem dX12_takenOf_0 : decode cX12_takenOf 0 = .ok (.aload_n 0, 1) := by decide +kernel
theorem dX12_takenOf_1 : decode cX12_takenOf 1 = .ok (.getfield 53, 3) := by decide +kernel
theorem dX12_takenOf_4 : decode cX12_takenOf 4 = .ok (.iload_n 1, 1) := by decide +kernel
theorem dX12_takenOf_5 : decode cX12_takenOf 5 = .ok (.iconst 1, 1) := by decide +kernel
theorem dX12_takenOf_6 : decode cX12_takenOf 6 = .ok (.iadd, 1) := by decide +kernel
theorem dX12_takenOf_7 : decode cX12_takenOf 7 = .ok (.iaload, 1) := by decide +kernel
theorem dX12_takenOf_8 : decode cX12_takenOf 8 = .ok (.istore_n 2, 1) := by decide +kernel
theorem dX12_takenOf_9 : decode cX12_takenOf 9 = .ok (.aload_n 0, 1) := by decide +kernel
theorem dX12_takenOf_10 : decode cX12_takenOf 10 = .ok (.getfield 53, 3) := by decide +kernel
theorem dX12_takenOf_13 : decode cX12_takenOf 13 = .ok (.aload_n 0, 1) := by decide +kernel
theorem dX12_takenOf_14 : decode cX12_takenOf 14 = .ok (.iload_n 1, 1) := by decide +kernel
theorem dX12_takenOf_15 : decode cX12_takenOf 15 = .ok (.invokevirtual 199, 3) := by decide +kernel
theorem dX12_takenOf_18 : decode cX12_takenOf 18 = .ok (.iaload, 1) := by decide +kernel
theorem dX12_takenOf_19 : decode cX12_takenOf 19 = .ok (.istore_n 3, 1) := by decide +kernel
theorem dX12_takenOf_20 : decode cX12_takenOf 20 = .ok (.aload_n 0, 1) := by decide +kernel
theorem dX12_takenOf_21 : decode cX12_takenOf 21 = .ok (.getfield 25, 3) := by decide +kernel
theorem dX12_takenOf_24 : decode cX12_takenOf 24 = .ok (.iload_n 1, 1) := by decide +kernel
theorem dX12_takenOf_25 : decode cX12_takenOf 25 = .ok (.iaload, 1) := by decide +kernel
theorem dX12_takenOf_26 : decode cX12_takenOf 26 = .ok (.iconst 5, 1) := by decide +kernel
theorem dX12_takenOf_27 : decode cX12_takenOf 27 = .ok (.if_icmp .ne 22, 3) := by decide +kernel
theorem dX12_takenOf_30 : decode cX12_takenOf 30 = .ok (.iload_n 2, 1) := by decide +kernel
theorem dX12_takenOf_31 : decode cX12_takenOf 31 = .ok (.iload_n 3, 1) := by decide +kernel
theorem dX12_takenOf_32 : decode cX12_takenOf 32 = .ok (.if_icmp .le 11, 3) := by decide +kernel
theorem dX12_takenOf_35 : decode cX12_takenOf 35 = .ok (.aload_n 0, 1) := by decide +kernel
theorem dX12_takenOf_36 : decode cX12_takenOf 36 = .ok (.iload_n 1, 1) := by decide +kernel
theorem dX12_takenOf_37 : decode cX12_takenOf 37 = .ok (.invokevirtual 202, 3) := by decide +kernel
theorem dX12_takenOf_40 : decode cX12_takenOf 40 = .ok (.goto 8, 3) := by decide +kernel
theorem dX12_takenOf_43 : decode cX12_takenOf 43 = .ok (.aload_n 0, 1) := by decide +kernel
theorem dX12_takenOf_44 : decode cX12_takenOf 44 = .ok (.iload_n 1, 1) := by decide +kernel
theorem dX12_takenOf_45 : decode cX12_takenOf 45 = .ok (.invokevirtual 205, 3) := by decide +kernel
theorem dX12_takenOf_48 : decode cX12_takenOf 48 = .ok (.ireturn, 1) := by decide +kernel
theorem dX12_takenOf_49 : decode cX12_takenOf 49 = .ok (.aload_n 0, 1) := by decide +kernel
theorem dX12_takenOf_50 : decode cX12_takenOf 50 = .ok (.getfield 28, 3) := by decide +kernel
theorem dX12_takenOf_53 : decode cX12_takenOf 53 = .ok (.iload_n 1, 1) := by decide +kernel
theorem dX12_takenOf_54 : decode cX12_takenOf 54 = .ok (.iaload, 1) := by decide +kernel
theorem dX12_takenOf_55 : decode cX12_takenOf 55 = .ok (.iconst 1, 1) := by decide +kernel
theorem dX12_takenOf_56 : decode cX12_takenOf 56 = .ok (.if_icmp .ne 16, 3) := by decide +kernel
theorem dX12_takenOf_59 : decode cX12_takenOf 59 = .ok (.iload_n 2, 1) := by decide +kernel
theorem dX12_takenOf_60 : decode cX12_takenOf 60 = .ok (.iload_n 3, 1) := by decide +kernel
theorem dX12_takenOf_61 : decode cX12_takenOf 61 = .ok (.if_icmp .gt 7, 3) := by decide +kernel
theorem dX12_takenOf_64 : decode cX12_takenOf 64 = .ok (.iconst 1, 1) := by decide +kernel
theorem dX12_takenOf_65 : decode cX12_takenOf 65 = .ok (.goto 17, 3) := by decide +kernel
theorem dX12_takenOf_68 : decode cX12_takenOf 68 = .ok (.iconst 0, 1) := by decide +kernel
theorem dX12_takenOf_69 : decode cX12_takenOf 69 = .ok (.goto 13, 3) := by decide +kernel
theorem dX12_takenOf_72 : decode cX12_takenOf 72 = .ok (.iload_n 2, 1) := by decide +kernel
theorem dX12_takenOf_73 : decode cX12_takenOf 73 = .ok (.iload_n 3, 1) := by decide +kernel
theorem dX12_takenOf_74 : decode cX12_takenOf 74 = .ok (.if_icmp .lt 7, 3) := by decide +kernel
theorem dX12_takenOf_77 : decode cX12_takenOf 77 = .ok (.iconst 1, 1) := by decide +kernel
theorem dX12_takenOf_78 : decode cX12_takenOf 78 = .ok (.goto 4, 3) := by decide +kernel
theorem dX12_takenOf_81 : decode cX12_takenOf 81 = .ok (.iconst 0, 1) := by decide +kernel
theorem dX12_takenOf_82 : decode cX12_takenOf 82 = .ok (.istore 4, 2) := by decide +kernel
theorem dX12_takenOf_84 : decode cX12_takenOf 84 = .ok (.iload 4, 2) := by decide +kernel
theorem dX12_takenOf_86 : decode cX12_takenOf 86 = .ok (.ifCond .eq 9, 3) := by decide +kernel
theorem dX12_takenOf_89 : decode cX12_takenOf 89 = .ok (.iload_n 1, 1) := by decide +kernel
theorem dX12_takenOf_90 : decode cX12_takenOf 90 = .ok (.iconst 1, 1) := by decide +kernel
theorem dX12_takenOf_91 : decode cX12_takenOf 91 = .ok (.iadd, 1) := by decide +kernel
theorem dX12_takenOf_92 : decode cX12_takenOf 92 = .ok (.goto 8, 3) := by decide +kernel
theorem dX12_takenOf_95 : decode cX12_takenOf 95 = .ok (.aload_n 0, 1) := by decide +kernel
theorem dX12_takenOf_96 : decode cX12_takenOf 96 = .ok (.iload_n 1, 1) := by decide +kernel
theorem dX12_takenOf_97 : decode cX12_takenOf 97 = .ok (.invokevirtual 199, 3) := by decide +kernel
theorem dX12_takenOf_100 : decode cX12_takenOf 100 = .ok (.ireturn, 1) := by decide +kernel
theorem dX12_valueOf_0 : decode cX12_valueOf 0 = .ok (.aload_n 0, 1) := by decide +kernel
theorem dX12_valueOf_1 : decode cX12_valueOf 1 = .ok (.getfield 25, 3) := by decide +kernel
theorem dX12_valueOf_4 : decode cX12_valueOf 4 = .ok (.iload_n 1, 1) := by decide +kernel
theorem dX12_valueOf_5 : decode cX12_valueOf 5 = .ok (.iaload, 1) := by decide +kernel
theorem dX12_valueOf_6 : decode cX12_valueOf 6 = .ok (.tableswitch 112 1 3 #[26, 33, 46], 26) := by decide +kernel
theorem dX12_valueOf_32 : decode cX12_valueOf 32 = .ok (.aload_n 0, 1) := by decide +kernel
theorem dX12_valueOf_33 : decode cX12_valueOf 33 = .ok (.getfield 28, 3) := by decide +kernel
theorem dX12_valueOf_36 : decode cX12_valueOf 36 = .ok (.iload_n 1, 1) := by decide +kernel
theorem dX12_valueOf_37 : decode cX12_valueOf 37 = .ok (.iaload, 1) := by decide +kernel
theorem dX12_valueOf_38 : decode cX12_valueOf 38 = .ok (.ireturn, 1) := by decide +kernel
theorem dX12_valueOf_39 : decode cX12_valueOf 39 = .ok (.aload_n 0, 1) := by decide +kernel
theorem dX12_valueOf_40 : decode cX12_valueOf 40 = .ok (.iload_n 2, 1) := by decide +kernel
theorem dX12_valueOf_41 : decode cX12_valueOf 41 = .ok (.iload_n 3, 1) := by decide +kernel
theorem dX12_valueOf_42 : decode cX12_valueOf 42 = .ok (.aload_n 0, 1) := by decide +kernel
theorem dX12_valueOf_43 : decode cX12_valueOf 43 = .ok (.getfield 28, 3) := by decide +kernel
theorem dX12_valueOf_46 : decode cX12_valueOf 46 = .ok (.iload_n 1, 1) := by decide +kernel
theorem dX12_valueOf_47 : decode cX12_valueOf 47 = .ok (.iaload, 1) := by decide +kernel
theorem dX12_valueOf_48 : decode cX12_valueOf 48 = .ok (.invokevirtual 208, 3) := by decide +kernel
theorem dX12_valueOf_51 : decode cX12_valueOf 51 = .ok (.ireturn, 1) := by decide +kernel
theorem dX12_valueOf_52 : decode cX12_valueOf 52 = .ok (.aload_n 0, 1) := by decide +kernel
theorem dX12_valueOf_53 : decode cX12_valueOf 53 = .ok (.getfield 53, 3) := by decide +kernel
theorem dX12_valueOf_56 : decode cX12_valueOf 56 = .ok (.iload_n 1, 1) := by decide +kernel
theorem dX12_valueOf_57 : decode cX12_valueOf 57 = .ok (.iconst 1, 1) := by decide +kernel
theorem dX12_valueOf_58 : decode cX12_valueOf 58 = .ok (.iadd, 1) := by decide +kernel
theorem dX12_valueOf_59 : decode cX12_valueOf 59 = .ok (.iaload, 1) := by decide +kernel
theorem dX12_valueOf_60 : decode cX12_valueOf 60 = .ok (.istore 4, 2) := by decide +kernel
theorem dX12_valueOf_62 : decode cX12_valueOf 62 = .ok (.aload_n 0, 1) := by decide +kernel
theorem dX12_valueOf_63 : decode cX12_valueOf 63 = .ok (.getfield 53, 3) := by decide +kernel
theorem dX12_valueOf_66 : decode cX12_valueOf 66 = .ok (.aload_n 0, 1) := by decide +kernel
theorem dX12_valueOf_67 : decode cX12_valueOf 67 = .ok (.iload_n 1, 1) := by decide +kernel
theorem dX12_valueOf_68 : decode cX12_valueOf 68 = .ok (.invokevirtual 199, 3) := by decide +kernel
theorem dX12_valueOf_71 : decode cX12_valueOf 71 = .ok (.iaload, 1) := by decide +kernel
theorem dX12_valueOf_72 : decode cX12_valueOf 72 = .ok (.istore 5, 2) := by decide +kernel
theorem dX12_valueOf_74 : decode cX12_valueOf 74 = .ok (.aload_n 0, 1) := by decide +kernel
theorem dX12_valueOf_75 : decode cX12_valueOf 75 = .ok (.getfield 28, 3) := by decide +kernel
theorem dX12_valueOf_78 : decode cX12_valueOf 78 = .ok (.iload_n 1, 1) := by decide +kernel
theorem dX12_valueOf_79 : decode cX12_valueOf 79 = .ok (.iaload, 1) := by decide +kernel
theorem dX12_valueOf_80 : decode cX12_valueOf 80 = .ok (.bipush 43, 2) := by decide +kernel
theorem dX12_valueOf_82 : decode cX12_valueOf 82 = .ok (.if_icmp .ne 11, 3) := by decide +kernel
theorem dX12_valueOf_85 : decode cX12_valueOf 85 = .ok (.iload 4, 2) := by decide +kernel
theorem dX12_valueOf_87 : decode cX12_valueOf 87 = .ok (.iload 5, 2) := by decide +kernel
theorem dX12_valueOf_89 : decode cX12_valueOf 89 = .ok (.iadd, 1) := by decide +kernel
theorem dX12_valueOf_90 : decode cX12_valueOf 90 = .ok (.goto 27, 3) := by decide +kernel
theorem dX12_valueOf_93 : decode cX12_valueOf 93 = .ok (.aload_n 0, 1) := by decide +kernel
theorem dX12_valueOf_94 : decode cX12_valueOf 94 = .ok (.getfield 28, 3) := by decide +kernel
theorem dX12_valueOf_97 : decode cX12_valueOf 97 = .ok (.iload_n 1, 1) := by decide +kernel
theorem dX12_valueOf_98 : decode cX12_valueOf 98 = .ok (.iaload, 1) := by decide +kernel
theorem dX12_valueOf_99 : decode cX12_valueOf 99 = .ok (.bipush 45, 2) := by decide +kernel
theorem dX12_valueOf_101 : decode cX12_valueOf 101 = .ok (.if_icmp .ne 11, 3) := by decide +kernel
theorem dX12_valueOf_104 : decode cX12_valueOf 104 = .ok (.iload 4, 2) := by decide +kernel
theorem dX12_valueOf_106 : decode cX12_valueOf 106 = .ok (.iload 5, 2) := by decide +kernel
theorem dX12_valueOf_108 : decode cX12_valueOf 108 = .ok (.isub, 1) := by decide +kernel
theorem dX12_valueOf_109 : decode cX12_valueOf 109 = .ok (.goto 8, 3) := by decide +kernel
theorem dX12_valueOf_112 : decode cX12_valueOf 112 = .ok (.iload 4, 2) := by decide +kernel
theorem dX12_valueOf_114 : decode cX12_valueOf 114 = .ok (.iload 5, 2) := by decide +kernel
theorem dX12_valueOf_116 : decode cX12_valueOf 116 = .ok (.imul, 1) := by decide +kernel
theorem dX12_valueOf_117 : decode cX12_valueOf 117 = .ok (.ireturn, 1) := by decide +kernel
theorem dX12_valueOf_118 : decode cX12_valueOf 118 = .ok (.aload_n 0, 1) := by decide +kernel
theorem dX12_valueOf_119 : decode cX12_valueOf 119 = .ok (.getfield 53, 3) := by decide +kernel
theorem dX12_valueOf_122 : decode cX12_valueOf 122 = .ok (.aload_n 0, 1) := by decide +kernel
theorem dX12_valueOf_123 : decode cX12_valueOf 123 = .ok (.iload_n 1, 1) := by decide +kernel
theorem dX12_valueOf_124 : decode cX12_valueOf 124 = .ok (.invokevirtual 212, 3) := by decide +kernel
theorem dX12_valueOf_127 : decode cX12_valueOf 127 = .ok (.iaload, 1) := by decide +kernel
theorem dX12_valueOf_128 : decode cX12_valueOf 128 = .ok (.ireturn, 1) := by decide +kernel
theorem dX12_work_0 : decode cX12_work 0 = .ok (.aload_n 0, 1) := by decide +kernel
theorem dX12_work_1 : decode cX12_work 1 = .ok (.getfield 22, 3) := by decide +kernel
theorem dX12_work_4 : decode cX12_work 4 = .ok (.iload_n 1, 1) := by decide +kernel
theorem dX12_work_5 : decode cX12_work 5 = .ok (.iconst 1, 1) := by decide +kernel
theorem dX12_work_6 : decode cX12_work 6 = .ok (.iadd, 1) := by decide +kernel
theorem dX12_work_7 : decode cX12_work 7 = .ok (.iaload, 1) := by decide +kernel
theorem dX12_work_8 : decode cX12_work 8 = .ok (.iconst 1, 1) := by decide +kernel
theorem dX12_work_9 : decode cX12_work 9 = .ok (.isub, 1) := by decide +kernel
theorem dX12_work_10 : decode cX12_work 10 = .ok (.istore 4, 2) := by decide +kernel
theorem dX12_work_12 : decode cX12_work 12 = .ok (.iload 4, 2) := by decide +kernel
theorem dX12_work_14 : decode cX12_work 14 = .ok (.aload_n 0, 1) := by decide +kernel
theorem dX12_work_15 : decode cX12_work 15 = .ok (.getfield 22, 3) := by decide +kernel
theorem dX12_work_18 : decode cX12_work 18 = .ok (.iload_n 1, 1) := by decide +kernel
theorem dX12_work_19 : decode cX12_work 19 = .ok (.iaload, 1) := by decide +kernel
theorem dX12_work_20 : decode cX12_work 20 = .ok (.if_icmp .lt 24, 3) := by decide +kernel
theorem dX12_work_23 : decode cX12_work 23 = .ok (.aload_n 0, 1) := by decide +kernel
theorem dX12_work_24 : decode cX12_work 24 = .ok (.getfield 53, 3) := by decide +kernel
theorem dX12_work_27 : decode cX12_work 27 = .ok (.iload 4, 2) := by decide +kernel
theorem dX12_work_29 : decode cX12_work 29 = .ok (.aload_n 0, 1) := by decide +kernel
theorem dX12_work_30 : decode cX12_work 30 = .ok (.iload 4, 2) := by decide +kernel
theorem dX12_work_32 : decode cX12_work 32 = .ok (.iload_n 2, 1) := by decide +kernel
theorem dX12_work_33 : decode cX12_work 33 = .ok (.iload_n 3, 1) := by decide +kernel
theorem dX12_work_34 : decode cX12_work 34 = .ok (.invokevirtual 215, 3) := by decide +kernel
theorem dX12_work_37 : decode cX12_work 37 = .ok (.iastore, 1) := by decide +kernel
theorem dX12_work_38 : decode cX12_work 38 = .ok (.iinc 4 (-1), 3) := by decide +kernel
theorem dX12_work_41 : decode cX12_work 41 = .ok (.goto (-29), 3) := by decide +kernel
theorem dX12_work_44 : decode cX12_work 44 = .ok (.aload_n 0, 1) := by decide +kernel
theorem dX12_work_45 : decode cX12_work 45 = .ok (.getfield 53, 3) := by decide +kernel
theorem dX12_work_48 : decode cX12_work 48 = .ok (.aload_n 0, 1) := by decide +kernel
theorem dX12_work_49 : decode cX12_work 49 = .ok (.getfield 22, 3) := by decide +kernel
theorem dX12_work_52 : decode cX12_work 52 = .ok (.iload_n 1, 1) := by decide +kernel
theorem dX12_work_53 : decode cX12_work 53 = .ok (.iaload, 1) := by decide +kernel
theorem dX12_work_54 : decode cX12_work 54 = .ok (.iaload, 1) := by decide +kernel
theorem dX12_work_55 : decode cX12_work 55 = .ok (.ireturn, 1) := by decide +kernel
theorem dX12_countKnots_0 : decode cX12_countKnots 0 = .ok (.aload_n 0, 1) := by decide +kernel
theorem dX12_countKnots_1 : decode cX12_countKnots 1 = .ok (.getfield 22, 3) := by decide +kernel
theorem dX12_countKnots_4 : decode cX12_countKnots 4 = .ok (.iload_n 1, 1) := by decide +kernel
theorem dX12_countKnots_5 : decode cX12_countKnots 5 = .ok (.iaload, 1) := by decide +kernel
theorem dX12_countKnots_6 : decode cX12_countKnots 6 = .ok (.istore_n 2, 1) := by decide +kernel
theorem dX12_countKnots_7 : decode cX12_countKnots 7 = .ok (.iload_n 2, 1) := by decide +kernel
theorem dX12_countKnots_8 : decode cX12_countKnots 8 = .ok (.aload_n 0, 1) := by decide +kernel
theorem dX12_countKnots_9 : decode cX12_countKnots 9 = .ok (.getfield 22, 3) := by decide +kernel
theorem dX12_countKnots_12 : decode cX12_countKnots 12 = .ok (.iload_n 1, 1) := by decide +kernel
theorem dX12_countKnots_13 : decode cX12_countKnots 13 = .ok (.iconst 1, 1) := by decide +kernel
theorem dX12_countKnots_14 : decode cX12_countKnots 14 = .ok (.iadd, 1) := by decide +kernel
theorem dX12_countKnots_15 : decode cX12_countKnots 15 = .ok (.iaload, 1) := by decide +kernel
theorem dX12_countKnots_16 : decode cX12_countKnots 16 = .ok (.if_icmp .ge 30, 3) := by decide +kernel
theorem dX12_countKnots_19 : decode cX12_countKnots 19 = .ok (.aload_n 0, 1) := by decide +kernel
theorem dX12_countKnots_20 : decode cX12_countKnots 20 = .ok (.getfield 56, 3) := by decide +kernel
theorem dX12_countKnots_23 : decode cX12_countKnots 23 = .ok (.iload_n 2, 1) := by decide +kernel
theorem dX12_countKnots_24 : decode cX12_countKnots 24 = .ok (.iload_n 2, 1) := by decide +kernel
theorem dX12_countKnots_25 : decode cX12_countKnots 25 = .ok (.aload_n 0, 1) := by decide +kernel
theorem dX12_countKnots_26 : decode cX12_countKnots 26 = .ok (.getfield 22, 3) := by decide +kernel
theorem dX12_countKnots_29 : decode cX12_countKnots 29 = .ok (.iload_n 1, 1) := by decide +kernel
theorem dX12_countKnots_30 : decode cX12_countKnots 30 = .ok (.iaload, 1) := by decide +kernel
theorem dX12_countKnots_31 : decode cX12_countKnots 31 = .ok (.if_icmp .ne 7, 3) := by decide +kernel
theorem dX12_countKnots_34 : decode cX12_countKnots 34 = .ok (.iconst 1, 1) := by decide +kernel
theorem dX12_countKnots_35 : decode cX12_countKnots 35 = .ok (.goto 4, 3) := by decide +kernel
theorem dX12_countKnots_38 : decode cX12_countKnots 38 = .ok (.iconst 0, 1) := by decide +kernel
theorem dX12_countKnots_39 : decode cX12_countKnots 39 = .ok (.bastore, 1) := by decide +kernel
theorem dX12_countKnots_40 : decode cX12_countKnots 40 = .ok (.iinc 2 1, 3) := by decide +kernel
theorem dX12_countKnots_43 : decode cX12_countKnots 43 = .ok (.goto (-36), 3) := by decide +kernel
theorem dX12_countKnots_46 : decode cX12_countKnots 46 = .ok (.aload_n 0, 1) := by decide +kernel
theorem dX12_countKnots_47 : decode cX12_countKnots 47 = .ok (.getfield 22, 3) := by decide +kernel
theorem dX12_countKnots_50 : decode cX12_countKnots 50 = .ok (.iload_n 1, 1) := by decide +kernel
theorem dX12_countKnots_51 : decode cX12_countKnots 51 = .ok (.iaload, 1) := by decide +kernel
theorem dX12_countKnots_52 : decode cX12_countKnots 52 = .ok (.istore_n 2, 1) := by decide +kernel
theorem dX12_countKnots_53 : decode cX12_countKnots 53 = .ok (.iload_n 2, 1) := by decide +kernel
theorem dX12_countKnots_54 : decode cX12_countKnots 54 = .ok (.aload_n 0, 1) := by decide +kernel
theorem dX12_countKnots_55 : decode cX12_countKnots 55 = .ok (.getfield 22, 3) := by decide +kernel
theorem dX12_countKnots_58 : decode cX12_countKnots 58 = .ok (.iload_n 1, 1) := by decide +kernel
theorem dX12_countKnots_59 : decode cX12_countKnots 59 = .ok (.iconst 1, 1) := by decide +kernel
theorem dX12_countKnots_60 : decode cX12_countKnots 60 = .ok (.iadd, 1) := by decide +kernel
theorem dX12_countKnots_61 : decode cX12_countKnots 61 = .ok (.iaload, 1) := by decide +kernel
theorem dX12_countKnots_62 : decode cX12_countKnots 62 = .ok (.if_icmp .ge 109, 3) := by decide +kernel
theorem dX12_countKnots_65 : decode cX12_countKnots 65 = .ok (.aload_n 0, 1) := by decide +kernel
theorem dX12_countKnots_66 : decode cX12_countKnots 66 = .ok (.getfield 25, 3) := by decide +kernel
theorem dX12_countKnots_69 : decode cX12_countKnots 69 = .ok (.iload_n 2, 1) := by decide +kernel
theorem dX12_countKnots_70 : decode cX12_countKnots 70 = .ok (.iaload, 1) := by decide +kernel
theorem dX12_countKnots_71 : decode cX12_countKnots 71 = .ok (.istore_n 3, 1) := by decide +kernel
theorem dX12_countKnots_72 : decode cX12_countKnots 72 = .ok (.aload_n 0, 1) := by decide +kernel
theorem dX12_countKnots_73 : decode cX12_countKnots 73 = .ok (.getfield 56, 3) := by decide +kernel
theorem dX12_countKnots_76 : decode cX12_countKnots 76 = .ok (.iload_n 2, 1) := by decide +kernel
theorem dX12_countKnots_77 : decode cX12_countKnots 77 = .ok (.baload, 1) := by decide +kernel
theorem dX12_countKnots_78 : decode cX12_countKnots 78 = .ok (.ifCond .eq 87, 3) := by decide +kernel
theorem dX12_countKnots_81 : decode cX12_countKnots 81 = .ok (.iload_n 3, 1) := by decide +kernel
theorem dX12_countKnots_82 : decode cX12_countKnots 82 = .ok (.iconst 3, 1) := by decide +kernel
theorem dX12_countKnots_83 : decode cX12_countKnots 83 = .ok (.if_icmp .ge 6, 3) := by decide +kernel
theorem dX12_countKnots_86 : decode cX12_countKnots 86 = .ok (.goto 79, 3) := by decide +kernel
theorem dX12_countKnots_89 : decode cX12_countKnots 89 = .ok (.aload_n 0, 1) := by decide +kernel
theorem dX12_countKnots_90 : decode cX12_countKnots 90 = .ok (.getfield 56, 3) := by decide +kernel
theorem dX12_countKnots_93 : decode cX12_countKnots 93 = .ok (.iload_n 2, 1) := by decide +kernel
theorem dX12_countKnots_94 : decode cX12_countKnots 94 = .ok (.iconst 1, 1) := by decide +kernel
theorem dX12_countKnots_95 : decode cX12_countKnots 95 = .ok (.iadd, 1) := by decide +kernel
theorem dX12_countKnots_96 : decode cX12_countKnots 96 = .ok (.iconst 1, 1) := by decide +kernel
theorem dX12_countKnots_97 : decode cX12_countKnots 97 = .ok (.bastore, 1) := by decide +kernel
theorem dX12_countKnots_98 : decode cX12_countKnots 98 = .ok (.aload_n 0, 1) := by decide +kernel
theorem dX12_countKnots_99 : decode cX12_countKnots 99 = .ok (.getfield 56, 3) := by decide +kernel
theorem dX12_countKnots_102 : decode cX12_countKnots 102 = .ok (.aload_n 0, 1) := by decide +kernel
theorem dX12_countKnots_103 : decode cX12_countKnots 103 = .ok (.iload_n 2, 1) := by decide +kernel
theorem dX12_countKnots_104 : decode cX12_countKnots 104 = .ok (.invokevirtual 199, 3) := by decide +kernel
theorem dX12_countKnots_107 : decode cX12_countKnots 107 = .ok (.iconst 1, 1) := by decide +kernel
theorem dX12_countKnots_108 : decode cX12_countKnots 108 = .ok (.bastore, 1) := by decide +kernel
theorem dX12_countKnots_109 : decode cX12_countKnots 109 = .ok (.iload_n 3, 1) := by decide +kernel
theorem dX12_countKnots_110 : decode cX12_countKnots 110 = .ok (.iconst 5, 1) := by decide +kernel
theorem dX12_countKnots_111 : decode cX12_countKnots 111 = .ok (.if_icmp .ne 14, 3) := by decide +kernel
theorem dX12_countKnots_114 : decode cX12_countKnots 114 = .ok (.aload_n 0, 1) := by decide +kernel
theorem dX12_countKnots_115 : decode cX12_countKnots 115 = .ok (.getfield 56, 3) := by decide +kernel
theorem dX12_countKnots_118 : decode cX12_countKnots 118 = .ok (.aload_n 0, 1) := by decide +kernel
theorem dX12_countKnots_119 : decode cX12_countKnots 119 = .ok (.iload_n 2, 1) := by decide +kernel
theorem dX12_countKnots_120 : decode cX12_countKnots 120 = .ok (.invokevirtual 212, 3) := by decide +kernel
theorem dX12_countKnots_123 : decode cX12_countKnots 123 = .ok (.iconst 1, 1) := by decide +kernel
theorem dX12_countKnots_124 : decode cX12_countKnots 124 = .ok (.bastore, 1) := by decide +kernel
theorem dX12_countKnots_125 : decode cX12_countKnots 125 = .ok (.aload_n 0, 1) := by decide +kernel
theorem dX12_countKnots_126 : decode cX12_countKnots 126 = .ok (.dup, 1) := by decide +kernel
theorem dX12_countKnots_127 : decode cX12_countKnots 127 = .ok (.getfield 218, 3) := by decide +kernel
theorem dX12_countKnots_130 : decode cX12_countKnots 130 = .ok (.iload_n 3, 1) := by decide +kernel
theorem dX12_countKnots_131 : decode cX12_countKnots 131 = .ok (.iconst 3, 1) := by decide +kernel
theorem dX12_countKnots_132 : decode cX12_countKnots 132 = .ok (.if_icmp .eq 28, 3) := by decide +kernel
theorem dX12_countKnots_135 : decode cX12_countKnots 135 = .ok (.aload_n 0, 1) := by decide +kernel
theorem dX12_countKnots_136 : decode cX12_countKnots 136 = .ok (.getfield 53, 3) := by decide +kernel
theorem dX12_countKnots_139 : decode cX12_countKnots 139 = .ok (.iload_n 2, 1) := by decide +kernel
theorem dX12_countKnots_140 : decode cX12_countKnots 140 = .ok (.iconst 1, 1) := by decide +kernel
theorem dX12_countKnots_141 : decode cX12_countKnots 141 = .ok (.iadd, 1) := by decide +kernel
theorem dX12_countKnots_142 : decode cX12_countKnots 142 = .ok (.iaload, 1) := by decide +kernel
theorem dX12_countKnots_143 : decode cX12_countKnots 143 = .ok (.aload_n 0, 1) := by decide +kernel
theorem dX12_countKnots_144 : decode cX12_countKnots 144 = .ok (.getfield 53, 3) := by decide +kernel
theorem dX12_countKnots_147 : decode cX12_countKnots 147 = .ok (.aload_n 0, 1) := by decide +kernel
theorem dX12_countKnots_148 : decode cX12_countKnots 148 = .ok (.iload_n 2, 1) := by decide +kernel
theorem dX12_countKnots_149 : decode cX12_countKnots 149 = .ok (.invokevirtual 199, 3) := by decide +kernel
theorem dX12_countKnots_152 : decode cX12_countKnots 152 = .ok (.iaload, 1) := by decide +kernel
theorem dX12_countKnots_153 : decode cX12_countKnots 153 = .ok (.if_icmp .ne 7, 3) := by decide +kernel
theorem dX12_countKnots_156 : decode cX12_countKnots 156 = .ok (.iconst 1, 1) := by decide +kernel
theorem dX12_countKnots_157 : decode cX12_countKnots 157 = .ok (.goto 4, 3) := by decide +kernel
theorem dX12_countKnots_160 : decode cX12_countKnots 160 = .ok (.iconst 0, 1) := by decide +kernel
theorem dX12_countKnots_161 : decode cX12_countKnots 161 = .ok (.iadd, 1) := by decide +kernel
theorem dX12_countKnots_162 : decode cX12_countKnots 162 = .ok (.putfield 218, 3) := by decide +kernel
theorem dX12_countKnots_165 : decode cX12_countKnots 165 = .ok (.iinc 2 1, 3) := by decide +kernel
theorem dX12_countKnots_168 : decode cX12_countKnots 168 = .ok (.goto (-115), 3) := by decide +kernel
theorem dX12_countKnots_171 : decode cX12_countKnots 171 = .ok (.return_, 1) := by decide +kernel
theorem dX12_go_0 : decode cX12_go 0 = .ok (.aload_n 0, 1) := by decide +kernel
theorem dX12_go_1 : decode cX12_go 1 = .ok (.iconst 0, 1) := by decide +kernel
theorem dX12_go_2 : decode cX12_go 2 = .ok (.putfield 218, 3) := by decide +kernel
theorem dX12_go_5 : decode cX12_go 5 = .ok (.iconst 0, 1) := by decide +kernel
theorem dX12_go_6 : decode cX12_go 6 = .ok (.istore_n 2, 1) := by decide +kernel
theorem dX12_go_7 : decode cX12_go 7 = .ok (.iload_n 2, 1) := by decide +kernel
theorem dX12_go_8 : decode cX12_go 8 = .ok (.aload_n 0, 1) := by decide +kernel
theorem dX12_go_9 : decode cX12_go 9 = .ok (.getfield 37, 3) := by decide +kernel
theorem dX12_go_12 : decode cX12_go 12 = .ok (.if_icmp .ge 21, 3) := by decide +kernel
theorem dX12_go_15 : decode cX12_go 15 = .ok (.aload_n 0, 1) := by decide +kernel
theorem dX12_go_16 : decode cX12_go 16 = .ok (.getfield 50, 3) := by decide +kernel
theorem dX12_go_19 : decode cX12_go 19 = .ok (.iload_n 2, 1) := by decide +kernel
theorem dX12_go_20 : decode cX12_go 20 = .ok (.aload_n 0, 1) := by decide +kernel
theorem dX12_go_21 : decode cX12_go 21 = .ok (.getfield 41, 3) := by decide +kernel
theorem dX12_go_24 : decode cX12_go 24 = .ok (.iload_n 2, 1) := by decide +kernel
theorem dX12_go_25 : decode cX12_go 25 = .ok (.iaload, 1) := by decide +kernel
theorem dX12_go_26 : decode cX12_go 26 = .ok (.iastore, 1) := by decide +kernel
theorem dX12_go_27 : decode cX12_go 27 = .ok (.iinc 2 1, 3) := by decide +kernel
theorem dX12_go_30 : decode cX12_go 30 = .ok (.goto (-23), 3) := by decide +kernel
theorem dX12_go_33 : decode cX12_go 33 = .ok (.iconst 0, 1) := by decide +kernel
theorem dX12_go_34 : decode cX12_go 34 = .ok (.istore_n 2, 1) := by decide +kernel
theorem dX12_go_35 : decode cX12_go 35 = .ok (.iload_n 2, 1) := by decide +kernel
theorem dX12_go_36 : decode cX12_go 36 = .ok (.iload_n 1, 1) := by decide +kernel
theorem dX12_go_37 : decode cX12_go 37 = .ok (.aload_n 0, 1) := by decide +kernel
theorem dX12_go_38 : decode cX12_go 38 = .ok (.getfield 190, 3) := by decide +kernel
theorem dX12_go_41 : decode cX12_go 41 = .ok (.imul, 1) := by decide +kernel
theorem dX12_go_42 : decode cX12_go 42 = .ok (.if_icmp .ge 60, 3) := by decide +kernel
theorem dX12_go_45 : decode cX12_go 45 = .ok (.iconst 0, 1) := by decide +kernel
theorem dX12_go_46 : decode cX12_go 46 = .ok (.istore_n 3, 1) := by decide +kernel
theorem dX12_go_47 : decode cX12_go 47 = .ok (.iload_n 3, 1) := by decide +kernel
theorem dX12_go_48 : decode cX12_go 48 = .ok (.aload_n 0, 1) := by decide +kernel
theorem dX12_go_49 : decode cX12_go 49 = .ok (.getfield 37, 3) := by decide +kernel
theorem dX12_go_52 : decode cX12_go 52 = .ok (.if_icmp .ge 44, 3) := by decide +kernel
theorem dX12_go_55 : decode cX12_go 55 = .ok (.aload_n 0, 1) := by decide +kernel
theorem dX12_go_56 : decode cX12_go 56 = .ok (.getfield 50, 3) := by decide +kernel
theorem dX12_go_59 : decode cX12_go 59 = .ok (.bipush 10, 2) := by decide +kernel
theorem dX12_go_61 : decode cX12_go 61 = .ok (.iload_n 2, 1) := by decide +kernel
theorem dX12_go_62 : decode cX12_go 62 = .ok (.iconst 1, 1) := by decide +kernel
theorem dX12_go_63 : decode cX12_go 63 = .ok (.iadd, 1) := by decide +kernel
theorem dX12_go_64 : decode cX12_go 64 = .ok (.imul, 1) := by decide +kernel
theorem dX12_go_65 : decode cX12_go 65 = .ok (.iload_n 3, 1) := by decide +kernel
theorem dX12_go_66 : decode cX12_go 66 = .ok (.iadd, 1) := by decide +kernel
theorem dX12_go_67 : decode cX12_go 67 = .ok (.aload_n 0, 1) := by decide +kernel
theorem dX12_go_68 : decode cX12_go 68 = .ok (.iload_n 2, 1) := by decide +kernel
theorem dX12_go_69 : decode cX12_go 69 = .ok (.aload_n 0, 1) := by decide +kernel
theorem dX12_go_70 : decode cX12_go 70 = .ok (.getfield 190, 3) := by decide +kernel
theorem dX12_go_73 : decode cX12_go 73 = .ok (.irem, 1) := by decide +kernel
theorem dX12_go_74 : decode cX12_go 74 = .ok (.iload_n 2, 1) := by decide +kernel
theorem dX12_go_75 : decode cX12_go 75 = .ok (.iload_n 3, 1) := by decide +kernel
theorem dX12_go_76 : decode cX12_go 76 = .ok (.invokevirtual 221, 3) := by decide +kernel
theorem dX12_go_79 : decode cX12_go 79 = .ok (.iastore, 1) := by decide +kernel
theorem dX12_go_80 : decode cX12_go 80 = .ok (.aload_n 0, 1) := by decide +kernel
theorem dX12_go_81 : decode cX12_go 81 = .ok (.iload_n 2, 1) := by decide +kernel
theorem dX12_go_82 : decode cX12_go 82 = .ok (.aload_n 0, 1) := by decide +kernel
theorem dX12_go_83 : decode cX12_go 83 = .ok (.getfield 190, 3) := by decide +kernel
theorem dX12_go_86 : decode cX12_go 86 = .ok (.irem, 1) := by decide +kernel
theorem dX12_go_87 : decode cX12_go 87 = .ok (.invokevirtual 224, 3) := by decide +kernel
theorem dX12_go_90 : decode cX12_go 90 = .ok (.iinc 3 1, 3) := by decide +kernel
theorem dX12_go_93 : decode cX12_go 93 = .ok (.goto (-46), 3) := by decide +kernel
theorem dX12_go_96 : decode cX12_go 96 = .ok (.iinc 2 1, 3) := by decide +kernel
theorem dX12_go_99 : decode cX12_go 99 = .ok (.goto (-64), 3) := by decide +kernel
theorem dX12_go_102 : decode cX12_go 102 = .ok (.return_, 1) := by decide +kernel
theorem dX12_stateAt_0 : decode cX12_stateAt 0 = .ok (.aload_n 0, 1) := by decide +kernel
theorem dX12_stateAt_1 : decode cX12_stateAt 1 = .ok (.getfield 50, 3) := by decide +kernel
theorem dX12_stateAt_4 : decode cX12_stateAt 4 = .ok (.bipush 10, 2) := by decide +kernel
theorem dX12_stateAt_6 : decode cX12_stateAt 6 = .ok (.iload_n 1, 1) := by decide +kernel
theorem dX12_stateAt_7 : decode cX12_stateAt 7 = .ok (.aload_n 0, 1) := by decide +kernel
theorem dX12_stateAt_8 : decode cX12_stateAt 8 = .ok (.getfield 190, 3) := by decide +kernel
theorem dX12_stateAt_11 : decode cX12_stateAt 11 = .ok (.imul, 1) := by decide +kernel
theorem dX12_stateAt_12 : decode cX12_stateAt 12 = .ok (.imul, 1) := by decide +kernel
theorem dX12_stateAt_13 : decode cX12_stateAt 13 = .ok (.iload_n 2, 1) := by decide +kernel
theorem dX12_stateAt_14 : decode cX12_stateAt 14 = .ok (.iadd, 1) := by decide +kernel
theorem dX12_stateAt_15 : decode cX12_stateAt 15 = .ok (.iaload, 1) := by decide +kernel
theorem dX12_stateAt_16 : decode cX12_stateAt 16 = .ok (.ireturn, 1) := by decide +kernel
theorem dX12_cell_0 : decode cX12_cell 0 = .ok (.aload_n 0, 1) := by decide +kernel
theorem dX12_cell_1 : decode cX12_cell 1 = .ok (.iload_n 1, 1) := by decide +kernel
theorem dX12_cell_2 : decode cX12_cell 2 = .ok (.invokevirtual 196, 3) := by decide +kernel
theorem dX12_cell_5 : decode cX12_cell 5 = .ok (.ifCond .eq 13, 3) := by decide +kernel
theorem dX12_cell_8 : decode cX12_cell 8 = .ok (.iload_n 2, 1) := by decide +kernel
theorem dX12_cell_9 : decode cX12_cell 9 = .ok (.iconst 0, 1) := by decide +kernel
theorem dX12_cell_10 : decode cX12_cell 10 = .ok (.bipush 40, 2) := by decide +kernel
theorem dX12_cell_12 : decode cX12_cell 12 = .ok (.invokestatic 121, 3) := by decide +kernel
theorem dX12_cell_15 : decode cX12_cell 15 = .ok (.ifCond .ne 8, 3) := by decide +kernel
theorem dX12_cell_18 : decode cX12_cell 18 = .ok (.iconst 1, 1) := by decide +kernel
theorem dX12_cell_19 : decode cX12_cell 19 = .ok (.invokestatic 129, 3) := by decide +kernel
theorem dX12_cell_22 : decode cX12_cell 22 = .ok (.lreturn, 1) := by decide +kernel
theorem dX12_cell_23 : decode cX12_cell 23 = .ok (.aload_n 0, 1) := by decide +kernel
theorem dX12_cell_24 : decode cX12_cell 24 = .ok (.iload_n 2, 1) := by decide +kernel
theorem dX12_cell_25 : decode cX12_cell 25 = .ok (.invokevirtual 228, 3) := by decide +kernel
theorem dX12_cell_28 : decode cX12_cell 28 = .ok (.aload_n 0, 1) := by decide +kernel
theorem dX12_cell_29 : decode cX12_cell 29 = .ok (.iload_n 2, 1) := by decide +kernel
theorem dX12_cell_30 : decode cX12_cell 30 = .ok (.iload_n 1, 1) := by decide +kernel
theorem dX12_cell_31 : decode cX12_cell 31 = .ok (.invokevirtual 231, 3) := by decide +kernel
theorem dX12_cell_34 : decode cX12_cell 34 = .ok (.i2l, 1) := by decide +kernel
theorem dX12_cell_35 : decode cX12_cell 35 = .ok (.lreturn, 1) := by decide +kernel
theorem dX12_gauge_0 : decode cX12_gauge 0 = .ok (.iload_n 1, 1) := by decide +kernel
theorem dX12_gauge_1 : decode cX12_gauge 1 = .ok (.iconst 0, 1) := by decide +kernel
theorem dX12_gauge_2 : decode cX12_gauge 2 = .ok (.bipush 9, 2) := by decide +kernel
theorem dX12_gauge_4 : decode cX12_gauge 4 = .ok (.invokestatic 121, 3) := by decide +kernel
theorem dX12_gauge_7 : decode cX12_gauge 7 = .ok (.ifCond .eq 24, 3) := by decide +kernel
theorem dX12_gauge_10 : decode cX12_gauge 10 = .ok (.iload_n 2, 1) := by decide +kernel
theorem dX12_gauge_11 : decode cX12_gauge 11 = .ok (.iconst 0, 1) := by decide +kernel
theorem dX12_gauge_12 : decode cX12_gauge 12 = .ok (.bipush 20, 2) := by decide +kernel
theorem dX12_gauge_14 : decode cX12_gauge 14 = .ok (.invokestatic 121, 3) := by decide +kernel
theorem dX12_gauge_17 : decode cX12_gauge 17 = .ok (.ifCond .eq 14, 3) := by decide +kernel
theorem dX12_gauge_20 : decode cX12_gauge 20 = .ok (.iload_n 3, 1) := by decide +kernel
theorem dX12_gauge_21 : decode cX12_gauge 21 = .ok (.bipush (-9), 2) := by decide +kernel
theorem dX12_gauge_23 : decode cX12_gauge 23 = .ok (.bipush 9, 2) := by decide +kernel
theorem dX12_gauge_25 : decode cX12_gauge 25 = .ok (.invokestatic 121, 3) := by decide +kernel
theorem dX12_gauge_28 : decode cX12_gauge 28 = .ok (.ifCond .ne 8, 3) := by decide +kernel
theorem dX12_gauge_31 : decode cX12_gauge 31 = .ok (.iconst 1, 1) := by decide +kernel
theorem dX12_gauge_32 : decode cX12_gauge 32 = .ok (.invokestatic 129, 3) := by decide +kernel
theorem dX12_gauge_35 : decode cX12_gauge 35 = .ok (.lreturn, 1) := by decide +kernel
theorem dX12_gauge_36 : decode cX12_gauge 36 = .ok (.aload_n 0, 1) := by decide +kernel
theorem dX12_gauge_37 : decode cX12_gauge 37 = .ok (.getfield 234, 3) := by decide +kernel
theorem dX12_gauge_40 : decode cX12_gauge 40 = .ok (.bipush 12, 2) := by decide +kernel
theorem dX12_gauge_42 : decode cX12_gauge 42 = .ok (.if_icmp .ne 8, 3) := by decide +kernel
theorem dX12_gauge_45 : decode cX12_gauge 45 = .ok (.iconst 3, 1) := by decide +kernel
theorem dX12_gauge_46 : decode cX12_gauge 46 = .ok (.invokestatic 129, 3) := by decide +kernel
theorem dX12_gauge_49 : decode cX12_gauge 49 = .ok (.lreturn, 1) := by decide +kernel
theorem dX12_gauge_50 : decode cX12_gauge 50 = .ok (.aload_n 0, 1) := by decide +kernel
theorem dX12_gauge_51 : decode cX12_gauge 51 = .ok (.getfield 63, 3) := by decide +kernel
theorem dX12_gauge_54 : decode cX12_gauge 54 = .ok (.aload_n 0, 1) := by decide +kernel
theorem dX12_gauge_55 : decode cX12_gauge 55 = .ok (.getfield 234, 3) := by decide +kernel
theorem dX12_gauge_58 : decode cX12_gauge 58 = .ok (.iload_n 1, 1) := by decide +kernel
theorem dX12_gauge_59 : decode cX12_gauge 59 = .ok (.iastore, 1) := by decide +kernel
theorem dX12_gauge_60 : decode cX12_gauge 60 = .ok (.aload_n 0, 1) := by decide +kernel
theorem dX12_gauge_61 : decode cX12_gauge 61 = .ok (.getfield 66, 3) := by decide +kernel
theorem dX12_gauge_64 : decode cX12_gauge 64 = .ok (.aload_n 0, 1) := by decide +kernel
theorem dX12_gauge_65 : decode cX12_gauge 65 = .ok (.getfield 234, 3) := by decide +kernel
theorem dX12_gauge_68 : decode cX12_gauge 68 = .ok (.iload_n 2, 1) := by decide +kernel
theorem dX12_gauge_69 : decode cX12_gauge 69 = .ok (.iastore, 1) := by decide +kernel
theorem dX12_gauge_70 : decode cX12_gauge 70 = .ok (.aload_n 0, 1) := by decide +kernel
theorem dX12_gauge_71 : decode cX12_gauge 71 = .ok (.getfield 69, 3) := by decide +kernel
theorem dX12_gauge_74 : decode cX12_gauge 74 = .ok (.aload_n 0, 1) := by decide +kernel
theorem dX12_gauge_75 : decode cX12_gauge 75 = .ok (.getfield 234, 3) := by decide +kernel
theorem dX12_gauge_78 : decode cX12_gauge 78 = .ok (.iload_n 3, 1) := by decide +kernel
theorem dX12_gauge_79 : decode cX12_gauge 79 = .ok (.iastore, 1) := by decide +kernel
theorem dX12_gauge_80 : decode cX12_gauge 80 = .ok (.aload_n 0, 1) := by decide +kernel
theorem dX12_gauge_81 : decode cX12_gauge 81 = .ok (.getfield 72, 3) := by decide +kernel
theorem dX12_gauge_84 : decode cX12_gauge 84 = .ok (.aload_n 0, 1) := by decide +kernel
theorem dX12_gauge_85 : decode cX12_gauge 85 = .ok (.getfield 234, 3) := by decide +kernel
theorem dX12_gauge_88 : decode cX12_gauge 88 = .ok (.iload 4, 2) := by decide +kernel
theorem dX12_gauge_90 : decode cX12_gauge 90 = .ok (.iastore, 1) := by decide +kernel
theorem dX12_gauge_91 : decode cX12_gauge 91 = .ok (.aload_n 0, 1) := by decide +kernel
theorem dX12_gauge_92 : decode cX12_gauge 92 = .ok (.getfield 75, 3) := by decide +kernel
theorem dX12_gauge_95 : decode cX12_gauge 95 = .ok (.aload_n 0, 1) := by decide +kernel
theorem dX12_gauge_96 : decode cX12_gauge 96 = .ok (.getfield 234, 3) := by decide +kernel
theorem dX12_gauge_99 : decode cX12_gauge 99 = .ok (.iconst 0, 1) := by decide +kernel
theorem dX12_gauge_100 : decode cX12_gauge 100 = .ok (.bastore, 1) := by decide +kernel
theorem dX12_gauge_101 : decode cX12_gauge 101 = .ok (.aload_n 0, 1) := by decide +kernel
theorem dX12_gauge_102 : decode cX12_gauge 102 = .ok (.dup, 1) := by decide +kernel
theorem dX12_gauge_103 : decode cX12_gauge 103 = .ok (.getfield 234, 3) := by decide +kernel
theorem dX12_gauge_106 : decode cX12_gauge 106 = .ok (.iconst 1, 1) := by decide +kernel
theorem dX12_gauge_107 : decode cX12_gauge 107 = .ok (.iadd, 1) := by decide +kernel
theorem dX12_gauge_108 : decode cX12_gauge 108 = .ok (.putfield 234, 3) := by decide +kernel
theorem dX12_gauge_111 : decode cX12_gauge 111 = .ok (.aload_n 0, 1) := by decide +kernel
theorem dX12_gauge_112 : decode cX12_gauge 112 = .ok (.getfield 234, 3) := by decide +kernel
theorem dX12_gauge_115 : decode cX12_gauge 115 = .ok (.i2l, 1) := by decide +kernel
theorem dX12_gauge_116 : decode cX12_gauge 116 = .ok (.lreturn, 1) := by decide +kernel
theorem dX12_out_0 : decode cX12_out 0 = .ok (.iload_n 1, 1) := by decide +kernel
theorem dX12_out_1 : decode cX12_out 1 = .ok (.iconst 0, 1) := by decide +kernel
theorem dX12_out_2 : decode cX12_out 2 = .ok (.aload_n 0, 1) := by decide +kernel
theorem dX12_out_3 : decode cX12_out 3 = .ok (.getfield 234, 3) := by decide +kernel
theorem dX12_out_6 : decode cX12_out 6 = .ok (.iconst 1, 1) := by decide +kernel
theorem dX12_out_7 : decode cX12_out 7 = .ok (.isub, 1) := by decide +kernel
theorem dX12_out_8 : decode cX12_out 8 = .ok (.invokestatic 121, 3) := by decide +kernel
theorem dX12_out_11 : decode cX12_out 11 = .ok (.ifCond .eq 12, 3) := by decide +kernel
theorem dX12_out_14 : decode cX12_out 14 = .ok (.iload_n 2, 1) := by decide +kernel
theorem dX12_out_15 : decode cX12_out 15 = .ok (.iconst 0, 1) := by decide +kernel
theorem dX12_out_16 : decode cX12_out 16 = .ok (.iconst 1, 1) := by decide +kernel
theorem dX12_out_17 : decode cX12_out 17 = .ok (.invokestatic 121, 3) := by decide +kernel
theorem dX12_out_20 : decode cX12_out 20 = .ok (.ifCond .ne 8, 3) := by decide +kernel
theorem dX12_out_23 : decode cX12_out 23 = .ok (.iconst 1, 1) := by decide +kernel
theorem dX12_out_24 : decode cX12_out 24 = .ok (.invokestatic 129, 3) := by decide +kernel
theorem dX12_out_27 : decode cX12_out 27 = .ok (.lreturn, 1) := by decide +kernel
theorem dX12_out_28 : decode cX12_out 28 = .ok (.aload_n 0, 1) := by decide +kernel
theorem dX12_out_29 : decode cX12_out 29 = .ok (.getfield 75, 3) := by decide +kernel
theorem dX12_out_32 : decode cX12_out 32 = .ok (.iload_n 1, 1) := by decide +kernel
theorem dX12_out_33 : decode cX12_out 33 = .ok (.iload_n 2, 1) := by decide +kernel
theorem dX12_out_34 : decode cX12_out 34 = .ok (.iconst 1, 1) := by decide +kernel
theorem dX12_out_35 : decode cX12_out 35 = .ok (.if_icmp .ne 7, 3) := by decide +kernel
theorem dX12_out_38 : decode cX12_out 38 = .ok (.iconst 1, 1) := by decide +kernel
theorem dX12_out_39 : decode cX12_out 39 = .ok (.goto 4, 3) := by decide +kernel
theorem dX12_out_42 : decode cX12_out 42 = .ok (.iconst 0, 1) := by decide +kernel
theorem dX12_out_43 : decode cX12_out 43 = .ok (.bastore, 1) := by decide +kernel
theorem dX12_out_44 : decode cX12_out 44 = .ok (.lconst 1, 1) := by decide +kernel
theorem dX12_out_45 : decode cX12_out 45 = .ok (.lreturn, 1) := by decide +kernel
theorem dX12_counts_0 : decode cX12_counts 0 = .ok (.aload_n 0, 1) := by decide +kernel
theorem dX12_counts_1 : decode cX12_counts 1 = .ok (.getfield 75, 3) := by decide +kernel
theorem dX12_counts_4 : decode cX12_counts 4 = .ok (.iload_n 1, 1) := by decide +kernel
theorem dX12_counts_5 : decode cX12_counts 5 = .ok (.baload, 1) := by decide +kernel
theorem dX12_counts_6 : decode cX12_counts 6 = .ok (.ifCond .ne 20, 3) := by decide +kernel
theorem dX12_counts_9 : decode cX12_counts 9 = .ok (.aload_n 0, 1) := by decide +kernel
theorem dX12_counts_10 : decode cX12_counts 10 = .ok (.getfield 63, 3) := by decide +kernel
theorem dX12_counts_13 : decode cX12_counts 13 = .ok (.iload_n 1, 1) := by decide +kernel
theorem dX12_counts_14 : decode cX12_counts 14 = .ok (.iaload, 1) := by decide +kernel
theorem dX12_counts_15 : decode cX12_counts 15 = .ok (.aload_n 0, 1) := by decide +kernel
theorem dX12_counts_16 : decode cX12_counts 16 = .ok (.getfield 37, 3) := by decide +kernel
theorem dX12_counts_19 : decode cX12_counts 19 = .ok (.if_icmp .ge 7, 3) := by decide +kernel
theorem dX12_counts_22 : decode cX12_counts 22 = .ok (.iconst 1, 1) := by decide +kernel
theorem dX12_counts_23 : decode cX12_counts 23 = .ok (.goto 4, 3) := by decide +kernel
theorem dX12_counts_26 : decode cX12_counts 26 = .ok (.iconst 0, 1) := by decide +kernel
theorem dX12_counts_27 : decode cX12_counts 27 = .ok (.ireturn, 1) := by decide +kernel
theorem dX12_last_0 : decode cX12_last 0 = .ok (.iconst 0, 1) := by decide +kernel
theorem dX12_last_1 : decode cX12_last 1 = .ok (.istore_n 1, 1) := by decide +kernel
theorem dX12_last_2 : decode cX12_last 2 = .ok (.iconst 0, 1) := by decide +kernel
theorem dX12_last_3 : decode cX12_last 3 = .ok (.istore_n 2, 1) := by decide +kernel
theorem dX12_last_4 : decode cX12_last 4 = .ok (.iload_n 2, 1) := by decide +kernel
theorem dX12_last_5 : decode cX12_last 5 = .ok (.aload_n 0, 1) := by decide +kernel
theorem dX12_last_6 : decode cX12_last 6 = .ok (.getfield 234, 3) := by decide +kernel
theorem dX12_last_9 : decode cX12_last 9 = .ok (.if_icmp .ge 38, 3) := by decide +kernel
theorem dX12_last_12 : decode cX12_last 12 = .ok (.aload_n 0, 1) := by decide +kernel
theorem dX12_last_13 : decode cX12_last 13 = .ok (.iload_n 2, 1) := by decide +kernel
theorem dX12_last_14 : decode cX12_last 14 = .ok (.invokevirtual 237, 3) := by decide +kernel
theorem dX12_last_17 : decode cX12_last 17 = .ok (.ifCond .eq 22, 3) := by decide +kernel
theorem dX12_last_20 : decode cX12_last 20 = .ok (.aload_n 0, 1) := by decide +kernel
theorem dX12_last_21 : decode cX12_last 21 = .ok (.getfield 66, 3) := by decide +kernel
theorem dX12_last_24 : decode cX12_last 24 = .ok (.iload_n 2, 1) := by decide +kernel
theorem dX12_last_25 : decode cX12_last 25 = .ok (.iaload, 1) := by decide +kernel
theorem dX12_last_26 : decode cX12_last 26 = .ok (.iload_n 1, 1) := by decide +kernel
theorem dX12_last_27 : decode cX12_last 27 = .ok (.if_icmp .le 12, 3) := by decide +kernel
theorem dX12_last_30 : decode cX12_last 30 = .ok (.aload_n 0, 1) := by decide +kernel
theorem dX12_last_31 : decode cX12_last 31 = .ok (.getfield 66, 3) := by decide +kernel
theorem dX12_last_34 : decode cX12_last 34 = .ok (.iload_n 2, 1) := by decide +kernel
theorem dX12_last_35 : decode cX12_last 35 = .ok (.iaload, 1) := by decide +kernel
theorem dX12_last_36 : decode cX12_last 36 = .ok (.goto 4, 3) := by decide +kernel
theorem dX12_last_39 : decode cX12_last 39 = .ok (.iload_n 1, 1) := by decide +kernel
theorem dX12_last_40 : decode cX12_last 40 = .ok (.istore_n 1, 1) := by decide +kernel
theorem dX12_last_41 : decode cX12_last 41 = .ok (.iinc 2 1, 3) := by decide +kernel
theorem dX12_last_44 : decode cX12_last 44 = .ok (.goto (-40), 3) := by decide +kernel
theorem dX12_last_47 : decode cX12_last 47 = .ok (.iload_n 1, 1) := by decide +kernel
theorem dX12_last_48 : decode cX12_last 48 = .ok (.ireturn, 1) := by decide +kernel
theorem dX12_wishNow_0 : decode cX12_wishNow 0 = .ok (.aload_n 0, 1) := by decide +kernel
theorem dX12_wishNow_1 : decode cX12_wishNow 1 = .ok (.aload_n 0, 1) := by decide +kernel
theorem dX12_wishNow_2 : decode cX12_wishNow 2 = .ok (.invokevirtual 240, 3) := by decide +kernel
theorem dX12_wishNow_5 : decode cX12_wishNow 5 = .ok (.invokevirtual 228, 3) := by decide +kernel
theorem dX12_wishNow_8 : decode cX12_wishNow 8 = .ok (.iconst 0, 1) := by decide +kernel
theorem dX12_wishNow_9 : decode cX12_wishNow 9 = .ok (.istore_n 1, 1) := by decide +kernel
theorem dX12_wishNow_10 : decode cX12_wishNow 10 = .ok (.iconst 0, 1) := by decide +kernel
theorem dX12_wishNow_11 : decode cX12_wishNow 11 = .ok (.istore_n 2, 1) := by decide +kernel
theorem dX12_wishNow_12 : decode cX12_wishNow 12 = .ok (.iload_n 2, 1) := by decide +kernel
theorem dX12_wishNow_13 : decode cX12_wishNow 13 = .ok (.aload_n 0, 1) := by decide +kernel
theorem dX12_wishNow_14 : decode cX12_wishNow 14 = .ok (.getfield 234, 3) := by decide +kernel
theorem dX12_wishNow_17 : decode cX12_wishNow 17 = .ok (.if_icmp .ge 54, 3) := by decide +kernel
theorem dX12_wishNow_20 : decode cX12_wishNow 20 = .ok (.aload_n 0, 1) := by decide +kernel
theorem dX12_wishNow_21 : decode cX12_wishNow 21 = .ok (.iload_n 2, 1) := by decide +kernel
theorem dX12_wishNow_22 : decode cX12_wishNow 22 = .ok (.invokevirtual 237, 3) := by decide +kernel
theorem dX12_wishNow_25 : decode cX12_wishNow 25 = .ok (.ifCond .eq 40, 3) := by decide +kernel
theorem dX12_wishNow_28 : decode cX12_wishNow 28 = .ok (.aload_n 0, 1) := by decide +kernel
theorem dX12_wishNow_29 : decode cX12_wishNow 29 = .ok (.aload_n 0, 1) := by decide +kernel
theorem dX12_wishNow_30 : decode cX12_wishNow 30 = .ok (.getfield 66, 3) := by decide +kernel
theorem dX12_wishNow_33 : decode cX12_wishNow 33 = .ok (.iload_n 2, 1) := by decide +kernel
theorem dX12_wishNow_34 : decode cX12_wishNow 34 = .ok (.iaload, 1) := by decide +kernel
theorem dX12_wishNow_35 : decode cX12_wishNow 35 = .ok (.aload_n 0, 1) := by decide +kernel
theorem dX12_wishNow_36 : decode cX12_wishNow 36 = .ok (.getfield 63, 3) := by decide +kernel
theorem dX12_wishNow_39 : decode cX12_wishNow 39 = .ok (.iload_n 2, 1) := by decide +kernel
theorem dX12_wishNow_40 : decode cX12_wishNow 40 = .ok (.iaload, 1) := by decide +kernel
theorem dX12_wishNow_41 : decode cX12_wishNow 41 = .ok (.invokevirtual 231, 3) := by decide +kernel
theorem dX12_wishNow_44 : decode cX12_wishNow 44 = .ok (.aload_n 0, 1) := by decide +kernel
theorem dX12_wishNow_45 : decode cX12_wishNow 45 = .ok (.getfield 72, 3) := by decide +kernel
theorem dX12_wishNow_48 : decode cX12_wishNow 48 = .ok (.iload_n 2, 1) := by decide +kernel
theorem dX12_wishNow_49 : decode cX12_wishNow 49 = .ok (.iaload, 1) := by decide +kernel
theorem dX12_wishNow_50 : decode cX12_wishNow 50 = .ok (.isub, 1) := by decide +kernel
theorem dX12_wishNow_51 : decode cX12_wishNow 51 = .ok (.istore_n 3, 1) := by decide +kernel
theorem dX12_wishNow_52 : decode cX12_wishNow 52 = .ok (.iload_n 1, 1) := by decide +kernel
theorem dX12_wishNow_53 : decode cX12_wishNow 53 = .ok (.aload_n 0, 1) := by decide +kernel
theorem dX12_wishNow_54 : decode cX12_wishNow 54 = .ok (.getfield 69, 3) := by decide +kernel
theorem dX12_wishNow_57 : decode cX12_wishNow 57 = .ok (.iload_n 2, 1) := by decide +kernel
theorem dX12_wishNow_58 : decode cX12_wishNow 58 = .ok (.iaload, 1) := by decide +kernel
theorem dX12_wishNow_59 : decode cX12_wishNow 59 = .ok (.iload_n 3, 1) := by decide +kernel
theorem dX12_wishNow_60 : decode cX12_wishNow 60 = .ok (.imul, 1) := by decide +kernel
theorem dX12_wishNow_61 : decode cX12_wishNow 61 = .ok (.iload_n 3, 1) := by decide +kernel
theorem dX12_wishNow_62 : decode cX12_wishNow 62 = .ok (.imul, 1) := by decide +kernel
theorem dX12_wishNow_63 : decode cX12_wishNow 63 = .ok (.iadd, 1) := by decide +kernel
theorem dX12_wishNow_64 : decode cX12_wishNow 64 = .ok (.istore_n 1, 1) := by decide +kernel
theorem dX12_wishNow_65 : decode cX12_wishNow 65 = .ok (.iinc 2 1, 3) := by decide +kernel
theorem dX12_wishNow_68 : decode cX12_wishNow 68 = .ok (.goto (-56), 3) := by decide +kernel
theorem dX12_wishNow_71 : decode cX12_wishNow 71 = .ok (.iload_n 1, 1) := by decide +kernel
theorem dX12_wishNow_72 : decode cX12_wishNow 72 = .ok (.ireturn, 1) := by decide +kernel
theorem dX12_wish_0 : decode cX12_wish 0 = .ok (.iload_n 1, 1) := by decide +kernel
theorem dX12_wish_1 : decode cX12_wish 1 = .ok (.tableswitch 53 0 2 #[27, 33, 39], 27) := by decide +kernel
theorem dX12_wish_28 : decode cX12_wish 28 = .ok (.aload_n 0, 1) := by decide +kernel
theorem dX12_wish_29 : decode cX12_wish 29 = .ok (.invokevirtual 243, 3) := by decide +kernel
theorem dX12_wish_32 : decode cX12_wish 32 = .ok (.i2l, 1) := by decide +kernel
theorem dX12_wish_33 : decode cX12_wish 33 = .ok (.lreturn, 1) := by decide +kernel
theorem dX12_wish_34 : decode cX12_wish 34 = .ok (.aload_n 0, 1) := by decide +kernel
theorem dX12_wish_35 : decode cX12_wish 35 = .ok (.invokevirtual 240, 3) := by decide +kernel
theorem dX12_wish_38 : decode cX12_wish 38 = .ok (.i2l, 1) := by decide +kernel
theorem dX12_wish_39 : decode cX12_wish 39 = .ok (.lreturn, 1) := by decide +kernel
theorem dX12_wish_40 : decode cX12_wish 40 = .ok (.aload_n 0, 1) := by decide +kernel
theorem dX12_wish_41 : decode cX12_wish 41 = .ok (.aload_n 0, 1) := by decide +kernel
theorem dX12_wish_42 : decode cX12_wish 42 = .ok (.invokevirtual 240, 3) := by decide +kernel
theorem dX12_wish_45 : decode cX12_wish 45 = .ok (.invokevirtual 228, 3) := by decide +kernel
theorem dX12_wish_48 : decode cX12_wish 48 = .ok (.aload_n 0, 1) := by decide +kernel
theorem dX12_wish_49 : decode cX12_wish 49 = .ok (.getfield 218, 3) := by decide +kernel
theorem dX12_wish_52 : decode cX12_wish 52 = .ok (.i2l, 1) := by decide +kernel
theorem dX12_wish_53 : decode cX12_wish 53 = .ok (.lreturn, 1) := by decide +kernel
theorem dX12_wish_54 : decode cX12_wish 54 = .ok (.iconst 1, 1) := by decide +kernel
theorem dX12_wish_55 : decode cX12_wish 55 = .ok (.invokestatic 129, 3) := by decide +kernel
theorem dX12_wish_58 : decode cX12_wish 58 = .ok (.lreturn, 1) := by decide +kernel
theorem dX12_giveBack_0 : decode cX12_giveBack 0 = .ok (.aload_n 0, 1) := by decide +kernel
theorem dX12_giveBack_1 : decode cX12_giveBack 1 = .ok (.iload_n 1, 1) := by decide +kernel
theorem dX12_giveBack_2 : decode cX12_giveBack 2 = .ok (.iload_n 2, 1) := by decide +kernel
theorem dX12_giveBack_3 : decode cX12_giveBack 3 = .ok (.iload_n 3, 1) := by decide +kernel
theorem dX12_giveBack_4 : decode cX12_giveBack 4 = .ok (.invokevirtual 221, 3) := by decide +kernel
theorem dX12_giveBack_7 : decode cX12_giveBack 7 = .ok (.pop, 1) := by decide +kernel
theorem dX12_giveBack_8 : decode cX12_giveBack 8 = .ok (.aload_n 0, 1) := by decide +kernel
theorem dX12_giveBack_9 : decode cX12_giveBack 9 = .ok (.getfield 22, 3) := by decide +kernel
theorem dX12_giveBack_12 : decode cX12_giveBack 12 = .ok (.iload_n 1, 1) := by decide +kernel
theorem dX12_giveBack_13 : decode cX12_giveBack 13 = .ok (.iaload, 1) := by decide +kernel
theorem dX12_giveBack_14 : decode cX12_giveBack 14 = .ok (.istore 4, 2) := by decide +kernel
theorem dX12_giveBack_16 : decode cX12_giveBack 16 = .ok (.iload 4, 2) := by decide +kernel
theorem dX12_giveBack_18 : decode cX12_giveBack 18 = .ok (.istore 5, 2) := by decide +kernel
theorem dX12_giveBack_20 : decode cX12_giveBack 20 = .ok (.iload 5, 2) := by decide +kernel
theorem dX12_giveBack_22 : decode cX12_giveBack 22 = .ok (.aload_n 0, 1) := by decide +kernel
theorem dX12_giveBack_23 : decode cX12_giveBack 23 = .ok (.getfield 22, 3) := by decide +kernel
theorem dX12_giveBack_26 : decode cX12_giveBack 26 = .ok (.iload_n 1, 1) := by decide +kernel
theorem dX12_giveBack_27 : decode cX12_giveBack 27 = .ok (.iconst 1, 1) := by decide +kernel
theorem dX12_giveBack_28 : decode cX12_giveBack 28 = .ok (.iadd, 1) := by decide +kernel
theorem dX12_giveBack_29 : decode cX12_giveBack 29 = .ok (.iaload, 1) := by decide +kernel
theorem dX12_giveBack_30 : decode cX12_giveBack 30 = .ok (.if_icmp .ge 33, 3) := by decide +kernel
theorem dX12_giveBack_33 : decode cX12_giveBack 33 = .ok (.aload_n 0, 1) := by decide +kernel
theorem dX12_giveBack_34 : decode cX12_giveBack 34 = .ok (.getfield 60, 3) := by decide +kernel
theorem dX12_giveBack_37 : decode cX12_giveBack 37 = .ok (.iload 5, 2) := by decide +kernel
theorem dX12_giveBack_39 : decode cX12_giveBack 39 = .ok (.iload 5, 2) := by decide +kernel
theorem dX12_giveBack_41 : decode cX12_giveBack 41 = .ok (.iload 4, 2) := by decide +kernel
theorem dX12_giveBack_43 : decode cX12_giveBack 43 = .ok (.if_icmp .ne 12, 3) := by decide +kernel
theorem dX12_giveBack_46 : decode cX12_giveBack 46 = .ok (.aload_n 0, 1) := by decide +kernel
theorem dX12_giveBack_47 : decode cX12_giveBack 47 = .ok (.getfield 81, 3) := by decide +kernel
theorem dX12_giveBack_50 : decode cX12_giveBack 50 = .ok (.iload_n 3, 1) := by decide +kernel
theorem dX12_giveBack_51 : decode cX12_giveBack 51 = .ok (.iaload, 1) := by decide +kernel
theorem dX12_giveBack_52 : decode cX12_giveBack 52 = .ok (.goto 4, 3) := by decide +kernel
theorem dX12_giveBack_55 : decode cX12_giveBack 55 = .ok (.iconst 0, 1) := by decide +kernel
theorem dX12_giveBack_56 : decode cX12_giveBack 56 = .ok (.iastore, 1) := by decide +kernel
theorem dX12_giveBack_57 : decode cX12_giveBack 57 = .ok (.iinc 5 1, 3) := by decide +kernel
theorem dX12_giveBack_60 : decode cX12_giveBack 60 = .ok (.goto (-40), 3) := by decide +kernel
theorem dX12_giveBack_63 : decode cX12_giveBack 63 = .ok (.iload 4, 2) := by decide +kernel
theorem dX12_giveBack_65 : decode cX12_giveBack 65 = .ok (.istore 5, 2) := by decide +kernel
theorem dX12_giveBack_67 : decode cX12_giveBack 67 = .ok (.iload 5, 2) := by decide +kernel
theorem dX12_giveBack_69 : decode cX12_giveBack 69 = .ok (.aload_n 0, 1) := by decide +kernel
theorem dX12_giveBack_70 : decode cX12_giveBack 70 = .ok (.getfield 22, 3) := by decide +kernel
theorem dX12_giveBack_73 : decode cX12_giveBack 73 = .ok (.iload_n 1, 1) := by decide +kernel
theorem dX12_giveBack_74 : decode cX12_giveBack 74 = .ok (.iconst 1, 1) := by decide +kernel
theorem dX12_giveBack_75 : decode cX12_giveBack 75 = .ok (.iadd, 1) := by decide +kernel
theorem dX12_giveBack_76 : decode cX12_giveBack 76 = .ok (.iaload, 1) := by decide +kernel
theorem dX12_giveBack_77 : decode cX12_giveBack 77 = .ok (.if_icmp .ge 198, 3) := by decide +kernel
theorem dX12_giveBack_80 : decode cX12_giveBack 80 = .ok (.aload_n 0, 1) := by decide +kernel
theorem dX12_giveBack_81 : decode cX12_giveBack 81 = .ok (.getfield 60, 3) := by decide +kernel
theorem dX12_giveBack_84 : decode cX12_giveBack 84 = .ok (.iload 5, 2) := by decide +kernel
theorem dX12_giveBack_86 : decode cX12_giveBack 86 = .ok (.iaload, 1) := by decide +kernel
theorem dX12_giveBack_87 : decode cX12_giveBack 87 = .ok (.istore 6, 2) := by decide +kernel
theorem dX12_giveBack_89 : decode cX12_giveBack 89 = .ok (.aload_n 0, 1) := by decide +kernel
theorem dX12_giveBack_90 : decode cX12_giveBack 90 = .ok (.getfield 25, 3) := by decide +kernel
theorem dX12_giveBack_93 : decode cX12_giveBack 93 = .ok (.iload 5, 2) := by decide +kernel
theorem dX12_giveBack_95 : decode cX12_giveBack 95 = .ok (.iaload, 1) := by decide +kernel
theorem dX12_giveBack_96 : decode cX12_giveBack 96 = .ok (.tableswitch 157 1 3 #[28, 31, 48], 28) := by decide +kernel
theorem dX12_giveBack_124 : decode cX12_giveBack 124 = .ok (.goto 145, 3) := by decide +kernel
theorem dX12_giveBack_127 : decode cX12_giveBack 127 = .ok (.aload_n 0, 1) := by decide +kernel
theorem dX12_giveBack_128 : decode cX12_giveBack 128 = .ok (.aload_n 0, 1) := by decide +kernel
theorem dX12_giveBack_129 : decode cX12_giveBack 129 = .ok (.getfield 28, 3) := by decide +kernel
theorem dX12_giveBack_132 : decode cX12_giveBack 132 = .ok (.iload 5, 2) := by decide +kernel
theorem dX12_giveBack_134 : decode cX12_giveBack 134 = .ok (.iaload, 1) := by decide +kernel
theorem dX12_giveBack_135 : decode cX12_giveBack 135 = .ok (.iload_n 3, 1) := by decide +kernel
theorem dX12_giveBack_136 : decode cX12_giveBack 136 = .ok (.iload 6, 2) := by decide +kernel
theorem dX12_giveBack_138 : decode cX12_giveBack 138 = .ok (.invokevirtual 246, 3) := by decide +kernel
theorem dX12_giveBack_141 : decode cX12_giveBack 141 = .ok (.goto 128, 3) := by decide +kernel
theorem dX12_giveBack_144 : decode cX12_giveBack 144 = .ok (.iload 5, 2) := by decide +kernel
theorem dX12_giveBack_146 : decode cX12_giveBack 146 = .ok (.iconst 1, 1) := by decide +kernel
theorem dX12_giveBack_147 : decode cX12_giveBack 147 = .ok (.iadd, 1) := by decide +kernel
theorem dX12_giveBack_148 : decode cX12_giveBack 148 = .ok (.istore 7, 2) := by decide +kernel
theorem dX12_giveBack_150 : decode cX12_giveBack 150 = .ok (.aload_n 0, 1) := by decide +kernel
theorem dX12_giveBack_151 : decode cX12_giveBack 151 = .ok (.iload 5, 2) := by decide +kernel
theorem dX12_giveBack_153 : decode cX12_giveBack 153 = .ok (.invokevirtual 199, 3) := by decide +kernel
theorem dX12_giveBack_156 : decode cX12_giveBack 156 = .ok (.istore 8, 2) := by decide +kernel
theorem dX12_giveBack_158 : decode cX12_giveBack 158 = .ok (.aload_n 0, 1) := by decide +kernel
theorem dX12_giveBack_159 : decode cX12_giveBack 159 = .ok (.getfield 60, 3) := by decide +kernel
theorem dX12_giveBack_162 : decode cX12_giveBack 162 = .ok (.iload 7, 2) := by decide +kernel
theorem dX12_giveBack_164 : decode cX12_giveBack 164 = .ok (.dup2, 1) := by decide +kernel
theorem dX12_giveBack_165 : decode cX12_giveBack 165 = .ok (.iaload, 1) := by decide +kernel
theorem dX12_giveBack_166 : decode cX12_giveBack 166 = .ok (.aload_n 0, 1) := by decide +kernel
theorem dX12_giveBack_167 : decode cX12_giveBack 167 = .ok (.getfield 28, 3) := by decide +kernel
theorem dX12_giveBack_170 : decode cX12_giveBack 170 = .ok (.iload 5, 2) := by decide +kernel
theorem dX12_giveBack_172 : decode cX12_giveBack 172 = .ok (.iaload, 1) := by decide +kernel
theorem dX12_giveBack_173 : decode cX12_giveBack 173 = .ok (.bipush 42, 2) := by decide +kernel
theorem dX12_giveBack_175 : decode cX12_giveBack 175 = .ok (.if_icmp .ne 16, 3) := by decide +kernel
theorem dX12_giveBack_178 : decode cX12_giveBack 178 = .ok (.iload 6, 2) := by decide +kernel
theorem dX12_giveBack_180 : decode cX12_giveBack 180 = .ok (.aload_n 0, 1) := by decide +kernel
theorem dX12_giveBack_181 : decode cX12_giveBack 181 = .ok (.getfield 53, 3) := by decide +kernel
theorem dX12_giveBack_184 : decode cX12_giveBack 184 = .ok (.iload 8, 2) := by decide +kernel
theorem dX12_giveBack_186 : decode cX12_giveBack 186 = .ok (.iaload, 1) := by decide +kernel
theorem dX12_giveBack_187 : decode cX12_giveBack 187 = .ok (.imul, 1) := by decide +kernel
theorem dX12_giveBack_188 : decode cX12_giveBack 188 = .ok (.goto 5, 3) := by decide +kernel
theorem dX12_giveBack_191 : decode cX12_giveBack 191 = .ok (.iload 6, 2) := by decide +kernel
theorem dX12_giveBack_193 : decode cX12_giveBack 193 = .ok (.iadd, 1) := by decide +kernel
theorem dX12_giveBack_194 : decode cX12_giveBack 194 = .ok (.iastore, 1) := by decide +kernel
theorem dX12_giveBack_195 : decode cX12_giveBack 195 = .ok (.aload_n 0, 1) := by decide +kernel
theorem dX12_giveBack_196 : decode cX12_giveBack 196 = .ok (.getfield 60, 3) := by decide +kernel
theorem dX12_giveBack_199 : decode cX12_giveBack 199 = .ok (.iload 8, 2) := by decide +kernel
theorem dX12_giveBack_201 : decode cX12_giveBack 201 = .ok (.dup2, 1) := by decide +kernel
theorem dX12_giveBack_202 : decode cX12_giveBack 202 = .ok (.iaload, 1) := by decide +kernel
theorem dX12_giveBack_203 : decode cX12_giveBack 203 = .ok (.aload_n 0, 1) := by decide +kernel
theorem dX12_giveBack_204 : decode cX12_giveBack 204 = .ok (.getfield 28, 3) := by decide +kernel
theorem dX12_giveBack_207 : decode cX12_giveBack 207 = .ok (.iload 5, 2) := by decide +kernel
theorem dX12_giveBack_209 : decode cX12_giveBack 209 = .ok (.iaload, 1) := by decide +kernel
theorem dX12_giveBack_210 : decode cX12_giveBack 210 = .ok (.bipush 42, 2) := by decide +kernel
theorem dX12_giveBack_212 : decode cX12_giveBack 212 = .ok (.if_icmp .ne 16, 3) := by decide +kernel
theorem dX12_giveBack_215 : decode cX12_giveBack 215 = .ok (.iload 6, 2) := by decide +kernel
theorem dX12_giveBack_217 : decode cX12_giveBack 217 = .ok (.aload_n 0, 1) := by decide +kernel
theorem dX12_giveBack_218 : decode cX12_giveBack 218 = .ok (.getfield 53, 3) := by decide +kernel
theorem dX12_giveBack_221 : decode cX12_giveBack 221 = .ok (.iload 7, 2) := by decide +kernel
theorem dX12_giveBack_223 : decode cX12_giveBack 223 = .ok (.iaload, 1) := by decide +kernel
theorem dX12_giveBack_224 : decode cX12_giveBack 224 = .ok (.imul, 1) := by decide +kernel
theorem dX12_giveBack_225 : decode cX12_giveBack 225 = .ok (.goto 23, 3) := by decide +kernel
theorem dX12_giveBack_228 : decode cX12_giveBack 228 = .ok (.aload_n 0, 1) := by decide +kernel
theorem dX12_giveBack_229 : decode cX12_giveBack 229 = .ok (.getfield 28, 3) := by decide +kernel
theorem dX12_giveBack_232 : decode cX12_giveBack 232 = .ok (.iload 5, 2) := by decide +kernel
theorem dX12_giveBack_234 : decode cX12_giveBack 234 = .ok (.iaload, 1) := by decide +kernel
theorem dX12_giveBack_235 : decode cX12_giveBack 235 = .ok (.bipush 45, 2) := by decide +kernel
theorem dX12_giveBack_237 : decode cX12_giveBack 237 = .ok (.if_icmp .ne 9, 3) := by decide +kernel
theorem dX12_giveBack_240 : decode cX12_giveBack 240 = .ok (.iload 6, 2) := by decide +kernel
theorem dX12_giveBack_242 : decode cX12_giveBack 242 = .ok (.ineg, 1) := by decide +kernel
theorem dX12_giveBack_243 : decode cX12_giveBack 243 = .ok (.goto 5, 3) := by decide +kernel
theorem dX12_giveBack_246 : decode cX12_giveBack 246 = .ok (.iload 6, 2) := by decide +kernel
theorem dX12_giveBack_248 : decode cX12_giveBack 248 = .ok (.iadd, 1) := by decide +kernel
theorem dX12_giveBack_249 : decode cX12_giveBack 249 = .ok (.iastore, 1) := by decide +kernel
theorem dX12_giveBack_250 : decode cX12_giveBack 250 = .ok (.goto 19, 3) := by decide +kernel
theorem dX12_giveBack_253 : decode cX12_giveBack 253 = .ok (.aload_n 0, 1) := by decide +kernel
theorem dX12_giveBack_254 : decode cX12_giveBack 254 = .ok (.getfield 60, 3) := by decide +kernel
theorem dX12_giveBack_257 : decode cX12_giveBack 257 = .ok (.aload_n 0, 1) := by decide +kernel
theorem dX12_giveBack_258 : decode cX12_giveBack 258 = .ok (.iload 5, 2) := by decide +kernel
theorem dX12_giveBack_260 : decode cX12_giveBack 260 = .ok (.invokevirtual 212, 3) := by decide +kernel
theorem dX12_giveBack_263 : decode cX12_giveBack 263 = .ok (.dup2, 1) := by decide +kernel
theorem dX12_giveBack_264 : decode cX12_giveBack 264 = .ok (.iaload, 1) := by decide +kernel
theorem dX12_giveBack_265 : decode cX12_giveBack 265 = .ok (.iload 6, 2) := by decide +kernel
theorem dX12_giveBack_267 : decode cX12_giveBack 267 = .ok (.iadd, 1) := by decide +kernel
theorem dX12_giveBack_268 : decode cX12_giveBack 268 = .ok (.iastore, 1) := by decide +kernel
theorem dX12_giveBack_269 : decode cX12_giveBack 269 = .ok (.iinc 5 1, 3) := by decide +kernel
theorem dX12_giveBack_272 : decode cX12_giveBack 272 = .ok (.goto (-205), 3) := by decide +kernel
theorem dX12_giveBack_275 : decode cX12_giveBack 275 = .ok (.return_, 1) := by decide +kernel
theorem dX12_giveSeen_0 : decode cX12_giveSeen 0 = .ok (.iload_n 1, 1) := by decide +kernel
theorem dX12_giveSeen_1 : decode cX12_giveSeen 1 = .ok (.iconst 3, 1) := by decide +kernel
theorem dX12_giveSeen_2 : decode cX12_giveSeen 2 = .ok (.if_icmp .ne 16, 3) := by decide +kernel
theorem dX12_giveSeen_5 : decode cX12_giveSeen 5 = .ok (.aload_n 0, 1) := by decide +kernel
theorem dX12_giveSeen_6 : decode cX12_giveSeen 6 = .ok (.getfield 78, 3) := by decide +kernel
theorem dX12_giveSeen_9 : decode cX12_giveSeen 9 = .ok (.iload_n 2, 1) := by decide +kernel
theorem dX12_giveSeen_10 : decode cX12_giveSeen 10 = .ok (.dup2, 1) := by decide +kernel
theorem dX12_giveSeen_11 : decode cX12_giveSeen 11 = .ok (.iaload, 1) := by decide +kernel
theorem dX12_giveSeen_12 : decode cX12_giveSeen 12 = .ok (.iload_n 3, 1) := by decide +kernel
theorem dX12_giveSeen_13 : decode cX12_giveSeen 13 = .ok (.iadd, 1) := by decide +kernel
theorem dX12_giveSeen_14 : decode cX12_giveSeen 14 = .ok (.iastore, 1) := by decide +kernel
theorem dX12_giveSeen_15 : decode cX12_giveSeen 15 = .ok (.goto 66, 3) := by decide +kernel
theorem dX12_giveSeen_18 : decode cX12_giveSeen 18 = .ok (.iload_n 1, 1) := by decide +kernel
theorem dX12_giveSeen_19 : decode cX12_giveSeen 19 = .ok (.ifCond .ne 20, 3) := by decide +kernel
theorem dX12_giveSeen_22 : decode cX12_giveSeen 22 = .ok (.iload_n 2, 1) := by decide +kernel
theorem dX12_giveSeen_23 : decode cX12_giveSeen 23 = .ok (.ifCond .ne 16, 3) := by decide +kernel
theorem dX12_giveSeen_26 : decode cX12_giveSeen 26 = .ok (.aload_n 0, 1) := by decide +kernel
theorem dX12_giveSeen_27 : decode cX12_giveSeen 27 = .ok (.getfield 87, 3) := by decide +kernel
theorem dX12_giveSeen_30 : decode cX12_giveSeen 30 = .ok (.iconst 0, 1) := by decide +kernel
theorem dX12_giveSeen_31 : decode cX12_giveSeen 31 = .ok (.dup2, 1) := by decide +kernel
theorem dX12_giveSeen_32 : decode cX12_giveSeen 32 = .ok (.iaload, 1) := by decide +kernel
theorem dX12_giveSeen_33 : decode cX12_giveSeen 33 = .ok (.iload_n 3, 1) := by decide +kernel
theorem dX12_giveSeen_34 : decode cX12_giveSeen 34 = .ok (.iadd, 1) := by decide +kernel
theorem dX12_giveSeen_35 : decode cX12_giveSeen 35 = .ok (.iastore, 1) := by decide +kernel
theorem dX12_giveSeen_36 : decode cX12_giveSeen 36 = .ok (.goto 45, 3) := by decide +kernel
theorem dX12_giveSeen_39 : decode cX12_giveSeen 39 = .ok (.iload_n 1, 1) := by decide +kernel
theorem dX12_giveSeen_40 : decode cX12_giveSeen 40 = .ok (.iconst 2, 1) := by decide +kernel
theorem dX12_giveSeen_41 : decode cX12_giveSeen 41 = .ok (.if_icmp .ne 26, 3) := by decide +kernel
theorem dX12_giveSeen_44 : decode cX12_giveSeen 44 = .ok (.iload_n 2, 1) := by decide +kernel
theorem dX12_giveSeen_45 : decode cX12_giveSeen 45 = .ok (.aload_n 0, 1) := by decide +kernel
theorem dX12_giveSeen_46 : decode cX12_giveSeen 46 = .ok (.getfield 37, 3) := by decide +kernel
theorem dX12_giveSeen_49 : decode cX12_giveSeen 49 = .ok (.iconst 1, 1) := by decide +kernel
theorem dX12_giveSeen_50 : decode cX12_giveSeen 50 = .ok (.isub, 1) := by decide +kernel
theorem dX12_giveSeen_51 : decode cX12_giveSeen 51 = .ok (.if_icmp .ne 16, 3) := by decide +kernel
theorem dX12_giveSeen_54 : decode cX12_giveSeen 54 = .ok (.aload_n 0, 1) := by decide +kernel
theorem dX12_giveSeen_55 : decode cX12_giveSeen 55 = .ok (.getfield 87, 3) := by decide +kernel
theorem dX12_giveSeen_58 : decode cX12_giveSeen 58 = .ok (.iconst 1, 1) := by decide +kernel
theorem dX12_giveSeen_59 : decode cX12_giveSeen 59 = .ok (.dup2, 1) := by decide +kernel
theorem dX12_giveSeen_60 : decode cX12_giveSeen 60 = .ok (.iaload, 1) := by decide +kernel
theorem dX12_giveSeen_61 : decode cX12_giveSeen 61 = .ok (.iload_n 3, 1) := by decide +kernel
theorem dX12_giveSeen_62 : decode cX12_giveSeen 62 = .ok (.iadd, 1) := by decide +kernel
theorem dX12_giveSeen_63 : decode cX12_giveSeen 63 = .ok (.iastore, 1) := by decide +kernel
theorem dX12_giveSeen_64 : decode cX12_giveSeen 64 = .ok (.goto 17, 3) := by decide +kernel
theorem dX12_giveSeen_67 : decode cX12_giveSeen 67 = .ok (.aload_n 0, 1) := by decide +kernel
theorem dX12_giveSeen_68 : decode cX12_giveSeen 68 = .ok (.getfield 84, 3) := by decide +kernel
theorem dX12_giveSeen_71 : decode cX12_giveSeen 71 = .ok (.iload_n 2, 1) := by decide +kernel
theorem dX12_giveSeen_72 : decode cX12_giveSeen 72 = .ok (.iload_n 1, 1) := by decide +kernel
theorem dX12_giveSeen_73 : decode cX12_giveSeen 73 = .ok (.iadd, 1) := by decide +kernel
theorem dX12_giveSeen_74 : decode cX12_giveSeen 74 = .ok (.iconst 1, 1) := by decide +kernel
theorem dX12_giveSeen_75 : decode cX12_giveSeen 75 = .ok (.isub, 1) := by decide +kernel
theorem dX12_giveSeen_76 : decode cX12_giveSeen 76 = .ok (.dup2, 1) := by decide +kernel
theorem dX12_giveSeen_77 : decode cX12_giveSeen 77 = .ok (.iaload, 1) := by decide +kernel
theorem dX12_giveSeen_78 : decode cX12_giveSeen 78 = .ok (.iload_n 3, 1) := by decide +kernel
theorem dX12_giveSeen_79 : decode cX12_giveSeen 79 = .ok (.iadd, 1) := by decide +kernel
theorem dX12_giveSeen_80 : decode cX12_giveSeen 80 = .ok (.iastore, 1) := by decide +kernel
theorem dX12_giveSeen_81 : decode cX12_giveSeen 81 = .ok (.return_, 1) := by decide +kernel
theorem dX12_addGauges_0 : decode cX12_addGauges 0 = .ok (.iconst 0, 1) := by decide +kernel
theorem dX12_addGauges_1 : decode cX12_addGauges 1 = .ok (.istore_n 2, 1) := by decide +kernel
theorem dX12_addGauges_2 : decode cX12_addGauges 2 = .ok (.iload_n 2, 1) := by decide +kernel
theorem dX12_addGauges_3 : decode cX12_addGauges 3 = .ok (.aload_n 0, 1) := by decide +kernel
theorem dX12_addGauges_4 : decode cX12_addGauges 4 = .ok (.getfield 234, 3) := by decide +kernel
theorem dX12_addGauges_7 : decode cX12_addGauges 7 = .ok (.if_icmp .ge 68, 3) := by decide +kernel
theorem dX12_addGauges_10 : decode cX12_addGauges 10 = .ok (.aload_n 0, 1) := by decide +kernel
theorem dX12_addGauges_11 : decode cX12_addGauges 11 = .ok (.iload_n 2, 1) := by decide +kernel
theorem dX12_addGauges_12 : decode cX12_addGauges 12 = .ok (.invokevirtual 237, 3) := by decide +kernel
theorem dX12_addGauges_15 : decode cX12_addGauges 15 = .ok (.ifCond .eq 54, 3) := by decide +kernel
theorem dX12_addGauges_18 : decode cX12_addGauges 18 = .ok (.aload_n 0, 1) := by decide +kernel
theorem dX12_addGauges_19 : decode cX12_addGauges 19 = .ok (.getfield 66, 3) := by decide +kernel
theorem dX12_addGauges_22 : decode cX12_addGauges 22 = .ok (.iload_n 2, 1) := by decide +kernel
theorem dX12_addGauges_23 : decode cX12_addGauges 23 = .ok (.iaload, 1) := by decide +kernel
theorem dX12_addGauges_24 : decode cX12_addGauges 24 = .ok (.iload_n 1, 1) := by decide +kernel
theorem dX12_addGauges_25 : decode cX12_addGauges 25 = .ok (.if_icmp .ne 44, 3) := by decide +kernel
theorem dX12_addGauges_28 : decode cX12_addGauges 28 = .ok (.aload_n 0, 1) := by decide +kernel
theorem dX12_addGauges_29 : decode cX12_addGauges 29 = .ok (.getfield 81, 3) := by decide +kernel
theorem dX12_addGauges_32 : decode cX12_addGauges 32 = .ok (.aload_n 0, 1) := by decide +kernel
theorem dX12_addGauges_33 : decode cX12_addGauges 33 = .ok (.getfield 63, 3) := by decide +kernel
theorem dX12_addGauges_36 : decode cX12_addGauges 36 = .ok (.iload_n 2, 1) := by decide +kernel
theorem dX12_addGauges_37 : decode cX12_addGauges 37 = .ok (.iaload, 1) := by decide +kernel
theorem dX12_addGauges_38 : decode cX12_addGauges 38 = .ok (.dup2, 1) := by decide +kernel
theorem dX12_addGauges_39 : decode cX12_addGauges 39 = .ok (.iaload, 1) := by decide +kernel
theorem dX12_addGauges_40 : decode cX12_addGauges 40 = .ok (.iconst 2, 1) := by decide +kernel
theorem dX12_addGauges_41 : decode cX12_addGauges 41 = .ok (.aload_n 0, 1) := by decide +kernel
theorem dX12_addGauges_42 : decode cX12_addGauges 42 = .ok (.getfield 69, 3) := by decide +kernel
theorem dX12_addGauges_45 : decode cX12_addGauges 45 = .ok (.iload_n 2, 1) := by decide +kernel
theorem dX12_addGauges_46 : decode cX12_addGauges 46 = .ok (.iaload, 1) := by decide +kernel
theorem dX12_addGauges_47 : decode cX12_addGauges 47 = .ok (.imul, 1) := by decide +kernel
theorem dX12_addGauges_48 : decode cX12_addGauges 48 = .ok (.aload_n 0, 1) := by decide +kernel
theorem dX12_addGauges_49 : decode cX12_addGauges 49 = .ok (.iload_n 1, 1) := by decide +kernel
theorem dX12_addGauges_50 : decode cX12_addGauges 50 = .ok (.aload_n 0, 1) := by decide +kernel
theorem dX12_addGauges_51 : decode cX12_addGauges 51 = .ok (.getfield 63, 3) := by decide +kernel
theorem dX12_addGauges_54 : decode cX12_addGauges 54 = .ok (.iload_n 2, 1) := by decide +kernel
theorem dX12_addGauges_55 : decode cX12_addGauges 55 = .ok (.iaload, 1) := by decide +kernel
theorem dX12_addGauges_56 : decode cX12_addGauges 56 = .ok (.invokevirtual 231, 3) := by decide +kernel
theorem dX12_addGauges_59 : decode cX12_addGauges 59 = .ok (.aload_n 0, 1) := by decide +kernel
theorem dX12_addGauges_60 : decode cX12_addGauges 60 = .ok (.getfield 72, 3) := by decide +kernel
theorem dX12_addGauges_63 : decode cX12_addGauges 63 = .ok (.iload_n 2, 1) := by decide +kernel
theorem dX12_addGauges_64 : decode cX12_addGauges 64 = .ok (.iaload, 1) := by decide +kernel
theorem dX12_addGauges_65 : decode cX12_addGauges 65 = .ok (.isub, 1) := by decide +kernel
theorem dX12_addGauges_66 : decode cX12_addGauges 66 = .ok (.imul, 1) := by decide +kernel
theorem dX12_addGauges_67 : decode cX12_addGauges 67 = .ok (.iadd, 1) := by decide +kernel
theorem dX12_addGauges_68 : decode cX12_addGauges 68 = .ok (.iastore, 1) := by decide +kernel
theorem dX12_addGauges_69 : decode cX12_addGauges 69 = .ok (.iinc 2 1, 3) := by decide +kernel
theorem dX12_addGauges_72 : decode cX12_addGauges 72 = .ok (.goto (-70), 3) := by decide +kernel
theorem dX12_addGauges_75 : decode cX12_addGauges 75 = .ok (.return_, 1) := by decide +kernel
theorem dX12_findSlopes_0 : decode cX12_findSlopes 0 = .ok (.aload_n 0, 1) := by decide +kernel
theorem dX12_findSlopes_1 : decode cX12_findSlopes 1 = .ok (.invokevirtual 240, 3) := by decide +kernel
theorem dX12_findSlopes_4 : decode cX12_findSlopes 4 = .ok (.istore_n 1, 1) := by decide +kernel
theorem dX12_findSlopes_5 : decode cX12_findSlopes 5 = .ok (.aload_n 0, 1) := by decide +kernel
theorem dX12_findSlopes_6 : decode cX12_findSlopes 6 = .ok (.iload_n 1, 1) := by decide +kernel
theorem dX12_findSlopes_7 : decode cX12_findSlopes 7 = .ok (.invokevirtual 228, 3) := by decide +kernel
theorem dX12_findSlopes_10 : decode cX12_findSlopes 10 = .ok (.aload_n 0, 1) := by decide +kernel
theorem dX12_findSlopes_11 : decode cX12_findSlopes 11 = .ok (.getfield 87, 3) := by decide +kernel
theorem dX12_findSlopes_14 : decode cX12_findSlopes 14 = .ok (.iconst 0, 1) := by decide +kernel
theorem dX12_findSlopes_15 : decode cX12_findSlopes 15 = .ok (.iconst 0, 1) := by decide +kernel
theorem dX12_findSlopes_16 : decode cX12_findSlopes 16 = .ok (.iastore, 1) := by decide +kernel
theorem dX12_findSlopes_17 : decode cX12_findSlopes 17 = .ok (.aload_n 0, 1) := by decide +kernel
theorem dX12_findSlopes_18 : decode cX12_findSlopes 18 = .ok (.getfield 87, 3) := by decide +kernel
theorem dX12_findSlopes_21 : decode cX12_findSlopes 21 = .ok (.iconst 1, 1) := by decide +kernel
theorem dX12_findSlopes_22 : decode cX12_findSlopes 22 = .ok (.iconst 0, 1) := by decide +kernel
theorem dX12_findSlopes_23 : decode cX12_findSlopes 23 = .ok (.iastore, 1) := by decide +kernel
theorem dX12_findSlopes_24 : decode cX12_findSlopes 24 = .ok (.iconst 0, 1) := by decide +kernel
theorem dX12_findSlopes_25 : decode cX12_findSlopes 25 = .ok (.istore_n 2, 1) := by decide +kernel
theorem dX12_findSlopes_26 : decode cX12_findSlopes 26 = .ok (.iload_n 2, 1) := by decide +kernel
theorem dX12_findSlopes_27 : decode cX12_findSlopes 27 = .ok (.bipush 10, 2) := by decide +kernel
theorem dX12_findSlopes_29 : decode cX12_findSlopes 29 = .ok (.if_icmp .ge 23, 3) := by decide +kernel
theorem dX12_findSlopes_32 : decode cX12_findSlopes 32 = .ok (.aload_n 0, 1) := by decide +kernel
theorem dX12_findSlopes_33 : decode cX12_findSlopes 33 = .ok (.getfield 78, 3) := by decide +kernel
theorem dX12_findSlopes_36 : decode cX12_findSlopes 36 = .ok (.iload_n 2, 1) := by decide +kernel
theorem dX12_findSlopes_37 : decode cX12_findSlopes 37 = .ok (.iconst 0, 1) := by decide +kernel
theorem dX12_findSlopes_38 : decode cX12_findSlopes 38 = .ok (.iastore, 1) := by decide +kernel
theorem dX12_findSlopes_39 : decode cX12_findSlopes 39 = .ok (.aload_n 0, 1) := by decide +kernel
theorem dX12_findSlopes_40 : decode cX12_findSlopes 40 = .ok (.getfield 81, 3) := by decide +kernel
theorem dX12_findSlopes_43 : decode cX12_findSlopes 43 = .ok (.iload_n 2, 1) := by decide +kernel
theorem dX12_findSlopes_44 : decode cX12_findSlopes 44 = .ok (.iconst 0, 1) := by decide +kernel
theorem dX12_findSlopes_45 : decode cX12_findSlopes 45 = .ok (.iastore, 1) := by decide +kernel
theorem dX12_findSlopes_46 : decode cX12_findSlopes 46 = .ok (.iinc 2 1, 3) := by decide +kernel
theorem dX12_findSlopes_49 : decode cX12_findSlopes 49 = .ok (.goto (-23), 3) := by decide +kernel
theorem dX12_findSlopes_52 : decode cX12_findSlopes 52 = .ok (.iload_n 1, 1) := by decide +kernel
theorem dX12_findSlopes_53 : decode cX12_findSlopes 53 = .ok (.istore_n 2, 1) := by decide +kernel
theorem dX12_findSlopes_54 : decode cX12_findSlopes 54 = .ok (.iload_n 2, 1) := by decide +kernel
theorem dX12_findSlopes_55 : decode cX12_findSlopes 55 = .ok (.ifCond .lt 128, 3) := by decide +kernel
theorem dX12_findSlopes_58 : decode cX12_findSlopes 58 = .ok (.aload_n 0, 1) := by decide +kernel
theorem dX12_findSlopes_59 : decode cX12_findSlopes 59 = .ok (.iload_n 2, 1) := by decide +kernel
theorem dX12_findSlopes_60 : decode cX12_findSlopes 60 = .ok (.invokevirtual 250, 3) := by decide +kernel
theorem dX12_findSlopes_63 : decode cX12_findSlopes 63 = .ok (.aload_n 0, 1) := by decide +kernel
theorem dX12_findSlopes_64 : decode cX12_findSlopes 64 = .ok (.getfield 190, 3) := by decide +kernel
theorem dX12_findSlopes_67 : decode cX12_findSlopes 67 = .ok (.iconst 1, 1) := by decide +kernel
theorem dX12_findSlopes_68 : decode cX12_findSlopes 68 = .ok (.isub, 1) := by decide +kernel
theorem dX12_findSlopes_69 : decode cX12_findSlopes 69 = .ok (.istore_n 3, 1) := by decide +kernel
theorem dX12_findSlopes_70 : decode cX12_findSlopes 70 = .ok (.iload_n 3, 1) := by decide +kernel
theorem dX12_findSlopes_71 : decode cX12_findSlopes 71 = .ok (.ifCond .lt 106, 3) := by decide +kernel
theorem dX12_findSlopes_74 : decode cX12_findSlopes 74 = .ok (.iload_n 2, 1) := by decide +kernel
theorem dX12_findSlopes_75 : decode cX12_findSlopes 75 = .ok (.ifCond .le 102, 3) := by decide +kernel
theorem dX12_findSlopes_78 : decode cX12_findSlopes 78 = .ok (.iload_n 2, 1) := by decide +kernel
theorem dX12_findSlopes_79 : decode cX12_findSlopes 79 = .ok (.iconst 1, 1) := by decide +kernel
theorem dX12_findSlopes_80 : decode cX12_findSlopes 80 = .ok (.isub, 1) := by decide +kernel
theorem dX12_findSlopes_81 : decode cX12_findSlopes 81 = .ok (.aload_n 0, 1) := by decide +kernel
theorem dX12_findSlopes_82 : decode cX12_findSlopes 82 = .ok (.getfield 190, 3) := by decide +kernel
theorem dX12_findSlopes_85 : decode cX12_findSlopes 85 = .ok (.imul, 1) := by decide +kernel
theorem dX12_findSlopes_86 : decode cX12_findSlopes 86 = .ok (.iload_n 3, 1) := by decide +kernel
theorem dX12_findSlopes_87 : decode cX12_findSlopes 87 = .ok (.iadd, 1) := by decide +kernel
theorem dX12_findSlopes_88 : decode cX12_findSlopes 88 = .ok (.istore 4, 2) := by decide +kernel
theorem dX12_findSlopes_90 : decode cX12_findSlopes 90 = .ok (.iconst 0, 1) := by decide +kernel
theorem dX12_findSlopes_91 : decode cX12_findSlopes 91 = .ok (.istore 5, 2) := by decide +kernel
theorem dX12_findSlopes_93 : decode cX12_findSlopes 93 = .ok (.iload 5, 2) := by decide +kernel
theorem dX12_findSlopes_95 : decode cX12_findSlopes 95 = .ok (.bipush 10, 2) := by decide +kernel
theorem dX12_findSlopes_97 : decode cX12_findSlopes 97 = .ok (.if_icmp .ge 17, 3) := by decide +kernel
theorem dX12_findSlopes_100 : decode cX12_findSlopes 100 = .ok (.aload_n 0, 1) := by decide +kernel
theorem dX12_findSlopes_101 : decode cX12_findSlopes 101 = .ok (.getfield 84, 3) := by decide +kernel
theorem dX12_findSlopes_104 : decode cX12_findSlopes 104 = .ok (.iload 5, 2) := by decide +kernel
theorem dX12_findSlopes_106 : decode cX12_findSlopes 106 = .ok (.iconst 0, 1) := by decide +kernel
theorem dX12_findSlopes_107 : decode cX12_findSlopes 107 = .ok (.iastore, 1) := by decide +kernel
theorem dX12_findSlopes_108 : decode cX12_findSlopes 108 = .ok (.iinc 5 1, 3) := by decide +kernel
theorem dX12_findSlopes_111 : decode cX12_findSlopes 111 = .ok (.goto (-18), 3) := by decide +kernel
theorem dX12_findSlopes_114 : decode cX12_findSlopes 114 = .ok (.iconst 0, 1) := by decide +kernel
theorem dX12_findSlopes_115 : decode cX12_findSlopes 115 = .ok (.istore 5, 2) := by decide +kernel
theorem dX12_findSlopes_117 : decode cX12_findSlopes 117 = .ok (.iload 5, 2) := by decide +kernel
theorem dX12_findSlopes_119 : decode cX12_findSlopes 119 = .ok (.aload_n 0, 1) := by decide +kernel
theorem dX12_findSlopes_120 : decode cX12_findSlopes 120 = .ok (.getfield 37, 3) := by decide +kernel
theorem dX12_findSlopes_123 : decode cX12_findSlopes 123 = .ok (.if_icmp .ge 18, 3) := by decide +kernel
theorem dX12_findSlopes_126 : decode cX12_findSlopes 126 = .ok (.aload_n 0, 1) := by decide +kernel
theorem dX12_findSlopes_127 : decode cX12_findSlopes 127 = .ok (.iload_n 3, 1) := by decide +kernel
theorem dX12_findSlopes_128 : decode cX12_findSlopes 128 = .ok (.iload 4, 2) := by decide +kernel
theorem dX12_findSlopes_130 : decode cX12_findSlopes 130 = .ok (.iload 5, 2) := by decide +kernel
theorem dX12_findSlopes_132 : decode cX12_findSlopes 132 = .ok (.invokevirtual 253, 3) := by decide +kernel
theorem dX12_findSlopes_135 : decode cX12_findSlopes 135 = .ok (.iinc 5 1, 3) := by decide +kernel
theorem dX12_findSlopes_138 : decode cX12_findSlopes 138 = .ok (.goto (-21), 3) := by decide +kernel
theorem dX12_findSlopes_141 : decode cX12_findSlopes 141 = .ok (.iconst 0, 1) := by decide +kernel
theorem dX12_findSlopes_142 : decode cX12_findSlopes 142 = .ok (.istore 5, 2) := by decide +kernel
theorem dX12_findSlopes_144 : decode cX12_findSlopes 144 = .ok (.iload 5, 2) := by decide +kernel
theorem dX12_findSlopes_146 : decode cX12_findSlopes 146 = .ok (.bipush 10, 2) := by decide +kernel
theorem dX12_findSlopes_148 : decode cX12_findSlopes 148 = .ok (.if_icmp .ge 23, 3) := by decide +kernel
theorem dX12_findSlopes_151 : decode cX12_findSlopes 151 = .ok (.aload_n 0, 1) := by decide +kernel
theorem dX12_findSlopes_152 : decode cX12_findSlopes 152 = .ok (.getfield 81, 3) := by decide +kernel
theorem dX12_findSlopes_155 : decode cX12_findSlopes 155 = .ok (.iload 5, 2) := by decide +kernel
theorem dX12_findSlopes_157 : decode cX12_findSlopes 157 = .ok (.aload_n 0, 1) := by decide +kernel
theorem dX12_findSlopes_158 : decode cX12_findSlopes 158 = .ok (.getfield 84, 3) := by decide +kernel
theorem dX12_findSlopes_161 : decode cX12_findSlopes 161 = .ok (.iload 5, 2) := by decide +kernel
theorem dX12_findSlopes_163 : decode cX12_findSlopes 163 = .ok (.iaload, 1) := by decide +kernel
theorem dX12_findSlopes_164 : decode cX12_findSlopes 164 = .ok (.iastore, 1) := by decide +kernel
theorem dX12_findSlopes_165 : decode cX12_findSlopes 165 = .ok (.iinc 5 1, 3) := by decide +kernel
theorem dX12_findSlopes_168 : decode cX12_findSlopes 168 = .ok (.goto (-24), 3) := by decide +kernel
theorem dX12_findSlopes_171 : decode cX12_findSlopes 171 = .ok (.iinc 3 (-1), 3) := by decide +kernel
theorem dX12_findSlopes_174 : decode cX12_findSlopes 174 = .ok (.goto (-104), 3) := by decide +kernel
theorem dX12_findSlopes_177 : decode cX12_findSlopes 177 = .ok (.iinc 2 (-1), 3) := by decide +kernel
theorem dX12_findSlopes_180 : decode cX12_findSlopes 180 = .ok (.goto (-126), 3) := by decide +kernel
theorem dX12_findSlopes_183 : decode cX12_findSlopes 183 = .ok (.return_, 1) := by decide +kernel
theorem dX12_slope_0 : decode cX12_slope 0 = .ok (.iload_n 1, 1) := by decide +kernel
theorem dX12_slope_1 : decode cX12_slope 1 = .ok (.iconst 0, 1) := by decide +kernel
theorem dX12_slope_2 : decode cX12_slope 2 = .ok (.iconst 2, 1) := by decide +kernel
theorem dX12_slope_3 : decode cX12_slope 3 = .ok (.invokestatic 121, 3) := by decide +kernel
theorem dX12_slope_6 : decode cX12_slope 6 = .ok (.ifCond .eq 26, 3) := by decide +kernel
theorem dX12_slope_9 : decode cX12_slope 9 = .ok (.iload_n 2, 1) := by decide +kernel
theorem dX12_slope_10 : decode cX12_slope 10 = .ok (.iconst 0, 1) := by decide +kernel
theorem dX12_slope_11 : decode cX12_slope 11 = .ok (.iload_n 1, 1) := by decide +kernel
theorem dX12_slope_12 : decode cX12_slope 12 = .ok (.iconst 2, 1) := by decide +kernel
theorem dX12_slope_13 : decode cX12_slope 13 = .ok (.if_icmp .ne 7, 3) := by decide +kernel
theorem dX12_slope_16 : decode cX12_slope 16 = .ok (.iconst 1, 1) := by decide +kernel
theorem dX12_slope_17 : decode cX12_slope 17 = .ok (.goto 9, 3) := by decide +kernel
theorem dX12_slope_20 : decode cX12_slope 20 = .ok (.aload_n 0, 1) := by decide +kernel
theorem dX12_slope_21 : decode cX12_slope 21 = .ok (.getfield 37, 3) := by decide +kernel
theorem dX12_slope_24 : decode cX12_slope 24 = .ok (.iconst 1, 1) := by decide +kernel
theorem dX12_slope_25 : decode cX12_slope 25 = .ok (.isub, 1) := by decide +kernel
theorem dX12_slope_26 : decode cX12_slope 26 = .ok (.invokestatic 121, 3) := by decide +kernel
theorem dX12_slope_29 : decode cX12_slope 29 = .ok (.ifCond .ne 8, 3) := by decide +kernel
theorem dX12_slope_32 : decode cX12_slope 32 = .ok (.iconst 1, 1) := by decide +kernel
theorem dX12_slope_33 : decode cX12_slope 33 = .ok (.invokestatic 129, 3) := by decide +kernel
theorem dX12_slope_36 : decode cX12_slope 36 = .ok (.lreturn, 1) := by decide +kernel
theorem dX12_slope_37 : decode cX12_slope 37 = .ok (.aload_n 0, 1) := by decide +kernel
theorem dX12_slope_38 : decode cX12_slope 38 = .ok (.invokevirtual 256, 3) := by decide +kernel
theorem dX12_slope_41 : decode cX12_slope 41 = .ok (.iload_n 1, 1) := by decide +kernel
theorem dX12_slope_42 : decode cX12_slope 42 = .ok (.ifCond .ne 13, 3) := by decide +kernel
theorem dX12_slope_45 : decode cX12_slope 45 = .ok (.aload_n 0, 1) := by decide +kernel
theorem dX12_slope_46 : decode cX12_slope 46 = .ok (.getfield 78, 3) := by decide +kernel
theorem dX12_slope_49 : decode cX12_slope 49 = .ok (.iload_n 2, 1) := by decide +kernel
theorem dX12_slope_50 : decode cX12_slope 50 = .ok (.iaload, 1) := by decide +kernel
theorem dX12_slope_51 : decode cX12_slope 51 = .ok (.i2l, 1) := by decide +kernel
theorem dX12_slope_52 : decode cX12_slope 52 = .ok (.goto 25, 3) := by decide +kernel
theorem dX12_slope_55 : decode cX12_slope 55 = .ok (.iload_n 1, 1) := by decide +kernel
theorem dX12_slope_56 : decode cX12_slope 56 = .ok (.iconst 1, 1) := by decide +kernel
theorem dX12_slope_57 : decode cX12_slope 57 = .ok (.if_icmp .ne 13, 3) := by decide +kernel
theorem dX12_slope_60 : decode cX12_slope 60 = .ok (.aload_n 0, 1) := by decide +kernel
theorem dX12_slope_61 : decode cX12_slope 61 = .ok (.getfield 81, 3) := by decide +kernel
theorem dX12_slope_64 : decode cX12_slope 64 = .ok (.iload_n 2, 1) := by decide +kernel
theorem dX12_slope_65 : decode cX12_slope 65 = .ok (.iaload, 1) := by decide +kernel
theorem dX12_slope_66 : decode cX12_slope 66 = .ok (.i2l, 1) := by decide +kernel
theorem dX12_slope_67 : decode cX12_slope 67 = .ok (.goto 10, 3) := by decide +kernel
theorem dX12_slope_70 : decode cX12_slope 70 = .ok (.aload_n 0, 1) := by decide +kernel
theorem dX12_slope_71 : decode cX12_slope 71 = .ok (.getfield 87, 3) := by decide +kernel
theorem dX12_slope_74 : decode cX12_slope 74 = .ok (.iload_n 2, 1) := by decide +kernel
theorem dX12_slope_75 : decode cX12_slope 75 = .ok (.iaload, 1) := by decide +kernel
theorem dX12_slope_76 : decode cX12_slope 76 = .ok (.i2l, 1) := by decide +kernel
theorem dX12_slope_77 : decode cX12_slope 77 = .ok (.lreturn, 1) := by decide +kernel
theorem dX12_push_0 : decode cX12_push 0 = .ok (.aload_n 0, 1) := by decide +kernel
theorem dX12_push_1 : decode cX12_push 1 = .ok (.iload_n 1, 1) := by decide +kernel
theorem dX12_push_2 : decode cX12_push 2 = .ok (.invokevirtual 196, 3) := by decide +kernel
theorem dX12_push_5 : decode cX12_push 5 = .ok (.ifCond .ne 8, 3) := by decide +kernel
theorem dX12_push_8 : decode cX12_push 8 = .ok (.iconst 1, 1) := by decide +kernel
theorem dX12_push_9 : decode cX12_push 9 = .ok (.invokestatic 129, 3) := by decide +kernel
theorem dX12_push_12 : decode cX12_push 12 = .ok (.lreturn, 1) := by decide +kernel
theorem dX12_push_13 : decode cX12_push 13 = .ok (.aload_n 0, 1) := by decide +kernel
theorem dX12_push_14 : decode cX12_push 14 = .ok (.invokevirtual 243, 3) := by decide +kernel
theorem dX12_push_17 : decode cX12_push 17 = .ok (.istore_n 3, 1) := by decide +kernel
theorem dX12_push_18 : decode cX12_push 18 = .ok (.aload_n 0, 1) := by decide +kernel
theorem dX12_push_19 : decode cX12_push 19 = .ok (.getfield 44, 3) := by decide +kernel
theorem dX12_push_22 : decode cX12_push 22 = .ok (.iload_n 1, 1) := by decide +kernel
theorem dX12_push_23 : decode cX12_push 23 = .ok (.dup2, 1) := by decide +kernel
theorem dX12_push_24 : decode cX12_push 24 = .ok (.iaload, 1) := by decide +kernel
theorem dX12_push_25 : decode cX12_push 25 = .ok (.iload_n 2, 1) := by decide +kernel
theorem dX12_push_26 : decode cX12_push 26 = .ok (.iadd, 1) := by decide +kernel
theorem dX12_push_27 : decode cX12_push 27 = .ok (.iastore, 1) := by decide +kernel
theorem dX12_push_28 : decode cX12_push 28 = .ok (.aload_n 0, 1) := by decide +kernel
theorem dX12_push_29 : decode cX12_push 29 = .ok (.invokevirtual 243, 3) := by decide +kernel
theorem dX12_push_32 : decode cX12_push 32 = .ok (.istore 4, 2) := by decide +kernel
theorem dX12_push_34 : decode cX12_push 34 = .ok (.aload_n 0, 1) := by decide +kernel
theorem dX12_push_35 : decode cX12_push 35 = .ok (.getfield 44, 3) := by decide +kernel
theorem dX12_push_38 : decode cX12_push 38 = .ok (.iload_n 1, 1) := by decide +kernel
theorem dX12_push_39 : decode cX12_push 39 = .ok (.dup2, 1) := by decide +kernel
theorem dX12_push_40 : decode cX12_push 40 = .ok (.iaload, 1) := by decide +kernel
theorem dX12_push_41 : decode cX12_push 41 = .ok (.iload_n 2, 1) := by decide +kernel
theorem dX12_push_42 : decode cX12_push 42 = .ok (.isub, 1) := by decide +kernel
theorem dX12_push_43 : decode cX12_push 43 = .ok (.iastore, 1) := by decide +kernel
theorem dX12_push_44 : decode cX12_push 44 = .ok (.iload 4, 2) := by decide +kernel
theorem dX12_push_46 : decode cX12_push 46 = .ok (.iload_n 3, 1) := by decide +kernel
theorem dX12_push_47 : decode cX12_push 47 = .ok (.isub, 1) := by decide +kernel
theorem dX12_push_48 : decode cX12_push 48 = .ok (.i2l, 1) := by decide +kernel
theorem dX12_push_49 : decode cX12_push 49 = .ok (.lreturn, 1) := by decide +kernel
theorem dX12_layFewest_0 : decode cX12_layFewest 0 = .ok (.iconst 1, 1) := by decide +kernel
theorem dX12_layFewest_1 : decode cX12_layFewest 1 = .ok (.istore_n 2, 1) := by decide +kernel
theorem dX12_layFewest_2 : decode cX12_layFewest 2 = .ok (.iload_n 2, 1) := by decide +kernel
theorem dX12_layFewest_3 : decode cX12_layFewest 3 = .ok (.iload_n 1, 1) := by decide +kernel
theorem dX12_layFewest_4 : decode cX12_layFewest 4 = .ok (.if_icmp .gt 148, 3) := by decide +kernel
theorem dX12_layFewest_7 : decode cX12_layFewest 7 = .ok (.iconst 0, 1) := by decide +kernel
theorem dX12_layFewest_8 : decode cX12_layFewest 8 = .ok (.istore_n 3, 1) := by decide +kernel
theorem dX12_layFewest_9 : decode cX12_layFewest 9 = .ok (.iload_n 3, 1) := by decide +kernel
theorem dX12_layFewest_10 : decode cX12_layFewest 10 = .ok (.bipush 7, 2) := by decide +kernel
theorem dX12_layFewest_12 : decode cX12_layFewest 12 = .ok (.if_icmp .ge 134, 3) := by decide +kernel
theorem dX12_layFewest_15 : decode cX12_layFewest 15 = .ok (.iload_n 2, 1) := by decide +kernel
theorem dX12_layFewest_16 : decode cX12_layFewest 16 = .ok (.iload_n 2, 1) := by decide +kernel
theorem dX12_layFewest_17 : decode cX12_layFewest 17 = .ok (.iconst 1, 1) := by decide +kernel
theorem dX12_layFewest_18 : decode cX12_layFewest 18 = .ok (.isub, 1) := by decide +kernel
theorem dX12_layFewest_19 : decode cX12_layFewest 19 = .ok (.imul, 1) := by decide +kernel
theorem dX12_layFewest_20 : decode cX12_layFewest 20 = .ok (.iconst 2, 1) := by decide +kernel
theorem dX12_layFewest_21 : decode cX12_layFewest 21 = .ok (.idiv, 1) := by decide +kernel
theorem dX12_layFewest_22 : decode cX12_layFewest 22 = .ok (.istore 4, 2) := by decide +kernel
theorem dX12_layFewest_24 : decode cX12_layFewest 24 = .ok (.ldc_w 259, 3) := by decide +kernel
theorem dX12_layFewest_27 : decode cX12_layFewest 27 = .ok (.istore 5, 2) := by decide +kernel
theorem dX12_layFewest_29 : decode cX12_layFewest 29 = .ok (.iconst 1, 1) := by decide +kernel
theorem dX12_layFewest_30 : decode cX12_layFewest 30 = .ok (.istore 6, 2) := by decide +kernel
theorem dX12_layFewest_32 : decode cX12_layFewest 32 = .ok (.iload 6, 2) := by decide +kernel
theorem dX12_layFewest_34 : decode cX12_layFewest 34 = .ok (.iload_n 2, 1) := by decide +kernel
theorem dX12_layFewest_35 : decode cX12_layFewest 35 = .ok (.if_icmp .ge 70, 3) := by decide +kernel
theorem dX12_layFewest_38 : decode cX12_layFewest 38 = .ok (.iload_n 3, 1) := by decide +kernel
theorem dX12_layFewest_39 : decode cX12_layFewest 39 = .ok (.ifCond .le 66, 3) := by decide +kernel
theorem dX12_layFewest_42 : decode cX12_layFewest 42 = .ok (.iload 6, 2) := by decide +kernel
theorem dX12_layFewest_44 : decode cX12_layFewest 44 = .ok (.aload_n 0, 1) := by decide +kernel
theorem dX12_layFewest_45 : decode cX12_layFewest 45 = .ok (.getfield 90, 3) := by decide +kernel
theorem dX12_layFewest_48 : decode cX12_layFewest 48 = .ok (.bipush 7, 2) := by decide +kernel
theorem dX12_layFewest_50 : decode cX12_layFewest 50 = .ok (.iload_n 2, 1) := by decide +kernel
theorem dX12_layFewest_51 : decode cX12_layFewest 51 = .ok (.iload 6, 2) := by decide +kernel
theorem dX12_layFewest_53 : decode cX12_layFewest 53 = .ok (.isub, 1) := by decide +kernel
theorem dX12_layFewest_54 : decode cX12_layFewest 54 = .ok (.imul, 1) := by decide +kernel
theorem dX12_layFewest_55 : decode cX12_layFewest 55 = .ok (.iload_n 3, 1) := by decide +kernel
theorem dX12_layFewest_56 : decode cX12_layFewest 56 = .ok (.iadd, 1) := by decide +kernel
theorem dX12_layFewest_57 : decode cX12_layFewest 57 = .ok (.iconst 1, 1) := by decide +kernel
theorem dX12_layFewest_58 : decode cX12_layFewest 58 = .ok (.isub, 1) := by decide +kernel
theorem dX12_layFewest_59 : decode cX12_layFewest 59 = .ok (.iaload, 1) := by decide +kernel
theorem dX12_layFewest_60 : decode cX12_layFewest 60 = .ok (.iadd, 1) := by decide +kernel
theorem dX12_layFewest_61 : decode cX12_layFewest 61 = .ok (.aload_n 0, 1) := by decide +kernel
theorem dX12_layFewest_62 : decode cX12_layFewest 62 = .ok (.getfield 90, 3) := by decide +kernel
theorem dX12_layFewest_65 : decode cX12_layFewest 65 = .ok (.bipush 7, 2) := by decide +kernel
theorem dX12_layFewest_67 : decode cX12_layFewest 67 = .ok (.iload 6, 2) := by decide +kernel
theorem dX12_layFewest_69 : decode cX12_layFewest 69 = .ok (.imul, 1) := by decide +kernel
theorem dX12_layFewest_70 : decode cX12_layFewest 70 = .ok (.iload_n 3, 1) := by decide +kernel
theorem dX12_layFewest_71 : decode cX12_layFewest 71 = .ok (.iadd, 1) := by decide +kernel
theorem dX12_layFewest_72 : decode cX12_layFewest 72 = .ok (.iaload, 1) := by decide +kernel
theorem dX12_layFewest_73 : decode cX12_layFewest 73 = .ok (.iadd, 1) := by decide +kernel
theorem dX12_layFewest_74 : decode cX12_layFewest 74 = .ok (.istore 7, 2) := by decide +kernel
theorem dX12_layFewest_76 : decode cX12_layFewest 76 = .ok (.iload 5, 2) := by decide +kernel
theorem dX12_layFewest_78 : decode cX12_layFewest 78 = .ok (.ldc_w 259, 3) := by decide +kernel
theorem dX12_layFewest_81 : decode cX12_layFewest 81 = .ok (.if_icmp .eq 10, 3) := by decide +kernel
theorem dX12_layFewest_84 : decode cX12_layFewest 84 = .ok (.iload 7, 2) := by decide +kernel
theorem dX12_layFewest_86 : decode cX12_layFewest 86 = .ok (.iload 4, 2) := by decide +kernel
theorem dX12_layFewest_88 : decode cX12_layFewest 88 = .ok (.if_icmp .ge 11, 3) := by decide +kernel
theorem dX12_layFewest_91 : decode cX12_layFewest 91 = .ok (.iload 7, 2) := by decide +kernel
theorem dX12_layFewest_93 : decode cX12_layFewest 93 = .ok (.istore 4, 2) := by decide +kernel
theorem dX12_layFewest_95 : decode cX12_layFewest 95 = .ok (.iload 6, 2) := by decide +kernel
theorem dX12_layFewest_97 : decode cX12_layFewest 97 = .ok (.istore 5, 2) := by decide +kernel
theorem dX12_layFewest_99 : decode cX12_layFewest 99 = .ok (.iinc 6 1, 3) := by decide +kernel
theorem dX12_layFewest_102 : decode cX12_layFewest 102 = .ok (.goto (-70), 3) := by decide +kernel
theorem dX12_layFewest_105 : decode cX12_layFewest 105 = .ok (.aload_n 0, 1) := by decide +kernel
theorem dX12_layFewest_106 : decode cX12_layFewest 106 = .ok (.getfield 90, 3) := by decide +kernel
theorem dX12_layFewest_109 : decode cX12_layFewest 109 = .ok (.bipush 7, 2) := by decide +kernel
theorem dX12_layFewest_111 : decode cX12_layFewest 111 = .ok (.iload_n 2, 1) := by decide +kernel
theorem dX12_layFewest_112 : decode cX12_layFewest 112 = .ok (.imul, 1) := by decide +kernel
theorem dX12_layFewest_113 : decode cX12_layFewest 113 = .ok (.iload_n 3, 1) := by decide +kernel
theorem dX12_layFewest_114 : decode cX12_layFewest 114 = .ok (.iadd, 1) := by decide +kernel
theorem dX12_layFewest_115 : decode cX12_layFewest 115 = .ok (.iload_n 2, 1) := by decide +kernel
theorem dX12_layFewest_116 : decode cX12_layFewest 116 = .ok (.iconst 1, 1) := by decide +kernel
theorem dX12_layFewest_117 : decode cX12_layFewest 117 = .ok (.if_icmp .ne 7, 3) := by decide +kernel
theorem dX12_layFewest_120 : decode cX12_layFewest 120 = .ok (.iconst 0, 1) := by decide +kernel
theorem dX12_layFewest_121 : decode cX12_layFewest 121 = .ok (.goto 5, 3) := by decide +kernel
theorem dX12_layFewest_124 : decode cX12_layFewest 124 = .ok (.iload 4, 2) := by decide +kernel
theorem dX12_layFewest_126 : decode cX12_layFewest 126 = .ok (.iastore, 1) := by decide +kernel
theorem dX12_layFewest_127 : decode cX12_layFewest 127 = .ok (.aload_n 0, 1) := by decide +kernel
theorem dX12_layFewest_128 : decode cX12_layFewest 128 = .ok (.getfield 93, 3) := by decide +kernel
theorem dX12_layFewest_131 : decode cX12_layFewest 131 = .ok (.bipush 7, 2) := by decide +kernel
theorem dX12_layFewest_133 : decode cX12_layFewest 133 = .ok (.iload_n 2, 1) := by decide +kernel
theorem dX12_layFewest_134 : decode cX12_layFewest 134 = .ok (.imul, 1) := by decide +kernel
theorem dX12_layFewest_135 : decode cX12_layFewest 135 = .ok (.iload_n 3, 1) := by decide +kernel
theorem dX12_layFewest_136 : decode cX12_layFewest 136 = .ok (.iadd, 1) := by decide +kernel
theorem dX12_layFewest_137 : decode cX12_layFewest 137 = .ok (.iload 5, 2) := by decide +kernel
theorem dX12_layFewest_139 : decode cX12_layFewest 139 = .ok (.iastore, 1) := by decide +kernel
theorem dX12_layFewest_140 : decode cX12_layFewest 140 = .ok (.iinc 3 1, 3) := by decide +kernel
theorem dX12_layFewest_143 : decode cX12_layFewest 143 = .ok (.goto (-134), 3) := by decide +kernel
theorem dX12_layFewest_146 : decode cX12_layFewest 146 = .ok (.iinc 2 1, 3) := by decide +kernel
theorem dX12_layFewest_149 : decode cX12_layFewest 149 = .ok (.goto (-147), 3) := by decide +kernel
theorem dX12_layFewest_152 : decode cX12_layFewest 152 = .ok (.return_, 1) := by decide +kernel
theorem dX12_again_0 : decode cX12_again 0 = .ok (.iload_n 1, 1) := by decide +kernel
theorem dX12_again_1 : decode cX12_again 1 = .ok (.iconst 1, 1) := by decide +kernel
theorem dX12_again_2 : decode cX12_again 2 = .ok (.bipush 40, 2) := by decide +kernel
theorem dX12_again_4 : decode cX12_again 4 = .ok (.invokestatic 121, 3) := by decide +kernel
theorem dX12_again_7 : decode cX12_again 7 = .ok (.ifCond .eq 22, 3) := by decide +kernel
theorem dX12_again_10 : decode cX12_again 10 = .ok (.iload_n 2, 1) := by decide +kernel
theorem dX12_again_11 : decode cX12_again 11 = .ok (.iconst 0, 1) := by decide +kernel
theorem dX12_again_12 : decode cX12_again 12 = .ok (.bipush 6, 2) := by decide +kernel
theorem dX12_again_14 : decode cX12_again 14 = .ok (.invokestatic 121, 3) := by decide +kernel
theorem dX12_again_17 : decode cX12_again 17 = .ok (.ifCond .eq 12, 3) := by decide +kernel
theorem dX12_again_20 : decode cX12_again 20 = .ok (.iload_n 3, 1) := by decide +kernel
theorem dX12_again_21 : decode cX12_again 21 = .ok (.iconst 0, 1) := by decide +kernel
theorem dX12_again_22 : decode cX12_again 22 = .ok (.iconst 1, 1) := by decide +kernel
theorem dX12_again_23 : decode cX12_again 23 = .ok (.invokestatic 121, 3) := by decide +kernel
theorem dX12_again_26 : decode cX12_again 26 = .ok (.ifCond .ne 8, 3) := by decide +kernel
theorem dX12_again_29 : decode cX12_again 29 = .ok (.iconst 1, 1) := by decide +kernel
theorem dX12_again_30 : decode cX12_again 30 = .ok (.invokestatic 129, 3) := by decide +kernel
theorem dX12_again_33 : decode cX12_again 33 = .ok (.lreturn, 1) := by decide +kernel
theorem dX12_again_34 : decode cX12_again 34 = .ok (.aload_n 0, 1) := by decide +kernel
theorem dX12_again_35 : decode cX12_again 35 = .ok (.iload_n 1, 1) := by decide +kernel
theorem dX12_again_36 : decode cX12_again 36 = .ok (.invokevirtual 260, 3) := by decide +kernel
theorem dX12_again_39 : decode cX12_again 39 = .ok (.iload_n 3, 1) := by decide +kernel
theorem dX12_again_40 : decode cX12_again 40 = .ok (.ifCond .ne 18, 3) := by decide +kernel
theorem dX12_again_43 : decode cX12_again 43 = .ok (.aload_n 0, 1) := by decide +kernel
theorem dX12_again_44 : decode cX12_again 44 = .ok (.getfield 90, 3) := by decide +kernel
theorem dX12_again_47 : decode cX12_again 47 = .ok (.bipush 7, 2) := by decide +kernel
theorem dX12_again_49 : decode cX12_again 49 = .ok (.iload_n 1, 1) := by decide +kernel
theorem dX12_again_50 : decode cX12_again 50 = .ok (.imul, 1) := by decide +kernel
theorem dX12_again_51 : decode cX12_again 51 = .ok (.iload_n 2, 1) := by decide +kernel
theorem dX12_again_52 : decode cX12_again 52 = .ok (.iadd, 1) := by decide +kernel
theorem dX12_again_53 : decode cX12_again 53 = .ok (.iaload, 1) := by decide +kernel
theorem dX12_again_54 : decode cX12_again 54 = .ok (.i2l, 1) := by decide +kernel
theorem dX12_again_55 : decode cX12_again 55 = .ok (.goto 15, 3) := by decide +kernel
theorem dX12_again_58 : decode cX12_again 58 = .ok (.aload_n 0, 1) := by decide +kernel
theorem dX12_again_59 : decode cX12_again 59 = .ok (.getfield 93, 3) := by decide +kernel
theorem dX12_again_62 : decode cX12_again 62 = .ok (.bipush 7, 2) := by decide +kernel
theorem dX12_again_64 : decode cX12_again 64 = .ok (.iload_n 1, 1) := by decide +kernel
theorem dX12_again_65 : decode cX12_again 65 = .ok (.imul, 1) := by decide +kernel
theorem dX12_again_66 : decode cX12_again 66 = .ok (.iload_n 2, 1) := by decide +kernel
theorem dX12_again_67 : decode cX12_again 67 = .ok (.iadd, 1) := by decide +kernel
theorem dX12_again_68 : decode cX12_again 68 = .ok (.iaload, 1) := by decide +kernel
theorem dX12_again_69 : decode cX12_again 69 = .ok (.i2l, 1) := by decide +kernel
theorem dX12_again_70 : decode cX12_again 70 = .ok (.lreturn, 1) := by decide +kernel
theorem dX12_isGreater_0 : decode cX12_isGreater 0 = .ok (.iload_n 0, 1) := by decide +kernel
theorem dX12_isGreater_1 : decode cX12_isGreater 1 = .ok (.ifCond .ge 9, 3) := by decide +kernel
theorem dX12_isGreater_4 : decode cX12_isGreater 4 = .ok (.iload_n 0, 1) := by decide +kernel
theorem dX12_isGreater_5 : decode cX12_isGreater 5 = .ok (.i2l, 1) := by decide +kernel
theorem dX12_isGreater_6 : decode cX12_isGreater 6 = .ok (.lneg, 1) := by decide +kernel
theorem dX12_isGreater_7 : decode cX12_isGreater 7 = .ok (.goto 5, 3) := by decide +kernel
theorem dX12_isGreater_10 : decode cX12_isGreater 10 = .ok (.iload_n 0, 1) := by decide +kernel
theorem dX12_isGreater_11 : decode cX12_isGreater 11 = .ok (.i2l, 1) := by decide +kernel
theorem dX12_isGreater_12 : decode cX12_isGreater 12 = .ok (.lstore_n 2, 1) := by decide +kernel
theorem dX12_isGreater_13 : decode cX12_isGreater 13 = .ok (.iload_n 1, 1) := by decide +kernel
theorem dX12_isGreater_14 : decode cX12_isGreater 14 = .ok (.ifCond .ge 9, 3) := by decide +kernel
theorem dX12_isGreater_17 : decode cX12_isGreater 17 = .ok (.iload_n 1, 1) := by decide +kernel
theorem dX12_isGreater_18 : decode cX12_isGreater 18 = .ok (.i2l, 1) := by decide +kernel
theorem dX12_isGreater_19 : decode cX12_isGreater 19 = .ok (.lneg, 1) := by decide +kernel
theorem dX12_isGreater_20 : decode cX12_isGreater 20 = .ok (.goto 5, 3) := by decide +kernel
theorem dX12_isGreater_23 : decode cX12_isGreater 23 = .ok (.iload_n 1, 1) := by decide +kernel
theorem dX12_isGreater_24 : decode cX12_isGreater 24 = .ok (.i2l, 1) := by decide +kernel
theorem dX12_isGreater_25 : decode cX12_isGreater 25 = .ok (.lstore 4, 2) := by decide +kernel
theorem dX12_isGreater_27 : decode cX12_isGreater 27 = .ok (.lload_n 2, 1) := by decide +kernel
theorem dX12_isGreater_28 : decode cX12_isGreater 28 = .ok (.lload 4, 2) := by decide +kernel
theorem dX12_isGreater_30 : decode cX12_isGreater 30 = .ok (.lcmp, 1) := by decide +kernel
theorem dX12_isGreater_31 : decode cX12_isGreater 31 = .ok (.ifCond .le 7, 3) := by decide +kernel
theorem dX12_isGreater_34 : decode cX12_isGreater 34 = .ok (.iconst 1, 1) := by decide +kernel
theorem dX12_isGreater_35 : decode cX12_isGreater 35 = .ok (.goto 4, 3) := by decide +kernel
theorem dX12_isGreater_38 : decode cX12_isGreater 38 = .ok (.iconst 0, 1) := by decide +kernel
theorem dX12_isGreater_39 : decode cX12_isGreater 39 = .ok (.ireturn, 1) := by decide +kernel
theorem dX12_steepest_0 : decode cX12_steepest 0 = .ok (.ldc_w 259, 3) := by decide +kernel
theorem dX12_steepest_3 : decode cX12_steepest 3 = .ok (.istore_n 1, 1) := by decide +kernel
theorem dX12_steepest_4 : decode cX12_steepest 4 = .ok (.iconst 0, 1) := by decide +kernel
theorem dX12_steepest_5 : decode cX12_steepest 5 = .ok (.istore_n 2, 1) := by decide +kernel
theorem dX12_steepest_6 : decode cX12_steepest 6 = .ok (.iload_n 2, 1) := by decide +kernel
theorem dX12_steepest_7 : decode cX12_steepest 7 = .ok (.aload_n 0, 1) := by decide +kernel
theorem dX12_steepest_8 : decode cX12_steepest 8 = .ok (.getfield 37, 3) := by decide +kernel
theorem dX12_steepest_11 : decode cX12_steepest 11 = .ok (.if_icmp .ge 54, 3) := by decide +kernel
theorem dX12_steepest_14 : decode cX12_steepest 14 = .ok (.aload_n 0, 1) := by decide +kernel
theorem dX12_steepest_15 : decode cX12_steepest 15 = .ok (.getfield 96, 3) := by decide +kernel
theorem dX12_steepest_18 : decode cX12_steepest 18 = .ok (.iload_n 2, 1) := by decide +kernel
theorem dX12_steepest_19 : decode cX12_steepest 19 = .ok (.baload, 1) := by decide +kernel
theorem dX12_steepest_20 : decode cX12_steepest 20 = .ok (.ifCond .ne 39, 3) := by decide +kernel
theorem dX12_steepest_23 : decode cX12_steepest 23 = .ok (.aload_n 0, 1) := by decide +kernel
theorem dX12_steepest_24 : decode cX12_steepest 24 = .ok (.getfield 99, 3) := by decide +kernel
theorem dX12_steepest_27 : decode cX12_steepest 27 = .ok (.iload_n 2, 1) := by decide +kernel
theorem dX12_steepest_28 : decode cX12_steepest 28 = .ok (.iaload, 1) := by decide +kernel
theorem dX12_steepest_29 : decode cX12_steepest 29 = .ok (.ifCond .eq 30, 3) := by decide +kernel
theorem dX12_steepest_32 : decode cX12_steepest 32 = .ok (.iload_n 1, 1) := by decide +kernel
theorem dX12_steepest_33 : decode cX12_steepest 33 = .ok (.ldc_w 259, 3) := by decide +kernel
theorem dX12_steepest_36 : decode cX12_steepest 36 = .ok (.if_icmp .eq 21, 3) := by decide +kernel
theorem dX12_steepest_39 : decode cX12_steepest 39 = .ok (.aload_n 0, 1) := by decide +kernel
theorem dX12_steepest_40 : decode cX12_steepest 40 = .ok (.getfield 99, 3) := by decide +kernel
theorem dX12_steepest_43 : decode cX12_steepest 43 = .ok (.iload_n 2, 1) := by decide +kernel
theorem dX12_steepest_44 : decode cX12_steepest 44 = .ok (.iaload, 1) := by decide +kernel
theorem dX12_steepest_45 : decode cX12_steepest 45 = .ok (.aload_n 0, 1) := by decide +kernel
theorem dX12_steepest_46 : decode cX12_steepest 46 = .ok (.getfield 99, 3) := by decide +kernel
theorem dX12_steepest_49 : decode cX12_steepest 49 = .ok (.iload_n 1, 1) := by decide +kernel
theorem dX12_steepest_50 : decode cX12_steepest 50 = .ok (.iaload, 1) := by decide +kernel
theorem dX12_steepest_51 : decode cX12_steepest 51 = .ok (.invokestatic 263, 3) := by decide +kernel
theorem dX12_steepest_54 : decode cX12_steepest 54 = .ok (.ifCond .eq 5, 3) := by decide +kernel
theorem dX12_steepest_57 : decode cX12_steepest 57 = .ok (.iload_n 2, 1) := by decide +kernel
theorem dX12_steepest_58 : decode cX12_steepest 58 = .ok (.istore_n 1, 1) := by decide +kernel
theorem dX12_steepest_59 : decode cX12_steepest 59 = .ok (.iinc 2 1, 3) := by decide +kernel
theorem dX12_steepest_62 : decode cX12_steepest 62 = .ok (.goto (-56), 3) := by decide +kernel
theorem dX12_steepest_65 : decode cX12_steepest 65 = .ok (.iload_n 1, 1) := by decide +kernel
theorem dX12_steepest_66 : decode cX12_steepest 66 = .ok (.ireturn, 1) := by decide +kernel
theorem dX12_move_0 : decode cX12_move 0 = .ok (.aload_n 0, 1) := by decide +kernel
theorem dX12_move_1 : decode cX12_move 1 = .ok (.invokevirtual 256, 3) := by decide +kernel
theorem dX12_move_4 : decode cX12_move 4 = .ok (.iconst 0, 1) := by decide +kernel
theorem dX12_move_5 : decode cX12_move 5 = .ok (.istore_n 1, 1) := by decide +kernel
theorem dX12_move_6 : decode cX12_move 6 = .ok (.iload_n 1, 1) := by decide +kernel
theorem dX12_move_7 : decode cX12_move 7 = .ok (.bipush 10, 2) := by decide +kernel
theorem dX12_move_9 : decode cX12_move 9 = .ok (.if_icmp .ge 28, 3) := by decide +kernel
theorem dX12_move_12 : decode cX12_move 12 = .ok (.aload_n 0, 1) := by decide +kernel
theorem dX12_move_13 : decode cX12_move 13 = .ok (.getfield 99, 3) := by decide +kernel
theorem dX12_move_16 : decode cX12_move 16 = .ok (.iload_n 1, 1) := by decide +kernel
theorem dX12_move_17 : decode cX12_move 17 = .ok (.aload_n 0, 1) := by decide +kernel
theorem dX12_move_18 : decode cX12_move 18 = .ok (.getfield 78, 3) := by decide +kernel
theorem dX12_move_21 : decode cX12_move 21 = .ok (.iload_n 1, 1) := by decide +kernel
theorem dX12_move_22 : decode cX12_move 22 = .ok (.iaload, 1) := by decide +kernel
theorem dX12_move_23 : decode cX12_move 23 = .ok (.iastore, 1) := by decide +kernel
theorem dX12_move_24 : decode cX12_move 24 = .ok (.aload_n 0, 1) := by decide +kernel
theorem dX12_move_25 : decode cX12_move 25 = .ok (.getfield 96, 3) := by decide +kernel
theorem dX12_move_28 : decode cX12_move 28 = .ok (.iload_n 1, 1) := by decide +kernel
theorem dX12_move_29 : decode cX12_move 29 = .ok (.iconst 0, 1) := by decide +kernel
theorem dX12_move_30 : decode cX12_move 30 = .ok (.bastore, 1) := by decide +kernel
theorem dX12_move_31 : decode cX12_move 31 = .ok (.iinc 1 1, 3) := by decide +kernel
theorem dX12_move_34 : decode cX12_move 34 = .ok (.goto (-28), 3) := by decide +kernel
theorem dX12_move_37 : decode cX12_move 37 = .ok (.aload_n 0, 1) := by decide +kernel
theorem dX12_move_38 : decode cX12_move 38 = .ok (.invokevirtual 243, 3) := by decide +kernel
theorem dX12_move_41 : decode cX12_move 41 = .ok (.istore_n 1, 1) := by decide +kernel
theorem dX12_move_42 : decode cX12_move 42 = .ok (.aload_n 0, 1) := by decide +kernel
theorem dX12_move_43 : decode cX12_move 43 = .ok (.invokevirtual 267, 3) := by decide +kernel
theorem dX12_move_46 : decode cX12_move 46 = .ok (.istore_n 2, 1) := by decide +kernel
theorem dX12_move_47 : decode cX12_move 47 = .ok (.iload_n 2, 1) := by decide +kernel
theorem dX12_move_48 : decode cX12_move 48 = .ok (.ldc_w 259, 3) := by decide +kernel
theorem dX12_move_51 : decode cX12_move 51 = .ok (.if_icmp .eq 80, 3) := by decide +kernel
theorem dX12_move_54 : decode cX12_move 54 = .ok (.aload_n 0, 1) := by decide +kernel
theorem dX12_move_55 : decode cX12_move 55 = .ok (.getfield 96, 3) := by decide +kernel
theorem dX12_move_58 : decode cX12_move 58 = .ok (.iload_n 2, 1) := by decide +kernel
theorem dX12_move_59 : decode cX12_move 59 = .ok (.iconst 1, 1) := by decide +kernel
theorem dX12_move_60 : decode cX12_move 60 = .ok (.bastore, 1) := by decide +kernel
theorem dX12_move_61 : decode cX12_move 61 = .ok (.aload_n 0, 1) := by decide +kernel
theorem dX12_move_62 : decode cX12_move 62 = .ok (.getfield 99, 3) := by decide +kernel
theorem dX12_move_65 : decode cX12_move 65 = .ok (.iload_n 2, 1) := by decide +kernel
theorem dX12_move_66 : decode cX12_move 66 = .ok (.iaload, 1) := by decide +kernel
theorem dX12_move_67 : decode cX12_move 67 = .ok (.ifCond .le 7, 3) := by decide +kernel
theorem dX12_move_70 : decode cX12_move 70 = .ok (.iconst (-1), 1) := by decide +kernel
theorem dX12_move_71 : decode cX12_move 71 = .ok (.goto 4, 3) := by decide +kernel
theorem dX12_move_74 : decode cX12_move 74 = .ok (.iconst 1, 1) := by decide +kernel
theorem dX12_move_75 : decode cX12_move 75 = .ok (.istore_n 3, 1) := by decide +kernel
theorem dX12_move_76 : decode cX12_move 76 = .ok (.aload_n 0, 1) := by decide +kernel
theorem dX12_move_77 : decode cX12_move 77 = .ok (.getfield 44, 3) := by decide +kernel
theorem dX12_move_80 : decode cX12_move 80 = .ok (.iload_n 2, 1) := by decide +kernel
theorem dX12_move_81 : decode cX12_move 81 = .ok (.iaload, 1) := by decide +kernel
theorem dX12_move_82 : decode cX12_move 82 = .ok (.iload_n 3, 1) := by decide +kernel
theorem dX12_move_83 : decode cX12_move 83 = .ok (.iadd, 1) := by decide +kernel
theorem dX12_move_84 : decode cX12_move 84 = .ok (.iconst 0, 1) := by decide +kernel
theorem dX12_move_85 : decode cX12_move 85 = .ok (.bipush 9, 2) := by decide +kernel
theorem dX12_move_87 : decode cX12_move 87 = .ok (.invokestatic 121, 3) := by decide +kernel
theorem dX12_move_90 : decode cX12_move 90 = .ok (.ifCond .eq 33, 3) := by decide +kernel
theorem dX12_move_93 : decode cX12_move 93 = .ok (.aload_n 0, 1) := by decide +kernel
theorem dX12_move_94 : decode cX12_move 94 = .ok (.getfield 44, 3) := by decide +kernel
theorem dX12_move_97 : decode cX12_move 97 = .ok (.iload_n 2, 1) := by decide +kernel
theorem dX12_move_98 : decode cX12_move 98 = .ok (.dup2, 1) := by decide +kernel
theorem dX12_move_99 : decode cX12_move 99 = .ok (.iaload, 1) := by decide +kernel
theorem dX12_move_100 : decode cX12_move 100 = .ok (.iload_n 3, 1) := by decide +kernel
theorem dX12_move_101 : decode cX12_move 101 = .ok (.iadd, 1) := by decide +kernel
theorem dX12_move_102 : decode cX12_move 102 = .ok (.iastore, 1) := by decide +kernel
theorem dX12_move_103 : decode cX12_move 103 = .ok (.aload_n 0, 1) := by decide +kernel
theorem dX12_move_104 : decode cX12_move 104 = .ok (.invokevirtual 243, 3) := by decide +kernel
theorem dX12_move_107 : decode cX12_move 107 = .ok (.iload_n 1, 1) := by decide +kernel
theorem dX12_move_108 : decode cX12_move 108 = .ok (.if_icmp .ge 5, 3) := by decide +kernel
theorem dX12_move_111 : decode cX12_move 111 = .ok (.iload_n 2, 1) := by decide +kernel
theorem dX12_move_112 : decode cX12_move 112 = .ok (.ireturn, 1) := by decide +kernel
theorem dX12_move_113 : decode cX12_move 113 = .ok (.aload_n 0, 1) := by decide +kernel
theorem dX12_move_114 : decode cX12_move 114 = .ok (.getfield 44, 3) := by decide +kernel
theorem dX12_move_117 : decode cX12_move 117 = .ok (.iload_n 2, 1) := by decide +kernel
theorem dX12_move_118 : decode cX12_move 118 = .ok (.dup2, 1) := by decide +kernel
theorem dX12_move_119 : decode cX12_move 119 = .ok (.iaload, 1) := by decide +kernel
theorem dX12_move_120 : decode cX12_move 120 = .ok (.iload_n 3, 1) := by decide +kernel
theorem dX12_move_121 : decode cX12_move 121 = .ok (.isub, 1) := by decide +kernel
theorem dX12_move_122 : decode cX12_move 122 = .ok (.iastore, 1) := by decide +kernel
theorem dX12_move_123 : decode cX12_move 123 = .ok (.aload_n 0, 1) := by decide +kernel
theorem dX12_move_124 : decode cX12_move 124 = .ok (.invokevirtual 267, 3) := by decide +kernel
theorem dX12_move_127 : decode cX12_move 127 = .ok (.istore_n 2, 1) := by decide +kernel
theorem dX12_move_128 : decode cX12_move 128 = .ok (.goto (-81), 3) := by decide +kernel
theorem dX12_move_131 : decode cX12_move 131 = .ok (.ldc_w 259, 3) := by decide +kernel
theorem dX12_move_134 : decode cX12_move 134 = .ok (.ireturn, 1) := by decide +kernel
theorem dX12_rest_0 : decode cX12_rest 0 = .ok (.aload_n 0, 1) := by decide +kernel
theorem dX12_rest_1 : decode cX12_rest 1 = .ok (.invokevirtual 243, 3) := by decide +kernel
theorem dX12_rest_4 : decode cX12_rest 4 = .ok (.istore_n 1, 1) := by decide +kernel
theorem dX12_rest_5 : decode cX12_rest 5 = .ok (.iconst 0, 1) := by decide +kernel
theorem dX12_rest_6 : decode cX12_rest 6 = .ok (.istore_n 2, 1) := by decide +kernel
theorem dX12_rest_7 : decode cX12_rest 7 = .ok (.iload_n 2, 1) := by decide +kernel
theorem dX12_rest_8 : decode cX12_rest 8 = .ok (.aload_n 0, 1) := by decide +kernel
theorem dX12_rest_9 : decode cX12_rest 9 = .ok (.getfield 37, 3) := by decide +kernel
theorem dX12_rest_12 : decode cX12_rest 12 = .ok (.if_icmp .ge 76, 3) := by decide +kernel
theorem dX12_rest_15 : decode cX12_rest 15 = .ok (.iconst (-1), 1) := by decide +kernel
theorem dX12_rest_16 : decode cX12_rest 16 = .ok (.istore_n 3, 1) := by decide +kernel
theorem dX12_rest_17 : decode cX12_rest 17 = .ok (.iload_n 3, 1) := by decide +kernel
theorem dX12_rest_18 : decode cX12_rest 18 = .ok (.iconst 2, 1) := by decide +kernel
theorem dX12_rest_19 : decode cX12_rest 19 = .ok (.if_icmp .ge 63, 3) := by decide +kernel
theorem dX12_rest_22 : decode cX12_rest 22 = .ok (.aload_n 0, 1) := by decide +kernel
theorem dX12_rest_23 : decode cX12_rest 23 = .ok (.getfield 44, 3) := by decide +kernel
theorem dX12_rest_26 : decode cX12_rest 26 = .ok (.iload_n 2, 1) := by decide +kernel
theorem dX12_rest_27 : decode cX12_rest 27 = .ok (.iaload, 1) := by decide +kernel
theorem dX12_rest_28 : decode cX12_rest 28 = .ok (.iload_n 3, 1) := by decide +kernel
theorem dX12_rest_29 : decode cX12_rest 29 = .ok (.iadd, 1) := by decide +kernel
theorem dX12_rest_30 : decode cX12_rest 30 = .ok (.iconst 0, 1) := by decide +kernel
theorem dX12_rest_31 : decode cX12_rest 31 = .ok (.bipush 9, 2) := by decide +kernel
theorem dX12_rest_33 : decode cX12_rest 33 = .ok (.invokestatic 121, 3) := by decide +kernel
theorem dX12_rest_36 : decode cX12_rest 36 = .ok (.ifCond .ne 6, 3) := by decide +kernel
theorem dX12_rest_39 : decode cX12_rest 39 = .ok (.goto 37, 3) := by decide +kernel
theorem dX12_rest_42 : decode cX12_rest 42 = .ok (.aload_n 0, 1) := by decide +kernel
theorem dX12_rest_43 : decode cX12_rest 43 = .ok (.getfield 44, 3) := by decide +kernel
theorem dX12_rest_46 : decode cX12_rest 46 = .ok (.iload_n 2, 1) := by decide +kernel
theorem dX12_rest_47 : decode cX12_rest 47 = .ok (.dup2, 1) := by decide +kernel
theorem dX12_rest_48 : decode cX12_rest 48 = .ok (.iaload, 1) := by decide +kernel
theorem dX12_rest_49 : decode cX12_rest 49 = .ok (.iload_n 3, 1) := by decide +kernel
theorem dX12_rest_50 : decode cX12_rest 50 = .ok (.iadd, 1) := by decide +kernel
theorem dX12_rest_51 : decode cX12_rest 51 = .ok (.iastore, 1) := by decide +kernel
theorem dX12_rest_52 : decode cX12_rest 52 = .ok (.aload_n 0, 1) := by decide +kernel
theorem dX12_rest_53 : decode cX12_rest 53 = .ok (.invokevirtual 243, 3) := by decide +kernel
theorem dX12_rest_56 : decode cX12_rest 56 = .ok (.istore 4, 2) := by decide +kernel
theorem dX12_rest_58 : decode cX12_rest 58 = .ok (.aload_n 0, 1) := by decide +kernel
theorem dX12_rest_59 : decode cX12_rest 59 = .ok (.getfield 44, 3) := by decide +kernel
theorem dX12_rest_62 : decode cX12_rest 62 = .ok (.iload_n 2, 1) := by decide +kernel
theorem dX12_rest_63 : decode cX12_rest 63 = .ok (.dup2, 1) := by decide +kernel
theorem dX12_rest_64 : decode cX12_rest 64 = .ok (.iaload, 1) := by decide +kernel
theorem dX12_rest_65 : decode cX12_rest 65 = .ok (.iload_n 3, 1) := by decide +kernel
theorem dX12_rest_66 : decode cX12_rest 66 = .ok (.isub, 1) := by decide +kernel
theorem dX12_rest_67 : decode cX12_rest 67 = .ok (.iastore, 1) := by decide +kernel
theorem dX12_rest_68 : decode cX12_rest 68 = .ok (.iload 4, 2) := by decide +kernel
theorem dX12_rest_70 : decode cX12_rest 70 = .ok (.iload_n 1, 1) := by decide +kernel
theorem dX12_rest_71 : decode cX12_rest 71 = .ok (.if_icmp .ge 5, 3) := by decide +kernel
theorem dX12_rest_74 : decode cX12_rest 74 = .ok (.iconst 0, 1) := by decide +kernel
theorem dX12_rest_75 : decode cX12_rest 75 = .ok (.ireturn, 1) := by decide +kernel
theorem dX12_rest_76 : decode cX12_rest 76 = .ok (.iinc 3 2, 3) := by decide +kernel
theorem dX12_rest_79 : decode cX12_rest 79 = .ok (.goto (-62), 3) := by decide +kernel
theorem dX12_rest_82 : decode cX12_rest 82 = .ok (.iinc 2 1, 3) := by decide +kernel
theorem dX12_rest_85 : decode cX12_rest 85 = .ok (.goto (-78), 3) := by decide +kernel
theorem dX12_rest_88 : decode cX12_rest 88 = .ok (.iconst 1, 1) := by decide +kernel
theorem dX12_rest_89 : decode cX12_rest 89 = .ok (.ireturn, 1) := by decide +kernel
theorem dX12_keep_0 : decode cX12_keep 0 = .ok (.aload_n 0, 1) := by decide +kernel
theorem dX12_keep_1 : decode cX12_keep 1 = .ok (.getfield 270, 3) := by decide +kernel
theorem dX12_keep_4 : decode cX12_keep 4 = .ok (.bipush 6, 2) := by decide +kernel
theorem dX12_keep_6 : decode cX12_keep 6 = .ok (.if_icmp .ne 8, 3) := by decide +kernel
theorem dX12_keep_9 : decode cX12_keep 9 = .ok (.iconst 3, 1) := by decide +kernel
theorem dX12_keep_10 : decode cX12_keep 10 = .ok (.invokestatic 129, 3) := by decide +kernel
theorem dX12_keep_13 : decode cX12_keep 13 = .ok (.lreturn, 1) := by decide +kernel
theorem dX12_keep_14 : decode cX12_keep 14 = .ok (.aload_n 0, 1) := by decide +kernel
theorem dX12_keep_15 : decode cX12_keep 15 = .ok (.getfield 105, 3) := by decide +kernel
theorem dX12_keep_18 : decode cX12_keep 18 = .ok (.aload_n 0, 1) := by decide +kernel
theorem dX12_keep_19 : decode cX12_keep 19 = .ok (.getfield 270, 3) := by decide +kernel
theorem dX12_keep_22 : decode cX12_keep 22 = .ok (.aload_n 0, 1) := by decide +kernel
theorem dX12_keep_23 : decode cX12_keep 23 = .ok (.getfield 37, 3) := by decide +kernel
theorem dX12_keep_26 : decode cX12_keep 26 = .ok (.iastore, 1) := by decide +kernel
theorem dX12_keep_27 : decode cX12_keep 27 = .ok (.iconst 0, 1) := by decide +kernel
theorem dX12_keep_28 : decode cX12_keep 28 = .ok (.istore_n 1, 1) := by decide +kernel
theorem dX12_keep_29 : decode cX12_keep 29 = .ok (.iload_n 1, 1) := by decide +kernel
theorem dX12_keep_30 : decode cX12_keep 30 = .ok (.bipush 10, 2) := by decide +kernel
theorem dX12_keep_32 : decode cX12_keep 32 = .ok (.if_icmp .ge 29, 3) := by decide +kernel
theorem dX12_keep_35 : decode cX12_keep 35 = .ok (.aload_n 0, 1) := by decide +kernel
theorem dX12_keep_36 : decode cX12_keep 36 = .ok (.getfield 102, 3) := by decide +kernel
theorem dX12_keep_39 : decode cX12_keep 39 = .ok (.bipush 10, 2) := by decide +kernel
theorem dX12_keep_41 : decode cX12_keep 41 = .ok (.aload_n 0, 1) := by decide +kernel
theorem dX12_keep_42 : decode cX12_keep 42 = .ok (.getfield 270, 3) := by decide +kernel
theorem dX12_keep_45 : decode cX12_keep 45 = .ok (.imul, 1) := by decide +kernel
theorem dX12_keep_46 : decode cX12_keep 46 = .ok (.iload_n 1, 1) := by decide +kernel
theorem dX12_keep_47 : decode cX12_keep 47 = .ok (.iadd, 1) := by decide +kernel
theorem dX12_keep_48 : decode cX12_keep 48 = .ok (.aload_n 0, 1) := by decide +kernel
theorem dX12_keep_49 : decode cX12_keep 49 = .ok (.getfield 44, 3) := by decide +kernel
theorem dX12_keep_52 : decode cX12_keep 52 = .ok (.iload_n 1, 1) := by decide +kernel
theorem dX12_keep_53 : decode cX12_keep 53 = .ok (.iaload, 1) := by decide +kernel
theorem dX12_keep_54 : decode cX12_keep 54 = .ok (.iastore, 1) := by decide +kernel
theorem dX12_keep_55 : decode cX12_keep 55 = .ok (.iinc 1 1, 3) := by decide +kernel
theorem dX12_keep_58 : decode cX12_keep 58 = .ok (.goto (-29), 3) := by decide +kernel
theorem dX12_keep_61 : decode cX12_keep 61 = .ok (.aload_n 0, 1) := by decide +kernel
theorem dX12_keep_62 : decode cX12_keep 62 = .ok (.dup, 1) := by decide +kernel
theorem dX12_keep_63 : decode cX12_keep 63 = .ok (.getfield 270, 3) := by decide +kernel
theorem dX12_keep_66 : decode cX12_keep 66 = .ok (.iconst 1, 1) := by decide +kernel
theorem dX12_keep_67 : decode cX12_keep 67 = .ok (.iadd, 1) := by decide +kernel
theorem dX12_keep_68 : decode cX12_keep 68 = .ok (.putfield 270, 3) := by decide +kernel
theorem dX12_keep_71 : decode cX12_keep 71 = .ok (.aload_n 0, 1) := by decide +kernel
theorem dX12_keep_72 : decode cX12_keep 72 = .ok (.getfield 270, 3) := by decide +kernel
theorem dX12_keep_75 : decode cX12_keep 75 = .ok (.iconst 1, 1) := by decide +kernel
theorem dX12_keep_76 : decode cX12_keep 76 = .ok (.isub, 1) := by decide +kernel
theorem dX12_keep_77 : decode cX12_keep 77 = .ok (.i2l, 1) := by decide +kernel
theorem dX12_keep_78 : decode cX12_keep 78 = .ok (.lreturn, 1) := by decide +kernel
theorem dX12_isStripping_0 : decode cX12_isStripping 0 = .ok (.iload_n 1, 1) := by decide +kernel
theorem dX12_isStripping_1 : decode cX12_isStripping 1 = .ok (.iconst 0, 1) := by decide +kernel
theorem dX12_isStripping_2 : decode cX12_isStripping 2 = .ok (.aload_n 0, 1) := by decide +kernel
theorem dX12_isStripping_3 : decode cX12_isStripping 3 = .ok (.getfield 270, 3) := by decide +kernel
theorem dX12_isStripping_6 : decode cX12_isStripping 6 = .ok (.iconst 1, 1) := by decide +kernel
theorem dX12_isStripping_7 : decode cX12_isStripping 7 = .ok (.isub, 1) := by decide +kernel
theorem dX12_isStripping_8 : decode cX12_isStripping 8 = .ok (.invokestatic 121, 3) := by decide +kernel
theorem dX12_isStripping_11 : decode cX12_isStripping 11 = .ok (.ireturn, 1) := by decide +kernel
theorem dX12_layStripping_0 : decode cX12_layStripping 0 = .ok (.iconst 0, 1) := by decide +kernel
theorem dX12_layStripping_1 : decode cX12_layStripping 1 = .ok (.istore_n 2, 1) := by decide +kernel
theorem dX12_layStripping_2 : decode cX12_layStripping 2 = .ok (.iload_n 2, 1) := by decide +kernel
theorem dX12_layStripping_3 : decode cX12_layStripping 3 = .ok (.aload_n 0, 1) := by decide +kernel
theorem dX12_layStripping_4 : decode cX12_layStripping 4 = .ok (.getfield 37, 3) := by decide +kernel
theorem dX12_layStripping_7 : decode cX12_layStripping 7 = .ok (.if_icmp .ge 26, 3) := by decide +kernel
theorem dX12_layStripping_10 : decode cX12_layStripping 10 = .ok (.aload_n 0, 1) := by decide +kernel
theorem dX12_layStripping_11 : decode cX12_layStripping 11 = .ok (.getfield 44, 3) := by decide +kernel
theorem dX12_layStripping_14 : decode cX12_layStripping 14 = .ok (.iload_n 2, 1) := by decide +kernel
theorem dX12_layStripping_15 : decode cX12_layStripping 15 = .ok (.aload_n 0, 1) := by decide +kernel
theorem dX12_layStripping_16 : decode cX12_layStripping 16 = .ok (.getfield 102, 3) := by decide +kernel
theorem dX12_layStripping_19 : decode cX12_layStripping 19 = .ok (.bipush 10, 2) := by decide +kernel
theorem dX12_layStripping_21 : decode cX12_layStripping 21 = .ok (.iload_n 1, 1) := by decide +kernel
theorem dX12_layStripping_22 : decode cX12_layStripping 22 = .ok (.imul, 1) := by decide +kernel
theorem dX12_layStripping_23 : decode cX12_layStripping 23 = .ok (.iload_n 2, 1) := by decide +kernel
theorem dX12_layStripping_24 : decode cX12_layStripping 24 = .ok (.iadd, 1) := by decide +kernel
theorem dX12_layStripping_25 : decode cX12_layStripping 25 = .ok (.iaload, 1) := by decide +kernel
theorem dX12_layStripping_26 : decode cX12_layStripping 26 = .ok (.iastore, 1) := by decide +kernel
theorem dX12_layStripping_27 : decode cX12_layStripping 27 = .ok (.iinc 2 1, 3) := by decide +kernel
theorem dX12_layStripping_30 : decode cX12_layStripping 30 = .ok (.goto (-28), 3) := by decide +kernel
theorem dX12_layStripping_33 : decode cX12_layStripping 33 = .ok (.return_, 1) := by decide +kernel
theorem dX12_lay_0 : decode cX12_lay 0 = .ok (.aload_n 0, 1) := by decide +kernel
theorem dX12_lay_1 : decode cX12_lay 1 = .ok (.iload_n 1, 1) := by decide +kernel
theorem dX12_lay_2 : decode cX12_lay 2 = .ok (.invokevirtual 273, 3) := by decide +kernel
theorem dX12_lay_5 : decode cX12_lay 5 = .ok (.ifCond .ne 8, 3) := by decide +kernel
theorem dX12_lay_8 : decode cX12_lay 8 = .ok (.iconst 1, 1) := by decide +kernel
theorem dX12_lay_9 : decode cX12_lay 9 = .ok (.invokestatic 129, 3) := by decide +kernel
theorem dX12_lay_12 : decode cX12_lay 12 = .ok (.lreturn, 1) := by decide +kernel
theorem dX12_lay_13 : decode cX12_lay 13 = .ok (.aload_n 0, 1) := by decide +kernel
theorem dX12_lay_14 : decode cX12_lay 14 = .ok (.getfield 105, 3) := by decide +kernel
theorem dX12_lay_17 : decode cX12_lay 17 = .ok (.iload_n 1, 1) := by decide +kernel
theorem dX12_lay_18 : decode cX12_lay 18 = .ok (.iaload, 1) := by decide +kernel
theorem dX12_lay_19 : decode cX12_lay 19 = .ok (.aload_n 0, 1) := by decide +kernel
theorem dX12_lay_20 : decode cX12_lay 20 = .ok (.getfield 37, 3) := by decide +kernel
theorem dX12_lay_23 : decode cX12_lay 23 = .ok (.if_icmp .eq 8, 3) := by decide +kernel
theorem dX12_lay_26 : decode cX12_lay 26 = .ok (.iconst 2, 1) := by decide +kernel
theorem dX12_lay_27 : decode cX12_lay 27 = .ok (.invokestatic 129, 3) := by decide +kernel
theorem dX12_lay_30 : decode cX12_lay 30 = .ok (.lreturn, 1) := by decide +kernel
theorem dX12_lay_31 : decode cX12_lay 31 = .ok (.aload_n 0, 1) := by decide +kernel
theorem dX12_lay_32 : decode cX12_lay 32 = .ok (.iload_n 1, 1) := by decide +kernel
theorem dX12_lay_33 : decode cX12_lay 33 = .ok (.invokevirtual 276, 3) := by decide +kernel
theorem dX12_lay_36 : decode cX12_lay 36 = .ok (.lconst 1, 1) := by decide +kernel
theorem dX12_lay_37 : decode cX12_lay 37 = .ok (.lreturn, 1) := by decide +kernel
theorem dX12_apart_0 : decode cX12_apart 0 = .ok (.aload_n 0, 1) := by decide +kernel
theorem dX12_apart_1 : decode cX12_apart 1 = .ok (.iload_n 1, 1) := by decide +kernel
theorem dX12_apart_2 : decode cX12_apart 2 = .ok (.invokevirtual 273, 3) := by decide +kernel
theorem dX12_apart_5 : decode cX12_apart 5 = .ok (.ifCond .eq 11, 3) := by decide +kernel
theorem dX12_apart_8 : decode cX12_apart 8 = .ok (.aload_n 0, 1) := by decide +kernel
theorem dX12_apart_9 : decode cX12_apart 9 = .ok (.iload_n 2, 1) := by decide +kernel
theorem dX12_apart_10 : decode cX12_apart 10 = .ok (.invokevirtual 273, 3) := by decide +kernel
theorem dX12_apart_13 : decode cX12_apart 13 = .ok (.ifCond .ne 8, 3) := by decide +kernel
theorem dX12_apart_16 : decode cX12_apart 16 = .ok (.iconst 1, 1) := by decide +kernel
theorem dX12_apart_17 : decode cX12_apart 17 = .ok (.invokestatic 129, 3) := by decide +kernel
theorem dX12_apart_20 : decode cX12_apart 20 = .ok (.lreturn, 1) := by decide +kernel
theorem dX12_apart_21 : decode cX12_apart 21 = .ok (.aload_n 0, 1) := by decide +kernel
theorem dX12_apart_22 : decode cX12_apart 22 = .ok (.getfield 105, 3) := by decide +kernel
theorem dX12_apart_25 : decode cX12_apart 25 = .ok (.iload_n 1, 1) := by decide +kernel
theorem dX12_apart_26 : decode cX12_apart 26 = .ok (.iaload, 1) := by decide +kernel
theorem dX12_apart_27 : decode cX12_apart 27 = .ok (.aload_n 0, 1) := by decide +kernel
theorem dX12_apart_28 : decode cX12_apart 28 = .ok (.getfield 37, 3) := by decide +kernel
theorem dX12_apart_31 : decode cX12_apart 31 = .ok (.if_icmp .ne 16, 3) := by decide +kernel
theorem dX12_apart_34 : decode cX12_apart 34 = .ok (.aload_n 0, 1) := by decide +kernel
theorem dX12_apart_35 : decode cX12_apart 35 = .ok (.getfield 105, 3) := by decide +kernel
theorem dX12_apart_38 : decode cX12_apart 38 = .ok (.iload_n 2, 1) := by decide +kernel
theorem dX12_apart_39 : decode cX12_apart 39 = .ok (.iaload, 1) := by decide +kernel
theorem dX12_apart_40 : decode cX12_apart 40 = .ok (.aload_n 0, 1) := by decide +kernel
theorem dX12_apart_41 : decode cX12_apart 41 = .ok (.getfield 37, 3) := by decide +kernel
theorem dX12_apart_44 : decode cX12_apart 44 = .ok (.if_icmp .eq 8, 3) := by decide +kernel
theorem dX12_apart_47 : decode cX12_apart 47 = .ok (.iconst 2, 1) := by decide +kernel
theorem dX12_apart_48 : decode cX12_apart 48 = .ok (.invokestatic 129, 3) := by decide +kernel
theorem dX12_apart_51 : decode cX12_apart 51 = .ok (.lreturn, 1) := by decide +kernel
theorem dX12_apart_52 : decode cX12_apart 52 = .ok (.aload_n 0, 1) := by decide +kernel
theorem dX12_apart_53 : decode cX12_apart 53 = .ok (.invokevirtual 240, 3) := by decide +kernel
theorem dX12_apart_56 : decode cX12_apart 56 = .ok (.istore_n 3, 1) := by decide +kernel
theorem dX12_apart_57 : decode cX12_apart 57 = .ok (.iconst 0, 1) := by decide +kernel
theorem dX12_apart_58 : decode cX12_apart 58 = .ok (.istore 4, 2) := by decide +kernel
theorem dX12_apart_60 : decode cX12_apart 60 = .ok (.iload 4, 2) := by decide +kernel
theorem dX12_apart_62 : decode cX12_apart 62 = .ok (.bipush 10, 2) := by decide +kernel
theorem dX12_apart_64 : decode cX12_apart 64 = .ok (.if_icmp .ge 23, 3) := by decide +kernel
theorem dX12_apart_67 : decode cX12_apart 67 = .ok (.aload_n 0, 1) := by decide +kernel
theorem dX12_apart_68 : decode cX12_apart 68 = .ok (.getfield 99, 3) := by decide +kernel
theorem dX12_apart_71 : decode cX12_apart 71 = .ok (.iload 4, 2) := by decide +kernel
theorem dX12_apart_73 : decode cX12_apart 73 = .ok (.aload_n 0, 1) := by decide +kernel
theorem dX12_apart_74 : decode cX12_apart 74 = .ok (.getfield 44, 3) := by decide +kernel
theorem dX12_apart_77 : decode cX12_apart 77 = .ok (.iload 4, 2) := by decide +kernel
theorem dX12_apart_79 : decode cX12_apart 79 = .ok (.iaload, 1) := by decide +kernel
theorem dX12_apart_80 : decode cX12_apart 80 = .ok (.iastore, 1) := by decide +kernel
theorem dX12_apart_81 : decode cX12_apart 81 = .ok (.iinc 4 1, 3) := by decide +kernel
theorem dX12_apart_84 : decode cX12_apart 84 = .ok (.goto (-24), 3) := by decide +kernel
theorem dX12_apart_87 : decode cX12_apart 87 = .ok (.aload_n 0, 1) := by decide +kernel
theorem dX12_apart_88 : decode cX12_apart 88 = .ok (.iload_n 1, 1) := by decide +kernel
theorem dX12_apart_89 : decode cX12_apart 89 = .ok (.invokevirtual 276, 3) := by decide +kernel
theorem dX12_apart_92 : decode cX12_apart 92 = .ok (.aload_n 0, 1) := by decide +kernel
theorem dX12_apart_93 : decode cX12_apart 93 = .ok (.iload_n 3, 1) := by decide +kernel
theorem dX12_apart_94 : decode cX12_apart 94 = .ok (.invokevirtual 228, 3) := by decide +kernel
theorem dX12_apart_97 : decode cX12_apart 97 = .ok (.iconst 0, 1) := by decide +kernel
theorem dX12_apart_98 : decode cX12_apart 98 = .ok (.istore 4, 2) := by decide +kernel
theorem dX12_apart_100 : decode cX12_apart 100 = .ok (.iload 4, 2) := by decide +kernel
theorem dX12_apart_102 : decode cX12_apart 102 = .ok (.iload_n 3, 1) := by decide +kernel
theorem dX12_apart_103 : decode cX12_apart 103 = .ok (.if_icmp .gt 48, 3) := by decide +kernel
theorem dX12_apart_106 : decode cX12_apart 106 = .ok (.iconst 0, 1) := by decide +kernel
theorem dX12_apart_107 : decode cX12_apart 107 = .ok (.istore 5, 2) := by decide +kernel
theorem dX12_apart_109 : decode cX12_apart 109 = .ok (.iload 5, 2) := by decide +kernel
theorem dX12_apart_111 : decode cX12_apart 111 = .ok (.aload_n 0, 1) := by decide +kernel
theorem dX12_apart_112 : decode cX12_apart 112 = .ok (.getfield 37, 3) := by decide +kernel
theorem dX12_apart_115 : decode cX12_apart 115 = .ok (.if_icmp .ge 30, 3) := by decide +kernel
theorem dX12_apart_118 : decode cX12_apart 118 = .ok (.aload_n 0, 1) := by decide +kernel
theorem dX12_apart_119 : decode cX12_apart 119 = .ok (.getfield 108, 3) := by decide +kernel
theorem dX12_apart_122 : decode cX12_apart 122 = .ok (.bipush 10, 2) := by decide +kernel
theorem dX12_apart_124 : decode cX12_apart 124 = .ok (.iload 4, 2) := by decide +kernel
theorem dX12_apart_126 : decode cX12_apart 126 = .ok (.imul, 1) := by decide +kernel
theorem dX12_apart_127 : decode cX12_apart 127 = .ok (.iload 5, 2) := by decide +kernel
theorem dX12_apart_129 : decode cX12_apart 129 = .ok (.iadd, 1) := by decide +kernel
theorem dX12_apart_130 : decode cX12_apart 130 = .ok (.aload_n 0, 1) := by decide +kernel
theorem dX12_apart_131 : decode cX12_apart 131 = .ok (.iload 4, 2) := by decide +kernel
theorem dX12_apart_133 : decode cX12_apart 133 = .ok (.iload 5, 2) := by decide +kernel
theorem dX12_apart_135 : decode cX12_apart 135 = .ok (.invokevirtual 231, 3) := by decide +kernel
theorem dX12_apart_138 : decode cX12_apart 138 = .ok (.iastore, 1) := by decide +kernel
theorem dX12_apart_139 : decode cX12_apart 139 = .ok (.iinc 5 1, 3) := by decide +kernel
theorem dX12_apart_142 : decode cX12_apart 142 = .ok (.goto (-33), 3) := by decide +kernel
theorem dX12_apart_145 : decode cX12_apart 145 = .ok (.iinc 4 1, 3) := by decide +kernel
theorem dX12_apart_148 : decode cX12_apart 148 = .ok (.goto (-48), 3) := by decide +kernel
theorem dX12_apart_151 : decode cX12_apart 151 = .ok (.aload_n 0, 1) := by decide +kernel
theorem dX12_apart_152 : decode cX12_apart 152 = .ok (.iload_n 2, 1) := by decide +kernel
theorem dX12_apart_153 : decode cX12_apart 153 = .ok (.invokevirtual 276, 3) := by decide +kernel
theorem dX12_apart_156 : decode cX12_apart 156 = .ok (.aload_n 0, 1) := by decide +kernel
theorem dX12_apart_157 : decode cX12_apart 157 = .ok (.iload_n 3, 1) := by decide +kernel
theorem dX12_apart_158 : decode cX12_apart 158 = .ok (.invokevirtual 228, 3) := by decide +kernel
theorem dX12_apart_161 : decode cX12_apart 161 = .ok (.lconst 0, 1) := by decide +kernel
theorem dX12_apart_162 : decode cX12_apart 162 = .ok (.lstore 4, 2) := by decide +kernel
theorem dX12_apart_164 : decode cX12_apart 164 = .ok (.ldc_w 259, 3) := by decide +kernel
theorem dX12_apart_167 : decode cX12_apart 167 = .ok (.istore 6, 2) := by decide +kernel
theorem dX12_apart_169 : decode cX12_apart 169 = .ok (.iconst 0, 1) := by decide +kernel
theorem dX12_apart_170 : decode cX12_apart 170 = .ok (.istore 7, 2) := by decide +kernel
theorem dX12_apart_172 : decode cX12_apart 172 = .ok (.iload 7, 2) := by decide +kernel
theorem dX12_apart_174 : decode cX12_apart 174 = .ok (.iload_n 3, 1) := by decide +kernel
theorem dX12_apart_175 : decode cX12_apart 175 = .ok (.if_icmp .gt 92, 3) := by decide +kernel
theorem dX12_apart_178 : decode cX12_apart 178 = .ok (.iconst 0, 1) := by decide +kernel
theorem dX12_apart_179 : decode cX12_apart 179 = .ok (.istore 8, 2) := by decide +kernel
theorem dX12_apart_181 : decode cX12_apart 181 = .ok (.iload 8, 2) := by decide +kernel
theorem dX12_apart_183 : decode cX12_apart 183 = .ok (.aload_n 0, 1) := by decide +kernel
theorem dX12_apart_184 : decode cX12_apart 184 = .ok (.getfield 37, 3) := by decide +kernel
theorem dX12_apart_187 : decode cX12_apart 187 = .ok (.if_icmp .ge 74, 3) := by decide +kernel
theorem dX12_apart_190 : decode cX12_apart 190 = .ok (.aload_n 0, 1) := by decide +kernel
theorem dX12_apart_191 : decode cX12_apart 191 = .ok (.getfield 108, 3) := by decide +kernel
theorem dX12_apart_194 : decode cX12_apart 194 = .ok (.bipush 10, 2) := by decide +kernel
theorem dX12_apart_196 : decode cX12_apart 196 = .ok (.iload 7, 2) := by decide +kernel
theorem dX12_apart_198 : decode cX12_apart 198 = .ok (.imul, 1) := by decide +kernel
theorem dX12_apart_199 : decode cX12_apart 199 = .ok (.iload 8, 2) := by decide +kernel
theorem dX12_apart_201 : decode cX12_apart 201 = .ok (.iadd, 1) := by decide +kernel
theorem dX12_apart_202 : decode cX12_apart 202 = .ok (.iaload, 1) := by decide +kernel
theorem dX12_apart_203 : decode cX12_apart 203 = .ok (.i2l, 1) := by decide +kernel
theorem dX12_apart_204 : decode cX12_apart 204 = .ok (.aload_n 0, 1) := by decide +kernel
theorem dX12_apart_205 : decode cX12_apart 205 = .ok (.iload 7, 2) := by decide +kernel
theorem dX12_apart_207 : decode cX12_apart 207 = .ok (.iload 8, 2) := by decide +kernel
theorem dX12_apart_209 : decode cX12_apart 209 = .ok (.invokevirtual 231, 3) := by decide +kernel
theorem dX12_apart_212 : decode cX12_apart 212 = .ok (.i2l, 1) := by decide +kernel
theorem dX12_apart_213 : decode cX12_apart 213 = .ok (.lsub, 1) := by decide +kernel
theorem dX12_apart_214 : decode cX12_apart 214 = .ok (.lstore 9, 2) := by decide +kernel
theorem dX12_apart_216 : decode cX12_apart 216 = .ok (.lload 9, 2) := by decide +kernel
theorem dX12_apart_218 : decode cX12_apart 218 = .ok (.lconst 0, 1) := by decide +kernel
theorem dX12_apart_219 : decode cX12_apart 219 = .ok (.lcmp, 1) := by decide +kernel
theorem dX12_apart_220 : decode cX12_apart 220 = .ok (.ifCond .ge 9, 3) := by decide +kernel
theorem dX12_apart_223 : decode cX12_apart 223 = .ok (.lload 9, 2) := by decide +kernel
theorem dX12_apart_225 : decode cX12_apart 225 = .ok (.lneg, 1) := by decide +kernel
theorem dX12_apart_226 : decode cX12_apart 226 = .ok (.goto 5, 3) := by decide +kernel
theorem dX12_apart_229 : decode cX12_apart 229 = .ok (.lload 9, 2) := by decide +kernel
theorem dX12_apart_231 : decode cX12_apart 231 = .ok (.lstore 9, 2) := by decide +kernel
theorem dX12_apart_233 : decode cX12_apart 233 = .ok (.lload 9, 2) := by decide +kernel
theorem dX12_apart_235 : decode cX12_apart 235 = .ok (.lload 4, 2) := by decide +kernel
theorem dX12_apart_237 : decode cX12_apart 237 = .ok (.lcmp, 1) := by decide +kernel
theorem dX12_apart_238 : decode cX12_apart 238 = .ok (.ifCond .le 17, 3) := by decide +kernel
theorem dX12_apart_241 : decode cX12_apart 241 = .ok (.lload 9, 2) := by decide +kernel
theorem dX12_apart_243 : decode cX12_apart 243 = .ok (.lstore 4, 2) := by decide +kernel
theorem dX12_apart_245 : decode cX12_apart 245 = .ok (.bipush 16, 2) := by decide +kernel
theorem dX12_apart_247 : decode cX12_apart 247 = .ok (.iload 7, 2) := by decide +kernel
theorem dX12_apart_249 : decode cX12_apart 249 = .ok (.imul, 1) := by decide +kernel
theorem dX12_apart_250 : decode cX12_apart 250 = .ok (.iload 8, 2) := by decide +kernel
theorem dX12_apart_252 : decode cX12_apart 252 = .ok (.iadd, 1) := by decide +kernel
theorem dX12_apart_253 : decode cX12_apart 253 = .ok (.istore 6, 2) := by decide +kernel
theorem dX12_apart_255 : decode cX12_apart 255 = .ok (.iinc 8 1, 3) := by decide +kernel
theorem dX12_apart_258 : decode cX12_apart 258 = .ok (.goto (-77), 3) := by decide +kernel
theorem dX12_apart_261 : decode cX12_apart 261 = .ok (.iinc 7 1, 3) := by decide +kernel
theorem dX12_apart_264 : decode cX12_apart 264 = .ok (.goto (-92), 3) := by decide +kernel
theorem dX12_apart_267 : decode cX12_apart 267 = .ok (.iconst 0, 1) := by decide +kernel
theorem dX12_apart_268 : decode cX12_apart 268 = .ok (.istore 7, 2) := by decide +kernel
theorem dX12_apart_270 : decode cX12_apart 270 = .ok (.iload 7, 2) := by decide +kernel
theorem dX12_apart_272 : decode cX12_apart 272 = .ok (.bipush 10, 2) := by decide +kernel
theorem dX12_apart_274 : decode cX12_apart 274 = .ok (.if_icmp .ge 23, 3) := by decide +kernel
theorem dX12_apart_277 : decode cX12_apart 277 = .ok (.aload_n 0, 1) := by decide +kernel
theorem dX12_apart_278 : decode cX12_apart 278 = .ok (.getfield 44, 3) := by decide +kernel
theorem dX12_apart_281 : decode cX12_apart 281 = .ok (.iload 7, 2) := by decide +kernel
theorem dX12_apart_283 : decode cX12_apart 283 = .ok (.aload_n 0, 1) := by decide +kernel
theorem dX12_apart_284 : decode cX12_apart 284 = .ok (.getfield 99, 3) := by decide +kernel
theorem dX12_apart_287 : decode cX12_apart 287 = .ok (.iload 7, 2) := by decide +kernel
theorem dX12_apart_289 : decode cX12_apart 289 = .ok (.iaload, 1) := by decide +kernel
theorem dX12_apart_290 : decode cX12_apart 290 = .ok (.iastore, 1) := by decide +kernel
theorem dX12_apart_291 : decode cX12_apart 291 = .ok (.iinc 7 1, 3) := by decide +kernel
theorem dX12_apart_294 : decode cX12_apart 294 = .ok (.goto (-24), 3) := by decide +kernel
theorem dX12_apart_297 : decode cX12_apart 297 = .ok (.iload 6, 2) := by decide +kernel
theorem dX12_apart_299 : decode cX12_apart 299 = .ok (.i2l, 1) := by decide +kernel
theorem dX12_apart_300 : decode cX12_apart 300 = .ok (.lreturn, 1) := by decide +kernel
theorem dX12_begins_0 : decode cX12_begins 0 = .ok (.aload_n 0, 1) := by decide +kernel
theorem dX12_begins_1 : decode cX12_begins 1 = .ok (.getfield 279, 3) := by decide +kernel
theorem dX12_begins_4 : decode cX12_begins 4 = .ok (.bipush 16, 2) := by decide +kernel
theorem dX12_begins_6 : decode cX12_begins 6 = .ok (.if_icmp .ge 23, 3) := by decide +kernel
theorem dX12_begins_9 : decode cX12_begins 9 = .ok (.aload_n 0, 1) := by decide +kernel
theorem dX12_begins_10 : decode cX12_begins 10 = .ok (.getfield 111, 3) := by decide +kernel
theorem dX12_begins_13 : decode cX12_begins 13 = .ok (.aload_n 0, 1) := by decide +kernel
theorem dX12_begins_14 : decode cX12_begins 14 = .ok (.getfield 279, 3) := by decide +kernel
theorem dX12_begins_17 : decode cX12_begins 17 = .ok (.iload_n 1, 1) := by decide +kernel
theorem dX12_begins_18 : decode cX12_begins 18 = .ok (.iastore, 1) := by decide +kernel
theorem dX12_begins_19 : decode cX12_begins 19 = .ok (.aload_n 0, 1) := by decide +kernel
theorem dX12_begins_20 : decode cX12_begins 20 = .ok (.dup, 1) := by decide +kernel
theorem dX12_begins_21 : decode cX12_begins 21 = .ok (.getfield 279, 3) := by decide +kernel
theorem dX12_begins_24 : decode cX12_begins 24 = .ok (.iconst 1, 1) := by decide +kernel
theorem dX12_begins_25 : decode cX12_begins 25 = .ok (.iadd, 1) := by decide +kernel
theorem dX12_begins_26 : decode cX12_begins 26 = .ok (.putfield 279, 3) := by decide +kernel
theorem dX12_begins_29 : decode cX12_begins 29 = .ok (.return_, 1) := by decide +kernel
theorem dX12_isNode_0 : decode cX12_isNode 0 = .ok (.iload_n 1, 1) := by decide +kernel
theorem dX12_isNode_1 : decode cX12_isNode 1 = .ok (.iconst 0, 1) := by decide +kernel
theorem dX12_isNode_2 : decode cX12_isNode 2 = .ok (.aload_n 0, 1) := by decide +kernel
theorem dX12_isNode_3 : decode cX12_isNode 3 = .ok (.getfield 179, 3) := by decide +kernel
theorem dX12_isNode_6 : decode cX12_isNode 6 = .ok (.iconst 1, 1) := by decide +kernel
theorem dX12_isNode_7 : decode cX12_isNode 7 = .ok (.isub, 1) := by decide +kernel
theorem dX12_isNode_8 : decode cX12_isNode 8 = .ok (.invokestatic 121, 3) := by decide +kernel
theorem dX12_isNode_11 : decode cX12_isNode 11 = .ok (.ireturn, 1) := by decide +kernel
theorem dX12_kind_0 : decode cX12_kind 0 = .ok (.aload_n 0, 1) := by decide +kernel
theorem dX12_kind_1 : decode cX12_kind 1 = .ok (.iload_n 1, 1) := by decide +kernel
theorem dX12_kind_2 : decode cX12_kind 2 = .ok (.invokevirtual 282, 3) := by decide +kernel
theorem dX12_kind_5 : decode cX12_kind 5 = .ok (.ifCond .eq 13, 3) := by decide +kernel
theorem dX12_kind_8 : decode cX12_kind 8 = .ok (.aload_n 0, 1) := by decide +kernel
theorem dX12_kind_9 : decode cX12_kind 9 = .ok (.getfield 25, 3) := by decide +kernel
theorem dX12_kind_12 : decode cX12_kind 12 = .ok (.iload_n 1, 1) := by decide +kernel
theorem dX12_kind_13 : decode cX12_kind 13 = .ok (.iaload, 1) := by decide +kernel
theorem dX12_kind_14 : decode cX12_kind 14 = .ok (.i2l, 1) := by decide +kernel
theorem dX12_kind_15 : decode cX12_kind 15 = .ok (.goto 7, 3) := by decide +kernel
theorem dX12_kind_18 : decode cX12_kind 18 = .ok (.iconst 1, 1) := by decide +kernel
theorem dX12_kind_19 : decode cX12_kind 19 = .ok (.invokestatic 129, 3) := by decide +kernel
theorem dX12_kind_22 : decode cX12_kind 22 = .ok (.lreturn, 1) := by decide +kernel
theorem dX12_isKind_0 : decode cX12_isKind 0 = .ok (.iload_n 1, 1) := by decide +kernel
theorem dX12_isKind_1 : decode cX12_isKind 1 = .ok (.ifCond .eq 28, 3) := by decide +kernel
theorem dX12_isKind_4 : decode cX12_isKind 4 = .ok (.iload_n 0, 1) := by decide +kernel
theorem dX12_isKind_5 : decode cX12_isKind 5 = .ok (.iload_n 1, 1) := by decide +kernel
theorem dX12_isKind_6 : decode cX12_isKind 6 = .ok (.if_icmp .eq 23, 3) := by decide +kernel
theorem dX12_isKind_9 : decode cX12_isKind 9 = .ok (.iload_n 0, 1) := by decide +kernel
theorem dX12_isKind_10 : decode cX12_isKind 10 = .ok (.iconst 2, 1) := by decide +kernel
theorem dX12_isKind_11 : decode cX12_isKind 11 = .ok (.if_icmp .ne 8, 3) := by decide +kernel
theorem dX12_isKind_14 : decode cX12_isKind 14 = .ok (.iload_n 1, 1) := by decide +kernel
theorem dX12_isKind_15 : decode cX12_isKind 15 = .ok (.iconst 1, 1) := by decide +kernel
theorem dX12_isKind_16 : decode cX12_isKind 16 = .ok (.if_icmp .eq 13, 3) := by decide +kernel
theorem dX12_isKind_19 : decode cX12_isKind 19 = .ok (.iload_n 0, 1) := by decide +kernel
theorem dX12_isKind_20 : decode cX12_isKind 20 = .ok (.iconst 4, 1) := by decide +kernel
theorem dX12_isKind_21 : decode cX12_isKind 21 = .ok (.if_icmp .ne 12, 3) := by decide +kernel
theorem dX12_isKind_24 : decode cX12_isKind 24 = .ok (.iload_n 1, 1) := by decide +kernel
theorem dX12_isKind_25 : decode cX12_isKind 25 = .ok (.iconst 3, 1) := by decide +kernel
theorem dX12_isKind_26 : decode cX12_isKind 26 = .ok (.if_icmp .ne 7, 3) := by decide +kernel
theorem dX12_isKind_29 : decode cX12_isKind 29 = .ok (.iconst 1, 1) := by decide +kernel
theorem dX12_isKind_30 : decode cX12_isKind 30 = .ok (.goto 4, 3) := by decide +kernel
theorem dX12_isKind_33 : decode cX12_isKind 33 = .ok (.iconst 0, 1) := by decide +kernel
theorem dX12_isKind_34 : decode cX12_isKind 34 = .ok (.ireturn, 1) := by decide +kernel
theorem dX12_as_0 : decode cX12_as 0 = .ok (.aload_n 0, 1) := by decide +kernel
theorem dX12_as_1 : decode cX12_as 1 = .ok (.iload_n 1, 1) := by decide +kernel
theorem dX12_as_2 : decode cX12_as 2 = .ok (.invokevirtual 282, 3) := by decide +kernel
theorem dX12_as_5 : decode cX12_as 5 = .ok (.ifCond .eq 12, 3) := by decide +kernel
theorem dX12_as_8 : decode cX12_as 8 = .ok (.iload_n 2, 1) := by decide +kernel
theorem dX12_as_9 : decode cX12_as 9 = .ok (.iconst 0, 1) := by decide +kernel
theorem dX12_as_10 : decode cX12_as 10 = .ok (.iconst 5, 1) := by decide +kernel
theorem dX12_as_11 : decode cX12_as 11 = .ok (.invokestatic 121, 3) := by decide +kernel
theorem dX12_as_14 : decode cX12_as 14 = .ok (.ifCond .ne 8, 3) := by decide +kernel
theorem dX12_as_17 : decode cX12_as 17 = .ok (.iconst 1, 1) := by decide +kernel
theorem dX12_as_18 : decode cX12_as 18 = .ok (.invokestatic 129, 3) := by decide +kernel
theorem dX12_as_21 : decode cX12_as 21 = .ok (.lreturn, 1) := by decide +kernel
theorem dX12_as_22 : decode cX12_as 22 = .ok (.aload_n 0, 1) := by decide +kernel
theorem dX12_as_23 : decode cX12_as 23 = .ok (.getfield 25, 3) := by decide +kernel
theorem dX12_as_26 : decode cX12_as 26 = .ok (.iload_n 1, 1) := by decide +kernel
theorem dX12_as_27 : decode cX12_as 27 = .ok (.iaload, 1) := by decide +kernel
theorem dX12_as_28 : decode cX12_as 28 = .ok (.iload_n 2, 1) := by decide +kernel
theorem dX12_as_29 : decode cX12_as 29 = .ok (.invokestatic 285, 3) := by decide +kernel
theorem dX12_as_32 : decode cX12_as 32 = .ok (.ifCond .ne 9, 3) := by decide +kernel
theorem dX12_as_35 : decode cX12_as 35 = .ok (.aload_n 0, 1) := by decide +kernel
theorem dX12_as_36 : decode cX12_as 36 = .ok (.iconst 3, 1) := by decide +kernel
theorem dX12_as_37 : decode cX12_as 37 = .ok (.invokevirtual 133, 3) := by decide +kernel
theorem dX12_as_40 : decode cX12_as 40 = .ok (.lreturn, 1) := by decide +kernel
theorem dX12_as_41 : decode cX12_as 41 = .ok (.aload_n 0, 1) := by decide +kernel
theorem dX12_as_42 : decode cX12_as 42 = .ok (.iconst 0, 1) := by decide +kernel
theorem dX12_as_43 : decode cX12_as 43 = .ok (.putfield 116, 3) := by decide +kernel
theorem dX12_as_46 : decode cX12_as 46 = .ok (.aload_n 0, 1) := by decide +kernel
theorem dX12_as_47 : decode cX12_as 47 = .ok (.getfield 31, 3) := by decide +kernel
theorem dX12_as_50 : decode cX12_as 50 = .ok (.iload_n 1, 1) := by decide +kernel
theorem dX12_as_51 : decode cX12_as 51 = .ok (.iaload, 1) := by decide +kernel
theorem dX12_as_52 : decode cX12_as 52 = .ok (.i2l, 1) := by decide +kernel
theorem dX12_as_53 : decode cX12_as 53 = .ok (.lreturn, 1) := by decide +kernel
theorem dX12_markOf_0 : decode cX12_markOf 0 = .ok (.aload_n 0, 1) := by decide +kernel
theorem dX12_markOf_1 : decode cX12_markOf 1 = .ok (.getfield 25, 3) := by decide +kernel
theorem dX12_markOf_4 : decode cX12_markOf 4 = .ok (.iload_n 1, 1) := by decide +kernel
theorem dX12_markOf_5 : decode cX12_markOf 5 = .ok (.iaload, 1) := by decide +kernel
theorem dX12_markOf_6 : decode cX12_markOf 6 = .ok (.tableswitch 101 1 4 #[30, 49, 101, 78], 30) := by decide +kernel
theorem dX12_markOf_36 : decode cX12_markOf 36 = .ok (.aload_n 0, 1) := by decide +kernel
theorem dX12_markOf_37 : decode cX12_markOf 37 = .ok (.bipush 21, 2) := by decide +kernel
theorem dX12_markOf_39 : decode cX12_markOf 39 = .ok (.invokevirtual 288, 3) := by decide +kernel
theorem dX12_markOf_42 : decode cX12_markOf 42 = .ok (.aload_n 0, 1) := by decide +kernel
theorem dX12_markOf_43 : decode cX12_markOf 43 = .ok (.bipush 20, 2) := by decide +kernel
theorem dX12_markOf_45 : decode cX12_markOf 45 = .ok (.invokevirtual 288, 3) := by decide +kernel
theorem dX12_markOf_48 : decode cX12_markOf 48 = .ok (.iload_n 1, 1) := by decide +kernel
theorem dX12_markOf_49 : decode cX12_markOf 49 = .ok (.i2l, 1) := by decide +kernel
theorem dX12_markOf_50 : decode cX12_markOf 50 = .ok (.ldc2_w 291, 3) := by decide +kernel
theorem dX12_markOf_53 : decode cX12_markOf 53 = .ok (.ladd, 1) := by decide +kernel
theorem dX12_markOf_54 : decode cX12_markOf 54 = .ok (.lreturn, 1) := by decide +kernel
theorem dX12_markOf_55 : decode cX12_markOf 55 = .ok (.aload_n 0, 1) := by decide +kernel
theorem dX12_markOf_56 : decode cX12_markOf 56 = .ok (.bipush 22, 2) := by decide +kernel
theorem dX12_markOf_58 : decode cX12_markOf 58 = .ok (.invokevirtual 288, 3) := by decide +kernel
theorem dX12_markOf_61 : decode cX12_markOf 61 = .ok (.aload_n 0, 1) := by decide +kernel
theorem dX12_markOf_62 : decode cX12_markOf 62 = .ok (.bipush 21, 2) := by decide +kernel
theorem dX12_markOf_64 : decode cX12_markOf 64 = .ok (.invokevirtual 288, 3) := by decide +kernel
theorem dX12_markOf_67 : decode cX12_markOf 67 = .ok (.aload_n 0, 1) := by decide +kernel
theorem dX12_markOf_68 : decode cX12_markOf 68 = .ok (.bipush 20, 2) := by decide +kernel
theorem dX12_markOf_70 : decode cX12_markOf 70 = .ok (.invokevirtual 288, 3) := by decide +kernel
theorem dX12_markOf_73 : decode cX12_markOf 73 = .ok (.ldc2_w 293, 3) := by decide +kernel
theorem dX12_markOf_76 : decode cX12_markOf 76 = .ok (.iload_n 1, 1) := by decide +kernel
theorem dX12_markOf_77 : decode cX12_markOf 77 = .ok (.i2l, 1) := by decide +kernel
theorem dX12_markOf_78 : decode cX12_markOf 78 = .ok (.ldc2_w 291, 3) := by decide +kernel
theorem dX12_markOf_81 : decode cX12_markOf 81 = .ok (.ladd, 1) := by decide +kernel
theorem dX12_markOf_82 : decode cX12_markOf 82 = .ok (.lmul, 1) := by decide +kernel
theorem dX12_markOf_83 : decode cX12_markOf 83 = .ok (.lreturn, 1) := by decide +kernel
theorem dX12_markOf_84 : decode cX12_markOf 84 = .ok (.aload_n 0, 1) := by decide +kernel
theorem dX12_markOf_85 : decode cX12_markOf 85 = .ok (.bipush 23, 2) := by decide +kernel
theorem dX12_markOf_87 : decode cX12_markOf 87 = .ok (.invokevirtual 288, 3) := by decide +kernel
theorem dX12_markOf_90 : decode cX12_markOf 90 = .ok (.aload_n 0, 1) := by decide +kernel
theorem dX12_markOf_91 : decode cX12_markOf 91 = .ok (.bipush 20, 2) := by decide +kernel
theorem dX12_markOf_93 : decode cX12_markOf 93 = .ok (.invokevirtual 288, 3) := by decide +kernel
theorem dX12_markOf_96 : decode cX12_markOf 96 = .ok (.iload_n 1, 1) := by decide +kernel
theorem dX12_markOf_97 : decode cX12_markOf 97 = .ok (.i2l, 1) := by decide +kernel
theorem dX12_markOf_98 : decode cX12_markOf 98 = .ok (.aload_n 0, 1) := by decide +kernel
theorem dX12_markOf_99 : decode cX12_markOf 99 = .ok (.getfield 31, 3) := by decide +kernel
theorem dX12_markOf_102 : decode cX12_markOf 102 = .ok (.iload_n 1, 1) := by decide +kernel
theorem dX12_markOf_103 : decode cX12_markOf 103 = .ok (.iaload, 1) := by decide +kernel
theorem dX12_markOf_104 : decode cX12_markOf 104 = .ok (.i2l, 1) := by decide +kernel
theorem dX12_markOf_105 : decode cX12_markOf 105 = .ok (.ladd, 1) := by decide +kernel
theorem dX12_markOf_106 : decode cX12_markOf 106 = .ok (.lreturn, 1) := by decide +kernel
theorem dX12_markOf_107 : decode cX12_markOf 107 = .ok (.aload_n 0, 1) := by decide +kernel
theorem dX12_markOf_108 : decode cX12_markOf 108 = .ok (.bipush 20, 2) := by decide +kernel
theorem dX12_markOf_110 : decode cX12_markOf 110 = .ok (.invokevirtual 288, 3) := by decide +kernel
theorem dX12_markOf_113 : decode cX12_markOf 113 = .ok (.iload_n 1, 1) := by decide +kernel
theorem dX12_markOf_114 : decode cX12_markOf 114 = .ok (.i2l, 1) := by decide +kernel
theorem dX12_markOf_115 : decode cX12_markOf 115 = .ok (.lreturn, 1) := by decide +kernel
theorem dX12_sizeOf_0 : decode cX12_sizeOf 0 = .ok (.aload_n 0, 1) := by decide +kernel
theorem dX12_sizeOf_1 : decode cX12_sizeOf 1 = .ok (.getfield 25, 3) := by decide +kernel
theorem dX12_sizeOf_4 : decode cX12_sizeOf 4 = .ok (.iload_n 1, 1) := by decide +kernel
theorem dX12_sizeOf_5 : decode cX12_sizeOf 5 = .ok (.iaload, 1) := by decide +kernel
theorem dX12_sizeOf_6 : decode cX12_sizeOf 6 = .ok (.tableswitch 142 2 5 #[30, 56, 80, 116], 30) := by decide +kernel
theorem dX12_sizeOf_36 : decode cX12_sizeOf 36 = .ok (.aload_n 0, 1) := by decide +kernel
theorem dX12_sizeOf_37 : decode cX12_sizeOf 37 = .ok (.bipush 11, 2) := by decide +kernel
theorem dX12_sizeOf_39 : decode cX12_sizeOf 39 = .ok (.invokevirtual 288, 3) := by decide +kernel
theorem dX12_sizeOf_42 : decode cX12_sizeOf 42 = .ok (.aload_n 0, 1) := by decide +kernel
theorem dX12_sizeOf_43 : decode cX12_sizeOf 43 = .ok (.bipush 10, 2) := by decide +kernel
theorem dX12_sizeOf_45 : decode cX12_sizeOf 45 = .ok (.invokevirtual 288, 3) := by decide +kernel
theorem dX12_sizeOf_48 : decode cX12_sizeOf 48 = .ok (.aload_n 0, 1) := by decide +kernel
theorem dX12_sizeOf_49 : decode cX12_sizeOf 49 = .ok (.getfield 31, 3) := by decide +kernel
theorem dX12_sizeOf_52 : decode cX12_sizeOf 52 = .ok (.iload_n 1, 1) := by decide +kernel
theorem dX12_sizeOf_53 : decode cX12_sizeOf 53 = .ok (.iaload, 1) := by decide +kernel
theorem dX12_sizeOf_54 : decode cX12_sizeOf 54 = .ok (.i2l, 1) := by decide +kernel
theorem dX12_sizeOf_55 : decode cX12_sizeOf 55 = .ok (.aload_n 0, 1) := by decide +kernel
theorem dX12_sizeOf_56 : decode cX12_sizeOf 56 = .ok (.iload_n 1, 1) := by decide +kernel
theorem dX12_sizeOf_57 : decode cX12_sizeOf 57 = .ok (.invokevirtual 295, 3) := by decide +kernel
theorem dX12_sizeOf_60 : decode cX12_sizeOf 60 = .ok (.ladd, 1) := by decide +kernel
theorem dX12_sizeOf_61 : decode cX12_sizeOf 61 = .ok (.lreturn, 1) := by decide +kernel
theorem dX12_sizeOf_62 : decode cX12_sizeOf 62 = .ok (.aload_n 0, 1) := by decide +kernel
theorem dX12_sizeOf_63 : decode cX12_sizeOf 63 = .ok (.bipush 12, 2) := by decide +kernel
theorem dX12_sizeOf_65 : decode cX12_sizeOf 65 = .ok (.invokevirtual 288, 3) := by decide +kernel
theorem dX12_sizeOf_68 : decode cX12_sizeOf 68 = .ok (.aload_n 0, 1) := by decide +kernel
theorem dX12_sizeOf_69 : decode cX12_sizeOf 69 = .ok (.bipush 10, 2) := by decide +kernel
theorem dX12_sizeOf_71 : decode cX12_sizeOf 71 = .ok (.invokevirtual 288, 3) := by decide +kernel
theorem dX12_sizeOf_74 : decode cX12_sizeOf 74 = .ok (.ldc2_w 293, 3) := by decide +kernel
theorem dX12_sizeOf_77 : decode cX12_sizeOf 77 = .ok (.aload_n 0, 1) := by decide +kernel
theorem dX12_sizeOf_78 : decode cX12_sizeOf 78 = .ok (.getfield 31, 3) := by decide +kernel
theorem dX12_sizeOf_81 : decode cX12_sizeOf 81 = .ok (.iload_n 1, 1) := by decide +kernel
theorem dX12_sizeOf_82 : decode cX12_sizeOf 82 = .ok (.iaload, 1) := by decide +kernel
theorem dX12_sizeOf_83 : decode cX12_sizeOf 83 = .ok (.i2l, 1) := by decide +kernel
theorem dX12_sizeOf_84 : decode cX12_sizeOf 84 = .ok (.lmul, 1) := by decide +kernel
theorem dX12_sizeOf_85 : decode cX12_sizeOf 85 = .ok (.lreturn, 1) := by decide +kernel
theorem dX12_sizeOf_86 : decode cX12_sizeOf 86 = .ok (.aload_n 0, 1) := by decide +kernel
theorem dX12_sizeOf_87 : decode cX12_sizeOf 87 = .ok (.bipush 13, 2) := by decide +kernel
theorem dX12_sizeOf_89 : decode cX12_sizeOf 89 = .ok (.invokevirtual 288, 3) := by decide +kernel
theorem dX12_sizeOf_92 : decode cX12_sizeOf 92 = .ok (.aload_n 0, 1) := by decide +kernel
theorem dX12_sizeOf_93 : decode cX12_sizeOf 93 = .ok (.bipush 12, 2) := by decide +kernel
theorem dX12_sizeOf_95 : decode cX12_sizeOf 95 = .ok (.invokevirtual 288, 3) := by decide +kernel
theorem dX12_sizeOf_98 : decode cX12_sizeOf 98 = .ok (.aload_n 0, 1) := by decide +kernel
theorem dX12_sizeOf_99 : decode cX12_sizeOf 99 = .ok (.bipush 10, 2) := by decide +kernel
theorem dX12_sizeOf_101 : decode cX12_sizeOf 101 = .ok (.invokevirtual 288, 3) := by decide +kernel
theorem dX12_sizeOf_104 : decode cX12_sizeOf 104 = .ok (.ldc2_w 293, 3) := by decide +kernel
theorem dX12_sizeOf_107 : decode cX12_sizeOf 107 = .ok (.aload_n 0, 1) := by decide +kernel
theorem dX12_sizeOf_108 : decode cX12_sizeOf 108 = .ok (.getfield 31, 3) := by decide +kernel
theorem dX12_sizeOf_111 : decode cX12_sizeOf 111 = .ok (.iload_n 1, 1) := by decide +kernel
theorem dX12_sizeOf_112 : decode cX12_sizeOf 112 = .ok (.iaload, 1) := by decide +kernel
theorem dX12_sizeOf_113 : decode cX12_sizeOf 113 = .ok (.i2l, 1) := by decide +kernel
theorem dX12_sizeOf_114 : decode cX12_sizeOf 114 = .ok (.lmul, 1) := by decide +kernel
theorem dX12_sizeOf_115 : decode cX12_sizeOf 115 = .ok (.aload_n 0, 1) := by decide +kernel
theorem dX12_sizeOf_116 : decode cX12_sizeOf 116 = .ok (.iload_n 1, 1) := by decide +kernel
theorem dX12_sizeOf_117 : decode cX12_sizeOf 117 = .ok (.invokevirtual 295, 3) := by decide +kernel
theorem dX12_sizeOf_120 : decode cX12_sizeOf 120 = .ok (.ladd, 1) := by decide +kernel
theorem dX12_sizeOf_121 : decode cX12_sizeOf 121 = .ok (.lreturn, 1) := by decide +kernel
theorem dX12_sizeOf_122 : decode cX12_sizeOf 122 = .ok (.aload_n 0, 1) := by decide +kernel
theorem dX12_sizeOf_123 : decode cX12_sizeOf 123 = .ok (.bipush 14, 2) := by decide +kernel
theorem dX12_sizeOf_125 : decode cX12_sizeOf 125 = .ok (.invokevirtual 288, 3) := by decide +kernel
theorem dX12_sizeOf_128 : decode cX12_sizeOf 128 = .ok (.aload_n 0, 1) := by decide +kernel
theorem dX12_sizeOf_129 : decode cX12_sizeOf 129 = .ok (.bipush 10, 2) := by decide +kernel
theorem dX12_sizeOf_131 : decode cX12_sizeOf 131 = .ok (.invokevirtual 288, 3) := by decide +kernel
theorem dX12_sizeOf_134 : decode cX12_sizeOf 134 = .ok (.aload_n 0, 1) := by decide +kernel
theorem dX12_sizeOf_135 : decode cX12_sizeOf 135 = .ok (.getfield 31, 3) := by decide +kernel
theorem dX12_sizeOf_138 : decode cX12_sizeOf 138 = .ok (.iload_n 1, 1) := by decide +kernel
theorem dX12_sizeOf_139 : decode cX12_sizeOf 139 = .ok (.iaload, 1) := by decide +kernel
theorem dX12_sizeOf_140 : decode cX12_sizeOf 140 = .ok (.i2l, 1) := by decide +kernel
theorem dX12_sizeOf_141 : decode cX12_sizeOf 141 = .ok (.aload_n 0, 1) := by decide +kernel
theorem dX12_sizeOf_142 : decode cX12_sizeOf 142 = .ok (.iload_n 1, 1) := by decide +kernel
theorem dX12_sizeOf_143 : decode cX12_sizeOf 143 = .ok (.invokevirtual 295, 3) := by decide +kernel
theorem dX12_sizeOf_146 : decode cX12_sizeOf 146 = .ok (.lsub, 1) := by decide +kernel
theorem dX12_sizeOf_147 : decode cX12_sizeOf 147 = .ok (.lreturn, 1) := by decide +kernel
theorem dX12_sizeOf_148 : decode cX12_sizeOf 148 = .ok (.aload_n 0, 1) := by decide +kernel
theorem dX12_sizeOf_149 : decode cX12_sizeOf 149 = .ok (.bipush 10, 2) := by decide +kernel
theorem dX12_sizeOf_151 : decode cX12_sizeOf 151 = .ok (.invokevirtual 288, 3) := by decide +kernel
theorem dX12_sizeOf_154 : decode cX12_sizeOf 154 = .ok (.aload_n 0, 1) := by decide +kernel
theorem dX12_sizeOf_155 : decode cX12_sizeOf 155 = .ok (.getfield 31, 3) := by decide +kernel
theorem dX12_sizeOf_158 : decode cX12_sizeOf 158 = .ok (.iload_n 1, 1) := by decide +kernel
theorem dX12_sizeOf_159 : decode cX12_sizeOf 159 = .ok (.iaload, 1) := by decide +kernel
theorem dX12_sizeOf_160 : decode cX12_sizeOf 160 = .ok (.i2l, 1) := by decide +kernel
theorem dX12_sizeOf_161 : decode cX12_sizeOf 161 = .ok (.lreturn, 1) := by decide +kernel
theorem dX12_ask_0 : decode cX12_ask 0 = .ok (.aload_n 0, 1) := by decide +kernel
theorem dX12_ask_1 : decode cX12_ask 1 = .ok (.iload_n 1, 1) := by decide +kernel
theorem dX12_ask_2 : decode cX12_ask 2 = .ok (.invokevirtual 282, 3) := by decide +kernel
theorem dX12_ask_5 : decode cX12_ask 5 = .ok (.ifCond .eq 12, 3) := by decide +kernel
theorem dX12_ask_8 : decode cX12_ask 8 = .ok (.iload_n 2, 1) := by decide +kernel
theorem dX12_ask_9 : decode cX12_ask 9 = .ok (.iconst 0, 1) := by decide +kernel
theorem dX12_ask_10 : decode cX12_ask 10 = .ok (.iconst 1, 1) := by decide +kernel
theorem dX12_ask_11 : decode cX12_ask 11 = .ok (.invokestatic 121, 3) := by decide +kernel
theorem dX12_ask_14 : decode cX12_ask 14 = .ok (.ifCond .ne 8, 3) := by decide +kernel
theorem dX12_ask_17 : decode cX12_ask 17 = .ok (.iconst 1, 1) := by decide +kernel
theorem dX12_ask_18 : decode cX12_ask 18 = .ok (.invokestatic 129, 3) := by decide +kernel
theorem dX12_ask_21 : decode cX12_ask 21 = .ok (.lreturn, 1) := by decide +kernel
theorem dX12_ask_22 : decode cX12_ask 22 = .ok (.aload_n 0, 1) := by decide +kernel
theorem dX12_ask_23 : decode cX12_ask 23 = .ok (.iconst 0, 1) := by decide +kernel
theorem dX12_ask_24 : decode cX12_ask 24 = .ok (.putfield 279, 3) := by decide +kernel
theorem dX12_ask_27 : decode cX12_ask 27 = .ok (.iload_n 2, 1) := by decide +kernel
theorem dX12_ask_28 : decode cX12_ask 28 = .ok (.ifCond .ne 11, 3) := by decide +kernel
theorem dX12_ask_31 : decode cX12_ask 31 = .ok (.aload_n 0, 1) := by decide +kernel
theorem dX12_ask_32 : decode cX12_ask 32 = .ok (.iload_n 1, 1) := by decide +kernel
theorem dX12_ask_33 : decode cX12_ask 33 = .ok (.invokevirtual 298, 3) := by decide +kernel
theorem dX12_ask_36 : decode cX12_ask 36 = .ok (.goto 8, 3) := by decide +kernel
theorem dX12_ask_39 : decode cX12_ask 39 = .ok (.aload_n 0, 1) := by decide +kernel
theorem dX12_ask_40 : decode cX12_ask 40 = .ok (.iload_n 1, 1) := by decide +kernel
theorem dX12_ask_41 : decode cX12_ask 41 = .ok (.invokevirtual 295, 3) := by decide +kernel
theorem dX12_ask_44 : decode cX12_ask 44 = .ok (.lreturn, 1) := by decide +kernel
theorem dX12_trace_0 : decode cX12_trace 0 = .ok (.iload_n 1, 1) := by decide +kernel
theorem dX12_trace_1 : decode cX12_trace 1 = .ok (.ifCond .lt 20, 3) := by decide +kernel
theorem dX12_trace_4 : decode cX12_trace 4 = .ok (.iload_n 1, 1) := by decide +kernel
theorem dX12_trace_5 : decode cX12_trace 5 = .ok (.aload_n 0, 1) := by decide +kernel
theorem dX12_trace_6 : decode cX12_trace 6 = .ok (.getfield 279, 3) := by decide +kernel
theorem dX12_trace_9 : decode cX12_trace 9 = .ok (.if_icmp .ge 12, 3) := by decide +kernel
theorem dX12_trace_12 : decode cX12_trace 12 = .ok (.aload_n 0, 1) := by decide +kernel
theorem dX12_trace_13 : decode cX12_trace 13 = .ok (.getfield 111, 3) := by decide +kernel
theorem dX12_trace_16 : decode cX12_trace 16 = .ok (.iload_n 1, 1) := by decide +kernel
theorem dX12_trace_17 : decode cX12_trace 17 = .ok (.iaload, 1) := by decide +kernel
theorem dX12_trace_18 : decode cX12_trace 18 = .ok (.goto 6, 3) := by decide +kernel
theorem dX12_trace_21 : decode cX12_trace 21 = .ok (.ldc_w 259, 3) := by decide +kernel
theorem dX12_trace_24 : decode cX12_trace 24 = .ok (.ireturn, 1) := by decide +kernel
theorem dX12_manyRows_0 : decode cX12_manyRows 0 = .ok (.iconst 0, 1) := by decide +kernel
theorem dX12_manyRows_1 : decode cX12_manyRows 1 = .ok (.istore_n 1, 1) := by decide +kernel
theorem dX12_manyRows_2 : decode cX12_manyRows 2 = .ok (.iconst 0, 1) := by decide +kernel
theorem dX12_manyRows_3 : decode cX12_manyRows 3 = .ok (.istore_n 2, 1) := by decide +kernel
theorem dX12_manyRows_4 : decode cX12_manyRows 4 = .ok (.iload_n 2, 1) := by decide +kernel
theorem dX12_manyRows_5 : decode cX12_manyRows 5 = .ok (.bipush 8, 2) := by decide +kernel
theorem dX12_manyRows_7 : decode cX12_manyRows 7 = .ok (.if_icmp .ge 26, 3) := by decide +kernel
theorem dX12_manyRows_10 : decode cX12_manyRows 10 = .ok (.iload_n 1, 1) := by decide +kernel
theorem dX12_manyRows_11 : decode cX12_manyRows 11 = .ok (.aload_n 0, 1) := by decide +kernel
theorem dX12_manyRows_12 : decode cX12_manyRows 12 = .ok (.getfield 7, 3) := by decide +kernel
theorem dX12_manyRows_15 : decode cX12_manyRows 15 = .ok (.iload_n 2, 1) := by decide +kernel
theorem dX12_manyRows_16 : decode cX12_manyRows 16 = .ok (.iaload, 1) := by decide +kernel
theorem dX12_manyRows_17 : decode cX12_manyRows 17 = .ok (.ifCond .ge 7, 3) := by decide +kernel
theorem dX12_manyRows_20 : decode cX12_manyRows 20 = .ok (.iconst 0, 1) := by decide +kernel
theorem dX12_manyRows_21 : decode cX12_manyRows 21 = .ok (.goto 4, 3) := by decide +kernel
theorem dX12_manyRows_24 : decode cX12_manyRows 24 = .ok (.iconst 1, 1) := by decide +kernel
theorem dX12_manyRows_25 : decode cX12_manyRows 25 = .ok (.iadd, 1) := by decide +kernel
theorem dX12_manyRows_26 : decode cX12_manyRows 26 = .ok (.istore_n 1, 1) := by decide +kernel
theorem dX12_manyRows_27 : decode cX12_manyRows 27 = .ok (.iinc 2 1, 3) := by decide +kernel
theorem dX12_manyRows_30 : decode cX12_manyRows 30 = .ok (.goto (-26), 3) := by decide +kernel
theorem dX12_manyRows_33 : decode cX12_manyRows 33 = .ok (.iload_n 1, 1) := by decide +kernel
theorem dX12_manyRows_34 : decode cX12_manyRows 34 = .ok (.ireturn, 1) := by decide +kernel
theorem dX12_manyOut_0 : decode cX12_manyOut 0 = .ok (.iconst 0, 1) := by decide +kernel
theorem dX12_manyOut_1 : decode cX12_manyOut 1 = .ok (.istore_n 1, 1) := by decide +kernel
theorem dX12_manyOut_2 : decode cX12_manyOut 2 = .ok (.iconst 0, 1) := by decide +kernel
theorem dX12_manyOut_3 : decode cX12_manyOut 3 = .ok (.istore_n 2, 1) := by decide +kernel
theorem dX12_manyOut_4 : decode cX12_manyOut 4 = .ok (.iload_n 2, 1) := by decide +kernel
theorem dX12_manyOut_5 : decode cX12_manyOut 5 = .ok (.aload_n 0, 1) := by decide +kernel
theorem dX12_manyOut_6 : decode cX12_manyOut 6 = .ok (.getfield 234, 3) := by decide +kernel
theorem dX12_manyOut_9 : decode cX12_manyOut 9 = .ok (.if_icmp .ge 26, 3) := by decide +kernel
theorem dX12_manyOut_12 : decode cX12_manyOut 12 = .ok (.iload_n 1, 1) := by decide +kernel
theorem dX12_manyOut_13 : decode cX12_manyOut 13 = .ok (.aload_n 0, 1) := by decide +kernel
theorem dX12_manyOut_14 : decode cX12_manyOut 14 = .ok (.getfield 75, 3) := by decide +kernel
theorem dX12_manyOut_17 : decode cX12_manyOut 17 = .ok (.iload_n 2, 1) := by decide +kernel
theorem dX12_manyOut_18 : decode cX12_manyOut 18 = .ok (.baload, 1) := by decide +kernel
theorem dX12_manyOut_19 : decode cX12_manyOut 19 = .ok (.ifCond .eq 7, 3) := by decide +kernel
theorem dX12_manyOut_22 : decode cX12_manyOut 22 = .ok (.iconst 1, 1) := by decide +kernel
theorem dX12_manyOut_23 : decode cX12_manyOut 23 = .ok (.goto 4, 3) := by decide +kernel
theorem dX12_manyOut_26 : decode cX12_manyOut 26 = .ok (.iconst 0, 1) := by decide +kernel
theorem dX12_manyOut_27 : decode cX12_manyOut 27 = .ok (.iadd, 1) := by decide +kernel
theorem dX12_manyOut_28 : decode cX12_manyOut 28 = .ok (.istore_n 1, 1) := by decide +kernel
theorem dX12_manyOut_29 : decode cX12_manyOut 29 = .ok (.iinc 2 1, 3) := by decide +kernel
theorem dX12_manyOut_32 : decode cX12_manyOut 32 = .ok (.goto (-28), 3) := by decide +kernel
theorem dX12_manyOut_35 : decode cX12_manyOut 35 = .ok (.iload_n 1, 1) := by decide +kernel
theorem dX12_manyOut_36 : decode cX12_manyOut 36 = .ok (.ireturn, 1) := by decide +kernel
theorem dX12_count_0 : decode cX12_count 0 = .ok (.iload_n 1, 1) := by decide +kernel
theorem dX12_count_1 : decode cX12_count 1 = .ok (.tableswitch 95 0 7 #[47, 53, 59, 65, 71, 77, 83, 89], 47) := by decide +kernel
theorem dX12_count_48 : decode cX12_count 48 = .ok (.aload_n 0, 1) := by decide +kernel
theorem dX12_count_49 : decode cX12_count 49 = .ok (.invokevirtual 301, 3) := by decide +kernel
theorem dX12_count_52 : decode cX12_count 52 = .ok (.i2l, 1) := by decide +kernel
theorem dX12_count_53 : decode cX12_count 53 = .ok (.lreturn, 1) := by decide +kernel
theorem dX12_count_54 : decode cX12_count 54 = .ok (.aload_n 0, 1) := by decide +kernel
theorem dX12_count_55 : decode cX12_count 55 = .ok (.getfield 190, 3) := by decide +kernel
theorem dX12_count_58 : decode cX12_count 58 = .ok (.i2l, 1) := by decide +kernel
theorem dX12_count_59 : decode cX12_count 59 = .ok (.lreturn, 1) := by decide +kernel
theorem dX12_count_60 : decode cX12_count 60 = .ok (.aload_n 0, 1) := by decide +kernel
theorem dX12_count_61 : decode cX12_count 61 = .ok (.getfield 179, 3) := by decide +kernel
theorem dX12_count_64 : decode cX12_count 64 = .ok (.i2l, 1) := by decide +kernel
theorem dX12_count_65 : decode cX12_count 65 = .ok (.lreturn, 1) := by decide +kernel
theorem dX12_count_66 : decode cX12_count 66 = .ok (.aload_n 0, 1) := by decide +kernel
theorem dX12_count_67 : decode cX12_count 67 = .ok (.getfield 37, 3) := by decide +kernel
theorem dX12_count_70 : decode cX12_count 70 = .ok (.i2l, 1) := by decide +kernel
theorem dX12_count_71 : decode cX12_count 71 = .ok (.lreturn, 1) := by decide +kernel
theorem dX12_count_72 : decode cX12_count 72 = .ok (.aload_n 0, 1) := by decide +kernel
theorem dX12_count_73 : decode cX12_count 73 = .ok (.getfield 234, 3) := by decide +kernel
theorem dX12_count_76 : decode cX12_count 76 = .ok (.i2l, 1) := by decide +kernel
theorem dX12_count_77 : decode cX12_count 77 = .ok (.lreturn, 1) := by decide +kernel
theorem dX12_count_78 : decode cX12_count 78 = .ok (.aload_n 0, 1) := by decide +kernel
theorem dX12_count_79 : decode cX12_count 79 = .ok (.invokevirtual 304, 3) := by decide +kernel
theorem dX12_count_82 : decode cX12_count 82 = .ok (.i2l, 1) := by decide +kernel
theorem dX12_count_83 : decode cX12_count 83 = .ok (.lreturn, 1) := by decide +kernel
theorem dX12_count_84 : decode cX12_count 84 = .ok (.aload_n 0, 1) := by decide +kernel
theorem dX12_count_85 : decode cX12_count 85 = .ok (.getfield 270, 3) := by decide +kernel
theorem dX12_count_88 : decode cX12_count 88 = .ok (.i2l, 1) := by decide +kernel
theorem dX12_count_89 : decode cX12_count 89 = .ok (.lreturn, 1) := by decide +kernel
theorem dX12_count_90 : decode cX12_count 90 = .ok (.aload_n 0, 1) := by decide +kernel
theorem dX12_count_91 : decode cX12_count 91 = .ok (.getfield 140, 3) := by decide +kernel
theorem dX12_count_94 : decode cX12_count 94 = .ok (.i2l, 1) := by decide +kernel
theorem dX12_count_95 : decode cX12_count 95 = .ok (.lreturn, 1) := by decide +kernel
theorem dX12_count_96 : decode cX12_count 96 = .ok (.iconst 1, 1) := by decide +kernel
theorem dX12_count_97 : decode cX12_count 97 = .ok (.invokestatic 129, 3) := by decide +kernel
theorem dX12_count_100 : decode cX12_count 100 = .ok (.lreturn, 1) := by decide +kernel
theorem dX12_status_0 : decode cX12_status 0 = .ok (.aload_n 0, 1) := by decide +kernel
theorem dX12_status_1 : decode cX12_status 1 = .ok (.getfield 116, 3) := by decide +kernel
theorem dX12_status_4 : decode cX12_status 4 = .ok (.ireturn, 1) := by decide +kernel
