theorem dX12_init_0 : decode cX12_init 0 = .ok (.aload_n 0, 1) := by decide +kernel
theorem dX12_init_1 : decode cX12_init 1 = .ok (.invokespecial 1, 3) := by decide +kernel
theorem dX12_init_4 : decode cX12_init 4 = .ok (.aload_n 0, 1) := by decide +kernel
theorem dX12_init_5 : decode cX12_init 5 = .ok (.iconst (-1), 1) := by decide +kernel
theorem dX12_init_6 : decode cX12_init 6 = .ok (.putfield 9, 3) := by decide +kernel
theorem dX12_init_9 : decode cX12_init 9 = .ok (.aload_n 0, 1) := by decide +kernel
theorem dX12_init_10 : decode cX12_init 10 = .ok (.bipush 8, 2) := by decide +kernel
theorem dX12_init_12 : decode cX12_init 12 = .ok (.newarray .int, 2) := by decide +kernel
theorem dX12_init_14 : decode cX12_init 14 = .ok (.putfield 13, 3) := by decide +kernel
theorem dX12_init_17 : decode cX12_init 17 = .ok (.aload_n 0, 1) := by decide +kernel
theorem dX12_init_18 : decode cX12_init 18 = .ok (.bipush 8, 2) := by decide +kernel
theorem dX12_init_20 : decode cX12_init 20 = .ok (.newarray .int, 2) := by decide +kernel
theorem dX12_init_22 : decode cX12_init 22 = .ok (.putfield 17, 3) := by decide +kernel
theorem dX12_init_25 : decode cX12_init 25 = .ok (.aload_n 0, 1) := by decide +kernel
theorem dX12_init_26 : decode cX12_init 26 = .ok (.bipush 8, 2) := by decide +kernel
theorem dX12_init_28 : decode cX12_init 28 = .ok (.newarray .int, 2) := by decide +kernel
theorem dX12_init_30 : decode cX12_init 30 = .ok (.putfield 20, 3) := by decide +kernel
theorem dX12_init_33 : decode cX12_init 33 = .ok (.aload_n 0, 1) := by decide +kernel
theorem dX12_init_34 : decode cX12_init 34 = .ok (.bipush 8, 2) := by decide +kernel
theorem dX12_init_36 : decode cX12_init 36 = .ok (.newarray .int, 2) := by decide +kernel
theorem dX12_init_38 : decode cX12_init 38 = .ok (.putfield 23, 3) := by decide +kernel
theorem dX12_init_41 : decode cX12_init 41 = .ok (.aload_n 0, 1) := by decide +kernel
theorem dX12_init_42 : decode cX12_init 42 = .ok (.bipush 8, 2) := by decide +kernel
theorem dX12_init_44 : decode cX12_init 44 = .ok (.newarray .long, 2) := by decide +kernel
theorem dX12_init_46 : decode cX12_init 46 = .ok (.putfield 26, 3) := by decide +kernel
theorem dX12_init_49 : decode cX12_init 49 = .ok (.aload_n 0, 1) := by decide +kernel
theorem dX12_init_50 : decode cX12_init 50 = .ok (.bipush 8, 2) := by decide +kernel
theorem dX12_init_52 : decode cX12_init 52 = .ok (.newarray .int, 2) := by decide +kernel
theorem dX12_init_54 : decode cX12_init 54 = .ok (.putfield 30, 3) := by decide +kernel
theorem dX12_init_57 : decode cX12_init 57 = .ok (.aload_n 0, 1) := by decide +kernel
theorem dX12_init_58 : decode cX12_init 58 = .ok (.bipush 8, 2) := by decide +kernel
theorem dX12_init_60 : decode cX12_init 60 = .ok (.newarray .int, 2) := by decide +kernel
theorem dX12_init_62 : decode cX12_init 62 = .ok (.putfield 33, 3) := by decide +kernel
theorem dX12_init_65 : decode cX12_init 65 = .ok (.aload_n 0, 1) := by decide +kernel
theorem dX12_init_66 : decode cX12_init 66 = .ok (.bipush 8, 2) := by decide +kernel
theorem dX12_init_68 : decode cX12_init 68 = .ok (.newarray .int, 2) := by decide +kernel
theorem dX12_init_70 : decode cX12_init 70 = .ok (.putfield 36, 3) := by decide +kernel
theorem dX12_init_73 : decode cX12_init 73 = .ok (.aload_n 0, 1) := by decide +kernel
theorem dX12_init_74 : decode cX12_init 74 = .ok (.bipush 8, 2) := by decide +kernel
theorem dX12_init_76 : decode cX12_init 76 = .ok (.newarray .int, 2) := by decide +kernel
theorem dX12_init_78 : decode cX12_init 78 = .ok (.putfield 39, 3) := by decide +kernel
theorem dX12_init_81 : decode cX12_init 81 = .ok (.aload_n 0, 1) := by decide +kernel
theorem dX12_init_82 : decode cX12_init 82 = .ok (.sipush 1280, 3) := by decide +kernel
theorem dX12_init_85 : decode cX12_init 85 = .ok (.newarray .long, 2) := by decide +kernel
theorem dX12_init_87 : decode cX12_init 87 = .ok (.putfield 42, 3) := by decide +kernel
theorem dX12_init_90 : decode cX12_init 90 = .ok (.aload_n 0, 1) := by decide +kernel
theorem dX12_init_91 : decode cX12_init 91 = .ok (.sipush 160, 3) := by decide +kernel
theorem dX12_init_94 : decode cX12_init 94 = .ok (.newarray .long, 2) := by decide +kernel
theorem dX12_init_96 : decode cX12_init 96 = .ok (.putfield 45, 3) := by decide +kernel
theorem dX12_init_99 : decode cX12_init 99 = .ok (.aload_n 0, 1) := by decide +kernel
theorem dX12_init_100 : decode cX12_init 100 = .ok (.bipush 19, 2) := by decide +kernel
theorem dX12_init_102 : decode cX12_init 102 = .ok (.newarray .int, 2) := by decide +kernel
theorem dX12_init_104 : decode cX12_init 104 = .ok (.dup, 1) := by decide +kernel
theorem dX12_init_105 : decode cX12_init 105 = .ok (.iconst 0, 1) := by decide +kernel
theorem dX12_init_106 : decode cX12_init 106 = .ok (.bipush 115, 2) := by decide +kernel
theorem dX12_init_108 : decode cX12_init 108 = .ok (.iastore, 1) := by decide +kernel
theorem dX12_init_109 : decode cX12_init 109 = .ok (.dup, 1) := by decide +kernel
theorem dX12_init_110 : decode cX12_init 110 = .ok (.iconst 1, 1) := by decide +kernel
theorem dX12_init_111 : decode cX12_init 111 = .ok (.bipush 116, 2) := by decide +kernel
theorem dX12_init_113 : decode cX12_init 113 = .ok (.iastore, 1) := by decide +kernel
theorem dX12_init_114 : decode cX12_init 114 = .ok (.dup, 1) := by decide +kernel
theorem dX12_init_115 : decode cX12_init 115 = .ok (.iconst 2, 1) := by decide +kernel
theorem dX12_init_116 : decode cX12_init 116 = .ok (.bipush 114, 2) := by decide +kernel
theorem dX12_init_118 : decode cX12_init 118 = .ok (.iastore, 1) := by decide +kernel
theorem dX12_init_119 : decode cX12_init 119 = .ok (.dup, 1) := by decide +kernel
theorem dX12_init_120 : decode cX12_init 120 = .ok (.iconst 3, 1) := by decide +kernel
theorem dX12_init_121 : decode cX12_init 121 = .ok (.bipush 105, 2) := by decide +kernel
theorem dX12_init_123 : decode cX12_init 123 = .ok (.iastore, 1) := by decide +kernel
theorem dX12_init_124 : decode cX12_init 124 = .ok (.dup, 1) := by decide +kernel
theorem dX12_init_125 : decode cX12_init 125 = .ok (.iconst 4, 1) := by decide +kernel
theorem dX12_init_126 : decode cX12_init 126 = .ok (.bipush 112, 2) := by decide +kernel
theorem dX12_init_128 : decode cX12_init 128 = .ok (.iastore, 1) := by decide +kernel
theorem dX12_init_129 : decode cX12_init 129 = .ok (.dup, 1) := by decide +kernel
theorem dX12_init_130 : decode cX12_init 130 = .ok (.iconst 5, 1) := by decide +kernel
theorem dX12_init_131 : decode cX12_init 131 = .ok (.bipush 32, 2) := by decide +kernel
theorem dX12_init_133 : decode cX12_init 133 = .ok (.iastore, 1) := by decide +kernel
theorem dX12_init_134 : decode cX12_init 134 = .ok (.dup, 1) := by decide +kernel
theorem dX12_init_135 : decode cX12_init 135 = .ok (.bipush 6, 2) := by decide +kernel
theorem dX12_init_137 : decode cX12_init 137 = .ok (.iconst 0, 1) := by decide +kernel
theorem dX12_init_138 : decode cX12_init 138 = .ok (.iastore, 1) := by decide +kernel
theorem dX12_init_139 : decode cX12_init 139 = .ok (.dup, 1) := by decide +kernel
theorem dX12_init_140 : decode cX12_init 140 = .ok (.bipush 7, 2) := by decide +kernel
theorem dX12_init_142 : decode cX12_init 142 = .ok (.bipush 116, 2) := by decide +kernel
theorem dX12_init_144 : decode cX12_init 144 = .ok (.iastore, 1) := by decide +kernel
theorem dX12_init_145 : decode cX12_init 145 = .ok (.dup, 1) := by decide +kernel
theorem dX12_init_146 : decode cX12_init 146 = .ok (.bipush 8, 2) := by decide +kernel
theorem dX12_init_148 : decode cX12_init 148 = .ok (.bipush 117, 2) := by decide +kernel
theorem dX12_init_150 : decode cX12_init 150 = .ok (.iastore, 1) := by decide +kernel
theorem dX12_init_151 : decode cX12_init 151 = .ok (.dup, 1) := by decide +kernel
theorem dX12_init_152 : decode cX12_init 152 = .ok (.bipush 9, 2) := by decide +kernel
theorem dX12_init_154 : decode cX12_init 154 = .ok (.bipush 114, 2) := by decide +kernel
theorem dX12_init_156 : decode cX12_init 156 = .ok (.iastore, 1) := by decide +kernel
theorem dX12_init_157 : decode cX12_init 157 = .ok (.dup, 1) := by decide +kernel
theorem dX12_init_158 : decode cX12_init 158 = .ok (.bipush 10, 2) := by decide +kernel
theorem dX12_init_160 : decode cX12_init 160 = .ok (.bipush 110, 2) := by decide +kernel
theorem dX12_init_162 : decode cX12_init 162 = .ok (.iastore, 1) := by decide +kernel
theorem dX12_init_163 : decode cX12_init 163 = .ok (.dup, 1) := by decide +kernel
theorem dX12_init_164 : decode cX12_init 164 = .ok (.bipush 11, 2) := by decide +kernel
theorem dX12_init_166 : decode cX12_init 166 = .ok (.bipush 32, 2) := by decide +kernel
theorem dX12_init_168 : decode cX12_init 168 = .ok (.iastore, 1) := by decide +kernel
theorem dX12_init_169 : decode cX12_init 169 = .ok (.dup, 1) := by decide +kernel
theorem dX12_init_170 : decode cX12_init 170 = .ok (.bipush 12, 2) := by decide +kernel
theorem dX12_init_172 : decode cX12_init 172 = .ok (.iconst 0, 1) := by decide +kernel
theorem dX12_init_173 : decode cX12_init 173 = .ok (.iastore, 1) := by decide +kernel
theorem dX12_init_174 : decode cX12_init 174 = .ok (.dup, 1) := by decide +kernel
theorem dX12_init_175 : decode cX12_init 175 = .ok (.bipush 13, 2) := by decide +kernel
theorem dX12_init_177 : decode cX12_init 177 = .ok (.bipush 108, 2) := by decide +kernel
theorem dX12_init_179 : decode cX12_init 179 = .ok (.iastore, 1) := by decide +kernel
theorem dX12_init_180 : decode cX12_init 180 = .ok (.dup, 1) := by decide +kernel
theorem dX12_init_181 : decode cX12_init 181 = .ok (.bipush 14, 2) := by decide +kernel
theorem dX12_init_183 : decode cX12_init 183 = .ok (.bipush 101, 2) := by decide +kernel
theorem dX12_init_185 : decode cX12_init 185 = .ok (.iastore, 1) := by decide +kernel
theorem dX12_init_186 : decode cX12_init 186 = .ok (.dup, 1) := by decide +kernel
theorem dX12_init_187 : decode cX12_init 187 = .ok (.bipush 15, 2) := by decide +kernel
theorem dX12_init_189 : decode cX12_init 189 = .ok (.bipush 115, 2) := by decide +kernel
theorem dX12_init_191 : decode cX12_init 191 = .ok (.iastore, 1) := by decide +kernel
theorem dX12_init_192 : decode cX12_init 192 = .ok (.dup, 1) := by decide +kernel
theorem dX12_init_193 : decode cX12_init 193 = .ok (.bipush 16, 2) := by decide +kernel
theorem dX12_init_195 : decode cX12_init 195 = .ok (.bipush 115, 2) := by decide +kernel
theorem dX12_init_197 : decode cX12_init 197 = .ok (.iastore, 1) := by decide +kernel
theorem dX12_init_198 : decode cX12_init 198 = .ok (.dup, 1) := by decide +kernel
theorem dX12_init_199 : decode cX12_init 199 = .ok (.bipush 17, 2) := by decide +kernel
theorem dX12_init_201 : decode cX12_init 201 = .ok (.bipush 32, 2) := by decide +kernel
theorem dX12_init_203 : decode cX12_init 203 = .ok (.iastore, 1) := by decide +kernel
theorem dX12_init_204 : decode cX12_init 204 = .ok (.dup, 1) := by decide +kernel
theorem dX12_init_205 : decode cX12_init 205 = .ok (.bipush 18, 2) := by decide +kernel
theorem dX12_init_207 : decode cX12_init 207 = .ok (.iconst 0, 1) := by decide +kernel
theorem dX12_init_208 : decode cX12_init 208 = .ok (.iastore, 1) := by decide +kernel
theorem dX12_init_209 : decode cX12_init 209 = .ok (.putfield 48, 3) := by decide +kernel
theorem dX12_init_212 : decode cX12_init 212 = .ok (.aload_n 0, 1) := by decide +kernel
theorem dX12_init_213 : decode cX12_init 213 = .ok (.bipush 25, 2) := by decide +kernel
theorem dX12_init_215 : decode cX12_init 215 = .ok (.newarray .int, 2) := by decide +kernel
theorem dX12_init_217 : decode cX12_init 217 = .ok (.putfield 51, 3) := by decide +kernel
theorem dX12_init_220 : decode cX12_init 220 = .ok (.aload_n 0, 1) := by decide +kernel
theorem dX12_init_221 : decode cX12_init 221 = .ok (.bipush 25, 2) := by decide +kernel
theorem dX12_init_223 : decode cX12_init 223 = .ok (.newarray .int, 2) := by decide +kernel
theorem dX12_init_225 : decode cX12_init 225 = .ok (.putfield 54, 3) := by decide +kernel
theorem dX12_init_228 : decode cX12_init 228 = .ok (.aload_n 0, 1) := by decide +kernel
theorem dX12_init_229 : decode cX12_init 229 = .ok (.bipush 8, 2) := by decide +kernel
theorem dX12_init_231 : decode cX12_init 231 = .ok (.newarray .long, 2) := by decide +kernel
theorem dX12_init_233 : decode cX12_init 233 = .ok (.putfield 57, 3) := by decide +kernel
theorem dX12_init_236 : decode cX12_init 236 = .ok (.aload_n 0, 1) := by decide +kernel
theorem dX12_init_237 : decode cX12_init 237 = .ok (.bipush 8, 2) := by decide +kernel
theorem dX12_init_239 : decode cX12_init 239 = .ok (.newarray .long, 2) := by decide +kernel
theorem dX12_init_241 : decode cX12_init 241 = .ok (.putfield 60, 3) := by decide +kernel
theorem dX12_init_244 : decode cX12_init 244 = .ok (.aload_n 0, 1) := by decide +kernel
theorem dX12_init_245 : decode cX12_init 245 = .ok (.bipush 41, 2) := by decide +kernel
theorem dX12_init_247 : decode cX12_init 247 = .ok (.newarray .long, 2) := by decide +kernel
theorem dX12_init_249 : decode cX12_init 249 = .ok (.putfield 63, 3) := by decide +kernel
theorem dX12_init_252 : decode cX12_init 252 = .ok (.aload_n 0, 1) := by decide +kernel
theorem dX12_init_253 : decode cX12_init 253 = .ok (.bipush 41, 2) := by decide +kernel
theorem dX12_init_255 : decode cX12_init 255 = .ok (.newarray .long, 2) := by decide +kernel
theorem dX12_init_257 : decode cX12_init 257 = .ok (.putfield 66, 3) := by decide +kernel
theorem dX12_init_260 : decode cX12_init 260 = .ok (.aload_n 0, 1) := by decide +kernel
theorem dX12_init_261 : decode cX12_init 261 = .ok (.bipush 41, 2) := by decide +kernel
theorem dX12_init_263 : decode cX12_init 263 = .ok (.newarray .long, 2) := by decide +kernel
theorem dX12_init_265 : decode cX12_init 265 = .ok (.putfield 69, 3) := by decide +kernel
theorem dX12_init_268 : decode cX12_init 268 = .ok (.aload_n 0, 1) := by decide +kernel
theorem dX12_init_269 : decode cX12_init 269 = .ok (.bipush 41, 2) := by decide +kernel
theorem dX12_init_271 : decode cX12_init 271 = .ok (.newarray .long, 2) := by decide +kernel
theorem dX12_init_273 : decode cX12_init 273 = .ok (.putfield 72, 3) := by decide +kernel
theorem dX12_init_276 : decode cX12_init 276 = .ok (.aload_n 0, 1) := by decide +kernel
theorem dX12_init_277 : decode cX12_init 277 = .ok (.bipush 41, 2) := by decide +kernel
theorem dX12_init_279 : decode cX12_init 279 = .ok (.newarray .int, 2) := by decide +kernel
theorem dX12_init_281 : decode cX12_init 281 = .ok (.putfield 75, 3) := by decide +kernel
theorem dX12_init_284 : decode cX12_init 284 = .ok (.aload_n 0, 1) := by decide +kernel
theorem dX12_init_285 : decode cX12_init 285 = .ok (.bipush 41, 2) := by decide +kernel
theorem dX12_init_287 : decode cX12_init 287 = .ok (.newarray .int, 2) := by decide +kernel
theorem dX12_init_289 : decode cX12_init 289 = .ok (.putfield 78, 3) := by decide +kernel
theorem dX12_init_292 : decode cX12_init 292 = .ok (.aload_n 0, 1) := by decide +kernel
theorem dX12_init_293 : decode cX12_init 293 = .ok (.sipush 4001, 3) := by decide +kernel
theorem dX12_init_296 : decode cX12_init 296 = .ok (.newarray .int, 2) := by decide +kernel
theorem dX12_init_298 : decode cX12_init 298 = .ok (.putfield 81, 3) := by decide +kernel
theorem dX12_init_301 : decode cX12_init 301 = .ok (.aload_n 0, 1) := by decide +kernel
theorem dX12_init_302 : decode cX12_init 302 = .ok (.sipush 4001, 3) := by decide +kernel
theorem dX12_init_305 : decode cX12_init 305 = .ok (.newarray .int, 2) := by decide +kernel
theorem dX12_init_307 : decode cX12_init 307 = .ok (.putfield 84, 3) := by decide +kernel
theorem dX12_init_310 : decode cX12_init 310 = .ok (.aload_n 0, 1) := by decide +kernel
theorem dX12_init_311 : decode cX12_init 311 = .ok (.sipush 4001, 3) := by decide +kernel
theorem dX12_init_314 : decode cX12_init 314 = .ok (.newarray .int, 2) := by decide +kernel
theorem dX12_init_316 : decode cX12_init 316 = .ok (.putfield 87, 3) := by decide +kernel
theorem dX12_init_319 : decode cX12_init 319 = .ok (.aload_n 0, 1) := by decide +kernel
theorem dX12_init_320 : decode cX12_init 320 = .ok (.sipush 4001, 3) := by decide +kernel
theorem dX12_init_323 : decode cX12_init 323 = .ok (.newarray .int, 2) := by decide +kernel
theorem dX12_init_325 : decode cX12_init 325 = .ok (.putfield 90, 3) := by decide +kernel
theorem dX12_init_328 : decode cX12_init 328 = .ok (.aload_n 0, 1) := by decide +kernel
theorem dX12_init_329 : decode cX12_init 329 = .ok (.sipush 16384, 3) := by decide +kernel
theorem dX12_init_332 : decode cX12_init 332 = .ok (.newarray .int, 2) := by decide +kernel
theorem dX12_init_334 : decode cX12_init 334 = .ok (.putfield 93, 3) := by decide +kernel
theorem dX12_init_337 : decode cX12_init 337 = .ok (.aload_n 0, 1) := by decide +kernel
theorem dX12_init_338 : decode cX12_init 338 = .ok (.sipush 16384, 3) := by decide +kernel
theorem dX12_init_341 : decode cX12_init 341 = .ok (.newarray .int, 2) := by decide +kernel
theorem dX12_init_343 : decode cX12_init 343 = .ok (.putfield 96, 3) := by decide +kernel
theorem dX12_init_346 : decode cX12_init 346 = .ok (.aload_n 0, 1) := by decide +kernel
theorem dX12_init_347 : decode cX12_init 347 = .ok (.sipush 3721, 3) := by decide +kernel
theorem dX12_init_350 : decode cX12_init 350 = .ok (.newarray .int, 2) := by decide +kernel
theorem dX12_init_352 : decode cX12_init 352 = .ok (.putfield 99, 3) := by decide +kernel
theorem dX12_init_355 : decode cX12_init 355 = .ok (.aload_n 0, 1) := by decide +kernel
theorem dX12_init_356 : decode cX12_init 356 = .ok (.sipush 3721, 3) := by decide +kernel
theorem dX12_init_359 : decode cX12_init 359 = .ok (.newarray .int, 2) := by decide +kernel
theorem dX12_init_361 : decode cX12_init 361 = .ok (.putfield 102, 3) := by decide +kernel
theorem dX12_init_364 : decode cX12_init 364 = .ok (.aload_n 0, 1) := by decide +kernel
theorem dX12_init_365 : decode cX12_init 365 = .ok (.bipush 6, 2) := by decide +kernel
theorem dX12_init_367 : decode cX12_init 367 = .ok (.newarray .int, 2) := by decide +kernel
theorem dX12_init_369 : decode cX12_init 369 = .ok (.putfield 105, 3) := by decide +kernel
theorem dX12_init_372 : decode cX12_init 372 = .ok (.aload_n 0, 1) := by decide +kernel
theorem dX12_init_373 : decode cX12_init 373 = .ok (.bipush 6, 2) := by decide +kernel
theorem dX12_init_375 : decode cX12_init 375 = .ok (.newarray .int, 2) := by decide +kernel
theorem dX12_init_377 : decode cX12_init 377 = .ok (.putfield 108, 3) := by decide +kernel
theorem dX12_init_380 : decode cX12_init 380 = .ok (.aload_n 0, 1) := by decide +kernel
theorem dX12_init_381 : decode cX12_init 381 = .ok (.bipush 8, 2) := by decide +kernel
theorem dX12_init_383 : decode cX12_init 383 = .ok (.newarray .int, 2) := by decide +kernel
theorem dX12_init_385 : decode cX12_init 385 = .ok (.putfield 111, 3) := by decide +kernel
theorem dX12_init_388 : decode cX12_init 388 = .ok (.aload_n 0, 1) := by decide +kernel
theorem dX12_init_389 : decode cX12_init 389 = .ok (.bipush 8, 2) := by decide +kernel
theorem dX12_init_391 : decode cX12_init 391 = .ok (.newarray .int, 2) := by decide +kernel
theorem dX12_init_393 : decode cX12_init 393 = .ok (.putfield 114, 3) := by decide +kernel
theorem dX12_init_396 : decode cX12_init 396 = .ok (.aload_n 0, 1) := by decide +kernel
theorem dX12_init_397 : decode cX12_init 397 = .ok (.sipush 11136, 3) := by decide +kernel
theorem dX12_init_400 : decode cX12_init 400 = .ok (.newarray .int, 2) := by decide +kernel
theorem dX12_init_402 : decode cX12_init 402 = .ok (.putfield 117, 3) := by decide +kernel
theorem dX12_init_405 : decode cX12_init 405 = .ok (.aload_n 0, 1) := by decide +kernel
theorem dX12_init_406 : decode cX12_init 406 = .ok (.bipush 64, 2) := by decide +kernel
theorem dX12_init_408 : decode cX12_init 408 = .ok (.newarray .int, 2) := by decide +kernel
theorem dX12_init_410 : decode cX12_init 410 = .ok (.putfield 120, 3) := by decide +kernel
theorem dX12_init_413 : decode cX12_init 413 = .ok (.aload_n 0, 1) := by decide +kernel
theorem dX12_init_414 : decode cX12_init 414 = .ok (.bipush 64, 2) := by decide +kernel
theorem dX12_init_416 : decode cX12_init 416 = .ok (.newarray .int, 2) := by decide +kernel
theorem dX12_init_418 : decode cX12_init 418 = .ok (.putfield 123, 3) := by decide +kernel
theorem dX12_init_421 : decode cX12_init 421 = .ok (.aload_n 0, 1) := by decide +kernel
theorem dX12_init_422 : decode cX12_init 422 = .ok (.bipush 20, 2) := by decide +kernel
theorem dX12_init_424 : decode cX12_init 424 = .ok (.newarray .int, 2) := by decide +kernel
theorem dX12_init_426 : decode cX12_init 426 = .ok (.putfield 126, 3) := by decide +kernel
theorem dX12_init_429 : decode cX12_init 429 = .ok (.return_, 1) := by decide +kernel
theorem dX12_no_0 : decode cX12_no 0 = .ok (.aload_n 0, 1) := by decide +kernel
theorem dX12_no_1 : decode cX12_no 1 = .ok (.getfield 13, 3) := by decide +kernel
theorem dX12_no_4 : decode cX12_no 4 = .ok (.iload_n 1, 1) := by decide +kernel
theorem dX12_no_5 : decode cX12_no 5 = .ok (.ineg, 1) := by decide +kernel
theorem dX12_no_6 : decode cX12_no 6 = .ok (.dup2, 1) := by decide +kernel
theorem dX12_no_7 : decode cX12_no 7 = .ok (.iaload, 1) := by decide +kernel
theorem dX12_no_8 : decode cX12_no 8 = .ok (.iconst 1, 1) := by decide +kernel
theorem dX12_no_9 : decode cX12_no 9 = .ok (.iadd, 1) := by decide +kernel
theorem dX12_no_10 : decode cX12_no 10 = .ok (.iastore, 1) := by decide +kernel
theorem dX12_no_11 : decode cX12_no 11 = .ok (.iload_n 1, 1) := by decide +kernel
theorem dX12_no_12 : decode cX12_no 12 = .ok (.ireturn, 1) := by decide +kernel
theorem dX12_noTen_0 : decode cX12_noTen 0 = .ok (.aload_n 0, 1) := by decide +kernel
theorem dX12_noTen_1 : decode cX12_noTen 1 = .ok (.getfield 13, 3) := by decide +kernel
theorem dX12_noTen_4 : decode cX12_noTen 4 = .ok (.iload_n 1, 1) := by decide +kernel
theorem dX12_noTen_5 : decode cX12_noTen 5 = .ok (.ineg, 1) := by decide +kernel
theorem dX12_noTen_6 : decode cX12_noTen 6 = .ok (.dup2, 1) := by decide +kernel
theorem dX12_noTen_7 : decode cX12_noTen 7 = .ok (.iaload, 1) := by decide +kernel
theorem dX12_noTen_8 : decode cX12_noTen 8 = .ok (.iconst 1, 1) := by decide +kernel
theorem dX12_noTen_9 : decode cX12_noTen 9 = .ok (.iadd, 1) := by decide +kernel
theorem dX12_noTen_10 : decode cX12_noTen 10 = .ok (.iastore, 1) := by decide +kernel
theorem dX12_noTen_11 : decode cX12_noTen 11 = .ok (.iload_n 1, 1) := by decide +kernel
theorem dX12_noTen_12 : decode cX12_noTen 12 = .ok (.bipush 10, 2) := by decide +kernel
theorem dX12_noTen_14 : decode cX12_noTen 14 = .ok (.isub, 1) := by decide +kernel
theorem dX12_noTen_15 : decode cX12_noTen 15 = .ok (.ireturn, 1) := by decide +kernel
theorem dX12_isShelf_0 : decode cX12_isShelf 0 = .ok (.iload_n 1, 1) := by decide +kernel
theorem dX12_isShelf_1 : decode cX12_isShelf 1 = .ok (.ifCond .lt 13, 3) := by decide +kernel
theorem dX12_isShelf_4 : decode cX12_isShelf 4 = .ok (.iload_n 1, 1) := by decide +kernel
theorem dX12_isShelf_5 : decode cX12_isShelf 5 = .ok (.bipush 8, 2) := by decide +kernel
theorem dX12_isShelf_7 : decode cX12_isShelf 7 = .ok (.if_icmp .ge 7, 3) := by decide +kernel
theorem dX12_isShelf_10 : decode cX12_isShelf 10 = .ok (.iconst 1, 1) := by decide +kernel
theorem dX12_isShelf_11 : decode cX12_isShelf 11 = .ok (.goto 4, 3) := by decide +kernel
theorem dX12_isShelf_14 : decode cX12_isShelf 14 = .ok (.iconst 0, 1) := by decide +kernel
theorem dX12_isShelf_15 : decode cX12_isShelf 15 = .ok (.ireturn, 1) := by decide +kernel
theorem dX12_isStrip_0 : decode cX12_isStrip 0 = .ok (.iload_n 1, 1) := by decide +kernel
theorem dX12_isStrip_1 : decode cX12_isStrip 1 = .ok (.ifCond .lt 15, 3) := by decide +kernel
theorem dX12_isStrip_4 : decode cX12_isStrip 4 = .ok (.iload_n 1, 1) := by decide +kernel
theorem dX12_isStrip_5 : decode cX12_isStrip 5 = .ok (.aload_n 0, 1) := by decide +kernel
theorem dX12_isStrip_6 : decode cX12_isStrip 6 = .ok (.getfield 129, 3) := by decide +kernel
theorem dX12_isStrip_9 : decode cX12_isStrip 9 = .ok (.if_icmp .ge 7, 3) := by decide +kernel
theorem dX12_isStrip_12 : decode cX12_isStrip 12 = .ok (.iconst 1, 1) := by decide +kernel
theorem dX12_isStrip_13 : decode cX12_isStrip 13 = .ok (.goto 4, 3) := by decide +kernel
theorem dX12_isStrip_16 : decode cX12_isStrip 16 = .ok (.iconst 0, 1) := by decide +kernel
theorem dX12_isStrip_17 : decode cX12_isStrip 17 = .ok (.ireturn, 1) := by decide +kernel
theorem dX12_row_0 : decode cX12_row 0 = .ok (.aload_n 0, 1) := by decide +kernel
theorem dX12_row_1 : decode cX12_row 1 = .ok (.iload_n 1, 1) := by decide +kernel
theorem dX12_row_2 : decode cX12_row 2 = .ok (.invokevirtual 132, 3) := by decide +kernel
theorem dX12_row_5 : decode cX12_row 5 = .ok (.ifCond .ne 9, 3) := by decide +kernel
theorem dX12_row_8 : decode cX12_row 8 = .ok (.aload_n 0, 1) := by decide +kernel
theorem dX12_row_9 : decode cX12_row 9 = .ok (.iconst (-1), 1) := by decide +kernel
theorem dX12_row_10 : decode cX12_row 10 = .ok (.invokevirtual 136, 3) := by decide +kernel
theorem dX12_row_13 : decode cX12_row 13 = .ok (.ireturn, 1) := by decide +kernel
theorem dX12_row_14 : decode cX12_row 14 = .ok (.iload_n 3, 1) := by decide +kernel
theorem dX12_row_15 : decode cX12_row 15 = .ok (.ifCond .ge 10, 3) := by decide +kernel
theorem dX12_row_18 : decode cX12_row 18 = .ok (.aload_n 0, 1) := by decide +kernel
theorem dX12_row_19 : decode cX12_row 19 = .ok (.bipush (-4), 2) := by decide +kernel
theorem dX12_row_21 : decode cX12_row 21 = .ok (.invokevirtual 136, 3) := by decide +kernel
theorem dX12_row_24 : decode cX12_row 24 = .ok (.ireturn, 1) := by decide +kernel
theorem dX12_row_25 : decode cX12_row 25 = .ok (.iload_n 2, 1) := by decide +kernel
theorem dX12_row_26 : decode cX12_row 26 = .ok (.ifCond .lt 8, 3) := by decide +kernel
theorem dX12_row_29 : decode cX12_row 29 = .ok (.iload_n 2, 1) := by decide +kernel
theorem dX12_row_30 : decode cX12_row 30 = .ok (.iconst 3, 1) := by decide +kernel
theorem dX12_row_31 : decode cX12_row 31 = .ok (.if_icmp .le 10, 3) := by decide +kernel
theorem dX12_row_34 : decode cX12_row 34 = .ok (.aload_n 0, 1) := by decide +kernel
theorem dX12_row_35 : decode cX12_row 35 = .ok (.bipush (-6), 2) := by decide +kernel
theorem dX12_row_37 : decode cX12_row 37 = .ok (.invokevirtual 136, 3) := by decide +kernel
theorem dX12_row_40 : decode cX12_row 40 = .ok (.ireturn, 1) := by decide +kernel
theorem dX12_row_41 : decode cX12_row 41 = .ok (.iload_n 3, 1) := by decide +kernel
theorem dX12_row_42 : decode cX12_row 42 = .ok (.sipush 160, 3) := by decide +kernel
theorem dX12_row_45 : decode cX12_row 45 = .ok (.if_icmp .le 10, 3) := by decide +kernel
theorem dX12_row_48 : decode cX12_row 48 = .ok (.aload_n 0, 1) := by decide +kernel
theorem dX12_row_49 : decode cX12_row 49 = .ok (.bipush (-7), 2) := by decide +kernel
theorem dX12_row_51 : decode cX12_row 51 = .ok (.invokevirtual 136, 3) := by decide +kernel
theorem dX12_row_54 : decode cX12_row 54 = .ok (.ireturn, 1) := by decide +kernel
theorem dX12_row_55 : decode cX12_row 55 = .ok (.aload_n 0, 1) := by decide +kernel
theorem dX12_row_56 : decode cX12_row 56 = .ok (.getfield 30, 3) := by decide +kernel
theorem dX12_row_59 : decode cX12_row 59 = .ok (.iload_n 1, 1) := by decide +kernel
theorem dX12_row_60 : decode cX12_row 60 = .ok (.iconst 1, 1) := by decide +kernel
theorem dX12_row_61 : decode cX12_row 61 = .ok (.iastore, 1) := by decide +kernel
theorem dX12_row_62 : decode cX12_row 62 = .ok (.aload_n 0, 1) := by decide +kernel
theorem dX12_row_63 : decode cX12_row 63 = .ok (.getfield 33, 3) := by decide +kernel
theorem dX12_row_66 : decode cX12_row 66 = .ok (.iload_n 1, 1) := by decide +kernel
theorem dX12_row_67 : decode cX12_row 67 = .ok (.iload_n 2, 1) := by decide +kernel
theorem dX12_row_68 : decode cX12_row 68 = .ok (.iastore, 1) := by decide +kernel
theorem dX12_row_69 : decode cX12_row 69 = .ok (.aload_n 0, 1) := by decide +kernel
theorem dX12_row_70 : decode cX12_row 70 = .ok (.getfield 36, 3) := by decide +kernel
theorem dX12_row_73 : decode cX12_row 73 = .ok (.iload_n 1, 1) := by decide +kernel
theorem dX12_row_74 : decode cX12_row 74 = .ok (.iload_n 3, 1) := by decide +kernel
theorem dX12_row_75 : decode cX12_row 75 = .ok (.iastore, 1) := by decide +kernel
theorem dX12_row_76 : decode cX12_row 76 = .ok (.iconst 0, 1) := by decide +kernel
theorem dX12_row_77 : decode cX12_row 77 = .ok (.istore 4, 2) := by decide +kernel
theorem dX12_row_79 : decode cX12_row 79 = .ok (.iload 4, 2) := by decide +kernel
theorem dX12_row_81 : decode cX12_row 81 = .ok (.sipush 160, 3) := by decide +kernel
theorem dX12_row_84 : decode cX12_row 84 = .ok (.if_icmp .ge 23, 3) := by decide +kernel
theorem dX12_row_87 : decode cX12_row 87 = .ok (.aload_n 0, 1) := by decide +kernel
theorem dX12_row_88 : decode cX12_row 88 = .ok (.getfield 42, 3) := by decide +kernel
theorem dX12_row_91 : decode cX12_row 91 = .ok (.sipush 160, 3) := by decide +kernel
theorem dX12_row_94 : decode cX12_row 94 = .ok (.iload_n 1, 1) := by decide +kernel
theorem dX12_row_95 : decode cX12_row 95 = .ok (.imul, 1) := by decide +kernel
theorem dX12_row_96 : decode cX12_row 96 = .ok (.iload 4, 2) := by decide +kernel
theorem dX12_row_98 : decode cX12_row 98 = .ok (.iadd, 1) := by decide +kernel
theorem dX12_row_99 : decode cX12_row 99 = .ok (.lconst 0, 1) := by decide +kernel
theorem dX12_row_100 : decode cX12_row 100 = .ok (.lastore, 1) := by decide +kernel
theorem dX12_row_101 : decode cX12_row 101 = .ok (.iinc 4 1, 3) := by decide +kernel
theorem dX12_row_104 : decode cX12_row 104 = .ok (.goto (-25), 3) := by decide +kernel
theorem dX12_row_107 : decode cX12_row 107 = .ok (.iconst 1, 1) := by decide +kernel
theorem dX12_row_108 : decode cX12_row 108 = .ok (.ireturn, 1) := by decide +kernel
theorem dX12_set_0 : decode cX12_set 0 = .ok (.aload_n 0, 1) := by decide +kernel
theorem dX12_set_1 : decode cX12_set 1 = .ok (.iload_n 1, 1) := by decide +kernel
theorem dX12_set_2 : decode cX12_set 2 = .ok (.invokevirtual 132, 3) := by decide +kernel
theorem dX12_set_5 : decode cX12_set 5 = .ok (.ifCond .ne 9, 3) := by decide +kernel
theorem dX12_set_8 : decode cX12_set 8 = .ok (.aload_n 0, 1) := by decide +kernel
theorem dX12_set_9 : decode cX12_set 9 = .ok (.iconst (-1), 1) := by decide +kernel
theorem dX12_set_10 : decode cX12_set 10 = .ok (.invokevirtual 136, 3) := by decide +kernel
theorem dX12_set_13 : decode cX12_set 13 = .ok (.ireturn, 1) := by decide +kernel
theorem dX12_set_14 : decode cX12_set 14 = .ok (.aload_n 0, 1) := by decide +kernel
theorem dX12_set_15 : decode cX12_set 15 = .ok (.getfield 30, 3) := by decide +kernel
theorem dX12_set_18 : decode cX12_set 18 = .ok (.iload_n 1, 1) := by decide +kernel
theorem dX12_set_19 : decode cX12_set 19 = .ok (.iaload, 1) := by decide +kernel
theorem dX12_set_20 : decode cX12_set 20 = .ok (.iconst 2, 1) := by decide +kernel
theorem dX12_set_21 : decode cX12_set 21 = .ok (.if_icmp .ne 10, 3) := by decide +kernel
theorem dX12_set_24 : decode cX12_set 24 = .ok (.aload_n 0, 1) := by decide +kernel
theorem dX12_set_25 : decode cX12_set 25 = .ok (.bipush (-2), 2) := by decide +kernel
theorem dX12_set_27 : decode cX12_set 27 = .ok (.invokevirtual 136, 3) := by decide +kernel
theorem dX12_set_30 : decode cX12_set 30 = .ok (.ireturn, 1) := by decide +kernel
theorem dX12_set_31 : decode cX12_set 31 = .ok (.aload_n 0, 1) := by decide +kernel
theorem dX12_set_32 : decode cX12_set 32 = .ok (.getfield 30, 3) := by decide +kernel
theorem dX12_set_35 : decode cX12_set 35 = .ok (.iload_n 1, 1) := by decide +kernel
theorem dX12_set_36 : decode cX12_set 36 = .ok (.iaload, 1) := by decide +kernel
theorem dX12_set_37 : decode cX12_set 37 = .ok (.ifCond .ne 10, 3) := by decide +kernel
theorem dX12_set_40 : decode cX12_set 40 = .ok (.aload_n 0, 1) := by decide +kernel
theorem dX12_set_41 : decode cX12_set 41 = .ok (.bipush (-3), 2) := by decide +kernel
theorem dX12_set_43 : decode cX12_set 43 = .ok (.invokevirtual 136, 3) := by decide +kernel
theorem dX12_set_46 : decode cX12_set 46 = .ok (.ireturn, 1) := by decide +kernel
theorem dX12_set_47 : decode cX12_set 47 = .ok (.iload_n 2, 1) := by decide +kernel
theorem dX12_set_48 : decode cX12_set 48 = .ok (.ifCond .lt 13, 3) := by decide +kernel
theorem dX12_set_51 : decode cX12_set 51 = .ok (.iload_n 2, 1) := by decide +kernel
theorem dX12_set_52 : decode cX12_set 52 = .ok (.aload_n 0, 1) := by decide +kernel
theorem dX12_set_53 : decode cX12_set 53 = .ok (.getfield 36, 3) := by decide +kernel
theorem dX12_set_56 : decode cX12_set 56 = .ok (.iload_n 1, 1) := by decide +kernel
theorem dX12_set_57 : decode cX12_set 57 = .ok (.iaload, 1) := by decide +kernel
theorem dX12_set_58 : decode cX12_set 58 = .ok (.if_icmp .lt 10, 3) := by decide +kernel
theorem dX12_set_61 : decode cX12_set 61 = .ok (.aload_n 0, 1) := by decide +kernel
theorem dX12_set_62 : decode cX12_set 62 = .ok (.bipush (-5), 2) := by decide +kernel
theorem dX12_set_64 : decode cX12_set 64 = .ok (.invokevirtual 136, 3) := by decide +kernel
theorem dX12_set_67 : decode cX12_set 67 = .ok (.ireturn, 1) := by decide +kernel
theorem dX12_set_68 : decode cX12_set 68 = .ok (.aload_n 0, 1) := by decide +kernel
theorem dX12_set_69 : decode cX12_set 69 = .ok (.getfield 42, 3) := by decide +kernel
theorem dX12_set_72 : decode cX12_set 72 = .ok (.sipush 160, 3) := by decide +kernel
theorem dX12_set_75 : decode cX12_set 75 = .ok (.iload_n 1, 1) := by decide +kernel
theorem dX12_set_76 : decode cX12_set 76 = .ok (.imul, 1) := by decide +kernel
theorem dX12_set_77 : decode cX12_set 77 = .ok (.iload_n 2, 1) := by decide +kernel
theorem dX12_set_78 : decode cX12_set 78 = .ok (.iadd, 1) := by decide +kernel
theorem dX12_set_79 : decode cX12_set 79 = .ok (.aload_n 0, 1) := by decide +kernel
theorem dX12_set_80 : decode cX12_set 80 = .ok (.getfield 33, 3) := by decide +kernel
theorem dX12_set_83 : decode cX12_set 83 = .ok (.iload_n 1, 1) := by decide +kernel
theorem dX12_set_84 : decode cX12_set 84 = .ok (.iaload, 1) := by decide +kernel
theorem dX12_set_85 : decode cX12_set 85 = .ok (.ifCond .ne 10, 3) := by decide +kernel
theorem dX12_set_88 : decode cX12_set 88 = .ok (.lload_n 3, 1) := by decide +kernel
theorem dX12_set_89 : decode cX12_set 89 = .ok (.l2i, 1) := by decide +kernel
theorem dX12_set_90 : decode cX12_set 90 = .ok (.i2b, 1) := by decide +kernel
theorem dX12_set_91 : decode cX12_set 91 = .ok (.i2l, 1) := by decide +kernel
theorem dX12_set_92 : decode cX12_set 92 = .ok (.goto 37, 3) := by decide +kernel
theorem dX12_set_95 : decode cX12_set 95 = .ok (.aload_n 0, 1) := by decide +kernel
theorem dX12_set_96 : decode cX12_set 96 = .ok (.getfield 33, 3) := by decide +kernel
theorem dX12_set_99 : decode cX12_set 99 = .ok (.iload_n 1, 1) := by decide +kernel
theorem dX12_set_100 : decode cX12_set 100 = .ok (.iaload, 1) := by decide +kernel
theorem dX12_set_101 : decode cX12_set 101 = .ok (.iconst 1, 1) := by decide +kernel
theorem dX12_set_102 : decode cX12_set 102 = .ok (.if_icmp .ne 10, 3) := by decide +kernel
theorem dX12_set_105 : decode cX12_set 105 = .ok (.lload_n 3, 1) := by decide +kernel
theorem dX12_set_106 : decode cX12_set 106 = .ok (.l2i, 1) := by decide +kernel
theorem dX12_set_107 : decode cX12_set 107 = .ok (.i2s, 1) := by decide +kernel
theorem dX12_set_108 : decode cX12_set 108 = .ok (.i2l, 1) := by decide +kernel
theorem dX12_set_109 : decode cX12_set 109 = .ok (.goto 20, 3) := by decide +kernel
theorem dX12_set_112 : decode cX12_set 112 = .ok (.aload_n 0, 1) := by decide +kernel
theorem dX12_set_113 : decode cX12_set 113 = .ok (.getfield 33, 3) := by decide +kernel
theorem dX12_set_116 : decode cX12_set 116 = .ok (.iload_n 1, 1) := by decide +kernel
theorem dX12_set_117 : decode cX12_set 117 = .ok (.iaload, 1) := by decide +kernel
theorem dX12_set_118 : decode cX12_set 118 = .ok (.iconst 2, 1) := by decide +kernel
theorem dX12_set_119 : decode cX12_set 119 = .ok (.if_icmp .ne 9, 3) := by decide +kernel
theorem dX12_set_122 : decode cX12_set 122 = .ok (.lload_n 3, 1) := by decide +kernel
theorem dX12_set_123 : decode cX12_set 123 = .ok (.l2i, 1) := by decide +kernel
theorem dX12_set_124 : decode cX12_set 124 = .ok (.i2l, 1) := by decide +kernel
theorem dX12_set_125 : decode cX12_set 125 = .ok (.goto 4, 3) := by decide +kernel
theorem dX12_set_128 : decode cX12_set 128 = .ok (.lload_n 3, 1) := by decide +kernel
theorem dX12_set_129 : decode cX12_set 129 = .ok (.lastore, 1) := by decide +kernel
theorem dX12_set_130 : decode cX12_set 130 = .ok (.iconst 1, 1) := by decide +kernel
theorem dX12_set_131 : decode cX12_set 131 = .ok (.ireturn, 1) := by decide +kernel
theorem dX12_copy_0 : decode cX12_copy 0 = .ok (.aload_n 0, 1) := by decide +kernel
theorem dX12_copy_1 : decode cX12_copy 1 = .ok (.iload_n 1, 1) := by decide +kernel
theorem dX12_copy_2 : decode cX12_copy 2 = .ok (.invokevirtual 132, 3) := by decide +kernel
theorem dX12_copy_5 : decode cX12_copy 5 = .ok (.ifCond .eq 11, 3) := by decide +kernel
theorem dX12_copy_8 : decode cX12_copy 8 = .ok (.aload_n 0, 1) := by decide +kernel
theorem dX12_copy_9 : decode cX12_copy 9 = .ok (.iload_n 2, 1) := by decide +kernel
theorem dX12_copy_10 : decode cX12_copy 10 = .ok (.invokevirtual 132, 3) := by decide +kernel
theorem dX12_copy_13 : decode cX12_copy 13 = .ok (.ifCond .ne 9, 3) := by decide +kernel
theorem dX12_copy_16 : decode cX12_copy 16 = .ok (.aload_n 0, 1) := by decide +kernel
theorem dX12_copy_17 : decode cX12_copy 17 = .ok (.iconst (-1), 1) := by decide +kernel
theorem dX12_copy_18 : decode cX12_copy 18 = .ok (.invokevirtual 136, 3) := by decide +kernel
theorem dX12_copy_21 : decode cX12_copy 21 = .ok (.ireturn, 1) := by decide +kernel
theorem dX12_copy_22 : decode cX12_copy 22 = .ok (.aload_n 0, 1) := by decide +kernel
theorem dX12_copy_23 : decode cX12_copy 23 = .ok (.getfield 30, 3) := by decide +kernel
theorem dX12_copy_26 : decode cX12_copy 26 = .ok (.iload_n 1, 1) := by decide +kernel
theorem dX12_copy_27 : decode cX12_copy 27 = .ok (.iaload, 1) := by decide +kernel
theorem dX12_copy_28 : decode cX12_copy 28 = .ok (.iconst 2, 1) := by decide +kernel
theorem dX12_copy_29 : decode cX12_copy 29 = .ok (.if_icmp .eq 48, 3) := by decide +kernel
theorem dX12_copy_32 : decode cX12_copy 32 = .ok (.aload_n 0, 1) := by decide +kernel
theorem dX12_copy_33 : decode cX12_copy 33 = .ok (.getfield 30, 3) := by decide +kernel
theorem dX12_copy_36 : decode cX12_copy 36 = .ok (.iload_n 2, 1) := by decide +kernel
theorem dX12_copy_37 : decode cX12_copy 37 = .ok (.iaload, 1) := by decide +kernel
theorem dX12_copy_38 : decode cX12_copy 38 = .ok (.iconst 2, 1) := by decide +kernel
theorem dX12_copy_39 : decode cX12_copy 39 = .ok (.if_icmp .eq 38, 3) := by decide +kernel
theorem dX12_copy_42 : decode cX12_copy 42 = .ok (.aload_n 0, 1) := by decide +kernel
theorem dX12_copy_43 : decode cX12_copy 43 = .ok (.getfield 30, 3) := by decide +kernel
theorem dX12_copy_46 : decode cX12_copy 46 = .ok (.iload_n 1, 1) := by decide +kernel
theorem dX12_copy_47 : decode cX12_copy 47 = .ok (.iaload, 1) := by decide +kernel
theorem dX12_copy_48 : decode cX12_copy 48 = .ok (.iconst 1, 1) := by decide +kernel
theorem dX12_copy_49 : decode cX12_copy 49 = .ok (.if_icmp .ne 35, 3) := by decide +kernel
theorem dX12_copy_52 : decode cX12_copy 52 = .ok (.aload_n 0, 1) := by decide +kernel
theorem dX12_copy_53 : decode cX12_copy 53 = .ok (.getfield 30, 3) := by decide +kernel
theorem dX12_copy_56 : decode cX12_copy 56 = .ok (.iload_n 2, 1) := by decide +kernel
theorem dX12_copy_57 : decode cX12_copy 57 = .ok (.iaload, 1) := by decide +kernel
theorem dX12_copy_58 : decode cX12_copy 58 = .ok (.iconst 1, 1) := by decide +kernel
theorem dX12_copy_59 : decode cX12_copy 59 = .ok (.if_icmp .ne 25, 3) := by decide +kernel
theorem dX12_copy_62 : decode cX12_copy 62 = .ok (.aload_n 0, 1) := by decide +kernel
theorem dX12_copy_63 : decode cX12_copy 63 = .ok (.getfield 33, 3) := by decide +kernel
theorem dX12_copy_66 : decode cX12_copy 66 = .ok (.iload_n 1, 1) := by decide +kernel
theorem dX12_copy_67 : decode cX12_copy 67 = .ok (.iaload, 1) := by decide +kernel
theorem dX12_copy_68 : decode cX12_copy 68 = .ok (.aload_n 0, 1) := by decide +kernel
theorem dX12_copy_69 : decode cX12_copy 69 = .ok (.getfield 33, 3) := by decide +kernel
theorem dX12_copy_72 : decode cX12_copy 72 = .ok (.iload_n 2, 1) := by decide +kernel
theorem dX12_copy_73 : decode cX12_copy 73 = .ok (.iaload, 1) := by decide +kernel
theorem dX12_copy_74 : decode cX12_copy 74 = .ok (.if_icmp .eq 10, 3) := by decide +kernel
theorem dX12_copy_77 : decode cX12_copy 77 = .ok (.aload_n 0, 1) := by decide +kernel
theorem dX12_copy_78 : decode cX12_copy 78 = .ok (.bipush (-2), 2) := by decide +kernel
theorem dX12_copy_80 : decode cX12_copy 80 = .ok (.invokevirtual 136, 3) := by decide +kernel
theorem dX12_copy_83 : decode cX12_copy 83 = .ok (.ireturn, 1) := by decide +kernel
theorem dX12_copy_84 : decode cX12_copy 84 = .ok (.aload_n 0, 1) := by decide +kernel
theorem dX12_copy_85 : decode cX12_copy 85 = .ok (.getfield 30, 3) := by decide +kernel
theorem dX12_copy_88 : decode cX12_copy 88 = .ok (.iload_n 1, 1) := by decide +kernel
theorem dX12_copy_89 : decode cX12_copy 89 = .ok (.iaload, 1) := by decide +kernel
theorem dX12_copy_90 : decode cX12_copy 90 = .ok (.ifCond .eq 12, 3) := by decide +kernel
theorem dX12_copy_93 : decode cX12_copy 93 = .ok (.aload_n 0, 1) := by decide +kernel
theorem dX12_copy_94 : decode cX12_copy 94 = .ok (.getfield 30, 3) := by decide +kernel
theorem dX12_copy_97 : decode cX12_copy 97 = .ok (.iload_n 2, 1) := by decide +kernel
theorem dX12_copy_98 : decode cX12_copy 98 = .ok (.iaload, 1) := by decide +kernel
theorem dX12_copy_99 : decode cX12_copy 99 = .ok (.ifCond .ne 10, 3) := by decide +kernel
theorem dX12_copy_102 : decode cX12_copy 102 = .ok (.aload_n 0, 1) := by decide +kernel
theorem dX12_copy_103 : decode cX12_copy 103 = .ok (.bipush (-3), 2) := by decide +kernel
theorem dX12_copy_105 : decode cX12_copy 105 = .ok (.invokevirtual 136, 3) := by decide +kernel
theorem dX12_copy_108 : decode cX12_copy 108 = .ok (.ireturn, 1) := by decide +kernel
theorem dX12_copy_109 : decode cX12_copy 109 = .ok (.iload 5, 2) := by decide +kernel
theorem dX12_copy_111 : decode cX12_copy 111 = .ok (.ifCond .ge 10, 3) := by decide +kernel
theorem dX12_copy_114 : decode cX12_copy 114 = .ok (.aload_n 0, 1) := by decide +kernel
theorem dX12_copy_115 : decode cX12_copy 115 = .ok (.bipush (-4), 2) := by decide +kernel
theorem dX12_copy_117 : decode cX12_copy 117 = .ok (.invokevirtual 136, 3) := by decide +kernel
theorem dX12_copy_120 : decode cX12_copy 120 = .ok (.ireturn, 1) := by decide +kernel
theorem dX12_copy_121 : decode cX12_copy 121 = .ok (.iload_n 3, 1) := by decide +kernel
theorem dX12_copy_122 : decode cX12_copy 122 = .ok (.ifCond .lt 35, 3) := by decide +kernel
theorem dX12_copy_125 : decode cX12_copy 125 = .ok (.iload 4, 2) := by decide +kernel
theorem dX12_copy_127 : decode cX12_copy 127 = .ok (.ifCond .lt 30, 3) := by decide +kernel
theorem dX12_copy_130 : decode cX12_copy 130 = .ok (.iload_n 3, 1) := by decide +kernel
theorem dX12_copy_131 : decode cX12_copy 131 = .ok (.aload_n 0, 1) := by decide +kernel
theorem dX12_copy_132 : decode cX12_copy 132 = .ok (.getfield 36, 3) := by decide +kernel
theorem dX12_copy_135 : decode cX12_copy 135 = .ok (.iload_n 1, 1) := by decide +kernel
theorem dX12_copy_136 : decode cX12_copy 136 = .ok (.iaload, 1) := by decide +kernel
theorem dX12_copy_137 : decode cX12_copy 137 = .ok (.iload 5, 2) := by decide +kernel
theorem dX12_copy_139 : decode cX12_copy 139 = .ok (.isub, 1) := by decide +kernel
theorem dX12_copy_140 : decode cX12_copy 140 = .ok (.if_icmp .gt 17, 3) := by decide +kernel
theorem dX12_copy_143 : decode cX12_copy 143 = .ok (.iload 4, 2) := by decide +kernel
theorem dX12_copy_145 : decode cX12_copy 145 = .ok (.aload_n 0, 1) := by decide +kernel
theorem dX12_copy_146 : decode cX12_copy 146 = .ok (.getfield 36, 3) := by decide +kernel
theorem dX12_copy_149 : decode cX12_copy 149 = .ok (.iload_n 2, 1) := by decide +kernel
theorem dX12_copy_150 : decode cX12_copy 150 = .ok (.iaload, 1) := by decide +kernel
theorem dX12_copy_151 : decode cX12_copy 151 = .ok (.iload 5, 2) := by decide +kernel
theorem dX12_copy_153 : decode cX12_copy 153 = .ok (.isub, 1) := by decide +kernel
theorem dX12_copy_154 : decode cX12_copy 154 = .ok (.if_icmp .le 10, 3) := by decide +kernel
theorem dX12_copy_157 : decode cX12_copy 157 = .ok (.aload_n 0, 1) := by decide +kernel
theorem dX12_copy_158 : decode cX12_copy 158 = .ok (.bipush (-5), 2) := by decide +kernel
theorem dX12_copy_160 : decode cX12_copy 160 = .ok (.invokevirtual 136, 3) := by decide +kernel
theorem dX12_copy_163 : decode cX12_copy 163 = .ok (.ireturn, 1) := by decide +kernel
theorem dX12_copy_164 : decode cX12_copy 164 = .ok (.iconst 0, 1) := by decide +kernel
theorem dX12_copy_165 : decode cX12_copy 165 = .ok (.istore 6, 2) := by decide +kernel
theorem dX12_copy_167 : decode cX12_copy 167 = .ok (.iload 6, 2) := by decide +kernel
theorem dX12_copy_169 : decode cX12_copy 169 = .ok (.iload 5, 2) := by decide +kernel
theorem dX12_copy_171 : decode cX12_copy 171 = .ok (.if_icmp .ge 31, 3) := by decide +kernel
theorem dX12_copy_174 : decode cX12_copy 174 = .ok (.aload_n 0, 1) := by decide +kernel
theorem dX12_copy_175 : decode cX12_copy 175 = .ok (.getfield 45, 3) := by decide +kernel
theorem dX12_copy_178 : decode cX12_copy 178 = .ok (.iload 6, 2) := by decide +kernel
theorem dX12_copy_180 : decode cX12_copy 180 = .ok (.aload_n 0, 1) := by decide +kernel
theorem dX12_copy_181 : decode cX12_copy 181 = .ok (.getfield 42, 3) := by decide +kernel
theorem dX12_copy_184 : decode cX12_copy 184 = .ok (.sipush 160, 3) := by decide +kernel
theorem dX12_copy_187 : decode cX12_copy 187 = .ok (.iload_n 1, 1) := by decide +kernel
theorem dX12_copy_188 : decode cX12_copy 188 = .ok (.imul, 1) := by decide +kernel
theorem dX12_copy_189 : decode cX12_copy 189 = .ok (.iload_n 3, 1) := by decide +kernel
theorem dX12_copy_190 : decode cX12_copy 190 = .ok (.iadd, 1) := by decide +kernel
theorem dX12_copy_191 : decode cX12_copy 191 = .ok (.iload 6, 2) := by decide +kernel
theorem dX12_copy_193 : decode cX12_copy 193 = .ok (.iadd, 1) := by decide +kernel
theorem dX12_copy_194 : decode cX12_copy 194 = .ok (.laload, 1) := by decide +kernel
theorem dX12_copy_195 : decode cX12_copy 195 = .ok (.lastore, 1) := by decide +kernel
theorem dX12_copy_196 : decode cX12_copy 196 = .ok (.iinc 6 1, 3) := by decide +kernel
theorem dX12_copy_199 : decode cX12_copy 199 = .ok (.goto (-32), 3) := by decide +kernel
theorem dX12_copy_202 : decode cX12_copy 202 = .ok (.iconst 0, 1) := by decide +kernel
theorem dX12_copy_203 : decode cX12_copy 203 = .ok (.istore 6, 2) := by decide +kernel
theorem dX12_copy_205 : decode cX12_copy 205 = .ok (.iload 6, 2) := by decide +kernel
theorem dX12_copy_207 : decode cX12_copy 207 = .ok (.iload 5, 2) := by decide +kernel
theorem dX12_copy_209 : decode cX12_copy 209 = .ok (.if_icmp .ge 32, 3) := by decide +kernel
theorem dX12_copy_212 : decode cX12_copy 212 = .ok (.aload_n 0, 1) := by decide +kernel
theorem dX12_copy_213 : decode cX12_copy 213 = .ok (.getfield 42, 3) := by decide +kernel
theorem dX12_copy_216 : decode cX12_copy 216 = .ok (.sipush 160, 3) := by decide +kernel
theorem dX12_copy_219 : decode cX12_copy 219 = .ok (.iload_n 2, 1) := by decide +kernel
theorem dX12_copy_220 : decode cX12_copy 220 = .ok (.imul, 1) := by decide +kernel
theorem dX12_copy_221 : decode cX12_copy 221 = .ok (.iload 4, 2) := by decide +kernel
theorem dX12_copy_223 : decode cX12_copy 223 = .ok (.iadd, 1) := by decide +kernel
theorem dX12_copy_224 : decode cX12_copy 224 = .ok (.iload 6, 2) := by decide +kernel
theorem dX12_copy_226 : decode cX12_copy 226 = .ok (.iadd, 1) := by decide +kernel
theorem dX12_copy_227 : decode cX12_copy 227 = .ok (.aload_n 0, 1) := by decide +kernel
theorem dX12_copy_228 : decode cX12_copy 228 = .ok (.getfield 45, 3) := by decide +kernel
theorem dX12_copy_231 : decode cX12_copy 231 = .ok (.iload 6, 2) := by decide +kernel
theorem dX12_copy_233 : decode cX12_copy 233 = .ok (.laload, 1) := by decide +kernel
theorem dX12_copy_234 : decode cX12_copy 234 = .ok (.lastore, 1) := by decide +kernel
theorem dX12_copy_235 : decode cX12_copy 235 = .ok (.iinc 6 1, 3) := by decide +kernel
theorem dX12_copy_238 : decode cX12_copy 238 = .ok (.goto (-33), 3) := by decide +kernel
theorem dX12_copy_241 : decode cX12_copy 241 = .ok (.iconst 1, 1) := by decide +kernel
theorem dX12_copy_242 : decode cX12_copy 242 = .ok (.ireturn, 1) := by decide +kernel
theorem dX12_element_0 : decode cX12_element 0 = .ok (.aload_n 0, 1) := by decide +kernel
theorem dX12_element_1 : decode cX12_element 1 = .ok (.iload_n 1, 1) := by decide +kernel
theorem dX12_element_2 : decode cX12_element 2 = .ok (.invokevirtual 132, 3) := by decide +kernel
theorem dX12_element_5 : decode cX12_element 5 = .ok (.ifCond .eq 42, 3) := by decide +kernel
theorem dX12_element_8 : decode cX12_element 8 = .ok (.aload_n 0, 1) := by decide +kernel
theorem dX12_element_9 : decode cX12_element 9 = .ok (.getfield 30, 3) := by decide +kernel
theorem dX12_element_12 : decode cX12_element 12 = .ok (.iload_n 1, 1) := by decide +kernel
theorem dX12_element_13 : decode cX12_element 13 = .ok (.iaload, 1) := by decide +kernel
theorem dX12_element_14 : decode cX12_element 14 = .ok (.iconst 1, 1) := by decide +kernel
theorem dX12_element_15 : decode cX12_element 15 = .ok (.if_icmp .ne 32, 3) := by decide +kernel
theorem dX12_element_18 : decode cX12_element 18 = .ok (.iload_n 2, 1) := by decide +kernel
theorem dX12_element_19 : decode cX12_element 19 = .ok (.ifCond .lt 28, 3) := by decide +kernel
theorem dX12_element_22 : decode cX12_element 22 = .ok (.iload_n 2, 1) := by decide +kernel
theorem dX12_element_23 : decode cX12_element 23 = .ok (.aload_n 0, 1) := by decide +kernel
theorem dX12_element_24 : decode cX12_element 24 = .ok (.getfield 36, 3) := by decide +kernel
theorem dX12_element_27 : decode cX12_element 27 = .ok (.iload_n 1, 1) := by decide +kernel
theorem dX12_element_28 : decode cX12_element 28 = .ok (.iaload, 1) := by decide +kernel
theorem dX12_element_29 : decode cX12_element 29 = .ok (.if_icmp .ge 18, 3) := by decide +kernel
theorem dX12_element_32 : decode cX12_element 32 = .ok (.aload_n 0, 1) := by decide +kernel
theorem dX12_element_33 : decode cX12_element 33 = .ok (.getfield 42, 3) := by decide +kernel
theorem dX12_element_36 : decode cX12_element 36 = .ok (.sipush 160, 3) := by decide +kernel
theorem dX12_element_39 : decode cX12_element 39 = .ok (.iload_n 1, 1) := by decide +kernel
theorem dX12_element_40 : decode cX12_element 40 = .ok (.imul, 1) := by decide +kernel
theorem dX12_element_41 : decode cX12_element 41 = .ok (.iload_n 2, 1) := by decide +kernel
theorem dX12_element_42 : decode cX12_element 42 = .ok (.iadd, 1) := by decide +kernel
theorem dX12_element_43 : decode cX12_element 43 = .ok (.laload, 1) := by decide +kernel
theorem dX12_element_44 : decode cX12_element 44 = .ok (.goto 4, 3) := by decide +kernel
theorem dX12_element_47 : decode cX12_element 47 = .ok (.lconst 0, 1) := by decide +kernel
theorem dX12_element_48 : decode cX12_element 48 = .ok (.lreturn, 1) := by decide +kernel
theorem dX12_show_0 : decode cX12_show 0 = .ok (.aload_n 0, 1) := by decide +kernel
theorem dX12_show_1 : decode cX12_show 1 = .ok (.iload_n 1, 1) := by decide +kernel
theorem dX12_show_2 : decode cX12_show 2 = .ok (.invokevirtual 132, 3) := by decide +kernel
theorem dX12_show_5 : decode cX12_show 5 = .ok (.ifCond .eq 16, 3) := by decide +kernel
theorem dX12_show_8 : decode cX12_show 8 = .ok (.iload_n 2, 1) := by decide +kernel
theorem dX12_show_9 : decode cX12_show 9 = .ok (.iconst (-1), 1) := by decide +kernel
theorem dX12_show_10 : decode cX12_show 10 = .ok (.if_icmp .eq 17, 3) := by decide +kernel
theorem dX12_show_13 : decode cX12_show 13 = .ok (.aload_n 0, 1) := by decide +kernel
theorem dX12_show_14 : decode cX12_show 14 = .ok (.iload_n 2, 1) := by decide +kernel
theorem dX12_show_15 : decode cX12_show 15 = .ok (.invokevirtual 140, 3) := by decide +kernel
theorem dX12_show_18 : decode cX12_show 18 = .ok (.ifCond .ne 9, 3) := by decide +kernel
theorem dX12_show_21 : decode cX12_show 21 = .ok (.aload_n 0, 1) := by decide +kernel
theorem dX12_show_22 : decode cX12_show 22 = .ok (.iconst (-1), 1) := by decide +kernel
theorem dX12_show_23 : decode cX12_show 23 = .ok (.invokevirtual 136, 3) := by decide +kernel
theorem dX12_show_26 : decode cX12_show 26 = .ok (.ireturn, 1) := by decide +kernel
theorem dX12_show_27 : decode cX12_show 27 = .ok (.aload_n 0, 1) := by decide +kernel
theorem dX12_show_28 : decode cX12_show 28 = .ok (.getfield 30, 3) := by decide +kernel
theorem dX12_show_31 : decode cX12_show 31 = .ok (.iload_n 1, 1) := by decide +kernel
theorem dX12_show_32 : decode cX12_show 32 = .ok (.iload_n 2, 1) := by decide +kernel
theorem dX12_show_33 : decode cX12_show 33 = .ok (.iconst (-1), 1) := by decide +kernel
theorem dX12_show_34 : decode cX12_show 34 = .ok (.if_icmp .ne 7, 3) := by decide +kernel
theorem dX12_show_37 : decode cX12_show 37 = .ok (.iconst 0, 1) := by decide +kernel
theorem dX12_show_38 : decode cX12_show 38 = .ok (.goto 4, 3) := by decide +kernel
theorem dX12_show_41 : decode cX12_show 41 = .ok (.iconst 2, 1) := by decide +kernel
theorem dX12_show_42 : decode cX12_show 42 = .ok (.iastore, 1) := by decide +kernel
theorem dX12_show_43 : decode cX12_show 43 = .ok (.aload_n 0, 1) := by decide +kernel
theorem dX12_show_44 : decode cX12_show 44 = .ok (.getfield 39, 3) := by decide +kernel
theorem dX12_show_47 : decode cX12_show 47 = .ok (.iload_n 1, 1) := by decide +kernel
theorem dX12_show_48 : decode cX12_show 48 = .ok (.iload_n 2, 1) := by decide +kernel
theorem dX12_show_49 : decode cX12_show 49 = .ok (.iastore, 1) := by decide +kernel
theorem dX12_show_50 : decode cX12_show 50 = .ok (.iload_n 2, 1) := by decide +kernel
theorem dX12_show_51 : decode cX12_show 51 = .ok (.iconst (-1), 1) := by decide +kernel
theorem dX12_show_52 : decode cX12_show 52 = .ok (.if_icmp .ne 7, 3) := by decide +kernel
theorem dX12_show_55 : decode cX12_show 55 = .ok (.iconst 0, 1) := by decide +kernel
theorem dX12_show_56 : decode cX12_show 56 = .ok (.goto 4, 3) := by decide +kernel
theorem dX12_show_59 : decode cX12_show 59 = .ok (.iconst 1, 1) := by decide +kernel
theorem dX12_show_60 : decode cX12_show 60 = .ok (.ireturn, 1) := by decide +kernel
theorem dX12_holds_0 : decode cX12_holds 0 = .ok (.aload_n 0, 1) := by decide +kernel
theorem dX12_holds_1 : decode cX12_holds 1 = .ok (.iload_n 1, 1) := by decide +kernel
theorem dX12_holds_2 : decode cX12_holds 2 = .ok (.invokevirtual 132, 3) := by decide +kernel
theorem dX12_holds_5 : decode cX12_holds 5 = .ok (.ifCond .eq 12, 3) := by decide +kernel
theorem dX12_holds_8 : decode cX12_holds 8 = .ok (.aload_n 0, 1) := by decide +kernel
theorem dX12_holds_9 : decode cX12_holds 9 = .ok (.getfield 30, 3) := by decide +kernel
theorem dX12_holds_12 : decode cX12_holds 12 = .ok (.iload_n 1, 1) := by decide +kernel
theorem dX12_holds_13 : decode cX12_holds 13 = .ok (.iaload, 1) := by decide +kernel
theorem dX12_holds_14 : decode cX12_holds 14 = .ok (.ifCond .ne 5, 3) := by decide +kernel
theorem dX12_holds_17 : decode cX12_holds 17 = .ok (.iconst (-1), 1) := by decide +kernel
theorem dX12_holds_18 : decode cX12_holds 18 = .ok (.ireturn, 1) := by decide +kernel
theorem dX12_holds_19 : decode cX12_holds 19 = .ok (.aload_n 0, 1) := by decide +kernel
theorem dX12_holds_20 : decode cX12_holds 20 = .ok (.getfield 30, 3) := by decide +kernel
theorem dX12_holds_23 : decode cX12_holds 23 = .ok (.iload_n 1, 1) := by decide +kernel
theorem dX12_holds_24 : decode cX12_holds 24 = .ok (.iaload, 1) := by decide +kernel
theorem dX12_holds_25 : decode cX12_holds 25 = .ok (.iconst 1, 1) := by decide +kernel
theorem dX12_holds_26 : decode cX12_holds 26 = .ok (.if_icmp .ne 15, 3) := by decide +kernel
theorem dX12_holds_29 : decode cX12_holds 29 = .ok (.bipush 100, 2) := by decide +kernel
theorem dX12_holds_31 : decode cX12_holds 31 = .ok (.aload_n 0, 1) := by decide +kernel
theorem dX12_holds_32 : decode cX12_holds 32 = .ok (.getfield 33, 3) := by decide +kernel
theorem dX12_holds_35 : decode cX12_holds 35 = .ok (.iload_n 1, 1) := by decide +kernel
theorem dX12_holds_36 : decode cX12_holds 36 = .ok (.iaload, 1) := by decide +kernel
theorem dX12_holds_37 : decode cX12_holds 37 = .ok (.iadd, 1) := by decide +kernel
theorem dX12_holds_38 : decode cX12_holds 38 = .ok (.goto 9, 3) := by decide +kernel
theorem dX12_holds_41 : decode cX12_holds 41 = .ok (.aload_n 0, 1) := by decide +kernel
theorem dX12_holds_42 : decode cX12_holds 42 = .ok (.getfield 39, 3) := by decide +kernel
theorem dX12_holds_45 : decode cX12_holds 45 = .ok (.iload_n 1, 1) := by decide +kernel
theorem dX12_holds_46 : decode cX12_holds 46 = .ok (.iaload, 1) := by decide +kernel
theorem dX12_holds_47 : decode cX12_holds 47 = .ok (.ireturn, 1) := by decide +kernel
theorem dX12_says_0 : decode cX12_says 0 = .ok (.aload_n 0, 1) := by decide +kernel
theorem dX12_says_1 : decode cX12_says 1 = .ok (.iload_n 1, 1) := by decide +kernel
theorem dX12_says_2 : decode cX12_says 2 = .ok (.invokevirtual 132, 3) := by decide +kernel
theorem dX12_says_5 : decode cX12_says 5 = .ok (.ifCond .eq 13, 3) := by decide +kernel
theorem dX12_says_8 : decode cX12_says 8 = .ok (.iload_n 2, 1) := by decide +kernel
theorem dX12_says_9 : decode cX12_says 9 = .ok (.ifCond .lt 9, 3) := by decide +kernel
theorem dX12_says_12 : decode cX12_says 12 = .ok (.iload_n 2, 1) := by decide +kernel
theorem dX12_says_13 : decode cX12_says 13 = .ok (.bipush 6, 2) := by decide +kernel
theorem dX12_says_15 : decode cX12_says 15 = .ok (.if_icmp .le 9, 3) := by decide +kernel
theorem dX12_says_18 : decode cX12_says 18 = .ok (.aload_n 0, 1) := by decide +kernel
theorem dX12_says_19 : decode cX12_says 19 = .ok (.iconst (-1), 1) := by decide +kernel
theorem dX12_says_20 : decode cX12_says 20 = .ok (.invokevirtual 136, 3) := by decide +kernel
theorem dX12_says_23 : decode cX12_says 23 = .ok (.ireturn, 1) := by decide +kernel
theorem dX12_says_24 : decode cX12_says 24 = .ok (.aload_n 0, 1) := by decide +kernel
theorem dX12_says_25 : decode cX12_says 25 = .ok (.getfield 30, 3) := by decide +kernel
theorem dX12_says_28 : decode cX12_says 28 = .ok (.iload_n 1, 1) := by decide +kernel
theorem dX12_says_29 : decode cX12_says 29 = .ok (.iaload, 1) := by decide +kernel
theorem dX12_says_30 : decode cX12_says 30 = .ok (.iconst 1, 1) := by decide +kernel
theorem dX12_says_31 : decode cX12_says 31 = .ok (.if_icmp .ne 10, 3) := by decide +kernel
theorem dX12_says_34 : decode cX12_says 34 = .ok (.aload_n 0, 1) := by decide +kernel
theorem dX12_says_35 : decode cX12_says 35 = .ok (.bipush (-2), 2) := by decide +kernel
theorem dX12_says_37 : decode cX12_says 37 = .ok (.invokevirtual 136, 3) := by decide +kernel
theorem dX12_says_40 : decode cX12_says 40 = .ok (.ireturn, 1) := by decide +kernel
theorem dX12_says_41 : decode cX12_says 41 = .ok (.aload_n 0, 1) := by decide +kernel
theorem dX12_says_42 : decode cX12_says 42 = .ok (.getfield 30, 3) := by decide +kernel
theorem dX12_says_45 : decode cX12_says 45 = .ok (.iload_n 1, 1) := by decide +kernel
theorem dX12_says_46 : decode cX12_says 46 = .ok (.iaload, 1) := by decide +kernel
theorem dX12_says_47 : decode cX12_says 47 = .ok (.ifCond .ne 10, 3) := by decide +kernel
theorem dX12_says_50 : decode cX12_says 50 = .ok (.aload_n 0, 1) := by decide +kernel
theorem dX12_says_51 : decode cX12_says 51 = .ok (.bipush (-3), 2) := by decide +kernel
theorem dX12_says_53 : decode cX12_says 53 = .ok (.invokevirtual 136, 3) := by decide +kernel
theorem dX12_says_56 : decode cX12_says 56 = .ok (.ireturn, 1) := by decide +kernel
theorem dX12_says_57 : decode cX12_says 57 = .ok (.aload_n 0, 1) := by decide +kernel
theorem dX12_says_58 : decode cX12_says 58 = .ok (.getfield 39, 3) := by decide +kernel
theorem dX12_says_61 : decode cX12_says 61 = .ok (.iload_n 1, 1) := by decide +kernel
theorem dX12_says_62 : decode cX12_says 62 = .ok (.iaload, 1) := by decide +kernel
theorem dX12_says_63 : decode cX12_says 63 = .ok (.istore_n 3, 1) := by decide +kernel
theorem dX12_says_64 : decode cX12_says 64 = .ok (.aload_n 0, 1) := by decide +kernel
theorem dX12_says_65 : decode cX12_says 65 = .ok (.getfield 17, 3) := by decide +kernel
theorem dX12_says_68 : decode cX12_says 68 = .ok (.iload_n 3, 1) := by decide +kernel
theorem dX12_says_69 : decode cX12_says 69 = .ok (.iaload, 1) := by decide +kernel
theorem dX12_says_70 : decode cX12_says 70 = .ok (.istore 4, 2) := by decide +kernel
theorem dX12_says_72 : decode cX12_says 72 = .ok (.iload_n 2, 1) := by decide +kernel
theorem dX12_says_73 : decode cX12_says 73 = .ok (.ifCond .eq 39, 3) := by decide +kernel
theorem dX12_says_76 : decode cX12_says 76 = .ok (.iload_n 2, 1) := by decide +kernel
theorem dX12_says_77 : decode cX12_says 77 = .ok (.iload 4, 2) := by decide +kernel
theorem dX12_says_79 : decode cX12_says 79 = .ok (.if_icmp .eq 33, 3) := by decide +kernel
theorem dX12_says_82 : decode cX12_says 82 = .ok (.iload_n 2, 1) := by decide +kernel
theorem dX12_says_83 : decode cX12_says 83 = .ok (.iconst 3, 1) := by decide +kernel
theorem dX12_says_84 : decode cX12_says 84 = .ok (.if_icmp .ne 9, 3) := by decide +kernel
theorem dX12_says_87 : decode cX12_says 87 = .ok (.iload 4, 2) := by decide +kernel
theorem dX12_says_89 : decode cX12_says 89 = .ok (.iconst 4, 1) := by decide +kernel
theorem dX12_says_90 : decode cX12_says 90 = .ok (.if_icmp .eq 22, 3) := by decide +kernel
theorem dX12_says_93 : decode cX12_says 93 = .ok (.iload_n 2, 1) := by decide +kernel
theorem dX12_says_94 : decode cX12_says 94 = .ok (.iconst 5, 1) := by decide +kernel
theorem dX12_says_95 : decode cX12_says 95 = .ok (.if_icmp .ne 10, 3) := by decide +kernel
theorem dX12_says_98 : decode cX12_says 98 = .ok (.iload 4, 2) := by decide +kernel
theorem dX12_says_100 : decode cX12_says 100 = .ok (.bipush 6, 2) := by decide +kernel
theorem dX12_says_102 : decode cX12_says 102 = .ok (.if_icmp .eq 10, 3) := by decide +kernel
theorem dX12_says_105 : decode cX12_says 105 = .ok (.aload_n 0, 1) := by decide +kernel
theorem dX12_says_106 : decode cX12_says 106 = .ok (.bipush (-2), 2) := by decide +kernel
theorem dX12_says_108 : decode cX12_says 108 = .ok (.invokevirtual 136, 3) := by decide +kernel
theorem dX12_says_111 : decode cX12_says 111 = .ok (.ireturn, 1) := by decide +kernel
theorem dX12_says_112 : decode cX12_says 112 = .ok (.iload_n 2, 1) := by decide +kernel
theorem dX12_says_113 : decode cX12_says 113 = .ok (.tableswitch 73 0 4 #[35, 42, 51, 62, 62], 35) := by decide +kernel
theorem dX12_says_148 : decode cX12_says 148 = .ok (.aload_n 0, 1) := by decide +kernel
theorem dX12_says_149 : decode cX12_says 149 = .ok (.getfield 23, 3) := by decide +kernel
theorem dX12_says_152 : decode cX12_says 152 = .ok (.iload_n 3, 1) := by decide +kernel
theorem dX12_says_153 : decode cX12_says 153 = .ok (.iaload, 1) := by decide +kernel
theorem dX12_says_154 : decode cX12_says 154 = .ok (.ireturn, 1) := by decide +kernel
theorem dX12_says_155 : decode cX12_says 155 = .ok (.aload_n 0, 1) := by decide +kernel
theorem dX12_says_156 : decode cX12_says 156 = .ok (.getfield 20, 3) := by decide +kernel
theorem dX12_says_159 : decode cX12_says 159 = .ok (.iload_n 3, 1) := by decide +kernel
theorem dX12_says_160 : decode cX12_says 160 = .ok (.iaload, 1) := by decide +kernel
theorem dX12_says_161 : decode cX12_says 161 = .ok (.iconst 2, 1) := by decide +kernel
theorem dX12_says_162 : decode cX12_says 162 = .ok (.irem, 1) := by decide +kernel
theorem dX12_says_163 : decode cX12_says 163 = .ok (.ireturn, 1) := by decide +kernel
theorem dX12_says_164 : decode cX12_says 164 = .ok (.aload_n 0, 1) := by decide +kernel
theorem dX12_says_165 : decode cX12_says 165 = .ok (.iload_n 3, 1) := by decide +kernel
theorem dX12_says_166 : decode cX12_says 166 = .ok (.invokevirtual 143, 3) := by decide +kernel
theorem dX12_says_169 : decode cX12_says 169 = .ok (.ldc2_w 147, 3) := by decide +kernel
theorem dX12_says_172 : decode cX12_says 172 = .ok (.lrem, 1) := by decide +kernel
theorem dX12_says_173 : decode cX12_says 173 = .ok (.l2i, 1) := by decide +kernel
theorem dX12_says_174 : decode cX12_says 174 = .ok (.ireturn, 1) := by decide +kernel
theorem dX12_says_175 : decode cX12_says 175 = .ok (.aload_n 0, 1) := by decide +kernel
theorem dX12_says_176 : decode cX12_says 176 = .ok (.iload_n 3, 1) := by decide +kernel
theorem dX12_says_177 : decode cX12_says 177 = .ok (.invokevirtual 149, 3) := by decide +kernel
theorem dX12_says_180 : decode cX12_says 180 = .ok (.ldc2_w 147, 3) := by decide +kernel
theorem dX12_says_183 : decode cX12_says 183 = .ok (.lrem, 1) := by decide +kernel
theorem dX12_says_184 : decode cX12_says 184 = .ok (.l2i, 1) := by decide +kernel
theorem dX12_says_185 : decode cX12_says 185 = .ok (.ireturn, 1) := by decide +kernel
theorem dX12_says_186 : decode cX12_says 186 = .ok (.aload_n 0, 1) := by decide +kernel
theorem dX12_says_187 : decode cX12_says 187 = .ok (.iload_n 3, 1) := by decide +kernel
theorem dX12_says_188 : decode cX12_says 188 = .ok (.lconst 1, 1) := by decide +kernel
theorem dX12_says_189 : decode cX12_says 189 = .ok (.invokevirtual 152, 3) := by decide +kernel
theorem dX12_says_192 : decode cX12_says 192 = .ok (.ireturn, 1) := by decide +kernel
theorem dX12_wants_0 : decode cX12_wants 0 = .ok (.aload_n 0, 1) := by decide +kernel
theorem dX12_wants_1 : decode cX12_wants 1 = .ok (.iload_n 1, 1) := by decide +kernel
theorem dX12_wants_2 : decode cX12_wants 2 = .ok (.invokevirtual 132, 3) := by decide +kernel
theorem dX12_wants_5 : decode cX12_wants 5 = .ok (.ifCond .ne 7, 3) := by decide +kernel
theorem dX12_wants_8 : decode cX12_wants 8 = .ok (.iconst (-1), 1) := by decide +kernel
theorem dX12_wants_9 : decode cX12_wants 9 = .ok (.goto 33, 3) := by decide +kernel
theorem dX12_wants_12 : decode cX12_wants 12 = .ok (.aload_n 0, 1) := by decide +kernel
theorem dX12_wants_13 : decode cX12_wants 13 = .ok (.getfield 30, 3) := by decide +kernel
theorem dX12_wants_16 : decode cX12_wants 16 = .ok (.iload_n 1, 1) := by decide +kernel
theorem dX12_wants_17 : decode cX12_wants 17 = .ok (.iaload, 1) := by decide +kernel
theorem dX12_wants_18 : decode cX12_wants 18 = .ok (.iconst 2, 1) := by decide +kernel
theorem dX12_wants_19 : decode cX12_wants 19 = .ok (.if_icmp .ne 8, 3) := by decide +kernel
theorem dX12_wants_22 : decode cX12_wants 22 = .ok (.bipush (-2), 2) := by decide +kernel
theorem dX12_wants_24 : decode cX12_wants 24 = .ok (.goto 18, 3) := by decide +kernel
theorem dX12_wants_27 : decode cX12_wants 27 = .ok (.aload_n 0, 1) := by decide +kernel
theorem dX12_wants_28 : decode cX12_wants 28 = .ok (.getfield 30, 3) := by decide +kernel
theorem dX12_wants_31 : decode cX12_wants 31 = .ok (.iload_n 1, 1) := by decide +kernel
theorem dX12_wants_32 : decode cX12_wants 32 = .ok (.iaload, 1) := by decide +kernel
theorem dX12_wants_33 : decode cX12_wants 33 = .ok (.ifCond .ne 8, 3) := by decide +kernel
theorem dX12_wants_36 : decode cX12_wants 36 = .ok (.bipush (-3), 2) := by decide +kernel
theorem dX12_wants_38 : decode cX12_wants 38 = .ok (.goto 4, 3) := by decide +kernel
theorem dX12_wants_41 : decode cX12_wants 41 = .ok (.iconst 0, 1) := by decide +kernel
theorem dX12_wants_42 : decode cX12_wants 42 = .ok (.ireturn, 1) := by decide +kernel
theorem dX12_intAt_0 : decode cX12_intAt 0 = .ok (.aload_n 0, 1) := by decide +kernel
theorem dX12_intAt_1 : decode cX12_intAt 1 = .ok (.getfield 42, 3) := by decide +kernel
theorem dX12_intAt_4 : decode cX12_intAt 4 = .ok (.sipush 160, 3) := by decide +kernel
theorem dX12_intAt_7 : decode cX12_intAt 7 = .ok (.iload_n 1, 1) := by decide +kernel
theorem dX12_intAt_8 : decode cX12_intAt 8 = .ok (.imul, 1) := by decide +kernel
theorem dX12_intAt_9 : decode cX12_intAt 9 = .ok (.iload_n 2, 1) := by decide +kernel
theorem dX12_intAt_10 : decode cX12_intAt 10 = .ok (.iadd, 1) := by decide +kernel
theorem dX12_intAt_11 : decode cX12_intAt 11 = .ok (.laload, 1) := by decide +kernel
theorem dX12_intAt_12 : decode cX12_intAt 12 = .ok (.l2i, 1) := by decide +kernel
theorem dX12_intAt_13 : decode cX12_intAt 13 = .ok (.ireturn, 1) := by decide +kernel
theorem dX12_bars_0 : decode cX12_bars 0 = .ok (.aload_n 0, 1) := by decide +kernel
theorem dX12_bars_1 : decode cX12_bars 1 = .ok (.iload_n 1, 1) := by decide +kernel
theorem dX12_bars_2 : decode cX12_bars 2 = .ok (.invokevirtual 156, 3) := by decide +kernel
theorem dX12_bars_5 : decode cX12_bars 5 = .ok (.istore_n 3, 1) := by decide +kernel
theorem dX12_bars_6 : decode cX12_bars 6 = .ok (.iload_n 3, 1) := by decide +kernel
theorem dX12_bars_7 : decode cX12_bars 7 = .ok (.ifCond .eq 5, 3) := by decide +kernel
theorem dX12_bars_10 : decode cX12_bars 10 = .ok (.iload_n 3, 1) := by decide +kernel
theorem dX12_bars_11 : decode cX12_bars 11 = .ok (.ireturn, 1) := by decide +kernel
theorem dX12_bars_12 : decode cX12_bars 12 = .ok (.iload_n 2, 1) := by decide +kernel
theorem dX12_bars_13 : decode cX12_bars 13 = .ok (.ifCond .ge 8, 3) := by decide +kernel
theorem dX12_bars_16 : decode cX12_bars 16 = .ok (.bipush (-4), 2) := by decide +kernel
theorem dX12_bars_18 : decode cX12_bars 18 = .ok (.goto 19, 3) := by decide +kernel
theorem dX12_bars_21 : decode cX12_bars 21 = .ok (.iload_n 2, 1) := by decide +kernel
theorem dX12_bars_22 : decode cX12_bars 22 = .ok (.aload_n 0, 1) := by decide +kernel
theorem dX12_bars_23 : decode cX12_bars 23 = .ok (.getfield 36, 3) := by decide +kernel
theorem dX12_bars_26 : decode cX12_bars 26 = .ok (.iload_n 1, 1) := by decide +kernel
theorem dX12_bars_27 : decode cX12_bars 27 = .ok (.iaload, 1) := by decide +kernel
theorem dX12_bars_28 : decode cX12_bars 28 = .ok (.if_icmp .le 8, 3) := by decide +kernel
theorem dX12_bars_31 : decode cX12_bars 31 = .ok (.bipush (-5), 2) := by decide +kernel
theorem dX12_bars_33 : decode cX12_bars 33 = .ok (.goto 4, 3) := by decide +kernel
theorem dX12_bars_36 : decode cX12_bars 36 = .ok (.iconst 0, 1) := by decide +kernel
theorem dX12_bars_37 : decode cX12_bars 37 = .ok (.ireturn, 1) := by decide +kernel
theorem dX12_adds_0 : decode cX12_adds 0 = .ok (.aload_n 0, 1) := by decide +kernel
theorem dX12_adds_1 : decode cX12_adds 1 = .ok (.getfield 17, 3) := by decide +kernel
theorem dX12_adds_4 : decode cX12_adds 4 = .ok (.aload_n 0, 1) := by decide +kernel
theorem dX12_adds_5 : decode cX12_adds 5 = .ok (.getfield 129, 3) := by decide +kernel
theorem dX12_adds_8 : decode cX12_adds 8 = .ok (.iload_n 1, 1) := by decide +kernel
theorem dX12_adds_9 : decode cX12_adds 9 = .ok (.iastore, 1) := by decide +kernel
theorem dX12_adds_10 : decode cX12_adds 10 = .ok (.aload_n 0, 1) := by decide +kernel
theorem dX12_adds_11 : decode cX12_adds 11 = .ok (.getfield 20, 3) := by decide +kernel
theorem dX12_adds_14 : decode cX12_adds 14 = .ok (.aload_n 0, 1) := by decide +kernel
theorem dX12_adds_15 : decode cX12_adds 15 = .ok (.getfield 129, 3) := by decide +kernel
theorem dX12_adds_18 : decode cX12_adds 18 = .ok (.iload_n 2, 1) := by decide +kernel
theorem dX12_adds_19 : decode cX12_adds 19 = .ok (.iastore, 1) := by decide +kernel
theorem dX12_adds_20 : decode cX12_adds 20 = .ok (.aload_n 0, 1) := by decide +kernel
theorem dX12_adds_21 : decode cX12_adds 21 = .ok (.getfield 23, 3) := by decide +kernel
theorem dX12_adds_24 : decode cX12_adds 24 = .ok (.aload_n 0, 1) := by decide +kernel
theorem dX12_adds_25 : decode cX12_adds 25 = .ok (.getfield 129, 3) := by decide +kernel
theorem dX12_adds_28 : decode cX12_adds 28 = .ok (.iload_n 3, 1) := by decide +kernel
theorem dX12_adds_29 : decode cX12_adds 29 = .ok (.iastore, 1) := by decide +kernel
theorem dX12_adds_30 : decode cX12_adds 30 = .ok (.aload_n 0, 1) := by decide +kernel
theorem dX12_adds_31 : decode cX12_adds 31 = .ok (.getfield 26, 3) := by decide +kernel
theorem dX12_adds_34 : decode cX12_adds 34 = .ok (.aload_n 0, 1) := by decide +kernel
theorem dX12_adds_35 : decode cX12_adds 35 = .ok (.getfield 129, 3) := by decide +kernel
theorem dX12_adds_38 : decode cX12_adds 38 = .ok (.lload 4, 2) := by decide +kernel
theorem dX12_adds_40 : decode cX12_adds 40 = .ok (.lastore, 1) := by decide +kernel
theorem dX12_adds_41 : decode cX12_adds 41 = .ok (.aload_n 0, 1) := by decide +kernel
theorem dX12_adds_42 : decode cX12_adds 42 = .ok (.dup, 1) := by decide +kernel
theorem dX12_adds_43 : decode cX12_adds 43 = .ok (.getfield 129, 3) := by decide +kernel
theorem dX12_adds_46 : decode cX12_adds 46 = .ok (.dup_x1, 1) := by decide +kernel
theorem dX12_adds_47 : decode cX12_adds 47 = .ok (.iconst 1, 1) := by decide +kernel
theorem dX12_adds_48 : decode cX12_adds 48 = .ok (.iadd, 1) := by decide +kernel
theorem dX12_adds_49 : decode cX12_adds 49 = .ok (.putfield 129, 3) := by decide +kernel
theorem dX12_adds_52 : decode cX12_adds 52 = .ok (.ireturn, 1) := by decide +kernel
theorem dX12_strip_0 : decode cX12_strip 0 = .ok (.aload_n 0, 1) := by decide +kernel
theorem dX12_strip_1 : decode cX12_strip 1 = .ok (.iload_n 3, 1) := by decide +kernel
theorem dX12_strip_2 : decode cX12_strip 2 = .ok (.invokevirtual 132, 3) := by decide +kernel
theorem dX12_strip_5 : decode cX12_strip 5 = .ok (.ifCond .eq 13, 3) := by decide +kernel
theorem dX12_strip_8 : decode cX12_strip 8 = .ok (.iload_n 1, 1) := by decide +kernel
theorem dX12_strip_9 : decode cX12_strip 9 = .ok (.ifCond .lt 9, 3) := by decide +kernel
theorem dX12_strip_12 : decode cX12_strip 12 = .ok (.iload_n 1, 1) := by decide +kernel
theorem dX12_strip_13 : decode cX12_strip 13 = .ok (.bipush 6, 2) := by decide +kernel
theorem dX12_strip_15 : decode cX12_strip 15 = .ok (.if_icmp .le 9, 3) := by decide +kernel
theorem dX12_strip_18 : decode cX12_strip 18 = .ok (.aload_n 0, 1) := by decide +kernel
theorem dX12_strip_19 : decode cX12_strip 19 = .ok (.iconst (-1), 1) := by decide +kernel
theorem dX12_strip_20 : decode cX12_strip 20 = .ok (.invokevirtual 136, 3) := by decide +kernel
theorem dX12_strip_23 : decode cX12_strip 23 = .ok (.ireturn, 1) := by decide +kernel
theorem dX12_strip_24 : decode cX12_strip 24 = .ok (.aload_n 0, 1) := by decide +kernel
theorem dX12_strip_25 : decode cX12_strip 25 = .ok (.iload_n 3, 1) := by decide +kernel
theorem dX12_strip_26 : decode cX12_strip 26 = .ok (.iload 4, 2) := by decide +kernel
theorem dX12_strip_28 : decode cX12_strip 28 = .ok (.invokevirtual 159, 3) := by decide +kernel
theorem dX12_strip_31 : decode cX12_strip 31 = .ok (.istore 5, 2) := by decide +kernel
theorem dX12_strip_33 : decode cX12_strip 33 = .ok (.iload 5, 2) := by decide +kernel
theorem dX12_strip_35 : decode cX12_strip 35 = .ok (.ifCond .eq 10, 3) := by decide +kernel
theorem dX12_strip_38 : decode cX12_strip 38 = .ok (.aload_n 0, 1) := by decide +kernel
theorem dX12_strip_39 : decode cX12_strip 39 = .ok (.iload 5, 2) := by decide +kernel
theorem dX12_strip_41 : decode cX12_strip 41 = .ok (.invokevirtual 136, 3) := by decide +kernel
theorem dX12_strip_44 : decode cX12_strip 44 = .ok (.ireturn, 1) := by decide +kernel
theorem dX12_strip_45 : decode cX12_strip 45 = .ok (.iload 4, 2) := by decide +kernel
theorem dX12_strip_47 : decode cX12_strip 47 = .ok (.iconst 1, 1) := by decide +kernel
theorem dX12_strip_48 : decode cX12_strip 48 = .ok (.if_icmp .lt 30, 3) := by decide +kernel
theorem dX12_strip_51 : decode cX12_strip 51 = .ok (.iload 4, 2) := by decide +kernel
theorem dX12_strip_53 : decode cX12_strip 53 = .ok (.iload_n 1, 1) := by decide +kernel
theorem dX12_strip_54 : decode cX12_strip 54 = .ok (.iconst 2, 1) := by decide +kernel
theorem dX12_strip_55 : decode cX12_strip 55 = .ok (.if_icmp .ne 8, 3) := by decide +kernel
theorem dX12_strip_58 : decode cX12_strip 58 = .ok (.bipush 25, 2) := by decide +kernel
theorem dX12_strip_60 : decode cX12_strip 60 = .ok (.goto 5, 3) := by decide +kernel
theorem dX12_strip_63 : decode cX12_strip 63 = .ok (.bipush 40, 2) := by decide +kernel
theorem dX12_strip_65 : decode cX12_strip 65 = .ok (.if_icmp .gt 13, 3) := by decide +kernel
theorem dX12_strip_68 : decode cX12_strip 68 = .ok (.iload_n 2, 1) := by decide +kernel
theorem dX12_strip_69 : decode cX12_strip 69 = .ok (.ifCond .lt 9, 3) := by decide +kernel
theorem dX12_strip_72 : decode cX12_strip 72 = .ok (.iload_n 2, 1) := by decide +kernel
theorem dX12_strip_73 : decode cX12_strip 73 = .ok (.ldc 163, 2) := by decide +kernel
theorem dX12_strip_75 : decode cX12_strip 75 = .ok (.if_icmp .le 10, 3) := by decide +kernel
theorem dX12_strip_78 : decode cX12_strip 78 = .ok (.aload_n 0, 1) := by decide +kernel
theorem dX12_strip_79 : decode cX12_strip 79 = .ok (.bipush (-6), 2) := by decide +kernel
theorem dX12_strip_81 : decode cX12_strip 81 = .ok (.invokevirtual 136, 3) := by decide +kernel
theorem dX12_strip_84 : decode cX12_strip 84 = .ok (.ireturn, 1) := by decide +kernel
theorem dX12_strip_85 : decode cX12_strip 85 = .ok (.aload_n 0, 1) := by decide +kernel
theorem dX12_strip_86 : decode cX12_strip 86 = .ok (.getfield 129, 3) := by decide +kernel
theorem dX12_strip_89 : decode cX12_strip 89 = .ok (.bipush 8, 2) := by decide +kernel
theorem dX12_strip_91 : decode cX12_strip 91 = .ok (.if_icmp .ne 10, 3) := by decide +kernel
theorem dX12_strip_94 : decode cX12_strip 94 = .ok (.aload_n 0, 1) := by decide +kernel
theorem dX12_strip_95 : decode cX12_strip 95 = .ok (.bipush (-7), 2) := by decide +kernel
theorem dX12_strip_97 : decode cX12_strip 97 = .ok (.invokevirtual 136, 3) := by decide +kernel
theorem dX12_strip_100 : decode cX12_strip 100 = .ok (.ireturn, 1) := by decide +kernel
theorem dX12_strip_101 : decode cX12_strip 101 = .ok (.lconst 0, 1) := by decide +kernel
theorem dX12_strip_102 : decode cX12_strip 102 = .ok (.lstore 6, 2) := by decide +kernel
theorem dX12_strip_104 : decode cX12_strip 104 = .ok (.iconst 0, 1) := by decide +kernel
theorem dX12_strip_105 : decode cX12_strip 105 = .ok (.istore 8, 2) := by decide +kernel
theorem dX12_strip_107 : decode cX12_strip 107 = .ok (.iload 8, 2) := by decide +kernel
theorem dX12_strip_109 : decode cX12_strip 109 = .ok (.iload 4, 2) := by decide +kernel
theorem dX12_strip_111 : decode cX12_strip 111 = .ok (.if_icmp .ge 32, 3) := by decide +kernel
theorem dX12_strip_114 : decode cX12_strip 114 = .ok (.lload 6, 2) := by decide +kernel
theorem dX12_strip_116 : decode cX12_strip 116 = .ok (.aload_n 0, 1) := by decide +kernel
theorem dX12_strip_117 : decode cX12_strip 117 = .ok (.getfield 42, 3) := by decide +kernel
theorem dX12_strip_120 : decode cX12_strip 120 = .ok (.sipush 160, 3) := by decide +kernel
theorem dX12_strip_123 : decode cX12_strip 123 = .ok (.iload_n 3, 1) := by decide +kernel
theorem dX12_strip_124 : decode cX12_strip 124 = .ok (.imul, 1) := by decide +kernel
theorem dX12_strip_125 : decode cX12_strip 125 = .ok (.iload 8, 2) := by decide +kernel
theorem dX12_strip_127 : decode cX12_strip 127 = .ok (.iadd, 1) := by decide +kernel
theorem dX12_strip_128 : decode cX12_strip 128 = .ok (.laload, 1) := by decide +kernel
theorem dX12_strip_129 : decode cX12_strip 129 = .ok (.lconst 1, 1) := by decide +kernel
theorem dX12_strip_130 : decode cX12_strip 130 = .ok (.land, 1) := by decide +kernel
theorem dX12_strip_131 : decode cX12_strip 131 = .ok (.iload 8, 2) := by decide +kernel
theorem dX12_strip_133 : decode cX12_strip 133 = .ok (.lshl, 1) := by decide +kernel
theorem dX12_strip_134 : decode cX12_strip 134 = .ok (.lor, 1) := by decide +kernel
theorem dX12_strip_135 : decode cX12_strip 135 = .ok (.lstore 6, 2) := by decide +kernel
theorem dX12_strip_137 : decode cX12_strip 137 = .ok (.iinc 8 1, 3) := by decide +kernel
theorem dX12_strip_140 : decode cX12_strip 140 = .ok (.goto (-33), 3) := by decide +kernel
theorem dX12_strip_143 : decode cX12_strip 143 = .ok (.aload_n 0, 1) := by decide +kernel
theorem dX12_strip_144 : decode cX12_strip 144 = .ok (.iload_n 1, 1) := by decide +kernel
theorem dX12_strip_145 : decode cX12_strip 145 = .ok (.iload_n 2, 1) := by decide +kernel
theorem dX12_strip_146 : decode cX12_strip 146 = .ok (.iload 4, 2) := by decide +kernel
theorem dX12_strip_148 : decode cX12_strip 148 = .ok (.lload 6, 2) := by decide +kernel
theorem dX12_strip_150 : decode cX12_strip 150 = .ok (.invokevirtual 164, 3) := by decide +kernel
theorem dX12_strip_153 : decode cX12_strip 153 = .ok (.ireturn, 1) := by decide +kernel
theorem dX12_letter_0 : decode cX12_letter 0 = .ok (.aload_n 0, 1) := by decide +kernel
theorem dX12_letter_1 : decode cX12_letter 1 = .ok (.getfield 26, 3) := by decide +kernel
theorem dX12_letter_4 : decode cX12_letter 4 = .ok (.iload_n 1, 1) := by decide +kernel
theorem dX12_letter_5 : decode cX12_letter 5 = .ok (.laload, 1) := by decide +kernel
theorem dX12_letter_6 : decode cX12_letter 6 = .ok (.iload_n 2, 1) := by decide +kernel
theorem dX12_letter_7 : decode cX12_letter 7 = .ok (.lshr, 1) := by decide +kernel
theorem dX12_letter_8 : decode cX12_letter 8 = .ok (.lconst 1, 1) := by decide +kernel
theorem dX12_letter_9 : decode cX12_letter 9 = .ok (.land, 1) := by decide +kernel
theorem dX12_letter_10 : decode cX12_letter 10 = .ok (.l2i, 1) := by decide +kernel
theorem dX12_letter_11 : decode cX12_letter 11 = .ok (.ireturn, 1) := by decide +kernel
theorem dX12_stripOf_0 : decode cX12_stripOf 0 = .ok (.aload_n 0, 1) := by decide +kernel
theorem dX12_stripOf_1 : decode cX12_stripOf 1 = .ok (.iload_n 1, 1) := by decide +kernel
theorem dX12_stripOf_2 : decode cX12_stripOf 2 = .ok (.invokevirtual 140, 3) := by decide +kernel
theorem dX12_stripOf_5 : decode cX12_stripOf 5 = .ok (.ifCond .ne 10, 3) := by decide +kernel
theorem dX12_stripOf_8 : decode cX12_stripOf 8 = .ok (.aload_n 0, 1) := by decide +kernel
theorem dX12_stripOf_9 : decode cX12_stripOf 9 = .ok (.bipush (-5), 2) := by decide +kernel
theorem dX12_stripOf_11 : decode cX12_stripOf 11 = .ok (.invokevirtual 136, 3) := by decide +kernel
theorem dX12_stripOf_14 : decode cX12_stripOf 14 = .ok (.ireturn, 1) := by decide +kernel
theorem dX12_stripOf_15 : decode cX12_stripOf 15 = .ok (.iload_n 2, 1) := by decide +kernel
theorem dX12_stripOf_16 : decode cX12_stripOf 16 = .ok (.ifCond .ne 10, 3) := by decide +kernel
theorem dX12_stripOf_19 : decode cX12_stripOf 19 = .ok (.aload_n 0, 1) := by decide +kernel
theorem dX12_stripOf_20 : decode cX12_stripOf 20 = .ok (.getfield 17, 3) := by decide +kernel
theorem dX12_stripOf_23 : decode cX12_stripOf 23 = .ok (.iload_n 1, 1) := by decide +kernel
theorem dX12_stripOf_24 : decode cX12_stripOf 24 = .ok (.iaload, 1) := by decide +kernel
theorem dX12_stripOf_25 : decode cX12_stripOf 25 = .ok (.ireturn, 1) := by decide +kernel
theorem dX12_stripOf_26 : decode cX12_stripOf 26 = .ok (.iload_n 2, 1) := by decide +kernel
theorem dX12_stripOf_27 : decode cX12_stripOf 27 = .ok (.iconst 1, 1) := by decide +kernel
theorem dX12_stripOf_28 : decode cX12_stripOf 28 = .ok (.if_icmp .ne 10, 3) := by decide +kernel
theorem dX12_stripOf_31 : decode cX12_stripOf 31 = .ok (.aload_n 0, 1) := by decide +kernel
theorem dX12_stripOf_32 : decode cX12_stripOf 32 = .ok (.getfield 20, 3) := by decide +kernel
theorem dX12_stripOf_35 : decode cX12_stripOf 35 = .ok (.iload_n 1, 1) := by decide +kernel
theorem dX12_stripOf_36 : decode cX12_stripOf 36 = .ok (.iaload, 1) := by decide +kernel
theorem dX12_stripOf_37 : decode cX12_stripOf 37 = .ok (.ireturn, 1) := by decide +kernel
theorem dX12_stripOf_38 : decode cX12_stripOf 38 = .ok (.iload_n 2, 1) := by decide +kernel
theorem dX12_stripOf_39 : decode cX12_stripOf 39 = .ok (.iconst 2, 1) := by decide +kernel
theorem dX12_stripOf_40 : decode cX12_stripOf 40 = .ok (.if_icmp .ne 10, 3) := by decide +kernel
theorem dX12_stripOf_43 : decode cX12_stripOf 43 = .ok (.aload_n 0, 1) := by decide +kernel
theorem dX12_stripOf_44 : decode cX12_stripOf 44 = .ok (.getfield 23, 3) := by decide +kernel
theorem dX12_stripOf_47 : decode cX12_stripOf 47 = .ok (.iload_n 1, 1) := by decide +kernel
theorem dX12_stripOf_48 : decode cX12_stripOf 48 = .ok (.iaload, 1) := by decide +kernel
theorem dX12_stripOf_49 : decode cX12_stripOf 49 = .ok (.ireturn, 1) := by decide +kernel
theorem dX12_stripOf_50 : decode cX12_stripOf 50 = .ok (.iload_n 2, 1) := by decide +kernel
theorem dX12_stripOf_51 : decode cX12_stripOf 51 = .ok (.bipush 10, 2) := by decide +kernel
theorem dX12_stripOf_53 : decode cX12_stripOf 53 = .ok (.if_icmp .lt 28, 3) := by decide +kernel
theorem dX12_stripOf_56 : decode cX12_stripOf 56 = .ok (.iload_n 2, 1) := by decide +kernel
theorem dX12_stripOf_57 : decode cX12_stripOf 57 = .ok (.bipush 10, 2) := by decide +kernel
theorem dX12_stripOf_59 : decode cX12_stripOf 59 = .ok (.aload_n 0, 1) := by decide +kernel
theorem dX12_stripOf_60 : decode cX12_stripOf 60 = .ok (.getfield 23, 3) := by decide +kernel
theorem dX12_stripOf_63 : decode cX12_stripOf 63 = .ok (.iload_n 1, 1) := by decide +kernel
theorem dX12_stripOf_64 : decode cX12_stripOf 64 = .ok (.iaload, 1) := by decide +kernel
theorem dX12_stripOf_65 : decode cX12_stripOf 65 = .ok (.iadd, 1) := by decide +kernel
theorem dX12_stripOf_66 : decode cX12_stripOf 66 = .ok (.if_icmp .ge 15, 3) := by decide +kernel
theorem dX12_stripOf_69 : decode cX12_stripOf 69 = .ok (.aload_n 0, 1) := by decide +kernel
theorem dX12_stripOf_70 : decode cX12_stripOf 70 = .ok (.iload_n 1, 1) := by decide +kernel
theorem dX12_stripOf_71 : decode cX12_stripOf 71 = .ok (.iload_n 2, 1) := by decide +kernel
theorem dX12_stripOf_72 : decode cX12_stripOf 72 = .ok (.bipush 10, 2) := by decide +kernel
theorem dX12_stripOf_74 : decode cX12_stripOf 74 = .ok (.isub, 1) := by decide +kernel
theorem dX12_stripOf_75 : decode cX12_stripOf 75 = .ok (.invokevirtual 168, 3) := by decide +kernel
theorem dX12_stripOf_78 : decode cX12_stripOf 78 = .ok (.goto 9, 3) := by decide +kernel
theorem dX12_stripOf_81 : decode cX12_stripOf 81 = .ok (.aload_n 0, 1) := by decide +kernel
theorem dX12_stripOf_82 : decode cX12_stripOf 82 = .ok (.bipush (-5), 2) := by decide +kernel
theorem dX12_stripOf_84 : decode cX12_stripOf 84 = .ok (.invokevirtual 136, 3) := by decide +kernel
theorem dX12_stripOf_87 : decode cX12_stripOf 87 = .ok (.ireturn, 1) := by decide +kernel
theorem dX12_turn_0 : decode cX12_turn 0 = .ok (.aload_n 0, 1) := by decide +kernel
theorem dX12_turn_1 : decode cX12_turn 1 = .ok (.iload_n 1, 1) := by decide +kernel
theorem dX12_turn_2 : decode cX12_turn 2 = .ok (.invokevirtual 140, 3) := by decide +kernel
theorem dX12_turn_5 : decode cX12_turn 5 = .ok (.ifCond .ne 9, 3) := by decide +kernel
theorem dX12_turn_8 : decode cX12_turn 8 = .ok (.aload_n 0, 1) := by decide +kernel
theorem dX12_turn_9 : decode cX12_turn 9 = .ok (.iconst (-1), 1) := by decide +kernel
theorem dX12_turn_10 : decode cX12_turn 10 = .ok (.invokevirtual 136, 3) := by decide +kernel
theorem dX12_turn_13 : decode cX12_turn 13 = .ok (.ireturn, 1) := by decide +kernel
theorem dX12_turn_14 : decode cX12_turn 14 = .ok (.iload_n 2, 1) := by decide +kernel
theorem dX12_turn_15 : decode cX12_turn 15 = .ok (.ifCond .lt 13, 3) := by decide +kernel
theorem dX12_turn_18 : decode cX12_turn 18 = .ok (.iload_n 2, 1) := by decide +kernel
theorem dX12_turn_19 : decode cX12_turn 19 = .ok (.aload_n 0, 1) := by decide +kernel
theorem dX12_turn_20 : decode cX12_turn 20 = .ok (.getfield 23, 3) := by decide +kernel
theorem dX12_turn_23 : decode cX12_turn 23 = .ok (.iload_n 1, 1) := by decide +kernel
theorem dX12_turn_24 : decode cX12_turn 24 = .ok (.iaload, 1) := by decide +kernel
theorem dX12_turn_25 : decode cX12_turn 25 = .ok (.if_icmp .lt 10, 3) := by decide +kernel
theorem dX12_turn_28 : decode cX12_turn 28 = .ok (.aload_n 0, 1) := by decide +kernel
theorem dX12_turn_29 : decode cX12_turn 29 = .ok (.bipush (-5), 2) := by decide +kernel
theorem dX12_turn_31 : decode cX12_turn 31 = .ok (.invokevirtual 136, 3) := by decide +kernel
theorem dX12_turn_34 : decode cX12_turn 34 = .ok (.ireturn, 1) := by decide +kernel
theorem dX12_turn_35 : decode cX12_turn 35 = .ok (.aload_n 0, 1) := by decide +kernel
theorem dX12_turn_36 : decode cX12_turn 36 = .ok (.iload_n 1, 1) := by decide +kernel
theorem dX12_turn_37 : decode cX12_turn 37 = .ok (.iload_n 2, 1) := by decide +kernel
theorem dX12_turn_38 : decode cX12_turn 38 = .ok (.invokevirtual 168, 3) := by decide +kernel
theorem dX12_turn_41 : decode cX12_turn 41 = .ok (.istore_n 3, 1) := by decide +kernel
theorem dX12_turn_42 : decode cX12_turn 42 = .ok (.aload_n 0, 1) := by decide +kernel
theorem dX12_turn_43 : decode cX12_turn 43 = .ok (.getfield 26, 3) := by decide +kernel
theorem dX12_turn_46 : decode cX12_turn 46 = .ok (.iload_n 1, 1) := by decide +kernel
theorem dX12_turn_47 : decode cX12_turn 47 = .ok (.dup2, 1) := by decide +kernel
theorem dX12_turn_48 : decode cX12_turn 48 = .ok (.laload, 1) := by decide +kernel
theorem dX12_turn_49 : decode cX12_turn 49 = .ok (.lconst 1, 1) := by decide +kernel
theorem dX12_turn_50 : decode cX12_turn 50 = .ok (.iload_n 2, 1) := by decide +kernel
theorem dX12_turn_51 : decode cX12_turn 51 = .ok (.lshl, 1) := by decide +kernel
theorem dX12_turn_52 : decode cX12_turn 52 = .ok (.lxor, 1) := by decide +kernel
theorem dX12_turn_53 : decode cX12_turn 53 = .ok (.lastore, 1) := by decide +kernel
theorem dX12_turn_54 : decode cX12_turn 54 = .ok (.iload_n 3, 1) := by decide +kernel
theorem dX12_turn_55 : decode cX12_turn 55 = .ok (.ireturn, 1) := by decide +kernel
theorem dX12_isWrong_0 : decode cX12_isWrong 0 = .ok (.aload_n 0, 1) := by decide +kernel
theorem dX12_isWrong_1 : decode cX12_isWrong 1 = .ok (.iload_n 1, 1) := by decide +kernel
theorem dX12_isWrong_2 : decode cX12_isWrong 2 = .ok (.putfield 171, 3) := by decide +kernel
theorem dX12_isWrong_5 : decode cX12_isWrong 5 = .ok (.iconst 0, 1) := by decide +kernel
theorem dX12_isWrong_6 : decode cX12_isWrong 6 = .ok (.ireturn, 1) := by decide +kernel
theorem dX12_wordOf_0 : decode cX12_wordOf 0 = .ok (.iconst 0, 1) := by decide +kernel
theorem dX12_wordOf_1 : decode cX12_wordOf 1 = .ok (.istore_n 1, 1) := by decide +kernel
theorem dX12_wordOf_2 : decode cX12_wordOf 2 = .ok (.aload_n 0, 1) := by decide +kernel
theorem dX12_wordOf_3 : decode cX12_wordOf 3 = .ok (.getfield 174, 3) := by decide +kernel
theorem dX12_wordOf_6 : decode cX12_wordOf 6 = .ok (.istore_n 2, 1) := by decide +kernel
theorem dX12_wordOf_7 : decode cX12_wordOf 7 = .ok (.iconst 0, 1) := by decide +kernel
theorem dX12_wordOf_8 : decode cX12_wordOf 8 = .ok (.istore_n 3, 1) := by decide +kernel
theorem dX12_wordOf_9 : decode cX12_wordOf 9 = .ok (.iload_n 3, 1) := by decide +kernel
theorem dX12_wordOf_10 : decode cX12_wordOf 10 = .ok (.iconst 3, 1) := by decide +kernel
theorem dX12_wordOf_11 : decode cX12_wordOf 11 = .ok (.if_icmp .ge 118, 3) := by decide +kernel
theorem dX12_wordOf_14 : decode cX12_wordOf 14 = .ok (.aload_n 0, 1) := by decide +kernel
theorem dX12_wordOf_15 : decode cX12_wordOf 15 = .ok (.getfield 174, 3) := by decide +kernel
theorem dX12_wordOf_18 : decode cX12_wordOf 18 = .ok (.istore 4, 2) := by decide +kernel
theorem dX12_wordOf_20 : decode cX12_wordOf 20 = .ok (.iload_n 1, 1) := by decide +kernel
theorem dX12_wordOf_21 : decode cX12_wordOf 21 = .ok (.istore 5, 2) := by decide +kernel
theorem dX12_wordOf_23 : decode cX12_wordOf 23 = .ok (.aload_n 0, 1) := by decide +kernel
theorem dX12_wordOf_24 : decode cX12_wordOf 24 = .ok (.getfield 48, 3) := by decide +kernel
theorem dX12_wordOf_27 : decode cX12_wordOf 27 = .ok (.iload 5, 2) := by decide +kernel
theorem dX12_wordOf_29 : decode cX12_wordOf 29 = .ok (.iaload, 1) := by decide +kernel
theorem dX12_wordOf_30 : decode cX12_wordOf 30 = .ok (.ifCond .eq 44, 3) := by decide +kernel
theorem dX12_wordOf_33 : decode cX12_wordOf 33 = .ok (.iload 4, 2) := by decide +kernel
theorem dX12_wordOf_35 : decode cX12_wordOf 35 = .ok (.aload_n 0, 1) := by decide +kernel
theorem dX12_wordOf_36 : decode cX12_wordOf 36 = .ok (.getfield 177, 3) := by decide +kernel
theorem dX12_wordOf_39 : decode cX12_wordOf 39 = .ok (.if_icmp .ge 35, 3) := by decide +kernel
theorem dX12_wordOf_42 : decode cX12_wordOf 42 = .ok (.aload_n 0, 1) := by decide +kernel
theorem dX12_wordOf_43 : decode cX12_wordOf 43 = .ok (.getfield 42, 3) := by decide +kernel
theorem dX12_wordOf_46 : decode cX12_wordOf 46 = .ok (.aload_n 0, 1) := by decide +kernel
theorem dX12_wordOf_47 : decode cX12_wordOf 47 = .ok (.getfield 180, 3) := by decide +kernel
theorem dX12_wordOf_50 : decode cX12_wordOf 50 = .ok (.iload 4, 2) := by decide +kernel
theorem dX12_wordOf_52 : decode cX12_wordOf 52 = .ok (.iadd, 1) := by decide +kernel
theorem dX12_wordOf_53 : decode cX12_wordOf 53 = .ok (.laload, 1) := by decide +kernel
theorem dX12_wordOf_54 : decode cX12_wordOf 54 = .ok (.l2i, 1) := by decide +kernel
theorem dX12_wordOf_55 : decode cX12_wordOf 55 = .ok (.aload_n 0, 1) := by decide +kernel
theorem dX12_wordOf_56 : decode cX12_wordOf 56 = .ok (.getfield 48, 3) := by decide +kernel
theorem dX12_wordOf_59 : decode cX12_wordOf 59 = .ok (.iload 5, 2) := by decide +kernel
theorem dX12_wordOf_61 : decode cX12_wordOf 61 = .ok (.iaload, 1) := by decide +kernel
theorem dX12_wordOf_62 : decode cX12_wordOf 62 = .ok (.if_icmp .ne 12, 3) := by decide +kernel
theorem dX12_wordOf_65 : decode cX12_wordOf 65 = .ok (.iinc 4 1, 3) := by decide +kernel
theorem dX12_wordOf_68 : decode cX12_wordOf 68 = .ok (.iinc 5 1, 3) := by decide +kernel
theorem dX12_wordOf_71 : decode cX12_wordOf 71 = .ok (.goto (-48), 3) := by decide +kernel
theorem dX12_wordOf_74 : decode cX12_wordOf 74 = .ok (.aload_n 0, 1) := by decide +kernel
theorem dX12_wordOf_75 : decode cX12_wordOf 75 = .ok (.getfield 48, 3) := by decide +kernel
theorem dX12_wordOf_78 : decode cX12_wordOf 78 = .ok (.iload 5, 2) := by decide +kernel
theorem dX12_wordOf_80 : decode cX12_wordOf 80 = .ok (.iaload, 1) := by decide +kernel
theorem dX12_wordOf_81 : decode cX12_wordOf 81 = .ok (.ifCond .ne 11, 3) := by decide +kernel
theorem dX12_wordOf_84 : decode cX12_wordOf 84 = .ok (.aload_n 0, 1) := by decide +kernel
theorem dX12_wordOf_85 : decode cX12_wordOf 85 = .ok (.iload 4, 2) := by decide +kernel
theorem dX12_wordOf_87 : decode cX12_wordOf 87 = .ok (.putfield 174, 3) := by decide +kernel
theorem dX12_wordOf_90 : decode cX12_wordOf 90 = .ok (.iload_n 3, 1) := by decide +kernel
theorem dX12_wordOf_91 : decode cX12_wordOf 91 = .ok (.ireturn, 1) := by decide +kernel
theorem dX12_wordOf_92 : decode cX12_wordOf 92 = .ok (.iload 4, 2) := by decide +kernel
theorem dX12_wordOf_94 : decode cX12_wordOf 94 = .ok (.iload_n 2, 1) := by decide +kernel
theorem dX12_wordOf_95 : decode cX12_wordOf 95 = .ok (.if_icmp .le 8, 3) := by decide +kernel
theorem dX12_wordOf_98 : decode cX12_wordOf 98 = .ok (.iload 4, 2) := by decide +kernel
theorem dX12_wordOf_100 : decode cX12_wordOf 100 = .ok (.goto 4, 3) := by decide +kernel
theorem dX12_wordOf_103 : decode cX12_wordOf 103 = .ok (.iload_n 2, 1) := by decide +kernel
theorem dX12_wordOf_104 : decode cX12_wordOf 104 = .ok (.istore_n 2, 1) := by decide +kernel
theorem dX12_wordOf_105 : decode cX12_wordOf 105 = .ok (.aload_n 0, 1) := by decide +kernel
theorem dX12_wordOf_106 : decode cX12_wordOf 106 = .ok (.getfield 48, 3) := by decide +kernel
theorem dX12_wordOf_109 : decode cX12_wordOf 109 = .ok (.iload_n 1, 1) := by decide +kernel
theorem dX12_wordOf_110 : decode cX12_wordOf 110 = .ok (.iaload, 1) := by decide +kernel
theorem dX12_wordOf_111 : decode cX12_wordOf 111 = .ok (.ifCond .eq 9, 3) := by decide +kernel
theorem dX12_wordOf_114 : decode cX12_wordOf 114 = .ok (.iinc 1 1, 3) := by decide +kernel
theorem dX12_wordOf_117 : decode cX12_wordOf 117 = .ok (.goto (-12), 3) := by decide +kernel
theorem dX12_wordOf_120 : decode cX12_wordOf 120 = .ok (.iinc 1 1, 3) := by decide +kernel
theorem dX12_wordOf_123 : decode cX12_wordOf 123 = .ok (.iinc 3 1, 3) := by decide +kernel
theorem dX12_wordOf_126 : decode cX12_wordOf 126 = .ok (.goto (-117), 3) := by decide +kernel
theorem dX12_wordOf_129 : decode cX12_wordOf 129 = .ok (.aload_n 0, 1) := by decide +kernel
theorem dX12_wordOf_130 : decode cX12_wordOf 130 = .ok (.iload_n 2, 1) := by decide +kernel
theorem dX12_wordOf_131 : decode cX12_wordOf 131 = .ok (.putfield 171, 3) := by decide +kernel
theorem dX12_wordOf_134 : decode cX12_wordOf 134 = .ok (.iconst (-1), 1) := by decide +kernel
theorem dX12_wordOf_135 : decode cX12_wordOf 135 = .ok (.ireturn, 1) := by decide +kernel
theorem dX12_isDigit_0 : decode cX12_isDigit 0 = .ok (.aload_n 0, 1) := by decide +kernel
theorem dX12_isDigit_1 : decode cX12_isDigit 1 = .ok (.getfield 174, 3) := by decide +kernel
theorem dX12_isDigit_4 : decode cX12_isDigit 4 = .ok (.aload_n 0, 1) := by decide +kernel
theorem dX12_isDigit_5 : decode cX12_isDigit 5 = .ok (.getfield 177, 3) := by decide +kernel
theorem dX12_isDigit_8 : decode cX12_isDigit 8 = .ok (.if_icmp .ge 47, 3) := by decide +kernel
theorem dX12_isDigit_11 : decode cX12_isDigit 11 = .ok (.aload_n 0, 1) := by decide +kernel
theorem dX12_isDigit_12 : decode cX12_isDigit 12 = .ok (.getfield 42, 3) := by decide +kernel
theorem dX12_isDigit_15 : decode cX12_isDigit 15 = .ok (.aload_n 0, 1) := by decide +kernel
theorem dX12_isDigit_16 : decode cX12_isDigit 16 = .ok (.getfield 180, 3) := by decide +kernel
theorem dX12_isDigit_19 : decode cX12_isDigit 19 = .ok (.aload_n 0, 1) := by decide +kernel
theorem dX12_isDigit_20 : decode cX12_isDigit 20 = .ok (.getfield 174, 3) := by decide +kernel
theorem dX12_isDigit_23 : decode cX12_isDigit 23 = .ok (.iadd, 1) := by decide +kernel
theorem dX12_isDigit_24 : decode cX12_isDigit 24 = .ok (.laload, 1) := by decide +kernel
theorem dX12_isDigit_25 : decode cX12_isDigit 25 = .ok (.l2i, 1) := by decide +kernel
theorem dX12_isDigit_26 : decode cX12_isDigit 26 = .ok (.bipush 48, 2) := by decide +kernel
theorem dX12_isDigit_28 : decode cX12_isDigit 28 = .ok (.if_icmp .lt 27, 3) := by decide +kernel
theorem dX12_isDigit_31 : decode cX12_isDigit 31 = .ok (.aload_n 0, 1) := by decide +kernel
theorem dX12_isDigit_32 : decode cX12_isDigit 32 = .ok (.getfield 42, 3) := by decide +kernel
theorem dX12_isDigit_35 : decode cX12_isDigit 35 = .ok (.aload_n 0, 1) := by decide +kernel
theorem dX12_isDigit_36 : decode cX12_isDigit 36 = .ok (.getfield 180, 3) := by decide +kernel
theorem dX12_isDigit_39 : decode cX12_isDigit 39 = .ok (.aload_n 0, 1) := by decide +kernel
theorem dX12_isDigit_40 : decode cX12_isDigit 40 = .ok (.getfield 174, 3) := by decide +kernel
theorem dX12_isDigit_43 : decode cX12_isDigit 43 = .ok (.iadd, 1) := by decide +kernel
theorem dX12_isDigit_44 : decode cX12_isDigit 44 = .ok (.laload, 1) := by decide +kernel
theorem dX12_isDigit_45 : decode cX12_isDigit 45 = .ok (.l2i, 1) := by decide +kernel
theorem dX12_isDigit_46 : decode cX12_isDigit 46 = .ok (.bipush 57, 2) := by decide +kernel
theorem dX12_isDigit_48 : decode cX12_isDigit 48 = .ok (.if_icmp .gt 7, 3) := by decide +kernel
theorem dX12_isDigit_51 : decode cX12_isDigit 51 = .ok (.iconst 1, 1) := by decide +kernel
theorem dX12_isDigit_52 : decode cX12_isDigit 52 = .ok (.goto 4, 3) := by decide +kernel
theorem dX12_isDigit_55 : decode cX12_isDigit 55 = .ok (.iconst 0, 1) := by decide +kernel
theorem dX12_isDigit_56 : decode cX12_isDigit 56 = .ok (.ireturn, 1) := by decide +kernel
theorem dX12_number_0 : decode cX12_number 0 = .ok (.aload_n 0, 1) := by decide +kernel
theorem dX12_number_1 : decode cX12_number 1 = .ok (.getfield 174, 3) := by decide +kernel
theorem dX12_number_4 : decode cX12_number 4 = .ok (.istore_n 2, 1) := by decide +kernel
theorem dX12_number_5 : decode cX12_number 5 = .ok (.aload_n 0, 1) := by decide +kernel
theorem dX12_number_6 : decode cX12_number 6 = .ok (.iconst 0, 1) := by decide +kernel
theorem dX12_number_7 : decode cX12_number 7 = .ok (.putfield 183, 3) := by decide +kernel
theorem dX12_number_10 : decode cX12_number 10 = .ok (.aload_n 0, 1) := by decide +kernel
theorem dX12_number_11 : decode cX12_number 11 = .ok (.invokevirtual 186, 3) := by decide +kernel
theorem dX12_number_14 : decode cX12_number 14 = .ok (.ifCond .ne 12, 3) := by decide +kernel
theorem dX12_number_17 : decode cX12_number 17 = .ok (.aload_n 0, 1) := by decide +kernel
theorem dX12_number_18 : decode cX12_number 18 = .ok (.aload_n 0, 1) := by decide +kernel
theorem dX12_number_19 : decode cX12_number 19 = .ok (.getfield 174, 3) := by decide +kernel
theorem dX12_number_22 : decode cX12_number 22 = .ok (.invokevirtual 190, 3) := by decide +kernel
theorem dX12_number_25 : decode cX12_number 25 = .ok (.ireturn, 1) := by decide +kernel
theorem dX12_number_26 : decode cX12_number 26 = .ok (.iconst 0, 1) := by decide +kernel
theorem dX12_number_27 : decode cX12_number 27 = .ok (.istore_n 3, 1) := by decide +kernel
theorem dX12_number_28 : decode cX12_number 28 = .ok (.iload_n 3, 1) := by decide +kernel
theorem dX12_number_29 : decode cX12_number 29 = .ok (.bipush 6, 2) := by decide +kernel
theorem dX12_number_31 : decode cX12_number 31 = .ok (.if_icmp .ge 56, 3) := by decide +kernel
theorem dX12_number_34 : decode cX12_number 34 = .ok (.aload_n 0, 1) := by decide +kernel
theorem dX12_number_35 : decode cX12_number 35 = .ok (.invokevirtual 186, 3) := by decide +kernel
theorem dX12_number_38 : decode cX12_number 38 = .ok (.ifCond .eq 49, 3) := by decide +kernel
theorem dX12_number_41 : decode cX12_number 41 = .ok (.aload_n 0, 1) := by decide +kernel
theorem dX12_number_42 : decode cX12_number 42 = .ok (.bipush 10, 2) := by decide +kernel
theorem dX12_number_44 : decode cX12_number 44 = .ok (.aload_n 0, 1) := by decide +kernel
theorem dX12_number_45 : decode cX12_number 45 = .ok (.getfield 183, 3) := by decide +kernel
theorem dX12_number_48 : decode cX12_number 48 = .ok (.imul, 1) := by decide +kernel
theorem dX12_number_49 : decode cX12_number 49 = .ok (.aload_n 0, 1) := by decide +kernel
theorem dX12_number_50 : decode cX12_number 50 = .ok (.getfield 42, 3) := by decide +kernel
theorem dX12_number_53 : decode cX12_number 53 = .ok (.aload_n 0, 1) := by decide +kernel
theorem dX12_number_54 : decode cX12_number 54 = .ok (.getfield 180, 3) := by decide +kernel
theorem dX12_number_57 : decode cX12_number 57 = .ok (.aload_n 0, 1) := by decide +kernel
theorem dX12_number_58 : decode cX12_number 58 = .ok (.getfield 174, 3) := by decide +kernel
theorem dX12_number_61 : decode cX12_number 61 = .ok (.iadd, 1) := by decide +kernel
theorem dX12_number_62 : decode cX12_number 62 = .ok (.laload, 1) := by decide +kernel
theorem dX12_number_63 : decode cX12_number 63 = .ok (.l2i, 1) := by decide +kernel
theorem dX12_number_64 : decode cX12_number 64 = .ok (.iadd, 1) := by decide +kernel
theorem dX12_number_65 : decode cX12_number 65 = .ok (.bipush 48, 2) := by decide +kernel
theorem dX12_number_67 : decode cX12_number 67 = .ok (.isub, 1) := by decide +kernel
theorem dX12_number_68 : decode cX12_number 68 = .ok (.putfield 183, 3) := by decide +kernel
theorem dX12_number_71 : decode cX12_number 71 = .ok (.aload_n 0, 1) := by decide +kernel
theorem dX12_number_72 : decode cX12_number 72 = .ok (.dup, 1) := by decide +kernel
theorem dX12_number_73 : decode cX12_number 73 = .ok (.getfield 174, 3) := by decide +kernel
theorem dX12_number_76 : decode cX12_number 76 = .ok (.iconst 1, 1) := by decide +kernel
theorem dX12_number_77 : decode cX12_number 77 = .ok (.iadd, 1) := by decide +kernel
theorem dX12_number_78 : decode cX12_number 78 = .ok (.putfield 174, 3) := by decide +kernel
theorem dX12_number_81 : decode cX12_number 81 = .ok (.iinc 3 1, 3) := by decide +kernel
theorem dX12_number_84 : decode cX12_number 84 = .ok (.goto (-56), 3) := by decide +kernel
theorem dX12_number_87 : decode cX12_number 87 = .ok (.aload_n 0, 1) := by decide +kernel
theorem dX12_number_88 : decode cX12_number 88 = .ok (.getfield 183, 3) := by decide +kernel
theorem dX12_number_91 : decode cX12_number 91 = .ok (.iload_n 1, 1) := by decide +kernel
theorem dX12_number_92 : decode cX12_number 92 = .ok (.if_icmp .le 11, 3) := by decide +kernel
theorem dX12_number_95 : decode cX12_number 95 = .ok (.aload_n 0, 1) := by decide +kernel
theorem dX12_number_96 : decode cX12_number 96 = .ok (.iload_n 2, 1) := by decide +kernel
theorem dX12_number_97 : decode cX12_number 97 = .ok (.invokevirtual 190, 3) := by decide +kernel
theorem dX12_number_100 : decode cX12_number 100 = .ok (.ifCond .eq 7, 3) := by decide +kernel
theorem dX12_number_103 : decode cX12_number 103 = .ok (.iconst 1, 1) := by decide +kernel
theorem dX12_number_104 : decode cX12_number 104 = .ok (.goto 4, 3) := by decide +kernel
theorem dX12_number_107 : decode cX12_number 107 = .ok (.iconst 0, 1) := by decide +kernel
theorem dX12_number_108 : decode cX12_number 108 = .ok (.ireturn, 1) := by decide +kernel
theorem dX12_blank_0 : decode cX12_blank 0 = .ok (.aload_n 0, 1) := by decide +kernel
theorem dX12_blank_1 : decode cX12_blank 1 = .ok (.getfield 174, 3) := by decide +kernel
theorem dX12_blank_4 : decode cX12_blank 4 = .ok (.aload_n 0, 1) := by decide +kernel
theorem dX12_blank_5 : decode cX12_blank 5 = .ok (.getfield 177, 3) := by decide +kernel
theorem dX12_blank_8 : decode cX12_blank 8 = .ok (.if_icmp .ge 23, 3) := by decide +kernel
theorem dX12_blank_11 : decode cX12_blank 11 = .ok (.aload_n 0, 1) := by decide +kernel
theorem dX12_blank_12 : decode cX12_blank 12 = .ok (.getfield 42, 3) := by decide +kernel
theorem dX12_blank_15 : decode cX12_blank 15 = .ok (.aload_n 0, 1) := by decide +kernel
theorem dX12_blank_16 : decode cX12_blank 16 = .ok (.getfield 180, 3) := by decide +kernel
theorem dX12_blank_19 : decode cX12_blank 19 = .ok (.aload_n 0, 1) := by decide +kernel
theorem dX12_blank_20 : decode cX12_blank 20 = .ok (.getfield 174, 3) := by decide +kernel
theorem dX12_blank_23 : decode cX12_blank 23 = .ok (.iadd, 1) := by decide +kernel
theorem dX12_blank_24 : decode cX12_blank 24 = .ok (.laload, 1) := by decide +kernel
theorem dX12_blank_25 : decode cX12_blank 25 = .ok (.l2i, 1) := by decide +kernel
theorem dX12_blank_26 : decode cX12_blank 26 = .ok (.bipush 32, 2) := by decide +kernel
theorem dX12_blank_28 : decode cX12_blank 28 = .ok (.if_icmp .eq 12, 3) := by decide +kernel
theorem dX12_blank_31 : decode cX12_blank 31 = .ok (.aload_n 0, 1) := by decide +kernel
theorem dX12_blank_32 : decode cX12_blank 32 = .ok (.aload_n 0, 1) := by decide +kernel
theorem dX12_blank_33 : decode cX12_blank 33 = .ok (.getfield 174, 3) := by decide +kernel
theorem dX12_blank_36 : decode cX12_blank 36 = .ok (.invokevirtual 190, 3) := by decide +kernel
theorem dX12_blank_39 : decode cX12_blank 39 = .ok (.ireturn, 1) := by decide +kernel
theorem dX12_blank_40 : decode cX12_blank 40 = .ok (.aload_n 0, 1) := by decide +kernel
theorem dX12_blank_41 : decode cX12_blank 41 = .ok (.dup, 1) := by decide +kernel
theorem dX12_blank_42 : decode cX12_blank 42 = .ok (.getfield 174, 3) := by decide +kernel
theorem dX12_blank_45 : decode cX12_blank 45 = .ok (.iconst 1, 1) := by decide +kernel
theorem dX12_blank_46 : decode cX12_blank 46 = .ok (.iadd, 1) := by decide +kernel
theorem dX12_blank_47 : decode cX12_blank 47 = .ok (.putfield 174, 3) := by decide +kernel
theorem dX12_blank_50 : decode cX12_blank 50 = .ok (.iconst 1, 1) := by decide +kernel
theorem dX12_blank_51 : decode cX12_blank 51 = .ok (.ireturn, 1) := by decide +kernel
theorem dX12_letters_0 : decode cX12_letters 0 = .ok (.aload_n 0, 1) := by decide +kernel
theorem dX12_letters_1 : decode cX12_letters 1 = .ok (.iconst 0, 1) := by decide +kernel
theorem dX12_letters_2 : decode cX12_letters 2 = .ok (.putfield 193, 3) := by decide +kernel
theorem dX12_letters_5 : decode cX12_letters 5 = .ok (.aload_n 0, 1) := by decide +kernel
theorem dX12_letters_6 : decode cX12_letters 6 = .ok (.lconst 0, 1) := by decide +kernel
theorem dX12_letters_7 : decode cX12_letters 7 = .ok (.putfield 196, 3) := by decide +kernel
theorem dX12_letters_10 : decode cX12_letters 10 = .ok (.aload_n 0, 1) := by decide +kernel
theorem dX12_letters_11 : decode cX12_letters 11 = .ok (.getfield 174, 3) := by decide +kernel
theorem dX12_letters_14 : decode cX12_letters 14 = .ok (.aload_n 0, 1) := by decide +kernel
theorem dX12_letters_15 : decode cX12_letters 15 = .ok (.getfield 177, 3) := by decide +kernel
theorem dX12_letters_18 : decode cX12_letters 18 = .ok (.if_icmp .ge 118, 3) := by decide +kernel
theorem dX12_letters_21 : decode cX12_letters 21 = .ok (.aload_n 0, 1) := by decide +kernel
theorem dX12_letters_22 : decode cX12_letters 22 = .ok (.getfield 42, 3) := by decide +kernel
theorem dX12_letters_25 : decode cX12_letters 25 = .ok (.aload_n 0, 1) := by decide +kernel
theorem dX12_letters_26 : decode cX12_letters 26 = .ok (.getfield 180, 3) := by decide +kernel
theorem dX12_letters_29 : decode cX12_letters 29 = .ok (.aload_n 0, 1) := by decide +kernel
theorem dX12_letters_30 : decode cX12_letters 30 = .ok (.getfield 174, 3) := by decide +kernel
theorem dX12_letters_33 : decode cX12_letters 33 = .ok (.iadd, 1) := by decide +kernel
theorem dX12_letters_34 : decode cX12_letters 34 = .ok (.laload, 1) := by decide +kernel
theorem dX12_letters_35 : decode cX12_letters 35 = .ok (.l2i, 1) := by decide +kernel
theorem dX12_letters_36 : decode cX12_letters 36 = .ok (.bipush 108, 2) := by decide +kernel
theorem dX12_letters_38 : decode cX12_letters 38 = .ok (.if_icmp .eq 23, 3) := by decide +kernel
theorem dX12_letters_41 : decode cX12_letters 41 = .ok (.aload_n 0, 1) := by decide +kernel
theorem dX12_letters_42 : decode cX12_letters 42 = .ok (.getfield 42, 3) := by decide +kernel
theorem dX12_letters_45 : decode cX12_letters 45 = .ok (.aload_n 0, 1) := by decide +kernel
theorem dX12_letters_46 : decode cX12_letters 46 = .ok (.getfield 180, 3) := by decide +kernel
theorem dX12_letters_49 : decode cX12_letters 49 = .ok (.aload_n 0, 1) := by decide +kernel
theorem dX12_letters_50 : decode cX12_letters 50 = .ok (.getfield 174, 3) := by decide +kernel
theorem dX12_letters_53 : decode cX12_letters 53 = .ok (.iadd, 1) := by decide +kernel
theorem dX12_letters_54 : decode cX12_letters 54 = .ok (.laload, 1) := by decide +kernel
theorem dX12_letters_55 : decode cX12_letters 55 = .ok (.l2i, 1) := by decide +kernel
theorem dX12_letters_56 : decode cX12_letters 56 = .ok (.bipush 114, 2) := by decide +kernel
theorem dX12_letters_58 : decode cX12_letters 58 = .ok (.if_icmp .ne 78, 3) := by decide +kernel
theorem dX12_letters_61 : decode cX12_letters 61 = .ok (.aload_n 0, 1) := by decide +kernel
theorem dX12_letters_62 : decode cX12_letters 62 = .ok (.getfield 193, 3) := by decide +kernel
theorem dX12_letters_65 : decode cX12_letters 65 = .ok (.iload_n 1, 1) := by decide +kernel
theorem dX12_letters_66 : decode cX12_letters 66 = .ok (.if_icmp .ne 12, 3) := by decide +kernel
theorem dX12_letters_69 : decode cX12_letters 69 = .ok (.aload_n 0, 1) := by decide +kernel
theorem dX12_letters_70 : decode cX12_letters 70 = .ok (.aload_n 0, 1) := by decide +kernel
theorem dX12_letters_71 : decode cX12_letters 71 = .ok (.getfield 174, 3) := by decide +kernel
theorem dX12_letters_74 : decode cX12_letters 74 = .ok (.invokevirtual 190, 3) := by decide +kernel
theorem dX12_letters_77 : decode cX12_letters 77 = .ok (.ireturn, 1) := by decide +kernel
theorem dX12_letters_78 : decode cX12_letters 78 = .ok (.aload_n 0, 1) := by decide +kernel
theorem dX12_letters_79 : decode cX12_letters 79 = .ok (.getfield 42, 3) := by decide +kernel
theorem dX12_letters_82 : decode cX12_letters 82 = .ok (.aload_n 0, 1) := by decide +kernel
theorem dX12_letters_83 : decode cX12_letters 83 = .ok (.getfield 180, 3) := by decide +kernel
theorem dX12_letters_86 : decode cX12_letters 86 = .ok (.aload_n 0, 1) := by decide +kernel
theorem dX12_letters_87 : decode cX12_letters 87 = .ok (.getfield 174, 3) := by decide +kernel
theorem dX12_letters_90 : decode cX12_letters 90 = .ok (.iadd, 1) := by decide +kernel
theorem dX12_letters_91 : decode cX12_letters 91 = .ok (.laload, 1) := by decide +kernel
theorem dX12_letters_92 : decode cX12_letters 92 = .ok (.l2i, 1) := by decide +kernel
theorem dX12_letters_93 : decode cX12_letters 93 = .ok (.bipush 108, 2) := by decide +kernel
theorem dX12_letters_95 : decode cX12_letters 95 = .ok (.if_icmp .ne 18, 3) := by decide +kernel
theorem dX12_letters_98 : decode cX12_letters 98 = .ok (.aload_n 0, 1) := by decide +kernel
theorem dX12_letters_99 : decode cX12_letters 99 = .ok (.dup, 1) := by decide +kernel
theorem dX12_letters_100 : decode cX12_letters 100 = .ok (.getfield 196, 3) := by decide +kernel
theorem dX12_letters_103 : decode cX12_letters 103 = .ok (.lconst 1, 1) := by decide +kernel
theorem dX12_letters_104 : decode cX12_letters 104 = .ok (.aload_n 0, 1) := by decide +kernel
theorem dX12_letters_105 : decode cX12_letters 105 = .ok (.getfield 193, 3) := by decide +kernel
theorem dX12_letters_108 : decode cX12_letters 108 = .ok (.lshl, 1) := by decide +kernel
theorem dX12_letters_109 : decode cX12_letters 109 = .ok (.lor, 1) := by decide +kernel
theorem dX12_letters_110 : decode cX12_letters 110 = .ok (.putfield 196, 3) := by decide +kernel
theorem dX12_letters_113 : decode cX12_letters 113 = .ok (.aload_n 0, 1) := by decide +kernel
theorem dX12_letters_114 : decode cX12_letters 114 = .ok (.dup, 1) := by decide +kernel
theorem dX12_letters_115 : decode cX12_letters 115 = .ok (.getfield 193, 3) := by decide +kernel
theorem dX12_letters_118 : decode cX12_letters 118 = .ok (.iconst 1, 1) := by decide +kernel
theorem dX12_letters_119 : decode cX12_letters 119 = .ok (.iadd, 1) := by decide +kernel
theorem dX12_letters_120 : decode cX12_letters 120 = .ok (.putfield 193, 3) := by decide +kernel
theorem dX12_letters_123 : decode cX12_letters 123 = .ok (.aload_n 0, 1) := by decide +kernel
theorem dX12_letters_124 : decode cX12_letters 124 = .ok (.dup, 1) := by decide +kernel
theorem dX12_letters_125 : decode cX12_letters 125 = .ok (.getfield 174, 3) := by decide +kernel
theorem dX12_letters_128 : decode cX12_letters 128 = .ok (.iconst 1, 1) := by decide +kernel
theorem dX12_letters_129 : decode cX12_letters 129 = .ok (.iadd, 1) := by decide +kernel
theorem dX12_letters_130 : decode cX12_letters 130 = .ok (.putfield 174, 3) := by decide +kernel
theorem dX12_letters_133 : decode cX12_letters 133 = .ok (.goto (-123), 3) := by decide +kernel
theorem dX12_letters_136 : decode cX12_letters 136 = .ok (.aload_n 0, 1) := by decide +kernel
theorem dX12_letters_137 : decode cX12_letters 137 = .ok (.getfield 193, 3) := by decide +kernel
theorem dX12_letters_140 : decode cX12_letters 140 = .ok (.ifCond .gt 14, 3) := by decide +kernel
theorem dX12_letters_143 : decode cX12_letters 143 = .ok (.aload_n 0, 1) := by decide +kernel
theorem dX12_letters_144 : decode cX12_letters 144 = .ok (.aload_n 0, 1) := by decide +kernel
theorem dX12_letters_145 : decode cX12_letters 145 = .ok (.getfield 174, 3) := by decide +kernel
theorem dX12_letters_148 : decode cX12_letters 148 = .ok (.invokevirtual 190, 3) := by decide +kernel
theorem dX12_letters_151 : decode cX12_letters 151 = .ok (.ifCond .eq 7, 3) := by decide +kernel
theorem dX12_letters_154 : decode cX12_letters 154 = .ok (.iconst 1, 1) := by decide +kernel
theorem dX12_letters_155 : decode cX12_letters 155 = .ok (.goto 4, 3) := by decide +kernel
theorem dX12_letters_158 : decode cX12_letters 158 = .ok (.iconst 0, 1) := by decide +kernel
theorem dX12_letters_159 : decode cX12_letters 159 = .ok (.ireturn, 1) := by decide +kernel
theorem dX12_isStrip__0 : decode cX12_isStrip_ 0 = .ok (.iconst 0, 1) := by decide +kernel
theorem dX12_isStrip__1 : decode cX12_isStrip_ 1 = .ok (.istore_n 1, 1) := by decide +kernel
theorem dX12_isStrip__2 : decode cX12_isStrip_ 2 = .ok (.iload_n 1, 1) := by decide +kernel
theorem dX12_isStrip__3 : decode cX12_isStrip_ 3 = .ok (.iconst 5, 1) := by decide +kernel
theorem dX12_isStrip__4 : decode cX12_isStrip_ 4 = .ok (.if_icmp .ge 48, 3) := by decide +kernel
theorem dX12_isStrip__7 : decode cX12_isStrip_ 7 = .ok (.aload_n 0, 1) := by decide +kernel
theorem dX12_isStrip__8 : decode cX12_isStrip_ 8 = .ok (.getfield 174, 3) := by decide +kernel
theorem dX12_isStrip__11 : decode cX12_isStrip_ 11 = .ok (.iload_n 1, 1) := by decide +kernel
theorem dX12_isStrip__12 : decode cX12_isStrip_ 12 = .ok (.iadd, 1) := by decide +kernel
theorem dX12_isStrip__13 : decode cX12_isStrip_ 13 = .ok (.aload_n 0, 1) := by decide +kernel
theorem dX12_isStrip__14 : decode cX12_isStrip_ 14 = .ok (.getfield 177, 3) := by decide +kernel
theorem dX12_isStrip__17 : decode cX12_isStrip_ 17 = .ok (.if_icmp .ge 35, 3) := by decide +kernel
theorem dX12_isStrip__20 : decode cX12_isStrip_ 20 = .ok (.aload_n 0, 1) := by decide +kernel
theorem dX12_isStrip__21 : decode cX12_isStrip_ 21 = .ok (.getfield 42, 3) := by decide +kernel
theorem dX12_isStrip__24 : decode cX12_isStrip_ 24 = .ok (.aload_n 0, 1) := by decide +kernel
theorem dX12_isStrip__25 : decode cX12_isStrip_ 25 = .ok (.getfield 180, 3) := by decide +kernel
theorem dX12_isStrip__28 : decode cX12_isStrip_ 28 = .ok (.aload_n 0, 1) := by decide +kernel
theorem dX12_isStrip__29 : decode cX12_isStrip_ 29 = .ok (.getfield 174, 3) := by decide +kernel
theorem dX12_isStrip__32 : decode cX12_isStrip_ 32 = .ok (.iadd, 1) := by decide +kernel
theorem dX12_isStrip__33 : decode cX12_isStrip_ 33 = .ok (.iload_n 1, 1) := by decide +kernel
theorem dX12_isStrip__34 : decode cX12_isStrip_ 34 = .ok (.iadd, 1) := by decide +kernel
theorem dX12_isStrip__35 : decode cX12_isStrip_ 35 = .ok (.laload, 1) := by decide +kernel
theorem dX12_isStrip__36 : decode cX12_isStrip_ 36 = .ok (.l2i, 1) := by decide +kernel
theorem dX12_isStrip__37 : decode cX12_isStrip_ 37 = .ok (.aload_n 0, 1) := by decide +kernel
theorem dX12_isStrip__38 : decode cX12_isStrip_ 38 = .ok (.getfield 48, 3) := by decide +kernel
theorem dX12_isStrip__41 : decode cX12_isStrip_ 41 = .ok (.iload_n 1, 1) := by decide +kernel
theorem dX12_isStrip__42 : decode cX12_isStrip_ 42 = .ok (.iaload, 1) := by decide +kernel
theorem dX12_isStrip__43 : decode cX12_isStrip_ 43 = .ok (.if_icmp .ne 9, 3) := by decide +kernel
theorem dX12_isStrip__46 : decode cX12_isStrip_ 46 = .ok (.iinc 1 1, 3) := by decide +kernel
theorem dX12_isStrip__49 : decode cX12_isStrip_ 49 = .ok (.goto (-47), 3) := by decide +kernel
theorem dX12_isStrip__52 : decode cX12_isStrip_ 52 = .ok (.iload_n 1, 1) := by decide +kernel
theorem dX12_isStrip__53 : decode cX12_isStrip_ 53 = .ok (.iconst 5, 1) := by decide +kernel
theorem dX12_isStrip__54 : decode cX12_isStrip_ 54 = .ok (.if_icmp .ne 7, 3) := by decide +kernel
theorem dX12_isStrip__57 : decode cX12_isStrip_ 57 = .ok (.iconst 1, 1) := by decide +kernel
theorem dX12_isStrip__58 : decode cX12_isStrip_ 58 = .ok (.goto 4, 3) := by decide +kernel
theorem dX12_isStrip__61 : decode cX12_isStrip_ 61 = .ok (.iconst 0, 1) := by decide +kernel
theorem dX12_isStrip__62 : decode cX12_isStrip_ 62 = .ok (.ireturn, 1) := by decide +kernel
theorem dX12_item_0 : decode cX12_item 0 = .ok (.aload_n 0, 1) := by decide +kernel
theorem dX12_item_1 : decode cX12_item 1 = .ok (.getfield 129, 3) := by decide +kernel
theorem dX12_item_4 : decode cX12_item 4 = .ok (.bipush 8, 2) := by decide +kernel
theorem dX12_item_6 : decode cX12_item 6 = .ok (.if_icmp .ne 19, 3) := by decide +kernel
theorem dX12_item_9 : decode cX12_item 9 = .ok (.aload_n 0, 1) := by decide +kernel
theorem dX12_item_10 : decode cX12_item 10 = .ok (.invokevirtual 200, 3) := by decide +kernel
theorem dX12_item_13 : decode cX12_item 13 = .ok (.ifCond .eq 12, 3) := by decide +kernel
theorem dX12_item_16 : decode cX12_item 16 = .ok (.aload_n 0, 1) := by decide +kernel
theorem dX12_item_17 : decode cX12_item 17 = .ok (.aload_n 0, 1) := by decide +kernel
theorem dX12_item_18 : decode cX12_item 18 = .ok (.getfield 174, 3) := by decide +kernel
theorem dX12_item_21 : decode cX12_item 21 = .ok (.invokevirtual 190, 3) := by decide +kernel
theorem dX12_item_24 : decode cX12_item 24 = .ok (.ireturn, 1) := by decide +kernel
theorem dX12_item_25 : decode cX12_item 25 = .ok (.aload_n 0, 1) := by decide +kernel
theorem dX12_item_26 : decode cX12_item 26 = .ok (.getfield 174, 3) := by decide +kernel
theorem dX12_item_29 : decode cX12_item 29 = .ok (.istore_n 1, 1) := by decide +kernel
theorem dX12_item_30 : decode cX12_item 30 = .ok (.aload_n 0, 1) := by decide +kernel
theorem dX12_item_31 : decode cX12_item 31 = .ok (.invokevirtual 202, 3) := by decide +kernel
theorem dX12_item_34 : decode cX12_item 34 = .ok (.istore_n 2, 1) := by decide +kernel
theorem dX12_item_35 : decode cX12_item 35 = .ok (.iload_n 2, 1) := by decide +kernel
theorem dX12_item_36 : decode cX12_item 36 = .ok (.iconst (-1), 1) := by decide +kernel
theorem dX12_item_37 : decode cX12_item 37 = .ok (.if_icmp .ne 5, 3) := by decide +kernel
theorem dX12_item_40 : decode cX12_item 40 = .ok (.iconst 0, 1) := by decide +kernel
theorem dX12_item_41 : decode cX12_item 41 = .ok (.ireturn, 1) := by decide +kernel
theorem dX12_item_42 : decode cX12_item 42 = .ok (.iload_n 2, 1) := by decide +kernel
theorem dX12_item_43 : decode cX12_item 43 = .ok (.ifCond .ne 104, 3) := by decide +kernel
theorem dX12_item_46 : decode cX12_item 46 = .ok (.aload_n 0, 1) := by decide +kernel
theorem dX12_item_47 : decode cX12_item 47 = .ok (.getfield 129, 3) := by decide +kernel
theorem dX12_item_50 : decode cX12_item 50 = .ok (.bipush 8, 2) := by decide +kernel
theorem dX12_item_52 : decode cX12_item 52 = .ok (.if_icmp .ne 9, 3) := by decide +kernel
theorem dX12_item_55 : decode cX12_item 55 = .ok (.aload_n 0, 1) := by decide +kernel
theorem dX12_item_56 : decode cX12_item 56 = .ok (.iload_n 1, 1) := by decide +kernel
theorem dX12_item_57 : decode cX12_item 57 = .ok (.invokevirtual 190, 3) := by decide +kernel
theorem dX12_item_60 : decode cX12_item 60 = .ok (.ireturn, 1) := by decide +kernel
theorem dX12_item_61 : decode cX12_item 61 = .ok (.aload_n 0, 1) := by decide +kernel
theorem dX12_item_62 : decode cX12_item 62 = .ok (.bipush 6, 2) := by decide +kernel
theorem dX12_item_64 : decode cX12_item 64 = .ok (.invokevirtual 206, 3) := by decide +kernel
theorem dX12_item_67 : decode cX12_item 67 = .ok (.ifCond .ne 5, 3) := by decide +kernel
theorem dX12_item_70 : decode cX12_item 70 = .ok (.iconst 0, 1) := by decide +kernel
theorem dX12_item_71 : decode cX12_item 71 = .ok (.ireturn, 1) := by decide +kernel
theorem dX12_item_72 : decode cX12_item 72 = .ok (.aload_n 0, 1) := by decide +kernel
theorem dX12_item_73 : decode cX12_item 73 = .ok (.getfield 183, 3) := by decide +kernel
theorem dX12_item_76 : decode cX12_item 76 = .ok (.istore_n 3, 1) := by decide +kernel
theorem dX12_item_77 : decode cX12_item 77 = .ok (.aload_n 0, 1) := by decide +kernel
theorem dX12_item_78 : decode cX12_item 78 = .ok (.invokevirtual 209, 3) := by decide +kernel
theorem dX12_item_81 : decode cX12_item 81 = .ok (.ifCond .eq 12, 3) := by decide +kernel
theorem dX12_item_84 : decode cX12_item 84 = .ok (.aload_n 0, 1) := by decide +kernel
theorem dX12_item_85 : decode cX12_item 85 = .ok (.ldc 163, 2) := by decide +kernel
theorem dX12_item_87 : decode cX12_item 87 = .ok (.invokevirtual 206, 3) := by decide +kernel
theorem dX12_item_90 : decode cX12_item 90 = .ok (.ifCond .ne 5, 3) := by decide +kernel
theorem dX12_item_93 : decode cX12_item 93 = .ok (.iconst 0, 1) := by decide +kernel
theorem dX12_item_94 : decode cX12_item 94 = .ok (.ireturn, 1) := by decide +kernel
theorem dX12_item_95 : decode cX12_item 95 = .ok (.aload_n 0, 1) := by decide +kernel
theorem dX12_item_96 : decode cX12_item 96 = .ok (.getfield 183, 3) := by decide +kernel
theorem dX12_item_99 : decode cX12_item 99 = .ok (.istore 4, 2) := by decide +kernel
theorem dX12_item_101 : decode cX12_item 101 = .ok (.aload_n 0, 1) := by decide +kernel
theorem dX12_item_102 : decode cX12_item 102 = .ok (.invokevirtual 209, 3) := by decide +kernel
theorem dX12_item_105 : decode cX12_item 105 = .ok (.ifCond .eq 22, 3) := by decide +kernel
theorem dX12_item_108 : decode cX12_item 108 = .ok (.aload_n 0, 1) := by decide +kernel
theorem dX12_item_109 : decode cX12_item 109 = .ok (.iload_n 3, 1) := by decide +kernel
theorem dX12_item_110 : decode cX12_item 110 = .ok (.iconst 2, 1) := by decide +kernel
theorem dX12_item_111 : decode cX12_item 111 = .ok (.if_icmp .ne 8, 3) := by decide +kernel
theorem dX12_item_114 : decode cX12_item 114 = .ok (.bipush 25, 2) := by decide +kernel
theorem dX12_item_116 : decode cX12_item 116 = .ok (.goto 5, 3) := by decide +kernel
theorem dX12_item_119 : decode cX12_item 119 = .ok (.bipush 40, 2) := by decide +kernel
theorem dX12_item_121 : decode cX12_item 121 = .ok (.invokevirtual 212, 3) := by decide +kernel
theorem dX12_item_124 : decode cX12_item 124 = .ok (.ifCond .ne 5, 3) := by decide +kernel
theorem dX12_item_127 : decode cX12_item 127 = .ok (.iconst 0, 1) := by decide +kernel
theorem dX12_item_128 : decode cX12_item 128 = .ok (.ireturn, 1) := by decide +kernel
theorem dX12_item_129 : decode cX12_item 129 = .ok (.aload_n 0, 1) := by decide +kernel
theorem dX12_item_130 : decode cX12_item 130 = .ok (.iload_n 3, 1) := by decide +kernel
theorem dX12_item_131 : decode cX12_item 131 = .ok (.iload 4, 2) := by decide +kernel
theorem dX12_item_133 : decode cX12_item 133 = .ok (.aload_n 0, 1) := by decide +kernel
theorem dX12_item_134 : decode cX12_item 134 = .ok (.getfield 193, 3) := by decide +kernel
theorem dX12_item_137 : decode cX12_item 137 = .ok (.aload_n 0, 1) := by decide +kernel
theorem dX12_item_138 : decode cX12_item 138 = .ok (.getfield 196, 3) := by decide +kernel
theorem dX12_item_141 : decode cX12_item 141 = .ok (.invokevirtual 164, 3) := by decide +kernel
theorem dX12_item_144 : decode cX12_item 144 = .ok (.pop, 1) := by decide +kernel
theorem dX12_item_145 : decode cX12_item 145 = .ok (.iconst 1, 1) := by decide +kernel
theorem dX12_item_146 : decode cX12_item 146 = .ok (.ireturn, 1) := by decide +kernel
theorem dX12_item_147 : decode cX12_item 147 = .ok (.aload_n 0, 1) := by decide +kernel
theorem dX12_item_148 : decode cX12_item 148 = .ok (.getfield 174, 3) := by decide +kernel
theorem dX12_item_151 : decode cX12_item 151 = .ok (.istore_n 3, 1) := by decide +kernel
theorem dX12_item_152 : decode cX12_item 152 = .ok (.aload_n 0, 1) := by decide +kernel
theorem dX12_item_153 : decode cX12_item 153 = .ok (.aload_n 0, 1) := by decide +kernel
theorem dX12_item_154 : decode cX12_item 154 = .ok (.getfield 129, 3) := by decide +kernel
theorem dX12_item_157 : decode cX12_item 157 = .ok (.iconst 1, 1) := by decide +kernel
theorem dX12_item_158 : decode cX12_item 158 = .ok (.isub, 1) := by decide +kernel
theorem dX12_item_159 : decode cX12_item 159 = .ok (.invokevirtual 206, 3) := by decide +kernel
theorem dX12_item_162 : decode cX12_item 162 = .ok (.ifCond .ne 5, 3) := by decide +kernel
theorem dX12_item_165 : decode cX12_item 165 = .ok (.iconst 0, 1) := by decide +kernel
theorem dX12_item_166 : decode cX12_item 166 = .ok (.ireturn, 1) := by decide +kernel
theorem dX12_item_167 : decode cX12_item 167 = .ok (.aload_n 0, 1) := by decide +kernel
theorem dX12_item_168 : decode cX12_item 168 = .ok (.getfield 183, 3) := by decide +kernel
theorem dX12_item_171 : decode cX12_item 171 = .ok (.istore 4, 2) := by decide +kernel
theorem dX12_item_173 : decode cX12_item 173 = .ok (.iload_n 2, 1) := by decide +kernel
theorem dX12_item_174 : decode cX12_item 174 = .ok (.iconst 2, 1) := by decide +kernel
theorem dX12_item_175 : decode cX12_item 175 = .ok (.if_icmp .ne 54, 3) := by decide +kernel
theorem dX12_item_178 : decode cX12_item 178 = .ok (.aload_n 0, 1) := by decide +kernel
theorem dX12_item_179 : decode cX12_item 179 = .ok (.getfield 23, 3) := by decide +kernel
theorem dX12_item_182 : decode cX12_item 182 = .ok (.iload 4, 2) := by decide +kernel
theorem dX12_item_184 : decode cX12_item 184 = .ok (.iaload, 1) := by decide +kernel
theorem dX12_item_185 : decode cX12_item 185 = .ok (.iconst 2, 1) := by decide +kernel
theorem dX12_item_186 : decode cX12_item 186 = .ok (.if_icmp .ge 9, 3) := by decide +kernel
theorem dX12_item_189 : decode cX12_item 189 = .ok (.aload_n 0, 1) := by decide +kernel
theorem dX12_item_190 : decode cX12_item 190 = .ok (.iload_n 3, 1) := by decide +kernel
theorem dX12_item_191 : decode cX12_item 191 = .ok (.invokevirtual 190, 3) := by decide +kernel
theorem dX12_item_194 : decode cX12_item 194 = .ok (.ireturn, 1) := by decide +kernel
theorem dX12_item_195 : decode cX12_item 195 = .ok (.aload_n 0, 1) := by decide +kernel
theorem dX12_item_196 : decode cX12_item 196 = .ok (.getfield 23, 3) := by decide +kernel
theorem dX12_item_199 : decode cX12_item 199 = .ok (.iload 4, 2) := by decide +kernel
theorem dX12_item_201 : decode cX12_item 201 = .ok (.dup2, 1) := by decide +kernel
theorem dX12_item_202 : decode cX12_item 202 = .ok (.iaload, 1) := by decide +kernel
theorem dX12_item_203 : decode cX12_item 203 = .ok (.iconst 1, 1) := by decide +kernel
theorem dX12_item_204 : decode cX12_item 204 = .ok (.isub, 1) := by decide +kernel
theorem dX12_item_205 : decode cX12_item 205 = .ok (.iastore, 1) := by decide +kernel
theorem dX12_item_206 : decode cX12_item 206 = .ok (.aload_n 0, 1) := by decide +kernel
theorem dX12_item_207 : decode cX12_item 207 = .ok (.getfield 26, 3) := by decide +kernel
theorem dX12_item_210 : decode cX12_item 210 = .ok (.iload 4, 2) := by decide +kernel
theorem dX12_item_212 : decode cX12_item 212 = .ok (.dup2, 1) := by decide +kernel
theorem dX12_item_213 : decode cX12_item 213 = .ok (.laload, 1) := by decide +kernel
theorem dX12_item_214 : decode cX12_item 214 = .ok (.lconst 1, 1) := by decide +kernel
theorem dX12_item_215 : decode cX12_item 215 = .ok (.aload_n 0, 1) := by decide +kernel
theorem dX12_item_216 : decode cX12_item 216 = .ok (.getfield 23, 3) := by decide +kernel
theorem dX12_item_219 : decode cX12_item 219 = .ok (.iload 4, 2) := by decide +kernel
theorem dX12_item_221 : decode cX12_item 221 = .ok (.iaload, 1) := by decide +kernel
theorem dX12_item_222 : decode cX12_item 222 = .ok (.lshl, 1) := by decide +kernel
theorem dX12_item_223 : decode cX12_item 223 = .ok (.lconst 1, 1) := by decide +kernel
theorem dX12_item_224 : decode cX12_item 224 = .ok (.lsub, 1) := by decide +kernel
theorem dX12_item_225 : decode cX12_item 225 = .ok (.land, 1) := by decide +kernel
theorem dX12_item_226 : decode cX12_item 226 = .ok (.lastore, 1) := by decide +kernel
theorem dX12_item_227 : decode cX12_item 227 = .ok (.iconst 1, 1) := by decide +kernel
theorem dX12_item_228 : decode cX12_item 228 = .ok (.ireturn, 1) := by decide +kernel
theorem dX12_item_229 : decode cX12_item 229 = .ok (.aload_n 0, 1) := by decide +kernel
theorem dX12_item_230 : decode cX12_item 230 = .ok (.invokevirtual 209, 3) := by decide +kernel
theorem dX12_item_233 : decode cX12_item 233 = .ok (.ifCond .eq 19, 3) := by decide +kernel
theorem dX12_item_236 : decode cX12_item 236 = .ok (.aload_n 0, 1) := by decide +kernel
theorem dX12_item_237 : decode cX12_item 237 = .ok (.aload_n 0, 1) := by decide +kernel
theorem dX12_item_238 : decode cX12_item 238 = .ok (.getfield 23, 3) := by decide +kernel
theorem dX12_item_241 : decode cX12_item 241 = .ok (.iload 4, 2) := by decide +kernel
theorem dX12_item_243 : decode cX12_item 243 = .ok (.iaload, 1) := by decide +kernel
theorem dX12_item_244 : decode cX12_item 244 = .ok (.iconst 1, 1) := by decide +kernel
theorem dX12_item_245 : decode cX12_item 245 = .ok (.isub, 1) := by decide +kernel
theorem dX12_item_246 : decode cX12_item 246 = .ok (.invokevirtual 206, 3) := by decide +kernel
theorem dX12_item_249 : decode cX12_item 249 = .ok (.ifCond .ne 5, 3) := by decide +kernel
theorem dX12_item_252 : decode cX12_item 252 = .ok (.iconst 0, 1) := by decide +kernel
theorem dX12_item_253 : decode cX12_item 253 = .ok (.ireturn, 1) := by decide +kernel
theorem dX12_item_254 : decode cX12_item 254 = .ok (.aload_n 0, 1) := by decide +kernel
theorem dX12_item_255 : decode cX12_item 255 = .ok (.getfield 26, 3) := by decide +kernel
theorem dX12_item_258 : decode cX12_item 258 = .ok (.iload 4, 2) := by decide +kernel
theorem dX12_item_260 : decode cX12_item 260 = .ok (.dup2, 1) := by decide +kernel
theorem dX12_item_261 : decode cX12_item 261 = .ok (.laload, 1) := by decide +kernel
theorem dX12_item_262 : decode cX12_item 262 = .ok (.lconst 1, 1) := by decide +kernel
theorem dX12_item_263 : decode cX12_item 263 = .ok (.aload_n 0, 1) := by decide +kernel
theorem dX12_item_264 : decode cX12_item 264 = .ok (.getfield 183, 3) := by decide +kernel
theorem dX12_item_267 : decode cX12_item 267 = .ok (.lshl, 1) := by decide +kernel
theorem dX12_item_268 : decode cX12_item 268 = .ok (.lxor, 1) := by decide +kernel
theorem dX12_item_269 : decode cX12_item 269 = .ok (.lastore, 1) := by decide +kernel
theorem dX12_item_270 : decode cX12_item 270 = .ok (.iconst 1, 1) := by decide +kernel
theorem dX12_item_271 : decode cX12_item 271 = .ok (.ireturn, 1) := by decide +kernel
theorem dX12_all_0 : decode cX12_all 0 = .ok (.iconst 0, 1) := by decide +kernel
theorem dX12_all_1 : decode cX12_all 1 = .ok (.istore 4, 2) := by decide +kernel
theorem dX12_all_3 : decode cX12_all 3 = .ok (.iload 4, 2) := by decide +kernel
theorem dX12_all_5 : decode cX12_all 5 = .ok (.bipush 8, 2) := by decide +kernel
theorem dX12_all_7 : decode cX12_all 7 = .ok (.if_icmp .ge 116, 3) := by decide +kernel
theorem dX12_all_10 : decode cX12_all 10 = .ok (.iload_n 3, 1) := by decide +kernel
theorem dX12_all_11 : decode cX12_all 11 = .ok (.ifCond .eq 56, 3) := by decide +kernel
theorem dX12_all_14 : decode cX12_all 14 = .ok (.aload_n 0, 1) := by decide +kernel
theorem dX12_all_15 : decode cX12_all 15 = .ok (.getfield 17, 3) := by decide +kernel
theorem dX12_all_18 : decode cX12_all 18 = .ok (.iload 4, 2) := by decide +kernel
theorem dX12_all_20 : decode cX12_all 20 = .ok (.aload_n 1, 1) := by decide +kernel
theorem dX12_all_21 : decode cX12_all 21 = .ok (.iload 4, 2) := by decide +kernel
theorem dX12_all_23 : decode cX12_all 23 = .ok (.iaload, 1) := by decide +kernel
theorem dX12_all_24 : decode cX12_all 24 = .ok (.iastore, 1) := by decide +kernel
theorem dX12_all_25 : decode cX12_all 25 = .ok (.aload_n 0, 1) := by decide +kernel
theorem dX12_all_26 : decode cX12_all 26 = .ok (.getfield 20, 3) := by decide +kernel
theorem dX12_all_29 : decode cX12_all 29 = .ok (.iload 4, 2) := by decide +kernel
theorem dX12_all_31 : decode cX12_all 31 = .ok (.aload_n 1, 1) := by decide +kernel
theorem dX12_all_32 : decode cX12_all 32 = .ok (.bipush 8, 2) := by decide +kernel
theorem dX12_all_34 : decode cX12_all 34 = .ok (.iload 4, 2) := by decide +kernel
theorem dX12_all_36 : decode cX12_all 36 = .ok (.iadd, 1) := by decide +kernel
theorem dX12_all_37 : decode cX12_all 37 = .ok (.iaload, 1) := by decide +kernel
theorem dX12_all_38 : decode cX12_all 38 = .ok (.iastore, 1) := by decide +kernel
theorem dX12_all_39 : decode cX12_all 39 = .ok (.aload_n 0, 1) := by decide +kernel
theorem dX12_all_40 : decode cX12_all 40 = .ok (.getfield 23, 3) := by decide +kernel
theorem dX12_all_43 : decode cX12_all 43 = .ok (.iload 4, 2) := by decide +kernel
theorem dX12_all_45 : decode cX12_all 45 = .ok (.aload_n 1, 1) := by decide +kernel
theorem dX12_all_46 : decode cX12_all 46 = .ok (.bipush 16, 2) := by decide +kernel
theorem dX12_all_48 : decode cX12_all 48 = .ok (.iload 4, 2) := by decide +kernel
theorem dX12_all_50 : decode cX12_all 50 = .ok (.iadd, 1) := by decide +kernel
theorem dX12_all_51 : decode cX12_all 51 = .ok (.iaload, 1) := by decide +kernel
theorem dX12_all_52 : decode cX12_all 52 = .ok (.iastore, 1) := by decide +kernel
theorem dX12_all_53 : decode cX12_all 53 = .ok (.aload_n 0, 1) := by decide +kernel
theorem dX12_all_54 : decode cX12_all 54 = .ok (.getfield 26, 3) := by decide +kernel
theorem dX12_all_57 : decode cX12_all 57 = .ok (.iload 4, 2) := by decide +kernel
theorem dX12_all_59 : decode cX12_all 59 = .ok (.aload_n 2, 1) := by decide +kernel
theorem dX12_all_60 : decode cX12_all 60 = .ok (.iload 4, 2) := by decide +kernel
theorem dX12_all_62 : decode cX12_all 62 = .ok (.laload, 1) := by decide +kernel
theorem dX12_all_63 : decode cX12_all 63 = .ok (.lastore, 1) := by decide +kernel
theorem dX12_all_64 : decode cX12_all 64 = .ok (.goto 53, 3) := by decide +kernel
theorem dX12_all_67 : decode cX12_all 67 = .ok (.aload_n 1, 1) := by decide +kernel
theorem dX12_all_68 : decode cX12_all 68 = .ok (.iload 4, 2) := by decide +kernel
theorem dX12_all_70 : decode cX12_all 70 = .ok (.aload_n 0, 1) := by decide +kernel
theorem dX12_all_71 : decode cX12_all 71 = .ok (.getfield 17, 3) := by decide +kernel
theorem dX12_all_74 : decode cX12_all 74 = .ok (.iload 4, 2) := by decide +kernel
theorem dX12_all_76 : decode cX12_all 76 = .ok (.iaload, 1) := by decide +kernel
theorem dX12_all_77 : decode cX12_all 77 = .ok (.iastore, 1) := by decide +kernel
theorem dX12_all_78 : decode cX12_all 78 = .ok (.aload_n 1, 1) := by decide +kernel
theorem dX12_all_79 : decode cX12_all 79 = .ok (.bipush 8, 2) := by decide +kernel
theorem dX12_all_81 : decode cX12_all 81 = .ok (.iload 4, 2) := by decide +kernel
theorem dX12_all_83 : decode cX12_all 83 = .ok (.iadd, 1) := by decide +kernel
theorem dX12_all_84 : decode cX12_all 84 = .ok (.aload_n 0, 1) := by decide +kernel
theorem dX12_all_85 : decode cX12_all 85 = .ok (.getfield 20, 3) := by decide +kernel
theorem dX12_all_88 : decode cX12_all 88 = .ok (.iload 4, 2) := by decide +kernel
theorem dX12_all_90 : decode cX12_all 90 = .ok (.iaload, 1) := by decide +kernel
theorem dX12_all_91 : decode cX12_all 91 = .ok (.iastore, 1) := by decide +kernel
theorem dX12_all_92 : decode cX12_all 92 = .ok (.aload_n 1, 1) := by decide +kernel
theorem dX12_all_93 : decode cX12_all 93 = .ok (.bipush 16, 2) := by decide +kernel
theorem dX12_all_95 : decode cX12_all 95 = .ok (.iload 4, 2) := by decide +kernel
theorem dX12_all_97 : decode cX12_all 97 = .ok (.iadd, 1) := by decide +kernel
theorem dX12_all_98 : decode cX12_all 98 = .ok (.aload_n 0, 1) := by decide +kernel
theorem dX12_all_99 : decode cX12_all 99 = .ok (.getfield 23, 3) := by decide +kernel
theorem dX12_all_102 : decode cX12_all 102 = .ok (.iload 4, 2) := by decide +kernel
theorem dX12_all_104 : decode cX12_all 104 = .ok (.iaload, 1) := by decide +kernel
theorem dX12_all_105 : decode cX12_all 105 = .ok (.iastore, 1) := by decide +kernel
theorem dX12_all_106 : decode cX12_all 106 = .ok (.aload_n 2, 1) := by decide +kernel
theorem dX12_all_107 : decode cX12_all 107 = .ok (.iload 4, 2) := by decide +kernel
theorem dX12_all_109 : decode cX12_all 109 = .ok (.aload_n 0, 1) := by decide +kernel
theorem dX12_all_110 : decode cX12_all 110 = .ok (.getfield 26, 3) := by decide +kernel
theorem dX12_all_113 : decode cX12_all 113 = .ok (.iload 4, 2) := by decide +kernel
theorem dX12_all_115 : decode cX12_all 115 = .ok (.laload, 1) := by decide +kernel
theorem dX12_all_116 : decode cX12_all 116 = .ok (.lastore, 1) := by decide +kernel
theorem dX12_all_117 : decode cX12_all 117 = .ok (.iinc 4 1, 3) := by decide +kernel
theorem dX12_all_120 : decode cX12_all 120 = .ok (.goto (-117), 3) := by decide +kernel
theorem dX12_all_123 : decode cX12_all 123 = .ok (.iload_n 3, 1) := by decide +kernel
theorem dX12_all_124 : decode cX12_all 124 = .ok (.ifCond .eq 14, 3) := by decide +kernel
theorem dX12_all_127 : decode cX12_all 127 = .ok (.aload_n 0, 1) := by decide +kernel
theorem dX12_all_128 : decode cX12_all 128 = .ok (.aload_n 1, 1) := by decide +kernel
theorem dX12_all_129 : decode cX12_all 129 = .ok (.bipush 24, 2) := by decide +kernel
theorem dX12_all_131 : decode cX12_all 131 = .ok (.iaload, 1) := by decide +kernel
theorem dX12_all_132 : decode cX12_all 132 = .ok (.putfield 129, 3) := by decide +kernel
theorem dX12_all_135 : decode cX12_all 135 = .ok (.goto 11, 3) := by decide +kernel
theorem dX12_all_138 : decode cX12_all 138 = .ok (.aload_n 1, 1) := by decide +kernel
theorem dX12_all_139 : decode cX12_all 139 = .ok (.bipush 24, 2) := by decide +kernel
theorem dX12_all_141 : decode cX12_all 141 = .ok (.aload_n 0, 1) := by decide +kernel
theorem dX12_all_142 : decode cX12_all 142 = .ok (.getfield 129, 3) := by decide +kernel
theorem dX12_all_145 : decode cX12_all 145 = .ok (.iastore, 1) := by decide +kernel
theorem dX12_all_146 : decode cX12_all 146 = .ok (.return_, 1) := by decide +kernel
theorem dX12_read_0 : decode cX12_read 0 = .ok (.aload_n 0, 1) := by decide +kernel
theorem dX12_read_1 : decode cX12_read 1 = .ok (.iload_n 1, 1) := by decide +kernel
theorem dX12_read_2 : decode cX12_read 2 = .ok (.invokevirtual 156, 3) := by decide +kernel
theorem dX12_read_5 : decode cX12_read 5 = .ok (.istore_n 2, 1) := by decide +kernel
theorem dX12_read_6 : decode cX12_read 6 = .ok (.iload_n 2, 1) := by decide +kernel
theorem dX12_read_7 : decode cX12_read 7 = .ok (.ifCond .eq 9, 3) := by decide +kernel
theorem dX12_read_10 : decode cX12_read 10 = .ok (.aload_n 0, 1) := by decide +kernel
theorem dX12_read_11 : decode cX12_read 11 = .ok (.iload_n 2, 1) := by decide +kernel
theorem dX12_read_12 : decode cX12_read 12 = .ok (.invokevirtual 136, 3) := by decide +kernel
theorem dX12_read_15 : decode cX12_read 15 = .ok (.ireturn, 1) := by decide +kernel
theorem dX12_read_16 : decode cX12_read 16 = .ok (.aload_n 0, 1) := by decide +kernel
theorem dX12_read_17 : decode cX12_read 17 = .ok (.aload_n 0, 1) := by decide +kernel
theorem dX12_read_18 : decode cX12_read 18 = .ok (.getfield 51, 3) := by decide +kernel
theorem dX12_read_21 : decode cX12_read 21 = .ok (.aload_n 0, 1) := by decide +kernel
theorem dX12_read_22 : decode cX12_read 22 = .ok (.getfield 57, 3) := by decide +kernel
theorem dX12_read_25 : decode cX12_read 25 = .ok (.iconst 0, 1) := by decide +kernel
theorem dX12_read_26 : decode cX12_read 26 = .ok (.invokevirtual 215, 3) := by decide +kernel
theorem dX12_read_29 : decode cX12_read 29 = .ok (.aload_n 0, 1) := by decide +kernel
theorem dX12_read_30 : decode cX12_read 30 = .ok (.sipush 160, 3) := by decide +kernel
theorem dX12_read_33 : decode cX12_read 33 = .ok (.iload_n 1, 1) := by decide +kernel
theorem dX12_read_34 : decode cX12_read 34 = .ok (.imul, 1) := by decide +kernel
theorem dX12_read_35 : decode cX12_read 35 = .ok (.putfield 180, 3) := by decide +kernel
theorem dX12_read_38 : decode cX12_read 38 = .ok (.aload_n 0, 1) := by decide +kernel
theorem dX12_read_39 : decode cX12_read 39 = .ok (.iconst 0, 1) := by decide +kernel
theorem dX12_read_40 : decode cX12_read 40 = .ok (.putfield 174, 3) := by decide +kernel
theorem dX12_read_43 : decode cX12_read 43 = .ok (.aload_n 0, 1) := by decide +kernel
theorem dX12_read_44 : decode cX12_read 44 = .ok (.aload_n 0, 1) := by decide +kernel
theorem dX12_read_45 : decode cX12_read 45 = .ok (.getfield 36, 3) := by decide +kernel
theorem dX12_read_48 : decode cX12_read 48 = .ok (.iload_n 1, 1) := by decide +kernel
theorem dX12_read_49 : decode cX12_read 49 = .ok (.iaload, 1) := by decide +kernel
theorem dX12_read_50 : decode cX12_read 50 = .ok (.putfield 177, 3) := by decide +kernel
theorem dX12_read_53 : decode cX12_read 53 = .ok (.aload_n 0, 1) := by decide +kernel
theorem dX12_read_54 : decode cX12_read 54 = .ok (.iconst (-1), 1) := by decide +kernel
theorem dX12_read_55 : decode cX12_read 55 = .ok (.putfield 9, 3) := by decide +kernel
theorem dX12_read_58 : decode cX12_read 58 = .ok (.iconst 1, 1) := by decide +kernel
theorem dX12_read_59 : decode cX12_read 59 = .ok (.istore_n 3, 1) := by decide +kernel
theorem dX12_read_60 : decode cX12_read 60 = .ok (.aload_n 0, 1) := by decide +kernel
theorem dX12_read_61 : decode cX12_read 61 = .ok (.invokevirtual 219, 3) := by decide +kernel
theorem dX12_read_64 : decode cX12_read 64 = .ok (.istore 4, 2) := by decide +kernel
theorem dX12_read_66 : decode cX12_read 66 = .ok (.iload 4, 2) := by decide +kernel
theorem dX12_read_68 : decode cX12_read 68 = .ok (.ifCond .eq 69, 3) := by decide +kernel
theorem dX12_read_71 : decode cX12_read 71 = .ok (.aload_n 0, 1) := by decide +kernel
theorem dX12_read_72 : decode cX12_read 72 = .ok (.getfield 174, 3) := by decide +kernel
theorem dX12_read_75 : decode cX12_read 75 = .ok (.aload_n 0, 1) := by decide +kernel
theorem dX12_read_76 : decode cX12_read 76 = .ok (.getfield 177, 3) := by decide +kernel
theorem dX12_read_79 : decode cX12_read 79 = .ok (.if_icmp .ge 58, 3) := by decide +kernel
theorem dX12_read_82 : decode cX12_read 82 = .ok (.aload_n 0, 1) := by decide +kernel
theorem dX12_read_83 : decode cX12_read 83 = .ok (.getfield 42, 3) := by decide +kernel
theorem dX12_read_86 : decode cX12_read 86 = .ok (.aload_n 0, 1) := by decide +kernel
theorem dX12_read_87 : decode cX12_read 87 = .ok (.getfield 180, 3) := by decide +kernel
theorem dX12_read_90 : decode cX12_read 90 = .ok (.aload_n 0, 1) := by decide +kernel
theorem dX12_read_91 : decode cX12_read 91 = .ok (.getfield 174, 3) := by decide +kernel
theorem dX12_read_94 : decode cX12_read 94 = .ok (.iadd, 1) := by decide +kernel
theorem dX12_read_95 : decode cX12_read 95 = .ok (.laload, 1) := by decide +kernel
theorem dX12_read_96 : decode cX12_read 96 = .ok (.l2i, 1) := by decide +kernel
theorem dX12_read_97 : decode cX12_read 97 = .ok (.bipush 59, 2) := by decide +kernel
theorem dX12_read_99 : decode cX12_read 99 = .ok (.if_icmp .eq 16, 3) := by decide +kernel
theorem dX12_read_102 : decode cX12_read 102 = .ok (.aload_n 0, 1) := by decide +kernel
theorem dX12_read_103 : decode cX12_read 103 = .ok (.aload_n 0, 1) := by decide +kernel
theorem dX12_read_104 : decode cX12_read 104 = .ok (.getfield 174, 3) := by decide +kernel
theorem dX12_read_107 : decode cX12_read 107 = .ok (.invokevirtual 190, 3) := by decide +kernel
theorem dX12_read_110 : decode cX12_read 110 = .ok (.istore 4, 2) := by decide +kernel
theorem dX12_read_112 : decode cX12_read 112 = .ok (.goto (-46), 3) := by decide +kernel
theorem dX12_read_115 : decode cX12_read 115 = .ok (.aload_n 0, 1) := by decide +kernel
theorem dX12_read_116 : decode cX12_read 116 = .ok (.dup, 1) := by decide +kernel
theorem dX12_read_117 : decode cX12_read 117 = .ok (.getfield 174, 3) := by decide +kernel
theorem dX12_read_120 : decode cX12_read 120 = .ok (.iconst 1, 1) := by decide +kernel
theorem dX12_read_121 : decode cX12_read 121 = .ok (.iadd, 1) := by decide +kernel
theorem dX12_read_122 : decode cX12_read 122 = .ok (.putfield 174, 3) := by decide +kernel
theorem dX12_read_125 : decode cX12_read 125 = .ok (.iinc 3 1, 3) := by decide +kernel
theorem dX12_read_128 : decode cX12_read 128 = .ok (.aload_n 0, 1) := by decide +kernel
theorem dX12_read_129 : decode cX12_read 129 = .ok (.invokevirtual 219, 3) := by decide +kernel
theorem dX12_read_132 : decode cX12_read 132 = .ok (.istore 4, 2) := by decide +kernel
theorem dX12_read_134 : decode cX12_read 134 = .ok (.goto (-68), 3) := by decide +kernel
theorem dX12_read_137 : decode cX12_read 137 = .ok (.iload 4, 2) := by decide +kernel
theorem dX12_read_139 : decode cX12_read 139 = .ok (.ifCond .eq 5, 3) := by decide +kernel
theorem dX12_read_142 : decode cX12_read 142 = .ok (.iload_n 3, 1) := by decide +kernel
theorem dX12_read_143 : decode cX12_read 143 = .ok (.ireturn, 1) := by decide +kernel
theorem dX12_read_144 : decode cX12_read 144 = .ok (.aload_n 0, 1) := by decide +kernel
theorem dX12_read_145 : decode cX12_read 145 = .ok (.aload_n 0, 1) := by decide +kernel
theorem dX12_read_146 : decode cX12_read 146 = .ok (.getfield 51, 3) := by decide +kernel
theorem dX12_read_149 : decode cX12_read 149 = .ok (.aload_n 0, 1) := by decide +kernel
theorem dX12_read_150 : decode cX12_read 150 = .ok (.getfield 57, 3) := by decide +kernel
theorem dX12_read_153 : decode cX12_read 153 = .ok (.iconst 1, 1) := by decide +kernel
theorem dX12_read_154 : decode cX12_read 154 = .ok (.invokevirtual 215, 3) := by decide +kernel
theorem dX12_read_157 : decode cX12_read 157 = .ok (.aload_n 0, 1) := by decide +kernel
theorem dX12_read_158 : decode cX12_read 158 = .ok (.aload_n 0, 1) := by decide +kernel
theorem dX12_read_159 : decode cX12_read 159 = .ok (.getfield 171, 3) := by decide +kernel
theorem dX12_read_162 : decode cX12_read 162 = .ok (.putfield 9, 3) := by decide +kernel
theorem dX12_read_165 : decode cX12_read 165 = .ok (.aload_n 0, 1) := by decide +kernel
theorem dX12_read_166 : decode cX12_read 166 = .ok (.bipush (-6), 2) := by decide +kernel
theorem dX12_read_168 : decode cX12_read 168 = .ok (.invokevirtual 136, 3) := by decide +kernel
theorem dX12_read_171 : decode cX12_read 171 = .ok (.ireturn, 1) := by decide +kernel
theorem dX12_fault_0 : decode cX12_fault 0 = .ok (.aload_n 0, 1) := by decide +kernel
theorem dX12_fault_1 : decode cX12_fault 1 = .ok (.getfield 9, 3) := by decide +kernel
theorem dX12_fault_4 : decode cX12_fault 4 = .ok (.ireturn, 1) := by decide +kernel
theorem dX12_power_0 : decode cX12_power 0 = .ok (.lconst 1, 1) := by decide +kernel
theorem dX12_power_1 : decode cX12_power 1 = .ok (.lstore_n 3, 1) := by decide +kernel
theorem dX12_power_2 : decode cX12_power 2 = .ok (.iconst 0, 1) := by decide +kernel
theorem dX12_power_3 : decode cX12_power 3 = .ok (.istore 5, 2) := by decide +kernel
theorem dX12_power_5 : decode cX12_power 5 = .ok (.iload 5, 2) := by decide +kernel
theorem dX12_power_7 : decode cX12_power 7 = .ok (.iload_n 2, 1) := by decide +kernel
theorem dX12_power_8 : decode cX12_power 8 = .ok (.if_icmp .ge 14, 3) := by decide +kernel
theorem dX12_power_11 : decode cX12_power 11 = .ok (.lload_n 3, 1) := by decide +kernel
theorem dX12_power_12 : decode cX12_power 12 = .ok (.iload_n 1, 1) := by decide +kernel
theorem dX12_power_13 : decode cX12_power 13 = .ok (.i2l, 1) := by decide +kernel
theorem dX12_power_14 : decode cX12_power 14 = .ok (.lmul, 1) := by decide +kernel
theorem dX12_power_15 : decode cX12_power 15 = .ok (.lstore_n 3, 1) := by decide +kernel
theorem dX12_power_16 : decode cX12_power 16 = .ok (.iinc 5 1, 3) := by decide +kernel
theorem dX12_power_19 : decode cX12_power 19 = .ok (.goto (-14), 3) := by decide +kernel
theorem dX12_power_22 : decode cX12_power 22 = .ok (.lload_n 3, 1) := by decide +kernel
theorem dX12_power_23 : decode cX12_power 23 = .ok (.lreturn, 1) := by decide +kernel
theorem dX12_whole_0 : decode cX12_whole 0 = .ok (.aload_n 0, 1) := by decide +kernel
theorem dX12_whole_1 : decode cX12_whole 1 = .ok (.aload_n 0, 1) := by decide +kernel
theorem dX12_whole_2 : decode cX12_whole 2 = .ok (.getfield 17, 3) := by decide +kernel
theorem dX12_whole_5 : decode cX12_whole 5 = .ok (.iload_n 1, 1) := by decide +kernel
theorem dX12_whole_6 : decode cX12_whole 6 = .ok (.iaload, 1) := by decide +kernel
theorem dX12_whole_7 : decode cX12_whole 7 = .ok (.iconst 2, 1) := by decide +kernel
theorem dX12_whole_8 : decode cX12_whole 8 = .ok (.if_icmp .ne 7, 3) := by decide +kernel
theorem dX12_whole_11 : decode cX12_whole 11 = .ok (.iconst 3, 1) := by decide +kernel
theorem dX12_whole_12 : decode cX12_whole 12 = .ok (.goto 4, 3) := by decide +kernel
theorem dX12_whole_15 : decode cX12_whole 15 = .ok (.iconst 2, 1) := by decide +kernel
theorem dX12_whole_16 : decode cX12_whole 16 = .ok (.aload_n 0, 1) := by decide +kernel
theorem dX12_whole_17 : decode cX12_whole 17 = .ok (.getfield 23, 3) := by decide +kernel
theorem dX12_whole_20 : decode cX12_whole 20 = .ok (.iload_n 1, 1) := by decide +kernel
theorem dX12_whole_21 : decode cX12_whole 21 = .ok (.iaload, 1) := by decide +kernel
theorem dX12_whole_22 : decode cX12_whole 22 = .ok (.invokevirtual 222, 3) := by decide +kernel
theorem dX12_whole_25 : decode cX12_whole 25 = .ok (.lconst 1, 1) := by decide +kernel
theorem dX12_whole_26 : decode cX12_whole 26 = .ok (.lsub, 1) := by decide +kernel
theorem dX12_whole_27 : decode cX12_whole 27 = .ok (.lreturn, 1) := by decide +kernel
theorem dX12_cutOf_0 : decode cX12_cutOf 0 = .ok (.aload_n 0, 1) := by decide +kernel
theorem dX12_cutOf_1 : decode cX12_cutOf 1 = .ok (.getfield 17, 3) := by decide +kernel
theorem dX12_cutOf_4 : decode cX12_cutOf 4 = .ok (.iload_n 1, 1) := by decide +kernel
theorem dX12_cutOf_5 : decode cX12_cutOf 5 = .ok (.iaload, 1) := by decide +kernel
theorem dX12_cutOf_6 : decode cX12_cutOf 6 = .ok (.iconst 3, 1) := by decide +kernel
theorem dX12_cutOf_7 : decode cX12_cutOf 7 = .ok (.if_icmp .eq 13, 3) := by decide +kernel
theorem dX12_cutOf_10 : decode cX12_cutOf 10 = .ok (.aload_n 0, 1) := by decide +kernel
theorem dX12_cutOf_11 : decode cX12_cutOf 11 = .ok (.getfield 17, 3) := by decide +kernel
theorem dX12_cutOf_14 : decode cX12_cutOf 14 = .ok (.iload_n 1, 1) := by decide +kernel
theorem dX12_cutOf_15 : decode cX12_cutOf 15 = .ok (.iaload, 1) := by decide +kernel
theorem dX12_cutOf_16 : decode cX12_cutOf 16 = .ok (.iconst 4, 1) := by decide +kernel
theorem dX12_cutOf_17 : decode cX12_cutOf 17 = .ok (.if_icmp .ne 19, 3) := by decide +kernel
theorem dX12_cutOf_20 : decode cX12_cutOf 20 = .ok (.aload_n 0, 1) := by decide +kernel
theorem dX12_cutOf_21 : decode cX12_cutOf 21 = .ok (.getfield 20, 3) := by decide +kernel
theorem dX12_cutOf_24 : decode cX12_cutOf 24 = .ok (.iload_n 1, 1) := by decide +kernel
theorem dX12_cutOf_25 : decode cX12_cutOf 25 = .ok (.iaload, 1) := by decide +kernel
theorem dX12_cutOf_26 : decode cX12_cutOf 26 = .ok (.i2l, 1) := by decide +kernel
theorem dX12_cutOf_27 : decode cX12_cutOf 27 = .ok (.aload_n 0, 1) := by decide +kernel
theorem dX12_cutOf_28 : decode cX12_cutOf 28 = .ok (.iload_n 1, 1) := by decide +kernel
theorem dX12_cutOf_29 : decode cX12_cutOf 29 = .ok (.invokevirtual 226, 3) := by decide +kernel
theorem dX12_cutOf_32 : decode cX12_cutOf 32 = .ok (.lrem, 1) := by decide +kernel
theorem dX12_cutOf_33 : decode cX12_cutOf 33 = .ok (.goto 4, 3) := by decide +kernel
theorem dX12_cutOf_36 : decode cX12_cutOf 36 = .ok (.lconst 0, 1) := by decide +kernel
theorem dX12_cutOf_37 : decode cX12_cutOf 37 = .ok (.lreturn, 1) := by decide +kernel
theorem dX12_creasesOf_0 : decode cX12_creasesOf 0 = .ok (.aload_n 0, 1) := by decide +kernel
theorem dX12_creasesOf_1 : decode cX12_creasesOf 1 = .ok (.iload_n 1, 1) := by decide +kernel
theorem dX12_creasesOf_2 : decode cX12_creasesOf 2 = .ok (.invokevirtual 226, 3) := by decide +kernel
theorem dX12_creasesOf_5 : decode cX12_creasesOf 5 = .ok (.aload_n 0, 1) := by decide +kernel
theorem dX12_creasesOf_6 : decode cX12_creasesOf 6 = .ok (.iload_n 1, 1) := by decide +kernel
theorem dX12_creasesOf_7 : decode cX12_creasesOf 7 = .ok (.invokevirtual 149, 3) := by decide +kernel
theorem dX12_creasesOf_10 : decode cX12_creasesOf 10 = .ok (.lsub, 1) := by decide +kernel
theorem dX12_creasesOf_11 : decode cX12_creasesOf 11 = .ok (.lreturn, 1) := by decide +kernel
theorem dX12_counts_0 : decode cX12_counts 0 = .ok (.aload_n 0, 1) := by decide +kernel
theorem dX12_counts_1 : decode cX12_counts 1 = .ok (.getfield 17, 3) := by decide +kernel
theorem dX12_counts_4 : decode cX12_counts 4 = .ok (.iload_n 1, 1) := by decide +kernel
theorem dX12_counts_5 : decode cX12_counts 5 = .ok (.iaload, 1) := by decide +kernel
theorem dX12_counts_6 : decode cX12_counts 6 = .ok (.iconst 1, 1) := by decide +kernel
theorem dX12_counts_7 : decode cX12_counts 7 = .ok (.if_icmp .ne 14, 3) := by decide +kernel
theorem dX12_counts_10 : decode cX12_counts 10 = .ok (.aload_n 0, 1) := by decide +kernel
theorem dX12_counts_11 : decode cX12_counts 11 = .ok (.getfield 20, 3) := by decide +kernel
theorem dX12_counts_14 : decode cX12_counts 14 = .ok (.iload_n 1, 1) := by decide +kernel
theorem dX12_counts_15 : decode cX12_counts 15 = .ok (.iaload, 1) := by decide +kernel
theorem dX12_counts_16 : decode cX12_counts 16 = .ok (.iconst 2, 1) := by decide +kernel
theorem dX12_counts_17 : decode cX12_counts 17 = .ok (.irem, 1) := by decide +kernel
theorem dX12_counts_18 : decode cX12_counts 18 = .ok (.goto 9, 3) := by decide +kernel
theorem dX12_counts_21 : decode cX12_counts 21 = .ok (.aload_n 0, 1) := by decide +kernel
theorem dX12_counts_22 : decode cX12_counts 22 = .ok (.iload_n 1, 1) := by decide +kernel
theorem dX12_counts_23 : decode cX12_counts 23 = .ok (.iload_n 2, 1) := by decide +kernel
theorem dX12_counts_24 : decode cX12_counts 24 = .ok (.invokevirtual 168, 3) := by decide +kernel
theorem dX12_counts_27 : decode cX12_counts 27 = .ok (.ireturn, 1) := by decide +kernel
theorem dX12_plain_0 : decode cX12_plain 0 = .ok (.aload_n 0, 1) := by decide +kernel
theorem dX12_plain_1 : decode cX12_plain 1 = .ok (.getfield 17, 3) := by decide +kernel
theorem dX12_plain_4 : decode cX12_plain 4 = .ok (.iload_n 1, 1) := by decide +kernel
theorem dX12_plain_5 : decode cX12_plain 5 = .ok (.iaload, 1) := by decide +kernel
theorem dX12_plain_6 : decode cX12_plain 6 = .ok (.iconst 2, 1) := by decide +kernel
theorem dX12_plain_7 : decode cX12_plain 7 = .ok (.if_icmp .ne 7, 3) := by decide +kernel
theorem dX12_plain_10 : decode cX12_plain 10 = .ok (.iconst 3, 1) := by decide +kernel
theorem dX12_plain_11 : decode cX12_plain 11 = .ok (.goto 4, 3) := by decide +kernel
theorem dX12_plain_14 : decode cX12_plain 14 = .ok (.iconst 2, 1) := by decide +kernel
theorem dX12_plain_15 : decode cX12_plain 15 = .ok (.istore 4, 2) := by decide +kernel
theorem dX12_plain_17 : decode cX12_plain 17 = .ok (.iconst 0, 1) := by decide +kernel
theorem dX12_plain_18 : decode cX12_plain 18 = .ok (.istore 5, 2) := by decide +kernel
theorem dX12_plain_20 : decode cX12_plain 20 = .ok (.lload_n 2, 1) := by decide +kernel
theorem dX12_plain_21 : decode cX12_plain 21 = .ok (.lstore 6, 2) := by decide +kernel
theorem dX12_plain_23 : decode cX12_plain 23 = .ok (.lload 6, 2) := by decide +kernel
theorem dX12_plain_25 : decode cX12_plain 25 = .ok (.iload 4, 2) := by decide +kernel
theorem dX12_plain_27 : decode cX12_plain 27 = .ok (.i2l, 1) := by decide +kernel
theorem dX12_plain_28 : decode cX12_plain 28 = .ok (.lrem, 1) := by decide +kernel
theorem dX12_plain_29 : decode cX12_plain 29 = .ok (.lconst 0, 1) := by decide +kernel
theorem dX12_plain_30 : decode cX12_plain 30 = .ok (.lcmp, 1) := by decide +kernel
theorem dX12_plain_31 : decode cX12_plain 31 = .ok (.ifCond .ne 17, 3) := by decide +kernel
theorem dX12_plain_34 : decode cX12_plain 34 = .ok (.lload 6, 2) := by decide +kernel
theorem dX12_plain_36 : decode cX12_plain 36 = .ok (.iload 4, 2) := by decide +kernel
theorem dX12_plain_38 : decode cX12_plain 38 = .ok (.i2l, 1) := by decide +kernel
theorem dX12_plain_39 : decode cX12_plain 39 = .ok (.ldiv, 1) := by decide +kernel
theorem dX12_plain_40 : decode cX12_plain 40 = .ok (.lstore 6, 2) := by decide +kernel
theorem dX12_plain_42 : decode cX12_plain 42 = .ok (.iinc 5 1, 3) := by decide +kernel
theorem dX12_plain_45 : decode cX12_plain 45 = .ok (.goto (-22), 3) := by decide +kernel
theorem dX12_plain_48 : decode cX12_plain 48 = .ok (.aload_n 0, 1) := by decide +kernel
theorem dX12_plain_49 : decode cX12_plain 49 = .ok (.iload_n 1, 1) := by decide +kernel
theorem dX12_plain_50 : decode cX12_plain 50 = .ok (.iload 5, 2) := by decide +kernel
theorem dX12_plain_52 : decode cX12_plain 52 = .ok (.invokevirtual 229, 3) := by decide +kernel
theorem dX12_plain_55 : decode cX12_plain 55 = .ok (.istore 8, 2) := by decide +kernel
theorem dX12_plain_57 : decode cX12_plain 57 = .ok (.iload 4, 2) := by decide +kernel
theorem dX12_plain_59 : decode cX12_plain 59 = .ok (.iconst 3, 1) := by decide +kernel
theorem dX12_plain_60 : decode cX12_plain 60 = .ok (.if_icmp .ne 26, 3) := by decide +kernel
theorem dX12_plain_63 : decode cX12_plain 63 = .ok (.lload 6, 2) := by decide +kernel
theorem dX12_plain_65 : decode cX12_plain 65 = .ok (.ldc2_w 232, 3) := by decide +kernel
theorem dX12_plain_68 : decode cX12_plain 68 = .ok (.lrem, 1) := by decide +kernel
theorem dX12_plain_69 : decode cX12_plain 69 = .ok (.lconst 1, 1) := by decide +kernel
theorem dX12_plain_70 : decode cX12_plain 70 = .ok (.lcmp, 1) := by decide +kernel
theorem dX12_plain_71 : decode cX12_plain 71 = .ok (.ifCond .ne 8, 3) := by decide +kernel
theorem dX12_plain_74 : decode cX12_plain 74 = .ok (.iload 8, 2) := by decide +kernel
theorem dX12_plain_76 : decode cX12_plain 76 = .ok (.goto 30, 3) := by decide +kernel
theorem dX12_plain_79 : decode cX12_plain 79 = .ok (.iconst 1, 1) := by decide +kernel
theorem dX12_plain_80 : decode cX12_plain 80 = .ok (.iload 8, 2) := by decide +kernel
theorem dX12_plain_82 : decode cX12_plain 82 = .ok (.isub, 1) := by decide +kernel
theorem dX12_plain_83 : decode cX12_plain 83 = .ok (.goto 23, 3) := by decide +kernel
theorem dX12_plain_86 : decode cX12_plain 86 = .ok (.lload 6, 2) := by decide +kernel
theorem dX12_plain_88 : decode cX12_plain 88 = .ok (.ldc2_w 234, 3) := by decide +kernel
theorem dX12_plain_91 : decode cX12_plain 91 = .ok (.lrem, 1) := by decide +kernel
theorem dX12_plain_92 : decode cX12_plain 92 = .ok (.lconst 1, 1) := by decide +kernel
theorem dX12_plain_93 : decode cX12_plain 93 = .ok (.lcmp, 1) := by decide +kernel
theorem dX12_plain_94 : decode cX12_plain 94 = .ok (.ifCond .ne 8, 3) := by decide +kernel
theorem dX12_plain_97 : decode cX12_plain 97 = .ok (.iload 8, 2) := by decide +kernel
theorem dX12_plain_99 : decode cX12_plain 99 = .ok (.goto 7, 3) := by decide +kernel
theorem dX12_plain_102 : decode cX12_plain 102 = .ok (.iconst 1, 1) := by decide +kernel
theorem dX12_plain_103 : decode cX12_plain 103 = .ok (.iload 8, 2) := by decide +kernel
theorem dX12_plain_105 : decode cX12_plain 105 = .ok (.isub, 1) := by decide +kernel
theorem dX12_plain_106 : decode cX12_plain 106 = .ok (.ireturn, 1) := by decide +kernel
theorem dX12_creaseOf_0 : decode cX12_creaseOf 0 = .ok (.aload_n 0, 1) := by decide +kernel
theorem dX12_creaseOf_1 : decode cX12_creaseOf 1 = .ok (.getfield 17, 3) := by decide +kernel
theorem dX12_creaseOf_4 : decode cX12_creaseOf 4 = .ok (.iload_n 1, 1) := by decide +kernel
theorem dX12_creaseOf_5 : decode cX12_creaseOf 5 = .ok (.iaload, 1) := by decide +kernel
theorem dX12_creaseOf_6 : decode cX12_creaseOf 6 = .ok (.tableswitch 98 3 6 #[30, 43, 66, 75], 30) := by decide +kernel
theorem dX12_creaseOf_36 : decode cX12_creaseOf 36 = .ok (.aload_n 0, 1) := by decide +kernel
theorem dX12_creaseOf_37 : decode cX12_creaseOf 37 = .ok (.iload_n 1, 1) := by decide +kernel
theorem dX12_creaseOf_38 : decode cX12_creaseOf 38 = .ok (.lload_n 2, 1) := by decide +kernel
theorem dX12_creaseOf_39 : decode cX12_creaseOf 39 = .ok (.aload_n 0, 1) := by decide +kernel
theorem dX12_creaseOf_40 : decode cX12_creaseOf 40 = .ok (.iload_n 1, 1) := by decide +kernel
theorem dX12_creaseOf_41 : decode cX12_creaseOf 41 = .ok (.invokevirtual 149, 3) := by decide +kernel
theorem dX12_creaseOf_44 : decode cX12_creaseOf 44 = .ok (.ladd, 1) := by decide +kernel
theorem dX12_creaseOf_45 : decode cX12_creaseOf 45 = .ok (.invokevirtual 236, 3) := by decide +kernel
theorem dX12_creaseOf_48 : decode cX12_creaseOf 48 = .ok (.ireturn, 1) := by decide +kernel
theorem dX12_creaseOf_49 : decode cX12_creaseOf 49 = .ok (.iconst 1, 1) := by decide +kernel
theorem dX12_creaseOf_50 : decode cX12_creaseOf 50 = .ok (.aload_n 0, 1) := by decide +kernel
theorem dX12_creaseOf_51 : decode cX12_creaseOf 51 = .ok (.iload_n 1, 1) := by decide +kernel
theorem dX12_creaseOf_52 : decode cX12_creaseOf 52 = .ok (.aload_n 0, 1) := by decide +kernel
theorem dX12_creaseOf_53 : decode cX12_creaseOf 53 = .ok (.iload_n 1, 1) := by decide +kernel
theorem dX12_creaseOf_54 : decode cX12_creaseOf 54 = .ok (.invokevirtual 143, 3) := by decide +kernel
theorem dX12_creaseOf_57 : decode cX12_creaseOf 57 = .ok (.lconst 1, 1) := by decide +kernel
theorem dX12_creaseOf_58 : decode cX12_creaseOf 58 = .ok (.ladd, 1) := by decide +kernel
theorem dX12_creaseOf_59 : decode cX12_creaseOf 59 = .ok (.lload_n 2, 1) := by decide +kernel
theorem dX12_creaseOf_60 : decode cX12_creaseOf 60 = .ok (.lsub, 1) := by decide +kernel
theorem dX12_creaseOf_61 : decode cX12_creaseOf 61 = .ok (.aload_n 0, 1) := by decide +kernel
theorem dX12_creaseOf_62 : decode cX12_creaseOf 62 = .ok (.iload_n 1, 1) := by decide +kernel
theorem dX12_creaseOf_63 : decode cX12_creaseOf 63 = .ok (.invokevirtual 149, 3) := by decide +kernel
theorem dX12_creaseOf_66 : decode cX12_creaseOf 66 = .ok (.ladd, 1) := by decide +kernel
theorem dX12_creaseOf_67 : decode cX12_creaseOf 67 = .ok (.invokevirtual 236, 3) := by decide +kernel
theorem dX12_creaseOf_70 : decode cX12_creaseOf 70 = .ok (.isub, 1) := by decide +kernel
theorem dX12_creaseOf_71 : decode cX12_creaseOf 71 = .ok (.ireturn, 1) := by decide +kernel
theorem dX12_creaseOf_72 : decode cX12_creaseOf 72 = .ok (.iconst 1, 1) := by decide +kernel
theorem dX12_creaseOf_73 : decode cX12_creaseOf 73 = .ok (.aload_n 0, 1) := by decide +kernel
theorem dX12_creaseOf_74 : decode cX12_creaseOf 74 = .ok (.iload_n 1, 1) := by decide +kernel
theorem dX12_creaseOf_75 : decode cX12_creaseOf 75 = .ok (.lload_n 2, 1) := by decide +kernel
theorem dX12_creaseOf_76 : decode cX12_creaseOf 76 = .ok (.invokevirtual 236, 3) := by decide +kernel
theorem dX12_creaseOf_79 : decode cX12_creaseOf 79 = .ok (.isub, 1) := by decide +kernel
theorem dX12_creaseOf_80 : decode cX12_creaseOf 80 = .ok (.ireturn, 1) := by decide +kernel
theorem dX12_creaseOf_81 : decode cX12_creaseOf 81 = .ok (.lload_n 2, 1) := by decide +kernel
theorem dX12_creaseOf_82 : decode cX12_creaseOf 82 = .ok (.ldc2_w 234, 3) := by decide +kernel
theorem dX12_creaseOf_85 : decode cX12_creaseOf 85 = .ok (.lrem, 1) := by decide +kernel
theorem dX12_creaseOf_86 : decode cX12_creaseOf 86 = .ok (.lconst 0, 1) := by decide +kernel
theorem dX12_creaseOf_87 : decode cX12_creaseOf 87 = .ok (.lcmp, 1) := by decide +kernel
theorem dX12_creaseOf_88 : decode cX12_creaseOf 88 = .ok (.ifCond .ne 7, 3) := by decide +kernel
theorem dX12_creaseOf_91 : decode cX12_creaseOf 91 = .ok (.iconst 1, 1) := by decide +kernel
theorem dX12_creaseOf_92 : decode cX12_creaseOf 92 = .ok (.goto 11, 3) := by decide +kernel
theorem dX12_creaseOf_95 : decode cX12_creaseOf 95 = .ok (.iconst 1, 1) := by decide +kernel
theorem dX12_creaseOf_96 : decode cX12_creaseOf 96 = .ok (.aload_n 0, 1) := by decide +kernel
theorem dX12_creaseOf_97 : decode cX12_creaseOf 97 = .ok (.iload_n 1, 1) := by decide +kernel
theorem dX12_creaseOf_98 : decode cX12_creaseOf 98 = .ok (.lload_n 2, 1) := by decide +kernel
theorem dX12_creaseOf_99 : decode cX12_creaseOf 99 = .ok (.invokevirtual 236, 3) := by decide +kernel
theorem dX12_creaseOf_102 : decode cX12_creaseOf 102 = .ok (.isub, 1) := by decide +kernel
theorem dX12_creaseOf_103 : decode cX12_creaseOf 103 = .ok (.ireturn, 1) := by decide +kernel
theorem dX12_creaseOf_104 : decode cX12_creaseOf 104 = .ok (.aload_n 0, 1) := by decide +kernel
theorem dX12_creaseOf_105 : decode cX12_creaseOf 105 = .ok (.iload_n 1, 1) := by decide +kernel
theorem dX12_creaseOf_106 : decode cX12_creaseOf 106 = .ok (.lload_n 2, 1) := by decide +kernel
theorem dX12_creaseOf_107 : decode cX12_creaseOf 107 = .ok (.invokevirtual 236, 3) := by decide +kernel
theorem dX12_creaseOf_110 : decode cX12_creaseOf 110 = .ok (.ireturn, 1) := by decide +kernel
theorem dX12_creases_0 : decode cX12_creases 0 = .ok (.aload_n 0, 1) := by decide +kernel
theorem dX12_creases_1 : decode cX12_creases 1 = .ok (.iload_n 1, 1) := by decide +kernel
theorem dX12_creases_2 : decode cX12_creases 2 = .ok (.invokevirtual 140, 3) := by decide +kernel
theorem dX12_creases_5 : decode cX12_creases 5 = .ok (.ifCond .eq 11, 3) := by decide +kernel
theorem dX12_creases_8 : decode cX12_creases 8 = .ok (.aload_n 0, 1) := by decide +kernel
theorem dX12_creases_9 : decode cX12_creases 9 = .ok (.iload_n 1, 1) := by decide +kernel
theorem dX12_creases_10 : decode cX12_creases 10 = .ok (.invokevirtual 143, 3) := by decide +kernel
theorem dX12_creases_13 : decode cX12_creases 13 = .ok (.goto 9, 3) := by decide +kernel
theorem dX12_creases_16 : decode cX12_creases 16 = .ok (.aload_n 0, 1) := by decide +kernel
theorem dX12_creases_17 : decode cX12_creases 17 = .ok (.iconst (-1), 1) := by decide +kernel
theorem dX12_creases_18 : decode cX12_creases 18 = .ok (.invokevirtual 136, 3) := by decide +kernel
theorem dX12_creases_21 : decode cX12_creases 21 = .ok (.i2l, 1) := by decide +kernel
theorem dX12_creases_22 : decode cX12_creases 22 = .ok (.lreturn, 1) := by decide +kernel
theorem dX12_crease_0 : decode cX12_crease 0 = .ok (.aload_n 0, 1) := by decide +kernel
theorem dX12_crease_1 : decode cX12_crease 1 = .ok (.iload_n 1, 1) := by decide +kernel
theorem dX12_crease_2 : decode cX12_crease 2 = .ok (.invokevirtual 140, 3) := by decide +kernel
theorem dX12_crease_5 : decode cX12_crease 5 = .ok (.ifCond .ne 9, 3) := by decide +kernel
theorem dX12_crease_8 : decode cX12_crease 8 = .ok (.aload_n 0, 1) := by decide +kernel
theorem dX12_crease_9 : decode cX12_crease 9 = .ok (.iconst (-1), 1) := by decide +kernel
theorem dX12_crease_10 : decode cX12_crease 10 = .ok (.invokevirtual 136, 3) := by decide +kernel
theorem dX12_crease_13 : decode cX12_crease 13 = .ok (.ireturn, 1) := by decide +kernel
theorem dX12_crease_14 : decode cX12_crease 14 = .ok (.lload_n 2, 1) := by decide +kernel
theorem dX12_crease_15 : decode cX12_crease 15 = .ok (.lconst 1, 1) := by decide +kernel
theorem dX12_crease_16 : decode cX12_crease 16 = .ok (.lcmp, 1) := by decide +kernel
theorem dX12_crease_17 : decode cX12_crease 17 = .ok (.ifCond .lt 22, 3) := by decide +kernel
theorem dX12_crease_20 : decode cX12_crease 20 = .ok (.lload_n 2, 1) := by decide +kernel
theorem dX12_crease_21 : decode cX12_crease 21 = .ok (.aload_n 0, 1) := by decide +kernel
theorem dX12_crease_22 : decode cX12_crease 22 = .ok (.iload_n 1, 1) := by decide +kernel
theorem dX12_crease_23 : decode cX12_crease 23 = .ok (.invokevirtual 143, 3) := by decide +kernel
theorem dX12_crease_26 : decode cX12_crease 26 = .ok (.lcmp, 1) := by decide +kernel
theorem dX12_crease_27 : decode cX12_crease 27 = .ok (.ifCond .gt 12, 3) := by decide +kernel
theorem dX12_crease_30 : decode cX12_crease 30 = .ok (.aload_n 0, 1) := by decide +kernel
theorem dX12_crease_31 : decode cX12_crease 31 = .ok (.iload_n 1, 1) := by decide +kernel
theorem dX12_crease_32 : decode cX12_crease 32 = .ok (.lload_n 2, 1) := by decide +kernel
theorem dX12_crease_33 : decode cX12_crease 33 = .ok (.invokevirtual 152, 3) := by decide +kernel
theorem dX12_crease_36 : decode cX12_crease 36 = .ok (.goto 9, 3) := by decide +kernel
theorem dX12_crease_39 : decode cX12_crease 39 = .ok (.aload_n 0, 1) := by decide +kernel
theorem dX12_crease_40 : decode cX12_crease 40 = .ok (.bipush (-5), 2) := by decide +kernel
theorem dX12_crease_42 : decode cX12_crease 42 = .ok (.invokevirtual 136, 3) := by decide +kernel
theorem dX12_crease_45 : decode cX12_crease 45 = .ok (.ireturn, 1) := by decide +kernel
theorem dX12_turned_0 : decode cX12_turned 0 = .ok (.aload_n 0, 1) := by decide +kernel
theorem dX12_turned_1 : decode cX12_turned 1 = .ok (.getfield 17, 3) := by decide +kernel
theorem dX12_turned_4 : decode cX12_turned 4 = .ok (.iload_n 1, 1) := by decide +kernel
theorem dX12_turned_5 : decode cX12_turned 5 = .ok (.iaload, 1) := by decide +kernel
theorem dX12_turned_6 : decode cX12_turned 6 = .ok (.iconst 2, 1) := by decide +kernel
theorem dX12_turned_7 : decode cX12_turned 7 = .ok (.if_icmp .ne 7, 3) := by decide +kernel
theorem dX12_turned_10 : decode cX12_turned 10 = .ok (.iconst 3, 1) := by decide +kernel
theorem dX12_turned_11 : decode cX12_turned 11 = .ok (.goto 4, 3) := by decide +kernel
theorem dX12_turned_14 : decode cX12_turned 14 = .ok (.iconst 2, 1) := by decide +kernel
theorem dX12_turned_15 : decode cX12_turned 15 = .ok (.istore 5, 2) := by decide +kernel
theorem dX12_turned_17 : decode cX12_turned 17 = .ok (.iconst 0, 1) := by decide +kernel
theorem dX12_turned_18 : decode cX12_turned 18 = .ok (.istore 6, 2) := by decide +kernel
theorem dX12_turned_20 : decode cX12_turned 20 = .ok (.lload_n 2, 1) := by decide +kernel
theorem dX12_turned_21 : decode cX12_turned 21 = .ok (.lstore 7, 2) := by decide +kernel
theorem dX12_turned_23 : decode cX12_turned 23 = .ok (.iconst 0, 1) := by decide +kernel
theorem dX12_turned_24 : decode cX12_turned 24 = .ok (.istore 9, 2) := by decide +kernel
theorem dX12_turned_26 : decode cX12_turned 26 = .ok (.lload 7, 2) := by decide +kernel
theorem dX12_turned_28 : decode cX12_turned 28 = .ok (.lconst 0, 1) := by decide +kernel
theorem dX12_turned_29 : decode cX12_turned 29 = .ok (.lcmp, 1) := by decide +kernel
theorem dX12_turned_30 : decode cX12_turned 30 = .ok (.ifCond .le 84, 3) := by decide +kernel
theorem dX12_turned_33 : decode cX12_turned 33 = .ok (.iload 5, 2) := by decide +kernel
theorem dX12_turned_35 : decode cX12_turned 35 = .ok (.iconst 3, 1) := by decide +kernel
theorem dX12_turned_36 : decode cX12_turned 36 = .ok (.if_icmp .ne 15, 3) := by decide +kernel
theorem dX12_turned_39 : decode cX12_turned 39 = .ok (.lload 7, 2) := by decide +kernel
theorem dX12_turned_41 : decode cX12_turned 41 = .ok (.lload 7, 2) := by decide +kernel
theorem dX12_turned_43 : decode cX12_turned 43 = .ok (.ldc2_w 232, 3) := by decide +kernel
theorem dX12_turned_46 : decode cX12_turned 46 = .ok (.ldiv, 1) := by decide +kernel
theorem dX12_turned_47 : decode cX12_turned 47 = .ok (.lsub, 1) := by decide +kernel
theorem dX12_turned_48 : decode cX12_turned 48 = .ok (.goto 11, 3) := by decide +kernel
theorem dX12_turned_51 : decode cX12_turned 51 = .ok (.lload 7, 2) := by decide +kernel
theorem dX12_turned_53 : decode cX12_turned 53 = .ok (.lconst 1, 1) := by decide +kernel
theorem dX12_turned_54 : decode cX12_turned 54 = .ok (.ladd, 1) := by decide +kernel
theorem dX12_turned_55 : decode cX12_turned 55 = .ok (.ldc2_w 239, 3) := by decide +kernel
theorem dX12_turned_58 : decode cX12_turned 58 = .ok (.ldiv, 1) := by decide +kernel
theorem dX12_turned_59 : decode cX12_turned 59 = .ok (.lstore 10, 2) := by decide +kernel
theorem dX12_turned_61 : decode cX12_turned 61 = .ok (.iload 9, 2) := by decide +kernel
theorem dX12_turned_63 : decode cX12_turned 63 = .ok (.iload 4, 2) := by decide +kernel
theorem dX12_turned_65 : decode cX12_turned 65 = .ok (.if_icmp .lt 35, 3) := by decide +kernel
theorem dX12_turned_68 : decode cX12_turned 68 = .ok (.lload 10, 2) := by decide +kernel
theorem dX12_turned_70 : decode cX12_turned 70 = .ok (.ldc2_w 239, 3) := by decide +kernel
theorem dX12_turned_73 : decode cX12_turned 73 = .ok (.lrem, 1) := by decide +kernel
theorem dX12_turned_74 : decode cX12_turned 74 = .ok (.lconst 1, 1) := by decide +kernel
theorem dX12_turned_75 : decode cX12_turned 75 = .ok (.lcmp, 1) := by decide +kernel
theorem dX12_turned_76 : decode cX12_turned 76 = .ok (.ifCond .ne 24, 3) := by decide +kernel
theorem dX12_turned_79 : decode cX12_turned 79 = .ok (.iload 6, 2) := by decide +kernel
theorem dX12_turned_81 : decode cX12_turned 81 = .ok (.aload_n 0, 1) := by decide +kernel
theorem dX12_turned_82 : decode cX12_turned 82 = .ok (.iload_n 1, 1) := by decide +kernel
theorem dX12_turned_83 : decode cX12_turned 83 = .ok (.iload 9, 2) := by decide +kernel
theorem dX12_turned_85 : decode cX12_turned 85 = .ok (.invokevirtual 229, 3) := by decide +kernel
theorem dX12_turned_88 : decode cX12_turned 88 = .ok (.iconst 1, 1) := by decide +kernel
theorem dX12_turned_89 : decode cX12_turned 89 = .ok (.if_icmp .ne 7, 3) := by decide +kernel
theorem dX12_turned_92 : decode cX12_turned 92 = .ok (.iconst 1, 1) := by decide +kernel
theorem dX12_turned_93 : decode cX12_turned 93 = .ok (.goto 4, 3) := by decide +kernel
theorem dX12_turned_96 : decode cX12_turned 96 = .ok (.iconst (-1), 1) := by decide +kernel
theorem dX12_turned_97 : decode cX12_turned 97 = .ok (.iadd, 1) := by decide +kernel
theorem dX12_turned_98 : decode cX12_turned 98 = .ok (.istore 6, 2) := by decide +kernel
theorem dX12_turned_100 : decode cX12_turned 100 = .ok (.lload 7, 2) := by decide +kernel
theorem dX12_turned_102 : decode cX12_turned 102 = .ok (.iload 5, 2) := by decide +kernel
theorem dX12_turned_104 : decode cX12_turned 104 = .ok (.i2l, 1) := by decide +kernel
theorem dX12_turned_105 : decode cX12_turned 105 = .ok (.ldiv, 1) := by decide +kernel
theorem dX12_turned_106 : decode cX12_turned 106 = .ok (.lstore 7, 2) := by decide +kernel
theorem dX12_turned_108 : decode cX12_turned 108 = .ok (.iinc 9 1, 3) := by decide +kernel
theorem dX12_turned_111 : decode cX12_turned 111 = .ok (.goto (-85), 3) := by decide +kernel
theorem dX12_turned_114 : decode cX12_turned 114 = .ok (.iload 6, 2) := by decide +kernel
theorem dX12_turned_116 : decode cX12_turned 116 = .ok (.ireturn, 1) := by decide +kernel
theorem dX12_round_0 : decode cX12_round 0 = .ok (.aload_n 0, 1) := by decide +kernel
theorem dX12_round_1 : decode cX12_round 1 = .ok (.getfield 17, 3) := by decide +kernel
theorem dX12_round_4 : decode cX12_round 4 = .ok (.iload_n 1, 1) := by decide +kernel
theorem dX12_round_5 : decode cX12_round 5 = .ok (.iaload, 1) := by decide +kernel
theorem dX12_round_6 : decode cX12_round 6 = .ok (.tableswitch 135 3 6 #[30, 61, 93, 107], 30) := by decide +kernel
theorem dX12_round_36 : decode cX12_round 36 = .ok (.aload_n 0, 1) := by decide +kernel
theorem dX12_round_37 : decode cX12_round 37 = .ok (.iload_n 1, 1) := by decide +kernel
theorem dX12_round_38 : decode cX12_round 38 = .ok (.lload_n 2, 1) := by decide +kernel
theorem dX12_round_39 : decode cX12_round 39 = .ok (.aload_n 0, 1) := by decide +kernel
theorem dX12_round_40 : decode cX12_round 40 = .ok (.iload_n 1, 1) := by decide +kernel
theorem dX12_round_41 : decode cX12_round 41 = .ok (.invokevirtual 149, 3) := by decide +kernel
theorem dX12_round_44 : decode cX12_round 44 = .ok (.ladd, 1) := by decide +kernel
theorem dX12_round_45 : decode cX12_round 45 = .ok (.iconst 0, 1) := by decide +kernel
theorem dX12_round_46 : decode cX12_round 46 = .ok (.invokevirtual 241, 3) := by decide +kernel
theorem dX12_round_49 : decode cX12_round 49 = .ok (.aload_n 0, 1) := by decide +kernel
theorem dX12_round_50 : decode cX12_round 50 = .ok (.iload_n 1, 1) := by decide +kernel
theorem dX12_round_51 : decode cX12_round 51 = .ok (.aload_n 0, 1) := by decide +kernel
theorem dX12_round_52 : decode cX12_round 52 = .ok (.iload_n 1, 1) := by decide +kernel
theorem dX12_round_53 : decode cX12_round 53 = .ok (.invokevirtual 149, 3) := by decide +kernel
theorem dX12_round_56 : decode cX12_round 56 = .ok (.iconst 0, 1) := by decide +kernel
theorem dX12_round_57 : decode cX12_round 57 = .ok (.invokevirtual 241, 3) := by decide +kernel
theorem dX12_round_60 : decode cX12_round 60 = .ok (.isub, 1) := by decide +kernel
theorem dX12_round_61 : decode cX12_round 61 = .ok (.i2l, 1) := by decide +kernel
theorem dX12_round_62 : decode cX12_round 62 = .ok (.lstore 4, 2) := by decide +kernel
theorem dX12_round_64 : decode cX12_round 64 = .ok (.goto 87, 3) := by decide +kernel
theorem dX12_round_67 : decode cX12_round 67 = .ok (.aload_n 0, 1) := by decide +kernel
theorem dX12_round_68 : decode cX12_round 68 = .ok (.iload_n 1, 1) := by decide +kernel
theorem dX12_round_69 : decode cX12_round 69 = .ok (.invokevirtual 226, 3) := by decide +kernel
theorem dX12_round_72 : decode cX12_round 72 = .ok (.lstore 6, 2) := by decide +kernel
theorem dX12_round_74 : decode cX12_round 74 = .ok (.aload_n 0, 1) := by decide +kernel
theorem dX12_round_75 : decode cX12_round 75 = .ok (.iload_n 1, 1) := by decide +kernel
theorem dX12_round_76 : decode cX12_round 76 = .ok (.lload 6, 2) := by decide +kernel
theorem dX12_round_78 : decode cX12_round 78 = .ok (.lload_n 2, 1) := by decide +kernel
theorem dX12_round_79 : decode cX12_round 79 = .ok (.lsub, 1) := by decide +kernel
theorem dX12_round_80 : decode cX12_round 80 = .ok (.iconst 0, 1) := by decide +kernel
theorem dX12_round_81 : decode cX12_round 81 = .ok (.invokevirtual 241, 3) := by decide +kernel
theorem dX12_round_84 : decode cX12_round 84 = .ok (.aload_n 0, 1) := by decide +kernel
theorem dX12_round_85 : decode cX12_round 85 = .ok (.iload_n 1, 1) := by decide +kernel
theorem dX12_round_86 : decode cX12_round 86 = .ok (.lload 6, 2) := by decide +kernel
theorem dX12_round_88 : decode cX12_round 88 = .ok (.iconst 0, 1) := by decide +kernel
theorem dX12_round_89 : decode cX12_round 89 = .ok (.invokevirtual 241, 3) := by decide +kernel
theorem dX12_round_92 : decode cX12_round 92 = .ok (.isub, 1) := by decide +kernel
theorem dX12_round_93 : decode cX12_round 93 = .ok (.i2l, 1) := by decide +kernel
theorem dX12_round_94 : decode cX12_round 94 = .ok (.lstore 4, 2) := by decide +kernel
theorem dX12_round_96 : decode cX12_round 96 = .ok (.goto 55, 3) := by decide +kernel
theorem dX12_round_99 : decode cX12_round 99 = .ok (.aload_n 0, 1) := by decide +kernel
theorem dX12_round_100 : decode cX12_round 100 = .ok (.iload_n 1, 1) := by decide +kernel
theorem dX12_round_101 : decode cX12_round 101 = .ok (.lload_n 2, 1) := by decide +kernel
theorem dX12_round_102 : decode cX12_round 102 = .ok (.iconst 0, 1) := by decide +kernel
theorem dX12_round_103 : decode cX12_round 103 = .ok (.invokevirtual 241, 3) := by decide +kernel
theorem dX12_round_106 : decode cX12_round 106 = .ok (.ineg, 1) := by decide +kernel
theorem dX12_round_107 : decode cX12_round 107 = .ok (.i2l, 1) := by decide +kernel
theorem dX12_round_108 : decode cX12_round 108 = .ok (.lstore 4, 2) := by decide +kernel
theorem dX12_round_110 : decode cX12_round 110 = .ok (.goto 41, 3) := by decide +kernel
theorem dX12_round_113 : decode cX12_round 113 = .ok (.lload_n 2, 1) := by decide +kernel
theorem dX12_round_114 : decode cX12_round 114 = .ok (.ldc2_w 234, 3) := by decide +kernel
theorem dX12_round_117 : decode cX12_round 117 = .ok (.ldiv, 1) := by decide +kernel
theorem dX12_round_118 : decode cX12_round 118 = .ok (.aload_n 0, 1) := by decide +kernel
theorem dX12_round_119 : decode cX12_round 119 = .ok (.iload_n 1, 1) := by decide +kernel
theorem dX12_round_120 : decode cX12_round 120 = .ok (.lload_n 2, 1) := by decide +kernel
theorem dX12_round_121 : decode cX12_round 121 = .ok (.iconst 0, 1) := by decide +kernel
theorem dX12_round_122 : decode cX12_round 122 = .ok (.invokevirtual 241, 3) := by decide +kernel
theorem dX12_round_125 : decode cX12_round 125 = .ok (.i2l, 1) := by decide +kernel
theorem dX12_round_126 : decode cX12_round 126 = .ok (.lsub, 1) := by decide +kernel
theorem dX12_round_127 : decode cX12_round 127 = .ok (.aload_n 0, 1) := by decide +kernel
theorem dX12_round_128 : decode cX12_round 128 = .ok (.iload_n 1, 1) := by decide +kernel
theorem dX12_round_129 : decode cX12_round 129 = .ok (.lload_n 2, 1) := by decide +kernel
theorem dX12_round_130 : decode cX12_round 130 = .ok (.iconst 2, 1) := by decide +kernel
theorem dX12_round_131 : decode cX12_round 131 = .ok (.invokevirtual 241, 3) := by decide +kernel
theorem dX12_round_134 : decode cX12_round 134 = .ok (.i2l, 1) := by decide +kernel
theorem dX12_round_135 : decode cX12_round 135 = .ok (.ladd, 1) := by decide +kernel
theorem dX12_round_136 : decode cX12_round 136 = .ok (.lstore 4, 2) := by decide +kernel
theorem dX12_round_138 : decode cX12_round 138 = .ok (.goto 13, 3) := by decide +kernel
theorem dX12_round_141 : decode cX12_round 141 = .ok (.aload_n 0, 1) := by decide +kernel
theorem dX12_round_142 : decode cX12_round 142 = .ok (.iload_n 1, 1) := by decide +kernel
theorem dX12_round_143 : decode cX12_round 143 = .ok (.lload_n 2, 1) := by decide +kernel
theorem dX12_round_144 : decode cX12_round 144 = .ok (.iconst 0, 1) := by decide +kernel
theorem dX12_round_145 : decode cX12_round 145 = .ok (.invokevirtual 241, 3) := by decide +kernel
theorem dX12_round_148 : decode cX12_round 148 = .ok (.i2l, 1) := by decide +kernel
theorem dX12_round_149 : decode cX12_round 149 = .ok (.lstore 4, 2) := by decide +kernel
theorem dX12_round_151 : decode cX12_round 151 = .ok (.lload 4, 2) := by decide +kernel
theorem dX12_round_153 : decode cX12_round 153 = .ok (.ldc2_w 234, 3) := by decide +kernel
theorem dX12_round_156 : decode cX12_round 156 = .ok (.lrem, 1) := by decide +kernel
theorem dX12_round_157 : decode cX12_round 157 = .ok (.ldc2_w 234, 3) := by decide +kernel
theorem dX12_round_160 : decode cX12_round 160 = .ok (.ladd, 1) := by decide +kernel
theorem dX12_round_161 : decode cX12_round 161 = .ok (.ldc2_w 234, 3) := by decide +kernel
theorem dX12_round_164 : decode cX12_round 164 = .ok (.lrem, 1) := by decide +kernel
theorem dX12_round_165 : decode cX12_round 165 = .ok (.l2i, 1) := by decide +kernel
theorem dX12_round_166 : decode cX12_round 166 = .ok (.ireturn, 1) := by decide +kernel
theorem dX12_way_0 : decode cX12_way 0 = .ok (.aload_n 0, 1) := by decide +kernel
theorem dX12_way_1 : decode cX12_way 1 = .ok (.iload_n 1, 1) := by decide +kernel
theorem dX12_way_2 : decode cX12_way 2 = .ok (.invokevirtual 140, 3) := by decide +kernel
theorem dX12_way_5 : decode cX12_way 5 = .ok (.ifCond .ne 9, 3) := by decide +kernel
theorem dX12_way_8 : decode cX12_way 8 = .ok (.aload_n 0, 1) := by decide +kernel
theorem dX12_way_9 : decode cX12_way 9 = .ok (.iconst (-1), 1) := by decide +kernel
theorem dX12_way_10 : decode cX12_way 10 = .ok (.invokevirtual 136, 3) := by decide +kernel
theorem dX12_way_13 : decode cX12_way 13 = .ok (.ireturn, 1) := by decide +kernel
theorem dX12_way_14 : decode cX12_way 14 = .ok (.lload_n 2, 1) := by decide +kernel
theorem dX12_way_15 : decode cX12_way 15 = .ok (.lconst 1, 1) := by decide +kernel
theorem dX12_way_16 : decode cX12_way 16 = .ok (.lcmp, 1) := by decide +kernel
theorem dX12_way_17 : decode cX12_way 17 = .ok (.ifCond .lt 26, 3) := by decide +kernel
theorem dX12_way_20 : decode cX12_way 20 = .ok (.lload_n 2, 1) := by decide +kernel
theorem dX12_way_21 : decode cX12_way 21 = .ok (.aload_n 0, 1) := by decide +kernel
theorem dX12_way_22 : decode cX12_way 22 = .ok (.iload_n 1, 1) := by decide +kernel
theorem dX12_way_23 : decode cX12_way 23 = .ok (.invokevirtual 143, 3) := by decide +kernel
theorem dX12_way_26 : decode cX12_way 26 = .ok (.lconst 1, 1) := by decide +kernel
theorem dX12_way_27 : decode cX12_way 27 = .ok (.ladd, 1) := by decide +kernel
theorem dX12_way_28 : decode cX12_way 28 = .ok (.lcmp, 1) := by decide +kernel
theorem dX12_way_29 : decode cX12_way 29 = .ok (.ifCond .gt 14, 3) := by decide +kernel
theorem dX12_way_32 : decode cX12_way 32 = .ok (.aload_n 0, 1) := by decide +kernel
theorem dX12_way_33 : decode cX12_way 33 = .ok (.iload_n 1, 1) := by decide +kernel
theorem dX12_way_34 : decode cX12_way 34 = .ok (.lload_n 2, 1) := by decide +kernel
theorem dX12_way_35 : decode cX12_way 35 = .ok (.lconst 1, 1) := by decide +kernel
theorem dX12_way_36 : decode cX12_way 36 = .ok (.lsub, 1) := by decide +kernel
theorem dX12_way_37 : decode cX12_way 37 = .ok (.invokevirtual 245, 3) := by decide +kernel
theorem dX12_way_40 : decode cX12_way 40 = .ok (.goto 9, 3) := by decide +kernel
theorem dX12_way_43 : decode cX12_way 43 = .ok (.aload_n 0, 1) := by decide +kernel
theorem dX12_way_44 : decode cX12_way 44 = .ok (.bipush (-5), 2) := by decide +kernel
theorem dX12_way_46 : decode cX12_way 46 = .ok (.invokevirtual 136, 3) := by decide +kernel
theorem dX12_way_49 : decode cX12_way 49 = .ok (.ireturn, 1) := by decide +kernel
theorem dX12_turnX_0 : decode cX12_turnX 0 = .ok (.iload 5, 2) := by decide +kernel
theorem dX12_turnX_2 : decode cX12_turnX 2 = .ok (.iconst 3, 1) := by decide +kernel
theorem dX12_turnX_3 : decode cX12_turnX 3 = .ok (.iand, 1) := by decide +kernel
theorem dX12_turnX_4 : decode cX12_turnX 4 = .ok (.istore 6, 2) := by decide +kernel
theorem dX12_turnX_6 : decode cX12_turnX 6 = .ok (.iload 6, 2) := by decide +kernel
theorem dX12_turnX_8 : decode cX12_turnX 8 = .ok (.ifCond .ne 7, 3) := by decide +kernel
theorem dX12_turnX_11 : decode cX12_turnX 11 = .ok (.lload_n 1, 1) := by decide +kernel
theorem dX12_turnX_12 : decode cX12_turnX 12 = .ok (.goto 26, 3) := by decide +kernel
theorem dX12_turnX_15 : decode cX12_turnX 15 = .ok (.iload 6, 2) := by decide +kernel
theorem dX12_turnX_17 : decode cX12_turnX 17 = .ok (.iconst 1, 1) := by decide +kernel
theorem dX12_turnX_18 : decode cX12_turnX 18 = .ok (.if_icmp .ne 8, 3) := by decide +kernel
theorem dX12_turnX_21 : decode cX12_turnX 21 = .ok (.lload_n 3, 1) := by decide +kernel
theorem dX12_turnX_22 : decode cX12_turnX 22 = .ok (.lneg, 1) := by decide +kernel
theorem dX12_turnX_23 : decode cX12_turnX 23 = .ok (.goto 15, 3) := by decide +kernel
theorem dX12_turnX_26 : decode cX12_turnX 26 = .ok (.iload 6, 2) := by decide +kernel
theorem dX12_turnX_28 : decode cX12_turnX 28 = .ok (.iconst 2, 1) := by decide +kernel
theorem dX12_turnX_29 : decode cX12_turnX 29 = .ok (.if_icmp .ne 8, 3) := by decide +kernel
theorem dX12_turnX_32 : decode cX12_turnX 32 = .ok (.lload_n 1, 1) := by decide +kernel
theorem dX12_turnX_33 : decode cX12_turnX 33 = .ok (.lneg, 1) := by decide +kernel
theorem dX12_turnX_34 : decode cX12_turnX 34 = .ok (.goto 4, 3) := by decide +kernel
theorem dX12_turnX_37 : decode cX12_turnX 37 = .ok (.lload_n 3, 1) := by decide +kernel
theorem dX12_turnX_38 : decode cX12_turnX 38 = .ok (.lreturn, 1) := by decide +kernel
theorem dX12_turnY_0 : decode cX12_turnY 0 = .ok (.iload 5, 2) := by decide +kernel
theorem dX12_turnY_2 : decode cX12_turnY 2 = .ok (.iconst 3, 1) := by decide +kernel
theorem dX12_turnY_3 : decode cX12_turnY 3 = .ok (.iand, 1) := by decide +kernel
theorem dX12_turnY_4 : decode cX12_turnY 4 = .ok (.istore 6, 2) := by decide +kernel
theorem dX12_turnY_6 : decode cX12_turnY 6 = .ok (.iload 6, 2) := by decide +kernel
theorem dX12_turnY_8 : decode cX12_turnY 8 = .ok (.ifCond .ne 7, 3) := by decide +kernel
theorem dX12_turnY_11 : decode cX12_turnY 11 = .ok (.lload_n 3, 1) := by decide +kernel
theorem dX12_turnY_12 : decode cX12_turnY 12 = .ok (.goto 26, 3) := by decide +kernel
theorem dX12_turnY_15 : decode cX12_turnY 15 = .ok (.iload 6, 2) := by decide +kernel
theorem dX12_turnY_17 : decode cX12_turnY 17 = .ok (.iconst 1, 1) := by decide +kernel
theorem dX12_turnY_18 : decode cX12_turnY 18 = .ok (.if_icmp .ne 7, 3) := by decide +kernel
theorem dX12_turnY_21 : decode cX12_turnY 21 = .ok (.lload_n 1, 1) := by decide +kernel
theorem dX12_turnY_22 : decode cX12_turnY 22 = .ok (.goto 16, 3) := by decide +kernel
theorem dX12_turnY_25 : decode cX12_turnY 25 = .ok (.iload 6, 2) := by decide +kernel
theorem dX12_turnY_27 : decode cX12_turnY 27 = .ok (.iconst 2, 1) := by decide +kernel
theorem dX12_turnY_28 : decode cX12_turnY 28 = .ok (.if_icmp .ne 8, 3) := by decide +kernel
theorem dX12_turnY_31 : decode cX12_turnY 31 = .ok (.lload_n 3, 1) := by decide +kernel
theorem dX12_turnY_32 : decode cX12_turnY 32 = .ok (.lneg, 1) := by decide +kernel
theorem dX12_turnY_33 : decode cX12_turnY 33 = .ok (.goto 5, 3) := by decide +kernel
theorem dX12_turnY_36 : decode cX12_turnY 36 = .ok (.lload_n 1, 1) := by decide +kernel
theorem dX12_turnY_37 : decode cX12_turnY 37 = .ok (.lneg, 1) := by decide +kernel
theorem dX12_turnY_38 : decode cX12_turnY 38 = .ok (.lreturn, 1) := by decide +kernel
theorem dX12_parts_0 : decode cX12_parts 0 = .ok (.aload_n 0, 1) := by decide +kernel
theorem dX12_parts_1 : decode cX12_parts 1 = .ok (.getfield 63, 3) := by decide +kernel
theorem dX12_parts_4 : decode cX12_parts 4 = .ok (.iconst 0, 1) := by decide +kernel
theorem dX12_parts_5 : decode cX12_parts 5 = .ok (.lconst 1, 1) := by decide +kernel
theorem dX12_parts_6 : decode cX12_parts 6 = .ok (.lastore, 1) := by decide +kernel
theorem dX12_parts_7 : decode cX12_parts 7 = .ok (.aload_n 0, 1) := by decide +kernel
theorem dX12_parts_8 : decode cX12_parts 8 = .ok (.getfield 66, 3) := by decide +kernel
theorem dX12_parts_11 : decode cX12_parts 11 = .ok (.iconst 0, 1) := by decide +kernel
theorem dX12_parts_12 : decode cX12_parts 12 = .ok (.lconst 0, 1) := by decide +kernel
theorem dX12_parts_13 : decode cX12_parts 13 = .ok (.lastore, 1) := by decide +kernel
theorem dX12_parts_14 : decode cX12_parts 14 = .ok (.aload_n 0, 1) := by decide +kernel
theorem dX12_parts_15 : decode cX12_parts 15 = .ok (.getfield 69, 3) := by decide +kernel
theorem dX12_parts_18 : decode cX12_parts 18 = .ok (.iconst 0, 1) := by decide +kernel
theorem dX12_parts_19 : decode cX12_parts 19 = .ok (.lconst 1, 1) := by decide +kernel
theorem dX12_parts_20 : decode cX12_parts 20 = .ok (.lastore, 1) := by decide +kernel
theorem dX12_parts_21 : decode cX12_parts 21 = .ok (.aload_n 0, 1) := by decide +kernel
theorem dX12_parts_22 : decode cX12_parts 22 = .ok (.getfield 72, 3) := by decide +kernel
theorem dX12_parts_25 : decode cX12_parts 25 = .ok (.iconst 0, 1) := by decide +kernel
theorem dX12_parts_26 : decode cX12_parts 26 = .ok (.lconst 0, 1) := by decide +kernel
theorem dX12_parts_27 : decode cX12_parts 27 = .ok (.lastore, 1) := by decide +kernel
theorem dX12_parts_28 : decode cX12_parts 28 = .ok (.aload_n 0, 1) := by decide +kernel
theorem dX12_parts_29 : decode cX12_parts 29 = .ok (.getfield 75, 3) := by decide +kernel
theorem dX12_parts_32 : decode cX12_parts 32 = .ok (.iconst 0, 1) := by decide +kernel
theorem dX12_parts_33 : decode cX12_parts 33 = .ok (.iconst 0, 1) := by decide +kernel
theorem dX12_parts_34 : decode cX12_parts 34 = .ok (.iastore, 1) := by decide +kernel
theorem dX12_parts_35 : decode cX12_parts 35 = .ok (.aload_n 0, 1) := by decide +kernel
theorem dX12_parts_36 : decode cX12_parts 36 = .ok (.getfield 78, 3) := by decide +kernel
theorem dX12_parts_39 : decode cX12_parts 39 = .ok (.iconst 0, 1) := by decide +kernel
theorem dX12_parts_40 : decode cX12_parts 40 = .ok (.iconst 0, 1) := by decide +kernel
theorem dX12_parts_41 : decode cX12_parts 41 = .ok (.iastore, 1) := by decide +kernel
theorem dX12_parts_42 : decode cX12_parts 42 = .ok (.iconst 1, 1) := by decide +kernel
theorem dX12_parts_43 : decode cX12_parts 43 = .ok (.istore_n 2, 1) := by decide +kernel
theorem dX12_parts_44 : decode cX12_parts 44 = .ok (.iload_n 2, 1) := by decide +kernel
theorem dX12_parts_45 : decode cX12_parts 45 = .ok (.aload_n 0, 1) := by decide +kernel
theorem dX12_parts_46 : decode cX12_parts 46 = .ok (.getfield 23, 3) := by decide +kernel
theorem dX12_parts_49 : decode cX12_parts 49 = .ok (.iload_n 1, 1) := by decide +kernel
theorem dX12_parts_50 : decode cX12_parts 50 = .ok (.iaload, 1) := by decide +kernel
theorem dX12_parts_51 : decode cX12_parts 51 = .ok (.if_icmp .gt 333, 3) := by decide +kernel
theorem dX12_parts_54 : decode cX12_parts 54 = .ok (.aload_n 0, 1) := by decide +kernel
theorem dX12_parts_55 : decode cX12_parts 55 = .ok (.iload_n 1, 1) := by decide +kernel
theorem dX12_parts_56 : decode cX12_parts 56 = .ok (.iload_n 2, 1) := by decide +kernel
theorem dX12_parts_57 : decode cX12_parts 57 = .ok (.iconst 1, 1) := by decide +kernel
theorem dX12_parts_58 : decode cX12_parts 58 = .ok (.isub, 1) := by decide +kernel
theorem dX12_parts_59 : decode cX12_parts 59 = .ok (.invokevirtual 229, 3) := by decide +kernel
theorem dX12_parts_62 : decode cX12_parts 62 = .ok (.iconst 1, 1) := by decide +kernel
theorem dX12_parts_63 : decode cX12_parts 63 = .ok (.if_icmp .ne 7, 3) := by decide +kernel
theorem dX12_parts_66 : decode cX12_parts 66 = .ok (.iconst 1, 1) := by decide +kernel
theorem dX12_parts_67 : decode cX12_parts 67 = .ok (.goto 4, 3) := by decide +kernel
theorem dX12_parts_70 : decode cX12_parts 70 = .ok (.iconst (-1), 1) := by decide +kernel
theorem dX12_parts_71 : decode cX12_parts 71 = .ok (.istore_n 3, 1) := by decide +kernel
theorem dX12_parts_72 : decode cX12_parts 72 = .ok (.aload_n 0, 1) := by decide +kernel
theorem dX12_parts_73 : decode cX12_parts 73 = .ok (.getfield 17, 3) := by decide +kernel
theorem dX12_parts_76 : decode cX12_parts 76 = .ok (.iload_n 1, 1) := by decide +kernel
theorem dX12_parts_77 : decode cX12_parts 77 = .ok (.iaload, 1) := by decide +kernel
theorem dX12_parts_78 : decode cX12_parts 78 = .ok (.iconst 2, 1) := by decide +kernel
theorem dX12_parts_79 : decode cX12_parts 79 = .ok (.if_icmp .ne 93, 3) := by decide +kernel
theorem dX12_parts_82 : decode cX12_parts 82 = .ok (.aload_n 0, 1) := by decide +kernel
theorem dX12_parts_83 : decode cX12_parts 83 = .ok (.getfield 63, 3) := by decide +kernel
theorem dX12_parts_86 : decode cX12_parts 86 = .ok (.iload_n 2, 1) := by decide +kernel
theorem dX12_parts_87 : decode cX12_parts 87 = .ok (.ldc2_w 239, 3) := by decide +kernel
theorem dX12_parts_90 : decode cX12_parts 90 = .ok (.aload_n 0, 1) := by decide +kernel
theorem dX12_parts_91 : decode cX12_parts 91 = .ok (.getfield 63, 3) := by decide +kernel
theorem dX12_parts_94 : decode cX12_parts 94 = .ok (.iload_n 2, 1) := by decide +kernel
theorem dX12_parts_95 : decode cX12_parts 95 = .ok (.iconst 1, 1) := by decide +kernel
theorem dX12_parts_96 : decode cX12_parts 96 = .ok (.isub, 1) := by decide +kernel
theorem dX12_parts_97 : decode cX12_parts 97 = .ok (.laload, 1) := by decide +kernel
theorem dX12_parts_98 : decode cX12_parts 98 = .ok (.lmul, 1) := by decide +kernel
theorem dX12_parts_99 : decode cX12_parts 99 = .ok (.aload_n 0, 1) := by decide +kernel
theorem dX12_parts_100 : decode cX12_parts 100 = .ok (.aload_n 0, 1) := by decide +kernel
theorem dX12_parts_101 : decode cX12_parts 101 = .ok (.getfield 63, 3) := by decide +kernel
theorem dX12_parts_104 : decode cX12_parts 104 = .ok (.iload_n 2, 1) := by decide +kernel
theorem dX12_parts_105 : decode cX12_parts 105 = .ok (.iconst 1, 1) := by decide +kernel
theorem dX12_parts_106 : decode cX12_parts 106 = .ok (.isub, 1) := by decide +kernel
theorem dX12_parts_107 : decode cX12_parts 107 = .ok (.laload, 1) := by decide +kernel
theorem dX12_parts_108 : decode cX12_parts 108 = .ok (.aload_n 0, 1) := by decide +kernel
theorem dX12_parts_109 : decode cX12_parts 109 = .ok (.getfield 66, 3) := by decide +kernel
theorem dX12_parts_112 : decode cX12_parts 112 = .ok (.iload_n 2, 1) := by decide +kernel
theorem dX12_parts_113 : decode cX12_parts 113 = .ok (.iconst 1, 1) := by decide +kernel
theorem dX12_parts_114 : decode cX12_parts 114 = .ok (.isub, 1) := by decide +kernel
theorem dX12_parts_115 : decode cX12_parts 115 = .ok (.laload, 1) := by decide +kernel
theorem dX12_parts_116 : decode cX12_parts 116 = .ok (.iload_n 3, 1) := by decide +kernel
theorem dX12_parts_117 : decode cX12_parts 117 = .ok (.invokevirtual 248, 3) := by decide +kernel
theorem dX12_parts_120 : decode cX12_parts 120 = .ok (.ladd, 1) := by decide +kernel
theorem dX12_parts_121 : decode cX12_parts 121 = .ok (.lastore, 1) := by decide +kernel
theorem dX12_parts_122 : decode cX12_parts 122 = .ok (.aload_n 0, 1) := by decide +kernel
theorem dX12_parts_123 : decode cX12_parts 123 = .ok (.getfield 66, 3) := by decide +kernel
theorem dX12_parts_126 : decode cX12_parts 126 = .ok (.iload_n 2, 1) := by decide +kernel
theorem dX12_parts_127 : decode cX12_parts 127 = .ok (.ldc2_w 239, 3) := by decide +kernel
theorem dX12_parts_130 : decode cX12_parts 130 = .ok (.aload_n 0, 1) := by decide +kernel
theorem dX12_parts_131 : decode cX12_parts 131 = .ok (.getfield 66, 3) := by decide +kernel
theorem dX12_parts_134 : decode cX12_parts 134 = .ok (.iload_n 2, 1) := by decide +kernel
theorem dX12_parts_135 : decode cX12_parts 135 = .ok (.iconst 1, 1) := by decide +kernel
theorem dX12_parts_136 : decode cX12_parts 136 = .ok (.isub, 1) := by decide +kernel
theorem dX12_parts_137 : decode cX12_parts 137 = .ok (.laload, 1) := by decide +kernel
theorem dX12_parts_138 : decode cX12_parts 138 = .ok (.lmul, 1) := by decide +kernel
theorem dX12_parts_139 : decode cX12_parts 139 = .ok (.aload_n 0, 1) := by decide +kernel
theorem dX12_parts_140 : decode cX12_parts 140 = .ok (.aload_n 0, 1) := by decide +kernel
theorem dX12_parts_141 : decode cX12_parts 141 = .ok (.getfield 63, 3) := by decide +kernel
theorem dX12_parts_144 : decode cX12_parts 144 = .ok (.iload_n 2, 1) := by decide +kernel
theorem dX12_parts_145 : decode cX12_parts 145 = .ok (.iconst 1, 1) := by decide +kernel
theorem dX12_parts_146 : decode cX12_parts 146 = .ok (.isub, 1) := by decide +kernel
theorem dX12_parts_147 : decode cX12_parts 147 = .ok (.laload, 1) := by decide +kernel
theorem dX12_parts_148 : decode cX12_parts 148 = .ok (.aload_n 0, 1) := by decide +kernel
theorem dX12_parts_149 : decode cX12_parts 149 = .ok (.getfield 66, 3) := by decide +kernel
theorem dX12_parts_152 : decode cX12_parts 152 = .ok (.iload_n 2, 1) := by decide +kernel
theorem dX12_parts_153 : decode cX12_parts 153 = .ok (.iconst 1, 1) := by decide +kernel
theorem dX12_parts_154 : decode cX12_parts 154 = .ok (.isub, 1) := by decide +kernel
theorem dX12_parts_155 : decode cX12_parts 155 = .ok (.laload, 1) := by decide +kernel
theorem dX12_parts_156 : decode cX12_parts 156 = .ok (.iload_n 3, 1) := by decide +kernel
theorem dX12_parts_157 : decode cX12_parts 157 = .ok (.invokevirtual 252, 3) := by decide +kernel
theorem dX12_parts_160 : decode cX12_parts 160 = .ok (.ladd, 1) := by decide +kernel
theorem dX12_parts_161 : decode cX12_parts 161 = .ok (.lastore, 1) := by decide +kernel
theorem dX12_parts_162 : decode cX12_parts 162 = .ok (.aload_n 0, 1) := by decide +kernel
theorem dX12_parts_163 : decode cX12_parts 163 = .ok (.getfield 75, 3) := by decide +kernel
theorem dX12_parts_166 : decode cX12_parts 166 = .ok (.iload_n 2, 1) := by decide +kernel
theorem dX12_parts_167 : decode cX12_parts 167 = .ok (.iconst 0, 1) := by decide +kernel
theorem dX12_parts_168 : decode cX12_parts 168 = .ok (.iastore, 1) := by decide +kernel
theorem dX12_parts_169 : decode cX12_parts 169 = .ok (.goto 209, 3) := by decide +kernel
theorem dX12_parts_172 : decode cX12_parts 172 = .ok (.aload_n 0, 1) := by decide +kernel
theorem dX12_parts_173 : decode cX12_parts 173 = .ok (.getfield 75, 3) := by decide +kernel
theorem dX12_parts_176 : decode cX12_parts 176 = .ok (.iload_n 2, 1) := by decide +kernel
theorem dX12_parts_177 : decode cX12_parts 177 = .ok (.iconst 1, 1) := by decide +kernel
theorem dX12_parts_178 : decode cX12_parts 178 = .ok (.isub, 1) := by decide +kernel
theorem dX12_parts_179 : decode cX12_parts 179 = .ok (.iaload, 1) := by decide +kernel
theorem dX12_parts_180 : decode cX12_parts 180 = .ok (.iload_n 3, 1) := by decide +kernel
theorem dX12_parts_181 : decode cX12_parts 181 = .ok (.iadd, 1) := by decide +kernel
theorem dX12_parts_182 : decode cX12_parts 182 = .ok (.istore 4, 2) := by decide +kernel
theorem dX12_parts_184 : decode cX12_parts 184 = .ok (.aload_n 0, 1) := by decide +kernel
theorem dX12_parts_185 : decode cX12_parts 185 = .ok (.getfield 75, 3) := by decide +kernel
theorem dX12_parts_188 : decode cX12_parts 188 = .ok (.iload_n 2, 1) := by decide +kernel
theorem dX12_parts_189 : decode cX12_parts 189 = .ok (.iconst 1, 1) := by decide +kernel
theorem dX12_parts_190 : decode cX12_parts 190 = .ok (.isub, 1) := by decide +kernel
theorem dX12_parts_191 : decode cX12_parts 191 = .ok (.iaload, 1) := by decide +kernel
theorem dX12_parts_192 : decode cX12_parts 192 = .ok (.iload_n 3, 1) := by decide +kernel
theorem dX12_parts_193 : decode cX12_parts 193 = .ok (.isub, 1) := by decide +kernel
theorem dX12_parts_194 : decode cX12_parts 194 = .ok (.istore 5, 2) := by decide +kernel
theorem dX12_parts_196 : decode cX12_parts 196 = .ok (.aload_n 0, 1) := by decide +kernel
theorem dX12_parts_197 : decode cX12_parts 197 = .ok (.getfield 63, 3) := by decide +kernel
theorem dX12_parts_200 : decode cX12_parts 200 = .ok (.iload_n 2, 1) := by decide +kernel
theorem dX12_parts_201 : decode cX12_parts 201 = .ok (.aload_n 0, 1) := by decide +kernel
theorem dX12_parts_202 : decode cX12_parts 202 = .ok (.getfield 63, 3) := by decide +kernel
theorem dX12_parts_205 : decode cX12_parts 205 = .ok (.iload_n 2, 1) := by decide +kernel
theorem dX12_parts_206 : decode cX12_parts 206 = .ok (.iconst 1, 1) := by decide +kernel
theorem dX12_parts_207 : decode cX12_parts 207 = .ok (.isub, 1) := by decide +kernel
theorem dX12_parts_208 : decode cX12_parts 208 = .ok (.laload, 1) := by decide +kernel
theorem dX12_parts_209 : decode cX12_parts 209 = .ok (.aload_n 0, 1) := by decide +kernel
theorem dX12_parts_210 : decode cX12_parts 210 = .ok (.aload_n 0, 1) := by decide +kernel
theorem dX12_parts_211 : decode cX12_parts 211 = .ok (.getfield 69, 3) := by decide +kernel
theorem dX12_parts_214 : decode cX12_parts 214 = .ok (.iload_n 2, 1) := by decide +kernel
theorem dX12_parts_215 : decode cX12_parts 215 = .ok (.iconst 1, 1) := by decide +kernel
theorem dX12_parts_216 : decode cX12_parts 216 = .ok (.isub, 1) := by decide +kernel
theorem dX12_parts_217 : decode cX12_parts 217 = .ok (.laload, 1) := by decide +kernel
theorem dX12_parts_218 : decode cX12_parts 218 = .ok (.aload_n 0, 1) := by decide +kernel
theorem dX12_parts_219 : decode cX12_parts 219 = .ok (.getfield 72, 3) := by decide +kernel
theorem dX12_parts_222 : decode cX12_parts 222 = .ok (.iload_n 2, 1) := by decide +kernel
theorem dX12_parts_223 : decode cX12_parts 223 = .ok (.iconst 1, 1) := by decide +kernel
theorem dX12_parts_224 : decode cX12_parts 224 = .ok (.isub, 1) := by decide +kernel
theorem dX12_parts_225 : decode cX12_parts 225 = .ok (.laload, 1) := by decide +kernel
theorem dX12_parts_226 : decode cX12_parts 226 = .ok (.iload 4, 2) := by decide +kernel
theorem dX12_parts_228 : decode cX12_parts 228 = .ok (.invokevirtual 248, 3) := by decide +kernel
theorem dX12_parts_231 : decode cX12_parts 231 = .ok (.ladd, 1) := by decide +kernel
theorem dX12_parts_232 : decode cX12_parts 232 = .ok (.lastore, 1) := by decide +kernel
theorem dX12_parts_233 : decode cX12_parts 233 = .ok (.aload_n 0, 1) := by decide +kernel
theorem dX12_parts_234 : decode cX12_parts 234 = .ok (.getfield 66, 3) := by decide +kernel
theorem dX12_parts_237 : decode cX12_parts 237 = .ok (.iload_n 2, 1) := by decide +kernel
theorem dX12_parts_238 : decode cX12_parts 238 = .ok (.aload_n 0, 1) := by decide +kernel
theorem dX12_parts_239 : decode cX12_parts 239 = .ok (.getfield 66, 3) := by decide +kernel
theorem dX12_parts_242 : decode cX12_parts 242 = .ok (.iload_n 2, 1) := by decide +kernel
theorem dX12_parts_243 : decode cX12_parts 243 = .ok (.iconst 1, 1) := by decide +kernel
theorem dX12_parts_244 : decode cX12_parts 244 = .ok (.isub, 1) := by decide +kernel
theorem dX12_parts_245 : decode cX12_parts 245 = .ok (.laload, 1) := by decide +kernel
theorem dX12_parts_246 : decode cX12_parts 246 = .ok (.aload_n 0, 1) := by decide +kernel
theorem dX12_parts_247 : decode cX12_parts 247 = .ok (.aload_n 0, 1) := by decide +kernel
theorem dX12_parts_248 : decode cX12_parts 248 = .ok (.getfield 69, 3) := by decide +kernel
theorem dX12_parts_251 : decode cX12_parts 251 = .ok (.iload_n 2, 1) := by decide +kernel
theorem dX12_parts_252 : decode cX12_parts 252 = .ok (.iconst 1, 1) := by decide +kernel
theorem dX12_parts_253 : decode cX12_parts 253 = .ok (.isub, 1) := by decide +kernel
theorem dX12_parts_254 : decode cX12_parts 254 = .ok (.laload, 1) := by decide +kernel
theorem dX12_parts_255 : decode cX12_parts 255 = .ok (.aload_n 0, 1) := by decide +kernel
theorem dX12_parts_256 : decode cX12_parts 256 = .ok (.getfield 72, 3) := by decide +kernel
theorem dX12_parts_259 : decode cX12_parts 259 = .ok (.iload_n 2, 1) := by decide +kernel
theorem dX12_parts_260 : decode cX12_parts 260 = .ok (.iconst 1, 1) := by decide +kernel
theorem dX12_parts_261 : decode cX12_parts 261 = .ok (.isub, 1) := by decide +kernel
theorem dX12_parts_262 : decode cX12_parts 262 = .ok (.laload, 1) := by decide +kernel
theorem dX12_parts_263 : decode cX12_parts 263 = .ok (.iload 4, 2) := by decide +kernel
theorem dX12_parts_265 : decode cX12_parts 265 = .ok (.invokevirtual 252, 3) := by decide +kernel
theorem dX12_parts_268 : decode cX12_parts 268 = .ok (.ladd, 1) := by decide +kernel
theorem dX12_parts_269 : decode cX12_parts 269 = .ok (.lastore, 1) := by decide +kernel
theorem dX12_parts_270 : decode cX12_parts 270 = .ok (.aload_n 0, 1) := by decide +kernel
theorem dX12_parts_271 : decode cX12_parts 271 = .ok (.getfield 69, 3) := by decide +kernel
theorem dX12_parts_274 : decode cX12_parts 274 = .ok (.iload_n 2, 1) := by decide +kernel
theorem dX12_parts_275 : decode cX12_parts 275 = .ok (.aload_n 0, 1) := by decide +kernel
theorem dX12_parts_276 : decode cX12_parts 276 = .ok (.getfield 63, 3) := by decide +kernel
theorem dX12_parts_279 : decode cX12_parts 279 = .ok (.iload_n 2, 1) := by decide +kernel
theorem dX12_parts_280 : decode cX12_parts 280 = .ok (.iconst 1, 1) := by decide +kernel
theorem dX12_parts_281 : decode cX12_parts 281 = .ok (.isub, 1) := by decide +kernel
theorem dX12_parts_282 : decode cX12_parts 282 = .ok (.laload, 1) := by decide +kernel
theorem dX12_parts_283 : decode cX12_parts 283 = .ok (.aload_n 0, 1) := by decide +kernel
theorem dX12_parts_284 : decode cX12_parts 284 = .ok (.aload_n 0, 1) := by decide +kernel
theorem dX12_parts_285 : decode cX12_parts 285 = .ok (.getfield 69, 3) := by decide +kernel
theorem dX12_parts_288 : decode cX12_parts 288 = .ok (.iload_n 2, 1) := by decide +kernel
theorem dX12_parts_289 : decode cX12_parts 289 = .ok (.iconst 1, 1) := by decide +kernel
theorem dX12_parts_290 : decode cX12_parts 290 = .ok (.isub, 1) := by decide +kernel
theorem dX12_parts_291 : decode cX12_parts 291 = .ok (.laload, 1) := by decide +kernel
theorem dX12_parts_292 : decode cX12_parts 292 = .ok (.aload_n 0, 1) := by decide +kernel
theorem dX12_parts_293 : decode cX12_parts 293 = .ok (.getfield 72, 3) := by decide +kernel
theorem dX12_parts_296 : decode cX12_parts 296 = .ok (.iload_n 2, 1) := by decide +kernel
theorem dX12_parts_297 : decode cX12_parts 297 = .ok (.iconst 1, 1) := by decide +kernel
theorem dX12_parts_298 : decode cX12_parts 298 = .ok (.isub, 1) := by decide +kernel
theorem dX12_parts_299 : decode cX12_parts 299 = .ok (.laload, 1) := by decide +kernel
theorem dX12_parts_300 : decode cX12_parts 300 = .ok (.iload 5, 2) := by decide +kernel
theorem dX12_parts_302 : decode cX12_parts 302 = .ok (.invokevirtual 248, 3) := by decide +kernel
theorem dX12_parts_305 : decode cX12_parts 305 = .ok (.ladd, 1) := by decide +kernel
theorem dX12_parts_306 : decode cX12_parts 306 = .ok (.lastore, 1) := by decide +kernel
theorem dX12_parts_307 : decode cX12_parts 307 = .ok (.aload_n 0, 1) := by decide +kernel
theorem dX12_parts_308 : decode cX12_parts 308 = .ok (.getfield 72, 3) := by decide +kernel
theorem dX12_parts_311 : decode cX12_parts 311 = .ok (.iload_n 2, 1) := by decide +kernel
theorem dX12_parts_312 : decode cX12_parts 312 = .ok (.aload_n 0, 1) := by decide +kernel
theorem dX12_parts_313 : decode cX12_parts 313 = .ok (.getfield 66, 3) := by decide +kernel
theorem dX12_parts_316 : decode cX12_parts 316 = .ok (.iload_n 2, 1) := by decide +kernel
theorem dX12_parts_317 : decode cX12_parts 317 = .ok (.iconst 1, 1) := by decide +kernel
theorem dX12_parts_318 : decode cX12_parts 318 = .ok (.isub, 1) := by decide +kernel
theorem dX12_parts_319 : decode cX12_parts 319 = .ok (.laload, 1) := by decide +kernel
theorem dX12_parts_320 : decode cX12_parts 320 = .ok (.aload_n 0, 1) := by decide +kernel
theorem dX12_parts_321 : decode cX12_parts 321 = .ok (.aload_n 0, 1) := by decide +kernel
theorem dX12_parts_322 : decode cX12_parts 322 = .ok (.getfield 69, 3) := by decide +kernel
theorem dX12_parts_325 : decode cX12_parts 325 = .ok (.iload_n 2, 1) := by decide +kernel
theorem dX12_parts_326 : decode cX12_parts 326 = .ok (.iconst 1, 1) := by decide +kernel
theorem dX12_parts_327 : decode cX12_parts 327 = .ok (.isub, 1) := by decide +kernel
theorem dX12_parts_328 : decode cX12_parts 328 = .ok (.laload, 1) := by decide +kernel
theorem dX12_parts_329 : decode cX12_parts 329 = .ok (.aload_n 0, 1) := by decide +kernel
theorem dX12_parts_330 : decode cX12_parts 330 = .ok (.getfield 72, 3) := by decide +kernel
theorem dX12_parts_333 : decode cX12_parts 333 = .ok (.iload_n 2, 1) := by decide +kernel
theorem dX12_parts_334 : decode cX12_parts 334 = .ok (.iconst 1, 1) := by decide +kernel
theorem dX12_parts_335 : decode cX12_parts 335 = .ok (.isub, 1) := by decide +kernel
theorem dX12_parts_336 : decode cX12_parts 336 = .ok (.laload, 1) := by decide +kernel
theorem dX12_parts_337 : decode cX12_parts 337 = .ok (.iload 5, 2) := by decide +kernel
theorem dX12_parts_339 : decode cX12_parts 339 = .ok (.invokevirtual 252, 3) := by decide +kernel
theorem dX12_parts_342 : decode cX12_parts 342 = .ok (.ladd, 1) := by decide +kernel
theorem dX12_parts_343 : decode cX12_parts 343 = .ok (.lastore, 1) := by decide +kernel
theorem dX12_parts_344 : decode cX12_parts 344 = .ok (.aload_n 0, 1) := by decide +kernel
theorem dX12_parts_345 : decode cX12_parts 345 = .ok (.getfield 75, 3) := by decide +kernel
theorem dX12_parts_348 : decode cX12_parts 348 = .ok (.iload_n 2, 1) := by decide +kernel
theorem dX12_parts_349 : decode cX12_parts 349 = .ok (.iload 4, 2) := by decide +kernel
theorem dX12_parts_351 : decode cX12_parts 351 = .ok (.aload_n 0, 1) := by decide +kernel
theorem dX12_parts_352 : decode cX12_parts 352 = .ok (.getfield 78, 3) := by decide +kernel
theorem dX12_parts_355 : decode cX12_parts 355 = .ok (.iload_n 2, 1) := by decide +kernel
theorem dX12_parts_356 : decode cX12_parts 356 = .ok (.iconst 1, 1) := by decide +kernel
theorem dX12_parts_357 : decode cX12_parts 357 = .ok (.isub, 1) := by decide +kernel
theorem dX12_parts_358 : decode cX12_parts 358 = .ok (.iaload, 1) := by decide +kernel
theorem dX12_parts_359 : decode cX12_parts 359 = .ok (.iadd, 1) := by decide +kernel
theorem dX12_parts_360 : decode cX12_parts 360 = .ok (.iastore, 1) := by decide +kernel
theorem dX12_parts_361 : decode cX12_parts 361 = .ok (.aload_n 0, 1) := by decide +kernel
theorem dX12_parts_362 : decode cX12_parts 362 = .ok (.getfield 78, 3) := by decide +kernel
theorem dX12_parts_365 : decode cX12_parts 365 = .ok (.iload_n 2, 1) := by decide +kernel
theorem dX12_parts_366 : decode cX12_parts 366 = .ok (.iload 5, 2) := by decide +kernel
theorem dX12_parts_368 : decode cX12_parts 368 = .ok (.aload_n 0, 1) := by decide +kernel
theorem dX12_parts_369 : decode cX12_parts 369 = .ok (.getfield 78, 3) := by decide +kernel
theorem dX12_parts_372 : decode cX12_parts 372 = .ok (.iload_n 2, 1) := by decide +kernel
theorem dX12_parts_373 : decode cX12_parts 373 = .ok (.iconst 1, 1) := by decide +kernel
theorem dX12_parts_374 : decode cX12_parts 374 = .ok (.isub, 1) := by decide +kernel
theorem dX12_parts_375 : decode cX12_parts 375 = .ok (.iaload, 1) := by decide +kernel
theorem dX12_parts_376 : decode cX12_parts 376 = .ok (.iadd, 1) := by decide +kernel
theorem dX12_parts_377 : decode cX12_parts 377 = .ok (.iastore, 1) := by decide +kernel
theorem dX12_parts_378 : decode cX12_parts 378 = .ok (.iinc 2 1, 3) := by decide +kernel
theorem dX12_parts_381 : decode cX12_parts 381 = .ok (.goto (-337), 3) := by decide +kernel
theorem dX12_parts_384 : decode cX12_parts 384 = .ok (.return_, 1) := by decide +kernel
theorem dX12_plainPlace_0 : decode cX12_plainPlace 0 = .ok (.aload_n 0, 1) := by decide +kernel
theorem dX12_plainPlace_1 : decode cX12_plainPlace 1 = .ok (.iload_n 1, 1) := by decide +kernel
theorem dX12_plainPlace_2 : decode cX12_plainPlace 2 = .ok (.invokevirtual 255, 3) := by decide +kernel
theorem dX12_plainPlace_5 : decode cX12_plainPlace 5 = .ok (.aload_n 0, 1) := by decide +kernel
theorem dX12_plainPlace_6 : decode cX12_plainPlace 6 = .ok (.lconst 0, 1) := by decide +kernel
theorem dX12_plainPlace_7 : decode cX12_plainPlace 7 = .ok (.putfield 259, 3) := by decide +kernel
theorem dX12_plainPlace_10 : decode cX12_plainPlace 10 = .ok (.aload_n 0, 1) := by decide +kernel
theorem dX12_plainPlace_11 : decode cX12_plainPlace 11 = .ok (.lconst 0, 1) := by decide +kernel
theorem dX12_plainPlace_12 : decode cX12_plainPlace 12 = .ok (.putfield 262, 3) := by decide +kernel
theorem dX12_plainPlace_15 : decode cX12_plainPlace 15 = .ok (.aload_n 0, 1) := by decide +kernel
theorem dX12_plainPlace_16 : decode cX12_plainPlace 16 = .ok (.getfield 17, 3) := by decide +kernel
theorem dX12_plainPlace_19 : decode cX12_plainPlace 19 = .ok (.iload_n 1, 1) := by decide +kernel
theorem dX12_plainPlace_20 : decode cX12_plainPlace 20 = .ok (.iaload, 1) := by decide +kernel
theorem dX12_plainPlace_21 : decode cX12_plainPlace 21 = .ok (.iconst 2, 1) := by decide +kernel
theorem dX12_plainPlace_22 : decode cX12_plainPlace 22 = .ok (.if_icmp .ne 7, 3) := by decide +kernel
theorem dX12_plainPlace_25 : decode cX12_plainPlace 25 = .ok (.iconst 3, 1) := by decide +kernel
theorem dX12_plainPlace_26 : decode cX12_plainPlace 26 = .ok (.goto 4, 3) := by decide +kernel
theorem dX12_plainPlace_29 : decode cX12_plainPlace 29 = .ok (.iconst 2, 1) := by decide +kernel
theorem dX12_plainPlace_30 : decode cX12_plainPlace 30 = .ok (.istore 4, 2) := by decide +kernel
theorem dX12_plainPlace_32 : decode cX12_plainPlace 32 = .ok (.iconst 0, 1) := by decide +kernel
theorem dX12_plainPlace_33 : decode cX12_plainPlace 33 = .ok (.istore 5, 2) := by decide +kernel
theorem dX12_plainPlace_35 : decode cX12_plainPlace 35 = .ok (.lconst 0, 1) := by decide +kernel
theorem dX12_plainPlace_36 : decode cX12_plainPlace 36 = .ok (.lstore 6, 2) := by decide +kernel
theorem dX12_plainPlace_38 : decode cX12_plainPlace 38 = .ok (.lload_n 2, 1) := by decide +kernel
theorem dX12_plainPlace_39 : decode cX12_plainPlace 39 = .ok (.lstore 8, 2) := by decide +kernel
theorem dX12_plainPlace_41 : decode cX12_plainPlace 41 = .ok (.aload_n 0, 1) := by decide +kernel
theorem dX12_plainPlace_42 : decode cX12_plainPlace 42 = .ok (.getfield 23, 3) := by decide +kernel
theorem dX12_plainPlace_45 : decode cX12_plainPlace 45 = .ok (.iload_n 1, 1) := by decide +kernel
theorem dX12_plainPlace_46 : decode cX12_plainPlace 46 = .ok (.iaload, 1) := by decide +kernel
theorem dX12_plainPlace_47 : decode cX12_plainPlace 47 = .ok (.istore 10, 2) := by decide +kernel
theorem dX12_plainPlace_49 : decode cX12_plainPlace 49 = .ok (.iload 10, 2) := by decide +kernel
theorem dX12_plainPlace_51 : decode cX12_plainPlace 51 = .ok (.ifCond .lt 138, 3) := by decide +kernel
theorem dX12_plainPlace_54 : decode cX12_plainPlace 54 = .ok (.aload_n 0, 1) := by decide +kernel
theorem dX12_plainPlace_55 : decode cX12_plainPlace 55 = .ok (.iload 4, 2) := by decide +kernel
theorem dX12_plainPlace_57 : decode cX12_plainPlace 57 = .ok (.iload 10, 2) := by decide +kernel
theorem dX12_plainPlace_59 : decode cX12_plainPlace 59 = .ok (.invokevirtual 222, 3) := by decide +kernel
theorem dX12_plainPlace_62 : decode cX12_plainPlace 62 = .ok (.lstore 11, 2) := by decide +kernel
theorem dX12_plainPlace_64 : decode cX12_plainPlace 64 = .ok (.lload 8, 2) := by decide +kernel
theorem dX12_plainPlace_66 : decode cX12_plainPlace 66 = .ok (.lload 11, 2) := by decide +kernel
theorem dX12_plainPlace_68 : decode cX12_plainPlace 68 = .ok (.lcmp, 1) := by decide +kernel
theorem dX12_plainPlace_69 : decode cX12_plainPlace 69 = .ok (.ifCond .lt 114, 3) := by decide +kernel
theorem dX12_plainPlace_72 : decode cX12_plainPlace 72 = .ok (.aload_n 0, 1) := by decide +kernel
theorem dX12_plainPlace_73 : decode cX12_plainPlace 73 = .ok (.dup, 1) := by decide +kernel
theorem dX12_plainPlace_74 : decode cX12_plainPlace 74 = .ok (.getfield 259, 3) := by decide +kernel
theorem dX12_plainPlace_77 : decode cX12_plainPlace 77 = .ok (.aload_n 0, 1) := by decide +kernel
theorem dX12_plainPlace_78 : decode cX12_plainPlace 78 = .ok (.aload_n 0, 1) := by decide +kernel
theorem dX12_plainPlace_79 : decode cX12_plainPlace 79 = .ok (.getfield 63, 3) := by decide +kernel
theorem dX12_plainPlace_82 : decode cX12_plainPlace 82 = .ok (.iload 10, 2) := by decide +kernel
theorem dX12_plainPlace_84 : decode cX12_plainPlace 84 = .ok (.laload, 1) := by decide +kernel
theorem dX12_plainPlace_85 : decode cX12_plainPlace 85 = .ok (.aload_n 0, 1) := by decide +kernel
theorem dX12_plainPlace_86 : decode cX12_plainPlace 86 = .ok (.getfield 66, 3) := by decide +kernel
theorem dX12_plainPlace_89 : decode cX12_plainPlace 89 = .ok (.iload 10, 2) := by decide +kernel
theorem dX12_plainPlace_91 : decode cX12_plainPlace 91 = .ok (.laload, 1) := by decide +kernel
theorem dX12_plainPlace_92 : decode cX12_plainPlace 92 = .ok (.iload 5, 2) := by decide +kernel
theorem dX12_plainPlace_94 : decode cX12_plainPlace 94 = .ok (.invokevirtual 248, 3) := by decide +kernel
theorem dX12_plainPlace_97 : decode cX12_plainPlace 97 = .ok (.ladd, 1) := by decide +kernel
theorem dX12_plainPlace_98 : decode cX12_plainPlace 98 = .ok (.putfield 259, 3) := by decide +kernel
theorem dX12_plainPlace_101 : decode cX12_plainPlace 101 = .ok (.aload_n 0, 1) := by decide +kernel
theorem dX12_plainPlace_102 : decode cX12_plainPlace 102 = .ok (.dup, 1) := by decide +kernel
theorem dX12_plainPlace_103 : decode cX12_plainPlace 103 = .ok (.getfield 262, 3) := by decide +kernel
theorem dX12_plainPlace_106 : decode cX12_plainPlace 106 = .ok (.aload_n 0, 1) := by decide +kernel
theorem dX12_plainPlace_107 : decode cX12_plainPlace 107 = .ok (.aload_n 0, 1) := by decide +kernel
theorem dX12_plainPlace_108 : decode cX12_plainPlace 108 = .ok (.getfield 63, 3) := by decide +kernel
theorem dX12_plainPlace_111 : decode cX12_plainPlace 111 = .ok (.iload 10, 2) := by decide +kernel
theorem dX12_plainPlace_113 : decode cX12_plainPlace 113 = .ok (.laload, 1) := by decide +kernel
theorem dX12_plainPlace_114 : decode cX12_plainPlace 114 = .ok (.aload_n 0, 1) := by decide +kernel
theorem dX12_plainPlace_115 : decode cX12_plainPlace 115 = .ok (.getfield 66, 3) := by decide +kernel
theorem dX12_plainPlace_118 : decode cX12_plainPlace 118 = .ok (.iload 10, 2) := by decide +kernel
theorem dX12_plainPlace_120 : decode cX12_plainPlace 120 = .ok (.laload, 1) := by decide +kernel
theorem dX12_plainPlace_121 : decode cX12_plainPlace 121 = .ok (.iload 5, 2) := by decide +kernel
theorem dX12_plainPlace_123 : decode cX12_plainPlace 123 = .ok (.invokevirtual 252, 3) := by decide +kernel
theorem dX12_plainPlace_126 : decode cX12_plainPlace 126 = .ok (.ladd, 1) := by decide +kernel
theorem dX12_plainPlace_127 : decode cX12_plainPlace 127 = .ok (.putfield 262, 3) := by decide +kernel
theorem dX12_plainPlace_130 : decode cX12_plainPlace 130 = .ok (.lload 6, 2) := by decide +kernel
theorem dX12_plainPlace_132 : decode cX12_plainPlace 132 = .ok (.lload 11, 2) := by decide +kernel
theorem dX12_plainPlace_134 : decode cX12_plainPlace 134 = .ok (.ladd, 1) := by decide +kernel
theorem dX12_plainPlace_135 : decode cX12_plainPlace 135 = .ok (.lstore 6, 2) := by decide +kernel
theorem dX12_plainPlace_137 : decode cX12_plainPlace 137 = .ok (.lload 8, 2) := by decide +kernel
theorem dX12_plainPlace_139 : decode cX12_plainPlace 139 = .ok (.lload 11, 2) := by decide +kernel
theorem dX12_plainPlace_141 : decode cX12_plainPlace 141 = .ok (.lsub, 1) := by decide +kernel
theorem dX12_plainPlace_142 : decode cX12_plainPlace 142 = .ok (.lstore 8, 2) := by decide +kernel
theorem dX12_plainPlace_144 : decode cX12_plainPlace 144 = .ok (.lload 8, 2) := by decide +kernel
theorem dX12_plainPlace_146 : decode cX12_plainPlace 146 = .ok (.lconst 0, 1) := by decide +kernel
theorem dX12_plainPlace_147 : decode cX12_plainPlace 147 = .ok (.lcmp, 1) := by decide +kernel
theorem dX12_plainPlace_148 : decode cX12_plainPlace 148 = .ok (.ifCond .le (-84), 3) := by decide +kernel
theorem dX12_plainPlace_151 : decode cX12_plainPlace 151 = .ok (.iload 5, 2) := by decide +kernel
theorem dX12_plainPlace_153 : decode cX12_plainPlace 153 = .ok (.aload_n 0, 1) := by decide +kernel
theorem dX12_plainPlace_154 : decode cX12_plainPlace 154 = .ok (.getfield 75, 3) := by decide +kernel
theorem dX12_plainPlace_157 : decode cX12_plainPlace 157 = .ok (.iload 10, 2) := by decide +kernel
theorem dX12_plainPlace_159 : decode cX12_plainPlace 159 = .ok (.iaload, 1) := by decide +kernel
theorem dX12_plainPlace_160 : decode cX12_plainPlace 160 = .ok (.aload_n 0, 1) := by decide +kernel
theorem dX12_plainPlace_161 : decode cX12_plainPlace 161 = .ok (.iload_n 1, 1) := by decide +kernel
theorem dX12_plainPlace_162 : decode cX12_plainPlace 162 = .ok (.lload 6, 2) := by decide +kernel
theorem dX12_plainPlace_164 : decode cX12_plainPlace 164 = .ok (.invokevirtual 236, 3) := by decide +kernel
theorem dX12_plainPlace_167 : decode cX12_plainPlace 167 = .ok (.iconst 1, 1) := by decide +kernel
theorem dX12_plainPlace_168 : decode cX12_plainPlace 168 = .ok (.if_icmp .ne 7, 3) := by decide +kernel
theorem dX12_plainPlace_171 : decode cX12_plainPlace 171 = .ok (.iconst 1, 1) := by decide +kernel
theorem dX12_plainPlace_172 : decode cX12_plainPlace 172 = .ok (.goto 4, 3) := by decide +kernel
theorem dX12_plainPlace_175 : decode cX12_plainPlace 175 = .ok (.iconst (-1), 1) := by decide +kernel
theorem dX12_plainPlace_176 : decode cX12_plainPlace 176 = .ok (.iadd, 1) := by decide +kernel
theorem dX12_plainPlace_177 : decode cX12_plainPlace 177 = .ok (.iadd, 1) := by decide +kernel
theorem dX12_plainPlace_178 : decode cX12_plainPlace 178 = .ok (.istore 5, 2) := by decide +kernel
theorem dX12_plainPlace_180 : decode cX12_plainPlace 180 = .ok (.goto (-116), 3) := by decide +kernel
theorem dX12_plainPlace_183 : decode cX12_plainPlace 183 = .ok (.iinc 10 (-1), 3) := by decide +kernel
theorem dX12_plainPlace_186 : decode cX12_plainPlace 186 = .ok (.goto (-137), 3) := by decide +kernel
theorem dX12_plainPlace_189 : decode cX12_plainPlace 189 = .ok (.return_, 1) := by decide +kernel
theorem dX12_placeOf_0 : decode cX12_placeOf 0 = .ok (.aload_n 0, 1) := by decide +kernel
theorem dX12_placeOf_1 : decode cX12_placeOf 1 = .ok (.getfield 17, 3) := by decide +kernel
theorem dX12_placeOf_4 : decode cX12_placeOf 4 = .ok (.iload_n 1, 1) := by decide +kernel
theorem dX12_placeOf_5 : decode cX12_placeOf 5 = .ok (.iaload, 1) := by decide +kernel
theorem dX12_placeOf_6 : decode cX12_placeOf 6 = .ok (.istore 4, 2) := by decide +kernel
theorem dX12_placeOf_8 : decode cX12_placeOf 8 = .ok (.iload 4, 2) := by decide +kernel
theorem dX12_placeOf_10 : decode cX12_placeOf 10 = .ok (.bipush 6, 2) := by decide +kernel
theorem dX12_placeOf_12 : decode cX12_placeOf 12 = .ok (.if_icmp .ne 98, 3) := by decide +kernel
theorem dX12_placeOf_15 : decode cX12_placeOf 15 = .ok (.aload_n 0, 1) := by decide +kernel
theorem dX12_placeOf_16 : decode cX12_placeOf 16 = .ok (.lconst 0, 1) := by decide +kernel
theorem dX12_placeOf_17 : decode cX12_placeOf 17 = .ok (.putfield 259, 3) := by decide +kernel
theorem dX12_placeOf_20 : decode cX12_placeOf 20 = .ok (.aload_n 0, 1) := by decide +kernel
theorem dX12_placeOf_21 : decode cX12_placeOf 21 = .ok (.lconst 0, 1) := by decide +kernel
theorem dX12_placeOf_22 : decode cX12_placeOf 22 = .ok (.putfield 262, 3) := by decide +kernel
theorem dX12_placeOf_25 : decode cX12_placeOf 25 = .ok (.iconst 0, 1) := by decide +kernel
theorem dX12_placeOf_26 : decode cX12_placeOf 26 = .ok (.istore 5, 2) := by decide +kernel
theorem dX12_placeOf_28 : decode cX12_placeOf 28 = .ok (.lconst 1, 1) := by decide +kernel
theorem dX12_placeOf_29 : decode cX12_placeOf 29 = .ok (.lstore 6, 2) := by decide +kernel
theorem dX12_placeOf_31 : decode cX12_placeOf 31 = .ok (.lload 6, 2) := by decide +kernel
theorem dX12_placeOf_33 : decode cX12_placeOf 33 = .ok (.lload_n 2, 1) := by decide +kernel
theorem dX12_placeOf_34 : decode cX12_placeOf 34 = .ok (.lcmp, 1) := by decide +kernel
theorem dX12_placeOf_35 : decode cX12_placeOf 35 = .ok (.ifCond .gt 74, 3) := by decide +kernel
theorem dX12_placeOf_38 : decode cX12_placeOf 38 = .ok (.aload_n 0, 1) := by decide +kernel
theorem dX12_placeOf_39 : decode cX12_placeOf 39 = .ok (.dup, 1) := by decide +kernel
theorem dX12_placeOf_40 : decode cX12_placeOf 40 = .ok (.getfield 259, 3) := by decide +kernel
theorem dX12_placeOf_43 : decode cX12_placeOf 43 = .ok (.aload_n 0, 1) := by decide +kernel
theorem dX12_placeOf_44 : decode cX12_placeOf 44 = .ok (.lconst 1, 1) := by decide +kernel
theorem dX12_placeOf_45 : decode cX12_placeOf 45 = .ok (.lconst 0, 1) := by decide +kernel
theorem dX12_placeOf_46 : decode cX12_placeOf 46 = .ok (.iload 5, 2) := by decide +kernel
theorem dX12_placeOf_48 : decode cX12_placeOf 48 = .ok (.invokevirtual 248, 3) := by decide +kernel
theorem dX12_placeOf_51 : decode cX12_placeOf 51 = .ok (.ladd, 1) := by decide +kernel
theorem dX12_placeOf_52 : decode cX12_placeOf 52 = .ok (.putfield 259, 3) := by decide +kernel
theorem dX12_placeOf_55 : decode cX12_placeOf 55 = .ok (.aload_n 0, 1) := by decide +kernel
theorem dX12_placeOf_56 : decode cX12_placeOf 56 = .ok (.dup, 1) := by decide +kernel
theorem dX12_placeOf_57 : decode cX12_placeOf 57 = .ok (.getfield 262, 3) := by decide +kernel
theorem dX12_placeOf_60 : decode cX12_placeOf 60 = .ok (.aload_n 0, 1) := by decide +kernel
theorem dX12_placeOf_61 : decode cX12_placeOf 61 = .ok (.lconst 1, 1) := by decide +kernel
theorem dX12_placeOf_62 : decode cX12_placeOf 62 = .ok (.lconst 0, 1) := by decide +kernel
theorem dX12_placeOf_63 : decode cX12_placeOf 63 = .ok (.iload 5, 2) := by decide +kernel
theorem dX12_placeOf_65 : decode cX12_placeOf 65 = .ok (.invokevirtual 252, 3) := by decide +kernel
theorem dX12_placeOf_68 : decode cX12_placeOf 68 = .ok (.ladd, 1) := by decide +kernel
theorem dX12_placeOf_69 : decode cX12_placeOf 69 = .ok (.putfield 262, 3) := by decide +kernel
theorem dX12_placeOf_72 : decode cX12_placeOf 72 = .ok (.iload 5, 2) := by decide +kernel
theorem dX12_placeOf_74 : decode cX12_placeOf 74 = .ok (.lload 6, 2) := by decide +kernel
theorem dX12_placeOf_76 : decode cX12_placeOf 76 = .ok (.lload_n 2, 1) := by decide +kernel
theorem dX12_placeOf_77 : decode cX12_placeOf 77 = .ok (.lcmp, 1) := by decide +kernel
theorem dX12_placeOf_78 : decode cX12_placeOf 78 = .ok (.ifCond .ge 18, 3) := by decide +kernel
theorem dX12_placeOf_81 : decode cX12_placeOf 81 = .ok (.aload_n 0, 1) := by decide +kernel
theorem dX12_placeOf_82 : decode cX12_placeOf 82 = .ok (.iload_n 1, 1) := by decide +kernel
theorem dX12_placeOf_83 : decode cX12_placeOf 83 = .ok (.lload 6, 2) := by decide +kernel
theorem dX12_placeOf_85 : decode cX12_placeOf 85 = .ok (.invokevirtual 152, 3) := by decide +kernel
theorem dX12_placeOf_88 : decode cX12_placeOf 88 = .ok (.iconst 1, 1) := by decide +kernel
theorem dX12_placeOf_89 : decode cX12_placeOf 89 = .ok (.if_icmp .ne 7, 3) := by decide +kernel
theorem dX12_placeOf_92 : decode cX12_placeOf 92 = .ok (.iconst 1, 1) := by decide +kernel
theorem dX12_placeOf_93 : decode cX12_placeOf 93 = .ok (.goto 4, 3) := by decide +kernel
theorem dX12_placeOf_96 : decode cX12_placeOf 96 = .ok (.iconst (-1), 1) := by decide +kernel
theorem dX12_placeOf_97 : decode cX12_placeOf 97 = .ok (.iadd, 1) := by decide +kernel
theorem dX12_placeOf_98 : decode cX12_placeOf 98 = .ok (.istore 5, 2) := by decide +kernel
theorem dX12_placeOf_100 : decode cX12_placeOf 100 = .ok (.lload 6, 2) := by decide +kernel
theorem dX12_placeOf_102 : decode cX12_placeOf 102 = .ok (.lconst 1, 1) := by decide +kernel
theorem dX12_placeOf_103 : decode cX12_placeOf 103 = .ok (.ladd, 1) := by decide +kernel
theorem dX12_placeOf_104 : decode cX12_placeOf 104 = .ok (.lstore 6, 2) := by decide +kernel
theorem dX12_placeOf_106 : decode cX12_placeOf 106 = .ok (.goto (-75), 3) := by decide +kernel
theorem dX12_placeOf_109 : decode cX12_placeOf 109 = .ok (.return_, 1) := by decide +kernel
theorem dX12_placeOf_110 : decode cX12_placeOf 110 = .ok (.iload 4, 2) := by decide +kernel
theorem dX12_placeOf_112 : decode cX12_placeOf 112 = .ok (.iconst 3, 1) := by decide +kernel
theorem dX12_placeOf_113 : decode cX12_placeOf 113 = .ok (.if_icmp .eq 31, 3) := by decide +kernel
theorem dX12_placeOf_116 : decode cX12_placeOf 116 = .ok (.iload 4, 2) := by decide +kernel
theorem dX12_placeOf_118 : decode cX12_placeOf 118 = .ok (.iconst 4, 1) := by decide +kernel
theorem dX12_placeOf_119 : decode cX12_placeOf 119 = .ok (.if_icmp .eq 25, 3) := by decide +kernel
theorem dX12_placeOf_122 : decode cX12_placeOf 122 = .ok (.aload_n 0, 1) := by decide +kernel
theorem dX12_placeOf_123 : decode cX12_placeOf 123 = .ok (.iload_n 1, 1) := by decide +kernel
theorem dX12_placeOf_124 : decode cX12_placeOf 124 = .ok (.lload_n 2, 1) := by decide +kernel
theorem dX12_placeOf_125 : decode cX12_placeOf 125 = .ok (.invokevirtual 265, 3) := by decide +kernel
theorem dX12_placeOf_128 : decode cX12_placeOf 128 = .ok (.iload 4, 2) := by decide +kernel
theorem dX12_placeOf_130 : decode cX12_placeOf 130 = .ok (.iconst 5, 1) := by decide +kernel
theorem dX12_placeOf_131 : decode cX12_placeOf 131 = .ok (.if_icmp .ne 12, 3) := by decide +kernel
theorem dX12_placeOf_134 : decode cX12_placeOf 134 = .ok (.aload_n 0, 1) := by decide +kernel
theorem dX12_placeOf_135 : decode cX12_placeOf 135 = .ok (.aload_n 0, 1) := by decide +kernel
theorem dX12_placeOf_136 : decode cX12_placeOf 136 = .ok (.getfield 262, 3) := by decide +kernel
theorem dX12_placeOf_139 : decode cX12_placeOf 139 = .ok (.lneg, 1) := by decide +kernel
theorem dX12_placeOf_140 : decode cX12_placeOf 140 = .ok (.putfield 262, 3) := by decide +kernel
theorem dX12_placeOf_143 : decode cX12_placeOf 143 = .ok (.return_, 1) := by decide +kernel
theorem dX12_placeOf_144 : decode cX12_placeOf 144 = .ok (.aload_n 0, 1) := by decide +kernel
theorem dX12_placeOf_145 : decode cX12_placeOf 145 = .ok (.iload_n 1, 1) := by decide +kernel
theorem dX12_placeOf_146 : decode cX12_placeOf 146 = .ok (.invokevirtual 149, 3) := by decide +kernel
theorem dX12_placeOf_149 : decode cX12_placeOf 149 = .ok (.lstore 5, 2) := by decide +kernel
theorem dX12_placeOf_151 : decode cX12_placeOf 151 = .ok (.aload_n 0, 1) := by decide +kernel
theorem dX12_placeOf_152 : decode cX12_placeOf 152 = .ok (.iload_n 1, 1) := by decide +kernel
theorem dX12_placeOf_153 : decode cX12_placeOf 153 = .ok (.invokevirtual 143, 3) := by decide +kernel
theorem dX12_placeOf_156 : decode cX12_placeOf 156 = .ok (.lconst 1, 1) := by decide +kernel
theorem dX12_placeOf_157 : decode cX12_placeOf 157 = .ok (.ladd, 1) := by decide +kernel
theorem dX12_placeOf_158 : decode cX12_placeOf 158 = .ok (.lload 5, 2) := by decide +kernel
theorem dX12_placeOf_160 : decode cX12_placeOf 160 = .ok (.ladd, 1) := by decide +kernel
theorem dX12_placeOf_161 : decode cX12_placeOf 161 = .ok (.lstore 7, 2) := by decide +kernel
theorem dX12_placeOf_163 : decode cX12_placeOf 163 = .ok (.iload 4, 2) := by decide +kernel
theorem dX12_placeOf_165 : decode cX12_placeOf 165 = .ok (.iconst 3, 1) := by decide +kernel
theorem dX12_placeOf_166 : decode cX12_placeOf 166 = .ok (.if_icmp .ne 8, 3) := by decide +kernel
theorem dX12_placeOf_169 : decode cX12_placeOf 169 = .ok (.lload 5, 2) := by decide +kernel
theorem dX12_placeOf_171 : decode cX12_placeOf 171 = .ok (.goto 5, 3) := by decide +kernel
theorem dX12_placeOf_174 : decode cX12_placeOf 174 = .ok (.lload 7, 2) := by decide +kernel
theorem dX12_placeOf_176 : decode cX12_placeOf 176 = .ok (.lstore 9, 2) := by decide +kernel
theorem dX12_placeOf_178 : decode cX12_placeOf 178 = .ok (.iload 4, 2) := by decide +kernel
theorem dX12_placeOf_180 : decode cX12_placeOf 180 = .ok (.iconst 3, 1) := by decide +kernel
theorem dX12_placeOf_181 : decode cX12_placeOf 181 = .ok (.if_icmp .ne 10, 3) := by decide +kernel
theorem dX12_placeOf_184 : decode cX12_placeOf 184 = .ok (.lload 5, 2) := by decide +kernel
theorem dX12_placeOf_186 : decode cX12_placeOf 186 = .ok (.lload_n 2, 1) := by decide +kernel
theorem dX12_placeOf_187 : decode cX12_placeOf 187 = .ok (.ladd, 1) := by decide +kernel
theorem dX12_placeOf_188 : decode cX12_placeOf 188 = .ok (.goto 7, 3) := by decide +kernel
theorem dX12_placeOf_191 : decode cX12_placeOf 191 = .ok (.lload 7, 2) := by decide +kernel
theorem dX12_placeOf_193 : decode cX12_placeOf 193 = .ok (.lload_n 2, 1) := by decide +kernel
theorem dX12_placeOf_194 : decode cX12_placeOf 194 = .ok (.lsub, 1) := by decide +kernel
theorem dX12_placeOf_195 : decode cX12_placeOf 195 = .ok (.lstore 11, 2) := by decide +kernel
theorem dX12_placeOf_197 : decode cX12_placeOf 197 = .ok (.aload_n 0, 1) := by decide +kernel
theorem dX12_placeOf_198 : decode cX12_placeOf 198 = .ok (.iload_n 1, 1) := by decide +kernel
theorem dX12_placeOf_199 : decode cX12_placeOf 199 = .ok (.lload 9, 2) := by decide +kernel
theorem dX12_placeOf_201 : decode cX12_placeOf 201 = .ok (.invokevirtual 265, 3) := by decide +kernel
theorem dX12_placeOf_204 : decode cX12_placeOf 204 = .ok (.aload_n 0, 1) := by decide +kernel
theorem dX12_placeOf_205 : decode cX12_placeOf 205 = .ok (.getfield 259, 3) := by decide +kernel
theorem dX12_placeOf_208 : decode cX12_placeOf 208 = .ok (.lstore 13, 2) := by decide +kernel
theorem dX12_placeOf_210 : decode cX12_placeOf 210 = .ok (.aload_n 0, 1) := by decide +kernel
theorem dX12_placeOf_211 : decode cX12_placeOf 211 = .ok (.getfield 262, 3) := by decide +kernel
theorem dX12_placeOf_214 : decode cX12_placeOf 214 = .ok (.lstore 15, 2) := by decide +kernel
theorem dX12_placeOf_216 : decode cX12_placeOf 216 = .ok (.aload_n 0, 1) := by decide +kernel
theorem dX12_placeOf_217 : decode cX12_placeOf 217 = .ok (.iload_n 1, 1) := by decide +kernel
theorem dX12_placeOf_218 : decode cX12_placeOf 218 = .ok (.lload 11, 2) := by decide +kernel
theorem dX12_placeOf_220 : decode cX12_placeOf 220 = .ok (.invokevirtual 265, 3) := by decide +kernel
theorem dX12_placeOf_223 : decode cX12_placeOf 223 = .ok (.aload_n 0, 1) := by decide +kernel
theorem dX12_placeOf_224 : decode cX12_placeOf 224 = .ok (.getfield 259, 3) := by decide +kernel
theorem dX12_placeOf_227 : decode cX12_placeOf 227 = .ok (.lload 13, 2) := by decide +kernel
theorem dX12_placeOf_229 : decode cX12_placeOf 229 = .ok (.lsub, 1) := by decide +kernel
theorem dX12_placeOf_230 : decode cX12_placeOf 230 = .ok (.lstore 13, 2) := by decide +kernel
theorem dX12_placeOf_232 : decode cX12_placeOf 232 = .ok (.aload_n 0, 1) := by decide +kernel
theorem dX12_placeOf_233 : decode cX12_placeOf 233 = .ok (.getfield 262, 3) := by decide +kernel
theorem dX12_placeOf_236 : decode cX12_placeOf 236 = .ok (.lload 15, 2) := by decide +kernel
theorem dX12_placeOf_238 : decode cX12_placeOf 238 = .ok (.lsub, 1) := by decide +kernel
theorem dX12_placeOf_239 : decode cX12_placeOf 239 = .ok (.lstore 15, 2) := by decide +kernel
theorem dX12_placeOf_241 : decode cX12_placeOf 241 = .ok (.iload 4, 2) := by decide +kernel
theorem dX12_placeOf_243 : decode cX12_placeOf 243 = .ok (.iconst 3, 1) := by decide +kernel
theorem dX12_placeOf_244 : decode cX12_placeOf 244 = .ok (.if_icmp .ne 14, 3) := by decide +kernel
theorem dX12_placeOf_247 : decode cX12_placeOf 247 = .ok (.aload_n 0, 1) := by decide +kernel
theorem dX12_placeOf_248 : decode cX12_placeOf 248 = .ok (.iload_n 1, 1) := by decide +kernel
theorem dX12_placeOf_249 : decode cX12_placeOf 249 = .ok (.lload 5, 2) := by decide +kernel
theorem dX12_placeOf_251 : decode cX12_placeOf 251 = .ok (.iconst 0, 1) := by decide +kernel
theorem dX12_placeOf_252 : decode cX12_placeOf 252 = .ok (.invokevirtual 241, 3) := by decide +kernel
theorem dX12_placeOf_255 : decode cX12_placeOf 255 = .ok (.goto 15, 3) := by decide +kernel
theorem dX12_placeOf_258 : decode cX12_placeOf 258 = .ok (.aload_n 0, 1) := by decide +kernel
theorem dX12_placeOf_259 : decode cX12_placeOf 259 = .ok (.iload_n 1, 1) := by decide +kernel
theorem dX12_placeOf_260 : decode cX12_placeOf 260 = .ok (.lload 7, 2) := by decide +kernel
theorem dX12_placeOf_262 : decode cX12_placeOf 262 = .ok (.lconst 1, 1) := by decide +kernel
theorem dX12_placeOf_263 : decode cX12_placeOf 263 = .ok (.lsub, 1) := by decide +kernel
theorem dX12_placeOf_264 : decode cX12_placeOf 264 = .ok (.iconst 0, 1) := by decide +kernel
theorem dX12_placeOf_265 : decode cX12_placeOf 265 = .ok (.invokevirtual 241, 3) := by decide +kernel
theorem dX12_placeOf_268 : decode cX12_placeOf 268 = .ok (.iconst 2, 1) := by decide +kernel
theorem dX12_placeOf_269 : decode cX12_placeOf 269 = .ok (.iadd, 1) := by decide +kernel
theorem dX12_placeOf_270 : decode cX12_placeOf 270 = .ok (.istore 17, 2) := by decide +kernel
theorem dX12_placeOf_272 : decode cX12_placeOf 272 = .ok (.aload_n 0, 1) := by decide +kernel
theorem dX12_placeOf_273 : decode cX12_placeOf 273 = .ok (.aload_n 0, 1) := by decide +kernel
theorem dX12_placeOf_274 : decode cX12_placeOf 274 = .ok (.lload 13, 2) := by decide +kernel
theorem dX12_placeOf_276 : decode cX12_placeOf 276 = .ok (.lload 15, 2) := by decide +kernel
theorem dX12_placeOf_278 : decode cX12_placeOf 278 = .ok (.iload 17, 2) := by decide +kernel
theorem dX12_placeOf_280 : decode cX12_placeOf 280 = .ok (.ineg, 1) := by decide +kernel
theorem dX12_placeOf_281 : decode cX12_placeOf 281 = .ok (.invokevirtual 248, 3) := by decide +kernel
theorem dX12_placeOf_284 : decode cX12_placeOf 284 = .ok (.putfield 259, 3) := by decide +kernel
theorem dX12_placeOf_287 : decode cX12_placeOf 287 = .ok (.aload_n 0, 1) := by decide +kernel
theorem dX12_placeOf_288 : decode cX12_placeOf 288 = .ok (.aload_n 0, 1) := by decide +kernel
theorem dX12_placeOf_289 : decode cX12_placeOf 289 = .ok (.lload 13, 2) := by decide +kernel
theorem dX12_placeOf_291 : decode cX12_placeOf 291 = .ok (.lload 15, 2) := by decide +kernel
theorem dX12_placeOf_293 : decode cX12_placeOf 293 = .ok (.iload 17, 2) := by decide +kernel
theorem dX12_placeOf_295 : decode cX12_placeOf 295 = .ok (.ineg, 1) := by decide +kernel
theorem dX12_placeOf_296 : decode cX12_placeOf 296 = .ok (.invokevirtual 252, 3) := by decide +kernel
theorem dX12_placeOf_299 : decode cX12_placeOf 299 = .ok (.putfield 262, 3) := by decide +kernel
theorem dX12_placeOf_302 : decode cX12_placeOf 302 = .ok (.return_, 1) := by decide +kernel
theorem dX12_place_0 : decode cX12_place 0 = .ok (.aload_n 0, 1) := by decide +kernel
theorem dX12_place_1 : decode cX12_place 1 = .ok (.iload_n 1, 1) := by decide +kernel
theorem dX12_place_2 : decode cX12_place 2 = .ok (.invokevirtual 140, 3) := by decide +kernel
theorem dX12_place_5 : decode cX12_place 5 = .ok (.ifCond .ne 14, 3) := by decide +kernel
theorem dX12_place_8 : decode cX12_place 8 = .ok (.ldc2_w 269, 3) := by decide +kernel
theorem dX12_place_11 : decode cX12_place 11 = .ok (.aload_n 0, 1) := by decide +kernel
theorem dX12_place_12 : decode cX12_place 12 = .ok (.iconst (-1), 1) := by decide +kernel
theorem dX12_place_13 : decode cX12_place 13 = .ok (.invokevirtual 136, 3) := by decide +kernel
theorem dX12_place_16 : decode cX12_place 16 = .ok (.i2l, 1) := by decide +kernel
theorem dX12_place_17 : decode cX12_place 17 = .ok (.ladd, 1) := by decide +kernel
theorem dX12_place_18 : decode cX12_place 18 = .ok (.lreturn, 1) := by decide +kernel
theorem dX12_place_19 : decode cX12_place 19 = .ok (.lload_n 2, 1) := by decide +kernel
theorem dX12_place_20 : decode cX12_place 20 = .ok (.lconst 0, 1) := by decide +kernel
theorem dX12_place_21 : decode cX12_place 21 = .ok (.lcmp, 1) := by decide +kernel
theorem dX12_place_22 : decode cX12_place 22 = .ok (.ifCond .lt 26, 3) := by decide +kernel
theorem dX12_place_25 : decode cX12_place 25 = .ok (.lload_n 2, 1) := by decide +kernel
theorem dX12_place_26 : decode cX12_place 26 = .ok (.aload_n 0, 1) := by decide +kernel
theorem dX12_place_27 : decode cX12_place 27 = .ok (.iload_n 1, 1) := by decide +kernel
theorem dX12_place_28 : decode cX12_place 28 = .ok (.invokevirtual 143, 3) := by decide +kernel
theorem dX12_place_31 : decode cX12_place 31 = .ok (.lconst 1, 1) := by decide +kernel
theorem dX12_place_32 : decode cX12_place 32 = .ok (.ladd, 1) := by decide +kernel
theorem dX12_place_33 : decode cX12_place 33 = .ok (.lcmp, 1) := by decide +kernel
theorem dX12_place_34 : decode cX12_place 34 = .ok (.ifCond .gt 14, 3) := by decide +kernel
theorem dX12_place_37 : decode cX12_place 37 = .ok (.iload 4, 2) := by decide +kernel
theorem dX12_place_39 : decode cX12_place 39 = .ok (.ifCond .lt 9, 3) := by decide +kernel
theorem dX12_place_42 : decode cX12_place 42 = .ok (.iload 4, 2) := by decide +kernel
theorem dX12_place_44 : decode cX12_place 44 = .ok (.iconst 1, 1) := by decide +kernel
theorem dX12_place_45 : decode cX12_place 45 = .ok (.if_icmp .le 15, 3) := by decide +kernel
theorem dX12_place_48 : decode cX12_place 48 = .ok (.ldc2_w 269, 3) := by decide +kernel
theorem dX12_place_51 : decode cX12_place 51 = .ok (.aload_n 0, 1) := by decide +kernel
theorem dX12_place_52 : decode cX12_place 52 = .ok (.bipush (-5), 2) := by decide +kernel
theorem dX12_place_54 : decode cX12_place 54 = .ok (.invokevirtual 136, 3) := by decide +kernel
theorem dX12_place_57 : decode cX12_place 57 = .ok (.i2l, 1) := by decide +kernel
theorem dX12_place_58 : decode cX12_place 58 = .ok (.ladd, 1) := by decide +kernel
theorem dX12_place_59 : decode cX12_place 59 = .ok (.lreturn, 1) := by decide +kernel
theorem dX12_place_60 : decode cX12_place 60 = .ok (.aload_n 0, 1) := by decide +kernel
theorem dX12_place_61 : decode cX12_place 61 = .ok (.getfield 17, 3) := by decide +kernel
theorem dX12_place_64 : decode cX12_place 64 = .ok (.iload_n 1, 1) := by decide +kernel
theorem dX12_place_65 : decode cX12_place 65 = .ok (.iaload, 1) := by decide +kernel
theorem dX12_place_66 : decode cX12_place 66 = .ok (.bipush 6, 2) := by decide +kernel
theorem dX12_place_68 : decode cX12_place 68 = .ok (.if_icmp .ne 23, 3) := by decide +kernel
theorem dX12_place_71 : decode cX12_place 71 = .ok (.lload_n 2, 1) := by decide +kernel
theorem dX12_place_72 : decode cX12_place 72 = .ok (.ldc2_w 271, 3) := by decide +kernel
theorem dX12_place_75 : decode cX12_place 75 = .ok (.lcmp, 1) := by decide +kernel
theorem dX12_place_76 : decode cX12_place 76 = .ok (.ifCond .le 15, 3) := by decide +kernel
theorem dX12_place_79 : decode cX12_place 79 = .ok (.ldc2_w 269, 3) := by decide +kernel
theorem dX12_place_82 : decode cX12_place 82 = .ok (.aload_n 0, 1) := by decide +kernel
theorem dX12_place_83 : decode cX12_place 83 = .ok (.bipush (-7), 2) := by decide +kernel
theorem dX12_place_85 : decode cX12_place 85 = .ok (.invokevirtual 136, 3) := by decide +kernel
theorem dX12_place_88 : decode cX12_place 88 = .ok (.i2l, 1) := by decide +kernel
theorem dX12_place_89 : decode cX12_place 89 = .ok (.ladd, 1) := by decide +kernel
theorem dX12_place_90 : decode cX12_place 90 = .ok (.lreturn, 1) := by decide +kernel
theorem dX12_place_91 : decode cX12_place 91 = .ok (.aload_n 0, 1) := by decide +kernel
theorem dX12_place_92 : decode cX12_place 92 = .ok (.iload_n 1, 1) := by decide +kernel
theorem dX12_place_93 : decode cX12_place 93 = .ok (.lload_n 2, 1) := by decide +kernel
theorem dX12_place_94 : decode cX12_place 94 = .ok (.invokevirtual 273, 3) := by decide +kernel
theorem dX12_place_97 : decode cX12_place 97 = .ok (.iload 4, 2) := by decide +kernel
theorem dX12_place_99 : decode cX12_place 99 = .ok (.ifCond .ne 10, 3) := by decide +kernel
theorem dX12_place_102 : decode cX12_place 102 = .ok (.aload_n 0, 1) := by decide +kernel
theorem dX12_place_103 : decode cX12_place 103 = .ok (.getfield 259, 3) := by decide +kernel
theorem dX12_place_106 : decode cX12_place 106 = .ok (.goto 7, 3) := by decide +kernel
theorem dX12_place_109 : decode cX12_place 109 = .ok (.aload_n 0, 1) := by decide +kernel
theorem dX12_place_110 : decode cX12_place 110 = .ok (.getfield 262, 3) := by decide +kernel
theorem dX12_place_113 : decode cX12_place 113 = .ok (.lreturn, 1) := by decide +kernel
theorem dX12_walks_0 : decode cX12_walks 0 = .ok (.aload_n 0, 1) := by decide +kernel
theorem dX12_walks_1 : decode cX12_walks 1 = .ok (.iload_n 1, 1) := by decide +kernel
theorem dX12_walks_2 : decode cX12_walks 2 = .ok (.invokevirtual 140, 3) := by decide +kernel
theorem dX12_walks_5 : decode cX12_walks 5 = .ok (.ifCond .ne 5, 3) := by decide +kernel
theorem dX12_walks_8 : decode cX12_walks 8 = .ok (.iconst (-1), 1) := by decide +kernel
theorem dX12_walks_9 : decode cX12_walks 9 = .ok (.ireturn, 1) := by decide +kernel
theorem dX12_walks_10 : decode cX12_walks 10 = .ok (.iload_n 2, 1) := by decide +kernel
theorem dX12_walks_11 : decode cX12_walks 11 = .ok (.i2l, 1) := by decide +kernel
theorem dX12_walks_12 : decode cX12_walks 12 = .ok (.aload_n 0, 1) := by decide +kernel
theorem dX12_walks_13 : decode cX12_walks 13 = .ok (.iload_n 1, 1) := by decide +kernel
theorem dX12_walks_14 : decode cX12_walks 14 = .ok (.invokevirtual 143, 3) := by decide +kernel
theorem dX12_walks_17 : decode cX12_walks 17 = .ok (.lconst 1, 1) := by decide +kernel
theorem dX12_walks_18 : decode cX12_walks 18 = .ok (.ladd, 1) := by decide +kernel
theorem dX12_walks_19 : decode cX12_walks 19 = .ok (.lcmp, 1) := by decide +kernel
theorem dX12_walks_20 : decode cX12_walks 20 = .ok (.ifCond .le 6, 3) := by decide +kernel
theorem dX12_walks_23 : decode cX12_walks 23 = .ok (.bipush (-5), 2) := by decide +kernel
theorem dX12_walks_25 : decode cX12_walks 25 = .ok (.ireturn, 1) := by decide +kernel
theorem dX12_walks_26 : decode cX12_walks 26 = .ok (.iload_n 2, 1) := by decide +kernel
theorem dX12_walks_27 : decode cX12_walks 27 = .ok (.ifCond .lt 10, 3) := by decide +kernel
theorem dX12_walks_30 : decode cX12_walks 30 = .ok (.iload_n 2, 1) := by decide +kernel
theorem dX12_walks_31 : decode cX12_walks 31 = .ok (.sipush 4000, 3) := by decide +kernel
theorem dX12_walks_34 : decode cX12_walks 34 = .ok (.if_icmp .le 8, 3) := by decide +kernel
theorem dX12_walks_37 : decode cX12_walks 37 = .ok (.bipush (-6), 2) := by decide +kernel
theorem dX12_walks_39 : decode cX12_walks 39 = .ok (.goto 4, 3) := by decide +kernel
theorem dX12_walks_42 : decode cX12_walks 42 = .ok (.iconst 0, 1) := by decide +kernel
theorem dX12_walks_43 : decode cX12_walks 43 = .ok (.ireturn, 1) := by decide +kernel
theorem dX12_walked_0 : decode cX12_walked 0 = .ok (.iload_n 3, 1) := by decide +kernel
theorem dX12_walked_1 : decode cX12_walked 1 = .ok (.istore 6, 2) := by decide +kernel
theorem dX12_walked_3 : decode cX12_walked 3 = .ok (.aload 4, 2) := by decide +kernel
theorem dX12_walked_5 : decode cX12_walked 5 = .ok (.iconst 0, 1) := by decide +kernel
theorem dX12_walked_6 : decode cX12_walked 6 = .ok (.iconst 0, 1) := by decide +kernel
theorem dX12_walked_7 : decode cX12_walked 7 = .ok (.iastore, 1) := by decide +kernel
theorem dX12_walked_8 : decode cX12_walked 8 = .ok (.aload 5, 2) := by decide +kernel
theorem dX12_walked_10 : decode cX12_walked 10 = .ok (.iconst 0, 1) := by decide +kernel
theorem dX12_walked_11 : decode cX12_walked 11 = .ok (.iconst 0, 1) := by decide +kernel
theorem dX12_walked_12 : decode cX12_walked 12 = .ok (.iastore, 1) := by decide +kernel
theorem dX12_walked_13 : decode cX12_walked 13 = .ok (.iconst 1, 1) := by decide +kernel
theorem dX12_walked_14 : decode cX12_walked 14 = .ok (.istore 7, 2) := by decide +kernel
theorem dX12_walked_16 : decode cX12_walked 16 = .ok (.iload 7, 2) := by decide +kernel
theorem dX12_walked_18 : decode cX12_walked 18 = .ok (.iload_n 2, 1) := by decide +kernel
theorem dX12_walked_19 : decode cX12_walked 19 = .ok (.if_icmp .gt 81, 3) := by decide +kernel
theorem dX12_walked_22 : decode cX12_walked 22 = .ok (.aload 4, 2) := by decide +kernel
theorem dX12_walked_24 : decode cX12_walked 24 = .ok (.iload 7, 2) := by decide +kernel
theorem dX12_walked_26 : decode cX12_walked 26 = .ok (.aload 4, 2) := by decide +kernel
theorem dX12_walked_28 : decode cX12_walked 28 = .ok (.iload 7, 2) := by decide +kernel
theorem dX12_walked_30 : decode cX12_walked 30 = .ok (.iconst 1, 1) := by decide +kernel
theorem dX12_walked_31 : decode cX12_walked 31 = .ok (.isub, 1) := by decide +kernel
theorem dX12_walked_32 : decode cX12_walked 32 = .ok (.iaload, 1) := by decide +kernel
theorem dX12_walked_33 : decode cX12_walked 33 = .ok (.aload_n 0, 1) := by decide +kernel
theorem dX12_walked_34 : decode cX12_walked 34 = .ok (.lconst 1, 1) := by decide +kernel
theorem dX12_walked_35 : decode cX12_walked 35 = .ok (.lconst 0, 1) := by decide +kernel
theorem dX12_walked_36 : decode cX12_walked 36 = .ok (.iload 6, 2) := by decide +kernel
theorem dX12_walked_38 : decode cX12_walked 38 = .ok (.invokevirtual 248, 3) := by decide +kernel
theorem dX12_walked_41 : decode cX12_walked 41 = .ok (.l2i, 1) := by decide +kernel
theorem dX12_walked_42 : decode cX12_walked 42 = .ok (.iadd, 1) := by decide +kernel
theorem dX12_walked_43 : decode cX12_walked 43 = .ok (.iastore, 1) := by decide +kernel
theorem dX12_walked_44 : decode cX12_walked 44 = .ok (.aload 5, 2) := by decide +kernel
theorem dX12_walked_46 : decode cX12_walked 46 = .ok (.iload 7, 2) := by decide +kernel
theorem dX12_walked_48 : decode cX12_walked 48 = .ok (.aload 5, 2) := by decide +kernel
theorem dX12_walked_50 : decode cX12_walked 50 = .ok (.iload 7, 2) := by decide +kernel
theorem dX12_walked_52 : decode cX12_walked 52 = .ok (.iconst 1, 1) := by decide +kernel
theorem dX12_walked_53 : decode cX12_walked 53 = .ok (.isub, 1) := by decide +kernel
theorem dX12_walked_54 : decode cX12_walked 54 = .ok (.iaload, 1) := by decide +kernel
theorem dX12_walked_55 : decode cX12_walked 55 = .ok (.aload_n 0, 1) := by decide +kernel
theorem dX12_walked_56 : decode cX12_walked 56 = .ok (.lconst 1, 1) := by decide +kernel
theorem dX12_walked_57 : decode cX12_walked 57 = .ok (.lconst 0, 1) := by decide +kernel
theorem dX12_walked_58 : decode cX12_walked 58 = .ok (.iload 6, 2) := by decide +kernel
theorem dX12_walked_60 : decode cX12_walked 60 = .ok (.invokevirtual 252, 3) := by decide +kernel
theorem dX12_walked_63 : decode cX12_walked 63 = .ok (.l2i, 1) := by decide +kernel
theorem dX12_walked_64 : decode cX12_walked 64 = .ok (.iadd, 1) := by decide +kernel
theorem dX12_walked_65 : decode cX12_walked 65 = .ok (.iastore, 1) := by decide +kernel
theorem dX12_walked_66 : decode cX12_walked 66 = .ok (.iload 7, 2) := by decide +kernel
theorem dX12_walked_68 : decode cX12_walked 68 = .ok (.iload_n 2, 1) := by decide +kernel
theorem dX12_walked_69 : decode cX12_walked 69 = .ok (.if_icmp .ge 25, 3) := by decide +kernel
theorem dX12_walked_72 : decode cX12_walked 72 = .ok (.iload 6, 2) := by decide +kernel
theorem dX12_walked_74 : decode cX12_walked 74 = .ok (.aload_n 0, 1) := by decide +kernel
theorem dX12_walked_75 : decode cX12_walked 75 = .ok (.iload_n 1, 1) := by decide +kernel
theorem dX12_walked_76 : decode cX12_walked 76 = .ok (.iload 7, 2) := by decide +kernel
theorem dX12_walked_78 : decode cX12_walked 78 = .ok (.i2l, 1) := by decide +kernel
theorem dX12_walked_79 : decode cX12_walked 79 = .ok (.invokevirtual 152, 3) := by decide +kernel
theorem dX12_walked_82 : decode cX12_walked 82 = .ok (.iconst 1, 1) := by decide +kernel
theorem dX12_walked_83 : decode cX12_walked 83 = .ok (.if_icmp .ne 7, 3) := by decide +kernel
theorem dX12_walked_86 : decode cX12_walked 86 = .ok (.iconst 1, 1) := by decide +kernel
theorem dX12_walked_87 : decode cX12_walked 87 = .ok (.goto 4, 3) := by decide +kernel
theorem dX12_walked_90 : decode cX12_walked 90 = .ok (.iconst (-1), 1) := by decide +kernel
theorem dX12_walked_91 : decode cX12_walked 91 = .ok (.iadd, 1) := by decide +kernel
theorem dX12_walked_92 : decode cX12_walked 92 = .ok (.istore 6, 2) := by decide +kernel
theorem dX12_walked_94 : decode cX12_walked 94 = .ok (.iinc 7 1, 3) := by decide +kernel
theorem dX12_walked_97 : decode cX12_walked 97 = .ok (.goto (-81), 3) := by decide +kernel
theorem dX12_walked_100 : decode cX12_walked 100 = .ok (.return_, 1) := by decide +kernel
theorem dX12_clears_0 : decode cX12_clears 0 = .ok (.iconst 0, 1) := by decide +kernel
theorem dX12_clears_1 : decode cX12_clears 1 = .ok (.istore_n 1, 1) := by decide +kernel
theorem dX12_clears_2 : decode cX12_clears 2 = .ok (.iload_n 1, 1) := by decide +kernel
theorem dX12_clears_3 : decode cX12_clears 3 = .ok (.sipush 16384, 3) := by decide +kernel
theorem dX12_clears_6 : decode cX12_clears 6 = .ok (.if_icmp .ge 23, 3) := by decide +kernel
theorem dX12_clears_9 : decode cX12_clears 9 = .ok (.aload_n 0, 1) := by decide +kernel
theorem dX12_clears_10 : decode cX12_clears 10 = .ok (.getfield 93, 3) := by decide +kernel
theorem dX12_clears_13 : decode cX12_clears 13 = .ok (.iload_n 1, 1) := by decide +kernel
theorem dX12_clears_14 : decode cX12_clears 14 = .ok (.iconst 0, 1) := by decide +kernel
theorem dX12_clears_15 : decode cX12_clears 15 = .ok (.iastore, 1) := by decide +kernel
theorem dX12_clears_16 : decode cX12_clears 16 = .ok (.aload_n 0, 1) := by decide +kernel
theorem dX12_clears_17 : decode cX12_clears 17 = .ok (.getfield 96, 3) := by decide +kernel
theorem dX12_clears_20 : decode cX12_clears 20 = .ok (.iload_n 1, 1) := by decide +kernel
theorem dX12_clears_21 : decode cX12_clears 21 = .ok (.iconst 0, 1) := by decide +kernel
theorem dX12_clears_22 : decode cX12_clears 22 = .ok (.iastore, 1) := by decide +kernel
theorem dX12_clears_23 : decode cX12_clears 23 = .ok (.iinc 1 1, 3) := by decide +kernel
theorem dX12_clears_26 : decode cX12_clears 26 = .ok (.goto (-24), 3) := by decide +kernel
theorem dX12_clears_29 : decode cX12_clears 29 = .ok (.aload_n 0, 1) := by decide +kernel
theorem dX12_clears_30 : decode cX12_clears 30 = .ok (.iconst 0, 1) := by decide +kernel
theorem dX12_clears_31 : decode cX12_clears 31 = .ok (.putfield 276, 3) := by decide +kernel
theorem dX12_clears_34 : decode cX12_clears 34 = .ok (.return_, 1) := by decide +kernel
theorem dX12_meets_0 : decode cX12_meets 0 = .ok (.iload_n 1, 1) := by decide +kernel
theorem dX12_meets_1 : decode cX12_meets 1 = .ok (.sipush 4001, 3) := by decide +kernel
theorem dX12_meets_4 : decode cX12_meets 4 = .ok (.iadd, 1) := by decide +kernel
theorem dX12_meets_5 : decode cX12_meets 5 = .ok (.sipush 8192, 3) := by decide +kernel
theorem dX12_meets_8 : decode cX12_meets 8 = .ok (.imul, 1) := by decide +kernel
theorem dX12_meets_9 : decode cX12_meets 9 = .ok (.iload_n 2, 1) := by decide +kernel
theorem dX12_meets_10 : decode cX12_meets 10 = .ok (.iadd, 1) := by decide +kernel
theorem dX12_meets_11 : decode cX12_meets 11 = .ok (.sipush 4001, 3) := by decide +kernel
theorem dX12_meets_14 : decode cX12_meets 14 = .ok (.iadd, 1) := by decide +kernel
theorem dX12_meets_15 : decode cX12_meets 15 = .ok (.iconst 2, 1) := by decide +kernel
theorem dX12_meets_16 : decode cX12_meets 16 = .ok (.imul, 1) := by decide +kernel
theorem dX12_meets_17 : decode cX12_meets 17 = .ok (.iload_n 3, 1) := by decide +kernel
theorem dX12_meets_18 : decode cX12_meets 18 = .ok (.iadd, 1) := by decide +kernel
theorem dX12_meets_19 : decode cX12_meets 19 = .ok (.iconst 1, 1) := by decide +kernel
theorem dX12_meets_20 : decode cX12_meets 20 = .ok (.iadd, 1) := by decide +kernel
theorem dX12_meets_21 : decode cX12_meets 21 = .ok (.istore 4, 2) := by decide +kernel
theorem dX12_meets_23 : decode cX12_meets 23 = .ok (.iload 4, 2) := by decide +kernel
theorem dX12_meets_25 : decode cX12_meets 25 = .ok (.ldc_w 279, 3) := by decide +kernel
theorem dX12_meets_28 : decode cX12_meets 28 = .ok (.imul, 1) := by decide +kernel
theorem dX12_meets_29 : decode cX12_meets 29 = .ok (.bipush 7, 2) := by decide +kernel
theorem dX12_meets_31 : decode cX12_meets 31 = .ok (.iushr, 1) := by decide +kernel
theorem dX12_meets_32 : decode cX12_meets 32 = .ok (.sipush 16383, 3) := by decide +kernel
theorem dX12_meets_35 : decode cX12_meets 35 = .ok (.iand, 1) := by decide +kernel
theorem dX12_meets_36 : decode cX12_meets 36 = .ok (.istore 5, 2) := by decide +kernel
theorem dX12_meets_38 : decode cX12_meets 38 = .ok (.aload_n 0, 1) := by decide +kernel
theorem dX12_meets_39 : decode cX12_meets 39 = .ok (.getfield 93, 3) := by decide +kernel
theorem dX12_meets_42 : decode cX12_meets 42 = .ok (.iload 5, 2) := by decide +kernel
theorem dX12_meets_44 : decode cX12_meets 44 = .ok (.iaload, 1) := by decide +kernel
theorem dX12_meets_45 : decode cX12_meets 45 = .ok (.ifCond .eq 28, 3) := by decide +kernel
theorem dX12_meets_48 : decode cX12_meets 48 = .ok (.aload_n 0, 1) := by decide +kernel
theorem dX12_meets_49 : decode cX12_meets 49 = .ok (.getfield 93, 3) := by decide +kernel
theorem dX12_meets_52 : decode cX12_meets 52 = .ok (.iload 5, 2) := by decide +kernel
theorem dX12_meets_54 : decode cX12_meets 54 = .ok (.iaload, 1) := by decide +kernel
theorem dX12_meets_55 : decode cX12_meets 55 = .ok (.iload 4, 2) := by decide +kernel
theorem dX12_meets_57 : decode cX12_meets 57 = .ok (.if_icmp .eq 16, 3) := by decide +kernel
theorem dX12_meets_60 : decode cX12_meets 60 = .ok (.iload 5, 2) := by decide +kernel
theorem dX12_meets_62 : decode cX12_meets 62 = .ok (.iconst 1, 1) := by decide +kernel
theorem dX12_meets_63 : decode cX12_meets 63 = .ok (.iadd, 1) := by decide +kernel
theorem dX12_meets_64 : decode cX12_meets 64 = .ok (.sipush 16383, 3) := by decide +kernel
theorem dX12_meets_67 : decode cX12_meets 67 = .ok (.iand, 1) := by decide +kernel
theorem dX12_meets_68 : decode cX12_meets 68 = .ok (.istore 5, 2) := by decide +kernel
theorem dX12_meets_70 : decode cX12_meets 70 = .ok (.goto (-32), 3) := by decide +kernel
theorem dX12_meets_73 : decode cX12_meets 73 = .ok (.aload_n 0, 1) := by decide +kernel
theorem dX12_meets_74 : decode cX12_meets 74 = .ok (.getfield 93, 3) := by decide +kernel
theorem dX12_meets_77 : decode cX12_meets 77 = .ok (.iload 5, 2) := by decide +kernel
theorem dX12_meets_79 : decode cX12_meets 79 = .ok (.iaload, 1) := by decide +kernel
theorem dX12_meets_80 : decode cX12_meets 80 = .ok (.ifCond .ne 13, 3) := by decide +kernel
theorem dX12_meets_83 : decode cX12_meets 83 = .ok (.aload_n 0, 1) := by decide +kernel
theorem dX12_meets_84 : decode cX12_meets 84 = .ok (.dup, 1) := by decide +kernel
theorem dX12_meets_85 : decode cX12_meets 85 = .ok (.getfield 276, 3) := by decide +kernel
theorem dX12_meets_88 : decode cX12_meets 88 = .ok (.iconst 1, 1) := by decide +kernel
theorem dX12_meets_89 : decode cX12_meets 89 = .ok (.iadd, 1) := by decide +kernel
theorem dX12_meets_90 : decode cX12_meets 90 = .ok (.putfield 276, 3) := by decide +kernel
theorem dX12_meets_93 : decode cX12_meets 93 = .ok (.aload_n 0, 1) := by decide +kernel
theorem dX12_meets_94 : decode cX12_meets 94 = .ok (.getfield 93, 3) := by decide +kernel
theorem dX12_meets_97 : decode cX12_meets 97 = .ok (.iload 5, 2) := by decide +kernel
theorem dX12_meets_99 : decode cX12_meets 99 = .ok (.iload 4, 2) := by decide +kernel
theorem dX12_meets_101 : decode cX12_meets 101 = .ok (.iastore, 1) := by decide +kernel
theorem dX12_meets_102 : decode cX12_meets 102 = .ok (.aload_n 0, 1) := by decide +kernel
theorem dX12_meets_103 : decode cX12_meets 103 = .ok (.getfield 96, 3) := by decide +kernel
theorem dX12_meets_106 : decode cX12_meets 106 = .ok (.iload 5, 2) := by decide +kernel
theorem dX12_meets_108 : decode cX12_meets 108 = .ok (.dup2, 1) := by decide +kernel
theorem dX12_meets_109 : decode cX12_meets 109 = .ok (.iaload, 1) := by decide +kernel
theorem dX12_meets_110 : decode cX12_meets 110 = .ok (.iconst 1, 1) := by decide +kernel
theorem dX12_meets_111 : decode cX12_meets 111 = .ok (.iadd, 1) := by decide +kernel
theorem dX12_meets_112 : decode cX12_meets 112 = .ok (.iastore, 1) := by decide +kernel
theorem dX12_meets_113 : decode cX12_meets 113 = .ok (.aload_n 0, 1) := by decide +kernel
theorem dX12_meets_114 : decode cX12_meets 114 = .ok (.getfield 96, 3) := by decide +kernel
theorem dX12_meets_117 : decode cX12_meets 117 = .ok (.iload 5, 2) := by decide +kernel
theorem dX12_meets_119 : decode cX12_meets 119 = .ok (.iaload, 1) := by decide +kernel
theorem dX12_meets_120 : decode cX12_meets 120 = .ok (.ireturn, 1) := by decide +kernel
theorem dX12_passed_0 : decode cX12_passed 0 = .ok (.aload_n 0, 1) := by decide +kernel
theorem dX12_passed_1 : decode cX12_passed 1 = .ok (.iload_n 1, 1) := by decide +kernel
theorem dX12_passed_2 : decode cX12_passed 2 = .ok (.iload_n 2, 1) := by decide +kernel
theorem dX12_passed_3 : decode cX12_passed 3 = .ok (.invokevirtual 280, 3) := by decide +kernel
theorem dX12_passed_6 : decode cX12_passed 6 = .ok (.istore 5, 2) := by decide +kernel
theorem dX12_passed_8 : decode cX12_passed 8 = .ok (.iload 5, 2) := by decide +kernel
theorem dX12_passed_10 : decode cX12_passed 10 = .ok (.ifCond .eq 10, 3) := by decide +kernel
theorem dX12_passed_13 : decode cX12_passed 13 = .ok (.aload_n 0, 1) := by decide +kernel
theorem dX12_passed_14 : decode cX12_passed 14 = .ok (.iload 5, 2) := by decide +kernel
theorem dX12_passed_16 : decode cX12_passed 16 = .ok (.invokevirtual 136, 3) := by decide +kernel
theorem dX12_passed_19 : decode cX12_passed 19 = .ok (.ireturn, 1) := by decide +kernel
theorem dX12_passed_20 : decode cX12_passed 20 = .ok (.aload_n 0, 1) := by decide +kernel
theorem dX12_passed_21 : decode cX12_passed 21 = .ok (.iload_n 1, 1) := by decide +kernel
theorem dX12_passed_22 : decode cX12_passed 22 = .ok (.iload_n 2, 1) := by decide +kernel
theorem dX12_passed_23 : decode cX12_passed 23 = .ok (.iconst 0, 1) := by decide +kernel
theorem dX12_passed_24 : decode cX12_passed 24 = .ok (.aload_n 0, 1) := by decide +kernel
theorem dX12_passed_25 : decode cX12_passed 25 = .ok (.getfield 81, 3) := by decide +kernel
theorem dX12_passed_28 : decode cX12_passed 28 = .ok (.aload_n 0, 1) := by decide +kernel
theorem dX12_passed_29 : decode cX12_passed 29 = .ok (.getfield 84, 3) := by decide +kernel
theorem dX12_passed_32 : decode cX12_passed 32 = .ok (.invokevirtual 283, 3) := by decide +kernel
theorem dX12_passed_35 : decode cX12_passed 35 = .ok (.iconst 0, 1) := by decide +kernel
theorem dX12_passed_36 : decode cX12_passed 36 = .ok (.istore 6, 2) := by decide +kernel
theorem dX12_passed_38 : decode cX12_passed 38 = .ok (.iconst 0, 1) := by decide +kernel
theorem dX12_passed_39 : decode cX12_passed 39 = .ok (.istore 7, 2) := by decide +kernel
theorem dX12_passed_41 : decode cX12_passed 41 = .ok (.iload 7, 2) := by decide +kernel
theorem dX12_passed_43 : decode cX12_passed 43 = .ok (.iload_n 2, 1) := by decide +kernel
theorem dX12_passed_44 : decode cX12_passed 44 = .ok (.if_icmp .gt 35, 3) := by decide +kernel
theorem dX12_passed_47 : decode cX12_passed 47 = .ok (.aload_n 0, 1) := by decide +kernel
theorem dX12_passed_48 : decode cX12_passed 48 = .ok (.getfield 81, 3) := by decide +kernel
theorem dX12_passed_51 : decode cX12_passed 51 = .ok (.iload 7, 2) := by decide +kernel
theorem dX12_passed_53 : decode cX12_passed 53 = .ok (.iaload, 1) := by decide +kernel
theorem dX12_passed_54 : decode cX12_passed 54 = .ok (.iload_n 3, 1) := by decide +kernel
theorem dX12_passed_55 : decode cX12_passed 55 = .ok (.if_icmp .ne 18, 3) := by decide +kernel
theorem dX12_passed_58 : decode cX12_passed 58 = .ok (.aload_n 0, 1) := by decide +kernel
theorem dX12_passed_59 : decode cX12_passed 59 = .ok (.getfield 84, 3) := by decide +kernel
theorem dX12_passed_62 : decode cX12_passed 62 = .ok (.iload 7, 2) := by decide +kernel
theorem dX12_passed_64 : decode cX12_passed 64 = .ok (.iaload, 1) := by decide +kernel
theorem dX12_passed_65 : decode cX12_passed 65 = .ok (.iload 4, 2) := by decide +kernel
theorem dX12_passed_67 : decode cX12_passed 67 = .ok (.if_icmp .ne 6, 3) := by decide +kernel
theorem dX12_passed_70 : decode cX12_passed 70 = .ok (.iinc 6 1, 3) := by decide +kernel
theorem dX12_passed_73 : decode cX12_passed 73 = .ok (.iinc 7 1, 3) := by decide +kernel
theorem dX12_passed_76 : decode cX12_passed 76 = .ok (.goto (-35), 3) := by decide +kernel
theorem dX12_passed_79 : decode cX12_passed 79 = .ok (.iload 6, 2) := by decide +kernel
theorem dX12_passed_81 : decode cX12_passed 81 = .ok (.ireturn, 1) := by decide +kernel
theorem dX12_most_0 : decode cX12_most 0 = .ok (.aload_n 0, 1) := by decide +kernel
theorem dX12_most_1 : decode cX12_most 1 = .ok (.iload_n 1, 1) := by decide +kernel
theorem dX12_most_2 : decode cX12_most 2 = .ok (.iload_n 2, 1) := by decide +kernel
theorem dX12_most_3 : decode cX12_most 3 = .ok (.invokevirtual 280, 3) := by decide +kernel
theorem dX12_most_6 : decode cX12_most 6 = .ok (.istore_n 3, 1) := by decide +kernel
theorem dX12_most_7 : decode cX12_most 7 = .ok (.iload_n 3, 1) := by decide +kernel
theorem dX12_most_8 : decode cX12_most 8 = .ok (.ifCond .eq 9, 3) := by decide +kernel
theorem dX12_most_11 : decode cX12_most 11 = .ok (.aload_n 0, 1) := by decide +kernel
theorem dX12_most_12 : decode cX12_most 12 = .ok (.iload_n 3, 1) := by decide +kernel
theorem dX12_most_13 : decode cX12_most 13 = .ok (.invokevirtual 136, 3) := by decide +kernel
theorem dX12_most_16 : decode cX12_most 16 = .ok (.ireturn, 1) := by decide +kernel
theorem dX12_most_17 : decode cX12_most 17 = .ok (.aload_n 0, 1) := by decide +kernel
theorem dX12_most_18 : decode cX12_most 18 = .ok (.iload_n 1, 1) := by decide +kernel
theorem dX12_most_19 : decode cX12_most 19 = .ok (.iload_n 2, 1) := by decide +kernel
theorem dX12_most_20 : decode cX12_most 20 = .ok (.iconst 0, 1) := by decide +kernel
theorem dX12_most_21 : decode cX12_most 21 = .ok (.aload_n 0, 1) := by decide +kernel
theorem dX12_most_22 : decode cX12_most 22 = .ok (.getfield 81, 3) := by decide +kernel
theorem dX12_most_25 : decode cX12_most 25 = .ok (.aload_n 0, 1) := by decide +kernel
theorem dX12_most_26 : decode cX12_most 26 = .ok (.getfield 84, 3) := by decide +kernel
theorem dX12_most_29 : decode cX12_most 29 = .ok (.invokevirtual 283, 3) := by decide +kernel
theorem dX12_most_32 : decode cX12_most 32 = .ok (.aload_n 0, 1) := by decide +kernel
theorem dX12_most_33 : decode cX12_most 33 = .ok (.invokevirtual 287, 3) := by decide +kernel
theorem dX12_most_36 : decode cX12_most 36 = .ok (.iconst 0, 1) := by decide +kernel
theorem dX12_most_37 : decode cX12_most 37 = .ok (.istore 4, 2) := by decide +kernel
theorem dX12_most_39 : decode cX12_most 39 = .ok (.iconst 0, 1) := by decide +kernel
theorem dX12_most_40 : decode cX12_most 40 = .ok (.istore 5, 2) := by decide +kernel
theorem dX12_most_42 : decode cX12_most 42 = .ok (.iload 5, 2) := by decide +kernel
theorem dX12_most_44 : decode cX12_most 44 = .ok (.iload_n 2, 1) := by decide +kernel
theorem dX12_most_45 : decode cX12_most 45 = .ok (.if_icmp .gt 41, 3) := by decide +kernel
theorem dX12_most_48 : decode cX12_most 48 = .ok (.aload_n 0, 1) := by decide +kernel
theorem dX12_most_49 : decode cX12_most 49 = .ok (.aload_n 0, 1) := by decide +kernel
theorem dX12_most_50 : decode cX12_most 50 = .ok (.getfield 81, 3) := by decide +kernel
theorem dX12_most_53 : decode cX12_most 53 = .ok (.iload 5, 2) := by decide +kernel
theorem dX12_most_55 : decode cX12_most 55 = .ok (.iaload, 1) := by decide +kernel
theorem dX12_most_56 : decode cX12_most 56 = .ok (.aload_n 0, 1) := by decide +kernel
theorem dX12_most_57 : decode cX12_most 57 = .ok (.getfield 84, 3) := by decide +kernel
theorem dX12_most_60 : decode cX12_most 60 = .ok (.iload 5, 2) := by decide +kernel
theorem dX12_most_62 : decode cX12_most 62 = .ok (.iaload, 1) := by decide +kernel
theorem dX12_most_63 : decode cX12_most 63 = .ok (.iconst 0, 1) := by decide +kernel
theorem dX12_most_64 : decode cX12_most 64 = .ok (.invokevirtual 290, 3) := by decide +kernel
theorem dX12_most_67 : decode cX12_most 67 = .ok (.istore 6, 2) := by decide +kernel
theorem dX12_most_69 : decode cX12_most 69 = .ok (.iload 6, 2) := by decide +kernel
theorem dX12_most_71 : decode cX12_most 71 = .ok (.iload 4, 2) := by decide +kernel
theorem dX12_most_73 : decode cX12_most 73 = .ok (.if_icmp .le 7, 3) := by decide +kernel
theorem dX12_most_76 : decode cX12_most 76 = .ok (.iload 6, 2) := by decide +kernel
theorem dX12_most_78 : decode cX12_most 78 = .ok (.istore 4, 2) := by decide +kernel
theorem dX12_most_80 : decode cX12_most 80 = .ok (.iinc 5 1, 3) := by decide +kernel
theorem dX12_most_83 : decode cX12_most 83 = .ok (.goto (-41), 3) := by decide +kernel
theorem dX12_most_86 : decode cX12_most 86 = .ok (.iload 4, 2) := by decide +kernel
theorem dX12_most_88 : decode cX12_most 88 = .ok (.ireturn, 1) := by decide +kernel
theorem dX12_twice_0 : decode cX12_twice 0 = .ok (.aload_n 0, 1) := by decide +kernel
theorem dX12_twice_1 : decode cX12_twice 1 = .ok (.iload_n 1, 1) := by decide +kernel
theorem dX12_twice_2 : decode cX12_twice 2 = .ok (.iload_n 2, 1) := by decide +kernel
theorem dX12_twice_3 : decode cX12_twice 3 = .ok (.invokevirtual 280, 3) := by decide +kernel
theorem dX12_twice_6 : decode cX12_twice 6 = .ok (.istore_n 3, 1) := by decide +kernel
theorem dX12_twice_7 : decode cX12_twice 7 = .ok (.iload_n 3, 1) := by decide +kernel
theorem dX12_twice_8 : decode cX12_twice 8 = .ok (.ifCond .eq 9, 3) := by decide +kernel
theorem dX12_twice_11 : decode cX12_twice 11 = .ok (.aload_n 0, 1) := by decide +kernel
theorem dX12_twice_12 : decode cX12_twice 12 = .ok (.iload_n 3, 1) := by decide +kernel
theorem dX12_twice_13 : decode cX12_twice 13 = .ok (.invokevirtual 136, 3) := by decide +kernel
theorem dX12_twice_16 : decode cX12_twice 16 = .ok (.ireturn, 1) := by decide +kernel
theorem dX12_twice_17 : decode cX12_twice 17 = .ok (.aload_n 0, 1) := by decide +kernel
theorem dX12_twice_18 : decode cX12_twice 18 = .ok (.iload_n 1, 1) := by decide +kernel
theorem dX12_twice_19 : decode cX12_twice 19 = .ok (.iload_n 2, 1) := by decide +kernel
theorem dX12_twice_20 : decode cX12_twice 20 = .ok (.iconst 0, 1) := by decide +kernel
theorem dX12_twice_21 : decode cX12_twice 21 = .ok (.aload_n 0, 1) := by decide +kernel
theorem dX12_twice_22 : decode cX12_twice 22 = .ok (.getfield 81, 3) := by decide +kernel
theorem dX12_twice_25 : decode cX12_twice 25 = .ok (.aload_n 0, 1) := by decide +kernel
theorem dX12_twice_26 : decode cX12_twice 26 = .ok (.getfield 84, 3) := by decide +kernel
theorem dX12_twice_29 : decode cX12_twice 29 = .ok (.invokevirtual 283, 3) := by decide +kernel
theorem dX12_twice_32 : decode cX12_twice 32 = .ok (.aload_n 0, 1) := by decide +kernel
theorem dX12_twice_33 : decode cX12_twice 33 = .ok (.invokevirtual 287, 3) := by decide +kernel
theorem dX12_twice_36 : decode cX12_twice 36 = .ok (.iconst 0, 1) := by decide +kernel
theorem dX12_twice_37 : decode cX12_twice 37 = .ok (.istore 4, 2) := by decide +kernel
theorem dX12_twice_39 : decode cX12_twice 39 = .ok (.iconst 1, 1) := by decide +kernel
theorem dX12_twice_40 : decode cX12_twice 40 = .ok (.istore 5, 2) := by decide +kernel
theorem dX12_twice_42 : decode cX12_twice 42 = .ok (.iload 5, 2) := by decide +kernel
theorem dX12_twice_44 : decode cX12_twice 44 = .ok (.iload_n 2, 1) := by decide +kernel
theorem dX12_twice_45 : decode cX12_twice 45 = .ok (.if_icmp .gt 128, 3) := by decide +kernel
theorem dX12_twice_48 : decode cX12_twice 48 = .ok (.aload_n 0, 1) := by decide +kernel
theorem dX12_twice_49 : decode cX12_twice 49 = .ok (.getfield 81, 3) := by decide +kernel
theorem dX12_twice_52 : decode cX12_twice 52 = .ok (.iload 5, 2) := by decide +kernel
theorem dX12_twice_54 : decode cX12_twice 54 = .ok (.iaload, 1) := by decide +kernel
theorem dX12_twice_55 : decode cX12_twice 55 = .ok (.aload_n 0, 1) := by decide +kernel
theorem dX12_twice_56 : decode cX12_twice 56 = .ok (.getfield 81, 3) := by decide +kernel
theorem dX12_twice_59 : decode cX12_twice 59 = .ok (.iload 5, 2) := by decide +kernel
theorem dX12_twice_61 : decode cX12_twice 61 = .ok (.iconst 1, 1) := by decide +kernel
theorem dX12_twice_62 : decode cX12_twice 62 = .ok (.isub, 1) := by decide +kernel
theorem dX12_twice_63 : decode cX12_twice 63 = .ok (.iaload, 1) := by decide +kernel
theorem dX12_twice_64 : decode cX12_twice 64 = .ok (.if_icmp .ge 13, 3) := by decide +kernel
theorem dX12_twice_67 : decode cX12_twice 67 = .ok (.aload_n 0, 1) := by decide +kernel
theorem dX12_twice_68 : decode cX12_twice 68 = .ok (.getfield 81, 3) := by decide +kernel
theorem dX12_twice_71 : decode cX12_twice 71 = .ok (.iload 5, 2) := by decide +kernel
theorem dX12_twice_73 : decode cX12_twice 73 = .ok (.iaload, 1) := by decide +kernel
theorem dX12_twice_74 : decode cX12_twice 74 = .ok (.goto 12, 3) := by decide +kernel
theorem dX12_twice_77 : decode cX12_twice 77 = .ok (.aload_n 0, 1) := by decide +kernel
theorem dX12_twice_78 : decode cX12_twice 78 = .ok (.getfield 81, 3) := by decide +kernel
theorem dX12_twice_81 : decode cX12_twice 81 = .ok (.iload 5, 2) := by decide +kernel
theorem dX12_twice_83 : decode cX12_twice 83 = .ok (.iconst 1, 1) := by decide +kernel
theorem dX12_twice_84 : decode cX12_twice 84 = .ok (.isub, 1) := by decide +kernel
theorem dX12_twice_85 : decode cX12_twice 85 = .ok (.iaload, 1) := by decide +kernel
theorem dX12_twice_86 : decode cX12_twice 86 = .ok (.istore 6, 2) := by decide +kernel
theorem dX12_twice_88 : decode cX12_twice 88 = .ok (.aload_n 0, 1) := by decide +kernel
theorem dX12_twice_89 : decode cX12_twice 89 = .ok (.getfield 84, 3) := by decide +kernel
theorem dX12_twice_92 : decode cX12_twice 92 = .ok (.iload 5, 2) := by decide +kernel
theorem dX12_twice_94 : decode cX12_twice 94 = .ok (.iaload, 1) := by decide +kernel
theorem dX12_twice_95 : decode cX12_twice 95 = .ok (.aload_n 0, 1) := by decide +kernel
theorem dX12_twice_96 : decode cX12_twice 96 = .ok (.getfield 84, 3) := by decide +kernel
theorem dX12_twice_99 : decode cX12_twice 99 = .ok (.iload 5, 2) := by decide +kernel
theorem dX12_twice_101 : decode cX12_twice 101 = .ok (.iconst 1, 1) := by decide +kernel
theorem dX12_twice_102 : decode cX12_twice 102 = .ok (.isub, 1) := by decide +kernel
theorem dX12_twice_103 : decode cX12_twice 103 = .ok (.iaload, 1) := by decide +kernel
theorem dX12_twice_104 : decode cX12_twice 104 = .ok (.if_icmp .ge 13, 3) := by decide +kernel
theorem dX12_twice_107 : decode cX12_twice 107 = .ok (.aload_n 0, 1) := by decide +kernel
theorem dX12_twice_108 : decode cX12_twice 108 = .ok (.getfield 84, 3) := by decide +kernel
theorem dX12_twice_111 : decode cX12_twice 111 = .ok (.iload 5, 2) := by decide +kernel
theorem dX12_twice_113 : decode cX12_twice 113 = .ok (.iaload, 1) := by decide +kernel
theorem dX12_twice_114 : decode cX12_twice 114 = .ok (.goto 12, 3) := by decide +kernel
theorem dX12_twice_117 : decode cX12_twice 117 = .ok (.aload_n 0, 1) := by decide +kernel
theorem dX12_twice_118 : decode cX12_twice 118 = .ok (.getfield 84, 3) := by decide +kernel
theorem dX12_twice_121 : decode cX12_twice 121 = .ok (.iload 5, 2) := by decide +kernel
theorem dX12_twice_123 : decode cX12_twice 123 = .ok (.iconst 1, 1) := by decide +kernel
theorem dX12_twice_124 : decode cX12_twice 124 = .ok (.isub, 1) := by decide +kernel
theorem dX12_twice_125 : decode cX12_twice 125 = .ok (.iaload, 1) := by decide +kernel
theorem dX12_twice_126 : decode cX12_twice 126 = .ok (.istore 7, 2) := by decide +kernel
theorem dX12_twice_128 : decode cX12_twice 128 = .ok (.aload_n 0, 1) := by decide +kernel
theorem dX12_twice_129 : decode cX12_twice 129 = .ok (.iload 6, 2) := by decide +kernel
theorem dX12_twice_131 : decode cX12_twice 131 = .ok (.iload 7, 2) := by decide +kernel
theorem dX12_twice_133 : decode cX12_twice 133 = .ok (.aload_n 0, 1) := by decide +kernel
theorem dX12_twice_134 : decode cX12_twice 134 = .ok (.getfield 81, 3) := by decide +kernel
theorem dX12_twice_137 : decode cX12_twice 137 = .ok (.iload 5, 2) := by decide +kernel
theorem dX12_twice_139 : decode cX12_twice 139 = .ok (.iaload, 1) := by decide +kernel
theorem dX12_twice_140 : decode cX12_twice 140 = .ok (.aload_n 0, 1) := by decide +kernel
theorem dX12_twice_141 : decode cX12_twice 141 = .ok (.getfield 81, 3) := by decide +kernel
theorem dX12_twice_144 : decode cX12_twice 144 = .ok (.iload 5, 2) := by decide +kernel
theorem dX12_twice_146 : decode cX12_twice 146 = .ok (.iconst 1, 1) := by decide +kernel
theorem dX12_twice_147 : decode cX12_twice 147 = .ok (.isub, 1) := by decide +kernel
theorem dX12_twice_148 : decode cX12_twice 148 = .ok (.iaload, 1) := by decide +kernel
theorem dX12_twice_149 : decode cX12_twice 149 = .ok (.if_icmp .ne 7, 3) := by decide +kernel
theorem dX12_twice_152 : decode cX12_twice 152 = .ok (.iconst 1, 1) := by decide +kernel
theorem dX12_twice_153 : decode cX12_twice 153 = .ok (.goto 4, 3) := by decide +kernel
theorem dX12_twice_156 : decode cX12_twice 156 = .ok (.iconst 0, 1) := by decide +kernel
theorem dX12_twice_157 : decode cX12_twice 157 = .ok (.invokevirtual 290, 3) := by decide +kernel
theorem dX12_twice_160 : decode cX12_twice 160 = .ok (.iconst 1, 1) := by decide +kernel
theorem dX12_twice_161 : decode cX12_twice 161 = .ok (.if_icmp .le 6, 3) := by decide +kernel
theorem dX12_twice_164 : decode cX12_twice 164 = .ok (.iinc 4 1, 3) := by decide +kernel
theorem dX12_twice_167 : decode cX12_twice 167 = .ok (.iinc 5 1, 3) := by decide +kernel
theorem dX12_twice_170 : decode cX12_twice 170 = .ok (.goto (-128), 3) := by decide +kernel
theorem dX12_twice_173 : decode cX12_twice 173 = .ok (.iload 4, 2) := by decide +kernel
theorem dX12_twice_175 : decode cX12_twice 175 = .ok (.ireturn, 1) := by decide +kernel
theorem dX12_cover_0 : decode cX12_cover 0 = .ok (.aload_n 0, 1) := by decide +kernel
theorem dX12_cover_1 : decode cX12_cover 1 = .ok (.iload_n 1, 1) := by decide +kernel
theorem dX12_cover_2 : decode cX12_cover 2 = .ok (.iload_n 2, 1) := by decide +kernel
theorem dX12_cover_3 : decode cX12_cover 3 = .ok (.invokevirtual 280, 3) := by decide +kernel
theorem dX12_cover_6 : decode cX12_cover 6 = .ok (.istore_n 3, 1) := by decide +kernel
theorem dX12_cover_7 : decode cX12_cover 7 = .ok (.iload_n 3, 1) := by decide +kernel
theorem dX12_cover_8 : decode cX12_cover 8 = .ok (.ifCond .eq 9, 3) := by decide +kernel
theorem dX12_cover_11 : decode cX12_cover 11 = .ok (.aload_n 0, 1) := by decide +kernel
theorem dX12_cover_12 : decode cX12_cover 12 = .ok (.iload_n 3, 1) := by decide +kernel
theorem dX12_cover_13 : decode cX12_cover 13 = .ok (.invokevirtual 136, 3) := by decide +kernel
theorem dX12_cover_16 : decode cX12_cover 16 = .ok (.ireturn, 1) := by decide +kernel
theorem dX12_cover_17 : decode cX12_cover 17 = .ok (.aload_n 0, 1) := by decide +kernel
theorem dX12_cover_18 : decode cX12_cover 18 = .ok (.iload_n 1, 1) := by decide +kernel
theorem dX12_cover_19 : decode cX12_cover 19 = .ok (.iload_n 2, 1) := by decide +kernel
theorem dX12_cover_20 : decode cX12_cover 20 = .ok (.iconst 0, 1) := by decide +kernel
theorem dX12_cover_21 : decode cX12_cover 21 = .ok (.aload_n 0, 1) := by decide +kernel
theorem dX12_cover_22 : decode cX12_cover 22 = .ok (.getfield 81, 3) := by decide +kernel
theorem dX12_cover_25 : decode cX12_cover 25 = .ok (.aload_n 0, 1) := by decide +kernel
theorem dX12_cover_26 : decode cX12_cover 26 = .ok (.getfield 84, 3) := by decide +kernel
theorem dX12_cover_29 : decode cX12_cover 29 = .ok (.invokevirtual 283, 3) := by decide +kernel
theorem dX12_cover_32 : decode cX12_cover 32 = .ok (.aload_n 0, 1) := by decide +kernel
theorem dX12_cover_33 : decode cX12_cover 33 = .ok (.invokevirtual 287, 3) := by decide +kernel
theorem dX12_cover_36 : decode cX12_cover 36 = .ok (.iconst 0, 1) := by decide +kernel
theorem dX12_cover_37 : decode cX12_cover 37 = .ok (.istore 4, 2) := by decide +kernel
theorem dX12_cover_39 : decode cX12_cover 39 = .ok (.iload 4, 2) := by decide +kernel
theorem dX12_cover_41 : decode cX12_cover 41 = .ok (.iload_n 2, 1) := by decide +kernel
theorem dX12_cover_42 : decode cX12_cover 42 = .ok (.if_icmp .gt 29, 3) := by decide +kernel
theorem dX12_cover_45 : decode cX12_cover 45 = .ok (.aload_n 0, 1) := by decide +kernel
theorem dX12_cover_46 : decode cX12_cover 46 = .ok (.aload_n 0, 1) := by decide +kernel
theorem dX12_cover_47 : decode cX12_cover 47 = .ok (.getfield 81, 3) := by decide +kernel
theorem dX12_cover_50 : decode cX12_cover 50 = .ok (.iload 4, 2) := by decide +kernel
theorem dX12_cover_52 : decode cX12_cover 52 = .ok (.iaload, 1) := by decide +kernel
theorem dX12_cover_53 : decode cX12_cover 53 = .ok (.aload_n 0, 1) := by decide +kernel
theorem dX12_cover_54 : decode cX12_cover 54 = .ok (.getfield 84, 3) := by decide +kernel
theorem dX12_cover_57 : decode cX12_cover 57 = .ok (.iload 4, 2) := by decide +kernel
theorem dX12_cover_59 : decode cX12_cover 59 = .ok (.iaload, 1) := by decide +kernel
theorem dX12_cover_60 : decode cX12_cover 60 = .ok (.iconst 0, 1) := by decide +kernel
theorem dX12_cover_61 : decode cX12_cover 61 = .ok (.invokevirtual 290, 3) := by decide +kernel
theorem dX12_cover_64 : decode cX12_cover 64 = .ok (.pop, 1) := by decide +kernel
theorem dX12_cover_65 : decode cX12_cover 65 = .ok (.iinc 4 1, 3) := by decide +kernel
theorem dX12_cover_68 : decode cX12_cover 68 = .ok (.goto (-29), 3) := by decide +kernel
theorem dX12_cover_71 : decode cX12_cover 71 = .ok (.aload_n 0, 1) := by decide +kernel
theorem dX12_cover_72 : decode cX12_cover 72 = .ok (.getfield 276, 3) := by decide +kernel
theorem dX12_cover_75 : decode cX12_cover 75 = .ok (.ireturn, 1) := by decide +kernel
theorem dX12_farthest_0 : decode cX12_farthest 0 = .ok (.aload_n 0, 1) := by decide +kernel
theorem dX12_farthest_1 : decode cX12_farthest 1 = .ok (.iload_n 1, 1) := by decide +kernel
theorem dX12_farthest_2 : decode cX12_farthest 2 = .ok (.invokevirtual 143, 3) := by decide +kernel
theorem dX12_farthest_5 : decode cX12_farthest 5 = .ok (.lconst 1, 1) := by decide +kernel
theorem dX12_farthest_6 : decode cX12_farthest 6 = .ok (.ladd, 1) := by decide +kernel
theorem dX12_farthest_7 : decode cX12_farthest 7 = .ok (.lstore_n 2, 1) := by decide +kernel
theorem dX12_farthest_8 : decode cX12_farthest 8 = .ok (.lload_n 2, 1) := by decide +kernel
theorem dX12_farthest_9 : decode cX12_farthest 9 = .ok (.ldc2_w 294, 3) := by decide +kernel
theorem dX12_farthest_12 : decode cX12_farthest 12 = .ok (.lcmp, 1) := by decide +kernel
theorem dX12_farthest_13 : decode cX12_farthest 13 = .ok (.ifCond .ge 8, 3) := by decide +kernel
theorem dX12_farthest_16 : decode cX12_farthest 16 = .ok (.lload_n 2, 1) := by decide +kernel
theorem dX12_farthest_17 : decode cX12_farthest 17 = .ok (.l2i, 1) := by decide +kernel
theorem dX12_farthest_18 : decode cX12_farthest 18 = .ok (.goto 6, 3) := by decide +kernel
theorem dX12_farthest_21 : decode cX12_farthest 21 = .ok (.sipush 4000, 3) := by decide +kernel
theorem dX12_farthest_24 : decode cX12_farthest 24 = .ok (.ireturn, 1) := by decide +kernel
theorem dX12_when_0 : decode cX12_when 0 = .ok (.aload_n 0, 1) := by decide +kernel
theorem dX12_when_1 : decode cX12_when 1 = .ok (.iload_n 1, 1) := by decide +kernel
theorem dX12_when_2 : decode cX12_when 2 = .ok (.invokevirtual 140, 3) := by decide +kernel
theorem dX12_when_5 : decode cX12_when 5 = .ok (.ifCond .ne 9, 3) := by decide +kernel
theorem dX12_when_8 : decode cX12_when 8 = .ok (.aload_n 0, 1) := by decide +kernel
theorem dX12_when_9 : decode cX12_when 9 = .ok (.iconst (-1), 1) := by decide +kernel
theorem dX12_when_10 : decode cX12_when 10 = .ok (.invokevirtual 296, 3) := by decide +kernel
theorem dX12_when_13 : decode cX12_when 13 = .ok (.ireturn, 1) := by decide +kernel
theorem dX12_when_14 : decode cX12_when 14 = .ok (.iload 4, 2) := by decide +kernel
theorem dX12_when_16 : decode cX12_when 16 = .ok (.ifCond .ge 10, 3) := by decide +kernel
theorem dX12_when_19 : decode cX12_when 19 = .ok (.aload_n 0, 1) := by decide +kernel
theorem dX12_when_20 : decode cX12_when 20 = .ok (.bipush (-5), 2) := by decide +kernel
theorem dX12_when_22 : decode cX12_when 22 = .ok (.invokevirtual 296, 3) := by decide +kernel
theorem dX12_when_25 : decode cX12_when 25 = .ok (.ireturn, 1) := by decide +kernel
theorem dX12_when_26 : decode cX12_when 26 = .ok (.aload_n 0, 1) := by decide +kernel
theorem dX12_when_27 : decode cX12_when 27 = .ok (.iload_n 1, 1) := by decide +kernel
theorem dX12_when_28 : decode cX12_when 28 = .ok (.invokevirtual 299, 3) := by decide +kernel
theorem dX12_when_31 : decode cX12_when 31 = .ok (.istore 5, 2) := by decide +kernel
theorem dX12_when_33 : decode cX12_when 33 = .ok (.iload 4, 2) := by decide +kernel
theorem dX12_when_35 : decode cX12_when 35 = .ok (.istore 6, 2) := by decide +kernel
theorem dX12_when_37 : decode cX12_when 37 = .ok (.aload_n 0, 1) := by decide +kernel
theorem dX12_when_38 : decode cX12_when 38 = .ok (.iload_n 1, 1) := by decide +kernel
theorem dX12_when_39 : decode cX12_when 39 = .ok (.iload 5, 2) := by decide +kernel
theorem dX12_when_41 : decode cX12_when 41 = .ok (.iconst 0, 1) := by decide +kernel
theorem dX12_when_42 : decode cX12_when 42 = .ok (.aload_n 0, 1) := by decide +kernel
theorem dX12_when_43 : decode cX12_when 43 = .ok (.getfield 81, 3) := by decide +kernel
theorem dX12_when_46 : decode cX12_when 46 = .ok (.aload_n 0, 1) := by decide +kernel
theorem dX12_when_47 : decode cX12_when 47 = .ok (.getfield 84, 3) := by decide +kernel
theorem dX12_when_50 : decode cX12_when 50 = .ok (.invokevirtual 283, 3) := by decide +kernel
theorem dX12_when_53 : decode cX12_when 53 = .ok (.iconst 0, 1) := by decide +kernel
theorem dX12_when_54 : decode cX12_when 54 = .ok (.istore 7, 2) := by decide +kernel
theorem dX12_when_56 : decode cX12_when 56 = .ok (.iload 7, 2) := by decide +kernel
theorem dX12_when_58 : decode cX12_when 58 = .ok (.iload 5, 2) := by decide +kernel
theorem dX12_when_60 : decode cX12_when 60 = .ok (.if_icmp .gt 45, 3) := by decide +kernel
theorem dX12_when_63 : decode cX12_when 63 = .ok (.aload_n 0, 1) := by decide +kernel
theorem dX12_when_64 : decode cX12_when 64 = .ok (.getfield 81, 3) := by decide +kernel
theorem dX12_when_67 : decode cX12_when 67 = .ok (.iload 7, 2) := by decide +kernel
theorem dX12_when_69 : decode cX12_when 69 = .ok (.iaload, 1) := by decide +kernel
theorem dX12_when_70 : decode cX12_when 70 = .ok (.iload_n 2, 1) := by decide +kernel
theorem dX12_when_71 : decode cX12_when 71 = .ok (.if_icmp .ne 28, 3) := by decide +kernel
theorem dX12_when_74 : decode cX12_when 74 = .ok (.aload_n 0, 1) := by decide +kernel
theorem dX12_when_75 : decode cX12_when 75 = .ok (.getfield 84, 3) := by decide +kernel
theorem dX12_when_78 : decode cX12_when 78 = .ok (.iload 7, 2) := by decide +kernel
theorem dX12_when_80 : decode cX12_when 80 = .ok (.iaload, 1) := by decide +kernel
theorem dX12_when_81 : decode cX12_when 81 = .ok (.iload_n 3, 1) := by decide +kernel
theorem dX12_when_82 : decode cX12_when 82 = .ok (.if_icmp .eq 6, 3) := by decide +kernel
theorem dX12_when_85 : decode cX12_when 85 = .ok (.goto 14, 3) := by decide +kernel
theorem dX12_when_88 : decode cX12_when 88 = .ok (.iload 6, 2) := by decide +kernel
theorem dX12_when_90 : decode cX12_when 90 = .ok (.ifCond .ne 6, 3) := by decide +kernel
theorem dX12_when_93 : decode cX12_when 93 = .ok (.iload 7, 2) := by decide +kernel
theorem dX12_when_95 : decode cX12_when 95 = .ok (.ireturn, 1) := by decide +kernel
theorem dX12_when_96 : decode cX12_when 96 = .ok (.iinc 6 (-1), 3) := by decide +kernel
theorem dX12_when_99 : decode cX12_when 99 = .ok (.iinc 7 1, 3) := by decide +kernel
theorem dX12_when_102 : decode cX12_when 102 = .ok (.goto (-46), 3) := by decide +kernel
theorem dX12_when_105 : decode cX12_when 105 = .ok (.iconst (-1), 1) := by decide +kernel
theorem dX12_when_106 : decode cX12_when 106 = .ok (.ireturn, 1) := by decide +kernel
theorem dX12_near_0 : decode cX12_near 0 = .ok (.aload_n 0, 1) := by decide +kernel
theorem dX12_near_1 : decode cX12_near 1 = .ok (.iload_n 1, 1) := by decide +kernel
theorem dX12_near_2 : decode cX12_near 2 = .ok (.invokevirtual 140, 3) := by decide +kernel
theorem dX12_near_5 : decode cX12_near 5 = .ok (.ifCond .eq 11, 3) := by decide +kernel
theorem dX12_near_8 : decode cX12_near 8 = .ok (.aload_n 0, 1) := by decide +kernel
theorem dX12_near_9 : decode cX12_near 9 = .ok (.iload_n 2, 1) := by decide +kernel
theorem dX12_near_10 : decode cX12_near 10 = .ok (.invokevirtual 140, 3) := by decide +kernel
theorem dX12_near_13 : decode cX12_near 13 = .ok (.ifCond .ne 9, 3) := by decide +kernel
theorem dX12_near_16 : decode cX12_near 16 = .ok (.aload_n 0, 1) := by decide +kernel
theorem dX12_near_17 : decode cX12_near 17 = .ok (.iconst (-1), 1) := by decide +kernel
theorem dX12_near_18 : decode cX12_near 18 = .ok (.invokevirtual 136, 3) := by decide +kernel
theorem dX12_near_21 : decode cX12_near 21 = .ok (.ireturn, 1) := by decide +kernel
theorem dX12_near_22 : decode cX12_near 22 = .ok (.iload_n 3, 1) := by decide +kernel
theorem dX12_near_23 : decode cX12_near 23 = .ok (.i2l, 1) := by decide +kernel
theorem dX12_near_24 : decode cX12_near 24 = .ok (.aload_n 0, 1) := by decide +kernel
theorem dX12_near_25 : decode cX12_near 25 = .ok (.iload_n 1, 1) := by decide +kernel
theorem dX12_near_26 : decode cX12_near 26 = .ok (.invokevirtual 143, 3) := by decide +kernel
theorem dX12_near_29 : decode cX12_near 29 = .ok (.lconst 1, 1) := by decide +kernel
theorem dX12_near_30 : decode cX12_near 30 = .ok (.ladd, 1) := by decide +kernel
theorem dX12_near_31 : decode cX12_near 31 = .ok (.lcmp, 1) := by decide +kernel
theorem dX12_near_32 : decode cX12_near 32 = .ok (.ifCond .gt 27, 3) := by decide +kernel
theorem dX12_near_35 : decode cX12_near 35 = .ok (.iload_n 3, 1) := by decide +kernel
theorem dX12_near_36 : decode cX12_near 36 = .ok (.i2l, 1) := by decide +kernel
theorem dX12_near_37 : decode cX12_near 37 = .ok (.aload_n 0, 1) := by decide +kernel
theorem dX12_near_38 : decode cX12_near 38 = .ok (.iload_n 2, 1) := by decide +kernel
theorem dX12_near_39 : decode cX12_near 39 = .ok (.invokevirtual 143, 3) := by decide +kernel
theorem dX12_near_42 : decode cX12_near 42 = .ok (.lconst 1, 1) := by decide +kernel
theorem dX12_near_43 : decode cX12_near 43 = .ok (.ladd, 1) := by decide +kernel
theorem dX12_near_44 : decode cX12_near 44 = .ok (.lcmp, 1) := by decide +kernel
theorem dX12_near_45 : decode cX12_near 45 = .ok (.ifCond .gt 14, 3) := by decide +kernel
theorem dX12_near_48 : decode cX12_near 48 = .ok (.iload 6, 2) := by decide +kernel
theorem dX12_near_50 : decode cX12_near 50 = .ok (.ifCond .lt 9, 3) := by decide +kernel
theorem dX12_near_53 : decode cX12_near 53 = .ok (.iload 6, 2) := by decide +kernel
theorem dX12_near_55 : decode cX12_near 55 = .ok (.iconst 1, 1) := by decide +kernel
theorem dX12_near_56 : decode cX12_near 56 = .ok (.if_icmp .le 10, 3) := by decide +kernel
theorem dX12_near_59 : decode cX12_near 59 = .ok (.aload_n 0, 1) := by decide +kernel
theorem dX12_near_60 : decode cX12_near 60 = .ok (.bipush (-5), 2) := by decide +kernel
theorem dX12_near_62 : decode cX12_near 62 = .ok (.invokevirtual 136, 3) := by decide +kernel
theorem dX12_near_65 : decode cX12_near 65 = .ok (.ireturn, 1) := by decide +kernel
theorem dX12_near_66 : decode cX12_near 66 = .ok (.iload_n 3, 1) := by decide +kernel
theorem dX12_near_67 : decode cX12_near 67 = .ok (.ifCond .lt 38, 3) := by decide +kernel
theorem dX12_near_70 : decode cX12_near 70 = .ok (.iload_n 3, 1) := by decide +kernel
theorem dX12_near_71 : decode cX12_near 71 = .ok (.sipush 4000, 3) := by decide +kernel
theorem dX12_near_74 : decode cX12_near 74 = .ok (.if_icmp .gt 31, 3) := by decide +kernel
theorem dX12_near_77 : decode cX12_near 77 = .ok (.iload 4, 2) := by decide +kernel
theorem dX12_near_79 : decode cX12_near 79 = .ok (.bipush (-100), 2) := by decide +kernel
theorem dX12_near_81 : decode cX12_near 81 = .ok (.if_icmp .lt 24, 3) := by decide +kernel
theorem dX12_near_84 : decode cX12_near 84 = .ok (.iload 4, 2) := by decide +kernel
theorem dX12_near_86 : decode cX12_near 86 = .ok (.bipush 100, 2) := by decide +kernel
theorem dX12_near_88 : decode cX12_near 88 = .ok (.if_icmp .gt 17, 3) := by decide +kernel
theorem dX12_near_91 : decode cX12_near 91 = .ok (.iload 5, 2) := by decide +kernel
theorem dX12_near_93 : decode cX12_near 93 = .ok (.bipush (-100), 2) := by decide +kernel
theorem dX12_near_95 : decode cX12_near 95 = .ok (.if_icmp .lt 10, 3) := by decide +kernel
theorem dX12_near_98 : decode cX12_near 98 = .ok (.iload 5, 2) := by decide +kernel
theorem dX12_near_100 : decode cX12_near 100 = .ok (.bipush 100, 2) := by decide +kernel
theorem dX12_near_102 : decode cX12_near 102 = .ok (.if_icmp .le 10, 3) := by decide +kernel
theorem dX12_near_105 : decode cX12_near 105 = .ok (.aload_n 0, 1) := by decide +kernel
theorem dX12_near_106 : decode cX12_near 106 = .ok (.bipush (-6), 2) := by decide +kernel
theorem dX12_near_108 : decode cX12_near 108 = .ok (.invokevirtual 136, 3) := by decide +kernel
theorem dX12_near_111 : decode cX12_near 111 = .ok (.ireturn, 1) := by decide +kernel
theorem dX12_near_112 : decode cX12_near 112 = .ok (.aload_n 0, 1) := by decide +kernel
theorem dX12_near_113 : decode cX12_near 113 = .ok (.iload_n 1, 1) := by decide +kernel
theorem dX12_near_114 : decode cX12_near 114 = .ok (.iload_n 3, 1) := by decide +kernel
theorem dX12_near_115 : decode cX12_near 115 = .ok (.iconst 0, 1) := by decide +kernel
theorem dX12_near_116 : decode cX12_near 116 = .ok (.aload_n 0, 1) := by decide +kernel
theorem dX12_near_117 : decode cX12_near 117 = .ok (.getfield 81, 3) := by decide +kernel
theorem dX12_near_120 : decode cX12_near 120 = .ok (.aload_n 0, 1) := by decide +kernel
theorem dX12_near_121 : decode cX12_near 121 = .ok (.getfield 84, 3) := by decide +kernel
theorem dX12_near_124 : decode cX12_near 124 = .ok (.invokevirtual 283, 3) := by decide +kernel
theorem dX12_near_127 : decode cX12_near 127 = .ok (.aload_n 0, 1) := by decide +kernel
theorem dX12_near_128 : decode cX12_near 128 = .ok (.iload_n 2, 1) := by decide +kernel
theorem dX12_near_129 : decode cX12_near 129 = .ok (.iload_n 3, 1) := by decide +kernel
theorem dX12_near_130 : decode cX12_near 130 = .ok (.iconst 0, 1) := by decide +kernel
theorem dX12_near_131 : decode cX12_near 131 = .ok (.aload_n 0, 1) := by decide +kernel
theorem dX12_near_132 : decode cX12_near 132 = .ok (.getfield 87, 3) := by decide +kernel
theorem dX12_near_135 : decode cX12_near 135 = .ok (.aload_n 0, 1) := by decide +kernel
theorem dX12_near_136 : decode cX12_near 136 = .ok (.getfield 90, 3) := by decide +kernel
theorem dX12_near_139 : decode cX12_near 139 = .ok (.invokevirtual 283, 3) := by decide +kernel
theorem dX12_near_142 : decode cX12_near 142 = .ok (.iconst 0, 1) := by decide +kernel
theorem dX12_near_143 : decode cX12_near 143 = .ok (.istore 7, 2) := by decide +kernel
theorem dX12_near_145 : decode cX12_near 145 = .ok (.iconst 0, 1) := by decide +kernel
theorem dX12_near_146 : decode cX12_near 146 = .ok (.istore 8, 2) := by decide +kernel
theorem dX12_near_148 : decode cX12_near 148 = .ok (.iconst 0, 1) := by decide +kernel
theorem dX12_near_149 : decode cX12_near 149 = .ok (.istore 9, 2) := by decide +kernel
theorem dX12_near_151 : decode cX12_near 151 = .ok (.iload 9, 2) := by decide +kernel
theorem dX12_near_153 : decode cX12_near 153 = .ok (.iload_n 3, 1) := by decide +kernel
theorem dX12_near_154 : decode cX12_near 154 = .ok (.if_icmp .gt 85, 3) := by decide +kernel
theorem dX12_near_157 : decode cX12_near 157 = .ok (.aload_n 0, 1) := by decide +kernel
theorem dX12_near_158 : decode cX12_near 158 = .ok (.getfield 87, 3) := by decide +kernel
theorem dX12_near_161 : decode cX12_near 161 = .ok (.iload 9, 2) := by decide +kernel
theorem dX12_near_163 : decode cX12_near 163 = .ok (.iaload, 1) := by decide +kernel
theorem dX12_near_164 : decode cX12_near 164 = .ok (.iload 4, 2) := by decide +kernel
theorem dX12_near_166 : decode cX12_near 166 = .ok (.iadd, 1) := by decide +kernel
theorem dX12_near_167 : decode cX12_near 167 = .ok (.aload_n 0, 1) := by decide +kernel
theorem dX12_near_168 : decode cX12_near 168 = .ok (.getfield 81, 3) := by decide +kernel
theorem dX12_near_171 : decode cX12_near 171 = .ok (.iload 9, 2) := by decide +kernel
theorem dX12_near_173 : decode cX12_near 173 = .ok (.iaload, 1) := by decide +kernel
theorem dX12_near_174 : decode cX12_near 174 = .ok (.isub, 1) := by decide +kernel
theorem dX12_near_175 : decode cX12_near 175 = .ok (.istore 10, 2) := by decide +kernel
theorem dX12_near_177 : decode cX12_near 177 = .ok (.aload_n 0, 1) := by decide +kernel
theorem dX12_near_178 : decode cX12_near 178 = .ok (.getfield 90, 3) := by decide +kernel
theorem dX12_near_181 : decode cX12_near 181 = .ok (.iload 9, 2) := by decide +kernel
theorem dX12_near_183 : decode cX12_near 183 = .ok (.iaload, 1) := by decide +kernel
theorem dX12_near_184 : decode cX12_near 184 = .ok (.iload 5, 2) := by decide +kernel
theorem dX12_near_186 : decode cX12_near 186 = .ok (.iadd, 1) := by decide +kernel
theorem dX12_near_187 : decode cX12_near 187 = .ok (.aload_n 0, 1) := by decide +kernel
theorem dX12_near_188 : decode cX12_near 188 = .ok (.getfield 84, 3) := by decide +kernel
theorem dX12_near_191 : decode cX12_near 191 = .ok (.iload 9, 2) := by decide +kernel
theorem dX12_near_193 : decode cX12_near 193 = .ok (.iaload, 1) := by decide +kernel
theorem dX12_near_194 : decode cX12_near 194 = .ok (.isub, 1) := by decide +kernel
theorem dX12_near_195 : decode cX12_near 195 = .ok (.istore 11, 2) := by decide +kernel
theorem dX12_near_197 : decode cX12_near 197 = .ok (.iload 10, 2) := by decide +kernel
theorem dX12_near_199 : decode cX12_near 199 = .ok (.iload 10, 2) := by decide +kernel
theorem dX12_near_201 : decode cX12_near 201 = .ok (.imul, 1) := by decide +kernel
theorem dX12_near_202 : decode cX12_near 202 = .ok (.iload 11, 2) := by decide +kernel
theorem dX12_near_204 : decode cX12_near 204 = .ok (.iload 11, 2) := by decide +kernel
theorem dX12_near_206 : decode cX12_near 206 = .ok (.imul, 1) := by decide +kernel
theorem dX12_near_207 : decode cX12_near 207 = .ok (.iadd, 1) := by decide +kernel
theorem dX12_near_208 : decode cX12_near 208 = .ok (.istore 12, 2) := by decide +kernel
theorem dX12_near_210 : decode cX12_near 210 = .ok (.iload 9, 2) := by decide +kernel
theorem dX12_near_212 : decode cX12_near 212 = .ok (.ifCond .le 13, 3) := by decide +kernel
theorem dX12_near_215 : decode cX12_near 215 = .ok (.iload 12, 2) := by decide +kernel
theorem dX12_near_217 : decode cX12_near 217 = .ok (.iload 8, 2) := by decide +kernel
theorem dX12_near_219 : decode cX12_near 219 = .ok (.if_icmp .lt 6, 3) := by decide +kernel
theorem dX12_near_222 : decode cX12_near 222 = .ok (.goto 11, 3) := by decide +kernel
theorem dX12_near_225 : decode cX12_near 225 = .ok (.iload 9, 2) := by decide +kernel
theorem dX12_near_227 : decode cX12_near 227 = .ok (.istore 7, 2) := by decide +kernel
theorem dX12_near_229 : decode cX12_near 229 = .ok (.iload 12, 2) := by decide +kernel
theorem dX12_near_231 : decode cX12_near 231 = .ok (.istore 8, 2) := by decide +kernel
theorem dX12_near_233 : decode cX12_near 233 = .ok (.iinc 9 1, 3) := by decide +kernel
theorem dX12_near_236 : decode cX12_near 236 = .ok (.goto (-85), 3) := by decide +kernel
theorem dX12_near_239 : decode cX12_near 239 = .ok (.iload 6, 2) := by decide +kernel
theorem dX12_near_241 : decode cX12_near 241 = .ok (.ifCond .ne 8, 3) := by decide +kernel
theorem dX12_near_244 : decode cX12_near 244 = .ok (.iload 8, 2) := by decide +kernel
theorem dX12_near_246 : decode cX12_near 246 = .ok (.goto 5, 3) := by decide +kernel
theorem dX12_near_249 : decode cX12_near 249 = .ok (.iload 7, 2) := by decide +kernel
theorem dX12_near_251 : decode cX12_near 251 = .ok (.ireturn, 1) := by decide +kernel
theorem dX12_isWithin_0 : decode cX12_isWithin 0 = .ok (.iload_n 1, 1) := by decide +kernel
theorem dX12_isWithin_1 : decode cX12_isWithin 1 = .ok (.bipush (-30), 2) := by decide +kernel
theorem dX12_isWithin_3 : decode cX12_isWithin 3 = .ok (.if_icmp .lt 25, 3) := by decide +kernel
theorem dX12_isWithin_6 : decode cX12_isWithin 6 = .ok (.iload_n 1, 1) := by decide +kernel
theorem dX12_isWithin_7 : decode cX12_isWithin 7 = .ok (.bipush 30, 2) := by decide +kernel
theorem dX12_isWithin_9 : decode cX12_isWithin 9 = .ok (.if_icmp .gt 19, 3) := by decide +kernel
theorem dX12_isWithin_12 : decode cX12_isWithin 12 = .ok (.iload_n 2, 1) := by decide +kernel
theorem dX12_isWithin_13 : decode cX12_isWithin 13 = .ok (.bipush (-30), 2) := by decide +kernel
theorem dX12_isWithin_15 : decode cX12_isWithin 15 = .ok (.if_icmp .lt 13, 3) := by decide +kernel
theorem dX12_isWithin_18 : decode cX12_isWithin 18 = .ok (.iload_n 2, 1) := by decide +kernel
theorem dX12_isWithin_19 : decode cX12_isWithin 19 = .ok (.bipush 30, 2) := by decide +kernel
theorem dX12_isWithin_21 : decode cX12_isWithin 21 = .ok (.if_icmp .gt 7, 3) := by decide +kernel
theorem dX12_isWithin_24 : decode cX12_isWithin 24 = .ok (.iconst 1, 1) := by decide +kernel
theorem dX12_isWithin_25 : decode cX12_isWithin 25 = .ok (.goto 4, 3) := by decide +kernel
theorem dX12_isWithin_28 : decode cX12_isWithin 28 = .ok (.iconst 0, 1) := by decide +kernel
theorem dX12_isWithin_29 : decode cX12_isWithin 29 = .ok (.ireturn, 1) := by decide +kernel
theorem dX12_four_0 : decode cX12_four 0 = .ok (.aload_n 0, 1) := by decide +kernel
theorem dX12_four_1 : decode cX12_four 1 = .ok (.iload_n 1, 1) := by decide +kernel
theorem dX12_four_2 : decode cX12_four 2 = .ok (.invokevirtual 140, 3) := by decide +kernel
theorem dX12_four_5 : decode cX12_four 5 = .ok (.ifCond .ne 9, 3) := by decide +kernel
theorem dX12_four_8 : decode cX12_four 8 = .ok (.aload_n 0, 1) := by decide +kernel
theorem dX12_four_9 : decode cX12_four 9 = .ok (.iconst (-1), 1) := by decide +kernel
theorem dX12_four_10 : decode cX12_four 10 = .ok (.invokevirtual 136, 3) := by decide +kernel
theorem dX12_four_13 : decode cX12_four 13 = .ok (.ireturn, 1) := by decide +kernel
theorem dX12_four_14 : decode cX12_four 14 = .ok (.iload_n 2, 1) := by decide +kernel
theorem dX12_four_15 : decode cX12_four 15 = .ok (.i2l, 1) := by decide +kernel
theorem dX12_four_16 : decode cX12_four 16 = .ok (.aload_n 0, 1) := by decide +kernel
theorem dX12_four_17 : decode cX12_four 17 = .ok (.iload_n 1, 1) := by decide +kernel
theorem dX12_four_18 : decode cX12_four 18 = .ok (.invokevirtual 143, 3) := by decide +kernel
theorem dX12_four_21 : decode cX12_four 21 = .ok (.lconst 1, 1) := by decide +kernel
theorem dX12_four_22 : decode cX12_four 22 = .ok (.ladd, 1) := by decide +kernel
theorem dX12_four_23 : decode cX12_four 23 = .ok (.lcmp, 1) := by decide +kernel
theorem dX12_four_24 : decode cX12_four 24 = .ok (.ifCond .le 10, 3) := by decide +kernel
theorem dX12_four_27 : decode cX12_four 27 = .ok (.aload_n 0, 1) := by decide +kernel
theorem dX12_four_28 : decode cX12_four 28 = .ok (.bipush (-5), 2) := by decide +kernel
theorem dX12_four_30 : decode cX12_four 30 = .ok (.invokevirtual 136, 3) := by decide +kernel
theorem dX12_four_33 : decode cX12_four 33 = .ok (.ireturn, 1) := by decide +kernel
theorem dX12_four_34 : decode cX12_four 34 = .ok (.iload_n 2, 1) := by decide +kernel
theorem dX12_four_35 : decode cX12_four 35 = .ok (.ifCond .lt 10, 3) := by decide +kernel
theorem dX12_four_38 : decode cX12_four 38 = .ok (.iload_n 2, 1) := by decide +kernel
theorem dX12_four_39 : decode cX12_four 39 = .ok (.sipush 1000, 3) := by decide +kernel
theorem dX12_four_42 : decode cX12_four 42 = .ok (.if_icmp .le 10, 3) := by decide +kernel
theorem dX12_four_45 : decode cX12_four 45 = .ok (.aload_n 0, 1) := by decide +kernel
theorem dX12_four_46 : decode cX12_four 46 = .ok (.bipush (-6), 2) := by decide +kernel
theorem dX12_four_48 : decode cX12_four 48 = .ok (.invokevirtual 136, 3) := by decide +kernel
theorem dX12_four_51 : decode cX12_four 51 = .ok (.ireturn, 1) := by decide +kernel
theorem dX12_four_52 : decode cX12_four 52 = .ok (.iconst 0, 1) := by decide +kernel
theorem dX12_four_53 : decode cX12_four 53 = .ok (.istore_n 3, 1) := by decide +kernel
theorem dX12_four_54 : decode cX12_four 54 = .ok (.iload_n 3, 1) := by decide +kernel
theorem dX12_four_55 : decode cX12_four 55 = .ok (.sipush 3721, 3) := by decide +kernel
theorem dX12_four_58 : decode cX12_four 58 = .ok (.if_icmp .ge 23, 3) := by decide +kernel
theorem dX12_four_61 : decode cX12_four 61 = .ok (.aload_n 0, 1) := by decide +kernel
theorem dX12_four_62 : decode cX12_four 62 = .ok (.getfield 99, 3) := by decide +kernel
theorem dX12_four_65 : decode cX12_four 65 = .ok (.iload_n 3, 1) := by decide +kernel
theorem dX12_four_66 : decode cX12_four 66 = .ok (.iconst 0, 1) := by decide +kernel
theorem dX12_four_67 : decode cX12_four 67 = .ok (.iastore, 1) := by decide +kernel
theorem dX12_four_68 : decode cX12_four 68 = .ok (.aload_n 0, 1) := by decide +kernel
theorem dX12_four_69 : decode cX12_four 69 = .ok (.getfield 102, 3) := by decide +kernel
theorem dX12_four_72 : decode cX12_four 72 = .ok (.iload_n 3, 1) := by decide +kernel
theorem dX12_four_73 : decode cX12_four 73 = .ok (.iconst 0, 1) := by decide +kernel
theorem dX12_four_74 : decode cX12_four 74 = .ok (.iastore, 1) := by decide +kernel
theorem dX12_four_75 : decode cX12_four 75 = .ok (.iinc 3 1, 3) := by decide +kernel
theorem dX12_four_78 : decode cX12_four 78 = .ok (.goto (-24), 3) := by decide +kernel
theorem dX12_four_81 : decode cX12_four 81 = .ok (.iconst 0, 1) := by decide +kernel
theorem dX12_four_82 : decode cX12_four 82 = .ok (.istore_n 3, 1) := by decide +kernel
theorem dX12_four_83 : decode cX12_four 83 = .ok (.iload_n 3, 1) := by decide +kernel
theorem dX12_four_84 : decode cX12_four 84 = .ok (.iconst 4, 1) := by decide +kernel
theorem dX12_four_85 : decode cX12_four 85 = .ok (.if_icmp .ge 236, 3) := by decide +kernel
theorem dX12_four_88 : decode cX12_four 88 = .ok (.aload_n 0, 1) := by decide +kernel
theorem dX12_four_89 : decode cX12_four 89 = .ok (.iload_n 1, 1) := by decide +kernel
theorem dX12_four_90 : decode cX12_four 90 = .ok (.iload_n 2, 1) := by decide +kernel
theorem dX12_four_91 : decode cX12_four 91 = .ok (.iload_n 3, 1) := by decide +kernel
theorem dX12_four_92 : decode cX12_four 92 = .ok (.aload_n 0, 1) := by decide +kernel
theorem dX12_four_93 : decode cX12_four 93 = .ok (.getfield 81, 3) := by decide +kernel
theorem dX12_four_96 : decode cX12_four 96 = .ok (.aload_n 0, 1) := by decide +kernel
theorem dX12_four_97 : decode cX12_four 97 = .ok (.getfield 84, 3) := by decide +kernel
theorem dX12_four_100 : decode cX12_four 100 = .ok (.invokevirtual 283, 3) := by decide +kernel
theorem dX12_four_103 : decode cX12_four 103 = .ok (.iconst 1, 1) := by decide +kernel
theorem dX12_four_104 : decode cX12_four 104 = .ok (.istore 4, 2) := by decide +kernel
theorem dX12_four_106 : decode cX12_four 106 = .ok (.iload 4, 2) := by decide +kernel
theorem dX12_four_108 : decode cX12_four 108 = .ok (.iload_n 2, 1) := by decide +kernel
theorem dX12_four_109 : decode cX12_four 109 = .ok (.if_icmp .gt 206, 3) := by decide +kernel
theorem dX12_four_112 : decode cX12_four 112 = .ok (.aload_n 0, 1) := by decide +kernel
theorem dX12_four_113 : decode cX12_four 113 = .ok (.aload_n 0, 1) := by decide +kernel
theorem dX12_four_114 : decode cX12_four 114 = .ok (.getfield 81, 3) := by decide +kernel
theorem dX12_four_117 : decode cX12_four 117 = .ok (.iload 4, 2) := by decide +kernel
theorem dX12_four_119 : decode cX12_four 119 = .ok (.iaload, 1) := by decide +kernel
theorem dX12_four_120 : decode cX12_four 120 = .ok (.aload_n 0, 1) := by decide +kernel
theorem dX12_four_121 : decode cX12_four 121 = .ok (.getfield 84, 3) := by decide +kernel
theorem dX12_four_124 : decode cX12_four 124 = .ok (.iload 4, 2) := by decide +kernel
theorem dX12_four_126 : decode cX12_four 126 = .ok (.iaload, 1) := by decide +kernel
theorem dX12_four_127 : decode cX12_four 127 = .ok (.invokevirtual 302, 3) := by decide +kernel
theorem dX12_four_130 : decode cX12_four 130 = .ok (.ifCond .eq 179, 3) := by decide +kernel
theorem dX12_four_133 : decode cX12_four 133 = .ok (.aload_n 0, 1) := by decide +kernel
theorem dX12_four_134 : decode cX12_four 134 = .ok (.aload_n 0, 1) := by decide +kernel
theorem dX12_four_135 : decode cX12_four 135 = .ok (.getfield 81, 3) := by decide +kernel
theorem dX12_four_138 : decode cX12_four 138 = .ok (.iload 4, 2) := by decide +kernel
theorem dX12_four_140 : decode cX12_four 140 = .ok (.iconst 1, 1) := by decide +kernel
theorem dX12_four_141 : decode cX12_four 141 = .ok (.isub, 1) := by decide +kernel
theorem dX12_four_142 : decode cX12_four 142 = .ok (.iaload, 1) := by decide +kernel
theorem dX12_four_143 : decode cX12_four 143 = .ok (.aload_n 0, 1) := by decide +kernel
theorem dX12_four_144 : decode cX12_four 144 = .ok (.getfield 84, 3) := by decide +kernel
theorem dX12_four_147 : decode cX12_four 147 = .ok (.iload 4, 2) := by decide +kernel
theorem dX12_four_149 : decode cX12_four 149 = .ok (.iconst 1, 1) := by decide +kernel
theorem dX12_four_150 : decode cX12_four 150 = .ok (.isub, 1) := by decide +kernel
theorem dX12_four_151 : decode cX12_four 151 = .ok (.iaload, 1) := by decide +kernel
theorem dX12_four_152 : decode cX12_four 152 = .ok (.invokevirtual 302, 3) := by decide +kernel
theorem dX12_four_155 : decode cX12_four 155 = .ok (.ifCond .ne 6, 3) := by decide +kernel
theorem dX12_four_158 : decode cX12_four 158 = .ok (.goto 151, 3) := by decide +kernel
theorem dX12_four_161 : decode cX12_four 161 = .ok (.aload_n 0, 1) := by decide +kernel
theorem dX12_four_162 : decode cX12_four 162 = .ok (.getfield 81, 3) := by decide +kernel
theorem dX12_four_165 : decode cX12_four 165 = .ok (.iload 4, 2) := by decide +kernel
theorem dX12_four_167 : decode cX12_four 167 = .ok (.iaload, 1) := by decide +kernel
theorem dX12_four_168 : decode cX12_four 168 = .ok (.aload_n 0, 1) := by decide +kernel
theorem dX12_four_169 : decode cX12_four 169 = .ok (.getfield 81, 3) := by decide +kernel
theorem dX12_four_172 : decode cX12_four 172 = .ok (.iload 4, 2) := by decide +kernel
theorem dX12_four_174 : decode cX12_four 174 = .ok (.iconst 1, 1) := by decide +kernel
theorem dX12_four_175 : decode cX12_four 175 = .ok (.isub, 1) := by decide +kernel
theorem dX12_four_176 : decode cX12_four 176 = .ok (.iaload, 1) := by decide +kernel
theorem dX12_four_177 : decode cX12_four 177 = .ok (.if_icmp .ge 13, 3) := by decide +kernel
theorem dX12_four_180 : decode cX12_four 180 = .ok (.aload_n 0, 1) := by decide +kernel
theorem dX12_four_181 : decode cX12_four 181 = .ok (.getfield 81, 3) := by decide +kernel
theorem dX12_four_184 : decode cX12_four 184 = .ok (.iload 4, 2) := by decide +kernel
theorem dX12_four_186 : decode cX12_four 186 = .ok (.iaload, 1) := by decide +kernel
theorem dX12_four_187 : decode cX12_four 187 = .ok (.goto 12, 3) := by decide +kernel
theorem dX12_four_190 : decode cX12_four 190 = .ok (.aload_n 0, 1) := by decide +kernel
theorem dX12_four_191 : decode cX12_four 191 = .ok (.getfield 81, 3) := by decide +kernel
theorem dX12_four_194 : decode cX12_four 194 = .ok (.iload 4, 2) := by decide +kernel
theorem dX12_four_196 : decode cX12_four 196 = .ok (.iconst 1, 1) := by decide +kernel
theorem dX12_four_197 : decode cX12_four 197 = .ok (.isub, 1) := by decide +kernel
theorem dX12_four_198 : decode cX12_four 198 = .ok (.iaload, 1) := by decide +kernel
theorem dX12_four_199 : decode cX12_four 199 = .ok (.istore 5, 2) := by decide +kernel
theorem dX12_four_201 : decode cX12_four 201 = .ok (.aload_n 0, 1) := by decide +kernel
theorem dX12_four_202 : decode cX12_four 202 = .ok (.getfield 84, 3) := by decide +kernel
theorem dX12_four_205 : decode cX12_four 205 = .ok (.iload 4, 2) := by decide +kernel
theorem dX12_four_207 : decode cX12_four 207 = .ok (.iaload, 1) := by decide +kernel
theorem dX12_four_208 : decode cX12_four 208 = .ok (.aload_n 0, 1) := by decide +kernel
theorem dX12_four_209 : decode cX12_four 209 = .ok (.getfield 84, 3) := by decide +kernel
theorem dX12_four_212 : decode cX12_four 212 = .ok (.iload 4, 2) := by decide +kernel
theorem dX12_four_214 : decode cX12_four 214 = .ok (.iconst 1, 1) := by decide +kernel
theorem dX12_four_215 : decode cX12_four 215 = .ok (.isub, 1) := by decide +kernel
theorem dX12_four_216 : decode cX12_four 216 = .ok (.iaload, 1) := by decide +kernel
theorem dX12_four_217 : decode cX12_four 217 = .ok (.if_icmp .ge 13, 3) := by decide +kernel
theorem dX12_four_220 : decode cX12_four 220 = .ok (.aload_n 0, 1) := by decide +kernel
theorem dX12_four_221 : decode cX12_four 221 = .ok (.getfield 84, 3) := by decide +kernel
theorem dX12_four_224 : decode cX12_four 224 = .ok (.iload 4, 2) := by decide +kernel
theorem dX12_four_226 : decode cX12_four 226 = .ok (.iaload, 1) := by decide +kernel
theorem dX12_four_227 : decode cX12_four 227 = .ok (.goto 12, 3) := by decide +kernel
theorem dX12_four_230 : decode cX12_four 230 = .ok (.aload_n 0, 1) := by decide +kernel
theorem dX12_four_231 : decode cX12_four 231 = .ok (.getfield 84, 3) := by decide +kernel
theorem dX12_four_234 : decode cX12_four 234 = .ok (.iload 4, 2) := by decide +kernel
theorem dX12_four_236 : decode cX12_four 236 = .ok (.iconst 1, 1) := by decide +kernel
theorem dX12_four_237 : decode cX12_four 237 = .ok (.isub, 1) := by decide +kernel
theorem dX12_four_238 : decode cX12_four 238 = .ok (.iaload, 1) := by decide +kernel
theorem dX12_four_239 : decode cX12_four 239 = .ok (.istore 6, 2) := by decide +kernel
theorem dX12_four_241 : decode cX12_four 241 = .ok (.aload_n 0, 1) := by decide +kernel
theorem dX12_four_242 : decode cX12_four 242 = .ok (.getfield 84, 3) := by decide +kernel
theorem dX12_four_245 : decode cX12_four 245 = .ok (.iload 4, 2) := by decide +kernel
theorem dX12_four_247 : decode cX12_four 247 = .ok (.iaload, 1) := by decide +kernel
theorem dX12_four_248 : decode cX12_four 248 = .ok (.aload_n 0, 1) := by decide +kernel
theorem dX12_four_249 : decode cX12_four 249 = .ok (.getfield 84, 3) := by decide +kernel
theorem dX12_four_252 : decode cX12_four 252 = .ok (.iload 4, 2) := by decide +kernel
theorem dX12_four_254 : decode cX12_four 254 = .ok (.iconst 1, 1) := by decide +kernel
theorem dX12_four_255 : decode cX12_four 255 = .ok (.isub, 1) := by decide +kernel
theorem dX12_four_256 : decode cX12_four 256 = .ok (.iaload, 1) := by decide +kernel
theorem dX12_four_257 : decode cX12_four 257 = .ok (.if_icmp .ne 29, 3) := by decide +kernel
theorem dX12_four_260 : decode cX12_four 260 = .ok (.aload_n 0, 1) := by decide +kernel
theorem dX12_four_261 : decode cX12_four 261 = .ok (.getfield 99, 3) := by decide +kernel
theorem dX12_four_264 : decode cX12_four 264 = .ok (.bipush 61, 2) := by decide +kernel
theorem dX12_four_266 : decode cX12_four 266 = .ok (.iload 6, 2) := by decide +kernel
theorem dX12_four_268 : decode cX12_four 268 = .ok (.bipush 30, 2) := by decide +kernel
theorem dX12_four_270 : decode cX12_four 270 = .ok (.iadd, 1) := by decide +kernel
theorem dX12_four_271 : decode cX12_four 271 = .ok (.imul, 1) := by decide +kernel
theorem dX12_four_272 : decode cX12_four 272 = .ok (.iload 5, 2) := by decide +kernel
theorem dX12_four_274 : decode cX12_four 274 = .ok (.iadd, 1) := by decide +kernel
theorem dX12_four_275 : decode cX12_four 275 = .ok (.bipush 30, 2) := by decide +kernel
theorem dX12_four_277 : decode cX12_four 277 = .ok (.iadd, 1) := by decide +kernel
theorem dX12_four_278 : decode cX12_four 278 = .ok (.dup2, 1) := by decide +kernel
theorem dX12_four_279 : decode cX12_four 279 = .ok (.iaload, 1) := by decide +kernel
theorem dX12_four_280 : decode cX12_four 280 = .ok (.iconst 1, 1) := by decide +kernel
theorem dX12_four_281 : decode cX12_four 281 = .ok (.iadd, 1) := by decide +kernel
theorem dX12_four_282 : decode cX12_four 282 = .ok (.iastore, 1) := by decide +kernel
theorem dX12_four_283 : decode cX12_four 283 = .ok (.goto 26, 3) := by decide +kernel
theorem dX12_four_286 : decode cX12_four 286 = .ok (.aload_n 0, 1) := by decide +kernel
theorem dX12_four_287 : decode cX12_four 287 = .ok (.getfield 102, 3) := by decide +kernel
theorem dX12_four_290 : decode cX12_four 290 = .ok (.bipush 61, 2) := by decide +kernel
theorem dX12_four_292 : decode cX12_four 292 = .ok (.iload 6, 2) := by decide +kernel
theorem dX12_four_294 : decode cX12_four 294 = .ok (.bipush 30, 2) := by decide +kernel
theorem dX12_four_296 : decode cX12_four 296 = .ok (.iadd, 1) := by decide +kernel
theorem dX12_four_297 : decode cX12_four 297 = .ok (.imul, 1) := by decide +kernel
theorem dX12_four_298 : decode cX12_four 298 = .ok (.iload 5, 2) := by decide +kernel
theorem dX12_four_300 : decode cX12_four 300 = .ok (.iadd, 1) := by decide +kernel
theorem dX12_four_301 : decode cX12_four 301 = .ok (.bipush 30, 2) := by decide +kernel
theorem dX12_four_303 : decode cX12_four 303 = .ok (.iadd, 1) := by decide +kernel
theorem dX12_four_304 : decode cX12_four 304 = .ok (.dup2, 1) := by decide +kernel
theorem dX12_four_305 : decode cX12_four 305 = .ok (.iaload, 1) := by decide +kernel
theorem dX12_four_306 : decode cX12_four 306 = .ok (.iconst 1, 1) := by decide +kernel
theorem dX12_four_307 : decode cX12_four 307 = .ok (.iadd, 1) := by decide +kernel
theorem dX12_four_308 : decode cX12_four 308 = .ok (.iastore, 1) := by decide +kernel
theorem dX12_four_309 : decode cX12_four 309 = .ok (.iinc 4 1, 3) := by decide +kernel
theorem dX12_four_312 : decode cX12_four 312 = .ok (.goto (-206), 3) := by decide +kernel
theorem dX12_four_315 : decode cX12_four 315 = .ok (.iinc 3 1, 3) := by decide +kernel
theorem dX12_four_318 : decode cX12_four 318 = .ok (.goto (-235), 3) := by decide +kernel
theorem dX12_four_321 : decode cX12_four 321 = .ok (.iconst 0, 1) := by decide +kernel
theorem dX12_four_322 : decode cX12_four 322 = .ok (.istore_n 3, 1) := by decide +kernel
theorem dX12_four_323 : decode cX12_four 323 = .ok (.iload_n 3, 1) := by decide +kernel
theorem dX12_four_324 : decode cX12_four 324 = .ok (.bipush 30, 2) := by decide +kernel
theorem dX12_four_326 : decode cX12_four 326 = .ok (.if_icmp .ge 19, 3) := by decide +kernel
theorem dX12_four_329 : decode cX12_four 329 = .ok (.aload_n 0, 1) := by decide +kernel
theorem dX12_four_330 : decode cX12_four 330 = .ok (.iload_n 3, 1) := by decide +kernel
theorem dX12_four_331 : decode cX12_four 331 = .ok (.iconst 1, 1) := by decide +kernel
theorem dX12_four_332 : decode cX12_four 332 = .ok (.iadd, 1) := by decide +kernel
theorem dX12_four_333 : decode cX12_four 333 = .ok (.invokevirtual 306, 3) := by decide +kernel
theorem dX12_four_336 : decode cX12_four 336 = .ok (.ifCond .eq 9, 3) := by decide +kernel
theorem dX12_four_339 : decode cX12_four 339 = .ok (.iinc 3 1, 3) := by decide +kernel
theorem dX12_four_342 : decode cX12_four 342 = .ok (.goto (-19), 3) := by decide +kernel
theorem dX12_four_345 : decode cX12_four 345 = .ok (.iload_n 3, 1) := by decide +kernel
theorem dX12_four_346 : decode cX12_four 346 = .ok (.ireturn, 1) := by decide +kernel
theorem dX12_isOnce_0 : decode cX12_isOnce 0 = .ok (.iload_n 1, 1) := by decide +kernel
theorem dX12_isOnce_1 : decode cX12_isOnce 1 = .ok (.ineg, 1) := by decide +kernel
theorem dX12_isOnce_2 : decode cX12_isOnce 2 = .ok (.istore_n 2, 1) := by decide +kernel
theorem dX12_isOnce_3 : decode cX12_isOnce 3 = .ok (.iload_n 2, 1) := by decide +kernel
theorem dX12_isOnce_4 : decode cX12_isOnce 4 = .ok (.iload_n 1, 1) := by decide +kernel
theorem dX12_isOnce_5 : decode cX12_isOnce 5 = .ok (.if_icmp .gt 71, 3) := by decide +kernel
theorem dX12_isOnce_8 : decode cX12_isOnce 8 = .ok (.iload_n 1, 1) := by decide +kernel
theorem dX12_isOnce_9 : decode cX12_isOnce 9 = .ok (.ineg, 1) := by decide +kernel
theorem dX12_isOnce_10 : decode cX12_isOnce 10 = .ok (.istore_n 3, 1) := by decide +kernel
theorem dX12_isOnce_11 : decode cX12_isOnce 11 = .ok (.iload_n 3, 1) := by decide +kernel
theorem dX12_isOnce_12 : decode cX12_isOnce 12 = .ok (.iload_n 1, 1) := by decide +kernel
theorem dX12_isOnce_13 : decode cX12_isOnce 13 = .ok (.if_icmp .gt 57, 3) := by decide +kernel
theorem dX12_isOnce_16 : decode cX12_isOnce 16 = .ok (.bipush 61, 2) := by decide +kernel
theorem dX12_isOnce_18 : decode cX12_isOnce 18 = .ok (.iload_n 2, 1) := by decide +kernel
theorem dX12_isOnce_19 : decode cX12_isOnce 19 = .ok (.bipush 30, 2) := by decide +kernel
theorem dX12_isOnce_21 : decode cX12_isOnce 21 = .ok (.iadd, 1) := by decide +kernel
theorem dX12_isOnce_22 : decode cX12_isOnce 22 = .ok (.imul, 1) := by decide +kernel
theorem dX12_isOnce_23 : decode cX12_isOnce 23 = .ok (.iload_n 3, 1) := by decide +kernel
theorem dX12_isOnce_24 : decode cX12_isOnce 24 = .ok (.iadd, 1) := by decide +kernel
theorem dX12_isOnce_25 : decode cX12_isOnce 25 = .ok (.bipush 30, 2) := by decide +kernel
theorem dX12_isOnce_27 : decode cX12_isOnce 27 = .ok (.iadd, 1) := by decide +kernel
theorem dX12_isOnce_28 : decode cX12_isOnce 28 = .ok (.istore 4, 2) := by decide +kernel
theorem dX12_isOnce_30 : decode cX12_isOnce 30 = .ok (.iload_n 3, 1) := by decide +kernel
theorem dX12_isOnce_31 : decode cX12_isOnce 31 = .ok (.iload_n 1, 1) := by decide +kernel
theorem dX12_isOnce_32 : decode cX12_isOnce 32 = .ok (.if_icmp .ge 14, 3) := by decide +kernel
theorem dX12_isOnce_35 : decode cX12_isOnce 35 = .ok (.aload_n 0, 1) := by decide +kernel
theorem dX12_isOnce_36 : decode cX12_isOnce 36 = .ok (.getfield 99, 3) := by decide +kernel
theorem dX12_isOnce_39 : decode cX12_isOnce 39 = .ok (.iload 4, 2) := by decide +kernel
theorem dX12_isOnce_41 : decode cX12_isOnce 41 = .ok (.iaload, 1) := by decide +kernel
theorem dX12_isOnce_42 : decode cX12_isOnce 42 = .ok (.iconst 1, 1) := by decide +kernel
theorem dX12_isOnce_43 : decode cX12_isOnce 43 = .ok (.if_icmp .ne 19, 3) := by decide +kernel
theorem dX12_isOnce_46 : decode cX12_isOnce 46 = .ok (.iload_n 2, 1) := by decide +kernel
theorem dX12_isOnce_47 : decode cX12_isOnce 47 = .ok (.iload_n 1, 1) := by decide +kernel
theorem dX12_isOnce_48 : decode cX12_isOnce 48 = .ok (.if_icmp .ge 16, 3) := by decide +kernel
theorem dX12_isOnce_51 : decode cX12_isOnce 51 = .ok (.aload_n 0, 1) := by decide +kernel
theorem dX12_isOnce_52 : decode cX12_isOnce 52 = .ok (.getfield 102, 3) := by decide +kernel
theorem dX12_isOnce_55 : decode cX12_isOnce 55 = .ok (.iload 4, 2) := by decide +kernel
theorem dX12_isOnce_57 : decode cX12_isOnce 57 = .ok (.iaload, 1) := by decide +kernel
theorem dX12_isOnce_58 : decode cX12_isOnce 58 = .ok (.iconst 1, 1) := by decide +kernel
theorem dX12_isOnce_59 : decode cX12_isOnce 59 = .ok (.if_icmp .eq 5, 3) := by decide +kernel
theorem dX12_isOnce_62 : decode cX12_isOnce 62 = .ok (.iconst 0, 1) := by decide +kernel
theorem dX12_isOnce_63 : decode cX12_isOnce 63 = .ok (.ireturn, 1) := by decide +kernel
theorem dX12_isOnce_64 : decode cX12_isOnce 64 = .ok (.iinc 3 1, 3) := by decide +kernel
theorem dX12_isOnce_67 : decode cX12_isOnce 67 = .ok (.goto (-56), 3) := by decide +kernel
theorem dX12_isOnce_70 : decode cX12_isOnce 70 = .ok (.iinc 2 1, 3) := by decide +kernel
theorem dX12_isOnce_73 : decode cX12_isOnce 73 = .ok (.goto (-70), 3) := by decide +kernel
theorem dX12_isOnce_76 : decode cX12_isOnce 76 = .ok (.iconst 1, 1) := by decide +kernel
theorem dX12_isOnce_77 : decode cX12_isOnce 77 = .ok (.ireturn, 1) := by decide +kernel
theorem dX12_seen_0 : decode cX12_seen 0 = .ok (.aload_n 0, 1) := by decide +kernel
theorem dX12_seen_1 : decode cX12_seen 1 = .ok (.iconst 0, 1) := by decide +kernel
theorem dX12_seen_2 : decode cX12_seen 2 = .ok (.putfield 309, 3) := by decide +kernel
theorem dX12_seen_5 : decode cX12_seen 5 = .ok (.iload_n 2, 1) := by decide +kernel
theorem dX12_seen_6 : decode cX12_seen 6 = .ok (.aload_n 0, 1) := by decide +kernel
theorem dX12_seen_7 : decode cX12_seen 7 = .ok (.getfield 309, 3) := by decide +kernel
theorem dX12_seen_10 : decode cX12_seen 10 = .ok (.ishr, 1) := by decide +kernel
theorem dX12_seen_11 : decode cX12_seen 11 = .ok (.ifCond .le 16, 3) := by decide +kernel
theorem dX12_seen_14 : decode cX12_seen 14 = .ok (.aload_n 0, 1) := by decide +kernel
theorem dX12_seen_15 : decode cX12_seen 15 = .ok (.dup, 1) := by decide +kernel
theorem dX12_seen_16 : decode cX12_seen 16 = .ok (.getfield 309, 3) := by decide +kernel
theorem dX12_seen_19 : decode cX12_seen 19 = .ok (.iconst 1, 1) := by decide +kernel
theorem dX12_seen_20 : decode cX12_seen 20 = .ok (.iadd, 1) := by decide +kernel
theorem dX12_seen_21 : decode cX12_seen 21 = .ok (.putfield 309, 3) := by decide +kernel
theorem dX12_seen_24 : decode cX12_seen 24 = .ok (.goto (-19), 3) := by decide +kernel
theorem dX12_seen_27 : decode cX12_seen 27 = .ok (.iconst 0, 1) := by decide +kernel
theorem dX12_seen_28 : decode cX12_seen 28 = .ok (.istore_n 3, 1) := by decide +kernel
theorem dX12_seen_29 : decode cX12_seen 29 = .ok (.iload_n 3, 1) := by decide +kernel
theorem dX12_seen_30 : decode cX12_seen 30 = .ok (.bipush 6, 2) := by decide +kernel
theorem dX12_seen_32 : decode cX12_seen 32 = .ok (.if_icmp .ge 23, 3) := by decide +kernel
theorem dX12_seen_35 : decode cX12_seen 35 = .ok (.aload_n 0, 1) := by decide +kernel
theorem dX12_seen_36 : decode cX12_seen 36 = .ok (.getfield 105, 3) := by decide +kernel
theorem dX12_seen_39 : decode cX12_seen 39 = .ok (.iload_n 3, 1) := by decide +kernel
theorem dX12_seen_40 : decode cX12_seen 40 = .ok (.iconst 0, 1) := by decide +kernel
theorem dX12_seen_41 : decode cX12_seen 41 = .ok (.iastore, 1) := by decide +kernel
theorem dX12_seen_42 : decode cX12_seen 42 = .ok (.aload_n 0, 1) := by decide +kernel
theorem dX12_seen_43 : decode cX12_seen 43 = .ok (.getfield 108, 3) := by decide +kernel
theorem dX12_seen_46 : decode cX12_seen 46 = .ok (.iload_n 3, 1) := by decide +kernel
theorem dX12_seen_47 : decode cX12_seen 47 = .ok (.iconst 0, 1) := by decide +kernel
theorem dX12_seen_48 : decode cX12_seen 48 = .ok (.iastore, 1) := by decide +kernel
theorem dX12_seen_49 : decode cX12_seen 49 = .ok (.iinc 3 1, 3) := by decide +kernel
theorem dX12_seen_52 : decode cX12_seen 52 = .ok (.goto (-23), 3) := by decide +kernel
theorem dX12_seen_55 : decode cX12_seen 55 = .ok (.aload_n 0, 1) := by decide +kernel
theorem dX12_seen_56 : decode cX12_seen 56 = .ok (.iconst (-1), 1) := by decide +kernel
theorem dX12_seen_57 : decode cX12_seen 57 = .ok (.putfield 312, 3) := by decide +kernel
theorem dX12_seen_60 : decode cX12_seen 60 = .ok (.iconst 1, 1) := by decide +kernel
theorem dX12_seen_61 : decode cX12_seen 61 = .ok (.istore_n 3, 1) := by decide +kernel
theorem dX12_seen_62 : decode cX12_seen 62 = .ok (.iload_n 3, 1) := by decide +kernel
theorem dX12_seen_63 : decode cX12_seen 63 = .ok (.iload_n 2, 1) := by decide +kernel
theorem dX12_seen_64 : decode cX12_seen 64 = .ok (.if_icmp .gt 140, 3) := by decide +kernel
theorem dX12_seen_67 : decode cX12_seen 67 = .ok (.aload_n 0, 1) := by decide +kernel
theorem dX12_seen_68 : decode cX12_seen 68 = .ok (.iload_n 1, 1) := by decide +kernel
theorem dX12_seen_69 : decode cX12_seen 69 = .ok (.iload_n 3, 1) := by decide +kernel
theorem dX12_seen_70 : decode cX12_seen 70 = .ok (.iconst 1, 1) := by decide +kernel
theorem dX12_seen_71 : decode cX12_seen 71 = .ok (.isub, 1) := by decide +kernel
theorem dX12_seen_72 : decode cX12_seen 72 = .ok (.invokevirtual 315, 3) := by decide +kernel
theorem dX12_seen_75 : decode cX12_seen 75 = .ok (.istore 4, 2) := by decide +kernel
theorem dX12_seen_77 : decode cX12_seen 77 = .ok (.iconst 0, 1) := by decide +kernel
theorem dX12_seen_78 : decode cX12_seen 78 = .ok (.istore 5, 2) := by decide +kernel
theorem dX12_seen_80 : decode cX12_seen 80 = .ok (.iload_n 3, 1) := by decide +kernel
theorem dX12_seen_81 : decode cX12_seen 81 = .ok (.istore 6, 2) := by decide +kernel
theorem dX12_seen_83 : decode cX12_seen 83 = .ok (.iload 4, 2) := by decide +kernel
theorem dX12_seen_85 : decode cX12_seen 85 = .ok (.ifCond .eq 12, 3) := by decide +kernel
theorem dX12_seen_88 : decode cX12_seen 88 = .ok (.iload 4, 2) := by decide +kernel
theorem dX12_seen_90 : decode cX12_seen 90 = .ok (.iconst 1, 1) := by decide +kernel
theorem dX12_seen_91 : decode cX12_seen 91 = .ok (.if_icmp .eq 6, 3) := by decide +kernel
theorem dX12_seen_94 : decode cX12_seen 94 = .ok (.goto 104, 3) := by decide +kernel
theorem dX12_seen_97 : decode cX12_seen 97 = .ok (.iload 6, 2) := by decide +kernel
theorem dX12_seen_99 : decode cX12_seen 99 = .ok (.iconst 2, 1) := by decide +kernel
theorem dX12_seen_100 : decode cX12_seen 100 = .ok (.irem, 1) := by decide +kernel
theorem dX12_seen_101 : decode cX12_seen 101 = .ok (.ifCond .ne 15, 3) := by decide +kernel
theorem dX12_seen_104 : decode cX12_seen 104 = .ok (.iload 6, 2) := by decide +kernel
theorem dX12_seen_106 : decode cX12_seen 106 = .ok (.iconst 2, 1) := by decide +kernel
theorem dX12_seen_107 : decode cX12_seen 107 = .ok (.idiv, 1) := by decide +kernel
theorem dX12_seen_108 : decode cX12_seen 108 = .ok (.istore 6, 2) := by decide +kernel
theorem dX12_seen_110 : decode cX12_seen 110 = .ok (.iinc 5 1, 3) := by decide +kernel
theorem dX12_seen_113 : decode cX12_seen 113 = .ok (.goto (-16), 3) := by decide +kernel
theorem dX12_seen_116 : decode cX12_seen 116 = .ok (.iload 6, 2) := by decide +kernel
theorem dX12_seen_118 : decode cX12_seen 118 = .ok (.iconst 4, 1) := by decide +kernel
theorem dX12_seen_119 : decode cX12_seen 119 = .ok (.irem, 1) := by decide +kernel
theorem dX12_seen_120 : decode cX12_seen 120 = .ok (.iconst 1, 1) := by decide +kernel
theorem dX12_seen_121 : decode cX12_seen 121 = .ok (.if_icmp .ne 8, 3) := by decide +kernel
theorem dX12_seen_124 : decode cX12_seen 124 = .ok (.iload 4, 2) := by decide +kernel
theorem dX12_seen_126 : decode cX12_seen 126 = .ok (.goto 7, 3) := by decide +kernel
theorem dX12_seen_129 : decode cX12_seen 129 = .ok (.iconst 1, 1) := by decide +kernel
theorem dX12_seen_130 : decode cX12_seen 130 = .ok (.iload 4, 2) := by decide +kernel
theorem dX12_seen_132 : decode cX12_seen 132 = .ok (.isub, 1) := by decide +kernel
theorem dX12_seen_133 : decode cX12_seen 133 = .ok (.istore 7, 2) := by decide +kernel
theorem dX12_seen_135 : decode cX12_seen 135 = .ok (.iload 7, 2) := by decide +kernel
theorem dX12_seen_137 : decode cX12_seen 137 = .ok (.ifCond .ne 17, 3) := by decide +kernel
theorem dX12_seen_140 : decode cX12_seen 140 = .ok (.aload_n 0, 1) := by decide +kernel
theorem dX12_seen_141 : decode cX12_seen 141 = .ok (.getfield 105, 3) := by decide +kernel
theorem dX12_seen_144 : decode cX12_seen 144 = .ok (.iload 5, 2) := by decide +kernel
theorem dX12_seen_146 : decode cX12_seen 146 = .ok (.dup2, 1) := by decide +kernel
theorem dX12_seen_147 : decode cX12_seen 147 = .ok (.iaload, 1) := by decide +kernel
theorem dX12_seen_148 : decode cX12_seen 148 = .ok (.iconst 1, 1) := by decide +kernel
theorem dX12_seen_149 : decode cX12_seen 149 = .ok (.iadd, 1) := by decide +kernel
theorem dX12_seen_150 : decode cX12_seen 150 = .ok (.iastore, 1) := by decide +kernel
theorem dX12_seen_151 : decode cX12_seen 151 = .ok (.goto 14, 3) := by decide +kernel
theorem dX12_seen_154 : decode cX12_seen 154 = .ok (.aload_n 0, 1) := by decide +kernel
theorem dX12_seen_155 : decode cX12_seen 155 = .ok (.getfield 108, 3) := by decide +kernel
theorem dX12_seen_158 : decode cX12_seen 158 = .ok (.iload 5, 2) := by decide +kernel
theorem dX12_seen_160 : decode cX12_seen 160 = .ok (.dup2, 1) := by decide +kernel
theorem dX12_seen_161 : decode cX12_seen 161 = .ok (.iaload, 1) := by decide +kernel
theorem dX12_seen_162 : decode cX12_seen 162 = .ok (.iconst 1, 1) := by decide +kernel
theorem dX12_seen_163 : decode cX12_seen 163 = .ok (.iadd, 1) := by decide +kernel
theorem dX12_seen_164 : decode cX12_seen 164 = .ok (.iastore, 1) := by decide +kernel
theorem dX12_seen_165 : decode cX12_seen 165 = .ok (.aload_n 0, 1) := by decide +kernel
theorem dX12_seen_166 : decode cX12_seen 166 = .ok (.getfield 312, 3) := by decide +kernel
theorem dX12_seen_169 : decode cX12_seen 169 = .ok (.iconst (-1), 1) := by decide +kernel
theorem dX12_seen_170 : decode cX12_seen 170 = .ok (.if_icmp .ne 28, 3) := by decide +kernel
theorem dX12_seen_173 : decode cX12_seen 173 = .ok (.aload_n 0, 1) := by decide +kernel
theorem dX12_seen_174 : decode cX12_seen 174 = .ok (.getfield 105, 3) := by decide +kernel
theorem dX12_seen_177 : decode cX12_seen 177 = .ok (.iload 5, 2) := by decide +kernel
theorem dX12_seen_179 : decode cX12_seen 179 = .ok (.iaload, 1) := by decide +kernel
theorem dX12_seen_180 : decode cX12_seen 180 = .ok (.ifCond .le 18, 3) := by decide +kernel
theorem dX12_seen_183 : decode cX12_seen 183 = .ok (.aload_n 0, 1) := by decide +kernel
theorem dX12_seen_184 : decode cX12_seen 184 = .ok (.getfield 108, 3) := by decide +kernel
theorem dX12_seen_187 : decode cX12_seen 187 = .ok (.iload 5, 2) := by decide +kernel
theorem dX12_seen_189 : decode cX12_seen 189 = .ok (.iaload, 1) := by decide +kernel
theorem dX12_seen_190 : decode cX12_seen 190 = .ok (.ifCond .le 8, 3) := by decide +kernel
theorem dX12_seen_193 : decode cX12_seen 193 = .ok (.aload_n 0, 1) := by decide +kernel
theorem dX12_seen_194 : decode cX12_seen 194 = .ok (.iload_n 3, 1) := by decide +kernel
theorem dX12_seen_195 : decode cX12_seen 195 = .ok (.putfield 312, 3) := by decide +kernel
theorem dX12_seen_198 : decode cX12_seen 198 = .ok (.iinc 3 1, 3) := by decide +kernel
theorem dX12_seen_201 : decode cX12_seen 201 = .ok (.goto (-139), 3) := by decide +kernel
theorem dX12_seen_204 : decode cX12_seen 204 = .ok (.return_, 1) := by decide +kernel
theorem dX12_words_0 : decode cX12_words 0 = .ok (.aload_n 0, 1) := by decide +kernel
theorem dX12_words_1 : decode cX12_words 1 = .ok (.iload_n 1, 1) := by decide +kernel
theorem dX12_words_2 : decode cX12_words 2 = .ok (.iload_n 2, 1) := by decide +kernel
theorem dX12_words_3 : decode cX12_words 3 = .ok (.invokevirtual 159, 3) := by decide +kernel
theorem dX12_words_6 : decode cX12_words 6 = .ok (.istore 4, 2) := by decide +kernel
theorem dX12_words_8 : decode cX12_words 8 = .ok (.iload 4, 2) := by decide +kernel
theorem dX12_words_10 : decode cX12_words 10 = .ok (.ifCond .eq 10, 3) := by decide +kernel
theorem dX12_words_13 : decode cX12_words 13 = .ok (.aload_n 0, 1) := by decide +kernel
theorem dX12_words_14 : decode cX12_words 14 = .ok (.iload 4, 2) := by decide +kernel
theorem dX12_words_16 : decode cX12_words 16 = .ok (.invokevirtual 296, 3) := by decide +kernel
theorem dX12_words_19 : decode cX12_words 19 = .ok (.ireturn, 1) := by decide +kernel
theorem dX12_words_20 : decode cX12_words 20 = .ok (.iload_n 2, 1) := by decide +kernel
theorem dX12_words_21 : decode cX12_words 21 = .ok (.bipush 63, 2) := by decide +kernel
theorem dX12_words_23 : decode cX12_words 23 = .ok (.if_icmp .le 10, 3) := by decide +kernel
theorem dX12_words_26 : decode cX12_words 26 = .ok (.aload_n 0, 1) := by decide +kernel
theorem dX12_words_27 : decode cX12_words 27 = .ok (.bipush (-6), 2) := by decide +kernel
theorem dX12_words_29 : decode cX12_words 29 = .ok (.invokevirtual 296, 3) := by decide +kernel
theorem dX12_words_32 : decode cX12_words 32 = .ok (.ireturn, 1) := by decide +kernel
theorem dX12_words_33 : decode cX12_words 33 = .ok (.aload_n 0, 1) := by decide +kernel
theorem dX12_words_34 : decode cX12_words 34 = .ok (.iload_n 1, 1) := by decide +kernel
theorem dX12_words_35 : decode cX12_words 35 = .ok (.iload_n 2, 1) := by decide +kernel
theorem dX12_words_36 : decode cX12_words 36 = .ok (.invokevirtual 318, 3) := by decide +kernel
theorem dX12_words_39 : decode cX12_words 39 = .ok (.iload_n 3, 1) := by decide +kernel
theorem dX12_words_40 : decode cX12_words 40 = .ok (.iconst (-1), 1) := by decide +kernel
theorem dX12_words_41 : decode cX12_words 41 = .ok (.if_icmp .eq 45, 3) := by decide +kernel
theorem dX12_words_44 : decode cX12_words 44 = .ok (.iload_n 3, 1) := by decide +kernel
theorem dX12_words_45 : decode cX12_words 45 = .ok (.ifCond .lt 19, 3) := by decide +kernel
theorem dX12_words_48 : decode cX12_words 48 = .ok (.iload_n 3, 1) := by decide +kernel
theorem dX12_words_49 : decode cX12_words 49 = .ok (.aload_n 0, 1) := by decide +kernel
theorem dX12_words_50 : decode cX12_words 50 = .ok (.getfield 309, 3) := by decide +kernel
theorem dX12_words_53 : decode cX12_words 53 = .ok (.if_icmp .ge 11, 3) := by decide +kernel
theorem dX12_words_56 : decode cX12_words 56 = .ok (.aload_n 0, 1) := by decide +kernel
theorem dX12_words_57 : decode cX12_words 57 = .ok (.getfield 312, 3) := by decide +kernel
theorem dX12_words_60 : decode cX12_words 60 = .ok (.iconst (-1), 1) := by decide +kernel
theorem dX12_words_61 : decode cX12_words 61 = .ok (.if_icmp .eq 10, 3) := by decide +kernel
theorem dX12_words_64 : decode cX12_words 64 = .ok (.aload_n 0, 1) := by decide +kernel
theorem dX12_words_65 : decode cX12_words 65 = .ok (.bipush (-5), 2) := by decide +kernel
theorem dX12_words_67 : decode cX12_words 67 = .ok (.invokevirtual 296, 3) := by decide +kernel
theorem dX12_words_70 : decode cX12_words 70 = .ok (.ireturn, 1) := by decide +kernel
theorem dX12_words_71 : decode cX12_words 71 = .ok (.aload_n 0, 1) := by decide +kernel
theorem dX12_words_72 : decode cX12_words 72 = .ok (.getfield 108, 3) := by decide +kernel
theorem dX12_words_75 : decode cX12_words 75 = .ok (.iload_n 3, 1) := by decide +kernel
theorem dX12_words_76 : decode cX12_words 76 = .ok (.iaload, 1) := by decide +kernel
theorem dX12_words_77 : decode cX12_words 77 = .ok (.ifCond .le 7, 3) := by decide +kernel
theorem dX12_words_80 : decode cX12_words 80 = .ok (.iconst 1, 1) := by decide +kernel
theorem dX12_words_81 : decode cX12_words 81 = .ok (.goto 4, 3) := by decide +kernel
theorem dX12_words_84 : decode cX12_words 84 = .ok (.iconst 0, 1) := by decide +kernel
theorem dX12_words_85 : decode cX12_words 85 = .ok (.ireturn, 1) := by decide +kernel
theorem dX12_words_86 : decode cX12_words 86 = .ok (.aload_n 0, 1) := by decide +kernel
theorem dX12_words_87 : decode cX12_words 87 = .ok (.getfield 312, 3) := by decide +kernel
theorem dX12_words_90 : decode cX12_words 90 = .ok (.iconst (-1), 1) := by decide +kernel
theorem dX12_words_91 : decode cX12_words 91 = .ok (.if_icmp .eq 5, 3) := by decide +kernel
theorem dX12_words_94 : decode cX12_words 94 = .ok (.iconst (-1), 1) := by decide +kernel
theorem dX12_words_95 : decode cX12_words 95 = .ok (.ireturn, 1) := by decide +kernel
theorem dX12_words_96 : decode cX12_words 96 = .ok (.iconst 0, 1) := by decide +kernel
theorem dX12_words_97 : decode cX12_words 97 = .ok (.istore 5, 2) := by decide +kernel
theorem dX12_words_99 : decode cX12_words 99 = .ok (.iconst 0, 1) := by decide +kernel
theorem dX12_words_100 : decode cX12_words 100 = .ok (.istore 6, 2) := by decide +kernel
theorem dX12_words_102 : decode cX12_words 102 = .ok (.iload 6, 2) := by decide +kernel
theorem dX12_words_104 : decode cX12_words 104 = .ok (.aload_n 0, 1) := by decide +kernel
theorem dX12_words_105 : decode cX12_words 105 = .ok (.getfield 309, 3) := by decide +kernel
theorem dX12_words_108 : decode cX12_words 108 = .ok (.if_icmp .ge 30, 3) := by decide +kernel
theorem dX12_words_111 : decode cX12_words 111 = .ok (.aload_n 0, 1) := by decide +kernel
theorem dX12_words_112 : decode cX12_words 112 = .ok (.getfield 105, 3) := by decide +kernel
theorem dX12_words_115 : decode cX12_words 115 = .ok (.iload 6, 2) := by decide +kernel
theorem dX12_words_117 : decode cX12_words 117 = .ok (.iaload, 1) := by decide +kernel
theorem dX12_words_118 : decode cX12_words 118 = .ok (.aload_n 0, 1) := by decide +kernel
theorem dX12_words_119 : decode cX12_words 119 = .ok (.getfield 108, 3) := by decide +kernel
theorem dX12_words_122 : decode cX12_words 122 = .ok (.iload 6, 2) := by decide +kernel
theorem dX12_words_124 : decode cX12_words 124 = .ok (.iaload, 1) := by decide +kernel
theorem dX12_words_125 : decode cX12_words 125 = .ok (.iadd, 1) := by decide +kernel
theorem dX12_words_126 : decode cX12_words 126 = .ok (.ifCond .ne 6, 3) := by decide +kernel
theorem dX12_words_129 : decode cX12_words 129 = .ok (.iinc 5 1, 3) := by decide +kernel
theorem dX12_words_132 : decode cX12_words 132 = .ok (.iinc 6 1, 3) := by decide +kernel
theorem dX12_words_135 : decode cX12_words 135 = .ok (.goto (-33), 3) := by decide +kernel
theorem dX12_words_138 : decode cX12_words 138 = .ok (.iload 5, 2) := by decide +kernel
theorem dX12_words_140 : decode cX12_words 140 = .ok (.ireturn, 1) := by decide +kernel
theorem dX12_wrong_0 : decode cX12_wrong 0 = .ok (.aload_n 0, 1) := by decide +kernel
theorem dX12_wrong_1 : decode cX12_wrong 1 = .ok (.iload_n 1, 1) := by decide +kernel
theorem dX12_wrong_2 : decode cX12_wrong 2 = .ok (.iload_n 2, 1) := by decide +kernel
theorem dX12_wrong_3 : decode cX12_wrong 3 = .ok (.invokevirtual 159, 3) := by decide +kernel
theorem dX12_wrong_6 : decode cX12_wrong 6 = .ok (.istore_n 3, 1) := by decide +kernel
theorem dX12_wrong_7 : decode cX12_wrong 7 = .ok (.iload_n 3, 1) := by decide +kernel
theorem dX12_wrong_8 : decode cX12_wrong 8 = .ok (.ifCond .eq 9, 3) := by decide +kernel
theorem dX12_wrong_11 : decode cX12_wrong 11 = .ok (.aload_n 0, 1) := by decide +kernel
theorem dX12_wrong_12 : decode cX12_wrong 12 = .ok (.iload_n 3, 1) := by decide +kernel
theorem dX12_wrong_13 : decode cX12_wrong 13 = .ok (.invokevirtual 296, 3) := by decide +kernel
theorem dX12_wrong_16 : decode cX12_wrong 16 = .ok (.ireturn, 1) := by decide +kernel
theorem dX12_wrong_17 : decode cX12_wrong 17 = .ok (.iload_n 2, 1) := by decide +kernel
theorem dX12_wrong_18 : decode cX12_wrong 18 = .ok (.bipush 63, 2) := by decide +kernel
theorem dX12_wrong_20 : decode cX12_wrong 20 = .ok (.if_icmp .le 10, 3) := by decide +kernel
theorem dX12_wrong_23 : decode cX12_wrong 23 = .ok (.aload_n 0, 1) := by decide +kernel
theorem dX12_wrong_24 : decode cX12_wrong 24 = .ok (.bipush (-6), 2) := by decide +kernel
theorem dX12_wrong_26 : decode cX12_wrong 26 = .ok (.invokevirtual 296, 3) := by decide +kernel
theorem dX12_wrong_29 : decode cX12_wrong 29 = .ok (.ireturn, 1) := by decide +kernel
theorem dX12_wrong_30 : decode cX12_wrong 30 = .ok (.aload_n 0, 1) := by decide +kernel
theorem dX12_wrong_31 : decode cX12_wrong 31 = .ok (.iload_n 1, 1) := by decide +kernel
theorem dX12_wrong_32 : decode cX12_wrong 32 = .ok (.iload_n 2, 1) := by decide +kernel
theorem dX12_wrong_33 : decode cX12_wrong 33 = .ok (.invokevirtual 318, 3) := by decide +kernel
theorem dX12_wrong_36 : decode cX12_wrong 36 = .ok (.aload_n 0, 1) := by decide +kernel
theorem dX12_wrong_37 : decode cX12_wrong 37 = .ok (.getfield 312, 3) := by decide +kernel
theorem dX12_wrong_40 : decode cX12_wrong 40 = .ok (.ireturn, 1) := by decide +kernel
theorem dX12_mend_0 : decode cX12_mend 0 = .ok (.aload_n 0, 1) := by decide +kernel
theorem dX12_mend_1 : decode cX12_mend 1 = .ok (.iload_n 1, 1) := by decide +kernel
theorem dX12_mend_2 : decode cX12_mend 2 = .ok (.iload_n 2, 1) := by decide +kernel
theorem dX12_mend_3 : decode cX12_mend 3 = .ok (.invokevirtual 159, 3) := by decide +kernel
theorem dX12_mend_6 : decode cX12_mend 6 = .ok (.istore_n 3, 1) := by decide +kernel
theorem dX12_mend_7 : decode cX12_mend 7 = .ok (.iload_n 3, 1) := by decide +kernel
theorem dX12_mend_8 : decode cX12_mend 8 = .ok (.ifCond .eq 9, 3) := by decide +kernel
theorem dX12_mend_11 : decode cX12_mend 11 = .ok (.aload_n 0, 1) := by decide +kernel
theorem dX12_mend_12 : decode cX12_mend 12 = .ok (.iload_n 3, 1) := by decide +kernel
theorem dX12_mend_13 : decode cX12_mend 13 = .ok (.invokevirtual 136, 3) := by decide +kernel
theorem dX12_mend_16 : decode cX12_mend 16 = .ok (.ireturn, 1) := by decide +kernel
theorem dX12_mend_17 : decode cX12_mend 17 = .ok (.iload_n 2, 1) := by decide +kernel
theorem dX12_mend_18 : decode cX12_mend 18 = .ok (.bipush 63, 2) := by decide +kernel
theorem dX12_mend_20 : decode cX12_mend 20 = .ok (.if_icmp .le 10, 3) := by decide +kernel
theorem dX12_mend_23 : decode cX12_mend 23 = .ok (.aload_n 0, 1) := by decide +kernel
theorem dX12_mend_24 : decode cX12_mend 24 = .ok (.bipush (-6), 2) := by decide +kernel
theorem dX12_mend_26 : decode cX12_mend 26 = .ok (.invokevirtual 136, 3) := by decide +kernel
theorem dX12_mend_29 : decode cX12_mend 29 = .ok (.ireturn, 1) := by decide +kernel
theorem dX12_mend_30 : decode cX12_mend 30 = .ok (.aload_n 0, 1) := by decide +kernel
theorem dX12_mend_31 : decode cX12_mend 31 = .ok (.iload_n 1, 1) := by decide +kernel
theorem dX12_mend_32 : decode cX12_mend 32 = .ok (.iload_n 2, 1) := by decide +kernel
theorem dX12_mend_33 : decode cX12_mend 33 = .ok (.invokevirtual 318, 3) := by decide +kernel
theorem dX12_mend_36 : decode cX12_mend 36 = .ok (.iconst 0, 1) := by decide +kernel
theorem dX12_mend_37 : decode cX12_mend 37 = .ok (.istore 4, 2) := by decide +kernel
theorem dX12_mend_39 : decode cX12_mend 39 = .ok (.iconst 0, 1) := by decide +kernel
theorem dX12_mend_40 : decode cX12_mend 40 = .ok (.istore 5, 2) := by decide +kernel
theorem dX12_mend_42 : decode cX12_mend 42 = .ok (.iload 5, 2) := by decide +kernel
theorem dX12_mend_44 : decode cX12_mend 44 = .ok (.aload_n 0, 1) := by decide +kernel
theorem dX12_mend_45 : decode cX12_mend 45 = .ok (.getfield 309, 3) := by decide +kernel
theorem dX12_mend_48 : decode cX12_mend 48 = .ok (.if_icmp .ge 48, 3) := by decide +kernel
theorem dX12_mend_51 : decode cX12_mend 51 = .ok (.iload 4, 2) := by decide +kernel
theorem dX12_mend_53 : decode cX12_mend 53 = .ok (.aload_n 0, 1) := by decide +kernel
theorem dX12_mend_54 : decode cX12_mend 54 = .ok (.getfield 105, 3) := by decide +kernel
theorem dX12_mend_57 : decode cX12_mend 57 = .ok (.iload 5, 2) := by decide +kernel
theorem dX12_mend_59 : decode cX12_mend 59 = .ok (.iaload, 1) := by decide +kernel
theorem dX12_mend_60 : decode cX12_mend 60 = .ok (.aload_n 0, 1) := by decide +kernel
theorem dX12_mend_61 : decode cX12_mend 61 = .ok (.getfield 108, 3) := by decide +kernel
theorem dX12_mend_64 : decode cX12_mend 64 = .ok (.iload 5, 2) := by decide +kernel
theorem dX12_mend_66 : decode cX12_mend 66 = .ok (.iaload, 1) := by decide +kernel
theorem dX12_mend_67 : decode cX12_mend 67 = .ok (.if_icmp .ge 13, 3) := by decide +kernel
theorem dX12_mend_70 : decode cX12_mend 70 = .ok (.aload_n 0, 1) := by decide +kernel
theorem dX12_mend_71 : decode cX12_mend 71 = .ok (.getfield 105, 3) := by decide +kernel
theorem dX12_mend_74 : decode cX12_mend 74 = .ok (.iload 5, 2) := by decide +kernel
theorem dX12_mend_76 : decode cX12_mend 76 = .ok (.iaload, 1) := by decide +kernel
theorem dX12_mend_77 : decode cX12_mend 77 = .ok (.goto 10, 3) := by decide +kernel
theorem dX12_mend_80 : decode cX12_mend 80 = .ok (.aload_n 0, 1) := by decide +kernel
theorem dX12_mend_81 : decode cX12_mend 81 = .ok (.getfield 108, 3) := by decide +kernel
theorem dX12_mend_84 : decode cX12_mend 84 = .ok (.iload 5, 2) := by decide +kernel
theorem dX12_mend_86 : decode cX12_mend 86 = .ok (.iaload, 1) := by decide +kernel
theorem dX12_mend_87 : decode cX12_mend 87 = .ok (.iadd, 1) := by decide +kernel
theorem dX12_mend_88 : decode cX12_mend 88 = .ok (.istore 4, 2) := by decide +kernel
theorem dX12_mend_90 : decode cX12_mend 90 = .ok (.iinc 5 1, 3) := by decide +kernel
theorem dX12_mend_93 : decode cX12_mend 93 = .ok (.goto (-51), 3) := by decide +kernel
theorem dX12_mend_96 : decode cX12_mend 96 = .ok (.iload 4, 2) := by decide +kernel
theorem dX12_mend_98 : decode cX12_mend 98 = .ok (.ireturn, 1) := by decide +kernel
theorem dX12_judge_0 : decode cX12_judge 0 = .ok (.aload_n 0, 1) := by decide +kernel
theorem dX12_judge_1 : decode cX12_judge 1 = .ok (.iload_n 1, 1) := by decide +kernel
theorem dX12_judge_2 : decode cX12_judge 2 = .ok (.invokevirtual 140, 3) := by decide +kernel
theorem dX12_judge_5 : decode cX12_judge 5 = .ok (.ifCond .ne 9, 3) := by decide +kernel
theorem dX12_judge_8 : decode cX12_judge 8 = .ok (.aload_n 0, 1) := by decide +kernel
theorem dX12_judge_9 : decode cX12_judge 9 = .ok (.iconst (-1), 1) := by decide +kernel
theorem dX12_judge_10 : decode cX12_judge 10 = .ok (.invokevirtual 296, 3) := by decide +kernel
theorem dX12_judge_13 : decode cX12_judge 13 = .ok (.ireturn, 1) := by decide +kernel
theorem dX12_judge_14 : decode cX12_judge 14 = .ok (.aload_n 0, 1) := by decide +kernel
theorem dX12_judge_15 : decode cX12_judge 15 = .ok (.iload_n 2, 1) := by decide +kernel
theorem dX12_judge_16 : decode cX12_judge 16 = .ok (.iload_n 3, 1) := by decide +kernel
theorem dX12_judge_17 : decode cX12_judge 17 = .ok (.invokevirtual 159, 3) := by decide +kernel
theorem dX12_judge_20 : decode cX12_judge 20 = .ok (.istore 4, 2) := by decide +kernel
theorem dX12_judge_22 : decode cX12_judge 22 = .ok (.iload 4, 2) := by decide +kernel
theorem dX12_judge_24 : decode cX12_judge 24 = .ok (.ifCond .ne 18, 3) := by decide +kernel
theorem dX12_judge_27 : decode cX12_judge 27 = .ok (.iload_n 3, 1) := by decide +kernel
theorem dX12_judge_28 : decode cX12_judge 28 = .ok (.i2l, 1) := by decide +kernel
theorem dX12_judge_29 : decode cX12_judge 29 = .ok (.aload_n 0, 1) := by decide +kernel
theorem dX12_judge_30 : decode cX12_judge 30 = .ok (.iload_n 1, 1) := by decide +kernel
theorem dX12_judge_31 : decode cX12_judge 31 = .ok (.invokevirtual 143, 3) := by decide +kernel
theorem dX12_judge_34 : decode cX12_judge 34 = .ok (.lcmp, 1) := by decide +kernel
theorem dX12_judge_35 : decode cX12_judge 35 = .ok (.ifCond .le 7, 3) := by decide +kernel
theorem dX12_judge_38 : decode cX12_judge 38 = .ok (.bipush (-5), 2) := by decide +kernel
theorem dX12_judge_40 : decode cX12_judge 40 = .ok (.istore 4, 2) := by decide +kernel
theorem dX12_judge_42 : decode cX12_judge 42 = .ok (.iload 4, 2) := by decide +kernel
theorem dX12_judge_44 : decode cX12_judge 44 = .ok (.ifCond .eq 10, 3) := by decide +kernel
theorem dX12_judge_47 : decode cX12_judge 47 = .ok (.aload_n 0, 1) := by decide +kernel
theorem dX12_judge_48 : decode cX12_judge 48 = .ok (.iload 4, 2) := by decide +kernel
theorem dX12_judge_50 : decode cX12_judge 50 = .ok (.invokevirtual 296, 3) := by decide +kernel
theorem dX12_judge_53 : decode cX12_judge 53 = .ok (.ireturn, 1) := by decide +kernel
theorem dX12_judge_54 : decode cX12_judge 54 = .ok (.iload_n 3, 1) := by decide +kernel
theorem dX12_judge_55 : decode cX12_judge 55 = .ok (.bipush 63, 2) := by decide +kernel
theorem dX12_judge_57 : decode cX12_judge 57 = .ok (.if_icmp .le 10, 3) := by decide +kernel
theorem dX12_judge_60 : decode cX12_judge 60 = .ok (.aload_n 0, 1) := by decide +kernel
theorem dX12_judge_61 : decode cX12_judge 61 = .ok (.bipush (-6), 2) := by decide +kernel
theorem dX12_judge_63 : decode cX12_judge 63 = .ok (.invokevirtual 296, 3) := by decide +kernel
theorem dX12_judge_66 : decode cX12_judge 66 = .ok (.ireturn, 1) := by decide +kernel
theorem dX12_judge_67 : decode cX12_judge 67 = .ok (.iconst 1, 1) := by decide +kernel
theorem dX12_judge_68 : decode cX12_judge 68 = .ok (.istore 5, 2) := by decide +kernel
theorem dX12_judge_70 : decode cX12_judge 70 = .ok (.iload 5, 2) := by decide +kernel
theorem dX12_judge_72 : decode cX12_judge 72 = .ok (.iload_n 3, 1) := by decide +kernel
theorem dX12_judge_73 : decode cX12_judge 73 = .ok (.if_icmp .gt 47, 3) := by decide +kernel
theorem dX12_judge_76 : decode cX12_judge 76 = .ok (.aload_n 0, 1) := by decide +kernel
theorem dX12_judge_77 : decode cX12_judge 77 = .ok (.iload_n 2, 1) := by decide +kernel
theorem dX12_judge_78 : decode cX12_judge 78 = .ok (.iload 5, 2) := by decide +kernel
theorem dX12_judge_80 : decode cX12_judge 80 = .ok (.iconst 1, 1) := by decide +kernel
theorem dX12_judge_81 : decode cX12_judge 81 = .ok (.isub, 1) := by decide +kernel
theorem dX12_judge_82 : decode cX12_judge 82 = .ok (.invokevirtual 315, 3) := by decide +kernel
theorem dX12_judge_85 : decode cX12_judge 85 = .ok (.istore 6, 2) := by decide +kernel
theorem dX12_judge_87 : decode cX12_judge 87 = .ok (.iload 6, 2) := by decide +kernel
theorem dX12_judge_89 : decode cX12_judge 89 = .ok (.ifCond .eq 9, 3) := by decide +kernel
theorem dX12_judge_92 : decode cX12_judge 92 = .ok (.iload 6, 2) := by decide +kernel
theorem dX12_judge_94 : decode cX12_judge 94 = .ok (.iconst 1, 1) := by decide +kernel
theorem dX12_judge_95 : decode cX12_judge 95 = .ok (.if_icmp .ne 19, 3) := by decide +kernel
theorem dX12_judge_98 : decode cX12_judge 98 = .ok (.iload 6, 2) := by decide +kernel
theorem dX12_judge_100 : decode cX12_judge 100 = .ok (.aload_n 0, 1) := by decide +kernel
theorem dX12_judge_101 : decode cX12_judge 101 = .ok (.iload_n 1, 1) := by decide +kernel
theorem dX12_judge_102 : decode cX12_judge 102 = .ok (.iload 5, 2) := by decide +kernel
theorem dX12_judge_104 : decode cX12_judge 104 = .ok (.i2l, 1) := by decide +kernel
theorem dX12_judge_105 : decode cX12_judge 105 = .ok (.invokevirtual 152, 3) := by decide +kernel
theorem dX12_judge_108 : decode cX12_judge 108 = .ok (.if_icmp .eq 6, 3) := by decide +kernel
theorem dX12_judge_111 : decode cX12_judge 111 = .ok (.iload 5, 2) := by decide +kernel
theorem dX12_judge_113 : decode cX12_judge 113 = .ok (.ireturn, 1) := by decide +kernel
theorem dX12_judge_114 : decode cX12_judge 114 = .ok (.iinc 5 1, 3) := by decide +kernel
theorem dX12_judge_117 : decode cX12_judge 117 = .ok (.goto (-47), 3) := by decide +kernel
theorem dX12_judge_120 : decode cX12_judge 120 = .ok (.iconst (-1), 1) := by decide +kernel
theorem dX12_judge_121 : decode cX12_judge 121 = .ok (.ireturn, 1) := by decide +kernel
theorem dX12_endOf_0 : decode cX12_endOf 0 = .ok (.lconst 1, 1) := by decide +kernel
theorem dX12_endOf_1 : decode cX12_endOf 1 = .ok (.lstore_n 3, 1) := by decide +kernel
theorem dX12_endOf_2 : decode cX12_endOf 2 = .ok (.lconst 0, 1) := by decide +kernel
theorem dX12_endOf_3 : decode cX12_endOf 3 = .ok (.lstore 5, 2) := by decide +kernel
theorem dX12_endOf_5 : decode cX12_endOf 5 = .ok (.lconst 1, 1) := by decide +kernel
theorem dX12_endOf_6 : decode cX12_endOf 6 = .ok (.lstore 7, 2) := by decide +kernel
theorem dX12_endOf_8 : decode cX12_endOf 8 = .ok (.lconst 0, 1) := by decide +kernel
theorem dX12_endOf_9 : decode cX12_endOf 9 = .ok (.lstore 9, 2) := by decide +kernel
theorem dX12_endOf_11 : decode cX12_endOf 11 = .ok (.iconst 0, 1) := by decide +kernel
theorem dX12_endOf_12 : decode cX12_endOf 12 = .ok (.istore 11, 2) := by decide +kernel
theorem dX12_endOf_14 : decode cX12_endOf 14 = .ok (.iconst 0, 1) := by decide +kernel
theorem dX12_endOf_15 : decode cX12_endOf 15 = .ok (.istore 12, 2) := by decide +kernel
theorem dX12_endOf_17 : decode cX12_endOf 17 = .ok (.iconst 0, 1) := by decide +kernel
theorem dX12_endOf_18 : decode cX12_endOf 18 = .ok (.istore 13, 2) := by decide +kernel
theorem dX12_endOf_20 : decode cX12_endOf 20 = .ok (.iload 13, 2) := by decide +kernel
theorem dX12_endOf_22 : decode cX12_endOf 22 = .ok (.iload_n 1, 1) := by decide +kernel
theorem dX12_endOf_23 : decode cX12_endOf 23 = .ok (.if_icmp .ge 127, 3) := by decide +kernel
theorem dX12_endOf_26 : decode cX12_endOf 26 = .ok (.iload_n 2, 1) := by decide +kernel
theorem dX12_endOf_27 : decode cX12_endOf 27 = .ok (.iload 13, 2) := by decide +kernel
theorem dX12_endOf_29 : decode cX12_endOf 29 = .ok (.ishr, 1) := by decide +kernel
theorem dX12_endOf_30 : decode cX12_endOf 30 = .ok (.iconst 1, 1) := by decide +kernel
theorem dX12_endOf_31 : decode cX12_endOf 31 = .ok (.iand, 1) := by decide +kernel
theorem dX12_endOf_32 : decode cX12_endOf 32 = .ok (.iconst 1, 1) := by decide +kernel
theorem dX12_endOf_33 : decode cX12_endOf 33 = .ok (.if_icmp .ne 7, 3) := by decide +kernel
theorem dX12_endOf_36 : decode cX12_endOf 36 = .ok (.iconst 1, 1) := by decide +kernel
theorem dX12_endOf_37 : decode cX12_endOf 37 = .ok (.goto 4, 3) := by decide +kernel
theorem dX12_endOf_40 : decode cX12_endOf 40 = .ok (.iconst (-1), 1) := by decide +kernel
theorem dX12_endOf_41 : decode cX12_endOf 41 = .ok (.istore 14, 2) := by decide +kernel
theorem dX12_endOf_43 : decode cX12_endOf 43 = .ok (.iload 11, 2) := by decide +kernel
theorem dX12_endOf_45 : decode cX12_endOf 45 = .ok (.iload 14, 2) := by decide +kernel
theorem dX12_endOf_47 : decode cX12_endOf 47 = .ok (.iadd, 1) := by decide +kernel
theorem dX12_endOf_48 : decode cX12_endOf 48 = .ok (.istore 15, 2) := by decide +kernel
theorem dX12_endOf_50 : decode cX12_endOf 50 = .ok (.iload 11, 2) := by decide +kernel
theorem dX12_endOf_52 : decode cX12_endOf 52 = .ok (.iload 14, 2) := by decide +kernel
theorem dX12_endOf_54 : decode cX12_endOf 54 = .ok (.isub, 1) := by decide +kernel
theorem dX12_endOf_55 : decode cX12_endOf 55 = .ok (.istore 16, 2) := by decide +kernel
theorem dX12_endOf_57 : decode cX12_endOf 57 = .ok (.lload_n 3, 1) := by decide +kernel
theorem dX12_endOf_58 : decode cX12_endOf 58 = .ok (.aload_n 0, 1) := by decide +kernel
theorem dX12_endOf_59 : decode cX12_endOf 59 = .ok (.lload 7, 2) := by decide +kernel
theorem dX12_endOf_61 : decode cX12_endOf 61 = .ok (.lload 9, 2) := by decide +kernel
theorem dX12_endOf_63 : decode cX12_endOf 63 = .ok (.iload 15, 2) := by decide +kernel
theorem dX12_endOf_65 : decode cX12_endOf 65 = .ok (.invokevirtual 248, 3) := by decide +kernel
theorem dX12_endOf_68 : decode cX12_endOf 68 = .ok (.ladd, 1) := by decide +kernel
theorem dX12_endOf_69 : decode cX12_endOf 69 = .ok (.lstore 17, 2) := by decide +kernel
theorem dX12_endOf_71 : decode cX12_endOf 71 = .ok (.lload 5, 2) := by decide +kernel
theorem dX12_endOf_73 : decode cX12_endOf 73 = .ok (.aload_n 0, 1) := by decide +kernel
theorem dX12_endOf_74 : decode cX12_endOf 74 = .ok (.lload 7, 2) := by decide +kernel
theorem dX12_endOf_76 : decode cX12_endOf 76 = .ok (.lload 9, 2) := by decide +kernel
theorem dX12_endOf_78 : decode cX12_endOf 78 = .ok (.iload 15, 2) := by decide +kernel
theorem dX12_endOf_80 : decode cX12_endOf 80 = .ok (.invokevirtual 252, 3) := by decide +kernel
theorem dX12_endOf_83 : decode cX12_endOf 83 = .ok (.ladd, 1) := by decide +kernel
theorem dX12_endOf_84 : decode cX12_endOf 84 = .ok (.lstore 19, 2) := by decide +kernel
theorem dX12_endOf_86 : decode cX12_endOf 86 = .ok (.lload_n 3, 1) := by decide +kernel
theorem dX12_endOf_87 : decode cX12_endOf 87 = .ok (.aload_n 0, 1) := by decide +kernel
theorem dX12_endOf_88 : decode cX12_endOf 88 = .ok (.lload 7, 2) := by decide +kernel
theorem dX12_endOf_90 : decode cX12_endOf 90 = .ok (.lload 9, 2) := by decide +kernel
theorem dX12_endOf_92 : decode cX12_endOf 92 = .ok (.iload 16, 2) := by decide +kernel
theorem dX12_endOf_94 : decode cX12_endOf 94 = .ok (.invokevirtual 248, 3) := by decide +kernel
theorem dX12_endOf_97 : decode cX12_endOf 97 = .ok (.ladd, 1) := by decide +kernel
theorem dX12_endOf_98 : decode cX12_endOf 98 = .ok (.lstore 21, 2) := by decide +kernel
theorem dX12_endOf_100 : decode cX12_endOf 100 = .ok (.lload 5, 2) := by decide +kernel
theorem dX12_endOf_102 : decode cX12_endOf 102 = .ok (.aload_n 0, 1) := by decide +kernel
theorem dX12_endOf_103 : decode cX12_endOf 103 = .ok (.lload 7, 2) := by decide +kernel
theorem dX12_endOf_105 : decode cX12_endOf 105 = .ok (.lload 9, 2) := by decide +kernel
theorem dX12_endOf_107 : decode cX12_endOf 107 = .ok (.iload 16, 2) := by decide +kernel
theorem dX12_endOf_109 : decode cX12_endOf 109 = .ok (.invokevirtual 252, 3) := by decide +kernel
theorem dX12_endOf_112 : decode cX12_endOf 112 = .ok (.ladd, 1) := by decide +kernel
theorem dX12_endOf_113 : decode cX12_endOf 113 = .ok (.lstore 23, 2) := by decide +kernel
theorem dX12_endOf_115 : decode cX12_endOf 115 = .ok (.iload 15, 2) := by decide +kernel
theorem dX12_endOf_117 : decode cX12_endOf 117 = .ok (.iload 12, 2) := by decide +kernel
theorem dX12_endOf_119 : decode cX12_endOf 119 = .ok (.iadd, 1) := by decide +kernel
theorem dX12_endOf_120 : decode cX12_endOf 120 = .ok (.istore 11, 2) := by decide +kernel
theorem dX12_endOf_122 : decode cX12_endOf 122 = .ok (.iload 16, 2) := by decide +kernel
theorem dX12_endOf_124 : decode cX12_endOf 124 = .ok (.iload 12, 2) := by decide +kernel
theorem dX12_endOf_126 : decode cX12_endOf 126 = .ok (.iadd, 1) := by decide +kernel
theorem dX12_endOf_127 : decode cX12_endOf 127 = .ok (.istore 12, 2) := by decide +kernel
theorem dX12_endOf_129 : decode cX12_endOf 129 = .ok (.lload 17, 2) := by decide +kernel
theorem dX12_endOf_131 : decode cX12_endOf 131 = .ok (.lstore_n 3, 1) := by decide +kernel
theorem dX12_endOf_132 : decode cX12_endOf 132 = .ok (.lload 19, 2) := by decide +kernel
theorem dX12_endOf_134 : decode cX12_endOf 134 = .ok (.lstore 5, 2) := by decide +kernel
theorem dX12_endOf_136 : decode cX12_endOf 136 = .ok (.lload 21, 2) := by decide +kernel
theorem dX12_endOf_138 : decode cX12_endOf 138 = .ok (.lstore 7, 2) := by decide +kernel
theorem dX12_endOf_140 : decode cX12_endOf 140 = .ok (.lload 23, 2) := by decide +kernel
theorem dX12_endOf_142 : decode cX12_endOf 142 = .ok (.lstore 9, 2) := by decide +kernel
theorem dX12_endOf_144 : decode cX12_endOf 144 = .ok (.iinc 13 1, 3) := by decide +kernel
theorem dX12_endOf_147 : decode cX12_endOf 147 = .ok (.goto (-127), 3) := by decide +kernel
theorem dX12_endOf_150 : decode cX12_endOf 150 = .ok (.aload_n 0, 1) := by decide +kernel
theorem dX12_endOf_151 : decode cX12_endOf 151 = .ok (.lload_n 3, 1) := by decide +kernel
theorem dX12_endOf_152 : decode cX12_endOf 152 = .ok (.putfield 259, 3) := by decide +kernel
theorem dX12_endOf_155 : decode cX12_endOf 155 = .ok (.aload_n 0, 1) := by decide +kernel
theorem dX12_endOf_156 : decode cX12_endOf 156 = .ok (.lload 5, 2) := by decide +kernel
theorem dX12_endOf_158 : decode cX12_endOf 158 = .ok (.putfield 262, 3) := by decide +kernel
theorem dX12_endOf_161 : decode cX12_endOf 161 = .ok (.return_, 1) := by decide +kernel
theorem dX12_ends_0 : decode cX12_ends 0 = .ok (.iload 4, 2) := by decide +kernel
theorem dX12_ends_2 : decode cX12_ends 2 = .ok (.ifCond .lt 9, 3) := by decide +kernel
theorem dX12_ends_5 : decode cX12_ends 5 = .ok (.iload 4, 2) := by decide +kernel
theorem dX12_ends_7 : decode cX12_ends 7 = .ok (.iconst 1, 1) := by decide +kernel
theorem dX12_ends_8 : decode cX12_ends 8 = .ok (.if_icmp .le 10, 3) := by decide +kernel
theorem dX12_ends_11 : decode cX12_ends 11 = .ok (.aload_n 0, 1) := by decide +kernel
theorem dX12_ends_12 : decode cX12_ends 12 = .ok (.bipush (-5), 2) := by decide +kernel
theorem dX12_ends_14 : decode cX12_ends 14 = .ok (.invokevirtual 136, 3) := by decide +kernel
theorem dX12_ends_17 : decode cX12_ends 17 = .ok (.ireturn, 1) := by decide +kernel
theorem dX12_ends_18 : decode cX12_ends 18 = .ok (.iload_n 1, 1) := by decide +kernel
theorem dX12_ends_19 : decode cX12_ends 19 = .ok (.iconst 1, 1) := by decide +kernel
theorem dX12_ends_20 : decode cX12_ends 20 = .ok (.if_icmp .lt 9, 3) := by decide +kernel
theorem dX12_ends_23 : decode cX12_ends 23 = .ok (.iload_n 1, 1) := by decide +kernel
theorem dX12_ends_24 : decode cX12_ends 24 = .ok (.bipush 10, 2) := by decide +kernel
theorem dX12_ends_26 : decode cX12_ends 26 = .ok (.if_icmp .le 10, 3) := by decide +kernel
theorem dX12_ends_29 : decode cX12_ends 29 = .ok (.aload_n 0, 1) := by decide +kernel
theorem dX12_ends_30 : decode cX12_ends 30 = .ok (.bipush (-6), 2) := by decide +kernel
theorem dX12_ends_32 : decode cX12_ends 32 = .ok (.invokevirtual 136, 3) := by decide +kernel
theorem dX12_ends_35 : decode cX12_ends 35 = .ok (.ireturn, 1) := by decide +kernel
theorem dX12_ends_36 : decode cX12_ends 36 = .ok (.iconst 0, 1) := by decide +kernel
theorem dX12_ends_37 : decode cX12_ends 37 = .ok (.istore 5, 2) := by decide +kernel
theorem dX12_ends_39 : decode cX12_ends 39 = .ok (.iconst (-1), 1) := by decide +kernel
theorem dX12_ends_40 : decode cX12_ends 40 = .ok (.istore 6, 2) := by decide +kernel
theorem dX12_ends_42 : decode cX12_ends 42 = .ok (.iconst 0, 1) := by decide +kernel
theorem dX12_ends_43 : decode cX12_ends 43 = .ok (.istore 7, 2) := by decide +kernel
theorem dX12_ends_45 : decode cX12_ends 45 = .ok (.iload 7, 2) := by decide +kernel
theorem dX12_ends_47 : decode cX12_ends 47 = .ok (.iconst 1, 1) := by decide +kernel
theorem dX12_ends_48 : decode cX12_ends 48 = .ok (.iload_n 1, 1) := by decide +kernel
theorem dX12_ends_49 : decode cX12_ends 49 = .ok (.ishl, 1) := by decide +kernel
theorem dX12_ends_50 : decode cX12_ends 50 = .ok (.if_icmp .ge 57, 3) := by decide +kernel
theorem dX12_ends_53 : decode cX12_ends 53 = .ok (.aload_n 0, 1) := by decide +kernel
theorem dX12_ends_54 : decode cX12_ends 54 = .ok (.iload_n 1, 1) := by decide +kernel
theorem dX12_ends_55 : decode cX12_ends 55 = .ok (.iload 7, 2) := by decide +kernel
theorem dX12_ends_57 : decode cX12_ends 57 = .ok (.invokevirtual 322, 3) := by decide +kernel
theorem dX12_ends_60 : decode cX12_ends 60 = .ok (.aload_n 0, 1) := by decide +kernel
theorem dX12_ends_61 : decode cX12_ends 61 = .ok (.getfield 259, 3) := by decide +kernel
theorem dX12_ends_64 : decode cX12_ends 64 = .ok (.iload_n 2, 1) := by decide +kernel
theorem dX12_ends_65 : decode cX12_ends 65 = .ok (.i2l, 1) := by decide +kernel
theorem dX12_ends_66 : decode cX12_ends 66 = .ok (.lcmp, 1) := by decide +kernel
theorem dX12_ends_67 : decode cX12_ends 67 = .ok (.ifCond .ne 34, 3) := by decide +kernel
theorem dX12_ends_70 : decode cX12_ends 70 = .ok (.aload_n 0, 1) := by decide +kernel
theorem dX12_ends_71 : decode cX12_ends 71 = .ok (.getfield 262, 3) := by decide +kernel
theorem dX12_ends_74 : decode cX12_ends 74 = .ok (.iload_n 3, 1) := by decide +kernel
theorem dX12_ends_75 : decode cX12_ends 75 = .ok (.i2l, 1) := by decide +kernel
theorem dX12_ends_76 : decode cX12_ends 76 = .ok (.lcmp, 1) := by decide +kernel
theorem dX12_ends_77 : decode cX12_ends 77 = .ok (.ifCond .eq 6, 3) := by decide +kernel
theorem dX12_ends_80 : decode cX12_ends 80 = .ok (.goto 21, 3) := by decide +kernel
theorem dX12_ends_83 : decode cX12_ends 83 = .ok (.iinc 5 1, 3) := by decide +kernel
theorem dX12_ends_86 : decode cX12_ends 86 = .ok (.iload 6, 2) := by decide +kernel
theorem dX12_ends_88 : decode cX12_ends 88 = .ok (.iconst (-1), 1) := by decide +kernel
theorem dX12_ends_89 : decode cX12_ends 89 = .ok (.if_icmp .ne 8, 3) := by decide +kernel
theorem dX12_ends_92 : decode cX12_ends 92 = .ok (.iload 7, 2) := by decide +kernel
theorem dX12_ends_94 : decode cX12_ends 94 = .ok (.goto 5, 3) := by decide +kernel
theorem dX12_ends_97 : decode cX12_ends 97 = .ok (.iload 6, 2) := by decide +kernel
theorem dX12_ends_99 : decode cX12_ends 99 = .ok (.istore 6, 2) := by decide +kernel
theorem dX12_ends_101 : decode cX12_ends 101 = .ok (.iinc 7 1, 3) := by decide +kernel
theorem dX12_ends_104 : decode cX12_ends 104 = .ok (.goto (-59), 3) := by decide +kernel
theorem dX12_ends_107 : decode cX12_ends 107 = .ok (.iload 4, 2) := by decide +kernel
theorem dX12_ends_109 : decode cX12_ends 109 = .ok (.ifCond .ne 6, 3) := by decide +kernel
theorem dX12_ends_112 : decode cX12_ends 112 = .ok (.iload 5, 2) := by decide +kernel
theorem dX12_ends_114 : decode cX12_ends 114 = .ok (.ireturn, 1) := by decide +kernel
theorem dX12_ends_115 : decode cX12_ends 115 = .ok (.iload 6, 2) := by decide +kernel
theorem dX12_ends_117 : decode cX12_ends 117 = .ok (.iconst (-1), 1) := by decide +kernel
theorem dX12_ends_118 : decode cX12_ends 118 = .ok (.if_icmp .ne 12, 3) := by decide +kernel
theorem dX12_ends_121 : decode cX12_ends 121 = .ok (.aload_n 0, 1) := by decide +kernel
theorem dX12_ends_122 : decode cX12_ends 122 = .ok (.bipush (-5), 2) := by decide +kernel
theorem dX12_ends_124 : decode cX12_ends 124 = .ok (.invokevirtual 136, 3) := by decide +kernel
theorem dX12_ends_127 : decode cX12_ends 127 = .ok (.goto 5, 3) := by decide +kernel
theorem dX12_ends_130 : decode cX12_ends 130 = .ok (.iload 6, 2) := by decide +kernel
theorem dX12_ends_132 : decode cX12_ends 132 = .ok (.ireturn, 1) := by decide +kernel
theorem dX12_piece_0 : decode cX12_piece 0 = .ok (.aload_n 0, 1) := by decide +kernel
theorem dX12_piece_1 : decode cX12_piece 1 = .ok (.iload_n 1, 1) := by decide +kernel
theorem dX12_piece_2 : decode cX12_piece 2 = .ok (.invokevirtual 140, 3) := by decide +kernel
theorem dX12_piece_5 : decode cX12_piece 5 = .ok (.ifCond .ne 9, 3) := by decide +kernel
theorem dX12_piece_8 : decode cX12_piece 8 = .ok (.aload_n 0, 1) := by decide +kernel
theorem dX12_piece_9 : decode cX12_piece 9 = .ok (.iconst (-1), 1) := by decide +kernel
theorem dX12_piece_10 : decode cX12_piece 10 = .ok (.invokevirtual 136, 3) := by decide +kernel
theorem dX12_piece_13 : decode cX12_piece 13 = .ok (.ireturn, 1) := by decide +kernel
theorem dX12_piece_14 : decode cX12_piece 14 = .ok (.aload_n 0, 1) := by decide +kernel
theorem dX12_piece_15 : decode cX12_piece 15 = .ok (.iload_n 2, 1) := by decide +kernel
theorem dX12_piece_16 : decode cX12_piece 16 = .ok (.iload_n 3, 1) := by decide +kernel
theorem dX12_piece_17 : decode cX12_piece 17 = .ok (.invokevirtual 159, 3) := by decide +kernel
theorem dX12_piece_20 : decode cX12_piece 20 = .ok (.istore 5, 2) := by decide +kernel
theorem dX12_piece_22 : decode cX12_piece 22 = .ok (.iload 5, 2) := by decide +kernel
theorem dX12_piece_24 : decode cX12_piece 24 = .ok (.ifCond .ne 18, 3) := by decide +kernel
theorem dX12_piece_27 : decode cX12_piece 27 = .ok (.iload 4, 2) := by decide +kernel
theorem dX12_piece_29 : decode cX12_piece 29 = .ok (.ifCond .lt 9, 3) := by decide +kernel
theorem dX12_piece_32 : decode cX12_piece 32 = .ok (.iload 4, 2) := by decide +kernel
theorem dX12_piece_34 : decode cX12_piece 34 = .ok (.iconst 1, 1) := by decide +kernel
theorem dX12_piece_35 : decode cX12_piece 35 = .ok (.if_icmp .le 7, 3) := by decide +kernel
theorem dX12_piece_38 : decode cX12_piece 38 = .ok (.bipush (-5), 2) := by decide +kernel
theorem dX12_piece_40 : decode cX12_piece 40 = .ok (.istore 5, 2) := by decide +kernel
theorem dX12_piece_42 : decode cX12_piece 42 = .ok (.iload 5, 2) := by decide +kernel
theorem dX12_piece_44 : decode cX12_piece 44 = .ok (.ifCond .eq 10, 3) := by decide +kernel
theorem dX12_piece_47 : decode cX12_piece 47 = .ok (.aload_n 0, 1) := by decide +kernel
theorem dX12_piece_48 : decode cX12_piece 48 = .ok (.iload 5, 2) := by decide +kernel
theorem dX12_piece_50 : decode cX12_piece 50 = .ok (.invokevirtual 136, 3) := by decide +kernel
theorem dX12_piece_53 : decode cX12_piece 53 = .ok (.ireturn, 1) := by decide +kernel
theorem dX12_piece_54 : decode cX12_piece 54 = .ok (.iload_n 3, 1) := by decide +kernel
theorem dX12_piece_55 : decode cX12_piece 55 = .ok (.iconst 1, 1) := by decide +kernel
theorem dX12_piece_56 : decode cX12_piece 56 = .ok (.if_icmp .lt 9, 3) := by decide +kernel
theorem dX12_piece_59 : decode cX12_piece 59 = .ok (.iload_n 3, 1) := by decide +kernel
theorem dX12_piece_60 : decode cX12_piece 60 = .ok (.bipush 40, 2) := by decide +kernel
theorem dX12_piece_62 : decode cX12_piece 62 = .ok (.if_icmp .le 10, 3) := by decide +kernel
theorem dX12_piece_65 : decode cX12_piece 65 = .ok (.aload_n 0, 1) := by decide +kernel
theorem dX12_piece_66 : decode cX12_piece 66 = .ok (.bipush (-6), 2) := by decide +kernel
theorem dX12_piece_68 : decode cX12_piece 68 = .ok (.invokevirtual 136, 3) := by decide +kernel
theorem dX12_piece_71 : decode cX12_piece 71 = .ok (.ireturn, 1) := by decide +kernel
theorem dX12_piece_72 : decode cX12_piece 72 = .ok (.aload_n 0, 1) := by decide +kernel
theorem dX12_piece_73 : decode cX12_piece 73 = .ok (.iload_n 1, 1) := by decide +kernel
theorem dX12_piece_74 : decode cX12_piece 74 = .ok (.invokevirtual 143, 3) := by decide +kernel
theorem dX12_piece_77 : decode cX12_piece 77 = .ok (.ldc2_w 294, 3) := by decide +kernel
theorem dX12_piece_80 : decode cX12_piece 80 = .ok (.lcmp, 1) := by decide +kernel
theorem dX12_piece_81 : decode cX12_piece 81 = .ok (.ifCond .ge 12, 3) := by decide +kernel
theorem dX12_piece_84 : decode cX12_piece 84 = .ok (.aload_n 0, 1) := by decide +kernel
theorem dX12_piece_85 : decode cX12_piece 85 = .ok (.iload_n 1, 1) := by decide +kernel
theorem dX12_piece_86 : decode cX12_piece 86 = .ok (.invokevirtual 143, 3) := by decide +kernel
theorem dX12_piece_89 : decode cX12_piece 89 = .ok (.l2i, 1) := by decide +kernel
theorem dX12_piece_90 : decode cX12_piece 90 = .ok (.goto 6, 3) := by decide +kernel
theorem dX12_piece_93 : decode cX12_piece 93 = .ok (.sipush 4000, 3) := by decide +kernel
theorem dX12_piece_96 : decode cX12_piece 96 = .ok (.istore 6, 2) := by decide +kernel
theorem dX12_piece_98 : decode cX12_piece 98 = .ok (.iconst 0, 1) := by decide +kernel
theorem dX12_piece_99 : decode cX12_piece 99 = .ok (.istore 7, 2) := by decide +kernel
theorem dX12_piece_101 : decode cX12_piece 101 = .ok (.iconst (-1), 1) := by decide +kernel
theorem dX12_piece_102 : decode cX12_piece 102 = .ok (.istore 8, 2) := by decide +kernel
theorem dX12_piece_104 : decode cX12_piece 104 = .ok (.iconst 1, 1) := by decide +kernel
theorem dX12_piece_105 : decode cX12_piece 105 = .ok (.istore 9, 2) := by decide +kernel
theorem dX12_piece_107 : decode cX12_piece 107 = .ok (.iload 9, 2) := by decide +kernel
theorem dX12_piece_109 : decode cX12_piece 109 = .ok (.iload 6, 2) := by decide +kernel
theorem dX12_piece_111 : decode cX12_piece 111 = .ok (.if_icmp .gt 24, 3) := by decide +kernel
theorem dX12_piece_114 : decode cX12_piece 114 = .ok (.aload_n 0, 1) := by decide +kernel
theorem dX12_piece_115 : decode cX12_piece 115 = .ok (.getfield 81, 3) := by decide +kernel
theorem dX12_piece_118 : decode cX12_piece 118 = .ok (.iload 9, 2) := by decide +kernel
theorem dX12_piece_120 : decode cX12_piece 120 = .ok (.aload_n 0, 1) := by decide +kernel
theorem dX12_piece_121 : decode cX12_piece 121 = .ok (.iload_n 1, 1) := by decide +kernel
theorem dX12_piece_122 : decode cX12_piece 122 = .ok (.iload 9, 2) := by decide +kernel
theorem dX12_piece_124 : decode cX12_piece 124 = .ok (.i2l, 1) := by decide +kernel
theorem dX12_piece_125 : decode cX12_piece 125 = .ok (.invokevirtual 152, 3) := by decide +kernel
theorem dX12_piece_128 : decode cX12_piece 128 = .ok (.iastore, 1) := by decide +kernel
theorem dX12_piece_129 : decode cX12_piece 129 = .ok (.iinc 9 1, 3) := by decide +kernel
theorem dX12_piece_132 : decode cX12_piece 132 = .ok (.goto (-25), 3) := by decide +kernel
theorem dX12_piece_135 : decode cX12_piece 135 = .ok (.iconst 1, 1) := by decide +kernel
theorem dX12_piece_136 : decode cX12_piece 136 = .ok (.istore 9, 2) := by decide +kernel
theorem dX12_piece_138 : decode cX12_piece 138 = .ok (.iload 9, 2) := by decide +kernel
theorem dX12_piece_140 : decode cX12_piece 140 = .ok (.iload_n 3, 1) := by decide +kernel
theorem dX12_piece_141 : decode cX12_piece 141 = .ok (.iadd, 1) := by decide +kernel
theorem dX12_piece_142 : decode cX12_piece 142 = .ok (.iconst 1, 1) := by decide +kernel
theorem dX12_piece_143 : decode cX12_piece 143 = .ok (.isub, 1) := by decide +kernel
theorem dX12_piece_144 : decode cX12_piece 144 = .ok (.iload 6, 2) := by decide +kernel
theorem dX12_piece_146 : decode cX12_piece 146 = .ok (.if_icmp .gt 106, 3) := by decide +kernel
theorem dX12_piece_149 : decode cX12_piece 149 = .ok (.iconst 1, 1) := by decide +kernel
theorem dX12_piece_150 : decode cX12_piece 150 = .ok (.istore 10, 2) := by decide +kernel
theorem dX12_piece_152 : decode cX12_piece 152 = .ok (.iconst 0, 1) := by decide +kernel
theorem dX12_piece_153 : decode cX12_piece 153 = .ok (.istore 11, 2) := by decide +kernel
theorem dX12_piece_155 : decode cX12_piece 155 = .ok (.iload 11, 2) := by decide +kernel
theorem dX12_piece_157 : decode cX12_piece 157 = .ok (.iload_n 3, 1) := by decide +kernel
theorem dX12_piece_158 : decode cX12_piece 158 = .ok (.if_icmp .ge 62, 3) := by decide +kernel
theorem dX12_piece_161 : decode cX12_piece 161 = .ok (.iload 10, 2) := by decide +kernel
theorem dX12_piece_163 : decode cX12_piece 163 = .ok (.ifCond .eq 57, 3) := by decide +kernel
theorem dX12_piece_166 : decode cX12_piece 166 = .ok (.aload_n 0, 1) := by decide +kernel
theorem dX12_piece_167 : decode cX12_piece 167 = .ok (.iload_n 2, 1) := by decide +kernel
theorem dX12_piece_168 : decode cX12_piece 168 = .ok (.iload 11, 2) := by decide +kernel
theorem dX12_piece_170 : decode cX12_piece 170 = .ok (.invokevirtual 315, 3) := by decide +kernel
theorem dX12_piece_173 : decode cX12_piece 173 = .ok (.aload_n 0, 1) := by decide +kernel
theorem dX12_piece_174 : decode cX12_piece 174 = .ok (.getfield 81, 3) := by decide +kernel
theorem dX12_piece_177 : decode cX12_piece 177 = .ok (.iload 9, 2) := by decide +kernel
theorem dX12_piece_179 : decode cX12_piece 179 = .ok (.iload 11, 2) := by decide +kernel
theorem dX12_piece_181 : decode cX12_piece 181 = .ok (.iadd, 1) := by decide +kernel
theorem dX12_piece_182 : decode cX12_piece 182 = .ok (.iaload, 1) := by decide +kernel
theorem dX12_piece_183 : decode cX12_piece 183 = .ok (.if_icmp .eq 24, 3) := by decide +kernel
theorem dX12_piece_186 : decode cX12_piece 186 = .ok (.aload_n 0, 1) := by decide +kernel
theorem dX12_piece_187 : decode cX12_piece 187 = .ok (.iload_n 2, 1) := by decide +kernel
theorem dX12_piece_188 : decode cX12_piece 188 = .ok (.iload 11, 2) := by decide +kernel
theorem dX12_piece_190 : decode cX12_piece 190 = .ok (.invokevirtual 315, 3) := by decide +kernel
theorem dX12_piece_193 : decode cX12_piece 193 = .ok (.ifCond .eq 18, 3) := by decide +kernel
theorem dX12_piece_196 : decode cX12_piece 196 = .ok (.aload_n 0, 1) := by decide +kernel
theorem dX12_piece_197 : decode cX12_piece 197 = .ok (.iload_n 2, 1) := by decide +kernel
theorem dX12_piece_198 : decode cX12_piece 198 = .ok (.iload 11, 2) := by decide +kernel
theorem dX12_piece_200 : decode cX12_piece 200 = .ok (.invokevirtual 315, 3) := by decide +kernel
theorem dX12_piece_203 : decode cX12_piece 203 = .ok (.iconst 1, 1) := by decide +kernel
theorem dX12_piece_204 : decode cX12_piece 204 = .ok (.if_icmp .eq 7, 3) := by decide +kernel
theorem dX12_piece_207 : decode cX12_piece 207 = .ok (.iconst 1, 1) := by decide +kernel
theorem dX12_piece_208 : decode cX12_piece 208 = .ok (.goto 4, 3) := by decide +kernel
theorem dX12_piece_211 : decode cX12_piece 211 = .ok (.iconst 0, 1) := by decide +kernel
theorem dX12_piece_212 : decode cX12_piece 212 = .ok (.istore 10, 2) := by decide +kernel
theorem dX12_piece_214 : decode cX12_piece 214 = .ok (.iinc 11 1, 3) := by decide +kernel
theorem dX12_piece_217 : decode cX12_piece 217 = .ok (.goto (-62), 3) := by decide +kernel
theorem dX12_piece_220 : decode cX12_piece 220 = .ok (.iload 10, 2) := by decide +kernel
theorem dX12_piece_222 : decode cX12_piece 222 = .ok (.ifCond .ne 6, 3) := by decide +kernel
theorem dX12_piece_225 : decode cX12_piece 225 = .ok (.goto 21, 3) := by decide +kernel
theorem dX12_piece_228 : decode cX12_piece 228 = .ok (.iinc 7 1, 3) := by decide +kernel
theorem dX12_piece_231 : decode cX12_piece 231 = .ok (.iload 8, 2) := by decide +kernel
theorem dX12_piece_233 : decode cX12_piece 233 = .ok (.iconst (-1), 1) := by decide +kernel
theorem dX12_piece_234 : decode cX12_piece 234 = .ok (.if_icmp .ne 8, 3) := by decide +kernel
theorem dX12_piece_237 : decode cX12_piece 237 = .ok (.iload 9, 2) := by decide +kernel
theorem dX12_piece_239 : decode cX12_piece 239 = .ok (.goto 5, 3) := by decide +kernel
theorem dX12_piece_242 : decode cX12_piece 242 = .ok (.iload 8, 2) := by decide +kernel
theorem dX12_piece_244 : decode cX12_piece 244 = .ok (.istore 8, 2) := by decide +kernel
theorem dX12_piece_246 : decode cX12_piece 246 = .ok (.iinc 9 1, 3) := by decide +kernel
theorem dX12_piece_249 : decode cX12_piece 249 = .ok (.goto (-111), 3) := by decide +kernel
theorem dX12_piece_252 : decode cX12_piece 252 = .ok (.iload 4, 2) := by decide +kernel
theorem dX12_piece_254 : decode cX12_piece 254 = .ok (.ifCond .ne 6, 3) := by decide +kernel
theorem dX12_piece_257 : decode cX12_piece 257 = .ok (.iload 7, 2) := by decide +kernel
theorem dX12_piece_259 : decode cX12_piece 259 = .ok (.ireturn, 1) := by decide +kernel
theorem dX12_piece_260 : decode cX12_piece 260 = .ok (.iload 8, 2) := by decide +kernel
theorem dX12_piece_262 : decode cX12_piece 262 = .ok (.iconst (-1), 1) := by decide +kernel
theorem dX12_piece_263 : decode cX12_piece 263 = .ok (.if_icmp .ne 12, 3) := by decide +kernel
theorem dX12_piece_266 : decode cX12_piece 266 = .ok (.aload_n 0, 1) := by decide +kernel
theorem dX12_piece_267 : decode cX12_piece 267 = .ok (.bipush (-5), 2) := by decide +kernel
theorem dX12_piece_269 : decode cX12_piece 269 = .ok (.invokevirtual 136, 3) := by decide +kernel
theorem dX12_piece_272 : decode cX12_piece 272 = .ok (.goto 5, 3) := by decide +kernel
theorem dX12_piece_275 : decode cX12_piece 275 = .ok (.iload 8, 2) := by decide +kernel
theorem dX12_piece_277 : decode cX12_piece 277 = .ok (.ireturn, 1) := by decide +kernel
theorem dX12_isCrossed_0 : decode cX12_isCrossed 0 = .ok (.iconst 0, 1) := by decide +kernel
theorem dX12_isCrossed_1 : decode cX12_isCrossed 1 = .ok (.istore_n 2, 1) := by decide +kernel
theorem dX12_isCrossed_2 : decode cX12_isCrossed 2 = .ok (.iload_n 2, 1) := by decide +kernel
theorem dX12_isCrossed_3 : decode cX12_isCrossed 3 = .ok (.iconst 1, 1) := by decide +kernel
theorem dX12_isCrossed_4 : decode cX12_isCrossed 4 = .ok (.iadd, 1) := by decide +kernel
theorem dX12_isCrossed_5 : decode cX12_isCrossed 5 = .ok (.iload_n 1, 1) := by decide +kernel
theorem dX12_isCrossed_6 : decode cX12_isCrossed 6 = .ok (.if_icmp .ge 155, 3) := by decide +kernel
theorem dX12_isCrossed_9 : decode cX12_isCrossed 9 = .ok (.aload_n 0, 1) := by decide +kernel
theorem dX12_isCrossed_10 : decode cX12_isCrossed 10 = .ok (.getfield 114, 3) := by decide +kernel
theorem dX12_isCrossed_13 : decode cX12_isCrossed 13 = .ok (.iload_n 2, 1) := by decide +kernel
theorem dX12_isCrossed_14 : decode cX12_isCrossed 14 = .ok (.iaload, 1) := by decide +kernel
theorem dX12_isCrossed_15 : decode cX12_isCrossed 15 = .ok (.aload_n 0, 1) := by decide +kernel
theorem dX12_isCrossed_16 : decode cX12_isCrossed 16 = .ok (.getfield 114, 3) := by decide +kernel
theorem dX12_isCrossed_19 : decode cX12_isCrossed 19 = .ok (.iload_n 2, 1) := by decide +kernel
theorem dX12_isCrossed_20 : decode cX12_isCrossed 20 = .ok (.iconst 1, 1) := by decide +kernel
theorem dX12_isCrossed_21 : decode cX12_isCrossed 21 = .ok (.iadd, 1) := by decide +kernel
theorem dX12_isCrossed_22 : decode cX12_isCrossed 22 = .ok (.iaload, 1) := by decide +kernel
theorem dX12_isCrossed_23 : decode cX12_isCrossed 23 = .ok (.if_icmp .ge 12, 3) := by decide +kernel
theorem dX12_isCrossed_26 : decode cX12_isCrossed 26 = .ok (.aload_n 0, 1) := by decide +kernel
theorem dX12_isCrossed_27 : decode cX12_isCrossed 27 = .ok (.getfield 114, 3) := by decide +kernel
theorem dX12_isCrossed_30 : decode cX12_isCrossed 30 = .ok (.iload_n 2, 1) := by decide +kernel
theorem dX12_isCrossed_31 : decode cX12_isCrossed 31 = .ok (.iaload, 1) := by decide +kernel
theorem dX12_isCrossed_32 : decode cX12_isCrossed 32 = .ok (.goto 11, 3) := by decide +kernel
theorem dX12_isCrossed_35 : decode cX12_isCrossed 35 = .ok (.aload_n 0, 1) := by decide +kernel
theorem dX12_isCrossed_36 : decode cX12_isCrossed 36 = .ok (.getfield 114, 3) := by decide +kernel
theorem dX12_isCrossed_39 : decode cX12_isCrossed 39 = .ok (.iload_n 2, 1) := by decide +kernel
theorem dX12_isCrossed_40 : decode cX12_isCrossed 40 = .ok (.iconst 1, 1) := by decide +kernel
theorem dX12_isCrossed_41 : decode cX12_isCrossed 41 = .ok (.iadd, 1) := by decide +kernel
theorem dX12_isCrossed_42 : decode cX12_isCrossed 42 = .ok (.iaload, 1) := by decide +kernel
theorem dX12_isCrossed_43 : decode cX12_isCrossed 43 = .ok (.istore_n 3, 1) := by decide +kernel
theorem dX12_isCrossed_44 : decode cX12_isCrossed 44 = .ok (.aload_n 0, 1) := by decide +kernel
theorem dX12_isCrossed_45 : decode cX12_isCrossed 45 = .ok (.getfield 114, 3) := by decide +kernel
theorem dX12_isCrossed_48 : decode cX12_isCrossed 48 = .ok (.iload_n 2, 1) := by decide +kernel
theorem dX12_isCrossed_49 : decode cX12_isCrossed 49 = .ok (.iaload, 1) := by decide +kernel
theorem dX12_isCrossed_50 : decode cX12_isCrossed 50 = .ok (.aload_n 0, 1) := by decide +kernel
theorem dX12_isCrossed_51 : decode cX12_isCrossed 51 = .ok (.getfield 114, 3) := by decide +kernel
theorem dX12_isCrossed_54 : decode cX12_isCrossed 54 = .ok (.iload_n 2, 1) := by decide +kernel
theorem dX12_isCrossed_55 : decode cX12_isCrossed 55 = .ok (.iconst 1, 1) := by decide +kernel
theorem dX12_isCrossed_56 : decode cX12_isCrossed 56 = .ok (.iadd, 1) := by decide +kernel
theorem dX12_isCrossed_57 : decode cX12_isCrossed 57 = .ok (.iaload, 1) := by decide +kernel
theorem dX12_isCrossed_58 : decode cX12_isCrossed 58 = .ok (.iadd, 1) := by decide +kernel
theorem dX12_isCrossed_59 : decode cX12_isCrossed 59 = .ok (.iload_n 3, 1) := by decide +kernel
theorem dX12_isCrossed_60 : decode cX12_isCrossed 60 = .ok (.isub, 1) := by decide +kernel
theorem dX12_isCrossed_61 : decode cX12_isCrossed 61 = .ok (.istore 4, 2) := by decide +kernel
theorem dX12_isCrossed_63 : decode cX12_isCrossed 63 = .ok (.iload_n 2, 1) := by decide +kernel
theorem dX12_isCrossed_64 : decode cX12_isCrossed 64 = .ok (.iconst 2, 1) := by decide +kernel
theorem dX12_isCrossed_65 : decode cX12_isCrossed 65 = .ok (.iadd, 1) := by decide +kernel
theorem dX12_isCrossed_66 : decode cX12_isCrossed 66 = .ok (.istore 5, 2) := by decide +kernel
theorem dX12_isCrossed_68 : decode cX12_isCrossed 68 = .ok (.iload 5, 2) := by decide +kernel
theorem dX12_isCrossed_70 : decode cX12_isCrossed 70 = .ok (.iconst 1, 1) := by decide +kernel
theorem dX12_isCrossed_71 : decode cX12_isCrossed 71 = .ok (.iadd, 1) := by decide +kernel
theorem dX12_isCrossed_72 : decode cX12_isCrossed 72 = .ok (.iload_n 1, 1) := by decide +kernel
theorem dX12_isCrossed_73 : decode cX12_isCrossed 73 = .ok (.if_icmp .ge 82, 3) := by decide +kernel
theorem dX12_isCrossed_76 : decode cX12_isCrossed 76 = .ok (.aload_n 0, 1) := by decide +kernel
theorem dX12_isCrossed_77 : decode cX12_isCrossed 77 = .ok (.getfield 114, 3) := by decide +kernel
theorem dX12_isCrossed_80 : decode cX12_isCrossed 80 = .ok (.iload 5, 2) := by decide +kernel
theorem dX12_isCrossed_82 : decode cX12_isCrossed 82 = .ok (.iaload, 1) := by decide +kernel
theorem dX12_isCrossed_83 : decode cX12_isCrossed 83 = .ok (.iload_n 3, 1) := by decide +kernel
theorem dX12_isCrossed_84 : decode cX12_isCrossed 84 = .ok (.if_icmp .le 19, 3) := by decide +kernel
theorem dX12_isCrossed_87 : decode cX12_isCrossed 87 = .ok (.aload_n 0, 1) := by decide +kernel
theorem dX12_isCrossed_88 : decode cX12_isCrossed 88 = .ok (.getfield 114, 3) := by decide +kernel
theorem dX12_isCrossed_91 : decode cX12_isCrossed 91 = .ok (.iload 5, 2) := by decide +kernel
theorem dX12_isCrossed_93 : decode cX12_isCrossed 93 = .ok (.iaload, 1) := by decide +kernel
theorem dX12_isCrossed_94 : decode cX12_isCrossed 94 = .ok (.iload 4, 2) := by decide +kernel
theorem dX12_isCrossed_96 : decode cX12_isCrossed 96 = .ok (.if_icmp .ge 7, 3) := by decide +kernel
theorem dX12_isCrossed_99 : decode cX12_isCrossed 99 = .ok (.iconst 1, 1) := by decide +kernel
theorem dX12_isCrossed_100 : decode cX12_isCrossed 100 = .ok (.goto 4, 3) := by decide +kernel
theorem dX12_isCrossed_103 : decode cX12_isCrossed 103 = .ok (.iconst 0, 1) := by decide +kernel
theorem dX12_isCrossed_104 : decode cX12_isCrossed 104 = .ok (.istore 6, 2) := by decide +kernel
theorem dX12_isCrossed_106 : decode cX12_isCrossed 106 = .ok (.aload_n 0, 1) := by decide +kernel
theorem dX12_isCrossed_107 : decode cX12_isCrossed 107 = .ok (.getfield 114, 3) := by decide +kernel
theorem dX12_isCrossed_110 : decode cX12_isCrossed 110 = .ok (.iload 5, 2) := by decide +kernel
theorem dX12_isCrossed_112 : decode cX12_isCrossed 112 = .ok (.iconst 1, 1) := by decide +kernel
theorem dX12_isCrossed_113 : decode cX12_isCrossed 113 = .ok (.iadd, 1) := by decide +kernel
theorem dX12_isCrossed_114 : decode cX12_isCrossed 114 = .ok (.iaload, 1) := by decide +kernel
theorem dX12_isCrossed_115 : decode cX12_isCrossed 115 = .ok (.iload_n 3, 1) := by decide +kernel
theorem dX12_isCrossed_116 : decode cX12_isCrossed 116 = .ok (.if_icmp .le 21, 3) := by decide +kernel
theorem dX12_isCrossed_119 : decode cX12_isCrossed 119 = .ok (.aload_n 0, 1) := by decide +kernel
theorem dX12_isCrossed_120 : decode cX12_isCrossed 120 = .ok (.getfield 114, 3) := by decide +kernel
theorem dX12_isCrossed_123 : decode cX12_isCrossed 123 = .ok (.iload 5, 2) := by decide +kernel
theorem dX12_isCrossed_125 : decode cX12_isCrossed 125 = .ok (.iconst 1, 1) := by decide +kernel
theorem dX12_isCrossed_126 : decode cX12_isCrossed 126 = .ok (.iadd, 1) := by decide +kernel
theorem dX12_isCrossed_127 : decode cX12_isCrossed 127 = .ok (.iaload, 1) := by decide +kernel
theorem dX12_isCrossed_128 : decode cX12_isCrossed 128 = .ok (.iload 4, 2) := by decide +kernel
theorem dX12_isCrossed_130 : decode cX12_isCrossed 130 = .ok (.if_icmp .ge 7, 3) := by decide +kernel
theorem dX12_isCrossed_133 : decode cX12_isCrossed 133 = .ok (.iconst 1, 1) := by decide +kernel
theorem dX12_isCrossed_134 : decode cX12_isCrossed 134 = .ok (.goto 4, 3) := by decide +kernel
theorem dX12_isCrossed_137 : decode cX12_isCrossed 137 = .ok (.iconst 0, 1) := by decide +kernel
theorem dX12_isCrossed_138 : decode cX12_isCrossed 138 = .ok (.istore 7, 2) := by decide +kernel
theorem dX12_isCrossed_140 : decode cX12_isCrossed 140 = .ok (.iload 6, 2) := by decide +kernel
theorem dX12_isCrossed_142 : decode cX12_isCrossed 142 = .ok (.iload 7, 2) := by decide +kernel
theorem dX12_isCrossed_144 : decode cX12_isCrossed 144 = .ok (.if_icmp .eq 5, 3) := by decide +kernel
theorem dX12_isCrossed_147 : decode cX12_isCrossed 147 = .ok (.iconst 1, 1) := by decide +kernel
theorem dX12_isCrossed_148 : decode cX12_isCrossed 148 = .ok (.ireturn, 1) := by decide +kernel
theorem dX12_isCrossed_149 : decode cX12_isCrossed 149 = .ok (.iinc 5 2, 3) := by decide +kernel
theorem dX12_isCrossed_152 : decode cX12_isCrossed 152 = .ok (.goto (-84), 3) := by decide +kernel
theorem dX12_isCrossed_155 : decode cX12_isCrossed 155 = .ok (.iinc 2 1, 3) := by decide +kernel
theorem dX12_isCrossed_158 : decode cX12_isCrossed 158 = .ok (.goto (-156), 3) := by decide +kernel
theorem dX12_isCrossed_161 : decode cX12_isCrossed 161 = .ok (.iconst 0, 1) := by decide +kernel
theorem dX12_isCrossed_162 : decode cX12_isCrossed 162 = .ok (.ireturn, 1) := by decide +kernel
theorem dX12_can_0 : decode cX12_can 0 = .ok (.aload_n 0, 1) := by decide +kernel
theorem dX12_can_1 : decode cX12_can 1 = .ok (.iload_n 1, 1) := by decide +kernel
theorem dX12_can_2 : decode cX12_can 2 = .ok (.iload_n 2, 1) := by decide +kernel
theorem dX12_can_3 : decode cX12_can 3 = .ok (.invokevirtual 159, 3) := by decide +kernel
theorem dX12_can_6 : decode cX12_can 6 = .ok (.istore_n 3, 1) := by decide +kernel
theorem dX12_can_7 : decode cX12_can 7 = .ok (.iload_n 3, 1) := by decide +kernel
theorem dX12_can_8 : decode cX12_can 8 = .ok (.ifCond .eq 9, 3) := by decide +kernel
theorem dX12_can_11 : decode cX12_can 11 = .ok (.aload_n 0, 1) := by decide +kernel
theorem dX12_can_12 : decode cX12_can 12 = .ok (.iload_n 3, 1) := by decide +kernel
theorem dX12_can_13 : decode cX12_can 13 = .ok (.invokevirtual 136, 3) := by decide +kernel
theorem dX12_can_16 : decode cX12_can 16 = .ok (.ireturn, 1) := by decide +kernel
theorem dX12_can_17 : decode cX12_can 17 = .ok (.iload_n 2, 1) := by decide +kernel
theorem dX12_can_18 : decode cX12_can 18 = .ok (.iconst 1, 1) := by decide +kernel
theorem dX12_can_19 : decode cX12_can 19 = .ok (.if_icmp .lt 9, 3) := by decide +kernel
theorem dX12_can_22 : decode cX12_can 22 = .ok (.iload_n 2, 1) := by decide +kernel
theorem dX12_can_23 : decode cX12_can 23 = .ok (.bipush 8, 2) := by decide +kernel
theorem dX12_can_25 : decode cX12_can 25 = .ok (.if_icmp .le 10, 3) := by decide +kernel
theorem dX12_can_28 : decode cX12_can 28 = .ok (.aload_n 0, 1) := by decide +kernel
theorem dX12_can_29 : decode cX12_can 29 = .ok (.bipush (-6), 2) := by decide +kernel
theorem dX12_can_31 : decode cX12_can 31 = .ok (.invokevirtual 136, 3) := by decide +kernel
theorem dX12_can_34 : decode cX12_can 34 = .ok (.ireturn, 1) := by decide +kernel
theorem dX12_can_35 : decode cX12_can 35 = .ok (.iconst 0, 1) := by decide +kernel
theorem dX12_can_36 : decode cX12_can 36 = .ok (.istore 4, 2) := by decide +kernel
theorem dX12_can_38 : decode cX12_can 38 = .ok (.iconst 0, 1) := by decide +kernel
theorem dX12_can_39 : decode cX12_can 39 = .ok (.istore 5, 2) := by decide +kernel
theorem dX12_can_41 : decode cX12_can 41 = .ok (.iload 5, 2) := by decide +kernel
theorem dX12_can_43 : decode cX12_can 43 = .ok (.iload_n 2, 1) := by decide +kernel
theorem dX12_can_44 : decode cX12_can 44 = .ok (.if_icmp .ge 65, 3) := by decide +kernel
theorem dX12_can_47 : decode cX12_can 47 = .ok (.aload_n 0, 1) := by decide +kernel
theorem dX12_can_48 : decode cX12_can 48 = .ok (.iload_n 1, 1) := by decide +kernel
theorem dX12_can_49 : decode cX12_can 49 = .ok (.iload 5, 2) := by decide +kernel
theorem dX12_can_51 : decode cX12_can 51 = .ok (.invokevirtual 315, 3) := by decide +kernel
theorem dX12_can_54 : decode cX12_can 54 = .ok (.istore 6, 2) := by decide +kernel
theorem dX12_can_56 : decode cX12_can 56 = .ok (.iload 6, 2) := by decide +kernel
theorem dX12_can_58 : decode cX12_can 58 = .ok (.ifCond .lt 20, 3) := by decide +kernel
theorem dX12_can_61 : decode cX12_can 61 = .ok (.iload 6, 2) := by decide +kernel
theorem dX12_can_63 : decode cX12_can 63 = .ok (.iload_n 2, 1) := by decide +kernel
theorem dX12_can_64 : decode cX12_can 64 = .ok (.if_icmp .ge 14, 3) := by decide +kernel
theorem dX12_can_67 : decode cX12_can 67 = .ok (.iload 4, 2) := by decide +kernel
theorem dX12_can_69 : decode cX12_can 69 = .ok (.iload 6, 2) := by decide +kernel
theorem dX12_can_71 : decode cX12_can 71 = .ok (.ishr, 1) := by decide +kernel
theorem dX12_can_72 : decode cX12_can 72 = .ok (.iconst 1, 1) := by decide +kernel
theorem dX12_can_73 : decode cX12_can 73 = .ok (.iand, 1) := by decide +kernel
theorem dX12_can_74 : decode cX12_can 74 = .ok (.iconst 1, 1) := by decide +kernel
theorem dX12_can_75 : decode cX12_can 75 = .ok (.if_icmp .ne 10, 3) := by decide +kernel
theorem dX12_can_78 : decode cX12_can 78 = .ok (.aload_n 0, 1) := by decide +kernel
theorem dX12_can_79 : decode cX12_can 79 = .ok (.bipush (-6), 2) := by decide +kernel
theorem dX12_can_81 : decode cX12_can 81 = .ok (.invokevirtual 136, 3) := by decide +kernel
theorem dX12_can_84 : decode cX12_can 84 = .ok (.ireturn, 1) := by decide +kernel
theorem dX12_can_85 : decode cX12_can 85 = .ok (.iload 4, 2) := by decide +kernel
theorem dX12_can_87 : decode cX12_can 87 = .ok (.iconst 1, 1) := by decide +kernel
theorem dX12_can_88 : decode cX12_can 88 = .ok (.iload 6, 2) := by decide +kernel
theorem dX12_can_90 : decode cX12_can 90 = .ok (.ishl, 1) := by decide +kernel
theorem dX12_can_91 : decode cX12_can 91 = .ok (.ior, 1) := by decide +kernel
theorem dX12_can_92 : decode cX12_can 92 = .ok (.istore 4, 2) := by decide +kernel
theorem dX12_can_94 : decode cX12_can 94 = .ok (.aload_n 0, 1) := by decide +kernel
theorem dX12_can_95 : decode cX12_can 95 = .ok (.getfield 114, 3) := by decide +kernel
theorem dX12_can_98 : decode cX12_can 98 = .ok (.iload 6, 2) := by decide +kernel
theorem dX12_can_100 : decode cX12_can 100 = .ok (.iload 5, 2) := by decide +kernel
theorem dX12_can_102 : decode cX12_can 102 = .ok (.iastore, 1) := by decide +kernel
theorem dX12_can_103 : decode cX12_can 103 = .ok (.iinc 5 1, 3) := by decide +kernel
theorem dX12_can_106 : decode cX12_can 106 = .ok (.goto (-65), 3) := by decide +kernel
theorem dX12_can_109 : decode cX12_can 109 = .ok (.aload_n 0, 1) := by decide +kernel
theorem dX12_can_110 : decode cX12_can 110 = .ok (.iload_n 2, 1) := by decide +kernel
theorem dX12_can_111 : decode cX12_can 111 = .ok (.invokevirtual 325, 3) := by decide +kernel
theorem dX12_can_114 : decode cX12_can 114 = .ok (.ifCond .eq 7, 3) := by decide +kernel
theorem dX12_can_117 : decode cX12_can 117 = .ok (.iconst 0, 1) := by decide +kernel
theorem dX12_can_118 : decode cX12_can 118 = .ok (.goto 4, 3) := by decide +kernel
theorem dX12_can_121 : decode cX12_can 121 = .ok (.iconst 1, 1) := by decide +kernel
theorem dX12_can_122 : decode cX12_can 122 = .ok (.ireturn, 1) := by decide +kernel
theorem dX12_goes_0 : decode cX12_goes 0 = .ok (.iload_n 1, 1) := by decide +kernel
theorem dX12_goes_1 : decode cX12_goes 1 = .ok (.iload_n 2, 1) := by decide +kernel
theorem dX12_goes_2 : decode cX12_goes 2 = .ok (.if_icmp .ne 60, 3) := by decide +kernel
theorem dX12_goes_5 : decode cX12_goes 5 = .ok (.aload_n 0, 1) := by decide +kernel
theorem dX12_goes_6 : decode cX12_goes 6 = .ok (.iload_n 2, 1) := by decide +kernel
theorem dX12_goes_7 : decode cX12_goes 7 = .ok (.invokevirtual 325, 3) := by decide +kernel
theorem dX12_goes_10 : decode cX12_goes 10 = .ok (.ifCond .eq 4, 3) := by decide +kernel
theorem dX12_goes_13 : decode cX12_goes 13 = .ok (.return_, 1) := by decide +kernel
theorem dX12_goes_14 : decode cX12_goes 14 = .ok (.iconst 0, 1) := by decide +kernel
theorem dX12_goes_15 : decode cX12_goes 15 = .ok (.istore 4, 2) := by decide +kernel
theorem dX12_goes_17 : decode cX12_goes 17 = .ok (.iload 4, 2) := by decide +kernel
theorem dX12_goes_19 : decode cX12_goes 19 = .ok (.iload_n 2, 1) := by decide +kernel
theorem dX12_goes_20 : decode cX12_goes 20 = .ok (.if_icmp .ge 31, 3) := by decide +kernel
theorem dX12_goes_23 : decode cX12_goes 23 = .ok (.aload_n 0, 1) := by decide +kernel
theorem dX12_goes_24 : decode cX12_goes 24 = .ok (.getfield 117, 3) := by decide +kernel
theorem dX12_goes_27 : decode cX12_goes 27 = .ok (.bipush 8, 2) := by decide +kernel
theorem dX12_goes_29 : decode cX12_goes 29 = .ok (.aload_n 0, 1) := by decide +kernel
theorem dX12_goes_30 : decode cX12_goes 30 = .ok (.getfield 328, 3) := by decide +kernel
theorem dX12_goes_33 : decode cX12_goes 33 = .ok (.imul, 1) := by decide +kernel
theorem dX12_goes_34 : decode cX12_goes 34 = .ok (.iload 4, 2) := by decide +kernel
theorem dX12_goes_36 : decode cX12_goes 36 = .ok (.iadd, 1) := by decide +kernel
theorem dX12_goes_37 : decode cX12_goes 37 = .ok (.aload_n 0, 1) := by decide +kernel
theorem dX12_goes_38 : decode cX12_goes 38 = .ok (.getfield 111, 3) := by decide +kernel
theorem dX12_goes_41 : decode cX12_goes 41 = .ok (.iload 4, 2) := by decide +kernel
theorem dX12_goes_43 : decode cX12_goes 43 = .ok (.iaload, 1) := by decide +kernel
theorem dX12_goes_44 : decode cX12_goes 44 = .ok (.iastore, 1) := by decide +kernel
theorem dX12_goes_45 : decode cX12_goes 45 = .ok (.iinc 4 1, 3) := by decide +kernel
theorem dX12_goes_48 : decode cX12_goes 48 = .ok (.goto (-31), 3) := by decide +kernel
theorem dX12_goes_51 : decode cX12_goes 51 = .ok (.aload_n 0, 1) := by decide +kernel
theorem dX12_goes_52 : decode cX12_goes 52 = .ok (.dup, 1) := by decide +kernel
theorem dX12_goes_53 : decode cX12_goes 53 = .ok (.getfield 328, 3) := by decide +kernel
theorem dX12_goes_56 : decode cX12_goes 56 = .ok (.iconst 1, 1) := by decide +kernel
theorem dX12_goes_57 : decode cX12_goes 57 = .ok (.iadd, 1) := by decide +kernel
theorem dX12_goes_58 : decode cX12_goes 58 = .ok (.putfield 328, 3) := by decide +kernel
theorem dX12_goes_61 : decode cX12_goes 61 = .ok (.return_, 1) := by decide +kernel
theorem dX12_goes_62 : decode cX12_goes 62 = .ok (.iconst 0, 1) := by decide +kernel
theorem dX12_goes_63 : decode cX12_goes 63 = .ok (.istore 4, 2) := by decide +kernel
theorem dX12_goes_65 : decode cX12_goes 65 = .ok (.iload 4, 2) := by decide +kernel
theorem dX12_goes_67 : decode cX12_goes 67 = .ok (.iload_n 2, 1) := by decide +kernel
theorem dX12_goes_68 : decode cX12_goes 68 = .ok (.if_icmp .ge 52, 3) := by decide +kernel
theorem dX12_goes_71 : decode cX12_goes 71 = .ok (.iload_n 3, 1) := by decide +kernel
theorem dX12_goes_72 : decode cX12_goes 72 = .ok (.iload 4, 2) := by decide +kernel
theorem dX12_goes_74 : decode cX12_goes 74 = .ok (.ishr, 1) := by decide +kernel
theorem dX12_goes_75 : decode cX12_goes 75 = .ok (.iconst 1, 1) := by decide +kernel
theorem dX12_goes_76 : decode cX12_goes 76 = .ok (.iand, 1) := by decide +kernel
theorem dX12_goes_77 : decode cX12_goes 77 = .ok (.iconst 1, 1) := by decide +kernel
theorem dX12_goes_78 : decode cX12_goes 78 = .ok (.if_icmp .ne 6, 3) := by decide +kernel
theorem dX12_goes_81 : decode cX12_goes 81 = .ok (.goto 33, 3) := by decide +kernel
theorem dX12_goes_84 : decode cX12_goes 84 = .ok (.aload_n 0, 1) := by decide +kernel
theorem dX12_goes_85 : decode cX12_goes 85 = .ok (.getfield 111, 3) := by decide +kernel
theorem dX12_goes_88 : decode cX12_goes 88 = .ok (.iload_n 1, 1) := by decide +kernel
theorem dX12_goes_89 : decode cX12_goes 89 = .ok (.iload 4, 2) := by decide +kernel
theorem dX12_goes_91 : decode cX12_goes 91 = .ok (.iastore, 1) := by decide +kernel
theorem dX12_goes_92 : decode cX12_goes 92 = .ok (.aload_n 0, 1) := by decide +kernel
theorem dX12_goes_93 : decode cX12_goes 93 = .ok (.getfield 114, 3) := by decide +kernel
theorem dX12_goes_96 : decode cX12_goes 96 = .ok (.iload 4, 2) := by decide +kernel
theorem dX12_goes_98 : decode cX12_goes 98 = .ok (.iload_n 1, 1) := by decide +kernel
theorem dX12_goes_99 : decode cX12_goes 99 = .ok (.iastore, 1) := by decide +kernel
theorem dX12_goes_100 : decode cX12_goes 100 = .ok (.aload_n 0, 1) := by decide +kernel
theorem dX12_goes_101 : decode cX12_goes 101 = .ok (.iload_n 1, 1) := by decide +kernel
theorem dX12_goes_102 : decode cX12_goes 102 = .ok (.iconst 1, 1) := by decide +kernel
theorem dX12_goes_103 : decode cX12_goes 103 = .ok (.iadd, 1) := by decide +kernel
theorem dX12_goes_104 : decode cX12_goes 104 = .ok (.iload_n 2, 1) := by decide +kernel
theorem dX12_goes_105 : decode cX12_goes 105 = .ok (.iload_n 3, 1) := by decide +kernel
theorem dX12_goes_106 : decode cX12_goes 106 = .ok (.iconst 1, 1) := by decide +kernel
theorem dX12_goes_107 : decode cX12_goes 107 = .ok (.iload 4, 2) := by decide +kernel
theorem dX12_goes_109 : decode cX12_goes 109 = .ok (.ishl, 1) := by decide +kernel
theorem dX12_goes_110 : decode cX12_goes 110 = .ok (.ior, 1) := by decide +kernel
theorem dX12_goes_111 : decode cX12_goes 111 = .ok (.invokevirtual 331, 3) := by decide +kernel
theorem dX12_goes_114 : decode cX12_goes 114 = .ok (.iinc 4 1, 3) := by decide +kernel
theorem dX12_goes_117 : decode cX12_goes 117 = .ok (.goto (-52), 3) := by decide +kernel
theorem dX12_goes_120 : decode cX12_goes 120 = .ok (.return_, 1) := by decide +kernel
theorem dX12_finds_0 : decode cX12_finds 0 = .ok (.aload_n 0, 1) := by decide +kernel
theorem dX12_finds_1 : decode cX12_finds 1 = .ok (.getfield 335, 3) := by decide +kernel
theorem dX12_finds_4 : decode cX12_finds 4 = .ok (.iload_n 1, 1) := by decide +kernel
theorem dX12_finds_5 : decode cX12_finds 5 = .ok (.if_icmp .ne 4, 3) := by decide +kernel
theorem dX12_finds_8 : decode cX12_finds 8 = .ok (.return_, 1) := by decide +kernel
theorem dX12_finds_9 : decode cX12_finds 9 = .ok (.aload_n 0, 1) := by decide +kernel
theorem dX12_finds_10 : decode cX12_finds 10 = .ok (.iload_n 1, 1) := by decide +kernel
theorem dX12_finds_11 : decode cX12_finds 11 = .ok (.putfield 335, 3) := by decide +kernel
theorem dX12_finds_14 : decode cX12_finds 14 = .ok (.aload_n 0, 1) := by decide +kernel
theorem dX12_finds_15 : decode cX12_finds 15 = .ok (.iconst 0, 1) := by decide +kernel
theorem dX12_finds_16 : decode cX12_finds 16 = .ok (.putfield 328, 3) := by decide +kernel
theorem dX12_finds_19 : decode cX12_finds 19 = .ok (.aload_n 0, 1) := by decide +kernel
theorem dX12_finds_20 : decode cX12_finds 20 = .ok (.iconst 0, 1) := by decide +kernel
theorem dX12_finds_21 : decode cX12_finds 21 = .ok (.iload_n 1, 1) := by decide +kernel
theorem dX12_finds_22 : decode cX12_finds 22 = .ok (.iconst 0, 1) := by decide +kernel
theorem dX12_finds_23 : decode cX12_finds 23 = .ok (.invokevirtual 331, 3) := by decide +kernel
theorem dX12_finds_26 : decode cX12_finds 26 = .ok (.return_, 1) := by decide +kernel
theorem dX12_orders_0 : decode cX12_orders 0 = .ok (.iload_n 1, 1) := by decide +kernel
theorem dX12_orders_1 : decode cX12_orders 1 = .ok (.iconst 1, 1) := by decide +kernel
theorem dX12_orders_2 : decode cX12_orders 2 = .ok (.if_icmp .lt 9, 3) := by decide +kernel
theorem dX12_orders_5 : decode cX12_orders 5 = .ok (.iload_n 1, 1) := by decide +kernel
theorem dX12_orders_6 : decode cX12_orders 6 = .ok (.bipush 8, 2) := by decide +kernel
theorem dX12_orders_8 : decode cX12_orders 8 = .ok (.if_icmp .le 10, 3) := by decide +kernel
theorem dX12_orders_11 : decode cX12_orders 11 = .ok (.aload_n 0, 1) := by decide +kernel
theorem dX12_orders_12 : decode cX12_orders 12 = .ok (.bipush (-6), 2) := by decide +kernel
theorem dX12_orders_14 : decode cX12_orders 14 = .ok (.invokevirtual 136, 3) := by decide +kernel
theorem dX12_orders_17 : decode cX12_orders 17 = .ok (.ireturn, 1) := by decide +kernel
theorem dX12_orders_18 : decode cX12_orders 18 = .ok (.aload_n 0, 1) := by decide +kernel
theorem dX12_orders_19 : decode cX12_orders 19 = .ok (.iload_n 1, 1) := by decide +kernel
theorem dX12_orders_20 : decode cX12_orders 20 = .ok (.invokevirtual 338, 3) := by decide +kernel
theorem dX12_orders_23 : decode cX12_orders 23 = .ok (.aload_n 0, 1) := by decide +kernel
theorem dX12_orders_24 : decode cX12_orders 24 = .ok (.getfield 328, 3) := by decide +kernel
theorem dX12_orders_27 : decode cX12_orders 27 = .ok (.ireturn, 1) := by decide +kernel
theorem dX12_order_0 : decode cX12_order 0 = .ok (.iload_n 1, 1) := by decide +kernel
theorem dX12_order_1 : decode cX12_order 1 = .ok (.iconst 1, 1) := by decide +kernel
theorem dX12_order_2 : decode cX12_order 2 = .ok (.if_icmp .lt 9, 3) := by decide +kernel
theorem dX12_order_5 : decode cX12_order 5 = .ok (.iload_n 1, 1) := by decide +kernel
theorem dX12_order_6 : decode cX12_order 6 = .ok (.bipush 8, 2) := by decide +kernel
theorem dX12_order_8 : decode cX12_order 8 = .ok (.if_icmp .le 23, 3) := by decide +kernel
theorem dX12_order_11 : decode cX12_order 11 = .ok (.aload_n 0, 1) := by decide +kernel
theorem dX12_order_12 : decode cX12_order 12 = .ok (.iload_n 3, 1) := by decide +kernel
theorem dX12_order_13 : decode cX12_order 13 = .ok (.ifCond .lt 7, 3) := by decide +kernel
theorem dX12_order_16 : decode cX12_order 16 = .ok (.iload_n 2, 1) := by decide +kernel
theorem dX12_order_17 : decode cX12_order 17 = .ok (.ifCond .ge 8, 3) := by decide +kernel
theorem dX12_order_20 : decode cX12_order 20 = .ok (.bipush (-5), 2) := by decide +kernel
theorem dX12_order_22 : decode cX12_order 22 = .ok (.goto 5, 3) := by decide +kernel
theorem dX12_order_25 : decode cX12_order 25 = .ok (.bipush (-6), 2) := by decide +kernel
theorem dX12_order_27 : decode cX12_order 27 = .ok (.invokevirtual 136, 3) := by decide +kernel
theorem dX12_order_30 : decode cX12_order 30 = .ok (.ireturn, 1) := by decide +kernel
theorem dX12_order_31 : decode cX12_order 31 = .ok (.aload_n 0, 1) := by decide +kernel
theorem dX12_order_32 : decode cX12_order 32 = .ok (.iload_n 1, 1) := by decide +kernel
theorem dX12_order_33 : decode cX12_order 33 = .ok (.invokevirtual 338, 3) := by decide +kernel
theorem dX12_order_36 : decode cX12_order 36 = .ok (.iload_n 2, 1) := by decide +kernel
theorem dX12_order_37 : decode cX12_order 37 = .ok (.ifCond .lt 34, 3) := by decide +kernel
theorem dX12_order_40 : decode cX12_order 40 = .ok (.iload_n 2, 1) := by decide +kernel
theorem dX12_order_41 : decode cX12_order 41 = .ok (.aload_n 0, 1) := by decide +kernel
theorem dX12_order_42 : decode cX12_order 42 = .ok (.getfield 328, 3) := by decide +kernel
theorem dX12_order_45 : decode cX12_order 45 = .ok (.if_icmp .ge 26, 3) := by decide +kernel
theorem dX12_order_48 : decode cX12_order 48 = .ok (.iload_n 3, 1) := by decide +kernel
theorem dX12_order_49 : decode cX12_order 49 = .ok (.ifCond .lt 22, 3) := by decide +kernel
theorem dX12_order_52 : decode cX12_order 52 = .ok (.iload_n 3, 1) := by decide +kernel
theorem dX12_order_53 : decode cX12_order 53 = .ok (.iload_n 1, 1) := by decide +kernel
theorem dX12_order_54 : decode cX12_order 54 = .ok (.if_icmp .ge 17, 3) := by decide +kernel
theorem dX12_order_57 : decode cX12_order 57 = .ok (.aload_n 0, 1) := by decide +kernel
theorem dX12_order_58 : decode cX12_order 58 = .ok (.getfield 117, 3) := by decide +kernel
theorem dX12_order_61 : decode cX12_order 61 = .ok (.bipush 8, 2) := by decide +kernel
theorem dX12_order_63 : decode cX12_order 63 = .ok (.iload_n 2, 1) := by decide +kernel
theorem dX12_order_64 : decode cX12_order 64 = .ok (.imul, 1) := by decide +kernel
theorem dX12_order_65 : decode cX12_order 65 = .ok (.iload_n 3, 1) := by decide +kernel
theorem dX12_order_66 : decode cX12_order 66 = .ok (.iadd, 1) := by decide +kernel
theorem dX12_order_67 : decode cX12_order 67 = .ok (.iaload, 1) := by decide +kernel
theorem dX12_order_68 : decode cX12_order 68 = .ok (.goto 9, 3) := by decide +kernel
theorem dX12_order_71 : decode cX12_order 71 = .ok (.aload_n 0, 1) := by decide +kernel
theorem dX12_order_72 : decode cX12_order 72 = .ok (.bipush (-5), 2) := by decide +kernel
theorem dX12_order_74 : decode cX12_order 74 = .ok (.invokevirtual 136, 3) := by decide +kernel
theorem dX12_order_77 : decode cX12_order 77 = .ok (.ireturn, 1) := by decide +kernel
theorem dX12_page_0 : decode cX12_page 0 = .ok (.iload_n 1, 1) := by decide +kernel
theorem dX12_page_1 : decode cX12_page 1 = .ok (.iconst 1, 1) := by decide +kernel
theorem dX12_page_2 : decode cX12_page 2 = .ok (.if_icmp .lt 9, 3) := by decide +kernel
theorem dX12_page_5 : decode cX12_page 5 = .ok (.iload_n 1, 1) := by decide +kernel
theorem dX12_page_6 : decode cX12_page 6 = .ok (.bipush 6, 2) := by decide +kernel
theorem dX12_page_8 : decode cX12_page 8 = .ok (.if_icmp .le 19, 3) := by decide +kernel
theorem dX12_page_11 : decode cX12_page 11 = .ok (.aload_n 0, 1) := by decide +kernel
theorem dX12_page_12 : decode cX12_page 12 = .ok (.iload_n 2, 1) := by decide +kernel
theorem dX12_page_13 : decode cX12_page 13 = .ok (.ifCond .ge 8, 3) := by decide +kernel
theorem dX12_page_16 : decode cX12_page 16 = .ok (.bipush (-5), 2) := by decide +kernel
theorem dX12_page_18 : decode cX12_page 18 = .ok (.goto 5, 3) := by decide +kernel
theorem dX12_page_21 : decode cX12_page 21 = .ok (.bipush (-6), 2) := by decide +kernel
theorem dX12_page_23 : decode cX12_page 23 = .ok (.invokevirtual 136, 3) := by decide +kernel
theorem dX12_page_26 : decode cX12_page 26 = .ok (.ireturn, 1) := by decide +kernel
theorem dX12_page_27 : decode cX12_page 27 = .ok (.iconst 1, 1) := by decide +kernel
theorem dX12_page_28 : decode cX12_page 28 = .ok (.iload_n 1, 1) := by decide +kernel
theorem dX12_page_29 : decode cX12_page 29 = .ok (.ishl, 1) := by decide +kernel
theorem dX12_page_30 : decode cX12_page 30 = .ok (.istore_n 3, 1) := by decide +kernel
theorem dX12_page_31 : decode cX12_page 31 = .ok (.iload_n 3, 1) := by decide +kernel
theorem dX12_page_32 : decode cX12_page 32 = .ok (.istore 4, 2) := by decide +kernel
theorem dX12_page_34 : decode cX12_page 34 = .ok (.iconst 1, 1) := by decide +kernel
theorem dX12_page_35 : decode cX12_page 35 = .ok (.istore 5, 2) := by decide +kernel
theorem dX12_page_37 : decode cX12_page 37 = .ok (.iload_n 2, 1) := by decide +kernel
theorem dX12_page_38 : decode cX12_page 38 = .ok (.ifCond .lt 8, 3) := by decide +kernel
theorem dX12_page_41 : decode cX12_page 41 = .ok (.iload_n 2, 1) := by decide +kernel
theorem dX12_page_42 : decode cX12_page 42 = .ok (.iload_n 3, 1) := by decide +kernel
theorem dX12_page_43 : decode cX12_page 43 = .ok (.if_icmp .lt 10, 3) := by decide +kernel
theorem dX12_page_46 : decode cX12_page 46 = .ok (.aload_n 0, 1) := by decide +kernel
theorem dX12_page_47 : decode cX12_page 47 = .ok (.bipush (-5), 2) := by decide +kernel
theorem dX12_page_49 : decode cX12_page 49 = .ok (.invokevirtual 136, 3) := by decide +kernel
theorem dX12_page_52 : decode cX12_page 52 = .ok (.ireturn, 1) := by decide +kernel
theorem dX12_page_53 : decode cX12_page 53 = .ok (.iconst 0, 1) := by decide +kernel
theorem dX12_page_54 : decode cX12_page 54 = .ok (.istore 6, 2) := by decide +kernel
theorem dX12_page_56 : decode cX12_page 56 = .ok (.iload 6, 2) := by decide +kernel
theorem dX12_page_58 : decode cX12_page 58 = .ok (.iload_n 3, 1) := by decide +kernel
theorem dX12_page_59 : decode cX12_page 59 = .ok (.if_icmp .ge 26, 3) := by decide +kernel
theorem dX12_page_62 : decode cX12_page 62 = .ok (.aload_n 0, 1) := by decide +kernel
theorem dX12_page_63 : decode cX12_page 63 = .ok (.getfield 120, 3) := by decide +kernel
theorem dX12_page_66 : decode cX12_page 66 = .ok (.iload 6, 2) := by decide +kernel
theorem dX12_page_68 : decode cX12_page 68 = .ok (.iload 6, 2) := by decide +kernel
theorem dX12_page_70 : decode cX12_page 70 = .ok (.iastore, 1) := by decide +kernel
theorem dX12_page_71 : decode cX12_page 71 = .ok (.aload_n 0, 1) := by decide +kernel
theorem dX12_page_72 : decode cX12_page 72 = .ok (.getfield 123, 3) := by decide +kernel
theorem dX12_page_75 : decode cX12_page 75 = .ok (.iload 6, 2) := by decide +kernel
theorem dX12_page_77 : decode cX12_page 77 = .ok (.iconst 0, 1) := by decide +kernel
theorem dX12_page_78 : decode cX12_page 78 = .ok (.iastore, 1) := by decide +kernel
theorem dX12_page_79 : decode cX12_page 79 = .ok (.iinc 6 1, 3) := by decide +kernel
theorem dX12_page_82 : decode cX12_page 82 = .ok (.goto (-26), 3) := by decide +kernel
theorem dX12_page_85 : decode cX12_page 85 = .ok (.iload 4, 2) := by decide +kernel
theorem dX12_page_87 : decode cX12_page 87 = .ok (.iconst 1, 1) := by decide +kernel
theorem dX12_page_88 : decode cX12_page 88 = .ok (.if_icmp .le 100, 3) := by decide +kernel
theorem dX12_page_91 : decode cX12_page 91 = .ok (.iconst 0, 1) := by decide +kernel
theorem dX12_page_92 : decode cX12_page 92 = .ok (.istore 6, 2) := by decide +kernel
theorem dX12_page_94 : decode cX12_page 94 = .ok (.iload 6, 2) := by decide +kernel
theorem dX12_page_96 : decode cX12_page 96 = .ok (.iload_n 3, 1) := by decide +kernel
theorem dX12_page_97 : decode cX12_page 97 = .ok (.if_icmp .ge 76, 3) := by decide +kernel
theorem dX12_page_100 : decode cX12_page 100 = .ok (.aload_n 0, 1) := by decide +kernel
theorem dX12_page_101 : decode cX12_page 101 = .ok (.getfield 120, 3) := by decide +kernel
theorem dX12_page_104 : decode cX12_page 104 = .ok (.iload 6, 2) := by decide +kernel
theorem dX12_page_106 : decode cX12_page 106 = .ok (.iaload, 1) := by decide +kernel
theorem dX12_page_107 : decode cX12_page 107 = .ok (.iload 4, 2) := by decide +kernel
theorem dX12_page_109 : decode cX12_page 109 = .ok (.iconst 2, 1) := by decide +kernel
theorem dX12_page_110 : decode cX12_page 110 = .ok (.idiv, 1) := by decide +kernel
theorem dX12_page_111 : decode cX12_page 111 = .ok (.if_icmp .lt 44, 3) := by decide +kernel
theorem dX12_page_114 : decode cX12_page 114 = .ok (.aload_n 0, 1) := by decide +kernel
theorem dX12_page_115 : decode cX12_page 115 = .ok (.getfield 120, 3) := by decide +kernel
theorem dX12_page_118 : decode cX12_page 118 = .ok (.iload 6, 2) := by decide +kernel
theorem dX12_page_120 : decode cX12_page 120 = .ok (.iload 4, 2) := by decide +kernel
theorem dX12_page_122 : decode cX12_page 122 = .ok (.iconst 1, 1) := by decide +kernel
theorem dX12_page_123 : decode cX12_page 123 = .ok (.isub, 1) := by decide +kernel
theorem dX12_page_124 : decode cX12_page 124 = .ok (.aload_n 0, 1) := by decide +kernel
theorem dX12_page_125 : decode cX12_page 125 = .ok (.getfield 120, 3) := by decide +kernel
theorem dX12_page_128 : decode cX12_page 128 = .ok (.iload 6, 2) := by decide +kernel
theorem dX12_page_130 : decode cX12_page 130 = .ok (.iaload, 1) := by decide +kernel
theorem dX12_page_131 : decode cX12_page 131 = .ok (.isub, 1) := by decide +kernel
theorem dX12_page_132 : decode cX12_page 132 = .ok (.iastore, 1) := by decide +kernel
theorem dX12_page_133 : decode cX12_page 133 = .ok (.aload_n 0, 1) := by decide +kernel
theorem dX12_page_134 : decode cX12_page 134 = .ok (.getfield 123, 3) := by decide +kernel
theorem dX12_page_137 : decode cX12_page 137 = .ok (.iload 6, 2) := by decide +kernel
theorem dX12_page_139 : decode cX12_page 139 = .ok (.iload 5, 2) := by decide +kernel
theorem dX12_page_141 : decode cX12_page 141 = .ok (.iconst 1, 1) := by decide +kernel
theorem dX12_page_142 : decode cX12_page 142 = .ok (.isub, 1) := by decide +kernel
theorem dX12_page_143 : decode cX12_page 143 = .ok (.aload_n 0, 1) := by decide +kernel
theorem dX12_page_144 : decode cX12_page 144 = .ok (.getfield 123, 3) := by decide +kernel
theorem dX12_page_147 : decode cX12_page 147 = .ok (.iload 6, 2) := by decide +kernel
theorem dX12_page_149 : decode cX12_page 149 = .ok (.iaload, 1) := by decide +kernel
theorem dX12_page_150 : decode cX12_page 150 = .ok (.isub, 1) := by decide +kernel
theorem dX12_page_151 : decode cX12_page 151 = .ok (.iastore, 1) := by decide +kernel
theorem dX12_page_152 : decode cX12_page 152 = .ok (.goto 15, 3) := by decide +kernel
theorem dX12_page_155 : decode cX12_page 155 = .ok (.aload_n 0, 1) := by decide +kernel
theorem dX12_page_156 : decode cX12_page 156 = .ok (.getfield 123, 3) := by decide +kernel
theorem dX12_page_159 : decode cX12_page 159 = .ok (.iload 6, 2) := by decide +kernel
theorem dX12_page_161 : decode cX12_page 161 = .ok (.dup2, 1) := by decide +kernel
theorem dX12_page_162 : decode cX12_page 162 = .ok (.iaload, 1) := by decide +kernel
theorem dX12_page_163 : decode cX12_page 163 = .ok (.iload 5, 2) := by decide +kernel
theorem dX12_page_165 : decode cX12_page 165 = .ok (.iadd, 1) := by decide +kernel
theorem dX12_page_166 : decode cX12_page 166 = .ok (.iastore, 1) := by decide +kernel
theorem dX12_page_167 : decode cX12_page 167 = .ok (.iinc 6 1, 3) := by decide +kernel
theorem dX12_page_170 : decode cX12_page 170 = .ok (.goto (-76), 3) := by decide +kernel
theorem dX12_page_173 : decode cX12_page 173 = .ok (.iload 4, 2) := by decide +kernel
theorem dX12_page_175 : decode cX12_page 175 = .ok (.iconst 2, 1) := by decide +kernel
theorem dX12_page_176 : decode cX12_page 176 = .ok (.idiv, 1) := by decide +kernel
theorem dX12_page_177 : decode cX12_page 177 = .ok (.istore 4, 2) := by decide +kernel
theorem dX12_page_179 : decode cX12_page 179 = .ok (.iload 5, 2) := by decide +kernel
theorem dX12_page_181 : decode cX12_page 181 = .ok (.iconst 2, 1) := by decide +kernel
theorem dX12_page_182 : decode cX12_page 182 = .ok (.imul, 1) := by decide +kernel
theorem dX12_page_183 : decode cX12_page 183 = .ok (.istore 5, 2) := by decide +kernel
theorem dX12_page_185 : decode cX12_page 185 = .ok (.goto (-100), 3) := by decide +kernel
theorem dX12_page_188 : decode cX12_page 188 = .ok (.iconst (-1), 1) := by decide +kernel
theorem dX12_page_189 : decode cX12_page 189 = .ok (.istore 6, 2) := by decide +kernel
theorem dX12_page_191 : decode cX12_page 191 = .ok (.iconst 0, 1) := by decide +kernel
theorem dX12_page_192 : decode cX12_page 192 = .ok (.istore 7, 2) := by decide +kernel
theorem dX12_page_194 : decode cX12_page 194 = .ok (.iload 7, 2) := by decide +kernel
theorem dX12_page_196 : decode cX12_page 196 = .ok (.iload_n 3, 1) := by decide +kernel
theorem dX12_page_197 : decode cX12_page 197 = .ok (.if_icmp .ge 24, 3) := by decide +kernel
theorem dX12_page_200 : decode cX12_page 200 = .ok (.aload_n 0, 1) := by decide +kernel
theorem dX12_page_201 : decode cX12_page 201 = .ok (.getfield 123, 3) := by decide +kernel
theorem dX12_page_204 : decode cX12_page 204 = .ok (.iload 7, 2) := by decide +kernel
theorem dX12_page_206 : decode cX12_page 206 = .ok (.iaload, 1) := by decide +kernel
theorem dX12_page_207 : decode cX12_page 207 = .ok (.iload_n 2, 1) := by decide +kernel
theorem dX12_page_208 : decode cX12_page 208 = .ok (.if_icmp .ne 7, 3) := by decide +kernel
theorem dX12_page_211 : decode cX12_page 211 = .ok (.iload 7, 2) := by decide +kernel
theorem dX12_page_213 : decode cX12_page 213 = .ok (.istore 6, 2) := by decide +kernel
theorem dX12_page_215 : decode cX12_page 215 = .ok (.iinc 7 1, 3) := by decide +kernel
theorem dX12_page_218 : decode cX12_page 218 = .ok (.goto (-24), 3) := by decide +kernel
theorem dX12_page_221 : decode cX12_page 221 = .ok (.iload 6, 2) := by decide +kernel
theorem dX12_page_223 : decode cX12_page 223 = .ok (.ireturn, 1) := by decide +kernel
theorem dX12_drop_0 : decode cX12_drop 0 = .ok (.aload_n 0, 1) := by decide +kernel
theorem dX12_drop_1 : decode cX12_drop 1 = .ok (.getfield 129, 3) := by decide +kernel
theorem dX12_drop_4 : decode cX12_drop 4 = .ok (.ifCond .ne 10, 3) := by decide +kernel
theorem dX12_drop_7 : decode cX12_drop 7 = .ok (.aload_n 0, 1) := by decide +kernel
theorem dX12_drop_8 : decode cX12_drop 8 = .ok (.bipush (-6), 2) := by decide +kernel
theorem dX12_drop_10 : decode cX12_drop 10 = .ok (.invokevirtual 136, 3) := by decide +kernel
theorem dX12_drop_13 : decode cX12_drop 13 = .ok (.ireturn, 1) := by decide +kernel
theorem dX12_drop_14 : decode cX12_drop 14 = .ok (.aload_n 0, 1) := by decide +kernel
theorem dX12_drop_15 : decode cX12_drop 15 = .ok (.dup, 1) := by decide +kernel
theorem dX12_drop_16 : decode cX12_drop 16 = .ok (.getfield 129, 3) := by decide +kernel
theorem dX12_drop_19 : decode cX12_drop 19 = .ok (.iconst 1, 1) := by decide +kernel
theorem dX12_drop_20 : decode cX12_drop 20 = .ok (.isub, 1) := by decide +kernel
theorem dX12_drop_21 : decode cX12_drop 21 = .ok (.putfield 129, 3) := by decide +kernel
theorem dX12_drop_24 : decode cX12_drop 24 = .ok (.iconst 0, 1) := by decide +kernel
theorem dX12_drop_25 : decode cX12_drop 25 = .ok (.istore_n 1, 1) := by decide +kernel
theorem dX12_drop_26 : decode cX12_drop 26 = .ok (.iload_n 1, 1) := by decide +kernel
theorem dX12_drop_27 : decode cX12_drop 27 = .ok (.bipush 8, 2) := by decide +kernel
theorem dX12_drop_29 : decode cX12_drop 29 = .ok (.if_icmp .ge 39, 3) := by decide +kernel
theorem dX12_drop_32 : decode cX12_drop 32 = .ok (.aload_n 0, 1) := by decide +kernel
theorem dX12_drop_33 : decode cX12_drop 33 = .ok (.getfield 30, 3) := by decide +kernel
theorem dX12_drop_36 : decode cX12_drop 36 = .ok (.iload_n 1, 1) := by decide +kernel
theorem dX12_drop_37 : decode cX12_drop 37 = .ok (.iaload, 1) := by decide +kernel
theorem dX12_drop_38 : decode cX12_drop 38 = .ok (.iconst 2, 1) := by decide +kernel
theorem dX12_drop_39 : decode cX12_drop 39 = .ok (.if_icmp .ne 23, 3) := by decide +kernel
theorem dX12_drop_42 : decode cX12_drop 42 = .ok (.aload_n 0, 1) := by decide +kernel
theorem dX12_drop_43 : decode cX12_drop 43 = .ok (.getfield 39, 3) := by decide +kernel
theorem dX12_drop_46 : decode cX12_drop 46 = .ok (.iload_n 1, 1) := by decide +kernel
theorem dX12_drop_47 : decode cX12_drop 47 = .ok (.iaload, 1) := by decide +kernel
theorem dX12_drop_48 : decode cX12_drop 48 = .ok (.aload_n 0, 1) := by decide +kernel
theorem dX12_drop_49 : decode cX12_drop 49 = .ok (.getfield 129, 3) := by decide +kernel
theorem dX12_drop_52 : decode cX12_drop 52 = .ok (.if_icmp .ne 10, 3) := by decide +kernel
theorem dX12_drop_55 : decode cX12_drop 55 = .ok (.aload_n 0, 1) := by decide +kernel
theorem dX12_drop_56 : decode cX12_drop 56 = .ok (.getfield 30, 3) := by decide +kernel
theorem dX12_drop_59 : decode cX12_drop 59 = .ok (.iload_n 1, 1) := by decide +kernel
theorem dX12_drop_60 : decode cX12_drop 60 = .ok (.iconst 0, 1) := by decide +kernel
theorem dX12_drop_61 : decode cX12_drop 61 = .ok (.iastore, 1) := by decide +kernel
theorem dX12_drop_62 : decode cX12_drop 62 = .ok (.iinc 1 1, 3) := by decide +kernel
theorem dX12_drop_65 : decode cX12_drop 65 = .ok (.goto (-39), 3) := by decide +kernel
theorem dX12_drop_68 : decode cX12_drop 68 = .ok (.aload_n 0, 1) := by decide +kernel
theorem dX12_drop_69 : decode cX12_drop 69 = .ok (.getfield 129, 3) := by decide +kernel
theorem dX12_drop_72 : decode cX12_drop 72 = .ok (.ireturn, 1) := by decide +kernel
theorem dX12_body_0 : decode cX12_body 0 = .ok (.aload_n 0, 1) := by decide +kernel
theorem dX12_body_1 : decode cX12_body 1 = .ok (.getfield 341, 3) := by decide +kernel
theorem dX12_body_4 : decode cX12_body 4 = .ok (.bipush 20, 2) := by decide +kernel
theorem dX12_body_6 : decode cX12_body 6 = .ok (.if_icmp .ge 13, 3) := by decide +kernel
theorem dX12_body_9 : decode cX12_body 9 = .ok (.aload_n 0, 1) := by decide +kernel
theorem dX12_body_10 : decode cX12_body 10 = .ok (.getfield 126, 3) := by decide +kernel
theorem dX12_body_13 : decode cX12_body 13 = .ok (.aload_n 0, 1) := by decide +kernel
theorem dX12_body_14 : decode cX12_body 14 = .ok (.getfield 341, 3) := by decide +kernel
theorem dX12_body_17 : decode cX12_body 17 = .ok (.iload_n 1, 1) := by decide +kernel
theorem dX12_body_18 : decode cX12_body 18 = .ok (.iastore, 1) := by decide +kernel
theorem dX12_body_19 : decode cX12_body 19 = .ok (.aload_n 0, 1) := by decide +kernel
theorem dX12_body_20 : decode cX12_body 20 = .ok (.dup, 1) := by decide +kernel
theorem dX12_body_21 : decode cX12_body 21 = .ok (.getfield 341, 3) := by decide +kernel
theorem dX12_body_24 : decode cX12_body 24 = .ok (.iconst 1, 1) := by decide +kernel
theorem dX12_body_25 : decode cX12_body 25 = .ok (.iadd, 1) := by decide +kernel
theorem dX12_body_26 : decode cX12_body 26 = .ok (.putfield 341, 3) := by decide +kernel
theorem dX12_body_29 : decode cX12_body 29 = .ok (.return_, 1) := by decide +kernel
theorem dX12_folding_0 : decode cX12_folding 0 = .ok (.aload_n 0, 1) := by decide +kernel
theorem dX12_folding_1 : decode cX12_folding 1 = .ok (.getfield 17, 3) := by decide +kernel
theorem dX12_folding_4 : decode cX12_folding 4 = .ok (.iload_n 1, 1) := by decide +kernel
theorem dX12_folding_5 : decode cX12_folding 5 = .ok (.iaload, 1) := by decide +kernel
theorem dX12_folding_6 : decode cX12_folding 6 = .ok (.istore_n 3, 1) := by decide +kernel
theorem dX12_folding_7 : decode cX12_folding 7 = .ok (.iload_n 3, 1) := by decide +kernel
theorem dX12_folding_8 : decode cX12_folding 8 = .ok (.iconst 1, 1) := by decide +kernel
theorem dX12_folding_9 : decode cX12_folding 9 = .ok (.if_icmp .ne 9, 3) := by decide +kernel
theorem dX12_folding_12 : decode cX12_folding 12 = .ok (.aload_n 0, 1) := by decide +kernel
theorem dX12_folding_13 : decode cX12_folding 13 = .ok (.bipush 20, 2) := by decide +kernel
theorem dX12_folding_15 : decode cX12_folding 15 = .ok (.invokevirtual 344, 3) := by decide +kernel
theorem dX12_folding_18 : decode cX12_folding 18 = .ok (.iload_n 3, 1) := by decide +kernel
theorem dX12_folding_19 : decode cX12_folding 19 = .ok (.iconst 4, 1) := by decide +kernel
theorem dX12_folding_20 : decode cX12_folding 20 = .ok (.if_icmp .ne 9, 3) := by decide +kernel
theorem dX12_folding_23 : decode cX12_folding 23 = .ok (.aload_n 0, 1) := by decide +kernel
theorem dX12_folding_24 : decode cX12_folding 24 = .ok (.bipush 51, 2) := by decide +kernel
theorem dX12_folding_26 : decode cX12_folding 26 = .ok (.invokevirtual 344, 3) := by decide +kernel
theorem dX12_folding_29 : decode cX12_folding 29 = .ok (.iload_n 3, 1) := by decide +kernel
theorem dX12_folding_30 : decode cX12_folding 30 = .ok (.bipush 6, 2) := by decide +kernel
theorem dX12_folding_32 : decode cX12_folding 32 = .ok (.if_icmp .ne 9, 3) := by decide +kernel
theorem dX12_folding_35 : decode cX12_folding 35 = .ok (.aload_n 0, 1) := by decide +kernel
theorem dX12_folding_36 : decode cX12_folding 36 = .ok (.bipush 70, 2) := by decide +kernel
theorem dX12_folding_38 : decode cX12_folding 38 = .ok (.invokevirtual 344, 3) := by decide +kernel
theorem dX12_folding_41 : decode cX12_folding 41 = .ok (.aload_n 0, 1) := by decide +kernel
theorem dX12_folding_42 : decode cX12_folding 42 = .ok (.bipush 10, 2) := by decide +kernel
theorem dX12_folding_44 : decode cX12_folding 44 = .ok (.invokevirtual 344, 3) := by decide +kernel
theorem dX12_folding_47 : decode cX12_folding 47 = .ok (.iload_n 2, 1) := by decide +kernel
theorem dX12_folding_48 : decode cX12_folding 48 = .ok (.iload_n 1, 1) := by decide +kernel
theorem dX12_folding_49 : decode cX12_folding 49 = .ok (.iadd, 1) := by decide +kernel
theorem dX12_folding_50 : decode cX12_folding 50 = .ok (.istore 4, 2) := by decide +kernel
theorem dX12_folding_52 : decode cX12_folding 52 = .ok (.iload_n 3, 1) := by decide +kernel
theorem dX12_folding_53 : decode cX12_folding 53 = .ok (.iconst 1, 1) := by decide +kernel
theorem dX12_folding_54 : decode cX12_folding 54 = .ok (.if_icmp .ne 15, 3) := by decide +kernel
theorem dX12_folding_57 : decode cX12_folding 57 = .ok (.iload 4, 2) := by decide +kernel
theorem dX12_folding_59 : decode cX12_folding 59 = .ok (.aload_n 0, 1) := by decide +kernel
theorem dX12_folding_60 : decode cX12_folding 60 = .ok (.getfield 20, 3) := by decide +kernel
theorem dX12_folding_63 : decode cX12_folding 63 = .ok (.iload_n 1, 1) := by decide +kernel
theorem dX12_folding_64 : decode cX12_folding 64 = .ok (.iaload, 1) := by decide +kernel
theorem dX12_folding_65 : decode cX12_folding 65 = .ok (.iadd, 1) := by decide +kernel
theorem dX12_folding_66 : decode cX12_folding 66 = .ok (.goto 30, 3) := by decide +kernel
theorem dX12_folding_69 : decode cX12_folding 69 = .ok (.iload_n 3, 1) := by decide +kernel
theorem dX12_folding_70 : decode cX12_folding 70 = .ok (.iconst 4, 1) := by decide +kernel
theorem dX12_folding_71 : decode cX12_folding 71 = .ok (.if_icmp .ne 10, 3) := by decide +kernel
theorem dX12_folding_74 : decode cX12_folding 74 = .ok (.iload 4, 2) := by decide +kernel
theorem dX12_folding_76 : decode cX12_folding 76 = .ok (.iload_n 1, 1) := by decide +kernel
theorem dX12_folding_77 : decode cX12_folding 77 = .ok (.isub, 1) := by decide +kernel
theorem dX12_folding_78 : decode cX12_folding 78 = .ok (.goto 18, 3) := by decide +kernel
theorem dX12_folding_81 : decode cX12_folding 81 = .ok (.iload_n 3, 1) := by decide +kernel
theorem dX12_folding_82 : decode cX12_folding 82 = .ok (.bipush 6, 2) := by decide +kernel
theorem dX12_folding_84 : decode cX12_folding 84 = .ok (.if_icmp .ne 10, 3) := by decide +kernel
theorem dX12_folding_87 : decode cX12_folding 87 = .ok (.iload 4, 2) := by decide +kernel
theorem dX12_folding_89 : decode cX12_folding 89 = .ok (.iconst 2, 1) := by decide +kernel
theorem dX12_folding_90 : decode cX12_folding 90 = .ok (.imul, 1) := by decide +kernel
theorem dX12_folding_91 : decode cX12_folding 91 = .ok (.goto 5, 3) := by decide +kernel
theorem dX12_folding_94 : decode cX12_folding 94 = .ok (.iload 4, 2) := by decide +kernel
theorem dX12_folding_96 : decode cX12_folding 96 = .ok (.ireturn, 1) := by decide +kernel
theorem dX12_opening_0 : decode cX12_opening 0 = .ok (.aload_n 0, 1) := by decide +kernel
theorem dX12_opening_1 : decode cX12_opening 1 = .ok (.getfield 17, 3) := by decide +kernel
theorem dX12_opening_4 : decode cX12_opening 4 = .ok (.iload_n 1, 1) := by decide +kernel
theorem dX12_opening_5 : decode cX12_opening 5 = .ok (.iaload, 1) := by decide +kernel
theorem dX12_opening_6 : decode cX12_opening 6 = .ok (.istore_n 3, 1) := by decide +kernel
theorem dX12_opening_7 : decode cX12_opening 7 = .ok (.iload_n 2, 1) := by decide +kernel
theorem dX12_opening_8 : decode cX12_opening 8 = .ok (.istore 4, 2) := by decide +kernel
theorem dX12_opening_10 : decode cX12_opening 10 = .ok (.iload_n 3, 1) := by decide +kernel
theorem dX12_opening_11 : decode cX12_opening 11 = .ok (.iconst 2, 1) := by decide +kernel
theorem dX12_opening_12 : decode cX12_opening 12 = .ok (.if_icmp .ne 9, 3) := by decide +kernel
theorem dX12_opening_15 : decode cX12_opening 15 = .ok (.aload_n 0, 1) := by decide +kernel
theorem dX12_opening_16 : decode cX12_opening 16 = .ok (.bipush 30, 2) := by decide +kernel
theorem dX12_opening_18 : decode cX12_opening 18 = .ok (.invokevirtual 344, 3) := by decide +kernel
theorem dX12_opening_21 : decode cX12_opening 21 = .ok (.iload_n 3, 1) := by decide +kernel
theorem dX12_opening_22 : decode cX12_opening 22 = .ok (.iconst 3, 1) := by decide +kernel
theorem dX12_opening_23 : decode cX12_opening 23 = .ok (.if_icmp .eq 8, 3) := by decide +kernel
theorem dX12_opening_26 : decode cX12_opening 26 = .ok (.iload_n 3, 1) := by decide +kernel
theorem dX12_opening_27 : decode cX12_opening 27 = .ok (.iconst 4, 1) := by decide +kernel
theorem dX12_opening_28 : decode cX12_opening 28 = .ok (.if_icmp .ne 14, 3) := by decide +kernel
theorem dX12_opening_31 : decode cX12_opening 31 = .ok (.aload_n 0, 1) := by decide +kernel
theorem dX12_opening_32 : decode cX12_opening 32 = .ok (.bipush 40, 2) := by decide +kernel
theorem dX12_opening_34 : decode cX12_opening 34 = .ok (.invokevirtual 344, 3) := by decide +kernel
theorem dX12_opening_37 : decode cX12_opening 37 = .ok (.iload_n 2, 1) := by decide +kernel
theorem dX12_opening_38 : decode cX12_opening 38 = .ok (.iconst 1, 1) := by decide +kernel
theorem dX12_opening_39 : decode cX12_opening 39 = .ok (.iadd, 1) := by decide +kernel
theorem dX12_opening_40 : decode cX12_opening 40 = .ok (.istore 4, 2) := by decide +kernel
theorem dX12_opening_42 : decode cX12_opening 42 = .ok (.iload_n 3, 1) := by decide +kernel
theorem dX12_opening_43 : decode cX12_opening 43 = .ok (.bipush 6, 2) := by decide +kernel
theorem dX12_opening_45 : decode cX12_opening 45 = .ok (.if_icmp .ne 19, 3) := by decide +kernel
theorem dX12_opening_48 : decode cX12_opening 48 = .ok (.aload_n 0, 1) := by decide +kernel
theorem dX12_opening_49 : decode cX12_opening 49 = .ok (.bipush 71, 2) := by decide +kernel
theorem dX12_opening_51 : decode cX12_opening 51 = .ok (.invokevirtual 344, 3) := by decide +kernel
theorem dX12_opening_54 : decode cX12_opening 54 = .ok (.iload_n 2, 1) := by decide +kernel
theorem dX12_opening_55 : decode cX12_opening 55 = .ok (.aload_n 0, 1) := by decide +kernel
theorem dX12_opening_56 : decode cX12_opening 56 = .ok (.getfield 20, 3) := by decide +kernel
theorem dX12_opening_59 : decode cX12_opening 59 = .ok (.iload_n 1, 1) := by decide +kernel
theorem dX12_opening_60 : decode cX12_opening 60 = .ok (.iaload, 1) := by decide +kernel
theorem dX12_opening_61 : decode cX12_opening 61 = .ok (.isub, 1) := by decide +kernel
theorem dX12_opening_62 : decode cX12_opening 62 = .ok (.istore 4, 2) := by decide +kernel
theorem dX12_opening_64 : decode cX12_opening 64 = .ok (.aload_n 0, 1) := by decide +kernel
theorem dX12_opening_65 : decode cX12_opening 65 = .ok (.bipush 11, 2) := by decide +kernel
theorem dX12_opening_67 : decode cX12_opening 67 = .ok (.invokevirtual 344, 3) := by decide +kernel
theorem dX12_opening_70 : decode cX12_opening 70 = .ok (.aload_n 0, 1) := by decide +kernel
theorem dX12_opening_71 : decode cX12_opening 71 = .ok (.iload_n 1, 1) := by decide +kernel
theorem dX12_opening_72 : decode cX12_opening 72 = .ok (.iload 4, 2) := by decide +kernel
theorem dX12_opening_74 : decode cX12_opening 74 = .ok (.invokevirtual 347, 3) := by decide +kernel
theorem dX12_opening_77 : decode cX12_opening 77 = .ok (.iconst 2, 1) := by decide +kernel
theorem dX12_opening_78 : decode cX12_opening 78 = .ok (.imul, 1) := by decide +kernel
theorem dX12_opening_79 : decode cX12_opening 79 = .ok (.istore 5, 2) := by decide +kernel
theorem dX12_opening_81 : decode cX12_opening 81 = .ok (.iload_n 3, 1) := by decide +kernel
theorem dX12_opening_82 : decode cX12_opening 82 = .ok (.iconst 2, 1) := by decide +kernel
theorem dX12_opening_83 : decode cX12_opening 83 = .ok (.if_icmp .ne 10, 3) := by decide +kernel
theorem dX12_opening_86 : decode cX12_opening 86 = .ok (.iload 5, 2) := by decide +kernel
theorem dX12_opening_88 : decode cX12_opening 88 = .ok (.iconst 3, 1) := by decide +kernel
theorem dX12_opening_89 : decode cX12_opening 89 = .ok (.imul, 1) := by decide +kernel
theorem dX12_opening_90 : decode cX12_opening 90 = .ok (.goto 5, 3) := by decide +kernel
theorem dX12_opening_93 : decode cX12_opening 93 = .ok (.iload 5, 2) := by decide +kernel
theorem dX12_opening_95 : decode cX12_opening 95 = .ok (.ireturn, 1) := by decide +kernel
theorem dX12_lying_0 : decode cX12_lying 0 = .ok (.aload_n 0, 1) := by decide +kernel
theorem dX12_lying_1 : decode cX12_lying 1 = .ok (.getfield 17, 3) := by decide +kernel
theorem dX12_lying_4 : decode cX12_lying 4 = .ok (.iload_n 1, 1) := by decide +kernel
theorem dX12_lying_5 : decode cX12_lying 5 = .ok (.iaload, 1) := by decide +kernel
theorem dX12_lying_6 : decode cX12_lying 6 = .ok (.istore_n 3, 1) := by decide +kernel
theorem dX12_lying_7 : decode cX12_lying 7 = .ok (.iload_n 3, 1) := by decide +kernel
theorem dX12_lying_8 : decode cX12_lying 8 = .ok (.iconst 4, 1) := by decide +kernel
theorem dX12_lying_9 : decode cX12_lying 9 = .ok (.if_icmp .ne 9, 3) := by decide +kernel
theorem dX12_lying_12 : decode cX12_lying 12 = .ok (.aload_n 0, 1) := by decide +kernel
theorem dX12_lying_13 : decode cX12_lying 13 = .ok (.bipush 50, 2) := by decide +kernel
theorem dX12_lying_15 : decode cX12_lying 15 = .ok (.invokevirtual 344, 3) := by decide +kernel
theorem dX12_lying_18 : decode cX12_lying 18 = .ok (.iload_n 3, 1) := by decide +kernel
theorem dX12_lying_19 : decode cX12_lying 19 = .ok (.iconst 5, 1) := by decide +kernel
theorem dX12_lying_20 : decode cX12_lying 20 = .ok (.if_icmp .eq 9, 3) := by decide +kernel
theorem dX12_lying_23 : decode cX12_lying 23 = .ok (.iload_n 3, 1) := by decide +kernel
theorem dX12_lying_24 : decode cX12_lying 24 = .ok (.bipush 6, 2) := by decide +kernel
theorem dX12_lying_26 : decode cX12_lying 26 = .ok (.if_icmp .ne 9, 3) := by decide +kernel
theorem dX12_lying_29 : decode cX12_lying 29 = .ok (.aload_n 0, 1) := by decide +kernel
theorem dX12_lying_30 : decode cX12_lying 30 = .ok (.bipush 60, 2) := by decide +kernel
theorem dX12_lying_32 : decode cX12_lying 32 = .ok (.invokevirtual 344, 3) := by decide +kernel
theorem dX12_lying_35 : decode cX12_lying 35 = .ok (.aload_n 0, 1) := by decide +kernel
theorem dX12_lying_36 : decode cX12_lying 36 = .ok (.bipush 12, 2) := by decide +kernel
theorem dX12_lying_38 : decode cX12_lying 38 = .ok (.invokevirtual 344, 3) := by decide +kernel
theorem dX12_lying_41 : decode cX12_lying 41 = .ok (.aload_n 0, 1) := by decide +kernel
theorem dX12_lying_42 : decode cX12_lying 42 = .ok (.iload_n 1, 1) := by decide +kernel
theorem dX12_lying_43 : decode cX12_lying 43 = .ok (.iload_n 2, 1) := by decide +kernel
theorem dX12_lying_44 : decode cX12_lying 44 = .ok (.invokevirtual 350, 3) := by decide +kernel
theorem dX12_lying_47 : decode cX12_lying 47 = .ok (.istore 4, 2) := by decide +kernel
theorem dX12_lying_49 : decode cX12_lying 49 = .ok (.iload 4, 2) := by decide +kernel
theorem dX12_lying_51 : decode cX12_lying 51 = .ok (.aload_n 0, 1) := by decide +kernel
theorem dX12_lying_52 : decode cX12_lying 52 = .ok (.iload_n 1, 1) := by decide +kernel
theorem dX12_lying_53 : decode cX12_lying 53 = .ok (.iload_n 2, 1) := by decide +kernel
theorem dX12_lying_54 : decode cX12_lying 54 = .ok (.aload_n 0, 1) := by decide +kernel
theorem dX12_lying_55 : decode cX12_lying 55 = .ok (.getfield 20, 3) := by decide +kernel
theorem dX12_lying_58 : decode cX12_lying 58 = .ok (.iload_n 1, 1) := by decide +kernel
theorem dX12_lying_59 : decode cX12_lying 59 = .ok (.iaload, 1) := by decide +kernel
theorem dX12_lying_60 : decode cX12_lying 60 = .ok (.isub, 1) := by decide +kernel
theorem dX12_lying_61 : decode cX12_lying 61 = .ok (.invokevirtual 347, 3) := by decide +kernel
theorem dX12_lying_64 : decode cX12_lying 64 = .ok (.ixor, 1) := by decide +kernel
theorem dX12_lying_65 : decode cX12_lying 65 = .ok (.istore 4, 2) := by decide +kernel
theorem dX12_lying_67 : decode cX12_lying 67 = .ok (.iload_n 3, 1) := by decide +kernel
theorem dX12_lying_68 : decode cX12_lying 68 = .ok (.iconst 4, 1) := by decide +kernel
theorem dX12_lying_69 : decode cX12_lying 69 = .ok (.if_icmp .ne 9, 3) := by decide +kernel
theorem dX12_lying_72 : decode cX12_lying 72 = .ok (.iload 4, 2) := by decide +kernel
theorem dX12_lying_74 : decode cX12_lying 74 = .ok (.ineg, 1) := by decide +kernel
theorem dX12_lying_75 : decode cX12_lying 75 = .ok (.goto 23, 3) := by decide +kernel
theorem dX12_lying_78 : decode cX12_lying 78 = .ok (.iload_n 3, 1) := by decide +kernel
theorem dX12_lying_79 : decode cX12_lying 79 = .ok (.iconst 5, 1) := by decide +kernel
theorem dX12_lying_80 : decode cX12_lying 80 = .ok (.if_icmp .eq 9, 3) := by decide +kernel
theorem dX12_lying_83 : decode cX12_lying 83 = .ok (.iload_n 3, 1) := by decide +kernel
theorem dX12_lying_84 : decode cX12_lying 84 = .ok (.bipush 6, 2) := by decide +kernel
theorem dX12_lying_86 : decode cX12_lying 86 = .ok (.if_icmp .ne 10, 3) := by decide +kernel
theorem dX12_lying_89 : decode cX12_lying 89 = .ok (.iload 4, 2) := by decide +kernel
theorem dX12_lying_91 : decode cX12_lying 91 = .ok (.iconst 5, 1) := by decide +kernel
theorem dX12_lying_92 : decode cX12_lying 92 = .ok (.ixor, 1) := by decide +kernel
theorem dX12_lying_93 : decode cX12_lying 93 = .ok (.goto 5, 3) := by decide +kernel
theorem dX12_lying_96 : decode cX12_lying 96 = .ok (.iload 4, 2) := by decide +kernel
theorem dX12_lying_98 : decode cX12_lying 98 = .ok (.ireturn, 1) := by decide +kernel
theorem dX12_act_0 : decode cX12_act 0 = .ok (.aload_n 0, 1) := by decide +kernel
theorem dX12_act_1 : decode cX12_act 1 = .ok (.iconst 0, 1) := by decide +kernel
theorem dX12_act_2 : decode cX12_act 2 = .ok (.putfield 341, 3) := by decide +kernel
theorem dX12_act_5 : decode cX12_act 5 = .ok (.aload_n 0, 1) := by decide +kernel
theorem dX12_act_6 : decode cX12_act 6 = .ok (.iload_n 1, 1) := by decide +kernel
theorem dX12_act_7 : decode cX12_act 7 = .ok (.invokevirtual 140, 3) := by decide +kernel
theorem dX12_act_10 : decode cX12_act 10 = .ok (.ifCond .eq 12, 3) := by decide +kernel
theorem dX12_act_13 : decode cX12_act 13 = .ok (.iload_n 2, 1) := by decide +kernel
theorem dX12_act_14 : decode cX12_act 14 = .ok (.ifCond .lt 8, 3) := by decide +kernel
theorem dX12_act_17 : decode cX12_act 17 = .ok (.iload_n 2, 1) := by decide +kernel
theorem dX12_act_18 : decode cX12_act 18 = .ok (.iconst 2, 1) := by decide +kernel
theorem dX12_act_19 : decode cX12_act 19 = .ok (.if_icmp .le 5, 3) := by decide +kernel
theorem dX12_act_22 : decode cX12_act 22 = .ok (.iconst 0, 1) := by decide +kernel
theorem dX12_act_23 : decode cX12_act 23 = .ok (.ireturn, 1) := by decide +kernel
theorem dX12_act_24 : decode cX12_act 24 = .ok (.iload_n 2, 1) := by decide +kernel
theorem dX12_act_25 : decode cX12_act 25 = .ok (.ifCond .ne 12, 3) := by decide +kernel
theorem dX12_act_28 : decode cX12_act 28 = .ok (.aload_n 0, 1) := by decide +kernel
theorem dX12_act_29 : decode cX12_act 29 = .ok (.iload_n 1, 1) := by decide +kernel
theorem dX12_act_30 : decode cX12_act 30 = .ok (.iload_n 3, 1) := by decide +kernel
theorem dX12_act_31 : decode cX12_act 31 = .ok (.invokevirtual 347, 3) := by decide +kernel
theorem dX12_act_34 : decode cX12_act 34 = .ok (.goto 23, 3) := by decide +kernel
theorem dX12_act_37 : decode cX12_act 37 = .ok (.iload_n 2, 1) := by decide +kernel
theorem dX12_act_38 : decode cX12_act 38 = .ok (.iconst 1, 1) := by decide +kernel
theorem dX12_act_39 : decode cX12_act 39 = .ok (.if_icmp .ne 12, 3) := by decide +kernel
theorem dX12_act_42 : decode cX12_act 42 = .ok (.aload_n 0, 1) := by decide +kernel
theorem dX12_act_43 : decode cX12_act 43 = .ok (.iload_n 1, 1) := by decide +kernel
theorem dX12_act_44 : decode cX12_act 44 = .ok (.iload_n 3, 1) := by decide +kernel
theorem dX12_act_45 : decode cX12_act 45 = .ok (.invokevirtual 350, 3) := by decide +kernel
theorem dX12_act_48 : decode cX12_act 48 = .ok (.goto 9, 3) := by decide +kernel
theorem dX12_act_51 : decode cX12_act 51 = .ok (.aload_n 0, 1) := by decide +kernel
theorem dX12_act_52 : decode cX12_act 52 = .ok (.iload_n 1, 1) := by decide +kernel
theorem dX12_act_53 : decode cX12_act 53 = .ok (.iload_n 3, 1) := by decide +kernel
theorem dX12_act_54 : decode cX12_act 54 = .ok (.invokevirtual 353, 3) := by decide +kernel
theorem dX12_act_57 : decode cX12_act 57 = .ok (.ireturn, 1) := by decide +kernel
theorem dX12_trace_0 : decode cX12_trace 0 = .ok (.iload_n 1, 1) := by decide +kernel
theorem dX12_trace_1 : decode cX12_trace 1 = .ok (.ifCond .lt 26, 3) := by decide +kernel
theorem dX12_trace_4 : decode cX12_trace 4 = .ok (.iload_n 1, 1) := by decide +kernel
theorem dX12_trace_5 : decode cX12_trace 5 = .ok (.bipush 20, 2) := by decide +kernel
theorem dX12_trace_7 : decode cX12_trace 7 = .ok (.if_icmp .ge 20, 3) := by decide +kernel
theorem dX12_trace_10 : decode cX12_trace 10 = .ok (.iload_n 1, 1) := by decide +kernel
theorem dX12_trace_11 : decode cX12_trace 11 = .ok (.aload_n 0, 1) := by decide +kernel
theorem dX12_trace_12 : decode cX12_trace 12 = .ok (.getfield 341, 3) := by decide +kernel
theorem dX12_trace_15 : decode cX12_trace 15 = .ok (.if_icmp .ge 12, 3) := by decide +kernel
theorem dX12_trace_18 : decode cX12_trace 18 = .ok (.aload_n 0, 1) := by decide +kernel
theorem dX12_trace_19 : decode cX12_trace 19 = .ok (.getfield 126, 3) := by decide +kernel
theorem dX12_trace_22 : decode cX12_trace 22 = .ok (.iload_n 1, 1) := by decide +kernel
theorem dX12_trace_23 : decode cX12_trace 23 = .ok (.iaload, 1) := by decide +kernel
theorem dX12_trace_24 : decode cX12_trace 24 = .ok (.goto 4, 3) := by decide +kernel
theorem dX12_trace_27 : decode cX12_trace 27 = .ok (.iconst (-1), 1) := by decide +kernel
theorem dX12_trace_28 : decode cX12_trace 28 = .ok (.ireturn, 1) := by decide +kernel
theorem dX12_image_0 : decode cX12_image 0 = .ok (.aload_n 0, 1) := by decide +kernel
theorem dX12_image_1 : decode cX12_image 1 = .ok (.iconst 1, 1) := by decide +kernel
theorem dX12_image_2 : decode cX12_image 2 = .ok (.putfield 356, 3) := by decide +kernel
theorem dX12_image_5 : decode cX12_image 5 = .ok (.aload_n 0, 1) := by decide +kernel
theorem dX12_image_6 : decode cX12_image 6 = .ok (.aload_n 0, 1) := by decide +kernel
theorem dX12_image_7 : decode cX12_image 7 = .ok (.getfield 54, 3) := by decide +kernel
theorem dX12_image_10 : decode cX12_image 10 = .ok (.aload_n 0, 1) := by decide +kernel
theorem dX12_image_11 : decode cX12_image 11 = .ok (.getfield 60, 3) := by decide +kernel
theorem dX12_image_14 : decode cX12_image 14 = .ok (.iconst 0, 1) := by decide +kernel
theorem dX12_image_15 : decode cX12_image 15 = .ok (.invokevirtual 215, 3) := by decide +kernel
theorem dX12_image_18 : decode cX12_image 18 = .ok (.aload_n 0, 1) := by decide +kernel
theorem dX12_image_19 : decode cX12_image 19 = .ok (.getfield 129, 3) := by decide +kernel
theorem dX12_image_22 : decode cX12_image 22 = .ok (.ireturn, 1) := by decide +kernel
theorem dX12_restore_0 : decode cX12_restore 0 = .ok (.aload_n 0, 1) := by decide +kernel
theorem dX12_restore_1 : decode cX12_restore 1 = .ok (.getfield 356, 3) := by decide +kernel
theorem dX12_restore_4 : decode cX12_restore 4 = .ok (.ifCond .ne 10, 3) := by decide +kernel
theorem dX12_restore_7 : decode cX12_restore 7 = .ok (.aload_n 0, 1) := by decide +kernel
theorem dX12_restore_8 : decode cX12_restore 8 = .ok (.bipush (-6), 2) := by decide +kernel
theorem dX12_restore_10 : decode cX12_restore 10 = .ok (.invokevirtual 136, 3) := by decide +kernel
theorem dX12_restore_13 : decode cX12_restore 13 = .ok (.ireturn, 1) := by decide +kernel
theorem dX12_restore_14 : decode cX12_restore 14 = .ok (.aload_n 0, 1) := by decide +kernel
theorem dX12_restore_15 : decode cX12_restore 15 = .ok (.aload_n 0, 1) := by decide +kernel
theorem dX12_restore_16 : decode cX12_restore 16 = .ok (.getfield 54, 3) := by decide +kernel
theorem dX12_restore_19 : decode cX12_restore 19 = .ok (.aload_n 0, 1) := by decide +kernel
theorem dX12_restore_20 : decode cX12_restore 20 = .ok (.getfield 60, 3) := by decide +kernel
theorem dX12_restore_23 : decode cX12_restore 23 = .ok (.iconst 1, 1) := by decide +kernel
theorem dX12_restore_24 : decode cX12_restore 24 = .ok (.invokevirtual 215, 3) := by decide +kernel
theorem dX12_restore_27 : decode cX12_restore 27 = .ok (.iconst 0, 1) := by decide +kernel
theorem dX12_restore_28 : decode cX12_restore 28 = .ok (.istore_n 1, 1) := by decide +kernel
theorem dX12_restore_29 : decode cX12_restore 29 = .ok (.iload_n 1, 1) := by decide +kernel
theorem dX12_restore_30 : decode cX12_restore 30 = .ok (.bipush 8, 2) := by decide +kernel
theorem dX12_restore_32 : decode cX12_restore 32 = .ok (.if_icmp .ge 39, 3) := by decide +kernel
theorem dX12_restore_35 : decode cX12_restore 35 = .ok (.aload_n 0, 1) := by decide +kernel
theorem dX12_restore_36 : decode cX12_restore 36 = .ok (.getfield 30, 3) := by decide +kernel
theorem dX12_restore_39 : decode cX12_restore 39 = .ok (.iload_n 1, 1) := by decide +kernel
theorem dX12_restore_40 : decode cX12_restore 40 = .ok (.iaload, 1) := by decide +kernel
theorem dX12_restore_41 : decode cX12_restore 41 = .ok (.iconst 2, 1) := by decide +kernel
theorem dX12_restore_42 : decode cX12_restore 42 = .ok (.if_icmp .ne 23, 3) := by decide +kernel
theorem dX12_restore_45 : decode cX12_restore 45 = .ok (.aload_n 0, 1) := by decide +kernel
theorem dX12_restore_46 : decode cX12_restore 46 = .ok (.getfield 39, 3) := by decide +kernel
theorem dX12_restore_49 : decode cX12_restore 49 = .ok (.iload_n 1, 1) := by decide +kernel
theorem dX12_restore_50 : decode cX12_restore 50 = .ok (.iaload, 1) := by decide +kernel
theorem dX12_restore_51 : decode cX12_restore 51 = .ok (.aload_n 0, 1) := by decide +kernel
theorem dX12_restore_52 : decode cX12_restore 52 = .ok (.getfield 129, 3) := by decide +kernel
theorem dX12_restore_55 : decode cX12_restore 55 = .ok (.if_icmp .lt 10, 3) := by decide +kernel
theorem dX12_restore_58 : decode cX12_restore 58 = .ok (.aload_n 0, 1) := by decide +kernel
theorem dX12_restore_59 : decode cX12_restore 59 = .ok (.getfield 30, 3) := by decide +kernel
theorem dX12_restore_62 : decode cX12_restore 62 = .ok (.iload_n 1, 1) := by decide +kernel
theorem dX12_restore_63 : decode cX12_restore 63 = .ok (.iconst 0, 1) := by decide +kernel
theorem dX12_restore_64 : decode cX12_restore 64 = .ok (.iastore, 1) := by decide +kernel
theorem dX12_restore_65 : decode cX12_restore 65 = .ok (.iinc 1 1, 3) := by decide +kernel
theorem dX12_restore_68 : decode cX12_restore 68 = .ok (.goto (-39), 3) := by decide +kernel
theorem dX12_restore_71 : decode cX12_restore 71 = .ok (.aload_n 0, 1) := by decide +kernel
theorem dX12_restore_72 : decode cX12_restore 72 = .ok (.getfield 129, 3) := by decide +kernel
theorem dX12_restore_75 : decode cX12_restore 75 = .ok (.ireturn, 1) := by decide +kernel
theorem dX12_status_0 : decode cX12_status 0 = .ok (.iload_n 1, 1) := by decide +kernel
theorem dX12_status_1 : decode cX12_status 1 = .ok (.bipush 11, 2) := by decide +kernel
theorem dX12_status_3 : decode cX12_status 3 = .ok (.if_icmp .lt 19, 3) := by decide +kernel
theorem dX12_status_6 : decode cX12_status 6 = .ok (.iload_n 1, 1) := by decide +kernel
theorem dX12_status_7 : decode cX12_status 7 = .ok (.bipush 17, 2) := by decide +kernel
theorem dX12_status_9 : decode cX12_status 9 = .ok (.if_icmp .gt 13, 3) := by decide +kernel
theorem dX12_status_12 : decode cX12_status 12 = .ok (.aload_n 0, 1) := by decide +kernel
theorem dX12_status_13 : decode cX12_status 13 = .ok (.getfield 13, 3) := by decide +kernel
theorem dX12_status_16 : decode cX12_status 16 = .ok (.iload_n 1, 1) := by decide +kernel
theorem dX12_status_17 : decode cX12_status 17 = .ok (.bipush 10, 2) := by decide +kernel
theorem dX12_status_19 : decode cX12_status 19 = .ok (.isub, 1) := by decide +kernel
theorem dX12_status_20 : decode cX12_status 20 = .ok (.iaload, 1) := by decide +kernel
theorem dX12_status_21 : decode cX12_status 21 = .ok (.ireturn, 1) := by decide +kernel
theorem dX12_status_22 : decode cX12_status 22 = .ok (.iconst 0, 1) := by decide +kernel
theorem dX12_status_23 : decode cX12_status 23 = .ok (.istore_n 2, 1) := by decide +kernel
theorem dX12_status_24 : decode cX12_status 24 = .ok (.iload_n 1, 1) := by decide +kernel
theorem dX12_status_25 : decode cX12_status 25 = .ok (.tableswitch 116 0 3 #[31, 36, 63, 111], 31) := by decide +kernel
theorem dX12_status_56 : decode cX12_status 56 = .ok (.aload_n 0, 1) := by decide +kernel
theorem dX12_status_57 : decode cX12_status 57 = .ok (.getfield 129, 3) := by decide +kernel
theorem dX12_status_60 : decode cX12_status 60 = .ok (.ireturn, 1) := by decide +kernel
theorem dX12_status_61 : decode cX12_status 61 = .ok (.iconst 0, 1) := by decide +kernel
theorem dX12_status_62 : decode cX12_status 62 = .ok (.istore_n 3, 1) := by decide +kernel
theorem dX12_status_63 : decode cX12_status 63 = .ok (.iload_n 3, 1) := by decide +kernel
theorem dX12_status_64 : decode cX12_status 64 = .ok (.aload_n 0, 1) := by decide +kernel
theorem dX12_status_65 : decode cX12_status 65 = .ok (.getfield 129, 3) := by decide +kernel
theorem dX12_status_68 : decode cX12_status 68 = .ok (.if_icmp .ge 18, 3) := by decide +kernel
theorem dX12_status_71 : decode cX12_status 71 = .ok (.iload_n 2, 1) := by decide +kernel
theorem dX12_status_72 : decode cX12_status 72 = .ok (.aload_n 0, 1) := by decide +kernel
theorem dX12_status_73 : decode cX12_status 73 = .ok (.getfield 23, 3) := by decide +kernel
theorem dX12_status_76 : decode cX12_status 76 = .ok (.iload_n 3, 1) := by decide +kernel
theorem dX12_status_77 : decode cX12_status 77 = .ok (.iaload, 1) := by decide +kernel
theorem dX12_status_78 : decode cX12_status 78 = .ok (.iadd, 1) := by decide +kernel
theorem dX12_status_79 : decode cX12_status 79 = .ok (.istore_n 2, 1) := by decide +kernel
theorem dX12_status_80 : decode cX12_status 80 = .ok (.iinc 3 1, 3) := by decide +kernel
theorem dX12_status_83 : decode cX12_status 83 = .ok (.goto (-20), 3) := by decide +kernel
theorem dX12_status_86 : decode cX12_status 86 = .ok (.iload_n 2, 1) := by decide +kernel
theorem dX12_status_87 : decode cX12_status 87 = .ok (.ireturn, 1) := by decide +kernel
theorem dX12_status_88 : decode cX12_status 88 = .ok (.iconst 0, 1) := by decide +kernel
theorem dX12_status_89 : decode cX12_status 89 = .ok (.istore_n 3, 1) := by decide +kernel
theorem dX12_status_90 : decode cX12_status 90 = .ok (.iload_n 3, 1) := by decide +kernel
theorem dX12_status_91 : decode cX12_status 91 = .ok (.aload_n 0, 1) := by decide +kernel
theorem dX12_status_92 : decode cX12_status 92 = .ok (.getfield 129, 3) := by decide +kernel
theorem dX12_status_95 : decode cX12_status 95 = .ok (.if_icmp .ge 39, 3) := by decide +kernel
theorem dX12_status_98 : decode cX12_status 98 = .ok (.iconst 0, 1) := by decide +kernel
theorem dX12_status_99 : decode cX12_status 99 = .ok (.istore 4, 2) := by decide +kernel
theorem dX12_status_101 : decode cX12_status 101 = .ok (.iload 4, 2) := by decide +kernel
theorem dX12_status_103 : decode cX12_status 103 = .ok (.aload_n 0, 1) := by decide +kernel
theorem dX12_status_104 : decode cX12_status 104 = .ok (.getfield 23, 3) := by decide +kernel
theorem dX12_status_107 : decode cX12_status 107 = .ok (.iload_n 3, 1) := by decide +kernel
theorem dX12_status_108 : decode cX12_status 108 = .ok (.iaload, 1) := by decide +kernel
theorem dX12_status_109 : decode cX12_status 109 = .ok (.if_icmp .ge 19, 3) := by decide +kernel
theorem dX12_status_112 : decode cX12_status 112 = .ok (.iload_n 2, 1) := by decide +kernel
theorem dX12_status_113 : decode cX12_status 113 = .ok (.aload_n 0, 1) := by decide +kernel
theorem dX12_status_114 : decode cX12_status 114 = .ok (.iload_n 3, 1) := by decide +kernel
theorem dX12_status_115 : decode cX12_status 115 = .ok (.iload 4, 2) := by decide +kernel
theorem dX12_status_117 : decode cX12_status 117 = .ok (.invokevirtual 168, 3) := by decide +kernel
theorem dX12_status_120 : decode cX12_status 120 = .ok (.iadd, 1) := by decide +kernel
theorem dX12_status_121 : decode cX12_status 121 = .ok (.istore_n 2, 1) := by decide +kernel
theorem dX12_status_122 : decode cX12_status 122 = .ok (.iinc 4 1, 3) := by decide +kernel
theorem dX12_status_125 : decode cX12_status 125 = .ok (.goto (-24), 3) := by decide +kernel
theorem dX12_status_128 : decode cX12_status 128 = .ok (.iinc 3 1, 3) := by decide +kernel
theorem dX12_status_131 : decode cX12_status 131 = .ok (.goto (-41), 3) := by decide +kernel
theorem dX12_status_134 : decode cX12_status 134 = .ok (.iload_n 2, 1) := by decide +kernel
theorem dX12_status_135 : decode cX12_status 135 = .ok (.ireturn, 1) := by decide +kernel
theorem dX12_status_136 : decode cX12_status 136 = .ok (.aload_n 0, 1) := by decide +kernel
theorem dX12_status_137 : decode cX12_status 137 = .ok (.getfield 341, 3) := by decide +kernel
theorem dX12_status_140 : decode cX12_status 140 = .ok (.ireturn, 1) := by decide +kernel
theorem dX12_status_141 : decode cX12_status 141 = .ok (.iconst (-1), 1) := by decide +kernel
theorem dX12_status_142 : decode cX12_status 142 = .ok (.ireturn, 1) := by decide +kernel
