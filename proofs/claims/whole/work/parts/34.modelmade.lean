variable {ad : Nat → Nat} {D : va_G} {cA : Nat → ClassId} {h0 hA : Nat} {l : Launch}
theorem dX10_init_0 : decode cX10_init 0 = .ok (.aload_n 0, 1) := by decide +kernel
theorem dX10_init_1 : decode cX10_init 1 = .ok (.invokespecial 1, 3) := by decide +kernel
theorem dX10_init_4 : decode cX10_init 4 = .ok (.aload_n 0, 1) := by decide +kernel
theorem dX10_init_5 : decode cX10_init 5 = .ok (.iconst 0, 1) := by decide +kernel
theorem dX10_init_6 : decode cX10_init 6 = .ok (.putfield 7, 3) := by decide +kernel
theorem dX10_init_9 : decode cX10_init 9 = .ok (.aload_n 0, 1) := by decide +kernel
theorem dX10_init_10 : decode cX10_init 10 = .ok (.iconst 0, 1) := by decide +kernel
theorem dX10_init_11 : decode cX10_init 11 = .ok (.putfield 13, 3) := by decide +kernel
theorem dX10_init_14 : decode cX10_init 14 = .ok (.aload_n 0, 1) := by decide +kernel
theorem dX10_init_15 : decode cX10_init 15 = .ok (.sipush 200, 3) := by decide +kernel
theorem dX10_init_18 : decode cX10_init 18 = .ok (.putfield 16, 3) := by decide +kernel
theorem dX10_init_21 : decode cX10_init 21 = .ok (.aload_n 0, 1) := by decide +kernel
theorem dX10_init_22 : decode cX10_init 22 = .ok (.iconst 0, 1) := by decide +kernel
theorem dX10_init_23 : decode cX10_init 23 = .ok (.putfield 19, 3) := by decide +kernel
theorem dX10_init_26 : decode cX10_init 26 = .ok (.aload_n 0, 1) := by decide +kernel
theorem dX10_init_27 : decode cX10_init 27 = .ok (.bipush 6, 2) := by decide +kernel
theorem dX10_init_29 : decode cX10_init 29 = .ok (.newarray .int, 2) := by decide +kernel
theorem dX10_init_31 : decode cX10_init 31 = .ok (.dup, 1) := by decide +kernel
theorem dX10_init_32 : decode cX10_init 32 = .ok (.iconst 0, 1) := by decide +kernel
theorem dX10_init_33 : decode cX10_init 33 = .ok (.bipush 10, 2) := by decide +kernel
theorem dX10_init_35 : decode cX10_init 35 = .ok (.iastore, 1) := by decide +kernel
theorem dX10_init_36 : decode cX10_init 36 = .ok (.dup, 1) := by decide +kernel
theorem dX10_init_37 : decode cX10_init 37 = .ok (.iconst 1, 1) := by decide +kernel
theorem dX10_init_38 : decode cX10_init 38 = .ok (.bipush 10, 2) := by decide +kernel
theorem dX10_init_40 : decode cX10_init 40 = .ok (.iastore, 1) := by decide +kernel
theorem dX10_init_41 : decode cX10_init 41 = .ok (.dup, 1) := by decide +kernel
theorem dX10_init_42 : decode cX10_init 42 = .ok (.iconst 2, 1) := by decide +kernel
theorem dX10_init_43 : decode cX10_init 43 = .ok (.bipush 10, 2) := by decide +kernel
theorem dX10_init_45 : decode cX10_init 45 = .ok (.iastore, 1) := by decide +kernel
theorem dX10_init_46 : decode cX10_init 46 = .ok (.dup, 1) := by decide +kernel
theorem dX10_init_47 : decode cX10_init 47 = .ok (.iconst 3, 1) := by decide +kernel
theorem dX10_init_48 : decode cX10_init 48 = .ok (.bipush 10, 2) := by decide +kernel
theorem dX10_init_50 : decode cX10_init 50 = .ok (.iastore, 1) := by decide +kernel
theorem dX10_init_51 : decode cX10_init 51 = .ok (.dup, 1) := by decide +kernel
theorem dX10_init_52 : decode cX10_init 52 = .ok (.iconst 4, 1) := by decide +kernel
theorem dX10_init_53 : decode cX10_init 53 = .ok (.bipush 10, 2) := by decide +kernel
theorem dX10_init_55 : decode cX10_init 55 = .ok (.iastore, 1) := by decide +kernel
theorem dX10_init_56 : decode cX10_init 56 = .ok (.dup, 1) := by decide +kernel
theorem dX10_init_57 : decode cX10_init 57 = .ok (.iconst 5, 1) := by decide +kernel
theorem dX10_init_58 : decode cX10_init 58 = .ok (.bipush 10, 2) := by decide +kernel
theorem dX10_init_60 : decode cX10_init 60 = .ok (.iastore, 1) := by decide +kernel
theorem dX10_init_61 : decode cX10_init 61 = .ok (.putfield 22, 3) := by decide +kernel
theorem dX10_init_64 : decode cX10_init 64 = .ok (.aload_n 0, 1) := by decide +kernel
theorem dX10_init_65 : decode cX10_init 65 = .ok (.bipush 6, 2) := by decide +kernel
theorem dX10_init_67 : decode cX10_init 67 = .ok (.newarray .int, 2) := by decide +kernel
theorem dX10_init_69 : decode cX10_init 69 = .ok (.putfield 26, 3) := by decide +kernel
theorem dX10_init_72 : decode cX10_init 72 = .ok (.aload_n 0, 1) := by decide +kernel
theorem dX10_init_73 : decode cX10_init 73 = .ok (.bipush 6, 2) := by decide +kernel
theorem dX10_init_75 : decode cX10_init 75 = .ok (.newarray .int, 2) := by decide +kernel
theorem dX10_init_77 : decode cX10_init 77 = .ok (.putfield 29, 3) := by decide +kernel
theorem dX10_init_80 : decode cX10_init 80 = .ok (.aload_n 0, 1) := by decide +kernel
theorem dX10_init_81 : decode cX10_init 81 = .ok (.bipush 6, 2) := by decide +kernel
theorem dX10_init_83 : decode cX10_init 83 = .ok (.newarray .int, 2) := by decide +kernel
theorem dX10_init_85 : decode cX10_init 85 = .ok (.putfield 32, 3) := by decide +kernel
theorem dX10_init_88 : decode cX10_init 88 = .ok (.aload_n 0, 1) := by decide +kernel
theorem dX10_init_89 : decode cX10_init 89 = .ok (.bipush 6, 2) := by decide +kernel
theorem dX10_init_91 : decode cX10_init 91 = .ok (.newarray .int, 2) := by decide +kernel
theorem dX10_init_93 : decode cX10_init 93 = .ok (.putfield 35, 3) := by decide +kernel
theorem dX10_init_96 : decode cX10_init 96 = .ok (.aload_n 0, 1) := by decide +kernel
theorem dX10_init_97 : decode cX10_init 97 = .ok (.bipush 6, 2) := by decide +kernel
theorem dX10_init_99 : decode cX10_init 99 = .ok (.newarray .int, 2) := by decide +kernel
theorem dX10_init_101 : decode cX10_init 101 = .ok (.putfield 38, 3) := by decide +kernel
theorem dX10_init_104 : decode cX10_init 104 = .ok (.aload_n 0, 1) := by decide +kernel
theorem dX10_init_105 : decode cX10_init 105 = .ok (.bipush 24, 2) := by decide +kernel
theorem dX10_init_107 : decode cX10_init 107 = .ok (.newarray .int, 2) := by decide +kernel
theorem dX10_init_109 : decode cX10_init 109 = .ok (.putfield 41, 3) := by decide +kernel
theorem dX10_init_112 : decode cX10_init 112 = .ok (.aload_n 0, 1) := by decide +kernel
theorem dX10_init_113 : decode cX10_init 113 = .ok (.iconst 0, 1) := by decide +kernel
theorem dX10_init_114 : decode cX10_init 114 = .ok (.putfield 44, 3) := by decide +kernel
theorem dX10_init_117 : decode cX10_init 117 = .ok (.aload_n 0, 1) := by decide +kernel
theorem dX10_init_118 : decode cX10_init 118 = .ok (.iconst (-1), 1) := by decide +kernel
theorem dX10_init_119 : decode cX10_init 119 = .ok (.putfield 47, 3) := by decide +kernel
theorem dX10_init_122 : decode cX10_init 122 = .ok (.aload_n 0, 1) := by decide +kernel
theorem dX10_init_123 : decode cX10_init 123 = .ok (.iconst 0, 1) := by decide +kernel
theorem dX10_init_124 : decode cX10_init 124 = .ok (.putfield 50, 3) := by decide +kernel
theorem dX10_init_127 : decode cX10_init 127 = .ok (.aload_n 0, 1) := by decide +kernel
theorem dX10_init_128 : decode cX10_init 128 = .ok (.iconst 0, 1) := by decide +kernel
theorem dX10_init_129 : decode cX10_init 129 = .ok (.putfield 53, 3) := by decide +kernel
theorem dX10_init_132 : decode cX10_init 132 = .ok (.aload_n 0, 1) := by decide +kernel
theorem dX10_init_133 : decode cX10_init 133 = .ok (.iconst 0, 1) := by decide +kernel
theorem dX10_init_134 : decode cX10_init 134 = .ok (.putfield 56, 3) := by decide +kernel
theorem dX10_init_137 : decode cX10_init 137 = .ok (.aload_n 0, 1) := by decide +kernel
theorem dX10_init_138 : decode cX10_init 138 = .ok (.bipush 100, 2) := by decide +kernel
theorem dX10_init_140 : decode cX10_init 140 = .ok (.newarray .int, 2) := by decide +kernel
theorem dX10_init_142 : decode cX10_init 142 = .ok (.putfield 59, 3) := by decide +kernel
theorem dX10_init_145 : decode cX10_init 145 = .ok (.aload_n 0, 1) := by decide +kernel
theorem dX10_init_146 : decode cX10_init 146 = .ok (.bipush 6, 2) := by decide +kernel
theorem dX10_init_148 : decode cX10_init 148 = .ok (.newarray .int, 2) := by decide +kernel
theorem dX10_init_150 : decode cX10_init 150 = .ok (.putfield 62, 3) := by decide +kernel
theorem dX10_init_153 : decode cX10_init 153 = .ok (.aload_n 0, 1) := by decide +kernel
theorem dX10_init_154 : decode cX10_init 154 = .ok (.bipush 60, 2) := by decide +kernel
theorem dX10_init_156 : decode cX10_init 156 = .ok (.newarray .int, 2) := by decide +kernel
theorem dX10_init_158 : decode cX10_init 158 = .ok (.putfield 65, 3) := by decide +kernel
theorem dX10_init_161 : decode cX10_init 161 = .ok (.aload_n 0, 1) := by decide +kernel
theorem dX10_init_162 : decode cX10_init 162 = .ok (.bipush 60, 2) := by decide +kernel
theorem dX10_init_164 : decode cX10_init 164 = .ok (.newarray .int, 2) := by decide +kernel
theorem dX10_init_166 : decode cX10_init 166 = .ok (.putfield 68, 3) := by decide +kernel
theorem dX10_init_169 : decode cX10_init 169 = .ok (.aload_n 0, 1) := by decide +kernel
theorem dX10_init_170 : decode cX10_init 170 = .ok (.bipush 60, 2) := by decide +kernel
theorem dX10_init_172 : decode cX10_init 172 = .ok (.newarray .int, 2) := by decide +kernel
theorem dX10_init_174 : decode cX10_init 174 = .ok (.putfield 71, 3) := by decide +kernel
theorem dX10_init_177 : decode cX10_init 177 = .ok (.aload_n 0, 1) := by decide +kernel
theorem dX10_init_178 : decode cX10_init 178 = .ok (.bipush 60, 2) := by decide +kernel
theorem dX10_init_180 : decode cX10_init 180 = .ok (.newarray .int, 2) := by decide +kernel
theorem dX10_init_182 : decode cX10_init 182 = .ok (.putfield 74, 3) := by decide +kernel
theorem dX10_init_185 : decode cX10_init 185 = .ok (.aload_n 0, 1) := by decide +kernel
theorem dX10_init_186 : decode cX10_init 186 = .ok (.sipush 600, 3) := by decide +kernel
theorem dX10_init_189 : decode cX10_init 189 = .ok (.newarray .int, 2) := by decide +kernel
theorem dX10_init_191 : decode cX10_init 191 = .ok (.putfield 77, 3) := by decide +kernel
theorem dX10_init_194 : decode cX10_init 194 = .ok (.aload_n 0, 1) := by decide +kernel
theorem dX10_init_195 : decode cX10_init 195 = .ok (.bipush 101, 2) := by decide +kernel
theorem dX10_init_197 : decode cX10_init 197 = .ok (.newarray .int, 2) := by decide +kernel
theorem dX10_init_199 : decode cX10_init 199 = .ok (.putfield 80, 3) := by decide +kernel
theorem dX10_init_202 : decode cX10_init 202 = .ok (.aload_n 0, 1) := by decide +kernel
theorem dX10_init_203 : decode cX10_init 203 = .ok (.iconst 0, 1) := by decide +kernel
theorem dX10_init_204 : decode cX10_init 204 = .ok (.putfield 83, 3) := by decide +kernel
theorem dX10_init_207 : decode cX10_init 207 = .ok (.aload_n 0, 1) := by decide +kernel
theorem dX10_init_208 : decode cX10_init 208 = .ok (.iconst 0, 1) := by decide +kernel
theorem dX10_init_209 : decode cX10_init 209 = .ok (.putfield 86, 3) := by decide +kernel
theorem dX10_init_212 : decode cX10_init 212 = .ok (.aload_n 0, 1) := by decide +kernel
theorem dX10_init_213 : decode cX10_init 213 = .ok (.iconst 0, 1) := by decide +kernel
theorem dX10_init_214 : decode cX10_init 214 = .ok (.putfield 89, 3) := by decide +kernel
theorem dX10_init_217 : decode cX10_init 217 = .ok (.aload_n 0, 1) := by decide +kernel
theorem dX10_init_218 : decode cX10_init 218 = .ok (.bipush 22, 2) := by decide +kernel
theorem dX10_init_220 : decode cX10_init 220 = .ok (.newarray .int, 2) := by decide +kernel
theorem dX10_init_222 : decode cX10_init 222 = .ok (.dup, 1) := by decide +kernel
theorem dX10_init_223 : decode cX10_init 223 = .ok (.iconst 0, 1) := by decide +kernel
theorem dX10_init_224 : decode cX10_init 224 = .ok (.bipush 115, 2) := by decide +kernel
theorem dX10_init_226 : decode cX10_init 226 = .ok (.iastore, 1) := by decide +kernel
theorem dX10_init_227 : decode cX10_init 227 = .ok (.dup, 1) := by decide +kernel
theorem dX10_init_228 : decode cX10_init 228 = .ok (.iconst 1, 1) := by decide +kernel
theorem dX10_init_229 : decode cX10_init 229 = .ok (.bipush 112, 2) := by decide +kernel
theorem dX10_init_231 : decode cX10_init 231 = .ok (.iastore, 1) := by decide +kernel
theorem dX10_init_232 : decode cX10_init 232 = .ok (.dup, 1) := by decide +kernel
theorem dX10_init_233 : decode cX10_init 233 = .ok (.iconst 2, 1) := by decide +kernel
theorem dX10_init_234 : decode cX10_init 234 = .ok (.bipush 114, 2) := by decide +kernel
theorem dX10_init_236 : decode cX10_init 236 = .ok (.iastore, 1) := by decide +kernel
theorem dX10_init_237 : decode cX10_init 237 = .ok (.dup, 1) := by decide +kernel
theorem dX10_init_238 : decode cX10_init 238 = .ok (.iconst 3, 1) := by decide +kernel
theorem dX10_init_239 : decode cX10_init 239 = .ok (.bipush 105, 2) := by decide +kernel
theorem dX10_init_241 : decode cX10_init 241 = .ok (.iastore, 1) := by decide +kernel
theorem dX10_init_242 : decode cX10_init 242 = .ok (.dup, 1) := by decide +kernel
theorem dX10_init_243 : decode cX10_init 243 = .ok (.iconst 4, 1) := by decide +kernel
theorem dX10_init_244 : decode cX10_init 244 = .ok (.bipush 110, 2) := by decide +kernel
theorem dX10_init_246 : decode cX10_init 246 = .ok (.iastore, 1) := by decide +kernel
theorem dX10_init_247 : decode cX10_init 247 = .ok (.dup, 1) := by decide +kernel
theorem dX10_init_248 : decode cX10_init 248 = .ok (.iconst 5, 1) := by decide +kernel
theorem dX10_init_249 : decode cX10_init 249 = .ok (.bipush 103, 2) := by decide +kernel
theorem dX10_init_251 : decode cX10_init 251 = .ok (.iastore, 1) := by decide +kernel
theorem dX10_init_252 : decode cX10_init 252 = .ok (.dup, 1) := by decide +kernel
theorem dX10_init_253 : decode cX10_init 253 = .ok (.bipush 6, 2) := by decide +kernel
theorem dX10_init_255 : decode cX10_init 255 = .ok (.bipush 115, 2) := by decide +kernel
theorem dX10_init_257 : decode cX10_init 257 = .ok (.iastore, 1) := by decide +kernel
theorem dX10_init_258 : decode cX10_init 258 = .ok (.dup, 1) := by decide +kernel
theorem dX10_init_259 : decode cX10_init 259 = .ok (.bipush 7, 2) := by decide +kernel
theorem dX10_init_261 : decode cX10_init 261 = .ok (.bipush 117, 2) := by decide +kernel
theorem dX10_init_263 : decode cX10_init 263 = .ok (.iastore, 1) := by decide +kernel
theorem dX10_init_264 : decode cX10_init 264 = .ok (.dup, 1) := by decide +kernel
theorem dX10_init_265 : decode cX10_init 265 = .ok (.bipush 8, 2) := by decide +kernel
theorem dX10_init_267 : decode cX10_init 267 = .ok (.bipush 110, 2) := by decide +kernel
theorem dX10_init_269 : decode cX10_init 269 = .ok (.iastore, 1) := by decide +kernel
theorem dX10_init_270 : decode cX10_init 270 = .ok (.dup, 1) := by decide +kernel
theorem dX10_init_271 : decode cX10_init 271 = .ok (.bipush 9, 2) := by decide +kernel
theorem dX10_init_273 : decode cX10_init 273 = .ok (.bipush 109, 2) := by decide +kernel
theorem dX10_init_275 : decode cX10_init 275 = .ok (.iastore, 1) := by decide +kernel
theorem dX10_init_276 : decode cX10_init 276 = .ok (.dup, 1) := by decide +kernel
theorem dX10_init_277 : decode cX10_init 277 = .ok (.bipush 10, 2) := by decide +kernel
theorem dX10_init_279 : decode cX10_init 279 = .ok (.bipush 97, 2) := by decide +kernel
theorem dX10_init_281 : decode cX10_init 281 = .ok (.iastore, 1) := by decide +kernel
theorem dX10_init_282 : decode cX10_init 282 = .ok (.dup, 1) := by decide +kernel
theorem dX10_init_283 : decode cX10_init 283 = .ok (.bipush 11, 2) := by decide +kernel
theorem dX10_init_285 : decode cX10_init 285 = .ok (.bipush 114, 2) := by decide +kernel
theorem dX10_init_287 : decode cX10_init 287 = .ok (.iastore, 1) := by decide +kernel
theorem dX10_init_288 : decode cX10_init 288 = .ok (.dup, 1) := by decide +kernel
theorem dX10_init_289 : decode cX10_init 289 = .ok (.bipush 12, 2) := by decide +kernel
theorem dX10_init_291 : decode cX10_init 291 = .ok (.bipush 107, 2) := by decide +kernel
theorem dX10_init_293 : decode cX10_init 293 = .ok (.iastore, 1) := by decide +kernel
theorem dX10_init_294 : decode cX10_init 294 = .ok (.dup, 1) := by decide +kernel
theorem dX10_init_295 : decode cX10_init 295 = .ok (.bipush 13, 2) := by decide +kernel
theorem dX10_init_297 : decode cX10_init 297 = .ok (.bipush 102, 2) := by decide +kernel
theorem dX10_init_299 : decode cX10_init 299 = .ok (.iastore, 1) := by decide +kernel
theorem dX10_init_300 : decode cX10_init 300 = .ok (.dup, 1) := by decide +kernel
theorem dX10_init_301 : decode cX10_init 301 = .ok (.bipush 14, 2) := by decide +kernel
theorem dX10_init_303 : decode cX10_init 303 = .ok (.bipush 108, 2) := by decide +kernel
theorem dX10_init_305 : decode cX10_init 305 = .ok (.iastore, 1) := by decide +kernel
theorem dX10_init_306 : decode cX10_init 306 = .ok (.dup, 1) := by decide +kernel
theorem dX10_init_307 : decode cX10_init 307 = .ok (.bipush 15, 2) := by decide +kernel
theorem dX10_init_309 : decode cX10_init 309 = .ok (.bipush 111, 2) := by decide +kernel
theorem dX10_init_311 : decode cX10_init 311 = .ok (.iastore, 1) := by decide +kernel
theorem dX10_init_312 : decode cX10_init 312 = .ok (.dup, 1) := by decide +kernel
theorem dX10_init_313 : decode cX10_init 313 = .ok (.bipush 16, 2) := by decide +kernel
theorem dX10_init_315 : decode cX10_init 315 = .ok (.bipush 111, 2) := by decide +kernel
theorem dX10_init_317 : decode cX10_init 317 = .ok (.iastore, 1) := by decide +kernel
theorem dX10_init_318 : decode cX10_init 318 = .ok (.dup, 1) := by decide +kernel
theorem dX10_init_319 : decode cX10_init 319 = .ok (.bipush 17, 2) := by decide +kernel
theorem dX10_init_321 : decode cX10_init 321 = .ok (.bipush 114, 2) := by decide +kernel
theorem dX10_init_323 : decode cX10_init 323 = .ok (.iastore, 1) := by decide +kernel
theorem dX10_init_324 : decode cX10_init 324 = .ok (.dup, 1) := by decide +kernel
theorem dX10_init_325 : decode cX10_init 325 = .ok (.bipush 18, 2) := by decide +kernel
theorem dX10_init_327 : decode cX10_init 327 = .ok (.bipush 114, 2) := by decide +kernel
theorem dX10_init_329 : decode cX10_init 329 = .ok (.iastore, 1) := by decide +kernel
theorem dX10_init_330 : decode cX10_init 330 = .ok (.dup, 1) := by decide +kernel
theorem dX10_init_331 : decode cX10_init 331 = .ok (.bipush 19, 2) := by decide +kernel
theorem dX10_init_333 : decode cX10_init 333 = .ok (.bipush 97, 2) := by decide +kernel
theorem dX10_init_335 : decode cX10_init 335 = .ok (.iastore, 1) := by decide +kernel
theorem dX10_init_336 : decode cX10_init 336 = .ok (.dup, 1) := by decide +kernel
theorem dX10_init_337 : decode cX10_init 337 = .ok (.bipush 20, 2) := by decide +kernel
theorem dX10_init_339 : decode cX10_init 339 = .ok (.bipush 116, 2) := by decide +kernel
theorem dX10_init_341 : decode cX10_init 341 = .ok (.iastore, 1) := by decide +kernel
theorem dX10_init_342 : decode cX10_init 342 = .ok (.dup, 1) := by decide +kernel
theorem dX10_init_343 : decode cX10_init 343 = .ok (.bipush 21, 2) := by decide +kernel
theorem dX10_init_345 : decode cX10_init 345 = .ok (.bipush 101, 2) := by decide +kernel
theorem dX10_init_347 : decode cX10_init 347 = .ok (.iastore, 1) := by decide +kernel
theorem dX10_init_348 : decode cX10_init 348 = .ok (.putfield 92, 3) := by decide +kernel
theorem dX10_init_351 : decode cX10_init 351 = .ok (.aload_n 0, 1) := by decide +kernel
theorem dX10_init_352 : decode cX10_init 352 = .ok (.bipush 100, 2) := by decide +kernel
theorem dX10_init_354 : decode cX10_init 354 = .ok (.newarray .boolean, 2) := by decide +kernel
theorem dX10_init_356 : decode cX10_init 356 = .ok (.putfield 95, 3) := by decide +kernel
theorem dX10_init_359 : decode cX10_init 359 = .ok (.aload_n 0, 1) := by decide +kernel
theorem dX10_init_360 : decode cX10_init 360 = .ok (.iconst 0, 1) := by decide +kernel
theorem dX10_init_361 : decode cX10_init 361 = .ok (.putfield 99, 3) := by decide +kernel
theorem dX10_init_364 : decode cX10_init 364 = .ok (.aload_n 0, 1) := by decide +kernel
theorem dX10_init_365 : decode cX10_init 365 = .ok (.iconst (-1), 1) := by decide +kernel
theorem dX10_init_366 : decode cX10_init 366 = .ok (.putfield 102, 3) := by decide +kernel
theorem dX10_init_369 : decode cX10_init 369 = .ok (.aload_n 0, 1) := by decide +kernel
theorem dX10_init_370 : decode cX10_init 370 = .ok (.iconst 0, 1) := by decide +kernel
theorem dX10_init_371 : decode cX10_init 371 = .ok (.putfield 105, 3) := by decide +kernel
theorem dX10_init_374 : decode cX10_init 374 = .ok (.aload_n 0, 1) := by decide +kernel
theorem dX10_init_375 : decode cX10_init 375 = .ok (.iconst (-1), 1) := by decide +kernel
theorem dX10_init_376 : decode cX10_init 376 = .ok (.putfield 108, 3) := by decide +kernel
theorem dX10_init_379 : decode cX10_init 379 = .ok (.aload_n 0, 1) := by decide +kernel
theorem dX10_init_380 : decode cX10_init 380 = .ok (.bipush 6, 2) := by decide +kernel
theorem dX10_init_382 : decode cX10_init 382 = .ok (.newarray .int, 2) := by decide +kernel
theorem dX10_init_384 : decode cX10_init 384 = .ok (.putfield 111, 3) := by decide +kernel
theorem dX10_init_387 : decode cX10_init 387 = .ok (.aload_n 0, 1) := by decide +kernel
theorem dX10_init_388 : decode cX10_init 388 = .ok (.bipush 6, 2) := by decide +kernel
theorem dX10_init_390 : decode cX10_init 390 = .ok (.newarray .int, 2) := by decide +kernel
theorem dX10_init_392 : decode cX10_init 392 = .ok (.putfield 114, 3) := by decide +kernel
theorem dX10_init_395 : decode cX10_init 395 = .ok (.aload_n 0, 1) := by decide +kernel
theorem dX10_init_396 : decode cX10_init 396 = .ok (.iconst 0, 1) := by decide +kernel
theorem dX10_init_397 : decode cX10_init 397 = .ok (.putfield 117, 3) := by decide +kernel
theorem dX10_init_400 : decode cX10_init 400 = .ok (.aload_n 0, 1) := by decide +kernel
theorem dX10_init_401 : decode cX10_init 401 = .ok (.iconst 0, 1) := by decide +kernel
theorem dX10_init_402 : decode cX10_init 402 = .ok (.putfield 120, 3) := by decide +kernel
theorem dX10_init_405 : decode cX10_init 405 = .ok (.aload_n 0, 1) := by decide +kernel
theorem dX10_init_406 : decode cX10_init 406 = .ok (.iconst 0, 1) := by decide +kernel
theorem dX10_init_407 : decode cX10_init 407 = .ok (.putfield 123, 3) := by decide +kernel
theorem dX10_init_410 : decode cX10_init 410 = .ok (.aload_n 0, 1) := by decide +kernel
theorem dX10_init_411 : decode cX10_init 411 = .ok (.bipush 6, 2) := by decide +kernel
theorem dX10_init_413 : decode cX10_init 413 = .ok (.newarray .int, 2) := by decide +kernel
theorem dX10_init_415 : decode cX10_init 415 = .ok (.putfield 126, 3) := by decide +kernel
theorem dX10_init_418 : decode cX10_init 418 = .ok (.aload_n 0, 1) := by decide +kernel
theorem dX10_init_419 : decode cX10_init 419 = .ok (.bipush 6, 2) := by decide +kernel
theorem dX10_init_421 : decode cX10_init 421 = .ok (.newarray .int, 2) := by decide +kernel
theorem dX10_init_423 : decode cX10_init 423 = .ok (.putfield 129, 3) := by decide +kernel
theorem dX10_init_426 : decode cX10_init 426 = .ok (.aload_n 0, 1) := by decide +kernel
theorem dX10_init_427 : decode cX10_init 427 = .ok (.iconst 0, 1) := by decide +kernel
theorem dX10_init_428 : decode cX10_init 428 = .ok (.putfield 132, 3) := by decide +kernel
theorem dX10_init_431 : decode cX10_init 431 = .ok (.aload_n 0, 1) := by decide +kernel
theorem dX10_init_432 : decode cX10_init 432 = .ok (.iconst 4, 1) := by decide +kernel
theorem dX10_init_433 : decode cX10_init 433 = .ok (.newarray .int, 2) := by decide +kernel
theorem dX10_init_435 : decode cX10_init 435 = .ok (.putfield 135, 3) := by decide +kernel
theorem dX10_init_438 : decode cX10_init 438 = .ok (.aload_n 0, 1) := by decide +kernel
theorem dX10_init_439 : decode cX10_init 439 = .ok (.iconst 4, 1) := by decide +kernel
theorem dX10_init_440 : decode cX10_init 440 = .ok (.newarray .int, 2) := by decide +kernel
theorem dX10_init_442 : decode cX10_init 442 = .ok (.putfield 138, 3) := by decide +kernel
theorem dX10_init_445 : decode cX10_init 445 = .ok (.aload_n 0, 1) := by decide +kernel
theorem dX10_init_446 : decode cX10_init 446 = .ok (.iconst 0, 1) := by decide +kernel
theorem dX10_init_447 : decode cX10_init 447 = .ok (.putfield 141, 3) := by decide +kernel
theorem dX10_init_450 : decode cX10_init 450 = .ok (.aload_n 0, 1) := by decide +kernel
theorem dX10_init_451 : decode cX10_init 451 = .ok (.iconst 0, 1) := by decide +kernel
theorem dX10_init_452 : decode cX10_init 452 = .ok (.putfield 144, 3) := by decide +kernel
theorem dX10_init_455 : decode cX10_init 455 = .ok (.aload_n 0, 1) := by decide +kernel
theorem dX10_init_456 : decode cX10_init 456 = .ok (.bipush 8, 2) := by decide +kernel
theorem dX10_init_458 : decode cX10_init 458 = .ok (.newarray .int, 2) := by decide +kernel
theorem dX10_init_460 : decode cX10_init 460 = .ok (.putfield 147, 3) := by decide +kernel
theorem dX10_init_463 : decode cX10_init 463 = .ok (.aload_n 0, 1) := by decide +kernel
theorem dX10_init_464 : decode cX10_init 464 = .ok (.bipush 8, 2) := by decide +kernel
theorem dX10_init_466 : decode cX10_init 466 = .ok (.newarray .int, 2) := by decide +kernel
theorem dX10_init_468 : decode cX10_init 468 = .ok (.putfield 150, 3) := by decide +kernel
theorem dX10_init_471 : decode cX10_init 471 = .ok (.aload_n 0, 1) := by decide +kernel
theorem dX10_init_472 : decode cX10_init 472 = .ok (.bipush 8, 2) := by decide +kernel
theorem dX10_init_474 : decode cX10_init 474 = .ok (.newarray .int, 2) := by decide +kernel
theorem dX10_init_476 : decode cX10_init 476 = .ok (.putfield 153, 3) := by decide +kernel
theorem dX10_init_479 : decode cX10_init 479 = .ok (.aload_n 0, 1) := by decide +kernel
theorem dX10_init_480 : decode cX10_init 480 = .ok (.bipush 8, 2) := by decide +kernel
theorem dX10_init_482 : decode cX10_init 482 = .ok (.newarray .int, 2) := by decide +kernel
theorem dX10_init_484 : decode cX10_init 484 = .ok (.putfield 156, 3) := by decide +kernel
theorem dX10_init_487 : decode cX10_init 487 = .ok (.aload_n 0, 1) := by decide +kernel
theorem dX10_init_488 : decode cX10_init 488 = .ok (.iconst 0, 1) := by decide +kernel
theorem dX10_init_489 : decode cX10_init 489 = .ok (.putfield 159, 3) := by decide +kernel
theorem dX10_init_492 : decode cX10_init 492 = .ok (.aload_n 0, 1) := by decide +kernel
theorem dX10_init_493 : decode cX10_init 493 = .ok (.iconst (-1), 1) := by decide +kernel
theorem dX10_init_494 : decode cX10_init 494 = .ok (.putfield 163, 3) := by decide +kernel
theorem dX10_init_497 : decode cX10_init 497 = .ok (.aload_n 0, 1) := by decide +kernel
theorem dX10_init_498 : decode cX10_init 498 = .ok (.iconst 0, 1) := by decide +kernel
theorem dX10_init_499 : decode cX10_init 499 = .ok (.putfield 166, 3) := by decide +kernel
theorem dX10_init_502 : decode cX10_init 502 = .ok (.aload_n 0, 1) := by decide +kernel
theorem dX10_init_503 : decode cX10_init 503 = .ok (.iconst 0, 1) := by decide +kernel
theorem dX10_init_504 : decode cX10_init 504 = .ok (.putfield 169, 3) := by decide +kernel
theorem dX10_init_507 : decode cX10_init 507 = .ok (.aload_n 0, 1) := by decide +kernel
theorem dX10_init_508 : decode cX10_init 508 = .ok (.iconst 0, 1) := by decide +kernel
theorem dX10_init_509 : decode cX10_init 509 = .ok (.putfield 172, 3) := by decide +kernel
theorem dX10_init_512 : decode cX10_init 512 = .ok (.aload_n 0, 1) := by decide +kernel
theorem dX10_init_513 : decode cX10_init 513 = .ok (.iconst 0, 1) := by decide +kernel
theorem dX10_init_514 : decode cX10_init 514 = .ok (.putfield 175, 3) := by decide +kernel
theorem dX10_init_517 : decode cX10_init 517 = .ok (.aload_n 0, 1) := by decide +kernel
theorem dX10_init_518 : decode cX10_init 518 = .ok (.iconst 0, 1) := by decide +kernel
theorem dX10_init_519 : decode cX10_init 519 = .ok (.putfield 178, 3) := by decide +kernel
theorem dX10_init_522 : decode cX10_init 522 = .ok (.aload_n 0, 1) := by decide +kernel
theorem dX10_init_523 : decode cX10_init 523 = .ok (.iconst 0, 1) := by decide +kernel
theorem dX10_init_524 : decode cX10_init 524 = .ok (.putfield 181, 3) := by decide +kernel
theorem dX10_init_527 : decode cX10_init 527 = .ok (.aload_n 0, 1) := by decide +kernel
theorem dX10_init_528 : decode cX10_init 528 = .ok (.iconst 0, 1) := by decide +kernel
theorem dX10_init_529 : decode cX10_init 529 = .ok (.putfield 184, 3) := by decide +kernel
theorem dX10_init_532 : decode cX10_init 532 = .ok (.aload_n 0, 1) := by decide +kernel
theorem dX10_init_533 : decode cX10_init 533 = .ok (.bipush 6, 2) := by decide +kernel
theorem dX10_init_535 : decode cX10_init 535 = .ok (.newarray .int, 2) := by decide +kernel
theorem dX10_init_537 : decode cX10_init 537 = .ok (.putfield 187, 3) := by decide +kernel
theorem dX10_init_540 : decode cX10_init 540 = .ok (.aload_n 0, 1) := by decide +kernel
theorem dX10_init_541 : decode cX10_init 541 = .ok (.bipush 6, 2) := by decide +kernel
theorem dX10_init_543 : decode cX10_init 543 = .ok (.newarray .int, 2) := by decide +kernel
theorem dX10_init_545 : decode cX10_init 545 = .ok (.putfield 190, 3) := by decide +kernel
theorem dX10_init_548 : decode cX10_init 548 = .ok (.aload_n 0, 1) := by decide +kernel
theorem dX10_init_549 : decode cX10_init 549 = .ok (.bipush 6, 2) := by decide +kernel
theorem dX10_init_551 : decode cX10_init 551 = .ok (.newarray .int, 2) := by decide +kernel
theorem dX10_init_553 : decode cX10_init 553 = .ok (.putfield 193, 3) := by decide +kernel
theorem dX10_init_556 : decode cX10_init 556 = .ok (.aload_n 0, 1) := by decide +kernel
theorem dX10_init_557 : decode cX10_init 557 = .ok (.bipush 6, 2) := by decide +kernel
theorem dX10_init_559 : decode cX10_init 559 = .ok (.newarray .int, 2) := by decide +kernel
theorem dX10_init_561 : decode cX10_init 561 = .ok (.putfield 196, 3) := by decide +kernel
theorem dX10_init_564 : decode cX10_init 564 = .ok (.aload_n 0, 1) := by decide +kernel
theorem dX10_init_565 : decode cX10_init 565 = .ok (.bipush 6, 2) := by decide +kernel
theorem dX10_init_567 : decode cX10_init 567 = .ok (.newarray .int, 2) := by decide +kernel
theorem dX10_init_569 : decode cX10_init 569 = .ok (.putfield 199, 3) := by decide +kernel
theorem dX10_init_572 : decode cX10_init 572 = .ok (.aload_n 0, 1) := by decide +kernel
theorem dX10_init_573 : decode cX10_init 573 = .ok (.bipush 6, 2) := by decide +kernel
theorem dX10_init_575 : decode cX10_init 575 = .ok (.newarray .int, 2) := by decide +kernel
theorem dX10_init_577 : decode cX10_init 577 = .ok (.putfield 202, 3) := by decide +kernel
theorem dX10_init_580 : decode cX10_init 580 = .ok (.aload_n 0, 1) := by decide +kernel
theorem dX10_init_581 : decode cX10_init 581 = .ok (.bipush 24, 2) := by decide +kernel
theorem dX10_init_583 : decode cX10_init 583 = .ok (.newarray .int, 2) := by decide +kernel
theorem dX10_init_585 : decode cX10_init 585 = .ok (.putfield 205, 3) := by decide +kernel
theorem dX10_init_588 : decode cX10_init 588 = .ok (.aload_n 0, 1) := by decide +kernel
theorem dX10_init_589 : decode cX10_init 589 = .ok (.iconst 4, 1) := by decide +kernel
theorem dX10_init_590 : decode cX10_init 590 = .ok (.newarray .int, 2) := by decide +kernel
theorem dX10_init_592 : decode cX10_init 592 = .ok (.putfield 208, 3) := by decide +kernel
theorem dX10_init_595 : decode cX10_init 595 = .ok (.aload_n 0, 1) := by decide +kernel
theorem dX10_init_596 : decode cX10_init 596 = .ok (.iconst 4, 1) := by decide +kernel
theorem dX10_init_597 : decode cX10_init 597 = .ok (.newarray .int, 2) := by decide +kernel
theorem dX10_init_599 : decode cX10_init 599 = .ok (.putfield 211, 3) := by decide +kernel
theorem dX10_init_602 : decode cX10_init 602 = .ok (.aload_n 0, 1) := by decide +kernel
theorem dX10_init_603 : decode cX10_init 603 = .ok (.bipush 8, 2) := by decide +kernel
theorem dX10_init_605 : decode cX10_init 605 = .ok (.newarray .int, 2) := by decide +kernel
theorem dX10_init_607 : decode cX10_init 607 = .ok (.putfield 214, 3) := by decide +kernel
theorem dX10_init_610 : decode cX10_init 610 = .ok (.aload_n 0, 1) := by decide +kernel
theorem dX10_init_611 : decode cX10_init 611 = .ok (.bipush 8, 2) := by decide +kernel
theorem dX10_init_613 : decode cX10_init 613 = .ok (.newarray .int, 2) := by decide +kernel
theorem dX10_init_615 : decode cX10_init 615 = .ok (.putfield 217, 3) := by decide +kernel
theorem dX10_init_618 : decode cX10_init 618 = .ok (.aload_n 0, 1) := by decide +kernel
theorem dX10_init_619 : decode cX10_init 619 = .ok (.bipush 8, 2) := by decide +kernel
theorem dX10_init_621 : decode cX10_init 621 = .ok (.newarray .int, 2) := by decide +kernel
theorem dX10_init_623 : decode cX10_init 623 = .ok (.putfield 220, 3) := by decide +kernel
theorem dX10_init_626 : decode cX10_init 626 = .ok (.aload_n 0, 1) := by decide +kernel
theorem dX10_init_627 : decode cX10_init 627 = .ok (.bipush 8, 2) := by decide +kernel
theorem dX10_init_629 : decode cX10_init 629 = .ok (.newarray .int, 2) := by decide +kernel
theorem dX10_init_631 : decode cX10_init 631 = .ok (.putfield 223, 3) := by decide +kernel
theorem dX10_init_634 : decode cX10_init 634 = .ok (.aload_n 0, 1) := by decide +kernel
theorem dX10_init_635 : decode cX10_init 635 = .ok (.iconst 0, 1) := by decide +kernel
theorem dX10_init_636 : decode cX10_init 636 = .ok (.putfield 226, 3) := by decide +kernel
theorem dX10_init_639 : decode cX10_init 639 = .ok (.aload_n 0, 1) := by decide +kernel
theorem dX10_init_640 : decode cX10_init 640 = .ok (.bipush 20, 2) := by decide +kernel
theorem dX10_init_642 : decode cX10_init 642 = .ok (.newarray .int, 2) := by decide +kernel
theorem dX10_init_644 : decode cX10_init 644 = .ok (.putfield 229, 3) := by decide +kernel
theorem dX10_init_647 : decode cX10_init 647 = .ok (.aload_n 0, 1) := by decide +kernel
theorem dX10_init_648 : decode cX10_init 648 = .ok (.bipush 6, 2) := by decide +kernel
theorem dX10_init_650 : decode cX10_init 650 = .ok (.newarray .int, 2) := by decide +kernel
theorem dX10_init_652 : decode cX10_init 652 = .ok (.dup, 1) := by decide +kernel
theorem dX10_init_653 : decode cX10_init 653 = .ok (.iconst 0, 1) := by decide +kernel
theorem dX10_init_654 : decode cX10_init 654 = .ok (.iconst (-1), 1) := by decide +kernel
theorem dX10_init_655 : decode cX10_init 655 = .ok (.iastore, 1) := by decide +kernel
theorem dX10_init_656 : decode cX10_init 656 = .ok (.dup, 1) := by decide +kernel
theorem dX10_init_657 : decode cX10_init 657 = .ok (.iconst 1, 1) := by decide +kernel
theorem dX10_init_658 : decode cX10_init 658 = .ok (.iconst (-1), 1) := by decide +kernel
theorem dX10_init_659 : decode cX10_init 659 = .ok (.iastore, 1) := by decide +kernel
theorem dX10_init_660 : decode cX10_init 660 = .ok (.dup, 1) := by decide +kernel
theorem dX10_init_661 : decode cX10_init 661 = .ok (.iconst 2, 1) := by decide +kernel
theorem dX10_init_662 : decode cX10_init 662 = .ok (.iconst (-1), 1) := by decide +kernel
theorem dX10_init_663 : decode cX10_init 663 = .ok (.iastore, 1) := by decide +kernel
theorem dX10_init_664 : decode cX10_init 664 = .ok (.dup, 1) := by decide +kernel
theorem dX10_init_665 : decode cX10_init 665 = .ok (.iconst 3, 1) := by decide +kernel
theorem dX10_init_666 : decode cX10_init 666 = .ok (.iconst (-1), 1) := by decide +kernel
theorem dX10_init_667 : decode cX10_init 667 = .ok (.iastore, 1) := by decide +kernel
theorem dX10_init_668 : decode cX10_init 668 = .ok (.dup, 1) := by decide +kernel
theorem dX10_init_669 : decode cX10_init 669 = .ok (.iconst 4, 1) := by decide +kernel
theorem dX10_init_670 : decode cX10_init 670 = .ok (.iconst (-1), 1) := by decide +kernel
theorem dX10_init_671 : decode cX10_init 671 = .ok (.iastore, 1) := by decide +kernel
theorem dX10_init_672 : decode cX10_init 672 = .ok (.dup, 1) := by decide +kernel
theorem dX10_init_673 : decode cX10_init 673 = .ok (.iconst 5, 1) := by decide +kernel
theorem dX10_init_674 : decode cX10_init 674 = .ok (.iconst (-1), 1) := by decide +kernel
theorem dX10_init_675 : decode cX10_init 675 = .ok (.iastore, 1) := by decide +kernel
theorem dX10_init_676 : decode cX10_init 676 = .ok (.putfield 232, 3) := by decide +kernel
theorem dX10_init_679 : decode cX10_init 679 = .ok (.aload_n 0, 1) := by decide +kernel
theorem dX10_init_680 : decode cX10_init 680 = .ok (.bipush 6, 2) := by decide +kernel
theorem dX10_init_682 : decode cX10_init 682 = .ok (.newarray .int, 2) := by decide +kernel
theorem dX10_init_684 : decode cX10_init 684 = .ok (.putfield 235, 3) := by decide +kernel
theorem dX10_init_687 : decode cX10_init 687 = .ok (.aload_n 0, 1) := by decide +kernel
theorem dX10_init_688 : decode cX10_init 688 = .ok (.sipush 360, 3) := by decide +kernel
theorem dX10_init_691 : decode cX10_init 691 = .ok (.newarray .long, 2) := by decide +kernel
theorem dX10_init_693 : decode cX10_init 693 = .ok (.putfield 238, 3) := by decide +kernel
theorem dX10_init_696 : decode cX10_init 696 = .ok (.aload_n 0, 1) := by decide +kernel
theorem dX10_init_697 : decode cX10_init 697 = .ok (.bipush 60, 2) := by decide +kernel
theorem dX10_init_699 : decode cX10_init 699 = .ok (.newarray .long, 2) := by decide +kernel
theorem dX10_init_701 : decode cX10_init 701 = .ok (.putfield 242, 3) := by decide +kernel
theorem dX10_init_704 : decode cX10_init 704 = .ok (.return_, 1) := by decide +kernel
def x_U108 : x_M := x_sR (x_sR (x_sR (x_sR (x_sI (x_sI (x_sI (x_sI (x_sI (x_sI (x_sR (x_sI (x_sR (x_sR (x_sR (x_sR (x_sR (x_sR (x_sR (x_sR (x_sR (x_sR (x_sR (x_sR (x_sR (x_sI (x_sI (x_sI (x_sI (x_sI (x_sI (x_sI (x_sI (x_sI (x_sR (x_sR (x_sR (x_sR (x_sI (x_sI (x_sR (x_sR (x_sI (x_sR (x_sR (x_sI (x_sI (x_sI (x_sR (x_sR (x_sI (x_sI (x_sI (x_sI (x_sR (x_sR (x_sI (x_sI (x_sI (x_sI (x_sI (x_sI (x_sI (x_sI (x_sI (x_sI (x_sI (x_sI (x_sI (x_sI (x_sI (x_sI (x_sI (x_sI (x_sI (x_sI (x_sI (x_sI (x_sI (x_sI (x_sI (x_sR (x_sR (x_sR (x_sR (x_sR (x_sR (x_sR (x_sR (x_sI (x_sI (x_sI (x_sI (x_sI (x_sR (x_sR (x_sR (x_sR (x_sR (x_sR (x_sR (x_sI (x_sI (x_sI (x_sI (x_sI (x_sI (x_sI (x_sI (x_sI (x_sI x_V0 600 0 (0 : Int32)) 600 1 (0 : Int32)) 600 2 (200 : Int32)) 600 3 (0 : Int32)) 605 ((0 : Int32)).toNatClampNeg (10 : Int32)) 605 ((1 : Int32)).toNatClampNeg (10 : Int32)) 605 ((2 : Int32)).toNatClampNeg (10 : Int32)) 605 ((3 : Int32)).toNatClampNeg (10 : Int32)) 605 ((4 : Int32)).toNatClampNeg (10 : Int32)) 605 ((5 : Int32)).toNatClampNeg (10 : Int32)) 600 4 605) 600 5 606) 600 6 607) 600 7 608) 600 8 609) 600 9 610) 600 10 611) 600 11 (0 : Int32)) 600 12 (-1 : Int32)) 600 13 (0 : Int32)) 600 14 (0 : Int32)) 600 15 (0 : Int32)) 600 16 617) 600 17 618) 600 18 619) 600 19 620) 600 20 621) 600 21 622) 600 22 623) 600 23 624) 600 24 (0 : Int32)) 600 25 (0 : Int32)) 600 26 (0 : Int32)) 628 ((0 : Int32)).toNatClampNeg (115 : Int32)) 628 ((1 : Int32)).toNatClampNeg (112 : Int32)) 628 ((2 : Int32)).toNatClampNeg (114 : Int32)) 628 ((3 : Int32)).toNatClampNeg (105 : Int32)) 628 ((4 : Int32)).toNatClampNeg (110 : Int32)) 628 ((5 : Int32)).toNatClampNeg (103 : Int32)) 628 ((6 : Int32)).toNatClampNeg (115 : Int32)) 628 ((7 : Int32)).toNatClampNeg (117 : Int32)) 628 ((8 : Int32)).toNatClampNeg (110 : Int32)) 628 ((9 : Int32)).toNatClampNeg (109 : Int32)) 628 ((10 : Int32)).toNatClampNeg (97 : Int32)) 628 ((11 : Int32)).toNatClampNeg (114 : Int32)) 628 ((12 : Int32)).toNatClampNeg (107 : Int32)) 628 ((13 : Int32)).toNatClampNeg (102 : Int32)) 628 ((14 : Int32)).toNatClampNeg (108 : Int32)) 628 ((15 : Int32)).toNatClampNeg (111 : Int32)) 628 ((16 : Int32)).toNatClampNeg (111 : Int32)) 628 ((17 : Int32)).toNatClampNeg (114 : Int32)) 628 ((18 : Int32)).toNatClampNeg (114 : Int32)) 628 ((19 : Int32)).toNatClampNeg (97 : Int32)) 628 ((20 : Int32)).toNatClampNeg (116 : Int32)) 628 ((21 : Int32)).toNatClampNeg (101 : Int32)) 600 27 628) 600 28 629) 600 29 (0 : Int32)) 600 30 (-1 : Int32)) 600 31 (0 : Int32)) 600 32 (-1 : Int32)) 600 33 634) 600 34 635) 600 35 (0 : Int32)) 600 36 (0 : Int32)) 600 37 (0 : Int32)) 600 38 639) 600 39 640) 600 40 (0 : Int32)) 600 41 642) 600 42 643) 600 43 (0 : Int32)) 600 44 (0 : Int32)) 600 45 646) 600 46 647) 600 47 648) 600 48 649) 600 49 (0 : Int32)) 600 50 (-1 : Int32)) 600 51 (0 : Int32)) 600 52 (0 : Int32)) 600 53 (0 : Int32)) 600 54 (0 : Int32)) 600 55 (0 : Int32)) 600 56 (0 : Int32)) 600 57 (0 : Int32)) 600 58 659) 600 59 660) 600 60 661) 600 61 662) 600 62 663) 600 63 664) 600 64 665) 600 65 666) 600 66 667) 600 67 668) 600 68 669) 600 69 670) 600 70 671) 600 71 (0 : Int32)) 600 72 673) 674 ((0 : Int32)).toNatClampNeg (-1 : Int32)) 674 ((1 : Int32)).toNatClampNeg (-1 : Int32)) 674 ((2 : Int32)).toNatClampNeg (-1 : Int32)) 674 ((3 : Int32)).toNatClampNeg (-1 : Int32)) 674 ((4 : Int32)).toNatClampNeg (-1 : Int32)) 674 ((5 : Int32)).toNatClampNeg (-1 : Int32)) 600 73 674) 600 74 675) 600 75 676) 600 76 677
set_option maxRecDepth 100000 in
theorem k_X10_init_600 (hR : x_R (XR ad D cA) x_ixA h0 hA) : x_Ct (XR ad D cA) x_Z0 x_ixA h0 hA l yX10_init cX10_init 1 1 45 1845 151 196 [vR 600] x_V0 x_U108 := by
  refine c_enter hR (by decide +kernel) (Nat.le_of_ble_eq_true rfl) (fun p e s m args below meth c hC hin hr hlk => ?_)
  refine s_lv (lv' := [(0, vR 600)]) [0] rfl ?_
  refine s_aload_n (hC.C 0 0 (Nat.le_of_ble_eq_true rfl) (Nat.le_of_ble_eq_true rfl)) 0 dX10_init_0 rfl ?_
  refine c_init hC (by decide) qo_X10_1 qo_inst qo_code (by decide) (Nat.le_of_ble_eq_true rfl) dX10_init_1 ?_
  refine s_aload_n (hC.C 0 0 (Nat.le_of_ble_eq_true rfl) (Nat.le_of_ble_eq_true rfl)) 0 dX10_init_4 rfl ?_
  refine s_iconst (hC.C 0 0 (Nat.le_of_ble_eq_true rfl) (Nat.le_of_ble_eq_true rfl)) dX10_init_5 (v := 0) (by decide) ?_
  refine c_putI hC xc10 (by decide) hin rfl qp_X10_7 (x_stgk ix_600 (by decide) kd_600) dX10_init_6 ?_
  refine s_aload_n (hC.C 0 0 (Nat.le_of_ble_eq_true rfl) (Nat.le_of_ble_eq_true rfl)) 0 dX10_init_9 rfl ?_
  refine s_iconst (hC.C 0 0 (Nat.le_of_ble_eq_true rfl) (Nat.le_of_ble_eq_true rfl)) dX10_init_10 (v := 0) (by decide) ?_
  refine c_putI hC xc10 (by decide) hin rfl qp_X10_13 (x_stgk ix_600 (by decide) kd_600) dX10_init_11 ?_
  refine s_aload_n (hC.C 0 0 (Nat.le_of_ble_eq_true rfl) (Nat.le_of_ble_eq_true rfl)) 0 dX10_init_14 rfl ?_
  refine s_sipush (hC.C 0 0 (Nat.le_of_ble_eq_true rfl) (Nat.le_of_ble_eq_true rfl)) dX10_init_15 (v := 200) (by decide) ?_
  refine c_putI hC xc10 (by decide) hin rfl qp_X10_16 (x_stgk ix_600 (by decide) kd_600) dX10_init_18 ?_
  refine s_aload_n (hC.C 0 0 (Nat.le_of_ble_eq_true rfl) (Nat.le_of_ble_eq_true rfl)) 0 dX10_init_21 rfl ?_
  refine s_iconst (hC.C 0 0 (Nat.le_of_ble_eq_true rfl) (Nat.le_of_ble_eq_true rfl)) dX10_init_22 (v := 0) (by decide) ?_
  refine c_putI hC xc10 (by decide) hin rfl qp_X10_19 (x_stgk ix_600 (by decide) kd_600) dX10_init_23 ?_
  refine s_aload_n (hC.C 0 0 (Nat.le_of_ble_eq_true rfl) (Nat.le_of_ble_eq_true rfl)) 0 dX10_init_26 rfl ?_
  refine s_bipush (hC.C 0 0 (Nat.le_of_ble_eq_true rfl) (Nat.le_of_ble_eq_true rfl)) dX10_init_27 (v := 6) (by decide) ?_
  refine c_newI hC ix_605 kd_605 (by decide) ln_605 (by decide +kernel) qa_int (by decide) (by decide) ⟨Nat.le_of_ble_eq_true rfl, Nat.le_of_ble_eq_true rfl⟩ dX10_init_29 ?_
  refine s_dupR (hC.C 1 6 (Nat.le_of_ble_eq_true rfl) (Nat.le_of_ble_eq_true rfl)) dX10_init_31 ?_
  refine s_iconst (hC.C 1 6 (Nat.le_of_ble_eq_true rfl) (Nat.le_of_ble_eq_true rfl)) dX10_init_32 (v := 0) (by decide) ?_
  refine s_bipush (hC.C 1 6 (Nat.le_of_ble_eq_true rfl) (Nat.le_of_ble_eq_true rfl)) dX10_init_33 (v := 10) (by decide) ?_
  refine c_iast hC (x_stgk ix_605 (by decide) kd_605) (by rw [show x_ln (XR ad D cA) 605 = 6 from ln_605]; decide) dX10_init_35 ?_
  refine s_dupR (hC.C 1 6 (Nat.le_of_ble_eq_true rfl) (Nat.le_of_ble_eq_true rfl)) dX10_init_36 ?_
  refine s_iconst (hC.C 1 6 (Nat.le_of_ble_eq_true rfl) (Nat.le_of_ble_eq_true rfl)) dX10_init_37 (v := 1) (by decide) ?_
  refine s_bipush (hC.C 1 6 (Nat.le_of_ble_eq_true rfl) (Nat.le_of_ble_eq_true rfl)) dX10_init_38 (v := 10) (by decide) ?_
  refine c_iast hC (x_stgk ix_605 (by decide) kd_605) (by rw [show x_ln (XR ad D cA) 605 = 6 from ln_605]; decide) dX10_init_40 ?_
  refine s_dupR (hC.C 1 6 (Nat.le_of_ble_eq_true rfl) (Nat.le_of_ble_eq_true rfl)) dX10_init_41 ?_
  refine s_iconst (hC.C 1 6 (Nat.le_of_ble_eq_true rfl) (Nat.le_of_ble_eq_true rfl)) dX10_init_42 (v := 2) (by decide) ?_
  refine s_bipush (hC.C 1 6 (Nat.le_of_ble_eq_true rfl) (Nat.le_of_ble_eq_true rfl)) dX10_init_43 (v := 10) (by decide) ?_
  refine c_iast hC (x_stgk ix_605 (by decide) kd_605) (by rw [show x_ln (XR ad D cA) 605 = 6 from ln_605]; decide) dX10_init_45 ?_
  refine s_dupR (hC.C 1 6 (Nat.le_of_ble_eq_true rfl) (Nat.le_of_ble_eq_true rfl)) dX10_init_46 ?_
  refine s_iconst (hC.C 1 6 (Nat.le_of_ble_eq_true rfl) (Nat.le_of_ble_eq_true rfl)) dX10_init_47 (v := 3) (by decide) ?_
  refine s_bipush (hC.C 1 6 (Nat.le_of_ble_eq_true rfl) (Nat.le_of_ble_eq_true rfl)) dX10_init_48 (v := 10) (by decide) ?_
  refine c_iast hC (x_stgk ix_605 (by decide) kd_605) (by rw [show x_ln (XR ad D cA) 605 = 6 from ln_605]; decide) dX10_init_50 ?_
  refine s_dupR (hC.C 1 6 (Nat.le_of_ble_eq_true rfl) (Nat.le_of_ble_eq_true rfl)) dX10_init_51 ?_
  refine s_iconst (hC.C 1 6 (Nat.le_of_ble_eq_true rfl) (Nat.le_of_ble_eq_true rfl)) dX10_init_52 (v := 4) (by decide) ?_
  refine s_bipush (hC.C 1 6 (Nat.le_of_ble_eq_true rfl) (Nat.le_of_ble_eq_true rfl)) dX10_init_53 (v := 10) (by decide) ?_
  refine c_iast hC (x_stgk ix_605 (by decide) kd_605) (by rw [show x_ln (XR ad D cA) 605 = 6 from ln_605]; decide) dX10_init_55 ?_
  refine s_dupR (hC.C 1 6 (Nat.le_of_ble_eq_true rfl) (Nat.le_of_ble_eq_true rfl)) dX10_init_56 ?_
  refine s_iconst (hC.C 1 6 (Nat.le_of_ble_eq_true rfl) (Nat.le_of_ble_eq_true rfl)) dX10_init_57 (v := 5) (by decide) ?_
  refine s_bipush (hC.C 1 6 (Nat.le_of_ble_eq_true rfl) (Nat.le_of_ble_eq_true rfl)) dX10_init_58 (v := 10) (by decide) ?_
  refine c_iast hC (x_stgk ix_605 (by decide) kd_605) (by rw [show x_ln (XR ad D cA) 605 = 6 from ln_605]; decide) dX10_init_60 ?_
  refine c_putR hC xc10 (by decide) hin rfl qp_X10_22 (x_stgk ix_600 (by decide) kd_600) dX10_init_61 ?_
  refine s_aload_n (hC.C 1 6 (Nat.le_of_ble_eq_true rfl) (Nat.le_of_ble_eq_true rfl)) 0 dX10_init_64 rfl ?_
  refine s_bipush (hC.C 1 6 (Nat.le_of_ble_eq_true rfl) (Nat.le_of_ble_eq_true rfl)) dX10_init_65 (v := 6) (by decide) ?_
  refine c_newI hC ix_606 kd_606 (by decide) ln_606 (by decide +kernel) qa_int (by decide) (by decide) ⟨Nat.le_of_ble_eq_true rfl, Nat.le_of_ble_eq_true rfl⟩ dX10_init_67 ?_
  refine c_putR hC xc10 (by decide) hin rfl qp_X10_26 (x_stgk ix_600 (by decide) kd_600) dX10_init_69 ?_
  refine s_aload_n (hC.C 2 12 (Nat.le_of_ble_eq_true rfl) (Nat.le_of_ble_eq_true rfl)) 0 dX10_init_72 rfl ?_
  refine s_bipush (hC.C 2 12 (Nat.le_of_ble_eq_true rfl) (Nat.le_of_ble_eq_true rfl)) dX10_init_73 (v := 6) (by decide) ?_
  refine c_newI hC ix_607 kd_607 (by decide) ln_607 (by decide +kernel) qa_int (by decide) (by decide) ⟨Nat.le_of_ble_eq_true rfl, Nat.le_of_ble_eq_true rfl⟩ dX10_init_75 ?_
  refine c_putR hC xc10 (by decide) hin rfl qp_X10_29 (x_stgk ix_600 (by decide) kd_600) dX10_init_77 ?_
  refine s_aload_n (hC.C 3 18 (Nat.le_of_ble_eq_true rfl) (Nat.le_of_ble_eq_true rfl)) 0 dX10_init_80 rfl ?_
  refine s_bipush (hC.C 3 18 (Nat.le_of_ble_eq_true rfl) (Nat.le_of_ble_eq_true rfl)) dX10_init_81 (v := 6) (by decide) ?_
  refine c_newI hC ix_608 kd_608 (by decide) ln_608 (by decide +kernel) qa_int (by decide) (by decide) ⟨Nat.le_of_ble_eq_true rfl, Nat.le_of_ble_eq_true rfl⟩ dX10_init_83 ?_
  refine c_putR hC xc10 (by decide) hin rfl qp_X10_32 (x_stgk ix_600 (by decide) kd_600) dX10_init_85 ?_
  refine s_aload_n (hC.C 4 24 (Nat.le_of_ble_eq_true rfl) (Nat.le_of_ble_eq_true rfl)) 0 dX10_init_88 rfl ?_
  refine s_bipush (hC.C 4 24 (Nat.le_of_ble_eq_true rfl) (Nat.le_of_ble_eq_true rfl)) dX10_init_89 (v := 6) (by decide) ?_
  refine c_newI hC ix_609 kd_609 (by decide) ln_609 (by decide +kernel) qa_int (by decide) (by decide) ⟨Nat.le_of_ble_eq_true rfl, Nat.le_of_ble_eq_true rfl⟩ dX10_init_91 ?_
  refine c_putR hC xc10 (by decide) hin rfl qp_X10_35 (x_stgk ix_600 (by decide) kd_600) dX10_init_93 ?_
  refine s_aload_n (hC.C 5 30 (Nat.le_of_ble_eq_true rfl) (Nat.le_of_ble_eq_true rfl)) 0 dX10_init_96 rfl ?_
  refine s_bipush (hC.C 5 30 (Nat.le_of_ble_eq_true rfl) (Nat.le_of_ble_eq_true rfl)) dX10_init_97 (v := 6) (by decide) ?_
  refine c_newI hC ix_610 kd_610 (by decide) ln_610 (by decide +kernel) qa_int (by decide) (by decide) ⟨Nat.le_of_ble_eq_true rfl, Nat.le_of_ble_eq_true rfl⟩ dX10_init_99 ?_
  refine c_putR hC xc10 (by decide) hin rfl qp_X10_38 (x_stgk ix_600 (by decide) kd_600) dX10_init_101 ?_
  refine s_aload_n (hC.C 6 36 (Nat.le_of_ble_eq_true rfl) (Nat.le_of_ble_eq_true rfl)) 0 dX10_init_104 rfl ?_
  refine s_bipush (hC.C 6 36 (Nat.le_of_ble_eq_true rfl) (Nat.le_of_ble_eq_true rfl)) dX10_init_105 (v := 24) (by decide) ?_
  refine c_newI hC ix_611 kd_611 (by decide) ln_611 (by decide +kernel) qa_int (by decide) (by decide) ⟨Nat.le_of_ble_eq_true rfl, Nat.le_of_ble_eq_true rfl⟩ dX10_init_107 ?_
  refine c_putR hC xc10 (by decide) hin rfl qp_X10_41 (x_stgk ix_600 (by decide) kd_600) dX10_init_109 ?_
  refine s_aload_n (hC.C 7 60 (Nat.le_of_ble_eq_true rfl) (Nat.le_of_ble_eq_true rfl)) 0 dX10_init_112 rfl ?_
  refine s_iconst (hC.C 7 60 (Nat.le_of_ble_eq_true rfl) (Nat.le_of_ble_eq_true rfl)) dX10_init_113 (v := 0) (by decide) ?_
  refine c_putI hC xc10 (by decide) hin rfl qp_X10_44 (x_stgk ix_600 (by decide) kd_600) dX10_init_114 ?_
  refine s_aload_n (hC.C 7 60 (Nat.le_of_ble_eq_true rfl) (Nat.le_of_ble_eq_true rfl)) 0 dX10_init_117 rfl ?_
  refine s_iconst (hC.C 7 60 (Nat.le_of_ble_eq_true rfl) (Nat.le_of_ble_eq_true rfl)) dX10_init_118 (v := -1) (by decide) ?_
  refine c_putI hC xc10 (by decide) hin rfl qp_X10_47 (x_stgk ix_600 (by decide) kd_600) dX10_init_119 ?_
  refine s_aload_n (hC.C 7 60 (Nat.le_of_ble_eq_true rfl) (Nat.le_of_ble_eq_true rfl)) 0 dX10_init_122 rfl ?_
  refine s_iconst (hC.C 7 60 (Nat.le_of_ble_eq_true rfl) (Nat.le_of_ble_eq_true rfl)) dX10_init_123 (v := 0) (by decide) ?_
  refine c_putI hC xc10 (by decide) hin rfl qp_X10_50 (x_stgk ix_600 (by decide) kd_600) dX10_init_124 ?_
  refine s_aload_n (hC.C 7 60 (Nat.le_of_ble_eq_true rfl) (Nat.le_of_ble_eq_true rfl)) 0 dX10_init_127 rfl ?_
  refine s_iconst (hC.C 7 60 (Nat.le_of_ble_eq_true rfl) (Nat.le_of_ble_eq_true rfl)) dX10_init_128 (v := 0) (by decide) ?_
  refine c_putI hC xc10 (by decide) hin rfl qp_X10_53 (x_stgk ix_600 (by decide) kd_600) dX10_init_129 ?_
  refine s_aload_n (hC.C 7 60 (Nat.le_of_ble_eq_true rfl) (Nat.le_of_ble_eq_true rfl)) 0 dX10_init_132 rfl ?_
  refine s_iconst (hC.C 7 60 (Nat.le_of_ble_eq_true rfl) (Nat.le_of_ble_eq_true rfl)) dX10_init_133 (v := 0) (by decide) ?_
  refine c_putI hC xc10 (by decide) hin rfl qp_X10_56 (x_stgk ix_600 (by decide) kd_600) dX10_init_134 ?_
  refine s_aload_n (hC.C 7 60 (Nat.le_of_ble_eq_true rfl) (Nat.le_of_ble_eq_true rfl)) 0 dX10_init_137 rfl ?_
  refine s_bipush (hC.C 7 60 (Nat.le_of_ble_eq_true rfl) (Nat.le_of_ble_eq_true rfl)) dX10_init_138 (v := 100) (by decide) ?_
  refine c_newI hC ix_617 kd_617 (by decide) ln_617 (by decide +kernel) qa_int (by decide) (by decide) ⟨Nat.le_of_ble_eq_true rfl, Nat.le_of_ble_eq_true rfl⟩ dX10_init_140 ?_
  refine c_putR hC xc10 (by decide) hin rfl qp_X10_59 (x_stgk ix_600 (by decide) kd_600) dX10_init_142 ?_
  refine s_aload_n (hC.C 8 160 (Nat.le_of_ble_eq_true rfl) (Nat.le_of_ble_eq_true rfl)) 0 dX10_init_145 rfl ?_
  refine s_bipush (hC.C 8 160 (Nat.le_of_ble_eq_true rfl) (Nat.le_of_ble_eq_true rfl)) dX10_init_146 (v := 6) (by decide) ?_
  refine c_newI hC ix_618 kd_618 (by decide) ln_618 (by decide +kernel) qa_int (by decide) (by decide) ⟨Nat.le_of_ble_eq_true rfl, Nat.le_of_ble_eq_true rfl⟩ dX10_init_148 ?_
  refine c_putR hC xc10 (by decide) hin rfl qp_X10_62 (x_stgk ix_600 (by decide) kd_600) dX10_init_150 ?_
  refine s_aload_n (hC.C 9 166 (Nat.le_of_ble_eq_true rfl) (Nat.le_of_ble_eq_true rfl)) 0 dX10_init_153 rfl ?_
  refine s_bipush (hC.C 9 166 (Nat.le_of_ble_eq_true rfl) (Nat.le_of_ble_eq_true rfl)) dX10_init_154 (v := 60) (by decide) ?_
  refine c_newI hC ix_619 kd_619 (by decide) ln_619 (by decide +kernel) qa_int (by decide) (by decide) ⟨Nat.le_of_ble_eq_true rfl, Nat.le_of_ble_eq_true rfl⟩ dX10_init_156 ?_
  refine c_putR hC xc10 (by decide) hin rfl qp_X10_65 (x_stgk ix_600 (by decide) kd_600) dX10_init_158 ?_
  refine s_aload_n (hC.C 10 226 (Nat.le_of_ble_eq_true rfl) (Nat.le_of_ble_eq_true rfl)) 0 dX10_init_161 rfl ?_
  refine s_bipush (hC.C 10 226 (Nat.le_of_ble_eq_true rfl) (Nat.le_of_ble_eq_true rfl)) dX10_init_162 (v := 60) (by decide) ?_
  refine c_newI hC ix_620 kd_620 (by decide) ln_620 (by decide +kernel) qa_int (by decide) (by decide) ⟨Nat.le_of_ble_eq_true rfl, Nat.le_of_ble_eq_true rfl⟩ dX10_init_164 ?_
  refine c_putR hC xc10 (by decide) hin rfl qp_X10_68 (x_stgk ix_600 (by decide) kd_600) dX10_init_166 ?_
  refine s_aload_n (hC.C 11 286 (Nat.le_of_ble_eq_true rfl) (Nat.le_of_ble_eq_true rfl)) 0 dX10_init_169 rfl ?_
  refine s_bipush (hC.C 11 286 (Nat.le_of_ble_eq_true rfl) (Nat.le_of_ble_eq_true rfl)) dX10_init_170 (v := 60) (by decide) ?_
  refine c_newI hC ix_621 kd_621 (by decide) ln_621 (by decide +kernel) qa_int (by decide) (by decide) ⟨Nat.le_of_ble_eq_true rfl, Nat.le_of_ble_eq_true rfl⟩ dX10_init_172 ?_
  refine c_putR hC xc10 (by decide) hin rfl qp_X10_71 (x_stgk ix_600 (by decide) kd_600) dX10_init_174 ?_
  refine s_aload_n (hC.C 12 346 (Nat.le_of_ble_eq_true rfl) (Nat.le_of_ble_eq_true rfl)) 0 dX10_init_177 rfl ?_
  refine s_bipush (hC.C 12 346 (Nat.le_of_ble_eq_true rfl) (Nat.le_of_ble_eq_true rfl)) dX10_init_178 (v := 60) (by decide) ?_
  refine c_newI hC ix_622 kd_622 (by decide) ln_622 (by decide +kernel) qa_int (by decide) (by decide) ⟨Nat.le_of_ble_eq_true rfl, Nat.le_of_ble_eq_true rfl⟩ dX10_init_180 ?_
  refine c_putR hC xc10 (by decide) hin rfl qp_X10_74 (x_stgk ix_600 (by decide) kd_600) dX10_init_182 ?_
  refine s_aload_n (hC.C 13 406 (Nat.le_of_ble_eq_true rfl) (Nat.le_of_ble_eq_true rfl)) 0 dX10_init_185 rfl ?_
  refine s_sipush (hC.C 13 406 (Nat.le_of_ble_eq_true rfl) (Nat.le_of_ble_eq_true rfl)) dX10_init_186 (v := 600) (by decide) ?_
  refine c_newI hC ix_623 kd_623 (by decide) ln_623 (by decide +kernel) qa_int (by decide) (by decide) ⟨Nat.le_of_ble_eq_true rfl, Nat.le_of_ble_eq_true rfl⟩ dX10_init_189 ?_
  refine c_putR hC xc10 (by decide) hin rfl qp_X10_77 (x_stgk ix_600 (by decide) kd_600) dX10_init_191 ?_
  refine s_aload_n (hC.C 14 1006 (Nat.le_of_ble_eq_true rfl) (Nat.le_of_ble_eq_true rfl)) 0 dX10_init_194 rfl ?_
  refine s_bipush (hC.C 14 1006 (Nat.le_of_ble_eq_true rfl) (Nat.le_of_ble_eq_true rfl)) dX10_init_195 (v := 101) (by decide) ?_
  refine c_newI hC ix_624 kd_624 (by decide) ln_624 (by decide +kernel) qa_int (by decide) (by decide) ⟨Nat.le_of_ble_eq_true rfl, Nat.le_of_ble_eq_true rfl⟩ dX10_init_197 ?_
  refine c_putR hC xc10 (by decide) hin rfl qp_X10_80 (x_stgk ix_600 (by decide) kd_600) dX10_init_199 ?_
  refine s_aload_n (hC.C 15 1107 (Nat.le_of_ble_eq_true rfl) (Nat.le_of_ble_eq_true rfl)) 0 dX10_init_202 rfl ?_
  refine s_iconst (hC.C 15 1107 (Nat.le_of_ble_eq_true rfl) (Nat.le_of_ble_eq_true rfl)) dX10_init_203 (v := 0) (by decide) ?_
  refine c_putI hC xc10 (by decide) hin rfl qp_X10_83 (x_stgk ix_600 (by decide) kd_600) dX10_init_204 ?_
  refine s_aload_n (hC.C 15 1107 (Nat.le_of_ble_eq_true rfl) (Nat.le_of_ble_eq_true rfl)) 0 dX10_init_207 rfl ?_
  refine s_iconst (hC.C 15 1107 (Nat.le_of_ble_eq_true rfl) (Nat.le_of_ble_eq_true rfl)) dX10_init_208 (v := 0) (by decide) ?_
  refine c_putI hC xc10 (by decide) hin rfl qp_X10_86 (x_stgk ix_600 (by decide) kd_600) dX10_init_209 ?_
  refine s_aload_n (hC.C 15 1107 (Nat.le_of_ble_eq_true rfl) (Nat.le_of_ble_eq_true rfl)) 0 dX10_init_212 rfl ?_
  refine s_iconst (hC.C 15 1107 (Nat.le_of_ble_eq_true rfl) (Nat.le_of_ble_eq_true rfl)) dX10_init_213 (v := 0) (by decide) ?_
  refine c_putI hC xc10 (by decide) hin rfl qp_X10_89 (x_stgk ix_600 (by decide) kd_600) dX10_init_214 ?_
  refine s_aload_n (hC.C 15 1107 (Nat.le_of_ble_eq_true rfl) (Nat.le_of_ble_eq_true rfl)) 0 dX10_init_217 rfl ?_
  refine s_bipush (hC.C 15 1107 (Nat.le_of_ble_eq_true rfl) (Nat.le_of_ble_eq_true rfl)) dX10_init_218 (v := 22) (by decide) ?_
  refine c_newI hC ix_628 kd_628 (by decide) ln_628 (by decide +kernel) qa_int (by decide) (by decide) ⟨Nat.le_of_ble_eq_true rfl, Nat.le_of_ble_eq_true rfl⟩ dX10_init_220 ?_
  refine s_dupR (hC.C 16 1129 (Nat.le_of_ble_eq_true rfl) (Nat.le_of_ble_eq_true rfl)) dX10_init_222 ?_
  refine s_iconst (hC.C 16 1129 (Nat.le_of_ble_eq_true rfl) (Nat.le_of_ble_eq_true rfl)) dX10_init_223 (v := 0) (by decide) ?_
  refine s_bipush (hC.C 16 1129 (Nat.le_of_ble_eq_true rfl) (Nat.le_of_ble_eq_true rfl)) dX10_init_224 (v := 115) (by decide) ?_
  refine c_iast hC (x_stgk ix_628 (by decide) kd_628) (by rw [show x_ln (XR ad D cA) 628 = 22 from ln_628]; decide) dX10_init_226 ?_
  refine s_dupR (hC.C 16 1129 (Nat.le_of_ble_eq_true rfl) (Nat.le_of_ble_eq_true rfl)) dX10_init_227 ?_
  refine s_iconst (hC.C 16 1129 (Nat.le_of_ble_eq_true rfl) (Nat.le_of_ble_eq_true rfl)) dX10_init_228 (v := 1) (by decide) ?_
  refine s_bipush (hC.C 16 1129 (Nat.le_of_ble_eq_true rfl) (Nat.le_of_ble_eq_true rfl)) dX10_init_229 (v := 112) (by decide) ?_
  refine c_iast hC (x_stgk ix_628 (by decide) kd_628) (by rw [show x_ln (XR ad D cA) 628 = 22 from ln_628]; decide) dX10_init_231 ?_
  refine s_dupR (hC.C 16 1129 (Nat.le_of_ble_eq_true rfl) (Nat.le_of_ble_eq_true rfl)) dX10_init_232 ?_
  refine s_iconst (hC.C 16 1129 (Nat.le_of_ble_eq_true rfl) (Nat.le_of_ble_eq_true rfl)) dX10_init_233 (v := 2) (by decide) ?_
  refine s_bipush (hC.C 16 1129 (Nat.le_of_ble_eq_true rfl) (Nat.le_of_ble_eq_true rfl)) dX10_init_234 (v := 114) (by decide) ?_
  refine c_iast hC (x_stgk ix_628 (by decide) kd_628) (by rw [show x_ln (XR ad D cA) 628 = 22 from ln_628]; decide) dX10_init_236 ?_
  refine s_dupR (hC.C 16 1129 (Nat.le_of_ble_eq_true rfl) (Nat.le_of_ble_eq_true rfl)) dX10_init_237 ?_
  refine s_iconst (hC.C 16 1129 (Nat.le_of_ble_eq_true rfl) (Nat.le_of_ble_eq_true rfl)) dX10_init_238 (v := 3) (by decide) ?_
  refine s_bipush (hC.C 16 1129 (Nat.le_of_ble_eq_true rfl) (Nat.le_of_ble_eq_true rfl)) dX10_init_239 (v := 105) (by decide) ?_
  refine c_iast hC (x_stgk ix_628 (by decide) kd_628) (by rw [show x_ln (XR ad D cA) 628 = 22 from ln_628]; decide) dX10_init_241 ?_
  refine s_dupR (hC.C 16 1129 (Nat.le_of_ble_eq_true rfl) (Nat.le_of_ble_eq_true rfl)) dX10_init_242 ?_
  refine s_iconst (hC.C 16 1129 (Nat.le_of_ble_eq_true rfl) (Nat.le_of_ble_eq_true rfl)) dX10_init_243 (v := 4) (by decide) ?_
  refine s_bipush (hC.C 16 1129 (Nat.le_of_ble_eq_true rfl) (Nat.le_of_ble_eq_true rfl)) dX10_init_244 (v := 110) (by decide) ?_
  refine c_iast hC (x_stgk ix_628 (by decide) kd_628) (by rw [show x_ln (XR ad D cA) 628 = 22 from ln_628]; decide) dX10_init_246 ?_
  refine s_dupR (hC.C 16 1129 (Nat.le_of_ble_eq_true rfl) (Nat.le_of_ble_eq_true rfl)) dX10_init_247 ?_
  refine s_iconst (hC.C 16 1129 (Nat.le_of_ble_eq_true rfl) (Nat.le_of_ble_eq_true rfl)) dX10_init_248 (v := 5) (by decide) ?_
  refine s_bipush (hC.C 16 1129 (Nat.le_of_ble_eq_true rfl) (Nat.le_of_ble_eq_true rfl)) dX10_init_249 (v := 103) (by decide) ?_
  refine c_iast hC (x_stgk ix_628 (by decide) kd_628) (by rw [show x_ln (XR ad D cA) 628 = 22 from ln_628]; decide) dX10_init_251 ?_
  refine s_dupR (hC.C 16 1129 (Nat.le_of_ble_eq_true rfl) (Nat.le_of_ble_eq_true rfl)) dX10_init_252 ?_
  refine s_bipush (hC.C 16 1129 (Nat.le_of_ble_eq_true rfl) (Nat.le_of_ble_eq_true rfl)) dX10_init_253 (v := 6) (by decide) ?_
  refine s_bipush (hC.C 16 1129 (Nat.le_of_ble_eq_true rfl) (Nat.le_of_ble_eq_true rfl)) dX10_init_255 (v := 115) (by decide) ?_
  refine c_iast hC (x_stgk ix_628 (by decide) kd_628) (by rw [show x_ln (XR ad D cA) 628 = 22 from ln_628]; decide) dX10_init_257 ?_
  refine s_dupR (hC.C 16 1129 (Nat.le_of_ble_eq_true rfl) (Nat.le_of_ble_eq_true rfl)) dX10_init_258 ?_
  refine s_bipush (hC.C 16 1129 (Nat.le_of_ble_eq_true rfl) (Nat.le_of_ble_eq_true rfl)) dX10_init_259 (v := 7) (by decide) ?_
  refine s_bipush (hC.C 16 1129 (Nat.le_of_ble_eq_true rfl) (Nat.le_of_ble_eq_true rfl)) dX10_init_261 (v := 117) (by decide) ?_
  refine c_iast hC (x_stgk ix_628 (by decide) kd_628) (by rw [show x_ln (XR ad D cA) 628 = 22 from ln_628]; decide) dX10_init_263 ?_
  refine s_dupR (hC.C 16 1129 (Nat.le_of_ble_eq_true rfl) (Nat.le_of_ble_eq_true rfl)) dX10_init_264 ?_
  refine s_bipush (hC.C 16 1129 (Nat.le_of_ble_eq_true rfl) (Nat.le_of_ble_eq_true rfl)) dX10_init_265 (v := 8) (by decide) ?_
  refine s_bipush (hC.C 16 1129 (Nat.le_of_ble_eq_true rfl) (Nat.le_of_ble_eq_true rfl)) dX10_init_267 (v := 110) (by decide) ?_
  refine c_iast hC (x_stgk ix_628 (by decide) kd_628) (by rw [show x_ln (XR ad D cA) 628 = 22 from ln_628]; decide) dX10_init_269 ?_
  refine s_dupR (hC.C 16 1129 (Nat.le_of_ble_eq_true rfl) (Nat.le_of_ble_eq_true rfl)) dX10_init_270 ?_
  refine s_bipush (hC.C 16 1129 (Nat.le_of_ble_eq_true rfl) (Nat.le_of_ble_eq_true rfl)) dX10_init_271 (v := 9) (by decide) ?_
  refine s_bipush (hC.C 16 1129 (Nat.le_of_ble_eq_true rfl) (Nat.le_of_ble_eq_true rfl)) dX10_init_273 (v := 109) (by decide) ?_
  refine c_iast hC (x_stgk ix_628 (by decide) kd_628) (by rw [show x_ln (XR ad D cA) 628 = 22 from ln_628]; decide) dX10_init_275 ?_
  refine s_dupR (hC.C 16 1129 (Nat.le_of_ble_eq_true rfl) (Nat.le_of_ble_eq_true rfl)) dX10_init_276 ?_
  refine s_bipush (hC.C 16 1129 (Nat.le_of_ble_eq_true rfl) (Nat.le_of_ble_eq_true rfl)) dX10_init_277 (v := 10) (by decide) ?_
  refine s_bipush (hC.C 16 1129 (Nat.le_of_ble_eq_true rfl) (Nat.le_of_ble_eq_true rfl)) dX10_init_279 (v := 97) (by decide) ?_
  refine c_iast hC (x_stgk ix_628 (by decide) kd_628) (by rw [show x_ln (XR ad D cA) 628 = 22 from ln_628]; decide) dX10_init_281 ?_
  refine s_dupR (hC.C 16 1129 (Nat.le_of_ble_eq_true rfl) (Nat.le_of_ble_eq_true rfl)) dX10_init_282 ?_
  refine s_bipush (hC.C 16 1129 (Nat.le_of_ble_eq_true rfl) (Nat.le_of_ble_eq_true rfl)) dX10_init_283 (v := 11) (by decide) ?_
  refine s_bipush (hC.C 16 1129 (Nat.le_of_ble_eq_true rfl) (Nat.le_of_ble_eq_true rfl)) dX10_init_285 (v := 114) (by decide) ?_
  refine c_iast hC (x_stgk ix_628 (by decide) kd_628) (by rw [show x_ln (XR ad D cA) 628 = 22 from ln_628]; decide) dX10_init_287 ?_
  refine s_dupR (hC.C 16 1129 (Nat.le_of_ble_eq_true rfl) (Nat.le_of_ble_eq_true rfl)) dX10_init_288 ?_
  refine s_bipush (hC.C 16 1129 (Nat.le_of_ble_eq_true rfl) (Nat.le_of_ble_eq_true rfl)) dX10_init_289 (v := 12) (by decide) ?_
  refine s_bipush (hC.C 16 1129 (Nat.le_of_ble_eq_true rfl) (Nat.le_of_ble_eq_true rfl)) dX10_init_291 (v := 107) (by decide) ?_
  refine c_iast hC (x_stgk ix_628 (by decide) kd_628) (by rw [show x_ln (XR ad D cA) 628 = 22 from ln_628]; decide) dX10_init_293 ?_
  refine s_dupR (hC.C 16 1129 (Nat.le_of_ble_eq_true rfl) (Nat.le_of_ble_eq_true rfl)) dX10_init_294 ?_
  refine s_bipush (hC.C 16 1129 (Nat.le_of_ble_eq_true rfl) (Nat.le_of_ble_eq_true rfl)) dX10_init_295 (v := 13) (by decide) ?_
  refine s_bipush (hC.C 16 1129 (Nat.le_of_ble_eq_true rfl) (Nat.le_of_ble_eq_true rfl)) dX10_init_297 (v := 102) (by decide) ?_
  refine c_iast hC (x_stgk ix_628 (by decide) kd_628) (by rw [show x_ln (XR ad D cA) 628 = 22 from ln_628]; decide) dX10_init_299 ?_
  refine s_dupR (hC.C 16 1129 (Nat.le_of_ble_eq_true rfl) (Nat.le_of_ble_eq_true rfl)) dX10_init_300 ?_
  refine s_bipush (hC.C 16 1129 (Nat.le_of_ble_eq_true rfl) (Nat.le_of_ble_eq_true rfl)) dX10_init_301 (v := 14) (by decide) ?_
  refine s_bipush (hC.C 16 1129 (Nat.le_of_ble_eq_true rfl) (Nat.le_of_ble_eq_true rfl)) dX10_init_303 (v := 108) (by decide) ?_
  refine c_iast hC (x_stgk ix_628 (by decide) kd_628) (by rw [show x_ln (XR ad D cA) 628 = 22 from ln_628]; decide) dX10_init_305 ?_
  refine s_dupR (hC.C 16 1129 (Nat.le_of_ble_eq_true rfl) (Nat.le_of_ble_eq_true rfl)) dX10_init_306 ?_
  refine s_bipush (hC.C 16 1129 (Nat.le_of_ble_eq_true rfl) (Nat.le_of_ble_eq_true rfl)) dX10_init_307 (v := 15) (by decide) ?_
  refine s_bipush (hC.C 16 1129 (Nat.le_of_ble_eq_true rfl) (Nat.le_of_ble_eq_true rfl)) dX10_init_309 (v := 111) (by decide) ?_
  refine c_iast hC (x_stgk ix_628 (by decide) kd_628) (by rw [show x_ln (XR ad D cA) 628 = 22 from ln_628]; decide) dX10_init_311 ?_
  refine s_dupR (hC.C 16 1129 (Nat.le_of_ble_eq_true rfl) (Nat.le_of_ble_eq_true rfl)) dX10_init_312 ?_
  refine s_bipush (hC.C 16 1129 (Nat.le_of_ble_eq_true rfl) (Nat.le_of_ble_eq_true rfl)) dX10_init_313 (v := 16) (by decide) ?_
  refine s_bipush (hC.C 16 1129 (Nat.le_of_ble_eq_true rfl) (Nat.le_of_ble_eq_true rfl)) dX10_init_315 (v := 111) (by decide) ?_
  refine c_iast hC (x_stgk ix_628 (by decide) kd_628) (by rw [show x_ln (XR ad D cA) 628 = 22 from ln_628]; decide) dX10_init_317 ?_
  refine s_dupR (hC.C 16 1129 (Nat.le_of_ble_eq_true rfl) (Nat.le_of_ble_eq_true rfl)) dX10_init_318 ?_
  refine s_bipush (hC.C 16 1129 (Nat.le_of_ble_eq_true rfl) (Nat.le_of_ble_eq_true rfl)) dX10_init_319 (v := 17) (by decide) ?_
  refine s_bipush (hC.C 16 1129 (Nat.le_of_ble_eq_true rfl) (Nat.le_of_ble_eq_true rfl)) dX10_init_321 (v := 114) (by decide) ?_
  refine c_iast hC (x_stgk ix_628 (by decide) kd_628) (by rw [show x_ln (XR ad D cA) 628 = 22 from ln_628]; decide) dX10_init_323 ?_
  refine s_dupR (hC.C 16 1129 (Nat.le_of_ble_eq_true rfl) (Nat.le_of_ble_eq_true rfl)) dX10_init_324 ?_
  refine s_bipush (hC.C 16 1129 (Nat.le_of_ble_eq_true rfl) (Nat.le_of_ble_eq_true rfl)) dX10_init_325 (v := 18) (by decide) ?_
  refine s_bipush (hC.C 16 1129 (Nat.le_of_ble_eq_true rfl) (Nat.le_of_ble_eq_true rfl)) dX10_init_327 (v := 114) (by decide) ?_
  refine c_iast hC (x_stgk ix_628 (by decide) kd_628) (by rw [show x_ln (XR ad D cA) 628 = 22 from ln_628]; decide) dX10_init_329 ?_
  refine s_dupR (hC.C 16 1129 (Nat.le_of_ble_eq_true rfl) (Nat.le_of_ble_eq_true rfl)) dX10_init_330 ?_
  refine s_bipush (hC.C 16 1129 (Nat.le_of_ble_eq_true rfl) (Nat.le_of_ble_eq_true rfl)) dX10_init_331 (v := 19) (by decide) ?_
  refine s_bipush (hC.C 16 1129 (Nat.le_of_ble_eq_true rfl) (Nat.le_of_ble_eq_true rfl)) dX10_init_333 (v := 97) (by decide) ?_
  refine c_iast hC (x_stgk ix_628 (by decide) kd_628) (by rw [show x_ln (XR ad D cA) 628 = 22 from ln_628]; decide) dX10_init_335 ?_
  refine s_dupR (hC.C 16 1129 (Nat.le_of_ble_eq_true rfl) (Nat.le_of_ble_eq_true rfl)) dX10_init_336 ?_
  refine s_bipush (hC.C 16 1129 (Nat.le_of_ble_eq_true rfl) (Nat.le_of_ble_eq_true rfl)) dX10_init_337 (v := 20) (by decide) ?_
  refine s_bipush (hC.C 16 1129 (Nat.le_of_ble_eq_true rfl) (Nat.le_of_ble_eq_true rfl)) dX10_init_339 (v := 116) (by decide) ?_
  refine c_iast hC (x_stgk ix_628 (by decide) kd_628) (by rw [show x_ln (XR ad D cA) 628 = 22 from ln_628]; decide) dX10_init_341 ?_
  refine s_dupR (hC.C 16 1129 (Nat.le_of_ble_eq_true rfl) (Nat.le_of_ble_eq_true rfl)) dX10_init_342 ?_
  refine s_bipush (hC.C 16 1129 (Nat.le_of_ble_eq_true rfl) (Nat.le_of_ble_eq_true rfl)) dX10_init_343 (v := 21) (by decide) ?_
  refine s_bipush (hC.C 16 1129 (Nat.le_of_ble_eq_true rfl) (Nat.le_of_ble_eq_true rfl)) dX10_init_345 (v := 101) (by decide) ?_
  refine c_iast hC (x_stgk ix_628 (by decide) kd_628) (by rw [show x_ln (XR ad D cA) 628 = 22 from ln_628]; decide) dX10_init_347 ?_
  refine c_putR hC xc10 (by decide) hin rfl qp_X10_92 (x_stgk ix_600 (by decide) kd_600) dX10_init_348 ?_
  refine s_aload_n (hC.C 16 1129 (Nat.le_of_ble_eq_true rfl) (Nat.le_of_ble_eq_true rfl)) 0 dX10_init_351 rfl ?_
  refine s_bipush (hC.C 16 1129 (Nat.le_of_ble_eq_true rfl) (Nat.le_of_ble_eq_true rfl)) dX10_init_352 (v := 100) (by decide) ?_
  refine c_newZ hC ix_629 kd_629 (by decide) ln_629 (by decide +kernel) qa_boolean (by decide) (by decide) ⟨Nat.le_of_ble_eq_true rfl, Nat.le_of_ble_eq_true rfl⟩ dX10_init_354 ?_
  refine c_putR hC xc10 (by decide) hin rfl qp_X10_95 (x_stgk ix_600 (by decide) kd_600) dX10_init_356 ?_
  refine s_aload_n (hC.C 17 1229 (Nat.le_of_ble_eq_true rfl) (Nat.le_of_ble_eq_true rfl)) 0 dX10_init_359 rfl ?_
  refine s_iconst (hC.C 17 1229 (Nat.le_of_ble_eq_true rfl) (Nat.le_of_ble_eq_true rfl)) dX10_init_360 (v := 0) (by decide) ?_
  refine c_putI hC xc10 (by decide) hin rfl qp_X10_99 (x_stgk ix_600 (by decide) kd_600) dX10_init_361 ?_
  refine s_aload_n (hC.C 17 1229 (Nat.le_of_ble_eq_true rfl) (Nat.le_of_ble_eq_true rfl)) 0 dX10_init_364 rfl ?_
  refine s_iconst (hC.C 17 1229 (Nat.le_of_ble_eq_true rfl) (Nat.le_of_ble_eq_true rfl)) dX10_init_365 (v := -1) (by decide) ?_
  refine c_putI hC xc10 (by decide) hin rfl qp_X10_102 (x_stgk ix_600 (by decide) kd_600) dX10_init_366 ?_
  refine s_aload_n (hC.C 17 1229 (Nat.le_of_ble_eq_true rfl) (Nat.le_of_ble_eq_true rfl)) 0 dX10_init_369 rfl ?_
  refine s_iconst (hC.C 17 1229 (Nat.le_of_ble_eq_true rfl) (Nat.le_of_ble_eq_true rfl)) dX10_init_370 (v := 0) (by decide) ?_
  refine c_putI hC xc10 (by decide) hin rfl qp_X10_105 (x_stgk ix_600 (by decide) kd_600) dX10_init_371 ?_
  refine s_aload_n (hC.C 17 1229 (Nat.le_of_ble_eq_true rfl) (Nat.le_of_ble_eq_true rfl)) 0 dX10_init_374 rfl ?_
  refine s_iconst (hC.C 17 1229 (Nat.le_of_ble_eq_true rfl) (Nat.le_of_ble_eq_true rfl)) dX10_init_375 (v := -1) (by decide) ?_
  refine c_putI hC xc10 (by decide) hin rfl qp_X10_108 (x_stgk ix_600 (by decide) kd_600) dX10_init_376 ?_
  refine s_aload_n (hC.C 17 1229 (Nat.le_of_ble_eq_true rfl) (Nat.le_of_ble_eq_true rfl)) 0 dX10_init_379 rfl ?_
  refine s_bipush (hC.C 17 1229 (Nat.le_of_ble_eq_true rfl) (Nat.le_of_ble_eq_true rfl)) dX10_init_380 (v := 6) (by decide) ?_
  refine c_newI hC ix_634 kd_634 (by decide) ln_634 (by decide +kernel) qa_int (by decide) (by decide) ⟨Nat.le_of_ble_eq_true rfl, Nat.le_of_ble_eq_true rfl⟩ dX10_init_382 ?_
  refine c_putR hC xc10 (by decide) hin rfl qp_X10_111 (x_stgk ix_600 (by decide) kd_600) dX10_init_384 ?_
  refine s_aload_n (hC.C 18 1235 (Nat.le_of_ble_eq_true rfl) (Nat.le_of_ble_eq_true rfl)) 0 dX10_init_387 rfl ?_
  refine s_bipush (hC.C 18 1235 (Nat.le_of_ble_eq_true rfl) (Nat.le_of_ble_eq_true rfl)) dX10_init_388 (v := 6) (by decide) ?_
  refine c_newI hC ix_635 kd_635 (by decide) ln_635 (by decide +kernel) qa_int (by decide) (by decide) ⟨Nat.le_of_ble_eq_true rfl, Nat.le_of_ble_eq_true rfl⟩ dX10_init_390 ?_
  refine c_putR hC xc10 (by decide) hin rfl qp_X10_114 (x_stgk ix_600 (by decide) kd_600) dX10_init_392 ?_
  refine s_aload_n (hC.C 19 1241 (Nat.le_of_ble_eq_true rfl) (Nat.le_of_ble_eq_true rfl)) 0 dX10_init_395 rfl ?_
  refine s_iconst (hC.C 19 1241 (Nat.le_of_ble_eq_true rfl) (Nat.le_of_ble_eq_true rfl)) dX10_init_396 (v := 0) (by decide) ?_
  refine c_putI hC xc10 (by decide) hin rfl qp_X10_117 (x_stgk ix_600 (by decide) kd_600) dX10_init_397 ?_
  refine s_aload_n (hC.C 19 1241 (Nat.le_of_ble_eq_true rfl) (Nat.le_of_ble_eq_true rfl)) 0 dX10_init_400 rfl ?_
  refine s_iconst (hC.C 19 1241 (Nat.le_of_ble_eq_true rfl) (Nat.le_of_ble_eq_true rfl)) dX10_init_401 (v := 0) (by decide) ?_
  refine c_putI hC xc10 (by decide) hin rfl qp_X10_120 (x_stgk ix_600 (by decide) kd_600) dX10_init_402 ?_
  refine s_aload_n (hC.C 19 1241 (Nat.le_of_ble_eq_true rfl) (Nat.le_of_ble_eq_true rfl)) 0 dX10_init_405 rfl ?_
  refine s_iconst (hC.C 19 1241 (Nat.le_of_ble_eq_true rfl) (Nat.le_of_ble_eq_true rfl)) dX10_init_406 (v := 0) (by decide) ?_
  refine c_putI hC xc10 (by decide) hin rfl qp_X10_123 (x_stgk ix_600 (by decide) kd_600) dX10_init_407 ?_
  refine s_aload_n (hC.C 19 1241 (Nat.le_of_ble_eq_true rfl) (Nat.le_of_ble_eq_true rfl)) 0 dX10_init_410 rfl ?_
  refine s_bipush (hC.C 19 1241 (Nat.le_of_ble_eq_true rfl) (Nat.le_of_ble_eq_true rfl)) dX10_init_411 (v := 6) (by decide) ?_
  refine c_newI hC ix_639 kd_639 (by decide) ln_639 (by decide +kernel) qa_int (by decide) (by decide) ⟨Nat.le_of_ble_eq_true rfl, Nat.le_of_ble_eq_true rfl⟩ dX10_init_413 ?_
  refine c_putR hC xc10 (by decide) hin rfl qp_X10_126 (x_stgk ix_600 (by decide) kd_600) dX10_init_415 ?_
  refine s_aload_n (hC.C 20 1247 (Nat.le_of_ble_eq_true rfl) (Nat.le_of_ble_eq_true rfl)) 0 dX10_init_418 rfl ?_
  refine s_bipush (hC.C 20 1247 (Nat.le_of_ble_eq_true rfl) (Nat.le_of_ble_eq_true rfl)) dX10_init_419 (v := 6) (by decide) ?_
  refine c_newI hC ix_640 kd_640 (by decide) ln_640 (by decide +kernel) qa_int (by decide) (by decide) ⟨Nat.le_of_ble_eq_true rfl, Nat.le_of_ble_eq_true rfl⟩ dX10_init_421 ?_
  refine c_putR hC xc10 (by decide) hin rfl qp_X10_129 (x_stgk ix_600 (by decide) kd_600) dX10_init_423 ?_
  refine s_aload_n (hC.C 21 1253 (Nat.le_of_ble_eq_true rfl) (Nat.le_of_ble_eq_true rfl)) 0 dX10_init_426 rfl ?_
  refine s_iconst (hC.C 21 1253 (Nat.le_of_ble_eq_true rfl) (Nat.le_of_ble_eq_true rfl)) dX10_init_427 (v := 0) (by decide) ?_
  refine c_putI hC xc10 (by decide) hin rfl qp_X10_132 (x_stgk ix_600 (by decide) kd_600) dX10_init_428 ?_
  refine s_aload_n (hC.C 21 1253 (Nat.le_of_ble_eq_true rfl) (Nat.le_of_ble_eq_true rfl)) 0 dX10_init_431 rfl ?_
  refine s_iconst (hC.C 21 1253 (Nat.le_of_ble_eq_true rfl) (Nat.le_of_ble_eq_true rfl)) dX10_init_432 (v := 4) (by decide) ?_
  refine c_newI hC ix_642 kd_642 (by decide) ln_642 (by decide +kernel) qa_int (by decide) (by decide) ⟨Nat.le_of_ble_eq_true rfl, Nat.le_of_ble_eq_true rfl⟩ dX10_init_433 ?_
  refine c_putR hC xc10 (by decide) hin rfl qp_X10_135 (x_stgk ix_600 (by decide) kd_600) dX10_init_435 ?_
  refine s_aload_n (hC.C 22 1257 (Nat.le_of_ble_eq_true rfl) (Nat.le_of_ble_eq_true rfl)) 0 dX10_init_438 rfl ?_
  refine s_iconst (hC.C 22 1257 (Nat.le_of_ble_eq_true rfl) (Nat.le_of_ble_eq_true rfl)) dX10_init_439 (v := 4) (by decide) ?_
  refine c_newI hC ix_643 kd_643 (by decide) ln_643 (by decide +kernel) qa_int (by decide) (by decide) ⟨Nat.le_of_ble_eq_true rfl, Nat.le_of_ble_eq_true rfl⟩ dX10_init_440 ?_
  refine c_putR hC xc10 (by decide) hin rfl qp_X10_138 (x_stgk ix_600 (by decide) kd_600) dX10_init_442 ?_
  refine s_aload_n (hC.C 23 1261 (Nat.le_of_ble_eq_true rfl) (Nat.le_of_ble_eq_true rfl)) 0 dX10_init_445 rfl ?_
  refine s_iconst (hC.C 23 1261 (Nat.le_of_ble_eq_true rfl) (Nat.le_of_ble_eq_true rfl)) dX10_init_446 (v := 0) (by decide) ?_
  refine c_putI hC xc10 (by decide) hin rfl qp_X10_141 (x_stgk ix_600 (by decide) kd_600) dX10_init_447 ?_
  refine s_aload_n (hC.C 23 1261 (Nat.le_of_ble_eq_true rfl) (Nat.le_of_ble_eq_true rfl)) 0 dX10_init_450 rfl ?_
  refine s_iconst (hC.C 23 1261 (Nat.le_of_ble_eq_true rfl) (Nat.le_of_ble_eq_true rfl)) dX10_init_451 (v := 0) (by decide) ?_
  refine c_putI hC xc10 (by decide) hin rfl qp_X10_144 (x_stgk ix_600 (by decide) kd_600) dX10_init_452 ?_
  refine s_aload_n (hC.C 23 1261 (Nat.le_of_ble_eq_true rfl) (Nat.le_of_ble_eq_true rfl)) 0 dX10_init_455 rfl ?_
  refine s_bipush (hC.C 23 1261 (Nat.le_of_ble_eq_true rfl) (Nat.le_of_ble_eq_true rfl)) dX10_init_456 (v := 8) (by decide) ?_
  refine c_newI hC ix_646 kd_646 (by decide) ln_646 (by decide +kernel) qa_int (by decide) (by decide) ⟨Nat.le_of_ble_eq_true rfl, Nat.le_of_ble_eq_true rfl⟩ dX10_init_458 ?_
  refine c_putR hC xc10 (by decide) hin rfl qp_X10_147 (x_stgk ix_600 (by decide) kd_600) dX10_init_460 ?_
  refine s_aload_n (hC.C 24 1269 (Nat.le_of_ble_eq_true rfl) (Nat.le_of_ble_eq_true rfl)) 0 dX10_init_463 rfl ?_
  refine s_bipush (hC.C 24 1269 (Nat.le_of_ble_eq_true rfl) (Nat.le_of_ble_eq_true rfl)) dX10_init_464 (v := 8) (by decide) ?_
  refine c_newI hC ix_647 kd_647 (by decide) ln_647 (by decide +kernel) qa_int (by decide) (by decide) ⟨Nat.le_of_ble_eq_true rfl, Nat.le_of_ble_eq_true rfl⟩ dX10_init_466 ?_
  refine c_putR hC xc10 (by decide) hin rfl qp_X10_150 (x_stgk ix_600 (by decide) kd_600) dX10_init_468 ?_
  refine s_aload_n (hC.C 25 1277 (Nat.le_of_ble_eq_true rfl) (Nat.le_of_ble_eq_true rfl)) 0 dX10_init_471 rfl ?_
  refine s_bipush (hC.C 25 1277 (Nat.le_of_ble_eq_true rfl) (Nat.le_of_ble_eq_true rfl)) dX10_init_472 (v := 8) (by decide) ?_
  refine c_newI hC ix_648 kd_648 (by decide) ln_648 (by decide +kernel) qa_int (by decide) (by decide) ⟨Nat.le_of_ble_eq_true rfl, Nat.le_of_ble_eq_true rfl⟩ dX10_init_474 ?_
  refine c_putR hC xc10 (by decide) hin rfl qp_X10_153 (x_stgk ix_600 (by decide) kd_600) dX10_init_476 ?_
  refine s_aload_n (hC.C 26 1285 (Nat.le_of_ble_eq_true rfl) (Nat.le_of_ble_eq_true rfl)) 0 dX10_init_479 rfl ?_
  refine s_bipush (hC.C 26 1285 (Nat.le_of_ble_eq_true rfl) (Nat.le_of_ble_eq_true rfl)) dX10_init_480 (v := 8) (by decide) ?_
  refine c_newI hC ix_649 kd_649 (by decide) ln_649 (by decide +kernel) qa_int (by decide) (by decide) ⟨Nat.le_of_ble_eq_true rfl, Nat.le_of_ble_eq_true rfl⟩ dX10_init_482 ?_
  refine c_putR hC xc10 (by decide) hin rfl qp_X10_156 (x_stgk ix_600 (by decide) kd_600) dX10_init_484 ?_
  refine s_aload_n (hC.C 27 1293 (Nat.le_of_ble_eq_true rfl) (Nat.le_of_ble_eq_true rfl)) 0 dX10_init_487 rfl ?_
  refine s_iconst (hC.C 27 1293 (Nat.le_of_ble_eq_true rfl) (Nat.le_of_ble_eq_true rfl)) dX10_init_488 (v := 0) (by decide) ?_
  refine c_putZ hC xc10 (by decide) hin rfl (by decide) qp_X10_159 (x_stgk ix_600 (by decide) kd_600) dX10_init_489 ?_
  refine s_aload_n (hC.C 27 1293 (Nat.le_of_ble_eq_true rfl) (Nat.le_of_ble_eq_true rfl)) 0 dX10_init_492 rfl ?_
  refine s_iconst (hC.C 27 1293 (Nat.le_of_ble_eq_true rfl) (Nat.le_of_ble_eq_true rfl)) dX10_init_493 (v := -1) (by decide) ?_
  refine c_putI hC xc10 (by decide) hin rfl qp_X10_163 (x_stgk ix_600 (by decide) kd_600) dX10_init_494 ?_
  refine s_aload_n (hC.C 27 1293 (Nat.le_of_ble_eq_true rfl) (Nat.le_of_ble_eq_true rfl)) 0 dX10_init_497 rfl ?_
  refine s_iconst (hC.C 27 1293 (Nat.le_of_ble_eq_true rfl) (Nat.le_of_ble_eq_true rfl)) dX10_init_498 (v := 0) (by decide) ?_
  refine c_putI hC xc10 (by decide) hin rfl qp_X10_166 (x_stgk ix_600 (by decide) kd_600) dX10_init_499 ?_
  refine s_aload_n (hC.C 27 1293 (Nat.le_of_ble_eq_true rfl) (Nat.le_of_ble_eq_true rfl)) 0 dX10_init_502 rfl ?_
  refine s_iconst (hC.C 27 1293 (Nat.le_of_ble_eq_true rfl) (Nat.le_of_ble_eq_true rfl)) dX10_init_503 (v := 0) (by decide) ?_
  refine c_putI hC xc10 (by decide) hin rfl qp_X10_169 (x_stgk ix_600 (by decide) kd_600) dX10_init_504 ?_
  refine s_aload_n (hC.C 27 1293 (Nat.le_of_ble_eq_true rfl) (Nat.le_of_ble_eq_true rfl)) 0 dX10_init_507 rfl ?_
  refine s_iconst (hC.C 27 1293 (Nat.le_of_ble_eq_true rfl) (Nat.le_of_ble_eq_true rfl)) dX10_init_508 (v := 0) (by decide) ?_
  refine c_putI hC xc10 (by decide) hin rfl qp_X10_172 (x_stgk ix_600 (by decide) kd_600) dX10_init_509 ?_
  refine s_aload_n (hC.C 27 1293 (Nat.le_of_ble_eq_true rfl) (Nat.le_of_ble_eq_true rfl)) 0 dX10_init_512 rfl ?_
  refine s_iconst (hC.C 27 1293 (Nat.le_of_ble_eq_true rfl) (Nat.le_of_ble_eq_true rfl)) dX10_init_513 (v := 0) (by decide) ?_
  refine c_putI hC xc10 (by decide) hin rfl qp_X10_175 (x_stgk ix_600 (by decide) kd_600) dX10_init_514 ?_
  refine s_aload_n (hC.C 27 1293 (Nat.le_of_ble_eq_true rfl) (Nat.le_of_ble_eq_true rfl)) 0 dX10_init_517 rfl ?_
  refine s_iconst (hC.C 27 1293 (Nat.le_of_ble_eq_true rfl) (Nat.le_of_ble_eq_true rfl)) dX10_init_518 (v := 0) (by decide) ?_
  refine c_putI hC xc10 (by decide) hin rfl qp_X10_178 (x_stgk ix_600 (by decide) kd_600) dX10_init_519 ?_
  refine s_aload_n (hC.C 27 1293 (Nat.le_of_ble_eq_true rfl) (Nat.le_of_ble_eq_true rfl)) 0 dX10_init_522 rfl ?_
  refine s_iconst (hC.C 27 1293 (Nat.le_of_ble_eq_true rfl) (Nat.le_of_ble_eq_true rfl)) dX10_init_523 (v := 0) (by decide) ?_
  refine c_putI hC xc10 (by decide) hin rfl qp_X10_181 (x_stgk ix_600 (by decide) kd_600) dX10_init_524 ?_
  refine s_aload_n (hC.C 27 1293 (Nat.le_of_ble_eq_true rfl) (Nat.le_of_ble_eq_true rfl)) 0 dX10_init_527 rfl ?_
  refine s_iconst (hC.C 27 1293 (Nat.le_of_ble_eq_true rfl) (Nat.le_of_ble_eq_true rfl)) dX10_init_528 (v := 0) (by decide) ?_
  refine c_putI hC xc10 (by decide) hin rfl qp_X10_184 (x_stgk ix_600 (by decide) kd_600) dX10_init_529 ?_
  refine s_aload_n (hC.C 27 1293 (Nat.le_of_ble_eq_true rfl) (Nat.le_of_ble_eq_true rfl)) 0 dX10_init_532 rfl ?_
  refine s_bipush (hC.C 27 1293 (Nat.le_of_ble_eq_true rfl) (Nat.le_of_ble_eq_true rfl)) dX10_init_533 (v := 6) (by decide) ?_
  refine c_newI hC ix_659 kd_659 (by decide) ln_659 (by decide +kernel) qa_int (by decide) (by decide) ⟨Nat.le_of_ble_eq_true rfl, Nat.le_of_ble_eq_true rfl⟩ dX10_init_535 ?_
  refine c_putR hC xc10 (by decide) hin rfl qp_X10_187 (x_stgk ix_600 (by decide) kd_600) dX10_init_537 ?_
  refine s_aload_n (hC.C 28 1299 (Nat.le_of_ble_eq_true rfl) (Nat.le_of_ble_eq_true rfl)) 0 dX10_init_540 rfl ?_
  refine s_bipush (hC.C 28 1299 (Nat.le_of_ble_eq_true rfl) (Nat.le_of_ble_eq_true rfl)) dX10_init_541 (v := 6) (by decide) ?_
  refine c_newI hC ix_660 kd_660 (by decide) ln_660 (by decide +kernel) qa_int (by decide) (by decide) ⟨Nat.le_of_ble_eq_true rfl, Nat.le_of_ble_eq_true rfl⟩ dX10_init_543 ?_
  refine c_putR hC xc10 (by decide) hin rfl qp_X10_190 (x_stgk ix_600 (by decide) kd_600) dX10_init_545 ?_
  refine s_aload_n (hC.C 29 1305 (Nat.le_of_ble_eq_true rfl) (Nat.le_of_ble_eq_true rfl)) 0 dX10_init_548 rfl ?_
  refine s_bipush (hC.C 29 1305 (Nat.le_of_ble_eq_true rfl) (Nat.le_of_ble_eq_true rfl)) dX10_init_549 (v := 6) (by decide) ?_
  refine c_newI hC ix_661 kd_661 (by decide) ln_661 (by decide +kernel) qa_int (by decide) (by decide) ⟨Nat.le_of_ble_eq_true rfl, Nat.le_of_ble_eq_true rfl⟩ dX10_init_551 ?_
  refine c_putR hC xc10 (by decide) hin rfl qp_X10_193 (x_stgk ix_600 (by decide) kd_600) dX10_init_553 ?_
  refine s_aload_n (hC.C 30 1311 (Nat.le_of_ble_eq_true rfl) (Nat.le_of_ble_eq_true rfl)) 0 dX10_init_556 rfl ?_
  refine s_bipush (hC.C 30 1311 (Nat.le_of_ble_eq_true rfl) (Nat.le_of_ble_eq_true rfl)) dX10_init_557 (v := 6) (by decide) ?_
  refine c_newI hC ix_662 kd_662 (by decide) ln_662 (by decide +kernel) qa_int (by decide) (by decide) ⟨Nat.le_of_ble_eq_true rfl, Nat.le_of_ble_eq_true rfl⟩ dX10_init_559 ?_
  refine c_putR hC xc10 (by decide) hin rfl qp_X10_196 (x_stgk ix_600 (by decide) kd_600) dX10_init_561 ?_
  refine s_aload_n (hC.C 31 1317 (Nat.le_of_ble_eq_true rfl) (Nat.le_of_ble_eq_true rfl)) 0 dX10_init_564 rfl ?_
  refine s_bipush (hC.C 31 1317 (Nat.le_of_ble_eq_true rfl) (Nat.le_of_ble_eq_true rfl)) dX10_init_565 (v := 6) (by decide) ?_
  refine c_newI hC ix_663 kd_663 (by decide) ln_663 (by decide +kernel) qa_int (by decide) (by decide) ⟨Nat.le_of_ble_eq_true rfl, Nat.le_of_ble_eq_true rfl⟩ dX10_init_567 ?_
  refine c_putR hC xc10 (by decide) hin rfl qp_X10_199 (x_stgk ix_600 (by decide) kd_600) dX10_init_569 ?_
  refine s_aload_n (hC.C 32 1323 (Nat.le_of_ble_eq_true rfl) (Nat.le_of_ble_eq_true rfl)) 0 dX10_init_572 rfl ?_
  refine s_bipush (hC.C 32 1323 (Nat.le_of_ble_eq_true rfl) (Nat.le_of_ble_eq_true rfl)) dX10_init_573 (v := 6) (by decide) ?_
  refine c_newI hC ix_664 kd_664 (by decide) ln_664 (by decide +kernel) qa_int (by decide) (by decide) ⟨Nat.le_of_ble_eq_true rfl, Nat.le_of_ble_eq_true rfl⟩ dX10_init_575 ?_
  refine c_putR hC xc10 (by decide) hin rfl qp_X10_202 (x_stgk ix_600 (by decide) kd_600) dX10_init_577 ?_
  refine s_aload_n (hC.C 33 1329 (Nat.le_of_ble_eq_true rfl) (Nat.le_of_ble_eq_true rfl)) 0 dX10_init_580 rfl ?_
  refine s_bipush (hC.C 33 1329 (Nat.le_of_ble_eq_true rfl) (Nat.le_of_ble_eq_true rfl)) dX10_init_581 (v := 24) (by decide) ?_
  refine c_newI hC ix_665 kd_665 (by decide) ln_665 (by decide +kernel) qa_int (by decide) (by decide) ⟨Nat.le_of_ble_eq_true rfl, Nat.le_of_ble_eq_true rfl⟩ dX10_init_583 ?_
  refine c_putR hC xc10 (by decide) hin rfl qp_X10_205 (x_stgk ix_600 (by decide) kd_600) dX10_init_585 ?_
  refine s_aload_n (hC.C 34 1353 (Nat.le_of_ble_eq_true rfl) (Nat.le_of_ble_eq_true rfl)) 0 dX10_init_588 rfl ?_
  refine s_iconst (hC.C 34 1353 (Nat.le_of_ble_eq_true rfl) (Nat.le_of_ble_eq_true rfl)) dX10_init_589 (v := 4) (by decide) ?_
  refine c_newI hC ix_666 kd_666 (by decide) ln_666 (by decide +kernel) qa_int (by decide) (by decide) ⟨Nat.le_of_ble_eq_true rfl, Nat.le_of_ble_eq_true rfl⟩ dX10_init_590 ?_
  refine c_putR hC xc10 (by decide) hin rfl qp_X10_208 (x_stgk ix_600 (by decide) kd_600) dX10_init_592 ?_
  refine s_aload_n (hC.C 35 1357 (Nat.le_of_ble_eq_true rfl) (Nat.le_of_ble_eq_true rfl)) 0 dX10_init_595 rfl ?_
  refine s_iconst (hC.C 35 1357 (Nat.le_of_ble_eq_true rfl) (Nat.le_of_ble_eq_true rfl)) dX10_init_596 (v := 4) (by decide) ?_
  refine c_newI hC ix_667 kd_667 (by decide) ln_667 (by decide +kernel) qa_int (by decide) (by decide) ⟨Nat.le_of_ble_eq_true rfl, Nat.le_of_ble_eq_true rfl⟩ dX10_init_597 ?_
  refine c_putR hC xc10 (by decide) hin rfl qp_X10_211 (x_stgk ix_600 (by decide) kd_600) dX10_init_599 ?_
  refine s_aload_n (hC.C 36 1361 (Nat.le_of_ble_eq_true rfl) (Nat.le_of_ble_eq_true rfl)) 0 dX10_init_602 rfl ?_
  refine s_bipush (hC.C 36 1361 (Nat.le_of_ble_eq_true rfl) (Nat.le_of_ble_eq_true rfl)) dX10_init_603 (v := 8) (by decide) ?_
  refine c_newI hC ix_668 kd_668 (by decide) ln_668 (by decide +kernel) qa_int (by decide) (by decide) ⟨Nat.le_of_ble_eq_true rfl, Nat.le_of_ble_eq_true rfl⟩ dX10_init_605 ?_
  refine c_putR hC xc10 (by decide) hin rfl qp_X10_214 (x_stgk ix_600 (by decide) kd_600) dX10_init_607 ?_
  refine s_aload_n (hC.C 37 1369 (Nat.le_of_ble_eq_true rfl) (Nat.le_of_ble_eq_true rfl)) 0 dX10_init_610 rfl ?_
  refine s_bipush (hC.C 37 1369 (Nat.le_of_ble_eq_true rfl) (Nat.le_of_ble_eq_true rfl)) dX10_init_611 (v := 8) (by decide) ?_
  refine c_newI hC ix_669 kd_669 (by decide) ln_669 (by decide +kernel) qa_int (by decide) (by decide) ⟨Nat.le_of_ble_eq_true rfl, Nat.le_of_ble_eq_true rfl⟩ dX10_init_613 ?_
  refine c_putR hC xc10 (by decide) hin rfl qp_X10_217 (x_stgk ix_600 (by decide) kd_600) dX10_init_615 ?_
  refine s_aload_n (hC.C 38 1377 (Nat.le_of_ble_eq_true rfl) (Nat.le_of_ble_eq_true rfl)) 0 dX10_init_618 rfl ?_
  refine s_bipush (hC.C 38 1377 (Nat.le_of_ble_eq_true rfl) (Nat.le_of_ble_eq_true rfl)) dX10_init_619 (v := 8) (by decide) ?_
  refine c_newI hC ix_670 kd_670 (by decide) ln_670 (by decide +kernel) qa_int (by decide) (by decide) ⟨Nat.le_of_ble_eq_true rfl, Nat.le_of_ble_eq_true rfl⟩ dX10_init_621 ?_
  refine c_putR hC xc10 (by decide) hin rfl qp_X10_220 (x_stgk ix_600 (by decide) kd_600) dX10_init_623 ?_
  refine s_aload_n (hC.C 39 1385 (Nat.le_of_ble_eq_true rfl) (Nat.le_of_ble_eq_true rfl)) 0 dX10_init_626 rfl ?_
  refine s_bipush (hC.C 39 1385 (Nat.le_of_ble_eq_true rfl) (Nat.le_of_ble_eq_true rfl)) dX10_init_627 (v := 8) (by decide) ?_
  refine c_newI hC ix_671 kd_671 (by decide) ln_671 (by decide +kernel) qa_int (by decide) (by decide) ⟨Nat.le_of_ble_eq_true rfl, Nat.le_of_ble_eq_true rfl⟩ dX10_init_629 ?_
  refine c_putR hC xc10 (by decide) hin rfl qp_X10_223 (x_stgk ix_600 (by decide) kd_600) dX10_init_631 ?_
  refine s_aload_n (hC.C 40 1393 (Nat.le_of_ble_eq_true rfl) (Nat.le_of_ble_eq_true rfl)) 0 dX10_init_634 rfl ?_
  refine s_iconst (hC.C 40 1393 (Nat.le_of_ble_eq_true rfl) (Nat.le_of_ble_eq_true rfl)) dX10_init_635 (v := 0) (by decide) ?_
  refine c_putI hC xc10 (by decide) hin rfl qp_X10_226 (x_stgk ix_600 (by decide) kd_600) dX10_init_636 ?_
  refine s_aload_n (hC.C 40 1393 (Nat.le_of_ble_eq_true rfl) (Nat.le_of_ble_eq_true rfl)) 0 dX10_init_639 rfl ?_
  refine s_bipush (hC.C 40 1393 (Nat.le_of_ble_eq_true rfl) (Nat.le_of_ble_eq_true rfl)) dX10_init_640 (v := 20) (by decide) ?_
  refine c_newI hC ix_673 kd_673 (by decide) ln_673 (by decide +kernel) qa_int (by decide) (by decide) ⟨Nat.le_of_ble_eq_true rfl, Nat.le_of_ble_eq_true rfl⟩ dX10_init_642 ?_
  refine c_putR hC xc10 (by decide) hin rfl qp_X10_229 (x_stgk ix_600 (by decide) kd_600) dX10_init_644 ?_
  refine s_aload_n (hC.C 41 1413 (Nat.le_of_ble_eq_true rfl) (Nat.le_of_ble_eq_true rfl)) 0 dX10_init_647 rfl ?_
  refine s_bipush (hC.C 41 1413 (Nat.le_of_ble_eq_true rfl) (Nat.le_of_ble_eq_true rfl)) dX10_init_648 (v := 6) (by decide) ?_
  refine c_newI hC ix_674 kd_674 (by decide) ln_674 (by decide +kernel) qa_int (by decide) (by decide) ⟨Nat.le_of_ble_eq_true rfl, Nat.le_of_ble_eq_true rfl⟩ dX10_init_650 ?_
  refine s_dupR (hC.C 42 1419 (Nat.le_of_ble_eq_true rfl) (Nat.le_of_ble_eq_true rfl)) dX10_init_652 ?_
  refine s_iconst (hC.C 42 1419 (Nat.le_of_ble_eq_true rfl) (Nat.le_of_ble_eq_true rfl)) dX10_init_653 (v := 0) (by decide) ?_
  refine s_iconst (hC.C 42 1419 (Nat.le_of_ble_eq_true rfl) (Nat.le_of_ble_eq_true rfl)) dX10_init_654 (v := -1) (by decide) ?_
  refine c_iast hC (x_stgk ix_674 (by decide) kd_674) (by rw [show x_ln (XR ad D cA) 674 = 6 from ln_674]; decide) dX10_init_655 ?_
  refine s_dupR (hC.C 42 1419 (Nat.le_of_ble_eq_true rfl) (Nat.le_of_ble_eq_true rfl)) dX10_init_656 ?_
  refine s_iconst (hC.C 42 1419 (Nat.le_of_ble_eq_true rfl) (Nat.le_of_ble_eq_true rfl)) dX10_init_657 (v := 1) (by decide) ?_
  refine s_iconst (hC.C 42 1419 (Nat.le_of_ble_eq_true rfl) (Nat.le_of_ble_eq_true rfl)) dX10_init_658 (v := -1) (by decide) ?_
  refine c_iast hC (x_stgk ix_674 (by decide) kd_674) (by rw [show x_ln (XR ad D cA) 674 = 6 from ln_674]; decide) dX10_init_659 ?_
  refine s_dupR (hC.C 42 1419 (Nat.le_of_ble_eq_true rfl) (Nat.le_of_ble_eq_true rfl)) dX10_init_660 ?_
  refine s_iconst (hC.C 42 1419 (Nat.le_of_ble_eq_true rfl) (Nat.le_of_ble_eq_true rfl)) dX10_init_661 (v := 2) (by decide) ?_
  refine s_iconst (hC.C 42 1419 (Nat.le_of_ble_eq_true rfl) (Nat.le_of_ble_eq_true rfl)) dX10_init_662 (v := -1) (by decide) ?_
  refine c_iast hC (x_stgk ix_674 (by decide) kd_674) (by rw [show x_ln (XR ad D cA) 674 = 6 from ln_674]; decide) dX10_init_663 ?_
  refine s_dupR (hC.C 42 1419 (Nat.le_of_ble_eq_true rfl) (Nat.le_of_ble_eq_true rfl)) dX10_init_664 ?_
  refine s_iconst (hC.C 42 1419 (Nat.le_of_ble_eq_true rfl) (Nat.le_of_ble_eq_true rfl)) dX10_init_665 (v := 3) (by decide) ?_
  refine s_iconst (hC.C 42 1419 (Nat.le_of_ble_eq_true rfl) (Nat.le_of_ble_eq_true rfl)) dX10_init_666 (v := -1) (by decide) ?_
  refine c_iast hC (x_stgk ix_674 (by decide) kd_674) (by rw [show x_ln (XR ad D cA) 674 = 6 from ln_674]; decide) dX10_init_667 ?_
  refine s_dupR (hC.C 42 1419 (Nat.le_of_ble_eq_true rfl) (Nat.le_of_ble_eq_true rfl)) dX10_init_668 ?_
  refine s_iconst (hC.C 42 1419 (Nat.le_of_ble_eq_true rfl) (Nat.le_of_ble_eq_true rfl)) dX10_init_669 (v := 4) (by decide) ?_
  refine s_iconst (hC.C 42 1419 (Nat.le_of_ble_eq_true rfl) (Nat.le_of_ble_eq_true rfl)) dX10_init_670 (v := -1) (by decide) ?_
  refine c_iast hC (x_stgk ix_674 (by decide) kd_674) (by rw [show x_ln (XR ad D cA) 674 = 6 from ln_674]; decide) dX10_init_671 ?_
  refine s_dupR (hC.C 42 1419 (Nat.le_of_ble_eq_true rfl) (Nat.le_of_ble_eq_true rfl)) dX10_init_672 ?_
  refine s_iconst (hC.C 42 1419 (Nat.le_of_ble_eq_true rfl) (Nat.le_of_ble_eq_true rfl)) dX10_init_673 (v := 5) (by decide) ?_
  refine s_iconst (hC.C 42 1419 (Nat.le_of_ble_eq_true rfl) (Nat.le_of_ble_eq_true rfl)) dX10_init_674 (v := -1) (by decide) ?_
  refine c_iast hC (x_stgk ix_674 (by decide) kd_674) (by rw [show x_ln (XR ad D cA) 674 = 6 from ln_674]; decide) dX10_init_675 ?_
  refine c_putR hC xc10 (by decide) hin rfl qp_X10_232 (x_stgk ix_600 (by decide) kd_600) dX10_init_676 ?_
  refine s_aload_n (hC.C 42 1419 (Nat.le_of_ble_eq_true rfl) (Nat.le_of_ble_eq_true rfl)) 0 dX10_init_679 rfl ?_
  refine s_bipush (hC.C 42 1419 (Nat.le_of_ble_eq_true rfl) (Nat.le_of_ble_eq_true rfl)) dX10_init_680 (v := 6) (by decide) ?_
  refine c_newI hC ix_675 kd_675 (by decide) ln_675 (by decide +kernel) qa_int (by decide) (by decide) ⟨Nat.le_of_ble_eq_true rfl, Nat.le_of_ble_eq_true rfl⟩ dX10_init_682 ?_
  refine c_putR hC xc10 (by decide) hin rfl qp_X10_235 (x_stgk ix_600 (by decide) kd_600) dX10_init_684 ?_
  refine s_aload_n (hC.C 43 1425 (Nat.le_of_ble_eq_true rfl) (Nat.le_of_ble_eq_true rfl)) 0 dX10_init_687 rfl ?_
  refine s_sipush (hC.C 43 1425 (Nat.le_of_ble_eq_true rfl) (Nat.le_of_ble_eq_true rfl)) dX10_init_688 (v := 360) (by decide) ?_
  refine c_newJ hC ix_676 kd_676 (by decide) ln_676 (by decide +kernel) qa_long (by decide) (by decide) ⟨Nat.le_of_ble_eq_true rfl, Nat.le_of_ble_eq_true rfl⟩ dX10_init_691 ?_
  refine c_putR hC xc10 (by decide) hin rfl qp_X10_238 (x_stgk ix_600 (by decide) kd_600) dX10_init_693 ?_
  refine s_aload_n (hC.C 44 1785 (Nat.le_of_ble_eq_true rfl) (Nat.le_of_ble_eq_true rfl)) 0 dX10_init_696 rfl ?_
  refine s_bipush (hC.C 44 1785 (Nat.le_of_ble_eq_true rfl) (Nat.le_of_ble_eq_true rfl)) dX10_init_697 (v := 60) (by decide) ?_
  refine c_newJ hC ix_677 kd_677 (by decide) ln_677 (by decide +kernel) qa_long (by decide) (by decide) ⟨Nat.le_of_ble_eq_true rfl, Nat.le_of_ble_eq_true rfl⟩ dX10_init_699 ?_
  refine c_putR hC xc10 (by decide) hin rfl qp_X10_242 (x_stgk ix_600 (by decide) kd_600) dX10_init_701 ?_
  exact c_ret hC hr hlk dX10_init_704
