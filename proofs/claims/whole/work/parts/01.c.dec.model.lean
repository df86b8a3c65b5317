theorem dX12_init_0 : decode cX12_init 0 = .ok (.aload_n 0, 1) := by decide +kernel
theorem dX12_init_1 : decode cX12_init 1 = .ok (.invokespecial 1, 3) := by decide +kernel
theorem dX12_init_4 : decode cX12_init 4 = .ok (.aload_n 0, 1) := by decide +kernel
theorem dX12_init_5 : decode cX12_init 5 = .ok (.bipush 10, 2) := by decide +kernel
theorem dX12_init_7 : decode cX12_init 7 = .ok (.putfield 7, 3) := by decide +kernel
theorem dX12_init_10 : decode cX12_init 10 = .ok (.aload_n 0, 1) := by decide +kernel
theorem dX12_init_11 : decode cX12_init 11 = .ok (.iconst 1, 1) := by decide +kernel
theorem dX12_init_12 : decode cX12_init 12 = .ok (.putfield 13, 3) := by decide +kernel
theorem dX12_init_15 : decode cX12_init 15 = .ok (.aload_n 0, 1) := by decide +kernel
theorem dX12_init_16 : decode cX12_init 16 = .ok (.iconst (-1), 1) := by decide +kernel
theorem dX12_init_17 : decode cX12_init 17 = .ok (.putfield 16, 3) := by decide +kernel
theorem dX12_init_20 : decode cX12_init 20 = .ok (.aload_n 0, 1) := by decide +kernel
theorem dX12_init_21 : decode cX12_init 21 = .ok (.bipush 8, 2) := by decide +kernel
theorem dX12_init_23 : decode cX12_init 23 = .ok (.newarray .int, 2) := by decide +kernel
theorem dX12_init_25 : decode cX12_init 25 = .ok (.putfield 19, 3) := by decide +kernel
theorem dX12_init_28 : decode cX12_init 28 = .ok (.aload_n 0, 1) := by decide +kernel
theorem dX12_init_29 : decode cX12_init 29 = .ok (.bipush 6, 2) := by decide +kernel
theorem dX12_init_31 : decode cX12_init 31 = .ok (.newarray .int, 2) := by decide +kernel
theorem dX12_init_33 : decode cX12_init 33 = .ok (.putfield 23, 3) := by decide +kernel
theorem dX12_init_36 : decode cX12_init 36 = .ok (.aload_n 0, 1) := by decide +kernel
theorem dX12_init_37 : decode cX12_init 37 = .ok (.bipush 6, 2) := by decide +kernel
theorem dX12_init_39 : decode cX12_init 39 = .ok (.newarray .int, 2) := by decide +kernel
theorem dX12_init_41 : decode cX12_init 41 = .ok (.putfield 26, 3) := by decide +kernel
theorem dX12_init_44 : decode cX12_init 44 = .ok (.aload_n 0, 1) := by decide +kernel
theorem dX12_init_45 : decode cX12_init 45 = .ok (.bipush 60, 2) := by decide +kernel
theorem dX12_init_47 : decode cX12_init 47 = .ok (.newarray .int, 2) := by decide +kernel
theorem dX12_init_49 : decode cX12_init 49 = .ok (.putfield 29, 3) := by decide +kernel
theorem dX12_init_52 : decode cX12_init 52 = .ok (.aload_n 0, 1) := by decide +kernel
theorem dX12_init_53 : decode cX12_init 53 = .ok (.bipush 20, 2) := by decide +kernel
theorem dX12_init_55 : decode cX12_init 55 = .ok (.newarray .long, 2) := by decide +kernel
theorem dX12_init_57 : decode cX12_init 57 = .ok (.putfield 32, 3) := by decide +kernel
theorem dX12_init_60 : decode cX12_init 60 = .ok (.aload_n 0, 1) := by decide +kernel
theorem dX12_init_61 : decode cX12_init 61 = .ok (.bipush 8, 2) := by decide +kernel
theorem dX12_init_63 : decode cX12_init 63 = .ok (.newarray .int, 2) := by decide +kernel
theorem dX12_init_65 : decode cX12_init 65 = .ok (.putfield 36, 3) := by decide +kernel
theorem dX12_init_68 : decode cX12_init 68 = .ok (.aload_n 0, 1) := by decide +kernel
theorem dX12_init_69 : decode cX12_init 69 = .ok (.bipush 8, 2) := by decide +kernel
theorem dX12_init_71 : decode cX12_init 71 = .ok (.newarray .int, 2) := by decide +kernel
theorem dX12_init_73 : decode cX12_init 73 = .ok (.putfield 39, 3) := by decide +kernel
theorem dX12_init_76 : decode cX12_init 76 = .ok (.aload_n 0, 1) := by decide +kernel
theorem dX12_init_77 : decode cX12_init 77 = .ok (.bipush 8, 2) := by decide +kernel
theorem dX12_init_79 : decode cX12_init 79 = .ok (.newarray .int, 2) := by decide +kernel
theorem dX12_init_81 : decode cX12_init 81 = .ok (.putfield 42, 3) := by decide +kernel
theorem dX12_init_84 : decode cX12_init 84 = .ok (.aload_n 0, 1) := by decide +kernel
theorem dX12_init_85 : decode cX12_init 85 = .ok (.bipush 8, 2) := by decide +kernel
theorem dX12_init_87 : decode cX12_init 87 = .ok (.newarray .int, 2) := by decide +kernel
theorem dX12_init_89 : decode cX12_init 89 = .ok (.putfield 45, 3) := by decide +kernel
theorem dX12_init_92 : decode cX12_init 92 = .ok (.aload_n 0, 1) := by decide +kernel
theorem dX12_init_93 : decode cX12_init 93 = .ok (.sipush 1280, 3) := by decide +kernel
theorem dX12_init_96 : decode cX12_init 96 = .ok (.newarray .long, 2) := by decide +kernel
theorem dX12_init_98 : decode cX12_init 98 = .ok (.putfield 48, 3) := by decide +kernel
theorem dX12_init_101 : decode cX12_init 101 = .ok (.aload_n 0, 1) := by decide +kernel
theorem dX12_init_102 : decode cX12_init 102 = .ok (.sipush 160, 3) := by decide +kernel
theorem dX12_init_105 : decode cX12_init 105 = .ok (.newarray .long, 2) := by decide +kernel
theorem dX12_init_107 : decode cX12_init 107 = .ok (.putfield 51, 3) := by decide +kernel
theorem dX12_init_110 : decode cX12_init 110 = .ok (.aload_n 0, 1) := by decide +kernel
theorem dX12_init_111 : decode cX12_init 111 = .ok (.bipush 29, 2) := by decide +kernel
theorem dX12_init_113 : decode cX12_init 113 = .ok (.newarray .int, 2) := by decide +kernel
theorem dX12_init_115 : decode cX12_init 115 = .ok (.dup, 1) := by decide +kernel
theorem dX12_init_116 : decode cX12_init 116 = .ok (.iconst 0, 1) := by decide +kernel
theorem dX12_init_117 : decode cX12_init 117 = .ok (.bipush 98, 2) := by decide +kernel
theorem dX12_init_119 : decode cX12_init 119 = .ok (.iastore, 1) := by decide +kernel
theorem dX12_init_120 : decode cX12_init 120 = .ok (.dup, 1) := by decide +kernel
theorem dX12_init_121 : decode cX12_init 121 = .ok (.iconst 1, 1) := by decide +kernel
theorem dX12_init_122 : decode cX12_init 122 = .ok (.bipush 97, 2) := by decide +kernel
theorem dX12_init_124 : decode cX12_init 124 = .ok (.iastore, 1) := by decide +kernel
theorem dX12_init_125 : decode cX12_init 125 = .ok (.dup, 1) := by decide +kernel
theorem dX12_init_126 : decode cX12_init 126 = .ok (.iconst 2, 1) := by decide +kernel
theorem dX12_init_127 : decode cX12_init 127 = .ok (.bipush 115, 2) := by decide +kernel
theorem dX12_init_129 : decode cX12_init 129 = .ok (.iastore, 1) := by decide +kernel
theorem dX12_init_130 : decode cX12_init 130 = .ok (.dup, 1) := by decide +kernel
theorem dX12_init_131 : decode cX12_init 131 = .ok (.iconst 3, 1) := by decide +kernel
theorem dX12_init_132 : decode cX12_init 132 = .ok (.bipush 101, 2) := by decide +kernel
theorem dX12_init_134 : decode cX12_init 134 = .ok (.iastore, 1) := by decide +kernel
theorem dX12_init_135 : decode cX12_init 135 = .ok (.dup, 1) := by decide +kernel
theorem dX12_init_136 : decode cX12_init 136 = .ok (.iconst 4, 1) := by decide +kernel
theorem dX12_init_137 : decode cX12_init 137 = .ok (.bipush 32, 2) := by decide +kernel
theorem dX12_init_139 : decode cX12_init 139 = .ok (.iastore, 1) := by decide +kernel
theorem dX12_init_140 : decode cX12_init 140 = .ok (.dup, 1) := by decide +kernel
theorem dX12_init_141 : decode cX12_init 141 = .ok (.iconst 5, 1) := by decide +kernel
theorem dX12_init_142 : decode cX12_init 142 = .ok (.iconst 0, 1) := by decide +kernel
theorem dX12_init_143 : decode cX12_init 143 = .ok (.iastore, 1) := by decide +kernel
theorem dX12_init_144 : decode cX12_init 144 = .ok (.dup, 1) := by decide +kernel
theorem dX12_init_145 : decode cX12_init 145 = .ok (.bipush 6, 2) := by decide +kernel
theorem dX12_init_147 : decode cX12_init 147 = .ok (.bipush 108, 2) := by decide +kernel
theorem dX12_init_149 : decode cX12_init 149 = .ok (.iastore, 1) := by decide +kernel
theorem dX12_init_150 : decode cX12_init 150 = .ok (.dup, 1) := by decide +kernel
theorem dX12_init_151 : decode cX12_init 151 = .ok (.bipush 7, 2) := by decide +kernel
theorem dX12_init_153 : decode cX12_init 153 = .ok (.bipush 97, 2) := by decide +kernel
theorem dX12_init_155 : decode cX12_init 155 = .ok (.iastore, 1) := by decide +kernel
theorem dX12_init_156 : decode cX12_init 156 = .ok (.dup, 1) := by decide +kernel
theorem dX12_init_157 : decode cX12_init 157 = .ok (.bipush 8, 2) := by decide +kernel
theorem dX12_init_159 : decode cX12_init 159 = .ok (.bipush 119, 2) := by decide +kernel
theorem dX12_init_161 : decode cX12_init 161 = .ok (.iastore, 1) := by decide +kernel
theorem dX12_init_162 : decode cX12_init 162 = .ok (.dup, 1) := by decide +kernel
theorem dX12_init_163 : decode cX12_init 163 = .ok (.bipush 9, 2) := by decide +kernel
theorem dX12_init_165 : decode cX12_init 165 = .ok (.bipush 32, 2) := by decide +kernel
theorem dX12_init_167 : decode cX12_init 167 = .ok (.iastore, 1) := by decide +kernel
theorem dX12_init_168 : decode cX12_init 168 = .ok (.dup, 1) := by decide +kernel
theorem dX12_init_169 : decode cX12_init 169 = .ok (.bipush 10, 2) := by decide +kernel
theorem dX12_init_171 : decode cX12_init 171 = .ok (.iconst 0, 1) := by decide +kernel
theorem dX12_init_172 : decode cX12_init 172 = .ok (.iastore, 1) := by decide +kernel
theorem dX12_init_173 : decode cX12_init 173 = .ok (.dup, 1) := by decide +kernel
theorem dX12_init_174 : decode cX12_init 174 = .ok (.bipush 11, 2) := by decide +kernel
theorem dX12_init_176 : decode cX12_init 176 = .ok (.bipush 118, 2) := by decide +kernel
theorem dX12_init_178 : decode cX12_init 178 = .ok (.iastore, 1) := by decide +kernel
theorem dX12_init_179 : decode cX12_init 179 = .ok (.dup, 1) := by decide +kernel
theorem dX12_init_180 : decode cX12_init 180 = .ok (.bipush 12, 2) := by decide +kernel
theorem dX12_init_182 : decode cX12_init 182 = .ok (.bipush 97, 2) := by decide +kernel
theorem dX12_init_184 : decode cX12_init 184 = .ok (.iastore, 1) := by decide +kernel
theorem dX12_init_185 : decode cX12_init 185 = .ok (.dup, 1) := by decide +kernel
theorem dX12_init_186 : decode cX12_init 186 = .ok (.bipush 13, 2) := by decide +kernel
theorem dX12_init_188 : decode cX12_init 188 = .ok (.bipush 108, 2) := by decide +kernel
theorem dX12_init_190 : decode cX12_init 190 = .ok (.iastore, 1) := by decide +kernel
theorem dX12_init_191 : decode cX12_init 191 = .ok (.dup, 1) := by decide +kernel
theorem dX12_init_192 : decode cX12_init 192 = .ok (.bipush 14, 2) := by decide +kernel
theorem dX12_init_194 : decode cX12_init 194 = .ok (.bipush 117, 2) := by decide +kernel
theorem dX12_init_196 : decode cX12_init 196 = .ok (.iastore, 1) := by decide +kernel
theorem dX12_init_197 : decode cX12_init 197 = .ok (.dup, 1) := by decide +kernel
theorem dX12_init_198 : decode cX12_init 198 = .ok (.bipush 15, 2) := by decide +kernel
theorem dX12_init_200 : decode cX12_init 200 = .ok (.bipush 101, 2) := by decide +kernel
theorem dX12_init_202 : decode cX12_init 202 = .ok (.iastore, 1) := by decide +kernel
theorem dX12_init_203 : decode cX12_init 203 = .ok (.dup, 1) := by decide +kernel
theorem dX12_init_204 : decode cX12_init 204 = .ok (.bipush 16, 2) := by decide +kernel
theorem dX12_init_206 : decode cX12_init 206 = .ok (.bipush 32, 2) := by decide +kernel
theorem dX12_init_208 : decode cX12_init 208 = .ok (.iastore, 1) := by decide +kernel
theorem dX12_init_209 : decode cX12_init 209 = .ok (.dup, 1) := by decide +kernel
theorem dX12_init_210 : decode cX12_init 210 = .ok (.bipush 17, 2) := by decide +kernel
theorem dX12_init_212 : decode cX12_init 212 = .ok (.iconst 0, 1) := by decide +kernel
theorem dX12_init_213 : decode cX12_init 213 = .ok (.iastore, 1) := by decide +kernel
theorem dX12_init_214 : decode cX12_init 214 = .ok (.dup, 1) := by decide +kernel
theorem dX12_init_215 : decode cX12_init 215 = .ok (.bipush 18, 2) := by decide +kernel
theorem dX12_init_217 : decode cX12_init 217 = .ok (.bipush 119, 2) := by decide +kernel
theorem dX12_init_219 : decode cX12_init 219 = .ok (.iastore, 1) := by decide +kernel
theorem dX12_init_220 : decode cX12_init 220 = .ok (.dup, 1) := by decide +kernel
theorem dX12_init_221 : decode cX12_init 221 = .ok (.bipush 19, 2) := by decide +kernel
theorem dX12_init_223 : decode cX12_init 223 = .ok (.bipush 114, 2) := by decide +kernel
theorem dX12_init_225 : decode cX12_init 225 = .ok (.iastore, 1) := by decide +kernel
theorem dX12_init_226 : decode cX12_init 226 = .ok (.dup, 1) := by decide +kernel
theorem dX12_init_227 : decode cX12_init 227 = .ok (.bipush 20, 2) := by decide +kernel
theorem dX12_init_229 : decode cX12_init 229 = .ok (.bipush 105, 2) := by decide +kernel
theorem dX12_init_231 : decode cX12_init 231 = .ok (.iastore, 1) := by decide +kernel
theorem dX12_init_232 : decode cX12_init 232 = .ok (.dup, 1) := by decide +kernel
theorem dX12_init_233 : decode cX12_init 233 = .ok (.bipush 21, 2) := by decide +kernel
theorem dX12_init_235 : decode cX12_init 235 = .ok (.bipush 116, 2) := by decide +kernel
theorem dX12_init_237 : decode cX12_init 237 = .ok (.iastore, 1) := by decide +kernel
theorem dX12_init_238 : decode cX12_init 238 = .ok (.dup, 1) := by decide +kernel
theorem dX12_init_239 : decode cX12_init 239 = .ok (.bipush 22, 2) := by decide +kernel
theorem dX12_init_241 : decode cX12_init 241 = .ok (.bipush 101, 2) := by decide +kernel
theorem dX12_init_243 : decode cX12_init 243 = .ok (.iastore, 1) := by decide +kernel
theorem dX12_init_244 : decode cX12_init 244 = .ok (.dup, 1) := by decide +kernel
theorem dX12_init_245 : decode cX12_init 245 = .ok (.bipush 23, 2) := by decide +kernel
theorem dX12_init_247 : decode cX12_init 247 = .ok (.bipush 32, 2) := by decide +kernel
theorem dX12_init_249 : decode cX12_init 249 = .ok (.iastore, 1) := by decide +kernel
theorem dX12_init_250 : decode cX12_init 250 = .ok (.dup, 1) := by decide +kernel
theorem dX12_init_251 : decode cX12_init 251 = .ok (.bipush 24, 2) := by decide +kernel
theorem dX12_init_253 : decode cX12_init 253 = .ok (.iconst 0, 1) := by decide +kernel
theorem dX12_init_254 : decode cX12_init 254 = .ok (.iastore, 1) := by decide +kernel
theorem dX12_init_255 : decode cX12_init 255 = .ok (.dup, 1) := by decide +kernel
theorem dX12_init_256 : decode cX12_init 256 = .ok (.bipush 25, 2) := by decide +kernel
theorem dX12_init_258 : decode cX12_init 258 = .ok (.bipush 103, 2) := by decide +kernel
theorem dX12_init_260 : decode cX12_init 260 = .ok (.iastore, 1) := by decide +kernel
theorem dX12_init_261 : decode cX12_init 261 = .ok (.dup, 1) := by decide +kernel
theorem dX12_init_262 : decode cX12_init 262 = .ok (.bipush 26, 2) := by decide +kernel
theorem dX12_init_264 : decode cX12_init 264 = .ok (.bipush 111, 2) := by decide +kernel
theorem dX12_init_266 : decode cX12_init 266 = .ok (.iastore, 1) := by decide +kernel
theorem dX12_init_267 : decode cX12_init 267 = .ok (.dup, 1) := by decide +kernel
theorem dX12_init_268 : decode cX12_init 268 = .ok (.bipush 27, 2) := by decide +kernel
theorem dX12_init_270 : decode cX12_init 270 = .ok (.bipush 32, 2) := by decide +kernel
theorem dX12_init_272 : decode cX12_init 272 = .ok (.iastore, 1) := by decide +kernel
theorem dX12_init_273 : decode cX12_init 273 = .ok (.dup, 1) := by decide +kernel
theorem dX12_init_274 : decode cX12_init 274 = .ok (.bipush 28, 2) := by decide +kernel
theorem dX12_init_276 : decode cX12_init 276 = .ok (.iconst 0, 1) := by decide +kernel
theorem dX12_init_277 : decode cX12_init 277 = .ok (.iastore, 1) := by decide +kernel
theorem dX12_init_278 : decode cX12_init 278 = .ok (.putfield 54, 3) := by decide +kernel
theorem dX12_init_281 : decode cX12_init 281 = .ok (.aload_n 0, 1) := by decide +kernel
theorem dX12_init_282 : decode cX12_init 282 = .ok (.iconst 3, 1) := by decide +kernel
theorem dX12_init_283 : decode cX12_init 283 = .ok (.newarray .int, 2) := by decide +kernel
theorem dX12_init_285 : decode cX12_init 285 = .ok (.putfield 57, 3) := by decide +kernel
theorem dX12_init_288 : decode cX12_init 288 = .ok (.aload_n 0, 1) := by decide +kernel
theorem dX12_init_289 : decode cX12_init 289 = .ok (.bipush 80, 2) := by decide +kernel
theorem dX12_init_291 : decode cX12_init 291 = .ok (.newarray .int, 2) := by decide +kernel
theorem dX12_init_293 : decode cX12_init 293 = .ok (.putfield 60, 3) := by decide +kernel
theorem dX12_init_296 : decode cX12_init 296 = .ok (.aload_n 0, 1) := by decide +kernel
theorem dX12_init_297 : decode cX12_init 297 = .ok (.bipush 80, 2) := by decide +kernel
theorem dX12_init_299 : decode cX12_init 299 = .ok (.newarray .int, 2) := by decide +kernel
theorem dX12_init_301 : decode cX12_init 301 = .ok (.putfield 63, 3) := by decide +kernel
theorem dX12_init_304 : decode cX12_init 304 = .ok (.aload_n 0, 1) := by decide +kernel
theorem dX12_init_305 : decode cX12_init 305 = .ok (.bipush 20, 2) := by decide +kernel
theorem dX12_init_307 : decode cX12_init 307 = .ok (.newarray .long, 2) := by decide +kernel
theorem dX12_init_309 : decode cX12_init 309 = .ok (.putfield 66, 3) := by decide +kernel
theorem dX12_init_312 : decode cX12_init 312 = .ok (.aload_n 0, 1) := by decide +kernel
theorem dX12_init_313 : decode cX12_init 313 = .ok (.bipush 20, 2) := by decide +kernel
theorem dX12_init_315 : decode cX12_init 315 = .ok (.newarray .long, 2) := by decide +kernel
theorem dX12_init_317 : decode cX12_init 317 = .ok (.putfield 69, 3) := by decide +kernel
theorem dX12_init_320 : decode cX12_init 320 = .ok (.aload_n 0, 1) := by decide +kernel
theorem dX12_init_321 : decode cX12_init 321 = .ok (.bipush 64, 2) := by decide +kernel
theorem dX12_init_323 : decode cX12_init 323 = .ok (.newarray .int, 2) := by decide +kernel
theorem dX12_init_325 : decode cX12_init 325 = .ok (.putfield 72, 3) := by decide +kernel
theorem dX12_init_328 : decode cX12_init 328 = .ok (.aload_n 0, 1) := by decide +kernel
theorem dX12_init_329 : decode cX12_init 329 = .ok (.sipush 1001, 3) := by decide +kernel
theorem dX12_init_332 : decode cX12_init 332 = .ok (.newarray .long, 2) := by decide +kernel
theorem dX12_init_334 : decode cX12_init 334 = .ok (.putfield 75, 3) := by decide +kernel
theorem dX12_init_337 : decode cX12_init 337 = .ok (.aload_n 0, 1) := by decide +kernel
theorem dX12_init_338 : decode cX12_init 338 = .ok (.sipush 201, 3) := by decide +kernel
theorem dX12_init_341 : decode cX12_init 341 = .ok (.newarray .long, 2) := by decide +kernel
theorem dX12_init_343 : decode cX12_init 343 = .ok (.putfield 78, 3) := by decide +kernel
theorem dX12_init_346 : decode cX12_init 346 = .ok (.aload_n 0, 1) := by decide +kernel
theorem dX12_init_347 : decode cX12_init 347 = .ok (.sipush 10000, 3) := by decide +kernel
theorem dX12_init_350 : decode cX12_init 350 = .ok (.newarray .int, 2) := by decide +kernel
theorem dX12_init_352 : decode cX12_init 352 = .ok (.putfield 81, 3) := by decide +kernel
theorem dX12_init_355 : decode cX12_init 355 = .ok (.aload_n 0, 1) := by decide +kernel
theorem dX12_init_356 : decode cX12_init 356 = .ok (.sipush 500, 3) := by decide +kernel
theorem dX12_init_359 : decode cX12_init 359 = .ok (.newarray .long, 2) := by decide +kernel
theorem dX12_init_361 : decode cX12_init 361 = .ok (.putfield 84, 3) := by decide +kernel
theorem dX12_init_364 : decode cX12_init 364 = .ok (.aload_n 0, 1) := by decide +kernel
theorem dX12_init_365 : decode cX12_init 365 = .ok (.bipush 20, 2) := by decide +kernel
theorem dX12_init_367 : decode cX12_init 367 = .ok (.newarray .int, 2) := by decide +kernel
theorem dX12_init_369 : decode cX12_init 369 = .ok (.putfield 87, 3) := by decide +kernel
theorem dX12_init_372 : decode cX12_init 372 = .ok (.return_, 1) := by decide +kernel
theorem dX12_no_0 : decode cX12_no 0 = .ok (.aload_n 0, 1) := by decide +kernel
theorem dX12_no_1 : decode cX12_no 1 = .ok (.getfield 19, 3) := by decide +kernel
theorem dX12_no_4 : decode cX12_no 4 = .ok (.iload_n 1, 1) := by decide +kernel
theorem dX12_no_5 : decode cX12_no 5 = .ok (.ineg, 1) := by decide +kernel
theorem dX12_no_6 : decode cX12_no 6 = .ok (.dup2, 1) := by decide +kernel
theorem dX12_no_7 : decode cX12_no 7 = .ok (.iaload, 1) := by decide +kernel
theorem dX12_no_8 : decode cX12_no 8 = .ok (.iconst 1, 1) := by decide +kernel
theorem dX12_no_9 : decode cX12_no 9 = .ok (.iadd, 1) := by decide +kernel
theorem dX12_no_10 : decode cX12_no 10 = .ok (.iastore, 1) := by decide +kernel
theorem dX12_no_11 : decode cX12_no 11 = .ok (.iload_n 1, 1) := by decide +kernel
theorem dX12_no_12 : decode cX12_no 12 = .ok (.ireturn, 1) := by decide +kernel
theorem dX12_noTen_0 : decode cX12_noTen 0 = .ok (.aload_n 0, 1) := by decide +kernel
theorem dX12_noTen_1 : decode cX12_noTen 1 = .ok (.getfield 19, 3) := by decide +kernel
theorem dX12_noTen_4 : decode cX12_noTen 4 = .ok (.iload_n 1, 1) := by decide +kernel
theorem dX12_noTen_5 : decode cX12_noTen 5 = .ok (.ineg, 1) := by decide +kernel
theorem dX12_noTen_6 : decode cX12_noTen 6 = .ok (.dup2, 1) := by decide +kernel
theorem dX12_noTen_7 : decode cX12_noTen 7 = .ok (.iaload, 1) := by decide +kernel
theorem dX12_noTen_8 : decode cX12_noTen 8 = .ok (.iconst 1, 1) := by decide +kernel
theorem dX12_noTen_9 : decode cX12_noTen 9 = .ok (.iadd, 1) := by decide +kernel
theorem dX12_noTen_10 : decode cX12_noTen 10 = .ok (.iastore, 1) := by decide +kernel
theorem dX12_noTen_11 : decode cX12_noTen 11 = .ok (.iload_n 1, 1) := by decide +kernel
theorem dX12_noTen_12 : decode cX12_noTen 12 = .ok (.bipush 10, 2) := by decide +kernel
theorem dX12_noTen_14 : decode cX12_noTen 14 = .ok (.isub, 1) := by decide +kernel
theorem dX12_noTen_15 : decode cX12_noTen 15 = .ok (.ireturn, 1) := by decide +kernel
theorem dX12_isShelf_0 : decode cX12_isShelf 0 = .ok (.iload_n 1, 1) := by decide +kernel
theorem dX12_isShelf_1 : decode cX12_isShelf 1 = .ok (.ifCond .lt 13, 3) := by decide +kernel
theorem dX12_isShelf_4 : decode cX12_isShelf 4 = .ok (.iload_n 1, 1) := by decide +kernel
theorem dX12_isShelf_5 : decode cX12_isShelf 5 = .ok (.bipush 8, 2) := by decide +kernel
theorem dX12_isShelf_7 : decode cX12_isShelf 7 = .ok (.if_icmp .ge 7, 3) := by decide +kernel
theorem dX12_isShelf_10 : decode cX12_isShelf 10 = .ok (.iconst 1, 1) := by decide +kernel
theorem dX12_isShelf_11 : decode cX12_isShelf 11 = .ok (.goto 4, 3) := by decide +kernel
theorem dX12_isShelf_14 : decode cX12_isShelf 14 = .ok (.iconst 0, 1) := by decide +kernel
theorem dX12_isShelf_15 : decode cX12_isShelf 15 = .ok (.ireturn, 1) := by decide +kernel
theorem dX12_isLaw_0 : decode cX12_isLaw 0 = .ok (.iload_n 1, 1) := by decide +kernel
theorem dX12_isLaw_1 : decode cX12_isLaw 1 = .ok (.ifCond .lt 15, 3) := by decide +kernel
theorem dX12_isLaw_4 : decode cX12_isLaw 4 = .ok (.iload_n 1, 1) := by decide +kernel
theorem dX12_isLaw_5 : decode cX12_isLaw 5 = .ok (.aload_n 0, 1) := by decide +kernel
theorem dX12_isLaw_6 : decode cX12_isLaw 6 = .ok (.getfield 90, 3) := by decide +kernel
theorem dX12_isLaw_9 : decode cX12_isLaw 9 = .ok (.if_icmp .ge 7, 3) := by decide +kernel
theorem dX12_isLaw_12 : decode cX12_isLaw 12 = .ok (.iconst 1, 1) := by decide +kernel
theorem dX12_isLaw_13 : decode cX12_isLaw 13 = .ok (.goto 4, 3) := by decide +kernel
theorem dX12_isLaw_16 : decode cX12_isLaw 16 = .ok (.iconst 0, 1) := by decide +kernel
theorem dX12_isLaw_17 : decode cX12_isLaw 17 = .ok (.ireturn, 1) := by decide +kernel
theorem dX12_isNumber_0 : decode cX12_isNumber 0 = .ok (.lload_n 1, 1) := by decide +kernel
theorem dX12_isNumber_1 : decode cX12_isNumber 1 = .ok (.lconst 0, 1) := by decide +kernel
theorem dX12_isNumber_2 : decode cX12_isNumber 2 = .ok (.lcmp, 1) := by decide +kernel
theorem dX12_isNumber_3 : decode cX12_isNumber 3 = .ok (.ifCond .lt 15, 3) := by decide +kernel
theorem dX12_isNumber_6 : decode cX12_isNumber 6 = .ok (.lload_n 1, 1) := by decide +kernel
theorem dX12_isNumber_7 : decode cX12_isNumber 7 = .ok (.ldc2_w 93, 3) := by decide +kernel
theorem dX12_isNumber_10 : decode cX12_isNumber 10 = .ok (.lcmp, 1) := by decide +kernel
theorem dX12_isNumber_11 : decode cX12_isNumber 11 = .ok (.ifCond .gt 7, 3) := by decide +kernel
theorem dX12_isNumber_14 : decode cX12_isNumber 14 = .ok (.iconst 1, 1) := by decide +kernel
theorem dX12_isNumber_15 : decode cX12_isNumber 15 = .ok (.goto 4, 3) := by decide +kernel
theorem dX12_isNumber_18 : decode cX12_isNumber 18 = .ok (.iconst 0, 1) := by decide +kernel
theorem dX12_isNumber_19 : decode cX12_isNumber 19 = .ok (.ireturn, 1) := by decide +kernel
theorem dX12_row_0 : decode cX12_row 0 = .ok (.aload_n 0, 1) := by decide +kernel
theorem dX12_row_1 : decode cX12_row 1 = .ok (.iload_n 1, 1) := by decide +kernel
theorem dX12_row_2 : decode cX12_row 2 = .ok (.invokevirtual 95, 3) := by decide +kernel
theorem dX12_row_5 : decode cX12_row 5 = .ok (.ifCond .ne 9, 3) := by decide +kernel
theorem dX12_row_8 : decode cX12_row 8 = .ok (.aload_n 0, 1) := by decide +kernel
theorem dX12_row_9 : decode cX12_row 9 = .ok (.iconst (-1), 1) := by decide +kernel
theorem dX12_row_10 : decode cX12_row 10 = .ok (.invokevirtual 99, 3) := by decide +kernel
theorem dX12_row_13 : decode cX12_row 13 = .ok (.ireturn, 1) := by decide +kernel
theorem dX12_row_14 : decode cX12_row 14 = .ok (.iload_n 3, 1) := by decide +kernel
theorem dX12_row_15 : decode cX12_row 15 = .ok (.ifCond .ge 10, 3) := by decide +kernel
theorem dX12_row_18 : decode cX12_row 18 = .ok (.aload_n 0, 1) := by decide +kernel
theorem dX12_row_19 : decode cX12_row 19 = .ok (.bipush (-4), 2) := by decide +kernel
theorem dX12_row_21 : decode cX12_row 21 = .ok (.invokevirtual 99, 3) := by decide +kernel
theorem dX12_row_24 : decode cX12_row 24 = .ok (.ireturn, 1) := by decide +kernel
theorem dX12_row_25 : decode cX12_row 25 = .ok (.iload_n 2, 1) := by decide +kernel
theorem dX12_row_26 : decode cX12_row 26 = .ok (.ifCond .lt 8, 3) := by decide +kernel
theorem dX12_row_29 : decode cX12_row 29 = .ok (.iload_n 2, 1) := by decide +kernel
theorem dX12_row_30 : decode cX12_row 30 = .ok (.iconst 3, 1) := by decide +kernel
theorem dX12_row_31 : decode cX12_row 31 = .ok (.if_icmp .le 10, 3) := by decide +kernel
theorem dX12_row_34 : decode cX12_row 34 = .ok (.aload_n 0, 1) := by decide +kernel
theorem dX12_row_35 : decode cX12_row 35 = .ok (.bipush (-6), 2) := by decide +kernel
theorem dX12_row_37 : decode cX12_row 37 = .ok (.invokevirtual 99, 3) := by decide +kernel
theorem dX12_row_40 : decode cX12_row 40 = .ok (.ireturn, 1) := by decide +kernel
theorem dX12_row_41 : decode cX12_row 41 = .ok (.iload_n 3, 1) := by decide +kernel
theorem dX12_row_42 : decode cX12_row 42 = .ok (.sipush 160, 3) := by decide +kernel
theorem dX12_row_45 : decode cX12_row 45 = .ok (.if_icmp .le 10, 3) := by decide +kernel
theorem dX12_row_48 : decode cX12_row 48 = .ok (.aload_n 0, 1) := by decide +kernel
theorem dX12_row_49 : decode cX12_row 49 = .ok (.bipush (-7), 2) := by decide +kernel
theorem dX12_row_51 : decode cX12_row 51 = .ok (.invokevirtual 99, 3) := by decide +kernel
theorem dX12_row_54 : decode cX12_row 54 = .ok (.ireturn, 1) := by decide +kernel
theorem dX12_row_55 : decode cX12_row 55 = .ok (.aload_n 0, 1) := by decide +kernel
theorem dX12_row_56 : decode cX12_row 56 = .ok (.getfield 36, 3) := by decide +kernel
theorem dX12_row_59 : decode cX12_row 59 = .ok (.iload_n 1, 1) := by decide +kernel
theorem dX12_row_60 : decode cX12_row 60 = .ok (.iconst 1, 1) := by decide +kernel
theorem dX12_row_61 : decode cX12_row 61 = .ok (.iastore, 1) := by decide +kernel
theorem dX12_row_62 : decode cX12_row 62 = .ok (.aload_n 0, 1) := by decide +kernel
theorem dX12_row_63 : decode cX12_row 63 = .ok (.getfield 39, 3) := by decide +kernel
theorem dX12_row_66 : decode cX12_row 66 = .ok (.iload_n 1, 1) := by decide +kernel
theorem dX12_row_67 : decode cX12_row 67 = .ok (.iload_n 2, 1) := by decide +kernel
theorem dX12_row_68 : decode cX12_row 68 = .ok (.iastore, 1) := by decide +kernel
theorem dX12_row_69 : decode cX12_row 69 = .ok (.aload_n 0, 1) := by decide +kernel
theorem dX12_row_70 : decode cX12_row 70 = .ok (.getfield 42, 3) := by decide +kernel
theorem dX12_row_73 : decode cX12_row 73 = .ok (.iload_n 1, 1) := by decide +kernel
theorem dX12_row_74 : decode cX12_row 74 = .ok (.iload_n 3, 1) := by decide +kernel
theorem dX12_row_75 : decode cX12_row 75 = .ok (.iastore, 1) := by decide +kernel
theorem dX12_row_76 : decode cX12_row 76 = .ok (.iconst 0, 1) := by decide +kernel
theorem dX12_row_77 : decode cX12_row 77 = .ok (.istore 4, 2) := by decide +kernel
theorem dX12_row_79 : decode cX12_row 79 = .ok (.iload 4, 2) := by decide +kernel
theorem dX12_row_81 : decode cX12_row 81 = .ok (.sipush 160, 3) := by decide +kernel
theorem dX12_row_84 : decode cX12_row 84 = .ok (.if_icmp .ge 23, 3) := by decide +kernel
theorem dX12_row_87 : decode cX12_row 87 = .ok (.aload_n 0, 1) := by decide +kernel
theorem dX12_row_88 : decode cX12_row 88 = .ok (.getfield 48, 3) := by decide +kernel
theorem dX12_row_91 : decode cX12_row 91 = .ok (.sipush 160, 3) := by decide +kernel
theorem dX12_row_94 : decode cX12_row 94 = .ok (.iload_n 1, 1) := by decide +kernel
theorem dX12_row_95 : decode cX12_row 95 = .ok (.imul, 1) := by decide +kernel
theorem dX12_row_96 : decode cX12_row 96 = .ok (.iload 4, 2) := by decide +kernel
theorem dX12_row_98 : decode cX12_row 98 = .ok (.iadd, 1) := by decide +kernel
theorem dX12_row_99 : decode cX12_row 99 = .ok (.lconst 0, 1) := by decide +kernel
theorem dX12_row_100 : decode cX12_row 100 = .ok (.lastore, 1) := by decide +kernel
theorem dX12_row_101 : decode cX12_row 101 = .ok (.iinc 4 1, 3) := by decide +kernel
theorem dX12_row_104 : decode cX12_row 104 = .ok (.goto (-25), 3) := by decide +kernel
theorem dX12_row_107 : decode cX12_row 107 = .ok (.iconst 1, 1) := by decide +kernel
theorem dX12_row_108 : decode cX12_row 108 = .ok (.ireturn, 1) := by decide +kernel
theorem dX12_set_0 : decode cX12_set 0 = .ok (.aload_n 0, 1) := by decide +kernel
theorem dX12_set_1 : decode cX12_set 1 = .ok (.iload_n 1, 1) := by decide +kernel
theorem dX12_set_2 : decode cX12_set 2 = .ok (.invokevirtual 95, 3) := by decide +kernel
theorem dX12_set_5 : decode cX12_set 5 = .ok (.ifCond .ne 9, 3) := by decide +kernel
theorem dX12_set_8 : decode cX12_set 8 = .ok (.aload_n 0, 1) := by decide +kernel
theorem dX12_set_9 : decode cX12_set 9 = .ok (.iconst (-1), 1) := by decide +kernel
theorem dX12_set_10 : decode cX12_set 10 = .ok (.invokevirtual 99, 3) := by decide +kernel
theorem dX12_set_13 : decode cX12_set 13 = .ok (.ireturn, 1) := by decide +kernel
theorem dX12_set_14 : decode cX12_set 14 = .ok (.aload_n 0, 1) := by decide +kernel
theorem dX12_set_15 : decode cX12_set 15 = .ok (.getfield 36, 3) := by decide +kernel
theorem dX12_set_18 : decode cX12_set 18 = .ok (.iload_n 1, 1) := by decide +kernel
theorem dX12_set_19 : decode cX12_set 19 = .ok (.iaload, 1) := by decide +kernel
theorem dX12_set_20 : decode cX12_set 20 = .ok (.iconst 2, 1) := by decide +kernel
theorem dX12_set_21 : decode cX12_set 21 = .ok (.if_icmp .ne 10, 3) := by decide +kernel
theorem dX12_set_24 : decode cX12_set 24 = .ok (.aload_n 0, 1) := by decide +kernel
theorem dX12_set_25 : decode cX12_set 25 = .ok (.bipush (-2), 2) := by decide +kernel
theorem dX12_set_27 : decode cX12_set 27 = .ok (.invokevirtual 99, 3) := by decide +kernel
theorem dX12_set_30 : decode cX12_set 30 = .ok (.ireturn, 1) := by decide +kernel
theorem dX12_set_31 : decode cX12_set 31 = .ok (.aload_n 0, 1) := by decide +kernel
theorem dX12_set_32 : decode cX12_set 32 = .ok (.getfield 36, 3) := by decide +kernel
theorem dX12_set_35 : decode cX12_set 35 = .ok (.iload_n 1, 1) := by decide +kernel
theorem dX12_set_36 : decode cX12_set 36 = .ok (.iaload, 1) := by decide +kernel
theorem dX12_set_37 : decode cX12_set 37 = .ok (.ifCond .ne 10, 3) := by decide +kernel
theorem dX12_set_40 : decode cX12_set 40 = .ok (.aload_n 0, 1) := by decide +kernel
theorem dX12_set_41 : decode cX12_set 41 = .ok (.bipush (-3), 2) := by decide +kernel
theorem dX12_set_43 : decode cX12_set 43 = .ok (.invokevirtual 99, 3) := by decide +kernel
theorem dX12_set_46 : decode cX12_set 46 = .ok (.ireturn, 1) := by decide +kernel
theorem dX12_set_47 : decode cX12_set 47 = .ok (.iload_n 2, 1) := by decide +kernel
theorem dX12_set_48 : decode cX12_set 48 = .ok (.ifCond .lt 13, 3) := by decide +kernel
theorem dX12_set_51 : decode cX12_set 51 = .ok (.iload_n 2, 1) := by decide +kernel
theorem dX12_set_52 : decode cX12_set 52 = .ok (.aload_n 0, 1) := by decide +kernel
theorem dX12_set_53 : decode cX12_set 53 = .ok (.getfield 42, 3) := by decide +kernel
theorem dX12_set_56 : decode cX12_set 56 = .ok (.iload_n 1, 1) := by decide +kernel
theorem dX12_set_57 : decode cX12_set 57 = .ok (.iaload, 1) := by decide +kernel
theorem dX12_set_58 : decode cX12_set 58 = .ok (.if_icmp .lt 10, 3) := by decide +kernel
theorem dX12_set_61 : decode cX12_set 61 = .ok (.aload_n 0, 1) := by decide +kernel
theorem dX12_set_62 : decode cX12_set 62 = .ok (.bipush (-5), 2) := by decide +kernel
theorem dX12_set_64 : decode cX12_set 64 = .ok (.invokevirtual 99, 3) := by decide +kernel
theorem dX12_set_67 : decode cX12_set 67 = .ok (.ireturn, 1) := by decide +kernel
theorem dX12_set_68 : decode cX12_set 68 = .ok (.aload_n 0, 1) := by decide +kernel
theorem dX12_set_69 : decode cX12_set 69 = .ok (.getfield 48, 3) := by decide +kernel
theorem dX12_set_72 : decode cX12_set 72 = .ok (.sipush 160, 3) := by decide +kernel
theorem dX12_set_75 : decode cX12_set 75 = .ok (.iload_n 1, 1) := by decide +kernel
theorem dX12_set_76 : decode cX12_set 76 = .ok (.imul, 1) := by decide +kernel
theorem dX12_set_77 : decode cX12_set 77 = .ok (.iload_n 2, 1) := by decide +kernel
theorem dX12_set_78 : decode cX12_set 78 = .ok (.iadd, 1) := by decide +kernel
theorem dX12_set_79 : decode cX12_set 79 = .ok (.aload_n 0, 1) := by decide +kernel
theorem dX12_set_80 : decode cX12_set 80 = .ok (.getfield 39, 3) := by decide +kernel
theorem dX12_set_83 : decode cX12_set 83 = .ok (.iload_n 1, 1) := by decide +kernel
theorem dX12_set_84 : decode cX12_set 84 = .ok (.iaload, 1) := by decide +kernel
theorem dX12_set_85 : decode cX12_set 85 = .ok (.ifCond .ne 10, 3) := by decide +kernel
theorem dX12_set_88 : decode cX12_set 88 = .ok (.lload_n 3, 1) := by decide +kernel
theorem dX12_set_89 : decode cX12_set 89 = .ok (.l2i, 1) := by decide +kernel
theorem dX12_set_90 : decode cX12_set 90 = .ok (.i2b, 1) := by decide +kernel
theorem dX12_set_91 : decode cX12_set 91 = .ok (.i2l, 1) := by decide +kernel
theorem dX12_set_92 : decode cX12_set 92 = .ok (.goto 37, 3) := by decide +kernel
theorem dX12_set_95 : decode cX12_set 95 = .ok (.aload_n 0, 1) := by decide +kernel
theorem dX12_set_96 : decode cX12_set 96 = .ok (.getfield 39, 3) := by decide +kernel
theorem dX12_set_99 : decode cX12_set 99 = .ok (.iload_n 1, 1) := by decide +kernel
theorem dX12_set_100 : decode cX12_set 100 = .ok (.iaload, 1) := by decide +kernel
theorem dX12_set_101 : decode cX12_set 101 = .ok (.iconst 1, 1) := by decide +kernel
theorem dX12_set_102 : decode cX12_set 102 = .ok (.if_icmp .ne 10, 3) := by decide +kernel
theorem dX12_set_105 : decode cX12_set 105 = .ok (.lload_n 3, 1) := by decide +kernel
theorem dX12_set_106 : decode cX12_set 106 = .ok (.l2i, 1) := by decide +kernel
theorem dX12_set_107 : decode cX12_set 107 = .ok (.i2s, 1) := by decide +kernel
theorem dX12_set_108 : decode cX12_set 108 = .ok (.i2l, 1) := by decide +kernel
theorem dX12_set_109 : decode cX12_set 109 = .ok (.goto 20, 3) := by decide +kernel
theorem dX12_set_112 : decode cX12_set 112 = .ok (.aload_n 0, 1) := by decide +kernel
theorem dX12_set_113 : decode cX12_set 113 = .ok (.getfield 39, 3) := by decide +kernel
theorem dX12_set_116 : decode cX12_set 116 = .ok (.iload_n 1, 1) := by decide +kernel
theorem dX12_set_117 : decode cX12_set 117 = .ok (.iaload, 1) := by decide +kernel
theorem dX12_set_118 : decode cX12_set 118 = .ok (.iconst 2, 1) := by decide +kernel
theorem dX12_set_119 : decode cX12_set 119 = .ok (.if_icmp .ne 9, 3) := by decide +kernel
theorem dX12_set_122 : decode cX12_set 122 = .ok (.lload_n 3, 1) := by decide +kernel
theorem dX12_set_123 : decode cX12_set 123 = .ok (.l2i, 1) := by decide +kernel
theorem dX12_set_124 : decode cX12_set 124 = .ok (.i2l, 1) := by decide +kernel
theorem dX12_set_125 : decode cX12_set 125 = .ok (.goto 4, 3) := by decide +kernel
theorem dX12_set_128 : decode cX12_set 128 = .ok (.lload_n 3, 1) := by decide +kernel
theorem dX12_set_129 : decode cX12_set 129 = .ok (.lastore, 1) := by decide +kernel
theorem dX12_set_130 : decode cX12_set 130 = .ok (.iconst 1, 1) := by decide +kernel
theorem dX12_set_131 : decode cX12_set 131 = .ok (.ireturn, 1) := by decide +kernel
theorem dX12_copy_0 : decode cX12_copy 0 = .ok (.aload_n 0, 1) := by decide +kernel
theorem dX12_copy_1 : decode cX12_copy 1 = .ok (.iload_n 1, 1) := by decide +kernel
theorem dX12_copy_2 : decode cX12_copy 2 = .ok (.invokevirtual 95, 3) := by decide +kernel
theorem dX12_copy_5 : decode cX12_copy 5 = .ok (.ifCond .eq 11, 3) := by decide +kernel
theorem dX12_copy_8 : decode cX12_copy 8 = .ok (.aload_n 0, 1) := by decide +kernel
theorem dX12_copy_9 : decode cX12_copy 9 = .ok (.iload_n 2, 1) := by decide +kernel
theorem dX12_copy_10 : decode cX12_copy 10 = .ok (.invokevirtual 95, 3) := by decide +kernel
theorem dX12_copy_13 : decode cX12_copy 13 = .ok (.ifCond .ne 9, 3) := by decide +kernel
theorem dX12_copy_16 : decode cX12_copy 16 = .ok (.aload_n 0, 1) := by decide +kernel
theorem dX12_copy_17 : decode cX12_copy 17 = .ok (.iconst (-1), 1) := by decide +kernel
theorem dX12_copy_18 : decode cX12_copy 18 = .ok (.invokevirtual 99, 3) := by decide +kernel
theorem dX12_copy_21 : decode cX12_copy 21 = .ok (.ireturn, 1) := by decide +kernel
theorem dX12_copy_22 : decode cX12_copy 22 = .ok (.aload_n 0, 1) := by decide +kernel
theorem dX12_copy_23 : decode cX12_copy 23 = .ok (.getfield 36, 3) := by decide +kernel
theorem dX12_copy_26 : decode cX12_copy 26 = .ok (.iload_n 1, 1) := by decide +kernel
theorem dX12_copy_27 : decode cX12_copy 27 = .ok (.iaload, 1) := by decide +kernel
theorem dX12_copy_28 : decode cX12_copy 28 = .ok (.iconst 2, 1) := by decide +kernel
theorem dX12_copy_29 : decode cX12_copy 29 = .ok (.if_icmp .eq 48, 3) := by decide +kernel
theorem dX12_copy_32 : decode cX12_copy 32 = .ok (.aload_n 0, 1) := by decide +kernel
theorem dX12_copy_33 : decode cX12_copy 33 = .ok (.getfield 36, 3) := by decide +kernel
theorem dX12_copy_36 : decode cX12_copy 36 = .ok (.iload_n 2, 1) := by decide +kernel
theorem dX12_copy_37 : decode cX12_copy 37 = .ok (.iaload, 1) := by decide +kernel
theorem dX12_copy_38 : decode cX12_copy 38 = .ok (.iconst 2, 1) := by decide +kernel
theorem dX12_copy_39 : decode cX12_copy 39 = .ok (.if_icmp .eq 38, 3) := by decide +kernel
theorem dX12_copy_42 : decode cX12_copy 42 = .ok (.aload_n 0, 1) := by decide +kernel
theorem dX12_copy_43 : decode cX12_copy 43 = .ok (.getfield 36, 3) := by decide +kernel
theorem dX12_copy_46 : decode cX12_copy 46 = .ok (.iload_n 1, 1) := by decide +kernel
theorem dX12_copy_47 : decode cX12_copy 47 = .ok (.iaload, 1) := by decide +kernel
theorem dX12_copy_48 : decode cX12_copy 48 = .ok (.iconst 1, 1) := by decide +kernel
theorem dX12_copy_49 : decode cX12_copy 49 = .ok (.if_icmp .ne 35, 3) := by decide +kernel
theorem dX12_copy_52 : decode cX12_copy 52 = .ok (.aload_n 0, 1) := by decide +kernel
theorem dX12_copy_53 : decode cX12_copy 53 = .ok (.getfield 36, 3) := by decide +kernel
theorem dX12_copy_56 : decode cX12_copy 56 = .ok (.iload_n 2, 1) := by decide +kernel
theorem dX12_copy_57 : decode cX12_copy 57 = .ok (.iaload, 1) := by decide +kernel
theorem dX12_copy_58 : decode cX12_copy 58 = .ok (.iconst 1, 1) := by decide +kernel
theorem dX12_copy_59 : decode cX12_copy 59 = .ok (.if_icmp .ne 25, 3) := by decide +kernel
theorem dX12_copy_62 : decode cX12_copy 62 = .ok (.aload_n 0, 1) := by decide +kernel
theorem dX12_copy_63 : decode cX12_copy 63 = .ok (.getfield 39, 3) := by decide +kernel
theorem dX12_copy_66 : decode cX12_copy 66 = .ok (.iload_n 1, 1) := by decide +kernel
theorem dX12_copy_67 : decode cX12_copy 67 = .ok (.iaload, 1) := by decide +kernel
theorem dX12_copy_68 : decode cX12_copy 68 = .ok (.aload_n 0, 1) := by decide +kernel
theorem dX12_copy_69 : decode cX12_copy 69 = .ok (.getfield 39, 3) := by decide +kernel
theorem dX12_copy_72 : decode cX12_copy 72 = .ok (.iload_n 2, 1) := by decide +kernel
theorem dX12_copy_73 : decode cX12_copy 73 = .ok (.iaload, 1) := by decide +kernel
theorem dX12_copy_74 : decode cX12_copy 74 = .ok (.if_icmp .eq 10, 3) := by decide +kernel
theorem dX12_copy_77 : decode cX12_copy 77 = .ok (.aload_n 0, 1) := by decide +kernel
theorem dX12_copy_78 : decode cX12_copy 78 = .ok (.bipush (-2), 2) := by decide +kernel
theorem dX12_copy_80 : decode cX12_copy 80 = .ok (.invokevirtual 99, 3) := by decide +kernel
theorem dX12_copy_83 : decode cX12_copy 83 = .ok (.ireturn, 1) := by decide +kernel
theorem dX12_copy_84 : decode cX12_copy 84 = .ok (.aload_n 0, 1) := by decide +kernel
theorem dX12_copy_85 : decode cX12_copy 85 = .ok (.getfield 36, 3) := by decide +kernel
theorem dX12_copy_88 : decode cX12_copy 88 = .ok (.iload_n 1, 1) := by decide +kernel
theorem dX12_copy_89 : decode cX12_copy 89 = .ok (.iaload, 1) := by decide +kernel
theorem dX12_copy_90 : decode cX12_copy 90 = .ok (.ifCond .eq 12, 3) := by decide +kernel
theorem dX12_copy_93 : decode cX12_copy 93 = .ok (.aload_n 0, 1) := by decide +kernel
theorem dX12_copy_94 : decode cX12_copy 94 = .ok (.getfield 36, 3) := by decide +kernel
theorem dX12_copy_97 : decode cX12_copy 97 = .ok (.iload_n 2, 1) := by decide +kernel
theorem dX12_copy_98 : decode cX12_copy 98 = .ok (.iaload, 1) := by decide +kernel
theorem dX12_copy_99 : decode cX12_copy 99 = .ok (.ifCond .ne 10, 3) := by decide +kernel
theorem dX12_copy_102 : decode cX12_copy 102 = .ok (.aload_n 0, 1) := by decide +kernel
theorem dX12_copy_103 : decode cX12_copy 103 = .ok (.bipush (-3), 2) := by decide +kernel
theorem dX12_copy_105 : decode cX12_copy 105 = .ok (.invokevirtual 99, 3) := by decide +kernel
theorem dX12_copy_108 : decode cX12_copy 108 = .ok (.ireturn, 1) := by decide +kernel
theorem dX12_copy_109 : decode cX12_copy 109 = .ok (.iload 5, 2) := by decide +kernel
theorem dX12_copy_111 : decode cX12_copy 111 = .ok (.ifCond .ge 10, 3) := by decide +kernel
theorem dX12_copy_114 : decode cX12_copy 114 = .ok (.aload_n 0, 1) := by decide +kernel
theorem dX12_copy_115 : decode cX12_copy 115 = .ok (.bipush (-4), 2) := by decide +kernel
theorem dX12_copy_117 : decode cX12_copy 117 = .ok (.invokevirtual 99, 3) := by decide +kernel
theorem dX12_copy_120 : decode cX12_copy 120 = .ok (.ireturn, 1) := by decide +kernel
theorem dX12_copy_121 : decode cX12_copy 121 = .ok (.iload_n 3, 1) := by decide +kernel
theorem dX12_copy_122 : decode cX12_copy 122 = .ok (.ifCond .lt 35, 3) := by decide +kernel
theorem dX12_copy_125 : decode cX12_copy 125 = .ok (.iload 4, 2) := by decide +kernel
theorem dX12_copy_127 : decode cX12_copy 127 = .ok (.ifCond .lt 30, 3) := by decide +kernel
theorem dX12_copy_130 : decode cX12_copy 130 = .ok (.iload_n 3, 1) := by decide +kernel
theorem dX12_copy_131 : decode cX12_copy 131 = .ok (.aload_n 0, 1) := by decide +kernel
theorem dX12_copy_132 : decode cX12_copy 132 = .ok (.getfield 42, 3) := by decide +kernel
theorem dX12_copy_135 : decode cX12_copy 135 = .ok (.iload_n 1, 1) := by decide +kernel
theorem dX12_copy_136 : decode cX12_copy 136 = .ok (.iaload, 1) := by decide +kernel
theorem dX12_copy_137 : decode cX12_copy 137 = .ok (.iload 5, 2) := by decide +kernel
theorem dX12_copy_139 : decode cX12_copy 139 = .ok (.isub, 1) := by decide +kernel
theorem dX12_copy_140 : decode cX12_copy 140 = .ok (.if_icmp .gt 17, 3) := by decide +kernel
theorem dX12_copy_143 : decode cX12_copy 143 = .ok (.iload 4, 2) := by decide +kernel
theorem dX12_copy_145 : decode cX12_copy 145 = .ok (.aload_n 0, 1) := by decide +kernel
theorem dX12_copy_146 : decode cX12_copy 146 = .ok (.getfield 42, 3) := by decide +kernel
theorem dX12_copy_149 : decode cX12_copy 149 = .ok (.iload_n 2, 1) := by decide +kernel
theorem dX12_copy_150 : decode cX12_copy 150 = .ok (.iaload, 1) := by decide +kernel
theorem dX12_copy_151 : decode cX12_copy 151 = .ok (.iload 5, 2) := by decide +kernel
theorem dX12_copy_153 : decode cX12_copy 153 = .ok (.isub, 1) := by decide +kernel
theorem dX12_copy_154 : decode cX12_copy 154 = .ok (.if_icmp .le 10, 3) := by decide +kernel
theorem dX12_copy_157 : decode cX12_copy 157 = .ok (.aload_n 0, 1) := by decide +kernel
theorem dX12_copy_158 : decode cX12_copy 158 = .ok (.bipush (-5), 2) := by decide +kernel
theorem dX12_copy_160 : decode cX12_copy 160 = .ok (.invokevirtual 99, 3) := by decide +kernel
theorem dX12_copy_163 : decode cX12_copy 163 = .ok (.ireturn, 1) := by decide +kernel
theorem dX12_copy_164 : decode cX12_copy 164 = .ok (.iconst 0, 1) := by decide +kernel
theorem dX12_copy_165 : decode cX12_copy 165 = .ok (.istore 6, 2) := by decide +kernel
theorem dX12_copy_167 : decode cX12_copy 167 = .ok (.iload 6, 2) := by decide +kernel
theorem dX12_copy_169 : decode cX12_copy 169 = .ok (.iload 5, 2) := by decide +kernel
theorem dX12_copy_171 : decode cX12_copy 171 = .ok (.if_icmp .ge 31, 3) := by decide +kernel
theorem dX12_copy_174 : decode cX12_copy 174 = .ok (.aload_n 0, 1) := by decide +kernel
theorem dX12_copy_175 : decode cX12_copy 175 = .ok (.getfield 51, 3) := by decide +kernel
theorem dX12_copy_178 : decode cX12_copy 178 = .ok (.iload 6, 2) := by decide +kernel
theorem dX12_copy_180 : decode cX12_copy 180 = .ok (.aload_n 0, 1) := by decide +kernel
theorem dX12_copy_181 : decode cX12_copy 181 = .ok (.getfield 48, 3) := by decide +kernel
theorem dX12_copy_184 : decode cX12_copy 184 = .ok (.sipush 160, 3) := by decide +kernel
theorem dX12_copy_187 : decode cX12_copy 187 = .ok (.iload_n 1, 1) := by decide +kernel
theorem dX12_copy_188 : decode cX12_copy 188 = .ok (.imul, 1) := by decide +kernel
theorem dX12_copy_189 : decode cX12_copy 189 = .ok (.iload_n 3, 1) := by decide +kernel
theorem dX12_copy_190 : decode cX12_copy 190 = .ok (.iadd, 1) := by decide +kernel
theorem dX12_copy_191 : decode cX12_copy 191 = .ok (.iload 6, 2) := by decide +kernel
theorem dX12_copy_193 : decode cX12_copy 193 = .ok (.iadd, 1) := by decide +kernel
theorem dX12_copy_194 : decode cX12_copy 194 = .ok (.laload, 1) := by decide +kernel
theorem dX12_copy_195 : decode cX12_copy 195 = .ok (.lastore, 1) := by decide +kernel
theorem dX12_copy_196 : decode cX12_copy 196 = .ok (.iinc 6 1, 3) := by decide +kernel
theorem dX12_copy_199 : decode cX12_copy 199 = .ok (.goto (-32), 3) := by decide +kernel
theorem dX12_copy_202 : decode cX12_copy 202 = .ok (.iconst 0, 1) := by decide +kernel
theorem dX12_copy_203 : decode cX12_copy 203 = .ok (.istore 6, 2) := by decide +kernel
theorem dX12_copy_205 : decode cX12_copy 205 = .ok (.iload 6, 2) := by decide +kernel
theorem dX12_copy_207 : decode cX12_copy 207 = .ok (.iload 5, 2) := by decide +kernel
theorem dX12_copy_209 : decode cX12_copy 209 = .ok (.if_icmp .ge 32, 3) := by decide +kernel
theorem dX12_copy_212 : decode cX12_copy 212 = .ok (.aload_n 0, 1) := by decide +kernel
theorem dX12_copy_213 : decode cX12_copy 213 = .ok (.getfield 48, 3) := by decide +kernel
theorem dX12_copy_216 : decode cX12_copy 216 = .ok (.sipush 160, 3) := by decide +kernel
theorem dX12_copy_219 : decode cX12_copy 219 = .ok (.iload_n 2, 1) := by decide +kernel
theorem dX12_copy_220 : decode cX12_copy 220 = .ok (.imul, 1) := by decide +kernel
theorem dX12_copy_221 : decode cX12_copy 221 = .ok (.iload 4, 2) := by decide +kernel
theorem dX12_copy_223 : decode cX12_copy 223 = .ok (.iadd, 1) := by decide +kernel
theorem dX12_copy_224 : decode cX12_copy 224 = .ok (.iload 6, 2) := by decide +kernel
theorem dX12_copy_226 : decode cX12_copy 226 = .ok (.iadd, 1) := by decide +kernel
theorem dX12_copy_227 : decode cX12_copy 227 = .ok (.aload_n 0, 1) := by decide +kernel
theorem dX12_copy_228 : decode cX12_copy 228 = .ok (.getfield 51, 3) := by decide +kernel
theorem dX12_copy_231 : decode cX12_copy 231 = .ok (.iload 6, 2) := by decide +kernel
theorem dX12_copy_233 : decode cX12_copy 233 = .ok (.laload, 1) := by decide +kernel
theorem dX12_copy_234 : decode cX12_copy 234 = .ok (.lastore, 1) := by decide +kernel
theorem dX12_copy_235 : decode cX12_copy 235 = .ok (.iinc 6 1, 3) := by decide +kernel
theorem dX12_copy_238 : decode cX12_copy 238 = .ok (.goto (-33), 3) := by decide +kernel
theorem dX12_copy_241 : decode cX12_copy 241 = .ok (.iconst 1, 1) := by decide +kernel
theorem dX12_copy_242 : decode cX12_copy 242 = .ok (.ireturn, 1) := by decide +kernel
theorem dX12_element_0 : decode cX12_element 0 = .ok (.aload_n 0, 1) := by decide +kernel
theorem dX12_element_1 : decode cX12_element 1 = .ok (.iload_n 1, 1) := by decide +kernel
theorem dX12_element_2 : decode cX12_element 2 = .ok (.invokevirtual 95, 3) := by decide +kernel
theorem dX12_element_5 : decode cX12_element 5 = .ok (.ifCond .eq 42, 3) := by decide +kernel
theorem dX12_element_8 : decode cX12_element 8 = .ok (.aload_n 0, 1) := by decide +kernel
theorem dX12_element_9 : decode cX12_element 9 = .ok (.getfield 36, 3) := by decide +kernel
theorem dX12_element_12 : decode cX12_element 12 = .ok (.iload_n 1, 1) := by decide +kernel
theorem dX12_element_13 : decode cX12_element 13 = .ok (.iaload, 1) := by decide +kernel
theorem dX12_element_14 : decode cX12_element 14 = .ok (.iconst 1, 1) := by decide +kernel
theorem dX12_element_15 : decode cX12_element 15 = .ok (.if_icmp .ne 32, 3) := by decide +kernel
theorem dX12_element_18 : decode cX12_element 18 = .ok (.iload_n 2, 1) := by decide +kernel
theorem dX12_element_19 : decode cX12_element 19 = .ok (.ifCond .lt 28, 3) := by decide +kernel
theorem dX12_element_22 : decode cX12_element 22 = .ok (.iload_n 2, 1) := by decide +kernel
theorem dX12_element_23 : decode cX12_element 23 = .ok (.aload_n 0, 1) := by decide +kernel
theorem dX12_element_24 : decode cX12_element 24 = .ok (.getfield 42, 3) := by decide +kernel
theorem dX12_element_27 : decode cX12_element 27 = .ok (.iload_n 1, 1) := by decide +kernel
theorem dX12_element_28 : decode cX12_element 28 = .ok (.iaload, 1) := by decide +kernel
theorem dX12_element_29 : decode cX12_element 29 = .ok (.if_icmp .ge 18, 3) := by decide +kernel
theorem dX12_element_32 : decode cX12_element 32 = .ok (.aload_n 0, 1) := by decide +kernel
theorem dX12_element_33 : decode cX12_element 33 = .ok (.getfield 48, 3) := by decide +kernel
theorem dX12_element_36 : decode cX12_element 36 = .ok (.sipush 160, 3) := by decide +kernel
theorem dX12_element_39 : decode cX12_element 39 = .ok (.iload_n 1, 1) := by decide +kernel
theorem dX12_element_40 : decode cX12_element 40 = .ok (.imul, 1) := by decide +kernel
theorem dX12_element_41 : decode cX12_element 41 = .ok (.iload_n 2, 1) := by decide +kernel
theorem dX12_element_42 : decode cX12_element 42 = .ok (.iadd, 1) := by decide +kernel
theorem dX12_element_43 : decode cX12_element 43 = .ok (.laload, 1) := by decide +kernel
theorem dX12_element_44 : decode cX12_element 44 = .ok (.goto 4, 3) := by decide +kernel
theorem dX12_element_47 : decode cX12_element 47 = .ok (.lconst 0, 1) := by decide +kernel
theorem dX12_element_48 : decode cX12_element 48 = .ok (.lreturn, 1) := by decide +kernel
theorem dX12_show_0 : decode cX12_show 0 = .ok (.aload_n 0, 1) := by decide +kernel
theorem dX12_show_1 : decode cX12_show 1 = .ok (.iload_n 1, 1) := by decide +kernel
theorem dX12_show_2 : decode cX12_show 2 = .ok (.invokevirtual 95, 3) := by decide +kernel
theorem dX12_show_5 : decode cX12_show 5 = .ok (.ifCond .eq 16, 3) := by decide +kernel
theorem dX12_show_8 : decode cX12_show 8 = .ok (.iload_n 2, 1) := by decide +kernel
theorem dX12_show_9 : decode cX12_show 9 = .ok (.iconst (-1), 1) := by decide +kernel
theorem dX12_show_10 : decode cX12_show 10 = .ok (.if_icmp .eq 17, 3) := by decide +kernel
theorem dX12_show_13 : decode cX12_show 13 = .ok (.aload_n 0, 1) := by decide +kernel
theorem dX12_show_14 : decode cX12_show 14 = .ok (.iload_n 2, 1) := by decide +kernel
theorem dX12_show_15 : decode cX12_show 15 = .ok (.invokevirtual 103, 3) := by decide +kernel
theorem dX12_show_18 : decode cX12_show 18 = .ok (.ifCond .ne 9, 3) := by decide +kernel
theorem dX12_show_21 : decode cX12_show 21 = .ok (.aload_n 0, 1) := by decide +kernel
theorem dX12_show_22 : decode cX12_show 22 = .ok (.iconst (-1), 1) := by decide +kernel
theorem dX12_show_23 : decode cX12_show 23 = .ok (.invokevirtual 99, 3) := by decide +kernel
theorem dX12_show_26 : decode cX12_show 26 = .ok (.ireturn, 1) := by decide +kernel
theorem dX12_show_27 : decode cX12_show 27 = .ok (.aload_n 0, 1) := by decide +kernel
theorem dX12_show_28 : decode cX12_show 28 = .ok (.getfield 36, 3) := by decide +kernel
theorem dX12_show_31 : decode cX12_show 31 = .ok (.iload_n 1, 1) := by decide +kernel
theorem dX12_show_32 : decode cX12_show 32 = .ok (.iload_n 2, 1) := by decide +kernel
theorem dX12_show_33 : decode cX12_show 33 = .ok (.iconst (-1), 1) := by decide +kernel
theorem dX12_show_34 : decode cX12_show 34 = .ok (.if_icmp .ne 7, 3) := by decide +kernel
theorem dX12_show_37 : decode cX12_show 37 = .ok (.iconst 0, 1) := by decide +kernel
theorem dX12_show_38 : decode cX12_show 38 = .ok (.goto 4, 3) := by decide +kernel
theorem dX12_show_41 : decode cX12_show 41 = .ok (.iconst 2, 1) := by decide +kernel
theorem dX12_show_42 : decode cX12_show 42 = .ok (.iastore, 1) := by decide +kernel
theorem dX12_show_43 : decode cX12_show 43 = .ok (.aload_n 0, 1) := by decide +kernel
theorem dX12_show_44 : decode cX12_show 44 = .ok (.getfield 45, 3) := by decide +kernel
theorem dX12_show_47 : decode cX12_show 47 = .ok (.iload_n 1, 1) := by decide +kernel
theorem dX12_show_48 : decode cX12_show 48 = .ok (.iload_n 2, 1) := by decide +kernel
theorem dX12_show_49 : decode cX12_show 49 = .ok (.iastore, 1) := by decide +kernel
theorem dX12_show_50 : decode cX12_show 50 = .ok (.iload_n 2, 1) := by decide +kernel
theorem dX12_show_51 : decode cX12_show 51 = .ok (.iconst (-1), 1) := by decide +kernel
theorem dX12_show_52 : decode cX12_show 52 = .ok (.if_icmp .ne 7, 3) := by decide +kernel
theorem dX12_show_55 : decode cX12_show 55 = .ok (.iconst 0, 1) := by decide +kernel
theorem dX12_show_56 : decode cX12_show 56 = .ok (.goto 4, 3) := by decide +kernel
theorem dX12_show_59 : decode cX12_show 59 = .ok (.iconst 1, 1) := by decide +kernel
theorem dX12_show_60 : decode cX12_show 60 = .ok (.ireturn, 1) := by decide +kernel
theorem dX12_holds_0 : decode cX12_holds 0 = .ok (.aload_n 0, 1) := by decide +kernel
theorem dX12_holds_1 : decode cX12_holds 1 = .ok (.iload_n 1, 1) := by decide +kernel
theorem dX12_holds_2 : decode cX12_holds 2 = .ok (.invokevirtual 95, 3) := by decide +kernel
theorem dX12_holds_5 : decode cX12_holds 5 = .ok (.ifCond .eq 12, 3) := by decide +kernel
theorem dX12_holds_8 : decode cX12_holds 8 = .ok (.aload_n 0, 1) := by decide +kernel
theorem dX12_holds_9 : decode cX12_holds 9 = .ok (.getfield 36, 3) := by decide +kernel
theorem dX12_holds_12 : decode cX12_holds 12 = .ok (.iload_n 1, 1) := by decide +kernel
theorem dX12_holds_13 : decode cX12_holds 13 = .ok (.iaload, 1) := by decide +kernel
theorem dX12_holds_14 : decode cX12_holds 14 = .ok (.ifCond .ne 5, 3) := by decide +kernel
theorem dX12_holds_17 : decode cX12_holds 17 = .ok (.iconst (-1), 1) := by decide +kernel
theorem dX12_holds_18 : decode cX12_holds 18 = .ok (.ireturn, 1) := by decide +kernel
theorem dX12_holds_19 : decode cX12_holds 19 = .ok (.aload_n 0, 1) := by decide +kernel
theorem dX12_holds_20 : decode cX12_holds 20 = .ok (.getfield 36, 3) := by decide +kernel
theorem dX12_holds_23 : decode cX12_holds 23 = .ok (.iload_n 1, 1) := by decide +kernel
theorem dX12_holds_24 : decode cX12_holds 24 = .ok (.iaload, 1) := by decide +kernel
theorem dX12_holds_25 : decode cX12_holds 25 = .ok (.iconst 1, 1) := by decide +kernel
theorem dX12_holds_26 : decode cX12_holds 26 = .ok (.if_icmp .ne 15, 3) := by decide +kernel
theorem dX12_holds_29 : decode cX12_holds 29 = .ok (.bipush 100, 2) := by decide +kernel
theorem dX12_holds_31 : decode cX12_holds 31 = .ok (.aload_n 0, 1) := by decide +kernel
theorem dX12_holds_32 : decode cX12_holds 32 = .ok (.getfield 39, 3) := by decide +kernel
theorem dX12_holds_35 : decode cX12_holds 35 = .ok (.iload_n 1, 1) := by decide +kernel
theorem dX12_holds_36 : decode cX12_holds 36 = .ok (.iaload, 1) := by decide +kernel
theorem dX12_holds_37 : decode cX12_holds 37 = .ok (.iadd, 1) := by decide +kernel
theorem dX12_holds_38 : decode cX12_holds 38 = .ok (.goto 9, 3) := by decide +kernel
theorem dX12_holds_41 : decode cX12_holds 41 = .ok (.aload_n 0, 1) := by decide +kernel
theorem dX12_holds_42 : decode cX12_holds 42 = .ok (.getfield 45, 3) := by decide +kernel
theorem dX12_holds_45 : decode cX12_holds 45 = .ok (.iload_n 1, 1) := by decide +kernel
theorem dX12_holds_46 : decode cX12_holds 46 = .ok (.iaload, 1) := by decide +kernel
theorem dX12_holds_47 : decode cX12_holds 47 = .ok (.ireturn, 1) := by decide +kernel
theorem dX12_greatest_0 : decode cX12_greatest 0 = .ok (.iconst 0, 1) := by decide +kernel
theorem dX12_greatest_1 : decode cX12_greatest 1 = .ok (.istore_n 2, 1) := by decide +kernel
theorem dX12_greatest_2 : decode cX12_greatest 2 = .ok (.iconst 1, 1) := by decide +kernel
theorem dX12_greatest_3 : decode cX12_greatest 3 = .ok (.istore_n 3, 1) := by decide +kernel
theorem dX12_greatest_4 : decode cX12_greatest 4 = .ok (.iload_n 3, 1) := by decide +kernel
theorem dX12_greatest_5 : decode cX12_greatest 5 = .ok (.aload_n 0, 1) := by decide +kernel
theorem dX12_greatest_6 : decode cX12_greatest 6 = .ok (.getfield 7, 3) := by decide +kernel
theorem dX12_greatest_9 : decode cX12_greatest 9 = .ok (.if_icmp .ge 36, 3) := by decide +kernel
theorem dX12_greatest_12 : decode cX12_greatest 12 = .ok (.aload_n 0, 1) := by decide +kernel
theorem dX12_greatest_13 : decode cX12_greatest 13 = .ok (.getfield 29, 3) := by decide +kernel
theorem dX12_greatest_16 : decode cX12_greatest 16 = .ok (.bipush 10, 2) := by decide +kernel
theorem dX12_greatest_18 : decode cX12_greatest 18 = .ok (.iload_n 1, 1) := by decide +kernel
theorem dX12_greatest_19 : decode cX12_greatest 19 = .ok (.imul, 1) := by decide +kernel
theorem dX12_greatest_20 : decode cX12_greatest 20 = .ok (.iload_n 3, 1) := by decide +kernel
theorem dX12_greatest_21 : decode cX12_greatest 21 = .ok (.iadd, 1) := by decide +kernel
theorem dX12_greatest_22 : decode cX12_greatest 22 = .ok (.iaload, 1) := by decide +kernel
theorem dX12_greatest_23 : decode cX12_greatest 23 = .ok (.aload_n 0, 1) := by decide +kernel
theorem dX12_greatest_24 : decode cX12_greatest 24 = .ok (.getfield 29, 3) := by decide +kernel
theorem dX12_greatest_27 : decode cX12_greatest 27 = .ok (.bipush 10, 2) := by decide +kernel
theorem dX12_greatest_29 : decode cX12_greatest 29 = .ok (.iload_n 1, 1) := by decide +kernel
theorem dX12_greatest_30 : decode cX12_greatest 30 = .ok (.imul, 1) := by decide +kernel
theorem dX12_greatest_31 : decode cX12_greatest 31 = .ok (.iload_n 2, 1) := by decide +kernel
theorem dX12_greatest_32 : decode cX12_greatest 32 = .ok (.iadd, 1) := by decide +kernel
theorem dX12_greatest_33 : decode cX12_greatest 33 = .ok (.iaload, 1) := by decide +kernel
theorem dX12_greatest_34 : decode cX12_greatest 34 = .ok (.if_icmp .le 5, 3) := by decide +kernel
theorem dX12_greatest_37 : decode cX12_greatest 37 = .ok (.iload_n 3, 1) := by decide +kernel
theorem dX12_greatest_38 : decode cX12_greatest 38 = .ok (.istore_n 2, 1) := by decide +kernel
theorem dX12_greatest_39 : decode cX12_greatest 39 = .ok (.iinc 3 1, 3) := by decide +kernel
theorem dX12_greatest_42 : decode cX12_greatest 42 = .ok (.goto (-38), 3) := by decide +kernel
theorem dX12_greatest_45 : decode cX12_greatest 45 = .ok (.iload_n 2, 1) := by decide +kernel
theorem dX12_greatest_46 : decode cX12_greatest 46 = .ok (.ireturn, 1) := by decide +kernel
theorem dX12_says_0 : decode cX12_says 0 = .ok (.aload_n 0, 1) := by decide +kernel
theorem dX12_says_1 : decode cX12_says 1 = .ok (.iload_n 1, 1) := by decide +kernel
theorem dX12_says_2 : decode cX12_says 2 = .ok (.invokevirtual 95, 3) := by decide +kernel
theorem dX12_says_5 : decode cX12_says 5 = .ok (.ifCond .eq 13, 3) := by decide +kernel
theorem dX12_says_8 : decode cX12_says 8 = .ok (.iload_n 2, 1) := by decide +kernel
theorem dX12_says_9 : decode cX12_says 9 = .ok (.ifCond .lt 9, 3) := by decide +kernel
theorem dX12_says_12 : decode cX12_says 12 = .ok (.iload_n 2, 1) := by decide +kernel
theorem dX12_says_13 : decode cX12_says 13 = .ok (.bipush 6, 2) := by decide +kernel
theorem dX12_says_15 : decode cX12_says 15 = .ok (.if_icmp .le 9, 3) := by decide +kernel
theorem dX12_says_18 : decode cX12_says 18 = .ok (.aload_n 0, 1) := by decide +kernel
theorem dX12_says_19 : decode cX12_says 19 = .ok (.iconst (-1), 1) := by decide +kernel
theorem dX12_says_20 : decode cX12_says 20 = .ok (.invokevirtual 99, 3) := by decide +kernel
theorem dX12_says_23 : decode cX12_says 23 = .ok (.ireturn, 1) := by decide +kernel
theorem dX12_says_24 : decode cX12_says 24 = .ok (.aload_n 0, 1) := by decide +kernel
theorem dX12_says_25 : decode cX12_says 25 = .ok (.getfield 36, 3) := by decide +kernel
theorem dX12_says_28 : decode cX12_says 28 = .ok (.iload_n 1, 1) := by decide +kernel
theorem dX12_says_29 : decode cX12_says 29 = .ok (.iaload, 1) := by decide +kernel
theorem dX12_says_30 : decode cX12_says 30 = .ok (.iconst 1, 1) := by decide +kernel
theorem dX12_says_31 : decode cX12_says 31 = .ok (.if_icmp .ne 10, 3) := by decide +kernel
theorem dX12_says_34 : decode cX12_says 34 = .ok (.aload_n 0, 1) := by decide +kernel
theorem dX12_says_35 : decode cX12_says 35 = .ok (.bipush (-2), 2) := by decide +kernel
theorem dX12_says_37 : decode cX12_says 37 = .ok (.invokevirtual 99, 3) := by decide +kernel
theorem dX12_says_40 : decode cX12_says 40 = .ok (.ireturn, 1) := by decide +kernel
theorem dX12_says_41 : decode cX12_says 41 = .ok (.aload_n 0, 1) := by decide +kernel
theorem dX12_says_42 : decode cX12_says 42 = .ok (.getfield 36, 3) := by decide +kernel
theorem dX12_says_45 : decode cX12_says 45 = .ok (.iload_n 1, 1) := by decide +kernel
theorem dX12_says_46 : decode cX12_says 46 = .ok (.iaload, 1) := by decide +kernel
theorem dX12_says_47 : decode cX12_says 47 = .ok (.ifCond .ne 10, 3) := by decide +kernel
theorem dX12_says_50 : decode cX12_says 50 = .ok (.aload_n 0, 1) := by decide +kernel
theorem dX12_says_51 : decode cX12_says 51 = .ok (.bipush (-3), 2) := by decide +kernel
theorem dX12_says_53 : decode cX12_says 53 = .ok (.invokevirtual 99, 3) := by decide +kernel
theorem dX12_says_56 : decode cX12_says 56 = .ok (.ireturn, 1) := by decide +kernel
theorem dX12_says_57 : decode cX12_says 57 = .ok (.aload_n 0, 1) := by decide +kernel
theorem dX12_says_58 : decode cX12_says 58 = .ok (.getfield 45, 3) := by decide +kernel
theorem dX12_says_61 : decode cX12_says 61 = .ok (.iload_n 1, 1) := by decide +kernel
theorem dX12_says_62 : decode cX12_says 62 = .ok (.iaload, 1) := by decide +kernel
theorem dX12_says_63 : decode cX12_says 63 = .ok (.istore_n 3, 1) := by decide +kernel
theorem dX12_says_64 : decode cX12_says 64 = .ok (.aload_n 0, 1) := by decide +kernel
theorem dX12_says_65 : decode cX12_says 65 = .ok (.getfield 23, 3) := by decide +kernel
theorem dX12_says_68 : decode cX12_says 68 = .ok (.iload_n 3, 1) := by decide +kernel
theorem dX12_says_69 : decode cX12_says 69 = .ok (.iaload, 1) := by decide +kernel
theorem dX12_says_70 : decode cX12_says 70 = .ok (.istore 4, 2) := by decide +kernel
theorem dX12_says_72 : decode cX12_says 72 = .ok (.iload_n 2, 1) := by decide +kernel
theorem dX12_says_73 : decode cX12_says 73 = .ok (.iconst 1, 1) := by decide +kernel
theorem dX12_says_74 : decode cX12_says 74 = .ok (.if_icmp .ne 9, 3) := by decide +kernel
theorem dX12_says_77 : decode cX12_says 77 = .ok (.iload 4, 2) := by decide +kernel
theorem dX12_says_79 : decode cX12_says 79 = .ok (.iconst 3, 1) := by decide +kernel
theorem dX12_says_80 : decode cX12_says 80 = .ok (.if_icmp .eq 21, 3) := by decide +kernel
theorem dX12_says_83 : decode cX12_says 83 = .ok (.iload_n 2, 1) := by decide +kernel
theorem dX12_says_84 : decode cX12_says 84 = .ok (.iconst 2, 1) := by decide +kernel
theorem dX12_says_85 : decode cX12_says 85 = .ok (.if_icmp .ne 20, 3) := by decide +kernel
theorem dX12_says_88 : decode cX12_says 88 = .ok (.iload 4, 2) := by decide +kernel
theorem dX12_says_90 : decode cX12_says 90 = .ok (.iconst 5, 1) := by decide +kernel
theorem dX12_says_91 : decode cX12_says 91 = .ok (.if_icmp .eq 10, 3) := by decide +kernel
theorem dX12_says_94 : decode cX12_says 94 = .ok (.iload 4, 2) := by decide +kernel
theorem dX12_says_96 : decode cX12_says 96 = .ok (.bipush 6, 2) := by decide +kernel
theorem dX12_says_98 : decode cX12_says 98 = .ok (.if_icmp .ne 7, 3) := by decide +kernel
theorem dX12_says_101 : decode cX12_says 101 = .ok (.iconst 1, 1) := by decide +kernel
theorem dX12_says_102 : decode cX12_says 102 = .ok (.goto 4, 3) := by decide +kernel
theorem dX12_says_105 : decode cX12_says 105 = .ok (.iconst 0, 1) := by decide +kernel
theorem dX12_says_106 : decode cX12_says 106 = .ok (.istore 5, 2) := by decide +kernel
theorem dX12_says_108 : decode cX12_says 108 = .ok (.iload_n 2, 1) := by decide +kernel
theorem dX12_says_109 : decode cX12_says 109 = .ok (.ifCond .eq 21, 3) := by decide +kernel
theorem dX12_says_112 : decode cX12_says 112 = .ok (.iload_n 2, 1) := by decide +kernel
theorem dX12_says_113 : decode cX12_says 113 = .ok (.iload 4, 2) := by decide +kernel
theorem dX12_says_115 : decode cX12_says 115 = .ok (.if_icmp .eq 15, 3) := by decide +kernel
theorem dX12_says_118 : decode cX12_says 118 = .ok (.iload 5, 2) := by decide +kernel
theorem dX12_says_120 : decode cX12_says 120 = .ok (.ifCond .ne 10, 3) := by decide +kernel
theorem dX12_says_123 : decode cX12_says 123 = .ok (.aload_n 0, 1) := by decide +kernel
theorem dX12_says_124 : decode cX12_says 124 = .ok (.bipush (-2), 2) := by decide +kernel
theorem dX12_says_126 : decode cX12_says 126 = .ok (.invokevirtual 99, 3) := by decide +kernel
theorem dX12_says_129 : decode cX12_says 129 = .ok (.ireturn, 1) := by decide +kernel
theorem dX12_says_130 : decode cX12_says 130 = .ok (.iload_n 2, 1) := by decide +kernel
theorem dX12_says_131 : decode cX12_says 131 = .ok (.tableswitch 90 0 5 #[37, 44, 54, 74, 64, 84], 37) := by decide +kernel
theorem dX12_says_168 : decode cX12_says 168 = .ok (.aload_n 0, 1) := by decide +kernel
theorem dX12_says_169 : decode cX12_says 169 = .ok (.getfield 26, 3) := by decide +kernel
theorem dX12_says_172 : decode cX12_says 172 = .ok (.iload_n 3, 1) := by decide +kernel
theorem dX12_says_173 : decode cX12_says 173 = .ok (.iaload, 1) := by decide +kernel
theorem dX12_says_174 : decode cX12_says 174 = .ok (.ireturn, 1) := by decide +kernel
theorem dX12_says_175 : decode cX12_says 175 = .ok (.aload_n 0, 1) := by decide +kernel
theorem dX12_says_176 : decode cX12_says 176 = .ok (.iload_n 3, 1) := by decide +kernel
theorem dX12_says_177 : decode cX12_says 177 = .ok (.ldc2_w 106, 3) := by decide +kernel
theorem dX12_says_180 : decode cX12_says 180 = .ok (.invokevirtual 108, 3) := by decide +kernel
theorem dX12_says_183 : decode cX12_says 183 = .ok (.l2i, 1) := by decide +kernel
theorem dX12_says_184 : decode cX12_says 184 = .ok (.ireturn, 1) := by decide +kernel
theorem dX12_says_185 : decode cX12_says 185 = .ok (.aload_n 0, 1) := by decide +kernel
theorem dX12_says_186 : decode cX12_says 186 = .ok (.iload_n 3, 1) := by decide +kernel
theorem dX12_says_187 : decode cX12_says 187 = .ok (.ldc2_w 112, 3) := by decide +kernel
theorem dX12_says_190 : decode cX12_says 190 = .ok (.invokevirtual 108, 3) := by decide +kernel
theorem dX12_says_193 : decode cX12_says 193 = .ok (.l2i, 1) := by decide +kernel
theorem dX12_says_194 : decode cX12_says 194 = .ok (.ireturn, 1) := by decide +kernel
theorem dX12_says_195 : decode cX12_says 195 = .ok (.aload_n 0, 1) := by decide +kernel
theorem dX12_says_196 : decode cX12_says 196 = .ok (.iload_n 3, 1) := by decide +kernel
theorem dX12_says_197 : decode cX12_says 197 = .ok (.ldc2_w 114, 3) := by decide +kernel
theorem dX12_says_200 : decode cX12_says 200 = .ok (.invokevirtual 108, 3) := by decide +kernel
theorem dX12_says_203 : decode cX12_says 203 = .ok (.l2i, 1) := by decide +kernel
theorem dX12_says_204 : decode cX12_says 204 = .ok (.ireturn, 1) := by decide +kernel
theorem dX12_says_205 : decode cX12_says 205 = .ok (.aload_n 0, 1) := by decide +kernel
theorem dX12_says_206 : decode cX12_says 206 = .ok (.iload_n 3, 1) := by decide +kernel
theorem dX12_says_207 : decode cX12_says 207 = .ok (.ldc2_w 116, 3) := by decide +kernel
theorem dX12_says_210 : decode cX12_says 210 = .ok (.invokevirtual 108, 3) := by decide +kernel
theorem dX12_says_213 : decode cX12_says 213 = .ok (.l2i, 1) := by decide +kernel
theorem dX12_says_214 : decode cX12_says 214 = .ok (.ireturn, 1) := by decide +kernel
theorem dX12_says_215 : decode cX12_says 215 = .ok (.aload_n 0, 1) := by decide +kernel
theorem dX12_says_216 : decode cX12_says 216 = .ok (.iload_n 3, 1) := by decide +kernel
theorem dX12_says_217 : decode cX12_says 217 = .ok (.invokevirtual 118, 3) := by decide +kernel
theorem dX12_says_220 : decode cX12_says 220 = .ok (.ireturn, 1) := by decide +kernel
theorem dX12_says_221 : decode cX12_says 221 = .ok (.aload_n 0, 1) := by decide +kernel
theorem dX12_says_222 : decode cX12_says 222 = .ok (.iload_n 3, 1) := by decide +kernel
theorem dX12_says_223 : decode cX12_says 223 = .ok (.ldc2_w 121, 3) := by decide +kernel
theorem dX12_says_226 : decode cX12_says 226 = .ok (.invokevirtual 108, 3) := by decide +kernel
theorem dX12_says_229 : decode cX12_says 229 = .ok (.l2i, 1) := by decide +kernel
theorem dX12_says_230 : decode cX12_says 230 = .ok (.ireturn, 1) := by decide +kernel
theorem dX12_wanted_0 : decode cX12_wanted 0 = .ok (.aload_n 0, 1) := by decide +kernel
theorem dX12_wanted_1 : decode cX12_wanted 1 = .ok (.iload_n 1, 1) := by decide +kernel
theorem dX12_wanted_2 : decode cX12_wanted 2 = .ok (.invokevirtual 95, 3) := by decide +kernel
theorem dX12_wanted_5 : decode cX12_wanted 5 = .ok (.ifCond .ne 7, 3) := by decide +kernel
theorem dX12_wanted_8 : decode cX12_wanted 8 = .ok (.iconst (-1), 1) := by decide +kernel
theorem dX12_wanted_9 : decode cX12_wanted 9 = .ok (.goto 33, 3) := by decide +kernel
theorem dX12_wanted_12 : decode cX12_wanted 12 = .ok (.aload_n 0, 1) := by decide +kernel
theorem dX12_wanted_13 : decode cX12_wanted 13 = .ok (.getfield 36, 3) := by decide +kernel
theorem dX12_wanted_16 : decode cX12_wanted 16 = .ok (.iload_n 1, 1) := by decide +kernel
theorem dX12_wanted_17 : decode cX12_wanted 17 = .ok (.iaload, 1) := by decide +kernel
theorem dX12_wanted_18 : decode cX12_wanted 18 = .ok (.iconst 2, 1) := by decide +kernel
theorem dX12_wanted_19 : decode cX12_wanted 19 = .ok (.if_icmp .ne 8, 3) := by decide +kernel
theorem dX12_wanted_22 : decode cX12_wanted 22 = .ok (.bipush (-2), 2) := by decide +kernel
theorem dX12_wanted_24 : decode cX12_wanted 24 = .ok (.goto 18, 3) := by decide +kernel
theorem dX12_wanted_27 : decode cX12_wanted 27 = .ok (.aload_n 0, 1) := by decide +kernel
theorem dX12_wanted_28 : decode cX12_wanted 28 = .ok (.getfield 36, 3) := by decide +kernel
theorem dX12_wanted_31 : decode cX12_wanted 31 = .ok (.iload_n 1, 1) := by decide +kernel
theorem dX12_wanted_32 : decode cX12_wanted 32 = .ok (.iaload, 1) := by decide +kernel
theorem dX12_wanted_33 : decode cX12_wanted 33 = .ok (.ifCond .ne 8, 3) := by decide +kernel
theorem dX12_wanted_36 : decode cX12_wanted 36 = .ok (.bipush (-3), 2) := by decide +kernel
theorem dX12_wanted_38 : decode cX12_wanted 38 = .ok (.goto 4, 3) := by decide +kernel
theorem dX12_wanted_41 : decode cX12_wanted 41 = .ok (.iconst 0, 1) := by decide +kernel
theorem dX12_wanted_42 : decode cX12_wanted 42 = .ok (.ireturn, 1) := by decide +kernel
theorem dX12_bars_0 : decode cX12_bars 0 = .ok (.aload_n 0, 1) := by decide +kernel
theorem dX12_bars_1 : decode cX12_bars 1 = .ok (.iload_n 1, 1) := by decide +kernel
theorem dX12_bars_2 : decode cX12_bars 2 = .ok (.invokevirtual 123, 3) := by decide +kernel
theorem dX12_bars_5 : decode cX12_bars 5 = .ok (.istore_n 3, 1) := by decide +kernel
theorem dX12_bars_6 : decode cX12_bars 6 = .ok (.iload_n 3, 1) := by decide +kernel
theorem dX12_bars_7 : decode cX12_bars 7 = .ok (.ifCond .eq 5, 3) := by decide +kernel
theorem dX12_bars_10 : decode cX12_bars 10 = .ok (.iload_n 3, 1) := by decide +kernel
theorem dX12_bars_11 : decode cX12_bars 11 = .ok (.ireturn, 1) := by decide +kernel
theorem dX12_bars_12 : decode cX12_bars 12 = .ok (.iload_n 2, 1) := by decide +kernel
theorem dX12_bars_13 : decode cX12_bars 13 = .ok (.ifCond .ge 8, 3) := by decide +kernel
theorem dX12_bars_16 : decode cX12_bars 16 = .ok (.bipush (-4), 2) := by decide +kernel
theorem dX12_bars_18 : decode cX12_bars 18 = .ok (.goto 35, 3) := by decide +kernel
theorem dX12_bars_21 : decode cX12_bars 21 = .ok (.iload_n 2, 1) := by decide +kernel
theorem dX12_bars_22 : decode cX12_bars 22 = .ok (.aload_n 0, 1) := by decide +kernel
theorem dX12_bars_23 : decode cX12_bars 23 = .ok (.getfield 42, 3) := by decide +kernel
theorem dX12_bars_26 : decode cX12_bars 26 = .ok (.iload_n 1, 1) := by decide +kernel
theorem dX12_bars_27 : decode cX12_bars 27 = .ok (.iaload, 1) := by decide +kernel
theorem dX12_bars_28 : decode cX12_bars 28 = .ok (.if_icmp .le 8, 3) := by decide +kernel
theorem dX12_bars_31 : decode cX12_bars 31 = .ok (.bipush (-5), 2) := by decide +kernel
theorem dX12_bars_33 : decode cX12_bars 33 = .ok (.goto 20, 3) := by decide +kernel
theorem dX12_bars_36 : decode cX12_bars 36 = .ok (.iload_n 2, 1) := by decide +kernel
theorem dX12_bars_37 : decode cX12_bars 37 = .ok (.iconst 1, 1) := by decide +kernel
theorem dX12_bars_38 : decode cX12_bars 38 = .ok (.if_icmp .lt 9, 3) := by decide +kernel
theorem dX12_bars_41 : decode cX12_bars 41 = .ok (.iload_n 2, 1) := by decide +kernel
theorem dX12_bars_42 : decode cX12_bars 42 = .ok (.bipush 20, 2) := by decide +kernel
theorem dX12_bars_44 : decode cX12_bars 44 = .ok (.if_icmp .le 8, 3) := by decide +kernel
theorem dX12_bars_47 : decode cX12_bars 47 = .ok (.bipush (-6), 2) := by decide +kernel
theorem dX12_bars_49 : decode cX12_bars 49 = .ok (.goto 4, 3) := by decide +kernel
theorem dX12_bars_52 : decode cX12_bars 52 = .ok (.iconst 0, 1) := by decide +kernel
theorem dX12_bars_53 : decode cX12_bars 53 = .ok (.ireturn, 1) := by decide +kernel
theorem dX12_base_0 : decode cX12_base 0 = .ok (.iload_n 1, 1) := by decide +kernel
theorem dX12_base_1 : decode cX12_base 1 = .ok (.iconst 2, 1) := by decide +kernel
theorem dX12_base_2 : decode cX12_base 2 = .ok (.if_icmp .lt 9, 3) := by decide +kernel
theorem dX12_base_5 : decode cX12_base 5 = .ok (.iload_n 1, 1) := by decide +kernel
theorem dX12_base_6 : decode cX12_base 6 = .ok (.bipush 10, 2) := by decide +kernel
theorem dX12_base_8 : decode cX12_base 8 = .ok (.if_icmp .le 10, 3) := by decide +kernel
theorem dX12_base_11 : decode cX12_base 11 = .ok (.aload_n 0, 1) := by decide +kernel
theorem dX12_base_12 : decode cX12_base 12 = .ok (.bipush (-6), 2) := by decide +kernel
theorem dX12_base_14 : decode cX12_base 14 = .ok (.invokevirtual 99, 3) := by decide +kernel
theorem dX12_base_17 : decode cX12_base 17 = .ok (.ireturn, 1) := by decide +kernel
theorem dX12_base_18 : decode cX12_base 18 = .ok (.aload_n 0, 1) := by decide +kernel
theorem dX12_base_19 : decode cX12_base 19 = .ok (.getfield 7, 3) := by decide +kernel
theorem dX12_base_22 : decode cX12_base 22 = .ok (.istore_n 2, 1) := by decide +kernel
theorem dX12_base_23 : decode cX12_base 23 = .ok (.aload_n 0, 1) := by decide +kernel
theorem dX12_base_24 : decode cX12_base 24 = .ok (.iload_n 1, 1) := by decide +kernel
theorem dX12_base_25 : decode cX12_base 25 = .ok (.putfield 7, 3) := by decide +kernel
theorem dX12_base_28 : decode cX12_base 28 = .ok (.iload_n 2, 1) := by decide +kernel
theorem dX12_base_29 : decode cX12_base 29 = .ok (.ireturn, 1) := by decide +kernel
theorem dX12_adds_0 : decode cX12_adds 0 = .ok (.aload_n 0, 1) := by decide +kernel
theorem dX12_adds_1 : decode cX12_adds 1 = .ok (.getfield 23, 3) := by decide +kernel
theorem dX12_adds_4 : decode cX12_adds 4 = .ok (.aload_n 0, 1) := by decide +kernel
theorem dX12_adds_5 : decode cX12_adds 5 = .ok (.getfield 90, 3) := by decide +kernel
theorem dX12_adds_8 : decode cX12_adds 8 = .ok (.iload_n 1, 1) := by decide +kernel
theorem dX12_adds_9 : decode cX12_adds 9 = .ok (.iastore, 1) := by decide +kernel
theorem dX12_adds_10 : decode cX12_adds 10 = .ok (.aload_n 0, 1) := by decide +kernel
theorem dX12_adds_11 : decode cX12_adds 11 = .ok (.getfield 26, 3) := by decide +kernel
theorem dX12_adds_14 : decode cX12_adds 14 = .ok (.aload_n 0, 1) := by decide +kernel
theorem dX12_adds_15 : decode cX12_adds 15 = .ok (.getfield 90, 3) := by decide +kernel
theorem dX12_adds_18 : decode cX12_adds 18 = .ok (.iload_n 2, 1) := by decide +kernel
theorem dX12_adds_19 : decode cX12_adds 19 = .ok (.iastore, 1) := by decide +kernel
theorem dX12_adds_20 : decode cX12_adds 20 = .ok (.iconst 0, 1) := by decide +kernel
theorem dX12_adds_21 : decode cX12_adds 21 = .ok (.istore_n 3, 1) := by decide +kernel
theorem dX12_adds_22 : decode cX12_adds 22 = .ok (.iload_n 3, 1) := by decide +kernel
theorem dX12_adds_23 : decode cX12_adds 23 = .ok (.bipush 10, 2) := by decide +kernel
theorem dX12_adds_25 : decode cX12_adds 25 = .ok (.if_icmp .ge 24, 3) := by decide +kernel
theorem dX12_adds_28 : decode cX12_adds 28 = .ok (.aload_n 0, 1) := by decide +kernel
theorem dX12_adds_29 : decode cX12_adds 29 = .ok (.getfield 29, 3) := by decide +kernel
theorem dX12_adds_32 : decode cX12_adds 32 = .ok (.bipush 10, 2) := by decide +kernel
theorem dX12_adds_34 : decode cX12_adds 34 = .ok (.aload_n 0, 1) := by decide +kernel
theorem dX12_adds_35 : decode cX12_adds 35 = .ok (.getfield 90, 3) := by decide +kernel
theorem dX12_adds_38 : decode cX12_adds 38 = .ok (.imul, 1) := by decide +kernel
theorem dX12_adds_39 : decode cX12_adds 39 = .ok (.iload_n 3, 1) := by decide +kernel
theorem dX12_adds_40 : decode cX12_adds 40 = .ok (.iadd, 1) := by decide +kernel
theorem dX12_adds_41 : decode cX12_adds 41 = .ok (.iconst 0, 1) := by decide +kernel
theorem dX12_adds_42 : decode cX12_adds 42 = .ok (.iastore, 1) := by decide +kernel
theorem dX12_adds_43 : decode cX12_adds 43 = .ok (.iinc 3 1, 3) := by decide +kernel
theorem dX12_adds_46 : decode cX12_adds 46 = .ok (.goto (-24), 3) := by decide +kernel
theorem dX12_adds_49 : decode cX12_adds 49 = .ok (.aload_n 0, 1) := by decide +kernel
theorem dX12_adds_50 : decode cX12_adds 50 = .ok (.dup, 1) := by decide +kernel
theorem dX12_adds_51 : decode cX12_adds 51 = .ok (.getfield 90, 3) := by decide +kernel
theorem dX12_adds_54 : decode cX12_adds 54 = .ok (.dup_x1, 1) := by decide +kernel
theorem dX12_adds_55 : decode cX12_adds 55 = .ok (.iconst 1, 1) := by decide +kernel
theorem dX12_adds_56 : decode cX12_adds 56 = .ok (.iadd, 1) := by decide +kernel
theorem dX12_adds_57 : decode cX12_adds 57 = .ok (.putfield 90, 3) := by decide +kernel
theorem dX12_adds_60 : decode cX12_adds 60 = .ok (.ireturn, 1) := by decide +kernel
theorem dX12_law_0 : decode cX12_law 0 = .ok (.iload_n 1, 1) := by decide +kernel
theorem dX12_law_1 : decode cX12_law 1 = .ok (.ifCond .lt 9, 3) := by decide +kernel
theorem dX12_law_4 : decode cX12_law 4 = .ok (.iload_n 1, 1) := by decide +kernel
theorem dX12_law_5 : decode cX12_law 5 = .ok (.bipush 6, 2) := by decide +kernel
theorem dX12_law_7 : decode cX12_law 7 = .ok (.if_icmp .le 9, 3) := by decide +kernel
theorem dX12_law_10 : decode cX12_law 10 = .ok (.aload_n 0, 1) := by decide +kernel
theorem dX12_law_11 : decode cX12_law 11 = .ok (.iconst (-1), 1) := by decide +kernel
theorem dX12_law_12 : decode cX12_law 12 = .ok (.invokevirtual 99, 3) := by decide +kernel
theorem dX12_law_15 : decode cX12_law 15 = .ok (.ireturn, 1) := by decide +kernel
theorem dX12_law_16 : decode cX12_law 16 = .ok (.iload_n 2, 1) := by decide +kernel
theorem dX12_law_17 : decode cX12_law 17 = .ok (.ifCond .lt 9, 3) := by decide +kernel
theorem dX12_law_20 : decode cX12_law 20 = .ok (.iload_n 2, 1) := by decide +kernel
theorem dX12_law_21 : decode cX12_law 21 = .ok (.bipush 9, 2) := by decide +kernel
theorem dX12_law_23 : decode cX12_law 23 = .ok (.if_icmp .le 10, 3) := by decide +kernel
theorem dX12_law_26 : decode cX12_law 26 = .ok (.aload_n 0, 1) := by decide +kernel
theorem dX12_law_27 : decode cX12_law 27 = .ok (.bipush (-6), 2) := by decide +kernel
theorem dX12_law_29 : decode cX12_law 29 = .ok (.invokevirtual 99, 3) := by decide +kernel
theorem dX12_law_32 : decode cX12_law 32 = .ok (.ireturn, 1) := by decide +kernel
theorem dX12_law_33 : decode cX12_law 33 = .ok (.aload_n 0, 1) := by decide +kernel
theorem dX12_law_34 : decode cX12_law 34 = .ok (.getfield 90, 3) := by decide +kernel
theorem dX12_law_37 : decode cX12_law 37 = .ok (.bipush 6, 2) := by decide +kernel
theorem dX12_law_39 : decode cX12_law 39 = .ok (.if_icmp .ne 12, 3) := by decide +kernel
theorem dX12_law_42 : decode cX12_law 42 = .ok (.aload_n 0, 1) := by decide +kernel
theorem dX12_law_43 : decode cX12_law 43 = .ok (.bipush (-7), 2) := by decide +kernel
theorem dX12_law_45 : decode cX12_law 45 = .ok (.invokevirtual 99, 3) := by decide +kernel
theorem dX12_law_48 : decode cX12_law 48 = .ok (.goto 9, 3) := by decide +kernel
theorem dX12_law_51 : decode cX12_law 51 = .ok (.aload_n 0, 1) := by decide +kernel
theorem dX12_law_52 : decode cX12_law 52 = .ok (.iload_n 1, 1) := by decide +kernel
theorem dX12_law_53 : decode cX12_law 53 = .ok (.iload_n 2, 1) := by decide +kernel
theorem dX12_law_54 : decode cX12_law 54 = .ok (.invokevirtual 126, 3) := by decide +kernel
theorem dX12_law_57 : decode cX12_law 57 = .ok (.ireturn, 1) := by decide +kernel
theorem dX12_value_0 : decode cX12_value 0 = .ok (.aload_n 0, 1) := by decide +kernel
theorem dX12_value_1 : decode cX12_value 1 = .ok (.iload_n 1, 1) := by decide +kernel
theorem dX12_value_2 : decode cX12_value 2 = .ok (.invokevirtual 103, 3) := by decide +kernel
theorem dX12_value_5 : decode cX12_value 5 = .ok (.ifCond .ne 9, 3) := by decide +kernel
theorem dX12_value_8 : decode cX12_value 8 = .ok (.aload_n 0, 1) := by decide +kernel
theorem dX12_value_9 : decode cX12_value 9 = .ok (.iconst (-1), 1) := by decide +kernel
theorem dX12_value_10 : decode cX12_value 10 = .ok (.invokevirtual 99, 3) := by decide +kernel
theorem dX12_value_13 : decode cX12_value 13 = .ok (.ireturn, 1) := by decide +kernel
theorem dX12_value_14 : decode cX12_value 14 = .ok (.aload_n 0, 1) := by decide +kernel
theorem dX12_value_15 : decode cX12_value 15 = .ok (.getfield 23, 3) := by decide +kernel
theorem dX12_value_18 : decode cX12_value 18 = .ok (.iload_n 1, 1) := by decide +kernel
theorem dX12_value_19 : decode cX12_value 19 = .ok (.iaload, 1) := by decide +kernel
theorem dX12_value_20 : decode cX12_value 20 = .ok (.iconst 5, 1) := by decide +kernel
theorem dX12_value_21 : decode cX12_value 21 = .ok (.if_icmp .ne 24, 3) := by decide +kernel
theorem dX12_value_24 : decode cX12_value 24 = .ok (.iload_n 2, 1) := by decide +kernel
theorem dX12_value_25 : decode cX12_value 25 = .ok (.ifCond .lt 20, 3) := by decide +kernel
theorem dX12_value_28 : decode cX12_value 28 = .ok (.iload_n 2, 1) := by decide +kernel
theorem dX12_value_29 : decode cX12_value 29 = .ok (.bipush 9, 2) := by decide +kernel
theorem dX12_value_31 : decode cX12_value 31 = .ok (.if_icmp .gt 14, 3) := by decide +kernel
theorem dX12_value_34 : decode cX12_value 34 = .ok (.iload_n 3, 1) := by decide +kernel
theorem dX12_value_35 : decode cX12_value 35 = .ok (.ifCond .lt 10, 3) := by decide +kernel
theorem dX12_value_38 : decode cX12_value 38 = .ok (.iload_n 3, 1) := by decide +kernel
theorem dX12_value_39 : decode cX12_value 39 = .ok (.sipush 999, 3) := by decide +kernel
theorem dX12_value_42 : decode cX12_value 42 = .ok (.if_icmp .le 10, 3) := by decide +kernel
theorem dX12_value_45 : decode cX12_value 45 = .ok (.aload_n 0, 1) := by decide +kernel
theorem dX12_value_46 : decode cX12_value 46 = .ok (.bipush (-6), 2) := by decide +kernel
theorem dX12_value_48 : decode cX12_value 48 = .ok (.invokevirtual 99, 3) := by decide +kernel
theorem dX12_value_51 : decode cX12_value 51 = .ok (.ireturn, 1) := by decide +kernel
theorem dX12_value_52 : decode cX12_value 52 = .ok (.aload_n 0, 1) := by decide +kernel
theorem dX12_value_53 : decode cX12_value 53 = .ok (.getfield 29, 3) := by decide +kernel
theorem dX12_value_56 : decode cX12_value 56 = .ok (.bipush 10, 2) := by decide +kernel
theorem dX12_value_58 : decode cX12_value 58 = .ok (.iload_n 1, 1) := by decide +kernel
theorem dX12_value_59 : decode cX12_value 59 = .ok (.imul, 1) := by decide +kernel
theorem dX12_value_60 : decode cX12_value 60 = .ok (.iload_n 2, 1) := by decide +kernel
theorem dX12_value_61 : decode cX12_value 61 = .ok (.iadd, 1) := by decide +kernel
theorem dX12_value_62 : decode cX12_value 62 = .ok (.iaload, 1) := by decide +kernel
theorem dX12_value_63 : decode cX12_value 63 = .ok (.istore 4, 2) := by decide +kernel
theorem dX12_value_65 : decode cX12_value 65 = .ok (.aload_n 0, 1) := by decide +kernel
theorem dX12_value_66 : decode cX12_value 66 = .ok (.getfield 29, 3) := by decide +kernel
theorem dX12_value_69 : decode cX12_value 69 = .ok (.bipush 10, 2) := by decide +kernel
theorem dX12_value_71 : decode cX12_value 71 = .ok (.iload_n 1, 1) := by decide +kernel
theorem dX12_value_72 : decode cX12_value 72 = .ok (.imul, 1) := by decide +kernel
theorem dX12_value_73 : decode cX12_value 73 = .ok (.iload_n 2, 1) := by decide +kernel
theorem dX12_value_74 : decode cX12_value 74 = .ok (.iadd, 1) := by decide +kernel
theorem dX12_value_75 : decode cX12_value 75 = .ok (.iload_n 3, 1) := by decide +kernel
theorem dX12_value_76 : decode cX12_value 76 = .ok (.iastore, 1) := by decide +kernel
theorem dX12_value_77 : decode cX12_value 77 = .ok (.iload 4, 2) := by decide +kernel
theorem dX12_value_79 : decode cX12_value 79 = .ok (.ireturn, 1) := by decide +kernel
theorem dX12_lawOf_0 : decode cX12_lawOf 0 = .ok (.aload_n 0, 1) := by decide +kernel
theorem dX12_lawOf_1 : decode cX12_lawOf 1 = .ok (.iload_n 1, 1) := by decide +kernel
theorem dX12_lawOf_2 : decode cX12_lawOf 2 = .ok (.invokevirtual 103, 3) := by decide +kernel
theorem dX12_lawOf_5 : decode cX12_lawOf 5 = .ok (.ifCond .ne 10, 3) := by decide +kernel
theorem dX12_lawOf_8 : decode cX12_lawOf 8 = .ok (.aload_n 0, 1) := by decide +kernel
theorem dX12_lawOf_9 : decode cX12_lawOf 9 = .ok (.bipush (-5), 2) := by decide +kernel
theorem dX12_lawOf_11 : decode cX12_lawOf 11 = .ok (.invokevirtual 99, 3) := by decide +kernel
theorem dX12_lawOf_14 : decode cX12_lawOf 14 = .ok (.ireturn, 1) := by decide +kernel
theorem dX12_lawOf_15 : decode cX12_lawOf 15 = .ok (.iload_n 2, 1) := by decide +kernel
theorem dX12_lawOf_16 : decode cX12_lawOf 16 = .ok (.bipush 10, 2) := by decide +kernel
theorem dX12_lawOf_18 : decode cX12_lawOf 18 = .ok (.if_icmp .lt 24, 3) := by decide +kernel
theorem dX12_lawOf_21 : decode cX12_lawOf 21 = .ok (.iload_n 2, 1) := by decide +kernel
theorem dX12_lawOf_22 : decode cX12_lawOf 22 = .ok (.bipush 19, 2) := by decide +kernel
theorem dX12_lawOf_24 : decode cX12_lawOf 24 = .ok (.if_icmp .gt 18, 3) := by decide +kernel
theorem dX12_lawOf_27 : decode cX12_lawOf 27 = .ok (.aload_n 0, 1) := by decide +kernel
theorem dX12_lawOf_28 : decode cX12_lawOf 28 = .ok (.getfield 29, 3) := by decide +kernel
theorem dX12_lawOf_31 : decode cX12_lawOf 31 = .ok (.bipush 10, 2) := by decide +kernel
theorem dX12_lawOf_33 : decode cX12_lawOf 33 = .ok (.iload_n 1, 1) := by decide +kernel
theorem dX12_lawOf_34 : decode cX12_lawOf 34 = .ok (.imul, 1) := by decide +kernel
theorem dX12_lawOf_35 : decode cX12_lawOf 35 = .ok (.iload_n 2, 1) := by decide +kernel
theorem dX12_lawOf_36 : decode cX12_lawOf 36 = .ok (.iadd, 1) := by decide +kernel
theorem dX12_lawOf_37 : decode cX12_lawOf 37 = .ok (.bipush 10, 2) := by decide +kernel
theorem dX12_lawOf_39 : decode cX12_lawOf 39 = .ok (.isub, 1) := by decide +kernel
theorem dX12_lawOf_40 : decode cX12_lawOf 40 = .ok (.iaload, 1) := by decide +kernel
theorem dX12_lawOf_41 : decode cX12_lawOf 41 = .ok (.ireturn, 1) := by decide +kernel
theorem dX12_lawOf_42 : decode cX12_lawOf 42 = .ok (.iload_n 2, 1) := by decide +kernel
theorem dX12_lawOf_43 : decode cX12_lawOf 43 = .ok (.ifCond .lt 8, 3) := by decide +kernel
theorem dX12_lawOf_46 : decode cX12_lawOf 46 = .ok (.iload_n 2, 1) := by decide +kernel
theorem dX12_lawOf_47 : decode cX12_lawOf 47 = .ok (.iconst 1, 1) := by decide +kernel
theorem dX12_lawOf_48 : decode cX12_lawOf 48 = .ok (.if_icmp .le 10, 3) := by decide +kernel
theorem dX12_lawOf_51 : decode cX12_lawOf 51 = .ok (.aload_n 0, 1) := by decide +kernel
theorem dX12_lawOf_52 : decode cX12_lawOf 52 = .ok (.bipush (-5), 2) := by decide +kernel
theorem dX12_lawOf_54 : decode cX12_lawOf 54 = .ok (.invokevirtual 99, 3) := by decide +kernel
theorem dX12_lawOf_57 : decode cX12_lawOf 57 = .ok (.ireturn, 1) := by decide +kernel
theorem dX12_lawOf_58 : decode cX12_lawOf 58 = .ok (.iload_n 2, 1) := by decide +kernel
theorem dX12_lawOf_59 : decode cX12_lawOf 59 = .ok (.ifCond .ne 12, 3) := by decide +kernel
theorem dX12_lawOf_62 : decode cX12_lawOf 62 = .ok (.aload_n 0, 1) := by decide +kernel
theorem dX12_lawOf_63 : decode cX12_lawOf 63 = .ok (.getfield 23, 3) := by decide +kernel
theorem dX12_lawOf_66 : decode cX12_lawOf 66 = .ok (.iload_n 1, 1) := by decide +kernel
theorem dX12_lawOf_67 : decode cX12_lawOf 67 = .ok (.iaload, 1) := by decide +kernel
theorem dX12_lawOf_68 : decode cX12_lawOf 68 = .ok (.goto 9, 3) := by decide +kernel
theorem dX12_lawOf_71 : decode cX12_lawOf 71 = .ok (.aload_n 0, 1) := by decide +kernel
theorem dX12_lawOf_72 : decode cX12_lawOf 72 = .ok (.getfield 26, 3) := by decide +kernel
theorem dX12_lawOf_75 : decode cX12_lawOf 75 = .ok (.iload_n 1, 1) := by decide +kernel
theorem dX12_lawOf_76 : decode cX12_lawOf 76 = .ok (.iaload, 1) := by decide +kernel
theorem dX12_lawOf_77 : decode cX12_lawOf 77 = .ok (.ireturn, 1) := by decide +kernel
theorem dX12_wrong_0 : decode cX12_wrong 0 = .ok (.aload_n 0, 1) := by decide +kernel
theorem dX12_wrong_1 : decode cX12_wrong 1 = .ok (.iload_n 1, 1) := by decide +kernel
theorem dX12_wrong_2 : decode cX12_wrong 2 = .ok (.putfield 130, 3) := by decide +kernel
theorem dX12_wrong_5 : decode cX12_wrong 5 = .ok (.iconst 0, 1) := by decide +kernel
theorem dX12_wrong_6 : decode cX12_wrong 6 = .ok (.ireturn, 1) := by decide +kernel
theorem dX12_isWordAt_0 : decode cX12_isWordAt 0 = .ok (.iconst 0, 1) := by decide +kernel
theorem dX12_isWordAt_1 : decode cX12_isWordAt 1 = .ok (.istore_n 2, 1) := by decide +kernel
theorem dX12_isWordAt_2 : decode cX12_isWordAt 2 = .ok (.iconst 0, 1) := by decide +kernel
theorem dX12_isWordAt_3 : decode cX12_isWordAt 3 = .ok (.istore_n 3, 1) := by decide +kernel
theorem dX12_isWordAt_4 : decode cX12_isWordAt 4 = .ok (.iload_n 3, 1) := by decide +kernel
theorem dX12_isWordAt_5 : decode cX12_isWordAt 5 = .ok (.iload_n 1, 1) := by decide +kernel
theorem dX12_isWordAt_6 : decode cX12_isWordAt 6 = .ok (.if_icmp .ge 26, 3) := by decide +kernel
theorem dX12_isWordAt_9 : decode cX12_isWordAt 9 = .ok (.iload_n 3, 1) := by decide +kernel
theorem dX12_isWordAt_10 : decode cX12_isWordAt 10 = .ok (.aload_n 0, 1) := by decide +kernel
theorem dX12_isWordAt_11 : decode cX12_isWordAt 11 = .ok (.getfield 54, 3) := by decide +kernel
theorem dX12_isWordAt_14 : decode cX12_isWordAt 14 = .ok (.iload_n 2, 1) := by decide +kernel
theorem dX12_isWordAt_15 : decode cX12_isWordAt 15 = .ok (.iaload, 1) := by decide +kernel
theorem dX12_isWordAt_16 : decode cX12_isWordAt 16 = .ok (.ifCond .ne 7, 3) := by decide +kernel
theorem dX12_isWordAt_19 : decode cX12_isWordAt 19 = .ok (.iconst 1, 1) := by decide +kernel
theorem dX12_isWordAt_20 : decode cX12_isWordAt 20 = .ok (.goto 4, 3) := by decide +kernel
theorem dX12_isWordAt_23 : decode cX12_isWordAt 23 = .ok (.iconst 0, 1) := by decide +kernel
theorem dX12_isWordAt_24 : decode cX12_isWordAt 24 = .ok (.iadd, 1) := by decide +kernel
theorem dX12_isWordAt_25 : decode cX12_isWordAt 25 = .ok (.istore_n 3, 1) := by decide +kernel
theorem dX12_isWordAt_26 : decode cX12_isWordAt 26 = .ok (.iinc 2 1, 3) := by decide +kernel
theorem dX12_isWordAt_29 : decode cX12_isWordAt 29 = .ok (.goto (-25), 3) := by decide +kernel
theorem dX12_isWordAt_32 : decode cX12_isWordAt 32 = .ok (.aload_n 0, 1) := by decide +kernel
theorem dX12_isWordAt_33 : decode cX12_isWordAt 33 = .ok (.getfield 133, 3) := by decide +kernel
theorem dX12_isWordAt_36 : decode cX12_isWordAt 36 = .ok (.istore_n 3, 1) := by decide +kernel
theorem dX12_isWordAt_37 : decode cX12_isWordAt 37 = .ok (.aload_n 0, 1) := by decide +kernel
theorem dX12_isWordAt_38 : decode cX12_isWordAt 38 = .ok (.getfield 54, 3) := by decide +kernel
theorem dX12_isWordAt_41 : decode cX12_isWordAt 41 = .ok (.iload_n 2, 1) := by decide +kernel
theorem dX12_isWordAt_42 : decode cX12_isWordAt 42 = .ok (.iaload, 1) := by decide +kernel
theorem dX12_isWordAt_43 : decode cX12_isWordAt 43 = .ok (.bipush 32, 2) := by decide +kernel
theorem dX12_isWordAt_45 : decode cX12_isWordAt 45 = .ok (.if_icmp .le 41, 3) := by decide +kernel
theorem dX12_isWordAt_48 : decode cX12_isWordAt 48 = .ok (.iload_n 3, 1) := by decide +kernel
theorem dX12_isWordAt_49 : decode cX12_isWordAt 49 = .ok (.aload_n 0, 1) := by decide +kernel
theorem dX12_isWordAt_50 : decode cX12_isWordAt 50 = .ok (.getfield 136, 3) := by decide +kernel
theorem dX12_isWordAt_53 : decode cX12_isWordAt 53 = .ok (.if_icmp .ge 33, 3) := by decide +kernel
theorem dX12_isWordAt_56 : decode cX12_isWordAt 56 = .ok (.aload_n 0, 1) := by decide +kernel
theorem dX12_isWordAt_57 : decode cX12_isWordAt 57 = .ok (.getfield 48, 3) := by decide +kernel
theorem dX12_isWordAt_60 : decode cX12_isWordAt 60 = .ok (.aload_n 0, 1) := by decide +kernel
theorem dX12_isWordAt_61 : decode cX12_isWordAt 61 = .ok (.getfield 139, 3) := by decide +kernel
theorem dX12_isWordAt_64 : decode cX12_isWordAt 64 = .ok (.iload_n 3, 1) := by decide +kernel
theorem dX12_isWordAt_65 : decode cX12_isWordAt 65 = .ok (.iadd, 1) := by decide +kernel
theorem dX12_isWordAt_66 : decode cX12_isWordAt 66 = .ok (.laload, 1) := by decide +kernel
theorem dX12_isWordAt_67 : decode cX12_isWordAt 67 = .ok (.l2i, 1) := by decide +kernel
theorem dX12_isWordAt_68 : decode cX12_isWordAt 68 = .ok (.aload_n 0, 1) := by decide +kernel
theorem dX12_isWordAt_69 : decode cX12_isWordAt 69 = .ok (.getfield 54, 3) := by decide +kernel
theorem dX12_isWordAt_72 : decode cX12_isWordAt 72 = .ok (.iload_n 2, 1) := by decide +kernel
theorem dX12_isWordAt_73 : decode cX12_isWordAt 73 = .ok (.iaload, 1) := by decide +kernel
theorem dX12_isWordAt_74 : decode cX12_isWordAt 74 = .ok (.if_icmp .ne 12, 3) := by decide +kernel
theorem dX12_isWordAt_77 : decode cX12_isWordAt 77 = .ok (.iinc 3 1, 3) := by decide +kernel
theorem dX12_isWordAt_80 : decode cX12_isWordAt 80 = .ok (.iinc 2 1, 3) := by decide +kernel
theorem dX12_isWordAt_83 : decode cX12_isWordAt 83 = .ok (.goto (-46), 3) := by decide +kernel
theorem dX12_isWordAt_86 : decode cX12_isWordAt 86 = .ok (.aload_n 0, 1) := by decide +kernel
theorem dX12_isWordAt_87 : decode cX12_isWordAt 87 = .ok (.getfield 54, 3) := by decide +kernel
theorem dX12_isWordAt_90 : decode cX12_isWordAt 90 = .ok (.iload_n 2, 1) := by decide +kernel
theorem dX12_isWordAt_91 : decode cX12_isWordAt 91 = .ok (.iaload, 1) := by decide +kernel
theorem dX12_isWordAt_92 : decode cX12_isWordAt 92 = .ok (.bipush 32, 2) := by decide +kernel
theorem dX12_isWordAt_94 : decode cX12_isWordAt 94 = .ok (.if_icmp .gt 7, 3) := by decide +kernel
theorem dX12_isWordAt_97 : decode cX12_isWordAt 97 = .ok (.iconst 1, 1) := by decide +kernel
theorem dX12_isWordAt_98 : decode cX12_isWordAt 98 = .ok (.goto 4, 3) := by decide +kernel
theorem dX12_isWordAt_101 : decode cX12_isWordAt 101 = .ok (.iconst 0, 1) := by decide +kernel
theorem dX12_isWordAt_102 : decode cX12_isWordAt 102 = .ok (.ireturn, 1) := by decide +kernel
theorem dX12_word_0 : decode cX12_word 0 = .ok (.iconst 0, 1) := by decide +kernel
theorem dX12_word_1 : decode cX12_word 1 = .ok (.istore_n 1, 1) := by decide +kernel
theorem dX12_word_2 : decode cX12_word 2 = .ok (.aload_n 0, 1) := by decide +kernel
theorem dX12_word_3 : decode cX12_word 3 = .ok (.getfield 133, 3) := by decide +kernel
theorem dX12_word_6 : decode cX12_word 6 = .ok (.istore_n 2, 1) := by decide +kernel
theorem dX12_word_7 : decode cX12_word 7 = .ok (.iconst 0, 1) := by decide +kernel
theorem dX12_word_8 : decode cX12_word 8 = .ok (.istore_n 3, 1) := by decide +kernel
theorem dX12_word_9 : decode cX12_word 9 = .ok (.iload_n 3, 1) := by decide +kernel
theorem dX12_word_10 : decode cX12_word 10 = .ok (.iconst 5, 1) := by decide +kernel
theorem dX12_word_11 : decode cX12_word 11 = .ok (.if_icmp .ge 118, 3) := by decide +kernel
theorem dX12_word_14 : decode cX12_word 14 = .ok (.aload_n 0, 1) := by decide +kernel
theorem dX12_word_15 : decode cX12_word 15 = .ok (.getfield 133, 3) := by decide +kernel
theorem dX12_word_18 : decode cX12_word 18 = .ok (.istore 4, 2) := by decide +kernel
theorem dX12_word_20 : decode cX12_word 20 = .ok (.iload_n 1, 1) := by decide +kernel
theorem dX12_word_21 : decode cX12_word 21 = .ok (.istore 5, 2) := by decide +kernel
theorem dX12_word_23 : decode cX12_word 23 = .ok (.aload_n 0, 1) := by decide +kernel
theorem dX12_word_24 : decode cX12_word 24 = .ok (.getfield 54, 3) := by decide +kernel
theorem dX12_word_27 : decode cX12_word 27 = .ok (.iload 5, 2) := by decide +kernel
theorem dX12_word_29 : decode cX12_word 29 = .ok (.iaload, 1) := by decide +kernel
theorem dX12_word_30 : decode cX12_word 30 = .ok (.ifCond .eq 44, 3) := by decide +kernel
theorem dX12_word_33 : decode cX12_word 33 = .ok (.iload 4, 2) := by decide +kernel
theorem dX12_word_35 : decode cX12_word 35 = .ok (.aload_n 0, 1) := by decide +kernel
theorem dX12_word_36 : decode cX12_word 36 = .ok (.getfield 136, 3) := by decide +kernel
theorem dX12_word_39 : decode cX12_word 39 = .ok (.if_icmp .ge 35, 3) := by decide +kernel
theorem dX12_word_42 : decode cX12_word 42 = .ok (.aload_n 0, 1) := by decide +kernel
theorem dX12_word_43 : decode cX12_word 43 = .ok (.getfield 48, 3) := by decide +kernel
theorem dX12_word_46 : decode cX12_word 46 = .ok (.aload_n 0, 1) := by decide +kernel
theorem dX12_word_47 : decode cX12_word 47 = .ok (.getfield 139, 3) := by decide +kernel
theorem dX12_word_50 : decode cX12_word 50 = .ok (.iload 4, 2) := by decide +kernel
theorem dX12_word_52 : decode cX12_word 52 = .ok (.iadd, 1) := by decide +kernel
theorem dX12_word_53 : decode cX12_word 53 = .ok (.laload, 1) := by decide +kernel
theorem dX12_word_54 : decode cX12_word 54 = .ok (.l2i, 1) := by decide +kernel
theorem dX12_word_55 : decode cX12_word 55 = .ok (.aload_n 0, 1) := by decide +kernel
theorem dX12_word_56 : decode cX12_word 56 = .ok (.getfield 54, 3) := by decide +kernel
theorem dX12_word_59 : decode cX12_word 59 = .ok (.iload 5, 2) := by decide +kernel
theorem dX12_word_61 : decode cX12_word 61 = .ok (.iaload, 1) := by decide +kernel
theorem dX12_word_62 : decode cX12_word 62 = .ok (.if_icmp .ne 12, 3) := by decide +kernel
theorem dX12_word_65 : decode cX12_word 65 = .ok (.iinc 4 1, 3) := by decide +kernel
theorem dX12_word_68 : decode cX12_word 68 = .ok (.iinc 5 1, 3) := by decide +kernel
theorem dX12_word_71 : decode cX12_word 71 = .ok (.goto (-48), 3) := by decide +kernel
theorem dX12_word_74 : decode cX12_word 74 = .ok (.aload_n 0, 1) := by decide +kernel
theorem dX12_word_75 : decode cX12_word 75 = .ok (.getfield 54, 3) := by decide +kernel
theorem dX12_word_78 : decode cX12_word 78 = .ok (.iload 5, 2) := by decide +kernel
theorem dX12_word_80 : decode cX12_word 80 = .ok (.iaload, 1) := by decide +kernel
theorem dX12_word_81 : decode cX12_word 81 = .ok (.ifCond .ne 11, 3) := by decide +kernel
theorem dX12_word_84 : decode cX12_word 84 = .ok (.aload_n 0, 1) := by decide +kernel
theorem dX12_word_85 : decode cX12_word 85 = .ok (.iload 4, 2) := by decide +kernel
theorem dX12_word_87 : decode cX12_word 87 = .ok (.putfield 133, 3) := by decide +kernel
theorem dX12_word_90 : decode cX12_word 90 = .ok (.iload_n 3, 1) := by decide +kernel
theorem dX12_word_91 : decode cX12_word 91 = .ok (.ireturn, 1) := by decide +kernel
theorem dX12_word_92 : decode cX12_word 92 = .ok (.iload 4, 2) := by decide +kernel
theorem dX12_word_94 : decode cX12_word 94 = .ok (.iload_n 2, 1) := by decide +kernel
theorem dX12_word_95 : decode cX12_word 95 = .ok (.if_icmp .le 8, 3) := by decide +kernel
theorem dX12_word_98 : decode cX12_word 98 = .ok (.iload 4, 2) := by decide +kernel
theorem dX12_word_100 : decode cX12_word 100 = .ok (.goto 4, 3) := by decide +kernel
theorem dX12_word_103 : decode cX12_word 103 = .ok (.iload_n 2, 1) := by decide +kernel
theorem dX12_word_104 : decode cX12_word 104 = .ok (.istore_n 2, 1) := by decide +kernel
theorem dX12_word_105 : decode cX12_word 105 = .ok (.aload_n 0, 1) := by decide +kernel
theorem dX12_word_106 : decode cX12_word 106 = .ok (.getfield 54, 3) := by decide +kernel
theorem dX12_word_109 : decode cX12_word 109 = .ok (.iload_n 1, 1) := by decide +kernel
theorem dX12_word_110 : decode cX12_word 110 = .ok (.iaload, 1) := by decide +kernel
theorem dX12_word_111 : decode cX12_word 111 = .ok (.ifCond .eq 9, 3) := by decide +kernel
theorem dX12_word_114 : decode cX12_word 114 = .ok (.iinc 1 1, 3) := by decide +kernel
theorem dX12_word_117 : decode cX12_word 117 = .ok (.goto (-12), 3) := by decide +kernel
theorem dX12_word_120 : decode cX12_word 120 = .ok (.iinc 1 1, 3) := by decide +kernel
theorem dX12_word_123 : decode cX12_word 123 = .ok (.iinc 3 1, 3) := by decide +kernel
theorem dX12_word_126 : decode cX12_word 126 = .ok (.goto (-117), 3) := by decide +kernel
theorem dX12_word_129 : decode cX12_word 129 = .ok (.aload_n 0, 1) := by decide +kernel
theorem dX12_word_130 : decode cX12_word 130 = .ok (.iload_n 2, 1) := by decide +kernel
theorem dX12_word_131 : decode cX12_word 131 = .ok (.putfield 130, 3) := by decide +kernel
theorem dX12_word_134 : decode cX12_word 134 = .ok (.iconst (-1), 1) := by decide +kernel
theorem dX12_word_135 : decode cX12_word 135 = .ok (.ireturn, 1) := by decide +kernel
theorem dX12_isDigit_0 : decode cX12_isDigit 0 = .ok (.aload_n 0, 1) := by decide +kernel
theorem dX12_isDigit_1 : decode cX12_isDigit 1 = .ok (.getfield 133, 3) := by decide +kernel
theorem dX12_isDigit_4 : decode cX12_isDigit 4 = .ok (.aload_n 0, 1) := by decide +kernel
theorem dX12_isDigit_5 : decode cX12_isDigit 5 = .ok (.getfield 136, 3) := by decide +kernel
theorem dX12_isDigit_8 : decode cX12_isDigit 8 = .ok (.if_icmp .ge 47, 3) := by decide +kernel
theorem dX12_isDigit_11 : decode cX12_isDigit 11 = .ok (.aload_n 0, 1) := by decide +kernel
theorem dX12_isDigit_12 : decode cX12_isDigit 12 = .ok (.getfield 48, 3) := by decide +kernel
theorem dX12_isDigit_15 : decode cX12_isDigit 15 = .ok (.aload_n 0, 1) := by decide +kernel
theorem dX12_isDigit_16 : decode cX12_isDigit 16 = .ok (.getfield 139, 3) := by decide +kernel
theorem dX12_isDigit_19 : decode cX12_isDigit 19 = .ok (.aload_n 0, 1) := by decide +kernel
theorem dX12_isDigit_20 : decode cX12_isDigit 20 = .ok (.getfield 133, 3) := by decide +kernel
theorem dX12_isDigit_23 : decode cX12_isDigit 23 = .ok (.iadd, 1) := by decide +kernel
theorem dX12_isDigit_24 : decode cX12_isDigit 24 = .ok (.laload, 1) := by decide +kernel
theorem dX12_isDigit_25 : decode cX12_isDigit 25 = .ok (.l2i, 1) := by decide +kernel
theorem dX12_isDigit_26 : decode cX12_isDigit 26 = .ok (.bipush 48, 2) := by decide +kernel
theorem dX12_isDigit_28 : decode cX12_isDigit 28 = .ok (.if_icmp .lt 27, 3) := by decide +kernel
theorem dX12_isDigit_31 : decode cX12_isDigit 31 = .ok (.aload_n 0, 1) := by decide +kernel
theorem dX12_isDigit_32 : decode cX12_isDigit 32 = .ok (.getfield 48, 3) := by decide +kernel
theorem dX12_isDigit_35 : decode cX12_isDigit 35 = .ok (.aload_n 0, 1) := by decide +kernel
theorem dX12_isDigit_36 : decode cX12_isDigit 36 = .ok (.getfield 139, 3) := by decide +kernel
theorem dX12_isDigit_39 : decode cX12_isDigit 39 = .ok (.aload_n 0, 1) := by decide +kernel
theorem dX12_isDigit_40 : decode cX12_isDigit 40 = .ok (.getfield 133, 3) := by decide +kernel
theorem dX12_isDigit_43 : decode cX12_isDigit 43 = .ok (.iadd, 1) := by decide +kernel
theorem dX12_isDigit_44 : decode cX12_isDigit 44 = .ok (.laload, 1) := by decide +kernel
theorem dX12_isDigit_45 : decode cX12_isDigit 45 = .ok (.l2i, 1) := by decide +kernel
theorem dX12_isDigit_46 : decode cX12_isDigit 46 = .ok (.bipush 57, 2) := by decide +kernel
theorem dX12_isDigit_48 : decode cX12_isDigit 48 = .ok (.if_icmp .gt 7, 3) := by decide +kernel
theorem dX12_isDigit_51 : decode cX12_isDigit 51 = .ok (.iconst 1, 1) := by decide +kernel
theorem dX12_isDigit_52 : decode cX12_isDigit 52 = .ok (.goto 4, 3) := by decide +kernel
theorem dX12_isDigit_55 : decode cX12_isDigit 55 = .ok (.iconst 0, 1) := by decide +kernel
theorem dX12_isDigit_56 : decode cX12_isDigit 56 = .ok (.ireturn, 1) := by decide +kernel
theorem dX12_number_0 : decode cX12_number 0 = .ok (.aload_n 0, 1) := by decide +kernel
theorem dX12_number_1 : decode cX12_number 1 = .ok (.iconst 0, 1) := by decide +kernel
theorem dX12_number_2 : decode cX12_number 2 = .ok (.putfield 142, 3) := by decide +kernel
theorem dX12_number_5 : decode cX12_number 5 = .ok (.aload_n 0, 1) := by decide +kernel
theorem dX12_number_6 : decode cX12_number 6 = .ok (.invokevirtual 145, 3) := by decide +kernel
theorem dX12_number_9 : decode cX12_number 9 = .ok (.ifCond .ne 12, 3) := by decide +kernel
theorem dX12_number_12 : decode cX12_number 12 = .ok (.aload_n 0, 1) := by decide +kernel
theorem dX12_number_13 : decode cX12_number 13 = .ok (.aload_n 0, 1) := by decide +kernel
theorem dX12_number_14 : decode cX12_number 14 = .ok (.getfield 133, 3) := by decide +kernel
theorem dX12_number_17 : decode cX12_number 17 = .ok (.invokevirtual 149, 3) := by decide +kernel
theorem dX12_number_20 : decode cX12_number 20 = .ok (.ireturn, 1) := by decide +kernel
theorem dX12_number_21 : decode cX12_number 21 = .ok (.iconst 0, 1) := by decide +kernel
theorem dX12_number_22 : decode cX12_number 22 = .ok (.istore_n 1, 1) := by decide +kernel
theorem dX12_number_23 : decode cX12_number 23 = .ok (.iload_n 1, 1) := by decide +kernel
theorem dX12_number_24 : decode cX12_number 24 = .ok (.bipush 6, 2) := by decide +kernel
theorem dX12_number_26 : decode cX12_number 26 = .ok (.if_icmp .ge 56, 3) := by decide +kernel
theorem dX12_number_29 : decode cX12_number 29 = .ok (.aload_n 0, 1) := by decide +kernel
theorem dX12_number_30 : decode cX12_number 30 = .ok (.invokevirtual 145, 3) := by decide +kernel
theorem dX12_number_33 : decode cX12_number 33 = .ok (.ifCond .eq 49, 3) := by decide +kernel
theorem dX12_number_36 : decode cX12_number 36 = .ok (.aload_n 0, 1) := by decide +kernel
theorem dX12_number_37 : decode cX12_number 37 = .ok (.bipush 10, 2) := by decide +kernel
theorem dX12_number_39 : decode cX12_number 39 = .ok (.aload_n 0, 1) := by decide +kernel
theorem dX12_number_40 : decode cX12_number 40 = .ok (.getfield 142, 3) := by decide +kernel
theorem dX12_number_43 : decode cX12_number 43 = .ok (.imul, 1) := by decide +kernel
theorem dX12_number_44 : decode cX12_number 44 = .ok (.aload_n 0, 1) := by decide +kernel
theorem dX12_number_45 : decode cX12_number 45 = .ok (.getfield 48, 3) := by decide +kernel
theorem dX12_number_48 : decode cX12_number 48 = .ok (.aload_n 0, 1) := by decide +kernel
theorem dX12_number_49 : decode cX12_number 49 = .ok (.getfield 139, 3) := by decide +kernel
theorem dX12_number_52 : decode cX12_number 52 = .ok (.aload_n 0, 1) := by decide +kernel
theorem dX12_number_53 : decode cX12_number 53 = .ok (.getfield 133, 3) := by decide +kernel
theorem dX12_number_56 : decode cX12_number 56 = .ok (.iadd, 1) := by decide +kernel
theorem dX12_number_57 : decode cX12_number 57 = .ok (.laload, 1) := by decide +kernel
theorem dX12_number_58 : decode cX12_number 58 = .ok (.l2i, 1) := by decide +kernel
theorem dX12_number_59 : decode cX12_number 59 = .ok (.iadd, 1) := by decide +kernel
theorem dX12_number_60 : decode cX12_number 60 = .ok (.bipush 48, 2) := by decide +kernel
theorem dX12_number_62 : decode cX12_number 62 = .ok (.isub, 1) := by decide +kernel
theorem dX12_number_63 : decode cX12_number 63 = .ok (.putfield 142, 3) := by decide +kernel
theorem dX12_number_66 : decode cX12_number 66 = .ok (.aload_n 0, 1) := by decide +kernel
theorem dX12_number_67 : decode cX12_number 67 = .ok (.dup, 1) := by decide +kernel
theorem dX12_number_68 : decode cX12_number 68 = .ok (.getfield 133, 3) := by decide +kernel
theorem dX12_number_71 : decode cX12_number 71 = .ok (.iconst 1, 1) := by decide +kernel
theorem dX12_number_72 : decode cX12_number 72 = .ok (.iadd, 1) := by decide +kernel
theorem dX12_number_73 : decode cX12_number 73 = .ok (.putfield 133, 3) := by decide +kernel
theorem dX12_number_76 : decode cX12_number 76 = .ok (.iinc 1 1, 3) := by decide +kernel
theorem dX12_number_79 : decode cX12_number 79 = .ok (.goto (-56), 3) := by decide +kernel
theorem dX12_number_82 : decode cX12_number 82 = .ok (.iconst 1, 1) := by decide +kernel
theorem dX12_number_83 : decode cX12_number 83 = .ok (.ireturn, 1) := by decide +kernel
theorem dX12_isSo_0 : decode cX12_isSo 0 = .ok (.iload_n 1, 1) := by decide +kernel
theorem dX12_isSo_1 : decode cX12_isSo 1 = .ok (.tableswitch 142 0 3 #[31, 54, 78, 140], 31) := by decide +kernel
theorem dX12_isSo_32 : decode cX12_isSo 32 = .ok (.aload_n 0, 1) := by decide +kernel
theorem dX12_isSo_33 : decode cX12_isSo 33 = .ok (.getfield 142, 3) := by decide +kernel
theorem dX12_isSo_36 : decode cX12_isSo 36 = .ok (.iconst 2, 1) := by decide +kernel
theorem dX12_isSo_37 : decode cX12_isSo 37 = .ok (.if_icmp .lt 16, 3) := by decide +kernel
theorem dX12_isSo_40 : decode cX12_isSo 40 = .ok (.aload_n 0, 1) := by decide +kernel
theorem dX12_isSo_41 : decode cX12_isSo 41 = .ok (.getfield 142, 3) := by decide +kernel
theorem dX12_isSo_44 : decode cX12_isSo 44 = .ok (.bipush 10, 2) := by decide +kernel
theorem dX12_isSo_46 : decode cX12_isSo 46 = .ok (.if_icmp .gt 7, 3) := by decide +kernel
theorem dX12_isSo_49 : decode cX12_isSo 49 = .ok (.iconst 1, 1) := by decide +kernel
theorem dX12_isSo_50 : decode cX12_isSo 50 = .ok (.goto 4, 3) := by decide +kernel
theorem dX12_isSo_53 : decode cX12_isSo 53 = .ok (.iconst 0, 1) := by decide +kernel
theorem dX12_isSo_54 : decode cX12_isSo 54 = .ok (.ireturn, 1) := by decide +kernel
theorem dX12_isSo_55 : decode cX12_isSo 55 = .ok (.aload_n 0, 1) := by decide +kernel
theorem dX12_isSo_56 : decode cX12_isSo 56 = .ok (.getfield 142, 3) := by decide +kernel
theorem dX12_isSo_59 : decode cX12_isSo 59 = .ok (.iload_n 2, 1) := by decide +kernel
theorem dX12_isSo_60 : decode cX12_isSo 60 = .ok (.ifCond .ne 8, 3) := by decide +kernel
theorem dX12_isSo_63 : decode cX12_isSo 63 = .ok (.bipush 6, 2) := by decide +kernel
theorem dX12_isSo_65 : decode cX12_isSo 65 = .ok (.goto 5, 3) := by decide +kernel
theorem dX12_isSo_68 : decode cX12_isSo 68 = .ok (.bipush 9, 2) := by decide +kernel
theorem dX12_isSo_70 : decode cX12_isSo 70 = .ok (.if_icmp .gt 7, 3) := by decide +kernel
theorem dX12_isSo_73 : decode cX12_isSo 73 = .ok (.iconst 1, 1) := by decide +kernel
theorem dX12_isSo_74 : decode cX12_isSo 74 = .ok (.goto 4, 3) := by decide +kernel
theorem dX12_isSo_77 : decode cX12_isSo 77 = .ok (.iconst 0, 1) := by decide +kernel
theorem dX12_isSo_78 : decode cX12_isSo 78 = .ok (.ireturn, 1) := by decide +kernel
theorem dX12_isSo_79 : decode cX12_isSo 79 = .ok (.iload_n 2, 1) := by decide +kernel
theorem dX12_isSo_80 : decode cX12_isSo 80 = .ok (.ifCond .ne 35, 3) := by decide +kernel
theorem dX12_isSo_83 : decode cX12_isSo 83 = .ok (.aload_n 0, 1) := by decide +kernel
theorem dX12_isSo_84 : decode cX12_isSo 84 = .ok (.getfield 142, 3) := by decide +kernel
theorem dX12_isSo_87 : decode cX12_isSo 87 = .ok (.aload_n 0, 1) := by decide +kernel
theorem dX12_isSo_88 : decode cX12_isSo 88 = .ok (.getfield 90, 3) := by decide +kernel
theorem dX12_isSo_91 : decode cX12_isSo 91 = .ok (.if_icmp .ge 20, 3) := by decide +kernel
theorem dX12_isSo_94 : decode cX12_isSo 94 = .ok (.aload_n 0, 1) := by decide +kernel
theorem dX12_isSo_95 : decode cX12_isSo 95 = .ok (.getfield 23, 3) := by decide +kernel
theorem dX12_isSo_98 : decode cX12_isSo 98 = .ok (.aload_n 0, 1) := by decide +kernel
theorem dX12_isSo_99 : decode cX12_isSo 99 = .ok (.getfield 142, 3) := by decide +kernel
theorem dX12_isSo_102 : decode cX12_isSo 102 = .ok (.iaload, 1) := by decide +kernel
theorem dX12_isSo_103 : decode cX12_isSo 103 = .ok (.iconst 5, 1) := by decide +kernel
theorem dX12_isSo_104 : decode cX12_isSo 104 = .ok (.if_icmp .ne 7, 3) := by decide +kernel
theorem dX12_isSo_107 : decode cX12_isSo 107 = .ok (.iconst 1, 1) := by decide +kernel
theorem dX12_isSo_108 : decode cX12_isSo 108 = .ok (.goto 32, 3) := by decide +kernel
theorem dX12_isSo_111 : decode cX12_isSo 111 = .ok (.iconst 0, 1) := by decide +kernel
theorem dX12_isSo_112 : decode cX12_isSo 112 = .ok (.goto 28, 3) := by decide +kernel
theorem dX12_isSo_115 : decode cX12_isSo 115 = .ok (.aload_n 0, 1) := by decide +kernel
theorem dX12_isSo_116 : decode cX12_isSo 116 = .ok (.getfield 142, 3) := by decide +kernel
theorem dX12_isSo_119 : decode cX12_isSo 119 = .ok (.iload_n 2, 1) := by decide +kernel
theorem dX12_isSo_120 : decode cX12_isSo 120 = .ok (.iconst 1, 1) := by decide +kernel
theorem dX12_isSo_121 : decode cX12_isSo 121 = .ok (.if_icmp .ne 8, 3) := by decide +kernel
theorem dX12_isSo_124 : decode cX12_isSo 124 = .ok (.bipush 9, 2) := by decide +kernel
theorem dX12_isSo_126 : decode cX12_isSo 126 = .ok (.goto 6, 3) := by decide +kernel
theorem dX12_isSo_129 : decode cX12_isSo 129 = .ok (.sipush 999, 3) := by decide +kernel
theorem dX12_isSo_132 : decode cX12_isSo 132 = .ok (.if_icmp .gt 7, 3) := by decide +kernel
theorem dX12_isSo_135 : decode cX12_isSo 135 = .ok (.iconst 1, 1) := by decide +kernel
theorem dX12_isSo_136 : decode cX12_isSo 136 = .ok (.goto 4, 3) := by decide +kernel
theorem dX12_isSo_139 : decode cX12_isSo 139 = .ok (.iconst 0, 1) := by decide +kernel
theorem dX12_isSo_140 : decode cX12_isSo 140 = .ok (.ireturn, 1) := by decide +kernel
theorem dX12_isSo_141 : decode cX12_isSo 141 = .ok (.iconst 1, 1) := by decide +kernel
theorem dX12_isSo_142 : decode cX12_isSo 142 = .ok (.ireturn, 1) := by decide +kernel
theorem dX12_isSo_143 : decode cX12_isSo 143 = .ok (.aload_n 0, 1) := by decide +kernel
theorem dX12_isSo_144 : decode cX12_isSo 144 = .ok (.getfield 142, 3) := by decide +kernel
theorem dX12_isSo_147 : decode cX12_isSo 147 = .ok (.aload_n 0, 1) := by decide +kernel
theorem dX12_isSo_148 : decode cX12_isSo 148 = .ok (.getfield 90, 3) := by decide +kernel
theorem dX12_isSo_151 : decode cX12_isSo 151 = .ok (.if_icmp .ge 7, 3) := by decide +kernel
theorem dX12_isSo_154 : decode cX12_isSo 154 = .ok (.iconst 1, 1) := by decide +kernel
theorem dX12_isSo_155 : decode cX12_isSo 155 = .ok (.goto 4, 3) := by decide +kernel
theorem dX12_isSo_158 : decode cX12_isSo 158 = .ok (.iconst 0, 1) := by decide +kernel
theorem dX12_isSo_159 : decode cX12_isSo 159 = .ok (.ireturn, 1) := by decide +kernel
theorem dX12_item_0 : decode cX12_item 0 = .ok (.aload_n 0, 1) := by decide +kernel
theorem dX12_item_1 : decode cX12_item 1 = .ok (.getfield 133, 3) := by decide +kernel
theorem dX12_item_4 : decode cX12_item 4 = .ok (.istore_n 1, 1) := by decide +kernel
theorem dX12_item_5 : decode cX12_item 5 = .ok (.aload_n 0, 1) := by decide +kernel
theorem dX12_item_6 : decode cX12_item 6 = .ok (.iconst 1, 1) := by decide +kernel
theorem dX12_item_7 : decode cX12_item 7 = .ok (.invokevirtual 152, 3) := by decide +kernel
theorem dX12_item_10 : decode cX12_item 10 = .ok (.ifCond .eq 12, 3) := by decide +kernel
theorem dX12_item_13 : decode cX12_item 13 = .ok (.aload_n 0, 1) := by decide +kernel
theorem dX12_item_14 : decode cX12_item 14 = .ok (.getfield 90, 3) := by decide +kernel
theorem dX12_item_17 : decode cX12_item 17 = .ok (.bipush 6, 2) := by decide +kernel
theorem dX12_item_19 : decode cX12_item 19 = .ok (.if_icmp .eq 43, 3) := by decide +kernel
theorem dX12_item_22 : decode cX12_item 22 = .ok (.aload_n 0, 1) := by decide +kernel
theorem dX12_item_23 : decode cX12_item 23 = .ok (.iconst 3, 1) := by decide +kernel
theorem dX12_item_24 : decode cX12_item 24 = .ok (.invokevirtual 152, 3) := by decide +kernel
theorem dX12_item_27 : decode cX12_item 27 = .ok (.ifCond .ne 11, 3) := by decide +kernel
theorem dX12_item_30 : decode cX12_item 30 = .ok (.aload_n 0, 1) := by decide +kernel
theorem dX12_item_31 : decode cX12_item 31 = .ok (.iconst 4, 1) := by decide +kernel
theorem dX12_item_32 : decode cX12_item 32 = .ok (.invokevirtual 152, 3) := by decide +kernel
theorem dX12_item_35 : decode cX12_item 35 = .ok (.ifCond .eq 12, 3) := by decide +kernel
theorem dX12_item_38 : decode cX12_item 38 = .ok (.aload_n 0, 1) := by decide +kernel
theorem dX12_item_39 : decode cX12_item 39 = .ok (.getfield 155, 3) := by decide +kernel
theorem dX12_item_42 : decode cX12_item 42 = .ok (.bipush 20, 2) := by decide +kernel
theorem dX12_item_44 : decode cX12_item 44 = .ok (.if_icmp .eq 18, 3) := by decide +kernel
theorem dX12_item_47 : decode cX12_item 47 = .ok (.aload_n 0, 1) := by decide +kernel
theorem dX12_item_48 : decode cX12_item 48 = .ok (.iconst 4, 1) := by decide +kernel
theorem dX12_item_49 : decode cX12_item 49 = .ok (.invokevirtual 152, 3) := by decide +kernel
theorem dX12_item_52 : decode cX12_item 52 = .ok (.ifCond .eq 19, 3) := by decide +kernel
theorem dX12_item_55 : decode cX12_item 55 = .ok (.aload_n 0, 1) := by decide +kernel
theorem dX12_item_56 : decode cX12_item 56 = .ok (.getfield 155, 3) := by decide +kernel
theorem dX12_item_59 : decode cX12_item 59 = .ok (.ifCond .ne 12, 3) := by decide +kernel
theorem dX12_item_62 : decode cX12_item 62 = .ok (.aload_n 0, 1) := by decide +kernel
theorem dX12_item_63 : decode cX12_item 63 = .ok (.aload_n 0, 1) := by decide +kernel
theorem dX12_item_64 : decode cX12_item 64 = .ok (.getfield 133, 3) := by decide +kernel
theorem dX12_item_67 : decode cX12_item 67 = .ok (.invokevirtual 149, 3) := by decide +kernel
theorem dX12_item_70 : decode cX12_item 70 = .ok (.ireturn, 1) := by decide +kernel
theorem dX12_item_71 : decode cX12_item 71 = .ok (.aload_n 0, 1) := by decide +kernel
theorem dX12_item_72 : decode cX12_item 72 = .ok (.invokevirtual 158, 3) := by decide +kernel
theorem dX12_item_75 : decode cX12_item 75 = .ok (.istore_n 2, 1) := by decide +kernel
theorem dX12_item_76 : decode cX12_item 76 = .ok (.iload_n 2, 1) := by decide +kernel
theorem dX12_item_77 : decode cX12_item 77 = .ok (.iconst (-1), 1) := by decide +kernel
theorem dX12_item_78 : decode cX12_item 78 = .ok (.if_icmp .ne 5, 3) := by decide +kernel
theorem dX12_item_81 : decode cX12_item 81 = .ok (.iconst 0, 1) := by decide +kernel
theorem dX12_item_82 : decode cX12_item 82 = .ok (.ireturn, 1) := by decide +kernel
theorem dX12_item_83 : decode cX12_item 83 = .ok (.iload_n 2, 1) := by decide +kernel
theorem dX12_item_84 : decode cX12_item 84 = .ok (.iconst 1, 1) := by decide +kernel
theorem dX12_item_85 : decode cX12_item 85 = .ok (.if_icmp .ne 7, 3) := by decide +kernel
theorem dX12_item_88 : decode cX12_item 88 = .ok (.iconst 2, 1) := by decide +kernel
theorem dX12_item_89 : decode cX12_item 89 = .ok (.goto 13, 3) := by decide +kernel
theorem dX12_item_92 : decode cX12_item 92 = .ok (.iload_n 2, 1) := by decide +kernel
theorem dX12_item_93 : decode cX12_item 93 = .ok (.iconst 2, 1) := by decide +kernel
theorem dX12_item_94 : decode cX12_item 94 = .ok (.if_icmp .ne 7, 3) := by decide +kernel
theorem dX12_item_97 : decode cX12_item 97 = .ok (.iconst 3, 1) := by decide +kernel
theorem dX12_item_98 : decode cX12_item 98 = .ok (.goto 4, 3) := by decide +kernel
theorem dX12_item_101 : decode cX12_item 101 = .ok (.iconst 1, 1) := by decide +kernel
theorem dX12_item_102 : decode cX12_item 102 = .ok (.istore_n 3, 1) := by decide +kernel
theorem dX12_item_103 : decode cX12_item 103 = .ok (.iconst 0, 1) := by decide +kernel
theorem dX12_item_104 : decode cX12_item 104 = .ok (.istore 4, 2) := by decide +kernel
theorem dX12_item_106 : decode cX12_item 106 = .ok (.iload 4, 2) := by decide +kernel
theorem dX12_item_108 : decode cX12_item 108 = .ok (.iload_n 3, 1) := by decide +kernel
theorem dX12_item_109 : decode cX12_item 109 = .ok (.if_icmp .ge 107, 3) := by decide +kernel
theorem dX12_item_112 : decode cX12_item 112 = .ok (.iload 4, 2) := by decide +kernel
theorem dX12_item_114 : decode cX12_item 114 = .ok (.ifCond .le 53, 3) := by decide +kernel
theorem dX12_item_117 : decode cX12_item 117 = .ok (.aload_n 0, 1) := by decide +kernel
theorem dX12_item_118 : decode cX12_item 118 = .ok (.getfield 133, 3) := by decide +kernel
theorem dX12_item_121 : decode cX12_item 121 = .ok (.aload_n 0, 1) := by decide +kernel
theorem dX12_item_122 : decode cX12_item 122 = .ok (.getfield 136, 3) := by decide +kernel
theorem dX12_item_125 : decode cX12_item 125 = .ok (.if_icmp .ge 23, 3) := by decide +kernel
theorem dX12_item_128 : decode cX12_item 128 = .ok (.aload_n 0, 1) := by decide +kernel
theorem dX12_item_129 : decode cX12_item 129 = .ok (.getfield 48, 3) := by decide +kernel
theorem dX12_item_132 : decode cX12_item 132 = .ok (.aload_n 0, 1) := by decide +kernel
theorem dX12_item_133 : decode cX12_item 133 = .ok (.getfield 139, 3) := by decide +kernel
theorem dX12_item_136 : decode cX12_item 136 = .ok (.aload_n 0, 1) := by decide +kernel
theorem dX12_item_137 : decode cX12_item 137 = .ok (.getfield 133, 3) := by decide +kernel
theorem dX12_item_140 : decode cX12_item 140 = .ok (.iadd, 1) := by decide +kernel
theorem dX12_item_141 : decode cX12_item 141 = .ok (.laload, 1) := by decide +kernel
theorem dX12_item_142 : decode cX12_item 142 = .ok (.l2i, 1) := by decide +kernel
theorem dX12_item_143 : decode cX12_item 143 = .ok (.bipush 32, 2) := by decide +kernel
theorem dX12_item_145 : decode cX12_item 145 = .ok (.if_icmp .eq 12, 3) := by decide +kernel
theorem dX12_item_148 : decode cX12_item 148 = .ok (.aload_n 0, 1) := by decide +kernel
theorem dX12_item_149 : decode cX12_item 149 = .ok (.aload_n 0, 1) := by decide +kernel
theorem dX12_item_150 : decode cX12_item 150 = .ok (.getfield 133, 3) := by decide +kernel
theorem dX12_item_153 : decode cX12_item 153 = .ok (.invokevirtual 149, 3) := by decide +kernel
theorem dX12_item_156 : decode cX12_item 156 = .ok (.ireturn, 1) := by decide +kernel
theorem dX12_item_157 : decode cX12_item 157 = .ok (.aload_n 0, 1) := by decide +kernel
theorem dX12_item_158 : decode cX12_item 158 = .ok (.dup, 1) := by decide +kernel
theorem dX12_item_159 : decode cX12_item 159 = .ok (.getfield 133, 3) := by decide +kernel
theorem dX12_item_162 : decode cX12_item 162 = .ok (.iconst 1, 1) := by decide +kernel
theorem dX12_item_163 : decode cX12_item 163 = .ok (.iadd, 1) := by decide +kernel
theorem dX12_item_164 : decode cX12_item 164 = .ok (.putfield 133, 3) := by decide +kernel
theorem dX12_item_167 : decode cX12_item 167 = .ok (.aload_n 0, 1) := by decide +kernel
theorem dX12_item_168 : decode cX12_item 168 = .ok (.getfield 133, 3) := by decide +kernel
theorem dX12_item_171 : decode cX12_item 171 = .ok (.istore 5, 2) := by decide +kernel
theorem dX12_item_173 : decode cX12_item 173 = .ok (.aload_n 0, 1) := by decide +kernel
theorem dX12_item_174 : decode cX12_item 174 = .ok (.invokevirtual 162, 3) := by decide +kernel
theorem dX12_item_177 : decode cX12_item 177 = .ok (.ifCond .ne 5, 3) := by decide +kernel
theorem dX12_item_180 : decode cX12_item 180 = .ok (.iconst 0, 1) := by decide +kernel
theorem dX12_item_181 : decode cX12_item 181 = .ok (.ireturn, 1) := by decide +kernel
theorem dX12_item_182 : decode cX12_item 182 = .ok (.aload_n 0, 1) := by decide +kernel
theorem dX12_item_183 : decode cX12_item 183 = .ok (.iload_n 2, 1) := by decide +kernel
theorem dX12_item_184 : decode cX12_item 184 = .ok (.iload 4, 2) := by decide +kernel
theorem dX12_item_186 : decode cX12_item 186 = .ok (.invokevirtual 165, 3) := by decide +kernel
theorem dX12_item_189 : decode cX12_item 189 = .ok (.ifCond .ne 10, 3) := by decide +kernel
theorem dX12_item_192 : decode cX12_item 192 = .ok (.aload_n 0, 1) := by decide +kernel
theorem dX12_item_193 : decode cX12_item 193 = .ok (.iload 5, 2) := by decide +kernel
theorem dX12_item_195 : decode cX12_item 195 = .ok (.invokevirtual 149, 3) := by decide +kernel
theorem dX12_item_198 : decode cX12_item 198 = .ok (.ireturn, 1) := by decide +kernel
theorem dX12_item_199 : decode cX12_item 199 = .ok (.aload_n 0, 1) := by decide +kernel
theorem dX12_item_200 : decode cX12_item 200 = .ok (.getfield 57, 3) := by decide +kernel
theorem dX12_item_203 : decode cX12_item 203 = .ok (.iload 4, 2) := by decide +kernel
theorem dX12_item_205 : decode cX12_item 205 = .ok (.aload_n 0, 1) := by decide +kernel
theorem dX12_item_206 : decode cX12_item 206 = .ok (.getfield 142, 3) := by decide +kernel
theorem dX12_item_209 : decode cX12_item 209 = .ok (.iastore, 1) := by decide +kernel
theorem dX12_item_210 : decode cX12_item 210 = .ok (.iinc 4 1, 3) := by decide +kernel
theorem dX12_item_213 : decode cX12_item 213 = .ok (.goto (-107), 3) := by decide +kernel
theorem dX12_item_216 : decode cX12_item 216 = .ok (.iload_n 2, 1) := by decide +kernel
theorem dX12_item_217 : decode cX12_item 217 = .ok (.tableswitch 109 0 3 #[31, 44, 64, 94], 31) := by decide +kernel
theorem dX12_item_248 : decode cX12_item 248 = .ok (.aload_n 0, 1) := by decide +kernel
theorem dX12_item_249 : decode cX12_item 249 = .ok (.aload_n 0, 1) := by decide +kernel
theorem dX12_item_250 : decode cX12_item 250 = .ok (.getfield 57, 3) := by decide +kernel
theorem dX12_item_253 : decode cX12_item 253 = .ok (.iconst 0, 1) := by decide +kernel
theorem dX12_item_254 : decode cX12_item 254 = .ok (.iaload, 1) := by decide +kernel
theorem dX12_item_255 : decode cX12_item 255 = .ok (.putfield 7, 3) := by decide +kernel
theorem dX12_item_258 : decode cX12_item 258 = .ok (.goto 113, 3) := by decide +kernel
theorem dX12_item_261 : decode cX12_item 261 = .ok (.aload_n 0, 1) := by decide +kernel
theorem dX12_item_262 : decode cX12_item 262 = .ok (.aload_n 0, 1) := by decide +kernel
theorem dX12_item_263 : decode cX12_item 263 = .ok (.getfield 57, 3) := by decide +kernel
theorem dX12_item_266 : decode cX12_item 266 = .ok (.iconst 0, 1) := by decide +kernel
theorem dX12_item_267 : decode cX12_item 267 = .ok (.iaload, 1) := by decide +kernel
theorem dX12_item_268 : decode cX12_item 268 = .ok (.aload_n 0, 1) := by decide +kernel
theorem dX12_item_269 : decode cX12_item 269 = .ok (.getfield 57, 3) := by decide +kernel
theorem dX12_item_272 : decode cX12_item 272 = .ok (.iconst 1, 1) := by decide +kernel
theorem dX12_item_273 : decode cX12_item 273 = .ok (.iaload, 1) := by decide +kernel
theorem dX12_item_274 : decode cX12_item 274 = .ok (.invokevirtual 126, 3) := by decide +kernel
theorem dX12_item_277 : decode cX12_item 277 = .ok (.pop, 1) := by decide +kernel
theorem dX12_item_278 : decode cX12_item 278 = .ok (.goto 93, 3) := by decide +kernel
theorem dX12_item_281 : decode cX12_item 281 = .ok (.aload_n 0, 1) := by decide +kernel
theorem dX12_item_282 : decode cX12_item 282 = .ok (.getfield 29, 3) := by decide +kernel
theorem dX12_item_285 : decode cX12_item 285 = .ok (.bipush 10, 2) := by decide +kernel
theorem dX12_item_287 : decode cX12_item 287 = .ok (.aload_n 0, 1) := by decide +kernel
theorem dX12_item_288 : decode cX12_item 288 = .ok (.getfield 57, 3) := by decide +kernel
theorem dX12_item_291 : decode cX12_item 291 = .ok (.iconst 0, 1) := by decide +kernel
theorem dX12_item_292 : decode cX12_item 292 = .ok (.iaload, 1) := by decide +kernel
theorem dX12_item_293 : decode cX12_item 293 = .ok (.imul, 1) := by decide +kernel
theorem dX12_item_294 : decode cX12_item 294 = .ok (.aload_n 0, 1) := by decide +kernel
theorem dX12_item_295 : decode cX12_item 295 = .ok (.getfield 57, 3) := by decide +kernel
theorem dX12_item_298 : decode cX12_item 298 = .ok (.iconst 1, 1) := by decide +kernel
theorem dX12_item_299 : decode cX12_item 299 = .ok (.iaload, 1) := by decide +kernel
theorem dX12_item_300 : decode cX12_item 300 = .ok (.iadd, 1) := by decide +kernel
theorem dX12_item_301 : decode cX12_item 301 = .ok (.aload_n 0, 1) := by decide +kernel
theorem dX12_item_302 : decode cX12_item 302 = .ok (.getfield 57, 3) := by decide +kernel
theorem dX12_item_305 : decode cX12_item 305 = .ok (.iconst 2, 1) := by decide +kernel
theorem dX12_item_306 : decode cX12_item 306 = .ok (.iaload, 1) := by decide +kernel
theorem dX12_item_307 : decode cX12_item 307 = .ok (.iastore, 1) := by decide +kernel
theorem dX12_item_308 : decode cX12_item 308 = .ok (.goto 63, 3) := by decide +kernel
theorem dX12_item_311 : decode cX12_item 311 = .ok (.aload_n 0, 1) := by decide +kernel
theorem dX12_item_312 : decode cX12_item 312 = .ok (.aload_n 0, 1) := by decide +kernel
theorem dX12_item_313 : decode cX12_item 313 = .ok (.getfield 57, 3) := by decide +kernel
theorem dX12_item_316 : decode cX12_item 316 = .ok (.iconst 0, 1) := by decide +kernel
theorem dX12_item_317 : decode cX12_item 317 = .ok (.iaload, 1) := by decide +kernel
theorem dX12_item_318 : decode cX12_item 318 = .ok (.i2l, 1) := by decide +kernel
theorem dX12_item_319 : decode cX12_item 319 = .ok (.invokevirtual 169, 3) := by decide +kernel
theorem dX12_item_322 : decode cX12_item 322 = .ok (.pop, 1) := by decide +kernel
theorem dX12_item_323 : decode cX12_item 323 = .ok (.goto 48, 3) := by decide +kernel
theorem dX12_item_326 : decode cX12_item 326 = .ok (.aload_n 0, 1) := by decide +kernel
theorem dX12_item_327 : decode cX12_item 327 = .ok (.aload_n 0, 1) := by decide +kernel
theorem dX12_item_328 : decode cX12_item 328 = .ok (.getfield 57, 3) := by decide +kernel
theorem dX12_item_331 : decode cX12_item 331 = .ok (.iconst 0, 1) := by decide +kernel
theorem dX12_item_332 : decode cX12_item 332 = .ok (.iaload, 1) := by decide +kernel
theorem dX12_item_333 : decode cX12_item 333 = .ok (.aload_n 0, 1) := by decide +kernel
theorem dX12_item_334 : decode cX12_item 334 = .ok (.getfield 32, 3) := by decide +kernel
theorem dX12_item_337 : decode cX12_item 337 = .ok (.aload_n 0, 1) := by decide +kernel
theorem dX12_item_338 : decode cX12_item 338 = .ok (.getfield 155, 3) := by decide +kernel
theorem dX12_item_341 : decode cX12_item 341 = .ok (.iconst 1, 1) := by decide +kernel
theorem dX12_item_342 : decode cX12_item 342 = .ok (.isub, 1) := by decide +kernel
theorem dX12_item_343 : decode cX12_item 343 = .ok (.laload, 1) := by decide +kernel
theorem dX12_item_344 : decode cX12_item 344 = .ok (.invokevirtual 108, 3) := by decide +kernel
theorem dX12_item_347 : decode cX12_item 347 = .ok (.lstore 4, 2) := by decide +kernel
theorem dX12_item_349 : decode cX12_item 349 = .ok (.lload 4, 2) := by decide +kernel
theorem dX12_item_351 : decode cX12_item 351 = .ok (.ldc2_w 173, 3) := by decide +kernel
theorem dX12_item_354 : decode cX12_item 354 = .ok (.lcmp, 1) := by decide +kernel
theorem dX12_item_355 : decode cX12_item 355 = .ok (.ifCond .ne 9, 3) := by decide +kernel
theorem dX12_item_358 : decode cX12_item 358 = .ok (.aload_n 0, 1) := by decide +kernel
theorem dX12_item_359 : decode cX12_item 359 = .ok (.iload_n 1, 1) := by decide +kernel
theorem dX12_item_360 : decode cX12_item 360 = .ok (.invokevirtual 149, 3) := by decide +kernel
theorem dX12_item_363 : decode cX12_item 363 = .ok (.ireturn, 1) := by decide +kernel
theorem dX12_item_364 : decode cX12_item 364 = .ok (.aload_n 0, 1) := by decide +kernel
theorem dX12_item_365 : decode cX12_item 365 = .ok (.lload 4, 2) := by decide +kernel
theorem dX12_item_367 : decode cX12_item 367 = .ok (.invokevirtual 169, 3) := by decide +kernel
theorem dX12_item_370 : decode cX12_item 370 = .ok (.pop, 1) := by decide +kernel
theorem dX12_item_371 : decode cX12_item 371 = .ok (.iconst 1, 1) := by decide +kernel
theorem dX12_item_372 : decode cX12_item 372 = .ok (.ireturn, 1) := by decide +kernel
theorem dX12_carries_0 : decode cX12_carries 0 = .ok (.iconst 0, 1) := by decide +kernel
theorem dX12_carries_1 : decode cX12_carries 1 = .ok (.istore 6, 2) := by decide +kernel
theorem dX12_carries_3 : decode cX12_carries 3 = .ok (.iload 6, 2) := by decide +kernel
theorem dX12_carries_5 : decode cX12_carries 5 = .ok (.iload_n 2, 1) := by decide +kernel
theorem dX12_carries_6 : decode cX12_carries 6 = .ok (.if_icmp .ge 39, 3) := by decide +kernel
theorem dX12_carries_9 : decode cX12_carries 9 = .ok (.iload 5, 2) := by decide +kernel
theorem dX12_carries_11 : decode cX12_carries 11 = .ok (.ifCond .eq 17, 3) := by decide +kernel
theorem dX12_carries_14 : decode cX12_carries 14 = .ok (.aload_n 1, 1) := by decide +kernel
theorem dX12_carries_15 : decode cX12_carries 15 = .ok (.iload 6, 2) := by decide +kernel
theorem dX12_carries_17 : decode cX12_carries 17 = .ok (.aload_n 3, 1) := by decide +kernel
theorem dX12_carries_18 : decode cX12_carries 18 = .ok (.iload 4, 2) := by decide +kernel
theorem dX12_carries_20 : decode cX12_carries 20 = .ok (.iload 6, 2) := by decide +kernel
theorem dX12_carries_22 : decode cX12_carries 22 = .ok (.iadd, 1) := by decide +kernel
theorem dX12_carries_23 : decode cX12_carries 23 = .ok (.iaload, 1) := by decide +kernel
theorem dX12_carries_24 : decode cX12_carries 24 = .ok (.iastore, 1) := by decide +kernel
theorem dX12_carries_25 : decode cX12_carries 25 = .ok (.goto 14, 3) := by decide +kernel
theorem dX12_carries_28 : decode cX12_carries 28 = .ok (.aload_n 3, 1) := by decide +kernel
theorem dX12_carries_29 : decode cX12_carries 29 = .ok (.iload 4, 2) := by decide +kernel
theorem dX12_carries_31 : decode cX12_carries 31 = .ok (.iload 6, 2) := by decide +kernel
theorem dX12_carries_33 : decode cX12_carries 33 = .ok (.iadd, 1) := by decide +kernel
theorem dX12_carries_34 : decode cX12_carries 34 = .ok (.aload_n 1, 1) := by decide +kernel
theorem dX12_carries_35 : decode cX12_carries 35 = .ok (.iload 6, 2) := by decide +kernel
theorem dX12_carries_37 : decode cX12_carries 37 = .ok (.iaload, 1) := by decide +kernel
theorem dX12_carries_38 : decode cX12_carries 38 = .ok (.iastore, 1) := by decide +kernel
theorem dX12_carries_39 : decode cX12_carries 39 = .ok (.iinc 6 1, 3) := by decide +kernel
theorem dX12_carries_42 : decode cX12_carries 42 = .ok (.goto (-39), 3) := by decide +kernel
theorem dX12_carries_45 : decode cX12_carries 45 = .ok (.iload 4, 2) := by decide +kernel
theorem dX12_carries_47 : decode cX12_carries 47 = .ok (.iload_n 2, 1) := by decide +kernel
theorem dX12_carries_48 : decode cX12_carries 48 = .ok (.iadd, 1) := by decide +kernel
theorem dX12_carries_49 : decode cX12_carries 49 = .ok (.ireturn, 1) := by decide +kernel
theorem dX12_all_0 : decode cX12_all 0 = .ok (.aload_n 0, 1) := by decide +kernel
theorem dX12_all_1 : decode cX12_all 1 = .ok (.aload_n 0, 1) := by decide +kernel
theorem dX12_all_2 : decode cX12_all 2 = .ok (.getfield 23, 3) := by decide +kernel
theorem dX12_all_5 : decode cX12_all 5 = .ok (.bipush 6, 2) := by decide +kernel
theorem dX12_all_7 : decode cX12_all 7 = .ok (.aload_n 1, 1) := by decide +kernel
theorem dX12_all_8 : decode cX12_all 8 = .ok (.iconst 0, 1) := by decide +kernel
theorem dX12_all_9 : decode cX12_all 9 = .ok (.iload_n 3, 1) := by decide +kernel
theorem dX12_all_10 : decode cX12_all 10 = .ok (.invokevirtual 175, 3) := by decide +kernel
theorem dX12_all_13 : decode cX12_all 13 = .ok (.istore 4, 2) := by decide +kernel
theorem dX12_all_15 : decode cX12_all 15 = .ok (.aload_n 0, 1) := by decide +kernel
theorem dX12_all_16 : decode cX12_all 16 = .ok (.aload_n 0, 1) := by decide +kernel
theorem dX12_all_17 : decode cX12_all 17 = .ok (.getfield 26, 3) := by decide +kernel
theorem dX12_all_20 : decode cX12_all 20 = .ok (.bipush 6, 2) := by decide +kernel
theorem dX12_all_22 : decode cX12_all 22 = .ok (.aload_n 1, 1) := by decide +kernel
theorem dX12_all_23 : decode cX12_all 23 = .ok (.iload 4, 2) := by decide +kernel
theorem dX12_all_25 : decode cX12_all 25 = .ok (.iload_n 3, 1) := by decide +kernel
theorem dX12_all_26 : decode cX12_all 26 = .ok (.invokevirtual 175, 3) := by decide +kernel
theorem dX12_all_29 : decode cX12_all 29 = .ok (.istore 4, 2) := by decide +kernel
theorem dX12_all_31 : decode cX12_all 31 = .ok (.aload_n 0, 1) := by decide +kernel
theorem dX12_all_32 : decode cX12_all 32 = .ok (.aload_n 0, 1) := by decide +kernel
theorem dX12_all_33 : decode cX12_all 33 = .ok (.getfield 29, 3) := by decide +kernel
theorem dX12_all_36 : decode cX12_all 36 = .ok (.bipush 60, 2) := by decide +kernel
theorem dX12_all_38 : decode cX12_all 38 = .ok (.aload_n 1, 1) := by decide +kernel
theorem dX12_all_39 : decode cX12_all 39 = .ok (.iload 4, 2) := by decide +kernel
theorem dX12_all_41 : decode cX12_all 41 = .ok (.iload_n 3, 1) := by decide +kernel
theorem dX12_all_42 : decode cX12_all 42 = .ok (.invokevirtual 175, 3) := by decide +kernel
theorem dX12_all_45 : decode cX12_all 45 = .ok (.istore 4, 2) := by decide +kernel
theorem dX12_all_47 : decode cX12_all 47 = .ok (.iconst 0, 1) := by decide +kernel
theorem dX12_all_48 : decode cX12_all 48 = .ok (.istore 5, 2) := by decide +kernel
theorem dX12_all_50 : decode cX12_all 50 = .ok (.iload 5, 2) := by decide +kernel
theorem dX12_all_52 : decode cX12_all 52 = .ok (.bipush 20, 2) := by decide +kernel
theorem dX12_all_54 : decode cX12_all 54 = .ok (.if_icmp .ge 38, 3) := by decide +kernel
theorem dX12_all_57 : decode cX12_all 57 = .ok (.iload_n 3, 1) := by decide +kernel
theorem dX12_all_58 : decode cX12_all 58 = .ok (.ifCond .eq 17, 3) := by decide +kernel
theorem dX12_all_61 : decode cX12_all 61 = .ok (.aload_n 0, 1) := by decide +kernel
theorem dX12_all_62 : decode cX12_all 62 = .ok (.getfield 32, 3) := by decide +kernel
theorem dX12_all_65 : decode cX12_all 65 = .ok (.iload 5, 2) := by decide +kernel
theorem dX12_all_67 : decode cX12_all 67 = .ok (.aload_n 2, 1) := by decide +kernel
theorem dX12_all_68 : decode cX12_all 68 = .ok (.iload 5, 2) := by decide +kernel
theorem dX12_all_70 : decode cX12_all 70 = .ok (.laload, 1) := by decide +kernel
theorem dX12_all_71 : decode cX12_all 71 = .ok (.lastore, 1) := by decide +kernel
theorem dX12_all_72 : decode cX12_all 72 = .ok (.goto 14, 3) := by decide +kernel
theorem dX12_all_75 : decode cX12_all 75 = .ok (.aload_n 2, 1) := by decide +kernel
theorem dX12_all_76 : decode cX12_all 76 = .ok (.iload 5, 2) := by decide +kernel
theorem dX12_all_78 : decode cX12_all 78 = .ok (.aload_n 0, 1) := by decide +kernel
theorem dX12_all_79 : decode cX12_all 79 = .ok (.getfield 32, 3) := by decide +kernel
theorem dX12_all_82 : decode cX12_all 82 = .ok (.iload 5, 2) := by decide +kernel
theorem dX12_all_84 : decode cX12_all 84 = .ok (.laload, 1) := by decide +kernel
theorem dX12_all_85 : decode cX12_all 85 = .ok (.lastore, 1) := by decide +kernel
theorem dX12_all_86 : decode cX12_all 86 = .ok (.iinc 5 1, 3) := by decide +kernel
theorem dX12_all_89 : decode cX12_all 89 = .ok (.goto (-39), 3) := by decide +kernel
theorem dX12_all_92 : decode cX12_all 92 = .ok (.iload_n 3, 1) := by decide +kernel
theorem dX12_all_93 : decode cX12_all 93 = .ok (.ifCond .eq 44, 3) := by decide +kernel
theorem dX12_all_96 : decode cX12_all 96 = .ok (.aload_n 0, 1) := by decide +kernel
theorem dX12_all_97 : decode cX12_all 97 = .ok (.aload_n 1, 1) := by decide +kernel
theorem dX12_all_98 : decode cX12_all 98 = .ok (.iload 4, 2) := by decide +kernel
theorem dX12_all_100 : decode cX12_all 100 = .ok (.iaload, 1) := by decide +kernel
theorem dX12_all_101 : decode cX12_all 101 = .ok (.putfield 90, 3) := by decide +kernel
theorem dX12_all_104 : decode cX12_all 104 = .ok (.aload_n 0, 1) := by decide +kernel
theorem dX12_all_105 : decode cX12_all 105 = .ok (.aload_n 1, 1) := by decide +kernel
theorem dX12_all_106 : decode cX12_all 106 = .ok (.iload 4, 2) := by decide +kernel
theorem dX12_all_108 : decode cX12_all 108 = .ok (.iconst 1, 1) := by decide +kernel
theorem dX12_all_109 : decode cX12_all 109 = .ok (.iadd, 1) := by decide +kernel
theorem dX12_all_110 : decode cX12_all 110 = .ok (.iaload, 1) := by decide +kernel
theorem dX12_all_111 : decode cX12_all 111 = .ok (.putfield 155, 3) := by decide +kernel
theorem dX12_all_114 : decode cX12_all 114 = .ok (.aload_n 0, 1) := by decide +kernel
theorem dX12_all_115 : decode cX12_all 115 = .ok (.aload_n 1, 1) := by decide +kernel
theorem dX12_all_116 : decode cX12_all 116 = .ok (.iload 4, 2) := by decide +kernel
theorem dX12_all_118 : decode cX12_all 118 = .ok (.iconst 2, 1) := by decide +kernel
theorem dX12_all_119 : decode cX12_all 119 = .ok (.iadd, 1) := by decide +kernel
theorem dX12_all_120 : decode cX12_all 120 = .ok (.iaload, 1) := by decide +kernel
theorem dX12_all_121 : decode cX12_all 121 = .ok (.putfield 7, 3) := by decide +kernel
theorem dX12_all_124 : decode cX12_all 124 = .ok (.aload_n 0, 1) := by decide +kernel
theorem dX12_all_125 : decode cX12_all 125 = .ok (.aload_n 1, 1) := by decide +kernel
theorem dX12_all_126 : decode cX12_all 126 = .ok (.iload 4, 2) := by decide +kernel
theorem dX12_all_128 : decode cX12_all 128 = .ok (.iconst 3, 1) := by decide +kernel
theorem dX12_all_129 : decode cX12_all 129 = .ok (.iadd, 1) := by decide +kernel
theorem dX12_all_130 : decode cX12_all 130 = .ok (.iaload, 1) := by decide +kernel
theorem dX12_all_131 : decode cX12_all 131 = .ok (.putfield 13, 3) := by decide +kernel
theorem dX12_all_134 : decode cX12_all 134 = .ok (.goto 41, 3) := by decide +kernel
theorem dX12_all_137 : decode cX12_all 137 = .ok (.aload_n 1, 1) := by decide +kernel
theorem dX12_all_138 : decode cX12_all 138 = .ok (.iload 4, 2) := by decide +kernel
theorem dX12_all_140 : decode cX12_all 140 = .ok (.aload_n 0, 1) := by decide +kernel
theorem dX12_all_141 : decode cX12_all 141 = .ok (.getfield 90, 3) := by decide +kernel
theorem dX12_all_144 : decode cX12_all 144 = .ok (.iastore, 1) := by decide +kernel
theorem dX12_all_145 : decode cX12_all 145 = .ok (.aload_n 1, 1) := by decide +kernel
theorem dX12_all_146 : decode cX12_all 146 = .ok (.iload 4, 2) := by decide +kernel
theorem dX12_all_148 : decode cX12_all 148 = .ok (.iconst 1, 1) := by decide +kernel
theorem dX12_all_149 : decode cX12_all 149 = .ok (.iadd, 1) := by decide +kernel
theorem dX12_all_150 : decode cX12_all 150 = .ok (.aload_n 0, 1) := by decide +kernel
theorem dX12_all_151 : decode cX12_all 151 = .ok (.getfield 155, 3) := by decide +kernel
theorem dX12_all_154 : decode cX12_all 154 = .ok (.iastore, 1) := by decide +kernel
theorem dX12_all_155 : decode cX12_all 155 = .ok (.aload_n 1, 1) := by decide +kernel
theorem dX12_all_156 : decode cX12_all 156 = .ok (.iload 4, 2) := by decide +kernel
theorem dX12_all_158 : decode cX12_all 158 = .ok (.iconst 2, 1) := by decide +kernel
theorem dX12_all_159 : decode cX12_all 159 = .ok (.iadd, 1) := by decide +kernel
theorem dX12_all_160 : decode cX12_all 160 = .ok (.aload_n 0, 1) := by decide +kernel
theorem dX12_all_161 : decode cX12_all 161 = .ok (.getfield 7, 3) := by decide +kernel
theorem dX12_all_164 : decode cX12_all 164 = .ok (.iastore, 1) := by decide +kernel
theorem dX12_all_165 : decode cX12_all 165 = .ok (.aload_n 1, 1) := by decide +kernel
theorem dX12_all_166 : decode cX12_all 166 = .ok (.iload 4, 2) := by decide +kernel
theorem dX12_all_168 : decode cX12_all 168 = .ok (.iconst 3, 1) := by decide +kernel
theorem dX12_all_169 : decode cX12_all 169 = .ok (.iadd, 1) := by decide +kernel
theorem dX12_all_170 : decode cX12_all 170 = .ok (.aload_n 0, 1) := by decide +kernel
theorem dX12_all_171 : decode cX12_all 171 = .ok (.getfield 13, 3) := by decide +kernel
theorem dX12_all_174 : decode cX12_all 174 = .ok (.iastore, 1) := by decide +kernel
theorem dX12_all_175 : decode cX12_all 175 = .ok (.return_, 1) := by decide +kernel
theorem dX12_text_0 : decode cX12_text 0 = .ok (.aload_n 0, 1) := by decide +kernel
theorem dX12_text_1 : decode cX12_text 1 = .ok (.iload_n 1, 1) := by decide +kernel
theorem dX12_text_2 : decode cX12_text 2 = .ok (.invokevirtual 123, 3) := by decide +kernel
theorem dX12_text_5 : decode cX12_text 5 = .ok (.istore_n 2, 1) := by decide +kernel
theorem dX12_text_6 : decode cX12_text 6 = .ok (.iload_n 2, 1) := by decide +kernel
theorem dX12_text_7 : decode cX12_text 7 = .ok (.ifCond .eq 9, 3) := by decide +kernel
theorem dX12_text_10 : decode cX12_text 10 = .ok (.aload_n 0, 1) := by decide +kernel
theorem dX12_text_11 : decode cX12_text 11 = .ok (.iload_n 2, 1) := by decide +kernel
theorem dX12_text_12 : decode cX12_text 12 = .ok (.invokevirtual 99, 3) := by decide +kernel
theorem dX12_text_15 : decode cX12_text 15 = .ok (.ireturn, 1) := by decide +kernel
theorem dX12_text_16 : decode cX12_text 16 = .ok (.aload_n 0, 1) := by decide +kernel
theorem dX12_text_17 : decode cX12_text 17 = .ok (.aload_n 0, 1) := by decide +kernel
theorem dX12_text_18 : decode cX12_text 18 = .ok (.getfield 60, 3) := by decide +kernel
theorem dX12_text_21 : decode cX12_text 21 = .ok (.aload_n 0, 1) := by decide +kernel
theorem dX12_text_22 : decode cX12_text 22 = .ok (.getfield 66, 3) := by decide +kernel
theorem dX12_text_25 : decode cX12_text 25 = .ok (.iconst 0, 1) := by decide +kernel
theorem dX12_text_26 : decode cX12_text 26 = .ok (.invokevirtual 179, 3) := by decide +kernel
theorem dX12_text_29 : decode cX12_text 29 = .ok (.aload_n 0, 1) := by decide +kernel
theorem dX12_text_30 : decode cX12_text 30 = .ok (.sipush 160, 3) := by decide +kernel
theorem dX12_text_33 : decode cX12_text 33 = .ok (.iload_n 1, 1) := by decide +kernel
theorem dX12_text_34 : decode cX12_text 34 = .ok (.imul, 1) := by decide +kernel
theorem dX12_text_35 : decode cX12_text 35 = .ok (.putfield 139, 3) := by decide +kernel
theorem dX12_text_38 : decode cX12_text 38 = .ok (.aload_n 0, 1) := by decide +kernel
theorem dX12_text_39 : decode cX12_text 39 = .ok (.iconst 0, 1) := by decide +kernel
theorem dX12_text_40 : decode cX12_text 40 = .ok (.putfield 133, 3) := by decide +kernel
theorem dX12_text_43 : decode cX12_text 43 = .ok (.aload_n 0, 1) := by decide +kernel
theorem dX12_text_44 : decode cX12_text 44 = .ok (.aload_n 0, 1) := by decide +kernel
theorem dX12_text_45 : decode cX12_text 45 = .ok (.getfield 42, 3) := by decide +kernel
theorem dX12_text_48 : decode cX12_text 48 = .ok (.iload_n 1, 1) := by decide +kernel
theorem dX12_text_49 : decode cX12_text 49 = .ok (.iaload, 1) := by decide +kernel
theorem dX12_text_50 : decode cX12_text 50 = .ok (.putfield 136, 3) := by decide +kernel
theorem dX12_text_53 : decode cX12_text 53 = .ok (.aload_n 0, 1) := by decide +kernel
theorem dX12_text_54 : decode cX12_text 54 = .ok (.iconst (-1), 1) := by decide +kernel
theorem dX12_text_55 : decode cX12_text 55 = .ok (.putfield 16, 3) := by decide +kernel
theorem dX12_text_58 : decode cX12_text 58 = .ok (.iconst 1, 1) := by decide +kernel
theorem dX12_text_59 : decode cX12_text 59 = .ok (.istore_n 3, 1) := by decide +kernel
theorem dX12_text_60 : decode cX12_text 60 = .ok (.aload_n 0, 1) := by decide +kernel
theorem dX12_text_61 : decode cX12_text 61 = .ok (.invokevirtual 183, 3) := by decide +kernel
theorem dX12_text_64 : decode cX12_text 64 = .ok (.istore 4, 2) := by decide +kernel
theorem dX12_text_66 : decode cX12_text 66 = .ok (.iload 4, 2) := by decide +kernel
theorem dX12_text_68 : decode cX12_text 68 = .ok (.ifCond .eq 69, 3) := by decide +kernel
theorem dX12_text_71 : decode cX12_text 71 = .ok (.aload_n 0, 1) := by decide +kernel
theorem dX12_text_72 : decode cX12_text 72 = .ok (.getfield 133, 3) := by decide +kernel
theorem dX12_text_75 : decode cX12_text 75 = .ok (.aload_n 0, 1) := by decide +kernel
theorem dX12_text_76 : decode cX12_text 76 = .ok (.getfield 136, 3) := by decide +kernel
theorem dX12_text_79 : decode cX12_text 79 = .ok (.if_icmp .ge 58, 3) := by decide +kernel
theorem dX12_text_82 : decode cX12_text 82 = .ok (.aload_n 0, 1) := by decide +kernel
theorem dX12_text_83 : decode cX12_text 83 = .ok (.getfield 48, 3) := by decide +kernel
theorem dX12_text_86 : decode cX12_text 86 = .ok (.aload_n 0, 1) := by decide +kernel
theorem dX12_text_87 : decode cX12_text 87 = .ok (.getfield 139, 3) := by decide +kernel
theorem dX12_text_90 : decode cX12_text 90 = .ok (.aload_n 0, 1) := by decide +kernel
theorem dX12_text_91 : decode cX12_text 91 = .ok (.getfield 133, 3) := by decide +kernel
theorem dX12_text_94 : decode cX12_text 94 = .ok (.iadd, 1) := by decide +kernel
theorem dX12_text_95 : decode cX12_text 95 = .ok (.laload, 1) := by decide +kernel
theorem dX12_text_96 : decode cX12_text 96 = .ok (.l2i, 1) := by decide +kernel
theorem dX12_text_97 : decode cX12_text 97 = .ok (.bipush 59, 2) := by decide +kernel
theorem dX12_text_99 : decode cX12_text 99 = .ok (.if_icmp .eq 16, 3) := by decide +kernel
theorem dX12_text_102 : decode cX12_text 102 = .ok (.aload_n 0, 1) := by decide +kernel
theorem dX12_text_103 : decode cX12_text 103 = .ok (.aload_n 0, 1) := by decide +kernel
theorem dX12_text_104 : decode cX12_text 104 = .ok (.getfield 133, 3) := by decide +kernel
theorem dX12_text_107 : decode cX12_text 107 = .ok (.invokevirtual 149, 3) := by decide +kernel
theorem dX12_text_110 : decode cX12_text 110 = .ok (.istore 4, 2) := by decide +kernel
theorem dX12_text_112 : decode cX12_text 112 = .ok (.goto (-46), 3) := by decide +kernel
theorem dX12_text_115 : decode cX12_text 115 = .ok (.aload_n 0, 1) := by decide +kernel
theorem dX12_text_116 : decode cX12_text 116 = .ok (.dup, 1) := by decide +kernel
theorem dX12_text_117 : decode cX12_text 117 = .ok (.getfield 133, 3) := by decide +kernel
theorem dX12_text_120 : decode cX12_text 120 = .ok (.iconst 1, 1) := by decide +kernel
theorem dX12_text_121 : decode cX12_text 121 = .ok (.iadd, 1) := by decide +kernel
theorem dX12_text_122 : decode cX12_text 122 = .ok (.putfield 133, 3) := by decide +kernel
theorem dX12_text_125 : decode cX12_text 125 = .ok (.iinc 3 1, 3) := by decide +kernel
theorem dX12_text_128 : decode cX12_text 128 = .ok (.aload_n 0, 1) := by decide +kernel
theorem dX12_text_129 : decode cX12_text 129 = .ok (.invokevirtual 183, 3) := by decide +kernel
theorem dX12_text_132 : decode cX12_text 132 = .ok (.istore 4, 2) := by decide +kernel
theorem dX12_text_134 : decode cX12_text 134 = .ok (.goto (-68), 3) := by decide +kernel
theorem dX12_text_137 : decode cX12_text 137 = .ok (.iload 4, 2) := by decide +kernel
theorem dX12_text_139 : decode cX12_text 139 = .ok (.ifCond .eq 5, 3) := by decide +kernel
theorem dX12_text_142 : decode cX12_text 142 = .ok (.iload_n 3, 1) := by decide +kernel
theorem dX12_text_143 : decode cX12_text 143 = .ok (.ireturn, 1) := by decide +kernel
theorem dX12_text_144 : decode cX12_text 144 = .ok (.aload_n 0, 1) := by decide +kernel
theorem dX12_text_145 : decode cX12_text 145 = .ok (.aload_n 0, 1) := by decide +kernel
theorem dX12_text_146 : decode cX12_text 146 = .ok (.getfield 60, 3) := by decide +kernel
theorem dX12_text_149 : decode cX12_text 149 = .ok (.aload_n 0, 1) := by decide +kernel
theorem dX12_text_150 : decode cX12_text 150 = .ok (.getfield 66, 3) := by decide +kernel
theorem dX12_text_153 : decode cX12_text 153 = .ok (.iconst 1, 1) := by decide +kernel
theorem dX12_text_154 : decode cX12_text 154 = .ok (.invokevirtual 179, 3) := by decide +kernel
theorem dX12_text_157 : decode cX12_text 157 = .ok (.aload_n 0, 1) := by decide +kernel
theorem dX12_text_158 : decode cX12_text 158 = .ok (.aload_n 0, 1) := by decide +kernel
theorem dX12_text_159 : decode cX12_text 159 = .ok (.getfield 130, 3) := by decide +kernel
theorem dX12_text_162 : decode cX12_text 162 = .ok (.putfield 16, 3) := by decide +kernel
theorem dX12_text_165 : decode cX12_text 165 = .ok (.aload_n 0, 1) := by decide +kernel
theorem dX12_text_166 : decode cX12_text 166 = .ok (.bipush (-6), 2) := by decide +kernel
theorem dX12_text_168 : decode cX12_text 168 = .ok (.invokevirtual 99, 3) := by decide +kernel
theorem dX12_text_171 : decode cX12_text 171 = .ok (.ireturn, 1) := by decide +kernel
theorem dX12_fault_0 : decode cX12_fault 0 = .ok (.aload_n 0, 1) := by decide +kernel
theorem dX12_fault_1 : decode cX12_fault 1 = .ok (.getfield 16, 3) := by decide +kernel
theorem dX12_fault_4 : decode cX12_fault 4 = .ok (.ireturn, 1) := by decide +kernel
theorem dX12_figures_0 : decode cX12_figures 0 = .ok (.iconst 0, 1) := by decide +kernel
theorem dX12_figures_1 : decode cX12_figures 1 = .ok (.istore_n 3, 1) := by decide +kernel
theorem dX12_figures_2 : decode cX12_figures 2 = .ok (.lload_n 1, 1) := by decide +kernel
theorem dX12_figures_3 : decode cX12_figures 3 = .ok (.lstore 4, 2) := by decide +kernel
theorem dX12_figures_5 : decode cX12_figures 5 = .ok (.aload_n 0, 1) := by decide +kernel
theorem dX12_figures_6 : decode cX12_figures 6 = .ok (.getfield 72, 3) := by decide +kernel
theorem dX12_figures_9 : decode cX12_figures 9 = .ok (.iload_n 3, 1) := by decide +kernel
theorem dX12_figures_10 : decode cX12_figures 10 = .ok (.lload 4, 2) := by decide +kernel
theorem dX12_figures_12 : decode cX12_figures 12 = .ok (.aload_n 0, 1) := by decide +kernel
theorem dX12_figures_13 : decode cX12_figures 13 = .ok (.getfield 7, 3) := by decide +kernel
theorem dX12_figures_16 : decode cX12_figures 16 = .ok (.i2l, 1) := by decide +kernel
theorem dX12_figures_17 : decode cX12_figures 17 = .ok (.lrem, 1) := by decide +kernel
theorem dX12_figures_18 : decode cX12_figures 18 = .ok (.l2i, 1) := by decide +kernel
theorem dX12_figures_19 : decode cX12_figures 19 = .ok (.iastore, 1) := by decide +kernel
theorem dX12_figures_20 : decode cX12_figures 20 = .ok (.iinc 3 1, 3) := by decide +kernel
theorem dX12_figures_23 : decode cX12_figures 23 = .ok (.lload 4, 2) := by decide +kernel
theorem dX12_figures_25 : decode cX12_figures 25 = .ok (.aload_n 0, 1) := by decide +kernel
theorem dX12_figures_26 : decode cX12_figures 26 = .ok (.getfield 7, 3) := by decide +kernel
theorem dX12_figures_29 : decode cX12_figures 29 = .ok (.i2l, 1) := by decide +kernel
theorem dX12_figures_30 : decode cX12_figures 30 = .ok (.ldiv, 1) := by decide +kernel
theorem dX12_figures_31 : decode cX12_figures 31 = .ok (.lstore 4, 2) := by decide +kernel
theorem dX12_figures_33 : decode cX12_figures 33 = .ok (.lload 4, 2) := by decide +kernel
theorem dX12_figures_35 : decode cX12_figures 35 = .ok (.lconst 0, 1) := by decide +kernel
theorem dX12_figures_36 : decode cX12_figures 36 = .ok (.lcmp, 1) := by decide +kernel
theorem dX12_figures_37 : decode cX12_figures 37 = .ok (.ifCond .gt (-32), 3) := by decide +kernel
theorem dX12_figures_40 : decode cX12_figures 40 = .ok (.iload_n 3, 1) := by decide +kernel
theorem dX12_figures_41 : decode cX12_figures 41 = .ok (.ireturn, 1) := by decide +kernel
theorem dX12_turnedOf_0 : decode cX12_turnedOf 0 = .ok (.lconst 0, 1) := by decide +kernel
theorem dX12_turnedOf_1 : decode cX12_turnedOf 1 = .ok (.lstore_n 3, 1) := by decide +kernel
theorem dX12_turnedOf_2 : decode cX12_turnedOf 2 = .ok (.lload_n 1, 1) := by decide +kernel
theorem dX12_turnedOf_3 : decode cX12_turnedOf 3 = .ok (.lstore 5, 2) := by decide +kernel
theorem dX12_turnedOf_5 : decode cX12_turnedOf 5 = .ok (.lload 5, 2) := by decide +kernel
theorem dX12_turnedOf_7 : decode cX12_turnedOf 7 = .ok (.lconst 0, 1) := by decide +kernel
theorem dX12_turnedOf_8 : decode cX12_turnedOf 8 = .ok (.lcmp, 1) := by decide +kernel
theorem dX12_turnedOf_9 : decode cX12_turnedOf 9 = .ok (.ifCond .le 33, 3) := by decide +kernel
theorem dX12_turnedOf_12 : decode cX12_turnedOf 12 = .ok (.lload_n 3, 1) := by decide +kernel
theorem dX12_turnedOf_13 : decode cX12_turnedOf 13 = .ok (.aload_n 0, 1) := by decide +kernel
theorem dX12_turnedOf_14 : decode cX12_turnedOf 14 = .ok (.getfield 7, 3) := by decide +kernel
theorem dX12_turnedOf_17 : decode cX12_turnedOf 17 = .ok (.i2l, 1) := by decide +kernel
theorem dX12_turnedOf_18 : decode cX12_turnedOf 18 = .ok (.lmul, 1) := by decide +kernel
theorem dX12_turnedOf_19 : decode cX12_turnedOf 19 = .ok (.lload 5, 2) := by decide +kernel
theorem dX12_turnedOf_21 : decode cX12_turnedOf 21 = .ok (.aload_n 0, 1) := by decide +kernel
theorem dX12_turnedOf_22 : decode cX12_turnedOf 22 = .ok (.getfield 7, 3) := by decide +kernel
theorem dX12_turnedOf_25 : decode cX12_turnedOf 25 = .ok (.i2l, 1) := by decide +kernel
theorem dX12_turnedOf_26 : decode cX12_turnedOf 26 = .ok (.lrem, 1) := by decide +kernel
theorem dX12_turnedOf_27 : decode cX12_turnedOf 27 = .ok (.ladd, 1) := by decide +kernel
theorem dX12_turnedOf_28 : decode cX12_turnedOf 28 = .ok (.lstore_n 3, 1) := by decide +kernel
theorem dX12_turnedOf_29 : decode cX12_turnedOf 29 = .ok (.lload 5, 2) := by decide +kernel
theorem dX12_turnedOf_31 : decode cX12_turnedOf 31 = .ok (.aload_n 0, 1) := by decide +kernel
theorem dX12_turnedOf_32 : decode cX12_turnedOf 32 = .ok (.getfield 7, 3) := by decide +kernel
theorem dX12_turnedOf_35 : decode cX12_turnedOf 35 = .ok (.i2l, 1) := by decide +kernel
theorem dX12_turnedOf_36 : decode cX12_turnedOf 36 = .ok (.ldiv, 1) := by decide +kernel
theorem dX12_turnedOf_37 : decode cX12_turnedOf 37 = .ok (.lstore 5, 2) := by decide +kernel
theorem dX12_turnedOf_39 : decode cX12_turnedOf 39 = .ok (.goto (-34), 3) := by decide +kernel
theorem dX12_turnedOf_42 : decode cX12_turnedOf 42 = .ok (.lload_n 3, 1) := by decide +kernel
theorem dX12_turnedOf_43 : decode cX12_turnedOf 43 = .ok (.lreturn, 1) := by decide +kernel
theorem dX12_isAlike_0 : decode cX12_isAlike 0 = .ok (.aload_n 0, 1) := by decide +kernel
theorem dX12_isAlike_1 : decode cX12_isAlike 1 = .ok (.lload_n 1, 1) := by decide +kernel
theorem dX12_isAlike_2 : decode cX12_isAlike 2 = .ok (.invokevirtual 186, 3) := by decide +kernel
theorem dX12_isAlike_5 : decode cX12_isAlike 5 = .ok (.lload_n 1, 1) := by decide +kernel
theorem dX12_isAlike_6 : decode cX12_isAlike 6 = .ok (.lcmp, 1) := by decide +kernel
theorem dX12_isAlike_7 : decode cX12_isAlike 7 = .ok (.ifCond .ne 7, 3) := by decide +kernel
theorem dX12_isAlike_10 : decode cX12_isAlike 10 = .ok (.iconst 1, 1) := by decide +kernel
theorem dX12_isAlike_11 : decode cX12_isAlike 11 = .ok (.goto 4, 3) := by decide +kernel
theorem dX12_isAlike_14 : decode cX12_isAlike 14 = .ok (.iconst 0, 1) := by decide +kernel
theorem dX12_isAlike_15 : decode cX12_isAlike 15 = .ok (.ireturn, 1) := by decide +kernel
theorem dX12_checkOf_0 : decode cX12_checkOf 0 = .ok (.aload_n 0, 1) := by decide +kernel
theorem dX12_checkOf_1 : decode cX12_checkOf 1 = .ok (.lload_n 1, 1) := by decide +kernel
theorem dX12_checkOf_2 : decode cX12_checkOf 2 = .ok (.invokevirtual 190, 3) := by decide +kernel
theorem dX12_checkOf_5 : decode cX12_checkOf 5 = .ok (.istore_n 3, 1) := by decide +kernel
theorem dX12_checkOf_6 : decode cX12_checkOf 6 = .ok (.iconst 0, 1) := by decide +kernel
theorem dX12_checkOf_7 : decode cX12_checkOf 7 = .ok (.istore 4, 2) := by decide +kernel
theorem dX12_checkOf_9 : decode cX12_checkOf 9 = .ok (.iconst 0, 1) := by decide +kernel
theorem dX12_checkOf_10 : decode cX12_checkOf 10 = .ok (.istore 5, 2) := by decide +kernel
theorem dX12_checkOf_12 : decode cX12_checkOf 12 = .ok (.iload 5, 2) := by decide +kernel
theorem dX12_checkOf_14 : decode cX12_checkOf 14 = .ok (.iload_n 3, 1) := by decide +kernel
theorem dX12_checkOf_15 : decode cX12_checkOf 15 = .ok (.if_icmp .ge 26, 3) := by decide +kernel
theorem dX12_checkOf_18 : decode cX12_checkOf 18 = .ok (.iload 4, 2) := by decide +kernel
theorem dX12_checkOf_20 : decode cX12_checkOf 20 = .ok (.aload_n 0, 1) := by decide +kernel
theorem dX12_checkOf_21 : decode cX12_checkOf 21 = .ok (.getfield 72, 3) := by decide +kernel
theorem dX12_checkOf_24 : decode cX12_checkOf 24 = .ok (.iload 5, 2) := by decide +kernel
theorem dX12_checkOf_26 : decode cX12_checkOf 26 = .ok (.iaload, 1) := by decide +kernel
theorem dX12_checkOf_27 : decode cX12_checkOf 27 = .ok (.iload 5, 2) := by decide +kernel
theorem dX12_checkOf_29 : decode cX12_checkOf 29 = .ok (.iconst 1, 1) := by decide +kernel
theorem dX12_checkOf_30 : decode cX12_checkOf 30 = .ok (.iadd, 1) := by decide +kernel
theorem dX12_checkOf_31 : decode cX12_checkOf 31 = .ok (.imul, 1) := by decide +kernel
theorem dX12_checkOf_32 : decode cX12_checkOf 32 = .ok (.iadd, 1) := by decide +kernel
theorem dX12_checkOf_33 : decode cX12_checkOf 33 = .ok (.istore 4, 2) := by decide +kernel
theorem dX12_checkOf_35 : decode cX12_checkOf 35 = .ok (.iinc 5 1, 3) := by decide +kernel
theorem dX12_checkOf_38 : decode cX12_checkOf 38 = .ok (.goto (-26), 3) := by decide +kernel
theorem dX12_checkOf_41 : decode cX12_checkOf 41 = .ok (.iload 4, 2) := by decide +kernel
theorem dX12_checkOf_43 : decode cX12_checkOf 43 = .ok (.aload_n 0, 1) := by decide +kernel
theorem dX12_checkOf_44 : decode cX12_checkOf 44 = .ok (.getfield 7, 3) := by decide +kernel
theorem dX12_checkOf_47 : decode cX12_checkOf 47 = .ok (.irem, 1) := by decide +kernel
theorem dX12_checkOf_48 : decode cX12_checkOf 48 = .ok (.ireturn, 1) := by decide +kernel
theorem dX12_turned_0 : decode cX12_turned 0 = .ok (.aload_n 0, 1) := by decide +kernel
theorem dX12_turned_1 : decode cX12_turned 1 = .ok (.lload_n 1, 1) := by decide +kernel
theorem dX12_turned_2 : decode cX12_turned 2 = .ok (.invokevirtual 193, 3) := by decide +kernel
theorem dX12_turned_5 : decode cX12_turned 5 = .ok (.ifCond .eq 11, 3) := by decide +kernel
theorem dX12_turned_8 : decode cX12_turned 8 = .ok (.aload_n 0, 1) := by decide +kernel
theorem dX12_turned_9 : decode cX12_turned 9 = .ok (.lload_n 1, 1) := by decide +kernel
theorem dX12_turned_10 : decode cX12_turned 10 = .ok (.invokevirtual 186, 3) := by decide +kernel
theorem dX12_turned_13 : decode cX12_turned 13 = .ok (.goto 10, 3) := by decide +kernel
theorem dX12_turned_16 : decode cX12_turned 16 = .ok (.aload_n 0, 1) := by decide +kernel
theorem dX12_turned_17 : decode cX12_turned 17 = .ok (.bipush (-6), 2) := by decide +kernel
theorem dX12_turned_19 : decode cX12_turned 19 = .ok (.invokevirtual 99, 3) := by decide +kernel
theorem dX12_turned_22 : decode cX12_turned 22 = .ok (.i2l, 1) := by decide +kernel
theorem dX12_turned_23 : decode cX12_turned 23 = .ok (.lreturn, 1) := by decide +kernel
theorem dX12_numberOf_0 : decode cX12_numberOf 0 = .ok (.iload_n 3, 1) := by decide +kernel
theorem dX12_numberOf_1 : decode cX12_numberOf 1 = .ok (.ifCond .lt 8, 3) := by decide +kernel
theorem dX12_numberOf_4 : decode cX12_numberOf 4 = .ok (.iload_n 3, 1) := by decide +kernel
theorem dX12_numberOf_5 : decode cX12_numberOf 5 = .ok (.iconst 3, 1) := by decide +kernel
theorem dX12_numberOf_6 : decode cX12_numberOf 6 = .ok (.if_icmp .le 10, 3) := by decide +kernel
theorem dX12_numberOf_9 : decode cX12_numberOf 9 = .ok (.aload_n 0, 1) := by decide +kernel
theorem dX12_numberOf_10 : decode cX12_numberOf 10 = .ok (.bipush (-5), 2) := by decide +kernel
theorem dX12_numberOf_12 : decode cX12_numberOf 12 = .ok (.invokevirtual 99, 3) := by decide +kernel
theorem dX12_numberOf_15 : decode cX12_numberOf 15 = .ok (.ireturn, 1) := by decide +kernel
theorem dX12_numberOf_16 : decode cX12_numberOf 16 = .ok (.aload_n 0, 1) := by decide +kernel
theorem dX12_numberOf_17 : decode cX12_numberOf 17 = .ok (.lload_n 1, 1) := by decide +kernel
theorem dX12_numberOf_18 : decode cX12_numberOf 18 = .ok (.invokevirtual 193, 3) := by decide +kernel
theorem dX12_numberOf_21 : decode cX12_numberOf 21 = .ok (.ifCond .ne 10, 3) := by decide +kernel
theorem dX12_numberOf_24 : decode cX12_numberOf 24 = .ok (.aload_n 0, 1) := by decide +kernel
theorem dX12_numberOf_25 : decode cX12_numberOf 25 = .ok (.bipush (-6), 2) := by decide +kernel
theorem dX12_numberOf_27 : decode cX12_numberOf 27 = .ok (.invokevirtual 99, 3) := by decide +kernel
theorem dX12_numberOf_30 : decode cX12_numberOf 30 = .ok (.ireturn, 1) := by decide +kernel
theorem dX12_numberOf_31 : decode cX12_numberOf 31 = .ok (.aload_n 0, 1) := by decide +kernel
theorem dX12_numberOf_32 : decode cX12_numberOf 32 = .ok (.lload_n 1, 1) := by decide +kernel
theorem dX12_numberOf_33 : decode cX12_numberOf 33 = .ok (.invokevirtual 190, 3) := by decide +kernel
theorem dX12_numberOf_36 : decode cX12_numberOf 36 = .ok (.istore 4, 2) := by decide +kernel
theorem dX12_numberOf_38 : decode cX12_numberOf 38 = .ok (.iconst 0, 1) := by decide +kernel
theorem dX12_numberOf_39 : decode cX12_numberOf 39 = .ok (.istore 5, 2) := by decide +kernel
theorem dX12_numberOf_41 : decode cX12_numberOf 41 = .ok (.iconst 0, 1) := by decide +kernel
theorem dX12_numberOf_42 : decode cX12_numberOf 42 = .ok (.istore 6, 2) := by decide +kernel
theorem dX12_numberOf_44 : decode cX12_numberOf 44 = .ok (.iload 6, 2) := by decide +kernel
theorem dX12_numberOf_46 : decode cX12_numberOf 46 = .ok (.iload 4, 2) := by decide +kernel
theorem dX12_numberOf_48 : decode cX12_numberOf 48 = .ok (.if_icmp .ge 21, 3) := by decide +kernel
theorem dX12_numberOf_51 : decode cX12_numberOf 51 = .ok (.iload 5, 2) := by decide +kernel
theorem dX12_numberOf_53 : decode cX12_numberOf 53 = .ok (.aload_n 0, 1) := by decide +kernel
theorem dX12_numberOf_54 : decode cX12_numberOf 54 = .ok (.getfield 72, 3) := by decide +kernel
theorem dX12_numberOf_57 : decode cX12_numberOf 57 = .ok (.iload 6, 2) := by decide +kernel
theorem dX12_numberOf_59 : decode cX12_numberOf 59 = .ok (.iaload, 1) := by decide +kernel
theorem dX12_numberOf_60 : decode cX12_numberOf 60 = .ok (.iadd, 1) := by decide +kernel
theorem dX12_numberOf_61 : decode cX12_numberOf 61 = .ok (.istore 5, 2) := by decide +kernel
theorem dX12_numberOf_63 : decode cX12_numberOf 63 = .ok (.iinc 6 1, 3) := by decide +kernel
theorem dX12_numberOf_66 : decode cX12_numberOf 66 = .ok (.goto (-22), 3) := by decide +kernel
theorem dX12_numberOf_69 : decode cX12_numberOf 69 = .ok (.iload_n 3, 1) := by decide +kernel
theorem dX12_numberOf_70 : decode cX12_numberOf 70 = .ok (.tableswitch 46 0 2 #[26, 29, 32], 26) := by decide +kernel
theorem dX12_numberOf_96 : decode cX12_numberOf 96 = .ok (.iload 4, 2) := by decide +kernel
theorem dX12_numberOf_98 : decode cX12_numberOf 98 = .ok (.ireturn, 1) := by decide +kernel
theorem dX12_numberOf_99 : decode cX12_numberOf 99 = .ok (.iload 5, 2) := by decide +kernel
theorem dX12_numberOf_101 : decode cX12_numberOf 101 = .ok (.ireturn, 1) := by decide +kernel
theorem dX12_numberOf_102 : decode cX12_numberOf 102 = .ok (.aload_n 0, 1) := by decide +kernel
theorem dX12_numberOf_103 : decode cX12_numberOf 103 = .ok (.lload_n 1, 1) := by decide +kernel
theorem dX12_numberOf_104 : decode cX12_numberOf 104 = .ok (.invokevirtual 197, 3) := by decide +kernel
theorem dX12_numberOf_107 : decode cX12_numberOf 107 = .ok (.ifCond .eq 7, 3) := by decide +kernel
theorem dX12_numberOf_110 : decode cX12_numberOf 110 = .ok (.iconst 1, 1) := by decide +kernel
theorem dX12_numberOf_111 : decode cX12_numberOf 111 = .ok (.goto 4, 3) := by decide +kernel
theorem dX12_numberOf_114 : decode cX12_numberOf 114 = .ok (.iconst 0, 1) := by decide +kernel
theorem dX12_numberOf_115 : decode cX12_numberOf 115 = .ok (.ireturn, 1) := by decide +kernel
theorem dX12_numberOf_116 : decode cX12_numberOf 116 = .ok (.aload_n 0, 1) := by decide +kernel
theorem dX12_numberOf_117 : decode cX12_numberOf 117 = .ok (.lload_n 1, 1) := by decide +kernel
theorem dX12_numberOf_118 : decode cX12_numberOf 118 = .ok (.invokevirtual 200, 3) := by decide +kernel
theorem dX12_numberOf_121 : decode cX12_numberOf 121 = .ok (.ireturn, 1) := by decide +kernel
theorem dX12_ordered_0 : decode cX12_ordered 0 = .ok (.aload_n 0, 1) := by decide +kernel
theorem dX12_ordered_1 : decode cX12_ordered 1 = .ok (.lload_n 1, 1) := by decide +kernel
theorem dX12_ordered_2 : decode cX12_ordered 2 = .ok (.invokevirtual 190, 3) := by decide +kernel
theorem dX12_ordered_5 : decode cX12_ordered 5 = .ok (.istore_n 3, 1) := by decide +kernel
theorem dX12_ordered_6 : decode cX12_ordered 6 = .ok (.iconst 0, 1) := by decide +kernel
theorem dX12_ordered_7 : decode cX12_ordered 7 = .ok (.istore 4, 2) := by decide +kernel
theorem dX12_ordered_9 : decode cX12_ordered 9 = .ok (.iload 4, 2) := by decide +kernel
theorem dX12_ordered_11 : decode cX12_ordered 11 = .ok (.iload_n 3, 1) := by decide +kernel
theorem dX12_ordered_12 : decode cX12_ordered 12 = .ok (.if_icmp .ge 84, 3) := by decide +kernel
theorem dX12_ordered_15 : decode cX12_ordered 15 = .ok (.iconst 0, 1) := by decide +kernel
theorem dX12_ordered_16 : decode cX12_ordered 16 = .ok (.istore 5, 2) := by decide +kernel
theorem dX12_ordered_18 : decode cX12_ordered 18 = .ok (.iload 5, 2) := by decide +kernel
theorem dX12_ordered_20 : decode cX12_ordered 20 = .ok (.iconst 1, 1) := by decide +kernel
theorem dX12_ordered_21 : decode cX12_ordered 21 = .ok (.iadd, 1) := by decide +kernel
theorem dX12_ordered_22 : decode cX12_ordered 22 = .ok (.iload_n 3, 1) := by decide +kernel
theorem dX12_ordered_23 : decode cX12_ordered 23 = .ok (.iload 4, 2) := by decide +kernel
theorem dX12_ordered_25 : decode cX12_ordered 25 = .ok (.isub, 1) := by decide +kernel
theorem dX12_ordered_26 : decode cX12_ordered 26 = .ok (.if_icmp .ge 64, 3) := by decide +kernel
theorem dX12_ordered_29 : decode cX12_ordered 29 = .ok (.aload_n 0, 1) := by decide +kernel
theorem dX12_ordered_30 : decode cX12_ordered 30 = .ok (.getfield 72, 3) := by decide +kernel
theorem dX12_ordered_33 : decode cX12_ordered 33 = .ok (.iload 5, 2) := by decide +kernel
theorem dX12_ordered_35 : decode cX12_ordered 35 = .ok (.iaload, 1) := by decide +kernel
theorem dX12_ordered_36 : decode cX12_ordered 36 = .ok (.aload_n 0, 1) := by decide +kernel
theorem dX12_ordered_37 : decode cX12_ordered 37 = .ok (.getfield 72, 3) := by decide +kernel
theorem dX12_ordered_40 : decode cX12_ordered 40 = .ok (.iload 5, 2) := by decide +kernel
theorem dX12_ordered_42 : decode cX12_ordered 42 = .ok (.iconst 1, 1) := by decide +kernel
theorem dX12_ordered_43 : decode cX12_ordered 43 = .ok (.iadd, 1) := by decide +kernel
theorem dX12_ordered_44 : decode cX12_ordered 44 = .ok (.iaload, 1) := by decide +kernel
theorem dX12_ordered_45 : decode cX12_ordered 45 = .ok (.if_icmp .le 39, 3) := by decide +kernel
theorem dX12_ordered_48 : decode cX12_ordered 48 = .ok (.aload_n 0, 1) := by decide +kernel
theorem dX12_ordered_49 : decode cX12_ordered 49 = .ok (.getfield 72, 3) := by decide +kernel
theorem dX12_ordered_52 : decode cX12_ordered 52 = .ok (.iload 5, 2) := by decide +kernel
theorem dX12_ordered_54 : decode cX12_ordered 54 = .ok (.iaload, 1) := by decide +kernel
theorem dX12_ordered_55 : decode cX12_ordered 55 = .ok (.istore 6, 2) := by decide +kernel
theorem dX12_ordered_57 : decode cX12_ordered 57 = .ok (.aload_n 0, 1) := by decide +kernel
theorem dX12_ordered_58 : decode cX12_ordered 58 = .ok (.getfield 72, 3) := by decide +kernel
theorem dX12_ordered_61 : decode cX12_ordered 61 = .ok (.iload 5, 2) := by decide +kernel
theorem dX12_ordered_63 : decode cX12_ordered 63 = .ok (.aload_n 0, 1) := by decide +kernel
theorem dX12_ordered_64 : decode cX12_ordered 64 = .ok (.getfield 72, 3) := by decide +kernel
theorem dX12_ordered_67 : decode cX12_ordered 67 = .ok (.iload 5, 2) := by decide +kernel
theorem dX12_ordered_69 : decode cX12_ordered 69 = .ok (.iconst 1, 1) := by decide +kernel
theorem dX12_ordered_70 : decode cX12_ordered 70 = .ok (.iadd, 1) := by decide +kernel
theorem dX12_ordered_71 : decode cX12_ordered 71 = .ok (.iaload, 1) := by decide +kernel
theorem dX12_ordered_72 : decode cX12_ordered 72 = .ok (.iastore, 1) := by decide +kernel
theorem dX12_ordered_73 : decode cX12_ordered 73 = .ok (.aload_n 0, 1) := by decide +kernel
theorem dX12_ordered_74 : decode cX12_ordered 74 = .ok (.getfield 72, 3) := by decide +kernel
theorem dX12_ordered_77 : decode cX12_ordered 77 = .ok (.iload 5, 2) := by decide +kernel
theorem dX12_ordered_79 : decode cX12_ordered 79 = .ok (.iconst 1, 1) := by decide +kernel
theorem dX12_ordered_80 : decode cX12_ordered 80 = .ok (.iadd, 1) := by decide +kernel
theorem dX12_ordered_81 : decode cX12_ordered 81 = .ok (.iload 6, 2) := by decide +kernel
theorem dX12_ordered_83 : decode cX12_ordered 83 = .ok (.iastore, 1) := by decide +kernel
theorem dX12_ordered_84 : decode cX12_ordered 84 = .ok (.iinc 5 1, 3) := by decide +kernel
theorem dX12_ordered_87 : decode cX12_ordered 87 = .ok (.goto (-69), 3) := by decide +kernel
theorem dX12_ordered_90 : decode cX12_ordered 90 = .ok (.iinc 4 1, 3) := by decide +kernel
theorem dX12_ordered_93 : decode cX12_ordered 93 = .ok (.goto (-84), 3) := by decide +kernel
theorem dX12_ordered_96 : decode cX12_ordered 96 = .ok (.lconst 0, 1) := by decide +kernel
theorem dX12_ordered_97 : decode cX12_ordered 97 = .ok (.lstore 4, 2) := by decide +kernel
theorem dX12_ordered_99 : decode cX12_ordered 99 = .ok (.lconst 0, 1) := by decide +kernel
theorem dX12_ordered_100 : decode cX12_ordered 100 = .ok (.lstore 6, 2) := by decide +kernel
theorem dX12_ordered_102 : decode cX12_ordered 102 = .ok (.iconst 0, 1) := by decide +kernel
theorem dX12_ordered_103 : decode cX12_ordered 103 = .ok (.istore 8, 2) := by decide +kernel
theorem dX12_ordered_105 : decode cX12_ordered 105 = .ok (.iload 8, 2) := by decide +kernel
theorem dX12_ordered_107 : decode cX12_ordered 107 = .ok (.iload_n 3, 1) := by decide +kernel
theorem dX12_ordered_108 : decode cX12_ordered 108 = .ok (.if_icmp .ge 51, 3) := by decide +kernel
theorem dX12_ordered_111 : decode cX12_ordered 111 = .ok (.lload 4, 2) := by decide +kernel
theorem dX12_ordered_113 : decode cX12_ordered 113 = .ok (.aload_n 0, 1) := by decide +kernel
theorem dX12_ordered_114 : decode cX12_ordered 114 = .ok (.getfield 7, 3) := by decide +kernel
theorem dX12_ordered_117 : decode cX12_ordered 117 = .ok (.i2l, 1) := by decide +kernel
theorem dX12_ordered_118 : decode cX12_ordered 118 = .ok (.lmul, 1) := by decide +kernel
theorem dX12_ordered_119 : decode cX12_ordered 119 = .ok (.aload_n 0, 1) := by decide +kernel
theorem dX12_ordered_120 : decode cX12_ordered 120 = .ok (.getfield 72, 3) := by decide +kernel
theorem dX12_ordered_123 : decode cX12_ordered 123 = .ok (.iload 8, 2) := by decide +kernel
theorem dX12_ordered_125 : decode cX12_ordered 125 = .ok (.iaload, 1) := by decide +kernel
theorem dX12_ordered_126 : decode cX12_ordered 126 = .ok (.i2l, 1) := by decide +kernel
theorem dX12_ordered_127 : decode cX12_ordered 127 = .ok (.ladd, 1) := by decide +kernel
theorem dX12_ordered_128 : decode cX12_ordered 128 = .ok (.lstore 4, 2) := by decide +kernel
theorem dX12_ordered_130 : decode cX12_ordered 130 = .ok (.lload 6, 2) := by decide +kernel
theorem dX12_ordered_132 : decode cX12_ordered 132 = .ok (.aload_n 0, 1) := by decide +kernel
theorem dX12_ordered_133 : decode cX12_ordered 133 = .ok (.getfield 7, 3) := by decide +kernel
theorem dX12_ordered_136 : decode cX12_ordered 136 = .ok (.i2l, 1) := by decide +kernel
theorem dX12_ordered_137 : decode cX12_ordered 137 = .ok (.lmul, 1) := by decide +kernel
theorem dX12_ordered_138 : decode cX12_ordered 138 = .ok (.aload_n 0, 1) := by decide +kernel
theorem dX12_ordered_139 : decode cX12_ordered 139 = .ok (.getfield 72, 3) := by decide +kernel
theorem dX12_ordered_142 : decode cX12_ordered 142 = .ok (.iload_n 3, 1) := by decide +kernel
theorem dX12_ordered_143 : decode cX12_ordered 143 = .ok (.iconst 1, 1) := by decide +kernel
theorem dX12_ordered_144 : decode cX12_ordered 144 = .ok (.isub, 1) := by decide +kernel
theorem dX12_ordered_145 : decode cX12_ordered 145 = .ok (.iload 8, 2) := by decide +kernel
theorem dX12_ordered_147 : decode cX12_ordered 147 = .ok (.isub, 1) := by decide +kernel
theorem dX12_ordered_148 : decode cX12_ordered 148 = .ok (.iaload, 1) := by decide +kernel
theorem dX12_ordered_149 : decode cX12_ordered 149 = .ok (.i2l, 1) := by decide +kernel
theorem dX12_ordered_150 : decode cX12_ordered 150 = .ok (.ladd, 1) := by decide +kernel
theorem dX12_ordered_151 : decode cX12_ordered 151 = .ok (.lstore 6, 2) := by decide +kernel
theorem dX12_ordered_153 : decode cX12_ordered 153 = .ok (.iinc 8 1, 3) := by decide +kernel
theorem dX12_ordered_156 : decode cX12_ordered 156 = .ok (.goto (-51), 3) := by decide +kernel
theorem dX12_ordered_159 : decode cX12_ordered 159 = .ok (.lload 6, 2) := by decide +kernel
theorem dX12_ordered_161 : decode cX12_ordered 161 = .ok (.lload 4, 2) := by decide +kernel
theorem dX12_ordered_163 : decode cX12_ordered 163 = .ok (.lsub, 1) := by decide +kernel
theorem dX12_ordered_164 : decode cX12_ordered 164 = .ok (.lreturn, 1) := by decide +kernel
theorem dX12_nextOf_0 : decode cX12_nextOf 0 = .ok (.aload_n 0, 1) := by decide +kernel
theorem dX12_nextOf_1 : decode cX12_nextOf 1 = .ok (.getfield 23, 3) := by decide +kernel
theorem dX12_nextOf_4 : decode cX12_nextOf 4 = .ok (.iload_n 1, 1) := by decide +kernel
theorem dX12_nextOf_5 : decode cX12_nextOf 5 = .ok (.iaload, 1) := by decide +kernel
theorem dX12_nextOf_6 : decode cX12_nextOf 6 = .ok (.istore 4, 2) := by decide +kernel
theorem dX12_nextOf_8 : decode cX12_nextOf 8 = .ok (.lconst 0, 1) := by decide +kernel
theorem dX12_nextOf_9 : decode cX12_nextOf 9 = .ok (.lstore 5, 2) := by decide +kernel
theorem dX12_nextOf_11 : decode cX12_nextOf 11 = .ok (.iload 4, 2) := by decide +kernel
theorem dX12_nextOf_13 : decode cX12_nextOf 13 = .ok (.ifCond .ne 23, 3) := by decide +kernel
theorem dX12_nextOf_16 : decode cX12_nextOf 16 = .ok (.lload_n 2, 1) := by decide +kernel
theorem dX12_nextOf_17 : decode cX12_nextOf 17 = .ok (.aload_n 0, 1) := by decide +kernel
theorem dX12_nextOf_18 : decode cX12_nextOf 18 = .ok (.lload_n 2, 1) := by decide +kernel
theorem dX12_nextOf_19 : decode cX12_nextOf 19 = .ok (.invokevirtual 186, 3) := by decide +kernel
theorem dX12_nextOf_22 : decode cX12_nextOf 22 = .ok (.ladd, 1) := by decide +kernel
theorem dX12_nextOf_23 : decode cX12_nextOf 23 = .ok (.aload_n 0, 1) := by decide +kernel
theorem dX12_nextOf_24 : decode cX12_nextOf 24 = .ok (.getfield 26, 3) := by decide +kernel
theorem dX12_nextOf_27 : decode cX12_nextOf 27 = .ok (.iload_n 1, 1) := by decide +kernel
theorem dX12_nextOf_28 : decode cX12_nextOf 28 = .ok (.iaload, 1) := by decide +kernel
theorem dX12_nextOf_29 : decode cX12_nextOf 29 = .ok (.i2l, 1) := by decide +kernel
theorem dX12_nextOf_30 : decode cX12_nextOf 30 = .ok (.ladd, 1) := by decide +kernel
theorem dX12_nextOf_31 : decode cX12_nextOf 31 = .ok (.lstore 5, 2) := by decide +kernel
theorem dX12_nextOf_33 : decode cX12_nextOf 33 = .ok (.goto 198, 3) := by decide +kernel
theorem dX12_nextOf_36 : decode cX12_nextOf 36 = .ok (.iload 4, 2) := by decide +kernel
theorem dX12_nextOf_38 : decode cX12_nextOf 38 = .ok (.iconst 1, 1) := by decide +kernel
theorem dX12_nextOf_39 : decode cX12_nextOf 39 = .ok (.if_icmp .ne 32, 3) := by decide +kernel
theorem dX12_nextOf_42 : decode cX12_nextOf 42 = .ok (.lload_n 2, 1) := by decide +kernel
theorem dX12_nextOf_43 : decode cX12_nextOf 43 = .ok (.aload_n 0, 1) := by decide +kernel
theorem dX12_nextOf_44 : decode cX12_nextOf 44 = .ok (.lload_n 2, 1) := by decide +kernel
theorem dX12_nextOf_45 : decode cX12_nextOf 45 = .ok (.invokevirtual 186, 3) := by decide +kernel
theorem dX12_nextOf_48 : decode cX12_nextOf 48 = .ok (.lsub, 1) := by decide +kernel
theorem dX12_nextOf_49 : decode cX12_nextOf 49 = .ok (.lstore 5, 2) := by decide +kernel
theorem dX12_nextOf_51 : decode cX12_nextOf 51 = .ok (.lload 5, 2) := by decide +kernel
theorem dX12_nextOf_53 : decode cX12_nextOf 53 = .ok (.lconst 0, 1) := by decide +kernel
theorem dX12_nextOf_54 : decode cX12_nextOf 54 = .ok (.lcmp, 1) := by decide +kernel
theorem dX12_nextOf_55 : decode cX12_nextOf 55 = .ok (.ifCond .ge 9, 3) := by decide +kernel
theorem dX12_nextOf_58 : decode cX12_nextOf 58 = .ok (.lload 5, 2) := by decide +kernel
theorem dX12_nextOf_60 : decode cX12_nextOf 60 = .ok (.lneg, 1) := by decide +kernel
theorem dX12_nextOf_61 : decode cX12_nextOf 61 = .ok (.goto 5, 3) := by decide +kernel
theorem dX12_nextOf_64 : decode cX12_nextOf 64 = .ok (.lload 5, 2) := by decide +kernel
theorem dX12_nextOf_66 : decode cX12_nextOf 66 = .ok (.lstore 5, 2) := by decide +kernel
theorem dX12_nextOf_68 : decode cX12_nextOf 68 = .ok (.goto 163, 3) := by decide +kernel
theorem dX12_nextOf_71 : decode cX12_nextOf 71 = .ok (.iload 4, 2) := by decide +kernel
theorem dX12_nextOf_73 : decode cX12_nextOf 73 = .ok (.iconst 3, 1) := by decide +kernel
theorem dX12_nextOf_74 : decode cX12_nextOf 74 = .ok (.if_icmp .ne 13, 3) := by decide +kernel
theorem dX12_nextOf_77 : decode cX12_nextOf 77 = .ok (.aload_n 0, 1) := by decide +kernel
theorem dX12_nextOf_78 : decode cX12_nextOf 78 = .ok (.lload_n 2, 1) := by decide +kernel
theorem dX12_nextOf_79 : decode cX12_nextOf 79 = .ok (.invokevirtual 203, 3) := by decide +kernel
theorem dX12_nextOf_82 : decode cX12_nextOf 82 = .ok (.lstore 5, 2) := by decide +kernel
theorem dX12_nextOf_84 : decode cX12_nextOf 84 = .ok (.goto 147, 3) := by decide +kernel
theorem dX12_nextOf_87 : decode cX12_nextOf 87 = .ok (.iload 4, 2) := by decide +kernel
theorem dX12_nextOf_89 : decode cX12_nextOf 89 = .ok (.iconst 4, 1) := by decide +kernel
theorem dX12_nextOf_90 : decode cX12_nextOf 90 = .ok (.if_icmp .ne 57, 3) := by decide +kernel
theorem dX12_nextOf_93 : decode cX12_nextOf 93 = .ok (.aload_n 0, 1) := by decide +kernel
theorem dX12_nextOf_94 : decode cX12_nextOf 94 = .ok (.lload_n 2, 1) := by decide +kernel
theorem dX12_nextOf_95 : decode cX12_nextOf 95 = .ok (.invokevirtual 190, 3) := by decide +kernel
theorem dX12_nextOf_98 : decode cX12_nextOf 98 = .ok (.istore 7, 2) := by decide +kernel
theorem dX12_nextOf_100 : decode cX12_nextOf 100 = .ok (.lconst 1, 1) := by decide +kernel
theorem dX12_nextOf_101 : decode cX12_nextOf 101 = .ok (.lstore 5, 2) := by decide +kernel
theorem dX12_nextOf_103 : decode cX12_nextOf 103 = .ok (.iconst 0, 1) := by decide +kernel
theorem dX12_nextOf_104 : decode cX12_nextOf 104 = .ok (.istore 8, 2) := by decide +kernel
theorem dX12_nextOf_106 : decode cX12_nextOf 106 = .ok (.iload 8, 2) := by decide +kernel
theorem dX12_nextOf_108 : decode cX12_nextOf 108 = .ok (.iload 7, 2) := by decide +kernel
theorem dX12_nextOf_110 : decode cX12_nextOf 110 = .ok (.if_icmp .ge 22, 3) := by decide +kernel
theorem dX12_nextOf_113 : decode cX12_nextOf 113 = .ok (.lload 5, 2) := by decide +kernel
theorem dX12_nextOf_115 : decode cX12_nextOf 115 = .ok (.aload_n 0, 1) := by decide +kernel
theorem dX12_nextOf_116 : decode cX12_nextOf 116 = .ok (.getfield 72, 3) := by decide +kernel
theorem dX12_nextOf_119 : decode cX12_nextOf 119 = .ok (.iload 8, 2) := by decide +kernel
theorem dX12_nextOf_121 : decode cX12_nextOf 121 = .ok (.iaload, 1) := by decide +kernel
theorem dX12_nextOf_122 : decode cX12_nextOf 122 = .ok (.i2l, 1) := by decide +kernel
theorem dX12_nextOf_123 : decode cX12_nextOf 123 = .ok (.lmul, 1) := by decide +kernel
theorem dX12_nextOf_124 : decode cX12_nextOf 124 = .ok (.lstore 5, 2) := by decide +kernel
theorem dX12_nextOf_126 : decode cX12_nextOf 126 = .ok (.iinc 8 1, 3) := by decide +kernel
theorem dX12_nextOf_129 : decode cX12_nextOf 129 = .ok (.goto (-23), 3) := by decide +kernel
theorem dX12_nextOf_132 : decode cX12_nextOf 132 = .ok (.lload 5, 2) := by decide +kernel
theorem dX12_nextOf_134 : decode cX12_nextOf 134 = .ok (.aload_n 0, 1) := by decide +kernel
theorem dX12_nextOf_135 : decode cX12_nextOf 135 = .ok (.getfield 26, 3) := by decide +kernel
theorem dX12_nextOf_138 : decode cX12_nextOf 138 = .ok (.iload_n 1, 1) := by decide +kernel
theorem dX12_nextOf_139 : decode cX12_nextOf 139 = .ok (.iaload, 1) := by decide +kernel
theorem dX12_nextOf_140 : decode cX12_nextOf 140 = .ok (.i2l, 1) := by decide +kernel
theorem dX12_nextOf_141 : decode cX12_nextOf 141 = .ok (.ladd, 1) := by decide +kernel
theorem dX12_nextOf_142 : decode cX12_nextOf 142 = .ok (.lstore 5, 2) := by decide +kernel
theorem dX12_nextOf_144 : decode cX12_nextOf 144 = .ok (.goto 87, 3) := by decide +kernel
theorem dX12_nextOf_147 : decode cX12_nextOf 147 = .ok (.aload_n 0, 1) := by decide +kernel
theorem dX12_nextOf_148 : decode cX12_nextOf 148 = .ok (.lload_n 2, 1) := by decide +kernel
theorem dX12_nextOf_149 : decode cX12_nextOf 149 = .ok (.invokevirtual 190, 3) := by decide +kernel
theorem dX12_nextOf_152 : decode cX12_nextOf 152 = .ok (.istore 7, 2) := by decide +kernel
theorem dX12_nextOf_154 : decode cX12_nextOf 154 = .ok (.iconst 0, 1) := by decide +kernel
theorem dX12_nextOf_155 : decode cX12_nextOf 155 = .ok (.istore 8, 2) := by decide +kernel
theorem dX12_nextOf_157 : decode cX12_nextOf 157 = .ok (.iload 8, 2) := by decide +kernel
theorem dX12_nextOf_159 : decode cX12_nextOf 159 = .ok (.iload 7, 2) := by decide +kernel
theorem dX12_nextOf_161 : decode cX12_nextOf 161 = .ok (.if_icmp .ge 70, 3) := by decide +kernel
theorem dX12_nextOf_164 : decode cX12_nextOf 164 = .ok (.aload_n 0, 1) := by decide +kernel
theorem dX12_nextOf_165 : decode cX12_nextOf 165 = .ok (.getfield 72, 3) := by decide +kernel
theorem dX12_nextOf_168 : decode cX12_nextOf 168 = .ok (.iload 8, 2) := by decide +kernel
theorem dX12_nextOf_170 : decode cX12_nextOf 170 = .ok (.iaload, 1) := by decide +kernel
theorem dX12_nextOf_171 : decode cX12_nextOf 171 = .ok (.istore 9, 2) := by decide +kernel
theorem dX12_nextOf_173 : decode cX12_nextOf 173 = .ok (.lload 5, 2) := by decide +kernel
theorem dX12_nextOf_175 : decode cX12_nextOf 175 = .ok (.iload 4, 2) := by decide +kernel
theorem dX12_nextOf_177 : decode cX12_nextOf 177 = .ok (.iconst 2, 1) := by decide +kernel
theorem dX12_nextOf_178 : decode cX12_nextOf 178 = .ok (.if_icmp .ne 12, 3) := by decide +kernel
theorem dX12_nextOf_181 : decode cX12_nextOf 181 = .ok (.iload 9, 2) := by decide +kernel
theorem dX12_nextOf_183 : decode cX12_nextOf 183 = .ok (.iload 9, 2) := by decide +kernel
theorem dX12_nextOf_185 : decode cX12_nextOf 185 = .ok (.imul, 1) := by decide +kernel
theorem dX12_nextOf_186 : decode cX12_nextOf 186 = .ok (.i2l, 1) := by decide +kernel
theorem dX12_nextOf_187 : decode cX12_nextOf 187 = .ok (.goto 35, 3) := by decide +kernel
theorem dX12_nextOf_190 : decode cX12_nextOf 190 = .ok (.iload 4, 2) := by decide +kernel
theorem dX12_nextOf_192 : decode cX12_nextOf 192 = .ok (.bipush 6, 2) := by decide +kernel
theorem dX12_nextOf_194 : decode cX12_nextOf 194 = .ok (.if_icmp .ne 15, 3) := by decide +kernel
theorem dX12_nextOf_197 : decode cX12_nextOf 197 = .ok (.iload 9, 2) := by decide +kernel
theorem dX12_nextOf_199 : decode cX12_nextOf 199 = .ok (.iload 9, 2) := by decide +kernel
theorem dX12_nextOf_201 : decode cX12_nextOf 201 = .ok (.imul, 1) := by decide +kernel
theorem dX12_nextOf_202 : decode cX12_nextOf 202 = .ok (.iload 9, 2) := by decide +kernel
theorem dX12_nextOf_204 : decode cX12_nextOf 204 = .ok (.imul, 1) := by decide +kernel
theorem dX12_nextOf_205 : decode cX12_nextOf 205 = .ok (.i2l, 1) := by decide +kernel
theorem dX12_nextOf_206 : decode cX12_nextOf 206 = .ok (.goto 16, 3) := by decide +kernel
theorem dX12_nextOf_209 : decode cX12_nextOf 209 = .ok (.aload_n 0, 1) := by decide +kernel
theorem dX12_nextOf_210 : decode cX12_nextOf 210 = .ok (.getfield 29, 3) := by decide +kernel
theorem dX12_nextOf_213 : decode cX12_nextOf 213 = .ok (.bipush 10, 2) := by decide +kernel
theorem dX12_nextOf_215 : decode cX12_nextOf 215 = .ok (.iload_n 1, 1) := by decide +kernel
theorem dX12_nextOf_216 : decode cX12_nextOf 216 = .ok (.imul, 1) := by decide +kernel
theorem dX12_nextOf_217 : decode cX12_nextOf 217 = .ok (.iload 9, 2) := by decide +kernel
theorem dX12_nextOf_219 : decode cX12_nextOf 219 = .ok (.iadd, 1) := by decide +kernel
theorem dX12_nextOf_220 : decode cX12_nextOf 220 = .ok (.iaload, 1) := by decide +kernel
theorem dX12_nextOf_221 : decode cX12_nextOf 221 = .ok (.i2l, 1) := by decide +kernel
theorem dX12_nextOf_222 : decode cX12_nextOf 222 = .ok (.ladd, 1) := by decide +kernel
theorem dX12_nextOf_223 : decode cX12_nextOf 223 = .ok (.lstore 5, 2) := by decide +kernel
theorem dX12_nextOf_225 : decode cX12_nextOf 225 = .ok (.iinc 8 1, 3) := by decide +kernel
theorem dX12_nextOf_228 : decode cX12_nextOf 228 = .ok (.goto (-71), 3) := by decide +kernel
theorem dX12_nextOf_231 : decode cX12_nextOf 231 = .ok (.lload 5, 2) := by decide +kernel
theorem dX12_nextOf_233 : decode cX12_nextOf 233 = .ok (.ldc2_w 93, 3) := by decide +kernel
theorem dX12_nextOf_236 : decode cX12_nextOf 236 = .ok (.lcmp, 1) := by decide +kernel
theorem dX12_nextOf_237 : decode cX12_nextOf 237 = .ok (.ifCond .le 9, 3) := by decide +kernel
theorem dX12_nextOf_240 : decode cX12_nextOf 240 = .ok (.ldc2_w 173, 3) := by decide +kernel
theorem dX12_nextOf_243 : decode cX12_nextOf 243 = .ok (.goto 5, 3) := by decide +kernel
theorem dX12_nextOf_246 : decode cX12_nextOf 246 = .ok (.lload 5, 2) := by decide +kernel
theorem dX12_nextOf_248 : decode cX12_nextOf 248 = .ok (.lreturn, 1) := by decide +kernel
theorem dX12_next_0 : decode cX12_next 0 = .ok (.aload_n 0, 1) := by decide +kernel
theorem dX12_next_1 : decode cX12_next 1 = .ok (.iload_n 1, 1) := by decide +kernel
theorem dX12_next_2 : decode cX12_next 2 = .ok (.invokevirtual 103, 3) := by decide +kernel
theorem dX12_next_5 : decode cX12_next 5 = .ok (.ifCond .ne 10, 3) := by decide +kernel
theorem dX12_next_8 : decode cX12_next 8 = .ok (.aload_n 0, 1) := by decide +kernel
theorem dX12_next_9 : decode cX12_next 9 = .ok (.iconst (-1), 1) := by decide +kernel
theorem dX12_next_10 : decode cX12_next 10 = .ok (.invokevirtual 99, 3) := by decide +kernel
theorem dX12_next_13 : decode cX12_next 13 = .ok (.i2l, 1) := by decide +kernel
theorem dX12_next_14 : decode cX12_next 14 = .ok (.lreturn, 1) := by decide +kernel
theorem dX12_next_15 : decode cX12_next 15 = .ok (.aload_n 0, 1) := by decide +kernel
theorem dX12_next_16 : decode cX12_next 16 = .ok (.lload_n 2, 1) := by decide +kernel
theorem dX12_next_17 : decode cX12_next 17 = .ok (.invokevirtual 193, 3) := by decide +kernel
theorem dX12_next_20 : decode cX12_next 20 = .ok (.ifCond .ne 11, 3) := by decide +kernel
theorem dX12_next_23 : decode cX12_next 23 = .ok (.aload_n 0, 1) := by decide +kernel
theorem dX12_next_24 : decode cX12_next 24 = .ok (.bipush (-6), 2) := by decide +kernel
theorem dX12_next_26 : decode cX12_next 26 = .ok (.invokevirtual 99, 3) := by decide +kernel
theorem dX12_next_29 : decode cX12_next 29 = .ok (.i2l, 1) := by decide +kernel
theorem dX12_next_30 : decode cX12_next 30 = .ok (.lreturn, 1) := by decide +kernel
theorem dX12_next_31 : decode cX12_next 31 = .ok (.aload_n 0, 1) := by decide +kernel
theorem dX12_next_32 : decode cX12_next 32 = .ok (.iload_n 1, 1) := by decide +kernel
theorem dX12_next_33 : decode cX12_next 33 = .ok (.lload_n 2, 1) := by decide +kernel
theorem dX12_next_34 : decode cX12_next 34 = .ok (.invokevirtual 108, 3) := by decide +kernel
theorem dX12_next_37 : decode cX12_next 37 = .ok (.lstore 4, 2) := by decide +kernel
theorem dX12_next_39 : decode cX12_next 39 = .ok (.lload 4, 2) := by decide +kernel
theorem dX12_next_41 : decode cX12_next 41 = .ok (.ldc2_w 173, 3) := by decide +kernel
theorem dX12_next_44 : decode cX12_next 44 = .ok (.lcmp, 1) := by decide +kernel
theorem dX12_next_45 : decode cX12_next 45 = .ok (.ifCond .ne 13, 3) := by decide +kernel
theorem dX12_next_48 : decode cX12_next 48 = .ok (.aload_n 0, 1) := by decide +kernel
theorem dX12_next_49 : decode cX12_next 49 = .ok (.bipush (-7), 2) := by decide +kernel
theorem dX12_next_51 : decode cX12_next 51 = .ok (.invokevirtual 99, 3) := by decide +kernel
theorem dX12_next_54 : decode cX12_next 54 = .ok (.i2l, 1) := by decide +kernel
theorem dX12_next_55 : decode cX12_next 55 = .ok (.goto 5, 3) := by decide +kernel
theorem dX12_next_58 : decode cX12_next 58 = .ok (.lload 4, 2) := by decide +kernel
theorem dX12_next_60 : decode cX12_next 60 = .ok (.lreturn, 1) := by decide +kernel
theorem dX12_afterOf_0 : decode cX12_afterOf 0 = .ok (.lload_n 2, 1) := by decide +kernel
theorem dX12_afterOf_1 : decode cX12_afterOf 1 = .ok (.lstore 5, 2) := by decide +kernel
theorem dX12_afterOf_3 : decode cX12_afterOf 3 = .ok (.iconst 0, 1) := by decide +kernel
theorem dX12_afterOf_4 : decode cX12_afterOf 4 = .ok (.istore 7, 2) := by decide +kernel
theorem dX12_afterOf_6 : decode cX12_afterOf 6 = .ok (.iload 7, 2) := by decide +kernel
theorem dX12_afterOf_8 : decode cX12_afterOf 8 = .ok (.iload 4, 2) := by decide +kernel
theorem dX12_afterOf_10 : decode cX12_afterOf 10 = .ok (.if_icmp .ge 27, 3) := by decide +kernel
theorem dX12_afterOf_13 : decode cX12_afterOf 13 = .ok (.lload 5, 2) := by decide +kernel
theorem dX12_afterOf_15 : decode cX12_afterOf 15 = .ok (.ldc2_w 173, 3) := by decide +kernel
theorem dX12_afterOf_18 : decode cX12_afterOf 18 = .ok (.lcmp, 1) := by decide +kernel
theorem dX12_afterOf_19 : decode cX12_afterOf 19 = .ok (.ifCond .eq 18, 3) := by decide +kernel
theorem dX12_afterOf_22 : decode cX12_afterOf 22 = .ok (.aload_n 0, 1) := by decide +kernel
theorem dX12_afterOf_23 : decode cX12_afterOf 23 = .ok (.iload_n 1, 1) := by decide +kernel
theorem dX12_afterOf_24 : decode cX12_afterOf 24 = .ok (.lload 5, 2) := by decide +kernel
theorem dX12_afterOf_26 : decode cX12_afterOf 26 = .ok (.invokevirtual 108, 3) := by decide +kernel
theorem dX12_afterOf_29 : decode cX12_afterOf 29 = .ok (.lstore 5, 2) := by decide +kernel
theorem dX12_afterOf_31 : decode cX12_afterOf 31 = .ok (.iinc 7 1, 3) := by decide +kernel
theorem dX12_afterOf_34 : decode cX12_afterOf 34 = .ok (.goto (-28), 3) := by decide +kernel
theorem dX12_afterOf_37 : decode cX12_afterOf 37 = .ok (.lload 5, 2) := by decide +kernel
theorem dX12_afterOf_39 : decode cX12_afterOf 39 = .ok (.lreturn, 1) := by decide +kernel
theorem dX12_after_0 : decode cX12_after 0 = .ok (.aload_n 0, 1) := by decide +kernel
theorem dX12_after_1 : decode cX12_after 1 = .ok (.iload_n 1, 1) := by decide +kernel
theorem dX12_after_2 : decode cX12_after 2 = .ok (.invokevirtual 103, 3) := by decide +kernel
theorem dX12_after_5 : decode cX12_after 5 = .ok (.ifCond .ne 10, 3) := by decide +kernel
theorem dX12_after_8 : decode cX12_after 8 = .ok (.aload_n 0, 1) := by decide +kernel
theorem dX12_after_9 : decode cX12_after 9 = .ok (.iconst (-1), 1) := by decide +kernel
theorem dX12_after_10 : decode cX12_after 10 = .ok (.invokevirtual 99, 3) := by decide +kernel
theorem dX12_after_13 : decode cX12_after 13 = .ok (.i2l, 1) := by decide +kernel
theorem dX12_after_14 : decode cX12_after 14 = .ok (.lreturn, 1) := by decide +kernel
theorem dX12_after_15 : decode cX12_after 15 = .ok (.aload_n 0, 1) := by decide +kernel
theorem dX12_after_16 : decode cX12_after 16 = .ok (.lload_n 2, 1) := by decide +kernel
theorem dX12_after_17 : decode cX12_after 17 = .ok (.invokevirtual 193, 3) := by decide +kernel
theorem dX12_after_20 : decode cX12_after 20 = .ok (.ifCond .eq 16, 3) := by decide +kernel
theorem dX12_after_23 : decode cX12_after 23 = .ok (.iload 4, 2) := by decide +kernel
theorem dX12_after_25 : decode cX12_after 25 = .ok (.ifCond .lt 11, 3) := by decide +kernel
theorem dX12_after_28 : decode cX12_after 28 = .ok (.iload 4, 2) := by decide +kernel
theorem dX12_after_30 : decode cX12_after 30 = .ok (.sipush 1000, 3) := by decide +kernel
theorem dX12_after_33 : decode cX12_after 33 = .ok (.if_icmp .le 11, 3) := by decide +kernel
theorem dX12_after_36 : decode cX12_after 36 = .ok (.aload_n 0, 1) := by decide +kernel
theorem dX12_after_37 : decode cX12_after 37 = .ok (.bipush (-6), 2) := by decide +kernel
theorem dX12_after_39 : decode cX12_after 39 = .ok (.invokevirtual 99, 3) := by decide +kernel
theorem dX12_after_42 : decode cX12_after 42 = .ok (.i2l, 1) := by decide +kernel
theorem dX12_after_43 : decode cX12_after 43 = .ok (.lreturn, 1) := by decide +kernel
theorem dX12_after_44 : decode cX12_after 44 = .ok (.aload_n 0, 1) := by decide +kernel
theorem dX12_after_45 : decode cX12_after 45 = .ok (.iload_n 1, 1) := by decide +kernel
theorem dX12_after_46 : decode cX12_after 46 = .ok (.lload_n 2, 1) := by decide +kernel
theorem dX12_after_47 : decode cX12_after 47 = .ok (.iload 4, 2) := by decide +kernel
theorem dX12_after_49 : decode cX12_after 49 = .ok (.invokevirtual 206, 3) := by decide +kernel
theorem dX12_after_52 : decode cX12_after 52 = .ok (.lstore 5, 2) := by decide +kernel
theorem dX12_after_54 : decode cX12_after 54 = .ok (.lload 5, 2) := by decide +kernel
theorem dX12_after_56 : decode cX12_after 56 = .ok (.ldc2_w 173, 3) := by decide +kernel
theorem dX12_after_59 : decode cX12_after 59 = .ok (.lcmp, 1) := by decide +kernel
theorem dX12_after_60 : decode cX12_after 60 = .ok (.ifCond .ne 13, 3) := by decide +kernel
theorem dX12_after_63 : decode cX12_after 63 = .ok (.aload_n 0, 1) := by decide +kernel
theorem dX12_after_64 : decode cX12_after 64 = .ok (.bipush (-7), 2) := by decide +kernel
theorem dX12_after_66 : decode cX12_after 66 = .ok (.invokevirtual 99, 3) := by decide +kernel
theorem dX12_after_69 : decode cX12_after 69 = .ok (.i2l, 1) := by decide +kernel
theorem dX12_after_70 : decode cX12_after 70 = .ok (.goto 5, 3) := by decide +kernel
theorem dX12_after_73 : decode cX12_after 73 = .ok (.lload 5, 2) := by decide +kernel
theorem dX12_after_75 : decode cX12_after 75 = .ok (.lreturn, 1) := by decide +kernel
theorem dX12_goesOf_0 : decode cX12_goesOf 0 = .ok (.aload_n 0, 1) := by decide +kernel
theorem dX12_goesOf_1 : decode cX12_goesOf 1 = .ok (.lload_n 2, 1) := by decide +kernel
theorem dX12_goesOf_2 : decode cX12_goesOf 2 = .ok (.putfield 210, 3) := by decide +kernel
theorem dX12_goesOf_5 : decode cX12_goesOf 5 = .ok (.iconst 0, 1) := by decide +kernel
theorem dX12_goesOf_6 : decode cX12_goesOf 6 = .ok (.istore 4, 2) := by decide +kernel
theorem dX12_goesOf_8 : decode cX12_goesOf 8 = .ok (.iload 4, 2) := by decide +kernel
theorem dX12_goesOf_10 : decode cX12_goesOf 10 = .ok (.sipush 200, 3) := by decide +kernel
theorem dX12_goesOf_13 : decode cX12_goesOf 13 = .ok (.if_icmp .gt 47, 3) := by decide +kernel
theorem dX12_goesOf_16 : decode cX12_goesOf 16 = .ok (.aload_n 0, 1) := by decide +kernel
theorem dX12_goesOf_17 : decode cX12_goesOf 17 = .ok (.getfield 210, 3) := by decide +kernel
theorem dX12_goesOf_20 : decode cX12_goesOf 20 = .ok (.ldc2_w 173, 3) := by decide +kernel
theorem dX12_goesOf_23 : decode cX12_goesOf 23 = .ok (.lcmp, 1) := by decide +kernel
theorem dX12_goesOf_24 : decode cX12_goesOf 24 = .ok (.ifCond .eq 36, 3) := by decide +kernel
theorem dX12_goesOf_27 : decode cX12_goesOf 27 = .ok (.aload_n 0, 1) := by decide +kernel
theorem dX12_goesOf_28 : decode cX12_goesOf 28 = .ok (.aload_n 0, 1) := by decide +kernel
theorem dX12_goesOf_29 : decode cX12_goesOf 29 = .ok (.getfield 210, 3) := by decide +kernel
theorem dX12_goesOf_32 : decode cX12_goesOf 32 = .ok (.invokevirtual 197, 3) := by decide +kernel
theorem dX12_goesOf_35 : decode cX12_goesOf 35 = .ok (.ifCond .eq 6, 3) := by decide +kernel
theorem dX12_goesOf_38 : decode cX12_goesOf 38 = .ok (.iload 4, 2) := by decide +kernel
theorem dX12_goesOf_40 : decode cX12_goesOf 40 = .ok (.ireturn, 1) := by decide +kernel
theorem dX12_goesOf_41 : decode cX12_goesOf 41 = .ok (.aload_n 0, 1) := by decide +kernel
theorem dX12_goesOf_42 : decode cX12_goesOf 42 = .ok (.aload_n 0, 1) := by decide +kernel
theorem dX12_goesOf_43 : decode cX12_goesOf 43 = .ok (.iload_n 1, 1) := by decide +kernel
theorem dX12_goesOf_44 : decode cX12_goesOf 44 = .ok (.aload_n 0, 1) := by decide +kernel
theorem dX12_goesOf_45 : decode cX12_goesOf 45 = .ok (.getfield 210, 3) := by decide +kernel
theorem dX12_goesOf_48 : decode cX12_goesOf 48 = .ok (.invokevirtual 108, 3) := by decide +kernel
theorem dX12_goesOf_51 : decode cX12_goesOf 51 = .ok (.putfield 210, 3) := by decide +kernel
theorem dX12_goesOf_54 : decode cX12_goesOf 54 = .ok (.iinc 4 1, 3) := by decide +kernel
theorem dX12_goesOf_57 : decode cX12_goesOf 57 = .ok (.goto (-49), 3) := by decide +kernel
theorem dX12_goesOf_60 : decode cX12_goesOf 60 = .ok (.iconst (-1), 1) := by decide +kernel
theorem dX12_goesOf_61 : decode cX12_goesOf 61 = .ok (.ireturn, 1) := by decide +kernel
theorem dX12_goes_0 : decode cX12_goes 0 = .ok (.aload_n 0, 1) := by decide +kernel
theorem dX12_goes_1 : decode cX12_goes 1 = .ok (.iload_n 1, 1) := by decide +kernel
theorem dX12_goes_2 : decode cX12_goes 2 = .ok (.invokevirtual 103, 3) := by decide +kernel
theorem dX12_goes_5 : decode cX12_goes 5 = .ok (.ifCond .ne 9, 3) := by decide +kernel
theorem dX12_goes_8 : decode cX12_goes 8 = .ok (.aload_n 0, 1) := by decide +kernel
theorem dX12_goes_9 : decode cX12_goes 9 = .ok (.iconst (-1), 1) := by decide +kernel
theorem dX12_goes_10 : decode cX12_goes 10 = .ok (.invokevirtual 214, 3) := by decide +kernel
theorem dX12_goes_13 : decode cX12_goes 13 = .ok (.ireturn, 1) := by decide +kernel
theorem dX12_goes_14 : decode cX12_goes 14 = .ok (.aload_n 0, 1) := by decide +kernel
theorem dX12_goes_15 : decode cX12_goes 15 = .ok (.lload_n 2, 1) := by decide +kernel
theorem dX12_goes_16 : decode cX12_goes 16 = .ok (.invokevirtual 193, 3) := by decide +kernel
theorem dX12_goes_19 : decode cX12_goes 19 = .ok (.ifCond .eq 12, 3) := by decide +kernel
theorem dX12_goes_22 : decode cX12_goes 22 = .ok (.aload_n 0, 1) := by decide +kernel
theorem dX12_goes_23 : decode cX12_goes 23 = .ok (.iload_n 1, 1) := by decide +kernel
theorem dX12_goes_24 : decode cX12_goes 24 = .ok (.lload_n 2, 1) := by decide +kernel
theorem dX12_goes_25 : decode cX12_goes 25 = .ok (.invokevirtual 217, 3) := by decide +kernel
theorem dX12_goes_28 : decode cX12_goes 28 = .ok (.goto 9, 3) := by decide +kernel
theorem dX12_goes_31 : decode cX12_goes 31 = .ok (.aload_n 0, 1) := by decide +kernel
theorem dX12_goes_32 : decode cX12_goes 32 = .ok (.bipush (-6), 2) := by decide +kernel
theorem dX12_goes_34 : decode cX12_goes 34 = .ok (.invokevirtual 214, 3) := by decide +kernel
theorem dX12_goes_37 : decode cX12_goes 37 = .ok (.ireturn, 1) := by decide +kernel
theorem dX12_comes_0 : decode cX12_comes 0 = .ok (.aload_n 0, 1) := by decide +kernel
theorem dX12_comes_1 : decode cX12_comes 1 = .ok (.iload_n 1, 1) := by decide +kernel
theorem dX12_comes_2 : decode cX12_comes 2 = .ok (.invokevirtual 103, 3) := by decide +kernel
theorem dX12_comes_5 : decode cX12_comes 5 = .ok (.ifCond .ne 10, 3) := by decide +kernel
theorem dX12_comes_8 : decode cX12_comes 8 = .ok (.aload_n 0, 1) := by decide +kernel
theorem dX12_comes_9 : decode cX12_comes 9 = .ok (.iconst (-1), 1) := by decide +kernel
theorem dX12_comes_10 : decode cX12_comes 10 = .ok (.invokevirtual 99, 3) := by decide +kernel
theorem dX12_comes_13 : decode cX12_comes 13 = .ok (.i2l, 1) := by decide +kernel
theorem dX12_comes_14 : decode cX12_comes 14 = .ok (.lreturn, 1) := by decide +kernel
theorem dX12_comes_15 : decode cX12_comes 15 = .ok (.aload_n 0, 1) := by decide +kernel
theorem dX12_comes_16 : decode cX12_comes 16 = .ok (.lload_n 2, 1) := by decide +kernel
theorem dX12_comes_17 : decode cX12_comes 17 = .ok (.invokevirtual 193, 3) := by decide +kernel
theorem dX12_comes_20 : decode cX12_comes 20 = .ok (.ifCond .ne 11, 3) := by decide +kernel
theorem dX12_comes_23 : decode cX12_comes 23 = .ok (.aload_n 0, 1) := by decide +kernel
theorem dX12_comes_24 : decode cX12_comes 24 = .ok (.bipush (-6), 2) := by decide +kernel
theorem dX12_comes_26 : decode cX12_comes 26 = .ok (.invokevirtual 99, 3) := by decide +kernel
theorem dX12_comes_29 : decode cX12_comes 29 = .ok (.i2l, 1) := by decide +kernel
theorem dX12_comes_30 : decode cX12_comes 30 = .ok (.lreturn, 1) := by decide +kernel
theorem dX12_comes_31 : decode cX12_comes 31 = .ok (.aload_n 0, 1) := by decide +kernel
theorem dX12_comes_32 : decode cX12_comes 32 = .ok (.iload_n 1, 1) := by decide +kernel
theorem dX12_comes_33 : decode cX12_comes 33 = .ok (.lload_n 2, 1) := by decide +kernel
theorem dX12_comes_34 : decode cX12_comes 34 = .ok (.invokevirtual 217, 3) := by decide +kernel
theorem dX12_comes_37 : decode cX12_comes 37 = .ok (.iconst (-1), 1) := by decide +kernel
theorem dX12_comes_38 : decode cX12_comes 38 = .ok (.if_icmp .ne 13, 3) := by decide +kernel
theorem dX12_comes_41 : decode cX12_comes 41 = .ok (.aload_n 0, 1) := by decide +kernel
theorem dX12_comes_42 : decode cX12_comes 42 = .ok (.bipush (-5), 2) := by decide +kernel
theorem dX12_comes_44 : decode cX12_comes 44 = .ok (.invokevirtual 99, 3) := by decide +kernel
theorem dX12_comes_47 : decode cX12_comes 47 = .ok (.i2l, 1) := by decide +kernel
theorem dX12_comes_48 : decode cX12_comes 48 = .ok (.goto 7, 3) := by decide +kernel
theorem dX12_comes_51 : decode cX12_comes 51 = .ok (.aload_n 0, 1) := by decide +kernel
theorem dX12_comes_52 : decode cX12_comes 52 = .ok (.getfield 210, 3) := by decide +kernel
theorem dX12_comes_55 : decode cX12_comes 55 = .ok (.lreturn, 1) := by decide +kernel
theorem dX12_roundOf_0 : decode cX12_roundOf 0 = .ok (.aload_n 0, 1) := by decide +kernel
theorem dX12_roundOf_1 : decode cX12_roundOf 1 = .ok (.getfield 75, 3) := by decide +kernel
theorem dX12_roundOf_4 : decode cX12_roundOf 4 = .ok (.iconst 0, 1) := by decide +kernel
theorem dX12_roundOf_5 : decode cX12_roundOf 5 = .ok (.lload_n 2, 1) := by decide +kernel
theorem dX12_roundOf_6 : decode cX12_roundOf 6 = .ok (.lastore, 1) := by decide +kernel
theorem dX12_roundOf_7 : decode cX12_roundOf 7 = .ok (.iconst 1, 1) := by decide +kernel
theorem dX12_roundOf_8 : decode cX12_roundOf 8 = .ok (.istore 4, 2) := by decide +kernel
theorem dX12_roundOf_10 : decode cX12_roundOf 10 = .ok (.iload 4, 2) := by decide +kernel
theorem dX12_roundOf_12 : decode cX12_roundOf 12 = .ok (.sipush 1000, 3) := by decide +kernel
theorem dX12_roundOf_15 : decode cX12_roundOf 15 = .ok (.if_icmp .gt 156, 3) := by decide +kernel
theorem dX12_roundOf_18 : decode cX12_roundOf 18 = .ok (.aload_n 0, 1) := by decide +kernel
theorem dX12_roundOf_19 : decode cX12_roundOf 19 = .ok (.getfield 75, 3) := by decide +kernel
theorem dX12_roundOf_22 : decode cX12_roundOf 22 = .ok (.iload 4, 2) := by decide +kernel
theorem dX12_roundOf_24 : decode cX12_roundOf 24 = .ok (.aload_n 0, 1) := by decide +kernel
theorem dX12_roundOf_25 : decode cX12_roundOf 25 = .ok (.iload_n 1, 1) := by decide +kernel
theorem dX12_roundOf_26 : decode cX12_roundOf 26 = .ok (.aload_n 0, 1) := by decide +kernel
theorem dX12_roundOf_27 : decode cX12_roundOf 27 = .ok (.getfield 75, 3) := by decide +kernel
theorem dX12_roundOf_30 : decode cX12_roundOf 30 = .ok (.iload 4, 2) := by decide +kernel
theorem dX12_roundOf_32 : decode cX12_roundOf 32 = .ok (.iconst 1, 1) := by decide +kernel
theorem dX12_roundOf_33 : decode cX12_roundOf 33 = .ok (.isub, 1) := by decide +kernel
theorem dX12_roundOf_34 : decode cX12_roundOf 34 = .ok (.laload, 1) := by decide +kernel
theorem dX12_roundOf_35 : decode cX12_roundOf 35 = .ok (.invokevirtual 108, 3) := by decide +kernel
theorem dX12_roundOf_38 : decode cX12_roundOf 38 = .ok (.lastore, 1) := by decide +kernel
theorem dX12_roundOf_39 : decode cX12_roundOf 39 = .ok (.aload_n 0, 1) := by decide +kernel
theorem dX12_roundOf_40 : decode cX12_roundOf 40 = .ok (.getfield 75, 3) := by decide +kernel
theorem dX12_roundOf_43 : decode cX12_roundOf 43 = .ok (.iload 4, 2) := by decide +kernel
theorem dX12_roundOf_45 : decode cX12_roundOf 45 = .ok (.laload, 1) := by decide +kernel
theorem dX12_roundOf_46 : decode cX12_roundOf 46 = .ok (.ldc2_w 173, 3) := by decide +kernel
theorem dX12_roundOf_49 : decode cX12_roundOf 49 = .ok (.lcmp, 1) := by decide +kernel
theorem dX12_roundOf_50 : decode cX12_roundOf 50 = .ok (.ifCond .ne 7, 3) := by decide +kernel
theorem dX12_roundOf_53 : decode cX12_roundOf 53 = .ok (.ldc2_w 173, 3) := by decide +kernel
theorem dX12_roundOf_56 : decode cX12_roundOf 56 = .ok (.lreturn, 1) := by decide +kernel
theorem dX12_roundOf_57 : decode cX12_roundOf 57 = .ok (.iconst 0, 1) := by decide +kernel
theorem dX12_roundOf_58 : decode cX12_roundOf 58 = .ok (.istore 5, 2) := by decide +kernel
theorem dX12_roundOf_60 : decode cX12_roundOf 60 = .ok (.iload 5, 2) := by decide +kernel
theorem dX12_roundOf_62 : decode cX12_roundOf 62 = .ok (.iload 4, 2) := by decide +kernel
theorem dX12_roundOf_64 : decode cX12_roundOf 64 = .ok (.if_icmp .ge 101, 3) := by decide +kernel
theorem dX12_roundOf_67 : decode cX12_roundOf 67 = .ok (.aload_n 0, 1) := by decide +kernel
theorem dX12_roundOf_68 : decode cX12_roundOf 68 = .ok (.getfield 75, 3) := by decide +kernel
theorem dX12_roundOf_71 : decode cX12_roundOf 71 = .ok (.iload 5, 2) := by decide +kernel
theorem dX12_roundOf_73 : decode cX12_roundOf 73 = .ok (.laload, 1) := by decide +kernel
theorem dX12_roundOf_74 : decode cX12_roundOf 74 = .ok (.aload_n 0, 1) := by decide +kernel
theorem dX12_roundOf_75 : decode cX12_roundOf 75 = .ok (.getfield 75, 3) := by decide +kernel
theorem dX12_roundOf_78 : decode cX12_roundOf 78 = .ok (.iload 4, 2) := by decide +kernel
theorem dX12_roundOf_80 : decode cX12_roundOf 80 = .ok (.laload, 1) := by decide +kernel
theorem dX12_roundOf_81 : decode cX12_roundOf 81 = .ok (.lcmp, 1) := by decide +kernel
theorem dX12_roundOf_82 : decode cX12_roundOf 82 = .ok (.ifCond .eq 6, 3) := by decide +kernel
theorem dX12_roundOf_85 : decode cX12_roundOf 85 = .ok (.goto 74, 3) := by decide +kernel
theorem dX12_roundOf_88 : decode cX12_roundOf 88 = .ok (.aload_n 0, 1) := by decide +kernel
theorem dX12_roundOf_89 : decode cX12_roundOf 89 = .ok (.iload 5, 2) := by decide +kernel
theorem dX12_roundOf_91 : decode cX12_roundOf 91 = .ok (.putfield 221, 3) := by decide +kernel
theorem dX12_roundOf_94 : decode cX12_roundOf 94 = .ok (.aload_n 0, 1) := by decide +kernel
theorem dX12_roundOf_95 : decode cX12_roundOf 95 = .ok (.iload 4, 2) := by decide +kernel
theorem dX12_roundOf_97 : decode cX12_roundOf 97 = .ok (.iload 5, 2) := by decide +kernel
theorem dX12_roundOf_99 : decode cX12_roundOf 99 = .ok (.isub, 1) := by decide +kernel
theorem dX12_roundOf_100 : decode cX12_roundOf 100 = .ok (.putfield 224, 3) := by decide +kernel
theorem dX12_roundOf_103 : decode cX12_roundOf 103 = .ok (.aload_n 0, 1) := by decide +kernel
theorem dX12_roundOf_104 : decode cX12_roundOf 104 = .ok (.getfield 75, 3) := by decide +kernel
theorem dX12_roundOf_107 : decode cX12_roundOf 107 = .ok (.iload 5, 2) := by decide +kernel
theorem dX12_roundOf_109 : decode cX12_roundOf 109 = .ok (.laload, 1) := by decide +kernel
theorem dX12_roundOf_110 : decode cX12_roundOf 110 = .ok (.lstore 6, 2) := by decide +kernel
theorem dX12_roundOf_112 : decode cX12_roundOf 112 = .ok (.iload 5, 2) := by decide +kernel
theorem dX12_roundOf_114 : decode cX12_roundOf 114 = .ok (.istore 8, 2) := by decide +kernel
theorem dX12_roundOf_116 : decode cX12_roundOf 116 = .ok (.iload 8, 2) := by decide +kernel
theorem dX12_roundOf_118 : decode cX12_roundOf 118 = .ok (.iload 4, 2) := by decide +kernel
theorem dX12_roundOf_120 : decode cX12_roundOf 120 = .ok (.if_icmp .ge 36, 3) := by decide +kernel
theorem dX12_roundOf_123 : decode cX12_roundOf 123 = .ok (.aload_n 0, 1) := by decide +kernel
theorem dX12_roundOf_124 : decode cX12_roundOf 124 = .ok (.getfield 75, 3) := by decide +kernel
theorem dX12_roundOf_127 : decode cX12_roundOf 127 = .ok (.iload 8, 2) := by decide +kernel
theorem dX12_roundOf_129 : decode cX12_roundOf 129 = .ok (.laload, 1) := by decide +kernel
theorem dX12_roundOf_130 : decode cX12_roundOf 130 = .ok (.lload 6, 2) := by decide +kernel
theorem dX12_roundOf_132 : decode cX12_roundOf 132 = .ok (.lcmp, 1) := by decide +kernel
theorem dX12_roundOf_133 : decode cX12_roundOf 133 = .ok (.ifCond .ge 13, 3) := by decide +kernel
theorem dX12_roundOf_136 : decode cX12_roundOf 136 = .ok (.aload_n 0, 1) := by decide +kernel
theorem dX12_roundOf_137 : decode cX12_roundOf 137 = .ok (.getfield 75, 3) := by decide +kernel
theorem dX12_roundOf_140 : decode cX12_roundOf 140 = .ok (.iload 8, 2) := by decide +kernel
theorem dX12_roundOf_142 : decode cX12_roundOf 142 = .ok (.laload, 1) := by decide +kernel
theorem dX12_roundOf_143 : decode cX12_roundOf 143 = .ok (.goto 5, 3) := by decide +kernel
theorem dX12_roundOf_146 : decode cX12_roundOf 146 = .ok (.lload 6, 2) := by decide +kernel
theorem dX12_roundOf_148 : decode cX12_roundOf 148 = .ok (.lstore 6, 2) := by decide +kernel
theorem dX12_roundOf_150 : decode cX12_roundOf 150 = .ok (.iinc 8 1, 3) := by decide +kernel
theorem dX12_roundOf_153 : decode cX12_roundOf 153 = .ok (.goto (-37), 3) := by decide +kernel
theorem dX12_roundOf_156 : decode cX12_roundOf 156 = .ok (.lload 6, 2) := by decide +kernel
theorem dX12_roundOf_158 : decode cX12_roundOf 158 = .ok (.lreturn, 1) := by decide +kernel
theorem dX12_roundOf_159 : decode cX12_roundOf 159 = .ok (.iinc 5 1, 3) := by decide +kernel
theorem dX12_roundOf_162 : decode cX12_roundOf 162 = .ok (.goto (-102), 3) := by decide +kernel
theorem dX12_roundOf_165 : decode cX12_roundOf 165 = .ok (.iinc 4 1, 3) := by decide +kernel
theorem dX12_roundOf_168 : decode cX12_roundOf 168 = .ok (.goto (-158), 3) := by decide +kernel
theorem dX12_roundOf_171 : decode cX12_roundOf 171 = .ok (.ldc2_w 173, 3) := by decide +kernel
theorem dX12_roundOf_174 : decode cX12_roundOf 174 = .ok (.lreturn, 1) := by decide +kernel
theorem dX12_round_0 : decode cX12_round 0 = .ok (.aload_n 0, 1) := by decide +kernel
theorem dX12_round_1 : decode cX12_round 1 = .ok (.iload_n 1, 1) := by decide +kernel
theorem dX12_round_2 : decode cX12_round 2 = .ok (.invokevirtual 103, 3) := by decide +kernel
theorem dX12_round_5 : decode cX12_round 5 = .ok (.ifCond .ne 10, 3) := by decide +kernel
theorem dX12_round_8 : decode cX12_round 8 = .ok (.aload_n 0, 1) := by decide +kernel
theorem dX12_round_9 : decode cX12_round 9 = .ok (.iconst (-1), 1) := by decide +kernel
theorem dX12_round_10 : decode cX12_round 10 = .ok (.invokevirtual 99, 3) := by decide +kernel
theorem dX12_round_13 : decode cX12_round 13 = .ok (.i2l, 1) := by decide +kernel
theorem dX12_round_14 : decode cX12_round 14 = .ok (.lreturn, 1) := by decide +kernel
theorem dX12_round_15 : decode cX12_round 15 = .ok (.iload 4, 2) := by decide +kernel
theorem dX12_round_17 : decode cX12_round 17 = .ok (.ifCond .lt 9, 3) := by decide +kernel
theorem dX12_round_20 : decode cX12_round 20 = .ok (.iload 4, 2) := by decide +kernel
theorem dX12_round_22 : decode cX12_round 22 = .ok (.iconst 2, 1) := by decide +kernel
theorem dX12_round_23 : decode cX12_round 23 = .ok (.if_icmp .le 11, 3) := by decide +kernel
theorem dX12_round_26 : decode cX12_round 26 = .ok (.aload_n 0, 1) := by decide +kernel
theorem dX12_round_27 : decode cX12_round 27 = .ok (.bipush (-5), 2) := by decide +kernel
theorem dX12_round_29 : decode cX12_round 29 = .ok (.invokevirtual 99, 3) := by decide +kernel
theorem dX12_round_32 : decode cX12_round 32 = .ok (.i2l, 1) := by decide +kernel
theorem dX12_round_33 : decode cX12_round 33 = .ok (.lreturn, 1) := by decide +kernel
theorem dX12_round_34 : decode cX12_round 34 = .ok (.aload_n 0, 1) := by decide +kernel
theorem dX12_round_35 : decode cX12_round 35 = .ok (.lload_n 2, 1) := by decide +kernel
theorem dX12_round_36 : decode cX12_round 36 = .ok (.invokevirtual 193, 3) := by decide +kernel
theorem dX12_round_39 : decode cX12_round 39 = .ok (.ifCond .ne 11, 3) := by decide +kernel
theorem dX12_round_42 : decode cX12_round 42 = .ok (.aload_n 0, 1) := by decide +kernel
theorem dX12_round_43 : decode cX12_round 43 = .ok (.bipush (-6), 2) := by decide +kernel
theorem dX12_round_45 : decode cX12_round 45 = .ok (.invokevirtual 99, 3) := by decide +kernel
theorem dX12_round_48 : decode cX12_round 48 = .ok (.i2l, 1) := by decide +kernel
theorem dX12_round_49 : decode cX12_round 49 = .ok (.lreturn, 1) := by decide +kernel
theorem dX12_round_50 : decode cX12_round 50 = .ok (.aload_n 0, 1) := by decide +kernel
theorem dX12_round_51 : decode cX12_round 51 = .ok (.iload_n 1, 1) := by decide +kernel
theorem dX12_round_52 : decode cX12_round 52 = .ok (.lload_n 2, 1) := by decide +kernel
theorem dX12_round_53 : decode cX12_round 53 = .ok (.invokevirtual 227, 3) := by decide +kernel
theorem dX12_round_56 : decode cX12_round 56 = .ok (.lstore 5, 2) := by decide +kernel
theorem dX12_round_58 : decode cX12_round 58 = .ok (.lload 5, 2) := by decide +kernel
theorem dX12_round_60 : decode cX12_round 60 = .ok (.ldc2_w 173, 3) := by decide +kernel
theorem dX12_round_63 : decode cX12_round 63 = .ok (.lcmp, 1) := by decide +kernel
theorem dX12_round_64 : decode cX12_round 64 = .ok (.ifCond .ne 13, 3) := by decide +kernel
theorem dX12_round_67 : decode cX12_round 67 = .ok (.aload_n 0, 1) := by decide +kernel
theorem dX12_round_68 : decode cX12_round 68 = .ok (.bipush (-5), 2) := by decide +kernel
theorem dX12_round_70 : decode cX12_round 70 = .ok (.invokevirtual 99, 3) := by decide +kernel
theorem dX12_round_73 : decode cX12_round 73 = .ok (.i2l, 1) := by decide +kernel
theorem dX12_round_74 : decode cX12_round 74 = .ok (.goto 32, 3) := by decide +kernel
theorem dX12_round_77 : decode cX12_round 77 = .ok (.iload 4, 2) := by decide +kernel
theorem dX12_round_79 : decode cX12_round 79 = .ok (.ifCond .ne 11, 3) := by decide +kernel
theorem dX12_round_82 : decode cX12_round 82 = .ok (.aload_n 0, 1) := by decide +kernel
theorem dX12_round_83 : decode cX12_round 83 = .ok (.getfield 221, 3) := by decide +kernel
theorem dX12_round_86 : decode cX12_round 86 = .ok (.i2l, 1) := by decide +kernel
theorem dX12_round_87 : decode cX12_round 87 = .ok (.goto 19, 3) := by decide +kernel
theorem dX12_round_90 : decode cX12_round 90 = .ok (.iload 4, 2) := by decide +kernel
theorem dX12_round_92 : decode cX12_round 92 = .ok (.iconst 1, 1) := by decide +kernel
theorem dX12_round_93 : decode cX12_round 93 = .ok (.if_icmp .ne 11, 3) := by decide +kernel
theorem dX12_round_96 : decode cX12_round 96 = .ok (.aload_n 0, 1) := by decide +kernel
theorem dX12_round_97 : decode cX12_round 97 = .ok (.getfield 224, 3) := by decide +kernel
theorem dX12_round_100 : decode cX12_round 100 = .ok (.i2l, 1) := by decide +kernel
theorem dX12_round_101 : decode cX12_round 101 = .ok (.goto 5, 3) := by decide +kernel
theorem dX12_round_104 : decode cX12_round 104 = .ok (.lload 5, 2) := by decide +kernel
theorem dX12_round_106 : decode cX12_round 106 = .ok (.lreturn, 1) := by decide +kernel
theorem dX12_meet_0 : decode cX12_meet 0 = .ok (.aload_n 0, 1) := by decide +kernel
theorem dX12_meet_1 : decode cX12_meet 1 = .ok (.iload_n 1, 1) := by decide +kernel
theorem dX12_meet_2 : decode cX12_meet 2 = .ok (.invokevirtual 103, 3) := by decide +kernel
theorem dX12_meet_5 : decode cX12_meet 5 = .ok (.ifCond .ne 10, 3) := by decide +kernel
theorem dX12_meet_8 : decode cX12_meet 8 = .ok (.aload_n 0, 1) := by decide +kernel
theorem dX12_meet_9 : decode cX12_meet 9 = .ok (.iconst (-1), 1) := by decide +kernel
theorem dX12_meet_10 : decode cX12_meet 10 = .ok (.invokevirtual 99, 3) := by decide +kernel
theorem dX12_meet_13 : decode cX12_meet 13 = .ok (.i2l, 1) := by decide +kernel
theorem dX12_meet_14 : decode cX12_meet 14 = .ok (.lreturn, 1) := by decide +kernel
theorem dX12_meet_15 : decode cX12_meet 15 = .ok (.aload_n 0, 1) := by decide +kernel
theorem dX12_meet_16 : decode cX12_meet 16 = .ok (.lload_n 2, 1) := by decide +kernel
theorem dX12_meet_17 : decode cX12_meet 17 = .ok (.invokevirtual 193, 3) := by decide +kernel
theorem dX12_meet_20 : decode cX12_meet 20 = .ok (.ifCond .eq 12, 3) := by decide +kernel
theorem dX12_meet_23 : decode cX12_meet 23 = .ok (.aload_n 0, 1) := by decide +kernel
theorem dX12_meet_24 : decode cX12_meet 24 = .ok (.lload 4, 2) := by decide +kernel
theorem dX12_meet_26 : decode cX12_meet 26 = .ok (.invokevirtual 193, 3) := by decide +kernel
theorem dX12_meet_29 : decode cX12_meet 29 = .ok (.ifCond .ne 11, 3) := by decide +kernel
theorem dX12_meet_32 : decode cX12_meet 32 = .ok (.aload_n 0, 1) := by decide +kernel
theorem dX12_meet_33 : decode cX12_meet 33 = .ok (.bipush (-6), 2) := by decide +kernel
theorem dX12_meet_35 : decode cX12_meet 35 = .ok (.invokevirtual 99, 3) := by decide +kernel
theorem dX12_meet_38 : decode cX12_meet 38 = .ok (.i2l, 1) := by decide +kernel
theorem dX12_meet_39 : decode cX12_meet 39 = .ok (.lreturn, 1) := by decide +kernel
theorem dX12_meet_40 : decode cX12_meet 40 = .ok (.iconst 0, 1) := by decide +kernel
theorem dX12_meet_41 : decode cX12_meet 41 = .ok (.istore 6, 2) := by decide +kernel
theorem dX12_meet_43 : decode cX12_meet 43 = .ok (.lload 4, 2) := by decide +kernel
theorem dX12_meet_45 : decode cX12_meet 45 = .ok (.lstore 7, 2) := by decide +kernel
theorem dX12_meet_47 : decode cX12_meet 47 = .ok (.lload 7, 2) := by decide +kernel
theorem dX12_meet_49 : decode cX12_meet 49 = .ok (.ldc2_w 173, 3) := by decide +kernel
theorem dX12_meet_52 : decode cX12_meet 52 = .ok (.lcmp, 1) := by decide +kernel
theorem dX12_meet_53 : decode cX12_meet 53 = .ok (.ifCond .eq 35, 3) := by decide +kernel
theorem dX12_meet_56 : decode cX12_meet 56 = .ok (.iload 6, 2) := by decide +kernel
theorem dX12_meet_58 : decode cX12_meet 58 = .ok (.sipush 200, 3) := by decide +kernel
theorem dX12_meet_61 : decode cX12_meet 61 = .ok (.if_icmp .gt 27, 3) := by decide +kernel
theorem dX12_meet_64 : decode cX12_meet 64 = .ok (.aload_n 0, 1) := by decide +kernel
theorem dX12_meet_65 : decode cX12_meet 65 = .ok (.getfield 78, 3) := by decide +kernel
theorem dX12_meet_68 : decode cX12_meet 68 = .ok (.iload 6, 2) := by decide +kernel
theorem dX12_meet_70 : decode cX12_meet 70 = .ok (.lload 7, 2) := by decide +kernel
theorem dX12_meet_72 : decode cX12_meet 72 = .ok (.lastore, 1) := by decide +kernel
theorem dX12_meet_73 : decode cX12_meet 73 = .ok (.iinc 6 1, 3) := by decide +kernel
theorem dX12_meet_76 : decode cX12_meet 76 = .ok (.aload_n 0, 1) := by decide +kernel
theorem dX12_meet_77 : decode cX12_meet 77 = .ok (.iload_n 1, 1) := by decide +kernel
theorem dX12_meet_78 : decode cX12_meet 78 = .ok (.lload 7, 2) := by decide +kernel
theorem dX12_meet_80 : decode cX12_meet 80 = .ok (.invokevirtual 108, 3) := by decide +kernel
theorem dX12_meet_83 : decode cX12_meet 83 = .ok (.lstore 7, 2) := by decide +kernel
theorem dX12_meet_85 : decode cX12_meet 85 = .ok (.goto (-38), 3) := by decide +kernel
theorem dX12_meet_88 : decode cX12_meet 88 = .ok (.lload_n 2, 1) := by decide +kernel
theorem dX12_meet_89 : decode cX12_meet 89 = .ok (.lstore 7, 2) := by decide +kernel
theorem dX12_meet_91 : decode cX12_meet 91 = .ok (.iconst 0, 1) := by decide +kernel
theorem dX12_meet_92 : decode cX12_meet 92 = .ok (.istore 9, 2) := by decide +kernel
theorem dX12_meet_94 : decode cX12_meet 94 = .ok (.iload 9, 2) := by decide +kernel
theorem dX12_meet_96 : decode cX12_meet 96 = .ok (.sipush 200, 3) := by decide +kernel
theorem dX12_meet_99 : decode cX12_meet 99 = .ok (.if_icmp .gt 59, 3) := by decide +kernel
theorem dX12_meet_102 : decode cX12_meet 102 = .ok (.lload 7, 2) := by decide +kernel
theorem dX12_meet_104 : decode cX12_meet 104 = .ok (.ldc2_w 173, 3) := by decide +kernel
theorem dX12_meet_107 : decode cX12_meet 107 = .ok (.lcmp, 1) := by decide +kernel
theorem dX12_meet_108 : decode cX12_meet 108 = .ok (.ifCond .eq 50, 3) := by decide +kernel
theorem dX12_meet_111 : decode cX12_meet 111 = .ok (.iconst 0, 1) := by decide +kernel
theorem dX12_meet_112 : decode cX12_meet 112 = .ok (.istore 10, 2) := by decide +kernel
theorem dX12_meet_114 : decode cX12_meet 114 = .ok (.iload 10, 2) := by decide +kernel
theorem dX12_meet_116 : decode cX12_meet 116 = .ok (.iload 6, 2) := by decide +kernel
theorem dX12_meet_118 : decode cX12_meet 118 = .ok (.if_icmp .ge 25, 3) := by decide +kernel
theorem dX12_meet_121 : decode cX12_meet 121 = .ok (.aload_n 0, 1) := by decide +kernel
theorem dX12_meet_122 : decode cX12_meet 122 = .ok (.getfield 78, 3) := by decide +kernel
theorem dX12_meet_125 : decode cX12_meet 125 = .ok (.iload 10, 2) := by decide +kernel
theorem dX12_meet_127 : decode cX12_meet 127 = .ok (.laload, 1) := by decide +kernel
theorem dX12_meet_128 : decode cX12_meet 128 = .ok (.lload 7, 2) := by decide +kernel
theorem dX12_meet_130 : decode cX12_meet 130 = .ok (.lcmp, 1) := by decide +kernel
theorem dX12_meet_131 : decode cX12_meet 131 = .ok (.ifCond .ne 6, 3) := by decide +kernel
theorem dX12_meet_134 : decode cX12_meet 134 = .ok (.lload 7, 2) := by decide +kernel
theorem dX12_meet_136 : decode cX12_meet 136 = .ok (.lreturn, 1) := by decide +kernel
theorem dX12_meet_137 : decode cX12_meet 137 = .ok (.iinc 10 1, 3) := by decide +kernel
theorem dX12_meet_140 : decode cX12_meet 140 = .ok (.goto (-26), 3) := by decide +kernel
theorem dX12_meet_143 : decode cX12_meet 143 = .ok (.aload_n 0, 1) := by decide +kernel
theorem dX12_meet_144 : decode cX12_meet 144 = .ok (.iload_n 1, 1) := by decide +kernel
theorem dX12_meet_145 : decode cX12_meet 145 = .ok (.lload 7, 2) := by decide +kernel
theorem dX12_meet_147 : decode cX12_meet 147 = .ok (.invokevirtual 108, 3) := by decide +kernel
theorem dX12_meet_150 : decode cX12_meet 150 = .ok (.lstore 7, 2) := by decide +kernel
theorem dX12_meet_152 : decode cX12_meet 152 = .ok (.iinc 9 1, 3) := by decide +kernel
theorem dX12_meet_155 : decode cX12_meet 155 = .ok (.goto (-61), 3) := by decide +kernel
theorem dX12_meet_158 : decode cX12_meet 158 = .ok (.aload_n 0, 1) := by decide +kernel
theorem dX12_meet_159 : decode cX12_meet 159 = .ok (.bipush (-5), 2) := by decide +kernel
theorem dX12_meet_161 : decode cX12_meet 161 = .ok (.invokevirtual 99, 3) := by decide +kernel
theorem dX12_meet_164 : decode cX12_meet 164 = .ok (.i2l, 1) := by decide +kernel
theorem dX12_meet_165 : decode cX12_meet 165 = .ok (.lreturn, 1) := by decide +kernel
theorem dX12_source_0 : decode cX12_source 0 = .ok (.aload_n 0, 1) := by decide +kernel
theorem dX12_source_1 : decode cX12_source 1 = .ok (.iload_n 1, 1) := by decide +kernel
theorem dX12_source_2 : decode cX12_source 2 = .ok (.invokevirtual 103, 3) := by decide +kernel
theorem dX12_source_5 : decode cX12_source 5 = .ok (.ifCond .ne 9, 3) := by decide +kernel
theorem dX12_source_8 : decode cX12_source 8 = .ok (.aload_n 0, 1) := by decide +kernel
theorem dX12_source_9 : decode cX12_source 9 = .ok (.iconst (-1), 1) := by decide +kernel
theorem dX12_source_10 : decode cX12_source 10 = .ok (.invokevirtual 99, 3) := by decide +kernel
theorem dX12_source_13 : decode cX12_source 13 = .ok (.ireturn, 1) := by decide +kernel
theorem dX12_source_14 : decode cX12_source 14 = .ok (.iload 4, 2) := by decide +kernel
theorem dX12_source_16 : decode cX12_source 16 = .ok (.iconst (-1), 1) := by decide +kernel
theorem dX12_source_17 : decode cX12_source 17 = .ok (.if_icmp .ge 10, 3) := by decide +kernel
theorem dX12_source_20 : decode cX12_source 20 = .ok (.aload_n 0, 1) := by decide +kernel
theorem dX12_source_21 : decode cX12_source 21 = .ok (.bipush (-5), 2) := by decide +kernel
theorem dX12_source_23 : decode cX12_source 23 = .ok (.invokevirtual 99, 3) := by decide +kernel
theorem dX12_source_26 : decode cX12_source 26 = .ok (.ireturn, 1) := by decide +kernel
theorem dX12_source_27 : decode cX12_source 27 = .ok (.aload_n 0, 1) := by decide +kernel
theorem dX12_source_28 : decode cX12_source 28 = .ok (.lload_n 2, 1) := by decide +kernel
theorem dX12_source_29 : decode cX12_source 29 = .ok (.invokevirtual 193, 3) := by decide +kernel
theorem dX12_source_32 : decode cX12_source 32 = .ok (.ifCond .ne 10, 3) := by decide +kernel
theorem dX12_source_35 : decode cX12_source 35 = .ok (.aload_n 0, 1) := by decide +kernel
theorem dX12_source_36 : decode cX12_source 36 = .ok (.bipush (-6), 2) := by decide +kernel
theorem dX12_source_38 : decode cX12_source 38 = .ok (.invokevirtual 99, 3) := by decide +kernel
theorem dX12_source_41 : decode cX12_source 41 = .ok (.ireturn, 1) := by decide +kernel
theorem dX12_source_42 : decode cX12_source 42 = .ok (.iconst 0, 1) := by decide +kernel
theorem dX12_source_43 : decode cX12_source 43 = .ok (.istore 5, 2) := by decide +kernel
theorem dX12_source_45 : decode cX12_source 45 = .ok (.iconst 0, 1) := by decide +kernel
theorem dX12_source_46 : decode cX12_source 46 = .ok (.istore 6, 2) := by decide +kernel
theorem dX12_source_48 : decode cX12_source 48 = .ok (.iload 6, 2) := by decide +kernel
theorem dX12_source_50 : decode cX12_source 50 = .ok (.sipush 10000, 3) := by decide +kernel
theorem dX12_source_53 : decode cX12_source 53 = .ok (.if_icmp .ge 38, 3) := by decide +kernel
theorem dX12_source_56 : decode cX12_source 56 = .ok (.aload_n 0, 1) := by decide +kernel
theorem dX12_source_57 : decode cX12_source 57 = .ok (.iload_n 1, 1) := by decide +kernel
theorem dX12_source_58 : decode cX12_source 58 = .ok (.iload 6, 2) := by decide +kernel
theorem dX12_source_60 : decode cX12_source 60 = .ok (.i2l, 1) := by decide +kernel
theorem dX12_source_61 : decode cX12_source 61 = .ok (.invokevirtual 108, 3) := by decide +kernel
theorem dX12_source_64 : decode cX12_source 64 = .ok (.lload_n 2, 1) := by decide +kernel
theorem dX12_source_65 : decode cX12_source 65 = .ok (.lcmp, 1) := by decide +kernel
theorem dX12_source_66 : decode cX12_source 66 = .ok (.ifCond .eq 6, 3) := by decide +kernel
theorem dX12_source_69 : decode cX12_source 69 = .ok (.goto 16, 3) := by decide +kernel
theorem dX12_source_72 : decode cX12_source 72 = .ok (.iload 5, 2) := by decide +kernel
theorem dX12_source_74 : decode cX12_source 74 = .ok (.iload 4, 2) := by decide +kernel
theorem dX12_source_76 : decode cX12_source 76 = .ok (.if_icmp .ne 6, 3) := by decide +kernel
theorem dX12_source_79 : decode cX12_source 79 = .ok (.iload 6, 2) := by decide +kernel
theorem dX12_source_81 : decode cX12_source 81 = .ok (.ireturn, 1) := by decide +kernel
theorem dX12_source_82 : decode cX12_source 82 = .ok (.iinc 5 1, 3) := by decide +kernel
theorem dX12_source_85 : decode cX12_source 85 = .ok (.iinc 6 1, 3) := by decide +kernel
theorem dX12_source_88 : decode cX12_source 88 = .ok (.goto (-40), 3) := by decide +kernel
theorem dX12_source_91 : decode cX12_source 91 = .ok (.iload 4, 2) := by decide +kernel
theorem dX12_source_93 : decode cX12_source 93 = .ok (.iconst (-1), 1) := by decide +kernel
theorem dX12_source_94 : decode cX12_source 94 = .ok (.if_icmp .ne 8, 3) := by decide +kernel
theorem dX12_source_97 : decode cX12_source 97 = .ok (.iload 5, 2) := by decide +kernel
theorem dX12_source_99 : decode cX12_source 99 = .ok (.goto 9, 3) := by decide +kernel
theorem dX12_source_102 : decode cX12_source 102 = .ok (.aload_n 0, 1) := by decide +kernel
theorem dX12_source_103 : decode cX12_source 103 = .ok (.bipush (-5), 2) := by decide +kernel
theorem dX12_source_105 : decode cX12_source 105 = .ok (.invokevirtual 99, 3) := by decide +kernel
theorem dX12_source_108 : decode cX12_source 108 = .ok (.ireturn, 1) := by decide +kernel
theorem dX12_barren_0 : decode cX12_barren 0 = .ok (.aload_n 0, 1) := by decide +kernel
theorem dX12_barren_1 : decode cX12_barren 1 = .ok (.iload_n 1, 1) := by decide +kernel
theorem dX12_barren_2 : decode cX12_barren 2 = .ok (.invokevirtual 103, 3) := by decide +kernel
theorem dX12_barren_5 : decode cX12_barren 5 = .ok (.ifCond .ne 9, 3) := by decide +kernel
theorem dX12_barren_8 : decode cX12_barren 8 = .ok (.aload_n 0, 1) := by decide +kernel
theorem dX12_barren_9 : decode cX12_barren 9 = .ok (.iconst (-1), 1) := by decide +kernel
theorem dX12_barren_10 : decode cX12_barren 10 = .ok (.invokevirtual 99, 3) := by decide +kernel
theorem dX12_barren_13 : decode cX12_barren 13 = .ok (.ireturn, 1) := by decide +kernel
theorem dX12_barren_14 : decode cX12_barren 14 = .ok (.iload_n 2, 1) := by decide +kernel
theorem dX12_barren_15 : decode cX12_barren 15 = .ok (.ifCond .lt 15, 3) := by decide +kernel
theorem dX12_barren_18 : decode cX12_barren 18 = .ok (.iload_n 3, 1) := by decide +kernel
theorem dX12_barren_19 : decode cX12_barren 19 = .ok (.iload_n 2, 1) := by decide +kernel
theorem dX12_barren_20 : decode cX12_barren 20 = .ok (.if_icmp .lt 10, 3) := by decide +kernel
theorem dX12_barren_23 : decode cX12_barren 23 = .ok (.iload_n 3, 1) := by decide +kernel
theorem dX12_barren_24 : decode cX12_barren 24 = .ok (.sipush 10000, 3) := by decide +kernel
theorem dX12_barren_27 : decode cX12_barren 27 = .ok (.if_icmp .lt 10, 3) := by decide +kernel
theorem dX12_barren_30 : decode cX12_barren 30 = .ok (.aload_n 0, 1) := by decide +kernel
theorem dX12_barren_31 : decode cX12_barren 31 = .ok (.bipush (-6), 2) := by decide +kernel
theorem dX12_barren_33 : decode cX12_barren 33 = .ok (.invokevirtual 99, 3) := by decide +kernel
theorem dX12_barren_36 : decode cX12_barren 36 = .ok (.ireturn, 1) := by decide +kernel
theorem dX12_barren_37 : decode cX12_barren 37 = .ok (.iconst 0, 1) := by decide +kernel
theorem dX12_barren_38 : decode cX12_barren 38 = .ok (.istore 4, 2) := by decide +kernel
theorem dX12_barren_40 : decode cX12_barren 40 = .ok (.iload 4, 2) := by decide +kernel
theorem dX12_barren_42 : decode cX12_barren 42 = .ok (.sipush 10000, 3) := by decide +kernel
theorem dX12_barren_45 : decode cX12_barren 45 = .ok (.if_icmp .ge 17, 3) := by decide +kernel
theorem dX12_barren_48 : decode cX12_barren 48 = .ok (.aload_n 0, 1) := by decide +kernel
theorem dX12_barren_49 : decode cX12_barren 49 = .ok (.getfield 81, 3) := by decide +kernel
theorem dX12_barren_52 : decode cX12_barren 52 = .ok (.iload 4, 2) := by decide +kernel
theorem dX12_barren_54 : decode cX12_barren 54 = .ok (.iconst 0, 1) := by decide +kernel
theorem dX12_barren_55 : decode cX12_barren 55 = .ok (.iastore, 1) := by decide +kernel
theorem dX12_barren_56 : decode cX12_barren 56 = .ok (.iinc 4 1, 3) := by decide +kernel
theorem dX12_barren_59 : decode cX12_barren 59 = .ok (.goto (-19), 3) := by decide +kernel
theorem dX12_barren_62 : decode cX12_barren 62 = .ok (.iconst 0, 1) := by decide +kernel
theorem dX12_barren_63 : decode cX12_barren 63 = .ok (.istore 4, 2) := by decide +kernel
theorem dX12_barren_65 : decode cX12_barren 65 = .ok (.iload 4, 2) := by decide +kernel
theorem dX12_barren_67 : decode cX12_barren 67 = .ok (.sipush 10000, 3) := by decide +kernel
theorem dX12_barren_70 : decode cX12_barren 70 = .ok (.if_icmp .ge 46, 3) := by decide +kernel
theorem dX12_barren_73 : decode cX12_barren 73 = .ok (.aload_n 0, 1) := by decide +kernel
theorem dX12_barren_74 : decode cX12_barren 74 = .ok (.iload_n 1, 1) := by decide +kernel
theorem dX12_barren_75 : decode cX12_barren 75 = .ok (.iload 4, 2) := by decide +kernel
theorem dX12_barren_77 : decode cX12_barren 77 = .ok (.i2l, 1) := by decide +kernel
theorem dX12_barren_78 : decode cX12_barren 78 = .ok (.invokevirtual 108, 3) := by decide +kernel
theorem dX12_barren_81 : decode cX12_barren 81 = .ok (.lstore 5, 2) := by decide +kernel
theorem dX12_barren_83 : decode cX12_barren 83 = .ok (.lload 5, 2) := by decide +kernel
theorem dX12_barren_85 : decode cX12_barren 85 = .ok (.ldc2_w 173, 3) := by decide +kernel
theorem dX12_barren_88 : decode cX12_barren 88 = .ok (.lcmp, 1) := by decide +kernel
theorem dX12_barren_89 : decode cX12_barren 89 = .ok (.ifCond .eq 21, 3) := by decide +kernel
theorem dX12_barren_92 : decode cX12_barren 92 = .ok (.lload 5, 2) := by decide +kernel
theorem dX12_barren_94 : decode cX12_barren 94 = .ok (.ldc2_w 230, 3) := by decide +kernel
theorem dX12_barren_97 : decode cX12_barren 97 = .ok (.lcmp, 1) := by decide +kernel
theorem dX12_barren_98 : decode cX12_barren 98 = .ok (.ifCond .ge 12, 3) := by decide +kernel
theorem dX12_barren_101 : decode cX12_barren 101 = .ok (.aload_n 0, 1) := by decide +kernel
theorem dX12_barren_102 : decode cX12_barren 102 = .ok (.getfield 81, 3) := by decide +kernel
theorem dX12_barren_105 : decode cX12_barren 105 = .ok (.lload 5, 2) := by decide +kernel
theorem dX12_barren_107 : decode cX12_barren 107 = .ok (.l2i, 1) := by decide +kernel
theorem dX12_barren_108 : decode cX12_barren 108 = .ok (.iconst 1, 1) := by decide +kernel
theorem dX12_barren_109 : decode cX12_barren 109 = .ok (.iastore, 1) := by decide +kernel
theorem dX12_barren_110 : decode cX12_barren 110 = .ok (.iinc 4 1, 3) := by decide +kernel
theorem dX12_barren_113 : decode cX12_barren 113 = .ok (.goto (-48), 3) := by decide +kernel
theorem dX12_barren_116 : decode cX12_barren 116 = .ok (.iconst 0, 1) := by decide +kernel
theorem dX12_barren_117 : decode cX12_barren 117 = .ok (.istore 4, 2) := by decide +kernel
theorem dX12_barren_119 : decode cX12_barren 119 = .ok (.iload_n 2, 1) := by decide +kernel
theorem dX12_barren_120 : decode cX12_barren 120 = .ok (.istore 5, 2) := by decide +kernel
theorem dX12_barren_122 : decode cX12_barren 122 = .ok (.iload 5, 2) := by decide +kernel
theorem dX12_barren_124 : decode cX12_barren 124 = .ok (.iload_n 3, 1) := by decide +kernel
theorem dX12_barren_125 : decode cX12_barren 125 = .ok (.if_icmp .gt 22, 3) := by decide +kernel
theorem dX12_barren_128 : decode cX12_barren 128 = .ok (.aload_n 0, 1) := by decide +kernel
theorem dX12_barren_129 : decode cX12_barren 129 = .ok (.getfield 81, 3) := by decide +kernel
theorem dX12_barren_132 : decode cX12_barren 132 = .ok (.iload 5, 2) := by decide +kernel
theorem dX12_barren_134 : decode cX12_barren 134 = .ok (.iaload, 1) := by decide +kernel
theorem dX12_barren_135 : decode cX12_barren 135 = .ok (.ifCond .ne 6, 3) := by decide +kernel
theorem dX12_barren_138 : decode cX12_barren 138 = .ok (.iinc 4 1, 3) := by decide +kernel
theorem dX12_barren_141 : decode cX12_barren 141 = .ok (.iinc 5 1, 3) := by decide +kernel
theorem dX12_barren_144 : decode cX12_barren 144 = .ok (.goto (-22), 3) := by decide +kernel
theorem dX12_barren_147 : decode cX12_barren 147 = .ok (.iload 4, 2) := by decide +kernel
theorem dX12_barren_149 : decode cX12_barren 149 = .ok (.ireturn, 1) := by decide +kernel
theorem dX12_longest_0 : decode cX12_longest 0 = .ok (.aload_n 0, 1) := by decide +kernel
theorem dX12_longest_1 : decode cX12_longest 1 = .ok (.iload_n 1, 1) := by decide +kernel
theorem dX12_longest_2 : decode cX12_longest 2 = .ok (.invokevirtual 103, 3) := by decide +kernel
theorem dX12_longest_5 : decode cX12_longest 5 = .ok (.ifCond .ne 9, 3) := by decide +kernel
theorem dX12_longest_8 : decode cX12_longest 8 = .ok (.aload_n 0, 1) := by decide +kernel
theorem dX12_longest_9 : decode cX12_longest 9 = .ok (.iconst (-1), 1) := by decide +kernel
theorem dX12_longest_10 : decode cX12_longest 10 = .ok (.invokevirtual 214, 3) := by decide +kernel
theorem dX12_longest_13 : decode cX12_longest 13 = .ok (.ireturn, 1) := by decide +kernel
theorem dX12_longest_14 : decode cX12_longest 14 = .ok (.iload_n 2, 1) := by decide +kernel
theorem dX12_longest_15 : decode cX12_longest 15 = .ok (.iconst 1, 1) := by decide +kernel
theorem dX12_longest_16 : decode cX12_longest 16 = .ok (.if_icmp .lt 10, 3) := by decide +kernel
theorem dX12_longest_19 : decode cX12_longest 19 = .ok (.iload_n 2, 1) := by decide +kernel
theorem dX12_longest_20 : decode cX12_longest 20 = .ok (.sipush 2000, 3) := by decide +kernel
theorem dX12_longest_23 : decode cX12_longest 23 = .ok (.if_icmp .le 10, 3) := by decide +kernel
theorem dX12_longest_26 : decode cX12_longest 26 = .ok (.aload_n 0, 1) := by decide +kernel
theorem dX12_longest_27 : decode cX12_longest 27 = .ok (.bipush (-6), 2) := by decide +kernel
theorem dX12_longest_29 : decode cX12_longest 29 = .ok (.invokevirtual 214, 3) := by decide +kernel
theorem dX12_longest_32 : decode cX12_longest 32 = .ok (.ireturn, 1) := by decide +kernel
theorem dX12_longest_33 : decode cX12_longest 33 = .ok (.iconst (-1), 1) := by decide +kernel
theorem dX12_longest_34 : decode cX12_longest 34 = .ok (.istore_n 3, 1) := by decide +kernel
theorem dX12_longest_35 : decode cX12_longest 35 = .ok (.iconst (-1), 1) := by decide +kernel
theorem dX12_longest_36 : decode cX12_longest 36 = .ok (.istore 4, 2) := by decide +kernel
theorem dX12_longest_38 : decode cX12_longest 38 = .ok (.iconst 0, 1) := by decide +kernel
theorem dX12_longest_39 : decode cX12_longest 39 = .ok (.istore 5, 2) := by decide +kernel
theorem dX12_longest_41 : decode cX12_longest 41 = .ok (.iload 5, 2) := by decide +kernel
theorem dX12_longest_43 : decode cX12_longest 43 = .ok (.iload_n 2, 1) := by decide +kernel
theorem dX12_longest_44 : decode cX12_longest 44 = .ok (.if_icmp .ge 36, 3) := by decide +kernel
theorem dX12_longest_47 : decode cX12_longest 47 = .ok (.aload_n 0, 1) := by decide +kernel
theorem dX12_longest_48 : decode cX12_longest 48 = .ok (.iload_n 1, 1) := by decide +kernel
theorem dX12_longest_49 : decode cX12_longest 49 = .ok (.iload 5, 2) := by decide +kernel
theorem dX12_longest_51 : decode cX12_longest 51 = .ok (.i2l, 1) := by decide +kernel
theorem dX12_longest_52 : decode cX12_longest 52 = .ok (.invokevirtual 217, 3) := by decide +kernel
theorem dX12_longest_55 : decode cX12_longest 55 = .ok (.istore 6, 2) := by decide +kernel
theorem dX12_longest_57 : decode cX12_longest 57 = .ok (.iload 6, 2) := by decide +kernel
theorem dX12_longest_59 : decode cX12_longest 59 = .ok (.iload 4, 2) := by decide +kernel
theorem dX12_longest_61 : decode cX12_longest 61 = .ok (.if_icmp .gt 6, 3) := by decide +kernel
theorem dX12_longest_64 : decode cX12_longest 64 = .ok (.goto 10, 3) := by decide +kernel
theorem dX12_longest_67 : decode cX12_longest 67 = .ok (.iload 5, 2) := by decide +kernel
theorem dX12_longest_69 : decode cX12_longest 69 = .ok (.istore_n 3, 1) := by decide +kernel
theorem dX12_longest_70 : decode cX12_longest 70 = .ok (.iload 6, 2) := by decide +kernel
theorem dX12_longest_72 : decode cX12_longest 72 = .ok (.istore 4, 2) := by decide +kernel
theorem dX12_longest_74 : decode cX12_longest 74 = .ok (.iinc 5 1, 3) := by decide +kernel
theorem dX12_longest_77 : decode cX12_longest 77 = .ok (.goto (-36), 3) := by decide +kernel
theorem dX12_longest_80 : decode cX12_longest 80 = .ok (.iload_n 3, 1) := by decide +kernel
theorem dX12_longest_81 : decode cX12_longest 81 = .ok (.ireturn, 1) := by decide +kernel
theorem dX12_many_0 : decode cX12_many 0 = .ok (.aload_n 0, 1) := by decide +kernel
theorem dX12_many_1 : decode cX12_many 1 = .ok (.iload_n 1, 1) := by decide +kernel
theorem dX12_many_2 : decode cX12_many 2 = .ok (.invokevirtual 103, 3) := by decide +kernel
theorem dX12_many_5 : decode cX12_many 5 = .ok (.ifCond .ne 9, 3) := by decide +kernel
theorem dX12_many_8 : decode cX12_many 8 = .ok (.aload_n 0, 1) := by decide +kernel
theorem dX12_many_9 : decode cX12_many 9 = .ok (.iconst (-1), 1) := by decide +kernel
theorem dX12_many_10 : decode cX12_many 10 = .ok (.invokevirtual 99, 3) := by decide +kernel
theorem dX12_many_13 : decode cX12_many 13 = .ok (.ireturn, 1) := by decide +kernel
theorem dX12_many_14 : decode cX12_many 14 = .ok (.iload_n 2, 1) := by decide +kernel
theorem dX12_many_15 : decode cX12_many 15 = .ok (.ifCond .lt 31, 3) := by decide +kernel
theorem dX12_many_18 : decode cX12_many 18 = .ok (.iload_n 3, 1) := by decide +kernel
theorem dX12_many_19 : decode cX12_many 19 = .ok (.iload_n 2, 1) := by decide +kernel
theorem dX12_many_20 : decode cX12_many 20 = .ok (.if_icmp .lt 26, 3) := by decide +kernel
theorem dX12_many_23 : decode cX12_many 23 = .ok (.iload_n 3, 1) := by decide +kernel
theorem dX12_many_24 : decode cX12_many 24 = .ok (.iload_n 2, 1) := by decide +kernel
theorem dX12_many_25 : decode cX12_many 25 = .ok (.isub, 1) := by decide +kernel
theorem dX12_many_26 : decode cX12_many 26 = .ok (.sipush 1999, 3) := by decide +kernel
theorem dX12_many_29 : decode cX12_many 29 = .ok (.if_icmp .gt 17, 3) := by decide +kernel
theorem dX12_many_32 : decode cX12_many 32 = .ok (.iload 4, 2) := by decide +kernel
theorem dX12_many_34 : decode cX12_many 34 = .ok (.iconst (-1), 1) := by decide +kernel
theorem dX12_many_35 : decode cX12_many 35 = .ok (.if_icmp .lt 11, 3) := by decide +kernel
theorem dX12_many_38 : decode cX12_many 38 = .ok (.iload 4, 2) := by decide +kernel
theorem dX12_many_40 : decode cX12_many 40 = .ok (.sipush 200, 3) := by decide +kernel
theorem dX12_many_43 : decode cX12_many 43 = .ok (.if_icmp .le 10, 3) := by decide +kernel
theorem dX12_many_46 : decode cX12_many 46 = .ok (.aload_n 0, 1) := by decide +kernel
theorem dX12_many_47 : decode cX12_many 47 = .ok (.bipush (-6), 2) := by decide +kernel
theorem dX12_many_49 : decode cX12_many 49 = .ok (.invokevirtual 99, 3) := by decide +kernel
theorem dX12_many_52 : decode cX12_many 52 = .ok (.ireturn, 1) := by decide +kernel
theorem dX12_many_53 : decode cX12_many 53 = .ok (.iconst 0, 1) := by decide +kernel
theorem dX12_many_54 : decode cX12_many 54 = .ok (.istore 5, 2) := by decide +kernel
theorem dX12_many_56 : decode cX12_many 56 = .ok (.iconst 0, 1) := by decide +kernel
theorem dX12_many_57 : decode cX12_many 57 = .ok (.istore 6, 2) := by decide +kernel
theorem dX12_many_59 : decode cX12_many 59 = .ok (.iload 6, 2) := by decide +kernel
theorem dX12_many_61 : decode cX12_many 61 = .ok (.iload_n 3, 1) := by decide +kernel
theorem dX12_many_62 : decode cX12_many 62 = .ok (.iload_n 2, 1) := by decide +kernel
theorem dX12_many_63 : decode cX12_many 63 = .ok (.isub, 1) := by decide +kernel
theorem dX12_many_64 : decode cX12_many 64 = .ok (.if_icmp .gt 28, 3) := by decide +kernel
theorem dX12_many_67 : decode cX12_many 67 = .ok (.aload_n 0, 1) := by decide +kernel
theorem dX12_many_68 : decode cX12_many 68 = .ok (.iload_n 1, 1) := by decide +kernel
theorem dX12_many_69 : decode cX12_many 69 = .ok (.iload_n 2, 1) := by decide +kernel
theorem dX12_many_70 : decode cX12_many 70 = .ok (.i2l, 1) := by decide +kernel
theorem dX12_many_71 : decode cX12_many 71 = .ok (.iload 6, 2) := by decide +kernel
theorem dX12_many_73 : decode cX12_many 73 = .ok (.i2l, 1) := by decide +kernel
theorem dX12_many_74 : decode cX12_many 74 = .ok (.ladd, 1) := by decide +kernel
theorem dX12_many_75 : decode cX12_many 75 = .ok (.invokevirtual 217, 3) := by decide +kernel
theorem dX12_many_78 : decode cX12_many 78 = .ok (.iload 4, 2) := by decide +kernel
theorem dX12_many_80 : decode cX12_many 80 = .ok (.if_icmp .ne 6, 3) := by decide +kernel
theorem dX12_many_83 : decode cX12_many 83 = .ok (.iinc 5 1, 3) := by decide +kernel
theorem dX12_many_86 : decode cX12_many 86 = .ok (.iinc 6 1, 3) := by decide +kernel
theorem dX12_many_89 : decode cX12_many 89 = .ok (.goto (-30), 3) := by decide +kernel
theorem dX12_many_92 : decode cX12_many 92 = .ok (.iload 5, 2) := by decide +kernel
theorem dX12_many_94 : decode cX12_many 94 = .ok (.ireturn, 1) := by decide +kernel
theorem dX12_rounds_0 : decode cX12_rounds 0 = .ok (.aload_n 0, 1) := by decide +kernel
theorem dX12_rounds_1 : decode cX12_rounds 1 = .ok (.iload_n 1, 1) := by decide +kernel
theorem dX12_rounds_2 : decode cX12_rounds 2 = .ok (.invokevirtual 103, 3) := by decide +kernel
theorem dX12_rounds_5 : decode cX12_rounds 5 = .ok (.ifCond .ne 9, 3) := by decide +kernel
theorem dX12_rounds_8 : decode cX12_rounds 8 = .ok (.aload_n 0, 1) := by decide +kernel
theorem dX12_rounds_9 : decode cX12_rounds 9 = .ok (.iconst (-1), 1) := by decide +kernel
theorem dX12_rounds_10 : decode cX12_rounds 10 = .ok (.invokevirtual 99, 3) := by decide +kernel
theorem dX12_rounds_13 : decode cX12_rounds 13 = .ok (.ireturn, 1) := by decide +kernel
theorem dX12_rounds_14 : decode cX12_rounds 14 = .ok (.iload_n 2, 1) := by decide +kernel
theorem dX12_rounds_15 : decode cX12_rounds 15 = .ok (.iconst 1, 1) := by decide +kernel
theorem dX12_rounds_16 : decode cX12_rounds 16 = .ok (.if_icmp .lt 10, 3) := by decide +kernel
theorem dX12_rounds_19 : decode cX12_rounds 19 = .ok (.iload_n 2, 1) := by decide +kernel
theorem dX12_rounds_20 : decode cX12_rounds 20 = .ok (.sipush 500, 3) := by decide +kernel
theorem dX12_rounds_23 : decode cX12_rounds 23 = .ok (.if_icmp .le 10, 3) := by decide +kernel
theorem dX12_rounds_26 : decode cX12_rounds 26 = .ok (.aload_n 0, 1) := by decide +kernel
theorem dX12_rounds_27 : decode cX12_rounds 27 = .ok (.bipush (-6), 2) := by decide +kernel
theorem dX12_rounds_29 : decode cX12_rounds 29 = .ok (.invokevirtual 99, 3) := by decide +kernel
theorem dX12_rounds_32 : decode cX12_rounds 32 = .ok (.ireturn, 1) := by decide +kernel
theorem dX12_rounds_33 : decode cX12_rounds 33 = .ok (.iconst 0, 1) := by decide +kernel
theorem dX12_rounds_34 : decode cX12_rounds 34 = .ok (.istore_n 3, 1) := by decide +kernel
theorem dX12_rounds_35 : decode cX12_rounds 35 = .ok (.iconst 0, 1) := by decide +kernel
theorem dX12_rounds_36 : decode cX12_rounds 36 = .ok (.istore 4, 2) := by decide +kernel
theorem dX12_rounds_38 : decode cX12_rounds 38 = .ok (.iload 4, 2) := by decide +kernel
theorem dX12_rounds_40 : decode cX12_rounds 40 = .ok (.iload_n 2, 1) := by decide +kernel
theorem dX12_rounds_41 : decode cX12_rounds 41 = .ok (.if_icmp .ge 94, 3) := by decide +kernel
theorem dX12_rounds_44 : decode cX12_rounds 44 = .ok (.aload_n 0, 1) := by decide +kernel
theorem dX12_rounds_45 : decode cX12_rounds 45 = .ok (.iload_n 1, 1) := by decide +kernel
theorem dX12_rounds_46 : decode cX12_rounds 46 = .ok (.iload 4, 2) := by decide +kernel
theorem dX12_rounds_48 : decode cX12_rounds 48 = .ok (.i2l, 1) := by decide +kernel
theorem dX12_rounds_49 : decode cX12_rounds 49 = .ok (.invokevirtual 227, 3) := by decide +kernel
theorem dX12_rounds_52 : decode cX12_rounds 52 = .ok (.lstore 5, 2) := by decide +kernel
theorem dX12_rounds_54 : decode cX12_rounds 54 = .ok (.lload 5, 2) := by decide +kernel
theorem dX12_rounds_56 : decode cX12_rounds 56 = .ok (.ldc2_w 173, 3) := by decide +kernel
theorem dX12_rounds_59 : decode cX12_rounds 59 = .ok (.lcmp, 1) := by decide +kernel
theorem dX12_rounds_60 : decode cX12_rounds 60 = .ok (.ifCond .eq 7, 3) := by decide +kernel
theorem dX12_rounds_63 : decode cX12_rounds 63 = .ok (.iconst 1, 1) := by decide +kernel
theorem dX12_rounds_64 : decode cX12_rounds 64 = .ok (.goto 4, 3) := by decide +kernel
theorem dX12_rounds_67 : decode cX12_rounds 67 = .ok (.iconst 0, 1) := by decide +kernel
theorem dX12_rounds_68 : decode cX12_rounds 68 = .ok (.istore 7, 2) := by decide +kernel
theorem dX12_rounds_70 : decode cX12_rounds 70 = .ok (.iconst 0, 1) := by decide +kernel
theorem dX12_rounds_71 : decode cX12_rounds 71 = .ok (.istore 8, 2) := by decide +kernel
theorem dX12_rounds_73 : decode cX12_rounds 73 = .ok (.iload 8, 2) := by decide +kernel
theorem dX12_rounds_75 : decode cX12_rounds 75 = .ok (.iload_n 3, 1) := by decide +kernel
theorem dX12_rounds_76 : decode cX12_rounds 76 = .ok (.if_icmp .ge 34, 3) := by decide +kernel
theorem dX12_rounds_79 : decode cX12_rounds 79 = .ok (.iload 7, 2) := by decide +kernel
theorem dX12_rounds_81 : decode cX12_rounds 81 = .ok (.ifCond .eq 29, 3) := by decide +kernel
theorem dX12_rounds_84 : decode cX12_rounds 84 = .ok (.aload_n 0, 1) := by decide +kernel
theorem dX12_rounds_85 : decode cX12_rounds 85 = .ok (.getfield 84, 3) := by decide +kernel
theorem dX12_rounds_88 : decode cX12_rounds 88 = .ok (.iload 8, 2) := by decide +kernel
theorem dX12_rounds_90 : decode cX12_rounds 90 = .ok (.laload, 1) := by decide +kernel
theorem dX12_rounds_91 : decode cX12_rounds 91 = .ok (.lload 5, 2) := by decide +kernel
theorem dX12_rounds_93 : decode cX12_rounds 93 = .ok (.lcmp, 1) := by decide +kernel
theorem dX12_rounds_94 : decode cX12_rounds 94 = .ok (.ifCond .eq 7, 3) := by decide +kernel
theorem dX12_rounds_97 : decode cX12_rounds 97 = .ok (.iconst 1, 1) := by decide +kernel
theorem dX12_rounds_98 : decode cX12_rounds 98 = .ok (.goto 4, 3) := by decide +kernel
theorem dX12_rounds_101 : decode cX12_rounds 101 = .ok (.iconst 0, 1) := by decide +kernel
theorem dX12_rounds_102 : decode cX12_rounds 102 = .ok (.istore 7, 2) := by decide +kernel
theorem dX12_rounds_104 : decode cX12_rounds 104 = .ok (.iinc 8 1, 3) := by decide +kernel
theorem dX12_rounds_107 : decode cX12_rounds 107 = .ok (.goto (-34), 3) := by decide +kernel
theorem dX12_rounds_110 : decode cX12_rounds 110 = .ok (.iload 7, 2) := by decide +kernel
theorem dX12_rounds_112 : decode cX12_rounds 112 = .ok (.ifCond .ne 6, 3) := by decide +kernel
theorem dX12_rounds_115 : decode cX12_rounds 115 = .ok (.goto 14, 3) := by decide +kernel
theorem dX12_rounds_118 : decode cX12_rounds 118 = .ok (.aload_n 0, 1) := by decide +kernel
theorem dX12_rounds_119 : decode cX12_rounds 119 = .ok (.getfield 84, 3) := by decide +kernel
theorem dX12_rounds_122 : decode cX12_rounds 122 = .ok (.iload_n 3, 1) := by decide +kernel
theorem dX12_rounds_123 : decode cX12_rounds 123 = .ok (.lload 5, 2) := by decide +kernel
theorem dX12_rounds_125 : decode cX12_rounds 125 = .ok (.lastore, 1) := by decide +kernel
theorem dX12_rounds_126 : decode cX12_rounds 126 = .ok (.iinc 3 1, 3) := by decide +kernel
theorem dX12_rounds_129 : decode cX12_rounds 129 = .ok (.iinc 4 1, 3) := by decide +kernel
theorem dX12_rounds_132 : decode cX12_rounds 132 = .ok (.goto (-94), 3) := by decide +kernel
theorem dX12_rounds_135 : decode cX12_rounds 135 = .ok (.iload_n 3, 1) := by decide +kernel
theorem dX12_rounds_136 : decode cX12_rounds 136 = .ok (.ireturn, 1) := by decide +kernel
theorem dX12_alikeFrom_0 : decode cX12_alikeFrom 0 = .ok (.aload_n 0, 1) := by decide +kernel
theorem dX12_alikeFrom_1 : decode cX12_alikeFrom 1 = .ok (.lload_n 1, 1) := by decide +kernel
theorem dX12_alikeFrom_2 : decode cX12_alikeFrom 2 = .ok (.invokevirtual 190, 3) := by decide +kernel
theorem dX12_alikeFrom_5 : decode cX12_alikeFrom 5 = .ok (.istore_n 3, 1) := by decide +kernel
theorem dX12_alikeFrom_6 : decode cX12_alikeFrom 6 = .ok (.lload_n 1, 1) := by decide +kernel
theorem dX12_alikeFrom_7 : decode cX12_alikeFrom 7 = .ok (.lstore 4, 2) := by decide +kernel
theorem dX12_alikeFrom_9 : decode cX12_alikeFrom 9 = .ok (.iconst 0, 1) := by decide +kernel
theorem dX12_alikeFrom_10 : decode cX12_alikeFrom 10 = .ok (.istore 6, 2) := by decide +kernel
theorem dX12_alikeFrom_12 : decode cX12_alikeFrom 12 = .ok (.iload 6, 2) := by decide +kernel
theorem dX12_alikeFrom_14 : decode cX12_alikeFrom 14 = .ok (.iload_n 3, 1) := by decide +kernel
theorem dX12_alikeFrom_15 : decode cX12_alikeFrom 15 = .ok (.iconst 2, 1) := by decide +kernel
theorem dX12_alikeFrom_16 : decode cX12_alikeFrom 16 = .ok (.idiv, 1) := by decide +kernel
theorem dX12_alikeFrom_17 : decode cX12_alikeFrom 17 = .ok (.if_icmp .ge 19, 3) := by decide +kernel
theorem dX12_alikeFrom_20 : decode cX12_alikeFrom 20 = .ok (.lload 4, 2) := by decide +kernel
theorem dX12_alikeFrom_22 : decode cX12_alikeFrom 22 = .ok (.aload_n 0, 1) := by decide +kernel
theorem dX12_alikeFrom_23 : decode cX12_alikeFrom 23 = .ok (.getfield 7, 3) := by decide +kernel
theorem dX12_alikeFrom_26 : decode cX12_alikeFrom 26 = .ok (.i2l, 1) := by decide +kernel
theorem dX12_alikeFrom_27 : decode cX12_alikeFrom 27 = .ok (.ldiv, 1) := by decide +kernel
theorem dX12_alikeFrom_28 : decode cX12_alikeFrom 28 = .ok (.lstore 4, 2) := by decide +kernel
theorem dX12_alikeFrom_30 : decode cX12_alikeFrom 30 = .ok (.iinc 6 1, 3) := by decide +kernel
theorem dX12_alikeFrom_33 : decode cX12_alikeFrom 33 = .ok (.goto (-21), 3) := by decide +kernel
theorem dX12_alikeFrom_36 : decode cX12_alikeFrom 36 = .ok (.lload 4, 2) := by decide +kernel
theorem dX12_alikeFrom_38 : decode cX12_alikeFrom 38 = .ok (.lstore 6, 2) := by decide +kernel
theorem dX12_alikeFrom_40 : decode cX12_alikeFrom 40 = .ok (.lload 6, 2) := by decide +kernel
theorem dX12_alikeFrom_42 : decode cX12_alikeFrom 42 = .ok (.lstore 8, 2) := by decide +kernel
theorem dX12_alikeFrom_44 : decode cX12_alikeFrom 44 = .ok (.iload_n 3, 1) := by decide +kernel
theorem dX12_alikeFrom_45 : decode cX12_alikeFrom 45 = .ok (.iconst 2, 1) := by decide +kernel
theorem dX12_alikeFrom_46 : decode cX12_alikeFrom 46 = .ok (.irem, 1) := by decide +kernel
theorem dX12_alikeFrom_47 : decode cX12_alikeFrom 47 = .ok (.iconst 1, 1) := by decide +kernel
theorem dX12_alikeFrom_48 : decode cX12_alikeFrom 48 = .ok (.if_icmp .ne 14, 3) := by decide +kernel
theorem dX12_alikeFrom_51 : decode cX12_alikeFrom 51 = .ok (.lload 6, 2) := by decide +kernel
theorem dX12_alikeFrom_53 : decode cX12_alikeFrom 53 = .ok (.aload_n 0, 1) := by decide +kernel
theorem dX12_alikeFrom_54 : decode cX12_alikeFrom 54 = .ok (.getfield 7, 3) := by decide +kernel
theorem dX12_alikeFrom_57 : decode cX12_alikeFrom 57 = .ok (.i2l, 1) := by decide +kernel
theorem dX12_alikeFrom_58 : decode cX12_alikeFrom 58 = .ok (.ldiv, 1) := by decide +kernel
theorem dX12_alikeFrom_59 : decode cX12_alikeFrom 59 = .ok (.goto 5, 3) := by decide +kernel
theorem dX12_alikeFrom_62 : decode cX12_alikeFrom 62 = .ok (.lload 6, 2) := by decide +kernel
theorem dX12_alikeFrom_64 : decode cX12_alikeFrom 64 = .ok (.lstore 10, 2) := by decide +kernel
theorem dX12_alikeFrom_66 : decode cX12_alikeFrom 66 = .ok (.lload 10, 2) := by decide +kernel
theorem dX12_alikeFrom_68 : decode cX12_alikeFrom 68 = .ok (.lconst 0, 1) := by decide +kernel
theorem dX12_alikeFrom_69 : decode cX12_alikeFrom 69 = .ok (.lcmp, 1) := by decide +kernel
theorem dX12_alikeFrom_70 : decode cX12_alikeFrom 70 = .ok (.ifCond .le 35, 3) := by decide +kernel
theorem dX12_alikeFrom_73 : decode cX12_alikeFrom 73 = .ok (.lload 8, 2) := by decide +kernel
theorem dX12_alikeFrom_75 : decode cX12_alikeFrom 75 = .ok (.aload_n 0, 1) := by decide +kernel
theorem dX12_alikeFrom_76 : decode cX12_alikeFrom 76 = .ok (.getfield 7, 3) := by decide +kernel
theorem dX12_alikeFrom_79 : decode cX12_alikeFrom 79 = .ok (.i2l, 1) := by decide +kernel
theorem dX12_alikeFrom_80 : decode cX12_alikeFrom 80 = .ok (.lmul, 1) := by decide +kernel
theorem dX12_alikeFrom_81 : decode cX12_alikeFrom 81 = .ok (.lload 10, 2) := by decide +kernel
theorem dX12_alikeFrom_83 : decode cX12_alikeFrom 83 = .ok (.aload_n 0, 1) := by decide +kernel
theorem dX12_alikeFrom_84 : decode cX12_alikeFrom 84 = .ok (.getfield 7, 3) := by decide +kernel
theorem dX12_alikeFrom_87 : decode cX12_alikeFrom 87 = .ok (.i2l, 1) := by decide +kernel
theorem dX12_alikeFrom_88 : decode cX12_alikeFrom 88 = .ok (.lrem, 1) := by decide +kernel
theorem dX12_alikeFrom_89 : decode cX12_alikeFrom 89 = .ok (.ladd, 1) := by decide +kernel
theorem dX12_alikeFrom_90 : decode cX12_alikeFrom 90 = .ok (.lstore 8, 2) := by decide +kernel
theorem dX12_alikeFrom_92 : decode cX12_alikeFrom 92 = .ok (.lload 10, 2) := by decide +kernel
theorem dX12_alikeFrom_94 : decode cX12_alikeFrom 94 = .ok (.aload_n 0, 1) := by decide +kernel
theorem dX12_alikeFrom_95 : decode cX12_alikeFrom 95 = .ok (.getfield 7, 3) := by decide +kernel
theorem dX12_alikeFrom_98 : decode cX12_alikeFrom 98 = .ok (.i2l, 1) := by decide +kernel
theorem dX12_alikeFrom_99 : decode cX12_alikeFrom 99 = .ok (.ldiv, 1) := by decide +kernel
theorem dX12_alikeFrom_100 : decode cX12_alikeFrom 100 = .ok (.lstore 10, 2) := by decide +kernel
theorem dX12_alikeFrom_102 : decode cX12_alikeFrom 102 = .ok (.goto (-36), 3) := by decide +kernel
theorem dX12_alikeFrom_105 : decode cX12_alikeFrom 105 = .ok (.lload 8, 2) := by decide +kernel
theorem dX12_alikeFrom_107 : decode cX12_alikeFrom 107 = .ok (.lload_n 1, 1) := by decide +kernel
theorem dX12_alikeFrom_108 : decode cX12_alikeFrom 108 = .ok (.lcmp, 1) := by decide +kernel
theorem dX12_alikeFrom_109 : decode cX12_alikeFrom 109 = .ok (.ifCond .lt 6, 3) := by decide +kernel
theorem dX12_alikeFrom_112 : decode cX12_alikeFrom 112 = .ok (.lload 8, 2) := by decide +kernel
theorem dX12_alikeFrom_114 : decode cX12_alikeFrom 114 = .ok (.lreturn, 1) := by decide +kernel
theorem dX12_alikeFrom_115 : decode cX12_alikeFrom 115 = .ok (.lload 6, 2) := by decide +kernel
theorem dX12_alikeFrom_117 : decode cX12_alikeFrom 117 = .ok (.lconst 1, 1) := by decide +kernel
theorem dX12_alikeFrom_118 : decode cX12_alikeFrom 118 = .ok (.ladd, 1) := by decide +kernel
theorem dX12_alikeFrom_119 : decode cX12_alikeFrom 119 = .ok (.lstore 6, 2) := by decide +kernel
theorem dX12_alikeFrom_121 : decode cX12_alikeFrom 121 = .ok (.goto (-81), 3) := by decide +kernel
theorem dX12_waits_0 : decode cX12_waits 0 = .ok (.aload_n 0, 1) := by decide +kernel
theorem dX12_waits_1 : decode cX12_waits 1 = .ok (.lload_n 1, 1) := by decide +kernel
theorem dX12_waits_2 : decode cX12_waits 2 = .ok (.invokevirtual 193, 3) := by decide +kernel
theorem dX12_waits_5 : decode cX12_waits 5 = .ok (.ifCond .ne 11, 3) := by decide +kernel
theorem dX12_waits_8 : decode cX12_waits 8 = .ok (.aload_n 0, 1) := by decide +kernel
theorem dX12_waits_9 : decode cX12_waits 9 = .ok (.bipush (-6), 2) := by decide +kernel
theorem dX12_waits_11 : decode cX12_waits 11 = .ok (.invokevirtual 99, 3) := by decide +kernel
theorem dX12_waits_14 : decode cX12_waits 14 = .ok (.i2l, 1) := by decide +kernel
theorem dX12_waits_15 : decode cX12_waits 15 = .ok (.lreturn, 1) := by decide +kernel
theorem dX12_waits_16 : decode cX12_waits 16 = .ok (.aload_n 0, 1) := by decide +kernel
theorem dX12_waits_17 : decode cX12_waits 17 = .ok (.lload_n 1, 1) := by decide +kernel
theorem dX12_waits_18 : decode cX12_waits 18 = .ok (.invokevirtual 232, 3) := by decide +kernel
theorem dX12_waits_21 : decode cX12_waits 21 = .ok (.lstore_n 3, 1) := by decide +kernel
theorem dX12_waits_22 : decode cX12_waits 22 = .ok (.lload_n 3, 1) := by decide +kernel
theorem dX12_waits_23 : decode cX12_waits 23 = .ok (.ldc2_w 93, 3) := by decide +kernel
theorem dX12_waits_26 : decode cX12_waits 26 = .ok (.lcmp, 1) := by decide +kernel
theorem dX12_waits_27 : decode cX12_waits 27 = .ok (.ifCond .le 13, 3) := by decide +kernel
theorem dX12_waits_30 : decode cX12_waits 30 = .ok (.aload_n 0, 1) := by decide +kernel
theorem dX12_waits_31 : decode cX12_waits 31 = .ok (.bipush (-6), 2) := by decide +kernel
theorem dX12_waits_33 : decode cX12_waits 33 = .ok (.invokevirtual 99, 3) := by decide +kernel
theorem dX12_waits_36 : decode cX12_waits 36 = .ok (.i2l, 1) := by decide +kernel
theorem dX12_waits_37 : decode cX12_waits 37 = .ok (.goto 6, 3) := by decide +kernel
theorem dX12_waits_40 : decode cX12_waits 40 = .ok (.lload_n 3, 1) := by decide +kernel
theorem dX12_waits_41 : decode cX12_waits 41 = .ok (.lload_n 1, 1) := by decide +kernel
theorem dX12_waits_42 : decode cX12_waits 42 = .ok (.lsub, 1) := by decide +kernel
theorem dX12_waits_43 : decode cX12_waits 43 = .ok (.lreturn, 1) := by decide +kernel
theorem dX12_fit_0 : decode cX12_fit 0 = .ok (.aload_n 0, 1) := by decide +kernel
theorem dX12_fit_1 : decode cX12_fit 1 = .ok (.lload_n 1, 1) := by decide +kernel
theorem dX12_fit_2 : decode cX12_fit 2 = .ok (.invokevirtual 193, 3) := by decide +kernel
theorem dX12_fit_5 : decode cX12_fit 5 = .ok (.ifCond .eq 11, 3) := by decide +kernel
theorem dX12_fit_8 : decode cX12_fit 8 = .ok (.aload_n 0, 1) := by decide +kernel
theorem dX12_fit_9 : decode cX12_fit 9 = .ok (.lload_n 3, 1) := by decide +kernel
theorem dX12_fit_10 : decode cX12_fit 10 = .ok (.invokevirtual 193, 3) := by decide +kernel
theorem dX12_fit_13 : decode cX12_fit 13 = .ok (.ifCond .ne 10, 3) := by decide +kernel
theorem dX12_fit_16 : decode cX12_fit 16 = .ok (.aload_n 0, 1) := by decide +kernel
theorem dX12_fit_17 : decode cX12_fit 17 = .ok (.bipush (-6), 2) := by decide +kernel
theorem dX12_fit_19 : decode cX12_fit 19 = .ok (.invokevirtual 99, 3) := by decide +kernel
theorem dX12_fit_22 : decode cX12_fit 22 = .ok (.ireturn, 1) := by decide +kernel
theorem dX12_fit_23 : decode cX12_fit 23 = .ok (.iconst 0, 1) := by decide +kernel
theorem dX12_fit_24 : decode cX12_fit 24 = .ok (.istore 5, 2) := by decide +kernel
theorem dX12_fit_26 : decode cX12_fit 26 = .ok (.iconst 0, 1) := by decide +kernel
theorem dX12_fit_27 : decode cX12_fit 27 = .ok (.istore 6, 2) := by decide +kernel
theorem dX12_fit_29 : decode cX12_fit 29 = .ok (.iload 6, 2) := by decide +kernel
theorem dX12_fit_31 : decode cX12_fit 31 = .ok (.aload_n 0, 1) := by decide +kernel
theorem dX12_fit_32 : decode cX12_fit 32 = .ok (.getfield 90, 3) := by decide +kernel
theorem dX12_fit_35 : decode cX12_fit 35 = .ok (.if_icmp .ge 30, 3) := by decide +kernel
theorem dX12_fit_38 : decode cX12_fit 38 = .ok (.aload_n 0, 1) := by decide +kernel
theorem dX12_fit_39 : decode cX12_fit 39 = .ok (.iload 6, 2) := by decide +kernel
theorem dX12_fit_41 : decode cX12_fit 41 = .ok (.lload_n 1, 1) := by decide +kernel
theorem dX12_fit_42 : decode cX12_fit 42 = .ok (.invokevirtual 108, 3) := by decide +kernel
theorem dX12_fit_45 : decode cX12_fit 45 = .ok (.lload_n 3, 1) := by decide +kernel
theorem dX12_fit_46 : decode cX12_fit 46 = .ok (.lcmp, 1) := by decide +kernel
theorem dX12_fit_47 : decode cX12_fit 47 = .ok (.ifCond .ne 12, 3) := by decide +kernel
theorem dX12_fit_50 : decode cX12_fit 50 = .ok (.iload 5, 2) := by decide +kernel
theorem dX12_fit_52 : decode cX12_fit 52 = .ok (.iconst 1, 1) := by decide +kernel
theorem dX12_fit_53 : decode cX12_fit 53 = .ok (.iload 6, 2) := by decide +kernel
theorem dX12_fit_55 : decode cX12_fit 55 = .ok (.ishl, 1) := by decide +kernel
theorem dX12_fit_56 : decode cX12_fit 56 = .ok (.ior, 1) := by decide +kernel
theorem dX12_fit_57 : decode cX12_fit 57 = .ok (.istore 5, 2) := by decide +kernel
theorem dX12_fit_59 : decode cX12_fit 59 = .ok (.iinc 6 1, 3) := by decide +kernel
theorem dX12_fit_62 : decode cX12_fit 62 = .ok (.goto (-33), 3) := by decide +kernel
theorem dX12_fit_65 : decode cX12_fit 65 = .ok (.iload 5, 2) := by decide +kernel
theorem dX12_fit_67 : decode cX12_fit 67 = .ok (.ireturn, 1) := by decide +kernel
theorem dX12_began_0 : decode cX12_began 0 = .ok (.aload_n 0, 1) := by decide +kernel
theorem dX12_began_1 : decode cX12_began 1 = .ok (.iload_n 1, 1) := by decide +kernel
theorem dX12_began_2 : decode cX12_began 2 = .ok (.invokevirtual 103, 3) := by decide +kernel
theorem dX12_began_5 : decode cX12_began 5 = .ok (.ifCond .ne 9, 3) := by decide +kernel
theorem dX12_began_8 : decode cX12_began 8 = .ok (.aload_n 0, 1) := by decide +kernel
theorem dX12_began_9 : decode cX12_began 9 = .ok (.iconst (-1), 1) := by decide +kernel
theorem dX12_began_10 : decode cX12_began 10 = .ok (.invokevirtual 99, 3) := by decide +kernel
theorem dX12_began_13 : decode cX12_began 13 = .ok (.ireturn, 1) := by decide +kernel
theorem dX12_began_14 : decode cX12_began 14 = .ok (.iload 5, 2) := by decide +kernel
theorem dX12_began_16 : decode cX12_began 16 = .ok (.iconst (-1), 1) := by decide +kernel
theorem dX12_began_17 : decode cX12_began 17 = .ok (.if_icmp .ge 10, 3) := by decide +kernel
theorem dX12_began_20 : decode cX12_began 20 = .ok (.aload_n 0, 1) := by decide +kernel
theorem dX12_began_21 : decode cX12_began 21 = .ok (.bipush (-5), 2) := by decide +kernel
theorem dX12_began_23 : decode cX12_began 23 = .ok (.invokevirtual 99, 3) := by decide +kernel
theorem dX12_began_26 : decode cX12_began 26 = .ok (.ireturn, 1) := by decide +kernel
theorem dX12_began_27 : decode cX12_began 27 = .ok (.aload_n 0, 1) := by decide +kernel
theorem dX12_began_28 : decode cX12_began 28 = .ok (.lload_n 2, 1) := by decide +kernel
theorem dX12_began_29 : decode cX12_began 29 = .ok (.invokevirtual 193, 3) := by decide +kernel
theorem dX12_began_32 : decode cX12_began 32 = .ok (.ifCond .eq 16, 3) := by decide +kernel
theorem dX12_began_35 : decode cX12_began 35 = .ok (.iload 4, 2) := by decide +kernel
theorem dX12_began_37 : decode cX12_began 37 = .ok (.iconst 1, 1) := by decide +kernel
theorem dX12_began_38 : decode cX12_began 38 = .ok (.if_icmp .lt 10, 3) := by decide +kernel
theorem dX12_began_41 : decode cX12_began 41 = .ok (.iload 4, 2) := by decide +kernel
theorem dX12_began_43 : decode cX12_began 43 = .ok (.bipush 20, 2) := by decide +kernel
theorem dX12_began_45 : decode cX12_began 45 = .ok (.if_icmp .le 10, 3) := by decide +kernel
theorem dX12_began_48 : decode cX12_began 48 = .ok (.aload_n 0, 1) := by decide +kernel
theorem dX12_began_49 : decode cX12_began 49 = .ok (.bipush (-6), 2) := by decide +kernel
theorem dX12_began_51 : decode cX12_began 51 = .ok (.invokevirtual 99, 3) := by decide +kernel
theorem dX12_began_54 : decode cX12_began 54 = .ok (.ireturn, 1) := by decide +kernel
theorem dX12_began_55 : decode cX12_began 55 = .ok (.iconst 0, 1) := by decide +kernel
theorem dX12_began_56 : decode cX12_began 56 = .ok (.istore 6, 2) := by decide +kernel
theorem dX12_began_58 : decode cX12_began 58 = .ok (.iconst 0, 1) := by decide +kernel
theorem dX12_began_59 : decode cX12_began 59 = .ok (.istore 7, 2) := by decide +kernel
theorem dX12_began_61 : decode cX12_began 61 = .ok (.iload 7, 2) := by decide +kernel
theorem dX12_began_63 : decode cX12_began 63 = .ok (.sipush 10000, 3) := by decide +kernel
theorem dX12_began_66 : decode cX12_began 66 = .ok (.if_icmp .ge 40, 3) := by decide +kernel
theorem dX12_began_69 : decode cX12_began 69 = .ok (.aload_n 0, 1) := by decide +kernel
theorem dX12_began_70 : decode cX12_began 70 = .ok (.iload_n 1, 1) := by decide +kernel
theorem dX12_began_71 : decode cX12_began 71 = .ok (.iload 7, 2) := by decide +kernel
theorem dX12_began_73 : decode cX12_began 73 = .ok (.i2l, 1) := by decide +kernel
theorem dX12_began_74 : decode cX12_began 74 = .ok (.iload 4, 2) := by decide +kernel
theorem dX12_began_76 : decode cX12_began 76 = .ok (.invokevirtual 206, 3) := by decide +kernel
theorem dX12_began_79 : decode cX12_began 79 = .ok (.lload_n 2, 1) := by decide +kernel
theorem dX12_began_80 : decode cX12_began 80 = .ok (.lcmp, 1) := by decide +kernel
theorem dX12_began_81 : decode cX12_began 81 = .ok (.ifCond .eq 6, 3) := by decide +kernel
theorem dX12_began_84 : decode cX12_began 84 = .ok (.goto 16, 3) := by decide +kernel
theorem dX12_began_87 : decode cX12_began 87 = .ok (.iload 6, 2) := by decide +kernel
theorem dX12_began_89 : decode cX12_began 89 = .ok (.iload 5, 2) := by decide +kernel
theorem dX12_began_91 : decode cX12_began 91 = .ok (.if_icmp .ne 6, 3) := by decide +kernel
theorem dX12_began_94 : decode cX12_began 94 = .ok (.iload 7, 2) := by decide +kernel
theorem dX12_began_96 : decode cX12_began 96 = .ok (.ireturn, 1) := by decide +kernel
theorem dX12_began_97 : decode cX12_began 97 = .ok (.iinc 6 1, 3) := by decide +kernel
theorem dX12_began_100 : decode cX12_began 100 = .ok (.iinc 7 1, 3) := by decide +kernel
theorem dX12_began_103 : decode cX12_began 103 = .ok (.goto (-42), 3) := by decide +kernel
theorem dX12_began_106 : decode cX12_began 106 = .ok (.iload 5, 2) := by decide +kernel
theorem dX12_began_108 : decode cX12_began 108 = .ok (.iconst (-1), 1) := by decide +kernel
theorem dX12_began_109 : decode cX12_began 109 = .ok (.if_icmp .ne 8, 3) := by decide +kernel
theorem dX12_began_112 : decode cX12_began 112 = .ok (.iload 6, 2) := by decide +kernel
theorem dX12_began_114 : decode cX12_began 114 = .ok (.goto 9, 3) := by decide +kernel
theorem dX12_began_117 : decode cX12_began 117 = .ok (.aload_n 0, 1) := by decide +kernel
theorem dX12_began_118 : decode cX12_began 118 = .ok (.bipush (-5), 2) := by decide +kernel
theorem dX12_began_120 : decode cX12_began 120 = .ok (.invokevirtual 99, 3) := by decide +kernel
theorem dX12_began_123 : decode cX12_began 123 = .ok (.ireturn, 1) := by decide +kernel
theorem dX12_slip_0 : decode cX12_slip 0 = .ok (.aload_n 0, 1) := by decide +kernel
theorem dX12_slip_1 : decode cX12_slip 1 = .ok (.lload_n 1, 1) := by decide +kernel
theorem dX12_slip_2 : decode cX12_slip 2 = .ok (.invokevirtual 193, 3) := by decide +kernel
theorem dX12_slip_5 : decode cX12_slip 5 = .ok (.ifCond .eq 11, 3) := by decide +kernel
theorem dX12_slip_8 : decode cX12_slip 8 = .ok (.aload_n 0, 1) := by decide +kernel
theorem dX12_slip_9 : decode cX12_slip 9 = .ok (.lload_n 3, 1) := by decide +kernel
theorem dX12_slip_10 : decode cX12_slip 10 = .ok (.invokevirtual 193, 3) := by decide +kernel
theorem dX12_slip_13 : decode cX12_slip 13 = .ok (.ifCond .ne 10, 3) := by decide +kernel
theorem dX12_slip_16 : decode cX12_slip 16 = .ok (.aload_n 0, 1) := by decide +kernel
theorem dX12_slip_17 : decode cX12_slip 17 = .ok (.bipush (-6), 2) := by decide +kernel
theorem dX12_slip_19 : decode cX12_slip 19 = .ok (.invokevirtual 214, 3) := by decide +kernel
theorem dX12_slip_22 : decode cX12_slip 22 = .ok (.ireturn, 1) := by decide +kernel
theorem dX12_slip_23 : decode cX12_slip 23 = .ok (.lload_n 1, 1) := by decide +kernel
theorem dX12_slip_24 : decode cX12_slip 24 = .ok (.aload_n 0, 1) := by decide +kernel
theorem dX12_slip_25 : decode cX12_slip 25 = .ok (.lload_n 1, 1) := by decide +kernel
theorem dX12_slip_26 : decode cX12_slip 26 = .ok (.invokevirtual 186, 3) := by decide +kernel
theorem dX12_slip_29 : decode cX12_slip 29 = .ok (.ladd, 1) := by decide +kernel
theorem dX12_slip_30 : decode cX12_slip 30 = .ok (.lstore 5, 2) := by decide +kernel
theorem dX12_slip_32 : decode cX12_slip 32 = .ok (.lload_n 3, 1) := by decide +kernel
theorem dX12_slip_33 : decode cX12_slip 33 = .ok (.lstore 7, 2) := by decide +kernel
theorem dX12_slip_35 : decode cX12_slip 35 = .ok (.iconst 0, 1) := by decide +kernel
theorem dX12_slip_36 : decode cX12_slip 36 = .ok (.istore 9, 2) := by decide +kernel
theorem dX12_slip_38 : decode cX12_slip 38 = .ok (.lload 5, 2) := by decide +kernel
theorem dX12_slip_40 : decode cX12_slip 40 = .ok (.lload 7, 2) := by decide +kernel
theorem dX12_slip_42 : decode cX12_slip 42 = .ok (.lcmp, 1) := by decide +kernel
theorem dX12_slip_43 : decode cX12_slip 43 = .ok (.ifCond .eq 52, 3) := by decide +kernel
theorem dX12_slip_46 : decode cX12_slip 46 = .ok (.lload 5, 2) := by decide +kernel
theorem dX12_slip_48 : decode cX12_slip 48 = .ok (.aload_n 0, 1) := by decide +kernel
theorem dX12_slip_49 : decode cX12_slip 49 = .ok (.getfield 7, 3) := by decide +kernel
theorem dX12_slip_52 : decode cX12_slip 52 = .ok (.i2l, 1) := by decide +kernel
theorem dX12_slip_53 : decode cX12_slip 53 = .ok (.lrem, 1) := by decide +kernel
theorem dX12_slip_54 : decode cX12_slip 54 = .ok (.lload 7, 2) := by decide +kernel
theorem dX12_slip_56 : decode cX12_slip 56 = .ok (.aload_n 0, 1) := by decide +kernel
theorem dX12_slip_57 : decode cX12_slip 57 = .ok (.getfield 7, 3) := by decide +kernel
theorem dX12_slip_60 : decode cX12_slip 60 = .ok (.i2l, 1) := by decide +kernel
theorem dX12_slip_61 : decode cX12_slip 61 = .ok (.lrem, 1) := by decide +kernel
theorem dX12_slip_62 : decode cX12_slip 62 = .ok (.lcmp, 1) := by decide +kernel
theorem dX12_slip_63 : decode cX12_slip 63 = .ok (.ifCond .eq 6, 3) := by decide +kernel
theorem dX12_slip_66 : decode cX12_slip 66 = .ok (.iload 9, 2) := by decide +kernel
theorem dX12_slip_68 : decode cX12_slip 68 = .ok (.ireturn, 1) := by decide +kernel
theorem dX12_slip_69 : decode cX12_slip 69 = .ok (.lload 5, 2) := by decide +kernel
theorem dX12_slip_71 : decode cX12_slip 71 = .ok (.aload_n 0, 1) := by decide +kernel
theorem dX12_slip_72 : decode cX12_slip 72 = .ok (.getfield 7, 3) := by decide +kernel
theorem dX12_slip_75 : decode cX12_slip 75 = .ok (.i2l, 1) := by decide +kernel
theorem dX12_slip_76 : decode cX12_slip 76 = .ok (.ldiv, 1) := by decide +kernel
theorem dX12_slip_77 : decode cX12_slip 77 = .ok (.lstore 5, 2) := by decide +kernel
theorem dX12_slip_79 : decode cX12_slip 79 = .ok (.lload 7, 2) := by decide +kernel
theorem dX12_slip_81 : decode cX12_slip 81 = .ok (.aload_n 0, 1) := by decide +kernel
theorem dX12_slip_82 : decode cX12_slip 82 = .ok (.getfield 7, 3) := by decide +kernel
theorem dX12_slip_85 : decode cX12_slip 85 = .ok (.i2l, 1) := by decide +kernel
theorem dX12_slip_86 : decode cX12_slip 86 = .ok (.ldiv, 1) := by decide +kernel
theorem dX12_slip_87 : decode cX12_slip 87 = .ok (.lstore 7, 2) := by decide +kernel
theorem dX12_slip_89 : decode cX12_slip 89 = .ok (.iinc 9 1, 3) := by decide +kernel
theorem dX12_slip_92 : decode cX12_slip 92 = .ok (.goto (-54), 3) := by decide +kernel
theorem dX12_slip_95 : decode cX12_slip 95 = .ok (.iconst (-1), 1) := by decide +kernel
theorem dX12_slip_96 : decode cX12_slip 96 = .ok (.ireturn, 1) := by decide +kernel
theorem dX12_missed_0 : decode cX12_missed 0 = .ok (.aload_n 0, 1) := by decide +kernel
theorem dX12_missed_1 : decode cX12_missed 1 = .ok (.lload_n 1, 1) := by decide +kernel
theorem dX12_missed_2 : decode cX12_missed 2 = .ok (.invokevirtual 193, 3) := by decide +kernel
theorem dX12_missed_5 : decode cX12_missed 5 = .ok (.ifCond .ne 10, 3) := by decide +kernel
theorem dX12_missed_8 : decode cX12_missed 8 = .ok (.aload_n 0, 1) := by decide +kernel
theorem dX12_missed_9 : decode cX12_missed 9 = .ok (.bipush (-6), 2) := by decide +kernel
theorem dX12_missed_11 : decode cX12_missed 11 = .ok (.invokevirtual 99, 3) := by decide +kernel
theorem dX12_missed_14 : decode cX12_missed 14 = .ok (.ireturn, 1) := by decide +kernel
theorem dX12_missed_15 : decode cX12_missed 15 = .ok (.aload_n 0, 1) := by decide +kernel
theorem dX12_missed_16 : decode cX12_missed 16 = .ok (.lload_n 1, 1) := by decide +kernel
theorem dX12_missed_17 : decode cX12_missed 17 = .ok (.invokevirtual 190, 3) := by decide +kernel
theorem dX12_missed_20 : decode cX12_missed 20 = .ok (.istore_n 3, 1) := by decide +kernel
theorem dX12_missed_21 : decode cX12_missed 21 = .ok (.iconst 0, 1) := by decide +kernel
theorem dX12_missed_22 : decode cX12_missed 22 = .ok (.istore 4, 2) := by decide +kernel
theorem dX12_missed_24 : decode cX12_missed 24 = .ok (.lconst 1, 1) := by decide +kernel
theorem dX12_missed_25 : decode cX12_missed 25 = .ok (.lstore 5, 2) := by decide +kernel
theorem dX12_missed_27 : decode cX12_missed 27 = .ok (.iconst 0, 1) := by decide +kernel
theorem dX12_missed_28 : decode cX12_missed 28 = .ok (.istore 7, 2) := by decide +kernel
theorem dX12_missed_30 : decode cX12_missed 30 = .ok (.iload 7, 2) := by decide +kernel
theorem dX12_missed_32 : decode cX12_missed 32 = .ok (.iload_n 3, 1) := by decide +kernel
theorem dX12_missed_33 : decode cX12_missed 33 = .ok (.if_icmp .ge 132, 3) := by decide +kernel
theorem dX12_missed_36 : decode cX12_missed 36 = .ok (.iconst 0, 1) := by decide +kernel
theorem dX12_missed_37 : decode cX12_missed 37 = .ok (.istore 8, 2) := by decide +kernel
theorem dX12_missed_39 : decode cX12_missed 39 = .ok (.iload 8, 2) := by decide +kernel
theorem dX12_missed_41 : decode cX12_missed 41 = .ok (.aload_n 0, 1) := by decide +kernel
theorem dX12_missed_42 : decode cX12_missed 42 = .ok (.getfield 7, 3) := by decide +kernel
theorem dX12_missed_45 : decode cX12_missed 45 = .ok (.if_icmp .ge 104, 3) := by decide +kernel
theorem dX12_missed_48 : decode cX12_missed 48 = .ok (.iload 8, 2) := by decide +kernel
theorem dX12_missed_50 : decode cX12_missed 50 = .ok (.aload_n 0, 1) := by decide +kernel
theorem dX12_missed_51 : decode cX12_missed 51 = .ok (.getfield 72, 3) := by decide +kernel
theorem dX12_missed_54 : decode cX12_missed 54 = .ok (.iload 7, 2) := by decide +kernel
theorem dX12_missed_56 : decode cX12_missed 56 = .ok (.iaload, 1) := by decide +kernel
theorem dX12_missed_57 : decode cX12_missed 57 = .ok (.if_icmp .eq 25, 3) := by decide +kernel
theorem dX12_missed_60 : decode cX12_missed 60 = .ok (.iload 8, 2) := by decide +kernel
theorem dX12_missed_62 : decode cX12_missed 62 = .ok (.ifCond .gt 16, 3) := by decide +kernel
theorem dX12_missed_65 : decode cX12_missed 65 = .ok (.iload 7, 2) := by decide +kernel
theorem dX12_missed_67 : decode cX12_missed 67 = .ok (.iload_n 3, 1) := by decide +kernel
theorem dX12_missed_68 : decode cX12_missed 68 = .ok (.iconst 1, 1) := by decide +kernel
theorem dX12_missed_69 : decode cX12_missed 69 = .ok (.isub, 1) := by decide +kernel
theorem dX12_missed_70 : decode cX12_missed 70 = .ok (.if_icmp .lt 8, 3) := by decide +kernel
theorem dX12_missed_73 : decode cX12_missed 73 = .ok (.iload_n 3, 1) := by decide +kernel
theorem dX12_missed_74 : decode cX12_missed 74 = .ok (.iconst 1, 1) := by decide +kernel
theorem dX12_missed_75 : decode cX12_missed 75 = .ok (.if_icmp .ne 7, 3) := by decide +kernel
theorem dX12_missed_78 : decode cX12_missed 78 = .ok (.iconst 1, 1) := by decide +kernel
theorem dX12_missed_79 : decode cX12_missed 79 = .ok (.goto 4, 3) := by decide +kernel
theorem dX12_missed_82 : decode cX12_missed 82 = .ok (.iconst 0, 1) := by decide +kernel
theorem dX12_missed_83 : decode cX12_missed 83 = .ok (.istore 9, 2) := by decide +kernel
theorem dX12_missed_85 : decode cX12_missed 85 = .ok (.lload_n 1, 1) := by decide +kernel
theorem dX12_missed_86 : decode cX12_missed 86 = .ok (.iload 8, 2) := by decide +kernel
theorem dX12_missed_88 : decode cX12_missed 88 = .ok (.aload_n 0, 1) := by decide +kernel
theorem dX12_missed_89 : decode cX12_missed 89 = .ok (.getfield 72, 3) := by decide +kernel
theorem dX12_missed_92 : decode cX12_missed 92 = .ok (.iload 7, 2) := by decide +kernel
theorem dX12_missed_94 : decode cX12_missed 94 = .ok (.iaload, 1) := by decide +kernel
theorem dX12_missed_95 : decode cX12_missed 95 = .ok (.isub, 1) := by decide +kernel
theorem dX12_missed_96 : decode cX12_missed 96 = .ok (.i2l, 1) := by decide +kernel
theorem dX12_missed_97 : decode cX12_missed 97 = .ok (.lload 5, 2) := by decide +kernel
theorem dX12_missed_99 : decode cX12_missed 99 = .ok (.lmul, 1) := by decide +kernel
theorem dX12_missed_100 : decode cX12_missed 100 = .ok (.ladd, 1) := by decide +kernel
theorem dX12_missed_101 : decode cX12_missed 101 = .ok (.lstore 10, 2) := by decide +kernel
theorem dX12_missed_103 : decode cX12_missed 103 = .ok (.iload 9, 2) := by decide +kernel
theorem dX12_missed_105 : decode cX12_missed 105 = .ok (.ifCond .eq 38, 3) := by decide +kernel
theorem dX12_missed_108 : decode cX12_missed 108 = .ok (.lload 10, 2) := by decide +kernel
theorem dX12_missed_110 : decode cX12_missed 110 = .ok (.ldc2_w 93, 3) := by decide +kernel
theorem dX12_missed_113 : decode cX12_missed 113 = .ok (.lcmp, 1) := by decide +kernel
theorem dX12_missed_114 : decode cX12_missed 114 = .ok (.ifCond .gt 29, 3) := by decide +kernel
theorem dX12_missed_117 : decode cX12_missed 117 = .ok (.iload 8, 2) := by decide +kernel
theorem dX12_missed_119 : decode cX12_missed 119 = .ok (.aload_n 0, 1) := by decide +kernel
theorem dX12_missed_120 : decode cX12_missed 120 = .ok (.getfield 72, 3) := by decide +kernel
theorem dX12_missed_123 : decode cX12_missed 123 = .ok (.iload 7, 2) := by decide +kernel
theorem dX12_missed_125 : decode cX12_missed 125 = .ok (.iaload, 1) := by decide +kernel
theorem dX12_missed_126 : decode cX12_missed 126 = .ok (.isub, 1) := by decide +kernel
theorem dX12_missed_127 : decode cX12_missed 127 = .ok (.iload 7, 2) := by decide +kernel
theorem dX12_missed_129 : decode cX12_missed 129 = .ok (.iconst 1, 1) := by decide +kernel
theorem dX12_missed_130 : decode cX12_missed 130 = .ok (.iadd, 1) := by decide +kernel
theorem dX12_missed_131 : decode cX12_missed 131 = .ok (.imul, 1) := by decide +kernel
theorem dX12_missed_132 : decode cX12_missed 132 = .ok (.aload_n 0, 1) := by decide +kernel
theorem dX12_missed_133 : decode cX12_missed 133 = .ok (.getfield 7, 3) := by decide +kernel
theorem dX12_missed_136 : decode cX12_missed 136 = .ok (.irem, 1) := by decide +kernel
theorem dX12_missed_137 : decode cX12_missed 137 = .ok (.ifCond .ne 6, 3) := by decide +kernel
theorem dX12_missed_140 : decode cX12_missed 140 = .ok (.iinc 4 1, 3) := by decide +kernel
theorem dX12_missed_143 : decode cX12_missed 143 = .ok (.iinc 8 1, 3) := by decide +kernel
theorem dX12_missed_146 : decode cX12_missed 146 = .ok (.goto (-107), 3) := by decide +kernel
theorem dX12_missed_149 : decode cX12_missed 149 = .ok (.lload 5, 2) := by decide +kernel
theorem dX12_missed_151 : decode cX12_missed 151 = .ok (.aload_n 0, 1) := by decide +kernel
theorem dX12_missed_152 : decode cX12_missed 152 = .ok (.getfield 7, 3) := by decide +kernel
theorem dX12_missed_155 : decode cX12_missed 155 = .ok (.i2l, 1) := by decide +kernel
theorem dX12_missed_156 : decode cX12_missed 156 = .ok (.lmul, 1) := by decide +kernel
theorem dX12_missed_157 : decode cX12_missed 157 = .ok (.lstore 5, 2) := by decide +kernel
theorem dX12_missed_159 : decode cX12_missed 159 = .ok (.iinc 7 1, 3) := by decide +kernel
theorem dX12_missed_162 : decode cX12_missed 162 = .ok (.goto (-132), 3) := by decide +kernel
theorem dX12_missed_165 : decode cX12_missed 165 = .ok (.iload 4, 2) := by decide +kernel
theorem dX12_missed_167 : decode cX12_missed 167 = .ok (.ireturn, 1) := by decide +kernel
theorem dX12_wrongIn_0 : decode cX12_wrongIn 0 = .ok (.iconst 0, 1) := by decide +kernel
theorem dX12_wrongIn_1 : decode cX12_wrongIn 1 = .ok (.istore 4, 2) := by decide +kernel
theorem dX12_wrongIn_3 : decode cX12_wrongIn 3 = .ok (.iload 4, 2) := by decide +kernel
theorem dX12_wrongIn_5 : decode cX12_wrongIn 5 = .ok (.iload_n 3, 1) := by decide +kernel
theorem dX12_wrongIn_6 : decode cX12_wrongIn 6 = .ok (.if_icmp .ge 67, 3) := by decide +kernel
theorem dX12_wrongIn_9 : decode cX12_wrongIn 9 = .ok (.aload_n 0, 1) := by decide +kernel
theorem dX12_wrongIn_10 : decode cX12_wrongIn 10 = .ok (.getfield 48, 3) := by decide +kernel
theorem dX12_wrongIn_13 : decode cX12_wrongIn 13 = .ok (.sipush 160, 3) := by decide +kernel
theorem dX12_wrongIn_16 : decode cX12_wrongIn 16 = .ok (.iload_n 2, 1) := by decide +kernel
theorem dX12_wrongIn_17 : decode cX12_wrongIn 17 = .ok (.imul, 1) := by decide +kernel
theorem dX12_wrongIn_18 : decode cX12_wrongIn 18 = .ok (.iload 4, 2) := by decide +kernel
theorem dX12_wrongIn_20 : decode cX12_wrongIn 20 = .ok (.iadd, 1) := by decide +kernel
theorem dX12_wrongIn_21 : decode cX12_wrongIn 21 = .ok (.laload, 1) := by decide +kernel
theorem dX12_wrongIn_22 : decode cX12_wrongIn 22 = .ok (.lstore 5, 2) := by decide +kernel
theorem dX12_wrongIn_24 : decode cX12_wrongIn 24 = .ok (.aload_n 0, 1) := by decide +kernel
theorem dX12_wrongIn_25 : decode cX12_wrongIn 25 = .ok (.lload 5, 2) := by decide +kernel
theorem dX12_wrongIn_27 : decode cX12_wrongIn 27 = .ok (.invokevirtual 193, 3) := by decide +kernel
theorem dX12_wrongIn_30 : decode cX12_wrongIn 30 = .ok (.ifCond .eq 34, 3) := by decide +kernel
theorem dX12_wrongIn_33 : decode cX12_wrongIn 33 = .ok (.iload 4, 2) := by decide +kernel
theorem dX12_wrongIn_35 : decode cX12_wrongIn 35 = .ok (.ifCond .le 32, 3) := by decide +kernel
theorem dX12_wrongIn_38 : decode cX12_wrongIn 38 = .ok (.aload_n 0, 1) := by decide +kernel
theorem dX12_wrongIn_39 : decode cX12_wrongIn 39 = .ok (.iload_n 1, 1) := by decide +kernel
theorem dX12_wrongIn_40 : decode cX12_wrongIn 40 = .ok (.aload_n 0, 1) := by decide +kernel
theorem dX12_wrongIn_41 : decode cX12_wrongIn 41 = .ok (.getfield 48, 3) := by decide +kernel
theorem dX12_wrongIn_44 : decode cX12_wrongIn 44 = .ok (.sipush 160, 3) := by decide +kernel
theorem dX12_wrongIn_47 : decode cX12_wrongIn 47 = .ok (.iload_n 2, 1) := by decide +kernel
theorem dX12_wrongIn_48 : decode cX12_wrongIn 48 = .ok (.imul, 1) := by decide +kernel
theorem dX12_wrongIn_49 : decode cX12_wrongIn 49 = .ok (.iload 4, 2) := by decide +kernel
theorem dX12_wrongIn_51 : decode cX12_wrongIn 51 = .ok (.iadd, 1) := by decide +kernel
theorem dX12_wrongIn_52 : decode cX12_wrongIn 52 = .ok (.iconst 1, 1) := by decide +kernel
theorem dX12_wrongIn_53 : decode cX12_wrongIn 53 = .ok (.isub, 1) := by decide +kernel
theorem dX12_wrongIn_54 : decode cX12_wrongIn 54 = .ok (.laload, 1) := by decide +kernel
theorem dX12_wrongIn_55 : decode cX12_wrongIn 55 = .ok (.invokevirtual 108, 3) := by decide +kernel
theorem dX12_wrongIn_58 : decode cX12_wrongIn 58 = .ok (.lload 5, 2) := by decide +kernel
theorem dX12_wrongIn_60 : decode cX12_wrongIn 60 = .ok (.lcmp, 1) := by decide +kernel
theorem dX12_wrongIn_61 : decode cX12_wrongIn 61 = .ok (.ifCond .eq 6, 3) := by decide +kernel
theorem dX12_wrongIn_64 : decode cX12_wrongIn 64 = .ok (.iload 4, 2) := by decide +kernel
theorem dX12_wrongIn_66 : decode cX12_wrongIn 66 = .ok (.ireturn, 1) := by decide +kernel
theorem dX12_wrongIn_67 : decode cX12_wrongIn 67 = .ok (.iinc 4 1, 3) := by decide +kernel
theorem dX12_wrongIn_70 : decode cX12_wrongIn 70 = .ok (.goto (-67), 3) := by decide +kernel
theorem dX12_wrongIn_73 : decode cX12_wrongIn 73 = .ok (.iconst (-1), 1) := by decide +kernel
theorem dX12_wrongIn_74 : decode cX12_wrongIn 74 = .ok (.ireturn, 1) := by decide +kernel
theorem dX12_judge_0 : decode cX12_judge 0 = .ok (.aload_n 0, 1) := by decide +kernel
theorem dX12_judge_1 : decode cX12_judge 1 = .ok (.iload_n 1, 1) := by decide +kernel
theorem dX12_judge_2 : decode cX12_judge 2 = .ok (.invokevirtual 103, 3) := by decide +kernel
theorem dX12_judge_5 : decode cX12_judge 5 = .ok (.ifCond .eq 12, 3) := by decide +kernel
theorem dX12_judge_8 : decode cX12_judge 8 = .ok (.aload_n 0, 1) := by decide +kernel
theorem dX12_judge_9 : decode cX12_judge 9 = .ok (.iload_n 2, 1) := by decide +kernel
theorem dX12_judge_10 : decode cX12_judge 10 = .ok (.iload_n 3, 1) := by decide +kernel
theorem dX12_judge_11 : decode cX12_judge 11 = .ok (.invokevirtual 235, 3) := by decide +kernel
theorem dX12_judge_14 : decode cX12_judge 14 = .ok (.goto 4, 3) := by decide +kernel
theorem dX12_judge_17 : decode cX12_judge 17 = .ok (.iconst (-1), 1) := by decide +kernel
theorem dX12_judge_18 : decode cX12_judge 18 = .ok (.istore 4, 2) := by decide +kernel
theorem dX12_judge_20 : decode cX12_judge 20 = .ok (.iload 4, 2) := by decide +kernel
theorem dX12_judge_22 : decode cX12_judge 22 = .ok (.ifCond .eq 12, 3) := by decide +kernel
theorem dX12_judge_25 : decode cX12_judge 25 = .ok (.aload_n 0, 1) := by decide +kernel
theorem dX12_judge_26 : decode cX12_judge 26 = .ok (.iload 4, 2) := by decide +kernel
theorem dX12_judge_28 : decode cX12_judge 28 = .ok (.invokevirtual 214, 3) := by decide +kernel
theorem dX12_judge_31 : decode cX12_judge 31 = .ok (.goto 10, 3) := by decide +kernel
theorem dX12_judge_34 : decode cX12_judge 34 = .ok (.aload_n 0, 1) := by decide +kernel
theorem dX12_judge_35 : decode cX12_judge 35 = .ok (.iload_n 1, 1) := by decide +kernel
theorem dX12_judge_36 : decode cX12_judge 36 = .ok (.iload_n 2, 1) := by decide +kernel
theorem dX12_judge_37 : decode cX12_judge 37 = .ok (.iload_n 3, 1) := by decide +kernel
theorem dX12_judge_38 : decode cX12_judge 38 = .ok (.invokevirtual 238, 3) := by decide +kernel
theorem dX12_judge_41 : decode cX12_judge 41 = .ok (.ireturn, 1) := by decide +kernel
theorem dX12_laws_0 : decode cX12_laws 0 = .ok (.aload_n 0, 1) := by decide +kernel
theorem dX12_laws_1 : decode cX12_laws 1 = .ok (.iload_n 1, 1) := by decide +kernel
theorem dX12_laws_2 : decode cX12_laws 2 = .ok (.iload_n 2, 1) := by decide +kernel
theorem dX12_laws_3 : decode cX12_laws 3 = .ok (.invokevirtual 235, 3) := by decide +kernel
theorem dX12_laws_6 : decode cX12_laws 6 = .ok (.istore_n 3, 1) := by decide +kernel
theorem dX12_laws_7 : decode cX12_laws 7 = .ok (.iconst 0, 1) := by decide +kernel
theorem dX12_laws_8 : decode cX12_laws 8 = .ok (.istore 4, 2) := by decide +kernel
theorem dX12_laws_10 : decode cX12_laws 10 = .ok (.iload_n 3, 1) := by decide +kernel
theorem dX12_laws_11 : decode cX12_laws 11 = .ok (.ifCond .eq 9, 3) := by decide +kernel
theorem dX12_laws_14 : decode cX12_laws 14 = .ok (.aload_n 0, 1) := by decide +kernel
theorem dX12_laws_15 : decode cX12_laws 15 = .ok (.iload_n 3, 1) := by decide +kernel
theorem dX12_laws_16 : decode cX12_laws 16 = .ok (.invokevirtual 99, 3) := by decide +kernel
theorem dX12_laws_19 : decode cX12_laws 19 = .ok (.ireturn, 1) := by decide +kernel
theorem dX12_laws_20 : decode cX12_laws 20 = .ok (.iconst 0, 1) := by decide +kernel
theorem dX12_laws_21 : decode cX12_laws 21 = .ok (.istore 5, 2) := by decide +kernel
theorem dX12_laws_23 : decode cX12_laws 23 = .ok (.iload 5, 2) := by decide +kernel
theorem dX12_laws_25 : decode cX12_laws 25 = .ok (.aload_n 0, 1) := by decide +kernel
theorem dX12_laws_26 : decode cX12_laws 26 = .ok (.getfield 90, 3) := by decide +kernel
theorem dX12_laws_29 : decode cX12_laws 29 = .ok (.if_icmp .ge 30, 3) := by decide +kernel
theorem dX12_laws_32 : decode cX12_laws 32 = .ok (.aload_n 0, 1) := by decide +kernel
theorem dX12_laws_33 : decode cX12_laws 33 = .ok (.iload 5, 2) := by decide +kernel
theorem dX12_laws_35 : decode cX12_laws 35 = .ok (.iload_n 1, 1) := by decide +kernel
theorem dX12_laws_36 : decode cX12_laws 36 = .ok (.iload_n 2, 1) := by decide +kernel
theorem dX12_laws_37 : decode cX12_laws 37 = .ok (.invokevirtual 238, 3) := by decide +kernel
theorem dX12_laws_40 : decode cX12_laws 40 = .ok (.iconst (-1), 1) := by decide +kernel
theorem dX12_laws_41 : decode cX12_laws 41 = .ok (.if_icmp .ne 12, 3) := by decide +kernel
theorem dX12_laws_44 : decode cX12_laws 44 = .ok (.iload 4, 2) := by decide +kernel
theorem dX12_laws_46 : decode cX12_laws 46 = .ok (.iconst 1, 1) := by decide +kernel
theorem dX12_laws_47 : decode cX12_laws 47 = .ok (.iload 5, 2) := by decide +kernel
theorem dX12_laws_49 : decode cX12_laws 49 = .ok (.ishl, 1) := by decide +kernel
theorem dX12_laws_50 : decode cX12_laws 50 = .ok (.ior, 1) := by decide +kernel
theorem dX12_laws_51 : decode cX12_laws 51 = .ok (.istore 4, 2) := by decide +kernel
theorem dX12_laws_53 : decode cX12_laws 53 = .ok (.iinc 5 1, 3) := by decide +kernel
theorem dX12_laws_56 : decode cX12_laws 56 = .ok (.goto (-33), 3) := by decide +kernel
theorem dX12_laws_59 : decode cX12_laws 59 = .ok (.iload 4, 2) := by decide +kernel
theorem dX12_laws_61 : decode cX12_laws 61 = .ok (.ireturn, 1) := by decide +kernel
theorem dX12_writes_0 : decode cX12_writes 0 = .ok (.aload_n 0, 1) := by decide +kernel
theorem dX12_writes_1 : decode cX12_writes 1 = .ok (.getfield 32, 3) := by decide +kernel
theorem dX12_writes_4 : decode cX12_writes 4 = .ok (.aload_n 0, 1) := by decide +kernel
theorem dX12_writes_5 : decode cX12_writes 5 = .ok (.getfield 155, 3) := by decide +kernel
theorem dX12_writes_8 : decode cX12_writes 8 = .ok (.lload_n 1, 1) := by decide +kernel
theorem dX12_writes_9 : decode cX12_writes 9 = .ok (.lastore, 1) := by decide +kernel
theorem dX12_writes_10 : decode cX12_writes 10 = .ok (.aload_n 0, 1) := by decide +kernel
theorem dX12_writes_11 : decode cX12_writes 11 = .ok (.dup, 1) := by decide +kernel
theorem dX12_writes_12 : decode cX12_writes 12 = .ok (.getfield 155, 3) := by decide +kernel
theorem dX12_writes_15 : decode cX12_writes 15 = .ok (.iconst 1, 1) := by decide +kernel
theorem dX12_writes_16 : decode cX12_writes 16 = .ok (.iadd, 1) := by decide +kernel
theorem dX12_writes_17 : decode cX12_writes 17 = .ok (.putfield 155, 3) := by decide +kernel
theorem dX12_writes_20 : decode cX12_writes 20 = .ok (.aload_n 0, 1) := by decide +kernel
theorem dX12_writes_21 : decode cX12_writes 21 = .ok (.getfield 155, 3) := by decide +kernel
theorem dX12_writes_24 : decode cX12_writes 24 = .ok (.ireturn, 1) := by decide +kernel
theorem dX12_write_0 : decode cX12_write 0 = .ok (.aload_n 0, 1) := by decide +kernel
theorem dX12_write_1 : decode cX12_write 1 = .ok (.lload_n 1, 1) := by decide +kernel
theorem dX12_write_2 : decode cX12_write 2 = .ok (.invokevirtual 193, 3) := by decide +kernel
theorem dX12_write_5 : decode cX12_write 5 = .ok (.ifCond .ne 10, 3) := by decide +kernel
theorem dX12_write_8 : decode cX12_write 8 = .ok (.aload_n 0, 1) := by decide +kernel
theorem dX12_write_9 : decode cX12_write 9 = .ok (.bipush (-6), 2) := by decide +kernel
theorem dX12_write_11 : decode cX12_write 11 = .ok (.invokevirtual 99, 3) := by decide +kernel
theorem dX12_write_14 : decode cX12_write 14 = .ok (.ireturn, 1) := by decide +kernel
theorem dX12_write_15 : decode cX12_write 15 = .ok (.aload_n 0, 1) := by decide +kernel
theorem dX12_write_16 : decode cX12_write 16 = .ok (.getfield 155, 3) := by decide +kernel
theorem dX12_write_19 : decode cX12_write 19 = .ok (.bipush 20, 2) := by decide +kernel
theorem dX12_write_21 : decode cX12_write 21 = .ok (.if_icmp .ne 12, 3) := by decide +kernel
theorem dX12_write_24 : decode cX12_write 24 = .ok (.aload_n 0, 1) := by decide +kernel
theorem dX12_write_25 : decode cX12_write 25 = .ok (.bipush (-7), 2) := by decide +kernel
theorem dX12_write_27 : decode cX12_write 27 = .ok (.invokevirtual 99, 3) := by decide +kernel
theorem dX12_write_30 : decode cX12_write 30 = .ok (.goto 8, 3) := by decide +kernel
theorem dX12_write_33 : decode cX12_write 33 = .ok (.aload_n 0, 1) := by decide +kernel
theorem dX12_write_34 : decode cX12_write 34 = .ok (.lload_n 1, 1) := by decide +kernel
theorem dX12_write_35 : decode cX12_write 35 = .ok (.invokevirtual 169, 3) := by decide +kernel
theorem dX12_write_38 : decode cX12_write 38 = .ok (.ireturn, 1) := by decide +kernel
theorem dX12_slate_0 : decode cX12_slate 0 = .ok (.iload_n 1, 1) := by decide +kernel
theorem dX12_slate_1 : decode cX12_slate 1 = .ok (.ifCond .lt 20, 3) := by decide +kernel
theorem dX12_slate_4 : decode cX12_slate 4 = .ok (.iload_n 1, 1) := by decide +kernel
theorem dX12_slate_5 : decode cX12_slate 5 = .ok (.aload_n 0, 1) := by decide +kernel
theorem dX12_slate_6 : decode cX12_slate 6 = .ok (.getfield 155, 3) := by decide +kernel
theorem dX12_slate_9 : decode cX12_slate 9 = .ok (.if_icmp .ge 12, 3) := by decide +kernel
theorem dX12_slate_12 : decode cX12_slate 12 = .ok (.aload_n 0, 1) := by decide +kernel
theorem dX12_slate_13 : decode cX12_slate 13 = .ok (.getfield 32, 3) := by decide +kernel
theorem dX12_slate_16 : decode cX12_slate 16 = .ok (.iload_n 1, 1) := by decide +kernel
theorem dX12_slate_17 : decode cX12_slate 17 = .ok (.laload, 1) := by decide +kernel
theorem dX12_slate_18 : decode cX12_slate 18 = .ok (.goto 10, 3) := by decide +kernel
theorem dX12_slate_21 : decode cX12_slate 21 = .ok (.aload_n 0, 1) := by decide +kernel
theorem dX12_slate_22 : decode cX12_slate 22 = .ok (.bipush (-5), 2) := by decide +kernel
theorem dX12_slate_24 : decode cX12_slate 24 = .ok (.invokevirtual 99, 3) := by decide +kernel
theorem dX12_slate_27 : decode cX12_slate 27 = .ok (.i2l, 1) := by decide +kernel
theorem dX12_slate_28 : decode cX12_slate 28 = .ok (.lreturn, 1) := by decide +kernel
theorem dX12_on_0 : decode cX12_on 0 = .ok (.aload_n 0, 1) := by decide +kernel
theorem dX12_on_1 : decode cX12_on 1 = .ok (.iload_n 1, 1) := by decide +kernel
theorem dX12_on_2 : decode cX12_on 2 = .ok (.invokevirtual 103, 3) := by decide +kernel
theorem dX12_on_5 : decode cX12_on 5 = .ok (.ifCond .ne 9, 3) := by decide +kernel
theorem dX12_on_8 : decode cX12_on 8 = .ok (.aload_n 0, 1) := by decide +kernel
theorem dX12_on_9 : decode cX12_on 9 = .ok (.iconst (-1), 1) := by decide +kernel
theorem dX12_on_10 : decode cX12_on 10 = .ok (.invokevirtual 99, 3) := by decide +kernel
theorem dX12_on_13 : decode cX12_on 13 = .ok (.ireturn, 1) := by decide +kernel
theorem dX12_on_14 : decode cX12_on 14 = .ok (.iload_n 2, 1) := by decide +kernel
theorem dX12_on_15 : decode cX12_on 15 = .ok (.iconst 1, 1) := by decide +kernel
theorem dX12_on_16 : decode cX12_on 16 = .ok (.if_icmp .lt 16, 3) := by decide +kernel
theorem dX12_on_19 : decode cX12_on 19 = .ok (.iload_n 2, 1) := by decide +kernel
theorem dX12_on_20 : decode cX12_on 20 = .ok (.bipush 20, 2) := by decide +kernel
theorem dX12_on_22 : decode cX12_on 22 = .ok (.if_icmp .gt 10, 3) := by decide +kernel
theorem dX12_on_25 : decode cX12_on 25 = .ok (.aload_n 0, 1) := by decide +kernel
theorem dX12_on_26 : decode cX12_on 26 = .ok (.getfield 155, 3) := by decide +kernel
theorem dX12_on_29 : decode cX12_on 29 = .ok (.ifCond .ne 10, 3) := by decide +kernel
theorem dX12_on_32 : decode cX12_on 32 = .ok (.aload_n 0, 1) := by decide +kernel
theorem dX12_on_33 : decode cX12_on 33 = .ok (.bipush (-6), 2) := by decide +kernel
theorem dX12_on_35 : decode cX12_on 35 = .ok (.invokevirtual 99, 3) := by decide +kernel
theorem dX12_on_38 : decode cX12_on 38 = .ok (.ireturn, 1) := by decide +kernel
theorem dX12_on_39 : decode cX12_on 39 = .ok (.iconst 0, 1) := by decide +kernel
theorem dX12_on_40 : decode cX12_on 40 = .ok (.istore_n 3, 1) := by decide +kernel
theorem dX12_on_41 : decode cX12_on 41 = .ok (.iload_n 3, 1) := by decide +kernel
theorem dX12_on_42 : decode cX12_on 42 = .ok (.iload_n 2, 1) := by decide +kernel
theorem dX12_on_43 : decode cX12_on 43 = .ok (.if_icmp .ge 54, 3) := by decide +kernel
theorem dX12_on_46 : decode cX12_on 46 = .ok (.aload_n 0, 1) := by decide +kernel
theorem dX12_on_47 : decode cX12_on 47 = .ok (.getfield 155, 3) := by decide +kernel
theorem dX12_on_50 : decode cX12_on 50 = .ok (.bipush 20, 2) := by decide +kernel
theorem dX12_on_52 : decode cX12_on 52 = .ok (.if_icmp .ge 45, 3) := by decide +kernel
theorem dX12_on_55 : decode cX12_on 55 = .ok (.aload_n 0, 1) := by decide +kernel
theorem dX12_on_56 : decode cX12_on 56 = .ok (.iload_n 1, 1) := by decide +kernel
theorem dX12_on_57 : decode cX12_on 57 = .ok (.aload_n 0, 1) := by decide +kernel
theorem dX12_on_58 : decode cX12_on 58 = .ok (.getfield 32, 3) := by decide +kernel
theorem dX12_on_61 : decode cX12_on 61 = .ok (.aload_n 0, 1) := by decide +kernel
theorem dX12_on_62 : decode cX12_on 62 = .ok (.getfield 155, 3) := by decide +kernel
theorem dX12_on_65 : decode cX12_on 65 = .ok (.iconst 1, 1) := by decide +kernel
theorem dX12_on_66 : decode cX12_on 66 = .ok (.isub, 1) := by decide +kernel
theorem dX12_on_67 : decode cX12_on 67 = .ok (.laload, 1) := by decide +kernel
theorem dX12_on_68 : decode cX12_on 68 = .ok (.invokevirtual 108, 3) := by decide +kernel
theorem dX12_on_71 : decode cX12_on 71 = .ok (.lstore 4, 2) := by decide +kernel
theorem dX12_on_73 : decode cX12_on 73 = .ok (.lload 4, 2) := by decide +kernel
theorem dX12_on_75 : decode cX12_on 75 = .ok (.ldc2_w 173, 3) := by decide +kernel
theorem dX12_on_78 : decode cX12_on 78 = .ok (.lcmp, 1) := by decide +kernel
theorem dX12_on_79 : decode cX12_on 79 = .ok (.ifCond .ne 5, 3) := by decide +kernel
theorem dX12_on_82 : decode cX12_on 82 = .ok (.iload_n 3, 1) := by decide +kernel
theorem dX12_on_83 : decode cX12_on 83 = .ok (.ireturn, 1) := by decide +kernel
theorem dX12_on_84 : decode cX12_on 84 = .ok (.aload_n 0, 1) := by decide +kernel
theorem dX12_on_85 : decode cX12_on 85 = .ok (.lload 4, 2) := by decide +kernel
theorem dX12_on_87 : decode cX12_on 87 = .ok (.invokevirtual 169, 3) := by decide +kernel
theorem dX12_on_90 : decode cX12_on 90 = .ok (.pop, 1) := by decide +kernel
theorem dX12_on_91 : decode cX12_on 91 = .ok (.iinc 3 1, 3) := by decide +kernel
theorem dX12_on_94 : decode cX12_on 94 = .ok (.goto (-53), 3) := by decide +kernel
theorem dX12_on_97 : decode cX12_on 97 = .ok (.iload_n 3, 1) := by decide +kernel
theorem dX12_on_98 : decode cX12_on 98 = .ok (.ireturn, 1) := by decide +kernel
theorem dX12_wipe_0 : decode cX12_wipe 0 = .ok (.iload_n 1, 1) := by decide +kernel
theorem dX12_wipe_1 : decode cX12_wipe 1 = .ok (.ifCond .lt 9, 3) := by decide +kernel
theorem dX12_wipe_4 : decode cX12_wipe 4 = .ok (.iload_n 1, 1) := by decide +kernel
theorem dX12_wipe_5 : decode cX12_wipe 5 = .ok (.bipush 20, 2) := by decide +kernel
theorem dX12_wipe_7 : decode cX12_wipe 7 = .ok (.if_icmp .le 10, 3) := by decide +kernel
theorem dX12_wipe_10 : decode cX12_wipe 10 = .ok (.aload_n 0, 1) := by decide +kernel
theorem dX12_wipe_11 : decode cX12_wipe 11 = .ok (.bipush (-6), 2) := by decide +kernel
theorem dX12_wipe_13 : decode cX12_wipe 13 = .ok (.invokevirtual 99, 3) := by decide +kernel
theorem dX12_wipe_16 : decode cX12_wipe 16 = .ok (.ireturn, 1) := by decide +kernel
theorem dX12_wipe_17 : decode cX12_wipe 17 = .ok (.aload_n 0, 1) := by decide +kernel
theorem dX12_wipe_18 : decode cX12_wipe 18 = .ok (.iload_n 1, 1) := by decide +kernel
theorem dX12_wipe_19 : decode cX12_wipe 19 = .ok (.aload_n 0, 1) := by decide +kernel
theorem dX12_wipe_20 : decode cX12_wipe 20 = .ok (.getfield 155, 3) := by decide +kernel
theorem dX12_wipe_23 : decode cX12_wipe 23 = .ok (.if_icmp .le 7, 3) := by decide +kernel
theorem dX12_wipe_26 : decode cX12_wipe 26 = .ok (.iconst 0, 1) := by decide +kernel
theorem dX12_wipe_27 : decode cX12_wipe 27 = .ok (.goto 9, 3) := by decide +kernel
theorem dX12_wipe_30 : decode cX12_wipe 30 = .ok (.aload_n 0, 1) := by decide +kernel
theorem dX12_wipe_31 : decode cX12_wipe 31 = .ok (.getfield 155, 3) := by decide +kernel
theorem dX12_wipe_34 : decode cX12_wipe 34 = .ok (.iload_n 1, 1) := by decide +kernel
theorem dX12_wipe_35 : decode cX12_wipe 35 = .ok (.isub, 1) := by decide +kernel
theorem dX12_wipe_36 : decode cX12_wipe 36 = .ok (.putfield 155, 3) := by decide +kernel
theorem dX12_wipe_39 : decode cX12_wipe 39 = .ok (.aload_n 0, 1) := by decide +kernel
theorem dX12_wipe_40 : decode cX12_wipe 40 = .ok (.getfield 155, 3) := by decide +kernel
theorem dX12_wipe_43 : decode cX12_wipe 43 = .ok (.ireturn, 1) := by decide +kernel
theorem dX12_draw_0 : decode cX12_draw 0 = .ok (.aload_n 0, 1) := by decide +kernel
theorem dX12_draw_1 : decode cX12_draw 1 = .ok (.aload_n 0, 1) := by decide +kernel
theorem dX12_draw_2 : decode cX12_draw 2 = .ok (.getfield 13, 3) := by decide +kernel
theorem dX12_draw_5 : decode cX12_draw 5 = .ok (.ldc 242, 2) := by decide +kernel
theorem dX12_draw_7 : decode cX12_draw 7 = .ok (.imul, 1) := by decide +kernel
theorem dX12_draw_8 : decode cX12_draw 8 = .ok (.sipush 12345, 3) := by decide +kernel
theorem dX12_draw_11 : decode cX12_draw 11 = .ok (.iadd, 1) := by decide +kernel
theorem dX12_draw_12 : decode cX12_draw 12 = .ok (.putfield 13, 3) := by decide +kernel
theorem dX12_draw_15 : decode cX12_draw 15 = .ok (.aload_n 0, 1) := by decide +kernel
theorem dX12_draw_16 : decode cX12_draw 16 = .ok (.getfield 13, 3) := by decide +kernel
theorem dX12_draw_19 : decode cX12_draw 19 = .ok (.bipush 16, 2) := by decide +kernel
theorem dX12_draw_21 : decode cX12_draw 21 = .ok (.iushr, 1) := by decide +kernel
theorem dX12_draw_22 : decode cX12_draw 22 = .ok (.iload_n 1, 1) := by decide +kernel
theorem dX12_draw_23 : decode cX12_draw 23 = .ok (.irem, 1) := by decide +kernel
theorem dX12_draw_24 : decode cX12_draw 24 = .ok (.ireturn, 1) := by decide +kernel
theorem dX12_lessons_0 : decode cX12_lessons 0 = .ok (.aload_n 0, 1) := by decide +kernel
theorem dX12_lessons_1 : decode cX12_lessons 1 = .ok (.getfield 90, 3) := by decide +kernel
theorem dX12_lessons_4 : decode cX12_lessons 4 = .ok (.ifCond .ne 10, 3) := by decide +kernel
theorem dX12_lessons_7 : decode cX12_lessons 7 = .ok (.aload_n 0, 1) := by decide +kernel
theorem dX12_lessons_8 : decode cX12_lessons 8 = .ok (.bipush (-5), 2) := by decide +kernel
theorem dX12_lessons_10 : decode cX12_lessons 10 = .ok (.invokevirtual 99, 3) := by decide +kernel
theorem dX12_lessons_13 : decode cX12_lessons 13 = .ok (.ireturn, 1) := by decide +kernel
theorem dX12_lessons_14 : decode cX12_lessons 14 = .ok (.iload_n 1, 1) := by decide +kernel
theorem dX12_lessons_15 : decode cX12_lessons 15 = .ok (.iconst 1, 1) := by decide +kernel
theorem dX12_lessons_16 : decode cX12_lessons 16 = .ok (.if_icmp .lt 9, 3) := by decide +kernel
theorem dX12_lessons_19 : decode cX12_lessons 19 = .ok (.iload_n 1, 1) := by decide +kernel
theorem dX12_lessons_20 : decode cX12_lessons 20 = .ok (.bipush 9, 2) := by decide +kernel
theorem dX12_lessons_22 : decode cX12_lessons 22 = .ok (.if_icmp .le 10, 3) := by decide +kernel
theorem dX12_lessons_25 : decode cX12_lessons 25 = .ok (.aload_n 0, 1) := by decide +kernel
theorem dX12_lessons_26 : decode cX12_lessons 26 = .ok (.bipush (-6), 2) := by decide +kernel
theorem dX12_lessons_28 : decode cX12_lessons 28 = .ok (.invokevirtual 99, 3) := by decide +kernel
theorem dX12_lessons_31 : decode cX12_lessons 31 = .ok (.ireturn, 1) := by decide +kernel
theorem dX12_lessons_32 : decode cX12_lessons 32 = .ok (.iconst 0, 1) := by decide +kernel
theorem dX12_lessons_33 : decode cX12_lessons 33 = .ok (.istore_n 2, 1) := by decide +kernel
theorem dX12_lessons_34 : decode cX12_lessons 34 = .ok (.iconst 0, 1) := by decide +kernel
theorem dX12_lessons_35 : decode cX12_lessons 35 = .ok (.istore_n 3, 1) := by decide +kernel
theorem dX12_lessons_36 : decode cX12_lessons 36 = .ok (.iload_n 3, 1) := by decide +kernel
theorem dX12_lessons_37 : decode cX12_lessons 37 = .ok (.iload_n 1, 1) := by decide +kernel
theorem dX12_lessons_38 : decode cX12_lessons 38 = .ok (.if_icmp .ge 136, 3) := by decide +kernel
theorem dX12_lessons_41 : decode cX12_lessons 41 = .ok (.aload_n 0, 1) := by decide +kernel
theorem dX12_lessons_42 : decode cX12_lessons 42 = .ok (.iconst 0, 1) := by decide +kernel
theorem dX12_lessons_43 : decode cX12_lessons 43 = .ok (.putfield 155, 3) := by decide +kernel
theorem dX12_lessons_46 : decode cX12_lessons 46 = .ok (.aload_n 0, 1) := by decide +kernel
theorem dX12_lessons_47 : decode cX12_lessons 47 = .ok (.aload_n 0, 1) := by decide +kernel
theorem dX12_lessons_48 : decode cX12_lessons 48 = .ok (.sipush 1000, 3) := by decide +kernel
theorem dX12_lessons_51 : decode cX12_lessons 51 = .ok (.invokevirtual 243, 3) := by decide +kernel
theorem dX12_lessons_54 : decode cX12_lessons 54 = .ok (.i2l, 1) := by decide +kernel
theorem dX12_lessons_55 : decode cX12_lessons 55 = .ok (.invokevirtual 169, 3) := by decide +kernel
theorem dX12_lessons_58 : decode cX12_lessons 58 = .ok (.pop, 1) := by decide +kernel
theorem dX12_lessons_59 : decode cX12_lessons 59 = .ok (.aload_n 0, 1) := by decide +kernel
theorem dX12_lessons_60 : decode cX12_lessons 60 = .ok (.aload_n 0, 1) := by decide +kernel
theorem dX12_lessons_61 : decode cX12_lessons 61 = .ok (.getfield 90, 3) := by decide +kernel
theorem dX12_lessons_64 : decode cX12_lessons 64 = .ok (.invokevirtual 243, 3) := by decide +kernel
theorem dX12_lessons_67 : decode cX12_lessons 67 = .ok (.istore 4, 2) := by decide +kernel
theorem dX12_lessons_69 : decode cX12_lessons 69 = .ok (.iconst 1, 1) := by decide +kernel
theorem dX12_lessons_70 : decode cX12_lessons 70 = .ok (.istore 5, 2) := by decide +kernel
theorem dX12_lessons_72 : decode cX12_lessons 72 = .ok (.iload 5, 2) := by decide +kernel
theorem dX12_lessons_74 : decode cX12_lessons 74 = .ok (.ifCond .eq 86, 3) := by decide +kernel
theorem dX12_lessons_77 : decode cX12_lessons 77 = .ok (.aload_n 0, 1) := by decide +kernel
theorem dX12_lessons_78 : decode cX12_lessons 78 = .ok (.aload_n 0, 1) := by decide +kernel
theorem dX12_lessons_79 : decode cX12_lessons 79 = .ok (.getfield 32, 3) := by decide +kernel
theorem dX12_lessons_82 : decode cX12_lessons 82 = .ok (.aload_n 0, 1) := by decide +kernel
theorem dX12_lessons_83 : decode cX12_lessons 83 = .ok (.getfield 155, 3) := by decide +kernel
theorem dX12_lessons_86 : decode cX12_lessons 86 = .ok (.iconst 1, 1) := by decide +kernel
theorem dX12_lessons_87 : decode cX12_lessons 87 = .ok (.isub, 1) := by decide +kernel
theorem dX12_lessons_88 : decode cX12_lessons 88 = .ok (.laload, 1) := by decide +kernel
theorem dX12_lessons_89 : decode cX12_lessons 89 = .ok (.invokevirtual 197, 3) := by decide +kernel
theorem dX12_lessons_92 : decode cX12_lessons 92 = .ok (.ifCond .ne 68, 3) := by decide +kernel
theorem dX12_lessons_95 : decode cX12_lessons 95 = .ok (.aload_n 0, 1) := by decide +kernel
theorem dX12_lessons_96 : decode cX12_lessons 96 = .ok (.getfield 155, 3) := by decide +kernel
theorem dX12_lessons_99 : decode cX12_lessons 99 = .ok (.bipush 20, 2) := by decide +kernel
theorem dX12_lessons_101 : decode cX12_lessons 101 = .ok (.if_icmp .ne 9, 3) := by decide +kernel
theorem dX12_lessons_104 : decode cX12_lessons 104 = .ok (.ldc2_w 173, 3) := by decide +kernel
theorem dX12_lessons_107 : decode cX12_lessons 107 = .ok (.goto 20, 3) := by decide +kernel
theorem dX12_lessons_110 : decode cX12_lessons 110 = .ok (.aload_n 0, 1) := by decide +kernel
theorem dX12_lessons_111 : decode cX12_lessons 111 = .ok (.iload 4, 2) := by decide +kernel
theorem dX12_lessons_113 : decode cX12_lessons 113 = .ok (.aload_n 0, 1) := by decide +kernel
theorem dX12_lessons_114 : decode cX12_lessons 114 = .ok (.getfield 32, 3) := by decide +kernel
theorem dX12_lessons_117 : decode cX12_lessons 117 = .ok (.aload_n 0, 1) := by decide +kernel
theorem dX12_lessons_118 : decode cX12_lessons 118 = .ok (.getfield 155, 3) := by decide +kernel
theorem dX12_lessons_121 : decode cX12_lessons 121 = .ok (.iconst 1, 1) := by decide +kernel
theorem dX12_lessons_122 : decode cX12_lessons 122 = .ok (.isub, 1) := by decide +kernel
theorem dX12_lessons_123 : decode cX12_lessons 123 = .ok (.laload, 1) := by decide +kernel
theorem dX12_lessons_124 : decode cX12_lessons 124 = .ok (.invokevirtual 108, 3) := by decide +kernel
theorem dX12_lessons_127 : decode cX12_lessons 127 = .ok (.lstore 6, 2) := by decide +kernel
theorem dX12_lessons_129 : decode cX12_lessons 129 = .ok (.lload 6, 2) := by decide +kernel
theorem dX12_lessons_131 : decode cX12_lessons 131 = .ok (.ldc2_w 173, 3) := by decide +kernel
theorem dX12_lessons_134 : decode cX12_lessons 134 = .ok (.lcmp, 1) := by decide +kernel
theorem dX12_lessons_135 : decode cX12_lessons 135 = .ok (.ifCond .eq 7, 3) := by decide +kernel
theorem dX12_lessons_138 : decode cX12_lessons 138 = .ok (.iconst 1, 1) := by decide +kernel
theorem dX12_lessons_139 : decode cX12_lessons 139 = .ok (.goto 4, 3) := by decide +kernel
theorem dX12_lessons_142 : decode cX12_lessons 142 = .ok (.iconst 0, 1) := by decide +kernel
theorem dX12_lessons_143 : decode cX12_lessons 143 = .ok (.istore 5, 2) := by decide +kernel
theorem dX12_lessons_145 : decode cX12_lessons 145 = .ok (.iload 5, 2) := by decide +kernel
theorem dX12_lessons_147 : decode cX12_lessons 147 = .ok (.ifCond .eq 10, 3) := by decide +kernel
theorem dX12_lessons_150 : decode cX12_lessons 150 = .ok (.aload_n 0, 1) := by decide +kernel
theorem dX12_lessons_151 : decode cX12_lessons 151 = .ok (.lload 6, 2) := by decide +kernel
theorem dX12_lessons_153 : decode cX12_lessons 153 = .ok (.invokevirtual 169, 3) := by decide +kernel
theorem dX12_lessons_156 : decode cX12_lessons 156 = .ok (.pop, 1) := by decide +kernel
theorem dX12_lessons_157 : decode cX12_lessons 157 = .ok (.goto (-85), 3) := by decide +kernel
theorem dX12_lessons_160 : decode cX12_lessons 160 = .ok (.iload 5, 2) := by decide +kernel
theorem dX12_lessons_162 : decode cX12_lessons 162 = .ok (.ifCond .eq 6, 3) := by decide +kernel
theorem dX12_lessons_165 : decode cX12_lessons 165 = .ok (.iinc 2 1, 3) := by decide +kernel
theorem dX12_lessons_168 : decode cX12_lessons 168 = .ok (.iinc 3 1, 3) := by decide +kernel
theorem dX12_lessons_171 : decode cX12_lessons 171 = .ok (.goto (-135), 3) := by decide +kernel
theorem dX12_lessons_174 : decode cX12_lessons 174 = .ok (.iload_n 2, 1) := by decide +kernel
theorem dX12_lessons_175 : decode cX12_lessons 175 = .ok (.ireturn, 1) := by decide +kernel
theorem dX12_seed_0 : decode cX12_seed 0 = .ok (.aload_n 0, 1) := by decide +kernel
theorem dX12_seed_1 : decode cX12_seed 1 = .ok (.getfield 13, 3) := by decide +kernel
theorem dX12_seed_4 : decode cX12_seed 4 = .ok (.istore_n 2, 1) := by decide +kernel
theorem dX12_seed_5 : decode cX12_seed 5 = .ok (.aload_n 0, 1) := by decide +kernel
theorem dX12_seed_6 : decode cX12_seed 6 = .ok (.iload_n 1, 1) := by decide +kernel
theorem dX12_seed_7 : decode cX12_seed 7 = .ok (.putfield 13, 3) := by decide +kernel
theorem dX12_seed_10 : decode cX12_seed 10 = .ok (.iload_n 2, 1) := by decide +kernel
theorem dX12_seed_11 : decode cX12_seed 11 = .ok (.ireturn, 1) := by decide +kernel
theorem dX12_body_0 : decode cX12_body 0 = .ok (.aload_n 0, 1) := by decide +kernel
theorem dX12_body_1 : decode cX12_body 1 = .ok (.getfield 246, 3) := by decide +kernel
theorem dX12_body_4 : decode cX12_body 4 = .ok (.bipush 20, 2) := by decide +kernel
theorem dX12_body_6 : decode cX12_body 6 = .ok (.if_icmp .ge 13, 3) := by decide +kernel
theorem dX12_body_9 : decode cX12_body 9 = .ok (.aload_n 0, 1) := by decide +kernel
theorem dX12_body_10 : decode cX12_body 10 = .ok (.getfield 87, 3) := by decide +kernel
theorem dX12_body_13 : decode cX12_body 13 = .ok (.aload_n 0, 1) := by decide +kernel
theorem dX12_body_14 : decode cX12_body 14 = .ok (.getfield 246, 3) := by decide +kernel
theorem dX12_body_17 : decode cX12_body 17 = .ok (.iload_n 1, 1) := by decide +kernel
theorem dX12_body_18 : decode cX12_body 18 = .ok (.iastore, 1) := by decide +kernel
theorem dX12_body_19 : decode cX12_body 19 = .ok (.aload_n 0, 1) := by decide +kernel
theorem dX12_body_20 : decode cX12_body 20 = .ok (.dup, 1) := by decide +kernel
theorem dX12_body_21 : decode cX12_body 21 = .ok (.getfield 246, 3) := by decide +kernel
theorem dX12_body_24 : decode cX12_body 24 = .ok (.iconst 1, 1) := by decide +kernel
theorem dX12_body_25 : decode cX12_body 25 = .ok (.iadd, 1) := by decide +kernel
theorem dX12_body_26 : decode cX12_body 26 = .ok (.putfield 246, 3) := by decide +kernel
theorem dX12_body_29 : decode cX12_body 29 = .ok (.return_, 1) := by decide +kernel
theorem dX12_turning_0 : decode cX12_turning 0 = .ok (.aload_n 0, 1) := by decide +kernel
theorem dX12_turning_1 : decode cX12_turning 1 = .ok (.getfield 23, 3) := by decide +kernel
theorem dX12_turning_4 : decode cX12_turning 4 = .ok (.iload_n 1, 1) := by decide +kernel
theorem dX12_turning_5 : decode cX12_turning 5 = .ok (.iaload, 1) := by decide +kernel
theorem dX12_turning_6 : decode cX12_turning 6 = .ok (.istore_n 3, 1) := by decide +kernel
theorem dX12_turning_7 : decode cX12_turning 7 = .ok (.iload_n 3, 1) := by decide +kernel
theorem dX12_turning_8 : decode cX12_turning 8 = .ok (.bipush 6, 2) := by decide +kernel
theorem dX12_turning_10 : decode cX12_turning 10 = .ok (.if_icmp .ne 9, 3) := by decide +kernel
theorem dX12_turning_13 : decode cX12_turning 13 = .ok (.aload_n 0, 1) := by decide +kernel
theorem dX12_turning_14 : decode cX12_turning 14 = .ok (.bipush 70, 2) := by decide +kernel
theorem dX12_turning_16 : decode cX12_turning 16 = .ok (.invokevirtual 249, 3) := by decide +kernel
theorem dX12_turning_19 : decode cX12_turning 19 = .ok (.iload_n 3, 1) := by decide +kernel
theorem dX12_turning_20 : decode cX12_turning 20 = .ok (.iconst 4, 1) := by decide +kernel
theorem dX12_turning_21 : decode cX12_turning 21 = .ok (.if_icmp .ne 9, 3) := by decide +kernel
theorem dX12_turning_24 : decode cX12_turning 24 = .ok (.aload_n 0, 1) := by decide +kernel
theorem dX12_turning_25 : decode cX12_turning 25 = .ok (.bipush 51, 2) := by decide +kernel
theorem dX12_turning_27 : decode cX12_turning 27 = .ok (.invokevirtual 249, 3) := by decide +kernel
theorem dX12_turning_30 : decode cX12_turning 30 = .ok (.iload_n 3, 1) := by decide +kernel
theorem dX12_turning_31 : decode cX12_turning 31 = .ok (.iconst 1, 1) := by decide +kernel
theorem dX12_turning_32 : decode cX12_turning 32 = .ok (.if_icmp .eq 8, 3) := by decide +kernel
theorem dX12_turning_35 : decode cX12_turning 35 = .ok (.iload_n 3, 1) := by decide +kernel
theorem dX12_turning_36 : decode cX12_turning 36 = .ok (.iconst 3, 1) := by decide +kernel
theorem dX12_turning_37 : decode cX12_turning 37 = .ok (.if_icmp .ne 9, 3) := by decide +kernel
theorem dX12_turning_40 : decode cX12_turning 40 = .ok (.aload_n 0, 1) := by decide +kernel
theorem dX12_turning_41 : decode cX12_turning 41 = .ok (.bipush 20, 2) := by decide +kernel
theorem dX12_turning_43 : decode cX12_turning 43 = .ok (.invokevirtual 249, 3) := by decide +kernel
theorem dX12_turning_46 : decode cX12_turning 46 = .ok (.aload_n 0, 1) := by decide +kernel
theorem dX12_turning_47 : decode cX12_turning 47 = .ok (.bipush 10, 2) := by decide +kernel
theorem dX12_turning_49 : decode cX12_turning 49 = .ok (.invokevirtual 249, 3) := by decide +kernel
theorem dX12_turning_52 : decode cX12_turning 52 = .ok (.iload_n 2, 1) := by decide +kernel
theorem dX12_turning_53 : decode cX12_turning 53 = .ok (.iload_n 1, 1) := by decide +kernel
theorem dX12_turning_54 : decode cX12_turning 54 = .ok (.iadd, 1) := by decide +kernel
theorem dX12_turning_55 : decode cX12_turning 55 = .ok (.istore 4, 2) := by decide +kernel
theorem dX12_turning_57 : decode cX12_turning 57 = .ok (.iload_n 3, 1) := by decide +kernel
theorem dX12_turning_58 : decode cX12_turning 58 = .ok (.iconst 1, 1) := by decide +kernel
theorem dX12_turning_59 : decode cX12_turning 59 = .ok (.if_icmp .eq 8, 3) := by decide +kernel
theorem dX12_turning_62 : decode cX12_turning 62 = .ok (.iload_n 3, 1) := by decide +kernel
theorem dX12_turning_63 : decode cX12_turning 63 = .ok (.iconst 3, 1) := by decide +kernel
theorem dX12_turning_64 : decode cX12_turning 64 = .ok (.if_icmp .ne 14, 3) := by decide +kernel
theorem dX12_turning_67 : decode cX12_turning 67 = .ok (.iload 4, 2) := by decide +kernel
theorem dX12_turning_69 : decode cX12_turning 69 = .ok (.aload_n 0, 1) := by decide +kernel
theorem dX12_turning_70 : decode cX12_turning 70 = .ok (.getfield 26, 3) := by decide +kernel
theorem dX12_turning_73 : decode cX12_turning 73 = .ok (.iload_n 1, 1) := by decide +kernel
theorem dX12_turning_74 : decode cX12_turning 74 = .ok (.iaload, 1) := by decide +kernel
theorem dX12_turning_75 : decode cX12_turning 75 = .ok (.iadd, 1) := by decide +kernel
theorem dX12_turning_76 : decode cX12_turning 76 = .ok (.istore 4, 2) := by decide +kernel
theorem dX12_turning_78 : decode cX12_turning 78 = .ok (.iload_n 3, 1) := by decide +kernel
theorem dX12_turning_79 : decode cX12_turning 79 = .ok (.iconst 4, 1) := by decide +kernel
theorem dX12_turning_80 : decode cX12_turning 80 = .ok (.if_icmp .ne 9, 3) := by decide +kernel
theorem dX12_turning_83 : decode cX12_turning 83 = .ok (.iload 4, 2) := by decide +kernel
theorem dX12_turning_85 : decode cX12_turning 85 = .ok (.iload_n 1, 1) := by decide +kernel
theorem dX12_turning_86 : decode cX12_turning 86 = .ok (.isub, 1) := by decide +kernel
theorem dX12_turning_87 : decode cX12_turning 87 = .ok (.istore 4, 2) := by decide +kernel
theorem dX12_turning_89 : decode cX12_turning 89 = .ok (.iload_n 3, 1) := by decide +kernel
theorem dX12_turning_90 : decode cX12_turning 90 = .ok (.bipush 6, 2) := by decide +kernel
theorem dX12_turning_92 : decode cX12_turning 92 = .ok (.if_icmp .ne 10, 3) := by decide +kernel
theorem dX12_turning_95 : decode cX12_turning 95 = .ok (.iload 4, 2) := by decide +kernel
theorem dX12_turning_97 : decode cX12_turning 97 = .ok (.iconst 2, 1) := by decide +kernel
theorem dX12_turning_98 : decode cX12_turning 98 = .ok (.imul, 1) := by decide +kernel
theorem dX12_turning_99 : decode cX12_turning 99 = .ok (.goto 5, 3) := by decide +kernel
theorem dX12_turning_102 : decode cX12_turning 102 = .ok (.iload 4, 2) := by decide +kernel
theorem dX12_turning_104 : decode cX12_turning 104 = .ok (.ireturn, 1) := by decide +kernel
theorem dX12_adding_0 : decode cX12_adding 0 = .ok (.aload_n 0, 1) := by decide +kernel
theorem dX12_adding_1 : decode cX12_adding 1 = .ok (.getfield 23, 3) := by decide +kernel
theorem dX12_adding_4 : decode cX12_adding 4 = .ok (.iload_n 1, 1) := by decide +kernel
theorem dX12_adding_5 : decode cX12_adding 5 = .ok (.iaload, 1) := by decide +kernel
theorem dX12_adding_6 : decode cX12_adding 6 = .ok (.istore_n 3, 1) := by decide +kernel
theorem dX12_adding_7 : decode cX12_adding 7 = .ok (.iload_n 2, 1) := by decide +kernel
theorem dX12_adding_8 : decode cX12_adding 8 = .ok (.istore 4, 2) := by decide +kernel
theorem dX12_adding_10 : decode cX12_adding 10 = .ok (.iload_n 3, 1) := by decide +kernel
theorem dX12_adding_11 : decode cX12_adding 11 = .ok (.bipush 6, 2) := by decide +kernel
theorem dX12_adding_13 : decode cX12_adding 13 = .ok (.if_icmp .ne 19, 3) := by decide +kernel
theorem dX12_adding_16 : decode cX12_adding 16 = .ok (.aload_n 0, 1) := by decide +kernel
theorem dX12_adding_17 : decode cX12_adding 17 = .ok (.bipush 71, 2) := by decide +kernel
theorem dX12_adding_19 : decode cX12_adding 19 = .ok (.invokevirtual 249, 3) := by decide +kernel
theorem dX12_adding_22 : decode cX12_adding 22 = .ok (.iload_n 2, 1) := by decide +kernel
theorem dX12_adding_23 : decode cX12_adding 23 = .ok (.aload_n 0, 1) := by decide +kernel
theorem dX12_adding_24 : decode cX12_adding 24 = .ok (.getfield 26, 3) := by decide +kernel
theorem dX12_adding_27 : decode cX12_adding 27 = .ok (.iload_n 1, 1) := by decide +kernel
theorem dX12_adding_28 : decode cX12_adding 28 = .ok (.iaload, 1) := by decide +kernel
theorem dX12_adding_29 : decode cX12_adding 29 = .ok (.isub, 1) := by decide +kernel
theorem dX12_adding_30 : decode cX12_adding 30 = .ok (.istore 4, 2) := by decide +kernel
theorem dX12_adding_32 : decode cX12_adding 32 = .ok (.iload_n 3, 1) := by decide +kernel
theorem dX12_adding_33 : decode cX12_adding 33 = .ok (.iconst 3, 1) := by decide +kernel
theorem dX12_adding_34 : decode cX12_adding 34 = .ok (.if_icmp .ne 14, 3) := by decide +kernel
theorem dX12_adding_37 : decode cX12_adding 37 = .ok (.aload_n 0, 1) := by decide +kernel
theorem dX12_adding_38 : decode cX12_adding 38 = .ok (.bipush 40, 2) := by decide +kernel
theorem dX12_adding_40 : decode cX12_adding 40 = .ok (.invokevirtual 249, 3) := by decide +kernel
theorem dX12_adding_43 : decode cX12_adding 43 = .ok (.iload_n 2, 1) := by decide +kernel
theorem dX12_adding_44 : decode cX12_adding 44 = .ok (.iconst 1, 1) := by decide +kernel
theorem dX12_adding_45 : decode cX12_adding 45 = .ok (.iadd, 1) := by decide +kernel
theorem dX12_adding_46 : decode cX12_adding 46 = .ok (.istore 4, 2) := by decide +kernel
theorem dX12_adding_48 : decode cX12_adding 48 = .ok (.iload_n 3, 1) := by decide +kernel
theorem dX12_adding_49 : decode cX12_adding 49 = .ok (.iconst 2, 1) := by decide +kernel
theorem dX12_adding_50 : decode cX12_adding 50 = .ok (.if_icmp .eq 14, 3) := by decide +kernel
theorem dX12_adding_53 : decode cX12_adding 53 = .ok (.iload_n 3, 1) := by decide +kernel
theorem dX12_adding_54 : decode cX12_adding 54 = .ok (.iconst 5, 1) := by decide +kernel
theorem dX12_adding_55 : decode cX12_adding 55 = .ok (.if_icmp .eq 9, 3) := by decide +kernel
theorem dX12_adding_58 : decode cX12_adding 58 = .ok (.iload_n 3, 1) := by decide +kernel
theorem dX12_adding_59 : decode cX12_adding 59 = .ok (.bipush 6, 2) := by decide +kernel
theorem dX12_adding_61 : decode cX12_adding 61 = .ok (.if_icmp .ne 7, 3) := by decide +kernel
theorem dX12_adding_64 : decode cX12_adding 64 = .ok (.iconst 1, 1) := by decide +kernel
theorem dX12_adding_65 : decode cX12_adding 65 = .ok (.goto 4, 3) := by decide +kernel
theorem dX12_adding_68 : decode cX12_adding 68 = .ok (.iconst 0, 1) := by decide +kernel
theorem dX12_adding_69 : decode cX12_adding 69 = .ok (.istore 5, 2) := by decide +kernel
theorem dX12_adding_71 : decode cX12_adding 71 = .ok (.iload 5, 2) := by decide +kernel
theorem dX12_adding_73 : decode cX12_adding 73 = .ok (.ifCond .eq 9, 3) := by decide +kernel
theorem dX12_adding_76 : decode cX12_adding 76 = .ok (.aload_n 0, 1) := by decide +kernel
theorem dX12_adding_77 : decode cX12_adding 77 = .ok (.bipush 30, 2) := by decide +kernel
theorem dX12_adding_79 : decode cX12_adding 79 = .ok (.invokevirtual 249, 3) := by decide +kernel
theorem dX12_adding_82 : decode cX12_adding 82 = .ok (.aload_n 0, 1) := by decide +kernel
theorem dX12_adding_83 : decode cX12_adding 83 = .ok (.bipush 11, 2) := by decide +kernel
theorem dX12_adding_85 : decode cX12_adding 85 = .ok (.invokevirtual 249, 3) := by decide +kernel
theorem dX12_adding_88 : decode cX12_adding 88 = .ok (.aload_n 0, 1) := by decide +kernel
theorem dX12_adding_89 : decode cX12_adding 89 = .ok (.iload_n 1, 1) := by decide +kernel
theorem dX12_adding_90 : decode cX12_adding 90 = .ok (.iload 4, 2) := by decide +kernel
theorem dX12_adding_92 : decode cX12_adding 92 = .ok (.invokevirtual 253, 3) := by decide +kernel
theorem dX12_adding_95 : decode cX12_adding 95 = .ok (.iconst 2, 1) := by decide +kernel
theorem dX12_adding_96 : decode cX12_adding 96 = .ok (.imul, 1) := by decide +kernel
theorem dX12_adding_97 : decode cX12_adding 97 = .ok (.istore 6, 2) := by decide +kernel
theorem dX12_adding_99 : decode cX12_adding 99 = .ok (.iload 5, 2) := by decide +kernel
theorem dX12_adding_101 : decode cX12_adding 101 = .ok (.ifCond .eq 10, 3) := by decide +kernel
theorem dX12_adding_104 : decode cX12_adding 104 = .ok (.iload 6, 2) := by decide +kernel
theorem dX12_adding_106 : decode cX12_adding 106 = .ok (.iconst 3, 1) := by decide +kernel
theorem dX12_adding_107 : decode cX12_adding 107 = .ok (.imul, 1) := by decide +kernel
theorem dX12_adding_108 : decode cX12_adding 108 = .ok (.goto 5, 3) := by decide +kernel
theorem dX12_adding_111 : decode cX12_adding 111 = .ok (.iload 6, 2) := by decide +kernel
theorem dX12_adding_113 : decode cX12_adding 113 = .ok (.ireturn, 1) := by decide +kernel
theorem dX12_reading_0 : decode cX12_reading 0 = .ok (.aload_n 0, 1) := by decide +kernel
theorem dX12_reading_1 : decode cX12_reading 1 = .ok (.getfield 23, 3) := by decide +kernel
theorem dX12_reading_4 : decode cX12_reading 4 = .ok (.iload_n 1, 1) := by decide +kernel
theorem dX12_reading_5 : decode cX12_reading 5 = .ok (.iaload, 1) := by decide +kernel
theorem dX12_reading_6 : decode cX12_reading 6 = .ok (.istore_n 3, 1) := by decide +kernel
theorem dX12_reading_7 : decode cX12_reading 7 = .ok (.iload_n 3, 1) := by decide +kernel
theorem dX12_reading_8 : decode cX12_reading 8 = .ok (.iconst 4, 1) := by decide +kernel
theorem dX12_reading_9 : decode cX12_reading 9 = .ok (.if_icmp .ne 9, 3) := by decide +kernel
theorem dX12_reading_12 : decode cX12_reading 12 = .ok (.aload_n 0, 1) := by decide +kernel
theorem dX12_reading_13 : decode cX12_reading 13 = .ok (.bipush 50, 2) := by decide +kernel
theorem dX12_reading_15 : decode cX12_reading 15 = .ok (.invokevirtual 249, 3) := by decide +kernel
theorem dX12_reading_18 : decode cX12_reading 18 = .ok (.iload_n 3, 1) := by decide +kernel
theorem dX12_reading_19 : decode cX12_reading 19 = .ok (.iconst 5, 1) := by decide +kernel
theorem dX12_reading_20 : decode cX12_reading 20 = .ok (.if_icmp .ne 9, 3) := by decide +kernel
theorem dX12_reading_23 : decode cX12_reading 23 = .ok (.aload_n 0, 1) := by decide +kernel
theorem dX12_reading_24 : decode cX12_reading 24 = .ok (.bipush 60, 2) := by decide +kernel
theorem dX12_reading_26 : decode cX12_reading 26 = .ok (.invokevirtual 249, 3) := by decide +kernel
theorem dX12_reading_29 : decode cX12_reading 29 = .ok (.aload_n 0, 1) := by decide +kernel
theorem dX12_reading_30 : decode cX12_reading 30 = .ok (.bipush 12, 2) := by decide +kernel
theorem dX12_reading_32 : decode cX12_reading 32 = .ok (.invokevirtual 249, 3) := by decide +kernel
theorem dX12_reading_35 : decode cX12_reading 35 = .ok (.aload_n 0, 1) := by decide +kernel
theorem dX12_reading_36 : decode cX12_reading 36 = .ok (.iload_n 1, 1) := by decide +kernel
theorem dX12_reading_37 : decode cX12_reading 37 = .ok (.iload_n 2, 1) := by decide +kernel
theorem dX12_reading_38 : decode cX12_reading 38 = .ok (.invokevirtual 256, 3) := by decide +kernel
theorem dX12_reading_41 : decode cX12_reading 41 = .ok (.istore 4, 2) := by decide +kernel
theorem dX12_reading_43 : decode cX12_reading 43 = .ok (.iload 4, 2) := by decide +kernel
theorem dX12_reading_45 : decode cX12_reading 45 = .ok (.aload_n 0, 1) := by decide +kernel
theorem dX12_reading_46 : decode cX12_reading 46 = .ok (.iload_n 1, 1) := by decide +kernel
theorem dX12_reading_47 : decode cX12_reading 47 = .ok (.iload_n 2, 1) := by decide +kernel
theorem dX12_reading_48 : decode cX12_reading 48 = .ok (.aload_n 0, 1) := by decide +kernel
theorem dX12_reading_49 : decode cX12_reading 49 = .ok (.getfield 26, 3) := by decide +kernel
theorem dX12_reading_52 : decode cX12_reading 52 = .ok (.iload_n 1, 1) := by decide +kernel
theorem dX12_reading_53 : decode cX12_reading 53 = .ok (.iaload, 1) := by decide +kernel
theorem dX12_reading_54 : decode cX12_reading 54 = .ok (.isub, 1) := by decide +kernel
theorem dX12_reading_55 : decode cX12_reading 55 = .ok (.invokevirtual 253, 3) := by decide +kernel
theorem dX12_reading_58 : decode cX12_reading 58 = .ok (.ixor, 1) := by decide +kernel
theorem dX12_reading_59 : decode cX12_reading 59 = .ok (.istore 4, 2) := by decide +kernel
theorem dX12_reading_61 : decode cX12_reading 61 = .ok (.iload_n 3, 1) := by decide +kernel
theorem dX12_reading_62 : decode cX12_reading 62 = .ok (.iconst 4, 1) := by decide +kernel
theorem dX12_reading_63 : decode cX12_reading 63 = .ok (.if_icmp .ne 9, 3) := by decide +kernel
theorem dX12_reading_66 : decode cX12_reading 66 = .ok (.iload 4, 2) := by decide +kernel
theorem dX12_reading_68 : decode cX12_reading 68 = .ok (.ineg, 1) := by decide +kernel
theorem dX12_reading_69 : decode cX12_reading 69 = .ok (.goto 17, 3) := by decide +kernel
theorem dX12_reading_72 : decode cX12_reading 72 = .ok (.iload_n 3, 1) := by decide +kernel
theorem dX12_reading_73 : decode cX12_reading 73 = .ok (.iconst 5, 1) := by decide +kernel
theorem dX12_reading_74 : decode cX12_reading 74 = .ok (.if_icmp .ne 10, 3) := by decide +kernel
theorem dX12_reading_77 : decode cX12_reading 77 = .ok (.iload 4, 2) := by decide +kernel
theorem dX12_reading_79 : decode cX12_reading 79 = .ok (.iconst 5, 1) := by decide +kernel
theorem dX12_reading_80 : decode cX12_reading 80 = .ok (.ixor, 1) := by decide +kernel
theorem dX12_reading_81 : decode cX12_reading 81 = .ok (.goto 5, 3) := by decide +kernel
theorem dX12_reading_84 : decode cX12_reading 84 = .ok (.iload 4, 2) := by decide +kernel
theorem dX12_reading_86 : decode cX12_reading 86 = .ok (.ireturn, 1) := by decide +kernel
theorem dX12_act_0 : decode cX12_act 0 = .ok (.aload_n 0, 1) := by decide +kernel
theorem dX12_act_1 : decode cX12_act 1 = .ok (.iconst 0, 1) := by decide +kernel
theorem dX12_act_2 : decode cX12_act 2 = .ok (.putfield 246, 3) := by decide +kernel
theorem dX12_act_5 : decode cX12_act 5 = .ok (.aload_n 0, 1) := by decide +kernel
theorem dX12_act_6 : decode cX12_act 6 = .ok (.iload_n 1, 1) := by decide +kernel
theorem dX12_act_7 : decode cX12_act 7 = .ok (.invokevirtual 103, 3) := by decide +kernel
theorem dX12_act_10 : decode cX12_act 10 = .ok (.ifCond .eq 12, 3) := by decide +kernel
theorem dX12_act_13 : decode cX12_act 13 = .ok (.iload_n 2, 1) := by decide +kernel
theorem dX12_act_14 : decode cX12_act 14 = .ok (.ifCond .lt 8, 3) := by decide +kernel
theorem dX12_act_17 : decode cX12_act 17 = .ok (.iload_n 2, 1) := by decide +kernel
theorem dX12_act_18 : decode cX12_act 18 = .ok (.iconst 2, 1) := by decide +kernel
theorem dX12_act_19 : decode cX12_act 19 = .ok (.if_icmp .le 5, 3) := by decide +kernel
theorem dX12_act_22 : decode cX12_act 22 = .ok (.iconst 0, 1) := by decide +kernel
theorem dX12_act_23 : decode cX12_act 23 = .ok (.ireturn, 1) := by decide +kernel
theorem dX12_act_24 : decode cX12_act 24 = .ok (.iload_n 2, 1) := by decide +kernel
theorem dX12_act_25 : decode cX12_act 25 = .ok (.ifCond .ne 12, 3) := by decide +kernel
theorem dX12_act_28 : decode cX12_act 28 = .ok (.aload_n 0, 1) := by decide +kernel
theorem dX12_act_29 : decode cX12_act 29 = .ok (.iload_n 1, 1) := by decide +kernel
theorem dX12_act_30 : decode cX12_act 30 = .ok (.iload_n 3, 1) := by decide +kernel
theorem dX12_act_31 : decode cX12_act 31 = .ok (.invokevirtual 253, 3) := by decide +kernel
theorem dX12_act_34 : decode cX12_act 34 = .ok (.goto 23, 3) := by decide +kernel
theorem dX12_act_37 : decode cX12_act 37 = .ok (.iload_n 2, 1) := by decide +kernel
theorem dX12_act_38 : decode cX12_act 38 = .ok (.iconst 1, 1) := by decide +kernel
theorem dX12_act_39 : decode cX12_act 39 = .ok (.if_icmp .ne 12, 3) := by decide +kernel
theorem dX12_act_42 : decode cX12_act 42 = .ok (.aload_n 0, 1) := by decide +kernel
theorem dX12_act_43 : decode cX12_act 43 = .ok (.iload_n 1, 1) := by decide +kernel
theorem dX12_act_44 : decode cX12_act 44 = .ok (.iload_n 3, 1) := by decide +kernel
theorem dX12_act_45 : decode cX12_act 45 = .ok (.invokevirtual 256, 3) := by decide +kernel
theorem dX12_act_48 : decode cX12_act 48 = .ok (.goto 9, 3) := by decide +kernel
theorem dX12_act_51 : decode cX12_act 51 = .ok (.aload_n 0, 1) := by decide +kernel
theorem dX12_act_52 : decode cX12_act 52 = .ok (.iload_n 1, 1) := by decide +kernel
theorem dX12_act_53 : decode cX12_act 53 = .ok (.iload_n 3, 1) := by decide +kernel
theorem dX12_act_54 : decode cX12_act 54 = .ok (.invokevirtual 259, 3) := by decide +kernel
theorem dX12_act_57 : decode cX12_act 57 = .ok (.ireturn, 1) := by decide +kernel
theorem dX12_trace_0 : decode cX12_trace 0 = .ok (.iload_n 1, 1) := by decide +kernel
theorem dX12_trace_1 : decode cX12_trace 1 = .ok (.ifCond .lt 26, 3) := by decide +kernel
theorem dX12_trace_4 : decode cX12_trace 4 = .ok (.iload_n 1, 1) := by decide +kernel
theorem dX12_trace_5 : decode cX12_trace 5 = .ok (.bipush 20, 2) := by decide +kernel
theorem dX12_trace_7 : decode cX12_trace 7 = .ok (.if_icmp .ge 20, 3) := by decide +kernel
theorem dX12_trace_10 : decode cX12_trace 10 = .ok (.iload_n 1, 1) := by decide +kernel
theorem dX12_trace_11 : decode cX12_trace 11 = .ok (.aload_n 0, 1) := by decide +kernel
theorem dX12_trace_12 : decode cX12_trace 12 = .ok (.getfield 246, 3) := by decide +kernel
theorem dX12_trace_15 : decode cX12_trace 15 = .ok (.if_icmp .ge 12, 3) := by decide +kernel
theorem dX12_trace_18 : decode cX12_trace 18 = .ok (.aload_n 0, 1) := by decide +kernel
theorem dX12_trace_19 : decode cX12_trace 19 = .ok (.getfield 87, 3) := by decide +kernel
theorem dX12_trace_22 : decode cX12_trace 22 = .ok (.iload_n 1, 1) := by decide +kernel
theorem dX12_trace_23 : decode cX12_trace 23 = .ok (.iaload, 1) := by decide +kernel
theorem dX12_trace_24 : decode cX12_trace 24 = .ok (.goto 4, 3) := by decide +kernel
theorem dX12_trace_27 : decode cX12_trace 27 = .ok (.iconst (-1), 1) := by decide +kernel
theorem dX12_trace_28 : decode cX12_trace 28 = .ok (.ireturn, 1) := by decide +kernel
theorem dX12_image_0 : decode cX12_image 0 = .ok (.aload_n 0, 1) := by decide +kernel
theorem dX12_image_1 : decode cX12_image 1 = .ok (.iconst 1, 1) := by decide +kernel
theorem dX12_image_2 : decode cX12_image 2 = .ok (.putfield 262, 3) := by decide +kernel
theorem dX12_image_5 : decode cX12_image 5 = .ok (.aload_n 0, 1) := by decide +kernel
theorem dX12_image_6 : decode cX12_image 6 = .ok (.aload_n 0, 1) := by decide +kernel
theorem dX12_image_7 : decode cX12_image 7 = .ok (.getfield 63, 3) := by decide +kernel
theorem dX12_image_10 : decode cX12_image 10 = .ok (.aload_n 0, 1) := by decide +kernel
theorem dX12_image_11 : decode cX12_image 11 = .ok (.getfield 69, 3) := by decide +kernel
theorem dX12_image_14 : decode cX12_image 14 = .ok (.iconst 0, 1) := by decide +kernel
theorem dX12_image_15 : decode cX12_image 15 = .ok (.invokevirtual 179, 3) := by decide +kernel
theorem dX12_image_18 : decode cX12_image 18 = .ok (.aload_n 0, 1) := by decide +kernel
theorem dX12_image_19 : decode cX12_image 19 = .ok (.getfield 90, 3) := by decide +kernel
theorem dX12_image_22 : decode cX12_image 22 = .ok (.ireturn, 1) := by decide +kernel
theorem dX12_restore_0 : decode cX12_restore 0 = .ok (.aload_n 0, 1) := by decide +kernel
theorem dX12_restore_1 : decode cX12_restore 1 = .ok (.getfield 262, 3) := by decide +kernel
theorem dX12_restore_4 : decode cX12_restore 4 = .ok (.ifCond .ne 10, 3) := by decide +kernel
theorem dX12_restore_7 : decode cX12_restore 7 = .ok (.aload_n 0, 1) := by decide +kernel
theorem dX12_restore_8 : decode cX12_restore 8 = .ok (.bipush (-6), 2) := by decide +kernel
theorem dX12_restore_10 : decode cX12_restore 10 = .ok (.invokevirtual 99, 3) := by decide +kernel
theorem dX12_restore_13 : decode cX12_restore 13 = .ok (.ireturn, 1) := by decide +kernel
theorem dX12_restore_14 : decode cX12_restore 14 = .ok (.aload_n 0, 1) := by decide +kernel
theorem dX12_restore_15 : decode cX12_restore 15 = .ok (.aload_n 0, 1) := by decide +kernel
theorem dX12_restore_16 : decode cX12_restore 16 = .ok (.getfield 63, 3) := by decide +kernel
theorem dX12_restore_19 : decode cX12_restore 19 = .ok (.aload_n 0, 1) := by decide +kernel
theorem dX12_restore_20 : decode cX12_restore 20 = .ok (.getfield 69, 3) := by decide +kernel
theorem dX12_restore_23 : decode cX12_restore 23 = .ok (.iconst 1, 1) := by decide +kernel
theorem dX12_restore_24 : decode cX12_restore 24 = .ok (.invokevirtual 179, 3) := by decide +kernel
theorem dX12_restore_27 : decode cX12_restore 27 = .ok (.iconst 0, 1) := by decide +kernel
theorem dX12_restore_28 : decode cX12_restore 28 = .ok (.istore_n 1, 1) := by decide +kernel
theorem dX12_restore_29 : decode cX12_restore 29 = .ok (.iload_n 1, 1) := by decide +kernel
theorem dX12_restore_30 : decode cX12_restore 30 = .ok (.bipush 8, 2) := by decide +kernel
theorem dX12_restore_32 : decode cX12_restore 32 = .ok (.if_icmp .ge 39, 3) := by decide +kernel
theorem dX12_restore_35 : decode cX12_restore 35 = .ok (.aload_n 0, 1) := by decide +kernel
theorem dX12_restore_36 : decode cX12_restore 36 = .ok (.getfield 36, 3) := by decide +kernel
theorem dX12_restore_39 : decode cX12_restore 39 = .ok (.iload_n 1, 1) := by decide +kernel
theorem dX12_restore_40 : decode cX12_restore 40 = .ok (.iaload, 1) := by decide +kernel
theorem dX12_restore_41 : decode cX12_restore 41 = .ok (.iconst 2, 1) := by decide +kernel
theorem dX12_restore_42 : decode cX12_restore 42 = .ok (.if_icmp .ne 23, 3) := by decide +kernel
theorem dX12_restore_45 : decode cX12_restore 45 = .ok (.aload_n 0, 1) := by decide +kernel
theorem dX12_restore_46 : decode cX12_restore 46 = .ok (.getfield 45, 3) := by decide +kernel
theorem dX12_restore_49 : decode cX12_restore 49 = .ok (.iload_n 1, 1) := by decide +kernel
theorem dX12_restore_50 : decode cX12_restore 50 = .ok (.iaload, 1) := by decide +kernel
theorem dX12_restore_51 : decode cX12_restore 51 = .ok (.aload_n 0, 1) := by decide +kernel
theorem dX12_restore_52 : decode cX12_restore 52 = .ok (.getfield 90, 3) := by decide +kernel
theorem dX12_restore_55 : decode cX12_restore 55 = .ok (.if_icmp .lt 10, 3) := by decide +kernel
theorem dX12_restore_58 : decode cX12_restore 58 = .ok (.aload_n 0, 1) := by decide +kernel
theorem dX12_restore_59 : decode cX12_restore 59 = .ok (.getfield 36, 3) := by decide +kernel
theorem dX12_restore_62 : decode cX12_restore 62 = .ok (.iload_n 1, 1) := by decide +kernel
theorem dX12_restore_63 : decode cX12_restore 63 = .ok (.iconst 0, 1) := by decide +kernel
theorem dX12_restore_64 : decode cX12_restore 64 = .ok (.iastore, 1) := by decide +kernel
theorem dX12_restore_65 : decode cX12_restore 65 = .ok (.iinc 1 1, 3) := by decide +kernel
theorem dX12_restore_68 : decode cX12_restore 68 = .ok (.goto (-39), 3) := by decide +kernel
theorem dX12_restore_71 : decode cX12_restore 71 = .ok (.aload_n 0, 1) := by decide +kernel
theorem dX12_restore_72 : decode cX12_restore 72 = .ok (.getfield 90, 3) := by decide +kernel
theorem dX12_restore_75 : decode cX12_restore 75 = .ok (.ireturn, 1) := by decide +kernel
theorem dX12_status_0 : decode cX12_status 0 = .ok (.iload_n 1, 1) := by decide +kernel
theorem dX12_status_1 : decode cX12_status 1 = .ok (.bipush 11, 2) := by decide +kernel
theorem dX12_status_3 : decode cX12_status 3 = .ok (.if_icmp .lt 19, 3) := by decide +kernel
theorem dX12_status_6 : decode cX12_status 6 = .ok (.iload_n 1, 1) := by decide +kernel
theorem dX12_status_7 : decode cX12_status 7 = .ok (.bipush 17, 2) := by decide +kernel
theorem dX12_status_9 : decode cX12_status 9 = .ok (.if_icmp .gt 13, 3) := by decide +kernel
theorem dX12_status_12 : decode cX12_status 12 = .ok (.aload_n 0, 1) := by decide +kernel
theorem dX12_status_13 : decode cX12_status 13 = .ok (.getfield 19, 3) := by decide +kernel
theorem dX12_status_16 : decode cX12_status 16 = .ok (.iload_n 1, 1) := by decide +kernel
theorem dX12_status_17 : decode cX12_status 17 = .ok (.bipush 10, 2) := by decide +kernel
theorem dX12_status_19 : decode cX12_status 19 = .ok (.isub, 1) := by decide +kernel
theorem dX12_status_20 : decode cX12_status 20 = .ok (.iaload, 1) := by decide +kernel
theorem dX12_status_21 : decode cX12_status 21 = .ok (.ireturn, 1) := by decide +kernel
theorem dX12_status_22 : decode cX12_status 22 = .ok (.iload_n 1, 1) := by decide +kernel
theorem dX12_status_23 : decode cX12_status 23 = .ok (.tableswitch 58 0 4 #[33, 38, 43, 48, 53], 33) := by decide +kernel
theorem dX12_status_56 : decode cX12_status 56 = .ok (.aload_n 0, 1) := by decide +kernel
theorem dX12_status_57 : decode cX12_status 57 = .ok (.getfield 90, 3) := by decide +kernel
theorem dX12_status_60 : decode cX12_status 60 = .ok (.ireturn, 1) := by decide +kernel
theorem dX12_status_61 : decode cX12_status 61 = .ok (.aload_n 0, 1) := by decide +kernel
theorem dX12_status_62 : decode cX12_status 62 = .ok (.getfield 155, 3) := by decide +kernel
theorem dX12_status_65 : decode cX12_status 65 = .ok (.ireturn, 1) := by decide +kernel
theorem dX12_status_66 : decode cX12_status 66 = .ok (.aload_n 0, 1) := by decide +kernel
theorem dX12_status_67 : decode cX12_status 67 = .ok (.getfield 7, 3) := by decide +kernel
theorem dX12_status_70 : decode cX12_status 70 = .ok (.ireturn, 1) := by decide +kernel
theorem dX12_status_71 : decode cX12_status 71 = .ok (.aload_n 0, 1) := by decide +kernel
theorem dX12_status_72 : decode cX12_status 72 = .ok (.getfield 13, 3) := by decide +kernel
theorem dX12_status_75 : decode cX12_status 75 = .ok (.ireturn, 1) := by decide +kernel
theorem dX12_status_76 : decode cX12_status 76 = .ok (.aload_n 0, 1) := by decide +kernel
theorem dX12_status_77 : decode cX12_status 77 = .ok (.getfield 246, 3) := by decide +kernel
theorem dX12_status_80 : decode cX12_status 80 = .ok (.ireturn, 1) := by decide +kernel
theorem dX12_status_81 : decode cX12_status 81 = .ok (.iconst (-1), 1) := by decide +kernel
theorem dX12_status_82 : decode cX12_status 82 = .ok (.ireturn, 1) := by decide +kernel
