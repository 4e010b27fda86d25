/-! predicates and contracts, printed by wip/whole/gen -/
/-! Mod.perform -/
theorem dMod_perform_0 : decode bMod_perform 0 = .ok (.aload_n 0, 1) := by decide +kernel
theorem dMod_perform_1 : decode bMod_perform 1 = .ok (.getfield 35, 3) := by decide +kernel
theorem dMod_perform_4 : decode bMod_perform 4 = .ok (.iload_n 1, 1) := by decide +kernel
theorem dMod_perform_5 : decode bMod_perform 5 = .ok (.iaload, 1) := by decide +kernel
theorem dMod_perform_6 : decode bMod_perform 6 = .ok (.istore_n 2, 1) := by decide +kernel
theorem dMod_perform_7 : decode bMod_perform 7 = .ok (.aload_n 0, 1) := by decide +kernel
theorem dMod_perform_8 : decode bMod_perform 8 = .ok (.iload_n 1, 1) := by decide +kernel
theorem dMod_perform_9 : decode bMod_perform 9 = .ok (.iconst 0, 1) := by decide +kernel
theorem dMod_perform_10 : decode bMod_perform 10 = .ok (.invokevirtual 118, 3) := by decide +kernel
theorem dMod_perform_13 : decode bMod_perform 13 = .ok (.istore_n 3, 1) := by decide +kernel
theorem dMod_perform_14 : decode bMod_perform 14 = .ok (.aload_n 0, 1) := by decide +kernel
theorem dMod_perform_15 : decode bMod_perform 15 = .ok (.getfield 19, 3) := by decide +kernel
theorem dMod_perform_18 : decode bMod_perform 18 = .ok (.iload_n 2, 1) := by decide +kernel
theorem dMod_perform_19 : decode bMod_perform 19 = .ok (.iaload, 1) := by decide +kernel
theorem dMod_perform_20 : decode bMod_perform 20 = .ok (.invokestatic 122, 3) := by decide +kernel
theorem dMod_perform_23 : decode bMod_perform 23 = .ok (.iconst 2, 1) := by decide +kernel
theorem dMod_perform_24 : decode bMod_perform 24 = .ok (.if_icmp .ne 12, 3) := by decide +kernel
theorem dMod_perform_27 : decode bMod_perform 27 = .ok (.aload_n 0, 1) := by decide +kernel
theorem dMod_perform_28 : decode bMod_perform 28 = .ok (.iload_n 1, 1) := by decide +kernel
theorem dMod_perform_29 : decode bMod_perform 29 = .ok (.iconst 1, 1) := by decide +kernel
theorem dMod_perform_30 : decode bMod_perform 30 = .ok (.invokevirtual 118, 3) := by decide +kernel
theorem dMod_perform_33 : decode bMod_perform 33 = .ok (.goto 4, 3) := by decide +kernel
theorem dMod_perform_36 : decode bMod_perform 36 = .ok (.iconst 0, 1) := by decide +kernel
theorem dMod_perform_37 : decode bMod_perform 37 = .ok (.istore 4, 2) := by decide +kernel
theorem dMod_perform_39 : decode bMod_perform 39 = .ok (.aload_n 0, 1) := by decide +kernel
theorem dMod_perform_40 : decode bMod_perform 40 = .ok (.getfield 19, 3) := by decide +kernel
theorem dMod_perform_43 : decode bMod_perform 43 = .ok (.iload_n 2, 1) := by decide +kernel
theorem dMod_perform_44 : decode bMod_perform 44 = .ok (.iaload, 1) := by decide +kernel
theorem dMod_perform_45 : decode bMod_perform 45 = .ok (.ifCond .ne 33, 3) := by decide +kernel
theorem dMod_perform_48 : decode bMod_perform 48 = .ok (.iload_n 3, 1) := by decide +kernel
theorem dMod_perform_49 : decode bMod_perform 49 = .ok (.i2l, 1) := by decide +kernel
theorem dMod_perform_50 : decode bMod_perform 50 = .ok (.invokestatic 126, 3) := by decide +kernel
theorem dMod_perform_53 : decode bMod_perform 53 = .ok (.ifCond .ne 5, 3) := by decide +kernel
theorem dMod_perform_56 : decode bMod_perform 56 = .ok (.iconst 1, 1) := by decide +kernel
theorem dMod_perform_57 : decode bMod_perform 57 = .ok (.ireturn, 1) := by decide +kernel
theorem dMod_perform_58 : decode bMod_perform 58 = .ok (.aload_n 0, 1) := by decide +kernel
theorem dMod_perform_59 : decode bMod_perform 59 = .ok (.getfield 80, 3) := by decide +kernel
theorem dMod_perform_62 : decode bMod_perform 62 = .ok (.iload_n 1, 1) := by decide +kernel
theorem dMod_perform_63 : decode bMod_perform 63 = .ok (.aload_n 0, 1) := by decide +kernel
theorem dMod_perform_64 : decode bMod_perform 64 = .ok (.aload_n 0, 1) := by decide +kernel
theorem dMod_perform_65 : decode bMod_perform 65 = .ok (.getfield 22, 3) := by decide +kernel
theorem dMod_perform_68 : decode bMod_perform 68 = .ok (.iload_n 2, 1) := by decide +kernel
theorem dMod_perform_69 : decode bMod_perform 69 = .ok (.iaload, 1) := by decide +kernel
theorem dMod_perform_70 : decode bMod_perform 70 = .ok (.iload_n 3, 1) := by decide +kernel
theorem dMod_perform_71 : decode bMod_perform 71 = .ok (.iconst (-1), 1) := by decide +kernel
theorem dMod_perform_72 : decode bMod_perform 72 = .ok (.invokevirtual 130, 3) := by decide +kernel
theorem dMod_perform_75 : decode bMod_perform 75 = .ok (.iastore, 1) := by decide +kernel
theorem dMod_perform_76 : decode bMod_perform 76 = .ok (.iconst 0, 1) := by decide +kernel
theorem dMod_perform_77 : decode bMod_perform 77 = .ok (.ireturn, 1) := by decide +kernel
theorem dMod_perform_78 : decode bMod_perform 78 = .ok (.iload_n 3, 1) := by decide +kernel
theorem dMod_perform_79 : decode bMod_perform 79 = .ok (.ifCond .ge 5, 3) := by decide +kernel
theorem dMod_perform_82 : decode bMod_perform 82 = .ok (.iconst 5, 1) := by decide +kernel
theorem dMod_perform_83 : decode bMod_perform 83 = .ok (.ireturn, 1) := by decide +kernel
theorem dMod_perform_84 : decode bMod_perform 84 = .ok (.aload_n 0, 1) := by decide +kernel
theorem dMod_perform_85 : decode bMod_perform 85 = .ok (.getfield 80, 3) := by decide +kernel
theorem dMod_perform_88 : decode bMod_perform 88 = .ok (.iload_n 1, 1) := by decide +kernel
theorem dMod_perform_89 : decode bMod_perform 89 = .ok (.iload_n 3, 1) := by decide +kernel
theorem dMod_perform_90 : decode bMod_perform 90 = .ok (.iastore, 1) := by decide +kernel
theorem dMod_perform_91 : decode bMod_perform 91 = .ok (.aload_n 0, 1) := by decide +kernel
theorem dMod_perform_92 : decode bMod_perform 92 = .ok (.getfield 19, 3) := by decide +kernel
theorem dMod_perform_95 : decode bMod_perform 95 = .ok (.iload_n 2, 1) := by decide +kernel
theorem dMod_perform_96 : decode bMod_perform 96 = .ok (.iaload, 1) := by decide +kernel
theorem dMod_perform_97 : decode bMod_perform 97 = .ok (.tableswitch 258 1 8 #[47, 72, 86, 118, 140, 191, 215, 245], 47) := by decide +kernel
theorem dMod_perform_144 : decode bMod_perform 144 = .ok (.aload_n 0, 1) := by decide +kernel
theorem dMod_perform_145 : decode bMod_perform 145 = .ok (.getfield 80, 3) := by decide +kernel
theorem dMod_perform_148 : decode bMod_perform 148 = .ok (.iload_n 1, 1) := by decide +kernel
theorem dMod_perform_149 : decode bMod_perform 149 = .ok (.aload_n 0, 1) := by decide +kernel
theorem dMod_perform_150 : decode bMod_perform 150 = .ok (.aload_n 0, 1) := by decide +kernel
theorem dMod_perform_151 : decode bMod_perform 151 = .ok (.getfield 22, 3) := by decide +kernel
theorem dMod_perform_154 : decode bMod_perform 154 = .ok (.iload_n 2, 1) := by decide +kernel
theorem dMod_perform_155 : decode bMod_perform 155 = .ok (.iaload, 1) := by decide +kernel
theorem dMod_perform_156 : decode bMod_perform 156 = .ok (.aload_n 0, 1) := by decide +kernel
theorem dMod_perform_157 : decode bMod_perform 157 = .ok (.getfield 74, 3) := by decide +kernel
theorem dMod_perform_160 : decode bMod_perform 160 = .ok (.iload_n 3, 1) := by decide +kernel
theorem dMod_perform_161 : decode bMod_perform 161 = .ok (.iaload, 1) := by decide +kernel
theorem dMod_perform_162 : decode bMod_perform 162 = .ok (.iload_n 3, 1) := by decide +kernel
theorem dMod_perform_163 : decode bMod_perform 163 = .ok (.invokevirtual 130, 3) := by decide +kernel
theorem dMod_perform_166 : decode bMod_perform 166 = .ok (.iastore, 1) := by decide +kernel
theorem dMod_perform_167 : decode bMod_perform 167 = .ok (.iconst 0, 1) := by decide +kernel
theorem dMod_perform_168 : decode bMod_perform 168 = .ok (.ireturn, 1) := by decide +kernel
theorem dMod_perform_169 : decode bMod_perform 169 = .ok (.aload_n 0, 1) := by decide +kernel
theorem dMod_perform_170 : decode bMod_perform 170 = .ok (.getfield 80, 3) := by decide +kernel
theorem dMod_perform_173 : decode bMod_perform 173 = .ok (.iload_n 1, 1) := by decide +kernel
theorem dMod_perform_174 : decode bMod_perform 174 = .ok (.aload_n 0, 1) := by decide +kernel
theorem dMod_perform_175 : decode bMod_perform 175 = .ok (.getfield 74, 3) := by decide +kernel
theorem dMod_perform_178 : decode bMod_perform 178 = .ok (.iload_n 3, 1) := by decide +kernel
theorem dMod_perform_179 : decode bMod_perform 179 = .ok (.iaload, 1) := by decide +kernel
theorem dMod_perform_180 : decode bMod_perform 180 = .ok (.iastore, 1) := by decide +kernel
theorem dMod_perform_181 : decode bMod_perform 181 = .ok (.iconst 0, 1) := by decide +kernel
theorem dMod_perform_182 : decode bMod_perform 182 = .ok (.ireturn, 1) := by decide +kernel
theorem dMod_perform_183 : decode bMod_perform 183 = .ok (.aload_n 0, 1) := by decide +kernel
theorem dMod_perform_184 : decode bMod_perform 184 = .ok (.getfield 74, 3) := by decide +kernel
theorem dMod_perform_187 : decode bMod_perform 187 = .ok (.iload_n 3, 1) := by decide +kernel
theorem dMod_perform_188 : decode bMod_perform 188 = .ok (.iaload, 1) := by decide +kernel
theorem dMod_perform_189 : decode bMod_perform 189 = .ok (.i2l, 1) := by decide +kernel
theorem dMod_perform_190 : decode bMod_perform 190 = .ok (.iload 4, 2) := by decide +kernel
theorem dMod_perform_192 : decode bMod_perform 192 = .ok (.i2l, 1) := by decide +kernel
theorem dMod_perform_193 : decode bMod_perform 193 = .ok (.ladd, 1) := by decide +kernel
theorem dMod_perform_194 : decode bMod_perform 194 = .ok (.invokestatic 126, 3) := by decide +kernel
theorem dMod_perform_197 : decode bMod_perform 197 = .ok (.ifCond .ne 5, 3) := by decide +kernel
theorem dMod_perform_200 : decode bMod_perform 200 = .ok (.iconst 1, 1) := by decide +kernel
theorem dMod_perform_201 : decode bMod_perform 201 = .ok (.ireturn, 1) := by decide +kernel
theorem dMod_perform_202 : decode bMod_perform 202 = .ok (.aload_n 0, 1) := by decide +kernel
theorem dMod_perform_203 : decode bMod_perform 203 = .ok (.getfield 74, 3) := by decide +kernel
theorem dMod_perform_206 : decode bMod_perform 206 = .ok (.iload_n 3, 1) := by decide +kernel
theorem dMod_perform_207 : decode bMod_perform 207 = .ok (.dup2, 1) := by decide +kernel
theorem dMod_perform_208 : decode bMod_perform 208 = .ok (.iaload, 1) := by decide +kernel
theorem dMod_perform_209 : decode bMod_perform 209 = .ok (.iload 4, 2) := by decide +kernel
theorem dMod_perform_211 : decode bMod_perform 211 = .ok (.iadd, 1) := by decide +kernel
theorem dMod_perform_212 : decode bMod_perform 212 = .ok (.iastore, 1) := by decide +kernel
theorem dMod_perform_213 : decode bMod_perform 213 = .ok (.iconst 0, 1) := by decide +kernel
theorem dMod_perform_214 : decode bMod_perform 214 = .ok (.ireturn, 1) := by decide +kernel
theorem dMod_perform_215 : decode bMod_perform 215 = .ok (.aload_n 0, 1) := by decide +kernel
theorem dMod_perform_216 : decode bMod_perform 216 = .ok (.iload 4, 2) := by decide +kernel
theorem dMod_perform_218 : decode bMod_perform 218 = .ok (.iload_n 3, 1) := by decide +kernel
theorem dMod_perform_219 : decode bMod_perform 219 = .ok (.invokevirtual 134, 3) := by decide +kernel
theorem dMod_perform_222 : decode bMod_perform 222 = .ok (.ifCond .eq 5, 3) := by decide +kernel
theorem dMod_perform_225 : decode bMod_perform 225 = .ok (.iconst 2, 1) := by decide +kernel
theorem dMod_perform_226 : decode bMod_perform 226 = .ok (.ireturn, 1) := by decide +kernel
theorem dMod_perform_227 : decode bMod_perform 227 = .ok (.aload_n 0, 1) := by decide +kernel
theorem dMod_perform_228 : decode bMod_perform 228 = .ok (.getfield 77, 3) := by decide +kernel
theorem dMod_perform_231 : decode bMod_perform 231 = .ok (.iload_n 3, 1) := by decide +kernel
theorem dMod_perform_232 : decode bMod_perform 232 = .ok (.iload 4, 2) := by decide +kernel
theorem dMod_perform_234 : decode bMod_perform 234 = .ok (.iastore, 1) := by decide +kernel
theorem dMod_perform_235 : decode bMod_perform 235 = .ok (.iconst 0, 1) := by decide +kernel
theorem dMod_perform_236 : decode bMod_perform 236 = .ok (.ireturn, 1) := by decide +kernel
theorem dMod_perform_237 : decode bMod_perform 237 = .ok (.aload_n 0, 1) := by decide +kernel
theorem dMod_perform_238 : decode bMod_perform 238 = .ok (.getfield 80, 3) := by decide +kernel
theorem dMod_perform_241 : decode bMod_perform 241 = .ok (.iload_n 1, 1) := by decide +kernel
theorem dMod_perform_242 : decode bMod_perform 242 = .ok (.aload_n 0, 1) := by decide +kernel
theorem dMod_perform_243 : decode bMod_perform 243 = .ok (.getfield 77, 3) := by decide +kernel
theorem dMod_perform_246 : decode bMod_perform 246 = .ok (.iload_n 3, 1) := by decide +kernel
theorem dMod_perform_247 : decode bMod_perform 247 = .ok (.iaload, 1) := by decide +kernel
theorem dMod_perform_248 : decode bMod_perform 248 = .ok (.iastore, 1) := by decide +kernel
theorem dMod_perform_249 : decode bMod_perform 249 = .ok (.aload_n 0, 1) := by decide +kernel
theorem dMod_perform_250 : decode bMod_perform 250 = .ok (.getfield 77, 3) := by decide +kernel
theorem dMod_perform_253 : decode bMod_perform 253 = .ok (.iload_n 3, 1) := by decide +kernel
theorem dMod_perform_254 : decode bMod_perform 254 = .ok (.iaload, 1) := by decide +kernel
theorem dMod_perform_255 : decode bMod_perform 255 = .ok (.ifCond .lt 31, 3) := by decide +kernel
theorem dMod_perform_258 : decode bMod_perform 258 = .ok (.aload_n 0, 1) := by decide +kernel
theorem dMod_perform_259 : decode bMod_perform 259 = .ok (.aload_n 0, 1) := by decide +kernel
theorem dMod_perform_260 : decode bMod_perform 260 = .ok (.getfield 71, 3) := by decide +kernel
theorem dMod_perform_263 : decode bMod_perform 263 = .ok (.aload_n 0, 1) := by decide +kernel
theorem dMod_perform_264 : decode bMod_perform 264 = .ok (.getfield 77, 3) := by decide +kernel
theorem dMod_perform_267 : decode bMod_perform 267 = .ok (.iload_n 3, 1) := by decide +kernel
theorem dMod_perform_268 : decode bMod_perform 268 = .ok (.iaload, 1) := by decide +kernel
theorem dMod_perform_269 : decode bMod_perform 269 = .ok (.iaload, 1) := by decide +kernel
theorem dMod_perform_270 : decode bMod_perform 270 = .ok (.aload_n 0, 1) := by decide +kernel
theorem dMod_perform_271 : decode bMod_perform 271 = .ok (.getfield 25, 3) := by decide +kernel
theorem dMod_perform_274 : decode bMod_perform 274 = .ok (.iload_n 2, 1) := by decide +kernel
theorem dMod_perform_275 : decode bMod_perform 275 = .ok (.iaload, 1) := by decide +kernel
theorem dMod_perform_276 : decode bMod_perform 276 = .ok (.invokevirtual 138, 3) := by decide +kernel
theorem dMod_perform_279 : decode bMod_perform 279 = .ok (.ifCond .ne 7, 3) := by decide +kernel
theorem dMod_perform_282 : decode bMod_perform 282 = .ok (.iconst 3, 1) := by decide +kernel
theorem dMod_perform_283 : decode bMod_perform 283 = .ok (.goto 4, 3) := by decide +kernel
theorem dMod_perform_286 : decode bMod_perform 286 = .ok (.iconst 0, 1) := by decide +kernel
theorem dMod_perform_287 : decode bMod_perform 287 = .ok (.ireturn, 1) := by decide +kernel
theorem dMod_perform_288 : decode bMod_perform 288 = .ok (.iload 4, 2) := by decide +kernel
theorem dMod_perform_290 : decode bMod_perform 290 = .ok (.ifCond .ne 5, 3) := by decide +kernel
theorem dMod_perform_293 : decode bMod_perform 293 = .ok (.iconst 4, 1) := by decide +kernel
theorem dMod_perform_294 : decode bMod_perform 294 = .ok (.ireturn, 1) := by decide +kernel
theorem dMod_perform_295 : decode bMod_perform 295 = .ok (.aload_n 0, 1) := by decide +kernel
theorem dMod_perform_296 : decode bMod_perform 296 = .ok (.getfield 80, 3) := by decide +kernel
theorem dMod_perform_299 : decode bMod_perform 299 = .ok (.iload_n 1, 1) := by decide +kernel
theorem dMod_perform_300 : decode bMod_perform 300 = .ok (.aload_n 0, 1) := by decide +kernel
theorem dMod_perform_301 : decode bMod_perform 301 = .ok (.getfield 74, 3) := by decide +kernel
theorem dMod_perform_304 : decode bMod_perform 304 = .ok (.iload_n 3, 1) := by decide +kernel
theorem dMod_perform_305 : decode bMod_perform 305 = .ok (.iaload, 1) := by decide +kernel
theorem dMod_perform_306 : decode bMod_perform 306 = .ok (.iload 4, 2) := by decide +kernel
theorem dMod_perform_308 : decode bMod_perform 308 = .ok (.idiv, 1) := by decide +kernel
theorem dMod_perform_309 : decode bMod_perform 309 = .ok (.iastore, 1) := by decide +kernel
theorem dMod_perform_310 : decode bMod_perform 310 = .ok (.iconst 0, 1) := by decide +kernel
theorem dMod_perform_311 : decode bMod_perform 311 = .ok (.ireturn, 1) := by decide +kernel
theorem dMod_perform_312 : decode bMod_perform 312 = .ok (.aload_n 0, 1) := by decide +kernel
theorem dMod_perform_313 : decode bMod_perform 313 = .ok (.getfield 77, 3) := by decide +kernel
theorem dMod_perform_316 : decode bMod_perform 316 = .ok (.iload_n 3, 1) := by decide +kernel
theorem dMod_perform_317 : decode bMod_perform 317 = .ok (.iaload, 1) := by decide +kernel
theorem dMod_perform_318 : decode bMod_perform 318 = .ok (.ifCond .ge 5, 3) := by decide +kernel
theorem dMod_perform_321 : decode bMod_perform 321 = .ok (.iconst 5, 1) := by decide +kernel
theorem dMod_perform_322 : decode bMod_perform 322 = .ok (.ireturn, 1) := by decide +kernel
theorem dMod_perform_323 : decode bMod_perform 323 = .ok (.aload_n 0, 1) := by decide +kernel
theorem dMod_perform_324 : decode bMod_perform 324 = .ok (.getfield 80, 3) := by decide +kernel
theorem dMod_perform_327 : decode bMod_perform 327 = .ok (.iload_n 1, 1) := by decide +kernel
theorem dMod_perform_328 : decode bMod_perform 328 = .ok (.aload_n 0, 1) := by decide +kernel
theorem dMod_perform_329 : decode bMod_perform 329 = .ok (.getfield 74, 3) := by decide +kernel
theorem dMod_perform_332 : decode bMod_perform 332 = .ok (.aload_n 0, 1) := by decide +kernel
theorem dMod_perform_333 : decode bMod_perform 333 = .ok (.getfield 77, 3) := by decide +kernel
theorem dMod_perform_336 : decode bMod_perform 336 = .ok (.iload_n 3, 1) := by decide +kernel
theorem dMod_perform_337 : decode bMod_perform 337 = .ok (.iaload, 1) := by decide +kernel
theorem dMod_perform_338 : decode bMod_perform 338 = .ok (.iaload, 1) := by decide +kernel
theorem dMod_perform_339 : decode bMod_perform 339 = .ok (.iastore, 1) := by decide +kernel
theorem dMod_perform_340 : decode bMod_perform 340 = .ok (.iconst 0, 1) := by decide +kernel
theorem dMod_perform_341 : decode bMod_perform 341 = .ok (.ireturn, 1) := by decide +kernel
theorem dMod_perform_342 : decode bMod_perform 342 = .ok (.aload_n 0, 1) := by decide +kernel
theorem dMod_perform_343 : decode bMod_perform 343 = .ok (.getfield 80, 3) := by decide +kernel
theorem dMod_perform_346 : decode bMod_perform 346 = .ok (.iload_n 1, 1) := by decide +kernel
theorem dMod_perform_347 : decode bMod_perform 347 = .ok (.aload_n 0, 1) := by decide +kernel
theorem dMod_perform_348 : decode bMod_perform 348 = .ok (.iload_n 3, 1) := by decide +kernel
theorem dMod_perform_349 : decode bMod_perform 349 = .ok (.invokevirtual 141, 3) := by decide +kernel
theorem dMod_perform_352 : decode bMod_perform 352 = .ok (.iastore, 1) := by decide +kernel
theorem dMod_perform_353 : decode bMod_perform 353 = .ok (.iconst 0, 1) := by decide +kernel
theorem dMod_perform_354 : decode bMod_perform 354 = .ok (.ireturn, 1) := by decide +kernel
theorem dMod_perform_355 : decode bMod_perform 355 = .ok (.aload_n 0, 1) := by decide +kernel
theorem dMod_perform_356 : decode bMod_perform 356 = .ok (.getfield 80, 3) := by decide +kernel
theorem dMod_perform_359 : decode bMod_perform 359 = .ok (.iload_n 1, 1) := by decide +kernel
theorem dMod_perform_360 : decode bMod_perform 360 = .ok (.iload 4, 2) := by decide +kernel
theorem dMod_perform_362 : decode bMod_perform 362 = .ok (.ifCond .lt 17, 3) := by decide +kernel
theorem dMod_perform_365 : decode bMod_perform 365 = .ok (.aload_n 0, 1) := by decide +kernel
theorem dMod_perform_366 : decode bMod_perform 366 = .ok (.iload_n 3, 1) := by decide +kernel
theorem dMod_perform_367 : decode bMod_perform 367 = .ok (.iload 4, 2) := by decide +kernel
theorem dMod_perform_369 : decode bMod_perform 369 = .ok (.invokevirtual 144, 3) := by decide +kernel
theorem dMod_perform_372 : decode bMod_perform 372 = .ok (.ifCond .eq 7, 3) := by decide +kernel
theorem dMod_perform_375 : decode bMod_perform 375 = .ok (.iconst 1, 1) := by decide +kernel
theorem dMod_perform_376 : decode bMod_perform 376 = .ok (.goto 4, 3) := by decide +kernel
theorem dMod_perform_379 : decode bMod_perform 379 = .ok (.iconst 0, 1) := by decide +kernel
theorem dMod_perform_380 : decode bMod_perform 380 = .ok (.iastore, 1) := by decide +kernel
theorem dMod_perform_381 : decode bMod_perform 381 = .ok (.iconst 0, 1) := by decide +kernel
theorem dMod_perform_382 : decode bMod_perform 382 = .ok (.ireturn, 1) := by decide +kernel
def wbMod_perform_380 (post : Int32 → zM → Prop) (k1 : Int32) (k2 : Int32) (h : zM) : Prop := (vp_in k1 10 ∧ ∀ h380 : zM, h380 = zu h 23 (Int32.toNatClampNeg k1) k2 → post 0 h380)
def wbMod_perform_379 (post : Int32 → zM → Prop) (k1 : Int32) (h : zM) : Prop := wbMod_perform_380 post k1 0 h
def wbMod_perform_37 (post : Int32 → zM → Prop) (v1 : Int32) (v2 : Int32) (v3 : Int32) (k0 : Int32) (h : zM) : Prop := (vp_in v2 10 ∧ ((¬ (h 4 (Int32.toNatClampNeg v2)) = 0 → (((0 ≤ v3) → (vp_in v1 10 ∧ ∀ h90 : zM, h90 = zu h 23 (Int32.toNatClampNeg v1) v3 → (vp_in v2 10 ∧ (((h90 4 (Int32.toNatClampNeg v2)) = 1 → (vp_in v2 10 ∧ (vp_in v3 10 ∧ wpMod_made (h90 5 (Int32.toNatClampNeg v2)) (h90 21 (Int32.toNatClampNeg v3)) v3 h90 (fun r163 h163 => (vp_in v1 10 ∧ ∀ h166 : zM, h166 = zu h163 23 (Int32.toNatClampNeg v1) r163 → post 0 h166))))) ∧ (¬ (h90 4 (Int32.toNatClampNeg v2)) = 1 → (((h90 4 (Int32.toNatClampNeg v2)) = 2 → (vp_in v3 10 ∧ (vp_in v1 10 ∧ ∀ h180 : zM, h180 = zu h90 23 (Int32.toNatClampNeg v1) (h90 21 (Int32.toNatClampNeg v3)) → post 0 h180))) ∧ (¬ (h90 4 (Int32.toNatClampNeg v2)) = 2 → (((h90 4 (Int32.toNatClampNeg v2)) = 3 → (vp_in v3 10 ∧ wpMod_fits ((Int32.toInt64 (h90 21 (Int32.toNatClampNeg v3))) + (Int32.toInt64 k0)) h90 (fun r194 h194 => ((¬ r194 = 0 → (vp_in v3 10 ∧ (vp_in v3 10 ∧ ∀ h212 : zM, h212 = zu h194 21 (Int32.toNatClampNeg v3) ((h194 21 (Int32.toNatClampNeg v3)) + k0) → post 0 h212))) ∧ (r194 = 0 → post 1 h194))))) ∧ (¬ (h90 4 (Int32.toNatClampNeg v2)) = 3 → (((h90 4 (Int32.toNatClampNeg v2)) = 4 → wpMod_reaches k0 v3 h90 (fun r219 h219 => ((r219 = 0 → (vp_in v3 10 ∧ ∀ h234 : zM, h234 = zu h219 22 (Int32.toNatClampNeg v3) k0 → post 0 h234)) ∧ (¬ r219 = 0 → post 2 h219)))) ∧ (¬ (h90 4 (Int32.toNatClampNeg v2)) = 4 → (((h90 4 (Int32.toNatClampNeg v2)) = 5 → (vp_in v3 10 ∧ (vp_in v1 10 ∧ ∀ h248 : zM, h248 = zu h90 23 (Int32.toNatClampNeg v1) (h90 22 (Int32.toNatClampNeg v3)) → (vp_in v3 10 ∧ ((((h248 22 (Int32.toNatClampNeg v3)) < 0) → post 0 h248) ∧ (¬ ((h248 22 (Int32.toNatClampNeg v3)) < 0) → (vp_in v3 10 ∧ (vp_in (h248 22 (Int32.toNatClampNeg v3)) 10 ∧ (vp_in v2 10 ∧ wpMod_is (h248 20 (Int32.toNatClampNeg (h248 22 (Int32.toNatClampNeg v3)))) (h248 6 (Int32.toNatClampNeg v2)) h248 (fun r276 h276 => ((¬ r276 = 0 → post 0 h276) ∧ (r276 = 0 → post 3 h276)))))))))))) ∧ (¬ (h90 4 (Int32.toNatClampNeg v2)) = 5 → (((h90 4 (Int32.toNatClampNeg v2)) = 6 → ((¬ k0 = 0 → (vp_in v3 10 ∧ (¬ k0 = 0 ∧ (vp_in v1 10 ∧ ∀ h309 : zM, h309 = zu h90 23 (Int32.toNatClampNeg v1) ((h90 21 (Int32.toNatClampNeg v3)) / k0) → post 0 h309)))) ∧ (k0 = 0 → post 4 h90))) ∧ (¬ (h90 4 (Int32.toNatClampNeg v2)) = 6 → (((h90 4 (Int32.toNatClampNeg v2)) = 7 → (vp_in v3 10 ∧ (((0 ≤ (h90 22 (Int32.toNatClampNeg v3))) → (vp_in v3 10 ∧ (vp_in (h90 22 (Int32.toNatClampNeg v3)) 10 ∧ (vp_in v1 10 ∧ ∀ h339 : zM, h339 = zu h90 23 (Int32.toNatClampNeg v1) (h90 21 (Int32.toNatClampNeg (h90 22 (Int32.toNatClampNeg v3)))) → post 0 h339)))) ∧ (¬ (0 ≤ (h90 22 (Int32.toNatClampNeg v3))) → post 5 h90)))) ∧ (¬ (h90 4 (Int32.toNatClampNeg v2)) = 7 → (((h90 4 (Int32.toNatClampNeg v2)) = 8 → wpMod_count v3 h90 (fun r349 h349 => (vp_in v1 10 ∧ ∀ h352 : zM, h352 = zu h349 23 (Int32.toNatClampNeg v1) r349 → post 0 h352))) ∧ (¬ (h90 4 (Int32.toNatClampNeg v2)) = 8 → (((k0 < 0) → wbMod_perform_379 post v1 h90) ∧ (¬ (k0 < 0) → wpMod_equal v3 k0 h90 (fun r369 h369 => ((r369 = 0 → wbMod_perform_379 post v1 h369) ∧ (¬ r369 = 0 → wbMod_perform_380 post v1 1 h369)))))))))))))))))))))))) ∧ (¬ (0 ≤ v3) → post 5 h))) ∧ ((h 4 (Int32.toNatClampNeg v2)) = 0 → wpMod_fits (Int32.toInt64 v3) h (fun r50 h50 => ((¬ r50 = 0 → (vp_in v2 10 ∧ wpMod_made (h50 5 (Int32.toNatClampNeg v2)) v3 (-1) h50 (fun r72 h72 => (vp_in v1 10 ∧ ∀ h75 : zM, h75 = zu h72 23 (Int32.toNatClampNeg v1) r72 → post 0 h75)))) ∧ (r50 = 0 → post 1 h50))))))
def wpMod_perform (x1 : Int32) (h : zM) (post : Int32 → zM → Prop) : Prop := (vp_in x1 20 ∧ ∀ y6 : Int32, y6 = (h 8 (Int32.toNatClampNeg x1)) → wpMod_valueOf x1 0 h (fun r10 h10 => (vp_in y6 10 ∧ wpMod_arity (h10 4 (Int32.toNatClampNeg y6)) h10 (fun r20 h20 => ((¬ r20 = 2 → wbMod_perform_37 post x1 y6 r10 0 h20) ∧ (r20 = 2 → wpMod_valueOf x1 1 h20 (fun r30 h30 => wbMod_perform_37 post x1 y6 r10 r30 h30)))))))
abbrev rmMod_perform : Room := { frames := 2, cells := 0, slots := 0, locals := 50 }
set_option maxHeartbeats 4000000 in
set_option maxRecDepth 100000 in
theorem cMod_perform (l : Launch) (D : va_G) (cI cC cE : ClassId) (ad : Nat → Nat) (A : Nat → Prop) (hJ : zJ A 28 ad) (x1 : Int32) (h : zM) (post : Int32 → zM → Prop) (hw : wpMod_perform x1 h post) : Met l yMod_perform (.code yMod_perform bMod_perform 5 (some .int) :: zt) rmMod_perform (va_Pc [.ref (ad 0), .int x1] (zPre D (zty cI cC cE) 28 ad (mF ad cI) A h)) (va_Qi post (zPst D (zty cI cC cE) 28 ad (mF ad cI)) A) 0 0 A := by
  refine Met.ofW (cc := bMod_perform) (maxL := 5) (ret := (some .int)) (by decide) rfl ?_
  intro p e s m args below meth c s₁ B hml hv
  obtain ⟨rfl, hP, hK, hT, hN⟩ := hv
  have hr := B.returns
  have hlk := B.notSynchronized
  have S : zS p m c bMod_perform 5 s _ "CallExplorerModel" := ⟨B.exec, B.bytes, hml, findClass_of_methodNamed B.named, fun w hw => atoms_spec (ws := .code yMod_perform bMod_perform 5 (some .int) :: zt) B.pre w (List.mem_cons_of_mem _ hw)⟩
  have hS : va_S A s.heap s.heap [] := va_S.rf
  have hl := lv_entry ([.ref (ad 0), .int x1]) (n := 5) (Nat.le_of_ble_eq_true rfl)
  rw [lg_entry_eq]
  generalize (lg_sl ([.ref (ad 0), .int x1]) ++ List.replicate (5 - (lg_sl ([.ref (ad 0), .int x1])).length) Slot.unset).toArray = ls at hl ⊢
  have hl : lv_has ls 5 [(0, .ref (ad 0)), (1, .int x1)] := hl
  show W p l e rmMod_perform s m ([.ref (ad 0), .int x1] : List Value).toArray below meth c s.heap [] 0 0 (zQi post D (zty cI cC cE) 28 ad (mF ad cI) A below ([.ref (ad 0), .int x1] : List Value).toArray s) _
  have J380 : ∀ (k1 : Int32) (k2 : Int32) (h : zM) (H : Heap) (locs : List Loc) (ls : Array Slot), wbMod_perform_380 post k1 k2 h → lv_has ls 5 [] → va_P D zcl (zW 28 ad (mF ad cI) h) H → va_S A s.heap H locs → W p l e rmMod_perform s m ([.ref (ad 0), .int x1] : List Value).toArray below meth c H locs 0 0 (zQi post D (zty cI cC cE) 28 ad (mF ad cI) A below ([.ref (ad 0), .int x1] : List Value).toArray s) (F0 m 380 ls [.int k2, .int k1, .ref (ad 23)]) := by
    intro k1 k2 h H locs ls hw hl hP hS
    unfold wbMod_perform_380 at hw
    obtain ⟨z380, hw⟩ := hw
    refine zr_ast S hK hJ hP hS (by decide) mF_23 0 rfl z380 dMod_perform_380 (fun h380 H locs e380 hP hS => ?_)
    have hw := hw h380 e380
    refine lv_iconst (v := 0) S.1 S.2.1 dMod_perform_381 (by decide) ?_
    exact zr_iret S hr hlk hK hP hS rfl hw dMod_perform_382
  have J379 : ∀ (k1 : Int32) (h : zM) (H : Heap) (locs : List Loc) (ls : Array Slot), wbMod_perform_379 post k1 h → lv_has ls 5 [] → va_P D zcl (zW 28 ad (mF ad cI) h) H → va_S A s.heap H locs → W p l e rmMod_perform s m ([.ref (ad 0), .int x1] : List Value).toArray below meth c H locs 0 0 (zQi post D (zty cI cC cE) 28 ad (mF ad cI) A below ([.ref (ad 0), .int x1] : List Value).toArray s) (F0 m 379 ls [.int k1, .ref (ad 23)]) := by
    intro k1 h H locs ls hw hl hP hS
    unfold wbMod_perform_379 at hw
    refine lv_iconst (v := 0) S.1 S.2.1 dMod_perform_379 (by decide) ?_
    exact J380 _ _ _ _ _ _ hw (lv_sub hl [] rfl) hP hS
  have J37 : ∀ (v1 : Int32) (v2 : Int32) (v3 : Int32) (k0 : Int32) (h : zM) (H : Heap) (locs : List Loc) (ls : Array Slot), wbMod_perform_37 post v1 v2 v3 k0 h → lv_has ls 5 [(0, .ref (ad 0)), (1, .int v1), (2, .int v2), (3, .int v3)] → va_P D zcl (zW 28 ad (mF ad cI) h) H → va_S A s.heap H locs → W p l e rmMod_perform s m ([.ref (ad 0), .int x1] : List Value).toArray below meth c H locs 0 0 (zQi post D (zty cI cC cE) 28 ad (mF ad cI) A below ([.ref (ad 0), .int x1] : List Value).toArray s) (F0 m 37 ls [.int k0]) := by
    intro v1 v2 v3 k0 h H locs ls hw hl hP hS
    unfold wbMod_perform_37 at hw
    refine lv_istore (lv' := [(4, .int k0), (0, .ref (ad 0)), (1, .int v1), (2, .int v2), (3, .int v3)]) S.1 S.2.1 dMod_perform_37 hl (by decide) rfl (fun ls hl => ?_)
    refine lv_aload_n S.1 S.2.1 dMod_perform_39 rfl (lv_at hl 1 rfl) ?_
    refine zr_get S hK hP (by decide) (mF_0 _) fMod_kind q834 rfl dMod_perform_40 ?_
    refine lv_iload_n S.1 S.2.1 dMod_perform_43 rfl (lv_at hl 3 rfl) ?_
    obtain ⟨z44, hw⟩ := hw
    refine zr_ald S hK hP (by decide) (mF_4 _) 0 rfl z44 dMod_perform_44 ?_
    refine lv_if_ne S.1 S.2.1 dMod_perform_45 rfl (fun hc => ?_) (fun hc => ?_)
    · have hw := hw.1 hc
      refine lv_iload_n S.1 S.2.1 dMod_perform_78 rfl (lv_at hl 4 rfl) ?_
      refine lv_if_ge S.1 S.2.1 dMod_perform_79 rfl (fun hc => ?_) (fun hc => ?_)
      · have hw := hw.1 hc
        refine lv_aload_n S.1 S.2.1 dMod_perform_84 rfl (lv_at hl 1 rfl) ?_
        refine zr_get S hK hP (by decide) (mF_0 _) fMod_result q857 rfl dMod_perform_85 ?_
        refine lv_iload_n S.1 S.2.1 dMod_perform_88 rfl (lv_at hl 2 rfl) ?_
        refine lv_iload_n S.1 S.2.1 dMod_perform_89 rfl (lv_at hl 4 rfl) ?_
        obtain ⟨z90, hw⟩ := hw
        refine zr_ast S hK hJ hP hS (by decide) mF_23 0 rfl z90 dMod_perform_90 (fun h90 H locs e90 hP hS => ?_)
        have hw := hw h90 e90
        refine lv_aload_n S.1 S.2.1 dMod_perform_91 rfl (lv_at hl 1 rfl) ?_
        refine zr_get S hK hP (by decide) (mF_0 _) fMod_kind q834 rfl dMod_perform_92 ?_
        refine lv_iload_n S.1 S.2.1 dMod_perform_95 rfl (lv_at hl 3 rfl) ?_
        obtain ⟨z96, hw⟩ := hw
        refine zr_ald S hK hP (by decide) (mF_4 _) 0 rfl z96 dMod_perform_96 ?_
        by_cases c0 : (h90 4 (Int32.toNatClampNeg v2)) = 1
        · have hw := hw.1 c0
          refine lv_tableIn (off := 47) S.1 S.2.1 dMod_perform_97 (by rw [c0]; decide) (by rw [c0]; decide) (by rw [c0]; rfl) rfl ?_
          refine lv_aload_n S.1 S.2.1 dMod_perform_144 rfl (lv_at hl 1 rfl) ?_
          refine zr_get S hK hP (by decide) (mF_0 _) fMod_result q857 rfl dMod_perform_145 ?_
          refine lv_iload_n S.1 S.2.1 dMod_perform_148 rfl (lv_at hl 2 rfl) ?_
          refine lv_aload_n S.1 S.2.1 dMod_perform_149 rfl (lv_at hl 1 rfl) ?_
          refine lv_aload_n S.1 S.2.1 dMod_perform_150 rfl (lv_at hl 1 rfl) ?_
          refine zr_get S hK hP (by decide) (mF_0 _) fMod_first q835 rfl dMod_perform_151 ?_
          refine lv_iload_n S.1 S.2.1 dMod_perform_154 rfl (lv_at hl 3 rfl) ?_
          obtain ⟨z155, hw⟩ := hw
          refine zr_ald S hK hP (by decide) (mF_5 _) 0 rfl z155 dMod_perform_155 ?_
          refine lv_aload_n S.1 S.2.1 dMod_perform_156 rfl (lv_at hl 1 rfl) ?_
          refine zr_get S hK hP (by decide) (mF_0 _) fMod_value q855 rfl dMod_perform_157 ?_
          refine lv_iload_n S.1 S.2.1 dMod_perform_160 rfl (lv_at hl 4 rfl) ?_
          obtain ⟨z161, hw⟩ := hw
          refine zr_ald S hK hP (by decide) (mF_21 _) 0 rfl z161 dMod_perform_161 ?_
          refine lv_iload_n S.1 S.2.1 dMod_perform_162 rfl (lv_at hl 4 rfl) ?_
          refine zr_i (zr_V (As := [.int (h90 5 (Int32.toNatClampNeg v2)), .int (h90 21 (Int32.toNatClampNeg v3)), .int v3]) (rest := [.int v1, .ref (ad 23)]) S hK hT hN hP hS (by decide) (mF_0 _) rfl (cMod_made l D cI cC cE ad A hJ _ _ _ _ _ hw) caMod_130 ⟨Nat.le_of_ble_eq_true rfl, Nat.le_of_ble_eq_true rfl⟩ ⟨rfl, rfl⟩ rfl hl.1 rfl (Nat.le_of_ble_eq_true rfl) dMod_perform_163) hS (fun r163 h163 H locs hw hP hS => ?_)
          obtain ⟨z166, hw⟩ := hw
          refine zr_ast S hK hJ hP hS (by decide) mF_23 0 rfl z166 dMod_perform_166 (fun h166 H locs e166 hP hS => ?_)
          have hw := hw h166 e166
          refine lv_iconst (v := 0) S.1 S.2.1 dMod_perform_167 (by decide) ?_
          exact zr_iret S hr hlk hK hP hS rfl hw dMod_perform_168
        · have hw := hw.2 c0
          by_cases c1 : (h90 4 (Int32.toNatClampNeg v2)) = 2
          · have hw := hw.1 c1
            refine lv_tableIn (off := 72) S.1 S.2.1 dMod_perform_97 (by rw [c1]; decide) (by rw [c1]; decide) (by rw [c1]; rfl) rfl ?_
            refine lv_aload_n S.1 S.2.1 dMod_perform_169 rfl (lv_at hl 1 rfl) ?_
            refine zr_get S hK hP (by decide) (mF_0 _) fMod_result q857 rfl dMod_perform_170 ?_
            refine lv_iload_n S.1 S.2.1 dMod_perform_173 rfl (lv_at hl 2 rfl) ?_
            refine lv_aload_n S.1 S.2.1 dMod_perform_174 rfl (lv_at hl 1 rfl) ?_
            refine zr_get S hK hP (by decide) (mF_0 _) fMod_value q855 rfl dMod_perform_175 ?_
            refine lv_iload_n S.1 S.2.1 dMod_perform_178 rfl (lv_at hl 4 rfl) ?_
            obtain ⟨z179, hw⟩ := hw
            refine zr_ald S hK hP (by decide) (mF_21 _) 0 rfl z179 dMod_perform_179 ?_
            obtain ⟨z180, hw⟩ := hw
            refine zr_ast S hK hJ hP hS (by decide) mF_23 0 rfl z180 dMod_perform_180 (fun h180 H locs e180 hP hS => ?_)
            have hw := hw h180 e180
            refine lv_iconst (v := 0) S.1 S.2.1 dMod_perform_181 (by decide) ?_
            exact zr_iret S hr hlk hK hP hS rfl hw dMod_perform_182
          · have hw := hw.2 c1
            by_cases c2 : (h90 4 (Int32.toNatClampNeg v2)) = 3
            · have hw := hw.1 c2
              refine lv_tableIn (off := 86) S.1 S.2.1 dMod_perform_97 (by rw [c2]; decide) (by rw [c2]; decide) (by rw [c2]; rfl) rfl ?_
              refine lv_aload_n S.1 S.2.1 dMod_perform_183 rfl (lv_at hl 1 rfl) ?_
              refine zr_get S hK hP (by decide) (mF_0 _) fMod_value q855 rfl dMod_perform_184 ?_
              refine lv_iload_n S.1 S.2.1 dMod_perform_187 rfl (lv_at hl 4 rfl) ?_
              obtain ⟨z188, hw⟩ := hw
              refine zr_ald S hK hP (by decide) (mF_21 _) 0 rfl z188 dMod_perform_188 ?_
              refine lv_i2l S.1 S.2.1 dMod_perform_189 rfl ?_
              refine lv_iload S.1 S.2.1 dMod_perform_190 (lv_at hl 0 rfl) ?_
              refine lv_i2l S.1 S.2.1 dMod_perform_192 rfl ?_
              refine lv_ladd S.1 S.2.1 dMod_perform_193 ?_
              refine zr_i (zr_T (As := [.long ((Int32.toInt64 (h90 21 (Int32.toNatClampNeg v3))) + (Int32.toInt64 k0))]) (rest := []) S hK hT hN hP hS (cMod_fits l D cI cC cE ad A hJ _ _ _ hw) caMod_126 ⟨Nat.le_of_ble_eq_true rfl, Nat.le_of_ble_eq_true rfl⟩ ⟨rfl, rfl⟩ rfl hl.1 rfl (Nat.le_of_ble_eq_true rfl) dMod_perform_194) hS (fun r194 h194 H locs hw hP hS => ?_)
              refine lv_if_ne S.1 S.2.1 dMod_perform_197 rfl (fun hc => ?_) (fun hc => ?_)
              · have hw := hw.1 hc
                refine lv_aload_n S.1 S.2.1 dMod_perform_202 rfl (lv_at hl 1 rfl) ?_
                refine zr_get S hK hP (by decide) (mF_0 _) fMod_value q855 rfl dMod_perform_203 ?_
                refine lv_iload_n S.1 S.2.1 dMod_perform_206 rfl (lv_at hl 4 rfl) ?_
                refine lv_dup2_11 S.1 S.2.1 dMod_perform_207 rfl rfl ?_
                obtain ⟨z208, hw⟩ := hw
                refine zr_ald S hK hP (by decide) (mF_21 _) 0 rfl z208 dMod_perform_208 ?_
                refine lv_iload S.1 S.2.1 dMod_perform_209 (lv_at hl 0 rfl) ?_
                refine lv_iadd S.1 S.2.1 dMod_perform_211 ?_
                obtain ⟨z212, hw⟩ := hw
                refine zr_ast S hK hJ hP hS (by decide) mF_21 0 rfl z212 dMod_perform_212 (fun h212 H locs e212 hP hS => ?_)
                have hw := hw h212 e212
                refine lv_iconst (v := 0) S.1 S.2.1 dMod_perform_213 (by decide) ?_
                exact zr_iret S hr hlk hK hP hS rfl hw dMod_perform_214
              · have hw := hw.2 hc
                refine lv_iconst (v := 1) S.1 S.2.1 dMod_perform_200 (by decide) ?_
                exact zr_iret S hr hlk hK hP hS rfl hw dMod_perform_201
            · have hw := hw.2 c2
              by_cases c3 : (h90 4 (Int32.toNatClampNeg v2)) = 4
              · have hw := hw.1 c3
                refine lv_tableIn (off := 118) S.1 S.2.1 dMod_perform_97 (by rw [c3]; decide) (by rw [c3]; decide) (by rw [c3]; rfl) rfl ?_
                refine lv_aload_n S.1 S.2.1 dMod_perform_215 rfl (lv_at hl 1 rfl) ?_
                refine lv_iload S.1 S.2.1 dMod_perform_216 (lv_at hl 0 rfl) ?_
                refine lv_iload_n S.1 S.2.1 dMod_perform_218 rfl (lv_at hl 4 rfl) ?_
                refine zr_i (zr_V (As := [.int k0, .int v3]) (rest := []) S hK hT hN hP hS (by decide) (mF_0 _) rfl (cMod_reaches l D cI cC cE ad A hJ _ _ _ _ hw) caMod_134 ⟨Nat.le_of_ble_eq_true rfl, Nat.le_of_ble_eq_true rfl⟩ ⟨rfl, rfl⟩ rfl hl.1 rfl (Nat.le_of_ble_eq_true rfl) dMod_perform_219) hS (fun r219 h219 H locs hw hP hS => ?_)
                refine lv_if_eq S.1 S.2.1 dMod_perform_222 rfl (fun hc => ?_) (fun hc => ?_)
                · have hw := hw.1 hc
                  refine lv_aload_n S.1 S.2.1 dMod_perform_227 rfl (lv_at hl 1 rfl) ?_
                  refine zr_get S hK hP (by decide) (mF_0 _) fMod_next q856 rfl dMod_perform_228 ?_
                  refine lv_iload_n S.1 S.2.1 dMod_perform_231 rfl (lv_at hl 4 rfl) ?_
                  refine lv_iload S.1 S.2.1 dMod_perform_232 (lv_at hl 0 rfl) ?_
                  obtain ⟨z234, hw⟩ := hw
                  refine zr_ast S hK hJ hP hS (by decide) mF_22 0 rfl z234 dMod_perform_234 (fun h234 H locs e234 hP hS => ?_)
                  have hw := hw h234 e234
                  refine lv_iconst (v := 0) S.1 S.2.1 dMod_perform_235 (by decide) ?_
                  exact zr_iret S hr hlk hK hP hS rfl hw dMod_perform_236
                · have hw := hw.2 hc
                  refine lv_iconst (v := 2) S.1 S.2.1 dMod_perform_225 (by decide) ?_
                  exact zr_iret S hr hlk hK hP hS rfl hw dMod_perform_226
              · have hw := hw.2 c3
                by_cases c4 : (h90 4 (Int32.toNatClampNeg v2)) = 5
                · have hw := hw.1 c4
                  refine lv_tableIn (off := 140) S.1 S.2.1 dMod_perform_97 (by rw [c4]; decide) (by rw [c4]; decide) (by rw [c4]; rfl) rfl ?_
                  refine lv_aload_n S.1 S.2.1 dMod_perform_237 rfl (lv_at hl 1 rfl) ?_
                  refine zr_get S hK hP (by decide) (mF_0 _) fMod_result q857 rfl dMod_perform_238 ?_
                  refine lv_iload_n S.1 S.2.1 dMod_perform_241 rfl (lv_at hl 2 rfl) ?_
                  refine lv_aload_n S.1 S.2.1 dMod_perform_242 rfl (lv_at hl 1 rfl) ?_
                  refine zr_get S hK hP (by decide) (mF_0 _) fMod_next q856 rfl dMod_perform_243 ?_
                  refine lv_iload_n S.1 S.2.1 dMod_perform_246 rfl (lv_at hl 4 rfl) ?_
                  obtain ⟨z247, hw⟩ := hw
                  refine zr_ald S hK hP (by decide) (mF_22 _) 0 rfl z247 dMod_perform_247 ?_
                  obtain ⟨z248, hw⟩ := hw
                  refine zr_ast S hK hJ hP hS (by decide) mF_23 0 rfl z248 dMod_perform_248 (fun h248 H locs e248 hP hS => ?_)
                  have hw := hw h248 e248
                  refine lv_aload_n S.1 S.2.1 dMod_perform_249 rfl (lv_at hl 1 rfl) ?_
                  refine zr_get S hK hP (by decide) (mF_0 _) fMod_next q856 rfl dMod_perform_250 ?_
                  refine lv_iload_n S.1 S.2.1 dMod_perform_253 rfl (lv_at hl 4 rfl) ?_
                  obtain ⟨z254, hw⟩ := hw
                  refine zr_ald S hK hP (by decide) (mF_22 _) 0 rfl z254 dMod_perform_254 ?_
                  refine lv_if_lt S.1 S.2.1 dMod_perform_255 rfl (fun hc => ?_) (fun hc => ?_)
                  · have hw := hw.1 hc
                    refine lv_iconst (v := 0) S.1 S.2.1 dMod_perform_286 (by decide) ?_
                    exact zr_iret S hr hlk hK hP hS rfl hw dMod_perform_287
                  · have hw := hw.2 hc
                    refine lv_aload_n S.1 S.2.1 dMod_perform_258 rfl (lv_at hl 1 rfl) ?_
                    refine lv_aload_n S.1 S.2.1 dMod_perform_259 rfl (lv_at hl 1 rfl) ?_
                    refine zr_get S hK hP (by decide) (mF_0 _) fMod_of q854 rfl dMod_perform_260 ?_
                    refine lv_aload_n S.1 S.2.1 dMod_perform_263 rfl (lv_at hl 1 rfl) ?_
                    refine zr_get S hK hP (by decide) (mF_0 _) fMod_next q856 rfl dMod_perform_264 ?_
                    refine lv_iload_n S.1 S.2.1 dMod_perform_267 rfl (lv_at hl 4 rfl) ?_
                    obtain ⟨z268, hw⟩ := hw
                    refine zr_ald S hK hP (by decide) (mF_22 _) 0 rfl z268 dMod_perform_268 ?_
                    obtain ⟨z269, hw⟩ := hw
                    refine zr_ald S hK hP (by decide) (mF_20 _) 0 rfl z269 dMod_perform_269 ?_
                    refine lv_aload_n S.1 S.2.1 dMod_perform_270 rfl (lv_at hl 1 rfl) ?_
                    refine zr_get S hK hP (by decide) (mF_0 _) fMod_second q836 rfl dMod_perform_271 ?_
                    refine lv_iload_n S.1 S.2.1 dMod_perform_274 rfl (lv_at hl 3 rfl) ?_
                    obtain ⟨z275, hw⟩ := hw
                    refine zr_ald S hK hP (by decide) (mF_6 _) 0 rfl z275 dMod_perform_275 ?_
                    refine zr_i (zr_V (As := [.int (h248 20 (Int32.toNatClampNeg (h248 22 (Int32.toNatClampNeg v3)))), .int (h248 6 (Int32.toNatClampNeg v2))]) (rest := []) S hK hT hN hP hS (by decide) (mF_0 _) rfl (cMod_is l D cI cC cE ad A hJ _ _ _ _ hw) caMod_138 ⟨Nat.le_of_ble_eq_true rfl, Nat.le_of_ble_eq_true rfl⟩ ⟨rfl, rfl⟩ rfl hl.1 rfl (Nat.le_of_ble_eq_true rfl) dMod_perform_276) hS (fun r276 h276 H locs hw hP hS => ?_)
                    refine lv_if_ne S.1 S.2.1 dMod_perform_279 rfl (fun hc => ?_) (fun hc => ?_)
                    · have hw := hw.1 hc
                      refine lv_iconst (v := 0) S.1 S.2.1 dMod_perform_286 (by decide) ?_
                      exact zr_iret S hr hlk hK hP hS rfl hw dMod_perform_287
                    · have hw := hw.2 hc
                      refine lv_iconst (v := 3) S.1 S.2.1 dMod_perform_282 (by decide) ?_
                      refine lv_goto S.1 S.2.1 dMod_perform_283 rfl ?_
                      exact zr_iret S hr hlk hK hP hS rfl hw dMod_perform_287
                · have hw := hw.2 c4
                  by_cases c5 : (h90 4 (Int32.toNatClampNeg v2)) = 6
                  · have hw := hw.1 c5
                    refine lv_tableIn (off := 191) S.1 S.2.1 dMod_perform_97 (by rw [c5]; decide) (by rw [c5]; decide) (by rw [c5]; rfl) rfl ?_
                    refine lv_iload S.1 S.2.1 dMod_perform_288 (lv_at hl 0 rfl) ?_
                    refine lv_if_ne S.1 S.2.1 dMod_perform_290 rfl (fun hc => ?_) (fun hc => ?_)
                    · have hw := hw.1 hc
                      refine lv_aload_n S.1 S.2.1 dMod_perform_295 rfl (lv_at hl 1 rfl) ?_
                      refine zr_get S hK hP (by decide) (mF_0 _) fMod_result q857 rfl dMod_perform_296 ?_
                      refine lv_iload_n S.1 S.2.1 dMod_perform_299 rfl (lv_at hl 2 rfl) ?_
                      refine lv_aload_n S.1 S.2.1 dMod_perform_300 rfl (lv_at hl 1 rfl) ?_
                      refine zr_get S hK hP (by decide) (mF_0 _) fMod_value q855 rfl dMod_perform_301 ?_
                      refine lv_iload_n S.1 S.2.1 dMod_perform_304 rfl (lv_at hl 4 rfl) ?_
                      obtain ⟨z305, hw⟩ := hw
                      refine zr_ald S hK hP (by decide) (mF_21 _) 0 rfl z305 dMod_perform_305 ?_
                      refine lv_iload S.1 S.2.1 dMod_perform_306 (lv_at hl 0 rfl) ?_
                      obtain ⟨z308, hw⟩ := hw
                      refine lv_idiv S.1 S.2.1 dMod_perform_308 z308 ?_
                      obtain ⟨z309, hw⟩ := hw
                      refine zr_ast S hK hJ hP hS (by decide) mF_23 0 rfl z309 dMod_perform_309 (fun h309 H locs e309 hP hS => ?_)
                      have hw := hw h309 e309
                      refine lv_iconst (v := 0) S.1 S.2.1 dMod_perform_310 (by decide) ?_
                      exact zr_iret S hr hlk hK hP hS rfl hw dMod_perform_311
                    · have hw := hw.2 hc
                      refine lv_iconst (v := 4) S.1 S.2.1 dMod_perform_293 (by decide) ?_
                      exact zr_iret S hr hlk hK hP hS rfl hw dMod_perform_294
                  · have hw := hw.2 c5
                    by_cases c6 : (h90 4 (Int32.toNatClampNeg v2)) = 7
                    · have hw := hw.1 c6
                      refine lv_tableIn (off := 215) S.1 S.2.1 dMod_perform_97 (by rw [c6]; decide) (by rw [c6]; decide) (by rw [c6]; rfl) rfl ?_
                      refine lv_aload_n S.1 S.2.1 dMod_perform_312 rfl (lv_at hl 1 rfl) ?_
                      refine zr_get S hK hP (by decide) (mF_0 _) fMod_next q856 rfl dMod_perform_313 ?_
                      refine lv_iload_n S.1 S.2.1 dMod_perform_316 rfl (lv_at hl 4 rfl) ?_
                      obtain ⟨z317, hw⟩ := hw
                      refine zr_ald S hK hP (by decide) (mF_22 _) 0 rfl z317 dMod_perform_317 ?_
                      refine lv_if_ge S.1 S.2.1 dMod_perform_318 rfl (fun hc => ?_) (fun hc => ?_)
                      · have hw := hw.1 hc
                        refine lv_aload_n S.1 S.2.1 dMod_perform_323 rfl (lv_at hl 1 rfl) ?_
                        refine zr_get S hK hP (by decide) (mF_0 _) fMod_result q857 rfl dMod_perform_324 ?_
                        refine lv_iload_n S.1 S.2.1 dMod_perform_327 rfl (lv_at hl 2 rfl) ?_
                        refine lv_aload_n S.1 S.2.1 dMod_perform_328 rfl (lv_at hl 1 rfl) ?_
                        refine zr_get S hK hP (by decide) (mF_0 _) fMod_value q855 rfl dMod_perform_329 ?_
                        refine lv_aload_n S.1 S.2.1 dMod_perform_332 rfl (lv_at hl 1 rfl) ?_
                        refine zr_get S hK hP (by decide) (mF_0 _) fMod_next q856 rfl dMod_perform_333 ?_
                        refine lv_iload_n S.1 S.2.1 dMod_perform_336 rfl (lv_at hl 4 rfl) ?_
                        obtain ⟨z337, hw⟩ := hw
                        refine zr_ald S hK hP (by decide) (mF_22 _) 0 rfl z337 dMod_perform_337 ?_
                        obtain ⟨z338, hw⟩ := hw
                        refine zr_ald S hK hP (by decide) (mF_21 _) 0 rfl z338 dMod_perform_338 ?_
                        obtain ⟨z339, hw⟩ := hw
                        refine zr_ast S hK hJ hP hS (by decide) mF_23 0 rfl z339 dMod_perform_339 (fun h339 H locs e339 hP hS => ?_)
                        have hw := hw h339 e339
                        refine lv_iconst (v := 0) S.1 S.2.1 dMod_perform_340 (by decide) ?_
                        exact zr_iret S hr hlk hK hP hS rfl hw dMod_perform_341
                      · have hw := hw.2 hc
                        refine lv_iconst (v := 5) S.1 S.2.1 dMod_perform_321 (by decide) ?_
                        exact zr_iret S hr hlk hK hP hS rfl hw dMod_perform_322
                    · have hw := hw.2 c6
                      by_cases c7 : (h90 4 (Int32.toNatClampNeg v2)) = 8
                      · have hw := hw.1 c7
                        refine lv_tableIn (off := 245) S.1 S.2.1 dMod_perform_97 (by rw [c7]; decide) (by rw [c7]; decide) (by rw [c7]; rfl) rfl ?_
                        refine lv_aload_n S.1 S.2.1 dMod_perform_342 rfl (lv_at hl 1 rfl) ?_
                        refine zr_get S hK hP (by decide) (mF_0 _) fMod_result q857 rfl dMod_perform_343 ?_
                        refine lv_iload_n S.1 S.2.1 dMod_perform_346 rfl (lv_at hl 2 rfl) ?_
                        refine lv_aload_n S.1 S.2.1 dMod_perform_347 rfl (lv_at hl 1 rfl) ?_
                        refine lv_iload_n S.1 S.2.1 dMod_perform_348 rfl (lv_at hl 4 rfl) ?_
                        refine zr_i (zr_V (As := [.int v3]) (rest := [.int v1, .ref (ad 23)]) S hK hT hN hP hS (by decide) (mF_0 _) rfl (cMod_count l D cI cC cE ad A hJ _ _ _ hw) caMod_141 ⟨Nat.le_of_ble_eq_true rfl, Nat.le_of_ble_eq_true rfl⟩ ⟨rfl, rfl⟩ rfl hl.1 rfl (Nat.le_of_ble_eq_true rfl) dMod_perform_349) hS (fun r349 h349 H locs hw hP hS => ?_)
                        obtain ⟨z352, hw⟩ := hw
                        refine zr_ast S hK hJ hP hS (by decide) mF_23 0 rfl z352 dMod_perform_352 (fun h352 H locs e352 hP hS => ?_)
                        have hw := hw h352 e352
                        refine lv_iconst (v := 0) S.1 S.2.1 dMod_perform_353 (by decide) ?_
                        exact zr_iret S hr hlk hK hP hS rfl hw dMod_perform_354
                      · have hw := hw.2 c7
                        refine lv_tableOut S.1 S.2.1 dMod_perform_97 (by have n0 := lv_neT c0 (show (1 : Int32).toInt = 1 from by decide); have n1 := lv_neT c1 (show (2 : Int32).toInt = 2 from by decide); have n2 := lv_neT c2 (show (3 : Int32).toInt = 3 from by decide); have n3 := lv_neT c3 (show (4 : Int32).toInt = 4 from by decide); have n4 := lv_neT c4 (show (5 : Int32).toInt = 5 from by decide); have n5 := lv_neT c5 (show (6 : Int32).toInt = 6 from by decide); have n6 := lv_neT c6 (show (7 : Int32).toInt = 7 from by decide); have n7 := lv_neT c7 (show (8 : Int32).toInt = 8 from by decide); omega) rfl ?_
                        refine lv_aload_n S.1 S.2.1 dMod_perform_355 rfl (lv_at hl 1 rfl) ?_
                        refine zr_get S hK hP (by decide) (mF_0 _) fMod_result q857 rfl dMod_perform_356 ?_
                        refine lv_iload_n S.1 S.2.1 dMod_perform_359 rfl (lv_at hl 2 rfl) ?_
                        refine lv_iload S.1 S.2.1 dMod_perform_360 (lv_at hl 0 rfl) ?_
                        refine lv_if_lt S.1 S.2.1 dMod_perform_362 rfl (fun hc => ?_) (fun hc => ?_)
                        · have hw := hw.1 hc
                          exact J379 _ _ _ _ _ hw (lv_sub hl [] rfl) hP hS
                        · have hw := hw.2 hc
                          refine lv_aload_n S.1 S.2.1 dMod_perform_365 rfl (lv_at hl 1 rfl) ?_
                          refine lv_iload_n S.1 S.2.1 dMod_perform_366 rfl (lv_at hl 4 rfl) ?_
                          refine lv_iload S.1 S.2.1 dMod_perform_367 (lv_at hl 0 rfl) ?_
                          refine zr_i (zr_V (As := [.int v3, .int k0]) (rest := [.int v1, .ref (ad 23)]) S hK hT hN hP hS (by decide) (mF_0 _) rfl (cMod_equal l D cI cC cE ad A hJ _ _ _ _ hw) caMod_144 ⟨Nat.le_of_ble_eq_true rfl, Nat.le_of_ble_eq_true rfl⟩ ⟨rfl, rfl⟩ rfl hl.1 rfl (Nat.le_of_ble_eq_true rfl) dMod_perform_369) hS (fun r369 h369 H locs hw hP hS => ?_)
                          refine lv_if_eq S.1 S.2.1 dMod_perform_372 rfl (fun hc => ?_) (fun hc => ?_)
                          · have hw := hw.1 hc
                            exact J379 _ _ _ _ _ hw (lv_sub hl [] rfl) hP hS
                          · have hw := hw.2 hc
                            refine lv_iconst (v := 1) S.1 S.2.1 dMod_perform_375 (by decide) ?_
                            refine lv_goto S.1 S.2.1 dMod_perform_376 rfl ?_
                            exact J380 _ _ _ _ _ _ hw (lv_sub hl [] rfl) hP hS
      · have hw := hw.2 hc
        refine lv_iconst (v := 5) S.1 S.2.1 dMod_perform_82 (by decide) ?_
        exact zr_iret S hr hlk hK hP hS rfl hw dMod_perform_83
    · have hw := hw.2 hc
      refine lv_iload_n S.1 S.2.1 dMod_perform_48 rfl (lv_at hl 4 rfl) ?_
      refine lv_i2l S.1 S.2.1 dMod_perform_49 rfl ?_
      refine zr_i (zr_T (As := [.long (Int32.toInt64 v3)]) (rest := []) S hK hT hN hP hS (cMod_fits l D cI cC cE ad A hJ _ _ _ hw) caMod_126 ⟨Nat.le_of_ble_eq_true rfl, Nat.le_of_ble_eq_true rfl⟩ ⟨rfl, rfl⟩ rfl hl.1 rfl (Nat.le_of_ble_eq_true rfl) dMod_perform_50) hS (fun r50 h50 H locs hw hP hS => ?_)
      refine lv_if_ne S.1 S.2.1 dMod_perform_53 rfl (fun hc => ?_) (fun hc => ?_)
      · have hw := hw.1 hc
        refine lv_aload_n S.1 S.2.1 dMod_perform_58 rfl (lv_at hl 1 rfl) ?_
        refine zr_get S hK hP (by decide) (mF_0 _) fMod_result q857 rfl dMod_perform_59 ?_
        refine lv_iload_n S.1 S.2.1 dMod_perform_62 rfl (lv_at hl 2 rfl) ?_
        refine lv_aload_n S.1 S.2.1 dMod_perform_63 rfl (lv_at hl 1 rfl) ?_
        refine lv_aload_n S.1 S.2.1 dMod_perform_64 rfl (lv_at hl 1 rfl) ?_
        refine zr_get S hK hP (by decide) (mF_0 _) fMod_first q835 rfl dMod_perform_65 ?_
        refine lv_iload_n S.1 S.2.1 dMod_perform_68 rfl (lv_at hl 3 rfl) ?_
        obtain ⟨z69, hw⟩ := hw
        refine zr_ald S hK hP (by decide) (mF_5 _) 0 rfl z69 dMod_perform_69 ?_
        refine lv_iload_n S.1 S.2.1 dMod_perform_70 rfl (lv_at hl 4 rfl) ?_
        refine lv_iconst (v := (-1)) S.1 S.2.1 dMod_perform_71 (by decide) ?_
        refine zr_i (zr_V (As := [.int (h50 5 (Int32.toNatClampNeg v2)), .int v3, .int (-1)]) (rest := [.int v1, .ref (ad 23)]) S hK hT hN hP hS (by decide) (mF_0 _) rfl (cMod_made l D cI cC cE ad A hJ _ _ _ _ _ hw) caMod_130 ⟨Nat.le_of_ble_eq_true rfl, Nat.le_of_ble_eq_true rfl⟩ ⟨rfl, rfl⟩ rfl hl.1 rfl (Nat.le_of_ble_eq_true rfl) dMod_perform_72) hS (fun r72 h72 H locs hw hP hS => ?_)
        obtain ⟨z75, hw⟩ := hw
        refine zr_ast S hK hJ hP hS (by decide) mF_23 0 rfl z75 dMod_perform_75 (fun h75 H locs e75 hP hS => ?_)
        have hw := hw h75 e75
        refine lv_iconst (v := 0) S.1 S.2.1 dMod_perform_76 (by decide) ?_
        exact zr_iret S hr hlk hK hP hS rfl hw dMod_perform_77
      · have hw := hw.2 hc
        refine lv_iconst (v := 1) S.1 S.2.1 dMod_perform_56 (by decide) ?_
        exact zr_iret S hr hlk hK hP hS rfl hw dMod_perform_57
  unfold wpMod_perform at hw
  refine lv_aload_n S.1 S.2.1 dMod_perform_0 rfl (lv_at hl 0 rfl) ?_
  refine zr_get S hK hP (by decide) (mF_0 _) fMod_op q840 rfl dMod_perform_1 ?_
  refine lv_iload_n S.1 S.2.1 dMod_perform_4 rfl (lv_at hl 1 rfl) ?_
  obtain ⟨z5, hw⟩ := hw
  refine zr_ald S hK hP (by decide) (mF_8 _) 0 rfl z5 dMod_perform_5 ?_
  refine lv_topi (fun y6 e6 => ?_)
  have hw := hw y6 e6
  refine lv_istore_n (lv' := [(2, .int y6), (0, .ref (ad 0)), (1, .int x1)]) S.1 S.2.1 dMod_perform_6 rfl hl (by decide) rfl (fun ls hl => ?_)
  refine lv_aload_n S.1 S.2.1 dMod_perform_7 rfl (lv_at hl 1 rfl) ?_
  refine lv_iload_n S.1 S.2.1 dMod_perform_8 rfl (lv_at hl 2 rfl) ?_
  refine lv_iconst (v := 0) S.1 S.2.1 dMod_perform_9 (by decide) ?_
  refine zr_i (zr_V (As := [.int x1, .int 0]) (rest := []) S hK hT hN hP hS (by decide) (mF_0 _) rfl (cMod_valueOf l D cI cC cE ad A hJ _ _ _ _ hw) caMod_118 ⟨Nat.le_of_ble_eq_true rfl, Nat.le_of_ble_eq_true rfl⟩ ⟨rfl, rfl⟩ rfl hl.1 rfl (Nat.le_of_ble_eq_true rfl) dMod_perform_10) hS (fun r10 h10 H locs hw hP hS => ?_)
  refine lv_istore_n (lv' := [(3, .int r10), (2, .int y6), (0, .ref (ad 0)), (1, .int x1)]) S.1 S.2.1 dMod_perform_13 rfl hl (by decide) rfl (fun ls hl => ?_)
  refine lv_aload_n S.1 S.2.1 dMod_perform_14 rfl (lv_at hl 2 rfl) ?_
  refine zr_get S hK hP (by decide) (mF_0 _) fMod_kind q834 rfl dMod_perform_15 ?_
  refine lv_iload_n S.1 S.2.1 dMod_perform_18 rfl (lv_at hl 1 rfl) ?_
  obtain ⟨z19, hw⟩ := hw
  refine zr_ald S hK hP (by decide) (mF_4 _) 0 rfl z19 dMod_perform_19 ?_
  refine zr_i (zr_T (As := [.int (h10 4 (Int32.toNatClampNeg y6))]) (rest := []) S hK hT hN hP hS (cMod_arity l D cI cC cE ad A hJ _ _ _ hw) caMod_122 ⟨Nat.le_of_ble_eq_true rfl, Nat.le_of_ble_eq_true rfl⟩ ⟨rfl, rfl⟩ rfl hl.1 rfl (Nat.le_of_ble_eq_true rfl) dMod_perform_20) hS (fun r20 h20 H locs hw hP hS => ?_)
  refine lv_iconst (v := 2) S.1 S.2.1 dMod_perform_23 (by decide) ?_
  refine lv_icmp_ne S.1 S.2.1 dMod_perform_24 rfl (fun hc => ?_) (fun hc => ?_)
  · have hw := hw.1 hc
    refine lv_iconst (v := 0) S.1 S.2.1 dMod_perform_36 (by decide) ?_
    exact J37 _ _ _ _ _ _ _ _ hw (lv_sub hl [2, 3, 1, 0] rfl) hP hS
  · have hw := hw.2 hc
    refine lv_aload_n S.1 S.2.1 dMod_perform_27 rfl (lv_at hl 2 rfl) ?_
    refine lv_iload_n S.1 S.2.1 dMod_perform_28 rfl (lv_at hl 3 rfl) ?_
    refine lv_iconst (v := 1) S.1 S.2.1 dMod_perform_29 (by decide) ?_
    refine zr_i (zr_V (As := [.int x1, .int 1]) (rest := []) S hK hT hN hP hS (by decide) (mF_0 _) rfl (cMod_valueOf l D cI cC cE ad A hJ _ _ _ _ hw) caMod_118 ⟨Nat.le_of_ble_eq_true rfl, Nat.le_of_ble_eq_true rfl⟩ ⟨rfl, rfl⟩ rfl hl.1 rfl (Nat.le_of_ble_eq_true rfl) dMod_perform_30) hS (fun r30 h30 H locs hw hP hS => ?_)
    refine lv_goto S.1 S.2.1 dMod_perform_33 rfl ?_
    exact J37 _ _ _ _ _ _ _ _ hw (lv_sub hl [2, 3, 1, 0] rfl) hP hS
/-! Mod.codeOf -/
theorem dMod_codeOf_0 : decode bMod_codeOf 0 = .ok (.aload_n 0, 1) := by decide +kernel
theorem dMod_codeOf_1 : decode bMod_codeOf 1 = .ok (.getfield 16, 3) := by decide +kernel
theorem dMod_codeOf_4 : decode bMod_codeOf 4 = .ok (.aload_n 0, 1) := by decide +kernel
theorem dMod_codeOf_5 : decode bMod_codeOf 5 = .ok (.getfield 71, 3) := by decide +kernel
theorem dMod_codeOf_8 : decode bMod_codeOf 8 = .ok (.iload_n 1, 1) := by decide +kernel
theorem dMod_codeOf_9 : decode bMod_codeOf 9 = .ok (.iaload, 1) := by decide +kernel
theorem dMod_codeOf_10 : decode bMod_codeOf 10 = .ok (.iaload, 1) := by decide +kernel
theorem dMod_codeOf_11 : decode bMod_codeOf 11 = .ok (.tableswitch 37 0 2 #[25, 32, 35], 25) := by decide +kernel
theorem dMod_codeOf_36 : decode bMod_codeOf 36 = .ok (.aload_n 0, 1) := by decide +kernel
theorem dMod_codeOf_37 : decode bMod_codeOf 37 = .ok (.getfield 74, 3) := by decide +kernel
theorem dMod_codeOf_40 : decode bMod_codeOf 40 = .ok (.iload_n 1, 1) := by decide +kernel
theorem dMod_codeOf_41 : decode bMod_codeOf 41 = .ok (.iaload, 1) := by decide +kernel
theorem dMod_codeOf_42 : decode bMod_codeOf 42 = .ok (.ireturn, 1) := by decide +kernel
theorem dMod_codeOf_43 : decode bMod_codeOf 43 = .ok (.bipush 7, 2) := by decide +kernel
theorem dMod_codeOf_45 : decode bMod_codeOf 45 = .ok (.ireturn, 1) := by decide +kernel
theorem dMod_codeOf_46 : decode bMod_codeOf 46 = .ok (.iload_n 1, 1) := by decide +kernel
theorem dMod_codeOf_47 : decode bMod_codeOf 47 = .ok (.ireturn, 1) := by decide +kernel
theorem dMod_codeOf_48 : decode bMod_codeOf 48 = .ok (.bipush 31, 2) := by decide +kernel
theorem dMod_codeOf_50 : decode bMod_codeOf 50 = .ok (.aload_n 0, 1) := by decide +kernel
theorem dMod_codeOf_51 : decode bMod_codeOf 51 = .ok (.getfield 74, 3) := by decide +kernel
theorem dMod_codeOf_54 : decode bMod_codeOf 54 = .ok (.iload_n 1, 1) := by decide +kernel
theorem dMod_codeOf_55 : decode bMod_codeOf 55 = .ok (.iaload, 1) := by decide +kernel
theorem dMod_codeOf_56 : decode bMod_codeOf 56 = .ok (.imul, 1) := by decide +kernel
theorem dMod_codeOf_57 : decode bMod_codeOf 57 = .ok (.aload_n 0, 1) := by decide +kernel
theorem dMod_codeOf_58 : decode bMod_codeOf 58 = .ok (.getfield 71, 3) := by decide +kernel
theorem dMod_codeOf_61 : decode bMod_codeOf 61 = .ok (.iload_n 1, 1) := by decide +kernel
theorem dMod_codeOf_62 : decode bMod_codeOf 62 = .ok (.iaload, 1) := by decide +kernel
theorem dMod_codeOf_63 : decode bMod_codeOf 63 = .ok (.iadd, 1) := by decide +kernel
theorem dMod_codeOf_64 : decode bMod_codeOf 64 = .ok (.ireturn, 1) := by decide +kernel
def wpMod_codeOf (x1 : Int32) (h : zM) (post : Int32 → zM → Prop) : Prop := (vp_in x1 10 ∧ (vp_in (h 20 (Int32.toNatClampNeg x1)) 5 ∧ (((h 3 (Int32.toNatClampNeg (h 20 (Int32.toNatClampNeg x1)))) = 0 → (vp_in x1 10 ∧ post (h 21 (Int32.toNatClampNeg x1)) h)) ∧ (¬ (h 3 (Int32.toNatClampNeg (h 20 (Int32.toNatClampNeg x1)))) = 0 → (((h 3 (Int32.toNatClampNeg (h 20 (Int32.toNatClampNeg x1)))) = 1 → post 7 h) ∧ (¬ (h 3 (Int32.toNatClampNeg (h 20 (Int32.toNatClampNeg x1)))) = 1 → (((h 3 (Int32.toNatClampNeg (h 20 (Int32.toNatClampNeg x1)))) = 2 → post x1 h) ∧ (¬ (h 3 (Int32.toNatClampNeg (h 20 (Int32.toNatClampNeg x1)))) = 2 → (vp_in x1 10 ∧ (vp_in x1 10 ∧ post ((31 * (h 21 (Int32.toNatClampNeg x1))) + (h 20 (Int32.toNatClampNeg x1))) h))))))))))
abbrev rmMod_codeOf : Room := { frames := 0, cells := 0, slots := 0, locals := 0 }
set_option maxHeartbeats 4000000 in
set_option maxRecDepth 100000 in
theorem cMod_codeOf (l : Launch) (D : va_G) (cI cC cE : ClassId) (ad : Nat → Nat) (A : Nat → Prop) (hJ : zJ A 28 ad) (x1 : Int32) (h : zM) (post : Int32 → zM → Prop) (hw : wpMod_codeOf x1 h post) : Met l yMod_codeOf (.code yMod_codeOf bMod_codeOf 2 (some .int) :: zt) rmMod_codeOf (va_Pc [.ref (ad 0), .int x1] (zPre D (zty cI cC cE) 28 ad (mF ad cI) A h)) (va_Qi post (zPst D (zty cI cC cE) 28 ad (mF ad cI)) A) 0 0 A := by
  refine Met.ofW (cc := bMod_codeOf) (maxL := 2) (ret := (some .int)) (by decide) rfl ?_
  intro p e s m args below meth c s₁ B hml hv
  obtain ⟨rfl, hP, hK, hT, hN⟩ := hv
  have hr := B.returns
  have hlk := B.notSynchronized
  have S : zS p m c bMod_codeOf 2 s _ "CallExplorerModel" := ⟨B.exec, B.bytes, hml, findClass_of_methodNamed B.named, fun w hw => atoms_spec (ws := .code yMod_codeOf bMod_codeOf 2 (some .int) :: zt) B.pre w (List.mem_cons_of_mem _ hw)⟩
  have hS : va_S A s.heap s.heap [] := va_S.rf
  have hl := lv_entry ([.ref (ad 0), .int x1]) (n := 2) (Nat.le_of_ble_eq_true rfl)
  rw [lg_entry_eq]
  generalize (lg_sl ([.ref (ad 0), .int x1]) ++ List.replicate (2 - (lg_sl ([.ref (ad 0), .int x1])).length) Slot.unset).toArray = ls at hl ⊢
  have hl : lv_has ls 2 [(0, .ref (ad 0)), (1, .int x1)] := hl
  show W p l e rmMod_codeOf s m ([.ref (ad 0), .int x1] : List Value).toArray below meth c s.heap [] 0 0 (zQi post D (zty cI cC cE) 28 ad (mF ad cI) A below ([.ref (ad 0), .int x1] : List Value).toArray s) _
  unfold wpMod_codeOf at hw
  refine lv_aload_n S.1 S.2.1 dMod_codeOf_0 rfl (lv_at hl 0 rfl) ?_
  refine zr_get S hK hP (by decide) (mF_0 _) fMod_mark q832 rfl dMod_codeOf_1 ?_
  refine lv_aload_n S.1 S.2.1 dMod_codeOf_4 rfl (lv_at hl 0 rfl) ?_
  refine zr_get S hK hP (by decide) (mF_0 _) fMod_of q854 rfl dMod_codeOf_5 ?_
  refine lv_iload_n S.1 S.2.1 dMod_codeOf_8 rfl (lv_at hl 1 rfl) ?_
  obtain ⟨z9, hw⟩ := hw
  refine zr_ald S hK hP (by decide) (mF_20 _) 0 rfl z9 dMod_codeOf_9 ?_
  obtain ⟨z10, hw⟩ := hw
  refine zr_ald S hK hP (by decide) (mF_3 _) 0 rfl z10 dMod_codeOf_10 ?_
  by_cases c0 : (h 3 (Int32.toNatClampNeg (h 20 (Int32.toNatClampNeg x1)))) = 0
  · have hw := hw.1 c0
    refine lv_tableIn (off := 25) S.1 S.2.1 dMod_codeOf_11 (by rw [c0]; decide) (by rw [c0]; decide) (by rw [c0]; rfl) rfl ?_
    refine lv_aload_n S.1 S.2.1 dMod_codeOf_36 rfl (lv_at hl 0 rfl) ?_
    refine zr_get S hK hP (by decide) (mF_0 _) fMod_value q855 rfl dMod_codeOf_37 ?_
    refine lv_iload_n S.1 S.2.1 dMod_codeOf_40 rfl (lv_at hl 1 rfl) ?_
    obtain ⟨z41, hw⟩ := hw
    refine zr_ald S hK hP (by decide) (mF_21 _) 0 rfl z41 dMod_codeOf_41 ?_
    exact zr_iret S hr hlk hK hP hS rfl hw dMod_codeOf_42
  · have hw := hw.2 c0
    by_cases c1 : (h 3 (Int32.toNatClampNeg (h 20 (Int32.toNatClampNeg x1)))) = 1
    · have hw := hw.1 c1
      refine lv_tableIn (off := 32) S.1 S.2.1 dMod_codeOf_11 (by rw [c1]; decide) (by rw [c1]; decide) (by rw [c1]; rfl) rfl ?_
      refine lv_bipush (v := 7) S.1 S.2.1 dMod_codeOf_43 (by decide) ?_
      exact zr_iret S hr hlk hK hP hS rfl hw dMod_codeOf_45
    · have hw := hw.2 c1
      by_cases c2 : (h 3 (Int32.toNatClampNeg (h 20 (Int32.toNatClampNeg x1)))) = 2
      · have hw := hw.1 c2
        refine lv_tableIn (off := 35) S.1 S.2.1 dMod_codeOf_11 (by rw [c2]; decide) (by rw [c2]; decide) (by rw [c2]; rfl) rfl ?_
        refine lv_iload_n S.1 S.2.1 dMod_codeOf_46 rfl (lv_at hl 1 rfl) ?_
        exact zr_iret S hr hlk hK hP hS rfl hw dMod_codeOf_47
      · have hw := hw.2 c2
        refine lv_tableOut S.1 S.2.1 dMod_codeOf_11 (by have n0 := lv_neT c0 (show (0 : Int32).toInt = 0 from by decide); have n1 := lv_neT c1 (show (1 : Int32).toInt = 1 from by decide); have n2 := lv_neT c2 (show (2 : Int32).toInt = 2 from by decide); omega) rfl ?_
        refine lv_bipush (v := 31) S.1 S.2.1 dMod_codeOf_48 (by decide) ?_
        refine lv_aload_n S.1 S.2.1 dMod_codeOf_50 rfl (lv_at hl 0 rfl) ?_
        refine zr_get S hK hP (by decide) (mF_0 _) fMod_value q855 rfl dMod_codeOf_51 ?_
        refine lv_iload_n S.1 S.2.1 dMod_codeOf_54 rfl (lv_at hl 1 rfl) ?_
        obtain ⟨z55, hw⟩ := hw
        refine zr_ald S hK hP (by decide) (mF_21 _) 0 rfl z55 dMod_codeOf_55 ?_
        refine lv_imul S.1 S.2.1 dMod_codeOf_56 ?_
        refine lv_aload_n S.1 S.2.1 dMod_codeOf_57 rfl (lv_at hl 0 rfl) ?_
        refine zr_get S hK hP (by decide) (mF_0 _) fMod_of q854 rfl dMod_codeOf_58 ?_
        refine lv_iload_n S.1 S.2.1 dMod_codeOf_61 rfl (lv_at hl 1 rfl) ?_
        obtain ⟨z62, hw⟩ := hw
        refine zr_ald S hK hP (by decide) (mF_20 _) 0 rfl z62 dMod_codeOf_62 ?_
        refine lv_iadd S.1 S.2.1 dMod_codeOf_63 ?_
        exact zr_iret S hr hlk hK hP hS rfl hw dMod_codeOf_64
/-! Mod.unsound -/
theorem dMod_unsound_0 : decode bMod_unsound 0 = .ok (.iconst 0, 1) := by decide +kernel
theorem dMod_unsound_1 : decode bMod_unsound 1 = .ok (.istore_n 1, 1) := by decide +kernel
theorem dMod_unsound_2 : decode bMod_unsound 2 = .ok (.iload_n 1, 1) := by decide +kernel
theorem dMod_unsound_3 : decode bMod_unsound 3 = .ok (.aload_n 0, 1) := by decide +kernel
theorem dMod_unsound_4 : decode bMod_unsound 4 = .ok (.getfield 111, 3) := by decide +kernel
theorem dMod_unsound_7 : decode bMod_unsound 7 = .ok (.if_icmp .ge 20, 3) := by decide +kernel
theorem dMod_unsound_10 : decode bMod_unsound 10 = .ok (.aload_n 0, 1) := by decide +kernel
theorem dMod_unsound_11 : decode bMod_unsound 11 = .ok (.iload_n 1, 1) := by decide +kernel
theorem dMod_unsound_12 : decode bMod_unsound 12 = .ok (.iload_n 1, 1) := by decide +kernel
theorem dMod_unsound_13 : decode bMod_unsound 13 = .ok (.invokevirtual 144, 3) := by decide +kernel
theorem dMod_unsound_16 : decode bMod_unsound 16 = .ok (.ifCond .ne 5, 3) := by decide +kernel
theorem dMod_unsound_19 : decode bMod_unsound 19 = .ok (.iconst 1, 1) := by decide +kernel
theorem dMod_unsound_20 : decode bMod_unsound 20 = .ok (.ireturn, 1) := by decide +kernel
theorem dMod_unsound_21 : decode bMod_unsound 21 = .ok (.iinc 1 1, 3) := by decide +kernel
theorem dMod_unsound_24 : decode bMod_unsound 24 = .ok (.goto (-22), 3) := by decide +kernel
theorem dMod_unsound_27 : decode bMod_unsound 27 = .ok (.iconst 0, 1) := by decide +kernel
theorem dMod_unsound_28 : decode bMod_unsound 28 = .ok (.istore_n 1, 1) := by decide +kernel
theorem dMod_unsound_29 : decode bMod_unsound 29 = .ok (.iload_n 1, 1) := by decide +kernel
theorem dMod_unsound_30 : decode bMod_unsound 30 = .ok (.aload_n 0, 1) := by decide +kernel
theorem dMod_unsound_31 : decode bMod_unsound 31 = .ok (.getfield 111, 3) := by decide +kernel
theorem dMod_unsound_34 : decode bMod_unsound 34 = .ok (.if_icmp .ge 65, 3) := by decide +kernel
theorem dMod_unsound_37 : decode bMod_unsound 37 = .ok (.iload_n 1, 1) := by decide +kernel
theorem dMod_unsound_38 : decode bMod_unsound 38 = .ok (.iconst 1, 1) := by decide +kernel
theorem dMod_unsound_39 : decode bMod_unsound 39 = .ok (.iadd, 1) := by decide +kernel
theorem dMod_unsound_40 : decode bMod_unsound 40 = .ok (.istore_n 2, 1) := by decide +kernel
theorem dMod_unsound_41 : decode bMod_unsound 41 = .ok (.iload_n 2, 1) := by decide +kernel
theorem dMod_unsound_42 : decode bMod_unsound 42 = .ok (.aload_n 0, 1) := by decide +kernel
theorem dMod_unsound_43 : decode bMod_unsound 43 = .ok (.getfield 111, 3) := by decide +kernel
theorem dMod_unsound_46 : decode bMod_unsound 46 = .ok (.if_icmp .ge 47, 3) := by decide +kernel
theorem dMod_unsound_49 : decode bMod_unsound 49 = .ok (.aload_n 0, 1) := by decide +kernel
theorem dMod_unsound_50 : decode bMod_unsound 50 = .ok (.iload_n 1, 1) := by decide +kernel
theorem dMod_unsound_51 : decode bMod_unsound 51 = .ok (.iload_n 2, 1) := by decide +kernel
theorem dMod_unsound_52 : decode bMod_unsound 52 = .ok (.invokevirtual 144, 3) := by decide +kernel
theorem dMod_unsound_55 : decode bMod_unsound 55 = .ok (.istore_n 3, 1) := by decide +kernel
theorem dMod_unsound_56 : decode bMod_unsound 56 = .ok (.iload_n 3, 1) := by decide +kernel
theorem dMod_unsound_57 : decode bMod_unsound 57 = .ok (.aload_n 0, 1) := by decide +kernel
theorem dMod_unsound_58 : decode bMod_unsound 58 = .ok (.iload_n 2, 1) := by decide +kernel
theorem dMod_unsound_59 : decode bMod_unsound 59 = .ok (.iload_n 1, 1) := by decide +kernel
theorem dMod_unsound_60 : decode bMod_unsound 60 = .ok (.invokevirtual 144, 3) := by decide +kernel
theorem dMod_unsound_63 : decode bMod_unsound 63 = .ok (.if_icmp .eq 5, 3) := by decide +kernel
theorem dMod_unsound_66 : decode bMod_unsound 66 = .ok (.iconst 2, 1) := by decide +kernel
theorem dMod_unsound_67 : decode bMod_unsound 67 = .ok (.ireturn, 1) := by decide +kernel
theorem dMod_unsound_68 : decode bMod_unsound 68 = .ok (.iload_n 3, 1) := by decide +kernel
theorem dMod_unsound_69 : decode bMod_unsound 69 = .ok (.ifCond .eq 18, 3) := by decide +kernel
theorem dMod_unsound_72 : decode bMod_unsound 72 = .ok (.aload_n 0, 1) := by decide +kernel
theorem dMod_unsound_73 : decode bMod_unsound 73 = .ok (.iload_n 1, 1) := by decide +kernel
theorem dMod_unsound_74 : decode bMod_unsound 74 = .ok (.invokevirtual 147, 3) := by decide +kernel
theorem dMod_unsound_77 : decode bMod_unsound 77 = .ok (.aload_n 0, 1) := by decide +kernel
theorem dMod_unsound_78 : decode bMod_unsound 78 = .ok (.iload_n 2, 1) := by decide +kernel
theorem dMod_unsound_79 : decode bMod_unsound 79 = .ok (.invokevirtual 147, 3) := by decide +kernel
theorem dMod_unsound_82 : decode bMod_unsound 82 = .ok (.if_icmp .eq 5, 3) := by decide +kernel
theorem dMod_unsound_85 : decode bMod_unsound 85 = .ok (.iconst 3, 1) := by decide +kernel
theorem dMod_unsound_86 : decode bMod_unsound 86 = .ok (.ireturn, 1) := by decide +kernel
theorem dMod_unsound_87 : decode bMod_unsound 87 = .ok (.iinc 2 1, 3) := by decide +kernel
theorem dMod_unsound_90 : decode bMod_unsound 90 = .ok (.goto (-49), 3) := by decide +kernel
theorem dMod_unsound_93 : decode bMod_unsound 93 = .ok (.iinc 1 1, 3) := by decide +kernel
theorem dMod_unsound_96 : decode bMod_unsound 96 = .ok (.goto (-67), 3) := by decide +kernel
theorem dMod_unsound_99 : decode bMod_unsound 99 = .ok (.iconst 0, 1) := by decide +kernel
theorem dMod_unsound_100 : decode bMod_unsound 100 = .ok (.ireturn, 1) := by decide +kernel
def wbMod_unsound_87 (post : Int32 → zM → Prop) (L29 : (Int32 × zM) → Prop) (L41 : (Int32 × Int32 × zM) → Prop) (v1 : Int32) (v2 : Int32) (h : zM) : Prop := L41 (v1, (v2 + 1), h)
def stMod_unsound_41 (post : Int32 → zM → Prop) (L29 : (Int32 × zM) → Prop) (L41 : (Int32 × Int32 × zM) → Prop) : (Int32 × Int32 × zM) → Prop := fun s => match s with
  | (v1, v2, h) => ((((h 0 25) ≤ v2) → L29 ((v1 + 1), h)) ∧ (¬ ((h 0 25) ≤ v2) → wpMod_equal v1 v2 h (fun r52 h52 => wpMod_equal v2 v1 h52 (fun r60 h60 => ((r52 = r60 → ((r52 = 0 → wbMod_unsound_87 post L29 L41 v1 v2 h60) ∧ (¬ r52 = 0 → wpMod_codeOf v1 h60 (fun r74 h74 => wpMod_codeOf v2 h74 (fun r79 h79 => ((r74 = r79 → wbMod_unsound_87 post L29 L41 v1 v2 h79) ∧ (¬ r74 = r79 → post 3 h79))))))) ∧ (¬ r52 = r60 → post 2 h60))))))
def stMod_unsound_29 (post : Int32 → zM → Prop) (L29 : (Int32 × zM) → Prop) : (Int32 × zM) → Prop := fun s => match s with
  | (v1, h) => ((((h 0 25) ≤ v1) → post 0 h) ∧ (¬ ((h 0 25) ≤ v1) → ∀ y40 : Int32, y40 = (v1 + 1) → zL (stMod_unsound_41 post L29) (v1, y40, h)))
def stMod_unsound_2 (post : Int32 → zM → Prop) (L2 : (Int32 × zM) → Prop) : (Int32 × zM) → Prop := fun s => match s with
  | (v1, h) => ((((h 0 25) ≤ v1) → zL (stMod_unsound_29 post) (0, h)) ∧ (¬ ((h 0 25) ≤ v1) → wpMod_equal v1 v1 h (fun r13 h13 => ((¬ r13 = 0 → L2 ((v1 + 1), h13)) ∧ (r13 = 0 → post 1 h13)))))
def wpMod_unsound (h : zM) (post : Int32 → zM → Prop) : Prop := zL (stMod_unsound_2 post) (0, h)
abbrev rmMod_unsound : Room := { frames := 2, cells := 0, slots := 0, locals := 50 }
set_option maxHeartbeats 4000000 in
set_option maxRecDepth 100000 in
theorem cMod_unsound (l : Launch) (D : va_G) (cI cC cE : ClassId) (ad : Nat → Nat) (A : Nat → Prop) (hJ : zJ A 28 ad) (h : zM) (post : Int32 → zM → Prop) (hw : wpMod_unsound h post) : Met l yMod_unsound (.code yMod_unsound bMod_unsound 4 (some .int) :: zt) rmMod_unsound (va_Pc [.ref (ad 0)] (zPre D (zty cI cC cE) 28 ad (mF ad cI) A h)) (va_Qi post (zPst D (zty cI cC cE) 28 ad (mF ad cI)) A) 0 0 A := by
  refine Met.ofW (cc := bMod_unsound) (maxL := 4) (ret := (some .int)) (by decide) rfl ?_
  intro p e s m args below meth c s₁ B hml hv
  obtain ⟨rfl, hP, hK, hT, hN⟩ := hv
  have hr := B.returns
  have hlk := B.notSynchronized
  have S : zS p m c bMod_unsound 4 s _ "CallExplorerModel" := ⟨B.exec, B.bytes, hml, findClass_of_methodNamed B.named, fun w hw => atoms_spec (ws := .code yMod_unsound bMod_unsound 4 (some .int) :: zt) B.pre w (List.mem_cons_of_mem _ hw)⟩
  have hS : va_S A s.heap s.heap [] := va_S.rf
  have hl := lv_entry ([.ref (ad 0)]) (n := 4) (Nat.le_of_ble_eq_true rfl)
  rw [lg_entry_eq]
  generalize (lg_sl ([.ref (ad 0)]) ++ List.replicate (4 - (lg_sl ([.ref (ad 0)])).length) Slot.unset).toArray = ls at hl ⊢
  have hl : lv_has ls 4 [(0, .ref (ad 0))] := hl
  show W p l e rmMod_unsound s m ([.ref (ad 0)] : List Value).toArray below meth c s.heap [] 0 0 (zQi post D (zty cI cC cE) 28 ad (mF ad cI) A below ([.ref (ad 0)] : List Value).toArray s) _
  have J29 : ∀ (fu : Nat) (v1 : Int32) (h : zM) (H : Heap) (locs : List Loc) (ls : Array Slot), zl (stMod_unsound_29 post) fu (v1, h) → lv_has ls 4 [(0, .ref (ad 0)), (1, .int v1)] → va_P D zcl (zW 28 ad (mF ad cI) h) H → va_S A s.heap H locs → W p l e rmMod_unsound s m ([.ref (ad 0)] : List Value).toArray below meth c H locs 0 0 (zQi post D (zty cI cC cE) 28 ad (mF ad cI) A below ([.ref (ad 0)] : List Value).toArray s) (F0 m 29 ls []) := by
    intro fu29
    induction fu29 with
    | zero =>
      intro v1 h H locs ls hw
      exact (zl_0 hw).elim
    | succ fu29 ih29 =>
      intro v1 h H locs ls hw hl hP hS
      have hw := zl_s hw
      generalize zl (stMod_unsound_29 post) fu29 = L29 at hw ih29
      have J41 : ∀ (fu : Nat) (v1 : Int32) (v2 : Int32) (h : zM) (H : Heap) (locs : List Loc) (ls : Array Slot), zl (stMod_unsound_41 post L29) fu (v1, v2, h) → lv_has ls 4 [(0, .ref (ad 0)), (1, .int v1), (2, .int v2)] → va_P D zcl (zW 28 ad (mF ad cI) h) H → va_S A s.heap H locs → W p l e rmMod_unsound s m ([.ref (ad 0)] : List Value).toArray below meth c H locs 0 0 (zQi post D (zty cI cC cE) 28 ad (mF ad cI) A below ([.ref (ad 0)] : List Value).toArray s) (F0 m 41 ls []) := by
        intro fu41
        induction fu41 with
        | zero =>
          intro v1 v2 h H locs ls hw
          exact (zl_0 hw).elim
        | succ fu41 ih41 =>
          intro v1 v2 h H locs ls hw hl hP hS
          have hw := zl_s hw
          generalize zl (stMod_unsound_41 post L29) fu41 = L41 at hw ih41
          have J87 : ∀ (v1 : Int32) (v2 : Int32) (h : zM) (H : Heap) (locs : List Loc) (ls : Array Slot), wbMod_unsound_87 post L29 L41 v1 v2 h → lv_has ls 4 [(0, .ref (ad 0)), (1, .int v1), (2, .int v2)] → va_P D zcl (zW 28 ad (mF ad cI) h) H → va_S A s.heap H locs → W p l e rmMod_unsound s m ([.ref (ad 0)] : List Value).toArray below meth c H locs 0 0 (zQi post D (zty cI cC cE) 28 ad (mF ad cI) A below ([.ref (ad 0)] : List Value).toArray s) (F0 m 87 ls []) := by
            intro v1 v2 h H locs ls hw hl hP hS
            unfold wbMod_unsound_87 at hw
            refine lv_iinc (v := (v2 + 1)) (lv' := [(2, .int (v2 + 1)), (0, .ref (ad 0)), (1, .int v1)]) (k := 2) S.1 S.2.1 dMod_unsound_87 hl rfl rfl (by decide) rfl (fun ls hl => ?_)
            refine lv_goto S.1 S.2.1 dMod_unsound_90 rfl ?_
            exact ih41 _ _ _ _ _ _ hw (lv_sub hl [1, 2, 0] rfl) hP hS
          unfold stMod_unsound_41 at hw
          dsimp only at hw
          refine lv_iload_n S.1 S.2.1 dMod_unsound_41 rfl (lv_at hl 2 rfl) ?_
          refine lv_aload_n S.1 S.2.1 dMod_unsound_42 rfl (lv_at hl 0 rfl) ?_
          refine zr_get S hK hP (by decide) (mF_0 _) fMod_objects q853 rfl dMod_unsound_43 ?_
          refine lv_icmp_ge S.1 S.2.1 dMod_unsound_46 rfl (fun hc => ?_) (fun hc => ?_)
          · have hw := hw.1 hc
            refine lv_iinc (v := (v1 + 1)) (lv' := [(1, .int (v1 + 1)), (0, .ref (ad 0)), (2, .int v2)]) (k := 1) S.1 S.2.1 dMod_unsound_93 hl rfl rfl (by decide) rfl (fun ls hl => ?_)
            refine lv_goto S.1 S.2.1 dMod_unsound_96 rfl ?_
            exact ih29 _ _ _ _ _ hw (lv_sub hl [1, 0] rfl) hP hS
          · have hw := hw.2 hc
            refine lv_aload_n S.1 S.2.1 dMod_unsound_49 rfl (lv_at hl 0 rfl) ?_
            refine lv_iload_n S.1 S.2.1 dMod_unsound_50 rfl (lv_at hl 1 rfl) ?_
            refine lv_iload_n S.1 S.2.1 dMod_unsound_51 rfl (lv_at hl 2 rfl) ?_
            refine zr_i (zr_V (As := [.int v1, .int v2]) (rest := []) S hK hT hN hP hS (by decide) (mF_0 _) rfl (cMod_equal l D cI cC cE ad A hJ _ _ _ _ hw) caMod_144 ⟨Nat.le_of_ble_eq_true rfl, Nat.le_of_ble_eq_true rfl⟩ ⟨rfl, rfl⟩ rfl hl.1 rfl (Nat.le_of_ble_eq_true rfl) dMod_unsound_52) hS (fun r52 h52 H locs hw hP hS => ?_)
            refine lv_istore_n (lv' := [(3, .int r52), (0, .ref (ad 0)), (1, .int v1), (2, .int v2)]) S.1 S.2.1 dMod_unsound_55 rfl hl (by decide) rfl (fun ls hl => ?_)
            refine lv_iload_n S.1 S.2.1 dMod_unsound_56 rfl (lv_at hl 0 rfl) ?_
            refine lv_aload_n S.1 S.2.1 dMod_unsound_57 rfl (lv_at hl 1 rfl) ?_
            refine lv_iload_n S.1 S.2.1 dMod_unsound_58 rfl (lv_at hl 3 rfl) ?_
            refine lv_iload_n S.1 S.2.1 dMod_unsound_59 rfl (lv_at hl 2 rfl) ?_
            refine zr_i (zr_V (As := [.int v2, .int v1]) (rest := [.int r52]) S hK hT hN hP hS (by decide) (mF_0 _) rfl (cMod_equal l D cI cC cE ad A hJ _ _ _ _ hw) caMod_144 ⟨Nat.le_of_ble_eq_true rfl, Nat.le_of_ble_eq_true rfl⟩ ⟨rfl, rfl⟩ rfl hl.1 rfl (Nat.le_of_ble_eq_true rfl) dMod_unsound_60) hS (fun r60 h60 H locs hw hP hS => ?_)
            refine lv_icmp_eq S.1 S.2.1 dMod_unsound_63 rfl (fun hc => ?_) (fun hc => ?_)
            · have hw := hw.1 hc
              refine lv_iload_n S.1 S.2.1 dMod_unsound_68 rfl (lv_at hl 0 rfl) ?_
              refine lv_if_eq S.1 S.2.1 dMod_unsound_69 rfl (fun hc => ?_) (fun hc => ?_)
              · have hw := hw.1 hc
                exact J87 _ _ _ _ _ _ hw (lv_sub hl [1, 2, 3] rfl) hP hS
              · have hw := hw.2 hc
                refine lv_aload_n S.1 S.2.1 dMod_unsound_72 rfl (lv_at hl 1 rfl) ?_
                refine lv_iload_n S.1 S.2.1 dMod_unsound_73 rfl (lv_at hl 2 rfl) ?_
                refine zr_i (zr_V (As := [.int v1]) (rest := []) S hK hT hN hP hS (by decide) (mF_0 _) rfl (cMod_codeOf l D cI cC cE ad A hJ _ _ _ hw) caMod_147 ⟨Nat.le_of_ble_eq_true rfl, Nat.le_of_ble_eq_true rfl⟩ ⟨rfl, rfl⟩ rfl hl.1 rfl (Nat.le_of_ble_eq_true rfl) dMod_unsound_74) hS (fun r74 h74 H locs hw hP hS => ?_)
                refine lv_aload_n S.1 S.2.1 dMod_unsound_77 rfl (lv_at hl 1 rfl) ?_
                refine lv_iload_n S.1 S.2.1 dMod_unsound_78 rfl (lv_at hl 3 rfl) ?_
                refine zr_i (zr_V (As := [.int v2]) (rest := [.int r74]) S hK hT hN hP hS (by decide) (mF_0 _) rfl (cMod_codeOf l D cI cC cE ad A hJ _ _ _ hw) caMod_147 ⟨Nat.le_of_ble_eq_true rfl, Nat.le_of_ble_eq_true rfl⟩ ⟨rfl, rfl⟩ rfl hl.1 rfl (Nat.le_of_ble_eq_true rfl) dMod_unsound_79) hS (fun r79 h79 H locs hw hP hS => ?_)
                refine lv_icmp_eq S.1 S.2.1 dMod_unsound_82 rfl (fun hc => ?_) (fun hc => ?_)
                · have hw := hw.1 hc
                  exact J87 _ _ _ _ _ _ hw (lv_sub hl [1, 2, 3] rfl) hP hS
                · have hw := hw.2 hc
                  refine lv_iconst (v := 3) S.1 S.2.1 dMod_unsound_85 (by decide) ?_
                  exact zr_iret S hr hlk hK hP hS rfl hw dMod_unsound_86
            · have hw := hw.2 hc
              refine lv_iconst (v := 2) S.1 S.2.1 dMod_unsound_66 (by decide) ?_
              exact zr_iret S hr hlk hK hP hS rfl hw dMod_unsound_67
      unfold stMod_unsound_29 at hw
      dsimp only at hw
      refine lv_iload_n S.1 S.2.1 dMod_unsound_29 rfl (lv_at hl 1 rfl) ?_
      refine lv_aload_n S.1 S.2.1 dMod_unsound_30 rfl (lv_at hl 0 rfl) ?_
      refine zr_get S hK hP (by decide) (mF_0 _) fMod_objects q853 rfl dMod_unsound_31 ?_
      refine lv_icmp_ge S.1 S.2.1 dMod_unsound_34 rfl (fun hc => ?_) (fun hc => ?_)
      · have hw := hw.1 hc
        refine lv_iconst (v := 0) S.1 S.2.1 dMod_unsound_99 (by decide) ?_
        exact zr_iret S hr hlk hK hP hS rfl hw dMod_unsound_100
      · have hw := hw.2 hc
        refine lv_iload_n S.1 S.2.1 dMod_unsound_37 rfl (lv_at hl 1 rfl) ?_
        refine lv_iconst (v := 1) S.1 S.2.1 dMod_unsound_38 (by decide) ?_
        refine lv_iadd S.1 S.2.1 dMod_unsound_39 ?_
        refine lv_topi (fun y40 e40 => ?_)
        have hw := hw y40 e40
        refine lv_istore_n (lv' := [(2, .int y40), (0, .ref (ad 0)), (1, .int v1)]) S.1 S.2.1 dMod_unsound_40 rfl hl (by decide) rfl (fun ls hl => ?_)
        obtain ⟨fu, hw⟩ := hw
        exact J41 fu _ _ _ _ _ _ hw (lv_sub hl [1, 2, 0] rfl) hP hS
  have J2 : ∀ (fu : Nat) (v1 : Int32) (h : zM) (H : Heap) (locs : List Loc) (ls : Array Slot), zl (stMod_unsound_2 post) fu (v1, h) → lv_has ls 4 [(0, .ref (ad 0)), (1, .int v1)] → va_P D zcl (zW 28 ad (mF ad cI) h) H → va_S A s.heap H locs → W p l e rmMod_unsound s m ([.ref (ad 0)] : List Value).toArray below meth c H locs 0 0 (zQi post D (zty cI cC cE) 28 ad (mF ad cI) A below ([.ref (ad 0)] : List Value).toArray s) (F0 m 2 ls []) := by
    intro fu2
    induction fu2 with
    | zero =>
      intro v1 h H locs ls hw
      exact (zl_0 hw).elim
    | succ fu2 ih2 =>
      intro v1 h H locs ls hw hl hP hS
      have hw := zl_s hw
      generalize zl (stMod_unsound_2 post) fu2 = L2 at hw ih2
      unfold stMod_unsound_2 at hw
      dsimp only at hw
      refine lv_iload_n S.1 S.2.1 dMod_unsound_2 rfl (lv_at hl 1 rfl) ?_
      refine lv_aload_n S.1 S.2.1 dMod_unsound_3 rfl (lv_at hl 0 rfl) ?_
      refine zr_get S hK hP (by decide) (mF_0 _) fMod_objects q853 rfl dMod_unsound_4 ?_
      refine lv_icmp_ge S.1 S.2.1 dMod_unsound_7 rfl (fun hc => ?_) (fun hc => ?_)
      · have hw := hw.1 hc
        refine lv_iconst (v := 0) S.1 S.2.1 dMod_unsound_27 (by decide) ?_
        refine lv_istore_n (lv' := [(1, .int 0), (0, .ref (ad 0))]) S.1 S.2.1 dMod_unsound_28 rfl hl (by decide) rfl (fun ls hl => ?_)
        obtain ⟨fu, hw⟩ := hw
        exact J29 fu _ _ _ _ _ hw (lv_sub hl [1, 0] rfl) hP hS
      · have hw := hw.2 hc
        refine lv_aload_n S.1 S.2.1 dMod_unsound_10 rfl (lv_at hl 0 rfl) ?_
        refine lv_iload_n S.1 S.2.1 dMod_unsound_11 rfl (lv_at hl 1 rfl) ?_
        refine lv_iload_n S.1 S.2.1 dMod_unsound_12 rfl (lv_at hl 1 rfl) ?_
        refine zr_i (zr_V (As := [.int v1, .int v1]) (rest := []) S hK hT hN hP hS (by decide) (mF_0 _) rfl (cMod_equal l D cI cC cE ad A hJ _ _ _ _ hw) caMod_144 ⟨Nat.le_of_ble_eq_true rfl, Nat.le_of_ble_eq_true rfl⟩ ⟨rfl, rfl⟩ rfl hl.1 rfl (Nat.le_of_ble_eq_true rfl) dMod_unsound_13) hS (fun r13 h13 H locs hw hP hS => ?_)
        refine lv_if_ne S.1 S.2.1 dMod_unsound_16 rfl (fun hc => ?_) (fun hc => ?_)
        · have hw := hw.1 hc
          refine lv_iinc (v := (v1 + 1)) (lv' := [(1, .int (v1 + 1)), (0, .ref (ad 0))]) (k := 1) S.1 S.2.1 dMod_unsound_21 hl rfl rfl (by decide) rfl (fun ls hl => ?_)
          refine lv_goto S.1 S.2.1 dMod_unsound_24 rfl ?_
          exact ih2 _ _ _ _ _ hw (lv_sub hl [1, 0] rfl) hP hS
        · have hw := hw.2 hc
          refine lv_iconst (v := 1) S.1 S.2.1 dMod_unsound_19 (by decide) ?_
          exact zr_iret S hr hlk hK hP hS rfl hw dMod_unsound_20
  unfold wpMod_unsound at hw
  refine lv_iconst (v := 0) S.1 S.2.1 dMod_unsound_0 (by decide) ?_
  refine lv_istore_n (lv' := [(1, .int 0), (0, .ref (ad 0))]) S.1 S.2.1 dMod_unsound_1 rfl hl (by decide) rfl (fun ls hl => ?_)
  obtain ⟨fu, hw⟩ := hw
  exact J2 fu _ _ _ _ _ hw (lv_sub hl [1, 0] rfl) hP hS
/-! Mod.hadNull -/
theorem dMod_hadNull_0 : decode bMod_hadNull 0 = .ok (.iconst 0, 1) := by decide +kernel
theorem dMod_hadNull_1 : decode bMod_hadNull 1 = .ok (.istore_n 2, 1) := by decide +kernel
theorem dMod_hadNull_2 : decode bMod_hadNull 2 = .ok (.iconst 0, 1) := by decide +kernel
theorem dMod_hadNull_3 : decode bMod_hadNull 3 = .ok (.istore_n 3, 1) := by decide +kernel
theorem dMod_hadNull_4 : decode bMod_hadNull 4 = .ok (.iload_n 3, 1) := by decide +kernel
theorem dMod_hadNull_5 : decode bMod_hadNull 5 = .ok (.aload_n 0, 1) := by decide +kernel
theorem dMod_hadNull_6 : decode bMod_hadNull 6 = .ok (.getfield 19, 3) := by decide +kernel
theorem dMod_hadNull_9 : decode bMod_hadNull 9 = .ok (.aload_n 0, 1) := by decide +kernel
theorem dMod_hadNull_10 : decode bMod_hadNull 10 = .ok (.getfield 35, 3) := by decide +kernel
theorem dMod_hadNull_13 : decode bMod_hadNull 13 = .ok (.iload_n 1, 1) := by decide +kernel
theorem dMod_hadNull_14 : decode bMod_hadNull 14 = .ok (.iaload, 1) := by decide +kernel
theorem dMod_hadNull_15 : decode bMod_hadNull 15 = .ok (.iaload, 1) := by decide +kernel
theorem dMod_hadNull_16 : decode bMod_hadNull 16 = .ok (.invokestatic 122, 3) := by decide +kernel
theorem dMod_hadNull_19 : decode bMod_hadNull 19 = .ok (.if_icmp .ge 42, 3) := by decide +kernel
theorem dMod_hadNull_22 : decode bMod_hadNull 22 = .ok (.iload_n 2, 1) := by decide +kernel
theorem dMod_hadNull_23 : decode bMod_hadNull 23 = .ok (.ifCond .ne 26, 3) := by decide +kernel
theorem dMod_hadNull_26 : decode bMod_hadNull 26 = .ok (.aload_n 0, 1) := by decide +kernel
theorem dMod_hadNull_27 : decode bMod_hadNull 27 = .ok (.aload_n 0, 1) := by decide +kernel
theorem dMod_hadNull_28 : decode bMod_hadNull 28 = .ok (.getfield 35, 3) := by decide +kernel
theorem dMod_hadNull_31 : decode bMod_hadNull 31 = .ok (.iload_n 1, 1) := by decide +kernel
theorem dMod_hadNull_32 : decode bMod_hadNull 32 = .ok (.iaload, 1) := by decide +kernel
theorem dMod_hadNull_33 : decode bMod_hadNull 33 = .ok (.iload_n 3, 1) := by decide +kernel
theorem dMod_hadNull_34 : decode bMod_hadNull 34 = .ok (.invokevirtual 150, 3) := by decide +kernel
theorem dMod_hadNull_37 : decode bMod_hadNull 37 = .ok (.ifCond .le 16, 3) := by decide +kernel
theorem dMod_hadNull_40 : decode bMod_hadNull 40 = .ok (.aload_n 0, 1) := by decide +kernel
theorem dMod_hadNull_41 : decode bMod_hadNull 41 = .ok (.iload_n 1, 1) := by decide +kernel
theorem dMod_hadNull_42 : decode bMod_hadNull 42 = .ok (.iload_n 3, 1) := by decide +kernel
theorem dMod_hadNull_43 : decode bMod_hadNull 43 = .ok (.invokevirtual 118, 3) := by decide +kernel
theorem dMod_hadNull_46 : decode bMod_hadNull 46 = .ok (.ifCond .ge 7, 3) := by decide +kernel
theorem dMod_hadNull_49 : decode bMod_hadNull 49 = .ok (.iconst 1, 1) := by decide +kernel
theorem dMod_hadNull_50 : decode bMod_hadNull 50 = .ok (.goto 4, 3) := by decide +kernel
theorem dMod_hadNull_53 : decode bMod_hadNull 53 = .ok (.iconst 0, 1) := by decide +kernel
theorem dMod_hadNull_54 : decode bMod_hadNull 54 = .ok (.istore_n 2, 1) := by decide +kernel
theorem dMod_hadNull_55 : decode bMod_hadNull 55 = .ok (.iinc 3 1, 3) := by decide +kernel
theorem dMod_hadNull_58 : decode bMod_hadNull 58 = .ok (.goto (-54), 3) := by decide +kernel
theorem dMod_hadNull_61 : decode bMod_hadNull 61 = .ok (.iload_n 2, 1) := by decide +kernel
theorem dMod_hadNull_62 : decode bMod_hadNull 62 = .ok (.ireturn, 1) := by decide +kernel
def wbMod_hadNull_54 (post : Int32 → zM → Prop) (L4 : (Int32 × Int32 × Int32 × zM) → Prop) (v1 : Int32) (v3 : Int32) (k0 : Int32) (h : zM) : Prop := L4 (v1, k0, (v3 + 1), h)
def wbMod_hadNull_49 (post : Int32 → zM → Prop) (L4 : (Int32 × Int32 × Int32 × zM) → Prop) (v1 : Int32) (v3 : Int32) (h : zM) : Prop := wbMod_hadNull_54 post L4 v1 v3 1 h
def wbMod_hadNull_53 (post : Int32 → zM → Prop) (L4 : (Int32 × Int32 × Int32 × zM) → Prop) (v1 : Int32) (v3 : Int32) (h : zM) : Prop := wbMod_hadNull_54 post L4 v1 v3 0 h
def stMod_hadNull_4 (post : Int32 → zM → Prop) (L4 : (Int32 × Int32 × Int32 × zM) → Prop) : (Int32 × Int32 × Int32 × zM) → Prop := fun s => match s with
  | (v1, v2, v3, h) => (vp_in v1 20 ∧ (vp_in (h 8 (Int32.toNatClampNeg v1)) 10 ∧ wpMod_arity (h 4 (Int32.toNatClampNeg (h 8 (Int32.toNatClampNeg v1)))) h (fun r16 h16 => (((r16 ≤ v3) → ((v2 = 0 ∨ v2 = 1) ∧ post v2 h16)) ∧ (¬ (r16 ≤ v3) → ((¬ v2 = 0 → wbMod_hadNull_49 post L4 v1 v3 h16) ∧ (v2 = 0 → (vp_in v1 20 ∧ wpMod_wants (h16 8 (Int32.toNatClampNeg v1)) v3 h16 (fun r34 h34 => (((r34 ≤ 0) → wbMod_hadNull_53 post L4 v1 v3 h34) ∧ (¬ (r34 ≤ 0) → wpMod_valueOf v1 v3 h34 (fun r43 h43 => (((0 ≤ r43) → wbMod_hadNull_53 post L4 v1 v3 h43) ∧ (¬ (0 ≤ r43) → wbMod_hadNull_49 post L4 v1 v3 h43))))))))))))))
def wpMod_hadNull (x1 : Int32) (h : zM) (post : Int32 → zM → Prop) : Prop := zL (stMod_hadNull_4 post) (x1, 0, 0, h)
abbrev rmMod_hadNull : Room := { frames := 1, cells := 0, slots := 0, locals := 23 }
set_option maxHeartbeats 4000000 in
set_option maxRecDepth 100000 in
theorem cMod_hadNull (l : Launch) (D : va_G) (cI cC cE : ClassId) (ad : Nat → Nat) (A : Nat → Prop) (hJ : zJ A 28 ad) (x1 : Int32) (h : zM) (post : Int32 → zM → Prop) (hw : wpMod_hadNull x1 h post) : Met l yMod_hadNull (.code yMod_hadNull bMod_hadNull 4 (some .boolean) :: zt) rmMod_hadNull (va_Pc [.ref (ad 0), .int x1] (zPre D (zty cI cC cE) 28 ad (mF ad cI) A h)) (va_Qi post (zPst D (zty cI cC cE) 28 ad (mF ad cI)) A) 0 0 A := by
  refine Met.ofW (cc := bMod_hadNull) (maxL := 4) (ret := (some .boolean)) (by decide) rfl ?_
  intro p e s m args below meth c s₁ B hml hv
  obtain ⟨rfl, hP, hK, hT, hN⟩ := hv
  have hr := B.returns
  have hlk := B.notSynchronized
  have S : zS p m c bMod_hadNull 4 s _ "CallExplorerModel" := ⟨B.exec, B.bytes, hml, findClass_of_methodNamed B.named, fun w hw => atoms_spec (ws := .code yMod_hadNull bMod_hadNull 4 (some .boolean) :: zt) B.pre w (List.mem_cons_of_mem _ hw)⟩
  have hS : va_S A s.heap s.heap [] := va_S.rf
  have hl := lv_entry ([.ref (ad 0), .int x1]) (n := 4) (Nat.le_of_ble_eq_true rfl)
  rw [lg_entry_eq]
  generalize (lg_sl ([.ref (ad 0), .int x1]) ++ List.replicate (4 - (lg_sl ([.ref (ad 0), .int x1])).length) Slot.unset).toArray = ls at hl ⊢
  have hl : lv_has ls 4 [(0, .ref (ad 0)), (1, .int x1)] := hl
  show W p l e rmMod_hadNull s m ([.ref (ad 0), .int x1] : List Value).toArray below meth c s.heap [] 0 0 (zQi post D (zty cI cC cE) 28 ad (mF ad cI) A below ([.ref (ad 0), .int x1] : List Value).toArray s) _
  have J4 : ∀ (fu : Nat) (v1 : Int32) (v2 : Int32) (v3 : Int32) (h : zM) (H : Heap) (locs : List Loc) (ls : Array Slot), zl (stMod_hadNull_4 post) fu (v1, v2, v3, h) → lv_has ls 4 [(0, .ref (ad 0)), (1, .int v1), (2, .int v2), (3, .int v3)] → va_P D zcl (zW 28 ad (mF ad cI) h) H → va_S A s.heap H locs → W p l e rmMod_hadNull s m ([.ref (ad 0), .int x1] : List Value).toArray below meth c H locs 0 0 (zQi post D (zty cI cC cE) 28 ad (mF ad cI) A below ([.ref (ad 0), .int x1] : List Value).toArray s) (F0 m 4 ls []) := by
    intro fu4
    induction fu4 with
    | zero =>
      intro v1 v2 v3 h H locs ls hw
      exact (zl_0 hw).elim
    | succ fu4 ih4 =>
      intro v1 v2 v3 h H locs ls hw hl hP hS
      have hw := zl_s hw
      generalize zl (stMod_hadNull_4 post) fu4 = L4 at hw ih4
      have J54 : ∀ (v1 : Int32) (v3 : Int32) (k0 : Int32) (h : zM) (H : Heap) (locs : List Loc) (ls : Array Slot), wbMod_hadNull_54 post L4 v1 v3 k0 h → lv_has ls 4 [(0, .ref (ad 0)), (1, .int v1), (3, .int v3)] → va_P D zcl (zW 28 ad (mF ad cI) h) H → va_S A s.heap H locs → W p l e rmMod_hadNull s m ([.ref (ad 0), .int x1] : List Value).toArray below meth c H locs 0 0 (zQi post D (zty cI cC cE) 28 ad (mF ad cI) A below ([.ref (ad 0), .int x1] : List Value).toArray s) (F0 m 54 ls [.int k0]) := by
        intro v1 v3 k0 h H locs ls hw hl hP hS
        unfold wbMod_hadNull_54 at hw
        refine lv_istore_n (lv' := [(2, .int k0), (0, .ref (ad 0)), (1, .int v1), (3, .int v3)]) S.1 S.2.1 dMod_hadNull_54 rfl hl (by decide) rfl (fun ls hl => ?_)
        refine lv_iinc (v := (v3 + 1)) (lv' := [(3, .int (v3 + 1)), (2, .int k0), (0, .ref (ad 0)), (1, .int v1)]) (k := 3) S.1 S.2.1 dMod_hadNull_55 hl rfl rfl (by decide) rfl (fun ls hl => ?_)
        refine lv_goto S.1 S.2.1 dMod_hadNull_58 rfl ?_
        exact ih4 _ _ _ _ _ _ _ hw (lv_sub hl [2, 3, 1, 0] rfl) hP hS
      have J49 : ∀ (v1 : Int32) (v3 : Int32) (h : zM) (H : Heap) (locs : List Loc) (ls : Array Slot), wbMod_hadNull_49 post L4 v1 v3 h → lv_has ls 4 [(0, .ref (ad 0)), (1, .int v1), (3, .int v3)] → va_P D zcl (zW 28 ad (mF ad cI) h) H → va_S A s.heap H locs → W p l e rmMod_hadNull s m ([.ref (ad 0), .int x1] : List Value).toArray below meth c H locs 0 0 (zQi post D (zty cI cC cE) 28 ad (mF ad cI) A below ([.ref (ad 0), .int x1] : List Value).toArray s) (F0 m 49 ls []) := by
        intro v1 v3 h H locs ls hw hl hP hS
        unfold wbMod_hadNull_49 at hw
        refine lv_iconst (v := 1) S.1 S.2.1 dMod_hadNull_49 (by decide) ?_
        refine lv_goto S.1 S.2.1 dMod_hadNull_50 rfl ?_
        exact J54 _ _ _ _ _ _ _ hw (lv_sub hl [0, 1, 2] rfl) hP hS
      have J53 : ∀ (v1 : Int32) (v3 : Int32) (h : zM) (H : Heap) (locs : List Loc) (ls : Array Slot), wbMod_hadNull_53 post L4 v1 v3 h → lv_has ls 4 [(0, .ref (ad 0)), (1, .int v1), (3, .int v3)] → va_P D zcl (zW 28 ad (mF ad cI) h) H → va_S A s.heap H locs → W p l e rmMod_hadNull s m ([.ref (ad 0), .int x1] : List Value).toArray below meth c H locs 0 0 (zQi post D (zty cI cC cE) 28 ad (mF ad cI) A below ([.ref (ad 0), .int x1] : List Value).toArray s) (F0 m 53 ls []) := by
        intro v1 v3 h H locs ls hw hl hP hS
        unfold wbMod_hadNull_53 at hw
        refine lv_iconst (v := 0) S.1 S.2.1 dMod_hadNull_53 (by decide) ?_
        exact J54 _ _ _ _ _ _ _ hw (lv_sub hl [0, 1, 2] rfl) hP hS
      unfold stMod_hadNull_4 at hw
      dsimp only at hw
      refine lv_iload_n S.1 S.2.1 dMod_hadNull_4 rfl (lv_at hl 3 rfl) ?_
      refine lv_aload_n S.1 S.2.1 dMod_hadNull_5 rfl (lv_at hl 0 rfl) ?_
      refine zr_get S hK hP (by decide) (mF_0 _) fMod_kind q834 rfl dMod_hadNull_6 ?_
      refine lv_aload_n S.1 S.2.1 dMod_hadNull_9 rfl (lv_at hl 0 rfl) ?_
      refine zr_get S hK hP (by decide) (mF_0 _) fMod_op q840 rfl dMod_hadNull_10 ?_
      refine lv_iload_n S.1 S.2.1 dMod_hadNull_13 rfl (lv_at hl 1 rfl) ?_
      obtain ⟨z14, hw⟩ := hw
      refine zr_ald S hK hP (by decide) (mF_8 _) 0 rfl z14 dMod_hadNull_14 ?_
      obtain ⟨z15, hw⟩ := hw
      refine zr_ald S hK hP (by decide) (mF_4 _) 0 rfl z15 dMod_hadNull_15 ?_
      refine zr_i (zr_T (As := [.int (h 4 (Int32.toNatClampNeg (h 8 (Int32.toNatClampNeg v1))))]) (rest := [.int v3]) S hK hT hN hP hS (cMod_arity l D cI cC cE ad A hJ _ _ _ hw) caMod_122 ⟨Nat.le_of_ble_eq_true rfl, Nat.le_of_ble_eq_true rfl⟩ ⟨rfl, rfl⟩ rfl hl.1 rfl (Nat.le_of_ble_eq_true rfl) dMod_hadNull_16) hS (fun r16 h16 H locs hw hP hS => ?_)
      refine lv_icmp_ge S.1 S.2.1 dMod_hadNull_19 rfl (fun hc => ?_) (fun hc => ?_)
      · have hw := hw.1 hc
        refine lv_iload_n S.1 S.2.1 dMod_hadNull_61 rfl (lv_at hl 2 rfl) ?_
        exact zr_iret S hr hlk hK hP hS (zbn hw.1) hw.2 dMod_hadNull_62
      · have hw := hw.2 hc
        refine lv_iload_n S.1 S.2.1 dMod_hadNull_22 rfl (lv_at hl 2 rfl) ?_
        refine lv_if_ne S.1 S.2.1 dMod_hadNull_23 rfl (fun hc => ?_) (fun hc => ?_)
        · have hw := hw.1 hc
          exact J49 _ _ _ _ _ _ hw (lv_sub hl [0, 1, 3] rfl) hP hS
        · have hw := hw.2 hc
          refine lv_aload_n S.1 S.2.1 dMod_hadNull_26 rfl (lv_at hl 0 rfl) ?_
          refine lv_aload_n S.1 S.2.1 dMod_hadNull_27 rfl (lv_at hl 0 rfl) ?_
          refine zr_get S hK hP (by decide) (mF_0 _) fMod_op q840 rfl dMod_hadNull_28 ?_
          refine lv_iload_n S.1 S.2.1 dMod_hadNull_31 rfl (lv_at hl 1 rfl) ?_
          obtain ⟨z32, hw⟩ := hw
          refine zr_ald S hK hP (by decide) (mF_8 _) 0 rfl z32 dMod_hadNull_32 ?_
          refine lv_iload_n S.1 S.2.1 dMod_hadNull_33 rfl (lv_at hl 3 rfl) ?_
          refine zr_i (zr_V (As := [.int (h16 8 (Int32.toNatClampNeg v1)), .int v3]) (rest := []) S hK hT hN hP hS (by decide) (mF_0 _) rfl (cMod_wants l D cI cC cE ad A hJ _ _ _ _ hw) caMod_150 ⟨Nat.le_of_ble_eq_true rfl, Nat.le_of_ble_eq_true rfl⟩ ⟨rfl, rfl⟩ rfl hl.1 rfl (Nat.le_of_ble_eq_true rfl) dMod_hadNull_34) hS (fun r34 h34 H locs hw hP hS => ?_)
          refine lv_if_le S.1 S.2.1 dMod_hadNull_37 rfl (fun hc => ?_) (fun hc => ?_)
          · have hw := hw.1 hc
            exact J53 _ _ _ _ _ _ hw (lv_sub hl [0, 1, 3] rfl) hP hS
          · have hw := hw.2 hc
            refine lv_aload_n S.1 S.2.1 dMod_hadNull_40 rfl (lv_at hl 0 rfl) ?_
            refine lv_iload_n S.1 S.2.1 dMod_hadNull_41 rfl (lv_at hl 1 rfl) ?_
            refine lv_iload_n S.1 S.2.1 dMod_hadNull_42 rfl (lv_at hl 3 rfl) ?_
            refine zr_i (zr_V (As := [.int v1, .int v3]) (rest := []) S hK hT hN hP hS (by decide) (mF_0 _) rfl (cMod_valueOf l D cI cC cE ad A hJ _ _ _ _ hw) caMod_118 ⟨Nat.le_of_ble_eq_true rfl, Nat.le_of_ble_eq_true rfl⟩ ⟨rfl, rfl⟩ rfl hl.1 rfl (Nat.le_of_ble_eq_true rfl) dMod_hadNull_43) hS (fun r43 h43 H locs hw hP hS => ?_)
            refine lv_if_ge S.1 S.2.1 dMod_hadNull_46 rfl (fun hc => ?_) (fun hc => ?_)
            · have hw := hw.1 hc
              exact J53 _ _ _ _ _ _ hw (lv_sub hl [0, 1, 3] rfl) hP hS
            · have hw := hw.2 hc
              exact J49 _ _ _ _ _ _ hw (lv_sub hl [0, 1, 3] rfl) hP hS
  unfold wpMod_hadNull at hw
  refine lv_iconst (v := 0) S.1 S.2.1 dMod_hadNull_0 (by decide) ?_
  refine lv_istore_n (lv' := [(2, .int 0), (0, .ref (ad 0)), (1, .int x1)]) S.1 S.2.1 dMod_hadNull_1 rfl hl (by decide) rfl (fun ls hl => ?_)
  refine lv_iconst (v := 0) S.1 S.2.1 dMod_hadNull_2 (by decide) ?_
  refine lv_istore_n (lv' := [(3, .int 0), (2, .int 0), (0, .ref (ad 0)), (1, .int x1)]) S.1 S.2.1 dMod_hadNull_3 rfl hl (by decide) rfl (fun ls hl => ?_)
  obtain ⟨fu, hw⟩ := hw
  exact J4 fu _ _ _ _ _ _ _ hw (lv_sub hl [2, 3, 1, 0] rfl) hP hS
/-! Mod.form -/
theorem dMod_form_0 : decode bMod_form 0 = .ok (.aload_n 0, 1) := by decide +kernel
theorem dMod_form_1 : decode bMod_form 1 = .ok (.getfield 80, 3) := by decide +kernel
theorem dMod_form_4 : decode bMod_form 4 = .ok (.aload_n 0, 1) := by decide +kernel
theorem dMod_form_5 : decode bMod_form 5 = .ok (.getfield 156, 3) := by decide +kernel
theorem dMod_form_8 : decode bMod_form 8 = .ok (.iconst 1, 1) := by decide +kernel
theorem dMod_form_9 : decode bMod_form 9 = .ok (.isub, 1) := by decide +kernel
theorem dMod_form_10 : decode bMod_form 10 = .ok (.iaload, 1) := by decide +kernel
theorem dMod_form_11 : decode bMod_form 11 = .ok (.istore_n 1, 1) := by decide +kernel
theorem dMod_form_12 : decode bMod_form 12 = .ok (.aload_n 0, 1) := by decide +kernel
theorem dMod_form_13 : decode bMod_form 13 = .ok (.iconst 2, 1) := by decide +kernel
theorem dMod_form_14 : decode bMod_form 14 = .ok (.putfield 178, 3) := by decide +kernel
theorem dMod_form_17 : decode bMod_form 17 = .ok (.aload_n 0, 1) := by decide +kernel
theorem dMod_form_18 : decode bMod_form 18 = .ok (.getfield 83, 3) := by decide +kernel
theorem dMod_form_21 : decode bMod_form 21 = .ok (.iconst 0, 1) := by decide +kernel
theorem dMod_form_22 : decode bMod_form 22 = .ok (.iconst 0, 1) := by decide +kernel
theorem dMod_form_23 : decode bMod_form 23 = .ok (.iastore, 1) := by decide +kernel
theorem dMod_form_24 : decode bMod_form 24 = .ok (.aload_n 0, 1) := by decide +kernel
theorem dMod_form_25 : decode bMod_form 25 = .ok (.getfield 83, 3) := by decide +kernel
theorem dMod_form_28 : decode bMod_form 28 = .ok (.iconst 1, 1) := by decide +kernel
theorem dMod_form_29 : decode bMod_form 29 = .ok (.iload_n 1, 1) := by decide +kernel
theorem dMod_form_30 : decode bMod_form 30 = .ok (.iastore, 1) := by decide +kernel
theorem dMod_form_31 : decode bMod_form 31 = .ok (.aload_n 0, 1) := by decide +kernel
theorem dMod_form_32 : decode bMod_form 32 = .ok (.aload_n 0, 1) := by decide +kernel
theorem dMod_form_33 : decode bMod_form 33 = .ok (.getfield 35, 3) := by decide +kernel
theorem dMod_form_36 : decode bMod_form 36 = .ok (.aload_n 0, 1) := by decide +kernel
theorem dMod_form_37 : decode bMod_form 37 = .ok (.getfield 156, 3) := by decide +kernel
theorem dMod_form_40 : decode bMod_form 40 = .ok (.iconst 1, 1) := by decide +kernel
theorem dMod_form_41 : decode bMod_form 41 = .ok (.isub, 1) := by decide +kernel
theorem dMod_form_42 : decode bMod_form 42 = .ok (.iaload, 1) := by decide +kernel
theorem dMod_form_43 : decode bMod_form 43 = .ok (.invokevirtual 181, 3) := by decide +kernel
theorem dMod_form_46 : decode bMod_form 46 = .ok (.ifCond .ne 4, 3) := by decide +kernel
theorem dMod_form_49 : decode bMod_form 49 = .ok (.return_, 1) := by decide +kernel
theorem dMod_form_50 : decode bMod_form 50 = .ok (.aload_n 0, 1) := by decide +kernel
theorem dMod_form_51 : decode bMod_form 51 = .ok (.iconst 1, 1) := by decide +kernel
theorem dMod_form_52 : decode bMod_form 52 = .ok (.putfield 178, 3) := by decide +kernel
theorem dMod_form_55 : decode bMod_form 55 = .ok (.aload_n 0, 1) := by decide +kernel
theorem dMod_form_56 : decode bMod_form 56 = .ok (.getfield 83, 3) := by decide +kernel
theorem dMod_form_59 : decode bMod_form 59 = .ok (.iconst 0, 1) := by decide +kernel
theorem dMod_form_60 : decode bMod_form 60 = .ok (.iload_n 1, 1) := by decide +kernel
theorem dMod_form_61 : decode bMod_form 61 = .ok (.ifCond .ge 7, 3) := by decide +kernel
theorem dMod_form_64 : decode bMod_form 64 = .ok (.iconst 1, 1) := by decide +kernel
theorem dMod_form_65 : decode bMod_form 65 = .ok (.goto 4, 3) := by decide +kernel
theorem dMod_form_68 : decode bMod_form 68 = .ok (.iconst 2, 1) := by decide +kernel
theorem dMod_form_69 : decode bMod_form 69 = .ok (.iastore, 1) := by decide +kernel
theorem dMod_form_70 : decode bMod_form 70 = .ok (.iload_n 1, 1) := by decide +kernel
theorem dMod_form_71 : decode bMod_form 71 = .ok (.istore_n 2, 1) := by decide +kernel
theorem dMod_form_72 : decode bMod_form 72 = .ok (.iload_n 2, 1) := by decide +kernel
theorem dMod_form_73 : decode bMod_form 73 = .ok (.ifCond .lt 64, 3) := by decide +kernel
theorem dMod_form_76 : decode bMod_form 76 = .ok (.aload_n 0, 1) := by decide +kernel
theorem dMod_form_77 : decode bMod_form 77 = .ok (.getfield 178, 3) := by decide +kernel
theorem dMod_form_80 : decode bMod_form 80 = .ok (.bipush 21, 2) := by decide +kernel
theorem dMod_form_82 : decode bMod_form 82 = .ok (.if_icmp .ge 55, 3) := by decide +kernel
theorem dMod_form_85 : decode bMod_form 85 = .ok (.aload_n 0, 1) := by decide +kernel
theorem dMod_form_86 : decode bMod_form 86 = .ok (.getfield 83, 3) := by decide +kernel
theorem dMod_form_89 : decode bMod_form 89 = .ok (.aload_n 0, 1) := by decide +kernel
theorem dMod_form_90 : decode bMod_form 90 = .ok (.getfield 178, 3) := by decide +kernel
theorem dMod_form_93 : decode bMod_form 93 = .ok (.aload_n 0, 1) := by decide +kernel
theorem dMod_form_94 : decode bMod_form 94 = .ok (.getfield 71, 3) := by decide +kernel
theorem dMod_form_97 : decode bMod_form 97 = .ok (.iload_n 2, 1) := by decide +kernel
theorem dMod_form_98 : decode bMod_form 98 = .ok (.iaload, 1) := by decide +kernel
theorem dMod_form_99 : decode bMod_form 99 = .ok (.iastore, 1) := by decide +kernel
theorem dMod_form_100 : decode bMod_form 100 = .ok (.aload_n 0, 1) := by decide +kernel
theorem dMod_form_101 : decode bMod_form 101 = .ok (.getfield 83, 3) := by decide +kernel
theorem dMod_form_104 : decode bMod_form 104 = .ok (.aload_n 0, 1) := by decide +kernel
theorem dMod_form_105 : decode bMod_form 105 = .ok (.getfield 178, 3) := by decide +kernel
theorem dMod_form_108 : decode bMod_form 108 = .ok (.iconst 1, 1) := by decide +kernel
theorem dMod_form_109 : decode bMod_form 109 = .ok (.iadd, 1) := by decide +kernel
theorem dMod_form_110 : decode bMod_form 110 = .ok (.aload_n 0, 1) := by decide +kernel
theorem dMod_form_111 : decode bMod_form 111 = .ok (.getfield 74, 3) := by decide +kernel
theorem dMod_form_114 : decode bMod_form 114 = .ok (.iload_n 2, 1) := by decide +kernel
theorem dMod_form_115 : decode bMod_form 115 = .ok (.iaload, 1) := by decide +kernel
theorem dMod_form_116 : decode bMod_form 116 = .ok (.iastore, 1) := by decide +kernel
theorem dMod_form_117 : decode bMod_form 117 = .ok (.aload_n 0, 1) := by decide +kernel
theorem dMod_form_118 : decode bMod_form 118 = .ok (.dup, 1) := by decide +kernel
theorem dMod_form_119 : decode bMod_form 119 = .ok (.getfield 178, 3) := by decide +kernel
theorem dMod_form_122 : decode bMod_form 122 = .ok (.iconst 2, 1) := by decide +kernel
theorem dMod_form_123 : decode bMod_form 123 = .ok (.iadd, 1) := by decide +kernel
theorem dMod_form_124 : decode bMod_form 124 = .ok (.putfield 178, 3) := by decide +kernel
theorem dMod_form_127 : decode bMod_form 127 = .ok (.aload_n 0, 1) := by decide +kernel
theorem dMod_form_128 : decode bMod_form 128 = .ok (.getfield 77, 3) := by decide +kernel
theorem dMod_form_131 : decode bMod_form 131 = .ok (.iload_n 2, 1) := by decide +kernel
theorem dMod_form_132 : decode bMod_form 132 = .ok (.iaload, 1) := by decide +kernel
theorem dMod_form_133 : decode bMod_form 133 = .ok (.istore_n 2, 1) := by decide +kernel
theorem dMod_form_134 : decode bMod_form 134 = .ok (.goto (-62), 3) := by decide +kernel
theorem dMod_form_137 : decode bMod_form 137 = .ok (.return_, 1) := by decide +kernel
def stMod_form_72 (post : zM → Prop) (L72 : (Int32 × zM) → Prop) : (Int32 × zM) → Prop := fun s => match s with
  | (v2, h) => (((v2 < 0) → post h) ∧ (¬ (v2 < 0) → (((21 ≤ (h 0 33)) → post h) ∧ (¬ (21 ≤ (h 0 33)) → (vp_in v2 10 ∧ (vp_in (h 0 33) 21 ∧ ∀ h99 : zM, h99 = zu h 24 (Int32.toNatClampNeg (h 0 33)) (h 20 (Int32.toNatClampNeg v2)) → (vp_in v2 10 ∧ (vp_in ((h99 0 33) + 1) 21 ∧ ∀ h116 : zM, h116 = zu h99 24 (Int32.toNatClampNeg ((h99 0 33) + 1)) (h99 21 (Int32.toNatClampNeg v2)) → ∀ h124 : zM, h124 = zu h116 0 33 ((h116 0 33) + 2) → (vp_in v2 10 ∧ ∀ y133 : Int32, y133 = (h124 22 (Int32.toNatClampNeg v2)) → L72 (y133, h124))))))))))
def wbMod_form_69 (post : zM → Prop) (v1 : Int32) (k1 : Int32) (k2 : Int32) (h : zM) : Prop := (vp_in k1 21 ∧ ∀ h69 : zM, h69 = zu h 24 (Int32.toNatClampNeg k1) k2 → zL (stMod_form_72 post) (v1, h69))
def wpMod_form (h : zM) (post : zM → Prop) : Prop := (vp_in ((h 0 11) - 1) 10 ∧ ∀ y11 : Int32, y11 = (h 23 (Int32.toNatClampNeg ((h 0 11) - 1))) → ∀ h14 : zM, h14 = zu h 0 33 2 → (vp_in 0 21 ∧ ∀ h23 : zM, h23 = zu h14 24 (Int32.toNatClampNeg 0) 0 → (vp_in 1 21 ∧ ∀ h30 : zM, h30 = zu h23 24 (Int32.toNatClampNeg 1) y11 → (vp_in ((h30 0 11) - 1) 20 ∧ wpMod_gives (h30 8 (Int32.toNatClampNeg ((h30 0 11) - 1))) h30 (fun r43 h43 => ((¬ r43 = 0 → ∀ h52 : zM, h52 = zu h43 0 33 1 → (((0 ≤ y11) → wbMod_form_69 post y11 0 2 h52) ∧ (¬ (0 ≤ y11) → wbMod_form_69 post y11 0 1 h52))) ∧ (r43 = 0 → post h43)))))))
abbrev rmMod_form : Room := { frames := 1, cells := 0, slots := 0, locals := 22 }
set_option maxHeartbeats 4000000 in
set_option maxRecDepth 100000 in
theorem cMod_form (l : Launch) (D : va_G) (cI cC cE : ClassId) (ad : Nat → Nat) (A : Nat → Prop) (hJ : zJ A 28 ad) (h : zM) (post : zM → Prop) (hw : wpMod_form h post) : Met l yMod_form (.code yMod_form bMod_form 3 none :: zt) rmMod_form (va_Pc [.ref (ad 0)] (zPre D (zty cI cC cE) 28 ad (mF ad cI) A h)) (va_Qv post (zPst D (zty cI cC cE) 28 ad (mF ad cI)) A) 0 0 A := by
  refine Met.ofW (cc := bMod_form) (maxL := 3) (ret := none) (by decide) rfl ?_
  intro p e s m args below meth c s₁ B hml hv
  obtain ⟨rfl, hP, hK, hT, hN⟩ := hv
  have hr := B.returns
  have hlk := B.notSynchronized
  have S : zS p m c bMod_form 3 s _ "CallExplorerModel" := ⟨B.exec, B.bytes, hml, findClass_of_methodNamed B.named, fun w hw => atoms_spec (ws := .code yMod_form bMod_form 3 none :: zt) B.pre w (List.mem_cons_of_mem _ hw)⟩
  have hS : va_S A s.heap s.heap [] := va_S.rf
  have hl := lv_entry ([.ref (ad 0)]) (n := 3) (Nat.le_of_ble_eq_true rfl)
  rw [lg_entry_eq]
  generalize (lg_sl ([.ref (ad 0)]) ++ List.replicate (3 - (lg_sl ([.ref (ad 0)])).length) Slot.unset).toArray = ls at hl ⊢
  have hl : lv_has ls 3 [(0, .ref (ad 0))] := hl
  show W p l e rmMod_form s m ([.ref (ad 0)] : List Value).toArray below meth c s.heap [] 0 0 (zQv post D (zty cI cC cE) 28 ad (mF ad cI) A below ([.ref (ad 0)] : List Value).toArray s) _
  have J72 : ∀ (fu : Nat) (v2 : Int32) (h : zM) (H : Heap) (locs : List Loc) (ls : Array Slot), zl (stMod_form_72 post) fu (v2, h) → lv_has ls 3 [(0, .ref (ad 0)), (2, .int v2)] → va_P D zcl (zW 28 ad (mF ad cI) h) H → va_S A s.heap H locs → W p l e rmMod_form s m ([.ref (ad 0)] : List Value).toArray below meth c H locs 0 0 (zQv post D (zty cI cC cE) 28 ad (mF ad cI) A below ([.ref (ad 0)] : List Value).toArray s) (F0 m 72 ls []) := by
    intro fu72
    induction fu72 with
    | zero =>
      intro v2 h H locs ls hw
      exact (zl_0 hw).elim
    | succ fu72 ih72 =>
      intro v2 h H locs ls hw hl hP hS
      have hw := zl_s hw
      generalize zl (stMod_form_72 post) fu72 = L72 at hw ih72
      unfold stMod_form_72 at hw
      dsimp only at hw
      refine lv_iload_n S.1 S.2.1 dMod_form_72 rfl (lv_at hl 1 rfl) ?_
      refine lv_if_lt S.1 S.2.1 dMod_form_73 rfl (fun hc => ?_) (fun hc => ?_)
      · have hw := hw.1 hc
        exact zr_vret S hr hlk hK hP hS hw dMod_form_137
      · have hw := hw.2 hc
        refine lv_aload_n S.1 S.2.1 dMod_form_76 rfl (lv_at hl 0 rfl) ?_
        refine zr_get S hK hP (by decide) (mF_0 _) fMod_shapeN q861 rfl dMod_form_77 ?_
        refine lv_bipush (v := 21) S.1 S.2.1 dMod_form_80 (by decide) ?_
        refine lv_icmp_ge S.1 S.2.1 dMod_form_82 rfl (fun hc => ?_) (fun hc => ?_)
        · have hw := hw.1 hc
          exact zr_vret S hr hlk hK hP hS hw dMod_form_137
        · have hw := hw.2 hc
          refine lv_aload_n S.1 S.2.1 dMod_form_85 rfl (lv_at hl 0 rfl) ?_
          refine zr_get S hK hP (by decide) (mF_0 _) fMod_shape q862 rfl dMod_form_86 ?_
          refine lv_aload_n S.1 S.2.1 dMod_form_89 rfl (lv_at hl 0 rfl) ?_
          refine zr_get S hK hP (by decide) (mF_0 _) fMod_shapeN q861 rfl dMod_form_90 ?_
          refine lv_aload_n S.1 S.2.1 dMod_form_93 rfl (lv_at hl 0 rfl) ?_
          refine zr_get S hK hP (by decide) (mF_0 _) fMod_of q854 rfl dMod_form_94 ?_
          refine lv_iload_n S.1 S.2.1 dMod_form_97 rfl (lv_at hl 1 rfl) ?_
          obtain ⟨z98, hw⟩ := hw
          refine zr_ald S hK hP (by decide) (mF_20 _) 0 rfl z98 dMod_form_98 ?_
          obtain ⟨z99, hw⟩ := hw
          refine zr_ast S hK hJ hP hS (by decide) mF_24 0 rfl z99 dMod_form_99 (fun h99 H locs e99 hP hS => ?_)
          have hw := hw h99 e99
          refine lv_aload_n S.1 S.2.1 dMod_form_100 rfl (lv_at hl 0 rfl) ?_
          refine zr_get S hK hP (by decide) (mF_0 _) fMod_shape q862 rfl dMod_form_101 ?_
          refine lv_aload_n S.1 S.2.1 dMod_form_104 rfl (lv_at hl 0 rfl) ?_
          refine zr_get S hK hP (by decide) (mF_0 _) fMod_shapeN q861 rfl dMod_form_105 ?_
          refine lv_iconst (v := 1) S.1 S.2.1 dMod_form_108 (by decide) ?_
          refine lv_iadd S.1 S.2.1 dMod_form_109 ?_
          refine lv_aload_n S.1 S.2.1 dMod_form_110 rfl (lv_at hl 0 rfl) ?_
          refine zr_get S hK hP (by decide) (mF_0 _) fMod_value q855 rfl dMod_form_111 ?_
          refine lv_iload_n S.1 S.2.1 dMod_form_114 rfl (lv_at hl 1 rfl) ?_
          obtain ⟨z115, hw⟩ := hw
          refine zr_ald S hK hP (by decide) (mF_21 _) 0 rfl z115 dMod_form_115 ?_
          obtain ⟨z116, hw⟩ := hw
          refine zr_ast S hK hJ hP hS (by decide) mF_24 0 rfl z116 dMod_form_116 (fun h116 H locs e116 hP hS => ?_)
          have hw := hw h116 e116
          refine lv_aload_n S.1 S.2.1 dMod_form_117 rfl (lv_at hl 0 rfl) ?_
          refine lv_dup S.1 S.2.1 dMod_form_118 rfl ?_
          refine zr_get S hK hP (by decide) (mF_0 _) fMod_shapeN q861 rfl dMod_form_119 ?_
          refine lv_iconst (v := 2) S.1 S.2.1 dMod_form_122 (by decide) ?_
          refine lv_iadd S.1 S.2.1 dMod_form_123 ?_
          refine zr_put S hK hJ hP hS (by decide) (mF_0 _) fMod_shapeN q861 rfl rfl (Nat.le_of_ble_eq_true rfl) (mF_0 _) dMod_form_124 (fun h124 H locs e124 hP hS => ?_)
          have hw := hw h124 e124
          refine lv_aload_n S.1 S.2.1 dMod_form_127 rfl (lv_at hl 0 rfl) ?_
          refine zr_get S hK hP (by decide) (mF_0 _) fMod_next q856 rfl dMod_form_128 ?_
          refine lv_iload_n S.1 S.2.1 dMod_form_131 rfl (lv_at hl 1 rfl) ?_
          obtain ⟨z132, hw⟩ := hw
          refine zr_ald S hK hP (by decide) (mF_22 _) 0 rfl z132 dMod_form_132 ?_
          refine lv_topi (fun y133 e133 => ?_)
          have hw := hw y133 e133
          refine lv_istore_n (lv' := [(2, .int y133), (0, .ref (ad 0))]) S.1 S.2.1 dMod_form_133 rfl hl (by decide) rfl (fun ls hl => ?_)
          refine lv_goto S.1 S.2.1 dMod_form_134 rfl ?_
          exact ih72 _ _ _ _ _ hw (lv_sub hl [1, 0] rfl) hP hS
  have J69 : ∀ (v1 : Int32) (k1 : Int32) (k2 : Int32) (h : zM) (H : Heap) (locs : List Loc) (ls : Array Slot), wbMod_form_69 post v1 k1 k2 h → lv_has ls 3 [(0, .ref (ad 0)), (1, .int v1)] → va_P D zcl (zW 28 ad (mF ad cI) h) H → va_S A s.heap H locs → W p l e rmMod_form s m ([.ref (ad 0)] : List Value).toArray below meth c H locs 0 0 (zQv post D (zty cI cC cE) 28 ad (mF ad cI) A below ([.ref (ad 0)] : List Value).toArray s) (F0 m 69 ls [.int k2, .int k1, .ref (ad 24)]) := by
    intro v1 k1 k2 h H locs ls hw hl hP hS
    unfold wbMod_form_69 at hw
    obtain ⟨z69, hw⟩ := hw
    refine zr_ast S hK hJ hP hS (by decide) mF_24 0 rfl z69 dMod_form_69 (fun h69 H locs e69 hP hS => ?_)
    have hw := hw h69 e69
    refine lv_iload_n S.1 S.2.1 dMod_form_70 rfl (lv_at hl 1 rfl) ?_
    refine lv_istore_n (lv' := [(2, .int v1), (0, .ref (ad 0)), (1, .int v1)]) S.1 S.2.1 dMod_form_71 rfl hl (by decide) rfl (fun ls hl => ?_)
    obtain ⟨fu, hw⟩ := hw
    exact J72 fu _ _ _ _ _ hw (lv_sub hl [1, 0] rfl) hP hS
  unfold wpMod_form at hw
  refine lv_aload_n S.1 S.2.1 dMod_form_0 rfl (lv_at hl 0 rfl) ?_
  refine zr_get S hK hP (by decide) (mF_0 _) fMod_result q857 rfl dMod_form_1 ?_
  refine lv_aload_n S.1 S.2.1 dMod_form_4 rfl (lv_at hl 0 rfl) ?_
  refine zr_get S hK hP (by decide) (mF_0 _) fMod_size q839 rfl dMod_form_5 ?_
  refine lv_iconst (v := 1) S.1 S.2.1 dMod_form_8 (by decide) ?_
  refine lv_isub S.1 S.2.1 dMod_form_9 ?_
  obtain ⟨z10, hw⟩ := hw
  refine zr_ald S hK hP (by decide) (mF_23 _) 0 rfl z10 dMod_form_10 ?_
  refine lv_topi (fun y11 e11 => ?_)
  have hw := hw y11 e11
  refine lv_istore_n (lv' := [(1, .int y11), (0, .ref (ad 0))]) S.1 S.2.1 dMod_form_11 rfl hl (by decide) rfl (fun ls hl => ?_)
  refine lv_aload_n S.1 S.2.1 dMod_form_12 rfl (lv_at hl 1 rfl) ?_
  refine lv_iconst (v := 2) S.1 S.2.1 dMod_form_13 (by decide) ?_
  refine zr_put S hK hJ hP hS (by decide) (mF_0 _) fMod_shapeN q861 rfl rfl (Nat.le_of_ble_eq_true rfl) (mF_0 _) dMod_form_14 (fun h14 H locs e14 hP hS => ?_)
  have hw := hw h14 e14
  refine lv_aload_n S.1 S.2.1 dMod_form_17 rfl (lv_at hl 1 rfl) ?_
  refine zr_get S hK hP (by decide) (mF_0 _) fMod_shape q862 rfl dMod_form_18 ?_
  refine lv_iconst (v := 0) S.1 S.2.1 dMod_form_21 (by decide) ?_
  refine lv_iconst (v := 0) S.1 S.2.1 dMod_form_22 (by decide) ?_
  obtain ⟨z23, hw⟩ := hw
  refine zr_ast S hK hJ hP hS (by decide) mF_24 0 rfl z23 dMod_form_23 (fun h23 H locs e23 hP hS => ?_)
  have hw := hw h23 e23
  refine lv_aload_n S.1 S.2.1 dMod_form_24 rfl (lv_at hl 1 rfl) ?_
  refine zr_get S hK hP (by decide) (mF_0 _) fMod_shape q862 rfl dMod_form_25 ?_
  refine lv_iconst (v := 1) S.1 S.2.1 dMod_form_28 (by decide) ?_
  refine lv_iload_n S.1 S.2.1 dMod_form_29 rfl (lv_at hl 0 rfl) ?_
  obtain ⟨z30, hw⟩ := hw
  refine zr_ast S hK hJ hP hS (by decide) mF_24 0 rfl z30 dMod_form_30 (fun h30 H locs e30 hP hS => ?_)
  have hw := hw h30 e30
  refine lv_aload_n S.1 S.2.1 dMod_form_31 rfl (lv_at hl 1 rfl) ?_
  refine lv_aload_n S.1 S.2.1 dMod_form_32 rfl (lv_at hl 1 rfl) ?_
  refine zr_get S hK hP (by decide) (mF_0 _) fMod_op q840 rfl dMod_form_33 ?_
  refine lv_aload_n S.1 S.2.1 dMod_form_36 rfl (lv_at hl 1 rfl) ?_
  refine zr_get S hK hP (by decide) (mF_0 _) fMod_size q839 rfl dMod_form_37 ?_
  refine lv_iconst (v := 1) S.1 S.2.1 dMod_form_40 (by decide) ?_
  refine lv_isub S.1 S.2.1 dMod_form_41 ?_
  obtain ⟨z42, hw⟩ := hw
  refine zr_ald S hK hP (by decide) (mF_8 _) 0 rfl z42 dMod_form_42 ?_
  refine zr_i (zr_V (As := [.int (h30 8 (Int32.toNatClampNeg ((h30 0 11) - 1)))]) (rest := []) S hK hT hN hP hS (by decide) (mF_0 _) rfl (cMod_gives l D cI cC cE ad A hJ _ _ _ hw) caMod_181 ⟨Nat.le_of_ble_eq_true rfl, Nat.le_of_ble_eq_true rfl⟩ ⟨rfl, rfl⟩ rfl hl.1 rfl (Nat.le_of_ble_eq_true rfl) dMod_form_43) hS (fun r43 h43 H locs hw hP hS => ?_)
  refine lv_if_ne S.1 S.2.1 dMod_form_46 rfl (fun hc => ?_) (fun hc => ?_)
  · have hw := hw.1 hc
    refine lv_aload_n S.1 S.2.1 dMod_form_50 rfl (lv_at hl 1 rfl) ?_
    refine lv_iconst (v := 1) S.1 S.2.1 dMod_form_51 (by decide) ?_
    refine zr_put S hK hJ hP hS (by decide) (mF_0 _) fMod_shapeN q861 rfl rfl (Nat.le_of_ble_eq_true rfl) (mF_0 _) dMod_form_52 (fun h52 H locs e52 hP hS => ?_)
    have hw := hw h52 e52
    refine lv_aload_n S.1 S.2.1 dMod_form_55 rfl (lv_at hl 1 rfl) ?_
    refine zr_get S hK hP (by decide) (mF_0 _) fMod_shape q862 rfl dMod_form_56 ?_
    refine lv_iconst (v := 0) S.1 S.2.1 dMod_form_59 (by decide) ?_
    refine lv_iload_n S.1 S.2.1 dMod_form_60 rfl (lv_at hl 0 rfl) ?_
    refine lv_if_ge S.1 S.2.1 dMod_form_61 rfl (fun hc => ?_) (fun hc => ?_)
    · have hw := hw.1 hc
      refine lv_iconst (v := 2) S.1 S.2.1 dMod_form_68 (by decide) ?_
      exact J69 _ _ _ _ _ _ _ hw (lv_sub hl [1, 0] rfl) hP hS
    · have hw := hw.2 hc
      refine lv_iconst (v := 1) S.1 S.2.1 dMod_form_64 (by decide) ?_
      refine lv_goto S.1 S.2.1 dMod_form_65 rfl ?_
      exact J69 _ _ _ _ _ _ _ hw (lv_sub hl [1, 0] rfl) hP hS
  · have hw := hw.2 hc
    exact zr_vret S hr hlk hK hP hS hw dMod_form_49
/-! Mod.run -/
theorem dMod_run_0 : decode bMod_run 0 = .ok (.aload_n 0, 1) := by decide +kernel
theorem dMod_run_1 : decode bMod_run 1 = .ok (.iconst 0, 1) := by decide +kernel
theorem dMod_run_2 : decode bMod_run 2 = .ok (.putfield 111, 3) := by decide +kernel
theorem dMod_run_5 : decode bMod_run 5 = .ok (.aload_n 0, 1) := by decide +kernel
theorem dMod_run_6 : decode bMod_run 6 = .ok (.iconst 0, 1) := by decide +kernel
theorem dMod_run_7 : decode bMod_run 7 = .ok (.putfield 153, 3) := by decide +kernel
theorem dMod_run_10 : decode bMod_run 10 = .ok (.iconst 0, 1) := by decide +kernel
theorem dMod_run_11 : decode bMod_run 11 = .ok (.istore_n 1, 1) := by decide +kernel
theorem dMod_run_12 : decode bMod_run 12 = .ok (.iload_n 1, 1) := by decide +kernel
theorem dMod_run_13 : decode bMod_run 13 = .ok (.aload_n 0, 1) := by decide +kernel
theorem dMod_run_14 : decode bMod_run 14 = .ok (.getfield 156, 3) := by decide +kernel
theorem dMod_run_17 : decode bMod_run 17 = .ok (.if_icmp .ge 25, 3) := by decide +kernel
theorem dMod_run_20 : decode bMod_run 20 = .ok (.aload_n 0, 1) := by decide +kernel
theorem dMod_run_21 : decode bMod_run 21 = .ok (.getfield 153, 3) := by decide +kernel
theorem dMod_run_24 : decode bMod_run 24 = .ok (.ifCond .ne 18, 3) := by decide +kernel
theorem dMod_run_27 : decode bMod_run 27 = .ok (.aload_n 0, 1) := by decide +kernel
theorem dMod_run_28 : decode bMod_run 28 = .ok (.aload_n 0, 1) := by decide +kernel
theorem dMod_run_29 : decode bMod_run 29 = .ok (.iload_n 1, 1) := by decide +kernel
theorem dMod_run_30 : decode bMod_run 30 = .ok (.invokevirtual 159, 3) := by decide +kernel
theorem dMod_run_33 : decode bMod_run 33 = .ok (.putfield 153, 3) := by decide +kernel
theorem dMod_run_36 : decode bMod_run 36 = .ok (.iinc 1 1, 3) := by decide +kernel
theorem dMod_run_39 : decode bMod_run 39 = .ok (.goto (-27), 3) := by decide +kernel
theorem dMod_run_42 : decode bMod_run 42 = .ok (.aload_n 0, 1) := by decide +kernel
theorem dMod_run_43 : decode bMod_run 43 = .ok (.getfield 153, 3) := by decide +kernel
theorem dMod_run_46 : decode bMod_run 46 = .ok (.iconst 5, 1) := by decide +kernel
theorem dMod_run_47 : decode bMod_run 47 = .ok (.if_icmp .ne 30, 3) := by decide +kernel
theorem dMod_run_50 : decode bMod_run 50 = .ok (.aload_n 0, 1) := by decide +kernel
theorem dMod_run_51 : decode bMod_run 51 = .ok (.aload_n 0, 1) := by decide +kernel
theorem dMod_run_52 : decode bMod_run 52 = .ok (.iload_n 1, 1) := by decide +kernel
theorem dMod_run_53 : decode bMod_run 53 = .ok (.iconst 1, 1) := by decide +kernel
theorem dMod_run_54 : decode bMod_run 54 = .ok (.isub, 1) := by decide +kernel
theorem dMod_run_55 : decode bMod_run 55 = .ok (.invokevirtual 162, 3) := by decide +kernel
theorem dMod_run_58 : decode bMod_run 58 = .ok (.ifCond .eq 7, 3) := by decide +kernel
theorem dMod_run_61 : decode bMod_run 61 = .ok (.iconst 4, 1) := by decide +kernel
theorem dMod_run_62 : decode bMod_run 62 = .ok (.goto 4, 3) := by decide +kernel
theorem dMod_run_65 : decode bMod_run 65 = .ok (.iconst 3, 1) := by decide +kernel
theorem dMod_run_66 : decode bMod_run 66 = .ok (.putfield 165, 3) := by decide +kernel
theorem dMod_run_69 : decode bMod_run 69 = .ok (.aload_n 0, 1) := by decide +kernel
theorem dMod_run_70 : decode bMod_run 70 = .ok (.iconst 4, 1) := by decide +kernel
theorem dMod_run_71 : decode bMod_run 71 = .ok (.putfield 168, 3) := by decide +kernel
theorem dMod_run_74 : decode bMod_run 74 = .ok (.goto 54, 3) := by decide +kernel
theorem dMod_run_77 : decode bMod_run 77 = .ok (.aload_n 0, 1) := by decide +kernel
theorem dMod_run_78 : decode bMod_run 78 = .ok (.getfield 153, 3) := by decide +kernel
theorem dMod_run_81 : decode bMod_run 81 = .ok (.ifCond .le 19, 3) := by decide +kernel
theorem dMod_run_84 : decode bMod_run 84 = .ok (.aload_n 0, 1) := by decide +kernel
theorem dMod_run_85 : decode bMod_run 85 = .ok (.iconst 2, 1) := by decide +kernel
theorem dMod_run_86 : decode bMod_run 86 = .ok (.putfield 165, 3) := by decide +kernel
theorem dMod_run_89 : decode bMod_run 89 = .ok (.aload_n 0, 1) := by decide +kernel
theorem dMod_run_90 : decode bMod_run 90 = .ok (.aload_n 0, 1) := by decide +kernel
theorem dMod_run_91 : decode bMod_run 91 = .ok (.getfield 153, 3) := by decide +kernel
theorem dMod_run_94 : decode bMod_run 94 = .ok (.putfield 168, 3) := by decide +kernel
theorem dMod_run_97 : decode bMod_run 97 = .ok (.goto 31, 3) := by decide +kernel
theorem dMod_run_100 : decode bMod_run 100 = .ok (.aload_n 0, 1) := by decide +kernel
theorem dMod_run_101 : decode bMod_run 101 = .ok (.aload_n 0, 1) := by decide +kernel
theorem dMod_run_102 : decode bMod_run 102 = .ok (.invokevirtual 171, 3) := by decide +kernel
theorem dMod_run_105 : decode bMod_run 105 = .ok (.putfield 168, 3) := by decide +kernel
theorem dMod_run_108 : decode bMod_run 108 = .ok (.aload_n 0, 1) := by decide +kernel
theorem dMod_run_109 : decode bMod_run 109 = .ok (.aload_n 0, 1) := by decide +kernel
theorem dMod_run_110 : decode bMod_run 110 = .ok (.getfield 168, 3) := by decide +kernel
theorem dMod_run_113 : decode bMod_run 113 = .ok (.ifCond .le 7, 3) := by decide +kernel
theorem dMod_run_116 : decode bMod_run 116 = .ok (.iconst 3, 1) := by decide +kernel
theorem dMod_run_117 : decode bMod_run 117 = .ok (.goto 4, 3) := by decide +kernel
theorem dMod_run_120 : decode bMod_run 120 = .ok (.iconst 0, 1) := by decide +kernel
theorem dMod_run_121 : decode bMod_run 121 = .ok (.putfield 165, 3) := by decide +kernel
theorem dMod_run_124 : decode bMod_run 124 = .ok (.aload_n 0, 1) := by decide +kernel
theorem dMod_run_125 : decode bMod_run 125 = .ok (.invokevirtual 175, 3) := by decide +kernel
theorem dMod_run_128 : decode bMod_run 128 = .ok (.return_, 1) := by decide +kernel
def wbMod_run_121 (post : zM → Prop) (k1 : Int32) (h : zM) : Prop := ∀ h121 : zM, h121 = zu h 0 31 k1 → wpMod_form h121 (fun h125 => post h125)
def wbMod_run_66 (post : zM → Prop) (k1 : Int32) (h : zM) : Prop := ∀ h66 : zM, h66 = zu h 0 31 k1 → ∀ h71 : zM, h71 = zu h66 0 32 4 → post h71
def wbMod_run_42 (post : zM → Prop) (v1 : Int32) (h : zM) : Prop := ((¬ (h 0 30) = 5 → ((((h 0 30) ≤ 0) → wpMod_unsound h (fun r102 h102 => ∀ h105 : zM, h105 = zu h102 0 32 r102 → ((((h105 0 32) ≤ 0) → wbMod_run_121 post 0 h105) ∧ (¬ ((h105 0 32) ≤ 0) → wbMod_run_121 post 3 h105)))) ∧ (¬ ((h 0 30) ≤ 0) → ∀ h86 : zM, h86 = zu h 0 31 2 → ∀ h94 : zM, h94 = zu h86 0 32 (h86 0 30) → post h94))) ∧ ((h 0 30) = 5 → wpMod_hadNull (v1 - 1) h (fun r55 h55 => ((r55 = 0 → wbMod_run_66 post 3 h55) ∧ (¬ r55 = 0 → wbMod_run_66 post 4 h55)))))
def stMod_run_12 (post : zM → Prop) (L12 : (Int32 × zM) → Prop) : (Int32 × zM) → Prop := fun s => match s with
  | (v1, h) => ((((h 0 11) ≤ v1) → wbMod_run_42 post v1 h) ∧ (¬ ((h 0 11) ≤ v1) → ((¬ (h 0 30) = 0 → wbMod_run_42 post v1 h) ∧ ((h 0 30) = 0 → wpMod_perform v1 h (fun r30 h30 => ∀ h33 : zM, h33 = zu h30 0 30 r30 → L12 ((v1 + 1), h33))))))
def wpMod_run (h : zM) (post : zM → Prop) : Prop := ∀ h2 : zM, h2 = zu h 0 25 0 → ∀ h7 : zM, h7 = zu h2 0 30 0 → zL (stMod_run_12 post) (0, h7)
abbrev rmMod_run : Room := { frames := 3, cells := 0, slots := 0, locals := 74 }
set_option maxHeartbeats 4000000 in
set_option maxRecDepth 100000 in
theorem cMod_run (l : Launch) (D : va_G) (cI cC cE : ClassId) (ad : Nat → Nat) (A : Nat → Prop) (hJ : zJ A 28 ad) (h : zM) (post : zM → Prop) (hw : wpMod_run h post) : Met l yMod_run (.code yMod_run bMod_run 2 none :: zt) rmMod_run (va_Pc [.ref (ad 0)] (zPre D (zty cI cC cE) 28 ad (mF ad cI) A h)) (va_Qv post (zPst D (zty cI cC cE) 28 ad (mF ad cI)) A) 0 0 A := by
  refine Met.ofW (cc := bMod_run) (maxL := 2) (ret := none) (by decide) rfl ?_
  intro p e s m args below meth c s₁ B hml hv
  obtain ⟨rfl, hP, hK, hT, hN⟩ := hv
  have hr := B.returns
  have hlk := B.notSynchronized
  have S : zS p m c bMod_run 2 s _ "CallExplorerModel" := ⟨B.exec, B.bytes, hml, findClass_of_methodNamed B.named, fun w hw => atoms_spec (ws := .code yMod_run bMod_run 2 none :: zt) B.pre w (List.mem_cons_of_mem _ hw)⟩
  have hS : va_S A s.heap s.heap [] := va_S.rf
  have hl := lv_entry ([.ref (ad 0)]) (n := 2) (Nat.le_of_ble_eq_true rfl)
  rw [lg_entry_eq]
  generalize (lg_sl ([.ref (ad 0)]) ++ List.replicate (2 - (lg_sl ([.ref (ad 0)])).length) Slot.unset).toArray = ls at hl ⊢
  have hl : lv_has ls 2 [(0, .ref (ad 0))] := hl
  show W p l e rmMod_run s m ([.ref (ad 0)] : List Value).toArray below meth c s.heap [] 0 0 (zQv post D (zty cI cC cE) 28 ad (mF ad cI) A below ([.ref (ad 0)] : List Value).toArray s) _
  have J121 : ∀ (k1 : Int32) (h : zM) (H : Heap) (locs : List Loc) (ls : Array Slot), wbMod_run_121 post k1 h → lv_has ls 2 [(0, .ref (ad 0))] → va_P D zcl (zW 28 ad (mF ad cI) h) H → va_S A s.heap H locs → W p l e rmMod_run s m ([.ref (ad 0)] : List Value).toArray below meth c H locs 0 0 (zQv post D (zty cI cC cE) 28 ad (mF ad cI) A below ([.ref (ad 0)] : List Value).toArray s) (F0 m 121 ls [.int k1, .ref (ad 0)]) := by
    intro k1 h H locs ls hw hl hP hS
    unfold wbMod_run_121 at hw
    refine zr_put S hK hJ hP hS (by decide) (mF_0 _) fMod_came q859 rfl rfl (Nat.le_of_ble_eq_true rfl) (mF_0 _) dMod_run_121 (fun h121 H locs e121 hP hS => ?_)
    have hw := hw h121 e121
    refine lv_aload_n S.1 S.2.1 dMod_run_124 rfl (lv_at hl 0 rfl) ?_
    refine zr_v (zr_V (As := []) (rest := []) S hK hT hN hP hS (by decide) (mF_0 _) rfl (cMod_form l D cI cC cE ad A hJ _ _ hw) caMod_175 ⟨Nat.le_of_ble_eq_true rfl, Nat.le_of_ble_eq_true rfl⟩ ⟨rfl, rfl⟩ rfl hl.1 rfl (Nat.le_of_ble_eq_true rfl) dMod_run_125) hS (fun h125 H locs hw hP hS => ?_)
    exact zr_vret S hr hlk hK hP hS hw dMod_run_128
  have J66 : ∀ (k1 : Int32) (h : zM) (H : Heap) (locs : List Loc) (ls : Array Slot), wbMod_run_66 post k1 h → lv_has ls 2 [(0, .ref (ad 0))] → va_P D zcl (zW 28 ad (mF ad cI) h) H → va_S A s.heap H locs → W p l e rmMod_run s m ([.ref (ad 0)] : List Value).toArray below meth c H locs 0 0 (zQv post D (zty cI cC cE) 28 ad (mF ad cI) A below ([.ref (ad 0)] : List Value).toArray s) (F0 m 66 ls [.int k1, .ref (ad 0)]) := by
    intro k1 h H locs ls hw hl hP hS
    unfold wbMod_run_66 at hw
    refine zr_put S hK hJ hP hS (by decide) (mF_0 _) fMod_came q859 rfl rfl (Nat.le_of_ble_eq_true rfl) (mF_0 _) dMod_run_66 (fun h66 H locs e66 hP hS => ?_)
    have hw := hw h66 e66
    refine lv_aload_n S.1 S.2.1 dMod_run_69 rfl (lv_at hl 0 rfl) ?_
    refine lv_iconst (v := 4) S.1 S.2.1 dMod_run_70 (by decide) ?_
    refine zr_put S hK hJ hP hS (by decide) (mF_0 _) fMod_cameBy q860 rfl rfl (Nat.le_of_ble_eq_true rfl) (mF_0 _) dMod_run_71 (fun h71 H locs e71 hP hS => ?_)
    have hw := hw h71 e71
    refine lv_goto S.1 S.2.1 dMod_run_74 rfl ?_
    exact zr_vret S hr hlk hK hP hS hw dMod_run_128
  have J42 : ∀ (v1 : Int32) (h : zM) (H : Heap) (locs : List Loc) (ls : Array Slot), wbMod_run_42 post v1 h → lv_has ls 2 [(0, .ref (ad 0)), (1, .int v1)] → va_P D zcl (zW 28 ad (mF ad cI) h) H → va_S A s.heap H locs → W p l e rmMod_run s m ([.ref (ad 0)] : List Value).toArray below meth c H locs 0 0 (zQv post D (zty cI cC cE) 28 ad (mF ad cI) A below ([.ref (ad 0)] : List Value).toArray s) (F0 m 42 ls []) := by
    intro v1 h H locs ls hw hl hP hS
    unfold wbMod_run_42 at hw
    refine lv_aload_n S.1 S.2.1 dMod_run_42 rfl (lv_at hl 0 rfl) ?_
    refine zr_get S hK hP (by decide) (mF_0 _) fMod_trouble q858 rfl dMod_run_43 ?_
    refine lv_iconst (v := 5) S.1 S.2.1 dMod_run_46 (by decide) ?_
    refine lv_icmp_ne S.1 S.2.1 dMod_run_47 rfl (fun hc => ?_) (fun hc => ?_)
    · have hw := hw.1 hc
      refine lv_aload_n S.1 S.2.1 dMod_run_77 rfl (lv_at hl 0 rfl) ?_
      refine zr_get S hK hP (by decide) (mF_0 _) fMod_trouble q858 rfl dMod_run_78 ?_
      refine lv_if_le S.1 S.2.1 dMod_run_81 rfl (fun hc => ?_) (fun hc => ?_)
      · have hw := hw.1 hc
        refine lv_aload_n S.1 S.2.1 dMod_run_100 rfl (lv_at hl 0 rfl) ?_
        refine lv_aload_n S.1 S.2.1 dMod_run_101 rfl (lv_at hl 0 rfl) ?_
        refine zr_i (zr_V (As := []) (rest := [.ref (ad 0)]) S hK hT hN hP hS (by decide) (mF_0 _) rfl (cMod_unsound l D cI cC cE ad A hJ _ _ hw) caMod_171 ⟨Nat.le_of_ble_eq_true rfl, Nat.le_of_ble_eq_true rfl⟩ ⟨rfl, rfl⟩ rfl hl.1 rfl (Nat.le_of_ble_eq_true rfl) dMod_run_102) hS (fun r102 h102 H locs hw hP hS => ?_)
        refine zr_put S hK hJ hP hS (by decide) (mF_0 _) fMod_cameBy q860 rfl rfl (Nat.le_of_ble_eq_true rfl) (mF_0 _) dMod_run_105 (fun h105 H locs e105 hP hS => ?_)
        have hw := hw h105 e105
        refine lv_aload_n S.1 S.2.1 dMod_run_108 rfl (lv_at hl 0 rfl) ?_
        refine lv_aload_n S.1 S.2.1 dMod_run_109 rfl (lv_at hl 0 rfl) ?_
        refine zr_get S hK hP (by decide) (mF_0 _) fMod_cameBy q860 rfl dMod_run_110 ?_
        refine lv_if_le S.1 S.2.1 dMod_run_113 rfl (fun hc => ?_) (fun hc => ?_)
        · have hw := hw.1 hc
          refine lv_iconst (v := 0) S.1 S.2.1 dMod_run_120 (by decide) ?_
          exact J121 _ _ _ _ _ hw (lv_sub hl [0] rfl) hP hS
        · have hw := hw.2 hc
          refine lv_iconst (v := 3) S.1 S.2.1 dMod_run_116 (by decide) ?_
          refine lv_goto S.1 S.2.1 dMod_run_117 rfl ?_
          exact J121 _ _ _ _ _ hw (lv_sub hl [0] rfl) hP hS
      · have hw := hw.2 hc
        refine lv_aload_n S.1 S.2.1 dMod_run_84 rfl (lv_at hl 0 rfl) ?_
        refine lv_iconst (v := 2) S.1 S.2.1 dMod_run_85 (by decide) ?_
        refine zr_put S hK hJ hP hS (by decide) (mF_0 _) fMod_came q859 rfl rfl (Nat.le_of_ble_eq_true rfl) (mF_0 _) dMod_run_86 (fun h86 H locs e86 hP hS => ?_)
        have hw := hw h86 e86
        refine lv_aload_n S.1 S.2.1 dMod_run_89 rfl (lv_at hl 0 rfl) ?_
        refine lv_aload_n S.1 S.2.1 dMod_run_90 rfl (lv_at hl 0 rfl) ?_
        refine zr_get S hK hP (by decide) (mF_0 _) fMod_trouble q858 rfl dMod_run_91 ?_
        refine zr_put S hK hJ hP hS (by decide) (mF_0 _) fMod_cameBy q860 rfl rfl (Nat.le_of_ble_eq_true rfl) (mF_0 _) dMod_run_94 (fun h94 H locs e94 hP hS => ?_)
        have hw := hw h94 e94
        refine lv_goto S.1 S.2.1 dMod_run_97 rfl ?_
        exact zr_vret S hr hlk hK hP hS hw dMod_run_128
    · have hw := hw.2 hc
      refine lv_aload_n S.1 S.2.1 dMod_run_50 rfl (lv_at hl 0 rfl) ?_
      refine lv_aload_n S.1 S.2.1 dMod_run_51 rfl (lv_at hl 0 rfl) ?_
      refine lv_iload_n S.1 S.2.1 dMod_run_52 rfl (lv_at hl 1 rfl) ?_
      refine lv_iconst (v := 1) S.1 S.2.1 dMod_run_53 (by decide) ?_
      refine lv_isub S.1 S.2.1 dMod_run_54 ?_
      refine zr_i (zr_V (As := [.int (v1 - 1)]) (rest := [.ref (ad 0)]) S hK hT hN hP hS (by decide) (mF_0 _) rfl (cMod_hadNull l D cI cC cE ad A hJ _ _ _ hw) caMod_162 ⟨Nat.le_of_ble_eq_true rfl, Nat.le_of_ble_eq_true rfl⟩ ⟨rfl, rfl⟩ rfl hl.1 rfl (Nat.le_of_ble_eq_true rfl) dMod_run_55) hS (fun r55 h55 H locs hw hP hS => ?_)
      refine lv_if_eq S.1 S.2.1 dMod_run_58 rfl (fun hc => ?_) (fun hc => ?_)
      · have hw := hw.1 hc
        refine lv_iconst (v := 3) S.1 S.2.1 dMod_run_65 (by decide) ?_
        exact J66 _ _ _ _ _ hw (lv_sub hl [0] rfl) hP hS
      · have hw := hw.2 hc
        refine lv_iconst (v := 4) S.1 S.2.1 dMod_run_61 (by decide) ?_
        refine lv_goto S.1 S.2.1 dMod_run_62 rfl ?_
        exact J66 _ _ _ _ _ hw (lv_sub hl [0] rfl) hP hS
  have J12 : ∀ (fu : Nat) (v1 : Int32) (h : zM) (H : Heap) (locs : List Loc) (ls : Array Slot), zl (stMod_run_12 post) fu (v1, h) → lv_has ls 2 [(0, .ref (ad 0)), (1, .int v1)] → va_P D zcl (zW 28 ad (mF ad cI) h) H → va_S A s.heap H locs → W p l e rmMod_run s m ([.ref (ad 0)] : List Value).toArray below meth c H locs 0 0 (zQv post D (zty cI cC cE) 28 ad (mF ad cI) A below ([.ref (ad 0)] : List Value).toArray s) (F0 m 12 ls []) := by
    intro fu12
    induction fu12 with
    | zero =>
      intro v1 h H locs ls hw
      exact (zl_0 hw).elim
    | succ fu12 ih12 =>
      intro v1 h H locs ls hw hl hP hS
      have hw := zl_s hw
      generalize zl (stMod_run_12 post) fu12 = L12 at hw ih12
      unfold stMod_run_12 at hw
      dsimp only at hw
      refine lv_iload_n S.1 S.2.1 dMod_run_12 rfl (lv_at hl 1 rfl) ?_
      refine lv_aload_n S.1 S.2.1 dMod_run_13 rfl (lv_at hl 0 rfl) ?_
      refine zr_get S hK hP (by decide) (mF_0 _) fMod_size q839 rfl dMod_run_14 ?_
      refine lv_icmp_ge S.1 S.2.1 dMod_run_17 rfl (fun hc => ?_) (fun hc => ?_)
      · have hw := hw.1 hc
        exact J42 _ _ _ _ _ hw (lv_sub hl [0, 1] rfl) hP hS
      · have hw := hw.2 hc
        refine lv_aload_n S.1 S.2.1 dMod_run_20 rfl (lv_at hl 0 rfl) ?_
        refine zr_get S hK hP (by decide) (mF_0 _) fMod_trouble q858 rfl dMod_run_21 ?_
        refine lv_if_ne S.1 S.2.1 dMod_run_24 rfl (fun hc => ?_) (fun hc => ?_)
        · have hw := hw.1 hc
          exact J42 _ _ _ _ _ hw (lv_sub hl [0, 1] rfl) hP hS
        · have hw := hw.2 hc
          refine lv_aload_n S.1 S.2.1 dMod_run_27 rfl (lv_at hl 0 rfl) ?_
          refine lv_aload_n S.1 S.2.1 dMod_run_28 rfl (lv_at hl 0 rfl) ?_
          refine lv_iload_n S.1 S.2.1 dMod_run_29 rfl (lv_at hl 1 rfl) ?_
          refine zr_i (zr_V (As := [.int v1]) (rest := [.ref (ad 0)]) S hK hT hN hP hS (by decide) (mF_0 _) rfl (cMod_perform l D cI cC cE ad A hJ _ _ _ hw) caMod_159 ⟨Nat.le_of_ble_eq_true rfl, Nat.le_of_ble_eq_true rfl⟩ ⟨rfl, rfl⟩ rfl hl.1 rfl (Nat.le_of_ble_eq_true rfl) dMod_run_30) hS (fun r30 h30 H locs hw hP hS => ?_)
          refine zr_put S hK hJ hP hS (by decide) (mF_0 _) fMod_trouble q858 rfl rfl (Nat.le_of_ble_eq_true rfl) (mF_0 _) dMod_run_33 (fun h33 H locs e33 hP hS => ?_)
          have hw := hw h33 e33
          refine lv_iinc (v := (v1 + 1)) (lv' := [(1, .int (v1 + 1)), (0, .ref (ad 0))]) (k := 1) S.1 S.2.1 dMod_run_36 hl rfl rfl (by decide) rfl (fun ls hl => ?_)
          refine lv_goto S.1 S.2.1 dMod_run_39 rfl ?_
          exact ih12 _ _ _ _ _ hw (lv_sub hl [1, 0] rfl) hP hS
  unfold wpMod_run at hw
  refine lv_aload_n S.1 S.2.1 dMod_run_0 rfl (lv_at hl 0 rfl) ?_
  refine lv_iconst (v := 0) S.1 S.2.1 dMod_run_1 (by decide) ?_
  refine zr_put S hK hJ hP hS (by decide) (mF_0 _) fMod_objects q853 rfl rfl (Nat.le_of_ble_eq_true rfl) (mF_0 _) dMod_run_2 (fun h2 H locs e2 hP hS => ?_)
  have hw := hw h2 e2
  refine lv_aload_n S.1 S.2.1 dMod_run_5 rfl (lv_at hl 0 rfl) ?_
  refine lv_iconst (v := 0) S.1 S.2.1 dMod_run_6 (by decide) ?_
  refine zr_put S hK hJ hP hS (by decide) (mF_0 _) fMod_trouble q858 rfl rfl (Nat.le_of_ble_eq_true rfl) (mF_0 _) dMod_run_7 (fun h7 H locs e7 hP hS => ?_)
  have hw := hw h7 e7
  refine lv_iconst (v := 0) S.1 S.2.1 dMod_run_10 (by decide) ?_
  refine lv_istore_n (lv' := [(1, .int 0), (0, .ref (ad 0))]) S.1 S.2.1 dMod_run_11 rfl hl (by decide) rfl (fun ls hl => ?_)
  obtain ⟨fu, hw⟩ := hw
  exact J12 fu _ _ _ _ _ hw (lv_sub hl [1, 0] rfl) hP hS
