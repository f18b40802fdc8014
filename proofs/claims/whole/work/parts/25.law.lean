/-! ===== the law's loop ===== -/
def mi_L_law : MI := (yL_law, cL_law, 4, (some .boolean))
theorem WM.waste {d : Nat} {X : MX} {Y : MY} {b b0 : Nat × Nat} {mi : MI} {pc : Nat} {lv : List (Option MV)} {st : List MV} {σ : SS} {res : RES} (h1 : b0.1 ≤ b.1) (h2 : b0.2 ≤ b.2) (k : WM d X Y b0 mi pc lv st σ res) : WM d X Y b mi pc lv st σ res := by
  intro ok ad H locs ls cells slots hD
  have c1 := hD.2.2.2.2.2.2.1
  have c2 := hD.2.2.2.2.2.2.2
  refine W.widen (k := cells + (b.1 - b0.1)) (n := slots + (b.2 - b0.2)) (Nat.le_add_right _ _) (Nat.le_add_right _ _) ?_
  exact k ok ad H locs ls _ _ ⟨hD.1, hD.2.1, hD.2.2.1, hD.lv, hD.hlv, hD.hst, by omega, by omega⟩
theorem d_L_law_15 : decode mi_L_law.2.1 15 = .ok (.astore_n 2, 1) := by decide +kernel
theorem d_L_law_16 : decode mi_L_law.2.1 16 = .ok (.iconst 0, 1) := by decide +kernel
theorem d_L_law_17 : decode mi_L_law.2.1 17 = .ok (.istore_n 3, 1) := by decide +kernel
theorem d_L_law_18 : decode mi_L_law.2.1 18 = .ok (.iload_n 3, 1) := by decide +kernel
theorem d_L_law_19 : decode mi_L_law.2.1 19 = .ok (.aload_n 0, 1) := by decide +kernel
theorem d_L_law_20 : decode mi_L_law.2.1 20 = .ok (.arraylength, 1) := by decide +kernel
theorem d_L_law_21 : decode mi_L_law.2.1 21 = .ok (.iconst 5, 1) := by decide +kernel
theorem d_L_law_22 : decode mi_L_law.2.1 22 = .ok (.isub, 1) := by decide +kernel
theorem d_L_law_23 : decode mi_L_law.2.1 23 = .ok (.if_icmp .gt 1125, 3) := by decide +kernel
theorem d_L_law_26 : decode mi_L_law.2.1 26 = .ok (.aload_n 0, 1) := by decide +kernel
theorem d_L_law_27 : decode mi_L_law.2.1 27 = .ok (.iload_n 3, 1) := by decide +kernel
theorem d_L_law_28 : decode mi_L_law.2.1 28 = .ok (.iaload, 1) := by decide +kernel
theorem d_L_law_29 : decode mi_L_law.2.1 29 = .ok (.bipush 31, 2) := by decide +kernel
theorem d_L_law_31 : decode mi_L_law.2.1 31 = .ok (.iand, 1) := by decide +kernel
theorem d_L_law_32 : decode mi_L_law.2.1 32 = .ok (.tableswitch 1110 0 29 #[136, 179, 222, 265, 298, 321, 354, 387, 430, 463, 486, 510, 553, 576, 609, 652, 705, 754, 797, 830, 843, 876, 889, 948, 971, 1004, 1028, 1051, 1074, 1087], 136) := by decide +kernel
theorem d_L_law_168 : decode mi_L_law.2.1 168 = .ok (.aload_n 1, 1) := by decide +kernel
theorem d_L_law_169 : decode mi_L_law.2.1 169 = .ok (.aload_n 0, 1) := by decide +kernel
theorem d_L_law_170 : decode mi_L_law.2.1 170 = .ok (.iload_n 3, 1) := by decide +kernel
theorem d_L_law_171 : decode mi_L_law.2.1 171 = .ok (.iconst 1, 1) := by decide +kernel
theorem d_L_law_172 : decode mi_L_law.2.1 172 = .ok (.iadd, 1) := by decide +kernel
theorem d_L_law_173 : decode mi_L_law.2.1 173 = .ok (.iaload, 1) := by decide +kernel
theorem d_L_law_174 : decode mi_L_law.2.1 174 = .ok (.aload_n 0, 1) := by decide +kernel
theorem d_L_law_175 : decode mi_L_law.2.1 175 = .ok (.iload_n 3, 1) := by decide +kernel
theorem d_L_law_176 : decode mi_L_law.2.1 176 = .ok (.iconst 2, 1) := by decide +kernel
theorem d_L_law_177 : decode mi_L_law.2.1 177 = .ok (.iadd, 1) := by decide +kernel
theorem d_L_law_178 : decode mi_L_law.2.1 178 = .ok (.iaload, 1) := by decide +kernel
theorem d_L_law_179 : decode mi_L_law.2.1 179 = .ok (.aload_n 0, 1) := by decide +kernel
theorem d_L_law_180 : decode mi_L_law.2.1 180 = .ok (.iload_n 3, 1) := by decide +kernel
theorem d_L_law_181 : decode mi_L_law.2.1 181 = .ok (.iconst 3, 1) := by decide +kernel
theorem d_L_law_182 : decode mi_L_law.2.1 182 = .ok (.iadd, 1) := by decide +kernel
theorem d_L_law_183 : decode mi_L_law.2.1 183 = .ok (.iaload, 1) := by decide +kernel
theorem d_L_law_184 : decode mi_L_law.2.1 184 = .ok (.invokevirtual 13, 3) := by decide +kernel
theorem d_L_law_187 : decode mi_L_law.2.1 187 = .ok (.aload_n 2, 1) := by decide +kernel
theorem d_L_law_188 : decode mi_L_law.2.1 188 = .ok (.aload_n 0, 1) := by decide +kernel
theorem d_L_law_189 : decode mi_L_law.2.1 189 = .ok (.iload_n 3, 1) := by decide +kernel
theorem d_L_law_190 : decode mi_L_law.2.1 190 = .ok (.iconst 1, 1) := by decide +kernel
theorem d_L_law_191 : decode mi_L_law.2.1 191 = .ok (.iadd, 1) := by decide +kernel
theorem d_L_law_192 : decode mi_L_law.2.1 192 = .ok (.iaload, 1) := by decide +kernel
theorem d_L_law_193 : decode mi_L_law.2.1 193 = .ok (.aload_n 0, 1) := by decide +kernel
theorem d_L_law_194 : decode mi_L_law.2.1 194 = .ok (.iload_n 3, 1) := by decide +kernel
theorem d_L_law_195 : decode mi_L_law.2.1 195 = .ok (.iconst 2, 1) := by decide +kernel
theorem d_L_law_196 : decode mi_L_law.2.1 196 = .ok (.iadd, 1) := by decide +kernel
theorem d_L_law_197 : decode mi_L_law.2.1 197 = .ok (.iaload, 1) := by decide +kernel
theorem d_L_law_198 : decode mi_L_law.2.1 198 = .ok (.aload_n 0, 1) := by decide +kernel
theorem d_L_law_199 : decode mi_L_law.2.1 199 = .ok (.iload_n 3, 1) := by decide +kernel
theorem d_L_law_200 : decode mi_L_law.2.1 200 = .ok (.iconst 3, 1) := by decide +kernel
theorem d_L_law_201 : decode mi_L_law.2.1 201 = .ok (.iadd, 1) := by decide +kernel
theorem d_L_law_202 : decode mi_L_law.2.1 202 = .ok (.iaload, 1) := by decide +kernel
theorem d_L_law_203 : decode mi_L_law.2.1 203 = .ok (.invokevirtual 17, 3) := by decide +kernel
theorem d_L_law_206 : decode mi_L_law.2.1 206 = .ok (.if_icmp .eq 936, 3) := by decide +kernel
theorem d_L_law_209 : decode mi_L_law.2.1 209 = .ok (.iconst 0, 1) := by decide +kernel
theorem d_L_law_210 : decode mi_L_law.2.1 210 = .ok (.ireturn, 1) := by decide +kernel
theorem d_L_law_211 : decode mi_L_law.2.1 211 = .ok (.aload_n 1, 1) := by decide +kernel
theorem d_L_law_212 : decode mi_L_law.2.1 212 = .ok (.aload_n 0, 1) := by decide +kernel
theorem d_L_law_213 : decode mi_L_law.2.1 213 = .ok (.iload_n 3, 1) := by decide +kernel
theorem d_L_law_214 : decode mi_L_law.2.1 214 = .ok (.iconst 1, 1) := by decide +kernel
theorem d_L_law_215 : decode mi_L_law.2.1 215 = .ok (.iadd, 1) := by decide +kernel
theorem d_L_law_216 : decode mi_L_law.2.1 216 = .ok (.iaload, 1) := by decide +kernel
theorem d_L_law_217 : decode mi_L_law.2.1 217 = .ok (.aload_n 0, 1) := by decide +kernel
theorem d_L_law_218 : decode mi_L_law.2.1 218 = .ok (.iload_n 3, 1) := by decide +kernel
theorem d_L_law_219 : decode mi_L_law.2.1 219 = .ok (.iconst 2, 1) := by decide +kernel
theorem d_L_law_220 : decode mi_L_law.2.1 220 = .ok (.iadd, 1) := by decide +kernel
theorem d_L_law_221 : decode mi_L_law.2.1 221 = .ok (.iaload, 1) := by decide +kernel
theorem d_L_law_222 : decode mi_L_law.2.1 222 = .ok (.aload_n 0, 1) := by decide +kernel
theorem d_L_law_223 : decode mi_L_law.2.1 223 = .ok (.iload_n 3, 1) := by decide +kernel
theorem d_L_law_224 : decode mi_L_law.2.1 224 = .ok (.iconst 3, 1) := by decide +kernel
theorem d_L_law_225 : decode mi_L_law.2.1 225 = .ok (.iadd, 1) := by decide +kernel
theorem d_L_law_226 : decode mi_L_law.2.1 226 = .ok (.iaload, 1) := by decide +kernel
theorem d_L_law_227 : decode mi_L_law.2.1 227 = .ok (.invokevirtual 18, 3) := by decide +kernel
theorem d_L_law_230 : decode mi_L_law.2.1 230 = .ok (.aload_n 2, 1) := by decide +kernel
theorem d_L_law_231 : decode mi_L_law.2.1 231 = .ok (.aload_n 0, 1) := by decide +kernel
theorem d_L_law_232 : decode mi_L_law.2.1 232 = .ok (.iload_n 3, 1) := by decide +kernel
theorem d_L_law_233 : decode mi_L_law.2.1 233 = .ok (.iconst 1, 1) := by decide +kernel
theorem d_L_law_234 : decode mi_L_law.2.1 234 = .ok (.iadd, 1) := by decide +kernel
theorem d_L_law_235 : decode mi_L_law.2.1 235 = .ok (.iaload, 1) := by decide +kernel
theorem d_L_law_236 : decode mi_L_law.2.1 236 = .ok (.aload_n 0, 1) := by decide +kernel
theorem d_L_law_237 : decode mi_L_law.2.1 237 = .ok (.iload_n 3, 1) := by decide +kernel
theorem d_L_law_238 : decode mi_L_law.2.1 238 = .ok (.iconst 2, 1) := by decide +kernel
theorem d_L_law_239 : decode mi_L_law.2.1 239 = .ok (.iadd, 1) := by decide +kernel
theorem d_L_law_240 : decode mi_L_law.2.1 240 = .ok (.iaload, 1) := by decide +kernel
theorem d_L_law_241 : decode mi_L_law.2.1 241 = .ok (.aload_n 0, 1) := by decide +kernel
theorem d_L_law_242 : decode mi_L_law.2.1 242 = .ok (.iload_n 3, 1) := by decide +kernel
theorem d_L_law_243 : decode mi_L_law.2.1 243 = .ok (.iconst 3, 1) := by decide +kernel
theorem d_L_law_244 : decode mi_L_law.2.1 244 = .ok (.iadd, 1) := by decide +kernel
theorem d_L_law_245 : decode mi_L_law.2.1 245 = .ok (.iaload, 1) := by decide +kernel
theorem d_L_law_246 : decode mi_L_law.2.1 246 = .ok (.invokevirtual 21, 3) := by decide +kernel
theorem d_L_law_249 : decode mi_L_law.2.1 249 = .ok (.if_icmp .eq 893, 3) := by decide +kernel
theorem d_L_law_252 : decode mi_L_law.2.1 252 = .ok (.iconst 0, 1) := by decide +kernel
theorem d_L_law_253 : decode mi_L_law.2.1 253 = .ok (.ireturn, 1) := by decide +kernel
theorem d_L_law_254 : decode mi_L_law.2.1 254 = .ok (.aload_n 1, 1) := by decide +kernel
theorem d_L_law_255 : decode mi_L_law.2.1 255 = .ok (.aload_n 0, 1) := by decide +kernel
theorem d_L_law_256 : decode mi_L_law.2.1 256 = .ok (.iload_n 3, 1) := by decide +kernel
theorem d_L_law_257 : decode mi_L_law.2.1 257 = .ok (.iconst 1, 1) := by decide +kernel
theorem d_L_law_258 : decode mi_L_law.2.1 258 = .ok (.iadd, 1) := by decide +kernel
theorem d_L_law_259 : decode mi_L_law.2.1 259 = .ok (.iaload, 1) := by decide +kernel
theorem d_L_law_260 : decode mi_L_law.2.1 260 = .ok (.aload_n 0, 1) := by decide +kernel
theorem d_L_law_261 : decode mi_L_law.2.1 261 = .ok (.iload_n 3, 1) := by decide +kernel
theorem d_L_law_262 : decode mi_L_law.2.1 262 = .ok (.iconst 2, 1) := by decide +kernel
theorem d_L_law_263 : decode mi_L_law.2.1 263 = .ok (.iadd, 1) := by decide +kernel
theorem d_L_law_264 : decode mi_L_law.2.1 264 = .ok (.iaload, 1) := by decide +kernel
theorem d_L_law_265 : decode mi_L_law.2.1 265 = .ok (.aload_n 0, 1) := by decide +kernel
theorem d_L_law_266 : decode mi_L_law.2.1 266 = .ok (.iload_n 3, 1) := by decide +kernel
theorem d_L_law_267 : decode mi_L_law.2.1 267 = .ok (.iconst 3, 1) := by decide +kernel
theorem d_L_law_268 : decode mi_L_law.2.1 268 = .ok (.iadd, 1) := by decide +kernel
theorem d_L_law_269 : decode mi_L_law.2.1 269 = .ok (.iaload, 1) := by decide +kernel
theorem d_L_law_270 : decode mi_L_law.2.1 270 = .ok (.invokevirtual 22, 3) := by decide +kernel
theorem d_L_law_273 : decode mi_L_law.2.1 273 = .ok (.aload_n 2, 1) := by decide +kernel
theorem d_L_law_274 : decode mi_L_law.2.1 274 = .ok (.aload_n 0, 1) := by decide +kernel
theorem d_L_law_275 : decode mi_L_law.2.1 275 = .ok (.iload_n 3, 1) := by decide +kernel
theorem d_L_law_276 : decode mi_L_law.2.1 276 = .ok (.iconst 1, 1) := by decide +kernel
theorem d_L_law_277 : decode mi_L_law.2.1 277 = .ok (.iadd, 1) := by decide +kernel
theorem d_L_law_278 : decode mi_L_law.2.1 278 = .ok (.iaload, 1) := by decide +kernel
theorem d_L_law_279 : decode mi_L_law.2.1 279 = .ok (.aload_n 0, 1) := by decide +kernel
theorem d_L_law_280 : decode mi_L_law.2.1 280 = .ok (.iload_n 3, 1) := by decide +kernel
theorem d_L_law_281 : decode mi_L_law.2.1 281 = .ok (.iconst 2, 1) := by decide +kernel
theorem d_L_law_282 : decode mi_L_law.2.1 282 = .ok (.iadd, 1) := by decide +kernel
theorem d_L_law_283 : decode mi_L_law.2.1 283 = .ok (.iaload, 1) := by decide +kernel
theorem d_L_law_284 : decode mi_L_law.2.1 284 = .ok (.aload_n 0, 1) := by decide +kernel
theorem d_L_law_285 : decode mi_L_law.2.1 285 = .ok (.iload_n 3, 1) := by decide +kernel
theorem d_L_law_286 : decode mi_L_law.2.1 286 = .ok (.iconst 3, 1) := by decide +kernel
theorem d_L_law_287 : decode mi_L_law.2.1 287 = .ok (.iadd, 1) := by decide +kernel
theorem d_L_law_288 : decode mi_L_law.2.1 288 = .ok (.iaload, 1) := by decide +kernel
theorem d_L_law_289 : decode mi_L_law.2.1 289 = .ok (.invokevirtual 25, 3) := by decide +kernel
theorem d_L_law_292 : decode mi_L_law.2.1 292 = .ok (.if_icmp .eq 850, 3) := by decide +kernel
theorem d_L_law_295 : decode mi_L_law.2.1 295 = .ok (.iconst 0, 1) := by decide +kernel
theorem d_L_law_296 : decode mi_L_law.2.1 296 = .ok (.ireturn, 1) := by decide +kernel
theorem d_L_law_297 : decode mi_L_law.2.1 297 = .ok (.aload_n 1, 1) := by decide +kernel
theorem d_L_law_298 : decode mi_L_law.2.1 298 = .ok (.aload_n 0, 1) := by decide +kernel
theorem d_L_law_299 : decode mi_L_law.2.1 299 = .ok (.iload_n 3, 1) := by decide +kernel
theorem d_L_law_300 : decode mi_L_law.2.1 300 = .ok (.iconst 1, 1) := by decide +kernel
theorem d_L_law_301 : decode mi_L_law.2.1 301 = .ok (.iadd, 1) := by decide +kernel
theorem d_L_law_302 : decode mi_L_law.2.1 302 = .ok (.iaload, 1) := by decide +kernel
theorem d_L_law_303 : decode mi_L_law.2.1 303 = .ok (.aload_n 0, 1) := by decide +kernel
theorem d_L_law_304 : decode mi_L_law.2.1 304 = .ok (.iload_n 3, 1) := by decide +kernel
theorem d_L_law_305 : decode mi_L_law.2.1 305 = .ok (.iconst 2, 1) := by decide +kernel
theorem d_L_law_306 : decode mi_L_law.2.1 306 = .ok (.iadd, 1) := by decide +kernel
theorem d_L_law_307 : decode mi_L_law.2.1 307 = .ok (.iaload, 1) := by decide +kernel
theorem d_L_law_308 : decode mi_L_law.2.1 308 = .ok (.invokevirtual 26, 3) := by decide +kernel
theorem d_L_law_311 : decode mi_L_law.2.1 311 = .ok (.aload_n 2, 1) := by decide +kernel
theorem d_L_law_312 : decode mi_L_law.2.1 312 = .ok (.aload_n 0, 1) := by decide +kernel
theorem d_L_law_313 : decode mi_L_law.2.1 313 = .ok (.iload_n 3, 1) := by decide +kernel
theorem d_L_law_314 : decode mi_L_law.2.1 314 = .ok (.iconst 1, 1) := by decide +kernel
theorem d_L_law_315 : decode mi_L_law.2.1 315 = .ok (.iadd, 1) := by decide +kernel
theorem d_L_law_316 : decode mi_L_law.2.1 316 = .ok (.iaload, 1) := by decide +kernel
theorem d_L_law_317 : decode mi_L_law.2.1 317 = .ok (.aload_n 0, 1) := by decide +kernel
theorem d_L_law_318 : decode mi_L_law.2.1 318 = .ok (.iload_n 3, 1) := by decide +kernel
theorem d_L_law_319 : decode mi_L_law.2.1 319 = .ok (.iconst 2, 1) := by decide +kernel
theorem d_L_law_320 : decode mi_L_law.2.1 320 = .ok (.iadd, 1) := by decide +kernel
theorem d_L_law_321 : decode mi_L_law.2.1 321 = .ok (.iaload, 1) := by decide +kernel
theorem d_L_law_322 : decode mi_L_law.2.1 322 = .ok (.invokevirtual 30, 3) := by decide +kernel
theorem d_L_law_325 : decode mi_L_law.2.1 325 = .ok (.if_icmp .eq 817, 3) := by decide +kernel
theorem d_L_law_328 : decode mi_L_law.2.1 328 = .ok (.iconst 0, 1) := by decide +kernel
theorem d_L_law_329 : decode mi_L_law.2.1 329 = .ok (.ireturn, 1) := by decide +kernel
theorem d_L_law_330 : decode mi_L_law.2.1 330 = .ok (.aload_n 1, 1) := by decide +kernel
theorem d_L_law_331 : decode mi_L_law.2.1 331 = .ok (.aload_n 0, 1) := by decide +kernel
theorem d_L_law_332 : decode mi_L_law.2.1 332 = .ok (.iload_n 3, 1) := by decide +kernel
theorem d_L_law_333 : decode mi_L_law.2.1 333 = .ok (.iconst 1, 1) := by decide +kernel
theorem d_L_law_334 : decode mi_L_law.2.1 334 = .ok (.iadd, 1) := by decide +kernel
theorem d_L_law_335 : decode mi_L_law.2.1 335 = .ok (.iaload, 1) := by decide +kernel
theorem d_L_law_336 : decode mi_L_law.2.1 336 = .ok (.invokevirtual 31, 3) := by decide +kernel
theorem d_L_law_339 : decode mi_L_law.2.1 339 = .ok (.aload_n 2, 1) := by decide +kernel
theorem d_L_law_340 : decode mi_L_law.2.1 340 = .ok (.aload_n 0, 1) := by decide +kernel
theorem d_L_law_341 : decode mi_L_law.2.1 341 = .ok (.iload_n 3, 1) := by decide +kernel
theorem d_L_law_342 : decode mi_L_law.2.1 342 = .ok (.iconst 1, 1) := by decide +kernel
theorem d_L_law_343 : decode mi_L_law.2.1 343 = .ok (.iadd, 1) := by decide +kernel
theorem d_L_law_344 : decode mi_L_law.2.1 344 = .ok (.iaload, 1) := by decide +kernel
theorem d_L_law_345 : decode mi_L_law.2.1 345 = .ok (.invokevirtual 35, 3) := by decide +kernel
theorem d_L_law_348 : decode mi_L_law.2.1 348 = .ok (.if_icmp .eq 794, 3) := by decide +kernel
theorem d_L_law_351 : decode mi_L_law.2.1 351 = .ok (.iconst 0, 1) := by decide +kernel
theorem d_L_law_352 : decode mi_L_law.2.1 352 = .ok (.ireturn, 1) := by decide +kernel
theorem d_L_law_353 : decode mi_L_law.2.1 353 = .ok (.aload_n 1, 1) := by decide +kernel
theorem d_L_law_354 : decode mi_L_law.2.1 354 = .ok (.aload_n 0, 1) := by decide +kernel
theorem d_L_law_355 : decode mi_L_law.2.1 355 = .ok (.iload_n 3, 1) := by decide +kernel
theorem d_L_law_356 : decode mi_L_law.2.1 356 = .ok (.iconst 1, 1) := by decide +kernel
theorem d_L_law_357 : decode mi_L_law.2.1 357 = .ok (.iadd, 1) := by decide +kernel
theorem d_L_law_358 : decode mi_L_law.2.1 358 = .ok (.iaload, 1) := by decide +kernel
theorem d_L_law_359 : decode mi_L_law.2.1 359 = .ok (.aload_n 0, 1) := by decide +kernel
theorem d_L_law_360 : decode mi_L_law.2.1 360 = .ok (.iload_n 3, 1) := by decide +kernel
theorem d_L_law_361 : decode mi_L_law.2.1 361 = .ok (.iconst 2, 1) := by decide +kernel
theorem d_L_law_362 : decode mi_L_law.2.1 362 = .ok (.iadd, 1) := by decide +kernel
theorem d_L_law_363 : decode mi_L_law.2.1 363 = .ok (.iaload, 1) := by decide +kernel
theorem d_L_law_364 : decode mi_L_law.2.1 364 = .ok (.invokevirtual 36, 3) := by decide +kernel
theorem d_L_law_367 : decode mi_L_law.2.1 367 = .ok (.aload_n 2, 1) := by decide +kernel
theorem d_L_law_368 : decode mi_L_law.2.1 368 = .ok (.aload_n 0, 1) := by decide +kernel
theorem d_L_law_369 : decode mi_L_law.2.1 369 = .ok (.iload_n 3, 1) := by decide +kernel
theorem d_L_law_370 : decode mi_L_law.2.1 370 = .ok (.iconst 1, 1) := by decide +kernel
theorem d_L_law_371 : decode mi_L_law.2.1 371 = .ok (.iadd, 1) := by decide +kernel
theorem d_L_law_372 : decode mi_L_law.2.1 372 = .ok (.iaload, 1) := by decide +kernel
theorem d_L_law_373 : decode mi_L_law.2.1 373 = .ok (.aload_n 0, 1) := by decide +kernel
theorem d_L_law_374 : decode mi_L_law.2.1 374 = .ok (.iload_n 3, 1) := by decide +kernel
theorem d_L_law_375 : decode mi_L_law.2.1 375 = .ok (.iconst 2, 1) := by decide +kernel
theorem d_L_law_376 : decode mi_L_law.2.1 376 = .ok (.iadd, 1) := by decide +kernel
theorem d_L_law_377 : decode mi_L_law.2.1 377 = .ok (.iaload, 1) := by decide +kernel
theorem d_L_law_378 : decode mi_L_law.2.1 378 = .ok (.invokevirtual 39, 3) := by decide +kernel
theorem d_L_law_381 : decode mi_L_law.2.1 381 = .ok (.if_icmp .eq 761, 3) := by decide +kernel
theorem d_L_law_384 : decode mi_L_law.2.1 384 = .ok (.iconst 0, 1) := by decide +kernel
theorem d_L_law_385 : decode mi_L_law.2.1 385 = .ok (.ireturn, 1) := by decide +kernel
theorem d_L_law_386 : decode mi_L_law.2.1 386 = .ok (.aload_n 1, 1) := by decide +kernel
theorem d_L_law_387 : decode mi_L_law.2.1 387 = .ok (.aload_n 0, 1) := by decide +kernel
theorem d_L_law_388 : decode mi_L_law.2.1 388 = .ok (.iload_n 3, 1) := by decide +kernel
theorem d_L_law_389 : decode mi_L_law.2.1 389 = .ok (.iconst 1, 1) := by decide +kernel
theorem d_L_law_390 : decode mi_L_law.2.1 390 = .ok (.iadd, 1) := by decide +kernel
theorem d_L_law_391 : decode mi_L_law.2.1 391 = .ok (.iaload, 1) := by decide +kernel
theorem d_L_law_392 : decode mi_L_law.2.1 392 = .ok (.aload_n 0, 1) := by decide +kernel
theorem d_L_law_393 : decode mi_L_law.2.1 393 = .ok (.iload_n 3, 1) := by decide +kernel
theorem d_L_law_394 : decode mi_L_law.2.1 394 = .ok (.iconst 2, 1) := by decide +kernel
theorem d_L_law_395 : decode mi_L_law.2.1 395 = .ok (.iadd, 1) := by decide +kernel
theorem d_L_law_396 : decode mi_L_law.2.1 396 = .ok (.iaload, 1) := by decide +kernel
theorem d_L_law_397 : decode mi_L_law.2.1 397 = .ok (.invokevirtual 40, 3) := by decide +kernel
theorem d_L_law_400 : decode mi_L_law.2.1 400 = .ok (.aload_n 2, 1) := by decide +kernel
theorem d_L_law_401 : decode mi_L_law.2.1 401 = .ok (.aload_n 0, 1) := by decide +kernel
theorem d_L_law_402 : decode mi_L_law.2.1 402 = .ok (.iload_n 3, 1) := by decide +kernel
theorem d_L_law_403 : decode mi_L_law.2.1 403 = .ok (.iconst 1, 1) := by decide +kernel
theorem d_L_law_404 : decode mi_L_law.2.1 404 = .ok (.iadd, 1) := by decide +kernel
theorem d_L_law_405 : decode mi_L_law.2.1 405 = .ok (.iaload, 1) := by decide +kernel
theorem d_L_law_406 : decode mi_L_law.2.1 406 = .ok (.aload_n 0, 1) := by decide +kernel
theorem d_L_law_407 : decode mi_L_law.2.1 407 = .ok (.iload_n 3, 1) := by decide +kernel
theorem d_L_law_408 : decode mi_L_law.2.1 408 = .ok (.iconst 2, 1) := by decide +kernel
theorem d_L_law_409 : decode mi_L_law.2.1 409 = .ok (.iadd, 1) := by decide +kernel
theorem d_L_law_410 : decode mi_L_law.2.1 410 = .ok (.iaload, 1) := by decide +kernel
theorem d_L_law_411 : decode mi_L_law.2.1 411 = .ok (.invokevirtual 43, 3) := by decide +kernel
theorem d_L_law_414 : decode mi_L_law.2.1 414 = .ok (.if_icmp .eq 728, 3) := by decide +kernel
theorem d_L_law_417 : decode mi_L_law.2.1 417 = .ok (.iconst 0, 1) := by decide +kernel
theorem d_L_law_418 : decode mi_L_law.2.1 418 = .ok (.ireturn, 1) := by decide +kernel
theorem d_L_law_419 : decode mi_L_law.2.1 419 = .ok (.aload_n 1, 1) := by decide +kernel
theorem d_L_law_420 : decode mi_L_law.2.1 420 = .ok (.aload_n 0, 1) := by decide +kernel
theorem d_L_law_421 : decode mi_L_law.2.1 421 = .ok (.iload_n 3, 1) := by decide +kernel
theorem d_L_law_422 : decode mi_L_law.2.1 422 = .ok (.iconst 1, 1) := by decide +kernel
theorem d_L_law_423 : decode mi_L_law.2.1 423 = .ok (.iadd, 1) := by decide +kernel
theorem d_L_law_424 : decode mi_L_law.2.1 424 = .ok (.iaload, 1) := by decide +kernel
theorem d_L_law_425 : decode mi_L_law.2.1 425 = .ok (.aload_n 0, 1) := by decide +kernel
theorem d_L_law_426 : decode mi_L_law.2.1 426 = .ok (.iload_n 3, 1) := by decide +kernel
theorem d_L_law_427 : decode mi_L_law.2.1 427 = .ok (.iconst 2, 1) := by decide +kernel
theorem d_L_law_428 : decode mi_L_law.2.1 428 = .ok (.iadd, 1) := by decide +kernel
theorem d_L_law_429 : decode mi_L_law.2.1 429 = .ok (.iaload, 1) := by decide +kernel
theorem d_L_law_430 : decode mi_L_law.2.1 430 = .ok (.aload_n 0, 1) := by decide +kernel
theorem d_L_law_431 : decode mi_L_law.2.1 431 = .ok (.iload_n 3, 1) := by decide +kernel
theorem d_L_law_432 : decode mi_L_law.2.1 432 = .ok (.iconst 3, 1) := by decide +kernel
theorem d_L_law_433 : decode mi_L_law.2.1 433 = .ok (.iadd, 1) := by decide +kernel
theorem d_L_law_434 : decode mi_L_law.2.1 434 = .ok (.iaload, 1) := by decide +kernel
theorem d_L_law_435 : decode mi_L_law.2.1 435 = .ok (.invokevirtual 44, 3) := by decide +kernel
theorem d_L_law_438 : decode mi_L_law.2.1 438 = .ok (.aload_n 2, 1) := by decide +kernel
theorem d_L_law_439 : decode mi_L_law.2.1 439 = .ok (.aload_n 0, 1) := by decide +kernel
theorem d_L_law_440 : decode mi_L_law.2.1 440 = .ok (.iload_n 3, 1) := by decide +kernel
theorem d_L_law_441 : decode mi_L_law.2.1 441 = .ok (.iconst 1, 1) := by decide +kernel
theorem d_L_law_442 : decode mi_L_law.2.1 442 = .ok (.iadd, 1) := by decide +kernel
theorem d_L_law_443 : decode mi_L_law.2.1 443 = .ok (.iaload, 1) := by decide +kernel
theorem d_L_law_444 : decode mi_L_law.2.1 444 = .ok (.aload_n 0, 1) := by decide +kernel
theorem d_L_law_445 : decode mi_L_law.2.1 445 = .ok (.iload_n 3, 1) := by decide +kernel
theorem d_L_law_446 : decode mi_L_law.2.1 446 = .ok (.iconst 2, 1) := by decide +kernel
theorem d_L_law_447 : decode mi_L_law.2.1 447 = .ok (.iadd, 1) := by decide +kernel
theorem d_L_law_448 : decode mi_L_law.2.1 448 = .ok (.iaload, 1) := by decide +kernel
theorem d_L_law_449 : decode mi_L_law.2.1 449 = .ok (.aload_n 0, 1) := by decide +kernel
theorem d_L_law_450 : decode mi_L_law.2.1 450 = .ok (.iload_n 3, 1) := by decide +kernel
theorem d_L_law_451 : decode mi_L_law.2.1 451 = .ok (.iconst 3, 1) := by decide +kernel
theorem d_L_law_452 : decode mi_L_law.2.1 452 = .ok (.iadd, 1) := by decide +kernel
theorem d_L_law_453 : decode mi_L_law.2.1 453 = .ok (.iaload, 1) := by decide +kernel
theorem d_L_law_454 : decode mi_L_law.2.1 454 = .ok (.invokevirtual 47, 3) := by decide +kernel
theorem d_L_law_457 : decode mi_L_law.2.1 457 = .ok (.if_icmp .eq 685, 3) := by decide +kernel
theorem d_L_law_460 : decode mi_L_law.2.1 460 = .ok (.iconst 0, 1) := by decide +kernel
theorem d_L_law_461 : decode mi_L_law.2.1 461 = .ok (.ireturn, 1) := by decide +kernel
theorem d_L_law_462 : decode mi_L_law.2.1 462 = .ok (.aload_n 1, 1) := by decide +kernel
theorem d_L_law_463 : decode mi_L_law.2.1 463 = .ok (.aload_n 0, 1) := by decide +kernel
theorem d_L_law_464 : decode mi_L_law.2.1 464 = .ok (.iload_n 3, 1) := by decide +kernel
theorem d_L_law_465 : decode mi_L_law.2.1 465 = .ok (.iconst 1, 1) := by decide +kernel
theorem d_L_law_466 : decode mi_L_law.2.1 466 = .ok (.iadd, 1) := by decide +kernel
theorem d_L_law_467 : decode mi_L_law.2.1 467 = .ok (.iaload, 1) := by decide +kernel
theorem d_L_law_468 : decode mi_L_law.2.1 468 = .ok (.aload_n 0, 1) := by decide +kernel
theorem d_L_law_469 : decode mi_L_law.2.1 469 = .ok (.iload_n 3, 1) := by decide +kernel
theorem d_L_law_470 : decode mi_L_law.2.1 470 = .ok (.iconst 2, 1) := by decide +kernel
theorem d_L_law_471 : decode mi_L_law.2.1 471 = .ok (.iadd, 1) := by decide +kernel
theorem d_L_law_472 : decode mi_L_law.2.1 472 = .ok (.iaload, 1) := by decide +kernel
theorem d_L_law_473 : decode mi_L_law.2.1 473 = .ok (.invokevirtual 48, 3) := by decide +kernel
theorem d_L_law_476 : decode mi_L_law.2.1 476 = .ok (.aload_n 2, 1) := by decide +kernel
theorem d_L_law_477 : decode mi_L_law.2.1 477 = .ok (.aload_n 0, 1) := by decide +kernel
theorem d_L_law_478 : decode mi_L_law.2.1 478 = .ok (.iload_n 3, 1) := by decide +kernel
theorem d_L_law_479 : decode mi_L_law.2.1 479 = .ok (.iconst 1, 1) := by decide +kernel
theorem d_L_law_480 : decode mi_L_law.2.1 480 = .ok (.iadd, 1) := by decide +kernel
theorem d_L_law_481 : decode mi_L_law.2.1 481 = .ok (.iaload, 1) := by decide +kernel
theorem d_L_law_482 : decode mi_L_law.2.1 482 = .ok (.aload_n 0, 1) := by decide +kernel
theorem d_L_law_483 : decode mi_L_law.2.1 483 = .ok (.iload_n 3, 1) := by decide +kernel
theorem d_L_law_484 : decode mi_L_law.2.1 484 = .ok (.iconst 2, 1) := by decide +kernel
theorem d_L_law_485 : decode mi_L_law.2.1 485 = .ok (.iadd, 1) := by decide +kernel
theorem d_L_law_486 : decode mi_L_law.2.1 486 = .ok (.iaload, 1) := by decide +kernel
theorem d_L_law_487 : decode mi_L_law.2.1 487 = .ok (.invokevirtual 51, 3) := by decide +kernel
theorem d_L_law_490 : decode mi_L_law.2.1 490 = .ok (.if_icmp .eq 652, 3) := by decide +kernel
theorem d_L_law_493 : decode mi_L_law.2.1 493 = .ok (.iconst 0, 1) := by decide +kernel
theorem d_L_law_494 : decode mi_L_law.2.1 494 = .ok (.ireturn, 1) := by decide +kernel
theorem d_L_law_495 : decode mi_L_law.2.1 495 = .ok (.aload_n 1, 1) := by decide +kernel
theorem d_L_law_496 : decode mi_L_law.2.1 496 = .ok (.aload_n 0, 1) := by decide +kernel
theorem d_L_law_497 : decode mi_L_law.2.1 497 = .ok (.iload_n 3, 1) := by decide +kernel
theorem d_L_law_498 : decode mi_L_law.2.1 498 = .ok (.iconst 1, 1) := by decide +kernel
theorem d_L_law_499 : decode mi_L_law.2.1 499 = .ok (.iadd, 1) := by decide +kernel
theorem d_L_law_500 : decode mi_L_law.2.1 500 = .ok (.iaload, 1) := by decide +kernel
theorem d_L_law_501 : decode mi_L_law.2.1 501 = .ok (.invokevirtual 52, 3) := by decide +kernel
theorem d_L_law_504 : decode mi_L_law.2.1 504 = .ok (.aload_n 2, 1) := by decide +kernel
theorem d_L_law_505 : decode mi_L_law.2.1 505 = .ok (.aload_n 0, 1) := by decide +kernel
theorem d_L_law_506 : decode mi_L_law.2.1 506 = .ok (.iload_n 3, 1) := by decide +kernel
theorem d_L_law_507 : decode mi_L_law.2.1 507 = .ok (.iconst 1, 1) := by decide +kernel
theorem d_L_law_508 : decode mi_L_law.2.1 508 = .ok (.iadd, 1) := by decide +kernel
theorem d_L_law_509 : decode mi_L_law.2.1 509 = .ok (.iaload, 1) := by decide +kernel
theorem d_L_law_510 : decode mi_L_law.2.1 510 = .ok (.invokevirtual 55, 3) := by decide +kernel
theorem d_L_law_513 : decode mi_L_law.2.1 513 = .ok (.if_icmp .eq 629, 3) := by decide +kernel
theorem d_L_law_516 : decode mi_L_law.2.1 516 = .ok (.iconst 0, 1) := by decide +kernel
theorem d_L_law_517 : decode mi_L_law.2.1 517 = .ok (.ireturn, 1) := by decide +kernel
theorem d_L_law_518 : decode mi_L_law.2.1 518 = .ok (.aload_n 1, 1) := by decide +kernel
theorem d_L_law_519 : decode mi_L_law.2.1 519 = .ok (.aload_n 0, 1) := by decide +kernel
theorem d_L_law_520 : decode mi_L_law.2.1 520 = .ok (.iload_n 3, 1) := by decide +kernel
theorem d_L_law_521 : decode mi_L_law.2.1 521 = .ok (.iconst 1, 1) := by decide +kernel
theorem d_L_law_522 : decode mi_L_law.2.1 522 = .ok (.iadd, 1) := by decide +kernel
theorem d_L_law_523 : decode mi_L_law.2.1 523 = .ok (.iaload, 1) := by decide +kernel
theorem d_L_law_524 : decode mi_L_law.2.1 524 = .ok (.invokevirtual 56, 3) := by decide +kernel
theorem d_L_law_527 : decode mi_L_law.2.1 527 = .ok (.aload_n 2, 1) := by decide +kernel
theorem d_L_law_528 : decode mi_L_law.2.1 528 = .ok (.aload_n 0, 1) := by decide +kernel
theorem d_L_law_529 : decode mi_L_law.2.1 529 = .ok (.iload_n 3, 1) := by decide +kernel
theorem d_L_law_530 : decode mi_L_law.2.1 530 = .ok (.iconst 1, 1) := by decide +kernel
theorem d_L_law_531 : decode mi_L_law.2.1 531 = .ok (.iadd, 1) := by decide +kernel
theorem d_L_law_532 : decode mi_L_law.2.1 532 = .ok (.iaload, 1) := by decide +kernel
theorem d_L_law_533 : decode mi_L_law.2.1 533 = .ok (.invokevirtual 60, 3) := by decide +kernel
theorem d_L_law_536 : decode mi_L_law.2.1 536 = .ok (.lcmp, 1) := by decide +kernel
theorem d_L_law_537 : decode mi_L_law.2.1 537 = .ok (.ifCond .eq 605, 3) := by decide +kernel
theorem d_L_law_540 : decode mi_L_law.2.1 540 = .ok (.iconst 0, 1) := by decide +kernel
theorem d_L_law_541 : decode mi_L_law.2.1 541 = .ok (.ireturn, 1) := by decide +kernel
theorem d_L_law_542 : decode mi_L_law.2.1 542 = .ok (.aload_n 1, 1) := by decide +kernel
theorem d_L_law_543 : decode mi_L_law.2.1 543 = .ok (.aload_n 0, 1) := by decide +kernel
theorem d_L_law_544 : decode mi_L_law.2.1 544 = .ok (.iload_n 3, 1) := by decide +kernel
theorem d_L_law_545 : decode mi_L_law.2.1 545 = .ok (.iconst 1, 1) := by decide +kernel
theorem d_L_law_546 : decode mi_L_law.2.1 546 = .ok (.iadd, 1) := by decide +kernel
theorem d_L_law_547 : decode mi_L_law.2.1 547 = .ok (.iaload, 1) := by decide +kernel
theorem d_L_law_548 : decode mi_L_law.2.1 548 = .ok (.aload_n 0, 1) := by decide +kernel
theorem d_L_law_549 : decode mi_L_law.2.1 549 = .ok (.iload_n 3, 1) := by decide +kernel
theorem d_L_law_550 : decode mi_L_law.2.1 550 = .ok (.iconst 2, 1) := by decide +kernel
theorem d_L_law_551 : decode mi_L_law.2.1 551 = .ok (.iadd, 1) := by decide +kernel
theorem d_L_law_552 : decode mi_L_law.2.1 552 = .ok (.iaload, 1) := by decide +kernel
theorem d_L_law_553 : decode mi_L_law.2.1 553 = .ok (.aload_n 0, 1) := by decide +kernel
theorem d_L_law_554 : decode mi_L_law.2.1 554 = .ok (.iload_n 3, 1) := by decide +kernel
theorem d_L_law_555 : decode mi_L_law.2.1 555 = .ok (.iconst 3, 1) := by decide +kernel
theorem d_L_law_556 : decode mi_L_law.2.1 556 = .ok (.iadd, 1) := by decide +kernel
theorem d_L_law_557 : decode mi_L_law.2.1 557 = .ok (.iaload, 1) := by decide +kernel
theorem d_L_law_558 : decode mi_L_law.2.1 558 = .ok (.invokevirtual 61, 3) := by decide +kernel
theorem d_L_law_561 : decode mi_L_law.2.1 561 = .ok (.aload_n 2, 1) := by decide +kernel
theorem d_L_law_562 : decode mi_L_law.2.1 562 = .ok (.aload_n 0, 1) := by decide +kernel
theorem d_L_law_563 : decode mi_L_law.2.1 563 = .ok (.iload_n 3, 1) := by decide +kernel
theorem d_L_law_564 : decode mi_L_law.2.1 564 = .ok (.iconst 1, 1) := by decide +kernel
theorem d_L_law_565 : decode mi_L_law.2.1 565 = .ok (.iadd, 1) := by decide +kernel
theorem d_L_law_566 : decode mi_L_law.2.1 566 = .ok (.iaload, 1) := by decide +kernel
theorem d_L_law_567 : decode mi_L_law.2.1 567 = .ok (.aload_n 0, 1) := by decide +kernel
theorem d_L_law_568 : decode mi_L_law.2.1 568 = .ok (.iload_n 3, 1) := by decide +kernel
theorem d_L_law_569 : decode mi_L_law.2.1 569 = .ok (.iconst 2, 1) := by decide +kernel
theorem d_L_law_570 : decode mi_L_law.2.1 570 = .ok (.iadd, 1) := by decide +kernel
theorem d_L_law_571 : decode mi_L_law.2.1 571 = .ok (.iaload, 1) := by decide +kernel
theorem d_L_law_572 : decode mi_L_law.2.1 572 = .ok (.aload_n 0, 1) := by decide +kernel
theorem d_L_law_573 : decode mi_L_law.2.1 573 = .ok (.iload_n 3, 1) := by decide +kernel
theorem d_L_law_574 : decode mi_L_law.2.1 574 = .ok (.iconst 3, 1) := by decide +kernel
theorem d_L_law_575 : decode mi_L_law.2.1 575 = .ok (.iadd, 1) := by decide +kernel
theorem d_L_law_576 : decode mi_L_law.2.1 576 = .ok (.iaload, 1) := by decide +kernel
theorem d_L_law_577 : decode mi_L_law.2.1 577 = .ok (.invokevirtual 64, 3) := by decide +kernel
theorem d_L_law_580 : decode mi_L_law.2.1 580 = .ok (.if_icmp .eq 562, 3) := by decide +kernel
theorem d_L_law_583 : decode mi_L_law.2.1 583 = .ok (.iconst 0, 1) := by decide +kernel
theorem d_L_law_584 : decode mi_L_law.2.1 584 = .ok (.ireturn, 1) := by decide +kernel
theorem d_L_law_585 : decode mi_L_law.2.1 585 = .ok (.aload_n 1, 1) := by decide +kernel
theorem d_L_law_586 : decode mi_L_law.2.1 586 = .ok (.aload_n 0, 1) := by decide +kernel
theorem d_L_law_587 : decode mi_L_law.2.1 587 = .ok (.iload_n 3, 1) := by decide +kernel
theorem d_L_law_588 : decode mi_L_law.2.1 588 = .ok (.iconst 1, 1) := by decide +kernel
theorem d_L_law_589 : decode mi_L_law.2.1 589 = .ok (.iadd, 1) := by decide +kernel
theorem d_L_law_590 : decode mi_L_law.2.1 590 = .ok (.iaload, 1) := by decide +kernel
theorem d_L_law_591 : decode mi_L_law.2.1 591 = .ok (.invokevirtual 65, 3) := by decide +kernel
theorem d_L_law_594 : decode mi_L_law.2.1 594 = .ok (.aload_n 2, 1) := by decide +kernel
theorem d_L_law_595 : decode mi_L_law.2.1 595 = .ok (.aload_n 0, 1) := by decide +kernel
theorem d_L_law_596 : decode mi_L_law.2.1 596 = .ok (.iload_n 3, 1) := by decide +kernel
theorem d_L_law_597 : decode mi_L_law.2.1 597 = .ok (.iconst 1, 1) := by decide +kernel
theorem d_L_law_598 : decode mi_L_law.2.1 598 = .ok (.iadd, 1) := by decide +kernel
theorem d_L_law_599 : decode mi_L_law.2.1 599 = .ok (.iaload, 1) := by decide +kernel
theorem d_L_law_600 : decode mi_L_law.2.1 600 = .ok (.invokevirtual 68, 3) := by decide +kernel
theorem d_L_law_603 : decode mi_L_law.2.1 603 = .ok (.if_icmp .eq 539, 3) := by decide +kernel
theorem d_L_law_606 : decode mi_L_law.2.1 606 = .ok (.iconst 0, 1) := by decide +kernel
theorem d_L_law_607 : decode mi_L_law.2.1 607 = .ok (.ireturn, 1) := by decide +kernel
theorem d_L_law_608 : decode mi_L_law.2.1 608 = .ok (.aload_n 1, 1) := by decide +kernel
theorem d_L_law_609 : decode mi_L_law.2.1 609 = .ok (.aload_n 0, 1) := by decide +kernel
theorem d_L_law_610 : decode mi_L_law.2.1 610 = .ok (.iload_n 3, 1) := by decide +kernel
theorem d_L_law_611 : decode mi_L_law.2.1 611 = .ok (.iconst 1, 1) := by decide +kernel
theorem d_L_law_612 : decode mi_L_law.2.1 612 = .ok (.iadd, 1) := by decide +kernel
theorem d_L_law_613 : decode mi_L_law.2.1 613 = .ok (.iaload, 1) := by decide +kernel
theorem d_L_law_614 : decode mi_L_law.2.1 614 = .ok (.aload_n 0, 1) := by decide +kernel
theorem d_L_law_615 : decode mi_L_law.2.1 615 = .ok (.iload_n 3, 1) := by decide +kernel
theorem d_L_law_616 : decode mi_L_law.2.1 616 = .ok (.iconst 2, 1) := by decide +kernel
theorem d_L_law_617 : decode mi_L_law.2.1 617 = .ok (.iadd, 1) := by decide +kernel
theorem d_L_law_618 : decode mi_L_law.2.1 618 = .ok (.iaload, 1) := by decide +kernel
theorem d_L_law_619 : decode mi_L_law.2.1 619 = .ok (.invokevirtual 69, 3) := by decide +kernel
theorem d_L_law_622 : decode mi_L_law.2.1 622 = .ok (.aload_n 2, 1) := by decide +kernel
theorem d_L_law_623 : decode mi_L_law.2.1 623 = .ok (.aload_n 0, 1) := by decide +kernel
theorem d_L_law_624 : decode mi_L_law.2.1 624 = .ok (.iload_n 3, 1) := by decide +kernel
theorem d_L_law_625 : decode mi_L_law.2.1 625 = .ok (.iconst 1, 1) := by decide +kernel
theorem d_L_law_626 : decode mi_L_law.2.1 626 = .ok (.iadd, 1) := by decide +kernel
theorem d_L_law_627 : decode mi_L_law.2.1 627 = .ok (.iaload, 1) := by decide +kernel
theorem d_L_law_628 : decode mi_L_law.2.1 628 = .ok (.aload_n 0, 1) := by decide +kernel
theorem d_L_law_629 : decode mi_L_law.2.1 629 = .ok (.iload_n 3, 1) := by decide +kernel
theorem d_L_law_630 : decode mi_L_law.2.1 630 = .ok (.iconst 2, 1) := by decide +kernel
theorem d_L_law_631 : decode mi_L_law.2.1 631 = .ok (.iadd, 1) := by decide +kernel
theorem d_L_law_632 : decode mi_L_law.2.1 632 = .ok (.iaload, 1) := by decide +kernel
theorem d_L_law_633 : decode mi_L_law.2.1 633 = .ok (.invokevirtual 72, 3) := by decide +kernel
theorem d_L_law_636 : decode mi_L_law.2.1 636 = .ok (.if_icmp .eq 506, 3) := by decide +kernel
theorem d_L_law_639 : decode mi_L_law.2.1 639 = .ok (.iconst 0, 1) := by decide +kernel
theorem d_L_law_640 : decode mi_L_law.2.1 640 = .ok (.ireturn, 1) := by decide +kernel
theorem d_L_law_641 : decode mi_L_law.2.1 641 = .ok (.aload_n 1, 1) := by decide +kernel
theorem d_L_law_642 : decode mi_L_law.2.1 642 = .ok (.aload_n 0, 1) := by decide +kernel
theorem d_L_law_643 : decode mi_L_law.2.1 643 = .ok (.iload_n 3, 1) := by decide +kernel
theorem d_L_law_644 : decode mi_L_law.2.1 644 = .ok (.iconst 1, 1) := by decide +kernel
theorem d_L_law_645 : decode mi_L_law.2.1 645 = .ok (.iadd, 1) := by decide +kernel
theorem d_L_law_646 : decode mi_L_law.2.1 646 = .ok (.iaload, 1) := by decide +kernel
theorem d_L_law_647 : decode mi_L_law.2.1 647 = .ok (.aload_n 0, 1) := by decide +kernel
theorem d_L_law_648 : decode mi_L_law.2.1 648 = .ok (.iload_n 3, 1) := by decide +kernel
theorem d_L_law_649 : decode mi_L_law.2.1 649 = .ok (.iconst 2, 1) := by decide +kernel
theorem d_L_law_650 : decode mi_L_law.2.1 650 = .ok (.iadd, 1) := by decide +kernel
theorem d_L_law_651 : decode mi_L_law.2.1 651 = .ok (.iaload, 1) := by decide +kernel
theorem d_L_law_652 : decode mi_L_law.2.1 652 = .ok (.aload_n 0, 1) := by decide +kernel
theorem d_L_law_653 : decode mi_L_law.2.1 653 = .ok (.iload_n 3, 1) := by decide +kernel
theorem d_L_law_654 : decode mi_L_law.2.1 654 = .ok (.iconst 3, 1) := by decide +kernel
theorem d_L_law_655 : decode mi_L_law.2.1 655 = .ok (.iadd, 1) := by decide +kernel
theorem d_L_law_656 : decode mi_L_law.2.1 656 = .ok (.iaload, 1) := by decide +kernel
theorem d_L_law_657 : decode mi_L_law.2.1 657 = .ok (.invokevirtual 73, 3) := by decide +kernel
theorem d_L_law_660 : decode mi_L_law.2.1 660 = .ok (.aload_n 2, 1) := by decide +kernel
theorem d_L_law_661 : decode mi_L_law.2.1 661 = .ok (.aload_n 0, 1) := by decide +kernel
theorem d_L_law_662 : decode mi_L_law.2.1 662 = .ok (.iload_n 3, 1) := by decide +kernel
theorem d_L_law_663 : decode mi_L_law.2.1 663 = .ok (.iconst 1, 1) := by decide +kernel
theorem d_L_law_664 : decode mi_L_law.2.1 664 = .ok (.iadd, 1) := by decide +kernel
theorem d_L_law_665 : decode mi_L_law.2.1 665 = .ok (.iaload, 1) := by decide +kernel
theorem d_L_law_666 : decode mi_L_law.2.1 666 = .ok (.aload_n 0, 1) := by decide +kernel
theorem d_L_law_667 : decode mi_L_law.2.1 667 = .ok (.iload_n 3, 1) := by decide +kernel
theorem d_L_law_668 : decode mi_L_law.2.1 668 = .ok (.iconst 2, 1) := by decide +kernel
theorem d_L_law_669 : decode mi_L_law.2.1 669 = .ok (.iadd, 1) := by decide +kernel
theorem d_L_law_670 : decode mi_L_law.2.1 670 = .ok (.iaload, 1) := by decide +kernel
theorem d_L_law_671 : decode mi_L_law.2.1 671 = .ok (.aload_n 0, 1) := by decide +kernel
theorem d_L_law_672 : decode mi_L_law.2.1 672 = .ok (.iload_n 3, 1) := by decide +kernel
theorem d_L_law_673 : decode mi_L_law.2.1 673 = .ok (.iconst 3, 1) := by decide +kernel
theorem d_L_law_674 : decode mi_L_law.2.1 674 = .ok (.iadd, 1) := by decide +kernel
theorem d_L_law_675 : decode mi_L_law.2.1 675 = .ok (.iaload, 1) := by decide +kernel
theorem d_L_law_676 : decode mi_L_law.2.1 676 = .ok (.invokevirtual 76, 3) := by decide +kernel
theorem d_L_law_679 : decode mi_L_law.2.1 679 = .ok (.if_icmp .eq 463, 3) := by decide +kernel
theorem d_L_law_682 : decode mi_L_law.2.1 682 = .ok (.iconst 0, 1) := by decide +kernel
theorem d_L_law_683 : decode mi_L_law.2.1 683 = .ok (.ireturn, 1) := by decide +kernel
theorem d_L_law_684 : decode mi_L_law.2.1 684 = .ok (.aload_n 1, 1) := by decide +kernel
theorem d_L_law_685 : decode mi_L_law.2.1 685 = .ok (.aload_n 0, 1) := by decide +kernel
theorem d_L_law_686 : decode mi_L_law.2.1 686 = .ok (.iload_n 3, 1) := by decide +kernel
theorem d_L_law_687 : decode mi_L_law.2.1 687 = .ok (.iconst 1, 1) := by decide +kernel
theorem d_L_law_688 : decode mi_L_law.2.1 688 = .ok (.iadd, 1) := by decide +kernel
theorem d_L_law_689 : decode mi_L_law.2.1 689 = .ok (.iaload, 1) := by decide +kernel
theorem d_L_law_690 : decode mi_L_law.2.1 690 = .ok (.aload_n 0, 1) := by decide +kernel
theorem d_L_law_691 : decode mi_L_law.2.1 691 = .ok (.iload_n 3, 1) := by decide +kernel
theorem d_L_law_692 : decode mi_L_law.2.1 692 = .ok (.iconst 2, 1) := by decide +kernel
theorem d_L_law_693 : decode mi_L_law.2.1 693 = .ok (.iadd, 1) := by decide +kernel
theorem d_L_law_694 : decode mi_L_law.2.1 694 = .ok (.iaload, 1) := by decide +kernel
theorem d_L_law_695 : decode mi_L_law.2.1 695 = .ok (.aload_n 0, 1) := by decide +kernel
theorem d_L_law_696 : decode mi_L_law.2.1 696 = .ok (.iload_n 3, 1) := by decide +kernel
theorem d_L_law_697 : decode mi_L_law.2.1 697 = .ok (.iconst 3, 1) := by decide +kernel
theorem d_L_law_698 : decode mi_L_law.2.1 698 = .ok (.iadd, 1) := by decide +kernel
theorem d_L_law_699 : decode mi_L_law.2.1 699 = .ok (.iaload, 1) := by decide +kernel
theorem d_L_law_700 : decode mi_L_law.2.1 700 = .ok (.aload_n 0, 1) := by decide +kernel
theorem d_L_law_701 : decode mi_L_law.2.1 701 = .ok (.iload_n 3, 1) := by decide +kernel
theorem d_L_law_702 : decode mi_L_law.2.1 702 = .ok (.iconst 4, 1) := by decide +kernel
theorem d_L_law_703 : decode mi_L_law.2.1 703 = .ok (.iadd, 1) := by decide +kernel
theorem d_L_law_704 : decode mi_L_law.2.1 704 = .ok (.iaload, 1) := by decide +kernel
theorem d_L_law_705 : decode mi_L_law.2.1 705 = .ok (.invokevirtual 77, 3) := by decide +kernel
theorem d_L_law_708 : decode mi_L_law.2.1 708 = .ok (.aload_n 2, 1) := by decide +kernel
theorem d_L_law_709 : decode mi_L_law.2.1 709 = .ok (.aload_n 0, 1) := by decide +kernel
theorem d_L_law_710 : decode mi_L_law.2.1 710 = .ok (.iload_n 3, 1) := by decide +kernel
theorem d_L_law_711 : decode mi_L_law.2.1 711 = .ok (.iconst 1, 1) := by decide +kernel
theorem d_L_law_712 : decode mi_L_law.2.1 712 = .ok (.iadd, 1) := by decide +kernel
theorem d_L_law_713 : decode mi_L_law.2.1 713 = .ok (.iaload, 1) := by decide +kernel
theorem d_L_law_714 : decode mi_L_law.2.1 714 = .ok (.aload_n 0, 1) := by decide +kernel
theorem d_L_law_715 : decode mi_L_law.2.1 715 = .ok (.iload_n 3, 1) := by decide +kernel
theorem d_L_law_716 : decode mi_L_law.2.1 716 = .ok (.iconst 2, 1) := by decide +kernel
theorem d_L_law_717 : decode mi_L_law.2.1 717 = .ok (.iadd, 1) := by decide +kernel
theorem d_L_law_718 : decode mi_L_law.2.1 718 = .ok (.iaload, 1) := by decide +kernel
theorem d_L_law_719 : decode mi_L_law.2.1 719 = .ok (.aload_n 0, 1) := by decide +kernel
theorem d_L_law_720 : decode mi_L_law.2.1 720 = .ok (.iload_n 3, 1) := by decide +kernel
theorem d_L_law_721 : decode mi_L_law.2.1 721 = .ok (.iconst 3, 1) := by decide +kernel
theorem d_L_law_722 : decode mi_L_law.2.1 722 = .ok (.iadd, 1) := by decide +kernel
theorem d_L_law_723 : decode mi_L_law.2.1 723 = .ok (.iaload, 1) := by decide +kernel
theorem d_L_law_724 : decode mi_L_law.2.1 724 = .ok (.aload_n 0, 1) := by decide +kernel
theorem d_L_law_725 : decode mi_L_law.2.1 725 = .ok (.iload_n 3, 1) := by decide +kernel
theorem d_L_law_726 : decode mi_L_law.2.1 726 = .ok (.iconst 4, 1) := by decide +kernel
theorem d_L_law_727 : decode mi_L_law.2.1 727 = .ok (.iadd, 1) := by decide +kernel
theorem d_L_law_728 : decode mi_L_law.2.1 728 = .ok (.iaload, 1) := by decide +kernel
theorem d_L_law_729 : decode mi_L_law.2.1 729 = .ok (.invokevirtual 81, 3) := by decide +kernel
theorem d_L_law_732 : decode mi_L_law.2.1 732 = .ok (.if_icmp .eq 410, 3) := by decide +kernel
theorem d_L_law_735 : decode mi_L_law.2.1 735 = .ok (.iconst 0, 1) := by decide +kernel
theorem d_L_law_736 : decode mi_L_law.2.1 736 = .ok (.ireturn, 1) := by decide +kernel
theorem d_L_law_737 : decode mi_L_law.2.1 737 = .ok (.aload_n 1, 1) := by decide +kernel
theorem d_L_law_738 : decode mi_L_law.2.1 738 = .ok (.aload_n 0, 1) := by decide +kernel
theorem d_L_law_739 : decode mi_L_law.2.1 739 = .ok (.iload_n 3, 1) := by decide +kernel
theorem d_L_law_740 : decode mi_L_law.2.1 740 = .ok (.iconst 1, 1) := by decide +kernel
theorem d_L_law_741 : decode mi_L_law.2.1 741 = .ok (.iadd, 1) := by decide +kernel
theorem d_L_law_742 : decode mi_L_law.2.1 742 = .ok (.iaload, 1) := by decide +kernel
theorem d_L_law_743 : decode mi_L_law.2.1 743 = .ok (.aload_n 0, 1) := by decide +kernel
theorem d_L_law_744 : decode mi_L_law.2.1 744 = .ok (.iload_n 3, 1) := by decide +kernel
theorem d_L_law_745 : decode mi_L_law.2.1 745 = .ok (.iconst 2, 1) := by decide +kernel
theorem d_L_law_746 : decode mi_L_law.2.1 746 = .ok (.iadd, 1) := by decide +kernel
theorem d_L_law_747 : decode mi_L_law.2.1 747 = .ok (.iaload, 1) := by decide +kernel
theorem d_L_law_748 : decode mi_L_law.2.1 748 = .ok (.ifCond .eq 7, 3) := by decide +kernel
theorem d_L_law_751 : decode mi_L_law.2.1 751 = .ok (.iconst 1, 1) := by decide +kernel
theorem d_L_law_752 : decode mi_L_law.2.1 752 = .ok (.goto 4, 3) := by decide +kernel
theorem d_L_law_755 : decode mi_L_law.2.1 755 = .ok (.iconst 0, 1) := by decide +kernel
theorem d_L_law_756 : decode mi_L_law.2.1 756 = .ok (.invokevirtual 82, 3) := by decide +kernel
theorem d_L_law_759 : decode mi_L_law.2.1 759 = .ok (.aload_n 2, 1) := by decide +kernel
theorem d_L_law_760 : decode mi_L_law.2.1 760 = .ok (.aload_n 0, 1) := by decide +kernel
theorem d_L_law_761 : decode mi_L_law.2.1 761 = .ok (.iload_n 3, 1) := by decide +kernel
theorem d_L_law_762 : decode mi_L_law.2.1 762 = .ok (.iconst 1, 1) := by decide +kernel
theorem d_L_law_763 : decode mi_L_law.2.1 763 = .ok (.iadd, 1) := by decide +kernel
theorem d_L_law_764 : decode mi_L_law.2.1 764 = .ok (.iaload, 1) := by decide +kernel
theorem d_L_law_765 : decode mi_L_law.2.1 765 = .ok (.aload_n 0, 1) := by decide +kernel
theorem d_L_law_766 : decode mi_L_law.2.1 766 = .ok (.iload_n 3, 1) := by decide +kernel
theorem d_L_law_767 : decode mi_L_law.2.1 767 = .ok (.iconst 2, 1) := by decide +kernel
theorem d_L_law_768 : decode mi_L_law.2.1 768 = .ok (.iadd, 1) := by decide +kernel
theorem d_L_law_769 : decode mi_L_law.2.1 769 = .ok (.iaload, 1) := by decide +kernel
theorem d_L_law_770 : decode mi_L_law.2.1 770 = .ok (.ifCond .eq 7, 3) := by decide +kernel
theorem d_L_law_773 : decode mi_L_law.2.1 773 = .ok (.iconst 1, 1) := by decide +kernel
theorem d_L_law_774 : decode mi_L_law.2.1 774 = .ok (.goto 4, 3) := by decide +kernel
theorem d_L_law_777 : decode mi_L_law.2.1 777 = .ok (.iconst 0, 1) := by decide +kernel
theorem d_L_law_778 : decode mi_L_law.2.1 778 = .ok (.invokevirtual 86, 3) := by decide +kernel
theorem d_L_law_781 : decode mi_L_law.2.1 781 = .ok (.if_icmp .eq 361, 3) := by decide +kernel
theorem d_L_law_784 : decode mi_L_law.2.1 784 = .ok (.iconst 0, 1) := by decide +kernel
theorem d_L_law_785 : decode mi_L_law.2.1 785 = .ok (.ireturn, 1) := by decide +kernel
theorem d_L_law_786 : decode mi_L_law.2.1 786 = .ok (.aload_n 1, 1) := by decide +kernel
theorem d_L_law_787 : decode mi_L_law.2.1 787 = .ok (.aload_n 0, 1) := by decide +kernel
theorem d_L_law_788 : decode mi_L_law.2.1 788 = .ok (.iload_n 3, 1) := by decide +kernel
theorem d_L_law_789 : decode mi_L_law.2.1 789 = .ok (.iconst 1, 1) := by decide +kernel
theorem d_L_law_790 : decode mi_L_law.2.1 790 = .ok (.iadd, 1) := by decide +kernel
theorem d_L_law_791 : decode mi_L_law.2.1 791 = .ok (.iaload, 1) := by decide +kernel
theorem d_L_law_792 : decode mi_L_law.2.1 792 = .ok (.aload_n 0, 1) := by decide +kernel
theorem d_L_law_793 : decode mi_L_law.2.1 793 = .ok (.iload_n 3, 1) := by decide +kernel
theorem d_L_law_794 : decode mi_L_law.2.1 794 = .ok (.iconst 2, 1) := by decide +kernel
theorem d_L_law_795 : decode mi_L_law.2.1 795 = .ok (.iadd, 1) := by decide +kernel
theorem d_L_law_796 : decode mi_L_law.2.1 796 = .ok (.iaload, 1) := by decide +kernel
theorem d_L_law_797 : decode mi_L_law.2.1 797 = .ok (.aload_n 0, 1) := by decide +kernel
theorem d_L_law_798 : decode mi_L_law.2.1 798 = .ok (.iload_n 3, 1) := by decide +kernel
theorem d_L_law_799 : decode mi_L_law.2.1 799 = .ok (.iconst 3, 1) := by decide +kernel
theorem d_L_law_800 : decode mi_L_law.2.1 800 = .ok (.iadd, 1) := by decide +kernel
theorem d_L_law_801 : decode mi_L_law.2.1 801 = .ok (.iaload, 1) := by decide +kernel
theorem d_L_law_802 : decode mi_L_law.2.1 802 = .ok (.invokevirtual 87, 3) := by decide +kernel
theorem d_L_law_805 : decode mi_L_law.2.1 805 = .ok (.aload_n 2, 1) := by decide +kernel
theorem d_L_law_806 : decode mi_L_law.2.1 806 = .ok (.aload_n 0, 1) := by decide +kernel
theorem d_L_law_807 : decode mi_L_law.2.1 807 = .ok (.iload_n 3, 1) := by decide +kernel
theorem d_L_law_808 : decode mi_L_law.2.1 808 = .ok (.iconst 1, 1) := by decide +kernel
theorem d_L_law_809 : decode mi_L_law.2.1 809 = .ok (.iadd, 1) := by decide +kernel
theorem d_L_law_810 : decode mi_L_law.2.1 810 = .ok (.iaload, 1) := by decide +kernel
theorem d_L_law_811 : decode mi_L_law.2.1 811 = .ok (.aload_n 0, 1) := by decide +kernel
theorem d_L_law_812 : decode mi_L_law.2.1 812 = .ok (.iload_n 3, 1) := by decide +kernel
theorem d_L_law_813 : decode mi_L_law.2.1 813 = .ok (.iconst 2, 1) := by decide +kernel
theorem d_L_law_814 : decode mi_L_law.2.1 814 = .ok (.iadd, 1) := by decide +kernel
theorem d_L_law_815 : decode mi_L_law.2.1 815 = .ok (.iaload, 1) := by decide +kernel
theorem d_L_law_816 : decode mi_L_law.2.1 816 = .ok (.aload_n 0, 1) := by decide +kernel
theorem d_L_law_817 : decode mi_L_law.2.1 817 = .ok (.iload_n 3, 1) := by decide +kernel
theorem d_L_law_818 : decode mi_L_law.2.1 818 = .ok (.iconst 3, 1) := by decide +kernel
theorem d_L_law_819 : decode mi_L_law.2.1 819 = .ok (.iadd, 1) := by decide +kernel
theorem d_L_law_820 : decode mi_L_law.2.1 820 = .ok (.iaload, 1) := by decide +kernel
theorem d_L_law_821 : decode mi_L_law.2.1 821 = .ok (.invokevirtual 90, 3) := by decide +kernel
theorem d_L_law_824 : decode mi_L_law.2.1 824 = .ok (.if_icmp .eq 318, 3) := by decide +kernel
theorem d_L_law_827 : decode mi_L_law.2.1 827 = .ok (.iconst 0, 1) := by decide +kernel
theorem d_L_law_828 : decode mi_L_law.2.1 828 = .ok (.ireturn, 1) := by decide +kernel
theorem d_L_law_829 : decode mi_L_law.2.1 829 = .ok (.aload_n 1, 1) := by decide +kernel
theorem d_L_law_830 : decode mi_L_law.2.1 830 = .ok (.aload_n 0, 1) := by decide +kernel
theorem d_L_law_831 : decode mi_L_law.2.1 831 = .ok (.iload_n 3, 1) := by decide +kernel
theorem d_L_law_832 : decode mi_L_law.2.1 832 = .ok (.iconst 1, 1) := by decide +kernel
theorem d_L_law_833 : decode mi_L_law.2.1 833 = .ok (.iadd, 1) := by decide +kernel
theorem d_L_law_834 : decode mi_L_law.2.1 834 = .ok (.iaload, 1) := by decide +kernel
theorem d_L_law_835 : decode mi_L_law.2.1 835 = .ok (.aload_n 0, 1) := by decide +kernel
theorem d_L_law_836 : decode mi_L_law.2.1 836 = .ok (.iload_n 3, 1) := by decide +kernel
theorem d_L_law_837 : decode mi_L_law.2.1 837 = .ok (.iconst 2, 1) := by decide +kernel
theorem d_L_law_838 : decode mi_L_law.2.1 838 = .ok (.iadd, 1) := by decide +kernel
theorem d_L_law_839 : decode mi_L_law.2.1 839 = .ok (.iaload, 1) := by decide +kernel
theorem d_L_law_840 : decode mi_L_law.2.1 840 = .ok (.invokevirtual 91, 3) := by decide +kernel
theorem d_L_law_843 : decode mi_L_law.2.1 843 = .ok (.aload_n 2, 1) := by decide +kernel
theorem d_L_law_844 : decode mi_L_law.2.1 844 = .ok (.aload_n 0, 1) := by decide +kernel
theorem d_L_law_845 : decode mi_L_law.2.1 845 = .ok (.iload_n 3, 1) := by decide +kernel
theorem d_L_law_846 : decode mi_L_law.2.1 846 = .ok (.iconst 1, 1) := by decide +kernel
theorem d_L_law_847 : decode mi_L_law.2.1 847 = .ok (.iadd, 1) := by decide +kernel
theorem d_L_law_848 : decode mi_L_law.2.1 848 = .ok (.iaload, 1) := by decide +kernel
theorem d_L_law_849 : decode mi_L_law.2.1 849 = .ok (.aload_n 0, 1) := by decide +kernel
theorem d_L_law_850 : decode mi_L_law.2.1 850 = .ok (.iload_n 3, 1) := by decide +kernel
theorem d_L_law_851 : decode mi_L_law.2.1 851 = .ok (.iconst 2, 1) := by decide +kernel
theorem d_L_law_852 : decode mi_L_law.2.1 852 = .ok (.iadd, 1) := by decide +kernel
theorem d_L_law_853 : decode mi_L_law.2.1 853 = .ok (.iaload, 1) := by decide +kernel
theorem d_L_law_854 : decode mi_L_law.2.1 854 = .ok (.invokevirtual 94, 3) := by decide +kernel
theorem d_L_law_857 : decode mi_L_law.2.1 857 = .ok (.if_icmp .eq 285, 3) := by decide +kernel
theorem d_L_law_860 : decode mi_L_law.2.1 860 = .ok (.iconst 0, 1) := by decide +kernel
theorem d_L_law_861 : decode mi_L_law.2.1 861 = .ok (.ireturn, 1) := by decide +kernel
theorem d_L_law_862 : decode mi_L_law.2.1 862 = .ok (.aload_n 1, 1) := by decide +kernel
theorem d_L_law_863 : decode mi_L_law.2.1 863 = .ok (.invokevirtual 95, 3) := by decide +kernel
theorem d_L_law_866 : decode mi_L_law.2.1 866 = .ok (.aload_n 2, 1) := by decide +kernel
theorem d_L_law_867 : decode mi_L_law.2.1 867 = .ok (.invokevirtual 99, 3) := by decide +kernel
theorem d_L_law_870 : decode mi_L_law.2.1 870 = .ok (.if_icmp .eq 272, 3) := by decide +kernel
theorem d_L_law_873 : decode mi_L_law.2.1 873 = .ok (.iconst 0, 1) := by decide +kernel
theorem d_L_law_874 : decode mi_L_law.2.1 874 = .ok (.ireturn, 1) := by decide +kernel
theorem d_L_law_875 : decode mi_L_law.2.1 875 = .ok (.aload_n 1, 1) := by decide +kernel
theorem d_L_law_876 : decode mi_L_law.2.1 876 = .ok (.aload_n 0, 1) := by decide +kernel
theorem d_L_law_877 : decode mi_L_law.2.1 877 = .ok (.iload_n 3, 1) := by decide +kernel
theorem d_L_law_878 : decode mi_L_law.2.1 878 = .ok (.iconst 1, 1) := by decide +kernel
theorem d_L_law_879 : decode mi_L_law.2.1 879 = .ok (.iadd, 1) := by decide +kernel
theorem d_L_law_880 : decode mi_L_law.2.1 880 = .ok (.iaload, 1) := by decide +kernel
theorem d_L_law_881 : decode mi_L_law.2.1 881 = .ok (.aload_n 0, 1) := by decide +kernel
theorem d_L_law_882 : decode mi_L_law.2.1 882 = .ok (.iload_n 3, 1) := by decide +kernel
theorem d_L_law_883 : decode mi_L_law.2.1 883 = .ok (.iconst 2, 1) := by decide +kernel
theorem d_L_law_884 : decode mi_L_law.2.1 884 = .ok (.iadd, 1) := by decide +kernel
theorem d_L_law_885 : decode mi_L_law.2.1 885 = .ok (.iaload, 1) := by decide +kernel
theorem d_L_law_886 : decode mi_L_law.2.1 886 = .ok (.invokevirtual 100, 3) := by decide +kernel
theorem d_L_law_889 : decode mi_L_law.2.1 889 = .ok (.aload_n 2, 1) := by decide +kernel
theorem d_L_law_890 : decode mi_L_law.2.1 890 = .ok (.aload_n 0, 1) := by decide +kernel
theorem d_L_law_891 : decode mi_L_law.2.1 891 = .ok (.iload_n 3, 1) := by decide +kernel
theorem d_L_law_892 : decode mi_L_law.2.1 892 = .ok (.iconst 1, 1) := by decide +kernel
theorem d_L_law_893 : decode mi_L_law.2.1 893 = .ok (.iadd, 1) := by decide +kernel
theorem d_L_law_894 : decode mi_L_law.2.1 894 = .ok (.iaload, 1) := by decide +kernel
theorem d_L_law_895 : decode mi_L_law.2.1 895 = .ok (.aload_n 0, 1) := by decide +kernel
theorem d_L_law_896 : decode mi_L_law.2.1 896 = .ok (.iload_n 3, 1) := by decide +kernel
theorem d_L_law_897 : decode mi_L_law.2.1 897 = .ok (.iconst 2, 1) := by decide +kernel
theorem d_L_law_898 : decode mi_L_law.2.1 898 = .ok (.iadd, 1) := by decide +kernel
theorem d_L_law_899 : decode mi_L_law.2.1 899 = .ok (.iaload, 1) := by decide +kernel
theorem d_L_law_900 : decode mi_L_law.2.1 900 = .ok (.invokevirtual 103, 3) := by decide +kernel
theorem d_L_law_903 : decode mi_L_law.2.1 903 = .ok (.if_icmp .eq 239, 3) := by decide +kernel
theorem d_L_law_906 : decode mi_L_law.2.1 906 = .ok (.iconst 0, 1) := by decide +kernel
theorem d_L_law_907 : decode mi_L_law.2.1 907 = .ok (.ireturn, 1) := by decide +kernel
theorem d_L_law_908 : decode mi_L_law.2.1 908 = .ok (.aload_n 1, 1) := by decide +kernel
theorem d_L_law_909 : decode mi_L_law.2.1 909 = .ok (.invokevirtual 104, 3) := by decide +kernel
theorem d_L_law_912 : decode mi_L_law.2.1 912 = .ok (.aload_n 2, 1) := by decide +kernel
theorem d_L_law_913 : decode mi_L_law.2.1 913 = .ok (.invokevirtual 107, 3) := by decide +kernel
theorem d_L_law_916 : decode mi_L_law.2.1 916 = .ok (.if_icmp .eq 226, 3) := by decide +kernel
theorem d_L_law_919 : decode mi_L_law.2.1 919 = .ok (.iconst 0, 1) := by decide +kernel
theorem d_L_law_920 : decode mi_L_law.2.1 920 = .ok (.ireturn, 1) := by decide +kernel
theorem d_L_law_921 : decode mi_L_law.2.1 921 = .ok (.aload_n 1, 1) := by decide +kernel
theorem d_L_law_922 : decode mi_L_law.2.1 922 = .ok (.aload_n 0, 1) := by decide +kernel
theorem d_L_law_923 : decode mi_L_law.2.1 923 = .ok (.iload_n 3, 1) := by decide +kernel
theorem d_L_law_924 : decode mi_L_law.2.1 924 = .ok (.iconst 1, 1) := by decide +kernel
theorem d_L_law_925 : decode mi_L_law.2.1 925 = .ok (.iadd, 1) := by decide +kernel
theorem d_L_law_926 : decode mi_L_law.2.1 926 = .ok (.iaload, 1) := by decide +kernel
theorem d_L_law_927 : decode mi_L_law.2.1 927 = .ok (.aload_n 0, 1) := by decide +kernel
theorem d_L_law_928 : decode mi_L_law.2.1 928 = .ok (.iload_n 3, 1) := by decide +kernel
theorem d_L_law_929 : decode mi_L_law.2.1 929 = .ok (.iconst 2, 1) := by decide +kernel
theorem d_L_law_930 : decode mi_L_law.2.1 930 = .ok (.iadd, 1) := by decide +kernel
theorem d_L_law_931 : decode mi_L_law.2.1 931 = .ok (.iaload, 1) := by decide +kernel
theorem d_L_law_932 : decode mi_L_law.2.1 932 = .ok (.aload_n 0, 1) := by decide +kernel
theorem d_L_law_933 : decode mi_L_law.2.1 933 = .ok (.iload_n 3, 1) := by decide +kernel
theorem d_L_law_934 : decode mi_L_law.2.1 934 = .ok (.iconst 3, 1) := by decide +kernel
theorem d_L_law_935 : decode mi_L_law.2.1 935 = .ok (.iadd, 1) := by decide +kernel
theorem d_L_law_936 : decode mi_L_law.2.1 936 = .ok (.iaload, 1) := by decide +kernel
theorem d_L_law_937 : decode mi_L_law.2.1 937 = .ok (.ifCond .eq 7, 3) := by decide +kernel
theorem d_L_law_940 : decode mi_L_law.2.1 940 = .ok (.iconst 1, 1) := by decide +kernel
theorem d_L_law_941 : decode mi_L_law.2.1 941 = .ok (.goto 4, 3) := by decide +kernel
theorem d_L_law_944 : decode mi_L_law.2.1 944 = .ok (.iconst 0, 1) := by decide +kernel
theorem d_L_law_945 : decode mi_L_law.2.1 945 = .ok (.invokevirtual 108, 3) := by decide +kernel
theorem d_L_law_948 : decode mi_L_law.2.1 948 = .ok (.aload_n 2, 1) := by decide +kernel
theorem d_L_law_949 : decode mi_L_law.2.1 949 = .ok (.aload_n 0, 1) := by decide +kernel
theorem d_L_law_950 : decode mi_L_law.2.1 950 = .ok (.iload_n 3, 1) := by decide +kernel
theorem d_L_law_951 : decode mi_L_law.2.1 951 = .ok (.iconst 1, 1) := by decide +kernel
theorem d_L_law_952 : decode mi_L_law.2.1 952 = .ok (.iadd, 1) := by decide +kernel
theorem d_L_law_953 : decode mi_L_law.2.1 953 = .ok (.iaload, 1) := by decide +kernel
theorem d_L_law_954 : decode mi_L_law.2.1 954 = .ok (.aload_n 0, 1) := by decide +kernel
theorem d_L_law_955 : decode mi_L_law.2.1 955 = .ok (.iload_n 3, 1) := by decide +kernel
theorem d_L_law_956 : decode mi_L_law.2.1 956 = .ok (.iconst 2, 1) := by decide +kernel
theorem d_L_law_957 : decode mi_L_law.2.1 957 = .ok (.iadd, 1) := by decide +kernel
theorem d_L_law_958 : decode mi_L_law.2.1 958 = .ok (.iaload, 1) := by decide +kernel
theorem d_L_law_959 : decode mi_L_law.2.1 959 = .ok (.aload_n 0, 1) := by decide +kernel
theorem d_L_law_960 : decode mi_L_law.2.1 960 = .ok (.iload_n 3, 1) := by decide +kernel
theorem d_L_law_961 : decode mi_L_law.2.1 961 = .ok (.iconst 3, 1) := by decide +kernel
theorem d_L_law_962 : decode mi_L_law.2.1 962 = .ok (.iadd, 1) := by decide +kernel
theorem d_L_law_963 : decode mi_L_law.2.1 963 = .ok (.iaload, 1) := by decide +kernel
theorem d_L_law_964 : decode mi_L_law.2.1 964 = .ok (.ifCond .eq 7, 3) := by decide +kernel
theorem d_L_law_967 : decode mi_L_law.2.1 967 = .ok (.iconst 1, 1) := by decide +kernel
theorem d_L_law_968 : decode mi_L_law.2.1 968 = .ok (.goto 4, 3) := by decide +kernel
theorem d_L_law_971 : decode mi_L_law.2.1 971 = .ok (.iconst 0, 1) := by decide +kernel
theorem d_L_law_972 : decode mi_L_law.2.1 972 = .ok (.invokevirtual 112, 3) := by decide +kernel
theorem d_L_law_975 : decode mi_L_law.2.1 975 = .ok (.if_icmp .eq 167, 3) := by decide +kernel
theorem d_L_law_978 : decode mi_L_law.2.1 978 = .ok (.iconst 0, 1) := by decide +kernel
theorem d_L_law_979 : decode mi_L_law.2.1 979 = .ok (.ireturn, 1) := by decide +kernel
theorem d_L_law_980 : decode mi_L_law.2.1 980 = .ok (.aload_n 1, 1) := by decide +kernel
theorem d_L_law_981 : decode mi_L_law.2.1 981 = .ok (.aload_n 0, 1) := by decide +kernel
theorem d_L_law_982 : decode mi_L_law.2.1 982 = .ok (.iload_n 3, 1) := by decide +kernel
theorem d_L_law_983 : decode mi_L_law.2.1 983 = .ok (.iconst 1, 1) := by decide +kernel
theorem d_L_law_984 : decode mi_L_law.2.1 984 = .ok (.iadd, 1) := by decide +kernel
theorem d_L_law_985 : decode mi_L_law.2.1 985 = .ok (.iaload, 1) := by decide +kernel
theorem d_L_law_986 : decode mi_L_law.2.1 986 = .ok (.invokevirtual 113, 3) := by decide +kernel
theorem d_L_law_989 : decode mi_L_law.2.1 989 = .ok (.aload_n 2, 1) := by decide +kernel
theorem d_L_law_990 : decode mi_L_law.2.1 990 = .ok (.aload_n 0, 1) := by decide +kernel
theorem d_L_law_991 : decode mi_L_law.2.1 991 = .ok (.iload_n 3, 1) := by decide +kernel
theorem d_L_law_992 : decode mi_L_law.2.1 992 = .ok (.iconst 1, 1) := by decide +kernel
theorem d_L_law_993 : decode mi_L_law.2.1 993 = .ok (.iadd, 1) := by decide +kernel
theorem d_L_law_994 : decode mi_L_law.2.1 994 = .ok (.iaload, 1) := by decide +kernel
theorem d_L_law_995 : decode mi_L_law.2.1 995 = .ok (.invokevirtual 116, 3) := by decide +kernel
theorem d_L_law_998 : decode mi_L_law.2.1 998 = .ok (.if_icmp .eq 144, 3) := by decide +kernel
theorem d_L_law_1001 : decode mi_L_law.2.1 1001 = .ok (.iconst 0, 1) := by decide +kernel
theorem d_L_law_1002 : decode mi_L_law.2.1 1002 = .ok (.ireturn, 1) := by decide +kernel
theorem d_L_law_1003 : decode mi_L_law.2.1 1003 = .ok (.aload_n 1, 1) := by decide +kernel
theorem d_L_law_1004 : decode mi_L_law.2.1 1004 = .ok (.aload_n 0, 1) := by decide +kernel
theorem d_L_law_1005 : decode mi_L_law.2.1 1005 = .ok (.iload_n 3, 1) := by decide +kernel
theorem d_L_law_1006 : decode mi_L_law.2.1 1006 = .ok (.iconst 1, 1) := by decide +kernel
theorem d_L_law_1007 : decode mi_L_law.2.1 1007 = .ok (.iadd, 1) := by decide +kernel
theorem d_L_law_1008 : decode mi_L_law.2.1 1008 = .ok (.iaload, 1) := by decide +kernel
theorem d_L_law_1009 : decode mi_L_law.2.1 1009 = .ok (.aload_n 0, 1) := by decide +kernel
theorem d_L_law_1010 : decode mi_L_law.2.1 1010 = .ok (.iload_n 3, 1) := by decide +kernel
theorem d_L_law_1011 : decode mi_L_law.2.1 1011 = .ok (.iconst 2, 1) := by decide +kernel
theorem d_L_law_1012 : decode mi_L_law.2.1 1012 = .ok (.iadd, 1) := by decide +kernel
theorem d_L_law_1013 : decode mi_L_law.2.1 1013 = .ok (.iaload, 1) := by decide +kernel
theorem d_L_law_1014 : decode mi_L_law.2.1 1014 = .ok (.invokevirtual 117, 3) := by decide +kernel
theorem d_L_law_1017 : decode mi_L_law.2.1 1017 = .ok (.aload_n 2, 1) := by decide +kernel
theorem d_L_law_1018 : decode mi_L_law.2.1 1018 = .ok (.aload_n 0, 1) := by decide +kernel
theorem d_L_law_1019 : decode mi_L_law.2.1 1019 = .ok (.iload_n 3, 1) := by decide +kernel
theorem d_L_law_1020 : decode mi_L_law.2.1 1020 = .ok (.iconst 1, 1) := by decide +kernel
theorem d_L_law_1021 : decode mi_L_law.2.1 1021 = .ok (.iadd, 1) := by decide +kernel
theorem d_L_law_1022 : decode mi_L_law.2.1 1022 = .ok (.iaload, 1) := by decide +kernel
theorem d_L_law_1023 : decode mi_L_law.2.1 1023 = .ok (.aload_n 0, 1) := by decide +kernel
theorem d_L_law_1024 : decode mi_L_law.2.1 1024 = .ok (.iload_n 3, 1) := by decide +kernel
theorem d_L_law_1025 : decode mi_L_law.2.1 1025 = .ok (.iconst 2, 1) := by decide +kernel
theorem d_L_law_1026 : decode mi_L_law.2.1 1026 = .ok (.iadd, 1) := by decide +kernel
theorem d_L_law_1027 : decode mi_L_law.2.1 1027 = .ok (.iaload, 1) := by decide +kernel
theorem d_L_law_1028 : decode mi_L_law.2.1 1028 = .ok (.invokevirtual 120, 3) := by decide +kernel
theorem d_L_law_1031 : decode mi_L_law.2.1 1031 = .ok (.if_icmp .eq 111, 3) := by decide +kernel
theorem d_L_law_1034 : decode mi_L_law.2.1 1034 = .ok (.iconst 0, 1) := by decide +kernel
theorem d_L_law_1035 : decode mi_L_law.2.1 1035 = .ok (.ireturn, 1) := by decide +kernel
theorem d_L_law_1036 : decode mi_L_law.2.1 1036 = .ok (.aload_n 1, 1) := by decide +kernel
theorem d_L_law_1037 : decode mi_L_law.2.1 1037 = .ok (.aload_n 0, 1) := by decide +kernel
theorem d_L_law_1038 : decode mi_L_law.2.1 1038 = .ok (.iload_n 3, 1) := by decide +kernel
theorem d_L_law_1039 : decode mi_L_law.2.1 1039 = .ok (.iconst 1, 1) := by decide +kernel
theorem d_L_law_1040 : decode mi_L_law.2.1 1040 = .ok (.iadd, 1) := by decide +kernel
theorem d_L_law_1041 : decode mi_L_law.2.1 1041 = .ok (.iaload, 1) := by decide +kernel
theorem d_L_law_1042 : decode mi_L_law.2.1 1042 = .ok (.invokevirtual 121, 3) := by decide +kernel
theorem d_L_law_1045 : decode mi_L_law.2.1 1045 = .ok (.aload_n 2, 1) := by decide +kernel
theorem d_L_law_1046 : decode mi_L_law.2.1 1046 = .ok (.aload_n 0, 1) := by decide +kernel
theorem d_L_law_1047 : decode mi_L_law.2.1 1047 = .ok (.iload_n 3, 1) := by decide +kernel
theorem d_L_law_1048 : decode mi_L_law.2.1 1048 = .ok (.iconst 1, 1) := by decide +kernel
theorem d_L_law_1049 : decode mi_L_law.2.1 1049 = .ok (.iadd, 1) := by decide +kernel
theorem d_L_law_1050 : decode mi_L_law.2.1 1050 = .ok (.iaload, 1) := by decide +kernel
theorem d_L_law_1051 : decode mi_L_law.2.1 1051 = .ok (.invokevirtual 124, 3) := by decide +kernel
theorem d_L_law_1054 : decode mi_L_law.2.1 1054 = .ok (.lcmp, 1) := by decide +kernel
theorem d_L_law_1055 : decode mi_L_law.2.1 1055 = .ok (.ifCond .eq 87, 3) := by decide +kernel
theorem d_L_law_1058 : decode mi_L_law.2.1 1058 = .ok (.iconst 0, 1) := by decide +kernel
theorem d_L_law_1059 : decode mi_L_law.2.1 1059 = .ok (.ireturn, 1) := by decide +kernel
theorem d_L_law_1060 : decode mi_L_law.2.1 1060 = .ok (.aload_n 1, 1) := by decide +kernel
theorem d_L_law_1061 : decode mi_L_law.2.1 1061 = .ok (.aload_n 0, 1) := by decide +kernel
theorem d_L_law_1062 : decode mi_L_law.2.1 1062 = .ok (.iload_n 3, 1) := by decide +kernel
theorem d_L_law_1063 : decode mi_L_law.2.1 1063 = .ok (.iconst 1, 1) := by decide +kernel
theorem d_L_law_1064 : decode mi_L_law.2.1 1064 = .ok (.iadd, 1) := by decide +kernel
theorem d_L_law_1065 : decode mi_L_law.2.1 1065 = .ok (.iaload, 1) := by decide +kernel
theorem d_L_law_1066 : decode mi_L_law.2.1 1066 = .ok (.invokevirtual 125, 3) := by decide +kernel
theorem d_L_law_1069 : decode mi_L_law.2.1 1069 = .ok (.aload_n 2, 1) := by decide +kernel
theorem d_L_law_1070 : decode mi_L_law.2.1 1070 = .ok (.aload_n 0, 1) := by decide +kernel
theorem d_L_law_1071 : decode mi_L_law.2.1 1071 = .ok (.iload_n 3, 1) := by decide +kernel
theorem d_L_law_1072 : decode mi_L_law.2.1 1072 = .ok (.iconst 1, 1) := by decide +kernel
theorem d_L_law_1073 : decode mi_L_law.2.1 1073 = .ok (.iadd, 1) := by decide +kernel
theorem d_L_law_1074 : decode mi_L_law.2.1 1074 = .ok (.iaload, 1) := by decide +kernel
theorem d_L_law_1075 : decode mi_L_law.2.1 1075 = .ok (.invokevirtual 128, 3) := by decide +kernel
theorem d_L_law_1078 : decode mi_L_law.2.1 1078 = .ok (.if_icmp .eq 64, 3) := by decide +kernel
theorem d_L_law_1081 : decode mi_L_law.2.1 1081 = .ok (.iconst 0, 1) := by decide +kernel
theorem d_L_law_1082 : decode mi_L_law.2.1 1082 = .ok (.ireturn, 1) := by decide +kernel
theorem d_L_law_1083 : decode mi_L_law.2.1 1083 = .ok (.aload_n 1, 1) := by decide +kernel
theorem d_L_law_1084 : decode mi_L_law.2.1 1084 = .ok (.aload_n 0, 1) := by decide +kernel
theorem d_L_law_1085 : decode mi_L_law.2.1 1085 = .ok (.iload_n 3, 1) := by decide +kernel
theorem d_L_law_1086 : decode mi_L_law.2.1 1086 = .ok (.iconst 1, 1) := by decide +kernel
theorem d_L_law_1087 : decode mi_L_law.2.1 1087 = .ok (.iadd, 1) := by decide +kernel
theorem d_L_law_1088 : decode mi_L_law.2.1 1088 = .ok (.iaload, 1) := by decide +kernel
theorem d_L_law_1089 : decode mi_L_law.2.1 1089 = .ok (.invokevirtual 129, 3) := by decide +kernel
theorem d_L_law_1092 : decode mi_L_law.2.1 1092 = .ok (.aload_n 2, 1) := by decide +kernel
theorem d_L_law_1093 : decode mi_L_law.2.1 1093 = .ok (.aload_n 0, 1) := by decide +kernel
theorem d_L_law_1094 : decode mi_L_law.2.1 1094 = .ok (.iload_n 3, 1) := by decide +kernel
theorem d_L_law_1095 : decode mi_L_law.2.1 1095 = .ok (.iconst 1, 1) := by decide +kernel
theorem d_L_law_1096 : decode mi_L_law.2.1 1096 = .ok (.iadd, 1) := by decide +kernel
theorem d_L_law_1097 : decode mi_L_law.2.1 1097 = .ok (.iaload, 1) := by decide +kernel
theorem d_L_law_1098 : decode mi_L_law.2.1 1098 = .ok (.invokevirtual 132, 3) := by decide +kernel
theorem d_L_law_1101 : decode mi_L_law.2.1 1101 = .ok (.if_icmp .eq 41, 3) := by decide +kernel
theorem d_L_law_1104 : decode mi_L_law.2.1 1104 = .ok (.iconst 0, 1) := by decide +kernel
theorem d_L_law_1105 : decode mi_L_law.2.1 1105 = .ok (.ireturn, 1) := by decide +kernel
theorem d_L_law_1106 : decode mi_L_law.2.1 1106 = .ok (.aload_n 1, 1) := by decide +kernel
theorem d_L_law_1107 : decode mi_L_law.2.1 1107 = .ok (.invokevirtual 133, 3) := by decide +kernel
theorem d_L_law_1110 : decode mi_L_law.2.1 1110 = .ok (.aload_n 2, 1) := by decide +kernel
theorem d_L_law_1111 : decode mi_L_law.2.1 1111 = .ok (.invokevirtual 136, 3) := by decide +kernel
theorem d_L_law_1114 : decode mi_L_law.2.1 1114 = .ok (.if_icmp .eq 28, 3) := by decide +kernel
theorem d_L_law_1117 : decode mi_L_law.2.1 1117 = .ok (.iconst 0, 1) := by decide +kernel
theorem d_L_law_1118 : decode mi_L_law.2.1 1118 = .ok (.ireturn, 1) := by decide +kernel
theorem d_L_law_1119 : decode mi_L_law.2.1 1119 = .ok (.aload_n 1, 1) := by decide +kernel
theorem d_L_law_1120 : decode mi_L_law.2.1 1120 = .ok (.aload_n 0, 1) := by decide +kernel
theorem d_L_law_1121 : decode mi_L_law.2.1 1121 = .ok (.iload_n 3, 1) := by decide +kernel
theorem d_L_law_1122 : decode mi_L_law.2.1 1122 = .ok (.iconst 1, 1) := by decide +kernel
theorem d_L_law_1123 : decode mi_L_law.2.1 1123 = .ok (.iadd, 1) := by decide +kernel
theorem d_L_law_1124 : decode mi_L_law.2.1 1124 = .ok (.iaload, 1) := by decide +kernel
theorem d_L_law_1125 : decode mi_L_law.2.1 1125 = .ok (.invokevirtual 137, 3) := by decide +kernel
theorem d_L_law_1128 : decode mi_L_law.2.1 1128 = .ok (.aload_n 2, 1) := by decide +kernel
theorem d_L_law_1129 : decode mi_L_law.2.1 1129 = .ok (.aload_n 0, 1) := by decide +kernel
theorem d_L_law_1130 : decode mi_L_law.2.1 1130 = .ok (.iload_n 3, 1) := by decide +kernel
theorem d_L_law_1131 : decode mi_L_law.2.1 1131 = .ok (.iconst 1, 1) := by decide +kernel
theorem d_L_law_1132 : decode mi_L_law.2.1 1132 = .ok (.iadd, 1) := by decide +kernel
theorem d_L_law_1133 : decode mi_L_law.2.1 1133 = .ok (.iaload, 1) := by decide +kernel
theorem d_L_law_1134 : decode mi_L_law.2.1 1134 = .ok (.invokevirtual 140, 3) := by decide +kernel
theorem d_L_law_1137 : decode mi_L_law.2.1 1137 = .ok (.if_icmp .eq 5, 3) := by decide +kernel
theorem d_L_law_1140 : decode mi_L_law.2.1 1140 = .ok (.iconst 0, 1) := by decide +kernel
theorem d_L_law_1141 : decode mi_L_law.2.1 1141 = .ok (.ireturn, 1) := by decide +kernel
theorem d_L_law_1142 : decode mi_L_law.2.1 1142 = .ok (.iinc 3 5, 3) := by decide +kernel
theorem d_L_law_1145 : decode mi_L_law.2.1 1145 = .ok (.goto (-1127), 3) := by decide +kernel
theorem d_L_law_1148 : decode mi_L_law.2.1 1148 = .ok (.iconst 1, 1) := by decide +kernel
theorem d_L_law_1149 : decode mi_L_law.2.1 1149 = .ok (.ireturn, 1) := by decide +kernel
theorem cb_31 : (Int8.ofInt (31)).toInt32 = 31 := by decide
theorem cw_L_13 : CV RL 13 mi_X7_block 3 := by unfold CV; decide +kernel
theorem cw_L_17 : CV RL 17 mi_X8_block 3 := by unfold CV; decide +kernel
theorem cw_L_18 : CV RL 18 mi_X7_cut 3 := by unfold CV; decide +kernel
theorem cw_L_21 : CV RL 21 mi_X8_cut 3 := by unfold CV; decide +kernel
theorem cw_L_22 : CV RL 22 mi_X7_move 3 := by unfold CV; decide +kernel
theorem cw_L_25 : CV RL 25 mi_X8_move 3 := by unfold CV; decide +kernel
theorem cw_L_26 : CV RL 26 mi_X7_turn 2 := by unfold CV; decide +kernel
theorem cw_L_30 : CV RL 30 mi_X8_turn 2 := by unfold CV; decide +kernel
theorem cw_L_31 : CV RL 31 mi_X7_scrap 1 := by unfold CV; decide +kernel
theorem cw_L_35 : CV RL 35 mi_X8_scrap 1 := by unfold CV; decide +kernel
theorem cw_L_36 : CV RL 36 mi_X7_bound 2 := by unfold CV; decide +kernel
theorem cw_L_39 : CV RL 39 mi_X8_bound 2 := by unfold CV; decide +kernel
theorem cw_L_40 : CV RL 40 mi_X7_about 2 := by unfold CV; decide +kernel
theorem cw_L_43 : CV RL 43 mi_X8_about 2 := by unfold CV; decide +kernel
theorem cw_L_44 : CV RL 44 mi_X7_corner 3 := by unfold CV; decide +kernel
theorem cw_L_47 : CV RL 47 mi_X8_corner 3 := by unfold CV; decide +kernel
theorem cw_L_48 : CV RL 48 mi_X7_side 2 := by unfold CV; decide +kernel
theorem cw_L_51 : CV RL 51 mi_X8_side 2 := by unfold CV; decide +kernel
theorem cw_L_52 : CV RL 52 mi_X7_area 1 := by unfold CV; decide +kernel
theorem cw_L_55 : CV RL 55 mi_X8_area 1 := by unfold CV; decide +kernel
theorem cw_L_56 : CV RL 56 mi_X7_volume 1 := by unfold CV; decide +kernel
theorem cw_L_60 : CV RL 60 mi_X8_volume 1 := by unfold CV; decide +kernel
theorem cw_L_61 : CV RL 61 mi_X7_inside 3 := by unfold CV; decide +kernel
theorem cw_L_64 : CV RL 64 mi_X8_inside 3 := by unfold CV; decide +kernel
theorem cw_L_65 : CV RL 65 mi_X7_waste 1 := by unfold CV; decide +kernel
theorem cw_L_68 : CV RL 68 mi_X8_waste 1 := by unfold CV; decide +kernel
theorem cw_L_69 : CV RL 69 mi_X7_near 2 := by unfold CV; decide +kernel
theorem cw_L_72 : CV RL 72 mi_X8_near 2 := by unfold CV; decide +kernel
theorem cw_L_73 : CV RL 73 mi_X7_touch 3 := by unfold CV; decide +kernel
theorem cw_L_76 : CV RL 76 mi_X8_touch 3 := by unfold CV; decide +kernel
theorem cw_L_77 : CV RL 77 mi_X7_rule 4 := by unfold CV; decide +kernel
theorem cw_L_81 : CV RL 81 mi_X8_rule 4 := by unfold CV; decide +kernel
theorem cw_L_82 : CV RL 82 mi_X7_pack 2 := by unfold CV; decide +kernel
theorem cw_L_86 : CV RL 86 mi_X8_pack 2 := by unfold CV; decide +kernel
theorem cw_L_87 : CV RL 87 mi_X7_above 3 := by unfold CV; decide +kernel
theorem cw_L_90 : CV RL 90 mi_X8_above 3 := by unfold CV; decide +kernel
theorem cw_L_91 : CV RL 91 mi_X7_treats 2 := by unfold CV; decide +kernel
theorem cw_L_94 : CV RL 94 mi_X8_treats 2 := by unfold CV; decide +kernel
theorem cw_L_95 : CV RL 95 mi_X7_undecided 0 := by unfold CV; decide +kernel
theorem cw_L_99 : CV RL 99 mi_X8_undecided 0 := by unfold CV; decide +kernel
theorem cw_L_100 : CV RL 100 mi_X7_meet 2 := by unfold CV; decide +kernel
theorem cw_L_103 : CV RL 103 mi_X8_meet 2 := by unfold CV; decide +kernel
theorem cw_L_104 : CV RL 104 mi_X7_assembly 0 := by unfold CV; decide +kernel
theorem cw_L_107 : CV RL 107 mi_X8_assembly 0 := by unfold CV; decide +kernel
theorem cw_L_108 : CV RL 108 mi_X7_put 3 := by unfold CV; decide +kernel
theorem cw_L_112 : CV RL 112 mi_X8_put 3 := by unfold CV; decide +kernel
theorem cw_L_113 : CV RL 113 mi_X7_walked 1 := by unfold CV; decide +kernel
theorem cw_L_116 : CV RL 116 mi_X8_walked 1 := by unfold CV; decide +kernel
theorem cw_L_117 : CV RL 117 mi_X7_walk 2 := by unfold CV; decide +kernel
theorem cw_L_120 : CV RL 120 mi_X8_walk 2 := by unfold CV; decide +kernel
theorem cw_L_121 : CV RL 121 mi_X7_weight 1 := by unfold CV; decide +kernel
theorem cw_L_124 : CV RL 124 mi_X8_weight 1 := by unfold CV; decide +kernel
theorem cw_L_125 : CV RL 125 mi_X7_price 1 := by unfold CV; decide +kernel
theorem cw_L_128 : CV RL 128 mi_X8_price 1 := by unfold CV; decide +kernel
theorem cw_L_129 : CV RL 129 mi_X7_check 1 := by unfold CV; decide +kernel
theorem cw_L_132 : CV RL 132 mi_X8_check 1 := by unfold CV; decide +kernel
theorem cw_L_133 : CV RL 133 mi_X7_undo 0 := by unfold CV; decide +kernel
theorem cw_L_136 : CV RL 136 mi_X8_undo 0 := by unfold CV; decide +kernel
theorem cw_L_137 : CV RL 137 mi_X7_count 1 := by unfold CV; decide +kernel
theorem cw_L_140 : CV RL 140 mi_X8_count 1 := by unfold CV; decide +kernel
def f_L_law_1142 (LL : Nat) (xs : Nat → Int32) (K18 : Int32 → SS → Option (Int32 × SS)) (v3 : Int32) (σ : SS) : Option (Int32 × SS) := lt_ (v3 + (5 : Int32)) (fun x1 => K18 x1 σ)
set_option maxRecDepth 100000 in
theorem t_L_law_1142 {d : Nat} {X : MX} {Y : MY} {b b0 : Nat × Nat} {r : Int32} {σ' : SS} {K18 : Int32 → SS → Option (Int32 × SS)} {v3 : Int32} (hb : b0.1 ≤ b.1 ∧ b0.2 ≤ b.2) (hK18 : ∀ (v3 : Int32) (σ : SS), K18 v3 σ = some (r, σ') → WM (d + 16) X Y b0 mi_L_law 18 [some (vR 104 0), some (vR 0 0), some (vR 25 0), some (vI v3)] [] σ (some (vI r), σ')) {σ : SS} (h : f_L_law_1142 Y.1.2.2.2.2.1 Y.1.2.2.2.2.2 K18 v3 σ = some (r, σ')) : WM (d + 16) X Y b mi_L_law 1142 [some (vR 104 0), some (vR 0 0), some (vR 25 0), some (vI v3)] [] σ (some (vI r), σ') := by
  rw [f_L_law_1142] at h
  refine l_iinc (pc' := 1145) d_L_law_1142 rfl ci_5 rfl rfl rfl h (fun x1 h => ?_)
  refine r_goto (pc' := 18) d_L_law_1145 rfl ?_
  exact WM.drop [] rfl (WM.waste hb.1 hb.2 (hK18 _ _ h))
def f_L_law_972 (LL : Nat) (xs : Nat → Int32) (K18 : Int32 → SS → Option (Int32 × SS)) (v3 : Int32) (u0 : Int32) (u2 : Int32) (u3 : Int32) (u4 : Int32) (σ : SS) : Option (Int32 × SS) := cal (f_X8_put u2 u3 u4 σ) (fun x2 s1 => if u0 = x2 then (f_L_law_1142 LL xs K18 v3 s1) else (some ((0 : Int32), s1)))
set_option maxRecDepth 100000 in
theorem t_L_law_972 {d : Nat} {X : MX} {Y : MY} {b b0 : Nat × Nat} {r : Int32} {σ' : SS} {K18 : Int32 → SS → Option (Int32 × SS)} {v3 : Int32} {u0 : Int32} {u2 : Int32} {u3 : Int32} {u4 : Int32} (hb : b0.1 ≤ b.1 ∧ b0.2 ≤ b.2) (hK18 : ∀ (v3 : Int32) (σ : SS), K18 v3 σ = some (r, σ') → WM (d + 16) X Y b0 mi_L_law 18 [some (vR 104 0), some (vR 0 0), some (vR 25 0), some (vI v3)] [] σ (some (vI r), σ')) {σ : SS} (h : f_L_law_972 Y.1.2.2.2.2.1 Y.1.2.2.2.2.2 K18 v3 u0 u2 u3 u4 σ = some (r, σ')) : WM (d + 16) X Y b mi_L_law 972 [some (vR 104 0), some (vR 0 0), some (vR 25 0), some (vI v3)] [vI u4, vI u3, vI u2, vR 25 0, vI u0] σ (some (vI r), σ') := by
  rw [f_L_law_972] at h
  refine v3_i (mc := mi_X8_put) (bc := (0, 0)) (b' := _) (pc' := 975) cw_L_112 d_L_law_972 rfl rfl rfl (Nat.zero_add _).symm (Nat.zero_add _).symm rfl h (fun _ _ e => t_X8_put e) (fun x2 s1 h => ?_)
  refine r_icmp_eq (pcT := 1142) (pc' := 978) d_L_law_975 rfl rfl h (fun _ h => ?_) (fun _ h => ?_)
  · exact WM.drop [] rfl (t_L_law_1142 hb hK18 h)
  · refine r_iconst (pc' := 979) d_L_law_978 ci_0 rfl ?_
    exact r_zret d_L_law_979 rfl (Or.inl rfl) h
def f_L_law_945 (LL : Nat) (xs : Nat → Int32) (K18 : Int32 → SS → Option (Int32 × SS)) (v3 : Int32) (u1 : Int32) (u2 : Int32) (u3 : Int32) (σ : SS) : Option (Int32 × SS) := cal (f_X7_put u1 u2 u3 σ) (fun x2 s1 => chk (inr (v3 + (1 : Int32)) LL) (chk (inr (v3 + (2 : Int32)) LL) (chk (inr (v3 + (3 : Int32)) LL) (if (xs (ix (v3 + (3 : Int32)))) = 0 then (f_L_law_972 LL xs K18 v3 x2 (xs (ix (v3 + (1 : Int32)))) (xs (ix (v3 + (2 : Int32)))) (0 : Int32) s1) else (f_L_law_972 LL xs K18 v3 x2 (xs (ix (v3 + (1 : Int32)))) (xs (ix (v3 + (2 : Int32)))) (1 : Int32) s1)))))
set_option maxRecDepth 100000 in
theorem t_L_law_945 {d : Nat} {X : MX} {Y : MY} {b b0 : Nat × Nat} {r : Int32} {σ' : SS} {K18 : Int32 → SS → Option (Int32 × SS)} {v3 : Int32} {u1 : Int32} {u2 : Int32} {u3 : Int32} (hb : b0.1 ≤ b.1 ∧ b0.2 ≤ b.2) (hK18 : ∀ (v3 : Int32) (σ : SS), K18 v3 σ = some (r, σ') → WM (d + 16) X Y b0 mi_L_law 18 [some (vR 104 0), some (vR 0 0), some (vR 25 0), some (vI v3)] [] σ (some (vI r), σ')) {σ : SS} (h : f_L_law_945 Y.1.2.2.2.2.1 Y.1.2.2.2.2.2 K18 v3 u1 u2 u3 σ = some (r, σ')) : WM (d + 16) X Y b mi_L_law 945 [some (vR 104 0), some (vR 0 0), some (vR 25 0), some (vI v3)] [vI u3, vI u2, vI u1, vR 0 0] σ (some (vI r), σ') := by
  rw [f_L_law_945] at h
  refine v3_i (mc := mi_X7_put) (bc := (0, 0)) (b' := _) (pc' := 948) cw_L_108 d_L_law_945 rfl rfl rfl (Nat.zero_add _).symm (Nat.zero_add _).symm rfl h (fun _ _ e => t_X7_put e) (fun x2 s1 h => ?_)
  refine r_aload_n (pc' := 949) d_L_law_948 rfl rfl rfl ?_
  refine r_aload_n (pc' := 950) d_L_law_949 rfl rfl rfl ?_
  refine r_iload_n (pc' := 951) d_L_law_950 rfl rfl rfl ?_
  refine r_iconst (pc' := 952) d_L_law_951 ci_1 rfl ?_
  refine r_iadd (pc' := 953) d_L_law_952 rfl ?_
  refine r_scload (pc' := 954) d_L_law_953 rfl h (fun h => ?_)
  refine r_aload_n (pc' := 955) d_L_law_954 rfl rfl rfl ?_
  refine r_iload_n (pc' := 956) d_L_law_955 rfl rfl rfl ?_
  refine r_iconst (pc' := 957) d_L_law_956 ci_2 rfl ?_
  refine r_iadd (pc' := 958) d_L_law_957 rfl ?_
  refine r_scload (pc' := 959) d_L_law_958 rfl h (fun h => ?_)
  refine r_aload_n (pc' := 960) d_L_law_959 rfl rfl rfl ?_
  refine r_iload_n (pc' := 961) d_L_law_960 rfl rfl rfl ?_
  refine r_iconst (pc' := 962) d_L_law_961 ci_3 rfl ?_
  refine r_iadd (pc' := 963) d_L_law_962 rfl ?_
  refine r_scload (pc' := 964) d_L_law_963 rfl h (fun h => ?_)
  refine r_if_eq (pcT := 971) (pc' := 967) d_L_law_964 rfl rfl h (fun _ h => ?_) (fun _ h => ?_)
  · refine r_iconst (pc' := 972) d_L_law_971 ci_0 rfl ?_
    exact WM.drop [] rfl (t_L_law_972 hb hK18 h)
  · refine r_iconst (pc' := 968) d_L_law_967 ci_1 rfl ?_
    refine r_goto (pc' := 972) d_L_law_968 rfl ?_
    exact WM.drop [] rfl (t_L_law_972 hb hK18 h)
def f_L_law_778 (LL : Nat) (xs : Nat → Int32) (K18 : Int32 → SS → Option (Int32 × SS)) (v3 : Int32) (u0 : Int32) (u2 : Int32) (u3 : Int32) (σ : SS) : Option (Int32 × SS) := cal (f_X8_pack u2 u3 σ) (fun x2 s1 => if u0 = x2 then (f_L_law_1142 LL xs K18 v3 s1) else (some ((0 : Int32), s1)))
set_option maxRecDepth 100000 in
theorem t_L_law_778 {d : Nat} {X : MX} {Y : MY} {b b0 : Nat × Nat} {r : Int32} {σ' : SS} {K18 : Int32 → SS → Option (Int32 × SS)} {v3 : Int32} {u0 : Int32} {u2 : Int32} {u3 : Int32} (hb : b0.1 ≤ b.1 ∧ b0.2 ≤ b.2) (hK18 : ∀ (v3 : Int32) (σ : SS), K18 v3 σ = some (r, σ') → WM (d + 16) X Y b0 mi_L_law 18 [some (vR 104 0), some (vR 0 0), some (vR 25 0), some (vI v3)] [] σ (some (vI r), σ')) {σ : SS} (h : f_L_law_778 Y.1.2.2.2.2.1 Y.1.2.2.2.2.2 K18 v3 u0 u2 u3 σ = some (r, σ')) : WM (d + 16) X Y b mi_L_law 778 [some (vR 104 0), some (vR 0 0), some (vR 25 0), some (vI v3)] [vI u3, vI u2, vR 25 0, vI u0] σ (some (vI r), σ') := by
  rw [f_L_law_778] at h
  refine v2_i (mc := mi_X8_pack) (bc := (0, 0)) (b' := _) (pc' := 781) cw_L_86 d_L_law_778 rfl rfl rfl (Nat.zero_add _).symm (Nat.zero_add _).symm rfl h (fun _ _ e => t_X8_pack e) (fun x2 s1 h => ?_)
  refine r_icmp_eq (pcT := 1142) (pc' := 784) d_L_law_781 rfl rfl h (fun _ h => ?_) (fun _ h => ?_)
  · exact WM.drop [] rfl (t_L_law_1142 hb hK18 h)
  · refine r_iconst (pc' := 785) d_L_law_784 ci_0 rfl ?_
    exact r_zret d_L_law_785 rfl (Or.inl rfl) h
def f_L_law_756 (LL : Nat) (xs : Nat → Int32) (K18 : Int32 → SS → Option (Int32 × SS)) (v3 : Int32) (u1 : Int32) (u2 : Int32) (σ : SS) : Option (Int32 × SS) := cal (f_X7_pack u1 u2 σ) (fun x2 s1 => chk (inr (v3 + (1 : Int32)) LL) (chk (inr (v3 + (2 : Int32)) LL) (if (xs (ix (v3 + (2 : Int32)))) = 0 then (f_L_law_778 LL xs K18 v3 x2 (xs (ix (v3 + (1 : Int32)))) (0 : Int32) s1) else (f_L_law_778 LL xs K18 v3 x2 (xs (ix (v3 + (1 : Int32)))) (1 : Int32) s1))))
set_option maxRecDepth 100000 in
theorem t_L_law_756 {d : Nat} {X : MX} {Y : MY} {b b0 : Nat × Nat} {r : Int32} {σ' : SS} {K18 : Int32 → SS → Option (Int32 × SS)} {v3 : Int32} {u1 : Int32} {u2 : Int32} (hb : b0.1 ≤ b.1 ∧ b0.2 ≤ b.2) (hK18 : ∀ (v3 : Int32) (σ : SS), K18 v3 σ = some (r, σ') → WM (d + 16) X Y b0 mi_L_law 18 [some (vR 104 0), some (vR 0 0), some (vR 25 0), some (vI v3)] [] σ (some (vI r), σ')) {σ : SS} (h : f_L_law_756 Y.1.2.2.2.2.1 Y.1.2.2.2.2.2 K18 v3 u1 u2 σ = some (r, σ')) : WM (d + 16) X Y b mi_L_law 756 [some (vR 104 0), some (vR 0 0), some (vR 25 0), some (vI v3)] [vI u2, vI u1, vR 0 0] σ (some (vI r), σ') := by
  rw [f_L_law_756] at h
  refine v2_i (mc := mi_X7_pack) (bc := (0, 0)) (b' := _) (pc' := 759) cw_L_82 d_L_law_756 rfl rfl rfl (Nat.zero_add _).symm (Nat.zero_add _).symm rfl h (fun _ _ e => t_X7_pack e) (fun x2 s1 h => ?_)
  refine r_aload_n (pc' := 760) d_L_law_759 rfl rfl rfl ?_
  refine r_aload_n (pc' := 761) d_L_law_760 rfl rfl rfl ?_
  refine r_iload_n (pc' := 762) d_L_law_761 rfl rfl rfl ?_
  refine r_iconst (pc' := 763) d_L_law_762 ci_1 rfl ?_
  refine r_iadd (pc' := 764) d_L_law_763 rfl ?_
  refine r_scload (pc' := 765) d_L_law_764 rfl h (fun h => ?_)
  refine r_aload_n (pc' := 766) d_L_law_765 rfl rfl rfl ?_
  refine r_iload_n (pc' := 767) d_L_law_766 rfl rfl rfl ?_
  refine r_iconst (pc' := 768) d_L_law_767 ci_2 rfl ?_
  refine r_iadd (pc' := 769) d_L_law_768 rfl ?_
  refine r_scload (pc' := 770) d_L_law_769 rfl h (fun h => ?_)
  refine r_if_eq (pcT := 777) (pc' := 773) d_L_law_770 rfl rfl h (fun _ h => ?_) (fun _ h => ?_)
  · refine r_iconst (pc' := 778) d_L_law_777 ci_0 rfl ?_
    exact WM.drop [] rfl (t_L_law_778 hb hK18 h)
  · refine r_iconst (pc' := 774) d_L_law_773 ci_1 rfl ?_
    refine r_goto (pc' := 778) d_L_law_774 rfl ?_
    exact WM.drop [] rfl (t_L_law_778 hb hK18 h)
def f_L_law_18 (LL : Nat) (xs : Nat → Int32) : Nat → Int32 → SS → Option (Int32 × SS)
  | 0, _, _ => none
  | n + 1, v3, σ => if ((Int32.ofNat LL) - (5 : Int32)) < v3 then (some ((1 : Int32), σ)) else (chk (inr v3 LL) (if ((xs (ix v3)) &&& (31 : Int32)) = 0 then (chk (inr (v3 + (1 : Int32)) LL) (chk (inr (v3 + (2 : Int32)) LL) (chk (inr (v3 + (3 : Int32)) LL) (cal (f_X7_block (xs (ix (v3 + (1 : Int32)))) (xs (ix (v3 + (2 : Int32)))) (xs (ix (v3 + (3 : Int32)))) σ) (fun x3 s2 => chk (inr (v3 + (1 : Int32)) LL) (chk (inr (v3 + (2 : Int32)) LL) (chk (inr (v3 + (3 : Int32)) LL) (cal (f_X8_block (xs (ix (v3 + (1 : Int32)))) (xs (ix (v3 + (2 : Int32)))) (xs (ix (v3 + (3 : Int32)))) s2) (fun x5 s4 => if x3 = x5 then (f_L_law_1142 LL xs (f_L_law_18 LL xs n) v3 s4) else (some ((0 : Int32), s4))))))))))) else (if ((xs (ix v3)) &&& (31 : Int32)) = 1 then (chk (inr (v3 + (1 : Int32)) LL) (chk (inr (v3 + (2 : Int32)) LL) (chk (inr (v3 + (3 : Int32)) LL) (cal (f_X7_cut (xs (ix (v3 + (1 : Int32)))) (xs (ix (v3 + (2 : Int32)))) (xs (ix (v3 + (3 : Int32)))) σ) (fun x8 s7 => chk (inr (v3 + (1 : Int32)) LL) (chk (inr (v3 + (2 : Int32)) LL) (chk (inr (v3 + (3 : Int32)) LL) (cal (f_X8_cut (xs (ix (v3 + (1 : Int32)))) (xs (ix (v3 + (2 : Int32)))) (xs (ix (v3 + (3 : Int32)))) s7) (fun x10 s9 => if x8 = x10 then (f_L_law_1142 LL xs (f_L_law_18 LL xs n) v3 s9) else (some ((0 : Int32), s9))))))))))) else (if ((xs (ix v3)) &&& (31 : Int32)) = 2 then (chk (inr (v3 + (1 : Int32)) LL) (chk (inr (v3 + (2 : Int32)) LL) (chk (inr (v3 + (3 : Int32)) LL) (cal (f_X7_move (xs (ix (v3 + (1 : Int32)))) (xs (ix (v3 + (2 : Int32)))) (xs (ix (v3 + (3 : Int32)))) σ) (fun x13 s12 => chk (inr (v3 + (1 : Int32)) LL) (chk (inr (v3 + (2 : Int32)) LL) (chk (inr (v3 + (3 : Int32)) LL) (cal (f_X8_move (xs (ix (v3 + (1 : Int32)))) (xs (ix (v3 + (2 : Int32)))) (xs (ix (v3 + (3 : Int32)))) s12) (fun x15 s14 => if x13 = x15 then (f_L_law_1142 LL xs (f_L_law_18 LL xs n) v3 s14) else (some ((0 : Int32), s14))))))))))) else (if ((xs (ix v3)) &&& (31 : Int32)) = 3 then (chk (inr (v3 + (1 : Int32)) LL) (chk (inr (v3 + (2 : Int32)) LL) (cal (f_X7_turn (xs (ix (v3 + (1 : Int32)))) (xs (ix (v3 + (2 : Int32)))) σ) (fun x18 s17 => chk (inr (v3 + (1 : Int32)) LL) (chk (inr (v3 + (2 : Int32)) LL) (cal (f_X8_turn (xs (ix (v3 + (1 : Int32)))) (xs (ix (v3 + (2 : Int32)))) s17) (fun x20 s19 => if x18 = x20 then (f_L_law_1142 LL xs (f_L_law_18 LL xs n) v3 s19) else (some ((0 : Int32), s19))))))))) else (if ((xs (ix v3)) &&& (31 : Int32)) = 4 then (chk (inr (v3 + (1 : Int32)) LL) (cal (f_X7_scrap (xs (ix (v3 + (1 : Int32)))) σ) (fun x23 s22 => chk (inr (v3 + (1 : Int32)) LL) (cal (f_X8_scrap (xs (ix (v3 + (1 : Int32)))) s22) (fun x25 s24 => if x23 = x25 then (f_L_law_1142 LL xs (f_L_law_18 LL xs n) v3 s24) else (some ((0 : Int32), s24))))))) else (if ((xs (ix v3)) &&& (31 : Int32)) = 5 then (chk (inr (v3 + (1 : Int32)) LL) (chk (inr (v3 + (2 : Int32)) LL) (cal (f_X7_bound (xs (ix (v3 + (1 : Int32)))) (xs (ix (v3 + (2 : Int32)))) σ) (fun x28 s27 => chk (inr (v3 + (1 : Int32)) LL) (chk (inr (v3 + (2 : Int32)) LL) (cal (f_X8_bound (xs (ix (v3 + (1 : Int32)))) (xs (ix (v3 + (2 : Int32)))) s27) (fun x30 s29 => if x28 = x30 then (f_L_law_1142 LL xs (f_L_law_18 LL xs n) v3 s29) else (some ((0 : Int32), s29))))))))) else (if ((xs (ix v3)) &&& (31 : Int32)) = 6 then (chk (inr (v3 + (1 : Int32)) LL) (chk (inr (v3 + (2 : Int32)) LL) (cal (f_X7_about (xs (ix (v3 + (1 : Int32)))) (xs (ix (v3 + (2 : Int32)))) σ) (fun x33 s32 => chk (inr (v3 + (1 : Int32)) LL) (chk (inr (v3 + (2 : Int32)) LL) (cal (f_X8_about (xs (ix (v3 + (1 : Int32)))) (xs (ix (v3 + (2 : Int32)))) s32) (fun x35 s34 => if x33 = x35 then (f_L_law_1142 LL xs (f_L_law_18 LL xs n) v3 s34) else (some ((0 : Int32), s34))))))))) else (if ((xs (ix v3)) &&& (31 : Int32)) = 7 then (chk (inr (v3 + (1 : Int32)) LL) (chk (inr (v3 + (2 : Int32)) LL) (chk (inr (v3 + (3 : Int32)) LL) (cal (f_X7_corner (xs (ix (v3 + (1 : Int32)))) (xs (ix (v3 + (2 : Int32)))) (xs (ix (v3 + (3 : Int32)))) σ) (fun x38 s37 => chk (inr (v3 + (1 : Int32)) LL) (chk (inr (v3 + (2 : Int32)) LL) (chk (inr (v3 + (3 : Int32)) LL) (cal (f_X8_corner (xs (ix (v3 + (1 : Int32)))) (xs (ix (v3 + (2 : Int32)))) (xs (ix (v3 + (3 : Int32)))) s37) (fun x40 s39 => if x38 = x40 then (f_L_law_1142 LL xs (f_L_law_18 LL xs n) v3 s39) else (some ((0 : Int32), s39))))))))))) else (if ((xs (ix v3)) &&& (31 : Int32)) = 8 then (chk (inr (v3 + (1 : Int32)) LL) (chk (inr (v3 + (2 : Int32)) LL) (cal (f_X7_side (xs (ix (v3 + (1 : Int32)))) (xs (ix (v3 + (2 : Int32)))) σ) (fun x43 s42 => chk (inr (v3 + (1 : Int32)) LL) (chk (inr (v3 + (2 : Int32)) LL) (cal (f_X8_side (xs (ix (v3 + (1 : Int32)))) (xs (ix (v3 + (2 : Int32)))) s42) (fun x45 s44 => if x43 = x45 then (f_L_law_1142 LL xs (f_L_law_18 LL xs n) v3 s44) else (some ((0 : Int32), s44))))))))) else (if ((xs (ix v3)) &&& (31 : Int32)) = 9 then (chk (inr (v3 + (1 : Int32)) LL) (cal (f_X7_area (xs (ix (v3 + (1 : Int32)))) σ) (fun x48 s47 => chk (inr (v3 + (1 : Int32)) LL) (cal (f_X8_area (xs (ix (v3 + (1 : Int32)))) s47) (fun x50 s49 => if x48 = x50 then (f_L_law_1142 LL xs (f_L_law_18 LL xs n) v3 s49) else (some ((0 : Int32), s49))))))) else (if ((xs (ix v3)) &&& (31 : Int32)) = 10 then (chk (inr (v3 + (1 : Int32)) LL) (cal (f_X7_volume (xs (ix (v3 + (1 : Int32)))) σ) (fun x53 s52 => chk (inr (v3 + (1 : Int32)) LL) (cal (f_X8_volume (xs (ix (v3 + (1 : Int32)))) s52) (fun x55 s54 => if (lg_cmp x53 x55) = 0 then (f_L_law_1142 LL xs (f_L_law_18 LL xs n) v3 s54) else (some ((0 : Int32), s54))))))) else (if ((xs (ix v3)) &&& (31 : Int32)) = 11 then (chk (inr (v3 + (1 : Int32)) LL) (chk (inr (v3 + (2 : Int32)) LL) (chk (inr (v3 + (3 : Int32)) LL) (cal (f_X7_inside (xs (ix (v3 + (1 : Int32)))) (xs (ix (v3 + (2 : Int32)))) (xs (ix (v3 + (3 : Int32)))) σ) (fun x58 s57 => chk (inr (v3 + (1 : Int32)) LL) (chk (inr (v3 + (2 : Int32)) LL) (chk (inr (v3 + (3 : Int32)) LL) (cal (f_X8_inside (xs (ix (v3 + (1 : Int32)))) (xs (ix (v3 + (2 : Int32)))) (xs (ix (v3 + (3 : Int32)))) s57) (fun x60 s59 => if x58 = x60 then (f_L_law_1142 LL xs (f_L_law_18 LL xs n) v3 s59) else (some ((0 : Int32), s59))))))))))) else (if ((xs (ix v3)) &&& (31 : Int32)) = 12 then (chk (inr (v3 + (1 : Int32)) LL) (cal (f_X7_waste (xs (ix (v3 + (1 : Int32)))) σ) (fun x63 s62 => chk (inr (v3 + (1 : Int32)) LL) (cal (f_X8_waste (xs (ix (v3 + (1 : Int32)))) s62) (fun x65 s64 => if x63 = x65 then (f_L_law_1142 LL xs (f_L_law_18 LL xs n) v3 s64) else (some ((0 : Int32), s64))))))) else (if ((xs (ix v3)) &&& (31 : Int32)) = 13 then (chk (inr (v3 + (1 : Int32)) LL) (chk (inr (v3 + (2 : Int32)) LL) (cal (f_X7_near (xs (ix (v3 + (1 : Int32)))) (xs (ix (v3 + (2 : Int32)))) σ) (fun x68 s67 => chk (inr (v3 + (1 : Int32)) LL) (chk (inr (v3 + (2 : Int32)) LL) (cal (f_X8_near (xs (ix (v3 + (1 : Int32)))) (xs (ix (v3 + (2 : Int32)))) s67) (fun x70 s69 => if x68 = x70 then (f_L_law_1142 LL xs (f_L_law_18 LL xs n) v3 s69) else (some ((0 : Int32), s69))))))))) else (if ((xs (ix v3)) &&& (31 : Int32)) = 14 then (chk (inr (v3 + (1 : Int32)) LL) (chk (inr (v3 + (2 : Int32)) LL) (chk (inr (v3 + (3 : Int32)) LL) (cal (f_X7_touch (xs (ix (v3 + (1 : Int32)))) (xs (ix (v3 + (2 : Int32)))) (xs (ix (v3 + (3 : Int32)))) σ) (fun x73 s72 => chk (inr (v3 + (1 : Int32)) LL) (chk (inr (v3 + (2 : Int32)) LL) (chk (inr (v3 + (3 : Int32)) LL) (cal (f_X8_touch (xs (ix (v3 + (1 : Int32)))) (xs (ix (v3 + (2 : Int32)))) (xs (ix (v3 + (3 : Int32)))) s72) (fun x75 s74 => if x73 = x75 then (f_L_law_1142 LL xs (f_L_law_18 LL xs n) v3 s74) else (some ((0 : Int32), s74))))))))))) else (if ((xs (ix v3)) &&& (31 : Int32)) = 15 then (chk (inr (v3 + (1 : Int32)) LL) (chk (inr (v3 + (2 : Int32)) LL) (chk (inr (v3 + (3 : Int32)) LL) (chk (inr (v3 + (4 : Int32)) LL) (cal (f_X7_rule (xs (ix (v3 + (1 : Int32)))) (xs (ix (v3 + (2 : Int32)))) (xs (ix (v3 + (3 : Int32)))) (xs (ix (v3 + (4 : Int32)))) σ) (fun x78 s77 => chk (inr (v3 + (1 : Int32)) LL) (chk (inr (v3 + (2 : Int32)) LL) (chk (inr (v3 + (3 : Int32)) LL) (chk (inr (v3 + (4 : Int32)) LL) (cal (f_X8_rule (xs (ix (v3 + (1 : Int32)))) (xs (ix (v3 + (2 : Int32)))) (xs (ix (v3 + (3 : Int32)))) (xs (ix (v3 + (4 : Int32)))) s77) (fun x80 s79 => if x78 = x80 then (f_L_law_1142 LL xs (f_L_law_18 LL xs n) v3 s79) else (some ((0 : Int32), s79))))))))))))) else (if ((xs (ix v3)) &&& (31 : Int32)) = 16 then (chk (inr (v3 + (1 : Int32)) LL) (chk (inr (v3 + (2 : Int32)) LL) (if (xs (ix (v3 + (2 : Int32)))) = 0 then (f_L_law_756 LL xs (f_L_law_18 LL xs n) v3 (xs (ix (v3 + (1 : Int32)))) (0 : Int32) σ) else (f_L_law_756 LL xs (f_L_law_18 LL xs n) v3 (xs (ix (v3 + (1 : Int32)))) (1 : Int32) σ)))) else (if ((xs (ix v3)) &&& (31 : Int32)) = 17 then (chk (inr (v3 + (1 : Int32)) LL) (chk (inr (v3 + (2 : Int32)) LL) (chk (inr (v3 + (3 : Int32)) LL) (cal (f_X7_above (xs (ix (v3 + (1 : Int32)))) (xs (ix (v3 + (2 : Int32)))) (xs (ix (v3 + (3 : Int32)))) σ) (fun x84 s83 => chk (inr (v3 + (1 : Int32)) LL) (chk (inr (v3 + (2 : Int32)) LL) (chk (inr (v3 + (3 : Int32)) LL) (cal (f_X8_above (xs (ix (v3 + (1 : Int32)))) (xs (ix (v3 + (2 : Int32)))) (xs (ix (v3 + (3 : Int32)))) s83) (fun x86 s85 => if x84 = x86 then (f_L_law_1142 LL xs (f_L_law_18 LL xs n) v3 s85) else (some ((0 : Int32), s85))))))))))) else (if ((xs (ix v3)) &&& (31 : Int32)) = 18 then (chk (inr (v3 + (1 : Int32)) LL) (chk (inr (v3 + (2 : Int32)) LL) (cal (f_X7_treats (xs (ix (v3 + (1 : Int32)))) (xs (ix (v3 + (2 : Int32)))) σ) (fun x89 s88 => chk (inr (v3 + (1 : Int32)) LL) (chk (inr (v3 + (2 : Int32)) LL) (cal (f_X8_treats (xs (ix (v3 + (1 : Int32)))) (xs (ix (v3 + (2 : Int32)))) s88) (fun x91 s90 => if x89 = x91 then (f_L_law_1142 LL xs (f_L_law_18 LL xs n) v3 s90) else (some ((0 : Int32), s90))))))))) else (if ((xs (ix v3)) &&& (31 : Int32)) = 19 then (cal (f_X7_undecided  σ) (fun x94 s93 => cal (f_X8_undecided  s93) (fun x96 s95 => if x94 = x96 then (f_L_law_1142 LL xs (f_L_law_18 LL xs n) v3 s95) else (some ((0 : Int32), s95))))) else (if ((xs (ix v3)) &&& (31 : Int32)) = 20 then (chk (inr (v3 + (1 : Int32)) LL) (chk (inr (v3 + (2 : Int32)) LL) (cal (f_X7_meet (xs (ix (v3 + (1 : Int32)))) (xs (ix (v3 + (2 : Int32)))) σ) (fun x99 s98 => chk (inr (v3 + (1 : Int32)) LL) (chk (inr (v3 + (2 : Int32)) LL) (cal (f_X8_meet (xs (ix (v3 + (1 : Int32)))) (xs (ix (v3 + (2 : Int32)))) s98) (fun x101 s100 => if x99 = x101 then (f_L_law_1142 LL xs (f_L_law_18 LL xs n) v3 s100) else (some ((0 : Int32), s100))))))))) else (if ((xs (ix v3)) &&& (31 : Int32)) = 21 then (cal (f_X7_assembly  σ) (fun x104 s103 => cal (f_X8_assembly  s103) (fun x106 s105 => if x104 = x106 then (f_L_law_1142 LL xs (f_L_law_18 LL xs n) v3 s105) else (some ((0 : Int32), s105))))) else (if ((xs (ix v3)) &&& (31 : Int32)) = 22 then (chk (inr (v3 + (1 : Int32)) LL) (chk (inr (v3 + (2 : Int32)) LL) (chk (inr (v3 + (3 : Int32)) LL) (if (xs (ix (v3 + (3 : Int32)))) = 0 then (f_L_law_945 LL xs (f_L_law_18 LL xs n) v3 (xs (ix (v3 + (1 : Int32)))) (xs (ix (v3 + (2 : Int32)))) (0 : Int32) σ) else (f_L_law_945 LL xs (f_L_law_18 LL xs n) v3 (xs (ix (v3 + (1 : Int32)))) (xs (ix (v3 + (2 : Int32)))) (1 : Int32) σ))))) else (if ((xs (ix v3)) &&& (31 : Int32)) = 23 then (chk (inr (v3 + (1 : Int32)) LL) (cal (f_X7_walked (xs (ix (v3 + (1 : Int32)))) σ) (fun x110 s109 => chk (inr (v3 + (1 : Int32)) LL) (cal (f_X8_walked (xs (ix (v3 + (1 : Int32)))) s109) (fun x112 s111 => if x110 = x112 then (f_L_law_1142 LL xs (f_L_law_18 LL xs n) v3 s111) else (some ((0 : Int32), s111))))))) else (if ((xs (ix v3)) &&& (31 : Int32)) = 24 then (chk (inr (v3 + (1 : Int32)) LL) (chk (inr (v3 + (2 : Int32)) LL) (cal (f_X7_walk (xs (ix (v3 + (1 : Int32)))) (xs (ix (v3 + (2 : Int32)))) σ) (fun x115 s114 => chk (inr (v3 + (1 : Int32)) LL) (chk (inr (v3 + (2 : Int32)) LL) (cal (f_X8_walk (xs (ix (v3 + (1 : Int32)))) (xs (ix (v3 + (2 : Int32)))) s114) (fun x117 s116 => if x115 = x117 then (f_L_law_1142 LL xs (f_L_law_18 LL xs n) v3 s116) else (some ((0 : Int32), s116))))))))) else (if ((xs (ix v3)) &&& (31 : Int32)) = 25 then (chk (inr (v3 + (1 : Int32)) LL) (cal (f_X7_weight (xs (ix (v3 + (1 : Int32)))) σ) (fun x120 s119 => chk (inr (v3 + (1 : Int32)) LL) (cal (f_X8_weight (xs (ix (v3 + (1 : Int32)))) s119) (fun x122 s121 => if (lg_cmp x120 x122) = 0 then (f_L_law_1142 LL xs (f_L_law_18 LL xs n) v3 s121) else (some ((0 : Int32), s121))))))) else (if ((xs (ix v3)) &&& (31 : Int32)) = 26 then (chk (inr (v3 + (1 : Int32)) LL) (cal (f_X7_price (xs (ix (v3 + (1 : Int32)))) σ) (fun x125 s124 => chk (inr (v3 + (1 : Int32)) LL) (cal (f_X8_price (xs (ix (v3 + (1 : Int32)))) s124) (fun x127 s126 => if x125 = x127 then (f_L_law_1142 LL xs (f_L_law_18 LL xs n) v3 s126) else (some ((0 : Int32), s126))))))) else (if ((xs (ix v3)) &&& (31 : Int32)) = 27 then (chk (inr (v3 + (1 : Int32)) LL) (cal (f_X7_check (xs (ix (v3 + (1 : Int32)))) σ) (fun x130 s129 => chk (inr (v3 + (1 : Int32)) LL) (cal (f_X8_check (xs (ix (v3 + (1 : Int32)))) s129) (fun x132 s131 => if x130 = x132 then (f_L_law_1142 LL xs (f_L_law_18 LL xs n) v3 s131) else (some ((0 : Int32), s131))))))) else (if ((xs (ix v3)) &&& (31 : Int32)) = 28 then (cal (f_X7_undo  σ) (fun x135 s134 => cal (f_X8_undo  s134) (fun x137 s136 => if x135 = x137 then (f_L_law_1142 LL xs (f_L_law_18 LL xs n) v3 s136) else (some ((0 : Int32), s136))))) else (if ((xs (ix v3)) &&& (31 : Int32)) = 29 then (chk (inr (v3 + (1 : Int32)) LL) (cal (f_X7_count (xs (ix (v3 + (1 : Int32)))) σ) (fun x140 s139 => chk (inr (v3 + (1 : Int32)) LL) (cal (f_X8_count (xs (ix (v3 + (1 : Int32)))) s139) (fun x142 s141 => if x140 = x142 then (f_L_law_1142 LL xs (f_L_law_18 LL xs n) v3 s141) else (some ((0 : Int32), s141))))))) else (f_L_law_1142 LL xs (f_L_law_18 LL xs n) v3 σ))))))))))))))))))))))))))))))))
set_option maxRecDepth 100000 in
set_option maxHeartbeats 4000000 in
theorem t_L_law_18 {d : Nat} {X : MX} {Y : MY} {r : Int32} {σ' : SS} : ∀ (n : Nat) (v3 : Int32) (σ : SS), f_L_law_18 Y.1.2.2.2.2.1 Y.1.2.2.2.2.2 n v3 σ = some (r, σ') → WM (d + 16) X Y (6 * n, 45 * n) mi_L_law 18 [some (vR 104 0), some (vR 0 0), some (vR 25 0), some (vI v3)] [] σ (some (vI r), σ') := by
  intro n
  induction n with
  | zero => intro _ σ h; cases h
  | succ n ih =>
    intro v3 σ h
    rw [f_L_law_18] at h
    refine r_iload_n (pc' := 19) d_L_law_18 rfl rfl rfl ?_
    refine r_aload_n (pc' := 20) d_L_law_19 rfl rfl rfl ?_
    refine r_sclen (pc' := 21) d_L_law_20 rfl rfl ?_
    refine r_iconst (pc' := 22) d_L_law_21 ci_5 rfl ?_
    refine r_isub (pc' := 23) d_L_law_22 rfl ?_
    refine r_icmp_gt (pcT := 1148) (pc' := 26) d_L_law_23 rfl rfl h (fun _ h => ?_) (fun _ h => ?_)
    · refine r_iconst (pc' := 1149) d_L_law_1148 ci_1 rfl ?_
      exact r_zret d_L_law_1149 rfl (Or.inr rfl) h
    · refine r_aload_n (pc' := 27) d_L_law_26 rfl rfl rfl ?_
      refine r_iload_n (pc' := 28) d_L_law_27 rfl rfl rfl ?_
      refine r_scload (pc' := 29) d_L_law_28 rfl h (fun h => ?_)
      refine r_bipush (pc' := 31) d_L_law_29 cb_31 rfl ?_
      refine r_iand (pc' := 32) d_L_law_31 rfl ?_
      refine ite_c h (fun c1 h => ?_) (fun c1 h => ?_)
      · refine r_tswIn (c := 0) (off := 136) (pc' := 168) d_L_law_32 c1 (by decide) (by decide) (by decide) rfl ?_
        refine r_aload_n (pc' := 169) d_L_law_168 rfl rfl rfl ?_
        refine r_aload_n (pc' := 170) d_L_law_169 rfl rfl rfl ?_
        refine r_iload_n (pc' := 171) d_L_law_170 rfl rfl rfl ?_
        refine r_iconst (pc' := 172) d_L_law_171 ci_1 rfl ?_
        refine r_iadd (pc' := 173) d_L_law_172 rfl ?_
        refine r_scload (pc' := 174) d_L_law_173 rfl h (fun h => ?_)
        refine r_aload_n (pc' := 175) d_L_law_174 rfl rfl rfl ?_
        refine r_iload_n (pc' := 176) d_L_law_175 rfl rfl rfl ?_
        refine r_iconst (pc' := 177) d_L_law_176 ci_2 rfl ?_
        refine r_iadd (pc' := 178) d_L_law_177 rfl ?_
        refine r_scload (pc' := 179) d_L_law_178 rfl h (fun h => ?_)
        refine r_aload_n (pc' := 180) d_L_law_179 rfl rfl rfl ?_
        refine r_iload_n (pc' := 181) d_L_law_180 rfl rfl rfl ?_
        refine r_iconst (pc' := 182) d_L_law_181 ci_3 rfl ?_
        refine r_iadd (pc' := 183) d_L_law_182 rfl ?_
        refine r_scload (pc' := 184) d_L_law_183 rfl h (fun h => ?_)
        refine v3_i (mc := mi_X7_block) (bc := (6, 42)) (b' := (6 * n, 45 * n + 3)) (pc' := 187) cw_L_13 d_L_law_184 rfl rfl rfl (by show 6 * (n + 1) = _; omega) (by show 45 * (n + 1) = _; omega) rfl h (fun _ _ e => t_X7_block e) (fun x3 s2 h => ?_)
        refine r_aload_n (pc' := 188) d_L_law_187 rfl rfl rfl ?_
        refine r_aload_n (pc' := 189) d_L_law_188 rfl rfl rfl ?_
        refine r_iload_n (pc' := 190) d_L_law_189 rfl rfl rfl ?_
        refine r_iconst (pc' := 191) d_L_law_190 ci_1 rfl ?_
        refine r_iadd (pc' := 192) d_L_law_191 rfl ?_
        refine r_scload (pc' := 193) d_L_law_192 rfl h (fun h => ?_)
        refine r_aload_n (pc' := 194) d_L_law_193 rfl rfl rfl ?_
        refine r_iload_n (pc' := 195) d_L_law_194 rfl rfl rfl ?_
        refine r_iconst (pc' := 196) d_L_law_195 ci_2 rfl ?_
        refine r_iadd (pc' := 197) d_L_law_196 rfl ?_
        refine r_scload (pc' := 198) d_L_law_197 rfl h (fun h => ?_)
        refine r_aload_n (pc' := 199) d_L_law_198 rfl rfl rfl ?_
        refine r_iload_n (pc' := 200) d_L_law_199 rfl rfl rfl ?_
        refine r_iconst (pc' := 201) d_L_law_200 ci_3 rfl ?_
        refine r_iadd (pc' := 202) d_L_law_201 rfl ?_
        refine r_scload (pc' := 203) d_L_law_202 rfl h (fun h => ?_)
        refine v3_i (mc := mi_X8_block) (bc := (0, 0)) (b' := _) (pc' := 206) cw_L_17 d_L_law_203 rfl rfl rfl (Nat.zero_add _).symm (Nat.zero_add _).symm rfl h (fun _ _ e => t_X8_block e) (fun x5 s4 h => ?_)
        refine r_icmp_eq (pcT := 1142) (pc' := 209) d_L_law_206 rfl rfl h (fun _ h => ?_) (fun _ h => ?_)
        · exact WM.drop [] rfl (t_L_law_1142 (b0 := (6 * n, 45 * n)) (by refine ⟨?_, ?_⟩ <;> (dsimp only; omega)) ih h)
        · refine r_iconst (pc' := 210) d_L_law_209 ci_0 rfl ?_
          exact r_zret d_L_law_210 rfl (Or.inl rfl) h
      refine ite_c h (fun c6 h => ?_) (fun c6 h => ?_)
      · refine r_tswIn (c := 1) (off := 179) (pc' := 211) d_L_law_32 c6 (by decide) (by decide) (by decide) rfl ?_
        refine r_aload_n (pc' := 212) d_L_law_211 rfl rfl rfl ?_
        refine r_aload_n (pc' := 213) d_L_law_212 rfl rfl rfl ?_
        refine r_iload_n (pc' := 214) d_L_law_213 rfl rfl rfl ?_
        refine r_iconst (pc' := 215) d_L_law_214 ci_1 rfl ?_
        refine r_iadd (pc' := 216) d_L_law_215 rfl ?_
        refine r_scload (pc' := 217) d_L_law_216 rfl h (fun h => ?_)
        refine r_aload_n (pc' := 218) d_L_law_217 rfl rfl rfl ?_
        refine r_iload_n (pc' := 219) d_L_law_218 rfl rfl rfl ?_
        refine r_iconst (pc' := 220) d_L_law_219 ci_2 rfl ?_
        refine r_iadd (pc' := 221) d_L_law_220 rfl ?_
        refine r_scload (pc' := 222) d_L_law_221 rfl h (fun h => ?_)
        refine r_aload_n (pc' := 223) d_L_law_222 rfl rfl rfl ?_
        refine r_iload_n (pc' := 224) d_L_law_223 rfl rfl rfl ?_
        refine r_iconst (pc' := 225) d_L_law_224 ci_3 rfl ?_
        refine r_iadd (pc' := 226) d_L_law_225 rfl ?_
        refine r_scload (pc' := 227) d_L_law_226 rfl h (fun h => ?_)
        refine v3_i (mc := mi_X7_cut) (bc := (6, 42)) (b' := (6 * n, 45 * n + 3)) (pc' := 230) cw_L_18 d_L_law_227 rfl rfl rfl (by show 6 * (n + 1) = _; omega) (by show 45 * (n + 1) = _; omega) rfl h (fun _ _ e => t_X7_cut e) (fun x8 s7 h => ?_)
        refine r_aload_n (pc' := 231) d_L_law_230 rfl rfl rfl ?_
        refine r_aload_n (pc' := 232) d_L_law_231 rfl rfl rfl ?_
        refine r_iload_n (pc' := 233) d_L_law_232 rfl rfl rfl ?_
        refine r_iconst (pc' := 234) d_L_law_233 ci_1 rfl ?_
        refine r_iadd (pc' := 235) d_L_law_234 rfl ?_
        refine r_scload (pc' := 236) d_L_law_235 rfl h (fun h => ?_)
        refine r_aload_n (pc' := 237) d_L_law_236 rfl rfl rfl ?_
        refine r_iload_n (pc' := 238) d_L_law_237 rfl rfl rfl ?_
        refine r_iconst (pc' := 239) d_L_law_238 ci_2 rfl ?_
        refine r_iadd (pc' := 240) d_L_law_239 rfl ?_
        refine r_scload (pc' := 241) d_L_law_240 rfl h (fun h => ?_)
        refine r_aload_n (pc' := 242) d_L_law_241 rfl rfl rfl ?_
        refine r_iload_n (pc' := 243) d_L_law_242 rfl rfl rfl ?_
        refine r_iconst (pc' := 244) d_L_law_243 ci_3 rfl ?_
        refine r_iadd (pc' := 245) d_L_law_244 rfl ?_
        refine r_scload (pc' := 246) d_L_law_245 rfl h (fun h => ?_)
        refine v3_i (mc := mi_X8_cut) (bc := (0, 0)) (b' := _) (pc' := 249) cw_L_21 d_L_law_246 rfl rfl rfl (Nat.zero_add _).symm (Nat.zero_add _).symm rfl h (fun _ _ e => t_X8_cut e) (fun x10 s9 h => ?_)
        refine r_icmp_eq (pcT := 1142) (pc' := 252) d_L_law_249 rfl rfl h (fun _ h => ?_) (fun _ h => ?_)
        · exact WM.drop [] rfl (t_L_law_1142 (b0 := (6 * n, 45 * n)) (by refine ⟨?_, ?_⟩ <;> (dsimp only; omega)) ih h)
        · refine r_iconst (pc' := 253) d_L_law_252 ci_0 rfl ?_
          exact r_zret d_L_law_253 rfl (Or.inl rfl) h
      refine ite_c h (fun c11 h => ?_) (fun c11 h => ?_)
      · refine r_tswIn (c := 2) (off := 222) (pc' := 254) d_L_law_32 c11 (by decide) (by decide) (by decide) rfl ?_
        refine r_aload_n (pc' := 255) d_L_law_254 rfl rfl rfl ?_
        refine r_aload_n (pc' := 256) d_L_law_255 rfl rfl rfl ?_
        refine r_iload_n (pc' := 257) d_L_law_256 rfl rfl rfl ?_
        refine r_iconst (pc' := 258) d_L_law_257 ci_1 rfl ?_
        refine r_iadd (pc' := 259) d_L_law_258 rfl ?_
        refine r_scload (pc' := 260) d_L_law_259 rfl h (fun h => ?_)
        refine r_aload_n (pc' := 261) d_L_law_260 rfl rfl rfl ?_
        refine r_iload_n (pc' := 262) d_L_law_261 rfl rfl rfl ?_
        refine r_iconst (pc' := 263) d_L_law_262 ci_2 rfl ?_
        refine r_iadd (pc' := 264) d_L_law_263 rfl ?_
        refine r_scload (pc' := 265) d_L_law_264 rfl h (fun h => ?_)
        refine r_aload_n (pc' := 266) d_L_law_265 rfl rfl rfl ?_
        refine r_iload_n (pc' := 267) d_L_law_266 rfl rfl rfl ?_
        refine r_iconst (pc' := 268) d_L_law_267 ci_3 rfl ?_
        refine r_iadd (pc' := 269) d_L_law_268 rfl ?_
        refine r_scload (pc' := 270) d_L_law_269 rfl h (fun h => ?_)
        refine v3_i (mc := mi_X7_move) (bc := (0, 0)) (b' := _) (pc' := 273) cw_L_22 d_L_law_270 rfl rfl rfl (Nat.zero_add _).symm (Nat.zero_add _).symm rfl h (fun _ _ e => t_X7_move e) (fun x13 s12 h => ?_)
        refine r_aload_n (pc' := 274) d_L_law_273 rfl rfl rfl ?_
        refine r_aload_n (pc' := 275) d_L_law_274 rfl rfl rfl ?_
        refine r_iload_n (pc' := 276) d_L_law_275 rfl rfl rfl ?_
        refine r_iconst (pc' := 277) d_L_law_276 ci_1 rfl ?_
        refine r_iadd (pc' := 278) d_L_law_277 rfl ?_
        refine r_scload (pc' := 279) d_L_law_278 rfl h (fun h => ?_)
        refine r_aload_n (pc' := 280) d_L_law_279 rfl rfl rfl ?_
        refine r_iload_n (pc' := 281) d_L_law_280 rfl rfl rfl ?_
        refine r_iconst (pc' := 282) d_L_law_281 ci_2 rfl ?_
        refine r_iadd (pc' := 283) d_L_law_282 rfl ?_
        refine r_scload (pc' := 284) d_L_law_283 rfl h (fun h => ?_)
        refine r_aload_n (pc' := 285) d_L_law_284 rfl rfl rfl ?_
        refine r_iload_n (pc' := 286) d_L_law_285 rfl rfl rfl ?_
        refine r_iconst (pc' := 287) d_L_law_286 ci_3 rfl ?_
        refine r_iadd (pc' := 288) d_L_law_287 rfl ?_
        refine r_scload (pc' := 289) d_L_law_288 rfl h (fun h => ?_)
        refine v3_i (mc := mi_X8_move) (bc := (0, 0)) (b' := _) (pc' := 292) cw_L_25 d_L_law_289 rfl rfl rfl (Nat.zero_add _).symm (Nat.zero_add _).symm rfl h (fun _ _ e => t_X8_move e) (fun x15 s14 h => ?_)
        refine r_icmp_eq (pcT := 1142) (pc' := 295) d_L_law_292 rfl rfl h (fun _ h => ?_) (fun _ h => ?_)
        · exact WM.drop [] rfl (t_L_law_1142 (b0 := (6 * n, 45 * n)) (by refine ⟨?_, ?_⟩ <;> (dsimp only; omega)) ih h)
        · refine r_iconst (pc' := 296) d_L_law_295 ci_0 rfl ?_
          exact r_zret d_L_law_296 rfl (Or.inl rfl) h
      refine ite_c h (fun c16 h => ?_) (fun c16 h => ?_)
      · refine r_tswIn (c := 3) (off := 265) (pc' := 297) d_L_law_32 c16 (by decide) (by decide) (by decide) rfl ?_
        refine r_aload_n (pc' := 298) d_L_law_297 rfl rfl rfl ?_
        refine r_aload_n (pc' := 299) d_L_law_298 rfl rfl rfl ?_
        refine r_iload_n (pc' := 300) d_L_law_299 rfl rfl rfl ?_
        refine r_iconst (pc' := 301) d_L_law_300 ci_1 rfl ?_
        refine r_iadd (pc' := 302) d_L_law_301 rfl ?_
        refine r_scload (pc' := 303) d_L_law_302 rfl h (fun h => ?_)
        refine r_aload_n (pc' := 304) d_L_law_303 rfl rfl rfl ?_
        refine r_iload_n (pc' := 305) d_L_law_304 rfl rfl rfl ?_
        refine r_iconst (pc' := 306) d_L_law_305 ci_2 rfl ?_
        refine r_iadd (pc' := 307) d_L_law_306 rfl ?_
        refine r_scload (pc' := 308) d_L_law_307 rfl h (fun h => ?_)
        refine v2_i (mc := mi_X7_turn) (bc := (0, 0)) (b' := _) (pc' := 311) cw_L_26 d_L_law_308 rfl rfl rfl (Nat.zero_add _).symm (Nat.zero_add _).symm rfl h (fun _ _ e => t_X7_turn e) (fun x18 s17 h => ?_)
        refine r_aload_n (pc' := 312) d_L_law_311 rfl rfl rfl ?_
        refine r_aload_n (pc' := 313) d_L_law_312 rfl rfl rfl ?_
        refine r_iload_n (pc' := 314) d_L_law_313 rfl rfl rfl ?_
        refine r_iconst (pc' := 315) d_L_law_314 ci_1 rfl ?_
        refine r_iadd (pc' := 316) d_L_law_315 rfl ?_
        refine r_scload (pc' := 317) d_L_law_316 rfl h (fun h => ?_)
        refine r_aload_n (pc' := 318) d_L_law_317 rfl rfl rfl ?_
        refine r_iload_n (pc' := 319) d_L_law_318 rfl rfl rfl ?_
        refine r_iconst (pc' := 320) d_L_law_319 ci_2 rfl ?_
        refine r_iadd (pc' := 321) d_L_law_320 rfl ?_
        refine r_scload (pc' := 322) d_L_law_321 rfl h (fun h => ?_)
        refine v2_i (mc := mi_X8_turn) (bc := (0, 0)) (b' := _) (pc' := 325) cw_L_30 d_L_law_322 rfl rfl rfl (Nat.zero_add _).symm (Nat.zero_add _).symm rfl h (fun _ _ e => t_X8_turn e) (fun x20 s19 h => ?_)
        refine r_icmp_eq (pcT := 1142) (pc' := 328) d_L_law_325 rfl rfl h (fun _ h => ?_) (fun _ h => ?_)
        · exact WM.drop [] rfl (t_L_law_1142 (b0 := (6 * n, 45 * n)) (by refine ⟨?_, ?_⟩ <;> (dsimp only; omega)) ih h)
        · refine r_iconst (pc' := 329) d_L_law_328 ci_0 rfl ?_
          exact r_zret d_L_law_329 rfl (Or.inl rfl) h
      refine ite_c h (fun c21 h => ?_) (fun c21 h => ?_)
      · refine r_tswIn (c := 4) (off := 298) (pc' := 330) d_L_law_32 c21 (by decide) (by decide) (by decide) rfl ?_
        refine r_aload_n (pc' := 331) d_L_law_330 rfl rfl rfl ?_
        refine r_aload_n (pc' := 332) d_L_law_331 rfl rfl rfl ?_
        refine r_iload_n (pc' := 333) d_L_law_332 rfl rfl rfl ?_
        refine r_iconst (pc' := 334) d_L_law_333 ci_1 rfl ?_
        refine r_iadd (pc' := 335) d_L_law_334 rfl ?_
        refine r_scload (pc' := 336) d_L_law_335 rfl h (fun h => ?_)
        refine v1_i (mc := mi_X7_scrap) (bc := (0, 0)) (b' := _) (pc' := 339) cw_L_31 d_L_law_336 rfl rfl rfl (Nat.zero_add _).symm (Nat.zero_add _).symm rfl h (fun _ _ e => t_X7_scrap e) (fun x23 s22 h => ?_)
        refine r_aload_n (pc' := 340) d_L_law_339 rfl rfl rfl ?_
        refine r_aload_n (pc' := 341) d_L_law_340 rfl rfl rfl ?_
        refine r_iload_n (pc' := 342) d_L_law_341 rfl rfl rfl ?_
        refine r_iconst (pc' := 343) d_L_law_342 ci_1 rfl ?_
        refine r_iadd (pc' := 344) d_L_law_343 rfl ?_
        refine r_scload (pc' := 345) d_L_law_344 rfl h (fun h => ?_)
        refine v1_i (mc := mi_X8_scrap) (bc := (0, 0)) (b' := _) (pc' := 348) cw_L_35 d_L_law_345 rfl rfl rfl (Nat.zero_add _).symm (Nat.zero_add _).symm rfl h (fun _ _ e => t_X8_scrap e) (fun x25 s24 h => ?_)
        refine r_icmp_eq (pcT := 1142) (pc' := 351) d_L_law_348 rfl rfl h (fun _ h => ?_) (fun _ h => ?_)
        · exact WM.drop [] rfl (t_L_law_1142 (b0 := (6 * n, 45 * n)) (by refine ⟨?_, ?_⟩ <;> (dsimp only; omega)) ih h)
        · refine r_iconst (pc' := 352) d_L_law_351 ci_0 rfl ?_
          exact r_zret d_L_law_352 rfl (Or.inl rfl) h
      refine ite_c h (fun c26 h => ?_) (fun c26 h => ?_)
      · refine r_tswIn (c := 5) (off := 321) (pc' := 353) d_L_law_32 c26 (by decide) (by decide) (by decide) rfl ?_
        refine r_aload_n (pc' := 354) d_L_law_353 rfl rfl rfl ?_
        refine r_aload_n (pc' := 355) d_L_law_354 rfl rfl rfl ?_
        refine r_iload_n (pc' := 356) d_L_law_355 rfl rfl rfl ?_
        refine r_iconst (pc' := 357) d_L_law_356 ci_1 rfl ?_
        refine r_iadd (pc' := 358) d_L_law_357 rfl ?_
        refine r_scload (pc' := 359) d_L_law_358 rfl h (fun h => ?_)
        refine r_aload_n (pc' := 360) d_L_law_359 rfl rfl rfl ?_
        refine r_iload_n (pc' := 361) d_L_law_360 rfl rfl rfl ?_
        refine r_iconst (pc' := 362) d_L_law_361 ci_2 rfl ?_
        refine r_iadd (pc' := 363) d_L_law_362 rfl ?_
        refine r_scload (pc' := 364) d_L_law_363 rfl h (fun h => ?_)
        refine v2_i (mc := mi_X7_bound) (bc := (0, 0)) (b' := _) (pc' := 367) cw_L_36 d_L_law_364 rfl rfl rfl (Nat.zero_add _).symm (Nat.zero_add _).symm rfl h (fun _ _ e => t_X7_bound e) (fun x28 s27 h => ?_)
        refine r_aload_n (pc' := 368) d_L_law_367 rfl rfl rfl ?_
        refine r_aload_n (pc' := 369) d_L_law_368 rfl rfl rfl ?_
        refine r_iload_n (pc' := 370) d_L_law_369 rfl rfl rfl ?_
        refine r_iconst (pc' := 371) d_L_law_370 ci_1 rfl ?_
        refine r_iadd (pc' := 372) d_L_law_371 rfl ?_
        refine r_scload (pc' := 373) d_L_law_372 rfl h (fun h => ?_)
        refine r_aload_n (pc' := 374) d_L_law_373 rfl rfl rfl ?_
        refine r_iload_n (pc' := 375) d_L_law_374 rfl rfl rfl ?_
        refine r_iconst (pc' := 376) d_L_law_375 ci_2 rfl ?_
        refine r_iadd (pc' := 377) d_L_law_376 rfl ?_
        refine r_scload (pc' := 378) d_L_law_377 rfl h (fun h => ?_)
        refine v2_i (mc := mi_X8_bound) (bc := (0, 0)) (b' := _) (pc' := 381) cw_L_39 d_L_law_378 rfl rfl rfl (Nat.zero_add _).symm (Nat.zero_add _).symm rfl h (fun _ _ e => t_X8_bound e) (fun x30 s29 h => ?_)
        refine r_icmp_eq (pcT := 1142) (pc' := 384) d_L_law_381 rfl rfl h (fun _ h => ?_) (fun _ h => ?_)
        · exact WM.drop [] rfl (t_L_law_1142 (b0 := (6 * n, 45 * n)) (by refine ⟨?_, ?_⟩ <;> (dsimp only; omega)) ih h)
        · refine r_iconst (pc' := 385) d_L_law_384 ci_0 rfl ?_
          exact r_zret d_L_law_385 rfl (Or.inl rfl) h
      refine ite_c h (fun c31 h => ?_) (fun c31 h => ?_)
      · refine r_tswIn (c := 6) (off := 354) (pc' := 386) d_L_law_32 c31 (by decide) (by decide) (by decide) rfl ?_
        refine r_aload_n (pc' := 387) d_L_law_386 rfl rfl rfl ?_
        refine r_aload_n (pc' := 388) d_L_law_387 rfl rfl rfl ?_
        refine r_iload_n (pc' := 389) d_L_law_388 rfl rfl rfl ?_
        refine r_iconst (pc' := 390) d_L_law_389 ci_1 rfl ?_
        refine r_iadd (pc' := 391) d_L_law_390 rfl ?_
        refine r_scload (pc' := 392) d_L_law_391 rfl h (fun h => ?_)
        refine r_aload_n (pc' := 393) d_L_law_392 rfl rfl rfl ?_
        refine r_iload_n (pc' := 394) d_L_law_393 rfl rfl rfl ?_
        refine r_iconst (pc' := 395) d_L_law_394 ci_2 rfl ?_
        refine r_iadd (pc' := 396) d_L_law_395 rfl ?_
        refine r_scload (pc' := 397) d_L_law_396 rfl h (fun h => ?_)
        refine v2_i (mc := mi_X7_about) (bc := (0, 0)) (b' := _) (pc' := 400) cw_L_40 d_L_law_397 rfl rfl rfl (Nat.zero_add _).symm (Nat.zero_add _).symm rfl h (fun _ _ e => t_X7_about e) (fun x33 s32 h => ?_)
        refine r_aload_n (pc' := 401) d_L_law_400 rfl rfl rfl ?_
        refine r_aload_n (pc' := 402) d_L_law_401 rfl rfl rfl ?_
        refine r_iload_n (pc' := 403) d_L_law_402 rfl rfl rfl ?_
        refine r_iconst (pc' := 404) d_L_law_403 ci_1 rfl ?_
        refine r_iadd (pc' := 405) d_L_law_404 rfl ?_
        refine r_scload (pc' := 406) d_L_law_405 rfl h (fun h => ?_)
        refine r_aload_n (pc' := 407) d_L_law_406 rfl rfl rfl ?_
        refine r_iload_n (pc' := 408) d_L_law_407 rfl rfl rfl ?_
        refine r_iconst (pc' := 409) d_L_law_408 ci_2 rfl ?_
        refine r_iadd (pc' := 410) d_L_law_409 rfl ?_
        refine r_scload (pc' := 411) d_L_law_410 rfl h (fun h => ?_)
        refine v2_i (mc := mi_X8_about) (bc := (0, 0)) (b' := _) (pc' := 414) cw_L_43 d_L_law_411 rfl rfl rfl (Nat.zero_add _).symm (Nat.zero_add _).symm rfl h (fun _ _ e => t_X8_about e) (fun x35 s34 h => ?_)
        refine r_icmp_eq (pcT := 1142) (pc' := 417) d_L_law_414 rfl rfl h (fun _ h => ?_) (fun _ h => ?_)
        · exact WM.drop [] rfl (t_L_law_1142 (b0 := (6 * n, 45 * n)) (by refine ⟨?_, ?_⟩ <;> (dsimp only; omega)) ih h)
        · refine r_iconst (pc' := 418) d_L_law_417 ci_0 rfl ?_
          exact r_zret d_L_law_418 rfl (Or.inl rfl) h
      refine ite_c h (fun c36 h => ?_) (fun c36 h => ?_)
      · refine r_tswIn (c := 7) (off := 387) (pc' := 419) d_L_law_32 c36 (by decide) (by decide) (by decide) rfl ?_
        refine r_aload_n (pc' := 420) d_L_law_419 rfl rfl rfl ?_
        refine r_aload_n (pc' := 421) d_L_law_420 rfl rfl rfl ?_
        refine r_iload_n (pc' := 422) d_L_law_421 rfl rfl rfl ?_
        refine r_iconst (pc' := 423) d_L_law_422 ci_1 rfl ?_
        refine r_iadd (pc' := 424) d_L_law_423 rfl ?_
        refine r_scload (pc' := 425) d_L_law_424 rfl h (fun h => ?_)
        refine r_aload_n (pc' := 426) d_L_law_425 rfl rfl rfl ?_
        refine r_iload_n (pc' := 427) d_L_law_426 rfl rfl rfl ?_
        refine r_iconst (pc' := 428) d_L_law_427 ci_2 rfl ?_
        refine r_iadd (pc' := 429) d_L_law_428 rfl ?_
        refine r_scload (pc' := 430) d_L_law_429 rfl h (fun h => ?_)
        refine r_aload_n (pc' := 431) d_L_law_430 rfl rfl rfl ?_
        refine r_iload_n (pc' := 432) d_L_law_431 rfl rfl rfl ?_
        refine r_iconst (pc' := 433) d_L_law_432 ci_3 rfl ?_
        refine r_iadd (pc' := 434) d_L_law_433 rfl ?_
        refine r_scload (pc' := 435) d_L_law_434 rfl h (fun h => ?_)
        refine v3_i (mc := mi_X7_corner) (bc := (0, 0)) (b' := _) (pc' := 438) cw_L_44 d_L_law_435 rfl rfl rfl (Nat.zero_add _).symm (Nat.zero_add _).symm rfl h (fun _ _ e => t_X7_corner e) (fun x38 s37 h => ?_)
        refine r_aload_n (pc' := 439) d_L_law_438 rfl rfl rfl ?_
        refine r_aload_n (pc' := 440) d_L_law_439 rfl rfl rfl ?_
        refine r_iload_n (pc' := 441) d_L_law_440 rfl rfl rfl ?_
        refine r_iconst (pc' := 442) d_L_law_441 ci_1 rfl ?_
        refine r_iadd (pc' := 443) d_L_law_442 rfl ?_
        refine r_scload (pc' := 444) d_L_law_443 rfl h (fun h => ?_)
        refine r_aload_n (pc' := 445) d_L_law_444 rfl rfl rfl ?_
        refine r_iload_n (pc' := 446) d_L_law_445 rfl rfl rfl ?_
        refine r_iconst (pc' := 447) d_L_law_446 ci_2 rfl ?_
        refine r_iadd (pc' := 448) d_L_law_447 rfl ?_
        refine r_scload (pc' := 449) d_L_law_448 rfl h (fun h => ?_)
        refine r_aload_n (pc' := 450) d_L_law_449 rfl rfl rfl ?_
        refine r_iload_n (pc' := 451) d_L_law_450 rfl rfl rfl ?_
        refine r_iconst (pc' := 452) d_L_law_451 ci_3 rfl ?_
        refine r_iadd (pc' := 453) d_L_law_452 rfl ?_
        refine r_scload (pc' := 454) d_L_law_453 rfl h (fun h => ?_)
        refine v3_i (mc := mi_X8_corner) (bc := (0, 0)) (b' := _) (pc' := 457) cw_L_47 d_L_law_454 rfl rfl rfl (Nat.zero_add _).symm (Nat.zero_add _).symm rfl h (fun _ _ e => t_X8_corner e) (fun x40 s39 h => ?_)
        refine r_icmp_eq (pcT := 1142) (pc' := 460) d_L_law_457 rfl rfl h (fun _ h => ?_) (fun _ h => ?_)
        · exact WM.drop [] rfl (t_L_law_1142 (b0 := (6 * n, 45 * n)) (by refine ⟨?_, ?_⟩ <;> (dsimp only; omega)) ih h)
        · refine r_iconst (pc' := 461) d_L_law_460 ci_0 rfl ?_
          exact r_zret d_L_law_461 rfl (Or.inl rfl) h
      refine ite_c h (fun c41 h => ?_) (fun c41 h => ?_)
      · refine r_tswIn (c := 8) (off := 430) (pc' := 462) d_L_law_32 c41 (by decide) (by decide) (by decide) rfl ?_
        refine r_aload_n (pc' := 463) d_L_law_462 rfl rfl rfl ?_
        refine r_aload_n (pc' := 464) d_L_law_463 rfl rfl rfl ?_
        refine r_iload_n (pc' := 465) d_L_law_464 rfl rfl rfl ?_
        refine r_iconst (pc' := 466) d_L_law_465 ci_1 rfl ?_
        refine r_iadd (pc' := 467) d_L_law_466 rfl ?_
        refine r_scload (pc' := 468) d_L_law_467 rfl h (fun h => ?_)
        refine r_aload_n (pc' := 469) d_L_law_468 rfl rfl rfl ?_
        refine r_iload_n (pc' := 470) d_L_law_469 rfl rfl rfl ?_
        refine r_iconst (pc' := 471) d_L_law_470 ci_2 rfl ?_
        refine r_iadd (pc' := 472) d_L_law_471 rfl ?_
        refine r_scload (pc' := 473) d_L_law_472 rfl h (fun h => ?_)
        refine v2_i (mc := mi_X7_side) (bc := (0, 0)) (b' := _) (pc' := 476) cw_L_48 d_L_law_473 rfl rfl rfl (Nat.zero_add _).symm (Nat.zero_add _).symm rfl h (fun _ _ e => t_X7_side e) (fun x43 s42 h => ?_)
        refine r_aload_n (pc' := 477) d_L_law_476 rfl rfl rfl ?_
        refine r_aload_n (pc' := 478) d_L_law_477 rfl rfl rfl ?_
        refine r_iload_n (pc' := 479) d_L_law_478 rfl rfl rfl ?_
        refine r_iconst (pc' := 480) d_L_law_479 ci_1 rfl ?_
        refine r_iadd (pc' := 481) d_L_law_480 rfl ?_
        refine r_scload (pc' := 482) d_L_law_481 rfl h (fun h => ?_)
        refine r_aload_n (pc' := 483) d_L_law_482 rfl rfl rfl ?_
        refine r_iload_n (pc' := 484) d_L_law_483 rfl rfl rfl ?_
        refine r_iconst (pc' := 485) d_L_law_484 ci_2 rfl ?_
        refine r_iadd (pc' := 486) d_L_law_485 rfl ?_
        refine r_scload (pc' := 487) d_L_law_486 rfl h (fun h => ?_)
        refine v2_i (mc := mi_X8_side) (bc := (0, 0)) (b' := _) (pc' := 490) cw_L_51 d_L_law_487 rfl rfl rfl (Nat.zero_add _).symm (Nat.zero_add _).symm rfl h (fun _ _ e => t_X8_side e) (fun x45 s44 h => ?_)
        refine r_icmp_eq (pcT := 1142) (pc' := 493) d_L_law_490 rfl rfl h (fun _ h => ?_) (fun _ h => ?_)
        · exact WM.drop [] rfl (t_L_law_1142 (b0 := (6 * n, 45 * n)) (by refine ⟨?_, ?_⟩ <;> (dsimp only; omega)) ih h)
        · refine r_iconst (pc' := 494) d_L_law_493 ci_0 rfl ?_
          exact r_zret d_L_law_494 rfl (Or.inl rfl) h
      refine ite_c h (fun c46 h => ?_) (fun c46 h => ?_)
      · refine r_tswIn (c := 9) (off := 463) (pc' := 495) d_L_law_32 c46 (by decide) (by decide) (by decide) rfl ?_
        refine r_aload_n (pc' := 496) d_L_law_495 rfl rfl rfl ?_
        refine r_aload_n (pc' := 497) d_L_law_496 rfl rfl rfl ?_
        refine r_iload_n (pc' := 498) d_L_law_497 rfl rfl rfl ?_
        refine r_iconst (pc' := 499) d_L_law_498 ci_1 rfl ?_
        refine r_iadd (pc' := 500) d_L_law_499 rfl ?_
        refine r_scload (pc' := 501) d_L_law_500 rfl h (fun h => ?_)
        refine v1_i (mc := mi_X7_area) (bc := (0, 0)) (b' := _) (pc' := 504) cw_L_52 d_L_law_501 rfl rfl rfl (Nat.zero_add _).symm (Nat.zero_add _).symm rfl h (fun _ _ e => t_X7_area e) (fun x48 s47 h => ?_)
        refine r_aload_n (pc' := 505) d_L_law_504 rfl rfl rfl ?_
        refine r_aload_n (pc' := 506) d_L_law_505 rfl rfl rfl ?_
        refine r_iload_n (pc' := 507) d_L_law_506 rfl rfl rfl ?_
        refine r_iconst (pc' := 508) d_L_law_507 ci_1 rfl ?_
        refine r_iadd (pc' := 509) d_L_law_508 rfl ?_
        refine r_scload (pc' := 510) d_L_law_509 rfl h (fun h => ?_)
        refine v1_i (mc := mi_X8_area) (bc := (0, 0)) (b' := _) (pc' := 513) cw_L_55 d_L_law_510 rfl rfl rfl (Nat.zero_add _).symm (Nat.zero_add _).symm rfl h (fun _ _ e => t_X8_area e) (fun x50 s49 h => ?_)
        refine r_icmp_eq (pcT := 1142) (pc' := 516) d_L_law_513 rfl rfl h (fun _ h => ?_) (fun _ h => ?_)
        · exact WM.drop [] rfl (t_L_law_1142 (b0 := (6 * n, 45 * n)) (by refine ⟨?_, ?_⟩ <;> (dsimp only; omega)) ih h)
        · refine r_iconst (pc' := 517) d_L_law_516 ci_0 rfl ?_
          exact r_zret d_L_law_517 rfl (Or.inl rfl) h
      refine ite_c h (fun c51 h => ?_) (fun c51 h => ?_)
      · refine r_tswIn (c := 10) (off := 486) (pc' := 518) d_L_law_32 c51 (by decide) (by decide) (by decide) rfl ?_
        refine r_aload_n (pc' := 519) d_L_law_518 rfl rfl rfl ?_
        refine r_aload_n (pc' := 520) d_L_law_519 rfl rfl rfl ?_
        refine r_iload_n (pc' := 521) d_L_law_520 rfl rfl rfl ?_
        refine r_iconst (pc' := 522) d_L_law_521 ci_1 rfl ?_
        refine r_iadd (pc' := 523) d_L_law_522 rfl ?_
        refine r_scload (pc' := 524) d_L_law_523 rfl h (fun h => ?_)
        refine v1_l (mc := mi_X7_volume) (bc := (0, 0)) (b' := _) (pc' := 527) cw_L_56 d_L_law_524 rfl rfl rfl (Nat.zero_add _).symm (Nat.zero_add _).symm rfl h (fun _ _ e => t_X7_volume e) (fun x53 s52 h => ?_)
        refine r_aload_n (pc' := 528) d_L_law_527 rfl rfl rfl ?_
        refine r_aload_n (pc' := 529) d_L_law_528 rfl rfl rfl ?_
        refine r_iload_n (pc' := 530) d_L_law_529 rfl rfl rfl ?_
        refine r_iconst (pc' := 531) d_L_law_530 ci_1 rfl ?_
        refine r_iadd (pc' := 532) d_L_law_531 rfl ?_
        refine r_scload (pc' := 533) d_L_law_532 rfl h (fun h => ?_)
        refine v1_l (mc := mi_X8_volume) (bc := (0, 0)) (b' := _) (pc' := 536) cw_L_60 d_L_law_533 rfl rfl rfl (Nat.zero_add _).symm (Nat.zero_add _).symm rfl h (fun _ _ e => t_X8_volume e) (fun x55 s54 h => ?_)
        refine r_lcmp (pc' := 537) d_L_law_536 rfl ?_
        refine r_if_eq (pcT := 1142) (pc' := 540) d_L_law_537 rfl rfl h (fun _ h => ?_) (fun _ h => ?_)
        · exact WM.drop [] rfl (t_L_law_1142 (b0 := (6 * n, 45 * n)) (by refine ⟨?_, ?_⟩ <;> (dsimp only; omega)) ih h)
        · refine r_iconst (pc' := 541) d_L_law_540 ci_0 rfl ?_
          exact r_zret d_L_law_541 rfl (Or.inl rfl) h
      refine ite_c h (fun c56 h => ?_) (fun c56 h => ?_)
      · refine r_tswIn (c := 11) (off := 510) (pc' := 542) d_L_law_32 c56 (by decide) (by decide) (by decide) rfl ?_
        refine r_aload_n (pc' := 543) d_L_law_542 rfl rfl rfl ?_
        refine r_aload_n (pc' := 544) d_L_law_543 rfl rfl rfl ?_
        refine r_iload_n (pc' := 545) d_L_law_544 rfl rfl rfl ?_
        refine r_iconst (pc' := 546) d_L_law_545 ci_1 rfl ?_
        refine r_iadd (pc' := 547) d_L_law_546 rfl ?_
        refine r_scload (pc' := 548) d_L_law_547 rfl h (fun h => ?_)
        refine r_aload_n (pc' := 549) d_L_law_548 rfl rfl rfl ?_
        refine r_iload_n (pc' := 550) d_L_law_549 rfl rfl rfl ?_
        refine r_iconst (pc' := 551) d_L_law_550 ci_2 rfl ?_
        refine r_iadd (pc' := 552) d_L_law_551 rfl ?_
        refine r_scload (pc' := 553) d_L_law_552 rfl h (fun h => ?_)
        refine r_aload_n (pc' := 554) d_L_law_553 rfl rfl rfl ?_
        refine r_iload_n (pc' := 555) d_L_law_554 rfl rfl rfl ?_
        refine r_iconst (pc' := 556) d_L_law_555 ci_3 rfl ?_
        refine r_iadd (pc' := 557) d_L_law_556 rfl ?_
        refine r_scload (pc' := 558) d_L_law_557 rfl h (fun h => ?_)
        refine v3_i (mc := mi_X7_inside) (bc := (0, 0)) (b' := _) (pc' := 561) cw_L_61 d_L_law_558 rfl rfl rfl (Nat.zero_add _).symm (Nat.zero_add _).symm rfl h (fun _ _ e => t_X7_inside e) (fun x58 s57 h => ?_)
        refine r_aload_n (pc' := 562) d_L_law_561 rfl rfl rfl ?_
        refine r_aload_n (pc' := 563) d_L_law_562 rfl rfl rfl ?_
        refine r_iload_n (pc' := 564) d_L_law_563 rfl rfl rfl ?_
        refine r_iconst (pc' := 565) d_L_law_564 ci_1 rfl ?_
        refine r_iadd (pc' := 566) d_L_law_565 rfl ?_
        refine r_scload (pc' := 567) d_L_law_566 rfl h (fun h => ?_)
        refine r_aload_n (pc' := 568) d_L_law_567 rfl rfl rfl ?_
        refine r_iload_n (pc' := 569) d_L_law_568 rfl rfl rfl ?_
        refine r_iconst (pc' := 570) d_L_law_569 ci_2 rfl ?_
        refine r_iadd (pc' := 571) d_L_law_570 rfl ?_
        refine r_scload (pc' := 572) d_L_law_571 rfl h (fun h => ?_)
        refine r_aload_n (pc' := 573) d_L_law_572 rfl rfl rfl ?_
        refine r_iload_n (pc' := 574) d_L_law_573 rfl rfl rfl ?_
        refine r_iconst (pc' := 575) d_L_law_574 ci_3 rfl ?_
        refine r_iadd (pc' := 576) d_L_law_575 rfl ?_
        refine r_scload (pc' := 577) d_L_law_576 rfl h (fun h => ?_)
        refine v3_i (mc := mi_X8_inside) (bc := (0, 0)) (b' := _) (pc' := 580) cw_L_64 d_L_law_577 rfl rfl rfl (Nat.zero_add _).symm (Nat.zero_add _).symm rfl h (fun _ _ e => t_X8_inside e) (fun x60 s59 h => ?_)
        refine r_icmp_eq (pcT := 1142) (pc' := 583) d_L_law_580 rfl rfl h (fun _ h => ?_) (fun _ h => ?_)
        · exact WM.drop [] rfl (t_L_law_1142 (b0 := (6 * n, 45 * n)) (by refine ⟨?_, ?_⟩ <;> (dsimp only; omega)) ih h)
        · refine r_iconst (pc' := 584) d_L_law_583 ci_0 rfl ?_
          exact r_zret d_L_law_584 rfl (Or.inl rfl) h
      refine ite_c h (fun c61 h => ?_) (fun c61 h => ?_)
      · refine r_tswIn (c := 12) (off := 553) (pc' := 585) d_L_law_32 c61 (by decide) (by decide) (by decide) rfl ?_
        refine r_aload_n (pc' := 586) d_L_law_585 rfl rfl rfl ?_
        refine r_aload_n (pc' := 587) d_L_law_586 rfl rfl rfl ?_
        refine r_iload_n (pc' := 588) d_L_law_587 rfl rfl rfl ?_
        refine r_iconst (pc' := 589) d_L_law_588 ci_1 rfl ?_
        refine r_iadd (pc' := 590) d_L_law_589 rfl ?_
        refine r_scload (pc' := 591) d_L_law_590 rfl h (fun h => ?_)
        refine v1_i (mc := mi_X7_waste) (bc := (0, 0)) (b' := _) (pc' := 594) cw_L_65 d_L_law_591 rfl rfl rfl (Nat.zero_add _).symm (Nat.zero_add _).symm rfl h (fun _ _ e => t_X7_waste e) (fun x63 s62 h => ?_)
        refine r_aload_n (pc' := 595) d_L_law_594 rfl rfl rfl ?_
        refine r_aload_n (pc' := 596) d_L_law_595 rfl rfl rfl ?_
        refine r_iload_n (pc' := 597) d_L_law_596 rfl rfl rfl ?_
        refine r_iconst (pc' := 598) d_L_law_597 ci_1 rfl ?_
        refine r_iadd (pc' := 599) d_L_law_598 rfl ?_
        refine r_scload (pc' := 600) d_L_law_599 rfl h (fun h => ?_)
        refine v1_i (mc := mi_X8_waste) (bc := (0, 0)) (b' := _) (pc' := 603) cw_L_68 d_L_law_600 rfl rfl rfl (Nat.zero_add _).symm (Nat.zero_add _).symm rfl h (fun _ _ e => t_X8_waste e) (fun x65 s64 h => ?_)
        refine r_icmp_eq (pcT := 1142) (pc' := 606) d_L_law_603 rfl rfl h (fun _ h => ?_) (fun _ h => ?_)
        · exact WM.drop [] rfl (t_L_law_1142 (b0 := (6 * n, 45 * n)) (by refine ⟨?_, ?_⟩ <;> (dsimp only; omega)) ih h)
        · refine r_iconst (pc' := 607) d_L_law_606 ci_0 rfl ?_
          exact r_zret d_L_law_607 rfl (Or.inl rfl) h
      refine ite_c h (fun c66 h => ?_) (fun c66 h => ?_)
      · refine r_tswIn (c := 13) (off := 576) (pc' := 608) d_L_law_32 c66 (by decide) (by decide) (by decide) rfl ?_
        refine r_aload_n (pc' := 609) d_L_law_608 rfl rfl rfl ?_
        refine r_aload_n (pc' := 610) d_L_law_609 rfl rfl rfl ?_
        refine r_iload_n (pc' := 611) d_L_law_610 rfl rfl rfl ?_
        refine r_iconst (pc' := 612) d_L_law_611 ci_1 rfl ?_
        refine r_iadd (pc' := 613) d_L_law_612 rfl ?_
        refine r_scload (pc' := 614) d_L_law_613 rfl h (fun h => ?_)
        refine r_aload_n (pc' := 615) d_L_law_614 rfl rfl rfl ?_
        refine r_iload_n (pc' := 616) d_L_law_615 rfl rfl rfl ?_
        refine r_iconst (pc' := 617) d_L_law_616 ci_2 rfl ?_
        refine r_iadd (pc' := 618) d_L_law_617 rfl ?_
        refine r_scload (pc' := 619) d_L_law_618 rfl h (fun h => ?_)
        refine v2_i (mc := mi_X7_near) (bc := (0, 0)) (b' := _) (pc' := 622) cw_L_69 d_L_law_619 rfl rfl rfl (Nat.zero_add _).symm (Nat.zero_add _).symm rfl h (fun _ _ e => t_X7_near e) (fun x68 s67 h => ?_)
        refine r_aload_n (pc' := 623) d_L_law_622 rfl rfl rfl ?_
        refine r_aload_n (pc' := 624) d_L_law_623 rfl rfl rfl ?_
        refine r_iload_n (pc' := 625) d_L_law_624 rfl rfl rfl ?_
        refine r_iconst (pc' := 626) d_L_law_625 ci_1 rfl ?_
        refine r_iadd (pc' := 627) d_L_law_626 rfl ?_
        refine r_scload (pc' := 628) d_L_law_627 rfl h (fun h => ?_)
        refine r_aload_n (pc' := 629) d_L_law_628 rfl rfl rfl ?_
        refine r_iload_n (pc' := 630) d_L_law_629 rfl rfl rfl ?_
        refine r_iconst (pc' := 631) d_L_law_630 ci_2 rfl ?_
        refine r_iadd (pc' := 632) d_L_law_631 rfl ?_
        refine r_scload (pc' := 633) d_L_law_632 rfl h (fun h => ?_)
        refine v2_i (mc := mi_X8_near) (bc := (0, 0)) (b' := _) (pc' := 636) cw_L_72 d_L_law_633 rfl rfl rfl (Nat.zero_add _).symm (Nat.zero_add _).symm rfl h (fun _ _ e => t_X8_near e) (fun x70 s69 h => ?_)
        refine r_icmp_eq (pcT := 1142) (pc' := 639) d_L_law_636 rfl rfl h (fun _ h => ?_) (fun _ h => ?_)
        · exact WM.drop [] rfl (t_L_law_1142 (b0 := (6 * n, 45 * n)) (by refine ⟨?_, ?_⟩ <;> (dsimp only; omega)) ih h)
        · refine r_iconst (pc' := 640) d_L_law_639 ci_0 rfl ?_
          exact r_zret d_L_law_640 rfl (Or.inl rfl) h
      refine ite_c h (fun c71 h => ?_) (fun c71 h => ?_)
      · refine r_tswIn (c := 14) (off := 609) (pc' := 641) d_L_law_32 c71 (by decide) (by decide) (by decide) rfl ?_
        refine r_aload_n (pc' := 642) d_L_law_641 rfl rfl rfl ?_
        refine r_aload_n (pc' := 643) d_L_law_642 rfl rfl rfl ?_
        refine r_iload_n (pc' := 644) d_L_law_643 rfl rfl rfl ?_
        refine r_iconst (pc' := 645) d_L_law_644 ci_1 rfl ?_
        refine r_iadd (pc' := 646) d_L_law_645 rfl ?_
        refine r_scload (pc' := 647) d_L_law_646 rfl h (fun h => ?_)
        refine r_aload_n (pc' := 648) d_L_law_647 rfl rfl rfl ?_
        refine r_iload_n (pc' := 649) d_L_law_648 rfl rfl rfl ?_
        refine r_iconst (pc' := 650) d_L_law_649 ci_2 rfl ?_
        refine r_iadd (pc' := 651) d_L_law_650 rfl ?_
        refine r_scload (pc' := 652) d_L_law_651 rfl h (fun h => ?_)
        refine r_aload_n (pc' := 653) d_L_law_652 rfl rfl rfl ?_
        refine r_iload_n (pc' := 654) d_L_law_653 rfl rfl rfl ?_
        refine r_iconst (pc' := 655) d_L_law_654 ci_3 rfl ?_
        refine r_iadd (pc' := 656) d_L_law_655 rfl ?_
        refine r_scload (pc' := 657) d_L_law_656 rfl h (fun h => ?_)
        refine v3_i (mc := mi_X7_touch) (bc := (0, 0)) (b' := _) (pc' := 660) cw_L_73 d_L_law_657 rfl rfl rfl (Nat.zero_add _).symm (Nat.zero_add _).symm rfl h (fun _ _ e => t_X7_touch e) (fun x73 s72 h => ?_)
        refine r_aload_n (pc' := 661) d_L_law_660 rfl rfl rfl ?_
        refine r_aload_n (pc' := 662) d_L_law_661 rfl rfl rfl ?_
        refine r_iload_n (pc' := 663) d_L_law_662 rfl rfl rfl ?_
        refine r_iconst (pc' := 664) d_L_law_663 ci_1 rfl ?_
        refine r_iadd (pc' := 665) d_L_law_664 rfl ?_
        refine r_scload (pc' := 666) d_L_law_665 rfl h (fun h => ?_)
        refine r_aload_n (pc' := 667) d_L_law_666 rfl rfl rfl ?_
        refine r_iload_n (pc' := 668) d_L_law_667 rfl rfl rfl ?_
        refine r_iconst (pc' := 669) d_L_law_668 ci_2 rfl ?_
        refine r_iadd (pc' := 670) d_L_law_669 rfl ?_
        refine r_scload (pc' := 671) d_L_law_670 rfl h (fun h => ?_)
        refine r_aload_n (pc' := 672) d_L_law_671 rfl rfl rfl ?_
        refine r_iload_n (pc' := 673) d_L_law_672 rfl rfl rfl ?_
        refine r_iconst (pc' := 674) d_L_law_673 ci_3 rfl ?_
        refine r_iadd (pc' := 675) d_L_law_674 rfl ?_
        refine r_scload (pc' := 676) d_L_law_675 rfl h (fun h => ?_)
        refine v3_i (mc := mi_X8_touch) (bc := (0, 0)) (b' := _) (pc' := 679) cw_L_76 d_L_law_676 rfl rfl rfl (Nat.zero_add _).symm (Nat.zero_add _).symm rfl h (fun _ _ e => t_X8_touch e) (fun x75 s74 h => ?_)
        refine r_icmp_eq (pcT := 1142) (pc' := 682) d_L_law_679 rfl rfl h (fun _ h => ?_) (fun _ h => ?_)
        · exact WM.drop [] rfl (t_L_law_1142 (b0 := (6 * n, 45 * n)) (by refine ⟨?_, ?_⟩ <;> (dsimp only; omega)) ih h)
        · refine r_iconst (pc' := 683) d_L_law_682 ci_0 rfl ?_
          exact r_zret d_L_law_683 rfl (Or.inl rfl) h
      refine ite_c h (fun c76 h => ?_) (fun c76 h => ?_)
      · refine r_tswIn (c := 15) (off := 652) (pc' := 684) d_L_law_32 c76 (by decide) (by decide) (by decide) rfl ?_
        refine r_aload_n (pc' := 685) d_L_law_684 rfl rfl rfl ?_
        refine r_aload_n (pc' := 686) d_L_law_685 rfl rfl rfl ?_
        refine r_iload_n (pc' := 687) d_L_law_686 rfl rfl rfl ?_
        refine r_iconst (pc' := 688) d_L_law_687 ci_1 rfl ?_
        refine r_iadd (pc' := 689) d_L_law_688 rfl ?_
        refine r_scload (pc' := 690) d_L_law_689 rfl h (fun h => ?_)
        refine r_aload_n (pc' := 691) d_L_law_690 rfl rfl rfl ?_
        refine r_iload_n (pc' := 692) d_L_law_691 rfl rfl rfl ?_
        refine r_iconst (pc' := 693) d_L_law_692 ci_2 rfl ?_
        refine r_iadd (pc' := 694) d_L_law_693 rfl ?_
        refine r_scload (pc' := 695) d_L_law_694 rfl h (fun h => ?_)
        refine r_aload_n (pc' := 696) d_L_law_695 rfl rfl rfl ?_
        refine r_iload_n (pc' := 697) d_L_law_696 rfl rfl rfl ?_
        refine r_iconst (pc' := 698) d_L_law_697 ci_3 rfl ?_
        refine r_iadd (pc' := 699) d_L_law_698 rfl ?_
        refine r_scload (pc' := 700) d_L_law_699 rfl h (fun h => ?_)
        refine r_aload_n (pc' := 701) d_L_law_700 rfl rfl rfl ?_
        refine r_iload_n (pc' := 702) d_L_law_701 rfl rfl rfl ?_
        refine r_iconst (pc' := 703) d_L_law_702 ci_4 rfl ?_
        refine r_iadd (pc' := 704) d_L_law_703 rfl ?_
        refine r_scload (pc' := 705) d_L_law_704 rfl h (fun h => ?_)
        refine v4_i (mc := mi_X7_rule) (bc := (0, 0)) (b' := _) (pc' := 708) cw_L_77 d_L_law_705 rfl rfl rfl (Nat.zero_add _).symm (Nat.zero_add _).symm rfl h (fun _ _ e => t_X7_rule e) (fun x78 s77 h => ?_)
        refine r_aload_n (pc' := 709) d_L_law_708 rfl rfl rfl ?_
        refine r_aload_n (pc' := 710) d_L_law_709 rfl rfl rfl ?_
        refine r_iload_n (pc' := 711) d_L_law_710 rfl rfl rfl ?_
        refine r_iconst (pc' := 712) d_L_law_711 ci_1 rfl ?_
        refine r_iadd (pc' := 713) d_L_law_712 rfl ?_
        refine r_scload (pc' := 714) d_L_law_713 rfl h (fun h => ?_)
        refine r_aload_n (pc' := 715) d_L_law_714 rfl rfl rfl ?_
        refine r_iload_n (pc' := 716) d_L_law_715 rfl rfl rfl ?_
        refine r_iconst (pc' := 717) d_L_law_716 ci_2 rfl ?_
        refine r_iadd (pc' := 718) d_L_law_717 rfl ?_
        refine r_scload (pc' := 719) d_L_law_718 rfl h (fun h => ?_)
        refine r_aload_n (pc' := 720) d_L_law_719 rfl rfl rfl ?_
        refine r_iload_n (pc' := 721) d_L_law_720 rfl rfl rfl ?_
        refine r_iconst (pc' := 722) d_L_law_721 ci_3 rfl ?_
        refine r_iadd (pc' := 723) d_L_law_722 rfl ?_
        refine r_scload (pc' := 724) d_L_law_723 rfl h (fun h => ?_)
        refine r_aload_n (pc' := 725) d_L_law_724 rfl rfl rfl ?_
        refine r_iload_n (pc' := 726) d_L_law_725 rfl rfl rfl ?_
        refine r_iconst (pc' := 727) d_L_law_726 ci_4 rfl ?_
        refine r_iadd (pc' := 728) d_L_law_727 rfl ?_
        refine r_scload (pc' := 729) d_L_law_728 rfl h (fun h => ?_)
        refine v4_i (mc := mi_X8_rule) (bc := (0, 0)) (b' := _) (pc' := 732) cw_L_81 d_L_law_729 rfl rfl rfl (Nat.zero_add _).symm (Nat.zero_add _).symm rfl h (fun _ _ e => t_X8_rule e) (fun x80 s79 h => ?_)
        refine r_icmp_eq (pcT := 1142) (pc' := 735) d_L_law_732 rfl rfl h (fun _ h => ?_) (fun _ h => ?_)
        · exact WM.drop [] rfl (t_L_law_1142 (b0 := (6 * n, 45 * n)) (by refine ⟨?_, ?_⟩ <;> (dsimp only; omega)) ih h)
        · refine r_iconst (pc' := 736) d_L_law_735 ci_0 rfl ?_
          exact r_zret d_L_law_736 rfl (Or.inl rfl) h
      refine ite_c h (fun c81 h => ?_) (fun c81 h => ?_)
      · refine r_tswIn (c := 16) (off := 705) (pc' := 737) d_L_law_32 c81 (by decide) (by decide) (by decide) rfl ?_
        refine r_aload_n (pc' := 738) d_L_law_737 rfl rfl rfl ?_
        refine r_aload_n (pc' := 739) d_L_law_738 rfl rfl rfl ?_
        refine r_iload_n (pc' := 740) d_L_law_739 rfl rfl rfl ?_
        refine r_iconst (pc' := 741) d_L_law_740 ci_1 rfl ?_
        refine r_iadd (pc' := 742) d_L_law_741 rfl ?_
        refine r_scload (pc' := 743) d_L_law_742 rfl h (fun h => ?_)
        refine r_aload_n (pc' := 744) d_L_law_743 rfl rfl rfl ?_
        refine r_iload_n (pc' := 745) d_L_law_744 rfl rfl rfl ?_
        refine r_iconst (pc' := 746) d_L_law_745 ci_2 rfl ?_
        refine r_iadd (pc' := 747) d_L_law_746 rfl ?_
        refine r_scload (pc' := 748) d_L_law_747 rfl h (fun h => ?_)
        refine r_if_eq (pcT := 755) (pc' := 751) d_L_law_748 rfl rfl h (fun _ h => ?_) (fun _ h => ?_)
        · refine r_iconst (pc' := 756) d_L_law_755 ci_0 rfl ?_
          exact WM.drop [] rfl (t_L_law_756 (b0 := (6 * n, 45 * n)) (by refine ⟨?_, ?_⟩ <;> (dsimp only; omega)) ih h)
        · refine r_iconst (pc' := 752) d_L_law_751 ci_1 rfl ?_
          refine r_goto (pc' := 756) d_L_law_752 rfl ?_
          exact WM.drop [] rfl (t_L_law_756 (b0 := (6 * n, 45 * n)) (by refine ⟨?_, ?_⟩ <;> (dsimp only; omega)) ih h)
      refine ite_c h (fun c82 h => ?_) (fun c82 h => ?_)
      · refine r_tswIn (c := 17) (off := 754) (pc' := 786) d_L_law_32 c82 (by decide) (by decide) (by decide) rfl ?_
        refine r_aload_n (pc' := 787) d_L_law_786 rfl rfl rfl ?_
        refine r_aload_n (pc' := 788) d_L_law_787 rfl rfl rfl ?_
        refine r_iload_n (pc' := 789) d_L_law_788 rfl rfl rfl ?_
        refine r_iconst (pc' := 790) d_L_law_789 ci_1 rfl ?_
        refine r_iadd (pc' := 791) d_L_law_790 rfl ?_
        refine r_scload (pc' := 792) d_L_law_791 rfl h (fun h => ?_)
        refine r_aload_n (pc' := 793) d_L_law_792 rfl rfl rfl ?_
        refine r_iload_n (pc' := 794) d_L_law_793 rfl rfl rfl ?_
        refine r_iconst (pc' := 795) d_L_law_794 ci_2 rfl ?_
        refine r_iadd (pc' := 796) d_L_law_795 rfl ?_
        refine r_scload (pc' := 797) d_L_law_796 rfl h (fun h => ?_)
        refine r_aload_n (pc' := 798) d_L_law_797 rfl rfl rfl ?_
        refine r_iload_n (pc' := 799) d_L_law_798 rfl rfl rfl ?_
        refine r_iconst (pc' := 800) d_L_law_799 ci_3 rfl ?_
        refine r_iadd (pc' := 801) d_L_law_800 rfl ?_
        refine r_scload (pc' := 802) d_L_law_801 rfl h (fun h => ?_)
        refine v3_i (mc := mi_X7_above) (bc := (0, 0)) (b' := _) (pc' := 805) cw_L_87 d_L_law_802 rfl rfl rfl (Nat.zero_add _).symm (Nat.zero_add _).symm rfl h (fun _ _ e => t_X7_above e) (fun x84 s83 h => ?_)
        refine r_aload_n (pc' := 806) d_L_law_805 rfl rfl rfl ?_
        refine r_aload_n (pc' := 807) d_L_law_806 rfl rfl rfl ?_
        refine r_iload_n (pc' := 808) d_L_law_807 rfl rfl rfl ?_
        refine r_iconst (pc' := 809) d_L_law_808 ci_1 rfl ?_
        refine r_iadd (pc' := 810) d_L_law_809 rfl ?_
        refine r_scload (pc' := 811) d_L_law_810 rfl h (fun h => ?_)
        refine r_aload_n (pc' := 812) d_L_law_811 rfl rfl rfl ?_
        refine r_iload_n (pc' := 813) d_L_law_812 rfl rfl rfl ?_
        refine r_iconst (pc' := 814) d_L_law_813 ci_2 rfl ?_
        refine r_iadd (pc' := 815) d_L_law_814 rfl ?_
        refine r_scload (pc' := 816) d_L_law_815 rfl h (fun h => ?_)
        refine r_aload_n (pc' := 817) d_L_law_816 rfl rfl rfl ?_
        refine r_iload_n (pc' := 818) d_L_law_817 rfl rfl rfl ?_
        refine r_iconst (pc' := 819) d_L_law_818 ci_3 rfl ?_
        refine r_iadd (pc' := 820) d_L_law_819 rfl ?_
        refine r_scload (pc' := 821) d_L_law_820 rfl h (fun h => ?_)
        refine v3_i (mc := mi_X8_above) (bc := (0, 0)) (b' := _) (pc' := 824) cw_L_90 d_L_law_821 rfl rfl rfl (Nat.zero_add _).symm (Nat.zero_add _).symm rfl h (fun _ _ e => t_X8_above e) (fun x86 s85 h => ?_)
        refine r_icmp_eq (pcT := 1142) (pc' := 827) d_L_law_824 rfl rfl h (fun _ h => ?_) (fun _ h => ?_)
        · exact WM.drop [] rfl (t_L_law_1142 (b0 := (6 * n, 45 * n)) (by refine ⟨?_, ?_⟩ <;> (dsimp only; omega)) ih h)
        · refine r_iconst (pc' := 828) d_L_law_827 ci_0 rfl ?_
          exact r_zret d_L_law_828 rfl (Or.inl rfl) h
      refine ite_c h (fun c87 h => ?_) (fun c87 h => ?_)
      · refine r_tswIn (c := 18) (off := 797) (pc' := 829) d_L_law_32 c87 (by decide) (by decide) (by decide) rfl ?_
        refine r_aload_n (pc' := 830) d_L_law_829 rfl rfl rfl ?_
        refine r_aload_n (pc' := 831) d_L_law_830 rfl rfl rfl ?_
        refine r_iload_n (pc' := 832) d_L_law_831 rfl rfl rfl ?_
        refine r_iconst (pc' := 833) d_L_law_832 ci_1 rfl ?_
        refine r_iadd (pc' := 834) d_L_law_833 rfl ?_
        refine r_scload (pc' := 835) d_L_law_834 rfl h (fun h => ?_)
        refine r_aload_n (pc' := 836) d_L_law_835 rfl rfl rfl ?_
        refine r_iload_n (pc' := 837) d_L_law_836 rfl rfl rfl ?_
        refine r_iconst (pc' := 838) d_L_law_837 ci_2 rfl ?_
        refine r_iadd (pc' := 839) d_L_law_838 rfl ?_
        refine r_scload (pc' := 840) d_L_law_839 rfl h (fun h => ?_)
        refine v2_i (mc := mi_X7_treats) (bc := (0, 0)) (b' := _) (pc' := 843) cw_L_91 d_L_law_840 rfl rfl rfl (Nat.zero_add _).symm (Nat.zero_add _).symm rfl h (fun _ _ e => t_X7_treats e) (fun x89 s88 h => ?_)
        refine r_aload_n (pc' := 844) d_L_law_843 rfl rfl rfl ?_
        refine r_aload_n (pc' := 845) d_L_law_844 rfl rfl rfl ?_
        refine r_iload_n (pc' := 846) d_L_law_845 rfl rfl rfl ?_
        refine r_iconst (pc' := 847) d_L_law_846 ci_1 rfl ?_
        refine r_iadd (pc' := 848) d_L_law_847 rfl ?_
        refine r_scload (pc' := 849) d_L_law_848 rfl h (fun h => ?_)
        refine r_aload_n (pc' := 850) d_L_law_849 rfl rfl rfl ?_
        refine r_iload_n (pc' := 851) d_L_law_850 rfl rfl rfl ?_
        refine r_iconst (pc' := 852) d_L_law_851 ci_2 rfl ?_
        refine r_iadd (pc' := 853) d_L_law_852 rfl ?_
        refine r_scload (pc' := 854) d_L_law_853 rfl h (fun h => ?_)
        refine v2_i (mc := mi_X8_treats) (bc := (0, 0)) (b' := _) (pc' := 857) cw_L_94 d_L_law_854 rfl rfl rfl (Nat.zero_add _).symm (Nat.zero_add _).symm rfl h (fun _ _ e => t_X8_treats e) (fun x91 s90 h => ?_)
        refine r_icmp_eq (pcT := 1142) (pc' := 860) d_L_law_857 rfl rfl h (fun _ h => ?_) (fun _ h => ?_)
        · exact WM.drop [] rfl (t_L_law_1142 (b0 := (6 * n, 45 * n)) (by refine ⟨?_, ?_⟩ <;> (dsimp only; omega)) ih h)
        · refine r_iconst (pc' := 861) d_L_law_860 ci_0 rfl ?_
          exact r_zret d_L_law_861 rfl (Or.inl rfl) h
      refine ite_c h (fun c92 h => ?_) (fun c92 h => ?_)
      · refine r_tswIn (c := 19) (off := 830) (pc' := 862) d_L_law_32 c92 (by decide) (by decide) (by decide) rfl ?_
        refine r_aload_n (pc' := 863) d_L_law_862 rfl rfl rfl ?_
        refine v0_i (mc := mi_X7_undecided) (bc := (0, 0)) (b' := _) (pc' := 866) cw_L_95 d_L_law_863 rfl rfl rfl (Nat.zero_add _).symm (Nat.zero_add _).symm rfl h (fun _ _ e => t_X7_undecided e) (fun x94 s93 h => ?_)
        refine r_aload_n (pc' := 867) d_L_law_866 rfl rfl rfl ?_
        refine v0_i (mc := mi_X8_undecided) (bc := (0, 0)) (b' := _) (pc' := 870) cw_L_99 d_L_law_867 rfl rfl rfl (Nat.zero_add _).symm (Nat.zero_add _).symm rfl h (fun _ _ e => t_X8_undecided e) (fun x96 s95 h => ?_)
        refine r_icmp_eq (pcT := 1142) (pc' := 873) d_L_law_870 rfl rfl h (fun _ h => ?_) (fun _ h => ?_)
        · exact WM.drop [] rfl (t_L_law_1142 (b0 := (6 * n, 45 * n)) (by refine ⟨?_, ?_⟩ <;> (dsimp only; omega)) ih h)
        · refine r_iconst (pc' := 874) d_L_law_873 ci_0 rfl ?_
          exact r_zret d_L_law_874 rfl (Or.inl rfl) h
      refine ite_c h (fun c97 h => ?_) (fun c97 h => ?_)
      · refine r_tswIn (c := 20) (off := 843) (pc' := 875) d_L_law_32 c97 (by decide) (by decide) (by decide) rfl ?_
        refine r_aload_n (pc' := 876) d_L_law_875 rfl rfl rfl ?_
        refine r_aload_n (pc' := 877) d_L_law_876 rfl rfl rfl ?_
        refine r_iload_n (pc' := 878) d_L_law_877 rfl rfl rfl ?_
        refine r_iconst (pc' := 879) d_L_law_878 ci_1 rfl ?_
        refine r_iadd (pc' := 880) d_L_law_879 rfl ?_
        refine r_scload (pc' := 881) d_L_law_880 rfl h (fun h => ?_)
        refine r_aload_n (pc' := 882) d_L_law_881 rfl rfl rfl ?_
        refine r_iload_n (pc' := 883) d_L_law_882 rfl rfl rfl ?_
        refine r_iconst (pc' := 884) d_L_law_883 ci_2 rfl ?_
        refine r_iadd (pc' := 885) d_L_law_884 rfl ?_
        refine r_scload (pc' := 886) d_L_law_885 rfl h (fun h => ?_)
        refine v2_i (mc := mi_X7_meet) (bc := (0, 0)) (b' := _) (pc' := 889) cw_L_100 d_L_law_886 rfl rfl rfl (Nat.zero_add _).symm (Nat.zero_add _).symm rfl h (fun _ _ e => t_X7_meet e) (fun x99 s98 h => ?_)
        refine r_aload_n (pc' := 890) d_L_law_889 rfl rfl rfl ?_
        refine r_aload_n (pc' := 891) d_L_law_890 rfl rfl rfl ?_
        refine r_iload_n (pc' := 892) d_L_law_891 rfl rfl rfl ?_
        refine r_iconst (pc' := 893) d_L_law_892 ci_1 rfl ?_
        refine r_iadd (pc' := 894) d_L_law_893 rfl ?_
        refine r_scload (pc' := 895) d_L_law_894 rfl h (fun h => ?_)
        refine r_aload_n (pc' := 896) d_L_law_895 rfl rfl rfl ?_
        refine r_iload_n (pc' := 897) d_L_law_896 rfl rfl rfl ?_
        refine r_iconst (pc' := 898) d_L_law_897 ci_2 rfl ?_
        refine r_iadd (pc' := 899) d_L_law_898 rfl ?_
        refine r_scload (pc' := 900) d_L_law_899 rfl h (fun h => ?_)
        refine v2_i (mc := mi_X8_meet) (bc := (0, 0)) (b' := _) (pc' := 903) cw_L_103 d_L_law_900 rfl rfl rfl (Nat.zero_add _).symm (Nat.zero_add _).symm rfl h (fun _ _ e => t_X8_meet e) (fun x101 s100 h => ?_)
        refine r_icmp_eq (pcT := 1142) (pc' := 906) d_L_law_903 rfl rfl h (fun _ h => ?_) (fun _ h => ?_)
        · exact WM.drop [] rfl (t_L_law_1142 (b0 := (6 * n, 45 * n)) (by refine ⟨?_, ?_⟩ <;> (dsimp only; omega)) ih h)
        · refine r_iconst (pc' := 907) d_L_law_906 ci_0 rfl ?_
          exact r_zret d_L_law_907 rfl (Or.inl rfl) h
      refine ite_c h (fun c102 h => ?_) (fun c102 h => ?_)
      · refine r_tswIn (c := 21) (off := 876) (pc' := 908) d_L_law_32 c102 (by decide) (by decide) (by decide) rfl ?_
        refine r_aload_n (pc' := 909) d_L_law_908 rfl rfl rfl ?_
        refine v0_i (mc := mi_X7_assembly) (bc := (3, 45)) (b' := (6 * n + 3, 45 * n)) (pc' := 912) cw_L_104 d_L_law_909 rfl rfl rfl (by show 6 * (n + 1) = _; omega) (by show 45 * (n + 1) = _; omega) rfl h (fun _ _ e => t_X7_assembly e) (fun x104 s103 h => ?_)
        refine r_aload_n (pc' := 913) d_L_law_912 rfl rfl rfl ?_
        refine v0_i (mc := mi_X8_assembly) (bc := (0, 0)) (b' := _) (pc' := 916) cw_L_107 d_L_law_913 rfl rfl rfl (Nat.zero_add _).symm (Nat.zero_add _).symm rfl h (fun _ _ e => t_X8_assembly e) (fun x106 s105 h => ?_)
        refine r_icmp_eq (pcT := 1142) (pc' := 919) d_L_law_916 rfl rfl h (fun _ h => ?_) (fun _ h => ?_)
        · exact WM.drop [] rfl (t_L_law_1142 (b0 := (6 * n, 45 * n)) (by refine ⟨?_, ?_⟩ <;> (dsimp only; omega)) ih h)
        · refine r_iconst (pc' := 920) d_L_law_919 ci_0 rfl ?_
          exact r_zret d_L_law_920 rfl (Or.inl rfl) h
      refine ite_c h (fun c107 h => ?_) (fun c107 h => ?_)
      · refine r_tswIn (c := 22) (off := 889) (pc' := 921) d_L_law_32 c107 (by decide) (by decide) (by decide) rfl ?_
        refine r_aload_n (pc' := 922) d_L_law_921 rfl rfl rfl ?_
        refine r_aload_n (pc' := 923) d_L_law_922 rfl rfl rfl ?_
        refine r_iload_n (pc' := 924) d_L_law_923 rfl rfl rfl ?_
        refine r_iconst (pc' := 925) d_L_law_924 ci_1 rfl ?_
        refine r_iadd (pc' := 926) d_L_law_925 rfl ?_
        refine r_scload (pc' := 927) d_L_law_926 rfl h (fun h => ?_)
        refine r_aload_n (pc' := 928) d_L_law_927 rfl rfl rfl ?_
        refine r_iload_n (pc' := 929) d_L_law_928 rfl rfl rfl ?_
        refine r_iconst (pc' := 930) d_L_law_929 ci_2 rfl ?_
        refine r_iadd (pc' := 931) d_L_law_930 rfl ?_
        refine r_scload (pc' := 932) d_L_law_931 rfl h (fun h => ?_)
        refine r_aload_n (pc' := 933) d_L_law_932 rfl rfl rfl ?_
        refine r_iload_n (pc' := 934) d_L_law_933 rfl rfl rfl ?_
        refine r_iconst (pc' := 935) d_L_law_934 ci_3 rfl ?_
        refine r_iadd (pc' := 936) d_L_law_935 rfl ?_
        refine r_scload (pc' := 937) d_L_law_936 rfl h (fun h => ?_)
        refine r_if_eq (pcT := 944) (pc' := 940) d_L_law_937 rfl rfl h (fun _ h => ?_) (fun _ h => ?_)
        · refine r_iconst (pc' := 945) d_L_law_944 ci_0 rfl ?_
          exact WM.drop [] rfl (t_L_law_945 (b0 := (6 * n, 45 * n)) (by refine ⟨?_, ?_⟩ <;> (dsimp only; omega)) ih h)
        · refine r_iconst (pc' := 941) d_L_law_940 ci_1 rfl ?_
          refine r_goto (pc' := 945) d_L_law_941 rfl ?_
          exact WM.drop [] rfl (t_L_law_945 (b0 := (6 * n, 45 * n)) (by refine ⟨?_, ?_⟩ <;> (dsimp only; omega)) ih h)
      refine ite_c h (fun c108 h => ?_) (fun c108 h => ?_)
      · refine r_tswIn (c := 23) (off := 948) (pc' := 980) d_L_law_32 c108 (by decide) (by decide) (by decide) rfl ?_
        refine r_aload_n (pc' := 981) d_L_law_980 rfl rfl rfl ?_
        refine r_aload_n (pc' := 982) d_L_law_981 rfl rfl rfl ?_
        refine r_iload_n (pc' := 983) d_L_law_982 rfl rfl rfl ?_
        refine r_iconst (pc' := 984) d_L_law_983 ci_1 rfl ?_
        refine r_iadd (pc' := 985) d_L_law_984 rfl ?_
        refine r_scload (pc' := 986) d_L_law_985 rfl h (fun h => ?_)
        refine v1_i (mc := mi_X7_walked) (bc := (0, 0)) (b' := _) (pc' := 989) cw_L_113 d_L_law_986 rfl rfl rfl (Nat.zero_add _).symm (Nat.zero_add _).symm rfl h (fun _ _ e => t_X7_walked e) (fun x110 s109 h => ?_)
        refine r_aload_n (pc' := 990) d_L_law_989 rfl rfl rfl ?_
        refine r_aload_n (pc' := 991) d_L_law_990 rfl rfl rfl ?_
        refine r_iload_n (pc' := 992) d_L_law_991 rfl rfl rfl ?_
        refine r_iconst (pc' := 993) d_L_law_992 ci_1 rfl ?_
        refine r_iadd (pc' := 994) d_L_law_993 rfl ?_
        refine r_scload (pc' := 995) d_L_law_994 rfl h (fun h => ?_)
        refine v1_i (mc := mi_X8_walked) (bc := (0, 0)) (b' := _) (pc' := 998) cw_L_116 d_L_law_995 rfl rfl rfl (Nat.zero_add _).symm (Nat.zero_add _).symm rfl h (fun _ _ e => t_X8_walked e) (fun x112 s111 h => ?_)
        refine r_icmp_eq (pcT := 1142) (pc' := 1001) d_L_law_998 rfl rfl h (fun _ h => ?_) (fun _ h => ?_)
        · exact WM.drop [] rfl (t_L_law_1142 (b0 := (6 * n, 45 * n)) (by refine ⟨?_, ?_⟩ <;> (dsimp only; omega)) ih h)
        · refine r_iconst (pc' := 1002) d_L_law_1001 ci_0 rfl ?_
          exact r_zret d_L_law_1002 rfl (Or.inl rfl) h
      refine ite_c h (fun c113 h => ?_) (fun c113 h => ?_)
      · refine r_tswIn (c := 24) (off := 971) (pc' := 1003) d_L_law_32 c113 (by decide) (by decide) (by decide) rfl ?_
        refine r_aload_n (pc' := 1004) d_L_law_1003 rfl rfl rfl ?_
        refine r_aload_n (pc' := 1005) d_L_law_1004 rfl rfl rfl ?_
        refine r_iload_n (pc' := 1006) d_L_law_1005 rfl rfl rfl ?_
        refine r_iconst (pc' := 1007) d_L_law_1006 ci_1 rfl ?_
        refine r_iadd (pc' := 1008) d_L_law_1007 rfl ?_
        refine r_scload (pc' := 1009) d_L_law_1008 rfl h (fun h => ?_)
        refine r_aload_n (pc' := 1010) d_L_law_1009 rfl rfl rfl ?_
        refine r_iload_n (pc' := 1011) d_L_law_1010 rfl rfl rfl ?_
        refine r_iconst (pc' := 1012) d_L_law_1011 ci_2 rfl ?_
        refine r_iadd (pc' := 1013) d_L_law_1012 rfl ?_
        refine r_scload (pc' := 1014) d_L_law_1013 rfl h (fun h => ?_)
        refine v2_i (mc := mi_X7_walk) (bc := (0, 0)) (b' := _) (pc' := 1017) cw_L_117 d_L_law_1014 rfl rfl rfl (Nat.zero_add _).symm (Nat.zero_add _).symm rfl h (fun _ _ e => t_X7_walk e) (fun x115 s114 h => ?_)
        refine r_aload_n (pc' := 1018) d_L_law_1017 rfl rfl rfl ?_
        refine r_aload_n (pc' := 1019) d_L_law_1018 rfl rfl rfl ?_
        refine r_iload_n (pc' := 1020) d_L_law_1019 rfl rfl rfl ?_
        refine r_iconst (pc' := 1021) d_L_law_1020 ci_1 rfl ?_
        refine r_iadd (pc' := 1022) d_L_law_1021 rfl ?_
        refine r_scload (pc' := 1023) d_L_law_1022 rfl h (fun h => ?_)
        refine r_aload_n (pc' := 1024) d_L_law_1023 rfl rfl rfl ?_
        refine r_iload_n (pc' := 1025) d_L_law_1024 rfl rfl rfl ?_
        refine r_iconst (pc' := 1026) d_L_law_1025 ci_2 rfl ?_
        refine r_iadd (pc' := 1027) d_L_law_1026 rfl ?_
        refine r_scload (pc' := 1028) d_L_law_1027 rfl h (fun h => ?_)
        refine v2_i (mc := mi_X8_walk) (bc := (0, 0)) (b' := _) (pc' := 1031) cw_L_120 d_L_law_1028 rfl rfl rfl (Nat.zero_add _).symm (Nat.zero_add _).symm rfl h (fun _ _ e => t_X8_walk e) (fun x117 s116 h => ?_)
        refine r_icmp_eq (pcT := 1142) (pc' := 1034) d_L_law_1031 rfl rfl h (fun _ h => ?_) (fun _ h => ?_)
        · exact WM.drop [] rfl (t_L_law_1142 (b0 := (6 * n, 45 * n)) (by refine ⟨?_, ?_⟩ <;> (dsimp only; omega)) ih h)
        · refine r_iconst (pc' := 1035) d_L_law_1034 ci_0 rfl ?_
          exact r_zret d_L_law_1035 rfl (Or.inl rfl) h
      refine ite_c h (fun c118 h => ?_) (fun c118 h => ?_)
      · refine r_tswIn (c := 25) (off := 1004) (pc' := 1036) d_L_law_32 c118 (by decide) (by decide) (by decide) rfl ?_
        refine r_aload_n (pc' := 1037) d_L_law_1036 rfl rfl rfl ?_
        refine r_aload_n (pc' := 1038) d_L_law_1037 rfl rfl rfl ?_
        refine r_iload_n (pc' := 1039) d_L_law_1038 rfl rfl rfl ?_
        refine r_iconst (pc' := 1040) d_L_law_1039 ci_1 rfl ?_
        refine r_iadd (pc' := 1041) d_L_law_1040 rfl ?_
        refine r_scload (pc' := 1042) d_L_law_1041 rfl h (fun h => ?_)
        refine v1_l (mc := mi_X7_weight) (bc := (0, 0)) (b' := _) (pc' := 1045) cw_L_121 d_L_law_1042 rfl rfl rfl (Nat.zero_add _).symm (Nat.zero_add _).symm rfl h (fun _ _ e => t_X7_weight e) (fun x120 s119 h => ?_)
        refine r_aload_n (pc' := 1046) d_L_law_1045 rfl rfl rfl ?_
        refine r_aload_n (pc' := 1047) d_L_law_1046 rfl rfl rfl ?_
        refine r_iload_n (pc' := 1048) d_L_law_1047 rfl rfl rfl ?_
        refine r_iconst (pc' := 1049) d_L_law_1048 ci_1 rfl ?_
        refine r_iadd (pc' := 1050) d_L_law_1049 rfl ?_
        refine r_scload (pc' := 1051) d_L_law_1050 rfl h (fun h => ?_)
        refine v1_l (mc := mi_X8_weight) (bc := (0, 0)) (b' := _) (pc' := 1054) cw_L_124 d_L_law_1051 rfl rfl rfl (Nat.zero_add _).symm (Nat.zero_add _).symm rfl h (fun _ _ e => t_X8_weight e) (fun x122 s121 h => ?_)
        refine r_lcmp (pc' := 1055) d_L_law_1054 rfl ?_
        refine r_if_eq (pcT := 1142) (pc' := 1058) d_L_law_1055 rfl rfl h (fun _ h => ?_) (fun _ h => ?_)
        · exact WM.drop [] rfl (t_L_law_1142 (b0 := (6 * n, 45 * n)) (by refine ⟨?_, ?_⟩ <;> (dsimp only; omega)) ih h)
        · refine r_iconst (pc' := 1059) d_L_law_1058 ci_0 rfl ?_
          exact r_zret d_L_law_1059 rfl (Or.inl rfl) h
      refine ite_c h (fun c123 h => ?_) (fun c123 h => ?_)
      · refine r_tswIn (c := 26) (off := 1028) (pc' := 1060) d_L_law_32 c123 (by decide) (by decide) (by decide) rfl ?_
        refine r_aload_n (pc' := 1061) d_L_law_1060 rfl rfl rfl ?_
        refine r_aload_n (pc' := 1062) d_L_law_1061 rfl rfl rfl ?_
        refine r_iload_n (pc' := 1063) d_L_law_1062 rfl rfl rfl ?_
        refine r_iconst (pc' := 1064) d_L_law_1063 ci_1 rfl ?_
        refine r_iadd (pc' := 1065) d_L_law_1064 rfl ?_
        refine r_scload (pc' := 1066) d_L_law_1065 rfl h (fun h => ?_)
        refine v1_i (mc := mi_X7_price) (bc := (0, 0)) (b' := _) (pc' := 1069) cw_L_125 d_L_law_1066 rfl rfl rfl (Nat.zero_add _).symm (Nat.zero_add _).symm rfl h (fun _ _ e => t_X7_price e) (fun x125 s124 h => ?_)
        refine r_aload_n (pc' := 1070) d_L_law_1069 rfl rfl rfl ?_
        refine r_aload_n (pc' := 1071) d_L_law_1070 rfl rfl rfl ?_
        refine r_iload_n (pc' := 1072) d_L_law_1071 rfl rfl rfl ?_
        refine r_iconst (pc' := 1073) d_L_law_1072 ci_1 rfl ?_
        refine r_iadd (pc' := 1074) d_L_law_1073 rfl ?_
        refine r_scload (pc' := 1075) d_L_law_1074 rfl h (fun h => ?_)
        refine v1_i (mc := mi_X8_price) (bc := (0, 0)) (b' := _) (pc' := 1078) cw_L_128 d_L_law_1075 rfl rfl rfl (Nat.zero_add _).symm (Nat.zero_add _).symm rfl h (fun _ _ e => t_X8_price e) (fun x127 s126 h => ?_)
        refine r_icmp_eq (pcT := 1142) (pc' := 1081) d_L_law_1078 rfl rfl h (fun _ h => ?_) (fun _ h => ?_)
        · exact WM.drop [] rfl (t_L_law_1142 (b0 := (6 * n, 45 * n)) (by refine ⟨?_, ?_⟩ <;> (dsimp only; omega)) ih h)
        · refine r_iconst (pc' := 1082) d_L_law_1081 ci_0 rfl ?_
          exact r_zret d_L_law_1082 rfl (Or.inl rfl) h
      refine ite_c h (fun c128 h => ?_) (fun c128 h => ?_)
      · refine r_tswIn (c := 27) (off := 1051) (pc' := 1083) d_L_law_32 c128 (by decide) (by decide) (by decide) rfl ?_
        refine r_aload_n (pc' := 1084) d_L_law_1083 rfl rfl rfl ?_
        refine r_aload_n (pc' := 1085) d_L_law_1084 rfl rfl rfl ?_
        refine r_iload_n (pc' := 1086) d_L_law_1085 rfl rfl rfl ?_
        refine r_iconst (pc' := 1087) d_L_law_1086 ci_1 rfl ?_
        refine r_iadd (pc' := 1088) d_L_law_1087 rfl ?_
        refine r_scload (pc' := 1089) d_L_law_1088 rfl h (fun h => ?_)
        refine v1_i (mc := mi_X7_check) (bc := (0, 0)) (b' := _) (pc' := 1092) cw_L_129 d_L_law_1089 rfl rfl rfl (Nat.zero_add _).symm (Nat.zero_add _).symm rfl h (fun _ _ e => t_X7_check e) (fun x130 s129 h => ?_)
        refine r_aload_n (pc' := 1093) d_L_law_1092 rfl rfl rfl ?_
        refine r_aload_n (pc' := 1094) d_L_law_1093 rfl rfl rfl ?_
        refine r_iload_n (pc' := 1095) d_L_law_1094 rfl rfl rfl ?_
        refine r_iconst (pc' := 1096) d_L_law_1095 ci_1 rfl ?_
        refine r_iadd (pc' := 1097) d_L_law_1096 rfl ?_
        refine r_scload (pc' := 1098) d_L_law_1097 rfl h (fun h => ?_)
        refine v1_i (mc := mi_X8_check) (bc := (0, 0)) (b' := _) (pc' := 1101) cw_L_132 d_L_law_1098 rfl rfl rfl (Nat.zero_add _).symm (Nat.zero_add _).symm rfl h (fun _ _ e => t_X8_check e) (fun x132 s131 h => ?_)
        refine r_icmp_eq (pcT := 1142) (pc' := 1104) d_L_law_1101 rfl rfl h (fun _ h => ?_) (fun _ h => ?_)
        · exact WM.drop [] rfl (t_L_law_1142 (b0 := (6 * n, 45 * n)) (by refine ⟨?_, ?_⟩ <;> (dsimp only; omega)) ih h)
        · refine r_iconst (pc' := 1105) d_L_law_1104 ci_0 rfl ?_
          exact r_zret d_L_law_1105 rfl (Or.inl rfl) h
      refine ite_c h (fun c133 h => ?_) (fun c133 h => ?_)
      · refine r_tswIn (c := 28) (off := 1074) (pc' := 1106) d_L_law_32 c133 (by decide) (by decide) (by decide) rfl ?_
        refine r_aload_n (pc' := 1107) d_L_law_1106 rfl rfl rfl ?_
        refine v0_i (mc := mi_X7_undo) (bc := (0, 0)) (b' := _) (pc' := 1110) cw_L_133 d_L_law_1107 rfl rfl rfl (Nat.zero_add _).symm (Nat.zero_add _).symm rfl h (fun _ _ e => t_X7_undo e) (fun x135 s134 h => ?_)
        refine r_aload_n (pc' := 1111) d_L_law_1110 rfl rfl rfl ?_
        refine v0_i (mc := mi_X8_undo) (bc := (0, 0)) (b' := _) (pc' := 1114) cw_L_136 d_L_law_1111 rfl rfl rfl (Nat.zero_add _).symm (Nat.zero_add _).symm rfl h (fun _ _ e => t_X8_undo e) (fun x137 s136 h => ?_)
        refine r_icmp_eq (pcT := 1142) (pc' := 1117) d_L_law_1114 rfl rfl h (fun _ h => ?_) (fun _ h => ?_)
        · exact WM.drop [] rfl (t_L_law_1142 (b0 := (6 * n, 45 * n)) (by refine ⟨?_, ?_⟩ <;> (dsimp only; omega)) ih h)
        · refine r_iconst (pc' := 1118) d_L_law_1117 ci_0 rfl ?_
          exact r_zret d_L_law_1118 rfl (Or.inl rfl) h
      refine ite_c h (fun c138 h => ?_) (fun c138 h => ?_)
      · refine r_tswIn (c := 29) (off := 1087) (pc' := 1119) d_L_law_32 c138 (by decide) (by decide) (by decide) rfl ?_
        refine r_aload_n (pc' := 1120) d_L_law_1119 rfl rfl rfl ?_
        refine r_aload_n (pc' := 1121) d_L_law_1120 rfl rfl rfl ?_
        refine r_iload_n (pc' := 1122) d_L_law_1121 rfl rfl rfl ?_
        refine r_iconst (pc' := 1123) d_L_law_1122 ci_1 rfl ?_
        refine r_iadd (pc' := 1124) d_L_law_1123 rfl ?_
        refine r_scload (pc' := 1125) d_L_law_1124 rfl h (fun h => ?_)
        refine v1_i (mc := mi_X7_count) (bc := (0, 0)) (b' := _) (pc' := 1128) cw_L_137 d_L_law_1125 rfl rfl rfl (Nat.zero_add _).symm (Nat.zero_add _).symm rfl h (fun _ _ e => t_X7_count e) (fun x140 s139 h => ?_)
        refine r_aload_n (pc' := 1129) d_L_law_1128 rfl rfl rfl ?_
        refine r_aload_n (pc' := 1130) d_L_law_1129 rfl rfl rfl ?_
        refine r_iload_n (pc' := 1131) d_L_law_1130 rfl rfl rfl ?_
        refine r_iconst (pc' := 1132) d_L_law_1131 ci_1 rfl ?_
        refine r_iadd (pc' := 1133) d_L_law_1132 rfl ?_
        refine r_scload (pc' := 1134) d_L_law_1133 rfl h (fun h => ?_)
        refine v1_i (mc := mi_X8_count) (bc := (0, 0)) (b' := _) (pc' := 1137) cw_L_140 d_L_law_1134 rfl rfl rfl (Nat.zero_add _).symm (Nat.zero_add _).symm rfl h (fun _ _ e => t_X8_count e) (fun x142 s141 h => ?_)
        refine r_icmp_eq (pcT := 1142) (pc' := 1140) d_L_law_1137 rfl rfl h (fun _ h => ?_) (fun _ h => ?_)
        · exact WM.drop [] rfl (t_L_law_1142 (b0 := (6 * n, 45 * n)) (by refine ⟨?_, ?_⟩ <;> (dsimp only; omega)) ih h)
        · refine r_iconst (pc' := 1141) d_L_law_1140 ci_0 rfl ?_
          exact r_zret d_L_law_1141 rfl (Or.inl rfl) h
      have g0 := lv_neT c1 (show (0 : Int32).toInt = 0 by decide)
      have g1 := lv_neT c6 (show (1 : Int32).toInt = 1 by decide)
      have g2 := lv_neT c11 (show (2 : Int32).toInt = 2 by decide)
      have g3 := lv_neT c16 (show (3 : Int32).toInt = 3 by decide)
      have g4 := lv_neT c21 (show (4 : Int32).toInt = 4 by decide)
      have g5 := lv_neT c26 (show (5 : Int32).toInt = 5 by decide)
      have g6 := lv_neT c31 (show (6 : Int32).toInt = 6 by decide)
      have g7 := lv_neT c36 (show (7 : Int32).toInt = 7 by decide)
      have g8 := lv_neT c41 (show (8 : Int32).toInt = 8 by decide)
      have g9 := lv_neT c46 (show (9 : Int32).toInt = 9 by decide)
      have g10 := lv_neT c51 (show (10 : Int32).toInt = 10 by decide)
      have g11 := lv_neT c56 (show (11 : Int32).toInt = 11 by decide)
      have g12 := lv_neT c61 (show (12 : Int32).toInt = 12 by decide)
      have g13 := lv_neT c66 (show (13 : Int32).toInt = 13 by decide)
      have g14 := lv_neT c71 (show (14 : Int32).toInt = 14 by decide)
      have g15 := lv_neT c76 (show (15 : Int32).toInt = 15 by decide)
      have g16 := lv_neT c81 (show (16 : Int32).toInt = 16 by decide)
      have g17 := lv_neT c82 (show (17 : Int32).toInt = 17 by decide)
      have g18 := lv_neT c87 (show (18 : Int32).toInt = 18 by decide)
      have g19 := lv_neT c92 (show (19 : Int32).toInt = 19 by decide)
      have g20 := lv_neT c97 (show (20 : Int32).toInt = 20 by decide)
      have g21 := lv_neT c102 (show (21 : Int32).toInt = 21 by decide)
      have g22 := lv_neT c107 (show (22 : Int32).toInt = 22 by decide)
      have g23 := lv_neT c108 (show (23 : Int32).toInt = 23 by decide)
      have g24 := lv_neT c113 (show (24 : Int32).toInt = 24 by decide)
      have g25 := lv_neT c118 (show (25 : Int32).toInt = 25 by decide)
      have g26 := lv_neT c123 (show (26 : Int32).toInt = 26 by decide)
      have g27 := lv_neT c128 (show (27 : Int32).toInt = 27 by decide)
      have g28 := lv_neT c133 (show (28 : Int32).toInt = 28 by decide)
      have g29 := lv_neT c138 (show (29 : Int32).toInt = 29 by decide)
      refine r_tswOut (pc' := 1142) d_L_law_32 (by omega) rfl ?_
      exact WM.drop [] rfl (t_L_law_1142 (b0 := (6 * n, 45 * n)) (by refine ⟨?_, ?_⟩ <;> (dsimp only; omega)) ih h)
def f_L_law_15 (LL : Nat) (xs : Nat → Int32) (σ : SS) : Option (Int32 × SS) := f_L_law_18 LL xs FU (0 : Int32) σ
set_option maxRecDepth 100000 in
theorem t_L_law_15 {d : Nat} {X : MX} {Y : MY} {r : Int32} {σ' : SS} {σ : SS} (h : f_L_law_15 Y.1.2.2.2.2.1 Y.1.2.2.2.2.2 σ = some (r, σ')) : WM (d + 16) X Y (6 * FU, 45 * FU) mi_L_law 15 [some (vR 104 0), some (vR 0 0), none, none] [vR 25 0] σ (some (vI r), σ') := by
  rw [f_L_law_15] at h
  refine r_astore_n (pc' := 16) d_L_law_15 rfl rfl rfl rfl ?_
  refine r_iconst (pc' := 17) d_L_law_16 ci_0 rfl ?_
  refine r_istore_n (pc' := 18) d_L_law_17 rfl rfl rfl rfl ?_
  exact WM.drop [] rfl (t_L_law_18 _ _ _ h)
