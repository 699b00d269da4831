/-! THE CLAIM OUT OF ONE WALK OF THE LAW'S BODY. Your part is whole_start (and what it stands on); all else here is the same for every law, but numbers. -/
def R_law : String := "PodMarksLaw"
def lw_P (b : Addr) (xs : List Int32) (args : Array Value) (s : State) : Prop := args = #[.ref b] ∧ s.IntsAt b xs ∧ xs.length ≤ 3072 ∧ (Jvm.Cond.and given_1 narrow_1).before args s = true
def lw_Q (_ : Array Value) (s : State) (o : Outcome) (t : State) : Prop := o = .returned (some (.int 1)) ∧ Framed s o t [] 600000 7302250
def lw_Z (below : List Frame) (a : Array Value) (s : State) : State → Prop := fun t => ∃ o, t.status = .running ∧ Ended t below o ∧ lw_Q a s o t
/-- the law's own end, with 1 on the stack, nothing written that was there before, its room as the claim has it -/
theorem lw_ret {p : Program} {l : Launch} {e : Env} {s : State} {m : MethodId} {below : List Frame} {meth : Method} {c : Code} {b : Nat} (hx : p.tables.exec = Jvm.exec) (hb : c.code = code) (hr : meth.sig.returnType = ret) (hlocks : meth.locks = false) {pc : Nat} {H : Heap} {ls : Array Slot} (hdg : decode code pc = .ok (.ireturn, 1)) : W p l e room_1 s m #[Value.ref b] below meth c H [] 600000 7302250 (lw_Z below #[Value.ref b] s) (F0 m pc ls [.int 1]) := by
  intro T hT X
  obtain ⟨fs, hret, hrun, hended, hW, hframe⟩ := X.leave (v := some (.int 1)) (hlocks := hlocks) (fun h => by rw [hr] at h; cases h)
  have hmeth' : T.vm.method? m = some meth := X.method'
  refine ⟨T.setFrames fs, ?_, .returned (some (.int 1)), hrun, hended, rfl, ⟨_, rfl⟩, hW, hframe⟩
  jvm_step X.here [X.here.top, hx, hb, hdg, hmeth', hr, ret, narrow_b1]
  (try refine ⟨rfl, ?_⟩); (try refine ⟨rfl, ?_⟩)
  first | (intro acts; rw [hret _ acts rfl rfl rfl]) | rw [hret _ _ rfl rfl rfl]
  exact Steps.refl _
/-- what holds at the law's entry: the machine, the code, the tables' words (any of lw_tbl by 'hts w (by decide +kernel)'), the script of L ints xs at the cell b, what the Statement gives of the start (any of its parts by flat_of_before) -/
def lw_At (p : Program) (s : State) (m : MethodId) (meth : Method) (c : Code) (b L : Nat) (xs : Nat → Int32) : Prop :=
  p.tables.exec = Jvm.exec ∧ c.code = code ∧ meth.sig.returnType = ret ∧ c.maxLocals = 4 ∧ s.vm.findClass R_law = some m.cls ∧ (∀ w ∈ lw_tbl, w.before #[Value.ref b] s = true) ∧ va_X b L xs s s.heap ∧ b < s.heap.size ∧ meth.locks = false ∧ (Jvm.Cond.and given_1 narrow_1).before #[Value.ref b] s = true
abbrev M_L : xM := (cL_law, 4, ret, RL)
theorem DL_0 : xd M_L 0 (.new 7) 3 := dL_law_0
theorem DL_3 : xd M_L 3 (.dup) 1 := dL_law_3
theorem DL_4 : xd M_L 4 (.invokespecial 9) 3 := dL_law_4
theorem DL_7 : xd M_L 7 (.astore_n 1) 1 := dL_law_7
theorem DL_8 : xd M_L 8 (.new 10) 3 := dL_law_8
theorem DL_11 : xd M_L 11 (.dup) 1 := dL_law_11
theorem DL_12 : xd M_L 12 (.invokespecial 12) 3 := dL_law_12
theorem DL_15 : xd M_L 15 (.astore_n 2) 1 := dL_law_15
theorem DL_16 : xd M_L 16 (.iconst 0) 1 := dL_law_16
theorem DL_17 : xd M_L 17 (.istore_n 3) 1 := dL_law_17
theorem DL_18 : xd M_L 18 (.iload_n 3) 1 := dL_law_18
theorem DL_19 : xd M_L 19 (.aload_n 0) 1 := dL_law_19
theorem DL_20 : xd M_L 20 (.arraylength) 1 := dL_law_20
theorem DL_21 : xd M_L 21 (.bipush 6) 2 := dL_law_21
theorem DL_23 : xd M_L 23 (.isub) 1 := dL_law_23
theorem DL_24 : xd M_L 24 (.if_icmp .gt 1372) 3 := dL_law_24
theorem DL_27 : xd M_L 27 (.aload_n 0) 1 := dL_law_27
theorem DL_28 : xd M_L 28 (.iload_n 3) 1 := dL_law_28
theorem DL_29 : xd M_L 29 (.iaload) 1 := dL_law_29
theorem DL_30 : xd M_L 30 (.bipush 63) 2 := dL_law_30
theorem DL_32 : xd M_L 32 (.iand) 1 := dL_law_32
theorem DL_33 : xd M_L 33 (.tableswitch 1357 0 32 #[147, 170, 213, 236, 259, 302, 345, 368, 401, 434, 457, 490, 523, 566, 599, 612, 665, 708, 751, 784, 827, 890, 913, 926, 949, 1002, 1035, 1069, 1102, 1155, 1218, 1271, 1324]) 147 := dL_law_33
theorem DL_180 : xd M_L 180 (.aload_n 1) 1 := dL_law_180
theorem DL_181 : xd M_L 181 (.aload_n 0) 1 := dL_law_181
theorem DL_182 : xd M_L 182 (.iload_n 3) 1 := dL_law_182
theorem DL_183 : xd M_L 183 (.iconst 1) 1 := dL_law_183
theorem DL_184 : xd M_L 184 (.iadd) 1 := dL_law_184
theorem DL_185 : xd M_L 185 (.iaload) 1 := dL_law_185
theorem DL_186 : xd M_L 186 (.invokevirtual 13) 3 := dL_law_186
theorem DL_189 : xd M_L 189 (.aload_n 2) 1 := dL_law_189
theorem DL_190 : xd M_L 190 (.aload_n 0) 1 := dL_law_190
theorem DL_191 : xd M_L 191 (.iload_n 3) 1 := dL_law_191
theorem DL_192 : xd M_L 192 (.iconst 1) 1 := dL_law_192
theorem DL_193 : xd M_L 193 (.iadd) 1 := dL_law_193
theorem DL_194 : xd M_L 194 (.iaload) 1 := dL_law_194
theorem DL_195 : xd M_L 195 (.invokevirtual 17) 3 := dL_law_195
theorem DL_198 : xd M_L 198 (.if_icmp .eq 1192) 3 := dL_law_198
theorem DL_201 : xd M_L 201 (.iconst 0) 1 := dL_law_201
theorem DL_202 : xd M_L 202 (.ireturn) 1 := dL_law_202
theorem DL_203 : xd M_L 203 (.aload_n 1) 1 := dL_law_203
theorem DL_204 : xd M_L 204 (.aload_n 0) 1 := dL_law_204
theorem DL_205 : xd M_L 205 (.iload_n 3) 1 := dL_law_205
theorem DL_206 : xd M_L 206 (.iconst 1) 1 := dL_law_206
theorem DL_207 : xd M_L 207 (.iadd) 1 := dL_law_207
theorem DL_208 : xd M_L 208 (.iaload) 1 := dL_law_208
theorem DL_209 : xd M_L 209 (.aload_n 0) 1 := dL_law_209
theorem DL_210 : xd M_L 210 (.iload_n 3) 1 := dL_law_210
theorem DL_211 : xd M_L 211 (.iconst 2) 1 := dL_law_211
theorem DL_212 : xd M_L 212 (.iadd) 1 := dL_law_212
theorem DL_213 : xd M_L 213 (.iaload) 1 := dL_law_213
theorem DL_214 : xd M_L 214 (.aload_n 0) 1 := dL_law_214
theorem DL_215 : xd M_L 215 (.iload_n 3) 1 := dL_law_215
theorem DL_216 : xd M_L 216 (.iconst 3) 1 := dL_law_216
theorem DL_217 : xd M_L 217 (.iadd) 1 := dL_law_217
theorem DL_218 : xd M_L 218 (.iaload) 1 := dL_law_218
theorem DL_219 : xd M_L 219 (.invokevirtual 18) 3 := dL_law_219
theorem DL_222 : xd M_L 222 (.aload_n 2) 1 := dL_law_222
theorem DL_223 : xd M_L 223 (.aload_n 0) 1 := dL_law_223
theorem DL_224 : xd M_L 224 (.iload_n 3) 1 := dL_law_224
theorem DL_225 : xd M_L 225 (.iconst 1) 1 := dL_law_225
theorem DL_226 : xd M_L 226 (.iadd) 1 := dL_law_226
theorem DL_227 : xd M_L 227 (.iaload) 1 := dL_law_227
theorem DL_228 : xd M_L 228 (.aload_n 0) 1 := dL_law_228
theorem DL_229 : xd M_L 229 (.iload_n 3) 1 := dL_law_229
theorem DL_230 : xd M_L 230 (.iconst 2) 1 := dL_law_230
theorem DL_231 : xd M_L 231 (.iadd) 1 := dL_law_231
theorem DL_232 : xd M_L 232 (.iaload) 1 := dL_law_232
theorem DL_233 : xd M_L 233 (.aload_n 0) 1 := dL_law_233
theorem DL_234 : xd M_L 234 (.iload_n 3) 1 := dL_law_234
theorem DL_235 : xd M_L 235 (.iconst 3) 1 := dL_law_235
theorem DL_236 : xd M_L 236 (.iadd) 1 := dL_law_236
theorem DL_237 : xd M_L 237 (.iaload) 1 := dL_law_237
theorem DL_238 : xd M_L 238 (.invokevirtual 22) 3 := dL_law_238
theorem DL_241 : xd M_L 241 (.if_icmp .eq 1149) 3 := dL_law_241
theorem DL_244 : xd M_L 244 (.iconst 0) 1 := dL_law_244
theorem DL_245 : xd M_L 245 (.ireturn) 1 := dL_law_245
theorem DL_246 : xd M_L 246 (.aload_n 1) 1 := dL_law_246
theorem DL_247 : xd M_L 247 (.aload_n 0) 1 := dL_law_247
theorem DL_248 : xd M_L 248 (.iload_n 3) 1 := dL_law_248
theorem DL_249 : xd M_L 249 (.iconst 1) 1 := dL_law_249
theorem DL_250 : xd M_L 250 (.iadd) 1 := dL_law_250
theorem DL_251 : xd M_L 251 (.iaload) 1 := dL_law_251
theorem DL_252 : xd M_L 252 (.invokevirtual 23) 3 := dL_law_252
theorem DL_255 : xd M_L 255 (.aload_n 2) 1 := dL_law_255
theorem DL_256 : xd M_L 256 (.aload_n 0) 1 := dL_law_256
theorem DL_257 : xd M_L 257 (.iload_n 3) 1 := dL_law_257
theorem DL_258 : xd M_L 258 (.iconst 1) 1 := dL_law_258
theorem DL_259 : xd M_L 259 (.iadd) 1 := dL_law_259
theorem DL_260 : xd M_L 260 (.iaload) 1 := dL_law_260
theorem DL_261 : xd M_L 261 (.invokevirtual 26) 3 := dL_law_261
theorem DL_264 : xd M_L 264 (.if_icmp .eq 1126) 3 := dL_law_264
theorem DL_267 : xd M_L 267 (.iconst 0) 1 := dL_law_267
theorem DL_268 : xd M_L 268 (.ireturn) 1 := dL_law_268
theorem DL_269 : xd M_L 269 (.aload_n 1) 1 := dL_law_269
theorem DL_270 : xd M_L 270 (.aload_n 0) 1 := dL_law_270
theorem DL_271 : xd M_L 271 (.iload_n 3) 1 := dL_law_271
theorem DL_272 : xd M_L 272 (.iconst 1) 1 := dL_law_272
theorem DL_273 : xd M_L 273 (.iadd) 1 := dL_law_273
theorem DL_274 : xd M_L 274 (.iaload) 1 := dL_law_274
theorem DL_275 : xd M_L 275 (.invokevirtual 27) 3 := dL_law_275
theorem DL_278 : xd M_L 278 (.aload_n 2) 1 := dL_law_278
theorem DL_279 : xd M_L 279 (.aload_n 0) 1 := dL_law_279
theorem DL_280 : xd M_L 280 (.iload_n 3) 1 := dL_law_280
theorem DL_281 : xd M_L 281 (.iconst 1) 1 := dL_law_281
theorem DL_282 : xd M_L 282 (.iadd) 1 := dL_law_282
theorem DL_283 : xd M_L 283 (.iaload) 1 := dL_law_283
theorem DL_284 : xd M_L 284 (.invokevirtual 30) 3 := dL_law_284
theorem DL_287 : xd M_L 287 (.if_icmp .eq 1103) 3 := dL_law_287
theorem DL_290 : xd M_L 290 (.iconst 0) 1 := dL_law_290
theorem DL_291 : xd M_L 291 (.ireturn) 1 := dL_law_291
theorem DL_292 : xd M_L 292 (.aload_n 1) 1 := dL_law_292
theorem DL_293 : xd M_L 293 (.aload_n 0) 1 := dL_law_293
theorem DL_294 : xd M_L 294 (.iload_n 3) 1 := dL_law_294
theorem DL_295 : xd M_L 295 (.iconst 1) 1 := dL_law_295
theorem DL_296 : xd M_L 296 (.iadd) 1 := dL_law_296
theorem DL_297 : xd M_L 297 (.iaload) 1 := dL_law_297
theorem DL_298 : xd M_L 298 (.aload_n 0) 1 := dL_law_298
theorem DL_299 : xd M_L 299 (.iload_n 3) 1 := dL_law_299
theorem DL_300 : xd M_L 300 (.iconst 2) 1 := dL_law_300
theorem DL_301 : xd M_L 301 (.iadd) 1 := dL_law_301
theorem DL_302 : xd M_L 302 (.iaload) 1 := dL_law_302
theorem DL_303 : xd M_L 303 (.aload_n 0) 1 := dL_law_303
theorem DL_304 : xd M_L 304 (.iload_n 3) 1 := dL_law_304
theorem DL_305 : xd M_L 305 (.iconst 3) 1 := dL_law_305
theorem DL_306 : xd M_L 306 (.iadd) 1 := dL_law_306
theorem DL_307 : xd M_L 307 (.iaload) 1 := dL_law_307
theorem DL_308 : xd M_L 308 (.invokevirtual 31) 3 := dL_law_308
theorem DL_311 : xd M_L 311 (.aload_n 2) 1 := dL_law_311
theorem DL_312 : xd M_L 312 (.aload_n 0) 1 := dL_law_312
theorem DL_313 : xd M_L 313 (.iload_n 3) 1 := dL_law_313
theorem DL_314 : xd M_L 314 (.iconst 1) 1 := dL_law_314
theorem DL_315 : xd M_L 315 (.iadd) 1 := dL_law_315
theorem DL_316 : xd M_L 316 (.iaload) 1 := dL_law_316
theorem DL_317 : xd M_L 317 (.aload_n 0) 1 := dL_law_317
theorem DL_318 : xd M_L 318 (.iload_n 3) 1 := dL_law_318
theorem DL_319 : xd M_L 319 (.iconst 2) 1 := dL_law_319
theorem DL_320 : xd M_L 320 (.iadd) 1 := dL_law_320
theorem DL_321 : xd M_L 321 (.iaload) 1 := dL_law_321
theorem DL_322 : xd M_L 322 (.aload_n 0) 1 := dL_law_322
theorem DL_323 : xd M_L 323 (.iload_n 3) 1 := dL_law_323
theorem DL_324 : xd M_L 324 (.iconst 3) 1 := dL_law_324
theorem DL_325 : xd M_L 325 (.iadd) 1 := dL_law_325
theorem DL_326 : xd M_L 326 (.iaload) 1 := dL_law_326
theorem DL_327 : xd M_L 327 (.invokevirtual 34) 3 := dL_law_327
theorem DL_330 : xd M_L 330 (.if_icmp .eq 1060) 3 := dL_law_330
theorem DL_333 : xd M_L 333 (.iconst 0) 1 := dL_law_333
theorem DL_334 : xd M_L 334 (.ireturn) 1 := dL_law_334
theorem DL_335 : xd M_L 335 (.aload_n 1) 1 := dL_law_335
theorem DL_336 : xd M_L 336 (.aload_n 0) 1 := dL_law_336
theorem DL_337 : xd M_L 337 (.iload_n 3) 1 := dL_law_337
theorem DL_338 : xd M_L 338 (.iconst 1) 1 := dL_law_338
theorem DL_339 : xd M_L 339 (.iadd) 1 := dL_law_339
theorem DL_340 : xd M_L 340 (.iaload) 1 := dL_law_340
theorem DL_341 : xd M_L 341 (.aload_n 0) 1 := dL_law_341
theorem DL_342 : xd M_L 342 (.iload_n 3) 1 := dL_law_342
theorem DL_343 : xd M_L 343 (.iconst 2) 1 := dL_law_343
theorem DL_344 : xd M_L 344 (.iadd) 1 := dL_law_344
theorem DL_345 : xd M_L 345 (.iaload) 1 := dL_law_345
theorem DL_346 : xd M_L 346 (.aload_n 0) 1 := dL_law_346
theorem DL_347 : xd M_L 347 (.iload_n 3) 1 := dL_law_347
theorem DL_348 : xd M_L 348 (.iconst 3) 1 := dL_law_348
theorem DL_349 : xd M_L 349 (.iadd) 1 := dL_law_349
theorem DL_350 : xd M_L 350 (.iaload) 1 := dL_law_350
theorem DL_351 : xd M_L 351 (.invokevirtual 35) 3 := dL_law_351
theorem DL_354 : xd M_L 354 (.aload_n 2) 1 := dL_law_354
theorem DL_355 : xd M_L 355 (.aload_n 0) 1 := dL_law_355
theorem DL_356 : xd M_L 356 (.iload_n 3) 1 := dL_law_356
theorem DL_357 : xd M_L 357 (.iconst 1) 1 := dL_law_357
theorem DL_358 : xd M_L 358 (.iadd) 1 := dL_law_358
theorem DL_359 : xd M_L 359 (.iaload) 1 := dL_law_359
theorem DL_360 : xd M_L 360 (.aload_n 0) 1 := dL_law_360
theorem DL_361 : xd M_L 361 (.iload_n 3) 1 := dL_law_361
theorem DL_362 : xd M_L 362 (.iconst 2) 1 := dL_law_362
theorem DL_363 : xd M_L 363 (.iadd) 1 := dL_law_363
theorem DL_364 : xd M_L 364 (.iaload) 1 := dL_law_364
theorem DL_365 : xd M_L 365 (.aload_n 0) 1 := dL_law_365
theorem DL_366 : xd M_L 366 (.iload_n 3) 1 := dL_law_366
theorem DL_367 : xd M_L 367 (.iconst 3) 1 := dL_law_367
theorem DL_368 : xd M_L 368 (.iadd) 1 := dL_law_368
theorem DL_369 : xd M_L 369 (.iaload) 1 := dL_law_369
theorem DL_370 : xd M_L 370 (.invokevirtual 38) 3 := dL_law_370
theorem DL_373 : xd M_L 373 (.if_icmp .eq 1017) 3 := dL_law_373
theorem DL_376 : xd M_L 376 (.iconst 0) 1 := dL_law_376
theorem DL_377 : xd M_L 377 (.ireturn) 1 := dL_law_377
theorem DL_378 : xd M_L 378 (.aload_n 1) 1 := dL_law_378
theorem DL_379 : xd M_L 379 (.aload_n 0) 1 := dL_law_379
theorem DL_380 : xd M_L 380 (.iload_n 3) 1 := dL_law_380
theorem DL_381 : xd M_L 381 (.iconst 1) 1 := dL_law_381
theorem DL_382 : xd M_L 382 (.iadd) 1 := dL_law_382
theorem DL_383 : xd M_L 383 (.iaload) 1 := dL_law_383
theorem DL_384 : xd M_L 384 (.invokevirtual 39) 3 := dL_law_384
theorem DL_387 : xd M_L 387 (.aload_n 2) 1 := dL_law_387
theorem DL_388 : xd M_L 388 (.aload_n 0) 1 := dL_law_388
theorem DL_389 : xd M_L 389 (.iload_n 3) 1 := dL_law_389
theorem DL_390 : xd M_L 390 (.iconst 1) 1 := dL_law_390
theorem DL_391 : xd M_L 391 (.iadd) 1 := dL_law_391
theorem DL_392 : xd M_L 392 (.iaload) 1 := dL_law_392
theorem DL_393 : xd M_L 393 (.invokevirtual 42) 3 := dL_law_393
theorem DL_396 : xd M_L 396 (.if_icmp .eq 994) 3 := dL_law_396
theorem DL_399 : xd M_L 399 (.iconst 0) 1 := dL_law_399
theorem DL_400 : xd M_L 400 (.ireturn) 1 := dL_law_400
theorem DL_401 : xd M_L 401 (.aload_n 1) 1 := dL_law_401
theorem DL_402 : xd M_L 402 (.aload_n 0) 1 := dL_law_402
theorem DL_403 : xd M_L 403 (.iload_n 3) 1 := dL_law_403
theorem DL_404 : xd M_L 404 (.iconst 1) 1 := dL_law_404
theorem DL_405 : xd M_L 405 (.iadd) 1 := dL_law_405
theorem DL_406 : xd M_L 406 (.iaload) 1 := dL_law_406
theorem DL_407 : xd M_L 407 (.aload_n 0) 1 := dL_law_407
theorem DL_408 : xd M_L 408 (.iload_n 3) 1 := dL_law_408
theorem DL_409 : xd M_L 409 (.iconst 2) 1 := dL_law_409
theorem DL_410 : xd M_L 410 (.iadd) 1 := dL_law_410
theorem DL_411 : xd M_L 411 (.iaload) 1 := dL_law_411
theorem DL_412 : xd M_L 412 (.invokevirtual 43) 3 := dL_law_412
theorem DL_415 : xd M_L 415 (.aload_n 2) 1 := dL_law_415
theorem DL_416 : xd M_L 416 (.aload_n 0) 1 := dL_law_416
theorem DL_417 : xd M_L 417 (.iload_n 3) 1 := dL_law_417
theorem DL_418 : xd M_L 418 (.iconst 1) 1 := dL_law_418
theorem DL_419 : xd M_L 419 (.iadd) 1 := dL_law_419
theorem DL_420 : xd M_L 420 (.iaload) 1 := dL_law_420
theorem DL_421 : xd M_L 421 (.aload_n 0) 1 := dL_law_421
theorem DL_422 : xd M_L 422 (.iload_n 3) 1 := dL_law_422
theorem DL_423 : xd M_L 423 (.iconst 2) 1 := dL_law_423
theorem DL_424 : xd M_L 424 (.iadd) 1 := dL_law_424
theorem DL_425 : xd M_L 425 (.iaload) 1 := dL_law_425
theorem DL_426 : xd M_L 426 (.invokevirtual 47) 3 := dL_law_426
theorem DL_429 : xd M_L 429 (.if_icmp .eq 961) 3 := dL_law_429
theorem DL_432 : xd M_L 432 (.iconst 0) 1 := dL_law_432
theorem DL_433 : xd M_L 433 (.ireturn) 1 := dL_law_433
theorem DL_434 : xd M_L 434 (.aload_n 1) 1 := dL_law_434
theorem DL_435 : xd M_L 435 (.aload_n 0) 1 := dL_law_435
theorem DL_436 : xd M_L 436 (.iload_n 3) 1 := dL_law_436
theorem DL_437 : xd M_L 437 (.iconst 1) 1 := dL_law_437
theorem DL_438 : xd M_L 438 (.iadd) 1 := dL_law_438
theorem DL_439 : xd M_L 439 (.iaload) 1 := dL_law_439
theorem DL_440 : xd M_L 440 (.aload_n 0) 1 := dL_law_440
theorem DL_441 : xd M_L 441 (.iload_n 3) 1 := dL_law_441
theorem DL_442 : xd M_L 442 (.iconst 2) 1 := dL_law_442
theorem DL_443 : xd M_L 443 (.iadd) 1 := dL_law_443
theorem DL_444 : xd M_L 444 (.iaload) 1 := dL_law_444
theorem DL_445 : xd M_L 445 (.invokevirtual 48) 3 := dL_law_445
theorem DL_448 : xd M_L 448 (.aload_n 2) 1 := dL_law_448
theorem DL_449 : xd M_L 449 (.aload_n 0) 1 := dL_law_449
theorem DL_450 : xd M_L 450 (.iload_n 3) 1 := dL_law_450
theorem DL_451 : xd M_L 451 (.iconst 1) 1 := dL_law_451
theorem DL_452 : xd M_L 452 (.iadd) 1 := dL_law_452
theorem DL_453 : xd M_L 453 (.iaload) 1 := dL_law_453
theorem DL_454 : xd M_L 454 (.aload_n 0) 1 := dL_law_454
theorem DL_455 : xd M_L 455 (.iload_n 3) 1 := dL_law_455
theorem DL_456 : xd M_L 456 (.iconst 2) 1 := dL_law_456
theorem DL_457 : xd M_L 457 (.iadd) 1 := dL_law_457
theorem DL_458 : xd M_L 458 (.iaload) 1 := dL_law_458
theorem DL_459 : xd M_L 459 (.invokevirtual 51) 3 := dL_law_459
theorem DL_462 : xd M_L 462 (.if_icmp .eq 928) 3 := dL_law_462
theorem DL_465 : xd M_L 465 (.iconst 0) 1 := dL_law_465
theorem DL_466 : xd M_L 466 (.ireturn) 1 := dL_law_466
theorem DL_467 : xd M_L 467 (.aload_n 1) 1 := dL_law_467
theorem DL_468 : xd M_L 468 (.aload_n 0) 1 := dL_law_468
theorem DL_469 : xd M_L 469 (.iload_n 3) 1 := dL_law_469
theorem DL_470 : xd M_L 470 (.iconst 1) 1 := dL_law_470
theorem DL_471 : xd M_L 471 (.iadd) 1 := dL_law_471
theorem DL_472 : xd M_L 472 (.iaload) 1 := dL_law_472
theorem DL_473 : xd M_L 473 (.invokevirtual 52) 3 := dL_law_473
theorem DL_476 : xd M_L 476 (.aload_n 2) 1 := dL_law_476
theorem DL_477 : xd M_L 477 (.aload_n 0) 1 := dL_law_477
theorem DL_478 : xd M_L 478 (.iload_n 3) 1 := dL_law_478
theorem DL_479 : xd M_L 479 (.iconst 1) 1 := dL_law_479
theorem DL_480 : xd M_L 480 (.iadd) 1 := dL_law_480
theorem DL_481 : xd M_L 481 (.iaload) 1 := dL_law_481
theorem DL_482 : xd M_L 482 (.invokevirtual 55) 3 := dL_law_482
theorem DL_485 : xd M_L 485 (.if_icmp .eq 905) 3 := dL_law_485
theorem DL_488 : xd M_L 488 (.iconst 0) 1 := dL_law_488
theorem DL_489 : xd M_L 489 (.ireturn) 1 := dL_law_489
theorem DL_490 : xd M_L 490 (.aload_n 1) 1 := dL_law_490
theorem DL_491 : xd M_L 491 (.aload_n 0) 1 := dL_law_491
theorem DL_492 : xd M_L 492 (.iload_n 3) 1 := dL_law_492
theorem DL_493 : xd M_L 493 (.iconst 1) 1 := dL_law_493
theorem DL_494 : xd M_L 494 (.iadd) 1 := dL_law_494
theorem DL_495 : xd M_L 495 (.iaload) 1 := dL_law_495
theorem DL_496 : xd M_L 496 (.aload_n 0) 1 := dL_law_496
theorem DL_497 : xd M_L 497 (.iload_n 3) 1 := dL_law_497
theorem DL_498 : xd M_L 498 (.iconst 2) 1 := dL_law_498
theorem DL_499 : xd M_L 499 (.iadd) 1 := dL_law_499
theorem DL_500 : xd M_L 500 (.iaload) 1 := dL_law_500
theorem DL_501 : xd M_L 501 (.invokevirtual 56) 3 := dL_law_501
theorem DL_504 : xd M_L 504 (.aload_n 2) 1 := dL_law_504
theorem DL_505 : xd M_L 505 (.aload_n 0) 1 := dL_law_505
theorem DL_506 : xd M_L 506 (.iload_n 3) 1 := dL_law_506
theorem DL_507 : xd M_L 507 (.iconst 1) 1 := dL_law_507
theorem DL_508 : xd M_L 508 (.iadd) 1 := dL_law_508
theorem DL_509 : xd M_L 509 (.iaload) 1 := dL_law_509
theorem DL_510 : xd M_L 510 (.aload_n 0) 1 := dL_law_510
theorem DL_511 : xd M_L 511 (.iload_n 3) 1 := dL_law_511
theorem DL_512 : xd M_L 512 (.iconst 2) 1 := dL_law_512
theorem DL_513 : xd M_L 513 (.iadd) 1 := dL_law_513
theorem DL_514 : xd M_L 514 (.iaload) 1 := dL_law_514
theorem DL_515 : xd M_L 515 (.invokevirtual 59) 3 := dL_law_515
theorem DL_518 : xd M_L 518 (.if_icmp .eq 872) 3 := dL_law_518
theorem DL_521 : xd M_L 521 (.iconst 0) 1 := dL_law_521
theorem DL_522 : xd M_L 522 (.ireturn) 1 := dL_law_522
theorem DL_523 : xd M_L 523 (.aload_n 1) 1 := dL_law_523
theorem DL_524 : xd M_L 524 (.aload_n 0) 1 := dL_law_524
theorem DL_525 : xd M_L 525 (.iload_n 3) 1 := dL_law_525
theorem DL_526 : xd M_L 526 (.iconst 1) 1 := dL_law_526
theorem DL_527 : xd M_L 527 (.iadd) 1 := dL_law_527
theorem DL_528 : xd M_L 528 (.iaload) 1 := dL_law_528
theorem DL_529 : xd M_L 529 (.aload_n 0) 1 := dL_law_529
theorem DL_530 : xd M_L 530 (.iload_n 3) 1 := dL_law_530
theorem DL_531 : xd M_L 531 (.iconst 2) 1 := dL_law_531
theorem DL_532 : xd M_L 532 (.iadd) 1 := dL_law_532
theorem DL_533 : xd M_L 533 (.iaload) 1 := dL_law_533
theorem DL_534 : xd M_L 534 (.invokevirtual 60) 3 := dL_law_534
theorem DL_537 : xd M_L 537 (.aload_n 2) 1 := dL_law_537
theorem DL_538 : xd M_L 538 (.aload_n 0) 1 := dL_law_538
theorem DL_539 : xd M_L 539 (.iload_n 3) 1 := dL_law_539
theorem DL_540 : xd M_L 540 (.iconst 1) 1 := dL_law_540
theorem DL_541 : xd M_L 541 (.iadd) 1 := dL_law_541
theorem DL_542 : xd M_L 542 (.iaload) 1 := dL_law_542
theorem DL_543 : xd M_L 543 (.aload_n 0) 1 := dL_law_543
theorem DL_544 : xd M_L 544 (.iload_n 3) 1 := dL_law_544
theorem DL_545 : xd M_L 545 (.iconst 2) 1 := dL_law_545
theorem DL_546 : xd M_L 546 (.iadd) 1 := dL_law_546
theorem DL_547 : xd M_L 547 (.iaload) 1 := dL_law_547
theorem DL_548 : xd M_L 548 (.invokevirtual 63) 3 := dL_law_548
theorem DL_551 : xd M_L 551 (.if_icmp .eq 839) 3 := dL_law_551
theorem DL_554 : xd M_L 554 (.iconst 0) 1 := dL_law_554
theorem DL_555 : xd M_L 555 (.ireturn) 1 := dL_law_555
theorem DL_556 : xd M_L 556 (.aload_n 1) 1 := dL_law_556
theorem DL_557 : xd M_L 557 (.aload_n 0) 1 := dL_law_557
theorem DL_558 : xd M_L 558 (.iload_n 3) 1 := dL_law_558
theorem DL_559 : xd M_L 559 (.iconst 1) 1 := dL_law_559
theorem DL_560 : xd M_L 560 (.iadd) 1 := dL_law_560
theorem DL_561 : xd M_L 561 (.iaload) 1 := dL_law_561
theorem DL_562 : xd M_L 562 (.aload_n 0) 1 := dL_law_562
theorem DL_563 : xd M_L 563 (.iload_n 3) 1 := dL_law_563
theorem DL_564 : xd M_L 564 (.iconst 2) 1 := dL_law_564
theorem DL_565 : xd M_L 565 (.iadd) 1 := dL_law_565
theorem DL_566 : xd M_L 566 (.iaload) 1 := dL_law_566
theorem DL_567 : xd M_L 567 (.aload_n 0) 1 := dL_law_567
theorem DL_568 : xd M_L 568 (.iload_n 3) 1 := dL_law_568
theorem DL_569 : xd M_L 569 (.iconst 3) 1 := dL_law_569
theorem DL_570 : xd M_L 570 (.iadd) 1 := dL_law_570
theorem DL_571 : xd M_L 571 (.iaload) 1 := dL_law_571
theorem DL_572 : xd M_L 572 (.invokevirtual 64) 3 := dL_law_572
theorem DL_575 : xd M_L 575 (.aload_n 2) 1 := dL_law_575
theorem DL_576 : xd M_L 576 (.aload_n 0) 1 := dL_law_576
theorem DL_577 : xd M_L 577 (.iload_n 3) 1 := dL_law_577
theorem DL_578 : xd M_L 578 (.iconst 1) 1 := dL_law_578
theorem DL_579 : xd M_L 579 (.iadd) 1 := dL_law_579
theorem DL_580 : xd M_L 580 (.iaload) 1 := dL_law_580
theorem DL_581 : xd M_L 581 (.aload_n 0) 1 := dL_law_581
theorem DL_582 : xd M_L 582 (.iload_n 3) 1 := dL_law_582
theorem DL_583 : xd M_L 583 (.iconst 2) 1 := dL_law_583
theorem DL_584 : xd M_L 584 (.iadd) 1 := dL_law_584
theorem DL_585 : xd M_L 585 (.iaload) 1 := dL_law_585
theorem DL_586 : xd M_L 586 (.aload_n 0) 1 := dL_law_586
theorem DL_587 : xd M_L 587 (.iload_n 3) 1 := dL_law_587
theorem DL_588 : xd M_L 588 (.iconst 3) 1 := dL_law_588
theorem DL_589 : xd M_L 589 (.iadd) 1 := dL_law_589
theorem DL_590 : xd M_L 590 (.iaload) 1 := dL_law_590
theorem DL_591 : xd M_L 591 (.invokevirtual 67) 3 := dL_law_591
theorem DL_594 : xd M_L 594 (.if_icmp .eq 796) 3 := dL_law_594
theorem DL_597 : xd M_L 597 (.iconst 0) 1 := dL_law_597
theorem DL_598 : xd M_L 598 (.ireturn) 1 := dL_law_598
theorem DL_599 : xd M_L 599 (.aload_n 1) 1 := dL_law_599
theorem DL_600 : xd M_L 600 (.aload_n 0) 1 := dL_law_600
theorem DL_601 : xd M_L 601 (.iload_n 3) 1 := dL_law_601
theorem DL_602 : xd M_L 602 (.iconst 1) 1 := dL_law_602
theorem DL_603 : xd M_L 603 (.iadd) 1 := dL_law_603
theorem DL_604 : xd M_L 604 (.iaload) 1 := dL_law_604
theorem DL_605 : xd M_L 605 (.aload_n 0) 1 := dL_law_605
theorem DL_606 : xd M_L 606 (.iload_n 3) 1 := dL_law_606
theorem DL_607 : xd M_L 607 (.iconst 2) 1 := dL_law_607
theorem DL_608 : xd M_L 608 (.iadd) 1 := dL_law_608
theorem DL_609 : xd M_L 609 (.iaload) 1 := dL_law_609
theorem DL_610 : xd M_L 610 (.invokevirtual 68) 3 := dL_law_610
theorem DL_613 : xd M_L 613 (.aload_n 2) 1 := dL_law_613
theorem DL_614 : xd M_L 614 (.aload_n 0) 1 := dL_law_614
theorem DL_615 : xd M_L 615 (.iload_n 3) 1 := dL_law_615
theorem DL_616 : xd M_L 616 (.iconst 1) 1 := dL_law_616
theorem DL_617 : xd M_L 617 (.iadd) 1 := dL_law_617
theorem DL_618 : xd M_L 618 (.iaload) 1 := dL_law_618
theorem DL_619 : xd M_L 619 (.aload_n 0) 1 := dL_law_619
theorem DL_620 : xd M_L 620 (.iload_n 3) 1 := dL_law_620
theorem DL_621 : xd M_L 621 (.iconst 2) 1 := dL_law_621
theorem DL_622 : xd M_L 622 (.iadd) 1 := dL_law_622
theorem DL_623 : xd M_L 623 (.iaload) 1 := dL_law_623
theorem DL_624 : xd M_L 624 (.invokevirtual 71) 3 := dL_law_624
theorem DL_627 : xd M_L 627 (.if_icmp .eq 763) 3 := dL_law_627
theorem DL_630 : xd M_L 630 (.iconst 0) 1 := dL_law_630
theorem DL_631 : xd M_L 631 (.ireturn) 1 := dL_law_631
theorem DL_632 : xd M_L 632 (.aload_n 1) 1 := dL_law_632
theorem DL_633 : xd M_L 633 (.invokevirtual 72) 3 := dL_law_633
theorem DL_636 : xd M_L 636 (.aload_n 2) 1 := dL_law_636
theorem DL_637 : xd M_L 637 (.invokevirtual 76) 3 := dL_law_637
theorem DL_640 : xd M_L 640 (.if_icmp .eq 750) 3 := dL_law_640
theorem DL_643 : xd M_L 643 (.iconst 0) 1 := dL_law_643
theorem DL_644 : xd M_L 644 (.ireturn) 1 := dL_law_644
theorem DL_645 : xd M_L 645 (.aload_n 1) 1 := dL_law_645
theorem DL_646 : xd M_L 646 (.aload_n 0) 1 := dL_law_646
theorem DL_647 : xd M_L 647 (.iload_n 3) 1 := dL_law_647
theorem DL_648 : xd M_L 648 (.iconst 1) 1 := dL_law_648
theorem DL_649 : xd M_L 649 (.iadd) 1 := dL_law_649
theorem DL_650 : xd M_L 650 (.iaload) 1 := dL_law_650
theorem DL_651 : xd M_L 651 (.aload_n 0) 1 := dL_law_651
theorem DL_652 : xd M_L 652 (.iload_n 3) 1 := dL_law_652
theorem DL_653 : xd M_L 653 (.iconst 2) 1 := dL_law_653
theorem DL_654 : xd M_L 654 (.iadd) 1 := dL_law_654
theorem DL_655 : xd M_L 655 (.iaload) 1 := dL_law_655
theorem DL_656 : xd M_L 656 (.aload_n 0) 1 := dL_law_656
theorem DL_657 : xd M_L 657 (.iload_n 3) 1 := dL_law_657
theorem DL_658 : xd M_L 658 (.iconst 3) 1 := dL_law_658
theorem DL_659 : xd M_L 659 (.iadd) 1 := dL_law_659
theorem DL_660 : xd M_L 660 (.iaload) 1 := dL_law_660
theorem DL_661 : xd M_L 661 (.aload_n 0) 1 := dL_law_661
theorem DL_662 : xd M_L 662 (.iload_n 3) 1 := dL_law_662
theorem DL_663 : xd M_L 663 (.iconst 4) 1 := dL_law_663
theorem DL_664 : xd M_L 664 (.iadd) 1 := dL_law_664
theorem DL_665 : xd M_L 665 (.iaload) 1 := dL_law_665
theorem DL_666 : xd M_L 666 (.invokevirtual 77) 3 := dL_law_666
theorem DL_669 : xd M_L 669 (.aload_n 2) 1 := dL_law_669
theorem DL_670 : xd M_L 670 (.aload_n 0) 1 := dL_law_670
theorem DL_671 : xd M_L 671 (.iload_n 3) 1 := dL_law_671
theorem DL_672 : xd M_L 672 (.iconst 1) 1 := dL_law_672
theorem DL_673 : xd M_L 673 (.iadd) 1 := dL_law_673
theorem DL_674 : xd M_L 674 (.iaload) 1 := dL_law_674
theorem DL_675 : xd M_L 675 (.aload_n 0) 1 := dL_law_675
theorem DL_676 : xd M_L 676 (.iload_n 3) 1 := dL_law_676
theorem DL_677 : xd M_L 677 (.iconst 2) 1 := dL_law_677
theorem DL_678 : xd M_L 678 (.iadd) 1 := dL_law_678
theorem DL_679 : xd M_L 679 (.iaload) 1 := dL_law_679
theorem DL_680 : xd M_L 680 (.aload_n 0) 1 := dL_law_680
theorem DL_681 : xd M_L 681 (.iload_n 3) 1 := dL_law_681
theorem DL_682 : xd M_L 682 (.iconst 3) 1 := dL_law_682
theorem DL_683 : xd M_L 683 (.iadd) 1 := dL_law_683
theorem DL_684 : xd M_L 684 (.iaload) 1 := dL_law_684
theorem DL_685 : xd M_L 685 (.aload_n 0) 1 := dL_law_685
theorem DL_686 : xd M_L 686 (.iload_n 3) 1 := dL_law_686
theorem DL_687 : xd M_L 687 (.iconst 4) 1 := dL_law_687
theorem DL_688 : xd M_L 688 (.iadd) 1 := dL_law_688
theorem DL_689 : xd M_L 689 (.iaload) 1 := dL_law_689
theorem DL_690 : xd M_L 690 (.invokevirtual 81) 3 := dL_law_690
theorem DL_693 : xd M_L 693 (.if_icmp .eq 697) 3 := dL_law_693
theorem DL_696 : xd M_L 696 (.iconst 0) 1 := dL_law_696
theorem DL_697 : xd M_L 697 (.ireturn) 1 := dL_law_697
theorem DL_698 : xd M_L 698 (.aload_n 1) 1 := dL_law_698
theorem DL_699 : xd M_L 699 (.aload_n 0) 1 := dL_law_699
theorem DL_700 : xd M_L 700 (.iload_n 3) 1 := dL_law_700
theorem DL_701 : xd M_L 701 (.iconst 1) 1 := dL_law_701
theorem DL_702 : xd M_L 702 (.iadd) 1 := dL_law_702
theorem DL_703 : xd M_L 703 (.iaload) 1 := dL_law_703
theorem DL_704 : xd M_L 704 (.aload_n 0) 1 := dL_law_704
theorem DL_705 : xd M_L 705 (.iload_n 3) 1 := dL_law_705
theorem DL_706 : xd M_L 706 (.iconst 2) 1 := dL_law_706
theorem DL_707 : xd M_L 707 (.iadd) 1 := dL_law_707
theorem DL_708 : xd M_L 708 (.iaload) 1 := dL_law_708
theorem DL_709 : xd M_L 709 (.aload_n 0) 1 := dL_law_709
theorem DL_710 : xd M_L 710 (.iload_n 3) 1 := dL_law_710
theorem DL_711 : xd M_L 711 (.iconst 3) 1 := dL_law_711
theorem DL_712 : xd M_L 712 (.iadd) 1 := dL_law_712
theorem DL_713 : xd M_L 713 (.iaload) 1 := dL_law_713
theorem DL_714 : xd M_L 714 (.invokevirtual 82) 3 := dL_law_714
theorem DL_717 : xd M_L 717 (.aload_n 2) 1 := dL_law_717
theorem DL_718 : xd M_L 718 (.aload_n 0) 1 := dL_law_718
theorem DL_719 : xd M_L 719 (.iload_n 3) 1 := dL_law_719
theorem DL_720 : xd M_L 720 (.iconst 1) 1 := dL_law_720
theorem DL_721 : xd M_L 721 (.iadd) 1 := dL_law_721
theorem DL_722 : xd M_L 722 (.iaload) 1 := dL_law_722
theorem DL_723 : xd M_L 723 (.aload_n 0) 1 := dL_law_723
theorem DL_724 : xd M_L 724 (.iload_n 3) 1 := dL_law_724
theorem DL_725 : xd M_L 725 (.iconst 2) 1 := dL_law_725
theorem DL_726 : xd M_L 726 (.iadd) 1 := dL_law_726
theorem DL_727 : xd M_L 727 (.iaload) 1 := dL_law_727
theorem DL_728 : xd M_L 728 (.aload_n 0) 1 := dL_law_728
theorem DL_729 : xd M_L 729 (.iload_n 3) 1 := dL_law_729
theorem DL_730 : xd M_L 730 (.iconst 3) 1 := dL_law_730
theorem DL_731 : xd M_L 731 (.iadd) 1 := dL_law_731
theorem DL_732 : xd M_L 732 (.iaload) 1 := dL_law_732
theorem DL_733 : xd M_L 733 (.invokevirtual 85) 3 := dL_law_733
theorem DL_736 : xd M_L 736 (.if_icmp .eq 654) 3 := dL_law_736
theorem DL_739 : xd M_L 739 (.iconst 0) 1 := dL_law_739
theorem DL_740 : xd M_L 740 (.ireturn) 1 := dL_law_740
theorem DL_741 : xd M_L 741 (.aload_n 1) 1 := dL_law_741
theorem DL_742 : xd M_L 742 (.aload_n 0) 1 := dL_law_742
theorem DL_743 : xd M_L 743 (.iload_n 3) 1 := dL_law_743
theorem DL_744 : xd M_L 744 (.iconst 1) 1 := dL_law_744
theorem DL_745 : xd M_L 745 (.iadd) 1 := dL_law_745
theorem DL_746 : xd M_L 746 (.iaload) 1 := dL_law_746
theorem DL_747 : xd M_L 747 (.aload_n 0) 1 := dL_law_747
theorem DL_748 : xd M_L 748 (.iload_n 3) 1 := dL_law_748
theorem DL_749 : xd M_L 749 (.iconst 2) 1 := dL_law_749
theorem DL_750 : xd M_L 750 (.iadd) 1 := dL_law_750
theorem DL_751 : xd M_L 751 (.iaload) 1 := dL_law_751
theorem DL_752 : xd M_L 752 (.aload_n 0) 1 := dL_law_752
theorem DL_753 : xd M_L 753 (.iload_n 3) 1 := dL_law_753
theorem DL_754 : xd M_L 754 (.iconst 3) 1 := dL_law_754
theorem DL_755 : xd M_L 755 (.iadd) 1 := dL_law_755
theorem DL_756 : xd M_L 756 (.iaload) 1 := dL_law_756
theorem DL_757 : xd M_L 757 (.invokevirtual 86) 3 := dL_law_757
theorem DL_760 : xd M_L 760 (.aload_n 2) 1 := dL_law_760
theorem DL_761 : xd M_L 761 (.aload_n 0) 1 := dL_law_761
theorem DL_762 : xd M_L 762 (.iload_n 3) 1 := dL_law_762
theorem DL_763 : xd M_L 763 (.iconst 1) 1 := dL_law_763
theorem DL_764 : xd M_L 764 (.iadd) 1 := dL_law_764
theorem DL_765 : xd M_L 765 (.iaload) 1 := dL_law_765
theorem DL_766 : xd M_L 766 (.aload_n 0) 1 := dL_law_766
theorem DL_767 : xd M_L 767 (.iload_n 3) 1 := dL_law_767
theorem DL_768 : xd M_L 768 (.iconst 2) 1 := dL_law_768
theorem DL_769 : xd M_L 769 (.iadd) 1 := dL_law_769
theorem DL_770 : xd M_L 770 (.iaload) 1 := dL_law_770
theorem DL_771 : xd M_L 771 (.aload_n 0) 1 := dL_law_771
theorem DL_772 : xd M_L 772 (.iload_n 3) 1 := dL_law_772
theorem DL_773 : xd M_L 773 (.iconst 3) 1 := dL_law_773
theorem DL_774 : xd M_L 774 (.iadd) 1 := dL_law_774
theorem DL_775 : xd M_L 775 (.iaload) 1 := dL_law_775
theorem DL_776 : xd M_L 776 (.invokevirtual 89) 3 := dL_law_776
theorem DL_779 : xd M_L 779 (.if_icmp .eq 611) 3 := dL_law_779
theorem DL_782 : xd M_L 782 (.iconst 0) 1 := dL_law_782
theorem DL_783 : xd M_L 783 (.ireturn) 1 := dL_law_783
theorem DL_784 : xd M_L 784 (.aload_n 1) 1 := dL_law_784
theorem DL_785 : xd M_L 785 (.aload_n 0) 1 := dL_law_785
theorem DL_786 : xd M_L 786 (.iload_n 3) 1 := dL_law_786
theorem DL_787 : xd M_L 787 (.iconst 1) 1 := dL_law_787
theorem DL_788 : xd M_L 788 (.iadd) 1 := dL_law_788
theorem DL_789 : xd M_L 789 (.iaload) 1 := dL_law_789
theorem DL_790 : xd M_L 790 (.aload_n 0) 1 := dL_law_790
theorem DL_791 : xd M_L 791 (.iload_n 3) 1 := dL_law_791
theorem DL_792 : xd M_L 792 (.iconst 2) 1 := dL_law_792
theorem DL_793 : xd M_L 793 (.iadd) 1 := dL_law_793
theorem DL_794 : xd M_L 794 (.iaload) 1 := dL_law_794
theorem DL_795 : xd M_L 795 (.invokevirtual 90) 3 := dL_law_795
theorem DL_798 : xd M_L 798 (.aload_n 2) 1 := dL_law_798
theorem DL_799 : xd M_L 799 (.aload_n 0) 1 := dL_law_799
theorem DL_800 : xd M_L 800 (.iload_n 3) 1 := dL_law_800
theorem DL_801 : xd M_L 801 (.iconst 1) 1 := dL_law_801
theorem DL_802 : xd M_L 802 (.iadd) 1 := dL_law_802
theorem DL_803 : xd M_L 803 (.iaload) 1 := dL_law_803
theorem DL_804 : xd M_L 804 (.aload_n 0) 1 := dL_law_804
theorem DL_805 : xd M_L 805 (.iload_n 3) 1 := dL_law_805
theorem DL_806 : xd M_L 806 (.iconst 2) 1 := dL_law_806
theorem DL_807 : xd M_L 807 (.iadd) 1 := dL_law_807
theorem DL_808 : xd M_L 808 (.iaload) 1 := dL_law_808
theorem DL_809 : xd M_L 809 (.invokevirtual 93) 3 := dL_law_809
theorem DL_812 : xd M_L 812 (.if_icmp .eq 578) 3 := dL_law_812
theorem DL_815 : xd M_L 815 (.iconst 0) 1 := dL_law_815
theorem DL_816 : xd M_L 816 (.ireturn) 1 := dL_law_816
theorem DL_817 : xd M_L 817 (.aload_n 1) 1 := dL_law_817
theorem DL_818 : xd M_L 818 (.aload_n 0) 1 := dL_law_818
theorem DL_819 : xd M_L 819 (.iload_n 3) 1 := dL_law_819
theorem DL_820 : xd M_L 820 (.iconst 1) 1 := dL_law_820
theorem DL_821 : xd M_L 821 (.iadd) 1 := dL_law_821
theorem DL_822 : xd M_L 822 (.iaload) 1 := dL_law_822
theorem DL_823 : xd M_L 823 (.aload_n 0) 1 := dL_law_823
theorem DL_824 : xd M_L 824 (.iload_n 3) 1 := dL_law_824
theorem DL_825 : xd M_L 825 (.iconst 2) 1 := dL_law_825
theorem DL_826 : xd M_L 826 (.iadd) 1 := dL_law_826
theorem DL_827 : xd M_L 827 (.iaload) 1 := dL_law_827
theorem DL_828 : xd M_L 828 (.aload_n 0) 1 := dL_law_828
theorem DL_829 : xd M_L 829 (.iload_n 3) 1 := dL_law_829
theorem DL_830 : xd M_L 830 (.iconst 3) 1 := dL_law_830
theorem DL_831 : xd M_L 831 (.iadd) 1 := dL_law_831
theorem DL_832 : xd M_L 832 (.iaload) 1 := dL_law_832
theorem DL_833 : xd M_L 833 (.invokevirtual 94) 3 := dL_law_833
theorem DL_836 : xd M_L 836 (.aload_n 2) 1 := dL_law_836
theorem DL_837 : xd M_L 837 (.aload_n 0) 1 := dL_law_837
theorem DL_838 : xd M_L 838 (.iload_n 3) 1 := dL_law_838
theorem DL_839 : xd M_L 839 (.iconst 1) 1 := dL_law_839
theorem DL_840 : xd M_L 840 (.iadd) 1 := dL_law_840
theorem DL_841 : xd M_L 841 (.iaload) 1 := dL_law_841
theorem DL_842 : xd M_L 842 (.aload_n 0) 1 := dL_law_842
theorem DL_843 : xd M_L 843 (.iload_n 3) 1 := dL_law_843
theorem DL_844 : xd M_L 844 (.iconst 2) 1 := dL_law_844
theorem DL_845 : xd M_L 845 (.iadd) 1 := dL_law_845
theorem DL_846 : xd M_L 846 (.iaload) 1 := dL_law_846
theorem DL_847 : xd M_L 847 (.aload_n 0) 1 := dL_law_847
theorem DL_848 : xd M_L 848 (.iload_n 3) 1 := dL_law_848
theorem DL_849 : xd M_L 849 (.iconst 3) 1 := dL_law_849
theorem DL_850 : xd M_L 850 (.iadd) 1 := dL_law_850
theorem DL_851 : xd M_L 851 (.iaload) 1 := dL_law_851
theorem DL_852 : xd M_L 852 (.invokevirtual 97) 3 := dL_law_852
theorem DL_855 : xd M_L 855 (.if_icmp .eq 535) 3 := dL_law_855
theorem DL_858 : xd M_L 858 (.iconst 0) 1 := dL_law_858
theorem DL_859 : xd M_L 859 (.ireturn) 1 := dL_law_859
theorem DL_860 : xd M_L 860 (.aload_n 1) 1 := dL_law_860
theorem DL_861 : xd M_L 861 (.aload_n 0) 1 := dL_law_861
theorem DL_862 : xd M_L 862 (.iload_n 3) 1 := dL_law_862
theorem DL_863 : xd M_L 863 (.iconst 1) 1 := dL_law_863
theorem DL_864 : xd M_L 864 (.iadd) 1 := dL_law_864
theorem DL_865 : xd M_L 865 (.iaload) 1 := dL_law_865
theorem DL_866 : xd M_L 866 (.aload_n 0) 1 := dL_law_866
theorem DL_867 : xd M_L 867 (.iload_n 3) 1 := dL_law_867
theorem DL_868 : xd M_L 868 (.iconst 2) 1 := dL_law_868
theorem DL_869 : xd M_L 869 (.iadd) 1 := dL_law_869
theorem DL_870 : xd M_L 870 (.iaload) 1 := dL_law_870
theorem DL_871 : xd M_L 871 (.i2l) 1 := dL_law_871
theorem DL_872 : xd M_L 872 (.bipush 32) 2 := dL_law_872
theorem DL_874 : xd M_L 874 (.lshl) 1 := dL_law_874
theorem DL_875 : xd M_L 875 (.aload_n 0) 1 := dL_law_875
theorem DL_876 : xd M_L 876 (.iload_n 3) 1 := dL_law_876
theorem DL_877 : xd M_L 877 (.iconst 3) 1 := dL_law_877
theorem DL_878 : xd M_L 878 (.iadd) 1 := dL_law_878
theorem DL_879 : xd M_L 879 (.iaload) 1 := dL_law_879
theorem DL_880 : xd M_L 880 (.i2l) 1 := dL_law_880
theorem DL_881 : xd M_L 881 (.ldc2_w 98) 3 := dL_law_881
theorem DL_884 : xd M_L 884 (.land) 1 := dL_law_884
theorem DL_885 : xd M_L 885 (.lor) 1 := dL_law_885
theorem DL_886 : xd M_L 886 (.invokevirtual 100) 3 := dL_law_886
theorem DL_889 : xd M_L 889 (.aload_n 2) 1 := dL_law_889
theorem DL_890 : xd M_L 890 (.aload_n 0) 1 := dL_law_890
theorem DL_891 : xd M_L 891 (.iload_n 3) 1 := dL_law_891
theorem DL_892 : xd M_L 892 (.iconst 1) 1 := dL_law_892
theorem DL_893 : xd M_L 893 (.iadd) 1 := dL_law_893
theorem DL_894 : xd M_L 894 (.iaload) 1 := dL_law_894
theorem DL_895 : xd M_L 895 (.aload_n 0) 1 := dL_law_895
theorem DL_896 : xd M_L 896 (.iload_n 3) 1 := dL_law_896
theorem DL_897 : xd M_L 897 (.iconst 2) 1 := dL_law_897
theorem DL_898 : xd M_L 898 (.iadd) 1 := dL_law_898
theorem DL_899 : xd M_L 899 (.iaload) 1 := dL_law_899
theorem DL_900 : xd M_L 900 (.i2l) 1 := dL_law_900
theorem DL_901 : xd M_L 901 (.bipush 32) 2 := dL_law_901
theorem DL_903 : xd M_L 903 (.lshl) 1 := dL_law_903
theorem DL_904 : xd M_L 904 (.aload_n 0) 1 := dL_law_904
theorem DL_905 : xd M_L 905 (.iload_n 3) 1 := dL_law_905
theorem DL_906 : xd M_L 906 (.iconst 3) 1 := dL_law_906
theorem DL_907 : xd M_L 907 (.iadd) 1 := dL_law_907
theorem DL_908 : xd M_L 908 (.iaload) 1 := dL_law_908
theorem DL_909 : xd M_L 909 (.i2l) 1 := dL_law_909
theorem DL_910 : xd M_L 910 (.ldc2_w 98) 3 := dL_law_910
theorem DL_913 : xd M_L 913 (.land) 1 := dL_law_913
theorem DL_914 : xd M_L 914 (.lor) 1 := dL_law_914
theorem DL_915 : xd M_L 915 (.invokevirtual 104) 3 := dL_law_915
theorem DL_918 : xd M_L 918 (.if_icmp .eq 472) 3 := dL_law_918
theorem DL_921 : xd M_L 921 (.iconst 0) 1 := dL_law_921
theorem DL_922 : xd M_L 922 (.ireturn) 1 := dL_law_922
theorem DL_923 : xd M_L 923 (.aload_n 1) 1 := dL_law_923
theorem DL_924 : xd M_L 924 (.aload_n 0) 1 := dL_law_924
theorem DL_925 : xd M_L 925 (.iload_n 3) 1 := dL_law_925
theorem DL_926 : xd M_L 926 (.iconst 1) 1 := dL_law_926
theorem DL_927 : xd M_L 927 (.iadd) 1 := dL_law_927
theorem DL_928 : xd M_L 928 (.iaload) 1 := dL_law_928
theorem DL_929 : xd M_L 929 (.invokevirtual 105) 3 := dL_law_929
theorem DL_932 : xd M_L 932 (.aload_n 2) 1 := dL_law_932
theorem DL_933 : xd M_L 933 (.aload_n 0) 1 := dL_law_933
theorem DL_934 : xd M_L 934 (.iload_n 3) 1 := dL_law_934
theorem DL_935 : xd M_L 935 (.iconst 1) 1 := dL_law_935
theorem DL_936 : xd M_L 936 (.iadd) 1 := dL_law_936
theorem DL_937 : xd M_L 937 (.iaload) 1 := dL_law_937
theorem DL_938 : xd M_L 938 (.invokevirtual 108) 3 := dL_law_938
theorem DL_941 : xd M_L 941 (.if_icmp .eq 449) 3 := dL_law_941
theorem DL_944 : xd M_L 944 (.iconst 0) 1 := dL_law_944
theorem DL_945 : xd M_L 945 (.ireturn) 1 := dL_law_945
theorem DL_946 : xd M_L 946 (.aload_n 1) 1 := dL_law_946
theorem DL_947 : xd M_L 947 (.invokevirtual 109) 3 := dL_law_947
theorem DL_950 : xd M_L 950 (.aload_n 2) 1 := dL_law_950
theorem DL_951 : xd M_L 951 (.invokevirtual 112) 3 := dL_law_951
theorem DL_954 : xd M_L 954 (.if_icmp .eq 436) 3 := dL_law_954
theorem DL_957 : xd M_L 957 (.iconst 0) 1 := dL_law_957
theorem DL_958 : xd M_L 958 (.ireturn) 1 := dL_law_958
theorem DL_959 : xd M_L 959 (.aload_n 1) 1 := dL_law_959
theorem DL_960 : xd M_L 960 (.aload_n 0) 1 := dL_law_960
theorem DL_961 : xd M_L 961 (.iload_n 3) 1 := dL_law_961
theorem DL_962 : xd M_L 962 (.iconst 1) 1 := dL_law_962
theorem DL_963 : xd M_L 963 (.iadd) 1 := dL_law_963
theorem DL_964 : xd M_L 964 (.iaload) 1 := dL_law_964
theorem DL_965 : xd M_L 965 (.invokevirtual 113) 3 := dL_law_965
theorem DL_968 : xd M_L 968 (.aload_n 2) 1 := dL_law_968
theorem DL_969 : xd M_L 969 (.aload_n 0) 1 := dL_law_969
theorem DL_970 : xd M_L 970 (.iload_n 3) 1 := dL_law_970
theorem DL_971 : xd M_L 971 (.iconst 1) 1 := dL_law_971
theorem DL_972 : xd M_L 972 (.iadd) 1 := dL_law_972
theorem DL_973 : xd M_L 973 (.iaload) 1 := dL_law_973
theorem DL_974 : xd M_L 974 (.invokevirtual 116) 3 := dL_law_974
theorem DL_977 : xd M_L 977 (.if_icmp .eq 413) 3 := dL_law_977
theorem DL_980 : xd M_L 980 (.iconst 0) 1 := dL_law_980
theorem DL_981 : xd M_L 981 (.ireturn) 1 := dL_law_981
theorem DL_982 : xd M_L 982 (.aload_n 1) 1 := dL_law_982
theorem DL_983 : xd M_L 983 (.aload_n 0) 1 := dL_law_983
theorem DL_984 : xd M_L 984 (.iload_n 3) 1 := dL_law_984
theorem DL_985 : xd M_L 985 (.iconst 1) 1 := dL_law_985
theorem DL_986 : xd M_L 986 (.iadd) 1 := dL_law_986
theorem DL_987 : xd M_L 987 (.iaload) 1 := dL_law_987
theorem DL_988 : xd M_L 988 (.aload_n 0) 1 := dL_law_988
theorem DL_989 : xd M_L 989 (.iload_n 3) 1 := dL_law_989
theorem DL_990 : xd M_L 990 (.iconst 2) 1 := dL_law_990
theorem DL_991 : xd M_L 991 (.iadd) 1 := dL_law_991
theorem DL_992 : xd M_L 992 (.iaload) 1 := dL_law_992
theorem DL_993 : xd M_L 993 (.aload_n 0) 1 := dL_law_993
theorem DL_994 : xd M_L 994 (.iload_n 3) 1 := dL_law_994
theorem DL_995 : xd M_L 995 (.iconst 3) 1 := dL_law_995
theorem DL_996 : xd M_L 996 (.iadd) 1 := dL_law_996
theorem DL_997 : xd M_L 997 (.iaload) 1 := dL_law_997
theorem DL_998 : xd M_L 998 (.aload_n 0) 1 := dL_law_998
theorem DL_999 : xd M_L 999 (.iload_n 3) 1 := dL_law_999
theorem DL_1000 : xd M_L 1000 (.iconst 4) 1 := dL_law_1000
theorem DL_1001 : xd M_L 1001 (.iadd) 1 := dL_law_1001
theorem DL_1002 : xd M_L 1002 (.iaload) 1 := dL_law_1002
theorem DL_1003 : xd M_L 1003 (.invokevirtual 117) 3 := dL_law_1003
theorem DL_1006 : xd M_L 1006 (.aload_n 2) 1 := dL_law_1006
theorem DL_1007 : xd M_L 1007 (.aload_n 0) 1 := dL_law_1007
theorem DL_1008 : xd M_L 1008 (.iload_n 3) 1 := dL_law_1008
theorem DL_1009 : xd M_L 1009 (.iconst 1) 1 := dL_law_1009
theorem DL_1010 : xd M_L 1010 (.iadd) 1 := dL_law_1010
theorem DL_1011 : xd M_L 1011 (.iaload) 1 := dL_law_1011
theorem DL_1012 : xd M_L 1012 (.aload_n 0) 1 := dL_law_1012
theorem DL_1013 : xd M_L 1013 (.iload_n 3) 1 := dL_law_1013
theorem DL_1014 : xd M_L 1014 (.iconst 2) 1 := dL_law_1014
theorem DL_1015 : xd M_L 1015 (.iadd) 1 := dL_law_1015
theorem DL_1016 : xd M_L 1016 (.iaload) 1 := dL_law_1016
theorem DL_1017 : xd M_L 1017 (.aload_n 0) 1 := dL_law_1017
theorem DL_1018 : xd M_L 1018 (.iload_n 3) 1 := dL_law_1018
theorem DL_1019 : xd M_L 1019 (.iconst 3) 1 := dL_law_1019
theorem DL_1020 : xd M_L 1020 (.iadd) 1 := dL_law_1020
theorem DL_1021 : xd M_L 1021 (.iaload) 1 := dL_law_1021
theorem DL_1022 : xd M_L 1022 (.aload_n 0) 1 := dL_law_1022
theorem DL_1023 : xd M_L 1023 (.iload_n 3) 1 := dL_law_1023
theorem DL_1024 : xd M_L 1024 (.iconst 4) 1 := dL_law_1024
theorem DL_1025 : xd M_L 1025 (.iadd) 1 := dL_law_1025
theorem DL_1026 : xd M_L 1026 (.iaload) 1 := dL_law_1026
theorem DL_1027 : xd M_L 1027 (.invokevirtual 120) 3 := dL_law_1027
theorem DL_1030 : xd M_L 1030 (.if_icmp .eq 360) 3 := dL_law_1030
theorem DL_1033 : xd M_L 1033 (.iconst 0) 1 := dL_law_1033
theorem DL_1034 : xd M_L 1034 (.ireturn) 1 := dL_law_1034
theorem DL_1035 : xd M_L 1035 (.aload_n 1) 1 := dL_law_1035
theorem DL_1036 : xd M_L 1036 (.aload_n 0) 1 := dL_law_1036
theorem DL_1037 : xd M_L 1037 (.iload_n 3) 1 := dL_law_1037
theorem DL_1038 : xd M_L 1038 (.iconst 1) 1 := dL_law_1038
theorem DL_1039 : xd M_L 1039 (.iadd) 1 := dL_law_1039
theorem DL_1040 : xd M_L 1040 (.iaload) 1 := dL_law_1040
theorem DL_1041 : xd M_L 1041 (.aload_n 0) 1 := dL_law_1041
theorem DL_1042 : xd M_L 1042 (.iload_n 3) 1 := dL_law_1042
theorem DL_1043 : xd M_L 1043 (.iconst 2) 1 := dL_law_1043
theorem DL_1044 : xd M_L 1044 (.iadd) 1 := dL_law_1044
theorem DL_1045 : xd M_L 1045 (.iaload) 1 := dL_law_1045
theorem DL_1046 : xd M_L 1046 (.invokevirtual 121) 3 := dL_law_1046
theorem DL_1049 : xd M_L 1049 (.aload_n 2) 1 := dL_law_1049
theorem DL_1050 : xd M_L 1050 (.aload_n 0) 1 := dL_law_1050
theorem DL_1051 : xd M_L 1051 (.iload_n 3) 1 := dL_law_1051
theorem DL_1052 : xd M_L 1052 (.iconst 1) 1 := dL_law_1052
theorem DL_1053 : xd M_L 1053 (.iadd) 1 := dL_law_1053
theorem DL_1054 : xd M_L 1054 (.iaload) 1 := dL_law_1054
theorem DL_1055 : xd M_L 1055 (.aload_n 0) 1 := dL_law_1055
theorem DL_1056 : xd M_L 1056 (.iload_n 3) 1 := dL_law_1056
theorem DL_1057 : xd M_L 1057 (.iconst 2) 1 := dL_law_1057
theorem DL_1058 : xd M_L 1058 (.iadd) 1 := dL_law_1058
theorem DL_1059 : xd M_L 1059 (.iaload) 1 := dL_law_1059
theorem DL_1060 : xd M_L 1060 (.invokevirtual 124) 3 := dL_law_1060
theorem DL_1063 : xd M_L 1063 (.if_icmp .eq 327) 3 := dL_law_1063
theorem DL_1066 : xd M_L 1066 (.iconst 0) 1 := dL_law_1066
theorem DL_1067 : xd M_L 1067 (.ireturn) 1 := dL_law_1067
theorem DL_1068 : xd M_L 1068 (.aload_n 1) 1 := dL_law_1068
theorem DL_1069 : xd M_L 1069 (.aload_n 0) 1 := dL_law_1069
theorem DL_1070 : xd M_L 1070 (.iload_n 3) 1 := dL_law_1070
theorem DL_1071 : xd M_L 1071 (.iconst 1) 1 := dL_law_1071
theorem DL_1072 : xd M_L 1072 (.iadd) 1 := dL_law_1072
theorem DL_1073 : xd M_L 1073 (.iaload) 1 := dL_law_1073
theorem DL_1074 : xd M_L 1074 (.aload_n 0) 1 := dL_law_1074
theorem DL_1075 : xd M_L 1075 (.iload_n 3) 1 := dL_law_1075
theorem DL_1076 : xd M_L 1076 (.iconst 2) 1 := dL_law_1076
theorem DL_1077 : xd M_L 1077 (.iadd) 1 := dL_law_1077
theorem DL_1078 : xd M_L 1078 (.iaload) 1 := dL_law_1078
theorem DL_1079 : xd M_L 1079 (.invokevirtual 125) 3 := dL_law_1079
theorem DL_1082 : xd M_L 1082 (.aload_n 2) 1 := dL_law_1082
theorem DL_1083 : xd M_L 1083 (.aload_n 0) 1 := dL_law_1083
theorem DL_1084 : xd M_L 1084 (.iload_n 3) 1 := dL_law_1084
theorem DL_1085 : xd M_L 1085 (.iconst 1) 1 := dL_law_1085
theorem DL_1086 : xd M_L 1086 (.iadd) 1 := dL_law_1086
theorem DL_1087 : xd M_L 1087 (.iaload) 1 := dL_law_1087
theorem DL_1088 : xd M_L 1088 (.aload_n 0) 1 := dL_law_1088
theorem DL_1089 : xd M_L 1089 (.iload_n 3) 1 := dL_law_1089
theorem DL_1090 : xd M_L 1090 (.iconst 2) 1 := dL_law_1090
theorem DL_1091 : xd M_L 1091 (.iadd) 1 := dL_law_1091
theorem DL_1092 : xd M_L 1092 (.iaload) 1 := dL_law_1092
theorem DL_1093 : xd M_L 1093 (.invokevirtual 129) 3 := dL_law_1093
theorem DL_1096 : xd M_L 1096 (.lcmp) 1 := dL_law_1096
theorem DL_1097 : xd M_L 1097 (.ifCond .eq 293) 3 := dL_law_1097
theorem DL_1100 : xd M_L 1100 (.iconst 0) 1 := dL_law_1100
theorem DL_1101 : xd M_L 1101 (.ireturn) 1 := dL_law_1101
theorem DL_1102 : xd M_L 1102 (.aload_n 1) 1 := dL_law_1102
theorem DL_1103 : xd M_L 1103 (.aload_n 0) 1 := dL_law_1103
theorem DL_1104 : xd M_L 1104 (.iload_n 3) 1 := dL_law_1104
theorem DL_1105 : xd M_L 1105 (.iconst 1) 1 := dL_law_1105
theorem DL_1106 : xd M_L 1106 (.iadd) 1 := dL_law_1106
theorem DL_1107 : xd M_L 1107 (.iaload) 1 := dL_law_1107
theorem DL_1108 : xd M_L 1108 (.aload_n 0) 1 := dL_law_1108
theorem DL_1109 : xd M_L 1109 (.iload_n 3) 1 := dL_law_1109
theorem DL_1110 : xd M_L 1110 (.iconst 2) 1 := dL_law_1110
theorem DL_1111 : xd M_L 1111 (.iadd) 1 := dL_law_1111
theorem DL_1112 : xd M_L 1112 (.iaload) 1 := dL_law_1112
theorem DL_1113 : xd M_L 1113 (.invokevirtual 130) 3 := dL_law_1113
theorem DL_1116 : xd M_L 1116 (.aload_n 2) 1 := dL_law_1116
theorem DL_1117 : xd M_L 1117 (.aload_n 0) 1 := dL_law_1117
theorem DL_1118 : xd M_L 1118 (.iload_n 3) 1 := dL_law_1118
theorem DL_1119 : xd M_L 1119 (.iconst 1) 1 := dL_law_1119
theorem DL_1120 : xd M_L 1120 (.iadd) 1 := dL_law_1120
theorem DL_1121 : xd M_L 1121 (.iaload) 1 := dL_law_1121
theorem DL_1122 : xd M_L 1122 (.aload_n 0) 1 := dL_law_1122
theorem DL_1123 : xd M_L 1123 (.iload_n 3) 1 := dL_law_1123
theorem DL_1124 : xd M_L 1124 (.iconst 2) 1 := dL_law_1124
theorem DL_1125 : xd M_L 1125 (.iadd) 1 := dL_law_1125
theorem DL_1126 : xd M_L 1126 (.iaload) 1 := dL_law_1126
theorem DL_1127 : xd M_L 1127 (.invokevirtual 133) 3 := dL_law_1127
theorem DL_1130 : xd M_L 1130 (.if_icmp .eq 260) 3 := dL_law_1130
theorem DL_1133 : xd M_L 1133 (.iconst 0) 1 := dL_law_1133
theorem DL_1134 : xd M_L 1134 (.ireturn) 1 := dL_law_1134
theorem DL_1135 : xd M_L 1135 (.aload_n 1) 1 := dL_law_1135
theorem DL_1136 : xd M_L 1136 (.aload_n 0) 1 := dL_law_1136
theorem DL_1137 : xd M_L 1137 (.iload_n 3) 1 := dL_law_1137
theorem DL_1138 : xd M_L 1138 (.iconst 1) 1 := dL_law_1138
theorem DL_1139 : xd M_L 1139 (.iadd) 1 := dL_law_1139
theorem DL_1140 : xd M_L 1140 (.iaload) 1 := dL_law_1140
theorem DL_1141 : xd M_L 1141 (.aload_n 0) 1 := dL_law_1141
theorem DL_1142 : xd M_L 1142 (.iload_n 3) 1 := dL_law_1142
theorem DL_1143 : xd M_L 1143 (.iconst 2) 1 := dL_law_1143
theorem DL_1144 : xd M_L 1144 (.iadd) 1 := dL_law_1144
theorem DL_1145 : xd M_L 1145 (.iaload) 1 := dL_law_1145
theorem DL_1146 : xd M_L 1146 (.aload_n 0) 1 := dL_law_1146
theorem DL_1147 : xd M_L 1147 (.iload_n 3) 1 := dL_law_1147
theorem DL_1148 : xd M_L 1148 (.iconst 3) 1 := dL_law_1148
theorem DL_1149 : xd M_L 1149 (.iadd) 1 := dL_law_1149
theorem DL_1150 : xd M_L 1150 (.iaload) 1 := dL_law_1150
theorem DL_1151 : xd M_L 1151 (.aload_n 0) 1 := dL_law_1151
theorem DL_1152 : xd M_L 1152 (.iload_n 3) 1 := dL_law_1152
theorem DL_1153 : xd M_L 1153 (.iconst 4) 1 := dL_law_1153
theorem DL_1154 : xd M_L 1154 (.iadd) 1 := dL_law_1154
theorem DL_1155 : xd M_L 1155 (.iaload) 1 := dL_law_1155
theorem DL_1156 : xd M_L 1156 (.invokevirtual 134) 3 := dL_law_1156
theorem DL_1159 : xd M_L 1159 (.aload_n 2) 1 := dL_law_1159
theorem DL_1160 : xd M_L 1160 (.aload_n 0) 1 := dL_law_1160
theorem DL_1161 : xd M_L 1161 (.iload_n 3) 1 := dL_law_1161
theorem DL_1162 : xd M_L 1162 (.iconst 1) 1 := dL_law_1162
theorem DL_1163 : xd M_L 1163 (.iadd) 1 := dL_law_1163
theorem DL_1164 : xd M_L 1164 (.iaload) 1 := dL_law_1164
theorem DL_1165 : xd M_L 1165 (.aload_n 0) 1 := dL_law_1165
theorem DL_1166 : xd M_L 1166 (.iload_n 3) 1 := dL_law_1166
theorem DL_1167 : xd M_L 1167 (.iconst 2) 1 := dL_law_1167
theorem DL_1168 : xd M_L 1168 (.iadd) 1 := dL_law_1168
theorem DL_1169 : xd M_L 1169 (.iaload) 1 := dL_law_1169
theorem DL_1170 : xd M_L 1170 (.aload_n 0) 1 := dL_law_1170
theorem DL_1171 : xd M_L 1171 (.iload_n 3) 1 := dL_law_1171
theorem DL_1172 : xd M_L 1172 (.iconst 3) 1 := dL_law_1172
theorem DL_1173 : xd M_L 1173 (.iadd) 1 := dL_law_1173
theorem DL_1174 : xd M_L 1174 (.iaload) 1 := dL_law_1174
theorem DL_1175 : xd M_L 1175 (.aload_n 0) 1 := dL_law_1175
theorem DL_1176 : xd M_L 1176 (.iload_n 3) 1 := dL_law_1176
theorem DL_1177 : xd M_L 1177 (.iconst 4) 1 := dL_law_1177
theorem DL_1178 : xd M_L 1178 (.iadd) 1 := dL_law_1178
theorem DL_1179 : xd M_L 1179 (.iaload) 1 := dL_law_1179
theorem DL_1180 : xd M_L 1180 (.invokevirtual 137) 3 := dL_law_1180
theorem DL_1183 : xd M_L 1183 (.if_icmp .eq 207) 3 := dL_law_1183
theorem DL_1186 : xd M_L 1186 (.iconst 0) 1 := dL_law_1186
theorem DL_1187 : xd M_L 1187 (.ireturn) 1 := dL_law_1187
theorem DL_1188 : xd M_L 1188 (.aload_n 1) 1 := dL_law_1188
theorem DL_1189 : xd M_L 1189 (.aload_n 0) 1 := dL_law_1189
theorem DL_1190 : xd M_L 1190 (.iload_n 3) 1 := dL_law_1190
theorem DL_1191 : xd M_L 1191 (.iconst 1) 1 := dL_law_1191
theorem DL_1192 : xd M_L 1192 (.iadd) 1 := dL_law_1192
theorem DL_1193 : xd M_L 1193 (.iaload) 1 := dL_law_1193
theorem DL_1194 : xd M_L 1194 (.aload_n 0) 1 := dL_law_1194
theorem DL_1195 : xd M_L 1195 (.iload_n 3) 1 := dL_law_1195
theorem DL_1196 : xd M_L 1196 (.iconst 2) 1 := dL_law_1196
theorem DL_1197 : xd M_L 1197 (.iadd) 1 := dL_law_1197
theorem DL_1198 : xd M_L 1198 (.iaload) 1 := dL_law_1198
theorem DL_1199 : xd M_L 1199 (.aload_n 0) 1 := dL_law_1199
theorem DL_1200 : xd M_L 1200 (.iload_n 3) 1 := dL_law_1200
theorem DL_1201 : xd M_L 1201 (.iconst 3) 1 := dL_law_1201
theorem DL_1202 : xd M_L 1202 (.iadd) 1 := dL_law_1202
theorem DL_1203 : xd M_L 1203 (.iaload) 1 := dL_law_1203
theorem DL_1204 : xd M_L 1204 (.aload_n 0) 1 := dL_law_1204
theorem DL_1205 : xd M_L 1205 (.iload_n 3) 1 := dL_law_1205
theorem DL_1206 : xd M_L 1206 (.iconst 4) 1 := dL_law_1206
theorem DL_1207 : xd M_L 1207 (.iadd) 1 := dL_law_1207
theorem DL_1208 : xd M_L 1208 (.iaload) 1 := dL_law_1208
theorem DL_1209 : xd M_L 1209 (.aload_n 0) 1 := dL_law_1209
theorem DL_1210 : xd M_L 1210 (.iload_n 3) 1 := dL_law_1210
theorem DL_1211 : xd M_L 1211 (.iconst 5) 1 := dL_law_1211
theorem DL_1212 : xd M_L 1212 (.iadd) 1 := dL_law_1212
theorem DL_1213 : xd M_L 1213 (.iaload) 1 := dL_law_1213
theorem DL_1214 : xd M_L 1214 (.invokevirtual 138) 3 := dL_law_1214
theorem DL_1217 : xd M_L 1217 (.aload_n 2) 1 := dL_law_1217
theorem DL_1218 : xd M_L 1218 (.aload_n 0) 1 := dL_law_1218
theorem DL_1219 : xd M_L 1219 (.iload_n 3) 1 := dL_law_1219
theorem DL_1220 : xd M_L 1220 (.iconst 1) 1 := dL_law_1220
theorem DL_1221 : xd M_L 1221 (.iadd) 1 := dL_law_1221
theorem DL_1222 : xd M_L 1222 (.iaload) 1 := dL_law_1222
theorem DL_1223 : xd M_L 1223 (.aload_n 0) 1 := dL_law_1223
theorem DL_1224 : xd M_L 1224 (.iload_n 3) 1 := dL_law_1224
theorem DL_1225 : xd M_L 1225 (.iconst 2) 1 := dL_law_1225
theorem DL_1226 : xd M_L 1226 (.iadd) 1 := dL_law_1226
theorem DL_1227 : xd M_L 1227 (.iaload) 1 := dL_law_1227
theorem DL_1228 : xd M_L 1228 (.aload_n 0) 1 := dL_law_1228
theorem DL_1229 : xd M_L 1229 (.iload_n 3) 1 := dL_law_1229
theorem DL_1230 : xd M_L 1230 (.iconst 3) 1 := dL_law_1230
theorem DL_1231 : xd M_L 1231 (.iadd) 1 := dL_law_1231
theorem DL_1232 : xd M_L 1232 (.iaload) 1 := dL_law_1232
theorem DL_1233 : xd M_L 1233 (.aload_n 0) 1 := dL_law_1233
theorem DL_1234 : xd M_L 1234 (.iload_n 3) 1 := dL_law_1234
theorem DL_1235 : xd M_L 1235 (.iconst 4) 1 := dL_law_1235
theorem DL_1236 : xd M_L 1236 (.iadd) 1 := dL_law_1236
theorem DL_1237 : xd M_L 1237 (.iaload) 1 := dL_law_1237
theorem DL_1238 : xd M_L 1238 (.aload_n 0) 1 := dL_law_1238
theorem DL_1239 : xd M_L 1239 (.iload_n 3) 1 := dL_law_1239
theorem DL_1240 : xd M_L 1240 (.iconst 5) 1 := dL_law_1240
theorem DL_1241 : xd M_L 1241 (.iadd) 1 := dL_law_1241
theorem DL_1242 : xd M_L 1242 (.iaload) 1 := dL_law_1242
theorem DL_1243 : xd M_L 1243 (.invokevirtual 142) 3 := dL_law_1243
theorem DL_1246 : xd M_L 1246 (.if_icmp .eq 144) 3 := dL_law_1246
theorem DL_1249 : xd M_L 1249 (.iconst 0) 1 := dL_law_1249
theorem DL_1250 : xd M_L 1250 (.ireturn) 1 := dL_law_1250
theorem DL_1251 : xd M_L 1251 (.aload_n 1) 1 := dL_law_1251
theorem DL_1252 : xd M_L 1252 (.aload_n 0) 1 := dL_law_1252
theorem DL_1253 : xd M_L 1253 (.iload_n 3) 1 := dL_law_1253
theorem DL_1254 : xd M_L 1254 (.iconst 1) 1 := dL_law_1254
theorem DL_1255 : xd M_L 1255 (.iadd) 1 := dL_law_1255
theorem DL_1256 : xd M_L 1256 (.iaload) 1 := dL_law_1256
theorem DL_1257 : xd M_L 1257 (.aload_n 0) 1 := dL_law_1257
theorem DL_1258 : xd M_L 1258 (.iload_n 3) 1 := dL_law_1258
theorem DL_1259 : xd M_L 1259 (.iconst 2) 1 := dL_law_1259
theorem DL_1260 : xd M_L 1260 (.iadd) 1 := dL_law_1260
theorem DL_1261 : xd M_L 1261 (.iaload) 1 := dL_law_1261
theorem DL_1262 : xd M_L 1262 (.aload_n 0) 1 := dL_law_1262
theorem DL_1263 : xd M_L 1263 (.iload_n 3) 1 := dL_law_1263
theorem DL_1264 : xd M_L 1264 (.iconst 3) 1 := dL_law_1264
theorem DL_1265 : xd M_L 1265 (.iadd) 1 := dL_law_1265
theorem DL_1266 : xd M_L 1266 (.iaload) 1 := dL_law_1266
theorem DL_1267 : xd M_L 1267 (.aload_n 0) 1 := dL_law_1267
theorem DL_1268 : xd M_L 1268 (.iload_n 3) 1 := dL_law_1268
theorem DL_1269 : xd M_L 1269 (.iconst 4) 1 := dL_law_1269
theorem DL_1270 : xd M_L 1270 (.iadd) 1 := dL_law_1270
theorem DL_1271 : xd M_L 1271 (.iaload) 1 := dL_law_1271
theorem DL_1272 : xd M_L 1272 (.invokevirtual 143) 3 := dL_law_1272
theorem DL_1275 : xd M_L 1275 (.aload_n 2) 1 := dL_law_1275
theorem DL_1276 : xd M_L 1276 (.aload_n 0) 1 := dL_law_1276
theorem DL_1277 : xd M_L 1277 (.iload_n 3) 1 := dL_law_1277
theorem DL_1278 : xd M_L 1278 (.iconst 1) 1 := dL_law_1278
theorem DL_1279 : xd M_L 1279 (.iadd) 1 := dL_law_1279
theorem DL_1280 : xd M_L 1280 (.iaload) 1 := dL_law_1280
theorem DL_1281 : xd M_L 1281 (.aload_n 0) 1 := dL_law_1281
theorem DL_1282 : xd M_L 1282 (.iload_n 3) 1 := dL_law_1282
theorem DL_1283 : xd M_L 1283 (.iconst 2) 1 := dL_law_1283
theorem DL_1284 : xd M_L 1284 (.iadd) 1 := dL_law_1284
theorem DL_1285 : xd M_L 1285 (.iaload) 1 := dL_law_1285
theorem DL_1286 : xd M_L 1286 (.aload_n 0) 1 := dL_law_1286
theorem DL_1287 : xd M_L 1287 (.iload_n 3) 1 := dL_law_1287
theorem DL_1288 : xd M_L 1288 (.iconst 3) 1 := dL_law_1288
theorem DL_1289 : xd M_L 1289 (.iadd) 1 := dL_law_1289
theorem DL_1290 : xd M_L 1290 (.iaload) 1 := dL_law_1290
theorem DL_1291 : xd M_L 1291 (.aload_n 0) 1 := dL_law_1291
theorem DL_1292 : xd M_L 1292 (.iload_n 3) 1 := dL_law_1292
theorem DL_1293 : xd M_L 1293 (.iconst 4) 1 := dL_law_1293
theorem DL_1294 : xd M_L 1294 (.iadd) 1 := dL_law_1294
theorem DL_1295 : xd M_L 1295 (.iaload) 1 := dL_law_1295
theorem DL_1296 : xd M_L 1296 (.invokevirtual 146) 3 := dL_law_1296
theorem DL_1299 : xd M_L 1299 (.if_icmp .eq 91) 3 := dL_law_1299
theorem DL_1302 : xd M_L 1302 (.iconst 0) 1 := dL_law_1302
theorem DL_1303 : xd M_L 1303 (.ireturn) 1 := dL_law_1303
theorem DL_1304 : xd M_L 1304 (.aload_n 1) 1 := dL_law_1304
theorem DL_1305 : xd M_L 1305 (.aload_n 0) 1 := dL_law_1305
theorem DL_1306 : xd M_L 1306 (.iload_n 3) 1 := dL_law_1306
theorem DL_1307 : xd M_L 1307 (.iconst 1) 1 := dL_law_1307
theorem DL_1308 : xd M_L 1308 (.iadd) 1 := dL_law_1308
theorem DL_1309 : xd M_L 1309 (.iaload) 1 := dL_law_1309
theorem DL_1310 : xd M_L 1310 (.aload_n 0) 1 := dL_law_1310
theorem DL_1311 : xd M_L 1311 (.iload_n 3) 1 := dL_law_1311
theorem DL_1312 : xd M_L 1312 (.iconst 2) 1 := dL_law_1312
theorem DL_1313 : xd M_L 1313 (.iadd) 1 := dL_law_1313
theorem DL_1314 : xd M_L 1314 (.iaload) 1 := dL_law_1314
theorem DL_1315 : xd M_L 1315 (.aload_n 0) 1 := dL_law_1315
theorem DL_1316 : xd M_L 1316 (.iload_n 3) 1 := dL_law_1316
theorem DL_1317 : xd M_L 1317 (.iconst 3) 1 := dL_law_1317
theorem DL_1318 : xd M_L 1318 (.iadd) 1 := dL_law_1318
theorem DL_1319 : xd M_L 1319 (.iaload) 1 := dL_law_1319
theorem DL_1320 : xd M_L 1320 (.aload_n 0) 1 := dL_law_1320
theorem DL_1321 : xd M_L 1321 (.iload_n 3) 1 := dL_law_1321
theorem DL_1322 : xd M_L 1322 (.iconst 4) 1 := dL_law_1322
theorem DL_1323 : xd M_L 1323 (.iadd) 1 := dL_law_1323
theorem DL_1324 : xd M_L 1324 (.iaload) 1 := dL_law_1324
theorem DL_1325 : xd M_L 1325 (.invokevirtual 147) 3 := dL_law_1325
theorem DL_1328 : xd M_L 1328 (.aload_n 2) 1 := dL_law_1328
theorem DL_1329 : xd M_L 1329 (.aload_n 0) 1 := dL_law_1329
theorem DL_1330 : xd M_L 1330 (.iload_n 3) 1 := dL_law_1330
theorem DL_1331 : xd M_L 1331 (.iconst 1) 1 := dL_law_1331
theorem DL_1332 : xd M_L 1332 (.iadd) 1 := dL_law_1332
theorem DL_1333 : xd M_L 1333 (.iaload) 1 := dL_law_1333
theorem DL_1334 : xd M_L 1334 (.aload_n 0) 1 := dL_law_1334
theorem DL_1335 : xd M_L 1335 (.iload_n 3) 1 := dL_law_1335
theorem DL_1336 : xd M_L 1336 (.iconst 2) 1 := dL_law_1336
theorem DL_1337 : xd M_L 1337 (.iadd) 1 := dL_law_1337
theorem DL_1338 : xd M_L 1338 (.iaload) 1 := dL_law_1338
theorem DL_1339 : xd M_L 1339 (.aload_n 0) 1 := dL_law_1339
theorem DL_1340 : xd M_L 1340 (.iload_n 3) 1 := dL_law_1340
theorem DL_1341 : xd M_L 1341 (.iconst 3) 1 := dL_law_1341
theorem DL_1342 : xd M_L 1342 (.iadd) 1 := dL_law_1342
theorem DL_1343 : xd M_L 1343 (.iaload) 1 := dL_law_1343
theorem DL_1344 : xd M_L 1344 (.aload_n 0) 1 := dL_law_1344
theorem DL_1345 : xd M_L 1345 (.iload_n 3) 1 := dL_law_1345
theorem DL_1346 : xd M_L 1346 (.iconst 4) 1 := dL_law_1346
theorem DL_1347 : xd M_L 1347 (.iadd) 1 := dL_law_1347
theorem DL_1348 : xd M_L 1348 (.iaload) 1 := dL_law_1348
theorem DL_1349 : xd M_L 1349 (.invokevirtual 150) 3 := dL_law_1349
theorem DL_1352 : xd M_L 1352 (.if_icmp .eq 38) 3 := dL_law_1352
theorem DL_1355 : xd M_L 1355 (.iconst 0) 1 := dL_law_1355
theorem DL_1356 : xd M_L 1356 (.ireturn) 1 := dL_law_1356
theorem DL_1357 : xd M_L 1357 (.aload_n 1) 1 := dL_law_1357
theorem DL_1358 : xd M_L 1358 (.aload_n 0) 1 := dL_law_1358
theorem DL_1359 : xd M_L 1359 (.iload_n 3) 1 := dL_law_1359
theorem DL_1360 : xd M_L 1360 (.iconst 1) 1 := dL_law_1360
theorem DL_1361 : xd M_L 1361 (.iadd) 1 := dL_law_1361
theorem DL_1362 : xd M_L 1362 (.iaload) 1 := dL_law_1362
theorem DL_1363 : xd M_L 1363 (.aload_n 0) 1 := dL_law_1363
theorem DL_1364 : xd M_L 1364 (.iload_n 3) 1 := dL_law_1364
theorem DL_1365 : xd M_L 1365 (.iconst 2) 1 := dL_law_1365
theorem DL_1366 : xd M_L 1366 (.iadd) 1 := dL_law_1366
theorem DL_1367 : xd M_L 1367 (.iaload) 1 := dL_law_1367
theorem DL_1368 : xd M_L 1368 (.invokevirtual 151) 3 := dL_law_1368
theorem DL_1371 : xd M_L 1371 (.aload_n 2) 1 := dL_law_1371
theorem DL_1372 : xd M_L 1372 (.aload_n 0) 1 := dL_law_1372
theorem DL_1373 : xd M_L 1373 (.iload_n 3) 1 := dL_law_1373
theorem DL_1374 : xd M_L 1374 (.iconst 1) 1 := dL_law_1374
theorem DL_1375 : xd M_L 1375 (.iadd) 1 := dL_law_1375
theorem DL_1376 : xd M_L 1376 (.iaload) 1 := dL_law_1376
theorem DL_1377 : xd M_L 1377 (.aload_n 0) 1 := dL_law_1377
theorem DL_1378 : xd M_L 1378 (.iload_n 3) 1 := dL_law_1378
theorem DL_1379 : xd M_L 1379 (.iconst 2) 1 := dL_law_1379
theorem DL_1380 : xd M_L 1380 (.iadd) 1 := dL_law_1380
theorem DL_1381 : xd M_L 1381 (.iaload) 1 := dL_law_1381
theorem DL_1382 : xd M_L 1382 (.invokevirtual 154) 3 := dL_law_1382
theorem DL_1385 : xd M_L 1385 (.if_icmp .eq 5) 3 := dL_law_1385
theorem DL_1388 : xd M_L 1388 (.iconst 0) 1 := dL_law_1388
theorem DL_1389 : xd M_L 1389 (.ireturn) 1 := dL_law_1389
theorem DL_1390 : xd M_L 1390 (.iinc 3 6) 3 := dL_law_1390
theorem DL_1393 : xd M_L 1393 (.goto (-1375)) 3 := dL_law_1393
theorem DL_1396 : xd M_L 1396 (.iconst 1) 1 := dL_law_1396
theorem DL_1397 : xd M_L 1397 (.ireturn) 1 := dL_law_1397
/-- places: both models answer alike, and keep the invariant -/
def xP_places (N : Nat) (Inv : xT → xT → Prop) : Prop := (∀ (y1 : Int32) (a b : xT), Inv a b → ∃ r a2 b2, f_X7_places N y1 a = some (r, a2) ∧ f_X8_places N y1 b = some (r, b2) ∧ Inv a2 b2)
/-- island: both models answer alike, and keep the invariant -/
def xP_island (N : Nat) (Inv : xT → xT → Prop) : Prop := (∀ (y1 : Int32) (y2 : Int32) (y3 : Int32) (a b : xT), Inv a b → ∃ r a2 b2, f_X7_island y1 y2 y3 a = some (r, a2) ∧ f_X8_island y1 y2 y3 b = some (r, b2) ∧ Inv a2 b2)
/-- is: both models answer alike, and keep the invariant -/
def xP_is (N : Nat) (Inv : xT → xT → Prop) : Prop := (∀ (y1 : Int32) (a b : xT), Inv a b → ∃ r, f_X7_is y1 a = some r ∧ f_X8_is y1 b = some r ∧ Inv a b)
/-- turned: both models answer alike, and keep the invariant -/
def xP_turned (N : Nat) (Inv : xT → xT → Prop) : Prop := (∀ (y1 : Int32) (a b : xT), Inv a b → ∃ r, f_X7_turned N y1 a = some r ∧ f_X8_turned N y1 b = some r ∧ Inv a b)
/-- may: both models answer alike, and keep the invariant -/
def xP_may (N : Nat) (Inv : xT → xT → Prop) : Prop := (∀ (y1 : Int32) (y2 : Int32) (y3 : Int32) (a b : xT), Inv a b → ∃ r, f_X7_may N y1 y2 y3 a = some r ∧ f_X8_may N y1 y2 y3 b = some r ∧ Inv a b)
/-- between: both models answer alike, and keep the invariant -/
def xP_between (N : Nat) (Inv : xT → xT → Prop) : Prop := (∀ (y1 : Int32) (y2 : Int32) (y3 : Int32) (a b : xT), Inv a b → ∃ r, f_X7_between N y1 y2 y3 a = some r ∧ f_X8_between N y1 y2 y3 b = some r ∧ Inv a b)
/-- fills: both models answer alike, and keep the invariant -/
def xP_fills (N : Nat) (Inv : xT → xT → Prop) : Prop := (∀ (y1 : Int32) (a b : xT), Inv a b → ∃ r, f_X7_fills N y1 a = some r ∧ f_X8_fills N y1 b = some r ∧ Inv a b)
/-- add: both models answer alike, and keep the invariant -/
def xP_add (N : Nat) (Inv : xT → xT → Prop) : Prop := (∀ (y1 : Int32) (y2 : Int32) (a b : xT), Inv a b → ∃ r a2 b2, f_X7_add y1 y2 a = some (r, a2) ∧ f_X8_add N y1 y2 b = some (r, b2) ∧ Inv a2 b2)
/-- drop: both models answer alike, and keep the invariant -/
def xP_drop (N : Nat) (Inv : xT → xT → Prop) : Prop := (∀ (y1 : Int32) (y2 : Int32) (a b : xT), Inv a b → ∃ r a2 b2, f_X7_drop y1 y2 a = some (r, a2) ∧ f_X8_drop N y1 y2 b = some (r, b2) ∧ Inv a2 b2)
/-- clear: both models answer alike, and keep the invariant -/
def xP_clear (N : Nat) (Inv : xT → xT → Prop) : Prop := (∀ (y1 : Int32) (a b : xT), Inv a b → ∃ r a2 b2, f_X7_clear N y1 a = some (r, a2) ∧ f_X8_clear y1 b = some (r, b2) ∧ Inv a2 b2)
/-- mark: both models answer alike, and keep the invariant -/
def xP_mark (N : Nat) (Inv : xT → xT → Prop) : Prop := (∀ (y1 : Int32) (y2 : Int32) (a b : xT), Inv a b → ∃ r, f_X7_mark y1 y2 a = some r ∧ f_X8_mark y1 y2 b = some r ∧ Inv a b)
/-- good: both models answer alike, and keep the invariant -/
def xP_good (N : Nat) (Inv : xT → xT → Prop) : Prop := (∀ (y1 : Int32) (y2 : Int32) (a b : xT), Inv a b → ∃ r, f_X7_good N y1 y2 a = some r ∧ f_X8_good N y1 y2 b = some r ∧ Inv a b)
/-- build: both models answer alike, and keep the invariant -/
def xP_build (N : Nat) (Inv : xT → xT → Prop) : Prop := (∀ (y1 : Int32) (y2 : Int32) (y3 : Int32) (a b : xT), Inv a b → ∃ r a2 b2, f_X7_build N y1 y2 y3 a = some (r, a2) ∧ f_X8_build N y1 y2 y3 b = some (r, b2) ∧ Inv a2 b2)
/-- most: both models answer alike, and keep the invariant -/
def xP_most (N : Nat) (Inv : xT → xT → Prop) : Prop := (∀ (y1 : Int32) (y2 : Int32) (a b : xT), Inv a b → ∃ r a2 b2, f_X7_most N y1 y2 a = some (r, a2) ∧ f_X8_most N y1 y2 b = some (r, b2) ∧ Inv a2 b2)
/-- bound: both models answer alike, and keep the invariant -/
def xP_bound (N : Nat) (Inv : xT → xT → Prop) : Prop := (∀ (a b : xT), Inv a b → ∃ r, f_X7_bound N a = some r ∧ f_X8_bound N b = some r ∧ Inv a b)
/-- lay: both models answer alike, and keep the invariant -/
def xP_lay (N : Nat) (Inv : xT → xT → Prop) : Prop := (∀ (y1 : Int32) (y2 : Int32) (y3 : Int32) (y4 : Int32) (a b : xT), Inv a b → ∃ r a2 b2, f_X7_lay N y1 y2 y3 y4 a = some (r, a2) ∧ f_X8_lay N y1 y2 y3 y4 b = some (r, b2) ∧ Inv a2 b2)
/-- join: both models answer alike, and keep the invariant -/
def xP_join (N : Nat) (Inv : xT → xT → Prop) : Prop := (∀ (y1 : Int32) (y2 : Int32) (y3 : Int32) (a b : xT), Inv a b → ∃ r a2 b2, f_X7_join N y1 y2 y3 a = some (r, a2) ∧ f_X8_join N y1 y2 y3 b = some (r, b2) ∧ Inv a2 b2)
/-- shorten: both models answer alike, and keep the invariant -/
def xP_shorten (N : Nat) (Inv : xT → xT → Prop) : Prop := (∀ (y1 : Int32) (y2 : Int32) (y3 : Int32) (a b : xT), Inv a b → ∃ r a2 b2, f_X7_shorten N y1 y2 y3 a = some (r, a2) ∧ f_X8_shorten N y1 y2 y3 b = some (r, b2) ∧ Inv a2 b2)
/-- turn: both models answer alike, and keep the invariant -/
def xP_turn (N : Nat) (Inv : xT → xT → Prop) : Prop := (∀ (y1 : Int32) (y2 : Int32) (a b : xT), Inv a b → ∃ r a2 b2, f_X7_turn N y1 y2 a = some (r, a2) ∧ f_X8_turn N y1 y2 b = some (r, b2) ∧ Inv a2 b2)
/-- even: both models answer alike, and keep the invariant -/
def xP_even (N : Nat) (Inv : xT → xT → Prop) : Prop := (∀ (y1 : Int32) (y2 : Int32) (y3 : Int32) (a b : xT), Inv a b → ∃ r a2 b2, f_X7_even N y1 y2 y3 a = some (r, a2) ∧ f_X8_even N y1 y2 y3 b = some (r, b2) ∧ Inv a2 b2)
/-- feed: both models answer alike, and keep the invariant -/
def xP_feed (N : Nat) (Inv : xT → xT → Prop) : Prop := (∀ (y1 : Int32) (y2 : Int64) (a b : xT), Inv a b → ∃ r a2 b2, f_X7_feed N y1 y2 a = some (r, a2) ∧ f_X8_feed N y1 y2 b = some (r, b2) ∧ Inv a2 b2)
/-- read: both models answer alike, and keep the invariant -/
def xP_read (N : Nat) (Inv : xT → xT → Prop) : Prop := (∀ (y1 : Int32) (a b : xT), Inv a b → ∃ r a2 b2, f_X7_read N y1 a = some (r, a2) ∧ f_X8_read N y1 b = some (r, b2) ∧ Inv a2 b2)
/-- fault: both models answer alike, and keep the invariant -/
def xP_fault (N : Nat) (Inv : xT → xT → Prop) : Prop := (∀ (a b : xT), Inv a b → ∃ r, f_X7_fault a = some r ∧ f_X8_fault b = some r ∧ Inv a b)
/-- count: both models answer alike, and keep the invariant -/
def xP_count (N : Nat) (Inv : xT → xT → Prop) : Prop := (∀ (y1 : Int32) (a b : xT), Inv a b → ∃ r, f_X7_count N y1 a = some r ∧ f_X8_count N y1 b = some r ∧ Inv a b)
/-- owner: both models answer alike, and keep the invariant -/
def xP_owner (N : Nat) (Inv : xT → xT → Prop) : Prop := (∀ (y1 : Int32) (y2 : Int32) (y3 : Int32) (y4 : Int32) (a b : xT), Inv a b → ∃ r, f_X7_owner N y1 y2 y3 y4 a = some r ∧ f_X8_owner N y1 y2 y3 y4 b = some r ∧ Inv a b)
/-- look: both models answer alike, and keep the invariant -/
def xP_look (N : Nat) (Inv : xT → xT → Prop) : Prop := (∀ (y1 : Int32) (y2 : Int32) (a b : xT), Inv a b → ∃ r a2 b2, f_X7_look y1 y2 a = some (r, a2) ∧ f_X8_look y1 y2 b = some (r, b2) ∧ Inv a2 b2)
/-- chance: both models answer alike, and keep the invariant -/
def xP_chance (N : Nat) (Inv : xT → xT → Prop) : Prop := (∀ (y1 : Int32) (y2 : Int32) (a b : xT), Inv a b → ∃ r, f_X7_chance N y1 y2 a = some r ∧ f_X8_chance N y1 y2 b = some r ∧ Inv a b)
/-- likely: both models answer alike, and keep the invariant -/
def xP_likely (N : Nat) (Inv : xT → xT → Prop) : Prop := (∀ (y1 : Int32) (y2 : Int32) (a b : xT), Inv a b → ∃ r a2 b2, f_X7_likely N y1 y2 a = some (r, a2) ∧ f_X8_likely N y1 y2 b = some (r, b2) ∧ Inv a2 b2)
/-- heap: both models answer alike, and keep the invariant -/
def xP_heap (N : Nat) (Inv : xT → xT → Prop) : Prop := (∀ (y1 : Int32) (y2 : Int32) (y3 : Int32) (y4 : Int32) (a b : xT), Inv a b → ∃ r a2 b2, f_X7_heap N y1 y2 y3 y4 a = some (r, a2) ∧ f_X8_heap N y1 y2 y3 y4 b = some (r, b2) ∧ Inv a2 b2)
/-- make: both models answer alike, and keep the invariant -/
def xP_make (N : Nat) (Inv : xT → xT → Prop) : Prop := (∀ (y1 : Int32) (y2 : Int32) (y3 : Int32) (y4 : Int32) (y5 : Int32) (a b : xT), Inv a b → ∃ r, f_X7_make y1 y2 y3 y4 y5 a = some r ∧ f_X8_make y1 y2 y3 y4 y5 b = some r ∧ Inv a b)
/-- trace: both models answer alike, and keep the invariant -/
def xP_trace (N : Nat) (Inv : xT → xT → Prop) : Prop := (∀ (y1 : Int32) (y2 : Int32) (y3 : Int32) (y4 : Int32) (a b : xT), Inv a b → ∃ r a2 b2, f_X7_trace N y1 y2 y3 y4 a = some (r, a2) ∧ f_X8_trace N y1 y2 y3 y4 b = some (r, b2) ∧ Inv a2 b2)
/-- inAll: both models answer alike, and keep the invariant -/
def xP_inAll (N : Nat) (Inv : xT → xT → Prop) : Prop := (∀ (y1 : Int32) (y2 : Int32) (y3 : Int32) (y4 : Int32) (a b : xT), Inv a b → ∃ r a2 b2, f_X7_inAll N y1 y2 y3 y4 a = some (r, a2) ∧ f_X8_inAll N y1 y2 y3 y4 b = some (r, b2) ∧ Inv a2 b2)
/-- framed: both models answer alike, and keep the invariant -/
def xP_framed (N : Nat) (Inv : xT → xT → Prop) : Prop := (∀ (y1 : Int32) (y2 : Int32) (a b : xT), Inv a b → ∃ r a2 b2, f_X7_framed N y1 y2 a = some (r, a2) ∧ f_X8_framed N y1 y2 b = some (r, b2) ∧ Inv a2 b2)
def xAll (N : Nat) (Inv : xT → xT → Prop) : Prop := xP_places N Inv ∧ xP_island N Inv ∧ xP_is N Inv ∧ xP_turned N Inv ∧ xP_may N Inv ∧ xP_between N Inv ∧ xP_fills N Inv ∧ xP_add N Inv ∧ xP_drop N Inv ∧ xP_clear N Inv ∧ xP_mark N Inv ∧ xP_good N Inv ∧ xP_build N Inv ∧ xP_most N Inv ∧ xP_bound N Inv ∧ xP_lay N Inv ∧ xP_join N Inv ∧ xP_shorten N Inv ∧ xP_turn N Inv ∧ xP_even N Inv ∧ xP_feed N Inv ∧ xP_read N Inv ∧ xP_fault N Inv ∧ xP_count N Inv ∧ xP_owner N Inv ∧ xP_look N Inv ∧ xP_chance N Inv ∧ xP_likely N Inv ∧ xP_heap N Inv ∧ xP_make N Inv ∧ xP_trace N Inv ∧ xP_inAll N Inv ∧ xP_framed N Inv
theorem CL_X7_places : xCV RL 13 yX7_places M_X7_places 1 := ⟨x_in 324 (by decide +kernel) rfl, x_in 325 (by decide +kernel) rfl, x_in 326 (by decide +kernel) rfl, x_in 78 (by decide +kernel) rfl, x_in 327 (by decide +kernel) rfl, by decide +kernel⟩
theorem CL_X8_places : xCV RL 17 yX8_places M_X8_places 1 := ⟨x_in 1009 (by decide +kernel) rfl, x_in 1010 (by decide +kernel) rfl, x_in 1011 (by decide +kernel) rfl, x_in 87 (by decide +kernel) rfl, x_in 1012 (by decide +kernel) rfl, by decide +kernel⟩
theorem CL_X7_island : xCV RL 18 yX7_island M_X7_island 3 := ⟨x_in 343 (by decide +kernel) rfl, x_in 344 (by decide +kernel) rfl, x_in 345 (by decide +kernel) rfl, x_in 78 (by decide +kernel) rfl, x_in 346 (by decide +kernel) rfl, by decide +kernel⟩
theorem CL_X8_island : xCV RL 22 yX8_island M_X8_island 3 := ⟨x_in 1018 (by decide +kernel) rfl, x_in 1019 (by decide +kernel) rfl, x_in 1020 (by decide +kernel) rfl, x_in 87 (by decide +kernel) rfl, x_in 1021 (by decide +kernel) rfl, by decide +kernel⟩
theorem CL_X7_is : xCV RL 23 yX7_is M_X7_is 1 := ⟨x_in 350 (by decide +kernel) rfl, x_in 351 (by decide +kernel) rfl, x_in 352 (by decide +kernel) rfl, x_in 78 (by decide +kernel) rfl, x_in 353 (by decide +kernel) rfl, by decide +kernel⟩
theorem CL_X8_is : xCV RL 26 yX8_is M_X8_is 1 := ⟨x_in 1024 (by decide +kernel) rfl, x_in 1025 (by decide +kernel) rfl, x_in 1026 (by decide +kernel) rfl, x_in 87 (by decide +kernel) rfl, x_in 1027 (by decide +kernel) rfl, by decide +kernel⟩
theorem CL_X7_turned : xCV RL 27 yX7_turned M_X7_turned 1 := ⟨x_in 354 (by decide +kernel) rfl, x_in 355 (by decide +kernel) rfl, x_in 356 (by decide +kernel) rfl, x_in 78 (by decide +kernel) rfl, x_in 357 (by decide +kernel) rfl, by decide +kernel⟩
theorem CL_X8_turned : xCV RL 30 yX8_turned M_X8_turned 1 := ⟨x_in 1028 (by decide +kernel) rfl, x_in 1029 (by decide +kernel) rfl, x_in 1030 (by decide +kernel) rfl, x_in 87 (by decide +kernel) rfl, x_in 1031 (by decide +kernel) rfl, by decide +kernel⟩
theorem CL_X7_may : xCV RL 31 yX7_may M_X7_may 3 := ⟨x_in 370 (by decide +kernel) rfl, x_in 371 (by decide +kernel) rfl, x_in 372 (by decide +kernel) rfl, x_in 78 (by decide +kernel) rfl, x_in 373 (by decide +kernel) rfl, by decide +kernel⟩
theorem CL_X8_may : xCV RL 34 yX8_may M_X8_may 3 := ⟨x_in 1040 (by decide +kernel) rfl, x_in 1041 (by decide +kernel) rfl, x_in 1042 (by decide +kernel) rfl, x_in 87 (by decide +kernel) rfl, x_in 1043 (by decide +kernel) rfl, by decide +kernel⟩
theorem CL_X7_between : xCV RL 35 yX7_between M_X7_between 3 := ⟨x_in 398 (by decide +kernel) rfl, x_in 399 (by decide +kernel) rfl, x_in 400 (by decide +kernel) rfl, x_in 78 (by decide +kernel) rfl, x_in 401 (by decide +kernel) rfl, by decide +kernel⟩
theorem CL_X8_between : xCV RL 38 yX8_between M_X8_between 3 := ⟨x_in 1059 (by decide +kernel) rfl, x_in 1060 (by decide +kernel) rfl, x_in 1061 (by decide +kernel) rfl, x_in 87 (by decide +kernel) rfl, x_in 1062 (by decide +kernel) rfl, by decide +kernel⟩
theorem CL_X7_fills : xCV RL 39 yX7_fills M_X7_fills 1 := ⟨x_in 435 (by decide +kernel) rfl, x_in 436 (by decide +kernel) rfl, x_in 437 (by decide +kernel) rfl, x_in 78 (by decide +kernel) rfl, x_in 438 (by decide +kernel) rfl, by decide +kernel⟩
theorem CL_X8_fills : xCV RL 42 yX8_fills M_X8_fills 1 := ⟨x_in 1075 (by decide +kernel) rfl, x_in 1076 (by decide +kernel) rfl, x_in 1077 (by decide +kernel) rfl, x_in 87 (by decide +kernel) rfl, x_in 1078 (by decide +kernel) rfl, by decide +kernel⟩
theorem CL_X7_add : xCV RL 43 yX7_add M_X7_add 2 := ⟨x_in 457 (by decide +kernel) rfl, x_in 458 (by decide +kernel) rfl, x_in 459 (by decide +kernel) rfl, x_in 78 (by decide +kernel) rfl, x_in 460 (by decide +kernel) rfl, by decide +kernel⟩
theorem CL_X8_add : xCV RL 47 yX8_add M_X8_add 2 := ⟨x_in 1093 (by decide +kernel) rfl, x_in 1094 (by decide +kernel) rfl, x_in 1095 (by decide +kernel) rfl, x_in 87 (by decide +kernel) rfl, x_in 1096 (by decide +kernel) rfl, by decide +kernel⟩
theorem CL_X7_drop : xCV RL 48 yX7_drop M_X7_drop 2 := ⟨x_in 472 (by decide +kernel) rfl, x_in 473 (by decide +kernel) rfl, x_in 474 (by decide +kernel) rfl, x_in 78 (by decide +kernel) rfl, x_in 475 (by decide +kernel) rfl, by decide +kernel⟩
theorem CL_X8_drop : xCV RL 51 yX8_drop M_X8_drop 2 := ⟨x_in 1113 (by decide +kernel) rfl, x_in 1114 (by decide +kernel) rfl, x_in 1115 (by decide +kernel) rfl, x_in 87 (by decide +kernel) rfl, x_in 1116 (by decide +kernel) rfl, by decide +kernel⟩
theorem CL_X7_clear : xCV RL 52 yX7_clear M_X7_clear 1 := ⟨x_in 488 (by decide +kernel) rfl, x_in 489 (by decide +kernel) rfl, x_in 490 (by decide +kernel) rfl, x_in 78 (by decide +kernel) rfl, x_in 491 (by decide +kernel) rfl, by decide +kernel⟩
theorem CL_X8_clear : xCV RL 55 yX8_clear M_X8_clear 1 := ⟨x_in 1121 (by decide +kernel) rfl, x_in 1122 (by decide +kernel) rfl, x_in 1123 (by decide +kernel) rfl, x_in 87 (by decide +kernel) rfl, x_in 1124 (by decide +kernel) rfl, by decide +kernel⟩
theorem CL_X7_mark : xCV RL 56 yX7_mark M_X7_mark 2 := ⟨x_in 492 (by decide +kernel) rfl, x_in 493 (by decide +kernel) rfl, x_in 494 (by decide +kernel) rfl, x_in 78 (by decide +kernel) rfl, x_in 495 (by decide +kernel) rfl, by decide +kernel⟩
theorem CL_X8_mark : xCV RL 59 yX8_mark M_X8_mark 2 := ⟨x_in 1125 (by decide +kernel) rfl, x_in 1126 (by decide +kernel) rfl, x_in 1127 (by decide +kernel) rfl, x_in 87 (by decide +kernel) rfl, x_in 1128 (by decide +kernel) rfl, by decide +kernel⟩
theorem CL_X7_good : xCV RL 60 yX7_good M_X7_good 2 := ⟨x_in 496 (by decide +kernel) rfl, x_in 497 (by decide +kernel) rfl, x_in 498 (by decide +kernel) rfl, x_in 78 (by decide +kernel) rfl, x_in 499 (by decide +kernel) rfl, by decide +kernel⟩
theorem CL_X8_good : xCV RL 63 yX8_good M_X8_good 2 := ⟨x_in 1129 (by decide +kernel) rfl, x_in 1130 (by decide +kernel) rfl, x_in 1131 (by decide +kernel) rfl, x_in 87 (by decide +kernel) rfl, x_in 1132 (by decide +kernel) rfl, by decide +kernel⟩
theorem CL_X7_build : xCV RL 64 yX7_build M_X7_build 3 := ⟨x_in 509 (by decide +kernel) rfl, x_in 510 (by decide +kernel) rfl, x_in 511 (by decide +kernel) rfl, x_in 78 (by decide +kernel) rfl, x_in 512 (by decide +kernel) rfl, by decide +kernel⟩
theorem CL_X8_build : xCV RL 67 yX8_build M_X8_build 3 := ⟨x_in 1133 (by decide +kernel) rfl, x_in 1134 (by decide +kernel) rfl, x_in 1135 (by decide +kernel) rfl, x_in 87 (by decide +kernel) rfl, x_in 1136 (by decide +kernel) rfl, by decide +kernel⟩
theorem CL_X7_most : xCV RL 68 yX7_most M_X7_most 2 := ⟨x_in 514 (by decide +kernel) rfl, x_in 515 (by decide +kernel) rfl, x_in 516 (by decide +kernel) rfl, x_in 78 (by decide +kernel) rfl, x_in 517 (by decide +kernel) rfl, by decide +kernel⟩
theorem CL_X8_most : xCV RL 71 yX8_most M_X8_most 2 := ⟨x_in 1143 (by decide +kernel) rfl, x_in 1144 (by decide +kernel) rfl, x_in 1145 (by decide +kernel) rfl, x_in 87 (by decide +kernel) rfl, x_in 1146 (by decide +kernel) rfl, by decide +kernel⟩
theorem CL_X7_bound : xCV RL 72 yX7_bound M_X7_bound 0 := ⟨x_in 548 (by decide +kernel) rfl, x_in 549 (by decide +kernel) rfl, x_in 550 (by decide +kernel) rfl, x_in 78 (by decide +kernel) rfl, x_in 551 (by decide +kernel) rfl, by decide +kernel⟩
theorem CL_X8_bound : xCV RL 76 yX8_bound M_X8_bound 0 := ⟨x_in 1155 (by decide +kernel) rfl, x_in 1156 (by decide +kernel) rfl, x_in 1157 (by decide +kernel) rfl, x_in 87 (by decide +kernel) rfl, x_in 1158 (by decide +kernel) rfl, by decide +kernel⟩
theorem CL_X7_lay : xCV RL 77 yX7_lay M_X7_lay 4 := ⟨x_in 560 (by decide +kernel) rfl, x_in 561 (by decide +kernel) rfl, x_in 562 (by decide +kernel) rfl, x_in 78 (by decide +kernel) rfl, x_in 563 (by decide +kernel) rfl, by decide +kernel⟩
theorem CL_X8_lay : xCV RL 81 yX8_lay M_X8_lay 4 := ⟨x_in 1159 (by decide +kernel) rfl, x_in 1160 (by decide +kernel) rfl, x_in 1161 (by decide +kernel) rfl, x_in 87 (by decide +kernel) rfl, x_in 1162 (by decide +kernel) rfl, by decide +kernel⟩
theorem CL_X7_join : xCV RL 82 yX7_join M_X7_join 3 := ⟨x_in 578 (by decide +kernel) rfl, x_in 579 (by decide +kernel) rfl, x_in 580 (by decide +kernel) rfl, x_in 78 (by decide +kernel) rfl, x_in 581 (by decide +kernel) rfl, by decide +kernel⟩
theorem CL_X8_join : xCV RL 85 yX8_join M_X8_join 3 := ⟨x_in 1171 (by decide +kernel) rfl, x_in 1172 (by decide +kernel) rfl, x_in 1173 (by decide +kernel) rfl, x_in 87 (by decide +kernel) rfl, x_in 1174 (by decide +kernel) rfl, by decide +kernel⟩
theorem CL_X7_shorten : xCV RL 86 yX7_shorten M_X7_shorten 3 := ⟨x_in 582 (by decide +kernel) rfl, x_in 583 (by decide +kernel) rfl, x_in 584 (by decide +kernel) rfl, x_in 78 (by decide +kernel) rfl, x_in 585 (by decide +kernel) rfl, by decide +kernel⟩
theorem CL_X8_shorten : xCV RL 89 yX8_shorten M_X8_shorten 3 := ⟨x_in 1175 (by decide +kernel) rfl, x_in 1176 (by decide +kernel) rfl, x_in 1177 (by decide +kernel) rfl, x_in 87 (by decide +kernel) rfl, x_in 1178 (by decide +kernel) rfl, by decide +kernel⟩
theorem CL_X7_turn : xCV RL 90 yX7_turn M_X7_turn 2 := ⟨x_in 590 (by decide +kernel) rfl, x_in 591 (by decide +kernel) rfl, x_in 592 (by decide +kernel) rfl, x_in 78 (by decide +kernel) rfl, x_in 593 (by decide +kernel) rfl, by decide +kernel⟩
theorem CL_X8_turn : xCV RL 93 yX8_turn M_X8_turn 2 := ⟨x_in 1179 (by decide +kernel) rfl, x_in 1180 (by decide +kernel) rfl, x_in 1181 (by decide +kernel) rfl, x_in 87 (by decide +kernel) rfl, x_in 1182 (by decide +kernel) rfl, by decide +kernel⟩
theorem CL_X7_even : xCV RL 94 yX7_even M_X7_even 3 := ⟨x_in 594 (by decide +kernel) rfl, x_in 595 (by decide +kernel) rfl, x_in 596 (by decide +kernel) rfl, x_in 78 (by decide +kernel) rfl, x_in 597 (by decide +kernel) rfl, by decide +kernel⟩
theorem CL_X8_even : xCV RL 97 yX8_even M_X8_even 3 := ⟨x_in 1183 (by decide +kernel) rfl, x_in 1184 (by decide +kernel) rfl, x_in 1185 (by decide +kernel) rfl, x_in 87 (by decide +kernel) rfl, x_in 1186 (by decide +kernel) rfl, by decide +kernel⟩
theorem CL_X7_feed : xCV RL 100 yX7_feed M_X7_feed 2 := ⟨x_in 599 (by decide +kernel) rfl, x_in 600 (by decide +kernel) rfl, x_in 601 (by decide +kernel) rfl, x_in 78 (by decide +kernel) rfl, x_in 602 (by decide +kernel) rfl, by decide +kernel⟩
theorem CL_X8_feed : xCV RL 104 yX8_feed M_X8_feed 2 := ⟨x_in 1187 (by decide +kernel) rfl, x_in 1188 (by decide +kernel) rfl, x_in 1189 (by decide +kernel) rfl, x_in 87 (by decide +kernel) rfl, x_in 1190 (by decide +kernel) rfl, by decide +kernel⟩
theorem CL_X7_read : xCV RL 105 yX7_read M_X7_read 1 := ⟨x_in 607 (by decide +kernel) rfl, x_in 608 (by decide +kernel) rfl, x_in 609 (by decide +kernel) rfl, x_in 78 (by decide +kernel) rfl, x_in 610 (by decide +kernel) rfl, by decide +kernel⟩
theorem CL_X8_read : xCV RL 108 yX8_read M_X8_read 1 := ⟨x_in 1193 (by decide +kernel) rfl, x_in 1194 (by decide +kernel) rfl, x_in 1195 (by decide +kernel) rfl, x_in 87 (by decide +kernel) rfl, x_in 1196 (by decide +kernel) rfl, by decide +kernel⟩
theorem CL_X7_fault : xCV RL 109 yX7_fault M_X7_fault 0 := ⟨x_in 761 (by decide +kernel) rfl, x_in 762 (by decide +kernel) rfl, x_in 763 (by decide +kernel) rfl, x_in 78 (by decide +kernel) rfl, x_in 764 (by decide +kernel) rfl, by decide +kernel⟩
theorem CL_X8_fault : xCV RL 112 yX8_fault M_X8_fault 0 := ⟨x_in 1264 (by decide +kernel) rfl, x_in 1265 (by decide +kernel) rfl, x_in 1266 (by decide +kernel) rfl, x_in 87 (by decide +kernel) rfl, x_in 1267 (by decide +kernel) rfl, by decide +kernel⟩
theorem CL_X7_count : xCV RL 113 yX7_count M_X7_count 1 := ⟨x_in 765 (by decide +kernel) rfl, x_in 766 (by decide +kernel) rfl, x_in 767 (by decide +kernel) rfl, x_in 78 (by decide +kernel) rfl, x_in 768 (by decide +kernel) rfl, by decide +kernel⟩
theorem CL_X8_count : xCV RL 116 yX8_count M_X8_count 1 := ⟨x_in 1268 (by decide +kernel) rfl, x_in 1269 (by decide +kernel) rfl, x_in 1270 (by decide +kernel) rfl, x_in 87 (by decide +kernel) rfl, x_in 1271 (by decide +kernel) rfl, by decide +kernel⟩
theorem CL_X7_owner : xCV RL 117 yX7_owner M_X7_owner 4 := ⟨x_in 777 (by decide +kernel) rfl, x_in 778 (by decide +kernel) rfl, x_in 779 (by decide +kernel) rfl, x_in 78 (by decide +kernel) rfl, x_in 780 (by decide +kernel) rfl, by decide +kernel⟩
theorem CL_X8_owner : xCV RL 120 yX8_owner M_X8_owner 4 := ⟨x_in 1272 (by decide +kernel) rfl, x_in 1273 (by decide +kernel) rfl, x_in 1274 (by decide +kernel) rfl, x_in 87 (by decide +kernel) rfl, x_in 1275 (by decide +kernel) rfl, by decide +kernel⟩
theorem CL_X7_look : xCV RL 121 yX7_look M_X7_look 2 := ⟨x_in 781 (by decide +kernel) rfl, x_in 782 (by decide +kernel) rfl, x_in 783 (by decide +kernel) rfl, x_in 78 (by decide +kernel) rfl, x_in 784 (by decide +kernel) rfl, by decide +kernel⟩
theorem CL_X8_look : xCV RL 124 yX8_look M_X8_look 2 := ⟨x_in 1276 (by decide +kernel) rfl, x_in 1277 (by decide +kernel) rfl, x_in 1278 (by decide +kernel) rfl, x_in 87 (by decide +kernel) rfl, x_in 1279 (by decide +kernel) rfl, by decide +kernel⟩
theorem CL_X7_chance : xCV RL 125 yX7_chance M_X7_chance 2 := ⟨x_in 785 (by decide +kernel) rfl, x_in 786 (by decide +kernel) rfl, x_in 787 (by decide +kernel) rfl, x_in 78 (by decide +kernel) rfl, x_in 788 (by decide +kernel) rfl, by decide +kernel⟩
theorem CL_X8_chance : xCV RL 129 yX8_chance M_X8_chance 2 := ⟨x_in 1281 (by decide +kernel) rfl, x_in 1282 (by decide +kernel) rfl, x_in 1283 (by decide +kernel) rfl, x_in 87 (by decide +kernel) rfl, x_in 1284 (by decide +kernel) rfl, by decide +kernel⟩
theorem CL_X7_likely : xCV RL 130 yX7_likely M_X7_likely 2 := ⟨x_in 794 (by decide +kernel) rfl, x_in 795 (by decide +kernel) rfl, x_in 796 (by decide +kernel) rfl, x_in 78 (by decide +kernel) rfl, x_in 797 (by decide +kernel) rfl, by decide +kernel⟩
theorem CL_X8_likely : xCV RL 133 yX8_likely M_X8_likely 2 := ⟨x_in 1290 (by decide +kernel) rfl, x_in 1291 (by decide +kernel) rfl, x_in 1292 (by decide +kernel) rfl, x_in 87 (by decide +kernel) rfl, x_in 1293 (by decide +kernel) rfl, by decide +kernel⟩
theorem CL_X7_heap : xCV RL 134 yX7_heap M_X7_heap 4 := ⟨x_in 815 (by decide +kernel) rfl, x_in 816 (by decide +kernel) rfl, x_in 817 (by decide +kernel) rfl, x_in 78 (by decide +kernel) rfl, x_in 818 (by decide +kernel) rfl, by decide +kernel⟩
theorem CL_X8_heap : xCV RL 137 yX8_heap M_X8_heap 4 := ⟨x_in 1294 (by decide +kernel) rfl, x_in 1295 (by decide +kernel) rfl, x_in 1296 (by decide +kernel) rfl, x_in 87 (by decide +kernel) rfl, x_in 1297 (by decide +kernel) rfl, by decide +kernel⟩
theorem CL_X7_make : xCV RL 138 yX7_make M_X7_make 5 := ⟨x_in 848 (by decide +kernel) rfl, x_in 849 (by decide +kernel) rfl, x_in 850 (by decide +kernel) rfl, x_in 78 (by decide +kernel) rfl, x_in 851 (by decide +kernel) rfl, by decide +kernel⟩
theorem CL_X8_make : xCV RL 142 yX8_make M_X8_make 5 := ⟨x_in 1314 (by decide +kernel) rfl, x_in 1315 (by decide +kernel) rfl, x_in 1316 (by decide +kernel) rfl, x_in 87 (by decide +kernel) rfl, x_in 1317 (by decide +kernel) rfl, by decide +kernel⟩
theorem CL_X7_trace : xCV RL 143 yX7_trace M_X7_trace 4 := ⟨x_in 860 (by decide +kernel) rfl, x_in 861 (by decide +kernel) rfl, x_in 862 (by decide +kernel) rfl, x_in 78 (by decide +kernel) rfl, x_in 863 (by decide +kernel) rfl, by decide +kernel⟩
theorem CL_X8_trace : xCV RL 146 yX8_trace M_X8_trace 4 := ⟨x_in 1321 (by decide +kernel) rfl, x_in 1322 (by decide +kernel) rfl, x_in 1323 (by decide +kernel) rfl, x_in 87 (by decide +kernel) rfl, x_in 1324 (by decide +kernel) rfl, by decide +kernel⟩
theorem CL_X7_inAll : xCV RL 147 yX7_inAll M_X7_inAll 4 := ⟨x_in 873 (by decide +kernel) rfl, x_in 874 (by decide +kernel) rfl, x_in 875 (by decide +kernel) rfl, x_in 78 (by decide +kernel) rfl, x_in 876 (by decide +kernel) rfl, by decide +kernel⟩
theorem CL_X8_inAll : xCV RL 150 yX8_inAll M_X8_inAll 4 := ⟨x_in 1333 (by decide +kernel) rfl, x_in 1334 (by decide +kernel) rfl, x_in 1335 (by decide +kernel) rfl, x_in 87 (by decide +kernel) rfl, x_in 1336 (by decide +kernel) rfl, by decide +kernel⟩
theorem CL_X7_framed : xCV RL 151 yX7_framed M_X7_framed 2 := ⟨x_in 881 (by decide +kernel) rfl, x_in 882 (by decide +kernel) rfl, x_in 883 (by decide +kernel) rfl, x_in 78 (by decide +kernel) rfl, x_in 884 (by decide +kernel) rfl, by decide +kernel⟩
theorem CL_X8_framed : xCV RL 154 yX8_framed M_X8_framed 2 := ⟨x_in 1337 (by decide +kernel) rfl, x_in 1338 (by decide +kernel) rfl, x_in 1339 (by decide +kernel) rfl, x_in 87 (by decide +kernel) rfl, x_in 1340 (by decide +kernel) rfl, by decide +kernel⟩
theorem KL_98 : Cond.constantLong RL 98 (4294967295) ∈ xtb := x_in 1345 (by decide +kernel) rfl
def xLA (u : State) : Nat → Prop := fun q => u.heap.size ≤ q
/-- what stands all along the law -/
def xLw (p : Program) (g : xG) (u : State) (m : MethodId) (meth : Method) (c : Code) (b Ln : Nat) (xs : Nat → Int32) : Prop := xCv p g (xLA u) M_L u m #[Value.ref b] meth c ∧ va_X b Ln xs u u.heap ∧ b < u.heap.size
section LAW
variable {p : Program} {l : Launch} {e : Env} {u : State} {m : MethodId} {below : List Frame} {meth : Method} {c : Code} {g : xG} {Q : State → Prop} {pc b Ln : Nat} {xs : Nat → Int32} {L : List (Option Value)} {S : List Value} {ws : va_W} {nc ns : Nat}
theorem v_sld {i : Int32} (hB : xLw p g u m meth c b Ln xs) (d : xd M_L pc (.iaload) 1) (hin : vp_in i Ln) (k : Rv p l e room_1 u m #[Value.ref b] below meth c g (xLA u) Q M_L (pc + 1) L (.int (xs i.toNatClampNeg) :: S) ws nc ns) : Rv p l e room_1 u m #[Value.ref b] below meth c g (xLA u) Q M_L pc L (.int i :: .ref b :: S) ws nc ns := by
  intro H locs ls hP hD hS hl
  exact va_sld hB.1.1 hB.1.2.1 hB.2.1 hB.2.2 (Nat.not_le.mpr hB.2.2) hS hin d (k H locs ls hP hD hS hl)
theorem v_slen (hB : xLw p g u m meth c b Ln xs) (d : xd M_L pc (.arraylength) 1) (k : Rv p l e room_1 u m #[Value.ref b] below meth c g (xLA u) Q M_L (pc + 1) L (.int (Int32.ofNat Ln) :: S) ws nc ns) : Rv p l e room_1 u m #[Value.ref b] below meth c g (xLA u) Q M_L pc L (.ref b :: S) ws nc ns := by
  intro H locs ls hP hD hS hl
  exact va_slen hB.1.1 hB.1.2.1 hB.2.1 hB.2.2 (Nat.not_le.mpr hB.2.2) hS d (k H locs ls hP hD hS hl)
theorem v_lret (hB : xLw p g u m meth c b Ln xs) (d : xd M_L pc (.ireturn) 1) (h1 : nc ≤ 600000) (h2 : ns ≤ 7302250) : Rv p l e room_1 u m #[Value.ref b] below meth c g (xLA u) (lw_Z below #[Value.ref b] u) M_L pc L [.int 1] ws nc ns := by
  intro H locs ls hP hD hS hl
  exact va_forget (fun q hq => hS.2.2 q hq) (W.widen h1 h2 (lw_ret hB.1.1 hB.1.2.1 hB.1.2.2.2.1 hB.1.2.2.2.2.2.2.1 d))
theorem v_tsOutL {x : Int32} (hB : xLw p g u m meth c b Ln xs) (hx : x.toInt < 0 ∨ 32 < x.toInt) (k : Rv p l e room_1 u m #[Value.ref b] below meth c g (xLA u) Q M_L 1390 L S ws nc ns) : Rv p l e room_1 u m #[Value.ref b] below meth c g (xLA u) Q M_L 33 L (.int x :: S) ws nc ns := v_tsOut hB.1 DL_33 (tgt := 1390) hx (by decide) k
end LAW
set_option maxRecDepth 100000 in
set_option maxHeartbeats 4000000 in
theorem lc_0 {p : Program} {l : Launch} {e : Env} {u : State} {m : MethodId} {below : List Frame} {meth : Method} {c : Code} {g : xG} {Q : State → Prop} {b Ln N : Nat} {xs : Nat → Int32} {Inv : xT → xT → Prop} {ad : Nat → Nat} (hB : xLw p g u m meth c b Ln xs) (x : Int32) (h1 : vp_in (x + 1) Ln) (h2 : vp_in (x + 2) Ln) (h3 : vp_in (x + 3) Ln) (h4 : vp_in (x + 4) Ln) (h5 : vp_in (x + 5) Ln) (hAll : xAll N Inv) (a bb : xT) (hI : Inv a bb) (k : ∀ a2 b2, Inv a2 b2 → Rv p l e room_1 u m #[Value.ref b] below meth c g (xLA u) Q M_L 1390 [some (.ref b), some (.ref (xa (x_ad g ad) 0)), some (.ref (xa (x_ad g ad) 44)), some (.int x)] [] (xw (x_ad g ad) (a2, b2)) 60 7141) : Rv p l e room_1 u m #[Value.ref b] below meth c g (xLA u) Q M_L 180 [some (.ref b), some (.ref (xa (x_ad g ad) 0)), some (.ref (xa (x_ad g ad) 44)), some (.int x)] [] (xw (x_ad g ad) (a, bb)) 60 7141 := by
  refine v_aload_n hB.1 DL_180 (i := 1) rfl rfl ?_
  refine v_aload_n hB.1 DL_181 (i := 0) rfl rfl ?_
  refine v_iload_n hB.1 DL_182 (i := 3) rfl rfl ?_
  refine v_iconst hB.1 DL_183 (v := 1) (by decide) ?_
  refine v_iadd hB.1 DL_184 ?_
  refine v_sld hB DL_185 h1 ?_
  obtain ⟨r, a2, b2, e1, e2, hI2⟩ := hAll.1 (xs (Int32.toNatClampNeg (x + 1))) a bb hI
  refine v_callEv (As := [.int (xs (Int32.toNatClampNeg (x + 1)))]) (S := []) hB.1 (fun _ h => h) DL_186 CL_X7_places (ci := 7) rfl rfl e_0 (by decide) (by decide) (by decide) (by decide) (Nat.le_of_ble_eq_true rfl) (t_X7_places N (xs (Int32.toNatClampNeg (x + 1))) a e1) rfl rfl ?_
  refine v_aload_n hB.1 DL_189 (i := 2) rfl rfl ?_
  refine v_aload_n hB.1 DL_190 (i := 0) rfl rfl ?_
  refine v_iload_n hB.1 DL_191 (i := 3) rfl rfl ?_
  refine v_iconst hB.1 DL_192 (v := 1) (by decide) ?_
  refine v_iadd hB.1 DL_193 ?_
  refine v_sld hB DL_194 h1 ?_
  refine v_callEv (As := [.int (xs (Int32.toNatClampNeg (x + 1)))]) (S := [.int r]) hB.1 (fun _ h => h) DL_195 CL_X8_places (ci := 8) rfl rfl e_44 (by decide) (by decide) (by decide) (by decide) (Nat.le_of_ble_eq_true rfl) (t_X8_places N (xs (Int32.toNatClampNeg (x + 1))) bb e2) rfl rfl ?_
  refine v_icmp_eq hB.1 DL_198 (tgt := 1390) (by decide) (fun _ => ?_) (fun c => absurd rfl c)
  exact k a2 b2 hI2
set_option maxRecDepth 100000 in
set_option maxHeartbeats 4000000 in
theorem lc_1 {p : Program} {l : Launch} {e : Env} {u : State} {m : MethodId} {below : List Frame} {meth : Method} {c : Code} {g : xG} {Q : State → Prop} {b Ln N : Nat} {xs : Nat → Int32} {Inv : xT → xT → Prop} {ad : Nat → Nat} (hB : xLw p g u m meth c b Ln xs) (x : Int32) (h1 : vp_in (x + 1) Ln) (h2 : vp_in (x + 2) Ln) (h3 : vp_in (x + 3) Ln) (h4 : vp_in (x + 4) Ln) (h5 : vp_in (x + 5) Ln) (hAll : xAll N Inv) (a bb : xT) (hI : Inv a bb) (k : ∀ a2 b2, Inv a2 b2 → Rv p l e room_1 u m #[Value.ref b] below meth c g (xLA u) Q M_L 1390 [some (.ref b), some (.ref (xa (x_ad g ad) 0)), some (.ref (xa (x_ad g ad) 44)), some (.int x)] [] (xw (x_ad g ad) (a2, b2)) 60 7141) : Rv p l e room_1 u m #[Value.ref b] below meth c g (xLA u) Q M_L 203 [some (.ref b), some (.ref (xa (x_ad g ad) 0)), some (.ref (xa (x_ad g ad) 44)), some (.int x)] [] (xw (x_ad g ad) (a, bb)) 60 7141 := by
  refine v_aload_n hB.1 DL_203 (i := 1) rfl rfl ?_
  refine v_aload_n hB.1 DL_204 (i := 0) rfl rfl ?_
  refine v_iload_n hB.1 DL_205 (i := 3) rfl rfl ?_
  refine v_iconst hB.1 DL_206 (v := 1) (by decide) ?_
  refine v_iadd hB.1 DL_207 ?_
  refine v_sld hB DL_208 h1 ?_
  refine v_aload_n hB.1 DL_209 (i := 0) rfl rfl ?_
  refine v_iload_n hB.1 DL_210 (i := 3) rfl rfl ?_
  refine v_iconst hB.1 DL_211 (v := 2) (by decide) ?_
  refine v_iadd hB.1 DL_212 ?_
  refine v_sld hB DL_213 h2 ?_
  refine v_aload_n hB.1 DL_214 (i := 0) rfl rfl ?_
  refine v_iload_n hB.1 DL_215 (i := 3) rfl rfl ?_
  refine v_iconst hB.1 DL_216 (v := 3) (by decide) ?_
  refine v_iadd hB.1 DL_217 ?_
  refine v_sld hB DL_218 h3 ?_
  obtain ⟨r, a2, b2, e1, e2, hI2⟩ := hAll.2.1 (xs (Int32.toNatClampNeg (x + 1))) (xs (Int32.toNatClampNeg (x + 2))) (xs (Int32.toNatClampNeg (x + 3))) a bb hI
  refine v_callEv (As := [.int (xs (Int32.toNatClampNeg (x + 1))), .int (xs (Int32.toNatClampNeg (x + 2))), .int (xs (Int32.toNatClampNeg (x + 3)))]) (S := []) hB.1 (fun _ h => h) DL_219 CL_X7_island (ci := 7) rfl rfl e_0 (by decide) (by decide) (by decide) (by decide) (Nat.le_of_ble_eq_true rfl) (t_X7_island (xs (Int32.toNatClampNeg (x + 1))) (xs (Int32.toNatClampNeg (x + 2))) (xs (Int32.toNatClampNeg (x + 3))) a e1) rfl rfl ?_
  refine v_aload_n hB.1 DL_222 (i := 2) rfl rfl ?_
  refine v_aload_n hB.1 DL_223 (i := 0) rfl rfl ?_
  refine v_iload_n hB.1 DL_224 (i := 3) rfl rfl ?_
  refine v_iconst hB.1 DL_225 (v := 1) (by decide) ?_
  refine v_iadd hB.1 DL_226 ?_
  refine v_sld hB DL_227 h1 ?_
  refine v_aload_n hB.1 DL_228 (i := 0) rfl rfl ?_
  refine v_iload_n hB.1 DL_229 (i := 3) rfl rfl ?_
  refine v_iconst hB.1 DL_230 (v := 2) (by decide) ?_
  refine v_iadd hB.1 DL_231 ?_
  refine v_sld hB DL_232 h2 ?_
  refine v_aload_n hB.1 DL_233 (i := 0) rfl rfl ?_
  refine v_iload_n hB.1 DL_234 (i := 3) rfl rfl ?_
  refine v_iconst hB.1 DL_235 (v := 3) (by decide) ?_
  refine v_iadd hB.1 DL_236 ?_
  refine v_sld hB DL_237 h3 ?_
  refine v_callEv (As := [.int (xs (Int32.toNatClampNeg (x + 1))), .int (xs (Int32.toNatClampNeg (x + 2))), .int (xs (Int32.toNatClampNeg (x + 3)))]) (S := [.int r]) hB.1 (fun _ h => h) DL_238 CL_X8_island (ci := 8) rfl rfl e_44 (by decide) (by decide) (by decide) (by decide) (Nat.le_of_ble_eq_true rfl) (t_X8_island (xs (Int32.toNatClampNeg (x + 1))) (xs (Int32.toNatClampNeg (x + 2))) (xs (Int32.toNatClampNeg (x + 3))) bb e2) rfl rfl ?_
  refine v_icmp_eq hB.1 DL_241 (tgt := 1390) (by decide) (fun _ => ?_) (fun c => absurd rfl c)
  exact k a2 b2 hI2
set_option maxRecDepth 100000 in
set_option maxHeartbeats 4000000 in
theorem lc_2 {p : Program} {l : Launch} {e : Env} {u : State} {m : MethodId} {below : List Frame} {meth : Method} {c : Code} {g : xG} {Q : State → Prop} {b Ln N : Nat} {xs : Nat → Int32} {Inv : xT → xT → Prop} {ad : Nat → Nat} (hB : xLw p g u m meth c b Ln xs) (x : Int32) (h1 : vp_in (x + 1) Ln) (h2 : vp_in (x + 2) Ln) (h3 : vp_in (x + 3) Ln) (h4 : vp_in (x + 4) Ln) (h5 : vp_in (x + 5) Ln) (hAll : xAll N Inv) (a bb : xT) (hI : Inv a bb) (k : ∀ a2 b2, Inv a2 b2 → Rv p l e room_1 u m #[Value.ref b] below meth c g (xLA u) Q M_L 1390 [some (.ref b), some (.ref (xa (x_ad g ad) 0)), some (.ref (xa (x_ad g ad) 44)), some (.int x)] [] (xw (x_ad g ad) (a2, b2)) 60 7141) : Rv p l e room_1 u m #[Value.ref b] below meth c g (xLA u) Q M_L 246 [some (.ref b), some (.ref (xa (x_ad g ad) 0)), some (.ref (xa (x_ad g ad) 44)), some (.int x)] [] (xw (x_ad g ad) (a, bb)) 60 7141 := by
  refine v_aload_n hB.1 DL_246 (i := 1) rfl rfl ?_
  refine v_aload_n hB.1 DL_247 (i := 0) rfl rfl ?_
  refine v_iload_n hB.1 DL_248 (i := 3) rfl rfl ?_
  refine v_iconst hB.1 DL_249 (v := 1) (by decide) ?_
  refine v_iadd hB.1 DL_250 ?_
  refine v_sld hB DL_251 h1 ?_
  obtain ⟨r, e1, e2, hI2⟩ := hAll.2.2.1 (xs (Int32.toNatClampNeg (x + 1))) a bb hI
  refine v_callEv (As := [.int (xs (Int32.toNatClampNeg (x + 1)))]) (S := []) hB.1 (fun _ h => h) DL_252 CL_X7_is (ci := 7) rfl rfl e_0 (by decide) (by decide) (by decide) (by decide) (Nat.le_of_ble_eq_true rfl) (t_X7_is (xs (Int32.toNatClampNeg (x + 1))) a e1) rfl rfl ?_
  refine v_aload_n hB.1 DL_255 (i := 2) rfl rfl ?_
  refine v_aload_n hB.1 DL_256 (i := 0) rfl rfl ?_
  refine v_iload_n hB.1 DL_257 (i := 3) rfl rfl ?_
  refine v_iconst hB.1 DL_258 (v := 1) (by decide) ?_
  refine v_iadd hB.1 DL_259 ?_
  refine v_sld hB DL_260 h1 ?_
  refine v_callEv (As := [.int (xs (Int32.toNatClampNeg (x + 1)))]) (S := [.int r]) hB.1 (fun _ h => h) DL_261 CL_X8_is (ci := 8) rfl rfl e_44 (by decide) (by decide) (by decide) (by decide) (Nat.le_of_ble_eq_true rfl) (t_X8_is (xs (Int32.toNatClampNeg (x + 1))) bb e2) rfl rfl ?_
  refine v_icmp_eq hB.1 DL_264 (tgt := 1390) (by decide) (fun _ => ?_) (fun c => absurd rfl c)
  exact k a bb hI2
set_option maxRecDepth 100000 in
set_option maxHeartbeats 4000000 in
theorem lc_3 {p : Program} {l : Launch} {e : Env} {u : State} {m : MethodId} {below : List Frame} {meth : Method} {c : Code} {g : xG} {Q : State → Prop} {b Ln N : Nat} {xs : Nat → Int32} {Inv : xT → xT → Prop} {ad : Nat → Nat} (hB : xLw p g u m meth c b Ln xs) (x : Int32) (h1 : vp_in (x + 1) Ln) (h2 : vp_in (x + 2) Ln) (h3 : vp_in (x + 3) Ln) (h4 : vp_in (x + 4) Ln) (h5 : vp_in (x + 5) Ln) (hAll : xAll N Inv) (a bb : xT) (hI : Inv a bb) (k : ∀ a2 b2, Inv a2 b2 → Rv p l e room_1 u m #[Value.ref b] below meth c g (xLA u) Q M_L 1390 [some (.ref b), some (.ref (xa (x_ad g ad) 0)), some (.ref (xa (x_ad g ad) 44)), some (.int x)] [] (xw (x_ad g ad) (a2, b2)) 60 7141) : Rv p l e room_1 u m #[Value.ref b] below meth c g (xLA u) Q M_L 269 [some (.ref b), some (.ref (xa (x_ad g ad) 0)), some (.ref (xa (x_ad g ad) 44)), some (.int x)] [] (xw (x_ad g ad) (a, bb)) 60 7141 := by
  refine v_aload_n hB.1 DL_269 (i := 1) rfl rfl ?_
  refine v_aload_n hB.1 DL_270 (i := 0) rfl rfl ?_
  refine v_iload_n hB.1 DL_271 (i := 3) rfl rfl ?_
  refine v_iconst hB.1 DL_272 (v := 1) (by decide) ?_
  refine v_iadd hB.1 DL_273 ?_
  refine v_sld hB DL_274 h1 ?_
  obtain ⟨r, e1, e2, hI2⟩ := hAll.2.2.2.1 (xs (Int32.toNatClampNeg (x + 1))) a bb hI
  refine v_callEv (As := [.int (xs (Int32.toNatClampNeg (x + 1)))]) (S := []) hB.1 (fun _ h => h) DL_275 CL_X7_turned (ci := 7) rfl rfl e_0 (by decide) (by decide) (by decide) (by decide) (Nat.le_of_ble_eq_true rfl) (t_X7_turned N (xs (Int32.toNatClampNeg (x + 1))) a e1) rfl rfl ?_
  refine v_aload_n hB.1 DL_278 (i := 2) rfl rfl ?_
  refine v_aload_n hB.1 DL_279 (i := 0) rfl rfl ?_
  refine v_iload_n hB.1 DL_280 (i := 3) rfl rfl ?_
  refine v_iconst hB.1 DL_281 (v := 1) (by decide) ?_
  refine v_iadd hB.1 DL_282 ?_
  refine v_sld hB DL_283 h1 ?_
  refine v_callEv (As := [.int (xs (Int32.toNatClampNeg (x + 1)))]) (S := [.int r]) hB.1 (fun _ h => h) DL_284 CL_X8_turned (ci := 8) rfl rfl e_44 (by decide) (by decide) (by decide) (by decide) (Nat.le_of_ble_eq_true rfl) (t_X8_turned N (xs (Int32.toNatClampNeg (x + 1))) bb e2) rfl rfl ?_
  refine v_icmp_eq hB.1 DL_287 (tgt := 1390) (by decide) (fun _ => ?_) (fun c => absurd rfl c)
  exact k a bb hI2
set_option maxRecDepth 100000 in
set_option maxHeartbeats 4000000 in
theorem lc_4 {p : Program} {l : Launch} {e : Env} {u : State} {m : MethodId} {below : List Frame} {meth : Method} {c : Code} {g : xG} {Q : State → Prop} {b Ln N : Nat} {xs : Nat → Int32} {Inv : xT → xT → Prop} {ad : Nat → Nat} (hB : xLw p g u m meth c b Ln xs) (x : Int32) (h1 : vp_in (x + 1) Ln) (h2 : vp_in (x + 2) Ln) (h3 : vp_in (x + 3) Ln) (h4 : vp_in (x + 4) Ln) (h5 : vp_in (x + 5) Ln) (hAll : xAll N Inv) (a bb : xT) (hI : Inv a bb) (k : ∀ a2 b2, Inv a2 b2 → Rv p l e room_1 u m #[Value.ref b] below meth c g (xLA u) Q M_L 1390 [some (.ref b), some (.ref (xa (x_ad g ad) 0)), some (.ref (xa (x_ad g ad) 44)), some (.int x)] [] (xw (x_ad g ad) (a2, b2)) 60 7141) : Rv p l e room_1 u m #[Value.ref b] below meth c g (xLA u) Q M_L 292 [some (.ref b), some (.ref (xa (x_ad g ad) 0)), some (.ref (xa (x_ad g ad) 44)), some (.int x)] [] (xw (x_ad g ad) (a, bb)) 60 7141 := by
  refine v_aload_n hB.1 DL_292 (i := 1) rfl rfl ?_
  refine v_aload_n hB.1 DL_293 (i := 0) rfl rfl ?_
  refine v_iload_n hB.1 DL_294 (i := 3) rfl rfl ?_
  refine v_iconst hB.1 DL_295 (v := 1) (by decide) ?_
  refine v_iadd hB.1 DL_296 ?_
  refine v_sld hB DL_297 h1 ?_
  refine v_aload_n hB.1 DL_298 (i := 0) rfl rfl ?_
  refine v_iload_n hB.1 DL_299 (i := 3) rfl rfl ?_
  refine v_iconst hB.1 DL_300 (v := 2) (by decide) ?_
  refine v_iadd hB.1 DL_301 ?_
  refine v_sld hB DL_302 h2 ?_
  refine v_aload_n hB.1 DL_303 (i := 0) rfl rfl ?_
  refine v_iload_n hB.1 DL_304 (i := 3) rfl rfl ?_
  refine v_iconst hB.1 DL_305 (v := 3) (by decide) ?_
  refine v_iadd hB.1 DL_306 ?_
  refine v_sld hB DL_307 h3 ?_
  obtain ⟨r, e1, e2, hI2⟩ := hAll.2.2.2.2.1 (xs (Int32.toNatClampNeg (x + 1))) (xs (Int32.toNatClampNeg (x + 2))) (xs (Int32.toNatClampNeg (x + 3))) a bb hI
  refine v_callEv (As := [.int (xs (Int32.toNatClampNeg (x + 1))), .int (xs (Int32.toNatClampNeg (x + 2))), .int (xs (Int32.toNatClampNeg (x + 3)))]) (S := []) hB.1 (fun _ h => h) DL_308 CL_X7_may (ci := 7) rfl rfl e_0 (by decide) (by decide) (by decide) (by decide) (Nat.le_of_ble_eq_true rfl) (t_X7_may N (xs (Int32.toNatClampNeg (x + 1))) (xs (Int32.toNatClampNeg (x + 2))) (xs (Int32.toNatClampNeg (x + 3))) a e1) rfl rfl ?_
  refine v_aload_n hB.1 DL_311 (i := 2) rfl rfl ?_
  refine v_aload_n hB.1 DL_312 (i := 0) rfl rfl ?_
  refine v_iload_n hB.1 DL_313 (i := 3) rfl rfl ?_
  refine v_iconst hB.1 DL_314 (v := 1) (by decide) ?_
  refine v_iadd hB.1 DL_315 ?_
  refine v_sld hB DL_316 h1 ?_
  refine v_aload_n hB.1 DL_317 (i := 0) rfl rfl ?_
  refine v_iload_n hB.1 DL_318 (i := 3) rfl rfl ?_
  refine v_iconst hB.1 DL_319 (v := 2) (by decide) ?_
  refine v_iadd hB.1 DL_320 ?_
  refine v_sld hB DL_321 h2 ?_
  refine v_aload_n hB.1 DL_322 (i := 0) rfl rfl ?_
  refine v_iload_n hB.1 DL_323 (i := 3) rfl rfl ?_
  refine v_iconst hB.1 DL_324 (v := 3) (by decide) ?_
  refine v_iadd hB.1 DL_325 ?_
  refine v_sld hB DL_326 h3 ?_
  refine v_callEv (As := [.int (xs (Int32.toNatClampNeg (x + 1))), .int (xs (Int32.toNatClampNeg (x + 2))), .int (xs (Int32.toNatClampNeg (x + 3)))]) (S := [.int r]) hB.1 (fun _ h => h) DL_327 CL_X8_may (ci := 8) rfl rfl e_44 (by decide) (by decide) (by decide) (by decide) (Nat.le_of_ble_eq_true rfl) (t_X8_may N (xs (Int32.toNatClampNeg (x + 1))) (xs (Int32.toNatClampNeg (x + 2))) (xs (Int32.toNatClampNeg (x + 3))) bb e2) rfl rfl ?_
  refine v_icmp_eq hB.1 DL_330 (tgt := 1390) (by decide) (fun _ => ?_) (fun c => absurd rfl c)
  exact k a bb hI2
set_option maxRecDepth 100000 in
set_option maxHeartbeats 4000000 in
theorem lc_5 {p : Program} {l : Launch} {e : Env} {u : State} {m : MethodId} {below : List Frame} {meth : Method} {c : Code} {g : xG} {Q : State → Prop} {b Ln N : Nat} {xs : Nat → Int32} {Inv : xT → xT → Prop} {ad : Nat → Nat} (hB : xLw p g u m meth c b Ln xs) (x : Int32) (h1 : vp_in (x + 1) Ln) (h2 : vp_in (x + 2) Ln) (h3 : vp_in (x + 3) Ln) (h4 : vp_in (x + 4) Ln) (h5 : vp_in (x + 5) Ln) (hAll : xAll N Inv) (a bb : xT) (hI : Inv a bb) (k : ∀ a2 b2, Inv a2 b2 → Rv p l e room_1 u m #[Value.ref b] below meth c g (xLA u) Q M_L 1390 [some (.ref b), some (.ref (xa (x_ad g ad) 0)), some (.ref (xa (x_ad g ad) 44)), some (.int x)] [] (xw (x_ad g ad) (a2, b2)) 60 7141) : Rv p l e room_1 u m #[Value.ref b] below meth c g (xLA u) Q M_L 335 [some (.ref b), some (.ref (xa (x_ad g ad) 0)), some (.ref (xa (x_ad g ad) 44)), some (.int x)] [] (xw (x_ad g ad) (a, bb)) 60 7141 := by
  refine v_aload_n hB.1 DL_335 (i := 1) rfl rfl ?_
  refine v_aload_n hB.1 DL_336 (i := 0) rfl rfl ?_
  refine v_iload_n hB.1 DL_337 (i := 3) rfl rfl ?_
  refine v_iconst hB.1 DL_338 (v := 1) (by decide) ?_
  refine v_iadd hB.1 DL_339 ?_
  refine v_sld hB DL_340 h1 ?_
  refine v_aload_n hB.1 DL_341 (i := 0) rfl rfl ?_
  refine v_iload_n hB.1 DL_342 (i := 3) rfl rfl ?_
  refine v_iconst hB.1 DL_343 (v := 2) (by decide) ?_
  refine v_iadd hB.1 DL_344 ?_
  refine v_sld hB DL_345 h2 ?_
  refine v_aload_n hB.1 DL_346 (i := 0) rfl rfl ?_
  refine v_iload_n hB.1 DL_347 (i := 3) rfl rfl ?_
  refine v_iconst hB.1 DL_348 (v := 3) (by decide) ?_
  refine v_iadd hB.1 DL_349 ?_
  refine v_sld hB DL_350 h3 ?_
  obtain ⟨r, e1, e2, hI2⟩ := hAll.2.2.2.2.2.1 (xs (Int32.toNatClampNeg (x + 1))) (xs (Int32.toNatClampNeg (x + 2))) (xs (Int32.toNatClampNeg (x + 3))) a bb hI
  refine v_callEv (As := [.int (xs (Int32.toNatClampNeg (x + 1))), .int (xs (Int32.toNatClampNeg (x + 2))), .int (xs (Int32.toNatClampNeg (x + 3)))]) (S := []) hB.1 (fun _ h => h) DL_351 CL_X7_between (ci := 7) rfl rfl e_0 (by decide) (by decide) (by decide) (by decide) (Nat.le_of_ble_eq_true rfl) (t_X7_between N (xs (Int32.toNatClampNeg (x + 1))) (xs (Int32.toNatClampNeg (x + 2))) (xs (Int32.toNatClampNeg (x + 3))) a e1) rfl rfl ?_
  refine v_aload_n hB.1 DL_354 (i := 2) rfl rfl ?_
  refine v_aload_n hB.1 DL_355 (i := 0) rfl rfl ?_
  refine v_iload_n hB.1 DL_356 (i := 3) rfl rfl ?_
  refine v_iconst hB.1 DL_357 (v := 1) (by decide) ?_
  refine v_iadd hB.1 DL_358 ?_
  refine v_sld hB DL_359 h1 ?_
  refine v_aload_n hB.1 DL_360 (i := 0) rfl rfl ?_
  refine v_iload_n hB.1 DL_361 (i := 3) rfl rfl ?_
  refine v_iconst hB.1 DL_362 (v := 2) (by decide) ?_
  refine v_iadd hB.1 DL_363 ?_
  refine v_sld hB DL_364 h2 ?_
  refine v_aload_n hB.1 DL_365 (i := 0) rfl rfl ?_
  refine v_iload_n hB.1 DL_366 (i := 3) rfl rfl ?_
  refine v_iconst hB.1 DL_367 (v := 3) (by decide) ?_
  refine v_iadd hB.1 DL_368 ?_
  refine v_sld hB DL_369 h3 ?_
  refine v_callEv (As := [.int (xs (Int32.toNatClampNeg (x + 1))), .int (xs (Int32.toNatClampNeg (x + 2))), .int (xs (Int32.toNatClampNeg (x + 3)))]) (S := [.int r]) hB.1 (fun _ h => h) DL_370 CL_X8_between (ci := 8) rfl rfl e_44 (by decide) (by decide) (by decide) (by decide) (Nat.le_of_ble_eq_true rfl) (t_X8_between N (xs (Int32.toNatClampNeg (x + 1))) (xs (Int32.toNatClampNeg (x + 2))) (xs (Int32.toNatClampNeg (x + 3))) bb e2) rfl rfl ?_
  refine v_icmp_eq hB.1 DL_373 (tgt := 1390) (by decide) (fun _ => ?_) (fun c => absurd rfl c)
  exact k a bb hI2
set_option maxRecDepth 100000 in
set_option maxHeartbeats 4000000 in
theorem lc_6 {p : Program} {l : Launch} {e : Env} {u : State} {m : MethodId} {below : List Frame} {meth : Method} {c : Code} {g : xG} {Q : State → Prop} {b Ln N : Nat} {xs : Nat → Int32} {Inv : xT → xT → Prop} {ad : Nat → Nat} (hB : xLw p g u m meth c b Ln xs) (x : Int32) (h1 : vp_in (x + 1) Ln) (h2 : vp_in (x + 2) Ln) (h3 : vp_in (x + 3) Ln) (h4 : vp_in (x + 4) Ln) (h5 : vp_in (x + 5) Ln) (hAll : xAll N Inv) (a bb : xT) (hI : Inv a bb) (k : ∀ a2 b2, Inv a2 b2 → Rv p l e room_1 u m #[Value.ref b] below meth c g (xLA u) Q M_L 1390 [some (.ref b), some (.ref (xa (x_ad g ad) 0)), some (.ref (xa (x_ad g ad) 44)), some (.int x)] [] (xw (x_ad g ad) (a2, b2)) 60 7141) : Rv p l e room_1 u m #[Value.ref b] below meth c g (xLA u) Q M_L 378 [some (.ref b), some (.ref (xa (x_ad g ad) 0)), some (.ref (xa (x_ad g ad) 44)), some (.int x)] [] (xw (x_ad g ad) (a, bb)) 60 7141 := by
  refine v_aload_n hB.1 DL_378 (i := 1) rfl rfl ?_
  refine v_aload_n hB.1 DL_379 (i := 0) rfl rfl ?_
  refine v_iload_n hB.1 DL_380 (i := 3) rfl rfl ?_
  refine v_iconst hB.1 DL_381 (v := 1) (by decide) ?_
  refine v_iadd hB.1 DL_382 ?_
  refine v_sld hB DL_383 h1 ?_
  obtain ⟨r, e1, e2, hI2⟩ := hAll.2.2.2.2.2.2.1 (xs (Int32.toNatClampNeg (x + 1))) a bb hI
  refine v_callEv (As := [.int (xs (Int32.toNatClampNeg (x + 1)))]) (S := []) hB.1 (fun _ h => h) DL_384 CL_X7_fills (ci := 7) rfl rfl e_0 (by decide) (by decide) (by decide) (by decide) (Nat.le_of_ble_eq_true rfl) (t_X7_fills N (xs (Int32.toNatClampNeg (x + 1))) a e1) rfl rfl ?_
  refine v_aload_n hB.1 DL_387 (i := 2) rfl rfl ?_
  refine v_aload_n hB.1 DL_388 (i := 0) rfl rfl ?_
  refine v_iload_n hB.1 DL_389 (i := 3) rfl rfl ?_
  refine v_iconst hB.1 DL_390 (v := 1) (by decide) ?_
  refine v_iadd hB.1 DL_391 ?_
  refine v_sld hB DL_392 h1 ?_
  refine v_callEv (As := [.int (xs (Int32.toNatClampNeg (x + 1)))]) (S := [.int r]) hB.1 (fun _ h => h) DL_393 CL_X8_fills (ci := 8) rfl rfl e_44 (by decide) (by decide) (by decide) (by decide) (Nat.le_of_ble_eq_true rfl) (t_X8_fills N (xs (Int32.toNatClampNeg (x + 1))) bb e2) rfl rfl ?_
  refine v_icmp_eq hB.1 DL_396 (tgt := 1390) (by decide) (fun _ => ?_) (fun c => absurd rfl c)
  exact k a bb hI2
set_option maxRecDepth 100000 in
set_option maxHeartbeats 4000000 in
theorem lc_7 {p : Program} {l : Launch} {e : Env} {u : State} {m : MethodId} {below : List Frame} {meth : Method} {c : Code} {g : xG} {Q : State → Prop} {b Ln N : Nat} {xs : Nat → Int32} {Inv : xT → xT → Prop} {ad : Nat → Nat} (hB : xLw p g u m meth c b Ln xs) (x : Int32) (h1 : vp_in (x + 1) Ln) (h2 : vp_in (x + 2) Ln) (h3 : vp_in (x + 3) Ln) (h4 : vp_in (x + 4) Ln) (h5 : vp_in (x + 5) Ln) (hAll : xAll N Inv) (a bb : xT) (hI : Inv a bb) (k : ∀ a2 b2, Inv a2 b2 → Rv p l e room_1 u m #[Value.ref b] below meth c g (xLA u) Q M_L 1390 [some (.ref b), some (.ref (xa (x_ad g ad) 0)), some (.ref (xa (x_ad g ad) 44)), some (.int x)] [] (xw (x_ad g ad) (a2, b2)) 60 7141) : Rv p l e room_1 u m #[Value.ref b] below meth c g (xLA u) Q M_L 401 [some (.ref b), some (.ref (xa (x_ad g ad) 0)), some (.ref (xa (x_ad g ad) 44)), some (.int x)] [] (xw (x_ad g ad) (a, bb)) 60 7141 := by
  refine v_aload_n hB.1 DL_401 (i := 1) rfl rfl ?_
  refine v_aload_n hB.1 DL_402 (i := 0) rfl rfl ?_
  refine v_iload_n hB.1 DL_403 (i := 3) rfl rfl ?_
  refine v_iconst hB.1 DL_404 (v := 1) (by decide) ?_
  refine v_iadd hB.1 DL_405 ?_
  refine v_sld hB DL_406 h1 ?_
  refine v_aload_n hB.1 DL_407 (i := 0) rfl rfl ?_
  refine v_iload_n hB.1 DL_408 (i := 3) rfl rfl ?_
  refine v_iconst hB.1 DL_409 (v := 2) (by decide) ?_
  refine v_iadd hB.1 DL_410 ?_
  refine v_sld hB DL_411 h2 ?_
  obtain ⟨r, a2, b2, e1, e2, hI2⟩ := hAll.2.2.2.2.2.2.2.1 (xs (Int32.toNatClampNeg (x + 1))) (xs (Int32.toNatClampNeg (x + 2))) a bb hI
  refine v_callEv (As := [.int (xs (Int32.toNatClampNeg (x + 1))), .int (xs (Int32.toNatClampNeg (x + 2)))]) (S := []) hB.1 (fun _ h => h) DL_412 CL_X7_add (ci := 7) rfl rfl e_0 (by decide) (by decide) (by decide) (by decide) (Nat.le_of_ble_eq_true rfl) (t_X7_add (xs (Int32.toNatClampNeg (x + 1))) (xs (Int32.toNatClampNeg (x + 2))) a e1) rfl rfl ?_
  refine v_aload_n hB.1 DL_415 (i := 2) rfl rfl ?_
  refine v_aload_n hB.1 DL_416 (i := 0) rfl rfl ?_
  refine v_iload_n hB.1 DL_417 (i := 3) rfl rfl ?_
  refine v_iconst hB.1 DL_418 (v := 1) (by decide) ?_
  refine v_iadd hB.1 DL_419 ?_
  refine v_sld hB DL_420 h1 ?_
  refine v_aload_n hB.1 DL_421 (i := 0) rfl rfl ?_
  refine v_iload_n hB.1 DL_422 (i := 3) rfl rfl ?_
  refine v_iconst hB.1 DL_423 (v := 2) (by decide) ?_
  refine v_iadd hB.1 DL_424 ?_
  refine v_sld hB DL_425 h2 ?_
  refine v_callEv (As := [.int (xs (Int32.toNatClampNeg (x + 1))), .int (xs (Int32.toNatClampNeg (x + 2)))]) (S := [.int r]) hB.1 (fun _ h => h) DL_426 CL_X8_add (ci := 8) rfl rfl e_44 (by decide) (by decide) (by decide) (by decide) (Nat.le_of_ble_eq_true rfl) (t_X8_add N (xs (Int32.toNatClampNeg (x + 1))) (xs (Int32.toNatClampNeg (x + 2))) bb e2) rfl rfl ?_
  refine v_icmp_eq hB.1 DL_429 (tgt := 1390) (by decide) (fun _ => ?_) (fun c => absurd rfl c)
  exact k a2 b2 hI2
set_option maxRecDepth 100000 in
set_option maxHeartbeats 4000000 in
theorem lc_8 {p : Program} {l : Launch} {e : Env} {u : State} {m : MethodId} {below : List Frame} {meth : Method} {c : Code} {g : xG} {Q : State → Prop} {b Ln N : Nat} {xs : Nat → Int32} {Inv : xT → xT → Prop} {ad : Nat → Nat} (hB : xLw p g u m meth c b Ln xs) (x : Int32) (h1 : vp_in (x + 1) Ln) (h2 : vp_in (x + 2) Ln) (h3 : vp_in (x + 3) Ln) (h4 : vp_in (x + 4) Ln) (h5 : vp_in (x + 5) Ln) (hAll : xAll N Inv) (a bb : xT) (hI : Inv a bb) (k : ∀ a2 b2, Inv a2 b2 → Rv p l e room_1 u m #[Value.ref b] below meth c g (xLA u) Q M_L 1390 [some (.ref b), some (.ref (xa (x_ad g ad) 0)), some (.ref (xa (x_ad g ad) 44)), some (.int x)] [] (xw (x_ad g ad) (a2, b2)) 60 7141) : Rv p l e room_1 u m #[Value.ref b] below meth c g (xLA u) Q M_L 434 [some (.ref b), some (.ref (xa (x_ad g ad) 0)), some (.ref (xa (x_ad g ad) 44)), some (.int x)] [] (xw (x_ad g ad) (a, bb)) 60 7141 := by
  refine v_aload_n hB.1 DL_434 (i := 1) rfl rfl ?_
  refine v_aload_n hB.1 DL_435 (i := 0) rfl rfl ?_
  refine v_iload_n hB.1 DL_436 (i := 3) rfl rfl ?_
  refine v_iconst hB.1 DL_437 (v := 1) (by decide) ?_
  refine v_iadd hB.1 DL_438 ?_
  refine v_sld hB DL_439 h1 ?_
  refine v_aload_n hB.1 DL_440 (i := 0) rfl rfl ?_
  refine v_iload_n hB.1 DL_441 (i := 3) rfl rfl ?_
  refine v_iconst hB.1 DL_442 (v := 2) (by decide) ?_
  refine v_iadd hB.1 DL_443 ?_
  refine v_sld hB DL_444 h2 ?_
  obtain ⟨r, a2, b2, e1, e2, hI2⟩ := hAll.2.2.2.2.2.2.2.2.1 (xs (Int32.toNatClampNeg (x + 1))) (xs (Int32.toNatClampNeg (x + 2))) a bb hI
  refine v_callEv (As := [.int (xs (Int32.toNatClampNeg (x + 1))), .int (xs (Int32.toNatClampNeg (x + 2)))]) (S := []) hB.1 (fun _ h => h) DL_445 CL_X7_drop (ci := 7) rfl rfl e_0 (by decide) (by decide) (by decide) (by decide) (Nat.le_of_ble_eq_true rfl) (t_X7_drop (xs (Int32.toNatClampNeg (x + 1))) (xs (Int32.toNatClampNeg (x + 2))) a e1) rfl rfl ?_
  refine v_aload_n hB.1 DL_448 (i := 2) rfl rfl ?_
  refine v_aload_n hB.1 DL_449 (i := 0) rfl rfl ?_
  refine v_iload_n hB.1 DL_450 (i := 3) rfl rfl ?_
  refine v_iconst hB.1 DL_451 (v := 1) (by decide) ?_
  refine v_iadd hB.1 DL_452 ?_
  refine v_sld hB DL_453 h1 ?_
  refine v_aload_n hB.1 DL_454 (i := 0) rfl rfl ?_
  refine v_iload_n hB.1 DL_455 (i := 3) rfl rfl ?_
  refine v_iconst hB.1 DL_456 (v := 2) (by decide) ?_
  refine v_iadd hB.1 DL_457 ?_
  refine v_sld hB DL_458 h2 ?_
  refine v_callEv (As := [.int (xs (Int32.toNatClampNeg (x + 1))), .int (xs (Int32.toNatClampNeg (x + 2)))]) (S := [.int r]) hB.1 (fun _ h => h) DL_459 CL_X8_drop (ci := 8) rfl rfl e_44 (by decide) (by decide) (by decide) (by decide) (Nat.le_of_ble_eq_true rfl) (t_X8_drop N (xs (Int32.toNatClampNeg (x + 1))) (xs (Int32.toNatClampNeg (x + 2))) bb e2) rfl rfl ?_
  refine v_icmp_eq hB.1 DL_462 (tgt := 1390) (by decide) (fun _ => ?_) (fun c => absurd rfl c)
  exact k a2 b2 hI2
set_option maxRecDepth 100000 in
set_option maxHeartbeats 4000000 in
theorem lc_9 {p : Program} {l : Launch} {e : Env} {u : State} {m : MethodId} {below : List Frame} {meth : Method} {c : Code} {g : xG} {Q : State → Prop} {b Ln N : Nat} {xs : Nat → Int32} {Inv : xT → xT → Prop} {ad : Nat → Nat} (hB : xLw p g u m meth c b Ln xs) (x : Int32) (h1 : vp_in (x + 1) Ln) (h2 : vp_in (x + 2) Ln) (h3 : vp_in (x + 3) Ln) (h4 : vp_in (x + 4) Ln) (h5 : vp_in (x + 5) Ln) (hAll : xAll N Inv) (a bb : xT) (hI : Inv a bb) (k : ∀ a2 b2, Inv a2 b2 → Rv p l e room_1 u m #[Value.ref b] below meth c g (xLA u) Q M_L 1390 [some (.ref b), some (.ref (xa (x_ad g ad) 0)), some (.ref (xa (x_ad g ad) 44)), some (.int x)] [] (xw (x_ad g ad) (a2, b2)) 60 7141) : Rv p l e room_1 u m #[Value.ref b] below meth c g (xLA u) Q M_L 467 [some (.ref b), some (.ref (xa (x_ad g ad) 0)), some (.ref (xa (x_ad g ad) 44)), some (.int x)] [] (xw (x_ad g ad) (a, bb)) 60 7141 := by
  refine v_aload_n hB.1 DL_467 (i := 1) rfl rfl ?_
  refine v_aload_n hB.1 DL_468 (i := 0) rfl rfl ?_
  refine v_iload_n hB.1 DL_469 (i := 3) rfl rfl ?_
  refine v_iconst hB.1 DL_470 (v := 1) (by decide) ?_
  refine v_iadd hB.1 DL_471 ?_
  refine v_sld hB DL_472 h1 ?_
  obtain ⟨r, a2, b2, e1, e2, hI2⟩ := hAll.2.2.2.2.2.2.2.2.2.1 (xs (Int32.toNatClampNeg (x + 1))) a bb hI
  refine v_callEv (As := [.int (xs (Int32.toNatClampNeg (x + 1)))]) (S := []) hB.1 (fun _ h => h) DL_473 CL_X7_clear (ci := 7) rfl rfl e_0 (by decide) (by decide) (by decide) (by decide) (Nat.le_of_ble_eq_true rfl) (t_X7_clear N (xs (Int32.toNatClampNeg (x + 1))) a e1) rfl rfl ?_
  refine v_aload_n hB.1 DL_476 (i := 2) rfl rfl ?_
  refine v_aload_n hB.1 DL_477 (i := 0) rfl rfl ?_
  refine v_iload_n hB.1 DL_478 (i := 3) rfl rfl ?_
  refine v_iconst hB.1 DL_479 (v := 1) (by decide) ?_
  refine v_iadd hB.1 DL_480 ?_
  refine v_sld hB DL_481 h1 ?_
  refine v_callEv (As := [.int (xs (Int32.toNatClampNeg (x + 1)))]) (S := [.int r]) hB.1 (fun _ h => h) DL_482 CL_X8_clear (ci := 8) rfl rfl e_44 (by decide) (by decide) (by decide) (by decide) (Nat.le_of_ble_eq_true rfl) (t_X8_clear (xs (Int32.toNatClampNeg (x + 1))) bb e2) rfl rfl ?_
  refine v_icmp_eq hB.1 DL_485 (tgt := 1390) (by decide) (fun _ => ?_) (fun c => absurd rfl c)
  exact k a2 b2 hI2
set_option maxRecDepth 100000 in
set_option maxHeartbeats 4000000 in
theorem lc_10 {p : Program} {l : Launch} {e : Env} {u : State} {m : MethodId} {below : List Frame} {meth : Method} {c : Code} {g : xG} {Q : State → Prop} {b Ln N : Nat} {xs : Nat → Int32} {Inv : xT → xT → Prop} {ad : Nat → Nat} (hB : xLw p g u m meth c b Ln xs) (x : Int32) (h1 : vp_in (x + 1) Ln) (h2 : vp_in (x + 2) Ln) (h3 : vp_in (x + 3) Ln) (h4 : vp_in (x + 4) Ln) (h5 : vp_in (x + 5) Ln) (hAll : xAll N Inv) (a bb : xT) (hI : Inv a bb) (k : ∀ a2 b2, Inv a2 b2 → Rv p l e room_1 u m #[Value.ref b] below meth c g (xLA u) Q M_L 1390 [some (.ref b), some (.ref (xa (x_ad g ad) 0)), some (.ref (xa (x_ad g ad) 44)), some (.int x)] [] (xw (x_ad g ad) (a2, b2)) 60 7141) : Rv p l e room_1 u m #[Value.ref b] below meth c g (xLA u) Q M_L 490 [some (.ref b), some (.ref (xa (x_ad g ad) 0)), some (.ref (xa (x_ad g ad) 44)), some (.int x)] [] (xw (x_ad g ad) (a, bb)) 60 7141 := by
  refine v_aload_n hB.1 DL_490 (i := 1) rfl rfl ?_
  refine v_aload_n hB.1 DL_491 (i := 0) rfl rfl ?_
  refine v_iload_n hB.1 DL_492 (i := 3) rfl rfl ?_
  refine v_iconst hB.1 DL_493 (v := 1) (by decide) ?_
  refine v_iadd hB.1 DL_494 ?_
  refine v_sld hB DL_495 h1 ?_
  refine v_aload_n hB.1 DL_496 (i := 0) rfl rfl ?_
  refine v_iload_n hB.1 DL_497 (i := 3) rfl rfl ?_
  refine v_iconst hB.1 DL_498 (v := 2) (by decide) ?_
  refine v_iadd hB.1 DL_499 ?_
  refine v_sld hB DL_500 h2 ?_
  obtain ⟨r, e1, e2, hI2⟩ := hAll.2.2.2.2.2.2.2.2.2.2.1 (xs (Int32.toNatClampNeg (x + 1))) (xs (Int32.toNatClampNeg (x + 2))) a bb hI
  refine v_callEv (As := [.int (xs (Int32.toNatClampNeg (x + 1))), .int (xs (Int32.toNatClampNeg (x + 2)))]) (S := []) hB.1 (fun _ h => h) DL_501 CL_X7_mark (ci := 7) rfl rfl e_0 (by decide) (by decide) (by decide) (by decide) (Nat.le_of_ble_eq_true rfl) (t_X7_mark (xs (Int32.toNatClampNeg (x + 1))) (xs (Int32.toNatClampNeg (x + 2))) a e1) rfl rfl ?_
  refine v_aload_n hB.1 DL_504 (i := 2) rfl rfl ?_
  refine v_aload_n hB.1 DL_505 (i := 0) rfl rfl ?_
  refine v_iload_n hB.1 DL_506 (i := 3) rfl rfl ?_
  refine v_iconst hB.1 DL_507 (v := 1) (by decide) ?_
  refine v_iadd hB.1 DL_508 ?_
  refine v_sld hB DL_509 h1 ?_
  refine v_aload_n hB.1 DL_510 (i := 0) rfl rfl ?_
  refine v_iload_n hB.1 DL_511 (i := 3) rfl rfl ?_
  refine v_iconst hB.1 DL_512 (v := 2) (by decide) ?_
  refine v_iadd hB.1 DL_513 ?_
  refine v_sld hB DL_514 h2 ?_
  refine v_callEv (As := [.int (xs (Int32.toNatClampNeg (x + 1))), .int (xs (Int32.toNatClampNeg (x + 2)))]) (S := [.int r]) hB.1 (fun _ h => h) DL_515 CL_X8_mark (ci := 8) rfl rfl e_44 (by decide) (by decide) (by decide) (by decide) (Nat.le_of_ble_eq_true rfl) (t_X8_mark (xs (Int32.toNatClampNeg (x + 1))) (xs (Int32.toNatClampNeg (x + 2))) bb e2) rfl rfl ?_
  refine v_icmp_eq hB.1 DL_518 (tgt := 1390) (by decide) (fun _ => ?_) (fun c => absurd rfl c)
  exact k a bb hI2
set_option maxRecDepth 100000 in
set_option maxHeartbeats 4000000 in
theorem lc_11 {p : Program} {l : Launch} {e : Env} {u : State} {m : MethodId} {below : List Frame} {meth : Method} {c : Code} {g : xG} {Q : State → Prop} {b Ln N : Nat} {xs : Nat → Int32} {Inv : xT → xT → Prop} {ad : Nat → Nat} (hB : xLw p g u m meth c b Ln xs) (x : Int32) (h1 : vp_in (x + 1) Ln) (h2 : vp_in (x + 2) Ln) (h3 : vp_in (x + 3) Ln) (h4 : vp_in (x + 4) Ln) (h5 : vp_in (x + 5) Ln) (hAll : xAll N Inv) (a bb : xT) (hI : Inv a bb) (k : ∀ a2 b2, Inv a2 b2 → Rv p l e room_1 u m #[Value.ref b] below meth c g (xLA u) Q M_L 1390 [some (.ref b), some (.ref (xa (x_ad g ad) 0)), some (.ref (xa (x_ad g ad) 44)), some (.int x)] [] (xw (x_ad g ad) (a2, b2)) 60 7141) : Rv p l e room_1 u m #[Value.ref b] below meth c g (xLA u) Q M_L 523 [some (.ref b), some (.ref (xa (x_ad g ad) 0)), some (.ref (xa (x_ad g ad) 44)), some (.int x)] [] (xw (x_ad g ad) (a, bb)) 60 7141 := by
  refine v_aload_n hB.1 DL_523 (i := 1) rfl rfl ?_
  refine v_aload_n hB.1 DL_524 (i := 0) rfl rfl ?_
  refine v_iload_n hB.1 DL_525 (i := 3) rfl rfl ?_
  refine v_iconst hB.1 DL_526 (v := 1) (by decide) ?_
  refine v_iadd hB.1 DL_527 ?_
  refine v_sld hB DL_528 h1 ?_
  refine v_aload_n hB.1 DL_529 (i := 0) rfl rfl ?_
  refine v_iload_n hB.1 DL_530 (i := 3) rfl rfl ?_
  refine v_iconst hB.1 DL_531 (v := 2) (by decide) ?_
  refine v_iadd hB.1 DL_532 ?_
  refine v_sld hB DL_533 h2 ?_
  obtain ⟨r, e1, e2, hI2⟩ := hAll.2.2.2.2.2.2.2.2.2.2.2.1 (xs (Int32.toNatClampNeg (x + 1))) (xs (Int32.toNatClampNeg (x + 2))) a bb hI
  refine v_callEv (As := [.int (xs (Int32.toNatClampNeg (x + 1))), .int (xs (Int32.toNatClampNeg (x + 2)))]) (S := []) hB.1 (fun _ h => h) DL_534 CL_X7_good (ci := 7) rfl rfl e_0 (by decide) (by decide) (by decide) (by decide) (Nat.le_of_ble_eq_true rfl) (t_X7_good N (xs (Int32.toNatClampNeg (x + 1))) (xs (Int32.toNatClampNeg (x + 2))) a e1) rfl rfl ?_
  refine v_aload_n hB.1 DL_537 (i := 2) rfl rfl ?_
  refine v_aload_n hB.1 DL_538 (i := 0) rfl rfl ?_
  refine v_iload_n hB.1 DL_539 (i := 3) rfl rfl ?_
  refine v_iconst hB.1 DL_540 (v := 1) (by decide) ?_
  refine v_iadd hB.1 DL_541 ?_
  refine v_sld hB DL_542 h1 ?_
  refine v_aload_n hB.1 DL_543 (i := 0) rfl rfl ?_
  refine v_iload_n hB.1 DL_544 (i := 3) rfl rfl ?_
  refine v_iconst hB.1 DL_545 (v := 2) (by decide) ?_
  refine v_iadd hB.1 DL_546 ?_
  refine v_sld hB DL_547 h2 ?_
  refine v_callEv (As := [.int (xs (Int32.toNatClampNeg (x + 1))), .int (xs (Int32.toNatClampNeg (x + 2)))]) (S := [.int r]) hB.1 (fun _ h => h) DL_548 CL_X8_good (ci := 8) rfl rfl e_44 (by decide) (by decide) (by decide) (by decide) (Nat.le_of_ble_eq_true rfl) (t_X8_good N (xs (Int32.toNatClampNeg (x + 1))) (xs (Int32.toNatClampNeg (x + 2))) bb e2) rfl rfl ?_
  refine v_icmp_eq hB.1 DL_551 (tgt := 1390) (by decide) (fun _ => ?_) (fun c => absurd rfl c)
  exact k a bb hI2
set_option maxRecDepth 100000 in
set_option maxHeartbeats 4000000 in
theorem lc_12 {p : Program} {l : Launch} {e : Env} {u : State} {m : MethodId} {below : List Frame} {meth : Method} {c : Code} {g : xG} {Q : State → Prop} {b Ln N : Nat} {xs : Nat → Int32} {Inv : xT → xT → Prop} {ad : Nat → Nat} (hB : xLw p g u m meth c b Ln xs) (x : Int32) (h1 : vp_in (x + 1) Ln) (h2 : vp_in (x + 2) Ln) (h3 : vp_in (x + 3) Ln) (h4 : vp_in (x + 4) Ln) (h5 : vp_in (x + 5) Ln) (hAll : xAll N Inv) (a bb : xT) (hI : Inv a bb) (k : ∀ a2 b2, Inv a2 b2 → Rv p l e room_1 u m #[Value.ref b] below meth c g (xLA u) Q M_L 1390 [some (.ref b), some (.ref (xa (x_ad g ad) 0)), some (.ref (xa (x_ad g ad) 44)), some (.int x)] [] (xw (x_ad g ad) (a2, b2)) 60 7141) : Rv p l e room_1 u m #[Value.ref b] below meth c g (xLA u) Q M_L 556 [some (.ref b), some (.ref (xa (x_ad g ad) 0)), some (.ref (xa (x_ad g ad) 44)), some (.int x)] [] (xw (x_ad g ad) (a, bb)) 60 7141 := by
  refine v_aload_n hB.1 DL_556 (i := 1) rfl rfl ?_
  refine v_aload_n hB.1 DL_557 (i := 0) rfl rfl ?_
  refine v_iload_n hB.1 DL_558 (i := 3) rfl rfl ?_
  refine v_iconst hB.1 DL_559 (v := 1) (by decide) ?_
  refine v_iadd hB.1 DL_560 ?_
  refine v_sld hB DL_561 h1 ?_
  refine v_aload_n hB.1 DL_562 (i := 0) rfl rfl ?_
  refine v_iload_n hB.1 DL_563 (i := 3) rfl rfl ?_
  refine v_iconst hB.1 DL_564 (v := 2) (by decide) ?_
  refine v_iadd hB.1 DL_565 ?_
  refine v_sld hB DL_566 h2 ?_
  refine v_aload_n hB.1 DL_567 (i := 0) rfl rfl ?_
  refine v_iload_n hB.1 DL_568 (i := 3) rfl rfl ?_
  refine v_iconst hB.1 DL_569 (v := 3) (by decide) ?_
  refine v_iadd hB.1 DL_570 ?_
  refine v_sld hB DL_571 h3 ?_
  obtain ⟨r, a2, b2, e1, e2, hI2⟩ := hAll.2.2.2.2.2.2.2.2.2.2.2.2.1 (xs (Int32.toNatClampNeg (x + 1))) (xs (Int32.toNatClampNeg (x + 2))) (xs (Int32.toNatClampNeg (x + 3))) a bb hI
  refine v_callEv (As := [.int (xs (Int32.toNatClampNeg (x + 1))), .int (xs (Int32.toNatClampNeg (x + 2))), .int (xs (Int32.toNatClampNeg (x + 3)))]) (S := []) hB.1 (fun _ h => h) DL_572 CL_X7_build (ci := 7) rfl rfl e_0 (by decide) (by decide) (by decide) (by decide) (Nat.le_of_ble_eq_true rfl) (t_X7_build N (xs (Int32.toNatClampNeg (x + 1))) (xs (Int32.toNatClampNeg (x + 2))) (xs (Int32.toNatClampNeg (x + 3))) a e1) rfl rfl ?_
  refine v_aload_n hB.1 DL_575 (i := 2) rfl rfl ?_
  refine v_aload_n hB.1 DL_576 (i := 0) rfl rfl ?_
  refine v_iload_n hB.1 DL_577 (i := 3) rfl rfl ?_
  refine v_iconst hB.1 DL_578 (v := 1) (by decide) ?_
  refine v_iadd hB.1 DL_579 ?_
  refine v_sld hB DL_580 h1 ?_
  refine v_aload_n hB.1 DL_581 (i := 0) rfl rfl ?_
  refine v_iload_n hB.1 DL_582 (i := 3) rfl rfl ?_
  refine v_iconst hB.1 DL_583 (v := 2) (by decide) ?_
  refine v_iadd hB.1 DL_584 ?_
  refine v_sld hB DL_585 h2 ?_
  refine v_aload_n hB.1 DL_586 (i := 0) rfl rfl ?_
  refine v_iload_n hB.1 DL_587 (i := 3) rfl rfl ?_
  refine v_iconst hB.1 DL_588 (v := 3) (by decide) ?_
  refine v_iadd hB.1 DL_589 ?_
  refine v_sld hB DL_590 h3 ?_
  refine v_callEv (As := [.int (xs (Int32.toNatClampNeg (x + 1))), .int (xs (Int32.toNatClampNeg (x + 2))), .int (xs (Int32.toNatClampNeg (x + 3)))]) (S := [.int r]) hB.1 (fun _ h => h) DL_591 CL_X8_build (ci := 8) rfl rfl e_44 (by decide) (by decide) (by decide) (by decide) (Nat.le_of_ble_eq_true rfl) (t_X8_build N (xs (Int32.toNatClampNeg (x + 1))) (xs (Int32.toNatClampNeg (x + 2))) (xs (Int32.toNatClampNeg (x + 3))) bb e2) rfl rfl ?_
  refine v_icmp_eq hB.1 DL_594 (tgt := 1390) (by decide) (fun _ => ?_) (fun c => absurd rfl c)
  exact k a2 b2 hI2
set_option maxRecDepth 100000 in
set_option maxHeartbeats 4000000 in
theorem lc_13 {p : Program} {l : Launch} {e : Env} {u : State} {m : MethodId} {below : List Frame} {meth : Method} {c : Code} {g : xG} {Q : State → Prop} {b Ln N : Nat} {xs : Nat → Int32} {Inv : xT → xT → Prop} {ad : Nat → Nat} (hB : xLw p g u m meth c b Ln xs) (x : Int32) (h1 : vp_in (x + 1) Ln) (h2 : vp_in (x + 2) Ln) (h3 : vp_in (x + 3) Ln) (h4 : vp_in (x + 4) Ln) (h5 : vp_in (x + 5) Ln) (hAll : xAll N Inv) (a bb : xT) (hI : Inv a bb) (k : ∀ a2 b2, Inv a2 b2 → Rv p l e room_1 u m #[Value.ref b] below meth c g (xLA u) Q M_L 1390 [some (.ref b), some (.ref (xa (x_ad g ad) 0)), some (.ref (xa (x_ad g ad) 44)), some (.int x)] [] (xw (x_ad g ad) (a2, b2)) 60 7141) : Rv p l e room_1 u m #[Value.ref b] below meth c g (xLA u) Q M_L 599 [some (.ref b), some (.ref (xa (x_ad g ad) 0)), some (.ref (xa (x_ad g ad) 44)), some (.int x)] [] (xw (x_ad g ad) (a, bb)) 60 7141 := by
  refine v_aload_n hB.1 DL_599 (i := 1) rfl rfl ?_
  refine v_aload_n hB.1 DL_600 (i := 0) rfl rfl ?_
  refine v_iload_n hB.1 DL_601 (i := 3) rfl rfl ?_
  refine v_iconst hB.1 DL_602 (v := 1) (by decide) ?_
  refine v_iadd hB.1 DL_603 ?_
  refine v_sld hB DL_604 h1 ?_
  refine v_aload_n hB.1 DL_605 (i := 0) rfl rfl ?_
  refine v_iload_n hB.1 DL_606 (i := 3) rfl rfl ?_
  refine v_iconst hB.1 DL_607 (v := 2) (by decide) ?_
  refine v_iadd hB.1 DL_608 ?_
  refine v_sld hB DL_609 h2 ?_
  obtain ⟨r, a2, b2, e1, e2, hI2⟩ := hAll.2.2.2.2.2.2.2.2.2.2.2.2.2.1 (xs (Int32.toNatClampNeg (x + 1))) (xs (Int32.toNatClampNeg (x + 2))) a bb hI
  refine v_callEv (As := [.int (xs (Int32.toNatClampNeg (x + 1))), .int (xs (Int32.toNatClampNeg (x + 2)))]) (S := []) hB.1 (fun _ h => h) DL_610 CL_X7_most (ci := 7) rfl rfl e_0 (by decide) (by decide) (by decide) (by decide) (Nat.le_of_ble_eq_true rfl) (t_X7_most N (xs (Int32.toNatClampNeg (x + 1))) (xs (Int32.toNatClampNeg (x + 2))) a e1) rfl rfl ?_
  refine v_aload_n hB.1 DL_613 (i := 2) rfl rfl ?_
  refine v_aload_n hB.1 DL_614 (i := 0) rfl rfl ?_
  refine v_iload_n hB.1 DL_615 (i := 3) rfl rfl ?_
  refine v_iconst hB.1 DL_616 (v := 1) (by decide) ?_
  refine v_iadd hB.1 DL_617 ?_
  refine v_sld hB DL_618 h1 ?_
  refine v_aload_n hB.1 DL_619 (i := 0) rfl rfl ?_
  refine v_iload_n hB.1 DL_620 (i := 3) rfl rfl ?_
  refine v_iconst hB.1 DL_621 (v := 2) (by decide) ?_
  refine v_iadd hB.1 DL_622 ?_
  refine v_sld hB DL_623 h2 ?_
  refine v_callEv (As := [.int (xs (Int32.toNatClampNeg (x + 1))), .int (xs (Int32.toNatClampNeg (x + 2)))]) (S := [.int r]) hB.1 (fun _ h => h) DL_624 CL_X8_most (ci := 8) rfl rfl e_44 (by decide) (by decide) (by decide) (by decide) (Nat.le_of_ble_eq_true rfl) (t_X8_most N (xs (Int32.toNatClampNeg (x + 1))) (xs (Int32.toNatClampNeg (x + 2))) bb e2) rfl rfl ?_
  refine v_icmp_eq hB.1 DL_627 (tgt := 1390) (by decide) (fun _ => ?_) (fun c => absurd rfl c)
  exact k a2 b2 hI2
set_option maxRecDepth 100000 in
set_option maxHeartbeats 4000000 in
theorem lc_14 {p : Program} {l : Launch} {e : Env} {u : State} {m : MethodId} {below : List Frame} {meth : Method} {c : Code} {g : xG} {Q : State → Prop} {b Ln N : Nat} {xs : Nat → Int32} {Inv : xT → xT → Prop} {ad : Nat → Nat} (hB : xLw p g u m meth c b Ln xs) (x : Int32) (h1 : vp_in (x + 1) Ln) (h2 : vp_in (x + 2) Ln) (h3 : vp_in (x + 3) Ln) (h4 : vp_in (x + 4) Ln) (h5 : vp_in (x + 5) Ln) (hAll : xAll N Inv) (a bb : xT) (hI : Inv a bb) (k : ∀ a2 b2, Inv a2 b2 → Rv p l e room_1 u m #[Value.ref b] below meth c g (xLA u) Q M_L 1390 [some (.ref b), some (.ref (xa (x_ad g ad) 0)), some (.ref (xa (x_ad g ad) 44)), some (.int x)] [] (xw (x_ad g ad) (a2, b2)) 60 7141) : Rv p l e room_1 u m #[Value.ref b] below meth c g (xLA u) Q M_L 632 [some (.ref b), some (.ref (xa (x_ad g ad) 0)), some (.ref (xa (x_ad g ad) 44)), some (.int x)] [] (xw (x_ad g ad) (a, bb)) 60 7141 := by
  refine v_aload_n hB.1 DL_632 (i := 1) rfl rfl ?_
  obtain ⟨r, e1, e2, hI2⟩ := hAll.2.2.2.2.2.2.2.2.2.2.2.2.2.2.1  a bb hI
  refine v_callEv (As := []) (S := []) hB.1 (fun _ h => h) DL_633 CL_X7_bound (ci := 7) rfl rfl e_0 (by decide) (by decide) (by decide) (by decide) (Nat.le_of_ble_eq_true rfl) (t_X7_bound N a e1) rfl rfl ?_
  refine v_aload_n hB.1 DL_636 (i := 2) rfl rfl ?_
  refine v_callEv (As := []) (S := [.int r]) hB.1 (fun _ h => h) DL_637 CL_X8_bound (ci := 8) rfl rfl e_44 (by decide) (by decide) (by decide) (by decide) (Nat.le_of_ble_eq_true rfl) (t_X8_bound N bb e2) rfl rfl ?_
  refine v_icmp_eq hB.1 DL_640 (tgt := 1390) (by decide) (fun _ => ?_) (fun c => absurd rfl c)
  exact k a bb hI2
set_option maxRecDepth 100000 in
set_option maxHeartbeats 4000000 in
theorem lc_15 {p : Program} {l : Launch} {e : Env} {u : State} {m : MethodId} {below : List Frame} {meth : Method} {c : Code} {g : xG} {Q : State → Prop} {b Ln N : Nat} {xs : Nat → Int32} {Inv : xT → xT → Prop} {ad : Nat → Nat} (hB : xLw p g u m meth c b Ln xs) (x : Int32) (h1 : vp_in (x + 1) Ln) (h2 : vp_in (x + 2) Ln) (h3 : vp_in (x + 3) Ln) (h4 : vp_in (x + 4) Ln) (h5 : vp_in (x + 5) Ln) (hAll : xAll N Inv) (a bb : xT) (hI : Inv a bb) (k : ∀ a2 b2, Inv a2 b2 → Rv p l e room_1 u m #[Value.ref b] below meth c g (xLA u) Q M_L 1390 [some (.ref b), some (.ref (xa (x_ad g ad) 0)), some (.ref (xa (x_ad g ad) 44)), some (.int x)] [] (xw (x_ad g ad) (a2, b2)) 60 7141) : Rv p l e room_1 u m #[Value.ref b] below meth c g (xLA u) Q M_L 645 [some (.ref b), some (.ref (xa (x_ad g ad) 0)), some (.ref (xa (x_ad g ad) 44)), some (.int x)] [] (xw (x_ad g ad) (a, bb)) 60 7141 := by
  refine v_aload_n hB.1 DL_645 (i := 1) rfl rfl ?_
  refine v_aload_n hB.1 DL_646 (i := 0) rfl rfl ?_
  refine v_iload_n hB.1 DL_647 (i := 3) rfl rfl ?_
  refine v_iconst hB.1 DL_648 (v := 1) (by decide) ?_
  refine v_iadd hB.1 DL_649 ?_
  refine v_sld hB DL_650 h1 ?_
  refine v_aload_n hB.1 DL_651 (i := 0) rfl rfl ?_
  refine v_iload_n hB.1 DL_652 (i := 3) rfl rfl ?_
  refine v_iconst hB.1 DL_653 (v := 2) (by decide) ?_
  refine v_iadd hB.1 DL_654 ?_
  refine v_sld hB DL_655 h2 ?_
  refine v_aload_n hB.1 DL_656 (i := 0) rfl rfl ?_
  refine v_iload_n hB.1 DL_657 (i := 3) rfl rfl ?_
  refine v_iconst hB.1 DL_658 (v := 3) (by decide) ?_
  refine v_iadd hB.1 DL_659 ?_
  refine v_sld hB DL_660 h3 ?_
  refine v_aload_n hB.1 DL_661 (i := 0) rfl rfl ?_
  refine v_iload_n hB.1 DL_662 (i := 3) rfl rfl ?_
  refine v_iconst hB.1 DL_663 (v := 4) (by decide) ?_
  refine v_iadd hB.1 DL_664 ?_
  refine v_sld hB DL_665 h4 ?_
  obtain ⟨r, a2, b2, e1, e2, hI2⟩ := hAll.2.2.2.2.2.2.2.2.2.2.2.2.2.2.2.1 (xs (Int32.toNatClampNeg (x + 1))) (xs (Int32.toNatClampNeg (x + 2))) (xs (Int32.toNatClampNeg (x + 3))) (xs (Int32.toNatClampNeg (x + 4))) a bb hI
  refine v_callEv (As := [.int (xs (Int32.toNatClampNeg (x + 1))), .int (xs (Int32.toNatClampNeg (x + 2))), .int (xs (Int32.toNatClampNeg (x + 3))), .int (xs (Int32.toNatClampNeg (x + 4)))]) (S := []) hB.1 (fun _ h => h) DL_666 CL_X7_lay (ci := 7) rfl rfl e_0 (by decide) (by decide) (by decide) (by decide) (Nat.le_of_ble_eq_true rfl) (t_X7_lay N (xs (Int32.toNatClampNeg (x + 1))) (xs (Int32.toNatClampNeg (x + 2))) (xs (Int32.toNatClampNeg (x + 3))) (xs (Int32.toNatClampNeg (x + 4))) a e1) rfl rfl ?_
  refine v_aload_n hB.1 DL_669 (i := 2) rfl rfl ?_
  refine v_aload_n hB.1 DL_670 (i := 0) rfl rfl ?_
  refine v_iload_n hB.1 DL_671 (i := 3) rfl rfl ?_
  refine v_iconst hB.1 DL_672 (v := 1) (by decide) ?_
  refine v_iadd hB.1 DL_673 ?_
  refine v_sld hB DL_674 h1 ?_
  refine v_aload_n hB.1 DL_675 (i := 0) rfl rfl ?_
  refine v_iload_n hB.1 DL_676 (i := 3) rfl rfl ?_
  refine v_iconst hB.1 DL_677 (v := 2) (by decide) ?_
  refine v_iadd hB.1 DL_678 ?_
  refine v_sld hB DL_679 h2 ?_
  refine v_aload_n hB.1 DL_680 (i := 0) rfl rfl ?_
  refine v_iload_n hB.1 DL_681 (i := 3) rfl rfl ?_
  refine v_iconst hB.1 DL_682 (v := 3) (by decide) ?_
  refine v_iadd hB.1 DL_683 ?_
  refine v_sld hB DL_684 h3 ?_
  refine v_aload_n hB.1 DL_685 (i := 0) rfl rfl ?_
  refine v_iload_n hB.1 DL_686 (i := 3) rfl rfl ?_
  refine v_iconst hB.1 DL_687 (v := 4) (by decide) ?_
  refine v_iadd hB.1 DL_688 ?_
  refine v_sld hB DL_689 h4 ?_
  refine v_callEv (As := [.int (xs (Int32.toNatClampNeg (x + 1))), .int (xs (Int32.toNatClampNeg (x + 2))), .int (xs (Int32.toNatClampNeg (x + 3))), .int (xs (Int32.toNatClampNeg (x + 4)))]) (S := [.int r]) hB.1 (fun _ h => h) DL_690 CL_X8_lay (ci := 8) rfl rfl e_44 (by decide) (by decide) (by decide) (by decide) (Nat.le_of_ble_eq_true rfl) (t_X8_lay N (xs (Int32.toNatClampNeg (x + 1))) (xs (Int32.toNatClampNeg (x + 2))) (xs (Int32.toNatClampNeg (x + 3))) (xs (Int32.toNatClampNeg (x + 4))) bb e2) rfl rfl ?_
  refine v_icmp_eq hB.1 DL_693 (tgt := 1390) (by decide) (fun _ => ?_) (fun c => absurd rfl c)
  exact k a2 b2 hI2
set_option maxRecDepth 100000 in
set_option maxHeartbeats 4000000 in
theorem lc_16 {p : Program} {l : Launch} {e : Env} {u : State} {m : MethodId} {below : List Frame} {meth : Method} {c : Code} {g : xG} {Q : State → Prop} {b Ln N : Nat} {xs : Nat → Int32} {Inv : xT → xT → Prop} {ad : Nat → Nat} (hB : xLw p g u m meth c b Ln xs) (x : Int32) (h1 : vp_in (x + 1) Ln) (h2 : vp_in (x + 2) Ln) (h3 : vp_in (x + 3) Ln) (h4 : vp_in (x + 4) Ln) (h5 : vp_in (x + 5) Ln) (hAll : xAll N Inv) (a bb : xT) (hI : Inv a bb) (k : ∀ a2 b2, Inv a2 b2 → Rv p l e room_1 u m #[Value.ref b] below meth c g (xLA u) Q M_L 1390 [some (.ref b), some (.ref (xa (x_ad g ad) 0)), some (.ref (xa (x_ad g ad) 44)), some (.int x)] [] (xw (x_ad g ad) (a2, b2)) 60 7141) : Rv p l e room_1 u m #[Value.ref b] below meth c g (xLA u) Q M_L 698 [some (.ref b), some (.ref (xa (x_ad g ad) 0)), some (.ref (xa (x_ad g ad) 44)), some (.int x)] [] (xw (x_ad g ad) (a, bb)) 60 7141 := by
  refine v_aload_n hB.1 DL_698 (i := 1) rfl rfl ?_
  refine v_aload_n hB.1 DL_699 (i := 0) rfl rfl ?_
  refine v_iload_n hB.1 DL_700 (i := 3) rfl rfl ?_
  refine v_iconst hB.1 DL_701 (v := 1) (by decide) ?_
  refine v_iadd hB.1 DL_702 ?_
  refine v_sld hB DL_703 h1 ?_
  refine v_aload_n hB.1 DL_704 (i := 0) rfl rfl ?_
  refine v_iload_n hB.1 DL_705 (i := 3) rfl rfl ?_
  refine v_iconst hB.1 DL_706 (v := 2) (by decide) ?_
  refine v_iadd hB.1 DL_707 ?_
  refine v_sld hB DL_708 h2 ?_
  refine v_aload_n hB.1 DL_709 (i := 0) rfl rfl ?_
  refine v_iload_n hB.1 DL_710 (i := 3) rfl rfl ?_
  refine v_iconst hB.1 DL_711 (v := 3) (by decide) ?_
  refine v_iadd hB.1 DL_712 ?_
  refine v_sld hB DL_713 h3 ?_
  obtain ⟨r, a2, b2, e1, e2, hI2⟩ := hAll.2.2.2.2.2.2.2.2.2.2.2.2.2.2.2.2.1 (xs (Int32.toNatClampNeg (x + 1))) (xs (Int32.toNatClampNeg (x + 2))) (xs (Int32.toNatClampNeg (x + 3))) a bb hI
  refine v_callEv (As := [.int (xs (Int32.toNatClampNeg (x + 1))), .int (xs (Int32.toNatClampNeg (x + 2))), .int (xs (Int32.toNatClampNeg (x + 3)))]) (S := []) hB.1 (fun _ h => h) DL_714 CL_X7_join (ci := 7) rfl rfl e_0 (by decide) (by decide) (by decide) (by decide) (Nat.le_of_ble_eq_true rfl) (t_X7_join N (xs (Int32.toNatClampNeg (x + 1))) (xs (Int32.toNatClampNeg (x + 2))) (xs (Int32.toNatClampNeg (x + 3))) a e1) rfl rfl ?_
  refine v_aload_n hB.1 DL_717 (i := 2) rfl rfl ?_
  refine v_aload_n hB.1 DL_718 (i := 0) rfl rfl ?_
  refine v_iload_n hB.1 DL_719 (i := 3) rfl rfl ?_
  refine v_iconst hB.1 DL_720 (v := 1) (by decide) ?_
  refine v_iadd hB.1 DL_721 ?_
  refine v_sld hB DL_722 h1 ?_
  refine v_aload_n hB.1 DL_723 (i := 0) rfl rfl ?_
  refine v_iload_n hB.1 DL_724 (i := 3) rfl rfl ?_
  refine v_iconst hB.1 DL_725 (v := 2) (by decide) ?_
  refine v_iadd hB.1 DL_726 ?_
  refine v_sld hB DL_727 h2 ?_
  refine v_aload_n hB.1 DL_728 (i := 0) rfl rfl ?_
  refine v_iload_n hB.1 DL_729 (i := 3) rfl rfl ?_
  refine v_iconst hB.1 DL_730 (v := 3) (by decide) ?_
  refine v_iadd hB.1 DL_731 ?_
  refine v_sld hB DL_732 h3 ?_
  refine v_callEv (As := [.int (xs (Int32.toNatClampNeg (x + 1))), .int (xs (Int32.toNatClampNeg (x + 2))), .int (xs (Int32.toNatClampNeg (x + 3)))]) (S := [.int r]) hB.1 (fun _ h => h) DL_733 CL_X8_join (ci := 8) rfl rfl e_44 (by decide) (by decide) (by decide) (by decide) (Nat.le_of_ble_eq_true rfl) (t_X8_join N (xs (Int32.toNatClampNeg (x + 1))) (xs (Int32.toNatClampNeg (x + 2))) (xs (Int32.toNatClampNeg (x + 3))) bb e2) rfl rfl ?_
  refine v_icmp_eq hB.1 DL_736 (tgt := 1390) (by decide) (fun _ => ?_) (fun c => absurd rfl c)
  exact k a2 b2 hI2
set_option maxRecDepth 100000 in
set_option maxHeartbeats 4000000 in
theorem lc_17 {p : Program} {l : Launch} {e : Env} {u : State} {m : MethodId} {below : List Frame} {meth : Method} {c : Code} {g : xG} {Q : State → Prop} {b Ln N : Nat} {xs : Nat → Int32} {Inv : xT → xT → Prop} {ad : Nat → Nat} (hB : xLw p g u m meth c b Ln xs) (x : Int32) (h1 : vp_in (x + 1) Ln) (h2 : vp_in (x + 2) Ln) (h3 : vp_in (x + 3) Ln) (h4 : vp_in (x + 4) Ln) (h5 : vp_in (x + 5) Ln) (hAll : xAll N Inv) (a bb : xT) (hI : Inv a bb) (k : ∀ a2 b2, Inv a2 b2 → Rv p l e room_1 u m #[Value.ref b] below meth c g (xLA u) Q M_L 1390 [some (.ref b), some (.ref (xa (x_ad g ad) 0)), some (.ref (xa (x_ad g ad) 44)), some (.int x)] [] (xw (x_ad g ad) (a2, b2)) 60 7141) : Rv p l e room_1 u m #[Value.ref b] below meth c g (xLA u) Q M_L 741 [some (.ref b), some (.ref (xa (x_ad g ad) 0)), some (.ref (xa (x_ad g ad) 44)), some (.int x)] [] (xw (x_ad g ad) (a, bb)) 60 7141 := by
  refine v_aload_n hB.1 DL_741 (i := 1) rfl rfl ?_
  refine v_aload_n hB.1 DL_742 (i := 0) rfl rfl ?_
  refine v_iload_n hB.1 DL_743 (i := 3) rfl rfl ?_
  refine v_iconst hB.1 DL_744 (v := 1) (by decide) ?_
  refine v_iadd hB.1 DL_745 ?_
  refine v_sld hB DL_746 h1 ?_
  refine v_aload_n hB.1 DL_747 (i := 0) rfl rfl ?_
  refine v_iload_n hB.1 DL_748 (i := 3) rfl rfl ?_
  refine v_iconst hB.1 DL_749 (v := 2) (by decide) ?_
  refine v_iadd hB.1 DL_750 ?_
  refine v_sld hB DL_751 h2 ?_
  refine v_aload_n hB.1 DL_752 (i := 0) rfl rfl ?_
  refine v_iload_n hB.1 DL_753 (i := 3) rfl rfl ?_
  refine v_iconst hB.1 DL_754 (v := 3) (by decide) ?_
  refine v_iadd hB.1 DL_755 ?_
  refine v_sld hB DL_756 h3 ?_
  obtain ⟨r, a2, b2, e1, e2, hI2⟩ := hAll.2.2.2.2.2.2.2.2.2.2.2.2.2.2.2.2.2.1 (xs (Int32.toNatClampNeg (x + 1))) (xs (Int32.toNatClampNeg (x + 2))) (xs (Int32.toNatClampNeg (x + 3))) a bb hI
  refine v_callEv (As := [.int (xs (Int32.toNatClampNeg (x + 1))), .int (xs (Int32.toNatClampNeg (x + 2))), .int (xs (Int32.toNatClampNeg (x + 3)))]) (S := []) hB.1 (fun _ h => h) DL_757 CL_X7_shorten (ci := 7) rfl rfl e_0 (by decide) (by decide) (by decide) (by decide) (Nat.le_of_ble_eq_true rfl) (t_X7_shorten N (xs (Int32.toNatClampNeg (x + 1))) (xs (Int32.toNatClampNeg (x + 2))) (xs (Int32.toNatClampNeg (x + 3))) a e1) rfl rfl ?_
  refine v_aload_n hB.1 DL_760 (i := 2) rfl rfl ?_
  refine v_aload_n hB.1 DL_761 (i := 0) rfl rfl ?_
  refine v_iload_n hB.1 DL_762 (i := 3) rfl rfl ?_
  refine v_iconst hB.1 DL_763 (v := 1) (by decide) ?_
  refine v_iadd hB.1 DL_764 ?_
  refine v_sld hB DL_765 h1 ?_
  refine v_aload_n hB.1 DL_766 (i := 0) rfl rfl ?_
  refine v_iload_n hB.1 DL_767 (i := 3) rfl rfl ?_
  refine v_iconst hB.1 DL_768 (v := 2) (by decide) ?_
  refine v_iadd hB.1 DL_769 ?_
  refine v_sld hB DL_770 h2 ?_
  refine v_aload_n hB.1 DL_771 (i := 0) rfl rfl ?_
  refine v_iload_n hB.1 DL_772 (i := 3) rfl rfl ?_
  refine v_iconst hB.1 DL_773 (v := 3) (by decide) ?_
  refine v_iadd hB.1 DL_774 ?_
  refine v_sld hB DL_775 h3 ?_
  refine v_callEv (As := [.int (xs (Int32.toNatClampNeg (x + 1))), .int (xs (Int32.toNatClampNeg (x + 2))), .int (xs (Int32.toNatClampNeg (x + 3)))]) (S := [.int r]) hB.1 (fun _ h => h) DL_776 CL_X8_shorten (ci := 8) rfl rfl e_44 (by decide) (by decide) (by decide) (by decide) (Nat.le_of_ble_eq_true rfl) (t_X8_shorten N (xs (Int32.toNatClampNeg (x + 1))) (xs (Int32.toNatClampNeg (x + 2))) (xs (Int32.toNatClampNeg (x + 3))) bb e2) rfl rfl ?_
  refine v_icmp_eq hB.1 DL_779 (tgt := 1390) (by decide) (fun _ => ?_) (fun c => absurd rfl c)
  exact k a2 b2 hI2
set_option maxRecDepth 100000 in
set_option maxHeartbeats 4000000 in
theorem lc_18 {p : Program} {l : Launch} {e : Env} {u : State} {m : MethodId} {below : List Frame} {meth : Method} {c : Code} {g : xG} {Q : State → Prop} {b Ln N : Nat} {xs : Nat → Int32} {Inv : xT → xT → Prop} {ad : Nat → Nat} (hB : xLw p g u m meth c b Ln xs) (x : Int32) (h1 : vp_in (x + 1) Ln) (h2 : vp_in (x + 2) Ln) (h3 : vp_in (x + 3) Ln) (h4 : vp_in (x + 4) Ln) (h5 : vp_in (x + 5) Ln) (hAll : xAll N Inv) (a bb : xT) (hI : Inv a bb) (k : ∀ a2 b2, Inv a2 b2 → Rv p l e room_1 u m #[Value.ref b] below meth c g (xLA u) Q M_L 1390 [some (.ref b), some (.ref (xa (x_ad g ad) 0)), some (.ref (xa (x_ad g ad) 44)), some (.int x)] [] (xw (x_ad g ad) (a2, b2)) 60 7141) : Rv p l e room_1 u m #[Value.ref b] below meth c g (xLA u) Q M_L 784 [some (.ref b), some (.ref (xa (x_ad g ad) 0)), some (.ref (xa (x_ad g ad) 44)), some (.int x)] [] (xw (x_ad g ad) (a, bb)) 60 7141 := by
  refine v_aload_n hB.1 DL_784 (i := 1) rfl rfl ?_
  refine v_aload_n hB.1 DL_785 (i := 0) rfl rfl ?_
  refine v_iload_n hB.1 DL_786 (i := 3) rfl rfl ?_
  refine v_iconst hB.1 DL_787 (v := 1) (by decide) ?_
  refine v_iadd hB.1 DL_788 ?_
  refine v_sld hB DL_789 h1 ?_
  refine v_aload_n hB.1 DL_790 (i := 0) rfl rfl ?_
  refine v_iload_n hB.1 DL_791 (i := 3) rfl rfl ?_
  refine v_iconst hB.1 DL_792 (v := 2) (by decide) ?_
  refine v_iadd hB.1 DL_793 ?_
  refine v_sld hB DL_794 h2 ?_
  obtain ⟨r, a2, b2, e1, e2, hI2⟩ := hAll.2.2.2.2.2.2.2.2.2.2.2.2.2.2.2.2.2.2.1 (xs (Int32.toNatClampNeg (x + 1))) (xs (Int32.toNatClampNeg (x + 2))) a bb hI
  refine v_callEv (As := [.int (xs (Int32.toNatClampNeg (x + 1))), .int (xs (Int32.toNatClampNeg (x + 2)))]) (S := []) hB.1 (fun _ h => h) DL_795 CL_X7_turn (ci := 7) rfl rfl e_0 (by decide) (by decide) (by decide) (by decide) (Nat.le_of_ble_eq_true rfl) (t_X7_turn N (xs (Int32.toNatClampNeg (x + 1))) (xs (Int32.toNatClampNeg (x + 2))) a e1) rfl rfl ?_
  refine v_aload_n hB.1 DL_798 (i := 2) rfl rfl ?_
  refine v_aload_n hB.1 DL_799 (i := 0) rfl rfl ?_
  refine v_iload_n hB.1 DL_800 (i := 3) rfl rfl ?_
  refine v_iconst hB.1 DL_801 (v := 1) (by decide) ?_
  refine v_iadd hB.1 DL_802 ?_
  refine v_sld hB DL_803 h1 ?_
  refine v_aload_n hB.1 DL_804 (i := 0) rfl rfl ?_
  refine v_iload_n hB.1 DL_805 (i := 3) rfl rfl ?_
  refine v_iconst hB.1 DL_806 (v := 2) (by decide) ?_
  refine v_iadd hB.1 DL_807 ?_
  refine v_sld hB DL_808 h2 ?_
  refine v_callEv (As := [.int (xs (Int32.toNatClampNeg (x + 1))), .int (xs (Int32.toNatClampNeg (x + 2)))]) (S := [.int r]) hB.1 (fun _ h => h) DL_809 CL_X8_turn (ci := 8) rfl rfl e_44 (by decide) (by decide) (by decide) (by decide) (Nat.le_of_ble_eq_true rfl) (t_X8_turn N (xs (Int32.toNatClampNeg (x + 1))) (xs (Int32.toNatClampNeg (x + 2))) bb e2) rfl rfl ?_
  refine v_icmp_eq hB.1 DL_812 (tgt := 1390) (by decide) (fun _ => ?_) (fun c => absurd rfl c)
  exact k a2 b2 hI2
set_option maxRecDepth 100000 in
set_option maxHeartbeats 4000000 in
theorem lc_19 {p : Program} {l : Launch} {e : Env} {u : State} {m : MethodId} {below : List Frame} {meth : Method} {c : Code} {g : xG} {Q : State → Prop} {b Ln N : Nat} {xs : Nat → Int32} {Inv : xT → xT → Prop} {ad : Nat → Nat} (hB : xLw p g u m meth c b Ln xs) (x : Int32) (h1 : vp_in (x + 1) Ln) (h2 : vp_in (x + 2) Ln) (h3 : vp_in (x + 3) Ln) (h4 : vp_in (x + 4) Ln) (h5 : vp_in (x + 5) Ln) (hAll : xAll N Inv) (a bb : xT) (hI : Inv a bb) (k : ∀ a2 b2, Inv a2 b2 → Rv p l e room_1 u m #[Value.ref b] below meth c g (xLA u) Q M_L 1390 [some (.ref b), some (.ref (xa (x_ad g ad) 0)), some (.ref (xa (x_ad g ad) 44)), some (.int x)] [] (xw (x_ad g ad) (a2, b2)) 60 7141) : Rv p l e room_1 u m #[Value.ref b] below meth c g (xLA u) Q M_L 817 [some (.ref b), some (.ref (xa (x_ad g ad) 0)), some (.ref (xa (x_ad g ad) 44)), some (.int x)] [] (xw (x_ad g ad) (a, bb)) 60 7141 := by
  refine v_aload_n hB.1 DL_817 (i := 1) rfl rfl ?_
  refine v_aload_n hB.1 DL_818 (i := 0) rfl rfl ?_
  refine v_iload_n hB.1 DL_819 (i := 3) rfl rfl ?_
  refine v_iconst hB.1 DL_820 (v := 1) (by decide) ?_
  refine v_iadd hB.1 DL_821 ?_
  refine v_sld hB DL_822 h1 ?_
  refine v_aload_n hB.1 DL_823 (i := 0) rfl rfl ?_
  refine v_iload_n hB.1 DL_824 (i := 3) rfl rfl ?_
  refine v_iconst hB.1 DL_825 (v := 2) (by decide) ?_
  refine v_iadd hB.1 DL_826 ?_
  refine v_sld hB DL_827 h2 ?_
  refine v_aload_n hB.1 DL_828 (i := 0) rfl rfl ?_
  refine v_iload_n hB.1 DL_829 (i := 3) rfl rfl ?_
  refine v_iconst hB.1 DL_830 (v := 3) (by decide) ?_
  refine v_iadd hB.1 DL_831 ?_
  refine v_sld hB DL_832 h3 ?_
  obtain ⟨r, a2, b2, e1, e2, hI2⟩ := hAll.2.2.2.2.2.2.2.2.2.2.2.2.2.2.2.2.2.2.2.1 (xs (Int32.toNatClampNeg (x + 1))) (xs (Int32.toNatClampNeg (x + 2))) (xs (Int32.toNatClampNeg (x + 3))) a bb hI
  refine v_callEv (As := [.int (xs (Int32.toNatClampNeg (x + 1))), .int (xs (Int32.toNatClampNeg (x + 2))), .int (xs (Int32.toNatClampNeg (x + 3)))]) (S := []) hB.1 (fun _ h => h) DL_833 CL_X7_even (ci := 7) rfl rfl e_0 (by decide) (by decide) (by decide) (by decide) (Nat.le_of_ble_eq_true rfl) (t_X7_even N (xs (Int32.toNatClampNeg (x + 1))) (xs (Int32.toNatClampNeg (x + 2))) (xs (Int32.toNatClampNeg (x + 3))) a e1) rfl rfl ?_
  refine v_aload_n hB.1 DL_836 (i := 2) rfl rfl ?_
  refine v_aload_n hB.1 DL_837 (i := 0) rfl rfl ?_
  refine v_iload_n hB.1 DL_838 (i := 3) rfl rfl ?_
  refine v_iconst hB.1 DL_839 (v := 1) (by decide) ?_
  refine v_iadd hB.1 DL_840 ?_
  refine v_sld hB DL_841 h1 ?_
  refine v_aload_n hB.1 DL_842 (i := 0) rfl rfl ?_
  refine v_iload_n hB.1 DL_843 (i := 3) rfl rfl ?_
  refine v_iconst hB.1 DL_844 (v := 2) (by decide) ?_
  refine v_iadd hB.1 DL_845 ?_
  refine v_sld hB DL_846 h2 ?_
  refine v_aload_n hB.1 DL_847 (i := 0) rfl rfl ?_
  refine v_iload_n hB.1 DL_848 (i := 3) rfl rfl ?_
  refine v_iconst hB.1 DL_849 (v := 3) (by decide) ?_
  refine v_iadd hB.1 DL_850 ?_
  refine v_sld hB DL_851 h3 ?_
  refine v_callEv (As := [.int (xs (Int32.toNatClampNeg (x + 1))), .int (xs (Int32.toNatClampNeg (x + 2))), .int (xs (Int32.toNatClampNeg (x + 3)))]) (S := [.int r]) hB.1 (fun _ h => h) DL_852 CL_X8_even (ci := 8) rfl rfl e_44 (by decide) (by decide) (by decide) (by decide) (Nat.le_of_ble_eq_true rfl) (t_X8_even N (xs (Int32.toNatClampNeg (x + 1))) (xs (Int32.toNatClampNeg (x + 2))) (xs (Int32.toNatClampNeg (x + 3))) bb e2) rfl rfl ?_
  refine v_icmp_eq hB.1 DL_855 (tgt := 1390) (by decide) (fun _ => ?_) (fun c => absurd rfl c)
  exact k a2 b2 hI2
set_option maxRecDepth 100000 in
set_option maxHeartbeats 4000000 in
theorem lc_20 {p : Program} {l : Launch} {e : Env} {u : State} {m : MethodId} {below : List Frame} {meth : Method} {c : Code} {g : xG} {Q : State → Prop} {b Ln N : Nat} {xs : Nat → Int32} {Inv : xT → xT → Prop} {ad : Nat → Nat} (hB : xLw p g u m meth c b Ln xs) (x : Int32) (h1 : vp_in (x + 1) Ln) (h2 : vp_in (x + 2) Ln) (h3 : vp_in (x + 3) Ln) (h4 : vp_in (x + 4) Ln) (h5 : vp_in (x + 5) Ln) (hAll : xAll N Inv) (a bb : xT) (hI : Inv a bb) (k : ∀ a2 b2, Inv a2 b2 → Rv p l e room_1 u m #[Value.ref b] below meth c g (xLA u) Q M_L 1390 [some (.ref b), some (.ref (xa (x_ad g ad) 0)), some (.ref (xa (x_ad g ad) 44)), some (.int x)] [] (xw (x_ad g ad) (a2, b2)) 60 7141) : Rv p l e room_1 u m #[Value.ref b] below meth c g (xLA u) Q M_L 860 [some (.ref b), some (.ref (xa (x_ad g ad) 0)), some (.ref (xa (x_ad g ad) 44)), some (.int x)] [] (xw (x_ad g ad) (a, bb)) 60 7141 := by
  refine v_aload_n hB.1 DL_860 (i := 1) rfl rfl ?_
  refine v_aload_n hB.1 DL_861 (i := 0) rfl rfl ?_
  refine v_iload_n hB.1 DL_862 (i := 3) rfl rfl ?_
  refine v_iconst hB.1 DL_863 (v := 1) (by decide) ?_
  refine v_iadd hB.1 DL_864 ?_
  refine v_sld hB DL_865 h1 ?_
  refine v_aload_n hB.1 DL_866 (i := 0) rfl rfl ?_
  refine v_iload_n hB.1 DL_867 (i := 3) rfl rfl ?_
  refine v_iconst hB.1 DL_868 (v := 2) (by decide) ?_
  refine v_iadd hB.1 DL_869 ?_
  refine v_sld hB DL_870 h2 ?_
  refine v_i2l hB.1 DL_871 ?_
  refine v_bipush hB.1 DL_872 (v := 32) (by decide) ?_
  refine v_lshl hB.1 DL_874 ?_
  refine v_aload_n hB.1 DL_875 (i := 0) rfl rfl ?_
  refine v_iload_n hB.1 DL_876 (i := 3) rfl rfl ?_
  refine v_iconst hB.1 DL_877 (v := 3) (by decide) ?_
  refine v_iadd hB.1 DL_878 ?_
  refine v_sld hB DL_879 h3 ?_
  refine v_i2l hB.1 DL_880 ?_
  refine v_ldc2 hB.1 DL_881 KL_98 ?_
  refine v_land hB.1 DL_884 ?_
  refine v_lor hB.1 DL_885 ?_
  obtain ⟨r, a2, b2, e1, e2, hI2⟩ := hAll.2.2.2.2.2.2.2.2.2.2.2.2.2.2.2.2.2.2.2.2.1 (xs (Int32.toNatClampNeg (x + 1))) (((Int32.toInt64 (xs (Int32.toNatClampNeg (x + 2)))) <<< ((32 : Int32).toInt64 &&& 63)) ||| ((Int32.toInt64 (xs (Int32.toNatClampNeg (x + 3)))) &&& 4294967295)) a bb hI
  refine v_callEv (As := [.int (xs (Int32.toNatClampNeg (x + 1))), .long (((Int32.toInt64 (xs (Int32.toNatClampNeg (x + 2)))) <<< ((32 : Int32).toInt64 &&& 63)) ||| ((Int32.toInt64 (xs (Int32.toNatClampNeg (x + 3)))) &&& 4294967295))]) (S := []) hB.1 (fun _ h => h) DL_886 CL_X7_feed (ci := 7) rfl rfl e_0 (by decide) (by decide) (by decide) (by decide) (Nat.le_of_ble_eq_true rfl) (t_X7_feed N (xs (Int32.toNatClampNeg (x + 1))) (((Int32.toInt64 (xs (Int32.toNatClampNeg (x + 2)))) <<< ((32 : Int32).toInt64 &&& 63)) ||| ((Int32.toInt64 (xs (Int32.toNatClampNeg (x + 3)))) &&& 4294967295)) a e1) rfl rfl ?_
  refine v_aload_n hB.1 DL_889 (i := 2) rfl rfl ?_
  refine v_aload_n hB.1 DL_890 (i := 0) rfl rfl ?_
  refine v_iload_n hB.1 DL_891 (i := 3) rfl rfl ?_
  refine v_iconst hB.1 DL_892 (v := 1) (by decide) ?_
  refine v_iadd hB.1 DL_893 ?_
  refine v_sld hB DL_894 h1 ?_
  refine v_aload_n hB.1 DL_895 (i := 0) rfl rfl ?_
  refine v_iload_n hB.1 DL_896 (i := 3) rfl rfl ?_
  refine v_iconst hB.1 DL_897 (v := 2) (by decide) ?_
  refine v_iadd hB.1 DL_898 ?_
  refine v_sld hB DL_899 h2 ?_
  refine v_i2l hB.1 DL_900 ?_
  refine v_bipush hB.1 DL_901 (v := 32) (by decide) ?_
  refine v_lshl hB.1 DL_903 ?_
  refine v_aload_n hB.1 DL_904 (i := 0) rfl rfl ?_
  refine v_iload_n hB.1 DL_905 (i := 3) rfl rfl ?_
  refine v_iconst hB.1 DL_906 (v := 3) (by decide) ?_
  refine v_iadd hB.1 DL_907 ?_
  refine v_sld hB DL_908 h3 ?_
  refine v_i2l hB.1 DL_909 ?_
  refine v_ldc2 hB.1 DL_910 KL_98 ?_
  refine v_land hB.1 DL_913 ?_
  refine v_lor hB.1 DL_914 ?_
  refine v_callEv (As := [.int (xs (Int32.toNatClampNeg (x + 1))), .long (((Int32.toInt64 (xs (Int32.toNatClampNeg (x + 2)))) <<< ((32 : Int32).toInt64 &&& 63)) ||| ((Int32.toInt64 (xs (Int32.toNatClampNeg (x + 3)))) &&& 4294967295))]) (S := [.int r]) hB.1 (fun _ h => h) DL_915 CL_X8_feed (ci := 8) rfl rfl e_44 (by decide) (by decide) (by decide) (by decide) (Nat.le_of_ble_eq_true rfl) (t_X8_feed N (xs (Int32.toNatClampNeg (x + 1))) (((Int32.toInt64 (xs (Int32.toNatClampNeg (x + 2)))) <<< ((32 : Int32).toInt64 &&& 63)) ||| ((Int32.toInt64 (xs (Int32.toNatClampNeg (x + 3)))) &&& 4294967295)) bb e2) rfl rfl ?_
  refine v_icmp_eq hB.1 DL_918 (tgt := 1390) (by decide) (fun _ => ?_) (fun c => absurd rfl c)
  exact k a2 b2 hI2
set_option maxRecDepth 100000 in
set_option maxHeartbeats 4000000 in
theorem lc_21 {p : Program} {l : Launch} {e : Env} {u : State} {m : MethodId} {below : List Frame} {meth : Method} {c : Code} {g : xG} {Q : State → Prop} {b Ln N : Nat} {xs : Nat → Int32} {Inv : xT → xT → Prop} {ad : Nat → Nat} (hB : xLw p g u m meth c b Ln xs) (x : Int32) (h1 : vp_in (x + 1) Ln) (h2 : vp_in (x + 2) Ln) (h3 : vp_in (x + 3) Ln) (h4 : vp_in (x + 4) Ln) (h5 : vp_in (x + 5) Ln) (hAll : xAll N Inv) (a bb : xT) (hI : Inv a bb) (k : ∀ a2 b2, Inv a2 b2 → Rv p l e room_1 u m #[Value.ref b] below meth c g (xLA u) Q M_L 1390 [some (.ref b), some (.ref (xa (x_ad g ad) 0)), some (.ref (xa (x_ad g ad) 44)), some (.int x)] [] (xw (x_ad g ad) (a2, b2)) 60 7141) : Rv p l e room_1 u m #[Value.ref b] below meth c g (xLA u) Q M_L 923 [some (.ref b), some (.ref (xa (x_ad g ad) 0)), some (.ref (xa (x_ad g ad) 44)), some (.int x)] [] (xw (x_ad g ad) (a, bb)) 60 7141 := by
  refine v_aload_n hB.1 DL_923 (i := 1) rfl rfl ?_
  refine v_aload_n hB.1 DL_924 (i := 0) rfl rfl ?_
  refine v_iload_n hB.1 DL_925 (i := 3) rfl rfl ?_
  refine v_iconst hB.1 DL_926 (v := 1) (by decide) ?_
  refine v_iadd hB.1 DL_927 ?_
  refine v_sld hB DL_928 h1 ?_
  obtain ⟨r, a2, b2, e1, e2, hI2⟩ := hAll.2.2.2.2.2.2.2.2.2.2.2.2.2.2.2.2.2.2.2.2.2.1 (xs (Int32.toNatClampNeg (x + 1))) a bb hI
  refine v_callEv (As := [.int (xs (Int32.toNatClampNeg (x + 1)))]) (S := []) hB.1 (fun _ h => h) DL_929 CL_X7_read (ci := 7) rfl rfl e_0 (by decide) (by decide) (by decide) (by decide) (Nat.le_of_ble_eq_true rfl) (t_X7_read N (xs (Int32.toNatClampNeg (x + 1))) a e1) rfl rfl ?_
  refine v_aload_n hB.1 DL_932 (i := 2) rfl rfl ?_
  refine v_aload_n hB.1 DL_933 (i := 0) rfl rfl ?_
  refine v_iload_n hB.1 DL_934 (i := 3) rfl rfl ?_
  refine v_iconst hB.1 DL_935 (v := 1) (by decide) ?_
  refine v_iadd hB.1 DL_936 ?_
  refine v_sld hB DL_937 h1 ?_
  refine v_callEv (As := [.int (xs (Int32.toNatClampNeg (x + 1)))]) (S := [.int r]) hB.1 (fun _ h => h) DL_938 CL_X8_read (ci := 8) rfl rfl e_44 (by decide) (by decide) (by decide) (by decide) (Nat.le_of_ble_eq_true rfl) (t_X8_read N (xs (Int32.toNatClampNeg (x + 1))) bb e2) rfl rfl ?_
  refine v_icmp_eq hB.1 DL_941 (tgt := 1390) (by decide) (fun _ => ?_) (fun c => absurd rfl c)
  exact k a2 b2 hI2
set_option maxRecDepth 100000 in
set_option maxHeartbeats 4000000 in
theorem lc_22 {p : Program} {l : Launch} {e : Env} {u : State} {m : MethodId} {below : List Frame} {meth : Method} {c : Code} {g : xG} {Q : State → Prop} {b Ln N : Nat} {xs : Nat → Int32} {Inv : xT → xT → Prop} {ad : Nat → Nat} (hB : xLw p g u m meth c b Ln xs) (x : Int32) (h1 : vp_in (x + 1) Ln) (h2 : vp_in (x + 2) Ln) (h3 : vp_in (x + 3) Ln) (h4 : vp_in (x + 4) Ln) (h5 : vp_in (x + 5) Ln) (hAll : xAll N Inv) (a bb : xT) (hI : Inv a bb) (k : ∀ a2 b2, Inv a2 b2 → Rv p l e room_1 u m #[Value.ref b] below meth c g (xLA u) Q M_L 1390 [some (.ref b), some (.ref (xa (x_ad g ad) 0)), some (.ref (xa (x_ad g ad) 44)), some (.int x)] [] (xw (x_ad g ad) (a2, b2)) 60 7141) : Rv p l e room_1 u m #[Value.ref b] below meth c g (xLA u) Q M_L 946 [some (.ref b), some (.ref (xa (x_ad g ad) 0)), some (.ref (xa (x_ad g ad) 44)), some (.int x)] [] (xw (x_ad g ad) (a, bb)) 60 7141 := by
  refine v_aload_n hB.1 DL_946 (i := 1) rfl rfl ?_
  obtain ⟨r, e1, e2, hI2⟩ := hAll.2.2.2.2.2.2.2.2.2.2.2.2.2.2.2.2.2.2.2.2.2.2.1  a bb hI
  refine v_callEv (As := []) (S := []) hB.1 (fun _ h => h) DL_947 CL_X7_fault (ci := 7) rfl rfl e_0 (by decide) (by decide) (by decide) (by decide) (Nat.le_of_ble_eq_true rfl) (t_X7_fault  a e1) rfl rfl ?_
  refine v_aload_n hB.1 DL_950 (i := 2) rfl rfl ?_
  refine v_callEv (As := []) (S := [.int r]) hB.1 (fun _ h => h) DL_951 CL_X8_fault (ci := 8) rfl rfl e_44 (by decide) (by decide) (by decide) (by decide) (Nat.le_of_ble_eq_true rfl) (t_X8_fault  bb e2) rfl rfl ?_
  refine v_icmp_eq hB.1 DL_954 (tgt := 1390) (by decide) (fun _ => ?_) (fun c => absurd rfl c)
  exact k a bb hI2
set_option maxRecDepth 100000 in
set_option maxHeartbeats 4000000 in
theorem lc_23 {p : Program} {l : Launch} {e : Env} {u : State} {m : MethodId} {below : List Frame} {meth : Method} {c : Code} {g : xG} {Q : State → Prop} {b Ln N : Nat} {xs : Nat → Int32} {Inv : xT → xT → Prop} {ad : Nat → Nat} (hB : xLw p g u m meth c b Ln xs) (x : Int32) (h1 : vp_in (x + 1) Ln) (h2 : vp_in (x + 2) Ln) (h3 : vp_in (x + 3) Ln) (h4 : vp_in (x + 4) Ln) (h5 : vp_in (x + 5) Ln) (hAll : xAll N Inv) (a bb : xT) (hI : Inv a bb) (k : ∀ a2 b2, Inv a2 b2 → Rv p l e room_1 u m #[Value.ref b] below meth c g (xLA u) Q M_L 1390 [some (.ref b), some (.ref (xa (x_ad g ad) 0)), some (.ref (xa (x_ad g ad) 44)), some (.int x)] [] (xw (x_ad g ad) (a2, b2)) 60 7141) : Rv p l e room_1 u m #[Value.ref b] below meth c g (xLA u) Q M_L 959 [some (.ref b), some (.ref (xa (x_ad g ad) 0)), some (.ref (xa (x_ad g ad) 44)), some (.int x)] [] (xw (x_ad g ad) (a, bb)) 60 7141 := by
  refine v_aload_n hB.1 DL_959 (i := 1) rfl rfl ?_
  refine v_aload_n hB.1 DL_960 (i := 0) rfl rfl ?_
  refine v_iload_n hB.1 DL_961 (i := 3) rfl rfl ?_
  refine v_iconst hB.1 DL_962 (v := 1) (by decide) ?_
  refine v_iadd hB.1 DL_963 ?_
  refine v_sld hB DL_964 h1 ?_
  obtain ⟨r, e1, e2, hI2⟩ := hAll.2.2.2.2.2.2.2.2.2.2.2.2.2.2.2.2.2.2.2.2.2.2.2.1 (xs (Int32.toNatClampNeg (x + 1))) a bb hI
  refine v_callEv (As := [.int (xs (Int32.toNatClampNeg (x + 1)))]) (S := []) hB.1 (fun _ h => h) DL_965 CL_X7_count (ci := 7) rfl rfl e_0 (by decide) (by decide) (by decide) (by decide) (Nat.le_of_ble_eq_true rfl) (t_X7_count N (xs (Int32.toNatClampNeg (x + 1))) a e1) rfl rfl ?_
  refine v_aload_n hB.1 DL_968 (i := 2) rfl rfl ?_
  refine v_aload_n hB.1 DL_969 (i := 0) rfl rfl ?_
  refine v_iload_n hB.1 DL_970 (i := 3) rfl rfl ?_
  refine v_iconst hB.1 DL_971 (v := 1) (by decide) ?_
  refine v_iadd hB.1 DL_972 ?_
  refine v_sld hB DL_973 h1 ?_
  refine v_callEv (As := [.int (xs (Int32.toNatClampNeg (x + 1)))]) (S := [.int r]) hB.1 (fun _ h => h) DL_974 CL_X8_count (ci := 8) rfl rfl e_44 (by decide) (by decide) (by decide) (by decide) (Nat.le_of_ble_eq_true rfl) (t_X8_count N (xs (Int32.toNatClampNeg (x + 1))) bb e2) rfl rfl ?_
  refine v_icmp_eq hB.1 DL_977 (tgt := 1390) (by decide) (fun _ => ?_) (fun c => absurd rfl c)
  exact k a bb hI2
set_option maxRecDepth 100000 in
set_option maxHeartbeats 4000000 in
theorem lc_24 {p : Program} {l : Launch} {e : Env} {u : State} {m : MethodId} {below : List Frame} {meth : Method} {c : Code} {g : xG} {Q : State → Prop} {b Ln N : Nat} {xs : Nat → Int32} {Inv : xT → xT → Prop} {ad : Nat → Nat} (hB : xLw p g u m meth c b Ln xs) (x : Int32) (h1 : vp_in (x + 1) Ln) (h2 : vp_in (x + 2) Ln) (h3 : vp_in (x + 3) Ln) (h4 : vp_in (x + 4) Ln) (h5 : vp_in (x + 5) Ln) (hAll : xAll N Inv) (a bb : xT) (hI : Inv a bb) (k : ∀ a2 b2, Inv a2 b2 → Rv p l e room_1 u m #[Value.ref b] below meth c g (xLA u) Q M_L 1390 [some (.ref b), some (.ref (xa (x_ad g ad) 0)), some (.ref (xa (x_ad g ad) 44)), some (.int x)] [] (xw (x_ad g ad) (a2, b2)) 60 7141) : Rv p l e room_1 u m #[Value.ref b] below meth c g (xLA u) Q M_L 982 [some (.ref b), some (.ref (xa (x_ad g ad) 0)), some (.ref (xa (x_ad g ad) 44)), some (.int x)] [] (xw (x_ad g ad) (a, bb)) 60 7141 := by
  refine v_aload_n hB.1 DL_982 (i := 1) rfl rfl ?_
  refine v_aload_n hB.1 DL_983 (i := 0) rfl rfl ?_
  refine v_iload_n hB.1 DL_984 (i := 3) rfl rfl ?_
  refine v_iconst hB.1 DL_985 (v := 1) (by decide) ?_
  refine v_iadd hB.1 DL_986 ?_
  refine v_sld hB DL_987 h1 ?_
  refine v_aload_n hB.1 DL_988 (i := 0) rfl rfl ?_
  refine v_iload_n hB.1 DL_989 (i := 3) rfl rfl ?_
  refine v_iconst hB.1 DL_990 (v := 2) (by decide) ?_
  refine v_iadd hB.1 DL_991 ?_
  refine v_sld hB DL_992 h2 ?_
  refine v_aload_n hB.1 DL_993 (i := 0) rfl rfl ?_
  refine v_iload_n hB.1 DL_994 (i := 3) rfl rfl ?_
  refine v_iconst hB.1 DL_995 (v := 3) (by decide) ?_
  refine v_iadd hB.1 DL_996 ?_
  refine v_sld hB DL_997 h3 ?_
  refine v_aload_n hB.1 DL_998 (i := 0) rfl rfl ?_
  refine v_iload_n hB.1 DL_999 (i := 3) rfl rfl ?_
  refine v_iconst hB.1 DL_1000 (v := 4) (by decide) ?_
  refine v_iadd hB.1 DL_1001 ?_
  refine v_sld hB DL_1002 h4 ?_
  obtain ⟨r, e1, e2, hI2⟩ := hAll.2.2.2.2.2.2.2.2.2.2.2.2.2.2.2.2.2.2.2.2.2.2.2.2.1 (xs (Int32.toNatClampNeg (x + 1))) (xs (Int32.toNatClampNeg (x + 2))) (xs (Int32.toNatClampNeg (x + 3))) (xs (Int32.toNatClampNeg (x + 4))) a bb hI
  refine v_callEv (As := [.int (xs (Int32.toNatClampNeg (x + 1))), .int (xs (Int32.toNatClampNeg (x + 2))), .int (xs (Int32.toNatClampNeg (x + 3))), .int (xs (Int32.toNatClampNeg (x + 4)))]) (S := []) hB.1 (fun _ h => h) DL_1003 CL_X7_owner (ci := 7) rfl rfl e_0 (by decide) (by decide) (by decide) (by decide) (Nat.le_of_ble_eq_true rfl) (t_X7_owner N (xs (Int32.toNatClampNeg (x + 1))) (xs (Int32.toNatClampNeg (x + 2))) (xs (Int32.toNatClampNeg (x + 3))) (xs (Int32.toNatClampNeg (x + 4))) a e1) rfl rfl ?_
  refine v_aload_n hB.1 DL_1006 (i := 2) rfl rfl ?_
  refine v_aload_n hB.1 DL_1007 (i := 0) rfl rfl ?_
  refine v_iload_n hB.1 DL_1008 (i := 3) rfl rfl ?_
  refine v_iconst hB.1 DL_1009 (v := 1) (by decide) ?_
  refine v_iadd hB.1 DL_1010 ?_
  refine v_sld hB DL_1011 h1 ?_
  refine v_aload_n hB.1 DL_1012 (i := 0) rfl rfl ?_
  refine v_iload_n hB.1 DL_1013 (i := 3) rfl rfl ?_
  refine v_iconst hB.1 DL_1014 (v := 2) (by decide) ?_
  refine v_iadd hB.1 DL_1015 ?_
  refine v_sld hB DL_1016 h2 ?_
  refine v_aload_n hB.1 DL_1017 (i := 0) rfl rfl ?_
  refine v_iload_n hB.1 DL_1018 (i := 3) rfl rfl ?_
  refine v_iconst hB.1 DL_1019 (v := 3) (by decide) ?_
  refine v_iadd hB.1 DL_1020 ?_
  refine v_sld hB DL_1021 h3 ?_
  refine v_aload_n hB.1 DL_1022 (i := 0) rfl rfl ?_
  refine v_iload_n hB.1 DL_1023 (i := 3) rfl rfl ?_
  refine v_iconst hB.1 DL_1024 (v := 4) (by decide) ?_
  refine v_iadd hB.1 DL_1025 ?_
  refine v_sld hB DL_1026 h4 ?_
  refine v_callEv (As := [.int (xs (Int32.toNatClampNeg (x + 1))), .int (xs (Int32.toNatClampNeg (x + 2))), .int (xs (Int32.toNatClampNeg (x + 3))), .int (xs (Int32.toNatClampNeg (x + 4)))]) (S := [.int r]) hB.1 (fun _ h => h) DL_1027 CL_X8_owner (ci := 8) rfl rfl e_44 (by decide) (by decide) (by decide) (by decide) (Nat.le_of_ble_eq_true rfl) (t_X8_owner N (xs (Int32.toNatClampNeg (x + 1))) (xs (Int32.toNatClampNeg (x + 2))) (xs (Int32.toNatClampNeg (x + 3))) (xs (Int32.toNatClampNeg (x + 4))) bb e2) rfl rfl ?_
  refine v_icmp_eq hB.1 DL_1030 (tgt := 1390) (by decide) (fun _ => ?_) (fun c => absurd rfl c)
  exact k a bb hI2
set_option maxRecDepth 100000 in
set_option maxHeartbeats 4000000 in
theorem lc_25 {p : Program} {l : Launch} {e : Env} {u : State} {m : MethodId} {below : List Frame} {meth : Method} {c : Code} {g : xG} {Q : State → Prop} {b Ln N : Nat} {xs : Nat → Int32} {Inv : xT → xT → Prop} {ad : Nat → Nat} (hB : xLw p g u m meth c b Ln xs) (x : Int32) (h1 : vp_in (x + 1) Ln) (h2 : vp_in (x + 2) Ln) (h3 : vp_in (x + 3) Ln) (h4 : vp_in (x + 4) Ln) (h5 : vp_in (x + 5) Ln) (hAll : xAll N Inv) (a bb : xT) (hI : Inv a bb) (k : ∀ a2 b2, Inv a2 b2 → Rv p l e room_1 u m #[Value.ref b] below meth c g (xLA u) Q M_L 1390 [some (.ref b), some (.ref (xa (x_ad g ad) 0)), some (.ref (xa (x_ad g ad) 44)), some (.int x)] [] (xw (x_ad g ad) (a2, b2)) 60 7141) : Rv p l e room_1 u m #[Value.ref b] below meth c g (xLA u) Q M_L 1035 [some (.ref b), some (.ref (xa (x_ad g ad) 0)), some (.ref (xa (x_ad g ad) 44)), some (.int x)] [] (xw (x_ad g ad) (a, bb)) 60 7141 := by
  refine v_aload_n hB.1 DL_1035 (i := 1) rfl rfl ?_
  refine v_aload_n hB.1 DL_1036 (i := 0) rfl rfl ?_
  refine v_iload_n hB.1 DL_1037 (i := 3) rfl rfl ?_
  refine v_iconst hB.1 DL_1038 (v := 1) (by decide) ?_
  refine v_iadd hB.1 DL_1039 ?_
  refine v_sld hB DL_1040 h1 ?_
  refine v_aload_n hB.1 DL_1041 (i := 0) rfl rfl ?_
  refine v_iload_n hB.1 DL_1042 (i := 3) rfl rfl ?_
  refine v_iconst hB.1 DL_1043 (v := 2) (by decide) ?_
  refine v_iadd hB.1 DL_1044 ?_
  refine v_sld hB DL_1045 h2 ?_
  obtain ⟨r, a2, b2, e1, e2, hI2⟩ := hAll.2.2.2.2.2.2.2.2.2.2.2.2.2.2.2.2.2.2.2.2.2.2.2.2.2.1 (xs (Int32.toNatClampNeg (x + 1))) (xs (Int32.toNatClampNeg (x + 2))) a bb hI
  refine v_callEv (As := [.int (xs (Int32.toNatClampNeg (x + 1))), .int (xs (Int32.toNatClampNeg (x + 2)))]) (S := []) hB.1 (fun _ h => h) DL_1046 CL_X7_look (ci := 7) rfl rfl e_0 (by decide) (by decide) (by decide) (by decide) (Nat.le_of_ble_eq_true rfl) (t_X7_look (xs (Int32.toNatClampNeg (x + 1))) (xs (Int32.toNatClampNeg (x + 2))) a e1) rfl rfl ?_
  refine v_aload_n hB.1 DL_1049 (i := 2) rfl rfl ?_
  refine v_aload_n hB.1 DL_1050 (i := 0) rfl rfl ?_
  refine v_iload_n hB.1 DL_1051 (i := 3) rfl rfl ?_
  refine v_iconst hB.1 DL_1052 (v := 1) (by decide) ?_
  refine v_iadd hB.1 DL_1053 ?_
  refine v_sld hB DL_1054 h1 ?_
  refine v_aload_n hB.1 DL_1055 (i := 0) rfl rfl ?_
  refine v_iload_n hB.1 DL_1056 (i := 3) rfl rfl ?_
  refine v_iconst hB.1 DL_1057 (v := 2) (by decide) ?_
  refine v_iadd hB.1 DL_1058 ?_
  refine v_sld hB DL_1059 h2 ?_
  refine v_callEv (As := [.int (xs (Int32.toNatClampNeg (x + 1))), .int (xs (Int32.toNatClampNeg (x + 2)))]) (S := [.int r]) hB.1 (fun _ h => h) DL_1060 CL_X8_look (ci := 8) rfl rfl e_44 (by decide) (by decide) (by decide) (by decide) (Nat.le_of_ble_eq_true rfl) (t_X8_look (xs (Int32.toNatClampNeg (x + 1))) (xs (Int32.toNatClampNeg (x + 2))) bb e2) rfl rfl ?_
  refine v_icmp_eq hB.1 DL_1063 (tgt := 1390) (by decide) (fun _ => ?_) (fun c => absurd rfl c)
  exact k a2 b2 hI2
set_option maxRecDepth 100000 in
set_option maxHeartbeats 4000000 in
theorem lc_26 {p : Program} {l : Launch} {e : Env} {u : State} {m : MethodId} {below : List Frame} {meth : Method} {c : Code} {g : xG} {Q : State → Prop} {b Ln N : Nat} {xs : Nat → Int32} {Inv : xT → xT → Prop} {ad : Nat → Nat} (hB : xLw p g u m meth c b Ln xs) (x : Int32) (h1 : vp_in (x + 1) Ln) (h2 : vp_in (x + 2) Ln) (h3 : vp_in (x + 3) Ln) (h4 : vp_in (x + 4) Ln) (h5 : vp_in (x + 5) Ln) (hAll : xAll N Inv) (a bb : xT) (hI : Inv a bb) (k : ∀ a2 b2, Inv a2 b2 → Rv p l e room_1 u m #[Value.ref b] below meth c g (xLA u) Q M_L 1390 [some (.ref b), some (.ref (xa (x_ad g ad) 0)), some (.ref (xa (x_ad g ad) 44)), some (.int x)] [] (xw (x_ad g ad) (a2, b2)) 60 7141) : Rv p l e room_1 u m #[Value.ref b] below meth c g (xLA u) Q M_L 1068 [some (.ref b), some (.ref (xa (x_ad g ad) 0)), some (.ref (xa (x_ad g ad) 44)), some (.int x)] [] (xw (x_ad g ad) (a, bb)) 60 7141 := by
  refine v_aload_n hB.1 DL_1068 (i := 1) rfl rfl ?_
  refine v_aload_n hB.1 DL_1069 (i := 0) rfl rfl ?_
  refine v_iload_n hB.1 DL_1070 (i := 3) rfl rfl ?_
  refine v_iconst hB.1 DL_1071 (v := 1) (by decide) ?_
  refine v_iadd hB.1 DL_1072 ?_
  refine v_sld hB DL_1073 h1 ?_
  refine v_aload_n hB.1 DL_1074 (i := 0) rfl rfl ?_
  refine v_iload_n hB.1 DL_1075 (i := 3) rfl rfl ?_
  refine v_iconst hB.1 DL_1076 (v := 2) (by decide) ?_
  refine v_iadd hB.1 DL_1077 ?_
  refine v_sld hB DL_1078 h2 ?_
  obtain ⟨r, e1, e2, hI2⟩ := hAll.2.2.2.2.2.2.2.2.2.2.2.2.2.2.2.2.2.2.2.2.2.2.2.2.2.2.1 (xs (Int32.toNatClampNeg (x + 1))) (xs (Int32.toNatClampNeg (x + 2))) a bb hI
  refine v_callEv (As := [.int (xs (Int32.toNatClampNeg (x + 1))), .int (xs (Int32.toNatClampNeg (x + 2)))]) (S := []) hB.1 (fun _ h => h) DL_1079 CL_X7_chance (ci := 7) rfl rfl e_0 (by decide) (by decide) (by decide) (by decide) (Nat.le_of_ble_eq_true rfl) (t_X7_chance N (xs (Int32.toNatClampNeg (x + 1))) (xs (Int32.toNatClampNeg (x + 2))) a e1) rfl rfl ?_
  refine v_aload_n hB.1 DL_1082 (i := 2) rfl rfl ?_
  refine v_aload_n hB.1 DL_1083 (i := 0) rfl rfl ?_
  refine v_iload_n hB.1 DL_1084 (i := 3) rfl rfl ?_
  refine v_iconst hB.1 DL_1085 (v := 1) (by decide) ?_
  refine v_iadd hB.1 DL_1086 ?_
  refine v_sld hB DL_1087 h1 ?_
  refine v_aload_n hB.1 DL_1088 (i := 0) rfl rfl ?_
  refine v_iload_n hB.1 DL_1089 (i := 3) rfl rfl ?_
  refine v_iconst hB.1 DL_1090 (v := 2) (by decide) ?_
  refine v_iadd hB.1 DL_1091 ?_
  refine v_sld hB DL_1092 h2 ?_
  refine v_callEv (As := [.int (xs (Int32.toNatClampNeg (x + 1))), .int (xs (Int32.toNatClampNeg (x + 2)))]) (S := [.long r]) hB.1 (fun _ h => h) DL_1093 CL_X8_chance (ci := 8) rfl rfl e_44 (by decide) (by decide) (by decide) (by decide) (Nat.le_of_ble_eq_true rfl) (t_X8_chance N (xs (Int32.toNatClampNeg (x + 1))) (xs (Int32.toNatClampNeg (x + 2))) bb e2) rfl rfl ?_
  refine v_lcmp_eq hB.1 DL_1096 DL_1097 (tgt := 1390) (by decide) (fun _ => ?_) (fun c => absurd rfl c)
  exact k a bb hI2
set_option maxRecDepth 100000 in
set_option maxHeartbeats 4000000 in
theorem lc_27 {p : Program} {l : Launch} {e : Env} {u : State} {m : MethodId} {below : List Frame} {meth : Method} {c : Code} {g : xG} {Q : State → Prop} {b Ln N : Nat} {xs : Nat → Int32} {Inv : xT → xT → Prop} {ad : Nat → Nat} (hB : xLw p g u m meth c b Ln xs) (x : Int32) (h1 : vp_in (x + 1) Ln) (h2 : vp_in (x + 2) Ln) (h3 : vp_in (x + 3) Ln) (h4 : vp_in (x + 4) Ln) (h5 : vp_in (x + 5) Ln) (hAll : xAll N Inv) (a bb : xT) (hI : Inv a bb) (k : ∀ a2 b2, Inv a2 b2 → Rv p l e room_1 u m #[Value.ref b] below meth c g (xLA u) Q M_L 1390 [some (.ref b), some (.ref (xa (x_ad g ad) 0)), some (.ref (xa (x_ad g ad) 44)), some (.int x)] [] (xw (x_ad g ad) (a2, b2)) 60 7141) : Rv p l e room_1 u m #[Value.ref b] below meth c g (xLA u) Q M_L 1102 [some (.ref b), some (.ref (xa (x_ad g ad) 0)), some (.ref (xa (x_ad g ad) 44)), some (.int x)] [] (xw (x_ad g ad) (a, bb)) 60 7141 := by
  refine v_aload_n hB.1 DL_1102 (i := 1) rfl rfl ?_
  refine v_aload_n hB.1 DL_1103 (i := 0) rfl rfl ?_
  refine v_iload_n hB.1 DL_1104 (i := 3) rfl rfl ?_
  refine v_iconst hB.1 DL_1105 (v := 1) (by decide) ?_
  refine v_iadd hB.1 DL_1106 ?_
  refine v_sld hB DL_1107 h1 ?_
  refine v_aload_n hB.1 DL_1108 (i := 0) rfl rfl ?_
  refine v_iload_n hB.1 DL_1109 (i := 3) rfl rfl ?_
  refine v_iconst hB.1 DL_1110 (v := 2) (by decide) ?_
  refine v_iadd hB.1 DL_1111 ?_
  refine v_sld hB DL_1112 h2 ?_
  obtain ⟨r, a2, b2, e1, e2, hI2⟩ := hAll.2.2.2.2.2.2.2.2.2.2.2.2.2.2.2.2.2.2.2.2.2.2.2.2.2.2.2.1 (xs (Int32.toNatClampNeg (x + 1))) (xs (Int32.toNatClampNeg (x + 2))) a bb hI
  refine v_callEv (As := [.int (xs (Int32.toNatClampNeg (x + 1))), .int (xs (Int32.toNatClampNeg (x + 2)))]) (S := []) hB.1 (fun _ h => h) DL_1113 CL_X7_likely (ci := 7) rfl rfl e_0 (by decide) (by decide) (by decide) (by decide) (Nat.le_of_ble_eq_true rfl) (t_X7_likely N (xs (Int32.toNatClampNeg (x + 1))) (xs (Int32.toNatClampNeg (x + 2))) a e1) rfl rfl ?_
  refine v_aload_n hB.1 DL_1116 (i := 2) rfl rfl ?_
  refine v_aload_n hB.1 DL_1117 (i := 0) rfl rfl ?_
  refine v_iload_n hB.1 DL_1118 (i := 3) rfl rfl ?_
  refine v_iconst hB.1 DL_1119 (v := 1) (by decide) ?_
  refine v_iadd hB.1 DL_1120 ?_
  refine v_sld hB DL_1121 h1 ?_
  refine v_aload_n hB.1 DL_1122 (i := 0) rfl rfl ?_
  refine v_iload_n hB.1 DL_1123 (i := 3) rfl rfl ?_
  refine v_iconst hB.1 DL_1124 (v := 2) (by decide) ?_
  refine v_iadd hB.1 DL_1125 ?_
  refine v_sld hB DL_1126 h2 ?_
  refine v_callEv (As := [.int (xs (Int32.toNatClampNeg (x + 1))), .int (xs (Int32.toNatClampNeg (x + 2)))]) (S := [.int r]) hB.1 (fun _ h => h) DL_1127 CL_X8_likely (ci := 8) rfl rfl e_44 (by decide) (by decide) (by decide) (by decide) (Nat.le_of_ble_eq_true rfl) (t_X8_likely N (xs (Int32.toNatClampNeg (x + 1))) (xs (Int32.toNatClampNeg (x + 2))) bb e2) rfl rfl ?_
  refine v_icmp_eq hB.1 DL_1130 (tgt := 1390) (by decide) (fun _ => ?_) (fun c => absurd rfl c)
  exact k a2 b2 hI2
set_option maxRecDepth 100000 in
set_option maxHeartbeats 4000000 in
theorem lc_28 {p : Program} {l : Launch} {e : Env} {u : State} {m : MethodId} {below : List Frame} {meth : Method} {c : Code} {g : xG} {Q : State → Prop} {b Ln N : Nat} {xs : Nat → Int32} {Inv : xT → xT → Prop} {ad : Nat → Nat} (hB : xLw p g u m meth c b Ln xs) (x : Int32) (h1 : vp_in (x + 1) Ln) (h2 : vp_in (x + 2) Ln) (h3 : vp_in (x + 3) Ln) (h4 : vp_in (x + 4) Ln) (h5 : vp_in (x + 5) Ln) (hAll : xAll N Inv) (a bb : xT) (hI : Inv a bb) (k : ∀ a2 b2, Inv a2 b2 → Rv p l e room_1 u m #[Value.ref b] below meth c g (xLA u) Q M_L 1390 [some (.ref b), some (.ref (xa (x_ad g ad) 0)), some (.ref (xa (x_ad g ad) 44)), some (.int x)] [] (xw (x_ad g ad) (a2, b2)) 60 7141) : Rv p l e room_1 u m #[Value.ref b] below meth c g (xLA u) Q M_L 1135 [some (.ref b), some (.ref (xa (x_ad g ad) 0)), some (.ref (xa (x_ad g ad) 44)), some (.int x)] [] (xw (x_ad g ad) (a, bb)) 60 7141 := by
  refine v_aload_n hB.1 DL_1135 (i := 1) rfl rfl ?_
  refine v_aload_n hB.1 DL_1136 (i := 0) rfl rfl ?_
  refine v_iload_n hB.1 DL_1137 (i := 3) rfl rfl ?_
  refine v_iconst hB.1 DL_1138 (v := 1) (by decide) ?_
  refine v_iadd hB.1 DL_1139 ?_
  refine v_sld hB DL_1140 h1 ?_
  refine v_aload_n hB.1 DL_1141 (i := 0) rfl rfl ?_
  refine v_iload_n hB.1 DL_1142 (i := 3) rfl rfl ?_
  refine v_iconst hB.1 DL_1143 (v := 2) (by decide) ?_
  refine v_iadd hB.1 DL_1144 ?_
  refine v_sld hB DL_1145 h2 ?_
  refine v_aload_n hB.1 DL_1146 (i := 0) rfl rfl ?_
  refine v_iload_n hB.1 DL_1147 (i := 3) rfl rfl ?_
  refine v_iconst hB.1 DL_1148 (v := 3) (by decide) ?_
  refine v_iadd hB.1 DL_1149 ?_
  refine v_sld hB DL_1150 h3 ?_
  refine v_aload_n hB.1 DL_1151 (i := 0) rfl rfl ?_
  refine v_iload_n hB.1 DL_1152 (i := 3) rfl rfl ?_
  refine v_iconst hB.1 DL_1153 (v := 4) (by decide) ?_
  refine v_iadd hB.1 DL_1154 ?_
  refine v_sld hB DL_1155 h4 ?_
  obtain ⟨r, a2, b2, e1, e2, hI2⟩ := hAll.2.2.2.2.2.2.2.2.2.2.2.2.2.2.2.2.2.2.2.2.2.2.2.2.2.2.2.2.1 (xs (Int32.toNatClampNeg (x + 1))) (xs (Int32.toNatClampNeg (x + 2))) (xs (Int32.toNatClampNeg (x + 3))) (xs (Int32.toNatClampNeg (x + 4))) a bb hI
  refine v_callEv (As := [.int (xs (Int32.toNatClampNeg (x + 1))), .int (xs (Int32.toNatClampNeg (x + 2))), .int (xs (Int32.toNatClampNeg (x + 3))), .int (xs (Int32.toNatClampNeg (x + 4)))]) (S := []) hB.1 (fun _ h => h) DL_1156 CL_X7_heap (ci := 7) rfl rfl e_0 (by decide) (by decide) (by decide) (by decide) (Nat.le_of_ble_eq_true rfl) (t_X7_heap N (xs (Int32.toNatClampNeg (x + 1))) (xs (Int32.toNatClampNeg (x + 2))) (xs (Int32.toNatClampNeg (x + 3))) (xs (Int32.toNatClampNeg (x + 4))) a e1) rfl rfl ?_
  refine v_aload_n hB.1 DL_1159 (i := 2) rfl rfl ?_
  refine v_aload_n hB.1 DL_1160 (i := 0) rfl rfl ?_
  refine v_iload_n hB.1 DL_1161 (i := 3) rfl rfl ?_
  refine v_iconst hB.1 DL_1162 (v := 1) (by decide) ?_
  refine v_iadd hB.1 DL_1163 ?_
  refine v_sld hB DL_1164 h1 ?_
  refine v_aload_n hB.1 DL_1165 (i := 0) rfl rfl ?_
  refine v_iload_n hB.1 DL_1166 (i := 3) rfl rfl ?_
  refine v_iconst hB.1 DL_1167 (v := 2) (by decide) ?_
  refine v_iadd hB.1 DL_1168 ?_
  refine v_sld hB DL_1169 h2 ?_
  refine v_aload_n hB.1 DL_1170 (i := 0) rfl rfl ?_
  refine v_iload_n hB.1 DL_1171 (i := 3) rfl rfl ?_
  refine v_iconst hB.1 DL_1172 (v := 3) (by decide) ?_
  refine v_iadd hB.1 DL_1173 ?_
  refine v_sld hB DL_1174 h3 ?_
  refine v_aload_n hB.1 DL_1175 (i := 0) rfl rfl ?_
  refine v_iload_n hB.1 DL_1176 (i := 3) rfl rfl ?_
  refine v_iconst hB.1 DL_1177 (v := 4) (by decide) ?_
  refine v_iadd hB.1 DL_1178 ?_
  refine v_sld hB DL_1179 h4 ?_
  refine v_callEv (As := [.int (xs (Int32.toNatClampNeg (x + 1))), .int (xs (Int32.toNatClampNeg (x + 2))), .int (xs (Int32.toNatClampNeg (x + 3))), .int (xs (Int32.toNatClampNeg (x + 4)))]) (S := [.int r]) hB.1 (fun _ h => h) DL_1180 CL_X8_heap (ci := 8) rfl rfl e_44 (by decide) (by decide) (by decide) (by decide) (Nat.le_of_ble_eq_true rfl) (t_X8_heap N (xs (Int32.toNatClampNeg (x + 1))) (xs (Int32.toNatClampNeg (x + 2))) (xs (Int32.toNatClampNeg (x + 3))) (xs (Int32.toNatClampNeg (x + 4))) bb e2) rfl rfl ?_
  refine v_icmp_eq hB.1 DL_1183 (tgt := 1390) (by decide) (fun _ => ?_) (fun c => absurd rfl c)
  exact k a2 b2 hI2
set_option maxRecDepth 100000 in
set_option maxHeartbeats 4000000 in
theorem lc_29 {p : Program} {l : Launch} {e : Env} {u : State} {m : MethodId} {below : List Frame} {meth : Method} {c : Code} {g : xG} {Q : State → Prop} {b Ln N : Nat} {xs : Nat → Int32} {Inv : xT → xT → Prop} {ad : Nat → Nat} (hB : xLw p g u m meth c b Ln xs) (x : Int32) (h1 : vp_in (x + 1) Ln) (h2 : vp_in (x + 2) Ln) (h3 : vp_in (x + 3) Ln) (h4 : vp_in (x + 4) Ln) (h5 : vp_in (x + 5) Ln) (hAll : xAll N Inv) (a bb : xT) (hI : Inv a bb) (k : ∀ a2 b2, Inv a2 b2 → Rv p l e room_1 u m #[Value.ref b] below meth c g (xLA u) Q M_L 1390 [some (.ref b), some (.ref (xa (x_ad g ad) 0)), some (.ref (xa (x_ad g ad) 44)), some (.int x)] [] (xw (x_ad g ad) (a2, b2)) 60 7141) : Rv p l e room_1 u m #[Value.ref b] below meth c g (xLA u) Q M_L 1188 [some (.ref b), some (.ref (xa (x_ad g ad) 0)), some (.ref (xa (x_ad g ad) 44)), some (.int x)] [] (xw (x_ad g ad) (a, bb)) 60 7141 := by
  refine v_aload_n hB.1 DL_1188 (i := 1) rfl rfl ?_
  refine v_aload_n hB.1 DL_1189 (i := 0) rfl rfl ?_
  refine v_iload_n hB.1 DL_1190 (i := 3) rfl rfl ?_
  refine v_iconst hB.1 DL_1191 (v := 1) (by decide) ?_
  refine v_iadd hB.1 DL_1192 ?_
  refine v_sld hB DL_1193 h1 ?_
  refine v_aload_n hB.1 DL_1194 (i := 0) rfl rfl ?_
  refine v_iload_n hB.1 DL_1195 (i := 3) rfl rfl ?_
  refine v_iconst hB.1 DL_1196 (v := 2) (by decide) ?_
  refine v_iadd hB.1 DL_1197 ?_
  refine v_sld hB DL_1198 h2 ?_
  refine v_aload_n hB.1 DL_1199 (i := 0) rfl rfl ?_
  refine v_iload_n hB.1 DL_1200 (i := 3) rfl rfl ?_
  refine v_iconst hB.1 DL_1201 (v := 3) (by decide) ?_
  refine v_iadd hB.1 DL_1202 ?_
  refine v_sld hB DL_1203 h3 ?_
  refine v_aload_n hB.1 DL_1204 (i := 0) rfl rfl ?_
  refine v_iload_n hB.1 DL_1205 (i := 3) rfl rfl ?_
  refine v_iconst hB.1 DL_1206 (v := 4) (by decide) ?_
  refine v_iadd hB.1 DL_1207 ?_
  refine v_sld hB DL_1208 h4 ?_
  refine v_aload_n hB.1 DL_1209 (i := 0) rfl rfl ?_
  refine v_iload_n hB.1 DL_1210 (i := 3) rfl rfl ?_
  refine v_iconst hB.1 DL_1211 (v := 5) (by decide) ?_
  refine v_iadd hB.1 DL_1212 ?_
  refine v_sld hB DL_1213 h5 ?_
  obtain ⟨r, e1, e2, hI2⟩ := hAll.2.2.2.2.2.2.2.2.2.2.2.2.2.2.2.2.2.2.2.2.2.2.2.2.2.2.2.2.2.1 (xs (Int32.toNatClampNeg (x + 1))) (xs (Int32.toNatClampNeg (x + 2))) (xs (Int32.toNatClampNeg (x + 3))) (xs (Int32.toNatClampNeg (x + 4))) (xs (Int32.toNatClampNeg (x + 5))) a bb hI
  refine v_callEv (As := [.int (xs (Int32.toNatClampNeg (x + 1))), .int (xs (Int32.toNatClampNeg (x + 2))), .int (xs (Int32.toNatClampNeg (x + 3))), .int (xs (Int32.toNatClampNeg (x + 4))), .int (xs (Int32.toNatClampNeg (x + 5)))]) (S := []) hB.1 (fun _ h => h) DL_1214 CL_X7_make (ci := 7) rfl rfl e_0 (by decide) (by decide) (by decide) (by decide) (Nat.le_of_ble_eq_true rfl) (t_X7_make (xs (Int32.toNatClampNeg (x + 1))) (xs (Int32.toNatClampNeg (x + 2))) (xs (Int32.toNatClampNeg (x + 3))) (xs (Int32.toNatClampNeg (x + 4))) (xs (Int32.toNatClampNeg (x + 5))) a e1) rfl rfl ?_
  refine v_aload_n hB.1 DL_1217 (i := 2) rfl rfl ?_
  refine v_aload_n hB.1 DL_1218 (i := 0) rfl rfl ?_
  refine v_iload_n hB.1 DL_1219 (i := 3) rfl rfl ?_
  refine v_iconst hB.1 DL_1220 (v := 1) (by decide) ?_
  refine v_iadd hB.1 DL_1221 ?_
  refine v_sld hB DL_1222 h1 ?_
  refine v_aload_n hB.1 DL_1223 (i := 0) rfl rfl ?_
  refine v_iload_n hB.1 DL_1224 (i := 3) rfl rfl ?_
  refine v_iconst hB.1 DL_1225 (v := 2) (by decide) ?_
  refine v_iadd hB.1 DL_1226 ?_
  refine v_sld hB DL_1227 h2 ?_
  refine v_aload_n hB.1 DL_1228 (i := 0) rfl rfl ?_
  refine v_iload_n hB.1 DL_1229 (i := 3) rfl rfl ?_
  refine v_iconst hB.1 DL_1230 (v := 3) (by decide) ?_
  refine v_iadd hB.1 DL_1231 ?_
  refine v_sld hB DL_1232 h3 ?_
  refine v_aload_n hB.1 DL_1233 (i := 0) rfl rfl ?_
  refine v_iload_n hB.1 DL_1234 (i := 3) rfl rfl ?_
  refine v_iconst hB.1 DL_1235 (v := 4) (by decide) ?_
  refine v_iadd hB.1 DL_1236 ?_
  refine v_sld hB DL_1237 h4 ?_
  refine v_aload_n hB.1 DL_1238 (i := 0) rfl rfl ?_
  refine v_iload_n hB.1 DL_1239 (i := 3) rfl rfl ?_
  refine v_iconst hB.1 DL_1240 (v := 5) (by decide) ?_
  refine v_iadd hB.1 DL_1241 ?_
  refine v_sld hB DL_1242 h5 ?_
  refine v_callEv (As := [.int (xs (Int32.toNatClampNeg (x + 1))), .int (xs (Int32.toNatClampNeg (x + 2))), .int (xs (Int32.toNatClampNeg (x + 3))), .int (xs (Int32.toNatClampNeg (x + 4))), .int (xs (Int32.toNatClampNeg (x + 5)))]) (S := [.int r]) hB.1 (fun _ h => h) DL_1243 CL_X8_make (ci := 8) rfl rfl e_44 (by decide) (by decide) (by decide) (by decide) (Nat.le_of_ble_eq_true rfl) (t_X8_make (xs (Int32.toNatClampNeg (x + 1))) (xs (Int32.toNatClampNeg (x + 2))) (xs (Int32.toNatClampNeg (x + 3))) (xs (Int32.toNatClampNeg (x + 4))) (xs (Int32.toNatClampNeg (x + 5))) bb e2) rfl rfl ?_
  refine v_icmp_eq hB.1 DL_1246 (tgt := 1390) (by decide) (fun _ => ?_) (fun c => absurd rfl c)
  exact k a bb hI2
set_option maxRecDepth 100000 in
set_option maxHeartbeats 4000000 in
theorem lc_30 {p : Program} {l : Launch} {e : Env} {u : State} {m : MethodId} {below : List Frame} {meth : Method} {c : Code} {g : xG} {Q : State → Prop} {b Ln N : Nat} {xs : Nat → Int32} {Inv : xT → xT → Prop} {ad : Nat → Nat} (hB : xLw p g u m meth c b Ln xs) (x : Int32) (h1 : vp_in (x + 1) Ln) (h2 : vp_in (x + 2) Ln) (h3 : vp_in (x + 3) Ln) (h4 : vp_in (x + 4) Ln) (h5 : vp_in (x + 5) Ln) (hAll : xAll N Inv) (a bb : xT) (hI : Inv a bb) (k : ∀ a2 b2, Inv a2 b2 → Rv p l e room_1 u m #[Value.ref b] below meth c g (xLA u) Q M_L 1390 [some (.ref b), some (.ref (xa (x_ad g ad) 0)), some (.ref (xa (x_ad g ad) 44)), some (.int x)] [] (xw (x_ad g ad) (a2, b2)) 60 7141) : Rv p l e room_1 u m #[Value.ref b] below meth c g (xLA u) Q M_L 1251 [some (.ref b), some (.ref (xa (x_ad g ad) 0)), some (.ref (xa (x_ad g ad) 44)), some (.int x)] [] (xw (x_ad g ad) (a, bb)) 60 7141 := by
  refine v_aload_n hB.1 DL_1251 (i := 1) rfl rfl ?_
  refine v_aload_n hB.1 DL_1252 (i := 0) rfl rfl ?_
  refine v_iload_n hB.1 DL_1253 (i := 3) rfl rfl ?_
  refine v_iconst hB.1 DL_1254 (v := 1) (by decide) ?_
  refine v_iadd hB.1 DL_1255 ?_
  refine v_sld hB DL_1256 h1 ?_
  refine v_aload_n hB.1 DL_1257 (i := 0) rfl rfl ?_
  refine v_iload_n hB.1 DL_1258 (i := 3) rfl rfl ?_
  refine v_iconst hB.1 DL_1259 (v := 2) (by decide) ?_
  refine v_iadd hB.1 DL_1260 ?_
  refine v_sld hB DL_1261 h2 ?_
  refine v_aload_n hB.1 DL_1262 (i := 0) rfl rfl ?_
  refine v_iload_n hB.1 DL_1263 (i := 3) rfl rfl ?_
  refine v_iconst hB.1 DL_1264 (v := 3) (by decide) ?_
  refine v_iadd hB.1 DL_1265 ?_
  refine v_sld hB DL_1266 h3 ?_
  refine v_aload_n hB.1 DL_1267 (i := 0) rfl rfl ?_
  refine v_iload_n hB.1 DL_1268 (i := 3) rfl rfl ?_
  refine v_iconst hB.1 DL_1269 (v := 4) (by decide) ?_
  refine v_iadd hB.1 DL_1270 ?_
  refine v_sld hB DL_1271 h4 ?_
  obtain ⟨r, a2, b2, e1, e2, hI2⟩ := hAll.2.2.2.2.2.2.2.2.2.2.2.2.2.2.2.2.2.2.2.2.2.2.2.2.2.2.2.2.2.2.1 (xs (Int32.toNatClampNeg (x + 1))) (xs (Int32.toNatClampNeg (x + 2))) (xs (Int32.toNatClampNeg (x + 3))) (xs (Int32.toNatClampNeg (x + 4))) a bb hI
  refine v_callEv (As := [.int (xs (Int32.toNatClampNeg (x + 1))), .int (xs (Int32.toNatClampNeg (x + 2))), .int (xs (Int32.toNatClampNeg (x + 3))), .int (xs (Int32.toNatClampNeg (x + 4)))]) (S := []) hB.1 (fun _ h => h) DL_1272 CL_X7_trace (ci := 7) rfl rfl e_0 (by decide) (by decide) (by decide) (by decide) (Nat.le_of_ble_eq_true rfl) (t_X7_trace N (xs (Int32.toNatClampNeg (x + 1))) (xs (Int32.toNatClampNeg (x + 2))) (xs (Int32.toNatClampNeg (x + 3))) (xs (Int32.toNatClampNeg (x + 4))) a e1) rfl rfl ?_
  refine v_aload_n hB.1 DL_1275 (i := 2) rfl rfl ?_
  refine v_aload_n hB.1 DL_1276 (i := 0) rfl rfl ?_
  refine v_iload_n hB.1 DL_1277 (i := 3) rfl rfl ?_
  refine v_iconst hB.1 DL_1278 (v := 1) (by decide) ?_
  refine v_iadd hB.1 DL_1279 ?_
  refine v_sld hB DL_1280 h1 ?_
  refine v_aload_n hB.1 DL_1281 (i := 0) rfl rfl ?_
  refine v_iload_n hB.1 DL_1282 (i := 3) rfl rfl ?_
  refine v_iconst hB.1 DL_1283 (v := 2) (by decide) ?_
  refine v_iadd hB.1 DL_1284 ?_
  refine v_sld hB DL_1285 h2 ?_
  refine v_aload_n hB.1 DL_1286 (i := 0) rfl rfl ?_
  refine v_iload_n hB.1 DL_1287 (i := 3) rfl rfl ?_
  refine v_iconst hB.1 DL_1288 (v := 3) (by decide) ?_
  refine v_iadd hB.1 DL_1289 ?_
  refine v_sld hB DL_1290 h3 ?_
  refine v_aload_n hB.1 DL_1291 (i := 0) rfl rfl ?_
  refine v_iload_n hB.1 DL_1292 (i := 3) rfl rfl ?_
  refine v_iconst hB.1 DL_1293 (v := 4) (by decide) ?_
  refine v_iadd hB.1 DL_1294 ?_
  refine v_sld hB DL_1295 h4 ?_
  refine v_callEv (As := [.int (xs (Int32.toNatClampNeg (x + 1))), .int (xs (Int32.toNatClampNeg (x + 2))), .int (xs (Int32.toNatClampNeg (x + 3))), .int (xs (Int32.toNatClampNeg (x + 4)))]) (S := [.int r]) hB.1 (fun _ h => h) DL_1296 CL_X8_trace (ci := 8) rfl rfl e_44 (by decide) (by decide) (by decide) (by decide) (Nat.le_of_ble_eq_true rfl) (t_X8_trace N (xs (Int32.toNatClampNeg (x + 1))) (xs (Int32.toNatClampNeg (x + 2))) (xs (Int32.toNatClampNeg (x + 3))) (xs (Int32.toNatClampNeg (x + 4))) bb e2) rfl rfl ?_
  refine v_icmp_eq hB.1 DL_1299 (tgt := 1390) (by decide) (fun _ => ?_) (fun c => absurd rfl c)
  exact k a2 b2 hI2
set_option maxRecDepth 100000 in
set_option maxHeartbeats 4000000 in
theorem lc_31 {p : Program} {l : Launch} {e : Env} {u : State} {m : MethodId} {below : List Frame} {meth : Method} {c : Code} {g : xG} {Q : State → Prop} {b Ln N : Nat} {xs : Nat → Int32} {Inv : xT → xT → Prop} {ad : Nat → Nat} (hB : xLw p g u m meth c b Ln xs) (x : Int32) (h1 : vp_in (x + 1) Ln) (h2 : vp_in (x + 2) Ln) (h3 : vp_in (x + 3) Ln) (h4 : vp_in (x + 4) Ln) (h5 : vp_in (x + 5) Ln) (hAll : xAll N Inv) (a bb : xT) (hI : Inv a bb) (k : ∀ a2 b2, Inv a2 b2 → Rv p l e room_1 u m #[Value.ref b] below meth c g (xLA u) Q M_L 1390 [some (.ref b), some (.ref (xa (x_ad g ad) 0)), some (.ref (xa (x_ad g ad) 44)), some (.int x)] [] (xw (x_ad g ad) (a2, b2)) 60 7141) : Rv p l e room_1 u m #[Value.ref b] below meth c g (xLA u) Q M_L 1304 [some (.ref b), some (.ref (xa (x_ad g ad) 0)), some (.ref (xa (x_ad g ad) 44)), some (.int x)] [] (xw (x_ad g ad) (a, bb)) 60 7141 := by
  refine v_aload_n hB.1 DL_1304 (i := 1) rfl rfl ?_
  refine v_aload_n hB.1 DL_1305 (i := 0) rfl rfl ?_
  refine v_iload_n hB.1 DL_1306 (i := 3) rfl rfl ?_
  refine v_iconst hB.1 DL_1307 (v := 1) (by decide) ?_
  refine v_iadd hB.1 DL_1308 ?_
  refine v_sld hB DL_1309 h1 ?_
  refine v_aload_n hB.1 DL_1310 (i := 0) rfl rfl ?_
  refine v_iload_n hB.1 DL_1311 (i := 3) rfl rfl ?_
  refine v_iconst hB.1 DL_1312 (v := 2) (by decide) ?_
  refine v_iadd hB.1 DL_1313 ?_
  refine v_sld hB DL_1314 h2 ?_
  refine v_aload_n hB.1 DL_1315 (i := 0) rfl rfl ?_
  refine v_iload_n hB.1 DL_1316 (i := 3) rfl rfl ?_
  refine v_iconst hB.1 DL_1317 (v := 3) (by decide) ?_
  refine v_iadd hB.1 DL_1318 ?_
  refine v_sld hB DL_1319 h3 ?_
  refine v_aload_n hB.1 DL_1320 (i := 0) rfl rfl ?_
  refine v_iload_n hB.1 DL_1321 (i := 3) rfl rfl ?_
  refine v_iconst hB.1 DL_1322 (v := 4) (by decide) ?_
  refine v_iadd hB.1 DL_1323 ?_
  refine v_sld hB DL_1324 h4 ?_
  obtain ⟨r, a2, b2, e1, e2, hI2⟩ := hAll.2.2.2.2.2.2.2.2.2.2.2.2.2.2.2.2.2.2.2.2.2.2.2.2.2.2.2.2.2.2.2.1 (xs (Int32.toNatClampNeg (x + 1))) (xs (Int32.toNatClampNeg (x + 2))) (xs (Int32.toNatClampNeg (x + 3))) (xs (Int32.toNatClampNeg (x + 4))) a bb hI
  refine v_callEv (As := [.int (xs (Int32.toNatClampNeg (x + 1))), .int (xs (Int32.toNatClampNeg (x + 2))), .int (xs (Int32.toNatClampNeg (x + 3))), .int (xs (Int32.toNatClampNeg (x + 4)))]) (S := []) hB.1 (fun _ h => h) DL_1325 CL_X7_inAll (ci := 7) rfl rfl e_0 (by decide) (by decide) (by decide) (by decide) (Nat.le_of_ble_eq_true rfl) (t_X7_inAll N (xs (Int32.toNatClampNeg (x + 1))) (xs (Int32.toNatClampNeg (x + 2))) (xs (Int32.toNatClampNeg (x + 3))) (xs (Int32.toNatClampNeg (x + 4))) a e1) rfl rfl ?_
  refine v_aload_n hB.1 DL_1328 (i := 2) rfl rfl ?_
  refine v_aload_n hB.1 DL_1329 (i := 0) rfl rfl ?_
  refine v_iload_n hB.1 DL_1330 (i := 3) rfl rfl ?_
  refine v_iconst hB.1 DL_1331 (v := 1) (by decide) ?_
  refine v_iadd hB.1 DL_1332 ?_
  refine v_sld hB DL_1333 h1 ?_
  refine v_aload_n hB.1 DL_1334 (i := 0) rfl rfl ?_
  refine v_iload_n hB.1 DL_1335 (i := 3) rfl rfl ?_
  refine v_iconst hB.1 DL_1336 (v := 2) (by decide) ?_
  refine v_iadd hB.1 DL_1337 ?_
  refine v_sld hB DL_1338 h2 ?_
  refine v_aload_n hB.1 DL_1339 (i := 0) rfl rfl ?_
  refine v_iload_n hB.1 DL_1340 (i := 3) rfl rfl ?_
  refine v_iconst hB.1 DL_1341 (v := 3) (by decide) ?_
  refine v_iadd hB.1 DL_1342 ?_
  refine v_sld hB DL_1343 h3 ?_
  refine v_aload_n hB.1 DL_1344 (i := 0) rfl rfl ?_
  refine v_iload_n hB.1 DL_1345 (i := 3) rfl rfl ?_
  refine v_iconst hB.1 DL_1346 (v := 4) (by decide) ?_
  refine v_iadd hB.1 DL_1347 ?_
  refine v_sld hB DL_1348 h4 ?_
  refine v_callEv (As := [.int (xs (Int32.toNatClampNeg (x + 1))), .int (xs (Int32.toNatClampNeg (x + 2))), .int (xs (Int32.toNatClampNeg (x + 3))), .int (xs (Int32.toNatClampNeg (x + 4)))]) (S := [.int r]) hB.1 (fun _ h => h) DL_1349 CL_X8_inAll (ci := 8) rfl rfl e_44 (by decide) (by decide) (by decide) (by decide) (Nat.le_of_ble_eq_true rfl) (t_X8_inAll N (xs (Int32.toNatClampNeg (x + 1))) (xs (Int32.toNatClampNeg (x + 2))) (xs (Int32.toNatClampNeg (x + 3))) (xs (Int32.toNatClampNeg (x + 4))) bb e2) rfl rfl ?_
  refine v_icmp_eq hB.1 DL_1352 (tgt := 1390) (by decide) (fun _ => ?_) (fun c => absurd rfl c)
  exact k a2 b2 hI2
set_option maxRecDepth 100000 in
set_option maxHeartbeats 4000000 in
theorem lc_32 {p : Program} {l : Launch} {e : Env} {u : State} {m : MethodId} {below : List Frame} {meth : Method} {c : Code} {g : xG} {Q : State → Prop} {b Ln N : Nat} {xs : Nat → Int32} {Inv : xT → xT → Prop} {ad : Nat → Nat} (hB : xLw p g u m meth c b Ln xs) (x : Int32) (h1 : vp_in (x + 1) Ln) (h2 : vp_in (x + 2) Ln) (h3 : vp_in (x + 3) Ln) (h4 : vp_in (x + 4) Ln) (h5 : vp_in (x + 5) Ln) (hAll : xAll N Inv) (a bb : xT) (hI : Inv a bb) (k : ∀ a2 b2, Inv a2 b2 → Rv p l e room_1 u m #[Value.ref b] below meth c g (xLA u) Q M_L 1390 [some (.ref b), some (.ref (xa (x_ad g ad) 0)), some (.ref (xa (x_ad g ad) 44)), some (.int x)] [] (xw (x_ad g ad) (a2, b2)) 60 7141) : Rv p l e room_1 u m #[Value.ref b] below meth c g (xLA u) Q M_L 1357 [some (.ref b), some (.ref (xa (x_ad g ad) 0)), some (.ref (xa (x_ad g ad) 44)), some (.int x)] [] (xw (x_ad g ad) (a, bb)) 60 7141 := by
  refine v_aload_n hB.1 DL_1357 (i := 1) rfl rfl ?_
  refine v_aload_n hB.1 DL_1358 (i := 0) rfl rfl ?_
  refine v_iload_n hB.1 DL_1359 (i := 3) rfl rfl ?_
  refine v_iconst hB.1 DL_1360 (v := 1) (by decide) ?_
  refine v_iadd hB.1 DL_1361 ?_
  refine v_sld hB DL_1362 h1 ?_
  refine v_aload_n hB.1 DL_1363 (i := 0) rfl rfl ?_
  refine v_iload_n hB.1 DL_1364 (i := 3) rfl rfl ?_
  refine v_iconst hB.1 DL_1365 (v := 2) (by decide) ?_
  refine v_iadd hB.1 DL_1366 ?_
  refine v_sld hB DL_1367 h2 ?_
  obtain ⟨r, a2, b2, e1, e2, hI2⟩ := hAll.2.2.2.2.2.2.2.2.2.2.2.2.2.2.2.2.2.2.2.2.2.2.2.2.2.2.2.2.2.2.2.2 (xs (Int32.toNatClampNeg (x + 1))) (xs (Int32.toNatClampNeg (x + 2))) a bb hI
  refine v_callEv (As := [.int (xs (Int32.toNatClampNeg (x + 1))), .int (xs (Int32.toNatClampNeg (x + 2)))]) (S := []) hB.1 (fun _ h => h) DL_1368 CL_X7_framed (ci := 7) rfl rfl e_0 (by decide) (by decide) (by decide) (by decide) (Nat.le_of_ble_eq_true rfl) (t_X7_framed N (xs (Int32.toNatClampNeg (x + 1))) (xs (Int32.toNatClampNeg (x + 2))) a e1) rfl rfl ?_
  refine v_aload_n hB.1 DL_1371 (i := 2) rfl rfl ?_
  refine v_aload_n hB.1 DL_1372 (i := 0) rfl rfl ?_
  refine v_iload_n hB.1 DL_1373 (i := 3) rfl rfl ?_
  refine v_iconst hB.1 DL_1374 (v := 1) (by decide) ?_
  refine v_iadd hB.1 DL_1375 ?_
  refine v_sld hB DL_1376 h1 ?_
  refine v_aload_n hB.1 DL_1377 (i := 0) rfl rfl ?_
  refine v_iload_n hB.1 DL_1378 (i := 3) rfl rfl ?_
  refine v_iconst hB.1 DL_1379 (v := 2) (by decide) ?_
  refine v_iadd hB.1 DL_1380 ?_
  refine v_sld hB DL_1381 h2 ?_
  refine v_callEv (As := [.int (xs (Int32.toNatClampNeg (x + 1))), .int (xs (Int32.toNatClampNeg (x + 2)))]) (S := [.int r]) hB.1 (fun _ h => h) DL_1382 CL_X8_framed (ci := 8) rfl rfl e_44 (by decide) (by decide) (by decide) (by decide) (Nat.le_of_ble_eq_true rfl) (t_X8_framed N (xs (Int32.toNatClampNeg (x + 1))) (xs (Int32.toNatClampNeg (x + 2))) bb e2) rfl rfl ?_
  refine v_icmp_eq hB.1 DL_1385 (tgt := 1390) (by decide) (fun _ => ?_) (fun c => absurd rfl c)
  exact k a2 b2 hI2
theorem x_nadd (i k : Nat) : nI i + nI k = nI (i + k) := nI_add i k
theorem x_head {i Ln : Nat} (hi : i ≤ 4000) (hL : Ln ≤ 4000) (h : ¬ (Int32.ofNat Ln - 6 < nI i)) : i + 6 ≤ Ln := by
  have h1 : (nI Ln - nI 6).toInt = (Ln : Int) - 6 := pk_sub_toInt (by omega) (by decide)
  have h2 : (nI i).toInt = (i : Int) := nI_toInt (by omega)
  have h3 : ¬ ((nI Ln - nI 6).toInt < (nI i).toInt) := fun z => h (Int32.lt_iff_toInt_lt.mpr z)
  rw [h1, h2] at h3
  omega
theorem x_vinA {i k Ln : Nat} (h : i + 6 ≤ Ln) (hk : k < 6) (hL : Ln ≤ 4000) : vp_in (nI i + nI k) Ln := by
  rw [x_nadd]
  exact vp_in_nI (by omega) (by omega)
set_option maxRecDepth 100000 in
set_option maxHeartbeats 4000000 in
theorem law_loop {p : Program} {l : Launch} {e : Env} {u : State} {m : MethodId} {below : List Frame} {meth : Method} {c : Code} {g : xG} {Q : State → Prop} {b Ln N : Nat} {xs : Nat → Int32} {Inv : xT → xT → Prop} {ad : Nat → Nat} (hB : xLw p g u m meth c b Ln xs) (hL : Ln ≤ 3072) (hAll : xAll N Inv) (hQ : Q = lw_Z below #[Value.ref b] u) : ∀ (n i : Nat) (x : Int32) (a bb : xT), x = nI i → i ≤ Ln + 6 → Ln + 7 - i ≤ n → Inv a bb → Rv p l e room_1 u m #[Value.ref b] below meth c g (xLA u) Q M_L 18 [some (.ref b), some (.ref (xa (x_ad g ad) 0)), some (.ref (xa (x_ad g ad) 44)), some (.int x)] [] (xw (x_ad g ad) (a, bb)) 60 7141 := by
  intro n
  induction n with
  | zero => intro i x a bb hx hi hn hI; omega
  | succ n ih =>
    intro i x a bb hx hi hn hI
    refine v_iload_n hB.1 DL_18 (i := 3) rfl rfl ?_
    refine v_aload_n hB.1 DL_19 (i := 0) rfl rfl ?_
    refine v_slen hB DL_20 ?_
    refine v_bipush hB.1 DL_21 (v := 6) (by decide) ?_
    refine v_isub hB.1 DL_23 ?_
    refine v_icmp_gt hB.1 DL_24 (tgt := 1396) (by decide) (fun c0 => ?_) (fun c0 => ?_)
    · refine v_iconst hB.1 DL_1396 (v := 1) (by decide) ?_
      subst hQ
      exact v_lret hB DL_1397 (by decide) (by decide)
    · subst hx
      have hle : i + 6 ≤ Ln := x_head (by omega) (by omega) c0
      have h0 : vp_in (nI i) Ln := vp_in_nI (by omega) (by omega)
      have h1 : vp_in (nI i + 1) Ln := x_vinA (k := 1) hle (by decide) (by omega)
      have h2 : vp_in (nI i + 2) Ln := x_vinA (k := 2) hle (by decide) (by omega)
      have h3 : vp_in (nI i + 3) Ln := x_vinA (k := 3) hle (by decide) (by omega)
      have h4 : vp_in (nI i + 4) Ln := x_vinA (k := 4) hle (by decide) (by omega)
      have h5 : vp_in (nI i + 5) Ln := x_vinA (k := 5) hle (by decide) (by omega)
      generalize hxx : nI i = x at h0 h1 h2 h3 h4 h5 ⊢
      have kend : ∀ a2 b2, Inv a2 b2 → Rv p l e room_1 u m #[Value.ref b] below meth c g (xLA u) Q M_L 1390 [some (.ref b), some (.ref (xa (x_ad g ad) 0)), some (.ref (xa (x_ad g ad) 44)), some (.int x)] [] (xw (x_ad g ad) (a2, b2)) 60 7141 := by
        intro a2 b2 hI2
        refine v_iinc (L' := [some (.ref b), some (.ref (xa (x_ad g ad) 0)), some (.ref (xa (x_ad g ad) 44)), some (.int (x + 6))]) hB.1 DL_1390 (x := x) (v := (x + 6)) rfl rfl (by decide) rfl rfl ?_
        refine v_goto hB.1 DL_1393 (tgt := 18) (by decide) ?_
        exact ih (i + 6) (x + 6) a2 b2 (by rw [← hxx]; exact x_nadd i 6) (by omega) (by omega) hI2
      refine v_aload_n hB.1 DL_27 (i := 0) rfl rfl ?_
      refine v_iload_n hB.1 DL_28 (i := 3) rfl rfl ?_
      refine v_sld hB DL_29 h0 ?_
      refine v_bipush hB.1 DL_30 (v := 63) (by decide) ?_
      refine v_iand hB.1 DL_32 ?_
      generalize xs (Int32.toNatClampNeg x) &&& 63 = y
      by_cases hy : y.toInt < 0 ∨ 32 < y.toInt
      · exact v_tsOutL hB hy (kend a bb hI)
      obtain ⟨j, hj, rfl⟩ : ∃ j : Nat, j < 33 ∧ y = nI j := by
        refine ⟨y.toInt.toNat, by omega, ?_⟩
        apply Int32.toInt_inj.mp
        rw [nI_toInt (by omega)]
        omega
      rcases (show j = 0 ∨ j = 1 ∨ j = 2 ∨ j = 3 ∨ j = 4 ∨ j = 5 ∨ j = 6 ∨ j = 7 ∨ j = 8 ∨ j = 9 ∨ j = 10 ∨ j = 11 ∨ j = 12 ∨ j = 13 ∨ j = 14 ∨ j = 15 ∨ j = 16 ∨ j = 17 ∨ j = 18 ∨ j = 19 ∨ j = 20 ∨ j = 21 ∨ j = 22 ∨ j = 23 ∨ j = 24 ∨ j = 25 ∨ j = 26 ∨ j = 27 ∨ j = 28 ∨ j = 29 ∨ j = 30 ∨ j = 31 ∨ j = 32 by omega) with rfl | rfl | rfl | rfl | rfl | rfl | rfl | rfl | rfl | rfl | rfl | rfl | rfl | rfl | rfl | rfl | rfl | rfl | rfl | rfl | rfl | rfl | rfl | rfl | rfl | rfl | rfl | rfl | rfl | rfl | rfl | rfl | rfl
      · refine v_tsIn hB.1 DL_33 (tgt := 180) (by decide) (by decide) (by rfl) (by decide) ?_
        exact lc_0 hB x h1 h2 h3 h4 h5 hAll a bb hI kend
      · refine v_tsIn hB.1 DL_33 (tgt := 203) (by decide) (by decide) (by rfl) (by decide) ?_
        exact lc_1 hB x h1 h2 h3 h4 h5 hAll a bb hI kend
      · refine v_tsIn hB.1 DL_33 (tgt := 246) (by decide) (by decide) (by rfl) (by decide) ?_
        exact lc_2 hB x h1 h2 h3 h4 h5 hAll a bb hI kend
      · refine v_tsIn hB.1 DL_33 (tgt := 269) (by decide) (by decide) (by rfl) (by decide) ?_
        exact lc_3 hB x h1 h2 h3 h4 h5 hAll a bb hI kend
      · refine v_tsIn hB.1 DL_33 (tgt := 292) (by decide) (by decide) (by rfl) (by decide) ?_
        exact lc_4 hB x h1 h2 h3 h4 h5 hAll a bb hI kend
      · refine v_tsIn hB.1 DL_33 (tgt := 335) (by decide) (by decide) (by rfl) (by decide) ?_
        exact lc_5 hB x h1 h2 h3 h4 h5 hAll a bb hI kend
      · refine v_tsIn hB.1 DL_33 (tgt := 378) (by decide) (by decide) (by rfl) (by decide) ?_
        exact lc_6 hB x h1 h2 h3 h4 h5 hAll a bb hI kend
      · refine v_tsIn hB.1 DL_33 (tgt := 401) (by decide) (by decide) (by rfl) (by decide) ?_
        exact lc_7 hB x h1 h2 h3 h4 h5 hAll a bb hI kend
      · refine v_tsIn hB.1 DL_33 (tgt := 434) (by decide) (by decide) (by rfl) (by decide) ?_
        exact lc_8 hB x h1 h2 h3 h4 h5 hAll a bb hI kend
      · refine v_tsIn hB.1 DL_33 (tgt := 467) (by decide) (by decide) (by rfl) (by decide) ?_
        exact lc_9 hB x h1 h2 h3 h4 h5 hAll a bb hI kend
      · refine v_tsIn hB.1 DL_33 (tgt := 490) (by decide) (by decide) (by rfl) (by decide) ?_
        exact lc_10 hB x h1 h2 h3 h4 h5 hAll a bb hI kend
      · refine v_tsIn hB.1 DL_33 (tgt := 523) (by decide) (by decide) (by rfl) (by decide) ?_
        exact lc_11 hB x h1 h2 h3 h4 h5 hAll a bb hI kend
      · refine v_tsIn hB.1 DL_33 (tgt := 556) (by decide) (by decide) (by rfl) (by decide) ?_
        exact lc_12 hB x h1 h2 h3 h4 h5 hAll a bb hI kend
      · refine v_tsIn hB.1 DL_33 (tgt := 599) (by decide) (by decide) (by rfl) (by decide) ?_
        exact lc_13 hB x h1 h2 h3 h4 h5 hAll a bb hI kend
      · refine v_tsIn hB.1 DL_33 (tgt := 632) (by decide) (by decide) (by rfl) (by decide) ?_
        exact lc_14 hB x h1 h2 h3 h4 h5 hAll a bb hI kend
      · refine v_tsIn hB.1 DL_33 (tgt := 645) (by decide) (by decide) (by rfl) (by decide) ?_
        exact lc_15 hB x h1 h2 h3 h4 h5 hAll a bb hI kend
      · refine v_tsIn hB.1 DL_33 (tgt := 698) (by decide) (by decide) (by rfl) (by decide) ?_
        exact lc_16 hB x h1 h2 h3 h4 h5 hAll a bb hI kend
      · refine v_tsIn hB.1 DL_33 (tgt := 741) (by decide) (by decide) (by rfl) (by decide) ?_
        exact lc_17 hB x h1 h2 h3 h4 h5 hAll a bb hI kend
      · refine v_tsIn hB.1 DL_33 (tgt := 784) (by decide) (by decide) (by rfl) (by decide) ?_
        exact lc_18 hB x h1 h2 h3 h4 h5 hAll a bb hI kend
      · refine v_tsIn hB.1 DL_33 (tgt := 817) (by decide) (by decide) (by rfl) (by decide) ?_
        exact lc_19 hB x h1 h2 h3 h4 h5 hAll a bb hI kend
      · refine v_tsIn hB.1 DL_33 (tgt := 860) (by decide) (by decide) (by rfl) (by decide) ?_
        exact lc_20 hB x h1 h2 h3 h4 h5 hAll a bb hI kend
      · refine v_tsIn hB.1 DL_33 (tgt := 923) (by decide) (by decide) (by rfl) (by decide) ?_
        exact lc_21 hB x h1 h2 h3 h4 h5 hAll a bb hI kend
      · refine v_tsIn hB.1 DL_33 (tgt := 946) (by decide) (by decide) (by rfl) (by decide) ?_
        exact lc_22 hB x h1 h2 h3 h4 h5 hAll a bb hI kend
      · refine v_tsIn hB.1 DL_33 (tgt := 959) (by decide) (by decide) (by rfl) (by decide) ?_
        exact lc_23 hB x h1 h2 h3 h4 h5 hAll a bb hI kend
      · refine v_tsIn hB.1 DL_33 (tgt := 982) (by decide) (by decide) (by rfl) (by decide) ?_
        exact lc_24 hB x h1 h2 h3 h4 h5 hAll a bb hI kend
      · refine v_tsIn hB.1 DL_33 (tgt := 1035) (by decide) (by decide) (by rfl) (by decide) ?_
        exact lc_25 hB x h1 h2 h3 h4 h5 hAll a bb hI kend
      · refine v_tsIn hB.1 DL_33 (tgt := 1068) (by decide) (by decide) (by rfl) (by decide) ?_
        exact lc_26 hB x h1 h2 h3 h4 h5 hAll a bb hI kend
      · refine v_tsIn hB.1 DL_33 (tgt := 1102) (by decide) (by decide) (by rfl) (by decide) ?_
        exact lc_27 hB x h1 h2 h3 h4 h5 hAll a bb hI kend
      · refine v_tsIn hB.1 DL_33 (tgt := 1135) (by decide) (by decide) (by rfl) (by decide) ?_
        exact lc_28 hB x h1 h2 h3 h4 h5 hAll a bb hI kend
      · refine v_tsIn hB.1 DL_33 (tgt := 1188) (by decide) (by decide) (by rfl) (by decide) ?_
        exact lc_29 hB x h1 h2 h3 h4 h5 hAll a bb hI kend
      · refine v_tsIn hB.1 DL_33 (tgt := 1251) (by decide) (by decide) (by rfl) (by decide) ?_
        exact lc_30 hB x h1 h2 h3 h4 h5 hAll a bb hI kend
      · refine v_tsIn hB.1 DL_33 (tgt := 1304) (by decide) (by decide) (by rfl) (by decide) ?_
        exact lc_31 hB x h1 h2 h3 h4 h5 hAll a bb hI kend
      · refine v_tsIn hB.1 DL_33 (tgt := 1357) (by decide) (by decide) (by rfl) (by decide) ?_
        exact lc_32 hB x h1 h2 h3 h4 h5 hAll a bb hI kend
